
def f_X12_fly_108 (N : Nat) (S : yS) (l1 : Int32) : Option (Int32 × yS) := bS (f_X12_forced N S l1) fun w1 S1 => some (0, S1)
set_option maxHeartbeats 4000000 in
set_option maxRecDepth 40000 in
theorem w_X12_fly_108 {F : xH} {ev : xEv} {prim : xRel} {d sz : Nat} {T : yT} {v : Int32} {S' : yS} (N : Nat) (S : yS) (l1 : Int32) (hp : xH) (lv : xLv) (a0 : Nat) (fa0 : yAt T 12 8 0 a0) (g0 : xG lv 0 = some (.ref a0)) (g1 : xG lv 1 = some (.int l1)) (hM : cR [8] F ev T S hp) (h : f_X12_fly_108 N S l1 = some (v, S')) : yWE ev.2.1 (xstr ev) (xCalls ev xmi (xprog ev) prim (d + 406)) (pX12_fly ev) (108, lv, [], hp, sz, 0) (ypQ [8] F ev T sz (none) S') := by
  unfold f_X12_fly_108 at h
  refine ye_aload rfl g0 ?_
  refine ye_iload rfl g1 ?_
  obtain ⟨w1, S1, hw1, h⟩ := bS_some h
  obtain ⟨y1, cy1, M1⟩ := (m_X12_forced (d := d + 403) (T := T) N S l1 a0 fa0 hw1) hp sz hM
  refine ye_callV (As := [.int l1]) (rest := []) 0 (Or.inl rfl) rfl rfl rfl (Nat.le_of_ble_eq_true rfl) (hM.obj fa0 ⟨rfl, rfl⟩) cy1 ?_
  exact ye_ret rfl rfl (rQV h M1)

def f_X12_fly_462 (N : Nat) (S : yS) : Option (Int32 × yS) := some (0, S)
set_option maxHeartbeats 4000000 in
set_option maxRecDepth 40000 in
theorem w_X12_fly_462 {F : xH} {ev : xEv} {prim : xRel} {d sz : Nat} {T : yT} {v : Int32} {S' : yS} (N : Nat) (S : yS) (hp : xH) (lv : xLv) (hM : cR [8] F ev T S hp) (h : f_X12_fly_462 N S = some (v, S')) : yWE ev.2.1 (xstr ev) (xCalls ev xmi (xprog ev) prim (d + 406)) (pX12_fly ev) (462, lv, [], hp, sz, 0) (ypQ [8] F ev T sz (none) S') := by
  unfold f_X12_fly_462 at h
  exact ye_ret rfl rfl (rQV h hM)

def f_X12_fly_454 (N : Nat) (S : yS) (l1 : Int32) (l10 : Int32) : Option (Int32 × yS) := bS (f_X12_plane2 N S l1 2 l10) fun w1 S1 => f_X12_fly_462 N S1
set_option maxHeartbeats 4000000 in
set_option maxRecDepth 40000 in
theorem w_X12_fly_454 {F : xH} {ev : xEv} {prim : xRel} {d sz : Nat} {T : yT} {v : Int32} {S' : yS} (N : Nat) (S : yS) (l1 : Int32) (l10 : Int32) (hp : xH) (lv : xLv) (a0 : Nat) (fa0 : yAt T 12 8 0 a0) (g0 : xG lv 0 = some (.ref a0)) (g1 : xG lv 1 = some (.int l1)) (g10 : xG lv 10 = some (.int l10)) (hM : cR [8] F ev T S hp) (h : f_X12_fly_454 N S l1 l10 = some (v, S')) : yWE ev.2.1 (xstr ev) (xCalls ev xmi (xprog ev) prim (d + 406)) (pX12_fly ev) (454, lv, [], hp, sz, 0) (ypQ [8] F ev T sz (none) S') := by
  unfold f_X12_fly_454 at h
  refine ye_aload rfl g0 ?_
  refine ye_iload rfl g1 ?_
  refine ye_p rfl rfl ?_
  refine ye_iload rfl g10 ?_
  obtain ⟨w1, S1, hw1, h⟩ := bS_some h
  obtain ⟨y1, cy1, M1⟩ := (m_X12_plane2 (d := d + 405) (T := T) N S l1 2 l10 a0 fa0 hw1) hp sz hM
  refine ye_callV (As := [.int l1, .int 2, .int l10]) (rest := []) 0 (Or.inl rfl) rfl rfl rfl (Nat.le_of_ble_eq_true rfl) (hM.obj fa0 ⟨rfl, rfl⟩) cy1 ?_
  exact w_X12_fly_462 (prim := prim) (d := d) N S1 y1 lv M1 h

def f_X12_fly_430 (N : Nat) (S : yS) (l1 : Int32) (l2 : Int32) (l4 : Int32) (l10 : Int32) : Option (Int32 × yS) := if ¬ l4 = 0 then f_X12_fly_454 N S l1 l10 else if 0 < l10 then f_X12_fly_454 N S l1 l10 else gA 12 l2 fun j1 => bS (f_X12_land N S l1 (S.2.1 8 2 j1)) fun w1 S1 => f_X12_fly_462 N S1
set_option maxHeartbeats 4000000 in
set_option maxRecDepth 40000 in
theorem w_X12_fly_430 {F : xH} {ev : xEv} {prim : xRel} {d sz : Nat} {T : yT} {v : Int32} {S' : yS} (N : Nat) (S : yS) (l1 : Int32) (l2 : Int32) (l4 : Int32) (l10 : Int32) (hp : xH) (lv : xLv) (a0 : Nat) (fa0 : yAt T 12 8 0 a0) (g0 : xG lv 0 = some (.ref a0)) (g1 : xG lv 1 = some (.int l1)) (g2 : xG lv 2 = some (.int l2)) (g4 : xG lv 4 = some (.int l4)) (g10 : xG lv 10 = some (.int l10)) (hM : cR [8] F ev T S hp) (h : f_X12_fly_430 N S l1 l2 l4 l10 = some (v, S')) : yWE ev.2.1 (xstr ev) (xCalls ev xmi (xprog ev) prim (d + 406)) (pX12_fly ev) (430, lv, [], hp, sz, 0) (ypQ [8] F ev T sz (none) S') := by
  unfold f_X12_fly_430 at h
  refine ye_iload rfl g4 ?_
  refine ye_if_ne rfl (fun h1 => ?_) (fun h1 => ?_)
  · replace h := yiT h1 h
    exact w_X12_fly_454 (prim := prim) (d := d) N S l1 l10 hp lv a0 fa0 g0 g1 g10 hM h
  · replace h := yiN h1 h
    refine ye_iload rfl g10 ?_
    refine ye_if_gt rfl (fun h2 => ?_) (fun h2 => ?_)
    · replace h := yiT h2 h
      exact w_X12_fly_454 (prim := prim) (d := d) N S l1 l10 hp lv a0 fa0 g0 g1 g10 hM h
    · replace h := yiN h2 h
      refine ye_aload rfl g0 ?_
      refine ye_iload rfl g1 ?_
      refine ye_aload rfl g0 ?_
      refine ye_getr rfl (hM.obj fa0 ⟨rfl, rfl⟩) rfl (fun cx1 ecx1 => ?_)
      have fcx1 := yAt.row fa0 ecx1
      refine ye_iload rfl g2 ?_
      obtain ⟨j1, ej1, ij1, h⟩ := gA_some h
      refine yj_ald rfl (hM.arr fcx1 yr_12_2) ij1 ej1 ?_
      obtain ⟨w1, S1, hw1, h⟩ := bS_some h
      obtain ⟨y1, cy1, M1⟩ := (m_X12_land (d := d + 401) (T := T) N S l1 (S.2.1 8 2 j1) a0 fa0 hw1) hp sz hM
      refine ye_callV (As := [.int l1, .int (S.2.1 8 2 j1)]) (rest := []) 0 (Or.inl rfl) rfl rfl rfl (Nat.le_of_ble_eq_true rfl) (hM.obj fa0 ⟨rfl, rfl⟩) cy1 ?_
      refine ye_p rfl rfl ?_
      exact w_X12_fly_462 (prim := prim) (d := d) N S1 y1 lv M1 h

def f_X12_fly_398 (N : Nat) (S : yS) (l1 : Int32) (l2 : Int32) (l4 : Int32) (t0 : Int32) : Option (Int32 × yS) := if l4 = 0 then f_X12_fly_430 N S l1 l2 l4 t0 else gA 12 l2 fun j1 => if t0 < (S.2.1 8 4 j1) then f_X12_fly_430 N S l1 l2 l4 t0 else gA 12 l2 fun j2 => bS (f_X12_land N S l1 (S.2.1 8 3 j2)) fun w1 S1 => f_X12_fly_462 N S1
set_option maxHeartbeats 4000000 in
set_option maxRecDepth 40000 in
theorem w_X12_fly_398 {F : xH} {ev : xEv} {prim : xRel} {d sz : Nat} {T : yT} {v : Int32} {S' : yS} (N : Nat) (S : yS) (l1 : Int32) (l2 : Int32) (l4 : Int32) (t0 : Int32) (hp : xH) (lv : xLv) (a0 : Nat) (fa0 : yAt T 12 8 0 a0) (g0 : xG lv 0 = some (.ref a0)) (g1 : xG lv 1 = some (.int l1)) (g2 : xG lv 2 = some (.int l2)) (g4 : xG lv 4 = some (.int l4)) (hM : cR [8] F ev T S hp) (h : f_X12_fly_398 N S l1 l2 l4 t0 = some (v, S')) : yWE ev.2.1 (xstr ev) (xCalls ev xmi (xprog ev) prim (d + 406)) (pX12_fly ev) (398, lv, [.int t0], hp, sz, 0) (ypQ [8] F ev T sz (none) S') := by
  unfold f_X12_fly_398 at h
  refine ye_p rfl rfl ?_
  have g0_z1 := xG_o1 (i := 10) (v := .int t0) g0 rfl
  have g1_z1 := xG_o1 (i := 10) (v := .int t0) g1 rfl
  have g2_z1 := xG_o1 (i := 10) (v := .int t0) g2 rfl
  have g4_z1 := xG_o1 (i := 10) (v := .int t0) g4 rfl
  have g10_z1 := xG_same lv 10 (.int t0)
  generalize xSt1 lv 10 (.int t0) = lvz1 at g0_z1 g1_z1 g2_z1 g4_z1 g10_z1 ⊢
  refine ye_iload rfl g4_z1 ?_
  refine ye_if_eq rfl (fun h1 => ?_) (fun h1 => ?_)
  · replace h := yiT h1 h
    exact w_X12_fly_430 (prim := prim) (d := d) N S l1 l2 l4 t0 hp lvz1 a0 fa0 g0_z1 g1_z1 g2_z1 g4_z1 g10_z1 hM h
  · replace h := yiN h1 h
    refine ye_iload rfl g10_z1 ?_
    refine ye_aload rfl g0_z1 ?_
    refine ye_getr rfl (hM.obj fa0 ⟨rfl, rfl⟩) rfl (fun cx1 ecx1 => ?_)
    have fcx1 := yAt.row fa0 ecx1
    refine ye_iload rfl g2_z1 ?_
    obtain ⟨j1, ej1, ij1, h⟩ := gA_some h
    refine yj_ald rfl (hM.arr fcx1 yr_12_4) ij1 ej1 ?_
    refine ye_icmp_lt rfl (fun h2 => ?_) (fun h2 => ?_)
    · replace h := yiT h2 h
      exact w_X12_fly_430 (prim := prim) (d := d) N S l1 l2 l4 t0 hp lvz1 a0 fa0 g0_z1 g1_z1 g2_z1 g4_z1 g10_z1 hM h
    · replace h := yiN h2 h
      refine ye_aload rfl g0_z1 ?_
      refine ye_iload rfl g1_z1 ?_
      refine ye_aload rfl g0_z1 ?_
      refine ye_getr rfl (hM.obj fa0 ⟨rfl, rfl⟩) rfl (fun cx2 ecx2 => ?_)
      have fcx2 := yAt.row fa0 ecx2
      refine ye_iload rfl g2_z1 ?_
      obtain ⟨j2, ej2, ij2, h⟩ := gA_some h
      refine yj_ald rfl (hM.arr fcx2 yr_12_3) ij2 ej2 ?_
      obtain ⟨w1, S1, hw1, h⟩ := bS_some h
      obtain ⟨y1, cy1, M1⟩ := (m_X12_land (d := d + 401) (T := T) N S l1 (S.2.1 8 3 j2) a0 fa0 hw1) hp sz hM
      refine ye_callV (As := [.int l1, .int (S.2.1 8 3 j2)]) (rest := []) 0 (Or.inl rfl) rfl rfl rfl (Nat.le_of_ble_eq_true rfl) (hM.obj fa0 ⟨rfl, rfl⟩) cy1 ?_
      refine ye_p rfl rfl ?_
      exact w_X12_fly_462 (prim := prim) (d := d) N S1 y1 lvz1 M1 h

def f_X12_fly_374 (N : Nat) (S : yS) (l1 : Int32) (l2 : Int32) (l4 : Int32) (l5 : Int32) (t0 : Int32) (t1 : Int32) (t2 : Int32) : Option (Int32 × yS) := if l4 = 0 then f_X12_fly_398 N S l1 l2 l4 (l5 - (if t0 < (t1 + t2) then (t1 + t2) else t0)) else f_X12_fly_398 N S l1 l2 l4 (l5 + (if t0 < (t1 + t2) then (t1 + t2) else t0))
set_option maxHeartbeats 4000000 in
set_option maxRecDepth 40000 in
theorem w_X12_fly_374 {F : xH} {ev : xEv} {prim : xRel} {d sz : Nat} {T : yT} {v : Int32} {S' : yS} (N : Nat) (S : yS) (l1 : Int32) (l2 : Int32) (l4 : Int32) (l5 : Int32) (t0 : Int32) (t1 : Int32) (t2 : Int32) (hp : xH) (lv : xLv) (a0 : Nat) (fa0 : yAt T 12 8 0 a0) (g0 : xG lv 0 = some (.ref a0)) (g1 : xG lv 1 = some (.int l1)) (g2 : xG lv 2 = some (.int l2)) (g4 : xG lv 4 = some (.int l4)) (g5 : xG lv 5 = some (.int l5)) (hM : cR [8] F ev T S hp) (h : f_X12_fly_374 N S l1 l2 l4 l5 t0 t1 t2 = some (v, S')) : yWE ev.2.1 (xstr ev) (xCalls ev xmi (xprog ev) prim (d + 406)) (pX12_fly ev) (374, lv, [.int t2, .int t1, .int t0], hp, sz, 0) (ypQ [8] F ev T sz (none) S') := by
  unfold f_X12_fly_374 at h
  refine ye_p rfl rfl ?_
  refine ye_p rfl rfl ?_
  refine ye_p rfl rfl ?_
  have g0_z1 := xG_o1 (i := 9) (v := .int (if t0 < (t1 + t2) then (t1 + t2) else t0)) g0 rfl
  have g1_z1 := xG_o1 (i := 9) (v := .int (if t0 < (t1 + t2) then (t1 + t2) else t0)) g1 rfl
  have g2_z1 := xG_o1 (i := 9) (v := .int (if t0 < (t1 + t2) then (t1 + t2) else t0)) g2 rfl
  have g4_z1 := xG_o1 (i := 9) (v := .int (if t0 < (t1 + t2) then (t1 + t2) else t0)) g4 rfl
  have g5_z1 := xG_o1 (i := 9) (v := .int (if t0 < (t1 + t2) then (t1 + t2) else t0)) g5 rfl
  have g9_z1 := xG_same lv 9 (.int (if t0 < (t1 + t2) then (t1 + t2) else t0))
  generalize xSt1 lv 9 (.int (if t0 < (t1 + t2) then (t1 + t2) else t0)) = lvz1 at g0_z1 g1_z1 g2_z1 g4_z1 g5_z1 g9_z1 ⊢
  refine ye_iload rfl g4_z1 ?_
  refine ye_if_eq rfl (fun h1 => ?_) (fun h1 => ?_)
  · replace h := yiT h1 h
    refine ye_iload rfl g5_z1 ?_
    refine ye_iload rfl g9_z1 ?_
    refine ye_p rfl rfl ?_
    exact w_X12_fly_398 (prim := prim) (d := d) N S l1 l2 l4 (l5 - (if t0 < (t1 + t2) then (t1 + t2) else t0)) hp lvz1 a0 fa0 g0_z1 g1_z1 g2_z1 g4_z1 hM h
  · replace h := yiN h1 h
    refine ye_iload rfl g5_z1 ?_
    refine ye_iload rfl g9_z1 ?_
    refine ye_p rfl rfl ?_
    refine ye_p rfl rfl ?_
    exact w_X12_fly_398 (prim := prim) (d := d) N S l1 l2 l4 (l5 + (if t0 < (t1 + t2) then (t1 + t2) else t0)) hp lvz1 a0 fa0 g0_z1 g1_z1 g2_z1 g4_z1 hM h

def f_X12_fly_354 (N : Nat) (S : yS) (l1 : Int32) (l2 : Int32) (l4 : Int32) (l5 : Int32) (l7 : Int32) : Option (Int32 × yS) := gA 8 l1 fun j1 => if l4 = 0 then f_X12_fly_374 N S l1 l2 l4 l5 1 (S.2.1 8 16 j1) (-l7) else f_X12_fly_374 N S l1 l2 l4 l5 1 (S.2.1 8 16 j1) l7
set_option maxHeartbeats 4000000 in
set_option maxRecDepth 40000 in
theorem w_X12_fly_354 {F : xH} {ev : xEv} {prim : xRel} {d sz : Nat} {T : yT} {v : Int32} {S' : yS} (N : Nat) (S : yS) (l1 : Int32) (l2 : Int32) (l4 : Int32) (l5 : Int32) (l7 : Int32) (hp : xH) (lv : xLv) (a0 : Nat) (fa0 : yAt T 12 8 0 a0) (g0 : xG lv 0 = some (.ref a0)) (g1 : xG lv 1 = some (.int l1)) (g2 : xG lv 2 = some (.int l2)) (g4 : xG lv 4 = some (.int l4)) (g5 : xG lv 5 = some (.int l5)) (g7 : xG lv 7 = some (.int l7)) (hM : cR [8] F ev T S hp) (h : f_X12_fly_354 N S l1 l2 l4 l5 l7 = some (v, S')) : yWE ev.2.1 (xstr ev) (xCalls ev xmi (xprog ev) prim (d + 406)) (pX12_fly ev) (354, lv, [], hp, sz, 0) (ypQ [8] F ev T sz (none) S') := by
  unfold f_X12_fly_354 at h
  refine ye_p rfl rfl ?_
  refine ye_aload rfl g0 ?_
  refine ye_getr rfl (hM.obj fa0 ⟨rfl, rfl⟩) rfl (fun cx1 ecx1 => ?_)
  have fcx1 := yAt.row fa0 ecx1
  refine ye_iload rfl g1 ?_
  obtain ⟨j1, ej1, ij1, h⟩ := gA_some h
  refine yj_ald rfl (hM.arr fcx1 yr_12_16) ij1 ej1 ?_
  refine ye_iload rfl g4 ?_
  refine ye_if_eq rfl (fun h1 => ?_) (fun h1 => ?_)
  · replace h := yiT h1 h
    refine ye_iload rfl g7 ?_
    refine ye_p rfl rfl ?_
    exact w_X12_fly_374 (prim := prim) (d := d) N S l1 l2 l4 l5 1 (S.2.1 8 16 j1) (-l7) hp lv a0 fa0 g0 g1 g2 g4 g5 hM h
  · replace h := yiN h1 h
    refine ye_iload rfl g7 ?_
    refine ye_p rfl rfl ?_
    exact w_X12_fly_374 (prim := prim) (d := d) N S l1 l2 l4 l5 1 (S.2.1 8 16 j1) l7 hp lv a0 fa0 g0 g1 g2 g4 g5 hM h

def f_X12_fly_324 (N : Nat) (S : yS) (l1 : Int32) (l2 : Int32) (l3 : Int32) (l4 : Int32) (l5 : Int32) (l6 : Int32) (l7 : Int32) : Option (Int32 × yS) := gA 12 l2 fun j1 => if (S.2.1 8 5 j1) ≤ l6 then f_X12_fly_354 N S l1 l2 l4 l5 l7 else bV (f_X12_pilotOf N S l3 3) fun w1 => if ¬ ((w1 >>> (l2 &&& 31)) &&& 1) = 0 then f_X12_fly_354 N S l1 l2 l4 l5 l7 else bS (f_X12_forced N S l1) fun w2 S1 => some (0, S1)
set_option maxHeartbeats 4000000 in
set_option maxRecDepth 40000 in
theorem w_X12_fly_324 {F : xH} {ev : xEv} {prim : xRel} {d sz : Nat} {T : yT} {v : Int32} {S' : yS} (N : Nat) (S : yS) (l1 : Int32) (l2 : Int32) (l3 : Int32) (l4 : Int32) (l5 : Int32) (l6 : Int32) (l7 : Int32) (hp : xH) (lv : xLv) (a0 : Nat) (fa0 : yAt T 12 8 0 a0) (g0 : xG lv 0 = some (.ref a0)) (g1 : xG lv 1 = some (.int l1)) (g2 : xG lv 2 = some (.int l2)) (g3 : xG lv 3 = some (.int l3)) (g4 : xG lv 4 = some (.int l4)) (g5 : xG lv 5 = some (.int l5)) (g6 : xG lv 6 = some (.int l6)) (g7 : xG lv 7 = some (.int l7)) (hM : cR [8] F ev T S hp) (h : f_X12_fly_324 N S l1 l2 l3 l4 l5 l6 l7 = some (v, S')) : yWE ev.2.1 (xstr ev) (xCalls ev xmi (xprog ev) prim (d + 406)) (pX12_fly ev) (324, lv, [], hp, sz, 0) (ypQ [8] F ev T sz (none) S') := by
  unfold f_X12_fly_324 at h
  refine ye_iload rfl g6 ?_
  refine ye_aload rfl g0 ?_
  refine ye_getr rfl (hM.obj fa0 ⟨rfl, rfl⟩) rfl (fun cx1 ecx1 => ?_)
  have fcx1 := yAt.row fa0 ecx1
  refine ye_iload rfl g2 ?_
  obtain ⟨j1, ej1, ij1, h⟩ := gA_some h
  refine yj_ald rfl (hM.arr fcx1 yr_12_5) ij1 ej1 ?_
  refine ye_icmp_ge rfl (fun h1 => ?_) (fun h1 => ?_)
  · replace h := yiT h1 h
    exact w_X12_fly_354 (prim := prim) (d := d) N S l1 l2 l4 l5 l7 hp lv a0 fa0 g0 g1 g2 g4 g5 g7 hM h
  · replace h := yiN h1 h
    refine ye_aload rfl g0 ?_
    refine ye_iload rfl g3 ?_
    refine ye_p rfl rfl ?_
    obtain ⟨w1, hw1, h⟩ := bV_some h
    refine ye_callV (As := [.int l3, .int 3]) (rest := []) 0 (Or.inl rfl) rfl rfl rfl (Nat.le_of_ble_eq_true rfl) (hM.obj fa0 ⟨rfl, rfl⟩) ((m_X12_pilotOf (d := d + 405) (T := T) N S l3 3 a0 fa0 hw1) hp sz hM) ?_
    refine ye_iload rfl g2 ?_
    refine ye_p rfl rfl ?_
    refine ye_p rfl rfl ?_
    refine ye_p rfl rfl ?_
    refine ye_if_ne rfl (fun h2 => ?_) (fun h2 => ?_)
    · replace h := yiT h2 h
      exact w_X12_fly_354 (prim := prim) (d := d) N S l1 l2 l4 l5 l7 hp lv a0 fa0 g0 g1 g2 g4 g5 g7 hM h
    · replace h := yiN h2 h
      refine ye_aload rfl g0 ?_
      refine ye_iload rfl g1 ?_
      obtain ⟨w2, S1, hw2, h⟩ := bS_some h
      obtain ⟨y1, cy1, M1⟩ := (m_X12_forced (d := d + 403) (T := T) N S l1 a0 fa0 hw2) hp sz hM
      refine ye_callV (As := [.int l1]) (rest := []) 0 (Or.inl rfl) rfl rfl rfl (Nat.le_of_ble_eq_true rfl) (hM.obj fa0 ⟨rfl, rfl⟩) cy1 ?_
      exact ye_ret rfl rfl (rQV h M1)

def f_X12_fly_321 (N : Nat) (S : yS) (l1 : Int32) (l2 : Int32) (l3 : Int32) (l4 : Int32) (l5 : Int32) (l6 : Int32) (l7 : Int32) (t1 : Int32) (t2 : Int32) (t3 : Int32) : Option (Int32 × yS) := bS (f_X12_plane2 N S t1 t2 t3) fun w1 S1 => f_X12_fly_324 N S1 l1 l2 l3 l4 l5 l6 l7
set_option maxHeartbeats 4000000 in
set_option maxRecDepth 40000 in
theorem w_X12_fly_321 {F : xH} {ev : xEv} {prim : xRel} {d sz : Nat} {T : yT} {v : Int32} {S' : yS} (N : Nat) (S : yS) (l1 : Int32) (l2 : Int32) (l3 : Int32) (l4 : Int32) (l5 : Int32) (l6 : Int32) (l7 : Int32) (t1 : Int32) (t2 : Int32) (t3 : Int32) (hp : xH) (lv : xLv) (a0 : Nat) (b0 : Nat) (fa0 : yAt T 12 8 0 a0) (fb0 : yAt T 12 8 0 b0) (g0 : xG lv 0 = some (.ref a0)) (g1 : xG lv 1 = some (.int l1)) (g2 : xG lv 2 = some (.int l2)) (g3 : xG lv 3 = some (.int l3)) (g4 : xG lv 4 = some (.int l4)) (g5 : xG lv 5 = some (.int l5)) (g6 : xG lv 6 = some (.int l6)) (g7 : xG lv 7 = some (.int l7)) (hM : cR [8] F ev T S hp) (h : f_X12_fly_321 N S l1 l2 l3 l4 l5 l6 l7 t1 t2 t3 = some (v, S')) : yWE ev.2.1 (xstr ev) (xCalls ev xmi (xprog ev) prim (d + 406)) (pX12_fly ev) (321, lv, [.int t3, .int t2, .int t1, .ref b0], hp, sz, 0) (ypQ [8] F ev T sz (none) S') := by
  unfold f_X12_fly_321 at h
  obtain ⟨w1, S1, hw1, h⟩ := bS_some h
  obtain ⟨y1, cy1, M1⟩ := (m_X12_plane2 (d := d + 405) (T := T) N S t1 t2 t3 b0 fb0 hw1) hp sz hM
  refine ye_callV (As := [.int t1, .int t2, .int t3]) (rest := []) 0 (Or.inl rfl) rfl rfl rfl (Nat.le_of_ble_eq_true rfl) (hM.obj fb0 ⟨rfl, rfl⟩) cy1 ?_
  exact w_X12_fly_324 (prim := prim) (d := d) N S1 l1 l2 l3 l4 l5 l6 l7 y1 lv a0 fa0 g0 g1 g2 g3 g4 g5 g6 g7 M1 h

def f_X12_fly_305 (N : Nat) (S : yS) (l1 : Int32) (l2 : Int32) (l3 : Int32) (l5 : Int32) (l6 : Int32) (l7 : Int32) (t0 : Int32) : Option (Int32 × yS) := if t0 = 0 then f_X12_fly_321 N S l1 l2 l3 t0 l5 l6 l7 l1 10 0 else f_X12_fly_321 N S l1 l2 l3 t0 l5 l6 l7 l1 10 1
set_option maxHeartbeats 4000000 in
set_option maxRecDepth 40000 in
theorem w_X12_fly_305 {F : xH} {ev : xEv} {prim : xRel} {d sz : Nat} {T : yT} {v : Int32} {S' : yS} (N : Nat) (S : yS) (l1 : Int32) (l2 : Int32) (l3 : Int32) (l5 : Int32) (l6 : Int32) (l7 : Int32) (t0 : Int32) (hp : xH) (lv : xLv) (a0 : Nat) (fa0 : yAt T 12 8 0 a0) (g0 : xG lv 0 = some (.ref a0)) (g1 : xG lv 1 = some (.int l1)) (g2 : xG lv 2 = some (.int l2)) (g3 : xG lv 3 = some (.int l3)) (g5 : xG lv 5 = some (.int l5)) (g6 : xG lv 6 = some (.int l6)) (g7 : xG lv 7 = some (.int l7)) (hM : cR [8] F ev T S hp) (h : f_X12_fly_305 N S l1 l2 l3 l5 l6 l7 t0 = some (v, S')) : yWE ev.2.1 (xstr ev) (xCalls ev xmi (xprog ev) prim (d + 406)) (pX12_fly ev) (305, lv, [.int t0], hp, sz, 0) (ypQ [8] F ev T sz (none) S') := by
  unfold f_X12_fly_305 at h
  refine ye_p rfl rfl ?_
  have g0_z1 := xG_o1 (i := 4) (v := .int t0) g0 rfl
  have g1_z1 := xG_o1 (i := 4) (v := .int t0) g1 rfl
  have g2_z1 := xG_o1 (i := 4) (v := .int t0) g2 rfl
  have g3_z1 := xG_o1 (i := 4) (v := .int t0) g3 rfl
  have g5_z1 := xG_o1 (i := 4) (v := .int t0) g5 rfl
  have g6_z1 := xG_o1 (i := 4) (v := .int t0) g6 rfl
  have g7_z1 := xG_o1 (i := 4) (v := .int t0) g7 rfl
  have g4_z1 := xG_same lv 4 (.int t0)
  generalize xSt1 lv 4 (.int t0) = lvz1 at g0_z1 g1_z1 g2_z1 g3_z1 g5_z1 g6_z1 g7_z1 g4_z1 ⊢
  refine ye_aload rfl g0_z1 ?_
  refine ye_iload rfl g1_z1 ?_
  refine ye_p rfl rfl ?_
  refine ye_iload rfl g4_z1 ?_
  refine ye_if_eq rfl (fun h1 => ?_) (fun h1 => ?_)
  · replace h := yiT h1 h
    refine ye_p rfl rfl ?_
    exact w_X12_fly_321 (prim := prim) (d := d) N S l1 l2 l3 t0 l5 l6 l7 l1 10 0 hp lvz1 a0 a0 fa0 fa0 g0_z1 g1_z1 g2_z1 g3_z1 g4_z1 g5_z1 g6_z1 g7_z1 hM h
  · replace h := yiN h1 h
    refine ye_p rfl rfl ?_
    refine ye_p rfl rfl ?_
    exact w_X12_fly_321 (prim := prim) (d := d) N S l1 l2 l3 t0 l5 l6 l7 l1 10 1 hp lvz1 a0 a0 fa0 fa0 g0_z1 g1_z1 g2_z1 g3_z1 g4_z1 g5_z1 g6_z1 g7_z1 hM h

def f_X12_fly_257 (N : Nat) (S : yS) (l1 : Int32) (l2 : Int32) (l3 : Int32) (l4 : Int32) (l5 : Int32) (l6 : Int32) (l7 : Int32) (t1 : Int32) (t2 : Int32) (t3 : Int32) (t4 : Int32) (t5 : Int32) (t6 : Int32) : Option (Int32 × yS) := bS (f_X12_tell N S t1 t2 t3 t4 t5 t6) fun w1 S1 => bV (f_X12_plane N S1 l1 12) fun w2 => bS (f_X12_act N S1 1 w2 1) fun w3 S2 => if ¬ w3 = 76 then if ¬ w3 = 84 then f_X12_fly_324 N S2 l1 l2 l3 l4 l5 l6 l7 else if ¬ l4 = 0 then f_X12_fly_305 N S2 l1 l2 l3 l5 l6 l7 0 else f_X12_fly_305 N S2 l1 l2 l3 l5 l6 l7 1 else bS (f_X12_forced N S2 l1) fun w4 S3 => some (0, S3)
set_option maxHeartbeats 4000000 in
set_option maxRecDepth 40000 in
theorem w_X12_fly_257 {F : xH} {ev : xEv} {prim : xRel} {d sz : Nat} {T : yT} {v : Int32} {S' : yS} (N : Nat) (S : yS) (l1 : Int32) (l2 : Int32) (l3 : Int32) (l4 : Int32) (l5 : Int32) (l6 : Int32) (l7 : Int32) (t1 : Int32) (t2 : Int32) (t3 : Int32) (t4 : Int32) (t5 : Int32) (t6 : Int32) (hp : xH) (lv : xLv) (a0 : Nat) (b0 : Nat) (fa0 : yAt T 12 8 0 a0) (fb0 : yAt T 12 8 0 b0) (g0 : xG lv 0 = some (.ref a0)) (g1 : xG lv 1 = some (.int l1)) (g2 : xG lv 2 = some (.int l2)) (g3 : xG lv 3 = some (.int l3)) (g4 : xG lv 4 = some (.int l4)) (g5 : xG lv 5 = some (.int l5)) (g6 : xG lv 6 = some (.int l6)) (g7 : xG lv 7 = some (.int l7)) (hM : cR [8] F ev T S hp) (h : f_X12_fly_257 N S l1 l2 l3 l4 l5 l6 l7 t1 t2 t3 t4 t5 t6 = some (v, S')) : yWE ev.2.1 (xstr ev) (xCalls ev xmi (xprog ev) prim (d + 406)) (pX12_fly ev) (257, lv, [.int t6, .int t5, .int t4, .int t3, .int t2, .int t1, .ref b0], hp, sz, 0) (ypQ [8] F ev T sz (none) S') := by
  unfold f_X12_fly_257 at h
  obtain ⟨w1, S1, hw1, h⟩ := bS_some h
  obtain ⟨y1, cy1, M1⟩ := (m_X12_tell (d := d + 404) (T := T) N S t1 t2 t3 t4 t5 t6 b0 fb0 hw1) hp sz hM
  refine ye_callV (As := [.int t1, .int t2, .int t3, .int t4, .int t5, .int t6]) (rest := []) 0 (Or.inl rfl) rfl rfl rfl (Nat.le_of_ble_eq_true rfl) (hM.obj fb0 ⟨rfl, rfl⟩) cy1 ?_
  refine ye_aload rfl g0 ?_
  refine ye_p rfl rfl ?_
  refine ye_aload rfl g0 ?_
  refine ye_iload rfl g1 ?_
  refine ye_p rfl rfl ?_
  obtain ⟨w2, hw2, h⟩ := bV_some h
  refine ye_callV (As := [.int l1, .int 12]) (rest := [.int 1, .ref a0]) 0 (Or.inl rfl) rfl rfl rfl (Nat.le_of_ble_eq_true rfl) (M1.obj fa0 ⟨rfl, rfl⟩) ((m_X12_plane (d := d + 405) (T := T) N S1 l1 12 a0 fa0 hw2) y1 sz M1) ?_
  refine ye_p rfl rfl ?_
  obtain ⟨w3, S2, hw3, h⟩ := bS_some h
  obtain ⟨y2, cy2, M2⟩ := (m_X12_act (d := d + 0) (T := T) N S1 1 w2 1 a0 fa0 hw3) y1 sz M1
  refine ye_callV (As := [.int 1, .int w2, .int 1]) (rest := []) 0 (Or.inl rfl) rfl rfl rfl (Nat.le_of_ble_eq_true rfl) (M1.obj fa0 ⟨rfl, rfl⟩) cy2 ?_
  refine ye_p rfl rfl ?_
  have g0_z1 := xG_o1 (i := 8) (v := .int w3) g0 rfl
  have g1_z1 := xG_o1 (i := 8) (v := .int w3) g1 rfl
  have g2_z1 := xG_o1 (i := 8) (v := .int w3) g2 rfl
  have g3_z1 := xG_o1 (i := 8) (v := .int w3) g3 rfl
  have g4_z1 := xG_o1 (i := 8) (v := .int w3) g4 rfl
  have g5_z1 := xG_o1 (i := 8) (v := .int w3) g5 rfl
  have g6_z1 := xG_o1 (i := 8) (v := .int w3) g6 rfl
  have g7_z1 := xG_o1 (i := 8) (v := .int w3) g7 rfl
  have g8_z1 := xG_same lv 8 (.int w3)
  generalize xSt1 lv 8 (.int w3) = lvz1 at g0_z1 g1_z1 g2_z1 g3_z1 g4_z1 g5_z1 g6_z1 g7_z1 g8_z1 ⊢
  refine ye_iload rfl g8_z1 ?_
  refine ye_p rfl rfl ?_
  refine ye_icmp_ne rfl (fun h1 => ?_) (fun h1 => ?_)
  · replace h := yiT h1 h
    refine ye_iload rfl g8_z1 ?_
    refine ye_p rfl rfl ?_
    refine ye_icmp_ne rfl (fun h2 => ?_) (fun h2 => ?_)
    · replace h := yiT h2 h
      exact w_X12_fly_324 (prim := prim) (d := d) N S2 l1 l2 l3 l4 l5 l6 l7 y2 lvz1 a0 fa0 g0_z1 g1_z1 g2_z1 g3_z1 g4_z1 g5_z1 g6_z1 g7_z1 M2 h
    · replace h := yiN h2 h
      refine ye_iload rfl g4_z1 ?_
      refine ye_if_ne rfl (fun h3 => ?_) (fun h3 => ?_)
      · replace h := yiT h3 h
        refine ye_p rfl rfl ?_
        exact w_X12_fly_305 (prim := prim) (d := d) N S2 l1 l2 l3 l5 l6 l7 0 y2 lvz1 a0 fa0 g0_z1 g1_z1 g2_z1 g3_z1 g5_z1 g6_z1 g7_z1 M2 h
      · replace h := yiN h3 h
        refine ye_p rfl rfl ?_
        refine ye_p rfl rfl ?_
        exact w_X12_fly_305 (prim := prim) (d := d) N S2 l1 l2 l3 l5 l6 l7 1 y2 lvz1 a0 fa0 g0_z1 g1_z1 g2_z1 g3_z1 g5_z1 g6_z1 g7_z1 M2 h
  · replace h := yiN h1 h
    refine ye_aload rfl g0_z1 ?_
    refine ye_iload rfl g1_z1 ?_
    obtain ⟨w4, S3, hw4, h⟩ := bS_some h
    obtain ⟨y3, cy3, M3⟩ := (m_X12_forced (d := d + 403) (T := T) N S2 l1 a0 fa0 hw4) y2 sz M2
    refine ye_callV (As := [.int l1]) (rest := []) 0 (Or.inl rfl) rfl rfl rfl (Nat.le_of_ble_eq_true rfl) (M2.obj fa0 ⟨rfl, rfl⟩) cy3 ?_
    exact ye_ret rfl rfl (rQV h M3)

def f_X12_fly_231 (N : Nat) (S : yS) (l1 : Int32) (l2 : Int32) (l3 : Int32) (l4 : Int32) (l5 : Int32) (l6 : Int32) (l7 : Int32) (t1 : Int32) (t2 : Int32) (t3 : Int32) (t4 : Int32) : Option (Int32 × yS) := bV (f_X12_plane N S l1 8) fun w1 => if l4 = 0 then f_X12_fly_257 N S l1 l2 l3 l4 l5 l6 l7 t1 t2 t3 t4 w1 l5 else gA 12 l2 fun j1 => f_X12_fly_257 N S l1 l2 l3 l4 l5 l6 l7 t1 t2 t3 t4 w1 ((S.2.1 8 4 j1) - l5)
set_option maxHeartbeats 4000000 in
set_option maxRecDepth 40000 in
theorem w_X12_fly_231 {F : xH} {ev : xEv} {prim : xRel} {d sz : Nat} {T : yT} {v : Int32} {S' : yS} (N : Nat) (S : yS) (l1 : Int32) (l2 : Int32) (l3 : Int32) (l4 : Int32) (l5 : Int32) (l6 : Int32) (l7 : Int32) (t1 : Int32) (t2 : Int32) (t3 : Int32) (t4 : Int32) (hp : xH) (lv : xLv) (a0 : Nat) (b0 : Nat) (fa0 : yAt T 12 8 0 a0) (fb0 : yAt T 12 8 0 b0) (g0 : xG lv 0 = some (.ref a0)) (g1 : xG lv 1 = some (.int l1)) (g2 : xG lv 2 = some (.int l2)) (g3 : xG lv 3 = some (.int l3)) (g4 : xG lv 4 = some (.int l4)) (g5 : xG lv 5 = some (.int l5)) (g6 : xG lv 6 = some (.int l6)) (g7 : xG lv 7 = some (.int l7)) (hM : cR [8] F ev T S hp) (h : f_X12_fly_231 N S l1 l2 l3 l4 l5 l6 l7 t1 t2 t3 t4 = some (v, S')) : yWE ev.2.1 (xstr ev) (xCalls ev xmi (xprog ev) prim (d + 406)) (pX12_fly ev) (231, lv, [.int t4, .int t3, .int t2, .int t1, .ref b0], hp, sz, 0) (ypQ [8] F ev T sz (none) S') := by
  unfold f_X12_fly_231 at h
  refine ye_aload rfl g0 ?_
  refine ye_iload rfl g1 ?_
  refine ye_p rfl rfl ?_
  obtain ⟨w1, hw1, h⟩ := bV_some h
  refine ye_callV (As := [.int l1, .int 8]) (rest := [.int t4, .int t3, .int t2, .int t1, .ref b0]) 0 (Or.inl rfl) rfl rfl rfl (Nat.le_of_ble_eq_true rfl) (hM.obj fa0 ⟨rfl, rfl⟩) ((m_X12_plane (d := d + 405) (T := T) N S l1 8 a0 fa0 hw1) hp sz hM) ?_
  refine ye_iload rfl g4 ?_
  refine ye_if_eq rfl (fun h1 => ?_) (fun h1 => ?_)
  · replace h := yiT h1 h
    refine ye_iload rfl g5 ?_
    exact w_X12_fly_257 (prim := prim) (d := d) N S l1 l2 l3 l4 l5 l6 l7 t1 t2 t3 t4 w1 l5 hp lv a0 b0 fa0 fb0 g0 g1 g2 g3 g4 g5 g6 g7 hM h
  · replace h := yiN h1 h
    refine ye_aload rfl g0 ?_
    refine ye_getr rfl (hM.obj fa0 ⟨rfl, rfl⟩) rfl (fun cx1 ecx1 => ?_)
    have fcx1 := yAt.row fa0 ecx1
    refine ye_iload rfl g2 ?_
    obtain ⟨j1, ej1, ij1, h⟩ := gA_some h
    refine yj_ald rfl (hM.arr fcx1 yr_12_4) ij1 ej1 ?_
    refine ye_iload rfl g5 ?_
    refine ye_p rfl rfl ?_
    refine ye_p rfl rfl ?_
    exact w_X12_fly_257 (prim := prim) (d := d) N S l1 l2 l3 l4 l5 l6 l7 t1 t2 t3 t4 w1 ((S.2.1 8 4 j1) - l5) hp lv a0 b0 fa0 fb0 g0 g1 g2 g3 g4 g5 g6 g7 hM h

def f_X12_fly_199 (N : Nat) (S : yS) (l1 : Int32) (l2 : Int32) (l3 : Int32) (l4 : Int32) (l5 : Int32) (l6 : Int32) (l7 : Int32) (t1 : Int32) (t2 : Int32) : Option (Int32 × yS) := gA 10 t1 fun j1 => sq (yA S 8 56 (upd (S.2.1 8 56) j1 t2)) fun S1 => gA 10 2 fun j2 => sq (yA S1 8 56 (upd (S1.2.1 8 56) j2 0)) fun S2 => if l4 = 0 then gA 12 l2 fun j3 => f_X12_fly_231 N S2 l1 l2 l3 l4 l5 l6 l7 l1 l3 l2 (S2.2.1 8 2 j3) else gA 12 l2 fun j4 => f_X12_fly_231 N S2 l1 l2 l3 l4 l5 l6 l7 l1 l3 l2 (S2.2.1 8 3 j4)
set_option maxHeartbeats 4000000 in
set_option maxRecDepth 40000 in
theorem w_X12_fly_199 {F : xH} {ev : xEv} {prim : xRel} {d sz : Nat} {T : yT} {v : Int32} {S' : yS} (N : Nat) (S : yS) (l1 : Int32) (l2 : Int32) (l3 : Int32) (l4 : Int32) (l5 : Int32) (l6 : Int32) (l7 : Int32) (t1 : Int32) (t2 : Int32) (hp : xH) (lv : xLv) (a0 : Nat) (b0 : Nat) (fa0 : yAt T 12 8 0 a0) (fb0 : yAt T 12 8 57 b0) (g0 : xG lv 0 = some (.ref a0)) (g1 : xG lv 1 = some (.int l1)) (g2 : xG lv 2 = some (.int l2)) (g3 : xG lv 3 = some (.int l3)) (g4 : xG lv 4 = some (.int l4)) (g5 : xG lv 5 = some (.int l5)) (g6 : xG lv 6 = some (.int l6)) (g7 : xG lv 7 = some (.int l7)) (hM : cR [8] F ev T S hp) (h : f_X12_fly_199 N S l1 l2 l3 l4 l5 l6 l7 t1 t2 = some (v, S')) : yWE ev.2.1 (xstr ev) (xCalls ev xmi (xprog ev) prim (d + 406)) (pX12_fly ev) (199, lv, [.int t2, .int t1, .ref b0], hp, sz, 0) (ypQ [8] F ev T sz (none) S') := by
  unfold f_X12_fly_199 at h
  obtain ⟨j1, ej1, ij1, h⟩ := gA_some h
  obtain ⟨S1, eS1, h⟩ := sq_some h
  refine yw_ast rfl hM fb0 yr_12_56 (by decide) ij1 ej1 eS1 (fun y1 M1 => ?_)
  refine ye_aload rfl g0 ?_
  refine ye_getr rfl (M1.obj fa0 ⟨rfl, rfl⟩) rfl (fun cx1 ecx1 => ?_)
  have fcx1 := yAt.row fa0 ecx1
  refine ye_p rfl rfl ?_
  refine ye_p rfl rfl ?_
  obtain ⟨j2, ej2, ij2, h⟩ := gA_some h
  obtain ⟨S2, eS2, h⟩ := sq_some h
  refine yw_ast rfl M1 fcx1 yr_12_56 (by decide) ij2 ej2 eS2 (fun y2 M2 => ?_)
  refine ye_aload rfl g0 ?_
  refine ye_iload rfl g1 ?_
  refine ye_iload rfl g3 ?_
  refine ye_iload rfl g2 ?_
  refine ye_iload rfl g4 ?_
  refine ye_if_eq rfl (fun h1 => ?_) (fun h1 => ?_)
  · replace h := yiT h1 h
    refine ye_aload rfl g0 ?_
    refine ye_getr rfl (M2.obj fa0 ⟨rfl, rfl⟩) rfl (fun cx2 ecx2 => ?_)
    have fcx2 := yAt.row fa0 ecx2
    refine ye_iload rfl g2 ?_
    obtain ⟨j3, ej3, ij3, h⟩ := gA_some h
    refine yj_ald rfl (M2.arr fcx2 yr_12_2) ij3 ej3 ?_
    exact w_X12_fly_231 (prim := prim) (d := d) N S2 l1 l2 l3 l4 l5 l6 l7 l1 l3 l2 (S2.2.1 8 2 j3) y2 lv a0 a0 fa0 fa0 g0 g1 g2 g3 g4 g5 g6 g7 M2 h
  · replace h := yiN h1 h
    refine ye_aload rfl g0 ?_
    refine ye_getr rfl (M2.obj fa0 ⟨rfl, rfl⟩) rfl (fun cx3 ecx3 => ?_)
    have fcx3 := yAt.row fa0 ecx3
    refine ye_iload rfl g2 ?_
    obtain ⟨j4, ej4, ij4, h⟩ := gA_some h
    refine yj_ald rfl (M2.arr fcx3 yr_12_3) ij4 ej4 ?_
    refine ye_p rfl rfl ?_
    exact w_X12_fly_231 (prim := prim) (d := d) N S2 l1 l2 l3 l4 l5 l6 l7 l1 l3 l2 (S2.2.1 8 3 j4) y2 lv a0 a0 fa0 fa0 g0 g1 g2 g3 g4 g5 g6 g7 M2 h

def f_X12_fly_130 (N : Nat) (S : yS) (l1 : Int32) (l2 : Int32) (l3 : Int32) (t0 : Int32) : Option (Int32 × yS) := bV (f_X12_plane N S l1 2) fun w1 => gA 2305 0 fun j1 => bV (f_X12_cloud N S l2 (S.2.1 8 48 j1)) fun w2 => gA 2305 0 fun j2 => bV (f_X12_wind N S l2 (S.2.1 8 48 j2)) fun w3 => gA 12 l2 fun j3 => gA 10 0 fun j4 => sq (yA S 8 56 (upd (S.2.1 8 56) j4 (w2 - (S.2.1 8 5 j3)))) fun S1 => if t0 = 0 then f_X12_fly_199 N S1 l1 l2 l3 t0 w1 w2 w3 1 (-w3) else f_X12_fly_199 N S1 l1 l2 l3 t0 w1 w2 w3 1 w3
set_option maxHeartbeats 4000000 in
set_option maxRecDepth 40000 in
theorem w_X12_fly_130 {F : xH} {ev : xEv} {prim : xRel} {d sz : Nat} {T : yT} {v : Int32} {S' : yS} (N : Nat) (S : yS) (l1 : Int32) (l2 : Int32) (l3 : Int32) (t0 : Int32) (hp : xH) (lv : xLv) (a0 : Nat) (fa0 : yAt T 12 8 0 a0) (g0 : xG lv 0 = some (.ref a0)) (g1 : xG lv 1 = some (.int l1)) (g2 : xG lv 2 = some (.int l2)) (g3 : xG lv 3 = some (.int l3)) (hM : cR [8] F ev T S hp) (h : f_X12_fly_130 N S l1 l2 l3 t0 = some (v, S')) : yWE ev.2.1 (xstr ev) (xCalls ev xmi (xprog ev) prim (d + 406)) (pX12_fly ev) (130, lv, [.int t0], hp, sz, 0) (ypQ [8] F ev T sz (none) S') := by
  unfold f_X12_fly_130 at h
  refine ye_p rfl rfl ?_
  have g0_z1 := xG_o1 (i := 4) (v := .int t0) g0 rfl
  have g1_z1 := xG_o1 (i := 4) (v := .int t0) g1 rfl
  have g2_z1 := xG_o1 (i := 4) (v := .int t0) g2 rfl
  have g3_z1 := xG_o1 (i := 4) (v := .int t0) g3 rfl
  have g4_z1 := xG_same lv 4 (.int t0)
  generalize xSt1 lv 4 (.int t0) = lvz1 at g0_z1 g1_z1 g2_z1 g3_z1 g4_z1 ⊢
  refine ye_aload rfl g0_z1 ?_
  refine ye_iload rfl g1_z1 ?_
  refine ye_p rfl rfl ?_
  obtain ⟨w1, hw1, h⟩ := bV_some h
  refine ye_callV (As := [.int l1, .int 2]) (rest := []) 0 (Or.inl rfl) rfl rfl rfl (Nat.le_of_ble_eq_true rfl) (hM.obj fa0 ⟨rfl, rfl⟩) ((m_X12_plane (d := d + 405) (T := T) N S l1 2 a0 fa0 hw1) hp sz hM) ?_
  refine ye_p rfl rfl ?_
  have g0_z2 := xG_o1 (i := 5) (v := .int w1) g0_z1 rfl
  have g1_z2 := xG_o1 (i := 5) (v := .int w1) g1_z1 rfl
  have g2_z2 := xG_o1 (i := 5) (v := .int w1) g2_z1 rfl
  have g3_z2 := xG_o1 (i := 5) (v := .int w1) g3_z1 rfl
  have g4_z2 := xG_o1 (i := 5) (v := .int w1) g4_z1 rfl
  have g5_z2 := xG_same lvz1 5 (.int w1)
  generalize xSt1 lvz1 5 (.int w1) = lvz2 at g0_z2 g1_z2 g2_z2 g3_z2 g4_z2 g5_z2 ⊢
  refine ye_aload rfl g0_z2 ?_
  refine ye_iload rfl g2_z2 ?_
  refine ye_aload rfl g0_z2 ?_
  refine ye_getr rfl (hM.obj fa0 ⟨rfl, rfl⟩) rfl (fun cx1 ecx1 => ?_)
  have fcx1 := yAt.row fa0 ecx1
  refine ye_p rfl rfl ?_
  obtain ⟨j1, ej1, ij1, h⟩ := gA_some h
  refine yj_ald rfl (hM.arr fcx1 yr_12_48) ij1 ej1 ?_
  obtain ⟨w2, hw2, h⟩ := bV_some h
  refine ye_callV (As := [.int l2, .int (S.2.1 8 48 j1)]) (rest := []) 0 (Or.inl rfl) rfl rfl rfl (Nat.le_of_ble_eq_true rfl) (hM.obj fa0 ⟨rfl, rfl⟩) ((m_X12_cloud (d := d + 404) (T := T) N S l2 (S.2.1 8 48 j1) a0 fa0 hw2) hp sz hM) ?_
  refine ye_p rfl rfl ?_
  have g0_z3 := xG_o1 (i := 6) (v := .int w2) g0_z2 rfl
  have g1_z3 := xG_o1 (i := 6) (v := .int w2) g1_z2 rfl
  have g2_z3 := xG_o1 (i := 6) (v := .int w2) g2_z2 rfl
  have g3_z3 := xG_o1 (i := 6) (v := .int w2) g3_z2 rfl
  have g4_z3 := xG_o1 (i := 6) (v := .int w2) g4_z2 rfl
  have g5_z3 := xG_o1 (i := 6) (v := .int w2) g5_z2 rfl
  have g6_z3 := xG_same lvz2 6 (.int w2)
  generalize xSt1 lvz2 6 (.int w2) = lvz3 at g0_z3 g1_z3 g2_z3 g3_z3 g4_z3 g5_z3 g6_z3 ⊢
  refine ye_aload rfl g0_z3 ?_
  refine ye_iload rfl g2_z3 ?_
  refine ye_aload rfl g0_z3 ?_
  refine ye_getr rfl (hM.obj fa0 ⟨rfl, rfl⟩) rfl (fun cx2 ecx2 => ?_)
  have fcx2 := yAt.row fa0 ecx2
  refine ye_p rfl rfl ?_
  obtain ⟨j2, ej2, ij2, h⟩ := gA_some h
  refine yj_ald rfl (hM.arr fcx2 yr_12_48) ij2 ej2 ?_
  obtain ⟨w3, hw3, h⟩ := bV_some h
  refine ye_callV (As := [.int l2, .int (S.2.1 8 48 j2)]) (rest := []) 0 (Or.inl rfl) rfl rfl rfl (Nat.le_of_ble_eq_true rfl) (hM.obj fa0 ⟨rfl, rfl⟩) ((m_X12_wind (d := d + 404) (T := T) N S l2 (S.2.1 8 48 j2) a0 fa0 hw3) hp sz hM) ?_
  refine ye_p rfl rfl ?_
  have g0_z4 := xG_o1 (i := 7) (v := .int w3) g0_z3 rfl
  have g1_z4 := xG_o1 (i := 7) (v := .int w3) g1_z3 rfl
  have g2_z4 := xG_o1 (i := 7) (v := .int w3) g2_z3 rfl
  have g3_z4 := xG_o1 (i := 7) (v := .int w3) g3_z3 rfl
  have g4_z4 := xG_o1 (i := 7) (v := .int w3) g4_z3 rfl
  have g5_z4 := xG_o1 (i := 7) (v := .int w3) g5_z3 rfl
  have g6_z4 := xG_o1 (i := 7) (v := .int w3) g6_z3 rfl
  have g7_z4 := xG_same lvz3 7 (.int w3)
  generalize xSt1 lvz3 7 (.int w3) = lvz4 at g0_z4 g1_z4 g2_z4 g3_z4 g4_z4 g5_z4 g6_z4 g7_z4 ⊢
  refine ye_aload rfl g0_z4 ?_
  refine ye_getr rfl (hM.obj fa0 ⟨rfl, rfl⟩) rfl (fun cx3 ecx3 => ?_)
  have fcx3 := yAt.row fa0 ecx3
  refine ye_p rfl rfl ?_
  refine ye_iload rfl g6_z4 ?_
  refine ye_aload rfl g0_z4 ?_
  refine ye_getr rfl (hM.obj fa0 ⟨rfl, rfl⟩) rfl (fun cx4 ecx4 => ?_)
  have fcx4 := yAt.row fa0 ecx4
  refine ye_iload rfl g2_z4 ?_
  obtain ⟨j3, ej3, ij3, h⟩ := gA_some h
  refine yj_ald rfl (hM.arr fcx4 yr_12_5) ij3 ej3 ?_
  refine ye_p rfl rfl ?_
  obtain ⟨j4, ej4, ij4, h⟩ := gA_some h
  obtain ⟨S1, eS1, h⟩ := sq_some h
  refine yw_ast rfl hM fcx3 yr_12_56 (by decide) ij4 ej4 eS1 (fun y1 M1 => ?_)
  refine ye_aload rfl g0_z4 ?_
  refine ye_getr rfl (M1.obj fa0 ⟨rfl, rfl⟩) rfl (fun cx5 ecx5 => ?_)
  have fcx5 := yAt.row fa0 ecx5
  refine ye_p rfl rfl ?_
  refine ye_iload rfl g4_z4 ?_
  refine ye_if_eq rfl (fun h1 => ?_) (fun h1 => ?_)
  · replace h := yiT h1 h
    refine ye_iload rfl g7_z4 ?_
    refine ye_p rfl rfl ?_
    exact w_X12_fly_199 (prim := prim) (d := d) N S1 l1 l2 l3 t0 w1 w2 w3 1 (-w3) y1 lvz4 a0 cx5 fa0 fcx5 g0_z4 g1_z4 g2_z4 g3_z4 g4_z4 g5_z4 g6_z4 g7_z4 M1 h
  · replace h := yiN h1 h
    refine ye_iload rfl g7_z4 ?_
    refine ye_p rfl rfl ?_
    exact w_X12_fly_199 (prim := prim) (d := d) N S1 l1 l2 l3 t0 w1 w2 w3 1 w3 y1 lvz4 a0 cx5 fa0 fcx5 g0_z4 g1_z4 g2_z4 g3_z4 g4_z4 g5_z4 g6_z4 g7_z4 M1 h

def f_X12_fly_98 (N : Nat) (S : yS) (l1 : Int32) (l2 : Int32) (l3 : Int32) : Option (Int32 × yS) := bV (f_X12_plane N S l1 8) fun w1 => if 0 ≤ w1 then bV (f_X12_plane N S l1 10) fun w2 => if ¬ w2 = 1 then f_X12_fly_130 N S l1 l2 l3 0 else f_X12_fly_130 N S l1 l2 l3 1 else f_X12_fly_108 N S l1
set_option maxHeartbeats 4000000 in
set_option maxRecDepth 40000 in
theorem w_X12_fly_98 {F : xH} {ev : xEv} {prim : xRel} {d sz : Nat} {T : yT} {v : Int32} {S' : yS} (N : Nat) (S : yS) (l1 : Int32) (l2 : Int32) (l3 : Int32) (hp : xH) (lv : xLv) (a0 : Nat) (fa0 : yAt T 12 8 0 a0) (g0 : xG lv 0 = some (.ref a0)) (g1 : xG lv 1 = some (.int l1)) (g2 : xG lv 2 = some (.int l2)) (g3 : xG lv 3 = some (.int l3)) (hM : cR [8] F ev T S hp) (h : f_X12_fly_98 N S l1 l2 l3 = some (v, S')) : yWE ev.2.1 (xstr ev) (xCalls ev xmi (xprog ev) prim (d + 406)) (pX12_fly ev) (98, lv, [], hp, sz, 0) (ypQ [8] F ev T sz (none) S') := by
  unfold f_X12_fly_98 at h
  refine ye_aload rfl g0 ?_
  refine ye_iload rfl g1 ?_
  refine ye_p rfl rfl ?_
  obtain ⟨w1, hw1, h⟩ := bV_some h
  refine ye_callV (As := [.int l1, .int 8]) (rest := []) 0 (Or.inl rfl) rfl rfl rfl (Nat.le_of_ble_eq_true rfl) (hM.obj fa0 ⟨rfl, rfl⟩) ((m_X12_plane (d := d + 405) (T := T) N S l1 8 a0 fa0 hw1) hp sz hM) ?_
  refine ye_if_ge rfl (fun h1 => ?_) (fun h1 => ?_)
  · replace h := yiT h1 h
    refine ye_aload rfl g0 ?_
    refine ye_iload rfl g1 ?_
    refine ye_p rfl rfl ?_
    obtain ⟨w2, hw2, h⟩ := bV_some h
    refine ye_callV (As := [.int l1, .int 10]) (rest := []) 0 (Or.inl rfl) rfl rfl rfl (Nat.le_of_ble_eq_true rfl) (hM.obj fa0 ⟨rfl, rfl⟩) ((m_X12_plane (d := d + 405) (T := T) N S l1 10 a0 fa0 hw2) hp sz hM) ?_
    refine ye_p rfl rfl ?_
    refine ye_icmp_ne rfl (fun h2 => ?_) (fun h2 => ?_)
    · replace h := yiT h2 h
      refine ye_p rfl rfl ?_
      exact w_X12_fly_130 (prim := prim) (d := d) N S l1 l2 l3 0 hp lv a0 fa0 g0 g1 g2 g3 hM h
    · replace h := yiN h2 h
      refine ye_p rfl rfl ?_
      refine ye_p rfl rfl ?_
      exact w_X12_fly_130 (prim := prim) (d := d) N S l1 l2 l3 1 hp lv a0 fa0 g0 g1 g2 g3 hM h
  · replace h := yiN h1 h
    exact w_X12_fly_108 (prim := prim) (d := d) N S l1 hp lv a0 fa0 g0 g1 hM h

def f_X12_fly_0 (N : Nat) (S : yS) (l1 : Int32) : Option (Int32 × yS) := bV (f_X12_plane N S l1 1) fun w1 => bV (f_X12_plane N S l1 11) fun w2 => bV (f_X12_plane N S l1 5) fun w3 => bS (f_X12_plane2 N S l1 5 (w3 + 1)) fun w4 S1 => bV (f_X12_plane N S1 l1 8) fun w5 => bS (f_X12_plane2 N S1 l1 8 (w5 - 1)) fun w6 S2 => bV (f_X12_pilotOf N S2 w2 2) fun w7 => bS (f_X12_setPilot N S2 w2 2 (w7 + 1)) fun w8 S3 => gA 2305 1 fun j1 => gA 2305 1 fun j2 => sq (yA S3 8 48 (upd (S3.2.1 8 48) j2 ((S3.2.1 8 48 j1) + (S3.1 8 36)))) fun S4 => bV (f_X12_plane N S4 l1 7) fun w9 => if w9 ≤ 0 then f_X12_fly_98 N S4 l1 w1 w2 else bV (f_X12_plane N S4 l1 5) fun w10 => bV (f_X12_plane N S4 l1 7) fun w11 => if w10 = w11 then f_X12_fly_108 N S4 l1 else f_X12_fly_98 N S4 l1 w1 w2
set_option maxHeartbeats 4000000 in
set_option maxRecDepth 40000 in
theorem w_X12_fly_0 {F : xH} {ev : xEv} {prim : xRel} {d sz : Nat} {T : yT} {v : Int32} {S' : yS} (N : Nat) (S : yS) (l1 : Int32) (hp : xH) (lv : xLv) (a0 : Nat) (fa0 : yAt T 12 8 0 a0) (g0 : xG lv 0 = some (.ref a0)) (g1 : xG lv 1 = some (.int l1)) (hM : cR [8] F ev T S hp) (h : f_X12_fly_0 N S l1 = some (v, S')) : yWE ev.2.1 (xstr ev) (xCalls ev xmi (xprog ev) prim (d + 406)) (pX12_fly ev) (0, lv, [], hp, sz, 0) (ypQ [8] F ev T sz (none) S') := by
  unfold f_X12_fly_0 at h
  refine ye_aload rfl g0 ?_
  refine ye_iload rfl g1 ?_
  refine ye_p rfl rfl ?_
  obtain ⟨w1, hw1, h⟩ := bV_some h
  refine ye_callV (As := [.int l1, .int 1]) (rest := []) 0 (Or.inl rfl) rfl rfl rfl (Nat.le_of_ble_eq_true rfl) (hM.obj fa0 ⟨rfl, rfl⟩) ((m_X12_plane (d := d + 405) (T := T) N S l1 1 a0 fa0 hw1) hp sz hM) ?_
  refine ye_p rfl rfl ?_
  have g0_z1 := xG_o1 (i := 2) (v := .int w1) g0 rfl
  have g1_z1 := xG_o1 (i := 2) (v := .int w1) g1 rfl
  have g2_z1 := xG_same lv 2 (.int w1)
  generalize xSt1 lv 2 (.int w1) = lvz1 at g0_z1 g1_z1 g2_z1 ⊢
  refine ye_aload rfl g0_z1 ?_
  refine ye_iload rfl g1_z1 ?_
  refine ye_p rfl rfl ?_
  obtain ⟨w2, hw2, h⟩ := bV_some h
  refine ye_callV (As := [.int l1, .int 11]) (rest := []) 0 (Or.inl rfl) rfl rfl rfl (Nat.le_of_ble_eq_true rfl) (hM.obj fa0 ⟨rfl, rfl⟩) ((m_X12_plane (d := d + 405) (T := T) N S l1 11 a0 fa0 hw2) hp sz hM) ?_
  refine ye_p rfl rfl ?_
  have g0_z2 := xG_o1 (i := 3) (v := .int w2) g0_z1 rfl
  have g1_z2 := xG_o1 (i := 3) (v := .int w2) g1_z1 rfl
  have g2_z2 := xG_o1 (i := 3) (v := .int w2) g2_z1 rfl
  have g3_z2 := xG_same lvz1 3 (.int w2)
  generalize xSt1 lvz1 3 (.int w2) = lvz2 at g0_z2 g1_z2 g2_z2 g3_z2 ⊢
  refine ye_aload rfl g0_z2 ?_
  refine ye_iload rfl g1_z2 ?_
  refine ye_p rfl rfl ?_
  refine ye_aload rfl g0_z2 ?_
  refine ye_iload rfl g1_z2 ?_
  refine ye_p rfl rfl ?_
  obtain ⟨w3, hw3, h⟩ := bV_some h
  refine ye_callV (As := [.int l1, .int 5]) (rest := [.int 5, .int l1, .ref a0]) 0 (Or.inl rfl) rfl rfl rfl (Nat.le_of_ble_eq_true rfl) (hM.obj fa0 ⟨rfl, rfl⟩) ((m_X12_plane (d := d + 405) (T := T) N S l1 5 a0 fa0 hw3) hp sz hM) ?_
  refine ye_p rfl rfl ?_
  refine ye_p rfl rfl ?_
  obtain ⟨w4, S1, hw4, h⟩ := bS_some h
  obtain ⟨y1, cy1, M1⟩ := (m_X12_plane2 (d := d + 405) (T := T) N S l1 5 (w3 + 1) a0 fa0 hw4) hp sz hM
  refine ye_callV (As := [.int l1, .int 5, .int (w3 + 1)]) (rest := []) 0 (Or.inl rfl) rfl rfl rfl (Nat.le_of_ble_eq_true rfl) (hM.obj fa0 ⟨rfl, rfl⟩) cy1 ?_
  refine ye_aload rfl g0_z2 ?_
  refine ye_iload rfl g1_z2 ?_
  refine ye_p rfl rfl ?_
  refine ye_aload rfl g0_z2 ?_
  refine ye_iload rfl g1_z2 ?_
  refine ye_p rfl rfl ?_
  obtain ⟨w5, hw5, h⟩ := bV_some h
  refine ye_callV (As := [.int l1, .int 8]) (rest := [.int 8, .int l1, .ref a0]) 0 (Or.inl rfl) rfl rfl rfl (Nat.le_of_ble_eq_true rfl) (M1.obj fa0 ⟨rfl, rfl⟩) ((m_X12_plane (d := d + 405) (T := T) N S1 l1 8 a0 fa0 hw5) y1 sz M1) ?_
  refine ye_p rfl rfl ?_
  refine ye_p rfl rfl ?_
  obtain ⟨w6, S2, hw6, h⟩ := bS_some h
  obtain ⟨y2, cy2, M2⟩ := (m_X12_plane2 (d := d + 405) (T := T) N S1 l1 8 (w5 - 1) a0 fa0 hw6) y1 sz M1
  refine ye_callV (As := [.int l1, .int 8, .int (w5 - 1)]) (rest := []) 0 (Or.inl rfl) rfl rfl rfl (Nat.le_of_ble_eq_true rfl) (M1.obj fa0 ⟨rfl, rfl⟩) cy2 ?_
  refine ye_aload rfl g0_z2 ?_
  refine ye_iload rfl g3_z2 ?_
  refine ye_p rfl rfl ?_
  refine ye_aload rfl g0_z2 ?_
  refine ye_iload rfl g3_z2 ?_
  refine ye_p rfl rfl ?_
  obtain ⟨w7, hw7, h⟩ := bV_some h
  refine ye_callV (As := [.int w2, .int 2]) (rest := [.int 2, .int w2, .ref a0]) 0 (Or.inl rfl) rfl rfl rfl (Nat.le_of_ble_eq_true rfl) (M2.obj fa0 ⟨rfl, rfl⟩) ((m_X12_pilotOf (d := d + 405) (T := T) N S2 w2 2 a0 fa0 hw7) y2 sz M2) ?_
  refine ye_p rfl rfl ?_
  refine ye_p rfl rfl ?_
  obtain ⟨w8, S3, hw8, h⟩ := bS_some h
  obtain ⟨y3, cy3, M3⟩ := (m_X12_setPilot (d := d + 405) (T := T) N S2 w2 2 (w7 + 1) a0 fa0 hw8) y2 sz M2
  refine ye_callV (As := [.int w2, .int 2, .int (w7 + 1)]) (rest := []) 0 (Or.inl rfl) rfl rfl rfl (Nat.le_of_ble_eq_true rfl) (M2.obj fa0 ⟨rfl, rfl⟩) cy3 ?_
  refine ye_aload rfl g0_z2 ?_
  refine ye_getr rfl (M3.obj fa0 ⟨rfl, rfl⟩) rfl (fun cx1 ecx1 => ?_)
  have fcx1 := yAt.row fa0 ecx1
  refine ye_p rfl rfl ?_
  refine ye_p rfl rfl ?_
  obtain ⟨j1, ej1, ij1, h⟩ := gA_some h
  refine yj_ald rfl (M3.arr fcx1 yr_12_48) ij1 ej1 ?_
  refine ye_aload rfl g0_z2 ?_
  refine ye_getf rfl (M3.obj fa0 ⟨rfl, rfl⟩) rfl ?_
  refine ye_p rfl rfl ?_
  obtain ⟨j2, ej2, ij2, h⟩ := gA_some h
  obtain ⟨S4, eS4, h⟩ := sq_some h
  refine yw_ast rfl M3 fcx1 yr_12_48 (by decide) ij2 ej2 eS4 (fun y4 M4 => ?_)
  refine ye_aload rfl g0_z2 ?_
  refine ye_iload rfl g1_z2 ?_
  refine ye_p rfl rfl ?_
  obtain ⟨w9, hw9, h⟩ := bV_some h
  refine ye_callV (As := [.int l1, .int 7]) (rest := []) 0 (Or.inl rfl) rfl rfl rfl (Nat.le_of_ble_eq_true rfl) (M4.obj fa0 ⟨rfl, rfl⟩) ((m_X12_plane (d := d + 405) (T := T) N S4 l1 7 a0 fa0 hw9) y4 sz M4) ?_
  refine ye_if_le rfl (fun h1 => ?_) (fun h1 => ?_)
  · replace h := yiT h1 h
    exact w_X12_fly_98 (prim := prim) (d := d) N S4 l1 w1 w2 y4 lvz2 a0 fa0 g0_z2 g1_z2 g2_z2 g3_z2 M4 h
  · replace h := yiN h1 h
    refine ye_aload rfl g0_z2 ?_
    refine ye_iload rfl g1_z2 ?_
    refine ye_p rfl rfl ?_
    obtain ⟨w10, hw10, h⟩ := bV_some h
    refine ye_callV (As := [.int l1, .int 5]) (rest := []) 0 (Or.inl rfl) rfl rfl rfl (Nat.le_of_ble_eq_true rfl) (M4.obj fa0 ⟨rfl, rfl⟩) ((m_X12_plane (d := d + 405) (T := T) N S4 l1 5 a0 fa0 hw10) y4 sz M4) ?_
    refine ye_aload rfl g0_z2 ?_
    refine ye_iload rfl g1_z2 ?_
    refine ye_p rfl rfl ?_
    obtain ⟨w11, hw11, h⟩ := bV_some h
    refine ye_callV (As := [.int l1, .int 7]) (rest := [.int w10]) 0 (Or.inl rfl) rfl rfl rfl (Nat.le_of_ble_eq_true rfl) (M4.obj fa0 ⟨rfl, rfl⟩) ((m_X12_plane (d := d + 405) (T := T) N S4 l1 7 a0 fa0 hw11) y4 sz M4) ?_
    refine ye_icmp_eq rfl (fun h2 => ?_) (fun h2 => ?_)
    · replace h := yiT h2 h
      exact w_X12_fly_108 (prim := prim) (d := d) N S4 l1 y4 lvz2 a0 fa0 g0_z2 g1_z2 M4 h
    · replace h := yiN h2 h
      exact w_X12_fly_98 (prim := prim) (d := d) N S4 l1 w1 w2 y4 lvz2 a0 fa0 g0_z2 g1_z2 g2_z2 g3_z2 M4 h
def f_X12_fly (N : Nat) (S : yS) (xl1 : Int32) : Option (Int32 × yS) := f_X12_fly_0 N S xl1
theorem m_X12_fly {F : xH} {ev : xEv} {prim : xRel} {d : Nat} {T : yT} {v : Int32} {S' : yS} (N : Nat) (S : yS) (xl1 : Int32) (a0 : Nat) (fa0 : yAt T 12 8 0 a0) (h : f_X12_fly N S xl1 = some (v, S')) : ykQ [8] F ev prim (d + 407) 260 T S [.ref a0, .int xl1] (none) S' :=
  ykQ.of (pg_260 ev) mi_260 (Nat.le_of_ble_eq_true rfl) (fun hp sz hM => w_X12_fly_0 (prim := prim) (d := d) N S xl1 hp _ a0 fa0 rfl rfl hM h)

def f_X12_goQuarter_68 (N : Nat) (k39 : yS → Int32 → Int32 → Option (Int32 × yS)) (S : yS) (l1 : Int32) (l2 : Int32) : Option (Int32 × yS) := k39 S l1 (l2 + 1)
set_option maxHeartbeats 4000000 in
set_option maxRecDepth 40000 in
theorem w_X12_goQuarter_68 {F : xH} {ev : xEv} {prim : xRel} {d sz : Nat} {T : yT} {v : Int32} {S' : yS} (N : Nat) (k39 : yS → Int32 → Int32 → Option (Int32 × yS)) (u39 : ∀ (S : yS) (l1 : Int32) (l2 : Int32) (hp : xH) (lv : xLv) (a0 : Nat) (fa0 : yAt T 12 8 0 a0) (g0 : xG lv 0 = some (.ref a0)) (g1 : xG lv 1 = some (.int l1)) (g2 : xG lv 2 = some (.int l2)) (hM : cR [8] F ev T S hp) (h : k39 S l1 l2 = some (v, S')), yWE ev.2.1 (xstr ev) (xCalls ev xmi (xprog ev) prim (d + 407)) (pX12_goQuarter ev) (39, lv, [], hp, sz, 0) (ypQ [8] F ev T sz (none) S')) (S : yS) (l1 : Int32) (l2 : Int32) (hp : xH) (lv : xLv) (a0 : Nat) (fa0 : yAt T 12 8 0 a0) (g0 : xG lv 0 = some (.ref a0)) (g1 : xG lv 1 = some (.int l1)) (g2 : xG lv 2 = some (.int l2)) (hM : cR [8] F ev T S hp) (h : f_X12_goQuarter_68 N k39 S l1 l2 = some (v, S')) : yWE ev.2.1 (xstr ev) (xCalls ev xmi (xprog ev) prim (d + 407)) (pX12_goQuarter ev) (68, lv, [], hp, sz, 0) (ypQ [8] F ev T sz (none) S') := by
  unfold f_X12_goQuarter_68 at h
  refine ye_iinc rfl g2 ?_
  have g0_z1 := xG_o1 (i := 2) (v := .int (l2 + 1)) g0 rfl
  have g1_z1 := xG_o1 (i := 2) (v := .int (l2 + 1)) g1 rfl
  have g2_z1 := xG_same lv 2 (.int (l2 + 1))
  generalize xSt1 lv 2 (.int (l2 + 1)) = lvz1 at g0_z1 g1_z1 g2_z1 ⊢
  refine ye_p rfl rfl ?_
  exact u39 S l1 (l2 + 1) hp lvz1 a0 fa0 g0_z1 g1_z1 g2_z1 hM h

def f_X12_goQuarter_141 (N : Nat) (k76 : yS → Int32 → Int32 → Option (Int32 × yS)) (S : yS) (l1 : Int32) (l2 : Int32) : Option (Int32 × yS) := k76 S l1 (l2 + 1)
set_option maxHeartbeats 4000000 in
set_option maxRecDepth 40000 in
theorem w_X12_goQuarter_141 {F : xH} {ev : xEv} {prim : xRel} {d sz : Nat} {T : yT} {v : Int32} {S' : yS} (N : Nat) (k76 : yS → Int32 → Int32 → Option (Int32 × yS)) (u76 : ∀ (S : yS) (l1 : Int32) (l2 : Int32) (hp : xH) (lv : xLv) (a0 : Nat) (fa0 : yAt T 12 8 0 a0) (g0 : xG lv 0 = some (.ref a0)) (g1 : xG lv 1 = some (.int l1)) (g2 : xG lv 2 = some (.int l2)) (hM : cR [8] F ev T S hp) (h : k76 S l1 l2 = some (v, S')), yWE ev.2.1 (xstr ev) (xCalls ev xmi (xprog ev) prim (d + 407)) (pX12_goQuarter ev) (76, lv, [], hp, sz, 0) (ypQ [8] F ev T sz (none) S')) (S : yS) (l1 : Int32) (l2 : Int32) (hp : xH) (lv : xLv) (a0 : Nat) (fa0 : yAt T 12 8 0 a0) (g0 : xG lv 0 = some (.ref a0)) (g1 : xG lv 1 = some (.int l1)) (g2 : xG lv 2 = some (.int l2)) (hM : cR [8] F ev T S hp) (h : f_X12_goQuarter_141 N k76 S l1 l2 = some (v, S')) : yWE ev.2.1 (xstr ev) (xCalls ev xmi (xprog ev) prim (d + 407)) (pX12_goQuarter ev) (141, lv, [], hp, sz, 0) (ypQ [8] F ev T sz (none) S') := by
  unfold f_X12_goQuarter_141 at h
  refine ye_iinc rfl g2 ?_
  have g0_z1 := xG_o1 (i := 2) (v := .int (l2 + 1)) g0 rfl
  have g1_z1 := xG_o1 (i := 2) (v := .int (l2 + 1)) g1 rfl
  have g2_z1 := xG_same lv 2 (.int (l2 + 1))
  generalize xSt1 lv 2 (.int (l2 + 1)) = lvz1 at g0_z1 g1_z1 g2_z1 ⊢
  refine ye_p rfl rfl ?_
  exact u76 S l1 (l2 + 1) hp lvz1 a0 fa0 g0_z1 g1_z1 g2_z1 hM h

def f_X12_goQuarter_170 (N : Nat) (k149 : yS → Int32 → Option (Int32 × yS)) (S : yS) (l2 : Int32) : Option (Int32 × yS) := k149 S (l2 + 1)
set_option maxHeartbeats 4000000 in
set_option maxRecDepth 40000 in
theorem w_X12_goQuarter_170 {F : xH} {ev : xEv} {prim : xRel} {d sz : Nat} {T : yT} {v : Int32} {S' : yS} (N : Nat) (k149 : yS → Int32 → Option (Int32 × yS)) (u149 : ∀ (S : yS) (l2 : Int32) (hp : xH) (lv : xLv) (a0 : Nat) (fa0 : yAt T 12 8 0 a0) (g0 : xG lv 0 = some (.ref a0)) (g2 : xG lv 2 = some (.int l2)) (hM : cR [8] F ev T S hp) (h : k149 S l2 = some (v, S')), yWE ev.2.1 (xstr ev) (xCalls ev xmi (xprog ev) prim (d + 407)) (pX12_goQuarter ev) (149, lv, [], hp, sz, 0) (ypQ [8] F ev T sz (none) S')) (S : yS) (l2 : Int32) (hp : xH) (lv : xLv) (a0 : Nat) (fa0 : yAt T 12 8 0 a0) (g0 : xG lv 0 = some (.ref a0)) (g2 : xG lv 2 = some (.int l2)) (hM : cR [8] F ev T S hp) (h : f_X12_goQuarter_170 N k149 S l2 = some (v, S')) : yWE ev.2.1 (xstr ev) (xCalls ev xmi (xprog ev) prim (d + 407)) (pX12_goQuarter ev) (170, lv, [], hp, sz, 0) (ypQ [8] F ev T sz (none) S') := by
  unfold f_X12_goQuarter_170 at h
  refine ye_iinc rfl g2 ?_
  have g0_z1 := xG_o1 (i := 2) (v := .int (l2 + 1)) g0 rfl
  have g2_z1 := xG_same lv 2 (.int (l2 + 1))
  generalize xSt1 lv 2 (.int (l2 + 1)) = lvz1 at g0_z1 g2_z1 ⊢
  refine ye_p rfl rfl ?_
  exact u149 S (l2 + 1) hp lvz1 a0 fa0 g0_z1 g2_z1 hM h

def f_X12_goQuarter_149 : Nat → Nat → yS → Int32 → Option (Int32 × yS)
  | 0, _, _, _ => none
  | n + 1, N, S, l2 => if (S.1 8 21) ≤ l2 then gA 2305 0 fun j1 => gA 2305 0 fun j2 => sq (yA S 8 48 (upd (S.2.1 8 48) j2 ((S.2.1 8 48 j1) + 1))) fun S1 => some (0, S1) else bV (f_X12_isAloft N S l2) fun w1 => if w1 = 0 then f_X12_goQuarter_170 N (fun S l2 => f_X12_goQuarter_149 n N S l2) S l2 else bS (f_X12_fly N S l2) fun w2 S2 => f_X12_goQuarter_170 N (fun S l2 => f_X12_goQuarter_149 n N S l2) S2 l2
set_option maxHeartbeats 4000000 in
set_option maxRecDepth 40000 in
theorem w_X12_goQuarter_149 {F : xH} {ev : xEv} {prim : xRel} {d sz : Nat} {T : yT} {v : Int32} {S' : yS} (N : Nat) (n : Nat) : ∀ (S : yS) (l2 : Int32) (hp : xH) (lv : xLv) (a0 : Nat) (fa0 : yAt T 12 8 0 a0) (g0 : xG lv 0 = some (.ref a0)) (g2 : xG lv 2 = some (.int l2)) (hM : cR [8] F ev T S hp) (h : f_X12_goQuarter_149 n N S l2 = some (v, S')), yWE ev.2.1 (xstr ev) (xCalls ev xmi (xprog ev) prim (d + 407)) (pX12_goQuarter ev) (149, lv, [], hp, sz, 0) (ypQ [8] F ev T sz (none) S') := by
  induction n with
  | zero => intro S l2 hp lv a0 fa0 g0 g2 hM h; exact n_some h
  | succ n ih =>
    intro S l2 hp lv a0 fa0 g0 g2 hM h
    unfold f_X12_goQuarter_149 at h
    refine ye_iload rfl g2 ?_
    refine ye_aload rfl g0 ?_
    refine ye_getf rfl (hM.obj fa0 ⟨rfl, rfl⟩) rfl ?_
    refine ye_icmp_ge rfl (fun h1 => ?_) (fun h1 => ?_)
    · replace h := yiT h1 h
      refine ye_aload rfl g0 ?_
      refine ye_getr rfl (hM.obj fa0 ⟨rfl, rfl⟩) rfl (fun cx1 ecx1 => ?_)
      have fcx1 := yAt.row fa0 ecx1
      refine ye_p rfl rfl ?_
      refine ye_p rfl rfl ?_
      obtain ⟨j1, ej1, ij1, h⟩ := gA_some h
      refine yj_ald rfl (hM.arr fcx1 yr_12_48) ij1 ej1 ?_
      refine ye_p rfl rfl ?_
      refine ye_p rfl rfl ?_
      obtain ⟨j2, ej2, ij2, h⟩ := gA_some h
      obtain ⟨S1, eS1, h⟩ := sq_some h
      refine yw_ast rfl hM fcx1 yr_12_48 (by decide) ij2 ej2 eS1 (fun y1 M1 => ?_)
      exact ye_ret rfl rfl (rQV h M1)
    · replace h := yiN h1 h
      refine ye_aload rfl g0 ?_
      refine ye_iload rfl g2 ?_
      obtain ⟨w1, hw1, h⟩ := bV_some h
      refine ye_callV (As := [.int l2]) (rest := []) 0 (Or.inl rfl) rfl rfl rfl (Nat.le_of_ble_eq_true rfl) (hM.obj fa0 ⟨rfl, rfl⟩) ((m_X12_isAloft (d := d + 405) (T := T) N S l2 a0 fa0 hw1) hp sz hM) ?_
      refine ye_if_eq rfl (fun h2 => ?_) (fun h2 => ?_)
      · replace h := yiT h2 h
        exact w_X12_goQuarter_170 (prim := prim) (d := d) N (fun S l2 => f_X12_goQuarter_149 n N S l2) ih S l2 hp lv a0 fa0 g0 g2 hM h
      · replace h := yiN h2 h
        refine ye_aload rfl g0 ?_
        refine ye_iload rfl g2 ?_
        obtain ⟨w2, S2, hw2, h⟩ := bS_some h
        obtain ⟨y2, cy2, M2⟩ := (m_X12_fly (d := d + 0) (T := T) N S l2 a0 fa0 hw2) hp sz hM
        refine ye_callV (As := [.int l2]) (rest := []) 0 (Or.inl rfl) rfl rfl rfl (Nat.le_of_ble_eq_true rfl) (hM.obj fa0 ⟨rfl, rfl⟩) cy2 ?_
        exact w_X12_goQuarter_170 (prim := prim) (d := d) N (fun S l2 => f_X12_goQuarter_149 n N S l2) ih S2 l2 y2 lv a0 fa0 g0 g2 M2 h

def f_X12_goQuarter_76 : Nat → Nat → yS → Int32 → Int32 → Option (Int32 × yS)
  | 0, _, _, _, _ => none
  | n + 1, N, S, l1, l2 => if (S.1 8 33) ≤ l2 then f_X12_goQuarter_149 N N S 0 else bV (f_X12_waits N S l2) fun w1 => if w1 = 0 then f_X12_goQuarter_141 N (fun S l1 l2 => f_X12_goQuarter_76 n N S l1 l2) S l1 l2 else gA 24 l2 fun j1 => if (S.2.1 8 32 j1) ≤ l1 then gA 24 l2 fun j2 => if (l1 - (S.2.1 8 32 j2)) < 16 then bS (f_X12_whyNot N S l2 1) fun w2 S1 => if ¬ w2 = 0 then f_X12_goQuarter_141 N (fun S l1 l2 => f_X12_goQuarter_76 n N S l1 l2) S1 l1 l2 else bS (f_X12_start N S1 l2) fun w3 S2 => f_X12_goQuarter_141 N (fun S l1 l2 => f_X12_goQuarter_76 n N S l1 l2) S2 l1 l2 else bS (f_X12_endFlight N S l2 3) fun w4 S3 => f_X12_goQuarter_141 N (fun S l1 l2 => f_X12_goQuarter_76 n N S l1 l2) S3 l1 l2 else f_X12_goQuarter_141 N (fun S l1 l2 => f_X12_goQuarter_76 n N S l1 l2) S l1 l2
set_option maxHeartbeats 4000000 in
set_option maxRecDepth 40000 in
theorem w_X12_goQuarter_76 {F : xH} {ev : xEv} {prim : xRel} {d sz : Nat} {T : yT} {v : Int32} {S' : yS} (N : Nat) (n : Nat) : ∀ (S : yS) (l1 : Int32) (l2 : Int32) (hp : xH) (lv : xLv) (a0 : Nat) (fa0 : yAt T 12 8 0 a0) (g0 : xG lv 0 = some (.ref a0)) (g1 : xG lv 1 = some (.int l1)) (g2 : xG lv 2 = some (.int l2)) (hM : cR [8] F ev T S hp) (h : f_X12_goQuarter_76 n N S l1 l2 = some (v, S')), yWE ev.2.1 (xstr ev) (xCalls ev xmi (xprog ev) prim (d + 407)) (pX12_goQuarter ev) (76, lv, [], hp, sz, 0) (ypQ [8] F ev T sz (none) S') := by
  induction n with
  | zero => intro S l1 l2 hp lv a0 fa0 g0 g1 g2 hM h; exact n_some h
  | succ n ih =>
    intro S l1 l2 hp lv a0 fa0 g0 g1 g2 hM h
    unfold f_X12_goQuarter_76 at h
    refine ye_iload rfl g2 ?_
    refine ye_aload rfl g0 ?_
    refine ye_getf rfl (hM.obj fa0 ⟨rfl, rfl⟩) rfl ?_
    refine ye_icmp_ge rfl (fun h1 => ?_) (fun h1 => ?_)
    · replace h := yiT h1 h
      refine ye_p rfl rfl ?_
      refine ye_p rfl rfl ?_
      have g0_z1 := xG_o1 (i := 2) (v := .int 0) g0 rfl
      have g2_z1 := xG_same lv 2 (.int 0)
      generalize xSt1 lv 2 (.int 0) = lvz1 at g0_z1 g2_z1 ⊢
      exact w_X12_goQuarter_149 (prim := prim) (d := d) N N S 0 hp lvz1 a0 fa0 g0_z1 g2_z1 hM h
    · replace h := yiN h1 h
      refine ye_aload rfl g0 ?_
      refine ye_iload rfl g2 ?_
      obtain ⟨w1, hw1, h⟩ := bV_some h
      refine ye_callV (As := [.int l2]) (rest := []) 0 (Or.inl rfl) rfl rfl rfl (Nat.le_of_ble_eq_true rfl) (hM.obj fa0 ⟨rfl, rfl⟩) ((m_X12_waits (d := d + 405) (T := T) N S l2 a0 fa0 hw1) hp sz hM) ?_
      refine ye_if_eq rfl (fun h2 => ?_) (fun h2 => ?_)
      · replace h := yiT h2 h
        exact w_X12_goQuarter_141 (prim := prim) (d := d) N (fun S l1 l2 => f_X12_goQuarter_76 n N S l1 l2) ih S l1 l2 hp lv a0 fa0 g0 g1 g2 hM h
      · replace h := yiN h2 h
        refine ye_aload rfl g0 ?_
        refine ye_getr rfl (hM.obj fa0 ⟨rfl, rfl⟩) rfl (fun cx1 ecx1 => ?_)
        have fcx1 := yAt.row fa0 ecx1
        refine ye_iload rfl g2 ?_
        obtain ⟨j1, ej1, ij1, h⟩ := gA_some h
        refine yj_ald rfl (hM.arr fcx1 yr_12_32) ij1 ej1 ?_
        refine ye_iload rfl g1 ?_
        refine ye_icmp_le rfl (fun h3 => ?_) (fun h3 => ?_)
        · replace h := yiT h3 h
          refine ye_iload rfl g1 ?_
          refine ye_aload rfl g0 ?_
          refine ye_getr rfl (hM.obj fa0 ⟨rfl, rfl⟩) rfl (fun cx2 ecx2 => ?_)
          have fcx2 := yAt.row fa0 ecx2
          refine ye_iload rfl g2 ?_
          obtain ⟨j2, ej2, ij2, h⟩ := gA_some h
          refine yj_ald rfl (hM.arr fcx2 yr_12_32) ij2 ej2 ?_
          refine ye_p rfl rfl ?_
          refine ye_p rfl rfl ?_
          refine ye_icmp_lt rfl (fun h4 => ?_) (fun h4 => ?_)
          · replace h := yiT h4 h
            refine ye_aload rfl g0 ?_
            refine ye_iload rfl g2 ?_
            refine ye_p rfl rfl ?_
            obtain ⟨w2, S1, hw2, h⟩ := bS_some h
            obtain ⟨y1, cy1, M1⟩ := (m_X12_whyNot (d := d + 0) (T := T) N S l2 1 a0 fa0 hw2) hp sz hM
            refine ye_callV (As := [.int l2, .int 1]) (rest := []) 0 (Or.inl rfl) rfl rfl rfl (Nat.le_of_ble_eq_true rfl) (hM.obj fa0 ⟨rfl, rfl⟩) cy1 ?_
            refine ye_if_ne rfl (fun h5 => ?_) (fun h5 => ?_)
            · replace h := yiT h5 h
              exact w_X12_goQuarter_141 (prim := prim) (d := d) N (fun S l1 l2 => f_X12_goQuarter_76 n N S l1 l2) ih S1 l1 l2 y1 lv a0 fa0 g0 g1 g2 M1 h
            · replace h := yiN h5 h
              refine ye_aload rfl g0 ?_
              refine ye_iload rfl g2 ?_
              obtain ⟨w3, S2, hw3, h⟩ := bS_some h
              obtain ⟨y2, cy2, M2⟩ := (m_X12_start (d := d + 404) (T := T) N S1 l2 a0 fa0 hw3) y1 sz M1
              refine ye_callV (As := [.int l2]) (rest := []) 0 (Or.inl rfl) rfl rfl rfl (Nat.le_of_ble_eq_true rfl) (M1.obj fa0 ⟨rfl, rfl⟩) cy2 ?_
              exact w_X12_goQuarter_141 (prim := prim) (d := d) N (fun S l1 l2 => f_X12_goQuarter_76 n N S l1 l2) ih S2 l1 l2 y2 lv a0 fa0 g0 g1 g2 M2 h
          · replace h := yiN h4 h
            refine ye_aload rfl g0 ?_
            refine ye_iload rfl g2 ?_
            refine ye_p rfl rfl ?_
            obtain ⟨w4, S3, hw4, h⟩ := bS_some h
            obtain ⟨y3, cy3, M3⟩ := (m_X12_endFlight (d := d + 405) (T := T) N S l2 3 a0 fa0 hw4) hp sz hM
            refine ye_callV (As := [.int l2, .int 3]) (rest := []) 0 (Or.inl rfl) rfl rfl rfl (Nat.le_of_ble_eq_true rfl) (hM.obj fa0 ⟨rfl, rfl⟩) cy3 ?_
            refine ye_p rfl rfl ?_
            exact w_X12_goQuarter_141 (prim := prim) (d := d) N (fun S l1 l2 => f_X12_goQuarter_76 n N S l1 l2) ih S3 l1 l2 y3 lv a0 fa0 g0 g1 g2 M3 h
        · replace h := yiN h3 h
          refine ye_p rfl rfl ?_
          exact w_X12_goQuarter_141 (prim := prim) (d := d) N (fun S l1 l2 => f_X12_goQuarter_76 n N S l1 l2) ih S l1 l2 hp lv a0 fa0 g0 g1 g2 hM h

def f_X12_goQuarter_39 : Nat → Nat → yS → Int32 → Int32 → Option (Int32 × yS)
  | 0, _, _, _, _ => none
  | n + 1, N, S, l1, l2 => if (S.1 8 28) ≤ l2 then f_X12_goQuarter_76 N N S l1 0 else bV (f_X12_bagOf N S l2 2) fun w1 => if ¬ w1 = l1 then f_X12_goQuarter_68 N (fun S l1 l2 => f_X12_goQuarter_39 n N S l1 l2) S l1 l2 else gA 30 l2 fun j1 => bS (f_X12_arrive N S l2 (S.2.1 8 24 j1)) fun w2 S1 => f_X12_goQuarter_68 N (fun S l1 l2 => f_X12_goQuarter_39 n N S l1 l2) S1 l1 l2
set_option maxHeartbeats 4000000 in
set_option maxRecDepth 40000 in
theorem w_X12_goQuarter_39 {F : xH} {ev : xEv} {prim : xRel} {d sz : Nat} {T : yT} {v : Int32} {S' : yS} (N : Nat) (n : Nat) : ∀ (S : yS) (l1 : Int32) (l2 : Int32) (hp : xH) (lv : xLv) (a0 : Nat) (fa0 : yAt T 12 8 0 a0) (g0 : xG lv 0 = some (.ref a0)) (g1 : xG lv 1 = some (.int l1)) (g2 : xG lv 2 = some (.int l2)) (hM : cR [8] F ev T S hp) (h : f_X12_goQuarter_39 n N S l1 l2 = some (v, S')), yWE ev.2.1 (xstr ev) (xCalls ev xmi (xprog ev) prim (d + 407)) (pX12_goQuarter ev) (39, lv, [], hp, sz, 0) (ypQ [8] F ev T sz (none) S') := by
  induction n with
  | zero => intro S l1 l2 hp lv a0 fa0 g0 g1 g2 hM h; exact n_some h
  | succ n ih =>
    intro S l1 l2 hp lv a0 fa0 g0 g1 g2 hM h
    unfold f_X12_goQuarter_39 at h
    refine ye_iload rfl g2 ?_
    refine ye_aload rfl g0 ?_
    refine ye_getf rfl (hM.obj fa0 ⟨rfl, rfl⟩) rfl ?_
    refine ye_icmp_ge rfl (fun h1 => ?_) (fun h1 => ?_)
    · replace h := yiT h1 h
      refine ye_p rfl rfl ?_
      refine ye_p rfl rfl ?_
      have g0_z1 := xG_o1 (i := 2) (v := .int 0) g0 rfl
      have g1_z1 := xG_o1 (i := 2) (v := .int 0) g1 rfl
      have g2_z1 := xG_same lv 2 (.int 0)
      generalize xSt1 lv 2 (.int 0) = lvz1 at g0_z1 g1_z1 g2_z1 ⊢
      exact w_X12_goQuarter_76 (prim := prim) (d := d) N N S l1 0 hp lvz1 a0 fa0 g0_z1 g1_z1 g2_z1 hM h
    · replace h := yiN h1 h
      refine ye_aload rfl g0 ?_
      refine ye_iload rfl g2 ?_
      refine ye_p rfl rfl ?_
      obtain ⟨w1, hw1, h⟩ := bV_some h
      refine ye_callV (As := [.int l2, .int 2]) (rest := []) 0 (Or.inl rfl) rfl rfl rfl (Nat.le_of_ble_eq_true rfl) (hM.obj fa0 ⟨rfl, rfl⟩) ((m_X12_bagOf (d := d + 406) (T := T) N S l2 2 a0 fa0 hw1) hp sz hM) ?_
      refine ye_iload rfl g1 ?_
      refine ye_icmp_ne rfl (fun h2 => ?_) (fun h2 => ?_)
      · replace h := yiT h2 h
        exact w_X12_goQuarter_68 (prim := prim) (d := d) N (fun S l1 l2 => f_X12_goQuarter_39 n N S l1 l2) ih S l1 l2 hp lv a0 fa0 g0 g1 g2 hM h
      · replace h := yiN h2 h
        refine ye_aload rfl g0 ?_
        refine ye_iload rfl g2 ?_
        refine ye_aload rfl g0 ?_
        refine ye_getr rfl (hM.obj fa0 ⟨rfl, rfl⟩) rfl (fun cx1 ecx1 => ?_)
        have fcx1 := yAt.row fa0 ecx1
        refine ye_iload rfl g2 ?_
        obtain ⟨j1, ej1, ij1, h⟩ := gA_some h
        refine yj_ald rfl (hM.arr fcx1 yr_12_24) ij1 ej1 ?_
        obtain ⟨w2, S1, hw2, h⟩ := bS_some h
        obtain ⟨y1, cy1, M1⟩ := (m_X12_arrive (d := d + 404) (T := T) N S l2 (S.2.1 8 24 j1) a0 fa0 hw2) hp sz hM
        refine ye_callV (As := [.int l2, .int (S.2.1 8 24 j1)]) (rest := []) 0 (Or.inl rfl) rfl rfl rfl (Nat.le_of_ble_eq_true rfl) (hM.obj fa0 ⟨rfl, rfl⟩) cy1 ?_
        exact w_X12_goQuarter_68 (prim := prim) (d := d) N (fun S l1 l2 => f_X12_goQuarter_39 n N S l1 l2) ih S1 l1 l2 y1 lv a0 fa0 g0 g1 g2 M1 h

def f_X12_goQuarter_37 (N : Nat) (S : yS) (l1 : Int32) : Option (Int32 × yS) := f_X12_goQuarter_39 N N S l1 0
set_option maxHeartbeats 4000000 in
set_option maxRecDepth 40000 in
theorem w_X12_goQuarter_37 {F : xH} {ev : xEv} {prim : xRel} {d sz : Nat} {T : yT} {v : Int32} {S' : yS} (N : Nat) (S : yS) (l1 : Int32) (hp : xH) (lv : xLv) (a0 : Nat) (fa0 : yAt T 12 8 0 a0) (g0 : xG lv 0 = some (.ref a0)) (g1 : xG lv 1 = some (.int l1)) (hM : cR [8] F ev T S hp) (h : f_X12_goQuarter_37 N S l1 = some (v, S')) : yWE ev.2.1 (xstr ev) (xCalls ev xmi (xprog ev) prim (d + 407)) (pX12_goQuarter ev) (37, lv, [], hp, sz, 0) (ypQ [8] F ev T sz (none) S') := by
  unfold f_X12_goQuarter_37 at h
  refine ye_p rfl rfl ?_
  refine ye_p rfl rfl ?_
  have g0_z1 := xG_o1 (i := 2) (v := .int 0) g0 rfl
  have g1_z1 := xG_o1 (i := 2) (v := .int 0) g1 rfl
  have g2_z1 := xG_same lv 2 (.int 0)
  generalize xSt1 lv 2 (.int 0) = lvz1 at g0_z1 g1_z1 g2_z1 ⊢
  exact w_X12_goQuarter_39 (prim := prim) (d := d) N N S l1 0 hp lvz1 a0 fa0 g0_z1 g1_z1 g2_z1 hM h

def f_X12_goQuarter_16 : Nat → Nat → yS → Int32 → Int32 → Option (Int32 × yS)
  | 0, _, _, _, _ => none
  | n + 1, N, S, l1, l2 => if (S.1 8 22) ≤ l2 then f_X12_goQuarter_37 N S l1 else bS (f_X12_setPilot N S l2 2 0) fun w1 S1 => f_X12_goQuarter_16 n N S1 l1 (l2 + 1)
set_option maxHeartbeats 4000000 in
set_option maxRecDepth 40000 in
theorem w_X12_goQuarter_16 {F : xH} {ev : xEv} {prim : xRel} {d sz : Nat} {T : yT} {v : Int32} {S' : yS} (N : Nat) (n : Nat) : ∀ (S : yS) (l1 : Int32) (l2 : Int32) (hp : xH) (lv : xLv) (a0 : Nat) (fa0 : yAt T 12 8 0 a0) (g0 : xG lv 0 = some (.ref a0)) (g1 : xG lv 1 = some (.int l1)) (g2 : xG lv 2 = some (.int l2)) (hM : cR [8] F ev T S hp) (h : f_X12_goQuarter_16 n N S l1 l2 = some (v, S')), yWE ev.2.1 (xstr ev) (xCalls ev xmi (xprog ev) prim (d + 407)) (pX12_goQuarter ev) (16, lv, [], hp, sz, 0) (ypQ [8] F ev T sz (none) S') := by
  induction n with
  | zero => intro S l1 l2 hp lv a0 fa0 g0 g1 g2 hM h; exact n_some h
  | succ n ih =>
    intro S l1 l2 hp lv a0 fa0 g0 g1 g2 hM h
    unfold f_X12_goQuarter_16 at h
    refine ye_iload rfl g2 ?_
    refine ye_aload rfl g0 ?_
    refine ye_getf rfl (hM.obj fa0 ⟨rfl, rfl⟩) rfl ?_
    refine ye_icmp_ge rfl (fun h1 => ?_) (fun h1 => ?_)
    · replace h := yiT h1 h
      exact w_X12_goQuarter_37 (prim := prim) (d := d) N S l1 hp lv a0 fa0 g0 g1 hM h
    · replace h := yiN h1 h
      refine ye_aload rfl g0 ?_
      refine ye_iload rfl g2 ?_
      refine ye_p rfl rfl ?_
      refine ye_p rfl rfl ?_
      obtain ⟨w1, S1, hw1, h⟩ := bS_some h
      obtain ⟨y1, cy1, M1⟩ := (m_X12_setPilot (d := d + 406) (T := T) N S l2 2 0 a0 fa0 hw1) hp sz hM
      refine ye_callV (As := [.int l2, .int 2, .int 0]) (rest := []) 0 (Or.inl rfl) rfl rfl rfl (Nat.le_of_ble_eq_true rfl) (hM.obj fa0 ⟨rfl, rfl⟩) cy1 ?_
      refine ye_iinc rfl g2 ?_
      have g0_z1 := xG_o1 (i := 2) (v := .int (l2 + 1)) g0 rfl
      have g1_z1 := xG_o1 (i := 2) (v := .int (l2 + 1)) g1 rfl
      have g2_z1 := xG_same lv 2 (.int (l2 + 1))
      generalize xSt1 lv 2 (.int (l2 + 1)) = lvz1 at g0_z1 g1_z1 g2_z1 ⊢
      refine ye_p rfl rfl ?_
      exact ih S1 l1 (l2 + 1) y1 lvz1 a0 fa0 g0_z1 g1_z1 g2_z1 M1 h

def f_X12_goQuarter_0 (N : Nat) (S : yS) : Option (Int32 × yS) := gA 2305 0 fun j1 => if ¬ ((S.2.1 8 48 j1) - (S.2.1 8 48 j1) / 96 * 96) = 0 then f_X12_goQuarter_37 N S (S.2.1 8 48 j1) else f_X12_goQuarter_16 N N S (S.2.1 8 48 j1) 0
set_option maxHeartbeats 4000000 in
set_option maxRecDepth 40000 in
theorem w_X12_goQuarter_0 {F : xH} {ev : xEv} {prim : xRel} {d sz : Nat} {T : yT} {v : Int32} {S' : yS} (N : Nat) (S : yS) (hp : xH) (lv : xLv) (a0 : Nat) (fa0 : yAt T 12 8 0 a0) (g0 : xG lv 0 = some (.ref a0)) (hM : cR [8] F ev T S hp) (h : f_X12_goQuarter_0 N S = some (v, S')) : yWE ev.2.1 (xstr ev) (xCalls ev xmi (xprog ev) prim (d + 407)) (pX12_goQuarter ev) (0, lv, [], hp, sz, 0) (ypQ [8] F ev T sz (none) S') := by
  unfold f_X12_goQuarter_0 at h
  refine ye_aload rfl g0 ?_
  refine ye_getr rfl (hM.obj fa0 ⟨rfl, rfl⟩) rfl (fun cx1 ecx1 => ?_)
  have fcx1 := yAt.row fa0 ecx1
  refine ye_p rfl rfl ?_
  obtain ⟨j1, ej1, ij1, h⟩ := gA_some h
  refine yj_ald rfl (hM.arr fcx1 yr_12_48) ij1 ej1 ?_
  refine ye_p rfl rfl ?_
  have g0_z1 := xG_o1 (i := 1) (v := .int (S.2.1 8 48 j1)) g0 rfl
  have g1_z1 := xG_same lv 1 (.int (S.2.1 8 48 j1))
  generalize xSt1 lv 1 (.int (S.2.1 8 48 j1)) = lvz1 at g0_z1 g1_z1 ⊢
  refine ye_iload rfl g1_z1 ?_
  refine ye_p rfl rfl ?_
  refine ye_div rfl (by decide) ?_
  refine ye_if_ne rfl (fun h1 => ?_) (fun h1 => ?_)
  · replace h := yiT h1 h
    exact w_X12_goQuarter_37 (prim := prim) (d := d) N S (S.2.1 8 48 j1) hp lvz1 a0 fa0 g0_z1 g1_z1 hM h
  · replace h := yiN h1 h
    refine ye_p rfl rfl ?_
    refine ye_p rfl rfl ?_
    have g0_z2 := xG_o1 (i := 2) (v := .int 0) g0_z1 rfl
    have g1_z2 := xG_o1 (i := 2) (v := .int 0) g1_z1 rfl
    have g2_z2 := xG_same lvz1 2 (.int 0)
    generalize xSt1 lvz1 2 (.int 0) = lvz2 at g0_z2 g1_z2 g2_z2 ⊢
    exact w_X12_goQuarter_16 (prim := prim) (d := d) N N S (S.2.1 8 48 j1) 0 hp lvz2 a0 fa0 g0_z2 g1_z2 g2_z2 hM h
def f_X12_goQuarter (N : Nat) (S : yS) : Option (Int32 × yS) := f_X12_goQuarter_0 N S
theorem m_X12_goQuarter {F : xH} {ev : xEv} {prim : xRel} {d : Nat} {T : yT} {v : Int32} {S' : yS} (N : Nat) (S : yS) (a0 : Nat) (fa0 : yAt T 12 8 0 a0) (h : f_X12_goQuarter N S = some (v, S')) : ykQ [8] F ev prim (d + 408) 261 T S [.ref a0] (none) S' :=
  ykQ.of (pg_261 ev) mi_261 (Nat.le_of_ble_eq_true rfl) (fun hp sz hM => w_X12_goQuarter_0 (prim := prim) (d := d) N S hp _ a0 fa0 rfl hM h)

def f_X12_step_30 (N : Nat) (S : yS) : Option (Int32 × yS) := some ((-1), S)
set_option maxHeartbeats 4000000 in
set_option maxRecDepth 40000 in
theorem w_X12_step_30 {F : xH} {ev : xEv} {prim : xRel} {d sz : Nat} {T : yT} {v : Int32} {S' : yS} (N : Nat) (S : yS) (hp : xH) (lv : xLv) (hM : cR [8] F ev T S hp) (h : f_X12_step_30 N S = some (v, S')) : yWE ev.2.1 (xstr ev) (xCalls ev xmi (xprog ev) prim (d + 408)) (pX12_step ev) (30, lv, [], hp, sz, 0) (ypQ [8] F ev T sz (some (.int v)) S') := by
  unfold f_X12_step_30 at h
  refine ye_p rfl rfl ?_
  exact ye_ret rfl rfl (rQ h hM)

def f_X12_step_34 : Nat → Nat → yS → Int32 → Int32 → Option (Int32 × yS)
  | 0, _, _, _, _ => none
  | n + 1, N, S, l1, l2 => if l1 ≤ l2 then gA 2305 0 fun j1 => some (S.2.1 8 48 j1, S) else bS (f_X12_goQuarter N S) fun w1 S1 => f_X12_step_34 n N S1 l1 (l2 + 1)
set_option maxHeartbeats 4000000 in
set_option maxRecDepth 40000 in
theorem w_X12_step_34 {F : xH} {ev : xEv} {prim : xRel} {d sz : Nat} {T : yT} {v : Int32} {S' : yS} (N : Nat) (n : Nat) : ∀ (S : yS) (l1 : Int32) (l2 : Int32) (hp : xH) (lv : xLv) (a0 : Nat) (fa0 : yAt T 12 8 0 a0) (g0 : xG lv 0 = some (.ref a0)) (g1 : xG lv 1 = some (.int l1)) (g2 : xG lv 2 = some (.int l2)) (hM : cR [8] F ev T S hp) (h : f_X12_step_34 n N S l1 l2 = some (v, S')), yWE ev.2.1 (xstr ev) (xCalls ev xmi (xprog ev) prim (d + 408)) (pX12_step ev) (34, lv, [], hp, sz, 0) (ypQ [8] F ev T sz (some (.int v)) S') := by
  induction n with
  | zero => intro S l1 l2 hp lv a0 fa0 g0 g1 g2 hM h; exact n_some h
  | succ n ih =>
    intro S l1 l2 hp lv a0 fa0 g0 g1 g2 hM h
    unfold f_X12_step_34 at h
    refine ye_iload rfl g2 ?_
    refine ye_iload rfl g1 ?_
    refine ye_icmp_ge rfl (fun h1 => ?_) (fun h1 => ?_)
    · replace h := yiT h1 h
      refine ye_aload rfl g0 ?_
      refine ye_getr rfl (hM.obj fa0 ⟨rfl, rfl⟩) rfl (fun cx1 ecx1 => ?_)
      have fcx1 := yAt.row fa0 ecx1
      refine ye_p rfl rfl ?_
      obtain ⟨j1, ej1, ij1, h⟩ := gA_some h
      refine yj_ald rfl (hM.arr fcx1 yr_12_48) ij1 ej1 ?_
      exact ye_ret rfl rfl (rQ h hM)
    · replace h := yiN h1 h
      refine ye_aload rfl g0 ?_
      obtain ⟨w1, S1, hw1, h⟩ := bS_some h
      obtain ⟨y1, cy1, M1⟩ := (m_X12_goQuarter (d := d + 0) (T := T) N S a0 fa0 hw1) hp sz hM
      refine ye_callV (As := []) (rest := []) 0 (Or.inl rfl) rfl rfl rfl (Nat.le_of_ble_eq_true rfl) (hM.obj fa0 ⟨rfl, rfl⟩) cy1 ?_
      refine ye_iinc rfl g2 ?_
      have g0_z1 := xG_o1 (i := 2) (v := .int (l2 + 1)) g0 rfl
      have g1_z1 := xG_o1 (i := 2) (v := .int (l2 + 1)) g1 rfl
      have g2_z1 := xG_same lv 2 (.int (l2 + 1))
      generalize xSt1 lv 2 (.int (l2 + 1)) = lvz1 at g0_z1 g1_z1 g2_z1 ⊢
      refine ye_p rfl rfl ?_
      exact ih S1 l1 (l2 + 1) y1 lvz1 a0 fa0 g0_z1 g1_z1 g2_z1 M1 h

def f_X12_step_0 (N : Nat) (S : yS) (l1 : Int32) : Option (Int32 × yS) := sq (yI S 8 47 0) fun S1 => bV (f_X12_in N S1 l1 0 400) fun w1 => if w1 = 0 then f_X12_step_30 N S1 else gA 2305 0 fun j1 => if ((S1.2.1 8 48 j1) + l1) ≤ 3000 then f_X12_step_34 N N S1 l1 0 else f_X12_step_30 N S1
set_option maxHeartbeats 4000000 in
set_option maxRecDepth 40000 in
theorem w_X12_step_0 {F : xH} {ev : xEv} {prim : xRel} {d sz : Nat} {T : yT} {v : Int32} {S' : yS} (N : Nat) (S : yS) (l1 : Int32) (hp : xH) (lv : xLv) (a0 : Nat) (fa0 : yAt T 12 8 0 a0) (g0 : xG lv 0 = some (.ref a0)) (g1 : xG lv 1 = some (.int l1)) (hM : cR [8] F ev T S hp) (h : f_X12_step_0 N S l1 = some (v, S')) : yWE ev.2.1 (xstr ev) (xCalls ev xmi (xprog ev) prim (d + 408)) (pX12_step ev) (0, lv, [], hp, sz, 0) (ypQ [8] F ev T sz (some (.int v)) S') := by
  unfold f_X12_step_0 at h
  refine ye_aload rfl g0 ?_
  refine ye_p rfl rfl ?_
  obtain ⟨S1, eS1, h⟩ := sq_some h
  refine yw_putI rfl hM fa0 rfl ⟨rfl, rfl⟩ (Nat.le_of_ble_eq_true rfl) rfl rfl (ys_12_47 ev T _ 0) (fun q => absurd q (by decide)) eS1 (fun y1 M1 => ?_)
  refine ye_iload rfl g1 ?_
  refine ye_p rfl rfl ?_
  refine ye_p rfl rfl ?_
  obtain ⟨w1, hw1, h⟩ := bV_some h
  refine ye_callS (As := [.int l1, .int 0, .int 400]) (rest := []) 1 (Or.inl rfl) rfl rfl rfl (Nat.le_of_ble_eq_true rfl) ((m_X12_in (d := d + 407) (T := T) N S1 l1 0 400 hw1) y1 sz M1) ?_
  refine ye_if_eq rfl (fun h1 => ?_) (fun h1 => ?_)
  · replace h := yiT h1 h
    exact w_X12_step_30 (prim := prim) (d := d) N S1 y1 lv M1 h
  · replace h := yiN h1 h
    refine ye_aload rfl g0 ?_
    refine ye_getr rfl (M1.obj fa0 ⟨rfl, rfl⟩) rfl (fun cx1 ecx1 => ?_)
    have fcx1 := yAt.row fa0 ecx1
    refine ye_p rfl rfl ?_
    obtain ⟨j1, ej1, ij1, h⟩ := gA_some h
    refine yj_ald rfl (M1.arr fcx1 yr_12_48) ij1 ej1 ?_
    refine ye_iload rfl g1 ?_
    refine ye_p rfl rfl ?_
    refine ye_p rfl rfl ?_
    refine ye_icmp_le rfl (fun h2 => ?_) (fun h2 => ?_)
    · replace h := yiT h2 h
      refine ye_p rfl rfl ?_
      refine ye_p rfl rfl ?_
      have g0_z1 := xG_o1 (i := 2) (v := .int 0) g0 rfl
      have g1_z1 := xG_o1 (i := 2) (v := .int 0) g1 rfl
      have g2_z1 := xG_same lv 2 (.int 0)
      generalize xSt1 lv 2 (.int 0) = lvz1 at g0_z1 g1_z1 g2_z1 ⊢
      exact w_X12_step_34 (prim := prim) (d := d) N N S1 l1 0 y1 lvz1 a0 fa0 g0_z1 g1_z1 g2_z1 M1 h
    · replace h := yiN h2 h
      exact w_X12_step_30 (prim := prim) (d := d) N S1 y1 lv M1 h
def f_X12_step (N : Nat) (S : yS) (xl1 : Int32) : Option (Int32 × yS) := f_X12_step_0 N S xl1
theorem m_X12_step {F : xH} {ev : xEv} {prim : xRel} {d : Nat} {T : yT} {v : Int32} {S' : yS} (N : Nat) (S : yS) (xl1 : Int32) (a0 : Nat) (fa0 : yAt T 12 8 0 a0) (h : f_X12_step N S xl1 = some (v, S')) : ykQ [8] F ev prim (d + 409) 262 T S [.ref a0, .int xl1] (some (.int v)) S' :=
  ykQ.of (pg_262 ev) mi_262 (Nat.le_of_ble_eq_true rfl) (fun hp sz hM => w_X12_step_0 (prim := prim) (d := d) N S xl1 hp _ a0 fa0 rfl rfl hM h)

def f_X12_may_23 (N : Nat) (S : yS) (t0 : Int32) : Option (Int32 × yS) := some (t0, S)
set_option maxHeartbeats 4000000 in
set_option maxRecDepth 40000 in
theorem w_X12_may_23 {F : xH} {ev : xEv} {prim : xRel} {d sz : Nat} {T : yT} {v : Int32} {S' : yS} (N : Nat) (S : yS) (t0 : Int32) (hp : xH) (lv : xLv) (hM : cR [8] F ev T S hp) (h : f_X12_may_23 N S t0 = some (v, S')) : yWE ev.2.1 (xstr ev) (xCalls ev xmi (xprog ev) prim (d + 407)) (pX12_may ev) (23, lv, [.int t0], hp, sz, 0) (ypQ [8] F ev T sz (some (.int v)) S') := by
  unfold f_X12_may_23 at h
  exact ye_ret rfl rfl (rQ h hM)

def f_X12_may_0 (N : Nat) (S : yS) (l1 : Int32) : Option (Int32 × yS) := sq (yI S 8 47 0) fun S1 => bV (f_X12_waits N S1 l1) fun w1 => if w1 = 0 then f_X12_may_23 N S1 ((-1)) else bS (f_X12_whyNot N S1 l1 0) fun w2 S2 => f_X12_may_23 N S2 w2
set_option maxHeartbeats 4000000 in
set_option maxRecDepth 40000 in
theorem w_X12_may_0 {F : xH} {ev : xEv} {prim : xRel} {d sz : Nat} {T : yT} {v : Int32} {S' : yS} (N : Nat) (S : yS) (l1 : Int32) (hp : xH) (lv : xLv) (a0 : Nat) (fa0 : yAt T 12 8 0 a0) (g0 : xG lv 0 = some (.ref a0)) (g1 : xG lv 1 = some (.int l1)) (hM : cR [8] F ev T S hp) (h : f_X12_may_0 N S l1 = some (v, S')) : yWE ev.2.1 (xstr ev) (xCalls ev xmi (xprog ev) prim (d + 407)) (pX12_may ev) (0, lv, [], hp, sz, 0) (ypQ [8] F ev T sz (some (.int v)) S') := by
  unfold f_X12_may_0 at h
  refine ye_aload rfl g0 ?_
  refine ye_p rfl rfl ?_
  obtain ⟨S1, eS1, h⟩ := sq_some h
  refine yw_putI rfl hM fa0 rfl ⟨rfl, rfl⟩ (Nat.le_of_ble_eq_true rfl) rfl rfl (ys_12_47 ev T _ 0) (fun q => absurd q (by decide)) eS1 (fun y1 M1 => ?_)
  refine ye_aload rfl g0 ?_
  refine ye_iload rfl g1 ?_
  obtain ⟨w1, hw1, h⟩ := bV_some h
  refine ye_callV (As := [.int l1]) (rest := []) 0 (Or.inl rfl) rfl rfl rfl (Nat.le_of_ble_eq_true rfl) (M1.obj fa0 ⟨rfl, rfl⟩) ((m_X12_waits (d := d + 405) (T := T) N S1 l1 a0 fa0 hw1) y1 sz M1) ?_
  refine ye_if_eq rfl (fun h1 => ?_) (fun h1 => ?_)
  · replace h := yiT h1 h
    refine ye_p rfl rfl ?_
    exact w_X12_may_23 (prim := prim) (d := d) N S1 ((-1)) y1 lv M1 h
  · replace h := yiN h1 h
    refine ye_aload rfl g0 ?_
    refine ye_iload rfl g1 ?_
    refine ye_p rfl rfl ?_
    obtain ⟨w2, S2, hw2, h⟩ := bS_some h
    obtain ⟨y2, cy2, M2⟩ := (m_X12_whyNot (d := d + 0) (T := T) N S1 l1 0 a0 fa0 hw2) y1 sz M1
    refine ye_callV (As := [.int l1, .int 0]) (rest := []) 0 (Or.inl rfl) rfl rfl rfl (Nat.le_of_ble_eq_true rfl) (M1.obj fa0 ⟨rfl, rfl⟩) cy2 ?_
    refine ye_p rfl rfl ?_
    exact w_X12_may_23 (prim := prim) (d := d) N S2 w2 y2 lv M2 h
def f_X12_may (N : Nat) (S : yS) (xl1 : Int32) : Option (Int32 × yS) := f_X12_may_0 N S xl1
theorem m_X12_may {F : xH} {ev : xEv} {prim : xRel} {d : Nat} {T : yT} {v : Int32} {S' : yS} (N : Nat) (S : yS) (xl1 : Int32) (a0 : Nat) (fa0 : yAt T 12 8 0 a0) (h : f_X12_may N S xl1 = some (v, S')) : ykQ [8] F ev prim (d + 408) 263 T S [.ref a0, .int xl1] (some (.int v)) S' :=
  ykQ.of (pg_263 ev) mi_263 (Nat.le_of_ble_eq_true rfl) (fun hp sz hM => w_X12_may_0 (prim := prim) (d := d) N S xl1 hp _ a0 fa0 rfl rfl hM h)

def f_X12_payBy_60 (N : Nat) (S : yS) (l1 : Int32) (l2 : Int32) (l3 : Int32) (t1 : Int32) (t2 : Int32) : Option (Int32 × yS) := gA 10 t1 fun j1 => sq (yA S 8 56 (upd (S.2.1 8 56) j1 t2)) fun S1 => gA 30 l2 fun j2 => gA 10 2 fun j3 => sq (yA S1 8 56 (upd (S1.2.1 8 56) j3 (S1.2.1 8 26 j2))) fun S2 => gA 30 l2 fun j4 => gA 10 3 fun j5 => sq (yA S2 8 56 (upd (S2.2.1 8 56) j5 (if 0 < (l3 - (S2.2.1 8 27 j4)) then (l3 - (S2.2.1 8 27 j4)) else 0))) fun S3 => gA 10 4 fun j6 => sq (yA S3 8 56 (upd (S3.2.1 8 56) j6 (l3 / 96))) fun S4 => gA 32 l1 fun j7 => bS (f_X12_open N S4 2 (60 * l1) (S4.2.1 8 38 j7) 0) fun w1 S5 => bS (f_X12_choiceT N S5) fun w2 S6 => some (if 0 < w2 then w2 else 0, S6)
set_option maxHeartbeats 4000000 in
set_option maxRecDepth 40000 in
theorem w_X12_payBy_60 {F : xH} {ev : xEv} {prim : xRel} {d sz : Nat} {T : yT} {v : Int32} {S' : yS} (N : Nat) (S : yS) (l1 : Int32) (l2 : Int32) (l3 : Int32) (t1 : Int32) (t2 : Int32) (hp : xH) (lv : xLv) (a0 : Nat) (b0 : Nat) (fa0 : yAt T 12 8 0 a0) (fb0 : yAt T 12 8 57 b0) (g0 : xG lv 0 = some (.ref a0)) (g1 : xG lv 1 = some (.int l1)) (g2 : xG lv 2 = some (.int l2)) (g3 : xG lv 3 = some (.int l3)) (hM : cR [8] F ev T S hp) (h : f_X12_payBy_60 N S l1 l2 l3 t1 t2 = some (v, S')) : yWE ev.2.1 (xstr ev) (xCalls ev xmi (xprog ev) prim (d + 404)) (pX12_payBy ev) (60, lv, [.int t2, .int t1, .ref b0], hp, sz, 0) (ypQ [8] F ev T sz (some (.int v)) S') := by
  unfold f_X12_payBy_60 at h
  obtain ⟨j1, ej1, ij1, h⟩ := gA_some h
  obtain ⟨S1, eS1, h⟩ := sq_some h
  refine yw_ast rfl hM fb0 yr_12_56 (by decide) ij1 ej1 eS1 (fun y1 M1 => ?_)
  refine ye_aload rfl g0 ?_
  refine ye_getr rfl (M1.obj fa0 ⟨rfl, rfl⟩) rfl (fun cx1 ecx1 => ?_)
  have fcx1 := yAt.row fa0 ecx1
  refine ye_p rfl rfl ?_
  refine ye_aload rfl g0 ?_
  refine ye_getr rfl (M1.obj fa0 ⟨rfl, rfl⟩) rfl (fun cx2 ecx2 => ?_)
  have fcx2 := yAt.row fa0 ecx2
  refine ye_iload rfl g2 ?_
  obtain ⟨j2, ej2, ij2, h⟩ := gA_some h
  refine yj_ald rfl (M1.arr fcx2 yr_12_26) ij2 ej2 ?_
  obtain ⟨j3, ej3, ij3, h⟩ := gA_some h
  obtain ⟨S2, eS2, h⟩ := sq_some h
  refine yw_ast rfl M1 fcx1 yr_12_56 (by decide) ij3 ej3 eS2 (fun y2 M2 => ?_)
  refine ye_aload rfl g0 ?_
  refine ye_getr rfl (M2.obj fa0 ⟨rfl, rfl⟩) rfl (fun cx3 ecx3 => ?_)
  have fcx3 := yAt.row fa0 ecx3
  refine ye_p rfl rfl ?_
  refine ye_p rfl rfl ?_
  refine ye_iload rfl g3 ?_
  refine ye_aload rfl g0 ?_
  refine ye_getr rfl (M2.obj fa0 ⟨rfl, rfl⟩) rfl (fun cx4 ecx4 => ?_)
  have fcx4 := yAt.row fa0 ecx4
  refine ye_iload rfl g2 ?_
  obtain ⟨j4, ej4, ij4, h⟩ := gA_some h
  refine yj_ald rfl (M2.arr fcx4 yr_12_27) ij4 ej4 ?_
  refine ye_p rfl rfl ?_
  refine ye_p rfl rfl ?_
  obtain ⟨j5, ej5, ij5, h⟩ := gA_some h
  obtain ⟨S3, eS3, h⟩ := sq_some h
  refine yw_ast rfl M2 fcx3 yr_12_56 (by decide) ij5 ej5 eS3 (fun y3 M3 => ?_)
  refine ye_aload rfl g0 ?_
  refine ye_getr rfl (M3.obj fa0 ⟨rfl, rfl⟩) rfl (fun cx5 ecx5 => ?_)
  have fcx5 := yAt.row fa0 ecx5
  refine ye_p rfl rfl ?_
  refine ye_iload rfl g3 ?_
  refine ye_p rfl rfl ?_
  refine ye_div rfl (by decide) ?_
  obtain ⟨j6, ej6, ij6, h⟩ := gA_some h
  obtain ⟨S4, eS4, h⟩ := sq_some h
  refine yw_ast rfl M3 fcx5 yr_12_56 (by decide) ij6 ej6 eS4 (fun y4 M4 => ?_)
  refine ye_aload rfl g0 ?_
  refine ye_aload rfl g0 ?_
  refine ye_getr rfl (M4.obj fa0 ⟨rfl, rfl⟩) rfl (fun cx6 ecx6 => ?_)
  have fcx6 := yAt.row fa0 ecx6
  refine ye_p rfl rfl ?_
  refine ye_iload rfl g1 ?_
  refine ye_p rfl rfl ?_
  refine ye_aload rfl g0 ?_
  refine ye_getr rfl (M4.obj fa0 ⟨rfl, rfl⟩) rfl (fun cx7 ecx7 => ?_)
  have fcx7 := yAt.row fa0 ecx7
  refine ye_iload rfl g1 ?_
  obtain ⟨j7, ej7, ij7, h⟩ := gA_some h
  refine yj_ald rfl (M4.arr fcx7 yr_12_38) ij7 ej7 ?_
  refine ye_p rfl rfl ?_
  obtain ⟨w1, S5, hw1, h⟩ := bS_some h
  obtain ⟨y5, cy5, M5⟩ := (m_X12_open (d := d + 403) (T := T) N S4 2 (60 * l1) (S4.2.1 8 38 j7) 0 a0 cx6 fa0 (yB_2 fcx6) hw1) y4 sz M4
  refine ye_callV (As := [.ref cx6, .int (60 * l1), .int (S4.2.1 8 38 j7), .ref (ev.2.1 0)]) (rest := []) 0 (Or.inl rfl) rfl rfl rfl (Nat.le_of_ble_eq_true rfl) (M4.obj fa0 ⟨rfl, rfl⟩) cy5 ?_
  refine ye_p rfl rfl ?_
  refine ye_aload rfl g0 ?_
  obtain ⟨w2, S6, hw2, h⟩ := bS_some h
  obtain ⟨y6, cy6, M6⟩ := (m_X12_choiceT (d := d + 0) (T := T) N S5 a0 fa0 hw2) y5 sz M5
  refine ye_callV (As := []) (rest := [.int 0]) 0 (Or.inl rfl) rfl rfl rfl (Nat.le_of_ble_eq_true rfl) (M5.obj fa0 ⟨rfl, rfl⟩) cy6 ?_
  refine ye_p rfl rfl ?_
  exact ye_ret rfl rfl (rQ h M6)

def f_X12_payBy_0 (N : Nat) (S : yS) (l1 : Int32) (l2 : Int32) : Option (Int32 × yS) := bV (f_X12_bagOf N S l2 3) fun w1 => gA 30 l2 fun j1 => gA 10 0 fun j2 => sq (yA S 8 56 (upd (S.2.1 8 56) j2 (S.2.1 8 25 j1))) fun S1 => gA 30 l2 fun j3 => gA 30 l2 fun j4 => gA 64 ((8 * (S1.2.1 8 23 j3)) + (S1.2.1 8 24 j4)) fun j5 => if (S1.2.1 8 10 j5) < 268435456 then f_X12_payBy_60 N S1 l1 l2 w1 1 (S1.2.1 8 10 j5) else f_X12_payBy_60 N S1 l1 l2 w1 1 0
set_option maxHeartbeats 4000000 in
set_option maxRecDepth 40000 in
theorem w_X12_payBy_0 {F : xH} {ev : xEv} {prim : xRel} {d sz : Nat} {T : yT} {v : Int32} {S' : yS} (N : Nat) (S : yS) (l1 : Int32) (l2 : Int32) (hp : xH) (lv : xLv) (a0 : Nat) (fa0 : yAt T 12 8 0 a0) (g0 : xG lv 0 = some (.ref a0)) (g1 : xG lv 1 = some (.int l1)) (g2 : xG lv 2 = some (.int l2)) (hM : cR [8] F ev T S hp) (h : f_X12_payBy_0 N S l1 l2 = some (v, S')) : yWE ev.2.1 (xstr ev) (xCalls ev xmi (xprog ev) prim (d + 404)) (pX12_payBy ev) (0, lv, [], hp, sz, 0) (ypQ [8] F ev T sz (some (.int v)) S') := by
  unfold f_X12_payBy_0 at h
  refine ye_aload rfl g0 ?_
  refine ye_iload rfl g2 ?_
  refine ye_p rfl rfl ?_
  obtain ⟨w1, hw1, h⟩ := bV_some h
  refine ye_callV (As := [.int l2, .int 3]) (rest := []) 0 (Or.inl rfl) rfl rfl rfl (Nat.le_of_ble_eq_true rfl) (hM.obj fa0 ⟨rfl, rfl⟩) ((m_X12_bagOf (d := d + 403) (T := T) N S l2 3 a0 fa0 hw1) hp sz hM) ?_
  refine ye_p rfl rfl ?_
  have g0_z1 := xG_o1 (i := 3) (v := .int w1) g0 rfl
  have g1_z1 := xG_o1 (i := 3) (v := .int w1) g1 rfl
  have g2_z1 := xG_o1 (i := 3) (v := .int w1) g2 rfl
  have g3_z1 := xG_same lv 3 (.int w1)
  generalize xSt1 lv 3 (.int w1) = lvz1 at g0_z1 g1_z1 g2_z1 g3_z1 ⊢
  refine ye_aload rfl g0_z1 ?_
  refine ye_getr rfl (hM.obj fa0 ⟨rfl, rfl⟩) rfl (fun cx1 ecx1 => ?_)
  have fcx1 := yAt.row fa0 ecx1
  refine ye_p rfl rfl ?_
  refine ye_aload rfl g0_z1 ?_
  refine ye_getr rfl (hM.obj fa0 ⟨rfl, rfl⟩) rfl (fun cx2 ecx2 => ?_)
  have fcx2 := yAt.row fa0 ecx2
  refine ye_iload rfl g2_z1 ?_
  obtain ⟨j1, ej1, ij1, h⟩ := gA_some h
  refine yj_ald rfl (hM.arr fcx2 yr_12_25) ij1 ej1 ?_
  obtain ⟨j2, ej2, ij2, h⟩ := gA_some h
  obtain ⟨S1, eS1, h⟩ := sq_some h
  refine yw_ast rfl hM fcx1 yr_12_56 (by decide) ij2 ej2 eS1 (fun y1 M1 => ?_)
  refine ye_aload rfl g0_z1 ?_
  refine ye_getr rfl (M1.obj fa0 ⟨rfl, rfl⟩) rfl (fun cx3 ecx3 => ?_)
  have fcx3 := yAt.row fa0 ecx3
  refine ye_p rfl rfl ?_
  refine ye_aload rfl g0_z1 ?_
  refine ye_getr rfl (M1.obj fa0 ⟨rfl, rfl⟩) rfl (fun cx4 ecx4 => ?_)
  have fcx4 := yAt.row fa0 ecx4
  refine ye_iload rfl g2_z1 ?_
  obtain ⟨j3, ej3, ij3, h⟩ := gA_some h
  refine yj_ald rfl (M1.arr fcx4 yr_12_23) ij3 ej3 ?_
  refine ye_p rfl rfl ?_
  refine ye_aload rfl g0_z1 ?_
  refine ye_getr rfl (M1.obj fa0 ⟨rfl, rfl⟩) rfl (fun cx5 ecx5 => ?_)
  have fcx5 := yAt.row fa0 ecx5
  refine ye_iload rfl g2_z1 ?_
  obtain ⟨j4, ej4, ij4, h⟩ := gA_some h
  refine yj_ald rfl (M1.arr fcx5 yr_12_24) ij4 ej4 ?_
  refine ye_p rfl rfl ?_
  obtain ⟨j5, ej5, ij5, h⟩ := gA_some h
  refine yj_ald rfl (M1.arr fcx3 yr_12_10) ij5 ej5 ?_
  refine ye_p rfl rfl ?_
  have g0_z2 := xG_o1 (i := 4) (v := .int (S1.2.1 8 10 j5)) g0_z1 rfl
  have g1_z2 := xG_o1 (i := 4) (v := .int (S1.2.1 8 10 j5)) g1_z1 rfl
  have g2_z2 := xG_o1 (i := 4) (v := .int (S1.2.1 8 10 j5)) g2_z1 rfl
  have g3_z2 := xG_o1 (i := 4) (v := .int (S1.2.1 8 10 j5)) g3_z1 rfl
  have g4_z2 := xG_same lvz1 4 (.int (S1.2.1 8 10 j5))
  generalize xSt1 lvz1 4 (.int (S1.2.1 8 10 j5)) = lvz2 at g0_z2 g1_z2 g2_z2 g3_z2 g4_z2 ⊢
  refine ye_aload rfl g0_z2 ?_
  refine ye_getr rfl (M1.obj fa0 ⟨rfl, rfl⟩) rfl (fun cx6 ecx6 => ?_)
  have fcx6 := yAt.row fa0 ecx6
  refine ye_p rfl rfl ?_
  refine ye_iload rfl g4_z2 ?_
  refine ye_p rfl rfl ?_
  refine ye_icmp_lt rfl (fun h1 => ?_) (fun h1 => ?_)
  · replace h := yiT h1 h
    refine ye_iload rfl g4_z2 ?_
    exact w_X12_payBy_60 (prim := prim) (d := d) N S1 l1 l2 w1 1 (S1.2.1 8 10 j5) y1 lvz2 a0 cx6 fa0 fcx6 g0_z2 g1_z2 g2_z2 g3_z2 M1 h
  · replace h := yiN h1 h
    refine ye_p rfl rfl ?_
    refine ye_p rfl rfl ?_
    exact w_X12_payBy_60 (prim := prim) (d := d) N S1 l1 l2 w1 1 0 y1 lvz2 a0 cx6 fa0 fcx6 g0_z2 g1_z2 g2_z2 g3_z2 M1 h
def f_X12_payBy (N : Nat) (S : yS) (xl1 : Int32) (xl2 : Int32) : Option (Int32 × yS) := f_X12_payBy_0 N S xl1 xl2
theorem m_X12_payBy {F : xH} {ev : xEv} {prim : xRel} {d : Nat} {T : yT} {v : Int32} {S' : yS} (N : Nat) (S : yS) (xl1 : Int32) (xl2 : Int32) (a0 : Nat) (fa0 : yAt T 12 8 0 a0) (h : f_X12_payBy N S xl1 xl2 = some (v, S')) : ykQ [8] F ev prim (d + 405) 269 T S [.ref a0, .int xl1, .int xl2] (some (.int v)) S' :=
  ykQ.of (pg_269 ev) mi_269 (Nat.le_of_ble_eq_true rfl) (fun hp sz hM => w_X12_payBy_0 (prim := prim) (d := d) N S xl1 xl2 hp _ a0 fa0 rfl rfl rfl hM h)

def f_X12_payOf_42 (N : Nat) (S : yS) (t0 : Int32) : Option (Int32 × yS) := some (t0, S)
set_option maxHeartbeats 4000000 in
set_option maxRecDepth 40000 in
theorem w_X12_payOf_42 {F : xH} {ev : xEv} {prim : xRel} {d sz : Nat} {T : yT} {v : Int32} {S' : yS} (N : Nat) (S : yS) (t0 : Int32) (hp : xH) (lv : xLv) (hM : cR [8] F ev T S hp) (h : f_X12_payOf_42 N S t0 = some (v, S')) : yWE ev.2.1 (xstr ev) (xCalls ev xmi (xprog ev) prim (d + 405)) (pX12_payOf ev) (42, lv, [.int t0], hp, sz, 0) (ypQ [8] F ev T sz (some (.int v)) S') := by
  unfold f_X12_payOf_42 at h
  exact ye_ret rfl rfl (rQ h hM)

def f_X12_payOf_0 (N : Nat) (S : yS) (l1 : Int32) : Option (Int32 × yS) := bV (f_X12_bagOf N S l1 3) fun w1 => if ¬ w1 = ((-1)) then bV (f_X12_bagOf N S l1 3) fun w2 => bV (f_X12_textOf N S 2 (w2 / 96)) fun w3 => if ¬ w3 = ((-1)) then bS (f_X12_payBy N S w3 l1) fun w4 S1 => f_X12_payOf_42 N S1 w4 else f_X12_payOf_42 N S 0 else some (0, S)
set_option maxHeartbeats 4000000 in
set_option maxRecDepth 40000 in
theorem w_X12_payOf_0 {F : xH} {ev : xEv} {prim : xRel} {d sz : Nat} {T : yT} {v : Int32} {S' : yS} (N : Nat) (S : yS) (l1 : Int32) (hp : xH) (lv : xLv) (a0 : Nat) (fa0 : yAt T 12 8 0 a0) (g0 : xG lv 0 = some (.ref a0)) (g1 : xG lv 1 = some (.int l1)) (hM : cR [8] F ev T S hp) (h : f_X12_payOf_0 N S l1 = some (v, S')) : yWE ev.2.1 (xstr ev) (xCalls ev xmi (xprog ev) prim (d + 405)) (pX12_payOf ev) (0, lv, [], hp, sz, 0) (ypQ [8] F ev T sz (some (.int v)) S') := by
  unfold f_X12_payOf_0 at h
  refine ye_aload rfl g0 ?_
  refine ye_iload rfl g1 ?_
  refine ye_p rfl rfl ?_
  obtain ⟨w1, hw1, h⟩ := bV_some h
  refine ye_callV (As := [.int l1, .int 3]) (rest := []) 0 (Or.inl rfl) rfl rfl rfl (Nat.le_of_ble_eq_true rfl) (hM.obj fa0 ⟨rfl, rfl⟩) ((m_X12_bagOf (d := d + 404) (T := T) N S l1 3 a0 fa0 hw1) hp sz hM) ?_
  refine ye_p rfl rfl ?_
  refine ye_icmp_ne rfl (fun h1 => ?_) (fun h1 => ?_)
  · replace h := yiT h1 h
    refine ye_aload rfl g0 ?_
    refine ye_p rfl rfl ?_
    refine ye_aload rfl g0 ?_
    refine ye_iload rfl g1 ?_
    refine ye_p rfl rfl ?_
    obtain ⟨w2, hw2, h⟩ := bV_some h
    refine ye_callV (As := [.int l1, .int 3]) (rest := [.int 2, .ref a0]) 0 (Or.inl rfl) rfl rfl rfl (Nat.le_of_ble_eq_true rfl) (hM.obj fa0 ⟨rfl, rfl⟩) ((m_X12_bagOf (d := d + 404) (T := T) N S l1 3 a0 fa0 hw2) hp sz hM) ?_
    refine ye_p rfl rfl ?_
    refine ye_div rfl (by decide) ?_
    obtain ⟨w3, hw3, h⟩ := bV_some h
    refine ye_callV (As := [.int 2, .int (w2 / 96)]) (rest := []) 0 (Or.inl rfl) rfl rfl rfl (Nat.le_of_ble_eq_true rfl) (hM.obj fa0 ⟨rfl, rfl⟩) ((m_X12_textOf (d := d + 404) (T := T) N S 2 (w2 / 96) a0 fa0 hw3) hp sz hM) ?_
    refine ye_p rfl rfl ?_
    have g0_z1 := xG_o1 (i := 2) (v := .int w3) g0 rfl
    have g1_z1 := xG_o1 (i := 2) (v := .int w3) g1 rfl
    have g2_z1 := xG_same lv 2 (.int w3)
    generalize xSt1 lv 2 (.int w3) = lvz1 at g0_z1 g1_z1 g2_z1 ⊢
    refine ye_iload rfl g2_z1 ?_
    refine ye_p rfl rfl ?_
    refine ye_icmp_ne rfl (fun h2 => ?_) (fun h2 => ?_)
    · replace h := yiT h2 h
      refine ye_aload rfl g0_z1 ?_
      refine ye_iload rfl g2_z1 ?_
      refine ye_iload rfl g1_z1 ?_
      obtain ⟨w4, S1, hw4, h⟩ := bS_some h
      obtain ⟨y1, cy1, M1⟩ := (m_X12_payBy (d := d + 0) (T := T) N S w3 l1 a0 fa0 hw4) hp sz hM
      refine ye_callV (As := [.int w3, .int l1]) (rest := []) 0 (Or.inl rfl) rfl rfl rfl (Nat.le_of_ble_eq_true rfl) (hM.obj fa0 ⟨rfl, rfl⟩) cy1 ?_
      exact w_X12_payOf_42 (prim := prim) (d := d) N S1 w4 y1 lvz1 M1 h
    · replace h := yiN h2 h
      refine ye_p rfl rfl ?_
      refine ye_p rfl rfl ?_
      exact w_X12_payOf_42 (prim := prim) (d := d) N S 0 hp lvz1 hM h
  · replace h := yiN h1 h
    refine ye_p rfl rfl ?_
    exact ye_ret rfl rfl (rQ h hM)
def f_X12_payOf (N : Nat) (S : yS) (xl1 : Int32) : Option (Int32 × yS) := f_X12_payOf_0 N S xl1
theorem m_X12_payOf {F : xH} {ev : xEv} {prim : xRel} {d : Nat} {T : yT} {v : Int32} {S' : yS} (N : Nat) (S : yS) (xl1 : Int32) (a0 : Nat) (fa0 : yAt T 12 8 0 a0) (h : f_X12_payOf N S xl1 = some (v, S')) : ykQ [8] F ev prim (d + 406) 270 T S [.ref a0, .int xl1] (some (.int v)) S' :=
  ykQ.of (pg_270 ev) mi_270 (Nat.le_of_ble_eq_true rfl) (fun hp sz hM => w_X12_payOf_0 (prim := prim) (d := d) N S xl1 hp _ a0 fa0 rfl rfl hM h)

def f_X12_where_22 (N : Nat) (S : yS) : Option (Int32 × yS) := bS (f_X12_lost N S) fun w1 S1 => some (w1, S1)
set_option maxHeartbeats 4000000 in
set_option maxRecDepth 40000 in
theorem w_X12_where_22 {F : xH} {ev : xEv} {prim : xRel} {d sz : Nat} {T : yT} {v : Int32} {S' : yS} (N : Nat) (S : yS) (hp : xH) (lv : xLv) (a0 : Nat) (fa0 : yAt T 12 8 0 a0) (g0 : xG lv 0 = some (.ref a0)) (hM : cR [8] F ev T S hp) (h : f_X12_where_22 N S = some (v, S')) : yWE ev.2.1 (xstr ev) (xCalls ev xmi (xprog ev) prim (d + 406)) (pX12_where ev) (22, lv, [], hp, sz, 0) (ypQ [8] F ev T sz (some (.int v)) S') := by
  unfold f_X12_where_22 at h
  refine ye_aload rfl g0 ?_
  obtain ⟨w1, S1, hw1, h⟩ := bS_some h
  obtain ⟨y1, cy1, M1⟩ := (m_X12_lost (d := d + 405) (T := T) N S a0 fa0 hw1) hp sz hM
  refine ye_callV (As := []) (rest := []) 0 (Or.inl rfl) rfl rfl rfl (Nat.le_of_ble_eq_true rfl) (hM.obj fa0 ⟨rfl, rfl⟩) cy1 ?_
  exact ye_ret rfl rfl (rQ h M1)

def f_X12_where_123 (N : Nat) (S : yS) (t0 : Int32) : Option (Int32 × yS) := some (t0, S)
set_option maxHeartbeats 4000000 in
set_option maxRecDepth 40000 in
theorem w_X12_where_123 {F : xH} {ev : xEv} {prim : xRel} {d sz : Nat} {T : yT} {v : Int32} {S' : yS} (N : Nat) (S : yS) (t0 : Int32) (hp : xH) (lv : xLv) (hM : cR [8] F ev T S hp) (h : f_X12_where_123 N S t0 = some (v, S')) : yWE ev.2.1 (xstr ev) (xCalls ev xmi (xprog ev) prim (d + 406)) (pX12_where ev) (123, lv, [.int t0], hp, sz, 0) (ypQ [8] F ev T sz (some (.int v)) S') := by
  unfold f_X12_where_123 at h
  exact ye_ret rfl rfl (rQ h hM)

def f_X12_where_0 (N : Nat) (S : yS) (l1 : Int32) (l2 : Int32) : Option (Int32 × yS) := sq (yI S 8 47 0) fun S1 => bV (f_X12_isBag N S1 l1) fun w1 => if w1 = 0 then f_X12_where_22 N S1 else bV (f_X12_in N S1 l2 0 5) fun w2 => if ¬ w2 = 0 then if l2 = 0 then bV (f_X12_bagOf N S1 l1 0) fun w3 => some (w3, S1) else if l2 = 1 then bV (f_X12_bagOf N S1 l1 1) fun w4 => some (w4, S1) else if l2 = 2 then bV (f_X12_bagOf N S1 l1 2) fun w5 => some (w5, S1) else if l2 = 3 then bV (f_X12_bagOf N S1 l1 3) fun w6 => some (w6, S1) else if l2 = 4 then bV (f_X12_bagOf N S1 l1 3) fun w7 => if ¬ w7 = ((-1)) then bV (f_X12_bagOf N S1 l1 3) fun w8 => gA 30 l1 fun j1 => f_X12_where_123 N S1 (if 0 < (w8 - (S1.2.1 8 27 j1)) then (w8 - (S1.2.1 8 27 j1)) else 0) else f_X12_where_123 N S1 ((-1)) else bS (f_X12_payOf N S1 l1) fun w9 S2 => some (w9, S2) else f_X12_where_22 N S1
set_option maxHeartbeats 4000000 in
set_option maxRecDepth 40000 in
theorem w_X12_where_0 {F : xH} {ev : xEv} {prim : xRel} {d sz : Nat} {T : yT} {v : Int32} {S' : yS} (N : Nat) (S : yS) (l1 : Int32) (l2 : Int32) (hp : xH) (lv : xLv) (a0 : Nat) (fa0 : yAt T 12 8 0 a0) (g0 : xG lv 0 = some (.ref a0)) (g1 : xG lv 1 = some (.int l1)) (g2 : xG lv 2 = some (.int l2)) (hM : cR [8] F ev T S hp) (h : f_X12_where_0 N S l1 l2 = some (v, S')) : yWE ev.2.1 (xstr ev) (xCalls ev xmi (xprog ev) prim (d + 406)) (pX12_where ev) (0, lv, [], hp, sz, 0) (ypQ [8] F ev T sz (some (.int v)) S') := by
  unfold f_X12_where_0 at h
  refine ye_aload rfl g0 ?_
  refine ye_p rfl rfl ?_
  obtain ⟨S1, eS1, h⟩ := sq_some h
  refine yw_putI rfl hM fa0 rfl ⟨rfl, rfl⟩ (Nat.le_of_ble_eq_true rfl) rfl rfl (ys_12_47 ev T _ 0) (fun q => absurd q (by decide)) eS1 (fun y1 M1 => ?_)
  refine ye_aload rfl g0 ?_
  refine ye_iload rfl g1 ?_
  obtain ⟨w1, hw1, h⟩ := bV_some h
  refine ye_callV (As := [.int l1]) (rest := []) 0 (Or.inl rfl) rfl rfl rfl (Nat.le_of_ble_eq_true rfl) (M1.obj fa0 ⟨rfl, rfl⟩) ((m_X12_isBag (d := d + 404) (T := T) N S1 l1 a0 fa0 hw1) y1 sz M1) ?_
  refine ye_if_eq rfl (fun h1 => ?_) (fun h1 => ?_)
  · replace h := yiT h1 h
    exact w_X12_where_22 (prim := prim) (d := d) N S1 y1 lv a0 fa0 g0 M1 h
  · replace h := yiN h1 h
    refine ye_iload rfl g2 ?_
    refine ye_p rfl rfl ?_
    refine ye_p rfl rfl ?_
    obtain ⟨w2, hw2, h⟩ := bV_some h
    refine ye_callS (As := [.int l2, .int 0, .int 5]) (rest := []) 1 (Or.inl rfl) rfl rfl rfl (Nat.le_of_ble_eq_true rfl) ((m_X12_in (d := d + 405) (T := T) N S1 l2 0 5 hw2) y1 sz M1) ?_
    refine ye_if_ne rfl (fun h2 => ?_) (fun h2 => ?_)
    · replace h := yiT h2 h
      refine ye_iload rfl g2 ?_
      by_cases h3 : l2 = 0
      · replace h := yiT h3 h
        refine ye_sw rfl (show _ = 64 from by rw [h3]; rfl) ?_
        refine ye_aload rfl g0 ?_
        refine ye_iload rfl g1 ?_
        refine ye_p rfl rfl ?_
        obtain ⟨w3, hw3, h⟩ := bV_some h
        refine ye_callV (As := [.int l1, .int 0]) (rest := []) 0 (Or.inl rfl) rfl rfl rfl (Nat.le_of_ble_eq_true rfl) (M1.obj fa0 ⟨rfl, rfl⟩) ((m_X12_bagOf (d := d + 405) (T := T) N S1 l1 0 a0 fa0 hw3) y1 sz M1) ?_
        exact ye_ret rfl rfl (rQ h M1)
      · replace h := yiN h3 h
        by_cases h4 : l2 = 1
        · replace h := yiT h4 h
          refine ye_sw rfl (show _ = 71 from by rw [h4]; rfl) ?_
          refine ye_aload rfl g0 ?_
          refine ye_iload rfl g1 ?_
          refine ye_p rfl rfl ?_
          obtain ⟨w4, hw4, h⟩ := bV_some h
          refine ye_callV (As := [.int l1, .int 1]) (rest := []) 0 (Or.inl rfl) rfl rfl rfl (Nat.le_of_ble_eq_true rfl) (M1.obj fa0 ⟨rfl, rfl⟩) ((m_X12_bagOf (d := d + 405) (T := T) N S1 l1 1 a0 fa0 hw4) y1 sz M1) ?_
          exact ye_ret rfl rfl (rQ h M1)
        · replace h := yiN h4 h
          by_cases h5 : l2 = 2
          · replace h := yiT h5 h
            refine ye_sw rfl (show _ = 78 from by rw [h5]; rfl) ?_
            refine ye_aload rfl g0 ?_
            refine ye_iload rfl g1 ?_
            refine ye_p rfl rfl ?_
            obtain ⟨w5, hw5, h⟩ := bV_some h
            refine ye_callV (As := [.int l1, .int 2]) (rest := []) 0 (Or.inl rfl) rfl rfl rfl (Nat.le_of_ble_eq_true rfl) (M1.obj fa0 ⟨rfl, rfl⟩) ((m_X12_bagOf (d := d + 405) (T := T) N S1 l1 2 a0 fa0 hw5) y1 sz M1) ?_
            exact ye_ret rfl rfl (rQ h M1)
          · replace h := yiN h5 h
            by_cases h6 : l2 = 3
            · replace h := yiT h6 h
              refine ye_sw rfl (show _ = 85 from by rw [h6]; rfl) ?_
              refine ye_aload rfl g0 ?_
              refine ye_iload rfl g1 ?_
              refine ye_p rfl rfl ?_
              obtain ⟨w6, hw6, h⟩ := bV_some h
              refine ye_callV (As := [.int l1, .int 3]) (rest := []) 0 (Or.inl rfl) rfl rfl rfl (Nat.le_of_ble_eq_true rfl) (M1.obj fa0 ⟨rfl, rfl⟩) ((m_X12_bagOf (d := d + 405) (T := T) N S1 l1 3 a0 fa0 hw6) y1 sz M1) ?_
              exact ye_ret rfl rfl (rQ h M1)
            · replace h := yiN h6 h
              by_cases h7 : l2 = 4
              · replace h := yiT h7 h
                refine ye_sw rfl (show _ = 92 from by rw [h7]; rfl) ?_
                refine ye_aload rfl g0 ?_
                refine ye_iload rfl g1 ?_
                refine ye_p rfl rfl ?_
                obtain ⟨w7, hw7, h⟩ := bV_some h
                refine ye_callV (As := [.int l1, .int 3]) (rest := []) 0 (Or.inl rfl) rfl rfl rfl (Nat.le_of_ble_eq_true rfl) (M1.obj fa0 ⟨rfl, rfl⟩) ((m_X12_bagOf (d := d + 405) (T := T) N S1 l1 3 a0 fa0 hw7) y1 sz M1) ?_
                refine ye_p rfl rfl ?_
                refine ye_icmp_ne rfl (fun h8 => ?_) (fun h8 => ?_)
                · replace h := yiT h8 h
                  refine ye_p rfl rfl ?_
                  refine ye_aload rfl g0 ?_
                  refine ye_iload rfl g1 ?_
                  refine ye_p rfl rfl ?_
                  obtain ⟨w8, hw8, h⟩ := bV_some h
                  refine ye_callV (As := [.int l1, .int 3]) (rest := [.int 0]) 0 (Or.inl rfl) rfl rfl rfl (Nat.le_of_ble_eq_true rfl) (M1.obj fa0 ⟨rfl, rfl⟩) ((m_X12_bagOf (d := d + 405) (T := T) N S1 l1 3 a0 fa0 hw8) y1 sz M1) ?_
                  refine ye_aload rfl g0 ?_
                  refine ye_getr rfl (M1.obj fa0 ⟨rfl, rfl⟩) rfl (fun cx1 ecx1 => ?_)
                  have fcx1 := yAt.row fa0 ecx1
                  refine ye_iload rfl g1 ?_
                  obtain ⟨j1, ej1, ij1, h⟩ := gA_some h
                  refine yj_ald rfl (M1.arr fcx1 yr_12_27) ij1 ej1 ?_
                  refine ye_p rfl rfl ?_
                  refine ye_p rfl rfl ?_
                  exact w_X12_where_123 (prim := prim) (d := d) N S1 (if 0 < (w8 - (S1.2.1 8 27 j1)) then (w8 - (S1.2.1 8 27 j1)) else 0) y1 lv M1 h
                · replace h := yiN h8 h
                  refine ye_p rfl rfl ?_
                  refine ye_p rfl rfl ?_
                  exact w_X12_where_123 (prim := prim) (d := d) N S1 ((-1)) y1 lv M1 h
              · replace h := yiN h7 h
                refine ye_sw rfl (show _ = 124 from xtsw_neg h3 (by decide) (xtsw_neg h4 (by decide) (xtsw_neg h5 (by decide) (xtsw_neg h6 (by decide) (xtsw_neg h7 (by decide) (xtsw_nil)))))) ?_
                refine ye_aload rfl g0 ?_
                refine ye_iload rfl g1 ?_
                obtain ⟨w9, S2, hw9, h⟩ := bS_some h
                obtain ⟨y2, cy2, M2⟩ := (m_X12_payOf (d := d + 0) (T := T) N S1 l1 a0 fa0 hw9) y1 sz M1
                refine ye_callV (As := [.int l1]) (rest := []) 0 (Or.inl rfl) rfl rfl rfl (Nat.le_of_ble_eq_true rfl) (M1.obj fa0 ⟨rfl, rfl⟩) cy2 ?_
                exact ye_ret rfl rfl (rQ h M2)
    · replace h := yiN h2 h
      exact w_X12_where_22 (prim := prim) (d := d) N S1 y1 lv a0 fa0 g0 M1 h
def f_X12_where (N : Nat) (S : yS) (xl1 : Int32) (xl2 : Int32) : Option (Int32 × yS) := f_X12_where_0 N S xl1 xl2
theorem m_X12_where {F : xH} {ev : xEv} {prim : xRel} {d : Nat} {T : yT} {v : Int32} {S' : yS} (N : Nat) (S : yS) (xl1 : Int32) (xl2 : Int32) (a0 : Nat) (fa0 : yAt T 12 8 0 a0) (h : f_X12_where N S xl1 xl2 = some (v, S')) : ykQ [8] F ev prim (d + 407) 271 T S [.ref a0, .int xl1, .int xl2] (some (.int v)) S' :=
  ykQ.of (pg_271 ev) mi_271 (Nat.le_of_ble_eq_true rfl) (fun hp sz hM => w_X12_where_0 (prim := prim) (d := d) N S xl1 xl2 hp _ a0 fa0 rfl rfl rfl hM h)

def f_X12_judge_55 (N : Nat) (k25 : yS → Int32 → Int32 → Int32 → Option (Int32 × yS)) (S : yS) (l1 : Int32) (l2 : Int32) (l3 : Int32) : Option (Int32 × yS) := k25 S l1 l2 (l3 + 1)
set_option maxHeartbeats 4000000 in
set_option maxRecDepth 40000 in
theorem w_X12_judge_55 {F : xH} {ev : xEv} {prim : xRel} {d sz : Nat} {T : yT} {v : Int32} {S' : yS} (N : Nat) (k25 : yS → Int32 → Int32 → Int32 → Option (Int32 × yS)) (u25 : ∀ (S : yS) (l1 : Int32) (l2 : Int32) (l3 : Int32) (hp : xH) (lv : xLv) (a0 : Nat) (fa0 : yAt T 12 8 0 a0) (g0 : xG lv 0 = some (.ref a0)) (g1 : xG lv 1 = some (.int l1)) (g2 : xG lv 2 = some (.int l2)) (g3 : xG lv 3 = some (.int l3)) (hM : cR [8] F ev T S hp) (h : k25 S l1 l2 l3 = some (v, S')), yWE ev.2.1 (xstr ev) (xCalls ev xmi (xprog ev) prim (d + 405)) (pX12_judge ev) (25, lv, [], hp, sz, 0) (ypQ [8] F ev T sz (some (.int v)) S')) (S : yS) (l1 : Int32) (l2 : Int32) (l3 : Int32) (hp : xH) (lv : xLv) (a0 : Nat) (fa0 : yAt T 12 8 0 a0) (g0 : xG lv 0 = some (.ref a0)) (g1 : xG lv 1 = some (.int l1)) (g2 : xG lv 2 = some (.int l2)) (g3 : xG lv 3 = some (.int l3)) (hM : cR [8] F ev T S hp) (h : f_X12_judge_55 N k25 S l1 l2 l3 = some (v, S')) : yWE ev.2.1 (xstr ev) (xCalls ev xmi (xprog ev) prim (d + 405)) (pX12_judge ev) (55, lv, [], hp, sz, 0) (ypQ [8] F ev T sz (some (.int v)) S') := by
  unfold f_X12_judge_55 at h
  refine ye_iinc rfl g3 ?_
  have g0_z1 := xG_o1 (i := 3) (v := .int (l3 + 1)) g0 rfl
  have g1_z1 := xG_o1 (i := 3) (v := .int (l3 + 1)) g1 rfl
  have g2_z1 := xG_o1 (i := 3) (v := .int (l3 + 1)) g2 rfl
  have g3_z1 := xG_same lv 3 (.int (l3 + 1))
  generalize xSt1 lv 3 (.int (l3 + 1)) = lvz1 at g0_z1 g1_z1 g2_z1 g3_z1 ⊢
  refine ye_p rfl rfl ?_
  exact u25 S l1 l2 (l3 + 1) hp lvz1 a0 fa0 g0_z1 g1_z1 g2_z1 g3_z1 hM h

def f_X12_judge_25 : Nat → Nat → yS → Int32 → Int32 → Int32 → Option (Int32 × yS)
  | 0, _, _, _, _, _ => none
  | n + 1, N, S, l1, l2, l3 => if (S.1 8 28) ≤ l3 then some (l2, S) else bV (f_X12_bagOf N S l3 3) fun w1 => if w1 = ((-1)) then f_X12_judge_55 N (fun S l1 l2 l3 => f_X12_judge_25 n N S l1 l2 l3) S l1 l2 l3 else bS (f_X12_payBy N S (20 + l1) l3) fun w2 S1 => f_X12_judge_55 N (fun S l1 l2 l3 => f_X12_judge_25 n N S l1 l2 l3) S1 l1 (l2 + w2) l3
set_option maxHeartbeats 4000000 in
set_option maxRecDepth 40000 in
theorem w_X12_judge_25 {F : xH} {ev : xEv} {prim : xRel} {d sz : Nat} {T : yT} {v : Int32} {S' : yS} (N : Nat) (n : Nat) : ∀ (S : yS) (l1 : Int32) (l2 : Int32) (l3 : Int32) (hp : xH) (lv : xLv) (a0 : Nat) (fa0 : yAt T 12 8 0 a0) (g0 : xG lv 0 = some (.ref a0)) (g1 : xG lv 1 = some (.int l1)) (g2 : xG lv 2 = some (.int l2)) (g3 : xG lv 3 = some (.int l3)) (hM : cR [8] F ev T S hp) (h : f_X12_judge_25 n N S l1 l2 l3 = some (v, S')), yWE ev.2.1 (xstr ev) (xCalls ev xmi (xprog ev) prim (d + 405)) (pX12_judge ev) (25, lv, [], hp, sz, 0) (ypQ [8] F ev T sz (some (.int v)) S') := by
  induction n with
  | zero => intro S l1 l2 l3 hp lv a0 fa0 g0 g1 g2 g3 hM h; exact n_some h
  | succ n ih =>
    intro S l1 l2 l3 hp lv a0 fa0 g0 g1 g2 g3 hM h
    unfold f_X12_judge_25 at h
    refine ye_iload rfl g3 ?_
    refine ye_aload rfl g0 ?_
    refine ye_getf rfl (hM.obj fa0 ⟨rfl, rfl⟩) rfl ?_
    refine ye_icmp_ge rfl (fun h1 => ?_) (fun h1 => ?_)
    · replace h := yiT h1 h
      refine ye_iload rfl g2 ?_
      exact ye_ret rfl rfl (rQ h hM)
    · replace h := yiN h1 h
      refine ye_aload rfl g0 ?_
      refine ye_iload rfl g3 ?_
      refine ye_p rfl rfl ?_
      obtain ⟨w1, hw1, h⟩ := bV_some h
      refine ye_callV (As := [.int l3, .int 3]) (rest := []) 0 (Or.inl rfl) rfl rfl rfl (Nat.le_of_ble_eq_true rfl) (hM.obj fa0 ⟨rfl, rfl⟩) ((m_X12_bagOf (d := d + 404) (T := T) N S l3 3 a0 fa0 hw1) hp sz hM) ?_
      refine ye_p rfl rfl ?_
      refine ye_icmp_eq rfl (fun h2 => ?_) (fun h2 => ?_)
      · replace h := yiT h2 h
        exact w_X12_judge_55 (prim := prim) (d := d) N (fun S l1 l2 l3 => f_X12_judge_25 n N S l1 l2 l3) ih S l1 l2 l3 hp lv a0 fa0 g0 g1 g2 g3 hM h
      · replace h := yiN h2 h
        refine ye_iload rfl g2 ?_
        refine ye_aload rfl g0 ?_
        refine ye_p rfl rfl ?_
        refine ye_iload rfl g1 ?_
        refine ye_p rfl rfl ?_
        refine ye_iload rfl g3 ?_
        obtain ⟨w2, S1, hw2, h⟩ := bS_some h
        obtain ⟨y1, cy1, M1⟩ := (m_X12_payBy (d := d + 0) (T := T) N S (20 + l1) l3 a0 fa0 hw2) hp sz hM
        refine ye_callV (As := [.int (20 + l1), .int l3]) (rest := [.int l2]) 0 (Or.inl rfl) rfl rfl rfl (Nat.le_of_ble_eq_true rfl) (hM.obj fa0 ⟨rfl, rfl⟩) cy1 ?_
        refine ye_p rfl rfl ?_
        refine ye_p rfl rfl ?_
        have g0_z1 := xG_o1 (i := 2) (v := .int (l2 + w2)) g0 rfl
        have g1_z1 := xG_o1 (i := 2) (v := .int (l2 + w2)) g1 rfl
        have g3_z1 := xG_o1 (i := 2) (v := .int (l2 + w2)) g3 rfl
        have g2_z1 := xG_same lv 2 (.int (l2 + w2))
        generalize xSt1 lv 2 (.int (l2 + w2)) = lvz1 at g0_z1 g1_z1 g3_z1 g2_z1 ⊢
        exact w_X12_judge_55 (prim := prim) (d := d) N (fun S l1 l2 l3 => f_X12_judge_25 n N S l1 l2 l3) ih S1 l1 (l2 + w2) l3 y1 lvz1 a0 fa0 g0_z1 g1_z1 g2_z1 g3_z1 M1 h

def f_X12_judge_0 (N : Nat) (S : yS) (l1 : Int32) : Option (Int32 × yS) := sq (yI S 8 47 0) fun S1 => bV (f_X12_in N S1 l1 0 ((S1.1 8 42) - 1)) fun w1 => if ¬ w1 = 0 then f_X12_judge_25 N N S1 l1 0 0 else some ((-1), S1)
set_option maxHeartbeats 4000000 in
set_option maxRecDepth 40000 in
theorem w_X12_judge_0 {F : xH} {ev : xEv} {prim : xRel} {d sz : Nat} {T : yT} {v : Int32} {S' : yS} (N : Nat) (S : yS) (l1 : Int32) (hp : xH) (lv : xLv) (a0 : Nat) (fa0 : yAt T 12 8 0 a0) (g0 : xG lv 0 = some (.ref a0)) (g1 : xG lv 1 = some (.int l1)) (hM : cR [8] F ev T S hp) (h : f_X12_judge_0 N S l1 = some (v, S')) : yWE ev.2.1 (xstr ev) (xCalls ev xmi (xprog ev) prim (d + 405)) (pX12_judge ev) (0, lv, [], hp, sz, 0) (ypQ [8] F ev T sz (some (.int v)) S') := by
  unfold f_X12_judge_0 at h
  refine ye_aload rfl g0 ?_
  refine ye_p rfl rfl ?_
  obtain ⟨S1, eS1, h⟩ := sq_some h
  refine yw_putI rfl hM fa0 rfl ⟨rfl, rfl⟩ (Nat.le_of_ble_eq_true rfl) rfl rfl (ys_12_47 ev T _ 0) (fun q => absurd q (by decide)) eS1 (fun y1 M1 => ?_)
  refine ye_iload rfl g1 ?_
  refine ye_p rfl rfl ?_
  refine ye_aload rfl g0 ?_
  refine ye_getf rfl (M1.obj fa0 ⟨rfl, rfl⟩) rfl ?_
  refine ye_p rfl rfl ?_
  refine ye_p rfl rfl ?_
  obtain ⟨w1, hw1, h⟩ := bV_some h
  refine ye_callS (As := [.int l1, .int 0, .int ((S1.1 8 42) - 1)]) (rest := []) 1 (Or.inl rfl) rfl rfl rfl (Nat.le_of_ble_eq_true rfl) ((m_X12_in (d := d + 404) (T := T) N S1 l1 0 ((S1.1 8 42) - 1) hw1) y1 sz M1) ?_
  refine ye_if_ne rfl (fun h1 => ?_) (fun h1 => ?_)
  · replace h := yiT h1 h
    refine ye_p rfl rfl ?_
    refine ye_p rfl rfl ?_
    have g0_z1 := xG_o1 (i := 2) (v := .int 0) g0 rfl
    have g1_z1 := xG_o1 (i := 2) (v := .int 0) g1 rfl
    have g2_z1 := xG_same lv 2 (.int 0)
    generalize xSt1 lv 2 (.int 0) = lvz1 at g0_z1 g1_z1 g2_z1 ⊢
    refine ye_p rfl rfl ?_
    refine ye_p rfl rfl ?_
    have g0_z2 := xG_o1 (i := 3) (v := .int 0) g0_z1 rfl
    have g1_z2 := xG_o1 (i := 3) (v := .int 0) g1_z1 rfl
    have g2_z2 := xG_o1 (i := 3) (v := .int 0) g2_z1 rfl
    have g3_z2 := xG_same lvz1 3 (.int 0)
    generalize xSt1 lvz1 3 (.int 0) = lvz2 at g0_z2 g1_z2 g2_z2 g3_z2 ⊢
    exact w_X12_judge_25 (prim := prim) (d := d) N N S1 l1 0 0 y1 lvz2 a0 fa0 g0_z2 g1_z2 g2_z2 g3_z2 M1 h
  · replace h := yiN h1 h
    refine ye_p rfl rfl ?_
    exact ye_ret rfl rfl (rQ h M1)
def f_X12_judge (N : Nat) (S : yS) (xl1 : Int32) : Option (Int32 × yS) := f_X12_judge_0 N S xl1
theorem m_X12_judge {F : xH} {ev : xEv} {prim : xRel} {d : Nat} {T : yT} {v : Int32} {S' : yS} (N : Nat) (S : yS) (xl1 : Int32) (a0 : Nat) (fa0 : yAt T 12 8 0 a0) (h : f_X12_judge N S xl1 = some (v, S')) : ykQ [8] F ev prim (d + 406) 274 T S [.ref a0, .int xl1] (some (.int v)) S' :=
  ykQ.of (pg_274 ev) mi_274 (Nat.le_of_ble_eq_true rfl) (fun hp sz hM => w_X12_judge_0 (prim := prim) (d := d) N S xl1 hp _ a0 fa0 rfl rfl hM h)

def f_X12_coinNow_10 : Nat → Nat → yS → Int32 → Int32 → Option (Int32 × yS)
  | 0, _, _, _, _ => none
  | n + 1, N, S, l1, l2 => if (S.1 8 28) ≤ l2 then some (l1, S) else bS (f_X12_payOf N S l2) fun w1 S1 => f_X12_coinNow_10 n N S1 (l1 + w1) (l2 + 1)
set_option maxHeartbeats 4000000 in
set_option maxRecDepth 40000 in
theorem w_X12_coinNow_10 {F : xH} {ev : xEv} {prim : xRel} {d sz : Nat} {T : yT} {v : Int32} {S' : yS} (N : Nat) (n : Nat) : ∀ (S : yS) (l1 : Int32) (l2 : Int32) (hp : xH) (lv : xLv) (a0 : Nat) (fa0 : yAt T 12 8 0 a0) (g0 : xG lv 0 = some (.ref a0)) (g1 : xG lv 1 = some (.int l1)) (g2 : xG lv 2 = some (.int l2)) (hM : cR [8] F ev T S hp) (h : f_X12_coinNow_10 n N S l1 l2 = some (v, S')), yWE ev.2.1 (xstr ev) (xCalls ev xmi (xprog ev) prim (d + 406)) (pX12_coinNow ev) (10, lv, [], hp, sz, 0) (ypQ [8] F ev T sz (some (.int v)) S') := by
  induction n with
  | zero => intro S l1 l2 hp lv a0 fa0 g0 g1 g2 hM h; exact n_some h
  | succ n ih =>
    intro S l1 l2 hp lv a0 fa0 g0 g1 g2 hM h
    unfold f_X12_coinNow_10 at h
    refine ye_iload rfl g2 ?_
    refine ye_aload rfl g0 ?_
    refine ye_getf rfl (hM.obj fa0 ⟨rfl, rfl⟩) rfl ?_
    refine ye_icmp_ge rfl (fun h1 => ?_) (fun h1 => ?_)
    · replace h := yiT h1 h
      refine ye_iload rfl g1 ?_
      exact ye_ret rfl rfl (rQ h hM)
    · replace h := yiN h1 h
      refine ye_iload rfl g1 ?_
      refine ye_aload rfl g0 ?_
      refine ye_iload rfl g2 ?_
      obtain ⟨w1, S1, hw1, h⟩ := bS_some h
      obtain ⟨y1, cy1, M1⟩ := (m_X12_payOf (d := d + 0) (T := T) N S l2 a0 fa0 hw1) hp sz hM
      refine ye_callV (As := [.int l2]) (rest := [.int l1]) 0 (Or.inl rfl) rfl rfl rfl (Nat.le_of_ble_eq_true rfl) (hM.obj fa0 ⟨rfl, rfl⟩) cy1 ?_
      refine ye_p rfl rfl ?_
      refine ye_p rfl rfl ?_
      have g0_z1 := xG_o1 (i := 1) (v := .int (l1 + w1)) g0 rfl
      have g2_z1 := xG_o1 (i := 1) (v := .int (l1 + w1)) g2 rfl
      have g1_z1 := xG_same lv 1 (.int (l1 + w1))
      generalize xSt1 lv 1 (.int (l1 + w1)) = lvz1 at g0_z1 g2_z1 g1_z1 ⊢
      refine ye_iinc rfl g2_z1 ?_
      have g0_z2 := xG_o1 (i := 2) (v := .int (l2 + 1)) g0_z1 rfl
      have g1_z2 := xG_o1 (i := 2) (v := .int (l2 + 1)) g1_z1 rfl
      have g2_z2 := xG_same lvz1 2 (.int (l2 + 1))
      generalize xSt1 lvz1 2 (.int (l2 + 1)) = lvz2 at g0_z2 g1_z2 g2_z2 ⊢
      refine ye_p rfl rfl ?_
      exact ih S1 (l1 + w1) (l2 + 1) y1 lvz2 a0 fa0 g0_z2 g1_z2 g2_z2 M1 h

def f_X12_coinNow_0 (N : Nat) (S : yS) : Option (Int32 × yS) := gA 2305 1 fun j1 => f_X12_coinNow_10 N N S (-(S.2.1 8 48 j1)) 0
set_option maxHeartbeats 4000000 in
set_option maxRecDepth 40000 in
theorem w_X12_coinNow_0 {F : xH} {ev : xEv} {prim : xRel} {d sz : Nat} {T : yT} {v : Int32} {S' : yS} (N : Nat) (S : yS) (hp : xH) (lv : xLv) (a0 : Nat) (fa0 : yAt T 12 8 0 a0) (g0 : xG lv 0 = some (.ref a0)) (hM : cR [8] F ev T S hp) (h : f_X12_coinNow_0 N S = some (v, S')) : yWE ev.2.1 (xstr ev) (xCalls ev xmi (xprog ev) prim (d + 406)) (pX12_coinNow ev) (0, lv, [], hp, sz, 0) (ypQ [8] F ev T sz (some (.int v)) S') := by
  unfold f_X12_coinNow_0 at h
  refine ye_aload rfl g0 ?_
  refine ye_getr rfl (hM.obj fa0 ⟨rfl, rfl⟩) rfl (fun cx1 ecx1 => ?_)
  have fcx1 := yAt.row fa0 ecx1
  refine ye_p rfl rfl ?_
  obtain ⟨j1, ej1, ij1, h⟩ := gA_some h
  refine yj_ald rfl (hM.arr fcx1 yr_12_48) ij1 ej1 ?_
  refine ye_p rfl rfl ?_
  refine ye_p rfl rfl ?_
  have g0_z1 := xG_o1 (i := 1) (v := .int (-(S.2.1 8 48 j1))) g0 rfl
  have g1_z1 := xG_same lv 1 (.int (-(S.2.1 8 48 j1)))
  generalize xSt1 lv 1 (.int (-(S.2.1 8 48 j1))) = lvz1 at g0_z1 g1_z1 ⊢
  refine ye_p rfl rfl ?_
  refine ye_p rfl rfl ?_
  have g0_z2 := xG_o1 (i := 2) (v := .int 0) g0_z1 rfl
  have g1_z2 := xG_o1 (i := 2) (v := .int 0) g1_z1 rfl
  have g2_z2 := xG_same lvz1 2 (.int 0)
  generalize xSt1 lvz1 2 (.int 0) = lvz2 at g0_z2 g1_z2 g2_z2 ⊢
  exact w_X12_coinNow_10 (prim := prim) (d := d) N N S (-(S.2.1 8 48 j1)) 0 hp lvz2 a0 fa0 g0_z2 g1_z2 g2_z2 hM h
def f_X12_coinNow (N : Nat) (S : yS) : Option (Int32 × yS) := f_X12_coinNow_0 N S
theorem m_X12_coinNow {F : xH} {ev : xEv} {prim : xRel} {d : Nat} {T : yT} {v : Int32} {S' : yS} (N : Nat) (S : yS) (a0 : Nat) (fa0 : yAt T 12 8 0 a0) (h : f_X12_coinNow N S = some (v, S')) : ykQ [8] F ev prim (d + 407) 275 T S [.ref a0] (some (.int v)) S' :=
  ykQ.of (pg_275 ev) mi_275 (Nat.le_of_ble_eq_true rfl) (fun hp sz hM => w_X12_coinNow_0 (prim := prim) (d := d) N S hp _ a0 fa0 rfl hM h)

def f_X12_coin_0 (N : Nat) (S : yS) : Option (Int32 × yS) := sq (yI S 8 47 0) fun S1 => bS (f_X12_coinNow N S1) fun w1 S2 => some (w1, S2)
set_option maxHeartbeats 4000000 in
set_option maxRecDepth 40000 in
theorem w_X12_coin_0 {F : xH} {ev : xEv} {prim : xRel} {d sz : Nat} {T : yT} {v : Int32} {S' : yS} (N : Nat) (S : yS) (hp : xH) (lv : xLv) (a0 : Nat) (fa0 : yAt T 12 8 0 a0) (g0 : xG lv 0 = some (.ref a0)) (hM : cR [8] F ev T S hp) (h : f_X12_coin_0 N S = some (v, S')) : yWE ev.2.1 (xstr ev) (xCalls ev xmi (xprog ev) prim (d + 407)) (pX12_coin ev) (0, lv, [], hp, sz, 0) (ypQ [8] F ev T sz (some (.int v)) S') := by
  unfold f_X12_coin_0 at h
  refine ye_aload rfl g0 ?_
  refine ye_p rfl rfl ?_
  obtain ⟨S1, eS1, h⟩ := sq_some h
  refine yw_putI rfl hM fa0 rfl ⟨rfl, rfl⟩ (Nat.le_of_ble_eq_true rfl) rfl rfl (ys_12_47 ev T _ 0) (fun q => absurd q (by decide)) eS1 (fun y1 M1 => ?_)
  refine ye_aload rfl g0 ?_
  obtain ⟨w1, S2, hw1, h⟩ := bS_some h
  obtain ⟨y2, cy2, M2⟩ := (m_X12_coinNow (d := d + 0) (T := T) N S1 a0 fa0 hw1) y1 sz M1
  refine ye_callV (As := []) (rest := []) 0 (Or.inl rfl) rfl rfl rfl (Nat.le_of_ble_eq_true rfl) (M1.obj fa0 ⟨rfl, rfl⟩) cy2 ?_
  exact ye_ret rfl rfl (rQ h M2)
def f_X12_coin (N : Nat) (S : yS) : Option (Int32 × yS) := f_X12_coin_0 N S
theorem m_X12_coin {F : xH} {ev : xEv} {prim : xRel} {d : Nat} {T : yT} {v : Int32} {S' : yS} (N : Nat) (S : yS) (a0 : Nat) (fa0 : yAt T 12 8 0 a0) (h : f_X12_coin N S = some (v, S')) : ykQ [8] F ev prim (d + 408) 276 T S [.ref a0] (some (.int v)) S' :=
  ykQ.of (pg_276 ev) mi_276 (Nat.le_of_ble_eq_true rfl) (fun hp sz hM => w_X12_coin_0 (prim := prim) (d := d) N S hp _ a0 fa0 rfl hM h)

def f_X12_send_132 (N : Nat) (k37 : yS → Int32 → Option (Int32 × yS)) (S : yS) (l1 : Int32) : Option (Int32 × yS) := k37 S (l1 + 1)
set_option maxHeartbeats 4000000 in
set_option maxRecDepth 40000 in
theorem w_X12_send_132 {F : xH} {ev : xEv} {prim : xRel} {d sz : Nat} {T : yT} {v : Int32} {S' : yS} (N : Nat) (k37 : yS → Int32 → Option (Int32 × yS)) (u37 : ∀ (S : yS) (l1 : Int32) (hp : xH) (lv : xLv) (a0 : Nat) (fa0 : yAt T 12 8 0 a0) (g0 : xG lv 0 = some (.ref a0)) (g1 : xG lv 1 = some (.int l1)) (hM : cR [8] F ev T S hp) (h : k37 S l1 = some (v, S')), yWE ev.2.1 (xstr ev) (xCalls ev xmi (xprog ev) prim (d + 12)) (pX12_send ev) (37, lv, [], hp, sz, 0) (ypQ [8] F ev T sz (some (.int v)) S')) (S : yS) (l1 : Int32) (hp : xH) (lv : xLv) (a0 : Nat) (fa0 : yAt T 12 8 0 a0) (g0 : xG lv 0 = some (.ref a0)) (g1 : xG lv 1 = some (.int l1)) (hM : cR [8] F ev T S hp) (h : f_X12_send_132 N k37 S l1 = some (v, S')) : yWE ev.2.1 (xstr ev) (xCalls ev xmi (xprog ev) prim (d + 12)) (pX12_send ev) (132, lv, [], hp, sz, 0) (ypQ [8] F ev T sz (some (.int v)) S') := by
  unfold f_X12_send_132 at h
  refine ye_iinc rfl g1 ?_
  have g0_z1 := xG_o1 (i := 1) (v := .int (l1 + 1)) g0 rfl
  have g1_z1 := xG_same lv 1 (.int (l1 + 1))
  generalize xSt1 lv 1 (.int (l1 + 1)) = lvz1 at g0_z1 g1_z1 ⊢
  refine ye_p rfl rfl ?_
  exact u37 S (l1 + 1) hp lvz1 a0 fa0 g0_z1 g1_z1 hM h

def f_X12_send_37 : Nat → Nat → yS → Int32 → Option (Int32 × yS)
  | 0, _, _, _ => none
  | n + 1, N, S, l1 => if (S.1 8 59) ≤ l1 then some (S.1 8 63, S) else gA 8 l1 fun j1 => gA 64 l1 fun j2 => sq (yA S 8 45 (upd (S.2.1 8 45) j2 (S.2.1 8 61 j1))) fun S1 => if ¬ (S.2.1 8 61 j1) = ((-1)) then gA 8 l1 fun j3 => gA 2305 ((3 + (2 * (S.2.1 8 61 j1))) + 1) fun j4 => gA 2305 ((3 + (2 * (S.2.1 8 61 j1))) + 1) fun j5 => sq (yA S1 8 48 (upd (S1.2.1 8 48) j5 ((S1.2.1 8 48 j4) - 1))) fun S2 => bS (f_X12_plane2 N S2 (S1.2.1 8 58 j3) 4 0) fun w1 S3 => bS (f_X12_plane2 N S3 (S1.2.1 8 58 j3) 5 0) fun w2 S4 => bS (f_X12_plane2 N S4 (S1.2.1 8 58 j3) 7 0) fun w3 S5 => gA 2305 0 fun j6 => bV (f_X12_quarters N S5 (S.2.1 8 61 j1) (S1.2.1 8 58 j3)) fun w4 => bS (f_X12_plane2 N S5 (S1.2.1 8 58 j3) 9 ((S5.2.1 8 48 j6) + w4)) fun w5 S6 => f_X12_send_132 N (fun S l1 => f_X12_send_37 n N S l1) S6 l1 else f_X12_send_132 N (fun S l1 => f_X12_send_37 n N S l1) S1 l1
set_option maxHeartbeats 4000000 in
set_option maxRecDepth 40000 in
theorem w_X12_send_37 {F : xH} {ev : xEv} {prim : xRel} {d sz : Nat} {T : yT} {v : Int32} {S' : yS} (N : Nat) (n : Nat) : ∀ (S : yS) (l1 : Int32) (hp : xH) (lv : xLv) (a0 : Nat) (fa0 : yAt T 12 8 0 a0) (g0 : xG lv 0 = some (.ref a0)) (g1 : xG lv 1 = some (.int l1)) (hM : cR [8] F ev T S hp) (h : f_X12_send_37 n N S l1 = some (v, S')), yWE ev.2.1 (xstr ev) (xCalls ev xmi (xprog ev) prim (d + 12)) (pX12_send ev) (37, lv, [], hp, sz, 0) (ypQ [8] F ev T sz (some (.int v)) S') := by
  induction n with
  | zero => intro S l1 hp lv a0 fa0 g0 g1 hM h; exact n_some h
  | succ n ih =>
    intro S l1 hp lv a0 fa0 g0 g1 hM h
    unfold f_X12_send_37 at h
    refine ye_iload rfl g1 ?_
    refine ye_aload rfl g0 ?_
    refine ye_getf rfl (hM.obj fa0 ⟨rfl, rfl⟩) rfl ?_
    refine ye_icmp_ge rfl (fun h1 => ?_) (fun h1 => ?_)
    · replace h := yiT h1 h
      refine ye_aload rfl g0 ?_
      refine ye_getf rfl (hM.obj fa0 ⟨rfl, rfl⟩) rfl ?_
      exact ye_ret rfl rfl (rQ h hM)
    · replace h := yiN h1 h
      refine ye_aload rfl g0 ?_
      refine ye_getr rfl (hM.obj fa0 ⟨rfl, rfl⟩) rfl (fun cx1 ecx1 => ?_)
      have fcx1 := yAt.row fa0 ecx1
      refine ye_iload rfl g1 ?_
      obtain ⟨j1, ej1, ij1, h⟩ := gA_some h
      refine yj_ald rfl (hM.arr fcx1 yr_12_61) ij1 ej1 ?_
      refine ye_p rfl rfl ?_
      have g0_z1 := xG_o1 (i := 2) (v := .int (S.2.1 8 61 j1)) g0 rfl
      have g1_z1 := xG_o1 (i := 2) (v := .int (S.2.1 8 61 j1)) g1 rfl
      have g2_z1 := xG_same lv 2 (.int (S.2.1 8 61 j1))
      generalize xSt1 lv 2 (.int (S.2.1 8 61 j1)) = lvz1 at g0_z1 g1_z1 g2_z1 ⊢
      refine ye_aload rfl g0_z1 ?_
      refine ye_getr rfl (hM.obj fa0 ⟨rfl, rfl⟩) rfl (fun cx2 ecx2 => ?_)
      have fcx2 := yAt.row fa0 ecx2
      refine ye_iload rfl g1_z1 ?_
      refine ye_iload rfl g2_z1 ?_
      obtain ⟨j2, ej2, ij2, h⟩ := gA_some h
      obtain ⟨S1, eS1, h⟩ := sq_some h
      refine yw_ast rfl hM fcx2 yr_12_45 (by decide) ij2 ej2 eS1 (fun y1 M1 => ?_)
      refine ye_iload rfl g2_z1 ?_
      refine ye_p rfl rfl ?_
      refine ye_icmp_ne rfl (fun h2 => ?_) (fun h2 => ?_)
      · replace h := yiT h2 h
        refine ye_aload rfl g0_z1 ?_
        refine ye_getr rfl (M1.obj fa0 ⟨rfl, rfl⟩) rfl (fun cx3 ecx3 => ?_)
        have fcx3 := yAt.row fa0 ecx3
        refine ye_iload rfl g1_z1 ?_
        obtain ⟨j3, ej3, ij3, h⟩ := gA_some h
        refine yj_ald rfl (M1.arr fcx3 yr_12_58) ij3 ej3 ?_
        refine ye_p rfl rfl ?_
        have g0_z2 := xG_o1 (i := 3) (v := .int (S1.2.1 8 58 j3)) g0_z1 rfl
        have g1_z2 := xG_o1 (i := 3) (v := .int (S1.2.1 8 58 j3)) g1_z1 rfl
        have g2_z2 := xG_o1 (i := 3) (v := .int (S1.2.1 8 58 j3)) g2_z1 rfl
        have g3_z2 := xG_same lvz1 3 (.int (S1.2.1 8 58 j3))
        generalize xSt1 lvz1 3 (.int (S1.2.1 8 58 j3)) = lvz2 at g0_z2 g1_z2 g2_z2 g3_z2 ⊢
        refine ye_aload rfl g0_z2 ?_
        refine ye_getr rfl (M1.obj fa0 ⟨rfl, rfl⟩) rfl (fun cx4 ecx4 => ?_)
        have fcx4 := yAt.row fa0 ecx4
        refine ye_p rfl rfl ?_
        refine ye_p rfl rfl ?_
        refine ye_iload rfl g2_z2 ?_
        refine ye_p rfl rfl ?_
        refine ye_p rfl rfl ?_
        refine ye_p rfl rfl ?_
        refine ye_p rfl rfl ?_
        refine ye_p rfl rfl ?_
        obtain ⟨j4, ej4, ij4, h⟩ := gA_some h
        refine yj_ald rfl (M1.arr fcx4 yr_12_48) ij4 ej4 ?_
        refine ye_p rfl rfl ?_
        refine ye_p rfl rfl ?_
        obtain ⟨j5, ej5, ij5, h⟩ := gA_some h
        obtain ⟨S2, eS2, h⟩ := sq_some h
        refine yw_ast rfl M1 fcx4 yr_12_48 (by decide) ij5 ej5 eS2 (fun y2 M2 => ?_)
        refine ye_aload rfl g0_z2 ?_
        refine ye_iload rfl g3_z2 ?_
        refine ye_p rfl rfl ?_
        refine ye_p rfl rfl ?_
        obtain ⟨w1, S3, hw1, h⟩ := bS_some h
        obtain ⟨y3, cy3, M3⟩ := (m_X12_plane2 (d := d + 11) (T := T) N S2 (S1.2.1 8 58 j3) 4 0 a0 fa0 hw1) y2 sz M2
        refine ye_callV (As := [.int (S1.2.1 8 58 j3), .int 4, .int 0]) (rest := []) 0 (Or.inl rfl) rfl rfl rfl (Nat.le_of_ble_eq_true rfl) (M2.obj fa0 ⟨rfl, rfl⟩) cy3 ?_
        refine ye_aload rfl g0_z2 ?_
        refine ye_iload rfl g3_z2 ?_
        refine ye_p rfl rfl ?_
        refine ye_p rfl rfl ?_
        obtain ⟨w2, S4, hw2, h⟩ := bS_some h
        obtain ⟨y4, cy4, M4⟩ := (m_X12_plane2 (d := d + 11) (T := T) N S3 (S1.2.1 8 58 j3) 5 0 a0 fa0 hw2) y3 sz M3
        refine ye_callV (As := [.int (S1.2.1 8 58 j3), .int 5, .int 0]) (rest := []) 0 (Or.inl rfl) rfl rfl rfl (Nat.le_of_ble_eq_true rfl) (M3.obj fa0 ⟨rfl, rfl⟩) cy4 ?_
        refine ye_aload rfl g0_z2 ?_
        refine ye_iload rfl g3_z2 ?_
        refine ye_p rfl rfl ?_
        refine ye_p rfl rfl ?_
        obtain ⟨w3, S5, hw3, h⟩ := bS_some h
        obtain ⟨y5, cy5, M5⟩ := (m_X12_plane2 (d := d + 11) (T := T) N S4 (S1.2.1 8 58 j3) 7 0 a0 fa0 hw3) y4 sz M4
        refine ye_callV (As := [.int (S1.2.1 8 58 j3), .int 7, .int 0]) (rest := []) 0 (Or.inl rfl) rfl rfl rfl (Nat.le_of_ble_eq_true rfl) (M4.obj fa0 ⟨rfl, rfl⟩) cy5 ?_
        refine ye_aload rfl g0_z2 ?_
        refine ye_iload rfl g3_z2 ?_
        refine ye_p rfl rfl ?_
        refine ye_aload rfl g0_z2 ?_
        refine ye_getr rfl (M5.obj fa0 ⟨rfl, rfl⟩) rfl (fun cx5 ecx5 => ?_)
        have fcx5 := yAt.row fa0 ecx5
        refine ye_p rfl rfl ?_
        obtain ⟨j6, ej6, ij6, h⟩ := gA_some h
        refine yj_ald rfl (M5.arr fcx5 yr_12_48) ij6 ej6 ?_
        refine ye_aload rfl g0_z2 ?_
        refine ye_iload rfl g2_z2 ?_
        refine ye_iload rfl g3_z2 ?_
        obtain ⟨w4, hw4, h⟩ := bV_some h
        refine ye_callV (As := [.int (S.2.1 8 61 j1), .int (S1.2.1 8 58 j3)]) (rest := [.int (S5.2.1 8 48 j6), .int 9, .int (S1.2.1 8 58 j3), .ref a0]) 0 (Or.inl rfl) rfl rfl rfl (Nat.le_of_ble_eq_true rfl) (M5.obj fa0 ⟨rfl, rfl⟩) ((m_X12_quarters (d := d + 10) (T := T) N S5 (S.2.1 8 61 j1) (S1.2.1 8 58 j3) a0 fa0 hw4) y5 sz M5) ?_
        refine ye_p rfl rfl ?_
        obtain ⟨w5, S6, hw5, h⟩ := bS_some h
        obtain ⟨y6, cy6, M6⟩ := (m_X12_plane2 (d := d + 11) (T := T) N S5 (S1.2.1 8 58 j3) 9 ((S5.2.1 8 48 j6) + w4) a0 fa0 hw5) y5 sz M5
        refine ye_callV (As := [.int (S1.2.1 8 58 j3), .int 9, .int ((S5.2.1 8 48 j6) + w4)]) (rest := []) 0 (Or.inl rfl) rfl rfl rfl (Nat.le_of_ble_eq_true rfl) (M5.obj fa0 ⟨rfl, rfl⟩) cy6 ?_
        exact w_X12_send_132 (prim := prim) (d := d) N (fun S l1 => f_X12_send_37 n N S l1) ih S6 l1 y6 lvz2 a0 fa0 g0_z2 g1_z2 M6 h
      · replace h := yiN h2 h
        refine ye_p rfl rfl ?_
        exact w_X12_send_132 (prim := prim) (d := d) N (fun S l1 => f_X12_send_37 n N S l1) ih S1 l1 y1 lvz1 a0 fa0 g0_z1 g1_z1 M1 h

def f_X12_send_0 (N : Nat) (S : yS) : Option (Int32 × yS) := sq (yI S 8 47 0) fun S1 => bS (f_X12_findNeedy N S1) fun w1 S2 => sq (yI S2 8 62 ((-1))) fun S3 => sq (yI S3 8 63 0) fun S4 => bS (f_X12_sendFromT N S4 0 0 0) fun w2 S5 => sq (yI S5 8 46 (S5.1 8 59)) fun S6 => f_X12_send_37 N N S6 0
set_option maxHeartbeats 4000000 in
set_option maxRecDepth 40000 in
theorem w_X12_send_0 {F : xH} {ev : xEv} {prim : xRel} {d sz : Nat} {T : yT} {v : Int32} {S' : yS} (N : Nat) (S : yS) (hp : xH) (lv : xLv) (a0 : Nat) (fa0 : yAt T 12 8 0 a0) (g0 : xG lv 0 = some (.ref a0)) (hM : cR [8] F ev T S hp) (h : f_X12_send_0 N S = some (v, S')) : yWE ev.2.1 (xstr ev) (xCalls ev xmi (xprog ev) prim (d + 12)) (pX12_send ev) (0, lv, [], hp, sz, 0) (ypQ [8] F ev T sz (some (.int v)) S') := by
  unfold f_X12_send_0 at h
  refine ye_aload rfl g0 ?_
  refine ye_p rfl rfl ?_
  obtain ⟨S1, eS1, h⟩ := sq_some h
  refine yw_putI rfl hM fa0 rfl ⟨rfl, rfl⟩ (Nat.le_of_ble_eq_true rfl) rfl rfl (ys_12_47 ev T _ 0) (fun q => absurd q (by decide)) eS1 (fun y1 M1 => ?_)
  refine ye_aload rfl g0 ?_
  obtain ⟨w1, S2, hw1, h⟩ := bS_some h
  obtain ⟨y2, cy2, M2⟩ := (m_X12_findNeedy (d := d + 9) (T := T) N S1 a0 fa0 hw1) y1 sz M1
  refine ye_callV (As := []) (rest := []) 0 (Or.inl rfl) rfl rfl rfl (Nat.le_of_ble_eq_true rfl) (M1.obj fa0 ⟨rfl, rfl⟩) cy2 ?_
  refine ye_p rfl rfl ?_
  refine ye_aload rfl g0 ?_
  refine ye_p rfl rfl ?_
  obtain ⟨S3, eS3, h⟩ := sq_some h
  refine yw_putI rfl M2 fa0 rfl ⟨rfl, rfl⟩ (Nat.le_of_ble_eq_true rfl) rfl rfl (ys_12_62 ev T _ ((-1))) (fun q => absurd q (by decide)) eS3 (fun y3 M3 => ?_)
  refine ye_aload rfl g0 ?_
  refine ye_p rfl rfl ?_
  obtain ⟨S4, eS4, h⟩ := sq_some h
  refine yw_putI rfl M3 fa0 rfl ⟨rfl, rfl⟩ (Nat.le_of_ble_eq_true rfl) rfl rfl (ys_12_63 ev T _ 0) (fun q => absurd q (by decide)) eS4 (fun y4 M4 => ?_)
  refine ye_aload rfl g0 ?_
  refine ye_p rfl rfl ?_
  refine ye_p rfl rfl ?_
  refine ye_p rfl rfl ?_
  obtain ⟨w2, S5, hw2, h⟩ := bS_some h
  obtain ⟨y5, cy5, M5⟩ := (m_X12_sendFromT (d := d + 0) (T := T) N S4 0 0 0 a0 fa0 hw2) y4 sz M4
  refine ye_callV (As := [.int 0, .int 0, .int 0]) (rest := []) 0 (Or.inl rfl) rfl rfl rfl (Nat.le_of_ble_eq_true rfl) (M4.obj fa0 ⟨rfl, rfl⟩) cy5 ?_
  refine ye_aload rfl g0 ?_
  refine ye_aload rfl g0 ?_
  refine ye_getf rfl (M5.obj fa0 ⟨rfl, rfl⟩) rfl ?_
  obtain ⟨S6, eS6, h⟩ := sq_some h
  refine yw_putI rfl M5 fa0 rfl ⟨rfl, rfl⟩ (Nat.le_of_ble_eq_true rfl) rfl rfl (ys_12_46 ev T _ (S5.1 8 59)) (fun q => absurd q (by decide)) eS6 (fun y6 M6 => ?_)
  refine ye_p rfl rfl ?_
  refine ye_p rfl rfl ?_
  have g0_z1 := xG_o1 (i := 1) (v := .int 0) g0 rfl
  have g1_z1 := xG_same lv 1 (.int 0)
  generalize xSt1 lv 1 (.int 0) = lvz1 at g0_z1 g1_z1 ⊢
  exact w_X12_send_37 (prim := prim) (d := d) N N S6 0 y6 lvz1 a0 fa0 g0_z1 g1_z1 M6 h
def f_X12_send (N : Nat) (S : yS) : Option (Int32 × yS) := f_X12_send_0 N S
theorem m_X12_send {F : xH} {ev : xEv} {prim : xRel} {d : Nat} {T : yT} {v : Int32} {S' : yS} (N : Nat) (S : yS) (a0 : Nat) (fa0 : yAt T 12 8 0 a0) (h : f_X12_send N S = some (v, S')) : ykQ [8] F ev prim (d + 13) 290 T S [.ref a0] (some (.int v)) S' :=
  ykQ.of (pg_290 ev) mi_290 (Nat.le_of_ble_eq_true rfl) (fun hp sz hM => w_X12_send_0 (prim := prim) (d := d) N S hp _ a0 fa0 rfl hM h)

def f_X12_go_2 : Nat → Nat → yS → Int32 → Int32 → Option (Int32 × yS)
  | 0, _, _, _, _ => none
  | n + 1, N, S, l1, l2 => if l1 ≤ l2 then some (0, S) else bS (f_X12_goQuarter N S) fun w1 S1 => f_X12_go_2 n N S1 l1 (l2 + 1)
set_option maxHeartbeats 4000000 in
set_option maxRecDepth 40000 in
theorem w_X12_go_2 {F : xH} {ev : xEv} {prim : xRel} {d sz : Nat} {T : yT} {v : Int32} {S' : yS} (N : Nat) (n : Nat) : ∀ (S : yS) (l1 : Int32) (l2 : Int32) (hp : xH) (lv : xLv) (a0 : Nat) (fa0 : yAt T 12 8 0 a0) (g0 : xG lv 0 = some (.ref a0)) (g1 : xG lv 1 = some (.int l1)) (g2 : xG lv 2 = some (.int l2)) (hM : cR [8] F ev T S hp) (h : f_X12_go_2 n N S l1 l2 = some (v, S')), yWE ev.2.1 (xstr ev) (xCalls ev xmi (xprog ev) prim (d + 408)) (pX12_go ev) (2, lv, [], hp, sz, 0) (ypQ [8] F ev T sz (none) S') := by
  induction n with
  | zero => intro S l1 l2 hp lv a0 fa0 g0 g1 g2 hM h; exact n_some h
  | succ n ih =>
    intro S l1 l2 hp lv a0 fa0 g0 g1 g2 hM h
    unfold f_X12_go_2 at h
    refine ye_iload rfl g2 ?_
    refine ye_iload rfl g1 ?_
    refine ye_icmp_ge rfl (fun h1 => ?_) (fun h1 => ?_)
    · replace h := yiT h1 h
      exact ye_ret rfl rfl (rQV h hM)
    · replace h := yiN h1 h
      refine ye_aload rfl g0 ?_
      obtain ⟨w1, S1, hw1, h⟩ := bS_some h
      obtain ⟨y1, cy1, M1⟩ := (m_X12_goQuarter (d := d + 0) (T := T) N S a0 fa0 hw1) hp sz hM
      refine ye_callV (As := []) (rest := []) 0 (Or.inl rfl) rfl rfl rfl (Nat.le_of_ble_eq_true rfl) (hM.obj fa0 ⟨rfl, rfl⟩) cy1 ?_
      refine ye_iinc rfl g2 ?_
      have g0_z1 := xG_o1 (i := 2) (v := .int (l2 + 1)) g0 rfl
      have g1_z1 := xG_o1 (i := 2) (v := .int (l2 + 1)) g1 rfl
      have g2_z1 := xG_same lv 2 (.int (l2 + 1))
      generalize xSt1 lv 2 (.int (l2 + 1)) = lvz1 at g0_z1 g1_z1 g2_z1 ⊢
      refine ye_p rfl rfl ?_
      exact ih S1 l1 (l2 + 1) y1 lvz1 a0 fa0 g0_z1 g1_z1 g2_z1 M1 h

def f_X12_go_0 (N : Nat) (S : yS) (l1 : Int32) : Option (Int32 × yS) := f_X12_go_2 N N S l1 0
set_option maxHeartbeats 4000000 in
set_option maxRecDepth 40000 in
theorem w_X12_go_0 {F : xH} {ev : xEv} {prim : xRel} {d sz : Nat} {T : yT} {v : Int32} {S' : yS} (N : Nat) (S : yS) (l1 : Int32) (hp : xH) (lv : xLv) (a0 : Nat) (fa0 : yAt T 12 8 0 a0) (g0 : xG lv 0 = some (.ref a0)) (g1 : xG lv 1 = some (.int l1)) (hM : cR [8] F ev T S hp) (h : f_X12_go_0 N S l1 = some (v, S')) : yWE ev.2.1 (xstr ev) (xCalls ev xmi (xprog ev) prim (d + 408)) (pX12_go ev) (0, lv, [], hp, sz, 0) (ypQ [8] F ev T sz (none) S') := by
  unfold f_X12_go_0 at h
  refine ye_p rfl rfl ?_
  refine ye_p rfl rfl ?_
  have g0_z1 := xG_o1 (i := 2) (v := .int 0) g0 rfl
  have g1_z1 := xG_o1 (i := 2) (v := .int 0) g1 rfl
  have g2_z1 := xG_same lv 2 (.int 0)
  generalize xSt1 lv 2 (.int 0) = lvz1 at g0_z1 g1_z1 g2_z1 ⊢
  exact w_X12_go_2 (prim := prim) (d := d) N N S l1 0 hp lvz1 a0 fa0 g0_z1 g1_z1 g2_z1 hM h
def f_X12_go (N : Nat) (S : yS) (xl1 : Int32) : Option (Int32 × yS) := f_X12_go_0 N S xl1
theorem m_X12_go {F : xH} {ev : xEv} {prim : xRel} {d : Nat} {T : yT} {v : Int32} {S' : yS} (N : Nat) (S : yS) (xl1 : Int32) (a0 : Nat) (fa0 : yAt T 12 8 0 a0) (h : f_X12_go N S xl1 = some (v, S')) : ykQ [8] F ev prim (d + 409) 294 T S [.ref a0, .int xl1] (none) S' :=
  ykQ.of (pg_294 ev) mi_294 (Nat.le_of_ble_eq_true rfl) (fun hp sz hM => w_X12_go_0 (prim := prim) (d := d) N S xl1 hp _ a0 fa0 rfl rfl hM h)
