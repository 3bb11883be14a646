
def f_X12_forced_171 (N : Nat) (k20 : yS → Int32 → Int32 → Int32 → Int32 → Int32 → Option (Int32 × yS)) (S : yS) (l1 : Int32) (l2 : Int32) (l3 : Int32) (l4 : Int32) (l5 : Int32) : Option (Int32 × yS) := k20 S l1 l2 l3 l4 (l5 + 1)
set_option maxHeartbeats 4000000 in
set_option maxRecDepth 40000 in
theorem w_X12_forced_171 {F : xH} {ev : xEv} {prim : xRel} {d sz : Nat} {T : yT} {v : Int32} {S' : yS} (N : Nat) (k20 : yS → Int32 → Int32 → Int32 → Int32 → Int32 → Option (Int32 × yS)) (u20 : ∀ (S : yS) (l1 : Int32) (l2 : Int32) (l3 : Int32) (l4 : Int32) (l5 : Int32) (hp : xH) (lv : xLv) (a0 : Nat) (fa0 : yAt T 12 8 0 a0) (g0 : xG lv 0 = some (.ref a0)) (g1 : xG lv 1 = some (.int l1)) (g2 : xG lv 2 = some (.int l2)) (g3 : xG lv 3 = some (.int l3)) (g4 : xG lv 4 = some (.int l4)) (g5 : xG lv 5 = some (.int l5)) (hM : cR [8] F ev T S hp) (h : k20 S l1 l2 l3 l4 l5 = some (v, S')), yWE ev.2.1 (xstr ev) (xCalls ev xmi (xprog ev) prim (d + 2)) (pX12_forced ev) (20, lv, [], hp, sz, 0) (ypQ [8] F ev T sz (none) S')) (S : yS) (l1 : Int32) (l2 : Int32) (l3 : Int32) (l4 : Int32) (l5 : Int32) (hp : xH) (lv : xLv) (a0 : Nat) (fa0 : yAt T 12 8 0 a0) (g0 : xG lv 0 = some (.ref a0)) (g1 : xG lv 1 = some (.int l1)) (g2 : xG lv 2 = some (.int l2)) (g3 : xG lv 3 = some (.int l3)) (g4 : xG lv 4 = some (.int l4)) (g5 : xG lv 5 = some (.int l5)) (hM : cR [8] F ev T S hp) (h : f_X12_forced_171 N k20 S l1 l2 l3 l4 l5 = some (v, S')) : yWE ev.2.1 (xstr ev) (xCalls ev xmi (xprog ev) prim (d + 2)) (pX12_forced ev) (171, lv, [], hp, sz, 0) (ypQ [8] F ev T sz (none) S') := by
  unfold f_X12_forced_171 at h
  refine ye_iinc rfl g5 ?_
  have g0_z1 := xG_o1 (i := 5) (v := .int (l5 + 1)) g0 rfl
  have g1_z1 := xG_o1 (i := 5) (v := .int (l5 + 1)) g1 rfl
  have g2_z1 := xG_o1 (i := 5) (v := .int (l5 + 1)) g2 rfl
  have g3_z1 := xG_o1 (i := 5) (v := .int (l5 + 1)) g3 rfl
  have g4_z1 := xG_o1 (i := 5) (v := .int (l5 + 1)) g4 rfl
  have g5_z1 := xG_same lv 5 (.int (l5 + 1))
  generalize xSt1 lv 5 (.int (l5 + 1)) = lvz1 at g0_z1 g1_z1 g2_z1 g3_z1 g4_z1 g5_z1 ⊢
  refine ye_p rfl rfl ?_
  exact u20 S l1 l2 l3 l4 (l5 + 1) hp lvz1 a0 fa0 g0_z1 g1_z1 g2_z1 g3_z1 g4_z1 g5_z1 hM h

def f_X12_forced_167 (N : Nat) (k20 : yS → Int32 → Int32 → Int32 → Int32 → Int32 → Option (Int32 × yS)) (S : yS) (l1 : Int32) (l2 : Int32) (l3 : Int32) (l5 : Int32) : Option (Int32 × yS) := f_X12_forced_171 N k20 S l1 l2 l3 l5 l5
set_option maxHeartbeats 4000000 in
set_option maxRecDepth 40000 in
theorem w_X12_forced_167 {F : xH} {ev : xEv} {prim : xRel} {d sz : Nat} {T : yT} {v : Int32} {S' : yS} (N : Nat) (k20 : yS → Int32 → Int32 → Int32 → Int32 → Int32 → Option (Int32 × yS)) (u20 : ∀ (S : yS) (l1 : Int32) (l2 : Int32) (l3 : Int32) (l4 : Int32) (l5 : Int32) (hp : xH) (lv : xLv) (a0 : Nat) (fa0 : yAt T 12 8 0 a0) (g0 : xG lv 0 = some (.ref a0)) (g1 : xG lv 1 = some (.int l1)) (g2 : xG lv 2 = some (.int l2)) (g3 : xG lv 3 = some (.int l3)) (g4 : xG lv 4 = some (.int l4)) (g5 : xG lv 5 = some (.int l5)) (hM : cR [8] F ev T S hp) (h : k20 S l1 l2 l3 l4 l5 = some (v, S')), yWE ev.2.1 (xstr ev) (xCalls ev xmi (xprog ev) prim (d + 2)) (pX12_forced ev) (20, lv, [], hp, sz, 0) (ypQ [8] F ev T sz (none) S')) (S : yS) (l1 : Int32) (l2 : Int32) (l3 : Int32) (l5 : Int32) (hp : xH) (lv : xLv) (a0 : Nat) (fa0 : yAt T 12 8 0 a0) (g0 : xG lv 0 = some (.ref a0)) (g1 : xG lv 1 = some (.int l1)) (g2 : xG lv 2 = some (.int l2)) (g3 : xG lv 3 = some (.int l3)) (g5 : xG lv 5 = some (.int l5)) (hM : cR [8] F ev T S hp) (h : f_X12_forced_167 N k20 S l1 l2 l3 l5 = some (v, S')) : yWE ev.2.1 (xstr ev) (xCalls ev xmi (xprog ev) prim (d + 2)) (pX12_forced ev) (167, lv, [], hp, sz, 0) (ypQ [8] F ev T sz (none) S') := by
  unfold f_X12_forced_167 at h
  refine ye_iload rfl g5 ?_
  refine ye_p rfl rfl ?_
  have g0_z1 := xG_o1 (i := 4) (v := .int l5) g0 rfl
  have g1_z1 := xG_o1 (i := 4) (v := .int l5) g1 rfl
  have g2_z1 := xG_o1 (i := 4) (v := .int l5) g2 rfl
  have g3_z1 := xG_o1 (i := 4) (v := .int l5) g3 rfl
  have g5_z1 := xG_o1 (i := 4) (v := .int l5) g5 rfl
  have g4_z1 := xG_same lv 4 (.int l5)
  generalize xSt1 lv 4 (.int l5) = lvz1 at g0_z1 g1_z1 g2_z1 g3_z1 g5_z1 g4_z1 ⊢
  exact w_X12_forced_171 (prim := prim) (d := d) N k20 u20 S l1 l2 l3 l5 l5 hp lvz1 a0 fa0 g0_z1 g1_z1 g2_z1 g3_z1 g4_z1 g5_z1 hM h

def f_X12_forced_245 (N : Nat) (S : yS) (l1 : Int32) (t1 : Int32) (t2 : Int32) (t3 : Int32) (t4 : Int32) : Option (Int32 × yS) := bS (f_X12_plane2 N S t1 t2 (t3 + t4)) fun w1 S1 => bS (f_X12_plane2 N S1 l1 3 1) fun w2 S2 => bS (f_X12_plane2 N S2 l1 14 0) fun w3 S3 => bV (f_X12_plane N S3 l1 12) fun w4 => bS (f_X12_endFlight N S3 w4 4) fun w5 S4 => some (0, S4)
set_option maxHeartbeats 4000000 in
set_option maxRecDepth 40000 in
theorem w_X12_forced_245 {F : xH} {ev : xEv} {prim : xRel} {d sz : Nat} {T : yT} {v : Int32} {S' : yS} (N : Nat) (S : yS) (l1 : Int32) (t1 : Int32) (t2 : Int32) (t3 : Int32) (t4 : Int32) (hp : xH) (lv : xLv) (a0 : Nat) (b0 : Nat) (fa0 : yAt T 12 8 0 a0) (fb0 : yAt T 12 8 0 b0) (g0 : xG lv 0 = some (.ref a0)) (g1 : xG lv 1 = some (.int l1)) (hM : cR [8] F ev T S hp) (h : f_X12_forced_245 N S l1 t1 t2 t3 t4 = some (v, S')) : yWE ev.2.1 (xstr ev) (xCalls ev xmi (xprog ev) prim (d + 2)) (pX12_forced ev) (245, lv, [.int t4, .int t3, .int t2, .int t1, .ref b0], hp, sz, 0) (ypQ [8] F ev T sz (none) S') := by
  unfold f_X12_forced_245 at h
  refine ye_p rfl rfl ?_
  obtain ⟨w1, S1, hw1, h⟩ := bS_some h
  obtain ⟨y1, cy1, M1⟩ := (m_X12_plane2 (d := d + 1) (T := T) N S t1 t2 (t3 + t4) b0 fb0 hw1) hp sz hM
  refine ye_callV (As := [.int t1, .int t2, .int (t3 + t4)]) (rest := []) 0 (Or.inl rfl) rfl rfl rfl (Nat.le_of_ble_eq_true rfl) (hM.obj fb0 ⟨rfl, rfl⟩) cy1 ?_
  refine ye_aload rfl g0 ?_
  refine ye_iload rfl g1 ?_
  refine ye_p rfl rfl ?_
  refine ye_p rfl rfl ?_
  obtain ⟨w2, S2, hw2, h⟩ := bS_some h
  obtain ⟨y2, cy2, M2⟩ := (m_X12_plane2 (d := d + 1) (T := T) N S1 l1 3 1 a0 fa0 hw2) y1 sz M1
  refine ye_callV (As := [.int l1, .int 3, .int 1]) (rest := []) 0 (Or.inl rfl) rfl rfl rfl (Nat.le_of_ble_eq_true rfl) (M1.obj fa0 ⟨rfl, rfl⟩) cy2 ?_
  refine ye_aload rfl g0 ?_
  refine ye_iload rfl g1 ?_
  refine ye_p rfl rfl ?_
  refine ye_p rfl rfl ?_
  obtain ⟨w3, S3, hw3, h⟩ := bS_some h
  obtain ⟨y3, cy3, M3⟩ := (m_X12_plane2 (d := d + 1) (T := T) N S2 l1 14 0 a0 fa0 hw3) y2 sz M2
  refine ye_callV (As := [.int l1, .int 14, .int 0]) (rest := []) 0 (Or.inl rfl) rfl rfl rfl (Nat.le_of_ble_eq_true rfl) (M2.obj fa0 ⟨rfl, rfl⟩) cy3 ?_
  refine ye_aload rfl g0 ?_
  refine ye_aload rfl g0 ?_
  refine ye_iload rfl g1 ?_
  refine ye_p rfl rfl ?_
  obtain ⟨w4, hw4, h⟩ := bV_some h
  refine ye_callV (As := [.int l1, .int 12]) (rest := [.ref a0]) 0 (Or.inl rfl) rfl rfl rfl (Nat.le_of_ble_eq_true rfl) (M3.obj fa0 ⟨rfl, rfl⟩) ((m_X12_plane (d := d + 1) (T := T) N S3 l1 12 a0 fa0 hw4) y3 sz M3) ?_
  refine ye_p rfl rfl ?_
  obtain ⟨w5, S4, hw5, h⟩ := bS_some h
  obtain ⟨y4, cy4, M4⟩ := (m_X12_endFlight (d := d + 0) (T := T) N S3 w4 4 a0 fa0 hw5) y3 sz M3
  refine ye_callV (As := [.int w4, .int 4]) (rest := []) 0 (Or.inl rfl) rfl rfl rfl (Nat.le_of_ble_eq_true rfl) (M3.obj fa0 ⟨rfl, rfl⟩) cy4 ?_
  exact ye_ret rfl rfl (rQV h M4)

def f_X12_forced_223 (N : Nat) (S : yS) (l1 : Int32) (l5 : Int32) : Option (Int32 × yS) := gA 2305 0 fun j1 => bV (f_X12_isDark N S (S.2.1 8 48 j1)) fun w1 => if w1 = 0 then f_X12_forced_245 N S l1 l1 4 l5 0 else f_X12_forced_245 N S l1 l1 4 l5 1
set_option maxHeartbeats 4000000 in
set_option maxRecDepth 40000 in
theorem w_X12_forced_223 {F : xH} {ev : xEv} {prim : xRel} {d sz : Nat} {T : yT} {v : Int32} {S' : yS} (N : Nat) (S : yS) (l1 : Int32) (l5 : Int32) (hp : xH) (lv : xLv) (a0 : Nat) (fa0 : yAt T 12 8 0 a0) (g0 : xG lv 0 = some (.ref a0)) (g1 : xG lv 1 = some (.int l1)) (g5 : xG lv 5 = some (.int l5)) (hM : cR [8] F ev T S hp) (h : f_X12_forced_223 N S l1 l5 = some (v, S')) : yWE ev.2.1 (xstr ev) (xCalls ev xmi (xprog ev) prim (d + 2)) (pX12_forced ev) (223, lv, [], hp, sz, 0) (ypQ [8] F ev T sz (none) S') := by
  unfold f_X12_forced_223 at h
  refine ye_aload rfl g0 ?_
  refine ye_iload rfl g1 ?_
  refine ye_p rfl rfl ?_
  refine ye_iload rfl g5 ?_
  refine ye_aload rfl g0 ?_
  refine ye_getr rfl (hM.obj fa0 ⟨rfl, rfl⟩) rfl (fun cx1 ecx1 => ?_)
  have fcx1 := yAt.row fa0 ecx1
  refine ye_p rfl rfl ?_
  obtain ⟨j1, ej1, ij1, h⟩ := gA_some h
  refine yj_ald rfl (hM.arr fcx1 yr_12_48) ij1 ej1 ?_
  obtain ⟨w1, hw1, h⟩ := bV_some h
  refine ye_callS (As := [.int (S.2.1 8 48 j1)]) (rest := [.int l5, .int 4, .int l1, .ref a0]) 1 (Or.inl rfl) rfl rfl rfl (Nat.le_of_ble_eq_true rfl) ((m_X12_isDark (d := d + 1) (T := T) N S (S.2.1 8 48 j1) hw1) hp sz hM) ?_
  refine ye_if_eq rfl (fun h1 => ?_) (fun h1 => ?_)
  · replace h := yiT h1 h
    refine ye_p rfl rfl ?_
    exact w_X12_forced_245 (prim := prim) (d := d) N S l1 l1 4 l5 0 hp lv a0 a0 fa0 fa0 g0 g1 hM h
  · replace h := yiN h1 h
    refine ye_p rfl rfl ?_
    refine ye_p rfl rfl ?_
    exact w_X12_forced_245 (prim := prim) (d := d) N S l1 l1 4 l5 1 hp lv a0 a0 fa0 fa0 g0 g1 hM h

def f_X12_forced_198 (N : Nat) (S : yS) (l1 : Int32) (l2 : Int32) (l4 : Int32) (t0 : Int32) : Option (Int32 × yS) := if l4 = ((-1)) then f_X12_forced_223 N S l1 t0 else gA 48 ((4 * l2) + l4) fun j1 => bS (f_X12_plane2 N S l1 2 (S.2.1 8 6 j1)) fun w1 S1 => f_X12_forced_223 N S1 l1 t0
set_option maxHeartbeats 4000000 in
set_option maxRecDepth 40000 in
theorem w_X12_forced_198 {F : xH} {ev : xEv} {prim : xRel} {d sz : Nat} {T : yT} {v : Int32} {S' : yS} (N : Nat) (S : yS) (l1 : Int32) (l2 : Int32) (l4 : Int32) (t0 : Int32) (hp : xH) (lv : xLv) (a0 : Nat) (fa0 : yAt T 12 8 0 a0) (g0 : xG lv 0 = some (.ref a0)) (g1 : xG lv 1 = some (.int l1)) (g2 : xG lv 2 = some (.int l2)) (g4 : xG lv 4 = some (.int l4)) (hM : cR [8] F ev T S hp) (h : f_X12_forced_198 N S l1 l2 l4 t0 = some (v, S')) : yWE ev.2.1 (xstr ev) (xCalls ev xmi (xprog ev) prim (d + 2)) (pX12_forced ev) (198, lv, [.int t0], hp, sz, 0) (ypQ [8] F ev T sz (none) S') := by
  unfold f_X12_forced_198 at h
  refine ye_p rfl rfl ?_
  have g0_z1 := xG_o1 (i := 5) (v := .int t0) g0 rfl
  have g1_z1 := xG_o1 (i := 5) (v := .int t0) g1 rfl
  have g2_z1 := xG_o1 (i := 5) (v := .int t0) g2 rfl
  have g4_z1 := xG_o1 (i := 5) (v := .int t0) g4 rfl
  have g5_z1 := xG_same lv 5 (.int t0)
  generalize xSt1 lv 5 (.int t0) = lvz1 at g0_z1 g1_z1 g2_z1 g4_z1 g5_z1 ⊢
  refine ye_iload rfl g4_z1 ?_
  refine ye_p rfl rfl ?_
  refine ye_icmp_eq rfl (fun h1 => ?_) (fun h1 => ?_)
  · replace h := yiT h1 h
    exact w_X12_forced_223 (prim := prim) (d := d) N S l1 t0 hp lvz1 a0 fa0 g0_z1 g1_z1 g5_z1 hM h
  · replace h := yiN h1 h
    refine ye_aload rfl g0_z1 ?_
    refine ye_iload rfl g1_z1 ?_
    refine ye_p rfl rfl ?_
    refine ye_aload rfl g0_z1 ?_
    refine ye_getr rfl (hM.obj fa0 ⟨rfl, rfl⟩) rfl (fun cx1 ecx1 => ?_)
    have fcx1 := yAt.row fa0 ecx1
    refine ye_p rfl rfl ?_
    refine ye_iload rfl g2_z1 ?_
    refine ye_p rfl rfl ?_
    refine ye_iload rfl g4_z1 ?_
    refine ye_p rfl rfl ?_
    obtain ⟨j1, ej1, ij1, h⟩ := gA_some h
    refine yj_ald rfl (hM.arr fcx1 yr_12_6) ij1 ej1 ?_
    obtain ⟨w1, S1, hw1, h⟩ := bS_some h
    obtain ⟨y1, cy1, M1⟩ := (m_X12_plane2 (d := d + 1) (T := T) N S l1 2 (S.2.1 8 6 j1) a0 fa0 hw1) hp sz hM
    refine ye_callV (As := [.int l1, .int 2, .int (S.2.1 8 6 j1)]) (rest := []) 0 (Or.inl rfl) rfl rfl rfl (Nat.le_of_ble_eq_true rfl) (hM.obj fa0 ⟨rfl, rfl⟩) cy1 ?_
    exact w_X12_forced_223 (prim := prim) (d := d) N S1 l1 t0 y1 lvz1 a0 fa0 g0_z1 g1_z1 g5_z1 M1 h

def f_X12_forced_20 : Nat → Nat → yS → Int32 → Int32 → Int32 → Int32 → Int32 → Option (Int32 × yS)
  | 0, _, _, _, _, _, _, _ => none
  | n + 1, N, S, l1, l2, l3, l4, l5 => gA 12 l2 fun j1 => if (S.2.1 8 8 j1) ≤ l5 then if ¬ l4 = ((-1)) then gA 48 ((4 * l2) + l4) fun j2 => f_X12_forced_198 N S l1 l2 l4 (S.2.1 8 7 j2) else f_X12_forced_198 N S l1 l2 l4 4 else gA 48 ((4 * l2) + l5) fun j3 => if (if 0 ≤ ((S.2.1 8 6 j3) - l3) then ((S.2.1 8 6 j3) - l3) else 0 - ((S.2.1 8 6 j3) - l3)) ≤ (S.1 8 35) then if l4 = ((-1)) then f_X12_forced_167 N (fun S l1 l2 l3 l4 l5 => f_X12_forced_20 n N S l1 l2 l3 l4 l5) S l1 l2 l3 l5 else gA 48 ((4 * l2) + l4) fun j4 => gA 48 ((4 * l2) + l5) fun j5 => gA 48 ((4 * l2) + l4) fun j6 => if (S.2.1 8 7 j5) = (S.2.1 8 7 j6) then if (if 0 ≤ ((S.2.1 8 6 j3) - l3) then ((S.2.1 8 6 j3) - l3) else 0 - ((S.2.1 8 6 j3) - l3)) = (if 0 ≤ ((S.2.1 8 6 j4) - l3) then ((S.2.1 8 6 j4) - l3) else 0 - ((S.2.1 8 6 j4) - l3)) then gA 48 ((4 * l2) + l5) fun j7 => gA 48 ((4 * l2) + l4) fun j8 => if (S.2.1 8 6 j7) < (S.2.1 8 6 j8) then f_X12_forced_167 N (fun S l1 l2 l3 l4 l5 => f_X12_forced_20 n N S l1 l2 l3 l4 l5) S l1 l2 l3 l5 else f_X12_forced_171 N (fun S l1 l2 l3 l4 l5 => f_X12_forced_20 n N S l1 l2 l3 l4 l5) S l1 l2 l3 l4 l5 else if (if 0 ≤ ((S.2.1 8 6 j3) - l3) then ((S.2.1 8 6 j3) - l3) else 0 - ((S.2.1 8 6 j3) - l3)) ≤ (if 0 ≤ ((S.2.1 8 6 j4) - l3) then ((S.2.1 8 6 j4) - l3) else 0 - ((S.2.1 8 6 j4) - l3)) then f_X12_forced_167 N (fun S l1 l2 l3 l4 l5 => f_X12_forced_20 n N S l1 l2 l3 l4 l5) S l1 l2 l3 l5 else f_X12_forced_171 N (fun S l1 l2 l3 l4 l5 => f_X12_forced_20 n N S l1 l2 l3 l4 l5) S l1 l2 l3 l4 l5 else gA 48 ((4 * l2) + l5) fun j9 => gA 48 ((4 * l2) + l4) fun j10 => if (S.2.1 8 7 j9) ≤ (S.2.1 8 7 j10) then f_X12_forced_167 N (fun S l1 l2 l3 l4 l5 => f_X12_forced_20 n N S l1 l2 l3 l4 l5) S l1 l2 l3 l5 else f_X12_forced_171 N (fun S l1 l2 l3 l4 l5 => f_X12_forced_20 n N S l1 l2 l3 l4 l5) S l1 l2 l3 l4 l5 else f_X12_forced_171 N (fun S l1 l2 l3 l4 l5 => f_X12_forced_20 n N S l1 l2 l3 l4 l5) S l1 l2 l3 l4 l5
set_option maxHeartbeats 4000000 in
set_option maxRecDepth 40000 in
theorem w_X12_forced_20 {F : xH} {ev : xEv} {prim : xRel} {d sz : Nat} {T : yT} {v : Int32} {S' : yS} (N : Nat) (n : Nat) : ∀ (S : yS) (l1 : Int32) (l2 : Int32) (l3 : Int32) (l4 : Int32) (l5 : Int32) (hp : xH) (lv : xLv) (a0 : Nat) (fa0 : yAt T 12 8 0 a0) (g0 : xG lv 0 = some (.ref a0)) (g1 : xG lv 1 = some (.int l1)) (g2 : xG lv 2 = some (.int l2)) (g3 : xG lv 3 = some (.int l3)) (g4 : xG lv 4 = some (.int l4)) (g5 : xG lv 5 = some (.int l5)) (hM : cR [8] F ev T S hp) (h : f_X12_forced_20 n N S l1 l2 l3 l4 l5 = some (v, S')), yWE ev.2.1 (xstr ev) (xCalls ev xmi (xprog ev) prim (d + 2)) (pX12_forced ev) (20, lv, [], hp, sz, 0) (ypQ [8] F ev T sz (none) S') := by
  induction n with
  | zero => intro S l1 l2 l3 l4 l5 hp lv a0 fa0 g0 g1 g2 g3 g4 g5 hM h; exact n_some h
  | succ n ih =>
    intro S l1 l2 l3 l4 l5 hp lv a0 fa0 g0 g1 g2 g3 g4 g5 hM h
    unfold f_X12_forced_20 at h
    refine ye_iload rfl g5 ?_
    refine ye_aload rfl g0 ?_
    refine ye_getr rfl (hM.obj fa0 ⟨rfl, rfl⟩) rfl (fun cx1 ecx1 => ?_)
    have fcx1 := yAt.row fa0 ecx1
    refine ye_iload rfl g2 ?_
    obtain ⟨j1, ej1, ij1, h⟩ := gA_some h
    refine yj_ald rfl (hM.arr fcx1 yr_12_8) ij1 ej1 ?_
    refine ye_icmp_ge rfl (fun h1 => ?_) (fun h1 => ?_)
    · replace h := yiT h1 h
      refine ye_iload rfl g4 ?_
      refine ye_p rfl rfl ?_
      refine ye_icmp_ne rfl (fun h2 => ?_) (fun h2 => ?_)
      · replace h := yiT h2 h
        refine ye_aload rfl g0 ?_
        refine ye_getr rfl (hM.obj fa0 ⟨rfl, rfl⟩) rfl (fun cx2 ecx2 => ?_)
        have fcx2 := yAt.row fa0 ecx2
        refine ye_p rfl rfl ?_
        refine ye_iload rfl g2 ?_
        refine ye_p rfl rfl ?_
        refine ye_iload rfl g4 ?_
        refine ye_p rfl rfl ?_
        obtain ⟨j2, ej2, ij2, h⟩ := gA_some h
        refine yj_ald rfl (hM.arr fcx2 yr_12_7) ij2 ej2 ?_
        exact w_X12_forced_198 (prim := prim) (d := d) N S l1 l2 l4 (S.2.1 8 7 j2) hp lv a0 fa0 g0 g1 g2 g4 hM h
      · replace h := yiN h2 h
        refine ye_p rfl rfl ?_
        refine ye_p rfl rfl ?_
        exact w_X12_forced_198 (prim := prim) (d := d) N S l1 l2 l4 4 hp lv a0 fa0 g0 g1 g2 g4 hM h
    · replace h := yiN h1 h
      refine ye_p rfl rfl ?_
      refine ye_iload rfl g2 ?_
      refine ye_p rfl rfl ?_
      refine ye_iload rfl g5 ?_
      refine ye_p rfl rfl ?_
      refine ye_p rfl rfl ?_
      have g0_z1 := xG_o1 (i := 6) (v := .int ((4 * l2) + l5)) g0 rfl
      have g1_z1 := xG_o1 (i := 6) (v := .int ((4 * l2) + l5)) g1 rfl
      have g2_z1 := xG_o1 (i := 6) (v := .int ((4 * l2) + l5)) g2 rfl
      have g3_z1 := xG_o1 (i := 6) (v := .int ((4 * l2) + l5)) g3 rfl
      have g4_z1 := xG_o1 (i := 6) (v := .int ((4 * l2) + l5)) g4 rfl
      have g5_z1 := xG_o1 (i := 6) (v := .int ((4 * l2) + l5)) g5 rfl
      have g6_z1 := xG_same lv 6 (.int ((4 * l2) + l5))
      generalize xSt1 lv 6 (.int ((4 * l2) + l5)) = lvz1 at g0_z1 g1_z1 g2_z1 g3_z1 g4_z1 g5_z1 g6_z1 ⊢
      refine ye_aload rfl g0_z1 ?_
      refine ye_getr rfl (hM.obj fa0 ⟨rfl, rfl⟩) rfl (fun cx3 ecx3 => ?_)
      have fcx3 := yAt.row fa0 ecx3
      refine ye_iload rfl g6_z1 ?_
      obtain ⟨j3, ej3, ij3, h⟩ := gA_some h
      refine yj_ald rfl (hM.arr fcx3 yr_12_6) ij3 ej3 ?_
      refine ye_iload rfl g3_z1 ?_
      refine ye_p rfl rfl ?_
      refine ye_p rfl rfl ?_
      refine ye_p rfl rfl ?_
      have g0_z2 := xG_o1 (i := 7) (v := .int (if 0 ≤ ((S.2.1 8 6 j3) - l3) then ((S.2.1 8 6 j3) - l3) else 0 - ((S.2.1 8 6 j3) - l3))) g0_z1 rfl
      have g1_z2 := xG_o1 (i := 7) (v := .int (if 0 ≤ ((S.2.1 8 6 j3) - l3) then ((S.2.1 8 6 j3) - l3) else 0 - ((S.2.1 8 6 j3) - l3))) g1_z1 rfl
      have g2_z2 := xG_o1 (i := 7) (v := .int (if 0 ≤ ((S.2.1 8 6 j3) - l3) then ((S.2.1 8 6 j3) - l3) else 0 - ((S.2.1 8 6 j3) - l3))) g2_z1 rfl
      have g3_z2 := xG_o1 (i := 7) (v := .int (if 0 ≤ ((S.2.1 8 6 j3) - l3) then ((S.2.1 8 6 j3) - l3) else 0 - ((S.2.1 8 6 j3) - l3))) g3_z1 rfl
      have g4_z2 := xG_o1 (i := 7) (v := .int (if 0 ≤ ((S.2.1 8 6 j3) - l3) then ((S.2.1 8 6 j3) - l3) else 0 - ((S.2.1 8 6 j3) - l3))) g4_z1 rfl
      have g5_z2 := xG_o1 (i := 7) (v := .int (if 0 ≤ ((S.2.1 8 6 j3) - l3) then ((S.2.1 8 6 j3) - l3) else 0 - ((S.2.1 8 6 j3) - l3))) g5_z1 rfl
      have g6_z2 := xG_o1 (i := 7) (v := .int (if 0 ≤ ((S.2.1 8 6 j3) - l3) then ((S.2.1 8 6 j3) - l3) else 0 - ((S.2.1 8 6 j3) - l3))) g6_z1 rfl
      have g7_z2 := xG_same lvz1 7 (.int (if 0 ≤ ((S.2.1 8 6 j3) - l3) then ((S.2.1 8 6 j3) - l3) else 0 - ((S.2.1 8 6 j3) - l3)))
      generalize xSt1 lvz1 7 (.int (if 0 ≤ ((S.2.1 8 6 j3) - l3) then ((S.2.1 8 6 j3) - l3) else 0 - ((S.2.1 8 6 j3) - l3))) = lvz2 at g0_z2 g1_z2 g2_z2 g3_z2 g4_z2 g5_z2 g6_z2 g7_z2 ⊢
      refine ye_iload rfl g7_z2 ?_
      refine ye_aload rfl g0_z2 ?_
      refine ye_getf rfl (hM.obj fa0 ⟨rfl, rfl⟩) rfl ?_
      refine ye_icmp_le rfl (fun h3 => ?_) (fun h3 => ?_)
      · replace h := yiT h3 h
        refine ye_iload rfl g4_z2 ?_
        refine ye_p rfl rfl ?_
        refine ye_icmp_eq rfl (fun h4 => ?_) (fun h4 => ?_)
        · replace h := yiT h4 h
          exact w_X12_forced_167 (prim := prim) (d := d) N (fun S l1 l2 l3 l4 l5 => f_X12_forced_20 n N S l1 l2 l3 l4 l5) ih S l1 l2 l3 l5 hp lvz2 a0 fa0 g0_z2 g1_z2 g2_z2 g3_z2 g5_z2 hM h
        · replace h := yiN h4 h
          refine ye_p rfl rfl ?_
          refine ye_iload rfl g2_z2 ?_
          refine ye_p rfl rfl ?_
          refine ye_iload rfl g4_z2 ?_
          refine ye_p rfl rfl ?_
          refine ye_p rfl rfl ?_
          have g0_z3 := xG_o1 (i := 8) (v := .int ((4 * l2) + l4)) g0_z2 rfl
          have g1_z3 := xG_o1 (i := 8) (v := .int ((4 * l2) + l4)) g1_z2 rfl
          have g2_z3 := xG_o1 (i := 8) (v := .int ((4 * l2) + l4)) g2_z2 rfl
          have g3_z3 := xG_o1 (i := 8) (v := .int ((4 * l2) + l4)) g3_z2 rfl
          have g4_z3 := xG_o1 (i := 8) (v := .int ((4 * l2) + l4)) g4_z2 rfl
          have g5_z3 := xG_o1 (i := 8) (v := .int ((4 * l2) + l4)) g5_z2 rfl
          have g6_z3 := xG_o1 (i := 8) (v := .int ((4 * l2) + l4)) g6_z2 rfl
          have g7_z3 := xG_o1 (i := 8) (v := .int ((4 * l2) + l4)) g7_z2 rfl
          have g8_z3 := xG_same lvz2 8 (.int ((4 * l2) + l4))
          generalize xSt1 lvz2 8 (.int ((4 * l2) + l4)) = lvz3 at g0_z3 g1_z3 g2_z3 g3_z3 g4_z3 g5_z3 g6_z3 g7_z3 g8_z3 ⊢
          refine ye_aload rfl g0_z3 ?_
          refine ye_getr rfl (hM.obj fa0 ⟨rfl, rfl⟩) rfl (fun cx4 ecx4 => ?_)
          have fcx4 := yAt.row fa0 ecx4
          refine ye_iload rfl g8_z3 ?_
          obtain ⟨j4, ej4, ij4, h⟩ := gA_some h
          refine yj_ald rfl (hM.arr fcx4 yr_12_6) ij4 ej4 ?_
          refine ye_iload rfl g3_z3 ?_
          refine ye_p rfl rfl ?_
          refine ye_p rfl rfl ?_
          refine ye_p rfl rfl ?_
          have g0_z4 := xG_o1 (i := 9) (v := .int (if 0 ≤ ((S.2.1 8 6 j4) - l3) then ((S.2.1 8 6 j4) - l3) else 0 - ((S.2.1 8 6 j4) - l3))) g0_z3 rfl
          have g1_z4 := xG_o1 (i := 9) (v := .int (if 0 ≤ ((S.2.1 8 6 j4) - l3) then ((S.2.1 8 6 j4) - l3) else 0 - ((S.2.1 8 6 j4) - l3))) g1_z3 rfl
          have g2_z4 := xG_o1 (i := 9) (v := .int (if 0 ≤ ((S.2.1 8 6 j4) - l3) then ((S.2.1 8 6 j4) - l3) else 0 - ((S.2.1 8 6 j4) - l3))) g2_z3 rfl
          have g3_z4 := xG_o1 (i := 9) (v := .int (if 0 ≤ ((S.2.1 8 6 j4) - l3) then ((S.2.1 8 6 j4) - l3) else 0 - ((S.2.1 8 6 j4) - l3))) g3_z3 rfl
          have g4_z4 := xG_o1 (i := 9) (v := .int (if 0 ≤ ((S.2.1 8 6 j4) - l3) then ((S.2.1 8 6 j4) - l3) else 0 - ((S.2.1 8 6 j4) - l3))) g4_z3 rfl
          have g5_z4 := xG_o1 (i := 9) (v := .int (if 0 ≤ ((S.2.1 8 6 j4) - l3) then ((S.2.1 8 6 j4) - l3) else 0 - ((S.2.1 8 6 j4) - l3))) g5_z3 rfl
          have g6_z4 := xG_o1 (i := 9) (v := .int (if 0 ≤ ((S.2.1 8 6 j4) - l3) then ((S.2.1 8 6 j4) - l3) else 0 - ((S.2.1 8 6 j4) - l3))) g6_z3 rfl
          have g7_z4 := xG_o1 (i := 9) (v := .int (if 0 ≤ ((S.2.1 8 6 j4) - l3) then ((S.2.1 8 6 j4) - l3) else 0 - ((S.2.1 8 6 j4) - l3))) g7_z3 rfl
          have g8_z4 := xG_o1 (i := 9) (v := .int (if 0 ≤ ((S.2.1 8 6 j4) - l3) then ((S.2.1 8 6 j4) - l3) else 0 - ((S.2.1 8 6 j4) - l3))) g8_z3 rfl
          have g9_z4 := xG_same lvz3 9 (.int (if 0 ≤ ((S.2.1 8 6 j4) - l3) then ((S.2.1 8 6 j4) - l3) else 0 - ((S.2.1 8 6 j4) - l3)))
          generalize xSt1 lvz3 9 (.int (if 0 ≤ ((S.2.1 8 6 j4) - l3) then ((S.2.1 8 6 j4) - l3) else 0 - ((S.2.1 8 6 j4) - l3))) = lvz4 at g0_z4 g1_z4 g2_z4 g3_z4 g4_z4 g5_z4 g6_z4 g7_z4 g8_z4 g9_z4 ⊢
          refine ye_aload rfl g0_z4 ?_
          refine ye_getr rfl (hM.obj fa0 ⟨rfl, rfl⟩) rfl (fun cx5 ecx5 => ?_)
          have fcx5 := yAt.row fa0 ecx5
          refine ye_iload rfl g6_z4 ?_
          obtain ⟨j5, ej5, ij5, h⟩ := gA_some h
          refine yj_ald rfl (hM.arr fcx5 yr_12_7) ij5 ej5 ?_
          refine ye_aload rfl g0_z4 ?_
          refine ye_getr rfl (hM.obj fa0 ⟨rfl, rfl⟩) rfl (fun cx6 ecx6 => ?_)
          have fcx6 := yAt.row fa0 ecx6
          refine ye_iload rfl g8_z4 ?_
          obtain ⟨j6, ej6, ij6, h⟩ := gA_some h
          refine yj_ald rfl (hM.arr fcx6 yr_12_7) ij6 ej6 ?_
          refine ye_icmp_eq rfl (fun h5 => ?_) (fun h5 => ?_)
          · replace h := yiT h5 h
            refine ye_iload rfl g7_z4 ?_
            refine ye_iload rfl g9_z4 ?_
            refine ye_icmp_eq rfl (fun h6 => ?_) (fun h6 => ?_)
            · replace h := yiT h6 h
              refine ye_aload rfl g0_z4 ?_
              refine ye_getr rfl (hM.obj fa0 ⟨rfl, rfl⟩) rfl (fun cx7 ecx7 => ?_)
              have fcx7 := yAt.row fa0 ecx7
              refine ye_iload rfl g6_z4 ?_
              obtain ⟨j7, ej7, ij7, h⟩ := gA_some h
              refine yj_ald rfl (hM.arr fcx7 yr_12_6) ij7 ej7 ?_
              refine ye_aload rfl g0_z4 ?_
              refine ye_getr rfl (hM.obj fa0 ⟨rfl, rfl⟩) rfl (fun cx8 ecx8 => ?_)
              have fcx8 := yAt.row fa0 ecx8
              refine ye_iload rfl g8_z4 ?_
              obtain ⟨j8, ej8, ij8, h⟩ := gA_some h
              refine yj_ald rfl (hM.arr fcx8 yr_12_6) ij8 ej8 ?_
              refine ye_icmp_lt rfl (fun h7 => ?_) (fun h7 => ?_)
              · replace h := yiT h7 h
                exact w_X12_forced_167 (prim := prim) (d := d) N (fun S l1 l2 l3 l4 l5 => f_X12_forced_20 n N S l1 l2 l3 l4 l5) ih S l1 l2 l3 l5 hp lvz4 a0 fa0 g0_z4 g1_z4 g2_z4 g3_z4 g5_z4 hM h
              · replace h := yiN h7 h
                refine ye_p rfl rfl ?_
                exact w_X12_forced_171 (prim := prim) (d := d) N (fun S l1 l2 l3 l4 l5 => f_X12_forced_20 n N S l1 l2 l3 l4 l5) ih S l1 l2 l3 l4 l5 hp lvz4 a0 fa0 g0_z4 g1_z4 g2_z4 g3_z4 g4_z4 g5_z4 hM h
            · replace h := yiN h6 h
              refine ye_iload rfl g7_z4 ?_
              refine ye_iload rfl g9_z4 ?_
              refine ye_icmp_le rfl (fun h8 => ?_) (fun h8 => ?_)
              · replace h := yiT h8 h
                exact w_X12_forced_167 (prim := prim) (d := d) N (fun S l1 l2 l3 l4 l5 => f_X12_forced_20 n N S l1 l2 l3 l4 l5) ih S l1 l2 l3 l5 hp lvz4 a0 fa0 g0_z4 g1_z4 g2_z4 g3_z4 g5_z4 hM h
              · replace h := yiN h8 h
                refine ye_p rfl rfl ?_
                exact w_X12_forced_171 (prim := prim) (d := d) N (fun S l1 l2 l3 l4 l5 => f_X12_forced_20 n N S l1 l2 l3 l4 l5) ih S l1 l2 l3 l4 l5 hp lvz4 a0 fa0 g0_z4 g1_z4 g2_z4 g3_z4 g4_z4 g5_z4 hM h
          · replace h := yiN h5 h
            refine ye_aload rfl g0_z4 ?_
            refine ye_getr rfl (hM.obj fa0 ⟨rfl, rfl⟩) rfl (fun cx9 ecx9 => ?_)
            have fcx9 := yAt.row fa0 ecx9
            refine ye_iload rfl g6_z4 ?_
            obtain ⟨j9, ej9, ij9, h⟩ := gA_some h
            refine yj_ald rfl (hM.arr fcx9 yr_12_7) ij9 ej9 ?_
            refine ye_aload rfl g0_z4 ?_
            refine ye_getr rfl (hM.obj fa0 ⟨rfl, rfl⟩) rfl (fun cx10 ecx10 => ?_)
            have fcx10 := yAt.row fa0 ecx10
            refine ye_iload rfl g8_z4 ?_
            obtain ⟨j10, ej10, ij10, h⟩ := gA_some h
            refine yj_ald rfl (hM.arr fcx10 yr_12_7) ij10 ej10 ?_
            refine ye_icmp_le rfl (fun h9 => ?_) (fun h9 => ?_)
            · replace h := yiT h9 h
              exact w_X12_forced_167 (prim := prim) (d := d) N (fun S l1 l2 l3 l4 l5 => f_X12_forced_20 n N S l1 l2 l3 l4 l5) ih S l1 l2 l3 l5 hp lvz4 a0 fa0 g0_z4 g1_z4 g2_z4 g3_z4 g5_z4 hM h
            · replace h := yiN h9 h
              refine ye_p rfl rfl ?_
              exact w_X12_forced_171 (prim := prim) (d := d) N (fun S l1 l2 l3 l4 l5 => f_X12_forced_20 n N S l1 l2 l3 l4 l5) ih S l1 l2 l3 l4 l5 hp lvz4 a0 fa0 g0_z4 g1_z4 g2_z4 g3_z4 g4_z4 g5_z4 hM h
      · replace h := yiN h3 h
        refine ye_p rfl rfl ?_
        exact w_X12_forced_171 (prim := prim) (d := d) N (fun S l1 l2 l3 l4 l5 => f_X12_forced_20 n N S l1 l2 l3 l4 l5) ih S l1 l2 l3 l4 l5 hp lvz2 a0 fa0 g0_z2 g1_z2 g2_z2 g3_z2 g4_z2 g5_z2 hM h

def f_X12_forced_0 (N : Nat) (S : yS) (l1 : Int32) : Option (Int32 × yS) := bV (f_X12_plane N S l1 1) fun w1 => bV (f_X12_plane N S l1 2) fun w2 => f_X12_forced_20 N N S l1 w1 w2 ((-1)) 0
set_option maxHeartbeats 4000000 in
set_option maxRecDepth 40000 in
theorem w_X12_forced_0 {F : xH} {ev : xEv} {prim : xRel} {d sz : Nat} {T : yT} {v : Int32} {S' : yS} (N : Nat) (S : yS) (l1 : Int32) (hp : xH) (lv : xLv) (a0 : Nat) (fa0 : yAt T 12 8 0 a0) (g0 : xG lv 0 = some (.ref a0)) (g1 : xG lv 1 = some (.int l1)) (hM : cR [8] F ev T S hp) (h : f_X12_forced_0 N S l1 = some (v, S')) : yWE ev.2.1 (xstr ev) (xCalls ev xmi (xprog ev) prim (d + 2)) (pX12_forced ev) (0, lv, [], hp, sz, 0) (ypQ [8] F ev T sz (none) S') := by
  unfold f_X12_forced_0 at h
  refine ye_aload rfl g0 ?_
  refine ye_iload rfl g1 ?_
  refine ye_p rfl rfl ?_
  obtain ⟨w1, hw1, h⟩ := bV_some h
  refine ye_callV (As := [.int l1, .int 1]) (rest := []) 0 (Or.inl rfl) rfl rfl rfl (Nat.le_of_ble_eq_true rfl) (hM.obj fa0 ⟨rfl, rfl⟩) ((m_X12_plane (d := d + 1) (T := T) N S l1 1 a0 fa0 hw1) hp sz hM) ?_
  refine ye_p rfl rfl ?_
  have g0_z1 := xG_o1 (i := 2) (v := .int w1) g0 rfl
  have g1_z1 := xG_o1 (i := 2) (v := .int w1) g1 rfl
  have g2_z1 := xG_same lv 2 (.int w1)
  generalize xSt1 lv 2 (.int w1) = lvz1 at g0_z1 g1_z1 g2_z1 ⊢
  refine ye_aload rfl g0_z1 ?_
  refine ye_iload rfl g1_z1 ?_
  refine ye_p rfl rfl ?_
  obtain ⟨w2, hw2, h⟩ := bV_some h
  refine ye_callV (As := [.int l1, .int 2]) (rest := []) 0 (Or.inl rfl) rfl rfl rfl (Nat.le_of_ble_eq_true rfl) (hM.obj fa0 ⟨rfl, rfl⟩) ((m_X12_plane (d := d + 1) (T := T) N S l1 2 a0 fa0 hw2) hp sz hM) ?_
  refine ye_p rfl rfl ?_
  have g0_z2 := xG_o1 (i := 3) (v := .int w2) g0_z1 rfl
  have g1_z2 := xG_o1 (i := 3) (v := .int w2) g1_z1 rfl
  have g2_z2 := xG_o1 (i := 3) (v := .int w2) g2_z1 rfl
  have g3_z2 := xG_same lvz1 3 (.int w2)
  generalize xSt1 lvz1 3 (.int w2) = lvz2 at g0_z2 g1_z2 g2_z2 g3_z2 ⊢
  refine ye_p rfl rfl ?_
  refine ye_p rfl rfl ?_
  have g0_z3 := xG_o1 (i := 4) (v := .int ((-1))) g0_z2 rfl
  have g1_z3 := xG_o1 (i := 4) (v := .int ((-1))) g1_z2 rfl
  have g2_z3 := xG_o1 (i := 4) (v := .int ((-1))) g2_z2 rfl
  have g3_z3 := xG_o1 (i := 4) (v := .int ((-1))) g3_z2 rfl
  have g4_z3 := xG_same lvz2 4 (.int ((-1)))
  generalize xSt1 lvz2 4 (.int ((-1))) = lvz3 at g0_z3 g1_z3 g2_z3 g3_z3 g4_z3 ⊢
  refine ye_p rfl rfl ?_
  refine ye_p rfl rfl ?_
  have g0_z4 := xG_o1 (i := 5) (v := .int 0) g0_z3 rfl
  have g1_z4 := xG_o1 (i := 5) (v := .int 0) g1_z3 rfl
  have g2_z4 := xG_o1 (i := 5) (v := .int 0) g2_z3 rfl
  have g3_z4 := xG_o1 (i := 5) (v := .int 0) g3_z3 rfl
  have g4_z4 := xG_o1 (i := 5) (v := .int 0) g4_z3 rfl
  have g5_z4 := xG_same lvz3 5 (.int 0)
  generalize xSt1 lvz3 5 (.int 0) = lvz4 at g0_z4 g1_z4 g2_z4 g3_z4 g4_z4 g5_z4 ⊢
  exact w_X12_forced_20 (prim := prim) (d := d) N N S l1 w1 w2 ((-1)) 0 hp lvz4 a0 fa0 g0_z4 g1_z4 g2_z4 g3_z4 g4_z4 g5_z4 hM h
def f_X12_forced (N : Nat) (S : yS) (xl1 : Int32) : Option (Int32 × yS) := f_X12_forced_0 N S xl1
theorem m_X12_forced {F : xH} {ev : xEv} {prim : xRel} {d : Nat} {T : yT} {v : Int32} {S' : yS} (N : Nat) (S : yS) (xl1 : Int32) (a0 : Nat) (fa0 : yAt T 12 8 0 a0) (h : f_X12_forced N S xl1 = some (v, S')) : ykQ [8] F ev prim (d + 3) 256 T S [.ref a0, .int xl1] (none) S' :=
  ykQ.of (pg_256 ev) mi_256 (Nat.le_of_ble_eq_true rfl) (fun hp sz hM => w_X12_forced_0 (prim := prim) (d := d) N S xl1 hp _ a0 fa0 rfl rfl hM h)

def f_X12_comeTo_104 (N : Nat) (k77 : yS → Int32 → Int32 → Int32 → Option (Int32 × yS)) (S : yS) (l1 : Int32) (l2 : Int32) (l4 : Int32) : Option (Int32 × yS) := k77 S l1 l2 (l4 + 1)
set_option maxHeartbeats 4000000 in
set_option maxRecDepth 40000 in
theorem w_X12_comeTo_104 {F : xH} {ev : xEv} {prim : xRel} {d sz : Nat} {T : yT} {v : Int32} {S' : yS} (N : Nat) (k77 : yS → Int32 → Int32 → Int32 → Option (Int32 × yS)) (u77 : ∀ (S : yS) (l1 : Int32) (l2 : Int32) (l4 : Int32) (hp : xH) (lv : xLv) (a0 : Nat) (fa0 : yAt T 12 8 0 a0) (g0 : xG lv 0 = some (.ref a0)) (g1 : xG lv 1 = some (.int l1)) (g2 : xG lv 2 = some (.int l2)) (g4 : xG lv 4 = some (.int l4)) (hM : cR [8] F ev T S hp) (h : k77 S l1 l2 l4 = some (v, S')), yWE ev.2.1 (xstr ev) (xCalls ev xmi (xprog ev) prim (d + 3)) (pX12_comeTo ev) (77, lv, [], hp, sz, 0) (ypQ [8] F ev T sz (none) S')) (S : yS) (l1 : Int32) (l2 : Int32) (l4 : Int32) (hp : xH) (lv : xLv) (a0 : Nat) (fa0 : yAt T 12 8 0 a0) (g0 : xG lv 0 = some (.ref a0)) (g1 : xG lv 1 = some (.int l1)) (g2 : xG lv 2 = some (.int l2)) (g4 : xG lv 4 = some (.int l4)) (hM : cR [8] F ev T S hp) (h : f_X12_comeTo_104 N k77 S l1 l2 l4 = some (v, S')) : yWE ev.2.1 (xstr ev) (xCalls ev xmi (xprog ev) prim (d + 3)) (pX12_comeTo ev) (104, lv, [], hp, sz, 0) (ypQ [8] F ev T sz (none) S') := by
  unfold f_X12_comeTo_104 at h
  refine ye_iinc rfl g4 ?_
  have g0_z1 := xG_o1 (i := 4) (v := .int (l4 + 1)) g0 rfl
  have g1_z1 := xG_o1 (i := 4) (v := .int (l4 + 1)) g1 rfl
  have g2_z1 := xG_o1 (i := 4) (v := .int (l4 + 1)) g2 rfl
  have g4_z1 := xG_same lv 4 (.int (l4 + 1))
  generalize xSt1 lv 4 (.int (l4 + 1)) = lvz1 at g0_z1 g1_z1 g2_z1 g4_z1 ⊢
  refine ye_p rfl rfl ?_
  exact u77 S l1 l2 (l4 + 1) hp lvz1 a0 fa0 g0_z1 g1_z1 g2_z1 g4_z1 hM h

def f_X12_comeTo_77 : Nat → Nat → yS → Int32 → Int32 → Int32 → Option (Int32 × yS)
  | 0, _, _, _, _, _ => none
  | n + 1, N, S, l1, l2, l4 => if (S.1 8 28) ≤ l4 then some (0, S) else bV (f_X12_bagOf N S l4 1) fun w1 => if ¬ w1 = l1 then f_X12_comeTo_104 N (fun S l1 l2 l4 => f_X12_comeTo_77 n N S l1 l2 l4) S l1 l2 l4 else bS (f_X12_arrive N S l4 l2) fun w2 S1 => f_X12_comeTo_104 N (fun S l1 l2 l4 => f_X12_comeTo_77 n N S l1 l2 l4) S1 l1 l2 l4
set_option maxHeartbeats 4000000 in
set_option maxRecDepth 40000 in
theorem w_X12_comeTo_77 {F : xH} {ev : xEv} {prim : xRel} {d sz : Nat} {T : yT} {v : Int32} {S' : yS} (N : Nat) (n : Nat) : ∀ (S : yS) (l1 : Int32) (l2 : Int32) (l4 : Int32) (hp : xH) (lv : xLv) (a0 : Nat) (fa0 : yAt T 12 8 0 a0) (g0 : xG lv 0 = some (.ref a0)) (g1 : xG lv 1 = some (.int l1)) (g2 : xG lv 2 = some (.int l2)) (g4 : xG lv 4 = some (.int l4)) (hM : cR [8] F ev T S hp) (h : f_X12_comeTo_77 n N S l1 l2 l4 = some (v, S')), yWE ev.2.1 (xstr ev) (xCalls ev xmi (xprog ev) prim (d + 3)) (pX12_comeTo ev) (77, lv, [], hp, sz, 0) (ypQ [8] F ev T sz (none) S') := by
  induction n with
  | zero => intro S l1 l2 l4 hp lv a0 fa0 g0 g1 g2 g4 hM h; exact n_some h
  | succ n ih =>
    intro S l1 l2 l4 hp lv a0 fa0 g0 g1 g2 g4 hM h
    unfold f_X12_comeTo_77 at h
    refine ye_iload rfl g4 ?_
    refine ye_aload rfl g0 ?_
    refine ye_getf rfl (hM.obj fa0 ⟨rfl, rfl⟩) rfl ?_
    refine ye_icmp_ge rfl (fun h1 => ?_) (fun h1 => ?_)
    · replace h := yiT h1 h
      exact ye_ret rfl rfl (rQV h hM)
    · replace h := yiN h1 h
      refine ye_aload rfl g0 ?_
      refine ye_iload rfl g4 ?_
      refine ye_p rfl rfl ?_
      obtain ⟨w1, hw1, h⟩ := bV_some h
      refine ye_callV (As := [.int l4, .int 1]) (rest := []) 0 (Or.inl rfl) rfl rfl rfl (Nat.le_of_ble_eq_true rfl) (hM.obj fa0 ⟨rfl, rfl⟩) ((m_X12_bagOf (d := d + 2) (T := T) N S l4 1 a0 fa0 hw1) hp sz hM) ?_
      refine ye_iload rfl g1 ?_
      refine ye_icmp_ne rfl (fun h2 => ?_) (fun h2 => ?_)
      · replace h := yiT h2 h
        exact w_X12_comeTo_104 (prim := prim) (d := d) N (fun S l1 l2 l4 => f_X12_comeTo_77 n N S l1 l2 l4) ih S l1 l2 l4 hp lv a0 fa0 g0 g1 g2 g4 hM h
      · replace h := yiN h2 h
        refine ye_aload rfl g0 ?_
        refine ye_iload rfl g4 ?_
        refine ye_iload rfl g2 ?_
        obtain ⟨w2, S1, hw2, h⟩ := bS_some h
        obtain ⟨y1, cy1, M1⟩ := (m_X12_arrive (d := d + 0) (T := T) N S l4 l2 a0 fa0 hw2) hp sz hM
        refine ye_callV (As := [.int l4, .int l2]) (rest := []) 0 (Or.inl rfl) rfl rfl rfl (Nat.le_of_ble_eq_true rfl) (hM.obj fa0 ⟨rfl, rfl⟩) cy1 ?_
        exact w_X12_comeTo_104 (prim := prim) (d := d) N (fun S l1 l2 l4 => f_X12_comeTo_77 n N S l1 l2 l4) ih S1 l1 l2 l4 y1 lv a0 fa0 g0 g1 g2 g4 M1 h

def f_X12_comeTo_0 (N : Nat) (S : yS) (l1 : Int32) (l2 : Int32) : Option (Int32 × yS) := bV (f_X12_plane N S l1 11) fun w1 => bS (f_X12_plane2 N S l1 0 l2) fun w2 S1 => bS (f_X12_plane2 N S1 l1 1 ((-1))) fun w3 S2 => bS (f_X12_plane2 N S2 l1 2 ((-1))) fun w4 S3 => bS (f_X12_plane2 N S3 l1 3 0) fun w5 S4 => bS (f_X12_plane2 N S4 l1 8 0) fun w6 S5 => bS (f_X12_plane2 N S5 l1 11 ((-1))) fun w7 S6 => bS (f_X12_plane2 N S6 l1 12 ((-1))) fun w8 S7 => bS (f_X12_setPilot N S7 w1 0 l2) fun w9 S8 => bS (f_X12_setPilot N S8 w1 1 ((-1))) fun w10 S9 => f_X12_comeTo_77 N N S9 l1 l2 0
set_option maxHeartbeats 4000000 in
set_option maxRecDepth 40000 in
theorem w_X12_comeTo_0 {F : xH} {ev : xEv} {prim : xRel} {d sz : Nat} {T : yT} {v : Int32} {S' : yS} (N : Nat) (S : yS) (l1 : Int32) (l2 : Int32) (hp : xH) (lv : xLv) (a0 : Nat) (fa0 : yAt T 12 8 0 a0) (g0 : xG lv 0 = some (.ref a0)) (g1 : xG lv 1 = some (.int l1)) (g2 : xG lv 2 = some (.int l2)) (hM : cR [8] F ev T S hp) (h : f_X12_comeTo_0 N S l1 l2 = some (v, S')) : yWE ev.2.1 (xstr ev) (xCalls ev xmi (xprog ev) prim (d + 3)) (pX12_comeTo ev) (0, lv, [], hp, sz, 0) (ypQ [8] F ev T sz (none) S') := by
  unfold f_X12_comeTo_0 at h
  refine ye_aload rfl g0 ?_
  refine ye_iload rfl g1 ?_
  refine ye_p rfl rfl ?_
  obtain ⟨w1, hw1, h⟩ := bV_some h
  refine ye_callV (As := [.int l1, .int 11]) (rest := []) 0 (Or.inl rfl) rfl rfl rfl (Nat.le_of_ble_eq_true rfl) (hM.obj fa0 ⟨rfl, rfl⟩) ((m_X12_plane (d := d + 2) (T := T) N S l1 11 a0 fa0 hw1) hp sz hM) ?_
  refine ye_p rfl rfl ?_
  have g0_z1 := xG_o1 (i := 3) (v := .int w1) g0 rfl
  have g1_z1 := xG_o1 (i := 3) (v := .int w1) g1 rfl
  have g2_z1 := xG_o1 (i := 3) (v := .int w1) g2 rfl
  have g3_z1 := xG_same lv 3 (.int w1)
  generalize xSt1 lv 3 (.int w1) = lvz1 at g0_z1 g1_z1 g2_z1 g3_z1 ⊢
  refine ye_aload rfl g0_z1 ?_
  refine ye_iload rfl g1_z1 ?_
  refine ye_p rfl rfl ?_
  refine ye_iload rfl g2_z1 ?_
  obtain ⟨w2, S1, hw2, h⟩ := bS_some h
  obtain ⟨y1, cy1, M1⟩ := (m_X12_plane2 (d := d + 2) (T := T) N S l1 0 l2 a0 fa0 hw2) hp sz hM
  refine ye_callV (As := [.int l1, .int 0, .int l2]) (rest := []) 0 (Or.inl rfl) rfl rfl rfl (Nat.le_of_ble_eq_true rfl) (hM.obj fa0 ⟨rfl, rfl⟩) cy1 ?_
  refine ye_aload rfl g0_z1 ?_
  refine ye_iload rfl g1_z1 ?_
  refine ye_p rfl rfl ?_
  refine ye_p rfl rfl ?_
  obtain ⟨w3, S2, hw3, h⟩ := bS_some h
  obtain ⟨y2, cy2, M2⟩ := (m_X12_plane2 (d := d + 2) (T := T) N S1 l1 1 ((-1)) a0 fa0 hw3) y1 sz M1
  refine ye_callV (As := [.int l1, .int 1, .int ((-1))]) (rest := []) 0 (Or.inl rfl) rfl rfl rfl (Nat.le_of_ble_eq_true rfl) (M1.obj fa0 ⟨rfl, rfl⟩) cy2 ?_
  refine ye_aload rfl g0_z1 ?_
  refine ye_iload rfl g1_z1 ?_
  refine ye_p rfl rfl ?_
  refine ye_p rfl rfl ?_
  obtain ⟨w4, S3, hw4, h⟩ := bS_some h
  obtain ⟨y3, cy3, M3⟩ := (m_X12_plane2 (d := d + 2) (T := T) N S2 l1 2 ((-1)) a0 fa0 hw4) y2 sz M2
  refine ye_callV (As := [.int l1, .int 2, .int ((-1))]) (rest := []) 0 (Or.inl rfl) rfl rfl rfl (Nat.le_of_ble_eq_true rfl) (M2.obj fa0 ⟨rfl, rfl⟩) cy3 ?_
  refine ye_aload rfl g0_z1 ?_
  refine ye_iload rfl g1_z1 ?_
  refine ye_p rfl rfl ?_
  refine ye_p rfl rfl ?_
  obtain ⟨w5, S4, hw5, h⟩ := bS_some h
  obtain ⟨y4, cy4, M4⟩ := (m_X12_plane2 (d := d + 2) (T := T) N S3 l1 3 0 a0 fa0 hw5) y3 sz M3
  refine ye_callV (As := [.int l1, .int 3, .int 0]) (rest := []) 0 (Or.inl rfl) rfl rfl rfl (Nat.le_of_ble_eq_true rfl) (M3.obj fa0 ⟨rfl, rfl⟩) cy4 ?_
  refine ye_aload rfl g0_z1 ?_
  refine ye_iload rfl g1_z1 ?_
  refine ye_p rfl rfl ?_
  refine ye_p rfl rfl ?_
  obtain ⟨w6, S5, hw6, h⟩ := bS_some h
  obtain ⟨y5, cy5, M5⟩ := (m_X12_plane2 (d := d + 2) (T := T) N S4 l1 8 0 a0 fa0 hw6) y4 sz M4
  refine ye_callV (As := [.int l1, .int 8, .int 0]) (rest := []) 0 (Or.inl rfl) rfl rfl rfl (Nat.le_of_ble_eq_true rfl) (M4.obj fa0 ⟨rfl, rfl⟩) cy5 ?_
  refine ye_aload rfl g0_z1 ?_
  refine ye_iload rfl g1_z1 ?_
  refine ye_p rfl rfl ?_
  refine ye_p rfl rfl ?_
  obtain ⟨w7, S6, hw7, h⟩ := bS_some h
  obtain ⟨y6, cy6, M6⟩ := (m_X12_plane2 (d := d + 2) (T := T) N S5 l1 11 ((-1)) a0 fa0 hw7) y5 sz M5
  refine ye_callV (As := [.int l1, .int 11, .int ((-1))]) (rest := []) 0 (Or.inl rfl) rfl rfl rfl (Nat.le_of_ble_eq_true rfl) (M5.obj fa0 ⟨rfl, rfl⟩) cy6 ?_
  refine ye_aload rfl g0_z1 ?_
  refine ye_iload rfl g1_z1 ?_
  refine ye_p rfl rfl ?_
  refine ye_p rfl rfl ?_
  obtain ⟨w8, S7, hw8, h⟩ := bS_some h
  obtain ⟨y7, cy7, M7⟩ := (m_X12_plane2 (d := d + 2) (T := T) N S6 l1 12 ((-1)) a0 fa0 hw8) y6 sz M6
  refine ye_callV (As := [.int l1, .int 12, .int ((-1))]) (rest := []) 0 (Or.inl rfl) rfl rfl rfl (Nat.le_of_ble_eq_true rfl) (M6.obj fa0 ⟨rfl, rfl⟩) cy7 ?_
  refine ye_aload rfl g0_z1 ?_
  refine ye_iload rfl g3_z1 ?_
  refine ye_p rfl rfl ?_
  refine ye_iload rfl g2_z1 ?_
  obtain ⟨w9, S8, hw9, h⟩ := bS_some h
  obtain ⟨y8, cy8, M8⟩ := (m_X12_setPilot (d := d + 2) (T := T) N S7 w1 0 l2 a0 fa0 hw9) y7 sz M7
  refine ye_callV (As := [.int w1, .int 0, .int l2]) (rest := []) 0 (Or.inl rfl) rfl rfl rfl (Nat.le_of_ble_eq_true rfl) (M7.obj fa0 ⟨rfl, rfl⟩) cy8 ?_
  refine ye_aload rfl g0_z1 ?_
  refine ye_iload rfl g3_z1 ?_
  refine ye_p rfl rfl ?_
  refine ye_p rfl rfl ?_
  obtain ⟨w10, S9, hw10, h⟩ := bS_some h
  obtain ⟨y9, cy9, M9⟩ := (m_X12_setPilot (d := d + 2) (T := T) N S8 w1 1 ((-1)) a0 fa0 hw10) y8 sz M8
  refine ye_callV (As := [.int w1, .int 1, .int ((-1))]) (rest := []) 0 (Or.inl rfl) rfl rfl rfl (Nat.le_of_ble_eq_true rfl) (M8.obj fa0 ⟨rfl, rfl⟩) cy9 ?_
  refine ye_p rfl rfl ?_
  refine ye_p rfl rfl ?_
  have g0_z2 := xG_o1 (i := 4) (v := .int 0) g0_z1 rfl
  have g1_z2 := xG_o1 (i := 4) (v := .int 0) g1_z1 rfl
  have g2_z2 := xG_o1 (i := 4) (v := .int 0) g2_z1 rfl
  have g4_z2 := xG_same lvz1 4 (.int 0)
  generalize xSt1 lvz1 4 (.int 0) = lvz2 at g0_z2 g1_z2 g2_z2 g4_z2 ⊢
  exact w_X12_comeTo_77 (prim := prim) (d := d) N N S9 l1 l2 0 y9 lvz2 a0 fa0 g0_z2 g1_z2 g2_z2 g4_z2 M9 h
def f_X12_comeTo (N : Nat) (S : yS) (xl1 : Int32) (xl2 : Int32) : Option (Int32 × yS) := f_X12_comeTo_0 N S xl1 xl2
theorem m_X12_comeTo {F : xH} {ev : xEv} {prim : xRel} {d : Nat} {T : yT} {v : Int32} {S' : yS} (N : Nat) (S : yS) (xl1 : Int32) (xl2 : Int32) (a0 : Nat) (fa0 : yAt T 12 8 0 a0) (h : f_X12_comeTo N S xl1 xl2 = some (v, S')) : ykQ [8] F ev prim (d + 4) 257 T S [.ref a0, .int xl1, .int xl2] (none) S' :=
  ykQ.of (pg_257 ev) mi_257 (Nat.le_of_ble_eq_true rfl) (fun hp sz hM => w_X12_comeTo_0 (prim := prim) (d := d) N S xl1 xl2 hp _ a0 fa0 rfl rfl rfl hM h)

def f_X12_land_61 (N : Nat) (S : yS) (l2 : Int32) (l3 : Int32) : Option (Int32 × yS) := gA 2305 0 fun j1 => gA 2305 0 fun j2 => bV (f_X12_cloud N S l3 (S.2.1 8 48 j2)) fun w1 => gA 2305 0 fun j3 => bV (f_X12_wind N S l3 (S.2.1 8 48 j3)) fun w2 => bS (f_X12_say N S l2 l3 (S.2.1 8 48 j1) w1 w2) fun w3 S1 => some (0, S1)
set_option maxHeartbeats 4000000 in
set_option maxRecDepth 40000 in
theorem w_X12_land_61 {F : xH} {ev : xEv} {prim : xRel} {d sz : Nat} {T : yT} {v : Int32} {S' : yS} (N : Nat) (S : yS) (l2 : Int32) (l3 : Int32) (hp : xH) (lv : xLv) (a0 : Nat) (fa0 : yAt T 12 8 0 a0) (g0 : xG lv 0 = some (.ref a0)) (g2 : xG lv 2 = some (.int l2)) (g3 : xG lv 3 = some (.int l3)) (hM : cR [8] F ev T S hp) (h : f_X12_land_61 N S l2 l3 = some (v, S')) : yWE ev.2.1 (xstr ev) (xCalls ev xmi (xprog ev) prim (d + 4)) (pX12_land ev) (61, lv, [], hp, sz, 0) (ypQ [8] F ev T sz (none) S') := by
  unfold f_X12_land_61 at h
  refine ye_aload rfl g0 ?_
  refine ye_iload rfl g2 ?_
  refine ye_iload rfl g3 ?_
  refine ye_aload rfl g0 ?_
  refine ye_getr rfl (hM.obj fa0 ⟨rfl, rfl⟩) rfl (fun cx1 ecx1 => ?_)
  have fcx1 := yAt.row fa0 ecx1
  refine ye_p rfl rfl ?_
  obtain ⟨j1, ej1, ij1, h⟩ := gA_some h
  refine yj_ald rfl (hM.arr fcx1 yr_12_48) ij1 ej1 ?_
  refine ye_aload rfl g0 ?_
  refine ye_iload rfl g3 ?_
  refine ye_aload rfl g0 ?_
  refine ye_getr rfl (hM.obj fa0 ⟨rfl, rfl⟩) rfl (fun cx2 ecx2 => ?_)
  have fcx2 := yAt.row fa0 ecx2
  refine ye_p rfl rfl ?_
  obtain ⟨j2, ej2, ij2, h⟩ := gA_some h
  refine yj_ald rfl (hM.arr fcx2 yr_12_48) ij2 ej2 ?_
  obtain ⟨w1, hw1, h⟩ := bV_some h
  refine ye_callV (As := [.int l3, .int (S.2.1 8 48 j2)]) (rest := [.int (S.2.1 8 48 j1), .int l3, .int l2, .ref a0]) 0 (Or.inl rfl) rfl rfl rfl (Nat.le_of_ble_eq_true rfl) (hM.obj fa0 ⟨rfl, rfl⟩) ((m_X12_cloud (d := d + 2) (T := T) N S l3 (S.2.1 8 48 j2) a0 fa0 hw1) hp sz hM) ?_
  refine ye_aload rfl g0 ?_
  refine ye_iload rfl g3 ?_
  refine ye_aload rfl g0 ?_
  refine ye_getr rfl (hM.obj fa0 ⟨rfl, rfl⟩) rfl (fun cx3 ecx3 => ?_)
  have fcx3 := yAt.row fa0 ecx3
  refine ye_p rfl rfl ?_
  obtain ⟨j3, ej3, ij3, h⟩ := gA_some h
  refine yj_ald rfl (hM.arr fcx3 yr_12_48) ij3 ej3 ?_
  obtain ⟨w2, hw2, h⟩ := bV_some h
  refine ye_callV (As := [.int l3, .int (S.2.1 8 48 j3)]) (rest := [.int w1, .int (S.2.1 8 48 j1), .int l3, .int l2, .ref a0]) 0 (Or.inl rfl) rfl rfl rfl (Nat.le_of_ble_eq_true rfl) (hM.obj fa0 ⟨rfl, rfl⟩) ((m_X12_wind (d := d + 2) (T := T) N S l3 (S.2.1 8 48 j3) a0 fa0 hw2) hp sz hM) ?_
  obtain ⟨w3, S1, hw3, h⟩ := bS_some h
  obtain ⟨y1, cy1, M1⟩ := (m_X12_say (d := d + 3) (T := T) N S l2 l3 (S.2.1 8 48 j1) w1 w2 a0 fa0 hw3) hp sz hM
  refine ye_callV (As := [.int l2, .int l3, .int (S.2.1 8 48 j1), .int w1, .int w2]) (rest := []) 0 (Or.inl rfl) rfl rfl rfl (Nat.le_of_ble_eq_true rfl) (hM.obj fa0 ⟨rfl, rfl⟩) cy1 ?_
  exact ye_ret rfl rfl (rQV h M1)

def f_X12_land_54 (N : Nat) (S : yS) (l1 : Int32) (l2 : Int32) (l3 : Int32) : Option (Int32 × yS) := bS (f_X12_plane2 N S l1 4 1) fun w1 S1 => f_X12_land_61 N S1 l2 l3
set_option maxHeartbeats 4000000 in
set_option maxRecDepth 40000 in
theorem w_X12_land_54 {F : xH} {ev : xEv} {prim : xRel} {d sz : Nat} {T : yT} {v : Int32} {S' : yS} (N : Nat) (S : yS) (l1 : Int32) (l2 : Int32) (l3 : Int32) (hp : xH) (lv : xLv) (a0 : Nat) (fa0 : yAt T 12 8 0 a0) (g0 : xG lv 0 = some (.ref a0)) (g1 : xG lv 1 = some (.int l1)) (g2 : xG lv 2 = some (.int l2)) (g3 : xG lv 3 = some (.int l3)) (hM : cR [8] F ev T S hp) (h : f_X12_land_54 N S l1 l2 l3 = some (v, S')) : yWE ev.2.1 (xstr ev) (xCalls ev xmi (xprog ev) prim (d + 4)) (pX12_land ev) (54, lv, [], hp, sz, 0) (ypQ [8] F ev T sz (none) S') := by
  unfold f_X12_land_54 at h
  refine ye_aload rfl g0 ?_
  refine ye_iload rfl g1 ?_
  refine ye_p rfl rfl ?_
  refine ye_p rfl rfl ?_
  obtain ⟨w1, S1, hw1, h⟩ := bS_some h
  obtain ⟨y1, cy1, M1⟩ := (m_X12_plane2 (d := d + 3) (T := T) N S l1 4 1 a0 fa0 hw1) hp sz hM
  refine ye_callV (As := [.int l1, .int 4, .int 1]) (rest := []) 0 (Or.inl rfl) rfl rfl rfl (Nat.le_of_ble_eq_true rfl) (hM.obj fa0 ⟨rfl, rfl⟩) cy1 ?_
  exact w_X12_land_61 (prim := prim) (d := d) N S1 l2 l3 y1 lv a0 fa0 g0 g2 g3 M1 h

def f_X12_land_0 (N : Nat) (S : yS) (l1 : Int32) (l2 : Int32) : Option (Int32 × yS) := bV (f_X12_plane N S l1 1) fun w1 => bV (f_X12_plane N S l1 12) fun w2 => bS (f_X12_endFlight N S w2 2) fun w3 S1 => bS (f_X12_comeTo N S1 l1 l2) fun w4 S2 => gA 2305 0 fun j1 => bV (f_X12_isDark N S2 (S2.2.1 8 48 j1)) fun w5 => if w5 = 0 then f_X12_land_61 N S2 l2 w1 else bV (f_X12_hasLamp N S2 l2) fun w6 => if w6 = 0 then f_X12_land_54 N S2 l1 l2 w1 else gA 8 l1 fun j2 => if ¬ (S2.2.1 8 20 j2) = 0 then f_X12_land_61 N S2 l2 w1 else f_X12_land_54 N S2 l1 l2 w1
set_option maxHeartbeats 4000000 in
set_option maxRecDepth 40000 in
theorem w_X12_land_0 {F : xH} {ev : xEv} {prim : xRel} {d sz : Nat} {T : yT} {v : Int32} {S' : yS} (N : Nat) (S : yS) (l1 : Int32) (l2 : Int32) (hp : xH) (lv : xLv) (a0 : Nat) (fa0 : yAt T 12 8 0 a0) (g0 : xG lv 0 = some (.ref a0)) (g1 : xG lv 1 = some (.int l1)) (g2 : xG lv 2 = some (.int l2)) (hM : cR [8] F ev T S hp) (h : f_X12_land_0 N S l1 l2 = some (v, S')) : yWE ev.2.1 (xstr ev) (xCalls ev xmi (xprog ev) prim (d + 4)) (pX12_land ev) (0, lv, [], hp, sz, 0) (ypQ [8] F ev T sz (none) S') := by
  unfold f_X12_land_0 at h
  refine ye_aload rfl g0 ?_
  refine ye_iload rfl g1 ?_
  refine ye_p rfl rfl ?_
  obtain ⟨w1, hw1, h⟩ := bV_some h
  refine ye_callV (As := [.int l1, .int 1]) (rest := []) 0 (Or.inl rfl) rfl rfl rfl (Nat.le_of_ble_eq_true rfl) (hM.obj fa0 ⟨rfl, rfl⟩) ((m_X12_plane (d := d + 3) (T := T) N S l1 1 a0 fa0 hw1) hp sz hM) ?_
  refine ye_p rfl rfl ?_
  have g0_z1 := xG_o1 (i := 3) (v := .int w1) g0 rfl
  have g1_z1 := xG_o1 (i := 3) (v := .int w1) g1 rfl
  have g2_z1 := xG_o1 (i := 3) (v := .int w1) g2 rfl
  have g3_z1 := xG_same lv 3 (.int w1)
  generalize xSt1 lv 3 (.int w1) = lvz1 at g0_z1 g1_z1 g2_z1 g3_z1 ⊢
  refine ye_aload rfl g0_z1 ?_
  refine ye_aload rfl g0_z1 ?_
  refine ye_iload rfl g1_z1 ?_
  refine ye_p rfl rfl ?_
  obtain ⟨w2, hw2, h⟩ := bV_some h
  refine ye_callV (As := [.int l1, .int 12]) (rest := [.ref a0]) 0 (Or.inl rfl) rfl rfl rfl (Nat.le_of_ble_eq_true rfl) (hM.obj fa0 ⟨rfl, rfl⟩) ((m_X12_plane (d := d + 3) (T := T) N S l1 12 a0 fa0 hw2) hp sz hM) ?_
  refine ye_p rfl rfl ?_
  obtain ⟨w3, S1, hw3, h⟩ := bS_some h
  obtain ⟨y1, cy1, M1⟩ := (m_X12_endFlight (d := d + 2) (T := T) N S w2 2 a0 fa0 hw3) hp sz hM
  refine ye_callV (As := [.int w2, .int 2]) (rest := []) 0 (Or.inl rfl) rfl rfl rfl (Nat.le_of_ble_eq_true rfl) (hM.obj fa0 ⟨rfl, rfl⟩) cy1 ?_
  refine ye_aload rfl g0_z1 ?_
  refine ye_iload rfl g1_z1 ?_
  refine ye_iload rfl g2_z1 ?_
  obtain ⟨w4, S2, hw4, h⟩ := bS_some h
  obtain ⟨y2, cy2, M2⟩ := (m_X12_comeTo (d := d + 0) (T := T) N S1 l1 l2 a0 fa0 hw4) y1 sz M1
  refine ye_callV (As := [.int l1, .int l2]) (rest := []) 0 (Or.inl rfl) rfl rfl rfl (Nat.le_of_ble_eq_true rfl) (M1.obj fa0 ⟨rfl, rfl⟩) cy2 ?_
  refine ye_aload rfl g0_z1 ?_
  refine ye_getr rfl (M2.obj fa0 ⟨rfl, rfl⟩) rfl (fun cx1 ecx1 => ?_)
  have fcx1 := yAt.row fa0 ecx1
  refine ye_p rfl rfl ?_
  obtain ⟨j1, ej1, ij1, h⟩ := gA_some h
  refine yj_ald rfl (M2.arr fcx1 yr_12_48) ij1 ej1 ?_
  obtain ⟨w5, hw5, h⟩ := bV_some h
  refine ye_callS (As := [.int (S2.2.1 8 48 j1)]) (rest := []) 1 (Or.inl rfl) rfl rfl rfl (Nat.le_of_ble_eq_true rfl) ((m_X12_isDark (d := d + 3) (T := T) N S2 (S2.2.1 8 48 j1) hw5) y2 sz M2) ?_
  refine ye_if_eq rfl (fun h1 => ?_) (fun h1 => ?_)
  · replace h := yiT h1 h
    exact w_X12_land_61 (prim := prim) (d := d) N S2 l2 w1 y2 lvz1 a0 fa0 g0_z1 g2_z1 g3_z1 M2 h
  · replace h := yiN h1 h
    refine ye_aload rfl g0_z1 ?_
    refine ye_iload rfl g2_z1 ?_
    obtain ⟨w6, hw6, h⟩ := bV_some h
    refine ye_callV (As := [.int l2]) (rest := []) 0 (Or.inl rfl) rfl rfl rfl (Nat.le_of_ble_eq_true rfl) (M2.obj fa0 ⟨rfl, rfl⟩) ((m_X12_hasLamp (d := d + 3) (T := T) N S2 l2 a0 fa0 hw6) y2 sz M2) ?_
    refine ye_if_eq rfl (fun h2 => ?_) (fun h2 => ?_)
    · replace h := yiT h2 h
      exact w_X12_land_54 (prim := prim) (d := d) N S2 l1 l2 w1 y2 lvz1 a0 fa0 g0_z1 g1_z1 g2_z1 g3_z1 M2 h
    · replace h := yiN h2 h
      refine ye_aload rfl g0_z1 ?_
      refine ye_getr rfl (M2.obj fa0 ⟨rfl, rfl⟩) rfl (fun cx2 ecx2 => ?_)
      have fcx2 := yAt.row fa0 ecx2
      refine ye_iload rfl g1_z1 ?_
      obtain ⟨j2, ej2, ij2, h⟩ := gA_some h
      refine yj_ald rfl (M2.arr fcx2 yr_12_20) ij2 ej2 ?_
      refine ye_if_ne rfl (fun h3 => ?_) (fun h3 => ?_)
      · replace h := yiT h3 h
        exact w_X12_land_61 (prim := prim) (d := d) N S2 l2 w1 y2 lvz1 a0 fa0 g0_z1 g2_z1 g3_z1 M2 h
      · replace h := yiN h3 h
        exact w_X12_land_54 (prim := prim) (d := d) N S2 l1 l2 w1 y2 lvz1 a0 fa0 g0_z1 g1_z1 g2_z1 g3_z1 M2 h
def f_X12_land (N : Nat) (S : yS) (xl1 : Int32) (xl2 : Int32) : Option (Int32 × yS) := f_X12_land_0 N S xl1 xl2
theorem m_X12_land {F : xH} {ev : xEv} {prim : xRel} {d : Nat} {T : yT} {v : Int32} {S' : yS} (N : Nat) (S : yS) (xl1 : Int32) (xl2 : Int32) (a0 : Nat) (fa0 : yAt T 12 8 0 a0) (h : f_X12_land N S xl1 xl2 = some (v, S')) : ykQ [8] F ev prim (d + 5) 258 T S [.ref a0, .int xl1, .int xl2] (none) S' :=
  ykQ.of (pg_258 ev) mi_258 (Nat.le_of_ble_eq_true rfl) (fun hp sz hM => w_X12_land_0 (prim := prim) (d := d) N S xl1 xl2 hp _ a0 fa0 rfl rfl rfl hM h)

def f_X12_isAloft_24 (N : Nat) (S : yS) (t0 : Int32) : Option Int32 := gP (t0 = 0 ∨ t0 = 1) (some t0)
set_option maxHeartbeats 4000000 in
set_option maxRecDepth 40000 in
theorem w_X12_isAloft_24 {F : xH} {ev : xEv} {prim : xRel} {d sz : Nat} {T : yT} {v : Int32} {hp : xH} (N : Nat) (S : yS) (t0 : Int32) (lv : xLv) (hM : cR [8] F ev T S hp) (h : f_X12_isAloft_24 N S t0 = some v) : yWE ev.2.1 (xstr ev) (xCalls ev xmi (xprog ev) prim (d + 1)) (pX12_isAloft ev) (24, lv, [.int t0], hp, sz, 0) (ypP hp sz (.int v)) := by
  unfold f_X12_isAloft_24 at h
  obtain ⟨i1, h⟩ := gP_some h
  exact ye_ret rfl (if_pos (zb_nar i1)) (rP h)

def f_X12_isAloft_23 (N : Nat) (S : yS) : Option Int32 := f_X12_isAloft_24 N S 0
set_option maxHeartbeats 4000000 in
set_option maxRecDepth 40000 in
theorem w_X12_isAloft_23 {F : xH} {ev : xEv} {prim : xRel} {d sz : Nat} {T : yT} {v : Int32} {hp : xH} (N : Nat) (S : yS) (lv : xLv) (hM : cR [8] F ev T S hp) (h : f_X12_isAloft_23 N S = some v) : yWE ev.2.1 (xstr ev) (xCalls ev xmi (xprog ev) prim (d + 1)) (pX12_isAloft ev) (23, lv, [], hp, sz, 0) (ypP hp sz (.int v)) := by
  unfold f_X12_isAloft_23 at h
  refine ye_p rfl rfl ?_
  exact w_X12_isAloft_24 (prim := prim) (d := d) N S 0 lv hM h

def f_X12_isAloft_0 (N : Nat) (S : yS) (l1 : Int32) : Option Int32 := bV (f_X12_plane N S l1 0) fun w1 => if ¬ w1 = ((-1)) then f_X12_isAloft_23 N S else bV (f_X12_plane N S l1 3) fun w2 => if ¬ w2 = 0 then f_X12_isAloft_23 N S else f_X12_isAloft_24 N S 1
set_option maxHeartbeats 4000000 in
set_option maxRecDepth 40000 in
theorem w_X12_isAloft_0 {F : xH} {ev : xEv} {prim : xRel} {d sz : Nat} {T : yT} {v : Int32} {hp : xH} (N : Nat) (S : yS) (l1 : Int32) (lv : xLv) (a0 : Nat) (fa0 : yAt T 12 8 0 a0) (g0 : xG lv 0 = some (.ref a0)) (g1 : xG lv 1 = some (.int l1)) (hM : cR [8] F ev T S hp) (h : f_X12_isAloft_0 N S l1 = some v) : yWE ev.2.1 (xstr ev) (xCalls ev xmi (xprog ev) prim (d + 1)) (pX12_isAloft ev) (0, lv, [], hp, sz, 0) (ypP hp sz (.int v)) := by
  unfold f_X12_isAloft_0 at h
  refine ye_aload rfl g0 ?_
  refine ye_iload rfl g1 ?_
  refine ye_p rfl rfl ?_
  obtain ⟨w1, hw1, h⟩ := bV_some h
  refine ye_callV (As := [.int l1, .int 0]) (rest := []) 0 (Or.inl rfl) rfl rfl rfl (Nat.le_of_ble_eq_true rfl) (hM.obj fa0 ⟨rfl, rfl⟩) ((m_X12_plane (d := d + 0) (T := T) N S l1 0 a0 fa0 hw1) hp sz hM) ?_
  refine ye_p rfl rfl ?_
  refine ye_icmp_ne rfl (fun h1 => ?_) (fun h1 => ?_)
  · replace h := yiT h1 h
    exact w_X12_isAloft_23 (prim := prim) (d := d) N S lv hM h
  · replace h := yiN h1 h
    refine ye_aload rfl g0 ?_
    refine ye_iload rfl g1 ?_
    refine ye_p rfl rfl ?_
    obtain ⟨w2, hw2, h⟩ := bV_some h
    refine ye_callV (As := [.int l1, .int 3]) (rest := []) 0 (Or.inl rfl) rfl rfl rfl (Nat.le_of_ble_eq_true rfl) (hM.obj fa0 ⟨rfl, rfl⟩) ((m_X12_plane (d := d + 0) (T := T) N S l1 3 a0 fa0 hw2) hp sz hM) ?_
    refine ye_if_ne rfl (fun h2 => ?_) (fun h2 => ?_)
    · replace h := yiT h2 h
      exact w_X12_isAloft_23 (prim := prim) (d := d) N S lv hM h
    · replace h := yiN h2 h
      refine ye_p rfl rfl ?_
      refine ye_p rfl rfl ?_
      exact w_X12_isAloft_24 (prim := prim) (d := d) N S 1 lv hM h
def f_X12_isAloft (N : Nat) (S : yS) (xl1 : Int32) : Option Int32 := f_X12_isAloft_0 N S xl1
theorem m_X12_isAloft {F : xH} {ev : xEv} {prim : xRel} {d : Nat} {T : yT} {v : Int32} (N : Nat) (S : yS) (xl1 : Int32) (a0 : Nat) (fa0 : yAt T 12 8 0 a0) (h : f_X12_isAloft N S xl1 = some v) : ykP [8] F ev prim (d + 2) 259 T S [.ref a0, .int xl1] (.int v) :=
  ykP.of (pg_259 ev) mi_259 (Nat.le_of_ble_eq_true rfl) (fun hp sz hM => w_X12_isAloft_0 (prim := prim) (d := d) N S xl1 _ a0 fa0 rfl rfl hM h)

def f_X12_why_40 (N : Nat) (S : yS) (t0 : Int32) : Option (Int32 × yS) := some (t0, S)
set_option maxHeartbeats 4000000 in
set_option maxRecDepth 40000 in
theorem w_X12_why_40 {F : xH} {ev : xEv} {prim : xRel} {d sz : Nat} {T : yT} {v : Int32} {S' : yS} (N : Nat) (S : yS) (t0 : Int32) (hp : xH) (lv : xLv) (hM : cR [8] F ev T S hp) (h : f_X12_why_40 N S t0 = some (v, S')) : yWE ev.2.1 (xstr ev) (xCalls ev xmi (xprog ev) prim (d + 1)) (pX12_why ev) (40, lv, [.int t0], hp, sz, 0) (ypQ [8] F ev T sz (some (.int v)) S') := by
  unfold f_X12_why_40 at h
  exact ye_ret rfl rfl (rQ h hM)

def f_X12_why_39 (N : Nat) (S : yS) : Option (Int32 × yS) := f_X12_why_40 N S ((-1))
set_option maxHeartbeats 4000000 in
set_option maxRecDepth 40000 in
theorem w_X12_why_39 {F : xH} {ev : xEv} {prim : xRel} {d sz : Nat} {T : yT} {v : Int32} {S' : yS} (N : Nat) (S : yS) (hp : xH) (lv : xLv) (hM : cR [8] F ev T S hp) (h : f_X12_why_39 N S = some (v, S')) : yWE ev.2.1 (xstr ev) (xCalls ev xmi (xprog ev) prim (d + 1)) (pX12_why ev) (39, lv, [], hp, sz, 0) (ypQ [8] F ev T sz (some (.int v)) S') := by
  unfold f_X12_why_39 at h
  refine ye_p rfl rfl ?_
  exact w_X12_why_40 (prim := prim) (d := d) N S ((-1)) hp lv hM h

def f_X12_why_0 (N : Nat) (S : yS) (l1 : Int32) (l2 : Int32) : Option (Int32 × yS) := sq (yI S 8 47 0) fun S1 => bV (f_X12_in N S1 l1 0 ((S1.1 8 33) - 1)) fun w1 => if w1 = 0 then f_X12_why_39 N S1 else bV (f_X12_in N S1 l2 0 1) fun w2 => if w2 = 0 then f_X12_why_39 N S1 else bV (f_X12_flightOf N S1 l1 (3 + l2)) fun w3 => f_X12_why_40 N S1 w3
set_option maxHeartbeats 4000000 in
set_option maxRecDepth 40000 in
theorem w_X12_why_0 {F : xH} {ev : xEv} {prim : xRel} {d sz : Nat} {T : yT} {v : Int32} {S' : yS} (N : Nat) (S : yS) (l1 : Int32) (l2 : Int32) (hp : xH) (lv : xLv) (a0 : Nat) (fa0 : yAt T 12 8 0 a0) (g0 : xG lv 0 = some (.ref a0)) (g1 : xG lv 1 = some (.int l1)) (g2 : xG lv 2 = some (.int l2)) (hM : cR [8] F ev T S hp) (h : f_X12_why_0 N S l1 l2 = some (v, S')) : yWE ev.2.1 (xstr ev) (xCalls ev xmi (xprog ev) prim (d + 1)) (pX12_why ev) (0, lv, [], hp, sz, 0) (ypQ [8] F ev T sz (some (.int v)) S') := by
  unfold f_X12_why_0 at h
  refine ye_aload rfl g0 ?_
  refine ye_p rfl rfl ?_
  obtain ⟨S1, eS1, h⟩ := sq_some h
  refine yw_putI rfl hM fa0 rfl ⟨rfl, rfl⟩ (Nat.le_of_ble_eq_true rfl) rfl rfl (ys_12_47 ev T _ 0) (fun q => absurd q (by decide)) eS1 (fun y1 M1 => ?_)
  refine ye_iload rfl g1 ?_
  refine ye_p rfl rfl ?_
  refine ye_aload rfl g0 ?_
  refine ye_getf rfl (M1.obj fa0 ⟨rfl, rfl⟩) rfl ?_
  refine ye_p rfl rfl ?_
  refine ye_p rfl rfl ?_
  obtain ⟨w1, hw1, h⟩ := bV_some h
  refine ye_callS (As := [.int l1, .int 0, .int ((S1.1 8 33) - 1)]) (rest := []) 1 (Or.inl rfl) rfl rfl rfl (Nat.le_of_ble_eq_true rfl) ((m_X12_in (d := d + 0) (T := T) N S1 l1 0 ((S1.1 8 33) - 1) hw1) y1 sz M1) ?_
  refine ye_if_eq rfl (fun h1 => ?_) (fun h1 => ?_)
  · replace h := yiT h1 h
    exact w_X12_why_39 (prim := prim) (d := d) N S1 y1 lv M1 h
  · replace h := yiN h1 h
    refine ye_iload rfl g2 ?_
    refine ye_p rfl rfl ?_
    refine ye_p rfl rfl ?_
    obtain ⟨w2, hw2, h⟩ := bV_some h
    refine ye_callS (As := [.int l2, .int 0, .int 1]) (rest := []) 1 (Or.inl rfl) rfl rfl rfl (Nat.le_of_ble_eq_true rfl) ((m_X12_in (d := d + 0) (T := T) N S1 l2 0 1 hw2) y1 sz M1) ?_
    refine ye_if_eq rfl (fun h2 => ?_) (fun h2 => ?_)
    · replace h := yiT h2 h
      exact w_X12_why_39 (prim := prim) (d := d) N S1 y1 lv M1 h
    · replace h := yiN h2 h
      refine ye_aload rfl g0 ?_
      refine ye_iload rfl g1 ?_
      refine ye_p rfl rfl ?_
      refine ye_iload rfl g2 ?_
      refine ye_p rfl rfl ?_
      obtain ⟨w3, hw3, h⟩ := bV_some h
      refine ye_callV (As := [.int l1, .int (3 + l2)]) (rest := []) 0 (Or.inl rfl) rfl rfl rfl (Nat.le_of_ble_eq_true rfl) (M1.obj fa0 ⟨rfl, rfl⟩) ((m_X12_flightOf (d := d + 0) (T := T) N S1 l1 (3 + l2) a0 fa0 hw3) y1 sz M1) ?_
      refine ye_p rfl rfl ?_
      exact w_X12_why_40 (prim := prim) (d := d) N S1 w3 y1 lv M1 h
def f_X12_why (N : Nat) (S : yS) (xl1 : Int32) (xl2 : Int32) : Option (Int32 × yS) := f_X12_why_0 N S xl1 xl2
theorem m_X12_why {F : xH} {ev : xEv} {prim : xRel} {d : Nat} {T : yT} {v : Int32} {S' : yS} (N : Nat) (S : yS) (xl1 : Int32) (xl2 : Int32) (a0 : Nat) (fa0 : yAt T 12 8 0 a0) (h : f_X12_why N S xl1 xl2 = some (v, S')) : ykQ [8] F ev prim (d + 2) 264 T S [.ref a0, .int xl1, .int xl2] (some (.int v)) S' :=
  ykQ.of (pg_264 ev) mi_264 (Nat.le_of_ble_eq_true rfl) (fun hp sz hM => w_X12_why_0 (prim := prim) (d := d) N S xl1 xl2 hp _ a0 fa0 rfl rfl rfl hM h)

def f_X12_given_25 (N : Nat) (k4 : yS → Int32 → Int32 → Option Int32) (S : yS) (l1 : Int32) (l2 : Int32) : Option Int32 := k4 S l1 (l2 + 1)
set_option maxHeartbeats 4000000 in
set_option maxRecDepth 40000 in
theorem w_X12_given_25 {F : xH} {ev : xEv} {prim : xRel} {d sz : Nat} {T : yT} {v : Int32} {hp : xH} (N : Nat) (k4 : yS → Int32 → Int32 → Option Int32) (u4 : ∀ (S : yS) (l1 : Int32) (l2 : Int32) (lv : xLv) (a0 : Nat) (fa0 : yAt T 12 8 0 a0) (g0 : xG lv 0 = some (.ref a0)) (g1 : xG lv 1 = some (.int l1)) (g2 : xG lv 2 = some (.int l2)) (hM : cR [8] F ev T S hp) (h : k4 S l1 l2 = some v), yWE ev.2.1 (xstr ev) (xCalls ev xmi (xprog ev) prim (d + 1)) (pX12_given ev) (4, lv, [], hp, sz, 0) (ypP hp sz (.int v))) (S : yS) (l1 : Int32) (l2 : Int32) (lv : xLv) (a0 : Nat) (fa0 : yAt T 12 8 0 a0) (g0 : xG lv 0 = some (.ref a0)) (g1 : xG lv 1 = some (.int l1)) (g2 : xG lv 2 = some (.int l2)) (hM : cR [8] F ev T S hp) (h : f_X12_given_25 N k4 S l1 l2 = some v) : yWE ev.2.1 (xstr ev) (xCalls ev xmi (xprog ev) prim (d + 1)) (pX12_given ev) (25, lv, [], hp, sz, 0) (ypP hp sz (.int v)) := by
  unfold f_X12_given_25 at h
  refine ye_iinc rfl g2 ?_
  have g0_z1 := xG_o1 (i := 2) (v := .int (l2 + 1)) g0 rfl
  have g1_z1 := xG_o1 (i := 2) (v := .int (l2 + 1)) g1 rfl
  have g2_z1 := xG_same lv 2 (.int (l2 + 1))
  generalize xSt1 lv 2 (.int (l2 + 1)) = lvz1 at g0_z1 g1_z1 g2_z1 ⊢
  refine ye_p rfl rfl ?_
  exact u4 S l1 (l2 + 1) lvz1 a0 fa0 g0_z1 g1_z1 g2_z1 hM h

def f_X12_given_4 : Nat → Nat → yS → Int32 → Int32 → Option Int32
  | 0, _, _, _, _ => none
  | n + 1, N, S, l1, l2 => if (S.1 8 28) ≤ l2 then some l1 else bV (f_X12_bagOf N S l2 3) fun w1 => if w1 = ((-1)) then f_X12_given_25 N (fun S l1 l2 => f_X12_given_4 n N S l1 l2) S l1 l2 else f_X12_given_25 N (fun S l1 l2 => f_X12_given_4 n N S l1 l2) S (l1 + 1) l2
set_option maxHeartbeats 4000000 in
set_option maxRecDepth 40000 in
theorem w_X12_given_4 {F : xH} {ev : xEv} {prim : xRel} {d sz : Nat} {T : yT} {v : Int32} {hp : xH} (N : Nat) (n : Nat) : ∀ (S : yS) (l1 : Int32) (l2 : Int32) (lv : xLv) (a0 : Nat) (fa0 : yAt T 12 8 0 a0) (g0 : xG lv 0 = some (.ref a0)) (g1 : xG lv 1 = some (.int l1)) (g2 : xG lv 2 = some (.int l2)) (hM : cR [8] F ev T S hp) (h : f_X12_given_4 n N S l1 l2 = some v), yWE ev.2.1 (xstr ev) (xCalls ev xmi (xprog ev) prim (d + 1)) (pX12_given ev) (4, lv, [], hp, sz, 0) (ypP hp sz (.int v)) := by
  induction n with
  | zero => intro S l1 l2 lv a0 fa0 g0 g1 g2 hM h; exact n_some h
  | succ n ih =>
    intro S l1 l2 lv a0 fa0 g0 g1 g2 hM h
    unfold f_X12_given_4 at h
    refine ye_iload rfl g2 ?_
    refine ye_aload rfl g0 ?_
    refine ye_getf rfl (hM.obj fa0 ⟨rfl, rfl⟩) rfl ?_
    refine ye_icmp_ge rfl (fun h1 => ?_) (fun h1 => ?_)
    · replace h := yiT h1 h
      refine ye_iload rfl g1 ?_
      exact ye_ret rfl rfl (rP h)
    · replace h := yiN h1 h
      refine ye_aload rfl g0 ?_
      refine ye_iload rfl g2 ?_
      refine ye_p rfl rfl ?_
      obtain ⟨w1, hw1, h⟩ := bV_some h
      refine ye_callV (As := [.int l2, .int 3]) (rest := []) 0 (Or.inl rfl) rfl rfl rfl (Nat.le_of_ble_eq_true rfl) (hM.obj fa0 ⟨rfl, rfl⟩) ((m_X12_bagOf (d := d + 0) (T := T) N S l2 3 a0 fa0 hw1) hp sz hM) ?_
      refine ye_p rfl rfl ?_
      refine ye_icmp_eq rfl (fun h2 => ?_) (fun h2 => ?_)
      · replace h := yiT h2 h
        exact w_X12_given_25 (prim := prim) (d := d) N (fun S l1 l2 => f_X12_given_4 n N S l1 l2) ih S l1 l2 lv a0 fa0 g0 g1 g2 hM h
      · replace h := yiN h2 h
        refine ye_iinc rfl g1 ?_
        have g0_z1 := xG_o1 (i := 1) (v := .int (l1 + 1)) g0 rfl
        have g2_z1 := xG_o1 (i := 1) (v := .int (l1 + 1)) g2 rfl
        have g1_z1 := xG_same lv 1 (.int (l1 + 1))
        generalize xSt1 lv 1 (.int (l1 + 1)) = lvz1 at g0_z1 g2_z1 g1_z1 ⊢
        exact w_X12_given_25 (prim := prim) (d := d) N (fun S l1 l2 => f_X12_given_4 n N S l1 l2) ih S (l1 + 1) l2 lvz1 a0 fa0 g0_z1 g1_z1 g2_z1 hM h

def f_X12_given_0 (N : Nat) (S : yS) : Option Int32 := f_X12_given_4 N N S 0 0
set_option maxHeartbeats 4000000 in
set_option maxRecDepth 40000 in
theorem w_X12_given_0 {F : xH} {ev : xEv} {prim : xRel} {d sz : Nat} {T : yT} {v : Int32} {hp : xH} (N : Nat) (S : yS) (lv : xLv) (a0 : Nat) (fa0 : yAt T 12 8 0 a0) (g0 : xG lv 0 = some (.ref a0)) (hM : cR [8] F ev T S hp) (h : f_X12_given_0 N S = some v) : yWE ev.2.1 (xstr ev) (xCalls ev xmi (xprog ev) prim (d + 1)) (pX12_given ev) (0, lv, [], hp, sz, 0) (ypP hp sz (.int v)) := by
  unfold f_X12_given_0 at h
  refine ye_p rfl rfl ?_
  refine ye_p rfl rfl ?_
  have g0_z1 := xG_o1 (i := 1) (v := .int 0) g0 rfl
  have g1_z1 := xG_same lv 1 (.int 0)
  generalize xSt1 lv 1 (.int 0) = lvz1 at g0_z1 g1_z1 ⊢
  refine ye_p rfl rfl ?_
  refine ye_p rfl rfl ?_
  have g0_z2 := xG_o1 (i := 2) (v := .int 0) g0_z1 rfl
  have g1_z2 := xG_o1 (i := 2) (v := .int 0) g1_z1 rfl
  have g2_z2 := xG_same lvz1 2 (.int 0)
  generalize xSt1 lvz1 2 (.int 0) = lvz2 at g0_z2 g1_z2 g2_z2 ⊢
  exact w_X12_given_4 (prim := prim) (d := d) N N S 0 0 lvz2 a0 fa0 g0_z2 g1_z2 g2_z2 hM h
def f_X12_given (N : Nat) (S : yS) : Option Int32 := f_X12_given_0 N S
theorem m_X12_given {F : xH} {ev : xEv} {prim : xRel} {d : Nat} {T : yT} {v : Int32} (N : Nat) (S : yS) (a0 : Nat) (fa0 : yAt T 12 8 0 a0) (h : f_X12_given N S = some v) : ykP [8] F ev prim (d + 2) 265 T S [.ref a0] (.int v) :=
  ykP.of (pg_265 ev) mi_265 (Nat.le_of_ble_eq_true rfl) (fun hp sz hM => w_X12_given_0 (prim := prim) (d := d) N S _ a0 fa0 rfl hM h)

def f_X12_count_142 : Nat → Nat → yS → Int32 → Int32 → Option (Int32 × yS)
  | 0, _, _, _, _ => none
  | n + 1, N, S, l2, l3 => if (S.1 8 21) ≤ l3 then some (l2, S) else bV (f_X12_plane N S l3 3) fun w1 => f_X12_count_142 n N S (l2 + w1) (l3 + 1)
set_option maxHeartbeats 4000000 in
set_option maxRecDepth 40000 in
theorem w_X12_count_142 {F : xH} {ev : xEv} {prim : xRel} {d sz : Nat} {T : yT} {v : Int32} {S' : yS} (N : Nat) (n : Nat) : ∀ (S : yS) (l2 : Int32) (l3 : Int32) (hp : xH) (lv : xLv) (a0 : Nat) (fa0 : yAt T 12 8 0 a0) (g0 : xG lv 0 = some (.ref a0)) (g2 : xG lv 2 = some (.int l2)) (g3 : xG lv 3 = some (.int l3)) (hM : cR [8] F ev T S hp) (h : f_X12_count_142 n N S l2 l3 = some (v, S')), yWE ev.2.1 (xstr ev) (xCalls ev xmi (xprog ev) prim (d + 2)) (pX12_count ev) (142, lv, [], hp, sz, 0) (ypQ [8] F ev T sz (some (.int v)) S') := by
  induction n with
  | zero => intro S l2 l3 hp lv a0 fa0 g0 g2 g3 hM h; exact n_some h
  | succ n ih =>
    intro S l2 l3 hp lv a0 fa0 g0 g2 g3 hM h
    unfold f_X12_count_142 at h
    refine ye_iload rfl g3 ?_
    refine ye_aload rfl g0 ?_
    refine ye_getf rfl (hM.obj fa0 ⟨rfl, rfl⟩) rfl ?_
    refine ye_icmp_ge rfl (fun h1 => ?_) (fun h1 => ?_)
    · replace h := yiT h1 h
      refine ye_iload rfl g2 ?_
      exact ye_ret rfl rfl (rQ h hM)
    · replace h := yiN h1 h
      refine ye_iload rfl g2 ?_
      refine ye_aload rfl g0 ?_
      refine ye_iload rfl g3 ?_
      refine ye_p rfl rfl ?_
      obtain ⟨w1, hw1, h⟩ := bV_some h
      refine ye_callV (As := [.int l3, .int 3]) (rest := [.int l2]) 0 (Or.inl rfl) rfl rfl rfl (Nat.le_of_ble_eq_true rfl) (hM.obj fa0 ⟨rfl, rfl⟩) ((m_X12_plane (d := d + 1) (T := T) N S l3 3 a0 fa0 hw1) hp sz hM) ?_
      refine ye_p rfl rfl ?_
      refine ye_p rfl rfl ?_
      have g0_z1 := xG_o1 (i := 2) (v := .int (l2 + w1)) g0 rfl
      have g3_z1 := xG_o1 (i := 2) (v := .int (l2 + w1)) g3 rfl
      have g2_z1 := xG_same lv 2 (.int (l2 + w1))
      generalize xSt1 lv 2 (.int (l2 + w1)) = lvz1 at g0_z1 g3_z1 g2_z1 ⊢
      refine ye_iinc rfl g3_z1 ?_
      have g0_z2 := xG_o1 (i := 3) (v := .int (l3 + 1)) g0_z1 rfl
      have g2_z2 := xG_o1 (i := 3) (v := .int (l3 + 1)) g2_z1 rfl
      have g3_z2 := xG_same lvz1 3 (.int (l3 + 1))
      generalize xSt1 lvz1 3 (.int (l3 + 1)) = lvz2 at g0_z2 g2_z2 g3_z2 ⊢
      refine ye_p rfl rfl ?_
      exact ih S (l2 + w1) (l3 + 1) hp lvz2 a0 fa0 g0_z2 g2_z2 g3_z2 hM h

def f_X12_count_0 (N : Nat) (S : yS) (l1 : Int32) : Option (Int32 × yS) := sq (yI S 8 47 0) fun S1 => if l1 = 0 then gA 2305 0 fun j1 => some (S1.2.1 8 48 j1, S1) else if l1 = 1 then some (S1.1 8 1, S1) else if l1 = 2 then some (S1.1 8 9, S1) else if l1 = 3 then some (S1.1 8 21, S1) else if l1 = 4 then some (S1.1 8 22, S1) else if l1 = 5 then some (S1.1 8 28, S1) else if l1 = 6 then some (S1.1 8 33, S1) else if l1 = 7 then gA 2305 2 fun j2 => some (S1.2.1 8 48 j2, S1) else if l1 = 8 then bV (f_X12_given N S1) fun w1 => some (w1, S1) else if l1 = 9 then gA 2305 1 fun j3 => some (S1.2.1 8 48 j3, S1) else if l1 = 10 then some (S1.1 8 46, S1) else if l1 = 11 then some (S1.1 8 44, S1) else if l1 = 12 then f_X12_count_142 N N S1 0 0 else some ((-1), S1)
set_option maxHeartbeats 4000000 in
set_option maxRecDepth 40000 in
theorem w_X12_count_0 {F : xH} {ev : xEv} {prim : xRel} {d sz : Nat} {T : yT} {v : Int32} {S' : yS} (N : Nat) (S : yS) (l1 : Int32) (hp : xH) (lv : xLv) (a0 : Nat) (fa0 : yAt T 12 8 0 a0) (g0 : xG lv 0 = some (.ref a0)) (g1 : xG lv 1 = some (.int l1)) (hM : cR [8] F ev T S hp) (h : f_X12_count_0 N S l1 = some (v, S')) : yWE ev.2.1 (xstr ev) (xCalls ev xmi (xprog ev) prim (d + 2)) (pX12_count ev) (0, lv, [], hp, sz, 0) (ypQ [8] F ev T sz (some (.int v)) S') := by
  unfold f_X12_count_0 at h
  refine ye_aload rfl g0 ?_
  refine ye_p rfl rfl ?_
  obtain ⟨S1, eS1, h⟩ := sq_some h
  refine yw_putI rfl hM fa0 rfl ⟨rfl, rfl⟩ (Nat.le_of_ble_eq_true rfl) rfl rfl (ys_12_47 ev T _ 0) (fun q => absurd q (by decide)) eS1 (fun y1 M1 => ?_)
  refine ye_iload rfl g1 ?_
  by_cases h1 : l1 = 0
  · replace h := yiT h1 h
    refine ye_sw rfl (show _ = 72 from by rw [h1]; rfl) ?_
    refine ye_aload rfl g0 ?_
    refine ye_getr rfl (M1.obj fa0 ⟨rfl, rfl⟩) rfl (fun cx1 ecx1 => ?_)
    have fcx1 := yAt.row fa0 ecx1
    refine ye_p rfl rfl ?_
    obtain ⟨j1, ej1, ij1, h⟩ := gA_some h
    refine yj_ald rfl (M1.arr fcx1 yr_12_48) ij1 ej1 ?_
    exact ye_ret rfl rfl (rQ h M1)
  · replace h := yiN h1 h
    by_cases h2 : l1 = 1
    · replace h := yiT h2 h
      refine ye_sw rfl (show _ = 79 from by rw [h2]; rfl) ?_
      refine ye_aload rfl g0 ?_
      refine ye_getf rfl (M1.obj fa0 ⟨rfl, rfl⟩) rfl ?_
      exact ye_ret rfl rfl (rQ h M1)
    · replace h := yiN h2 h
      by_cases h3 : l1 = 2
      · replace h := yiT h3 h
        refine ye_sw rfl (show _ = 84 from by rw [h3]; rfl) ?_
        refine ye_aload rfl g0 ?_
        refine ye_getf rfl (M1.obj fa0 ⟨rfl, rfl⟩) rfl ?_
        exact ye_ret rfl rfl (rQ h M1)
      · replace h := yiN h3 h
        by_cases h4 : l1 = 3
        · replace h := yiT h4 h
          refine ye_sw rfl (show _ = 89 from by rw [h4]; rfl) ?_
          refine ye_aload rfl g0 ?_
          refine ye_getf rfl (M1.obj fa0 ⟨rfl, rfl⟩) rfl ?_
          exact ye_ret rfl rfl (rQ h M1)
        · replace h := yiN h4 h
          by_cases h5 : l1 = 4
          · replace h := yiT h5 h
            refine ye_sw rfl (show _ = 94 from by rw [h5]; rfl) ?_
            refine ye_aload rfl g0 ?_
            refine ye_getf rfl (M1.obj fa0 ⟨rfl, rfl⟩) rfl ?_
            exact ye_ret rfl rfl (rQ h M1)
          · replace h := yiN h5 h
            by_cases h6 : l1 = 5
            · replace h := yiT h6 h
              refine ye_sw rfl (show _ = 99 from by rw [h6]; rfl) ?_
              refine ye_aload rfl g0 ?_
              refine ye_getf rfl (M1.obj fa0 ⟨rfl, rfl⟩) rfl ?_
              exact ye_ret rfl rfl (rQ h M1)
            · replace h := yiN h6 h
              by_cases h7 : l1 = 6
              · replace h := yiT h7 h
                refine ye_sw rfl (show _ = 104 from by rw [h7]; rfl) ?_
                refine ye_aload rfl g0 ?_
                refine ye_getf rfl (M1.obj fa0 ⟨rfl, rfl⟩) rfl ?_
                exact ye_ret rfl rfl (rQ h M1)
              · replace h := yiN h7 h
                by_cases h8 : l1 = 7
                · replace h := yiT h8 h
                  refine ye_sw rfl (show _ = 109 from by rw [h8]; rfl) ?_
                  refine ye_aload rfl g0 ?_
                  refine ye_getr rfl (M1.obj fa0 ⟨rfl, rfl⟩) rfl (fun cx2 ecx2 => ?_)
                  have fcx2 := yAt.row fa0 ecx2
                  refine ye_p rfl rfl ?_
                  obtain ⟨j2, ej2, ij2, h⟩ := gA_some h
                  refine yj_ald rfl (M1.arr fcx2 yr_12_48) ij2 ej2 ?_
                  exact ye_ret rfl rfl (rQ h M1)
                · replace h := yiN h8 h
                  by_cases h9 : l1 = 8
                  · replace h := yiT h9 h
                    refine ye_sw rfl (show _ = 116 from by rw [h9]; rfl) ?_
                    refine ye_aload rfl g0 ?_
                    obtain ⟨w1, hw1, h⟩ := bV_some h
                    refine ye_callV (As := []) (rest := []) 0 (Or.inl rfl) rfl rfl rfl (Nat.le_of_ble_eq_true rfl) (M1.obj fa0 ⟨rfl, rfl⟩) ((m_X12_given (d := d + 0) (T := T) N S1 a0 fa0 hw1) y1 sz M1) ?_
                    exact ye_ret rfl rfl (rQ h M1)
                  · replace h := yiN h9 h
                    by_cases h10 : l1 = 9
                    · replace h := yiT h10 h
                      refine ye_sw rfl (show _ = 121 from by rw [h10]; rfl) ?_
                      refine ye_aload rfl g0 ?_
                      refine ye_getr rfl (M1.obj fa0 ⟨rfl, rfl⟩) rfl (fun cx3 ecx3 => ?_)
                      have fcx3 := yAt.row fa0 ecx3
                      refine ye_p rfl rfl ?_
                      obtain ⟨j3, ej3, ij3, h⟩ := gA_some h
                      refine yj_ald rfl (M1.arr fcx3 yr_12_48) ij3 ej3 ?_
                      exact ye_ret rfl rfl (rQ h M1)
                    · replace h := yiN h10 h
                      by_cases h11 : l1 = 10
                      · replace h := yiT h11 h
                        refine ye_sw rfl (show _ = 128 from by rw [h11]; rfl) ?_
                        refine ye_aload rfl g0 ?_
                        refine ye_getf rfl (M1.obj fa0 ⟨rfl, rfl⟩) rfl ?_
                        exact ye_ret rfl rfl (rQ h M1)
                      · replace h := yiN h11 h
                        by_cases h12 : l1 = 11
                        · replace h := yiT h12 h
                          refine ye_sw rfl (show _ = 133 from by rw [h12]; rfl) ?_
                          refine ye_aload rfl g0 ?_
                          refine ye_getf rfl (M1.obj fa0 ⟨rfl, rfl⟩) rfl ?_
                          exact ye_ret rfl rfl (rQ h M1)
                        · replace h := yiN h12 h
                          by_cases h13 : l1 = 12
                          · replace h := yiT h13 h
                            refine ye_sw rfl (show _ = 138 from by rw [h13]; rfl) ?_
                            refine ye_p rfl rfl ?_
                            refine ye_p rfl rfl ?_
                            have g0_z1 := xG_o1 (i := 2) (v := .int 0) g0 rfl
                            have g2_z1 := xG_same lv 2 (.int 0)
                            generalize xSt1 lv 2 (.int 0) = lvz1 at g0_z1 g2_z1 ⊢
                            refine ye_p rfl rfl ?_
                            refine ye_p rfl rfl ?_
                            have g0_z2 := xG_o1 (i := 3) (v := .int 0) g0_z1 rfl
                            have g2_z2 := xG_o1 (i := 3) (v := .int 0) g2_z1 rfl
                            have g3_z2 := xG_same lvz1 3 (.int 0)
                            generalize xSt1 lvz1 3 (.int 0) = lvz2 at g0_z2 g2_z2 g3_z2 ⊢
                            exact w_X12_count_142 (prim := prim) (d := d) N N S1 0 0 y1 lvz2 a0 fa0 g0_z2 g2_z2 g3_z2 M1 h
                          · replace h := yiN h13 h
                            refine ye_sw rfl (show _ = 167 from xtsw_neg h1 (by decide) (xtsw_neg h2 (by decide) (xtsw_neg h3 (by decide) (xtsw_neg h4 (by decide) (xtsw_neg h5 (by decide) (xtsw_neg h6 (by decide) (xtsw_neg h7 (by decide) (xtsw_neg h8 (by decide) (xtsw_neg h9 (by decide) (xtsw_neg h10 (by decide) (xtsw_neg h11 (by decide) (xtsw_neg h12 (by decide) (xtsw_neg h13 (by decide) (xtsw_nil)))))))))))))) ?_
                            refine ye_p rfl rfl ?_
                            exact ye_ret rfl rfl (rQ h M1)
def f_X12_count (N : Nat) (S : yS) (xl1 : Int32) : Option (Int32 × yS) := f_X12_count_0 N S xl1
theorem m_X12_count {F : xH} {ev : xEv} {prim : xRel} {d : Nat} {T : yT} {v : Int32} {S' : yS} (N : Nat) (S : yS) (xl1 : Int32) (a0 : Nat) (fa0 : yAt T 12 8 0 a0) (h : f_X12_count N S xl1 = some (v, S')) : ykQ [8] F ev prim (d + 3) 266 T S [.ref a0, .int xl1] (some (.int v)) S' :=
  ykQ.of (pg_266 ev) mi_266 (Nat.le_of_ble_eq_true rfl) (fun hp sz hM => w_X12_count_0 (prim := prim) (d := d) N S xl1 hp _ a0 fa0 rfl rfl hM h)

def f_X12_of_23 (N : Nat) (S : yS) : Option (Int32 × yS) := bS (f_X12_lost N S) fun w1 S1 => some (w1, S1)
set_option maxHeartbeats 4000000 in
set_option maxRecDepth 40000 in
theorem w_X12_of_23 {F : xH} {ev : xEv} {prim : xRel} {d sz : Nat} {T : yT} {v : Int32} {S' : yS} (N : Nat) (S : yS) (hp : xH) (lv : xLv) (a0 : Nat) (fa0 : yAt T 12 8 0 a0) (g0 : xG lv 0 = some (.ref a0)) (hM : cR [8] F ev T S hp) (h : f_X12_of_23 N S = some (v, S')) : yWE ev.2.1 (xstr ev) (xCalls ev xmi (xprog ev) prim (d + 2)) (pX12_of ev) (23, lv, [], hp, sz, 0) (ypQ [8] F ev T sz (some (.int v)) S') := by
  unfold f_X12_of_23 at h
  refine ye_aload rfl g0 ?_
  obtain ⟨w1, S1, hw1, h⟩ := bS_some h
  obtain ⟨y1, cy1, M1⟩ := (m_X12_lost (d := d + 1) (T := T) N S a0 fa0 hw1) hp sz hM
  refine ye_callV (As := []) (rest := []) 0 (Or.inl rfl) rfl rfl rfl (Nat.le_of_ble_eq_true rfl) (hM.obj fa0 ⟨rfl, rfl⟩) cy1 ?_
  exact ye_ret rfl rfl (rQ h M1)

def f_X12_of_177 (N : Nat) (k147 : yS → Int32 → Int32 → Int32 → Option (Int32 × yS)) (S : yS) (l1 : Int32) (l3 : Int32) (l4 : Int32) : Option (Int32 × yS) := k147 S l1 l3 (l4 + 1)
set_option maxHeartbeats 4000000 in
set_option maxRecDepth 40000 in
theorem w_X12_of_177 {F : xH} {ev : xEv} {prim : xRel} {d sz : Nat} {T : yT} {v : Int32} {S' : yS} (N : Nat) (k147 : yS → Int32 → Int32 → Int32 → Option (Int32 × yS)) (u147 : ∀ (S : yS) (l1 : Int32) (l3 : Int32) (l4 : Int32) (hp : xH) (lv : xLv) (a0 : Nat) (fa0 : yAt T 12 8 0 a0) (g0 : xG lv 0 = some (.ref a0)) (g1 : xG lv 1 = some (.int l1)) (g3 : xG lv 3 = some (.int l3)) (g4 : xG lv 4 = some (.int l4)) (hM : cR [8] F ev T S hp) (h : k147 S l1 l3 l4 = some (v, S')), yWE ev.2.1 (xstr ev) (xCalls ev xmi (xprog ev) prim (d + 2)) (pX12_of ev) (147, lv, [], hp, sz, 0) (ypQ [8] F ev T sz (some (.int v)) S')) (S : yS) (l1 : Int32) (l3 : Int32) (l4 : Int32) (hp : xH) (lv : xLv) (a0 : Nat) (fa0 : yAt T 12 8 0 a0) (g0 : xG lv 0 = some (.ref a0)) (g1 : xG lv 1 = some (.int l1)) (g3 : xG lv 3 = some (.int l3)) (g4 : xG lv 4 = some (.int l4)) (hM : cR [8] F ev T S hp) (h : f_X12_of_177 N k147 S l1 l3 l4 = some (v, S')) : yWE ev.2.1 (xstr ev) (xCalls ev xmi (xprog ev) prim (d + 2)) (pX12_of ev) (177, lv, [], hp, sz, 0) (ypQ [8] F ev T sz (some (.int v)) S') := by
  unfold f_X12_of_177 at h
  refine ye_iinc rfl g4 ?_
  have g0_z1 := xG_o1 (i := 4) (v := .int (l4 + 1)) g0 rfl
  have g1_z1 := xG_o1 (i := 4) (v := .int (l4 + 1)) g1 rfl
  have g3_z1 := xG_o1 (i := 4) (v := .int (l4 + 1)) g3 rfl
  have g4_z1 := xG_same lv 4 (.int (l4 + 1))
  generalize xSt1 lv 4 (.int (l4 + 1)) = lvz1 at g0_z1 g1_z1 g3_z1 g4_z1 ⊢
  refine ye_p rfl rfl ?_
  exact u147 S l1 l3 (l4 + 1) hp lvz1 a0 fa0 g0_z1 g1_z1 g3_z1 g4_z1 hM h

def f_X12_of_147 : Nat → Nat → yS → Int32 → Int32 → Int32 → Option (Int32 × yS)
  | 0, _, _, _, _, _ => none
  | n + 1, N, S, l1, l3, l4 => if (S.1 8 28) ≤ l4 then some (l3, S) else bV (f_X12_bagOf N S l4 1) fun w1 => if ¬ w1 = l1 then f_X12_of_177 N (fun S l1 l3 l4 => f_X12_of_147 n N S l1 l3 l4) S l1 l3 l4 else gA 30 l4 fun j1 => f_X12_of_177 N (fun S l1 l3 l4 => f_X12_of_147 n N S l1 l3 l4) S l1 (l3 + (S.2.1 8 25 j1)) l4
set_option maxHeartbeats 4000000 in
set_option maxRecDepth 40000 in
theorem w_X12_of_147 {F : xH} {ev : xEv} {prim : xRel} {d sz : Nat} {T : yT} {v : Int32} {S' : yS} (N : Nat) (n : Nat) : ∀ (S : yS) (l1 : Int32) (l3 : Int32) (l4 : Int32) (hp : xH) (lv : xLv) (a0 : Nat) (fa0 : yAt T 12 8 0 a0) (g0 : xG lv 0 = some (.ref a0)) (g1 : xG lv 1 = some (.int l1)) (g3 : xG lv 3 = some (.int l3)) (g4 : xG lv 4 = some (.int l4)) (hM : cR [8] F ev T S hp) (h : f_X12_of_147 n N S l1 l3 l4 = some (v, S')), yWE ev.2.1 (xstr ev) (xCalls ev xmi (xprog ev) prim (d + 2)) (pX12_of ev) (147, lv, [], hp, sz, 0) (ypQ [8] F ev T sz (some (.int v)) S') := by
  induction n with
  | zero => intro S l1 l3 l4 hp lv a0 fa0 g0 g1 g3 g4 hM h; exact n_some h
  | succ n ih =>
    intro S l1 l3 l4 hp lv a0 fa0 g0 g1 g3 g4 hM h
    unfold f_X12_of_147 at h
    refine ye_iload rfl g4 ?_
    refine ye_aload rfl g0 ?_
    refine ye_getf rfl (hM.obj fa0 ⟨rfl, rfl⟩) rfl ?_
    refine ye_icmp_ge rfl (fun h1 => ?_) (fun h1 => ?_)
    · replace h := yiT h1 h
      refine ye_iload rfl g3 ?_
      exact ye_ret rfl rfl (rQ h hM)
    · replace h := yiN h1 h
      refine ye_aload rfl g0 ?_
      refine ye_iload rfl g4 ?_
      refine ye_p rfl rfl ?_
      obtain ⟨w1, hw1, h⟩ := bV_some h
      refine ye_callV (As := [.int l4, .int 1]) (rest := []) 0 (Or.inl rfl) rfl rfl rfl (Nat.le_of_ble_eq_true rfl) (hM.obj fa0 ⟨rfl, rfl⟩) ((m_X12_bagOf (d := d + 1) (T := T) N S l4 1 a0 fa0 hw1) hp sz hM) ?_
      refine ye_iload rfl g1 ?_
      refine ye_icmp_ne rfl (fun h2 => ?_) (fun h2 => ?_)
      · replace h := yiT h2 h
        exact w_X12_of_177 (prim := prim) (d := d) N (fun S l1 l3 l4 => f_X12_of_147 n N S l1 l3 l4) ih S l1 l3 l4 hp lv a0 fa0 g0 g1 g3 g4 hM h
      · replace h := yiN h2 h
        refine ye_iload rfl g3 ?_
        refine ye_aload rfl g0 ?_
        refine ye_getr rfl (hM.obj fa0 ⟨rfl, rfl⟩) rfl (fun cx1 ecx1 => ?_)
        have fcx1 := yAt.row fa0 ecx1
        refine ye_iload rfl g4 ?_
        obtain ⟨j1, ej1, ij1, h⟩ := gA_some h
        refine yj_ald rfl (hM.arr fcx1 yr_12_25) ij1 ej1 ?_
        refine ye_p rfl rfl ?_
        refine ye_p rfl rfl ?_
        have g0_z1 := xG_o1 (i := 3) (v := .int (l3 + (S.2.1 8 25 j1))) g0 rfl
        have g1_z1 := xG_o1 (i := 3) (v := .int (l3 + (S.2.1 8 25 j1))) g1 rfl
        have g4_z1 := xG_o1 (i := 3) (v := .int (l3 + (S.2.1 8 25 j1))) g4 rfl
        have g3_z1 := xG_same lv 3 (.int (l3 + (S.2.1 8 25 j1)))
        generalize xSt1 lv 3 (.int (l3 + (S.2.1 8 25 j1))) = lvz1 at g0_z1 g1_z1 g4_z1 g3_z1 ⊢
        exact w_X12_of_177 (prim := prim) (d := d) N (fun S l1 l3 l4 => f_X12_of_147 n N S l1 l3 l4) ih S l1 (l3 + (S.2.1 8 25 j1)) l4 hp lvz1 a0 fa0 g0_z1 g1_z1 g3_z1 g4_z1 hM h

def f_X12_of_239 (N : Nat) (S : yS) (t0 : Int32) : Option (Int32 × yS) := some (t0, S)
set_option maxHeartbeats 4000000 in
set_option maxRecDepth 40000 in
theorem w_X12_of_239 {F : xH} {ev : xEv} {prim : xRel} {d sz : Nat} {T : yT} {v : Int32} {S' : yS} (N : Nat) (S : yS) (t0 : Int32) (hp : xH) (lv : xLv) (hM : cR [8] F ev T S hp) (h : f_X12_of_239 N S t0 = some (v, S')) : yWE ev.2.1 (xstr ev) (xCalls ev xmi (xprog ev) prim (d + 2)) (pX12_of ev) (239, lv, [.int t0], hp, sz, 0) (ypQ [8] F ev T sz (some (.int v)) S') := by
  unfold f_X12_of_239 at h
  exact ye_ret rfl rfl (rQ h hM)

def f_X12_of_0 (N : Nat) (S : yS) (l1 : Int32) (l2 : Int32) : Option (Int32 × yS) := sq (yI S 8 47 0) fun S1 => bV (f_X12_isPlane N S1 l1) fun w1 => if w1 = 0 then f_X12_of_23 N S1 else bV (f_X12_in N S1 l2 0 10) fun w2 => if ¬ w2 = 0 then if l2 = 0 then bV (f_X12_plane N S1 l1 0) fun w3 => some (w3, S1) else if l2 = 1 then bV (f_X12_plane N S1 l1 1) fun w4 => some (w4, S1) else if l2 = 2 then bV (f_X12_plane N S1 l1 2) fun w5 => some (w5, S1) else if l2 = 3 then bV (f_X12_plane N S1 l1 3) fun w6 => some (w6, S1) else if l2 = 4 then bV (f_X12_plane N S1 l1 4) fun w7 => some (w7, S1) else if l2 = 5 then bV (f_X12_plane N S1 l1 5) fun w8 => some (w8, S1) else if l2 = 6 then bV (f_X12_plane N S1 l1 8) fun w9 => some (w9, S1) else if l2 = 7 then bV (f_X12_plane N S1 l1 9) fun w10 => some (w10, S1) else if l2 = 8 then f_X12_of_147 N N S1 l1 0 0 else if l2 = 9 then bV (f_X12_plane N S1 l1 11) fun w11 => some (w11, S1) else bV (f_X12_isAloft N S1 l1) fun w12 => if ¬ w12 = 0 then bV (f_X12_plane N S1 l1 10) fun w13 => if ¬ w13 = 1 then bV (f_X12_plane N S1 l1 1) fun w14 => gA 12 w14 fun j1 => f_X12_of_239 N S1 (S1.2.1 8 2 j1) else bV (f_X12_plane N S1 l1 1) fun w15 => gA 12 w15 fun j2 => f_X12_of_239 N S1 (S1.2.1 8 3 j2) else some ((-1), S1) else f_X12_of_23 N S1
set_option maxHeartbeats 4000000 in
set_option maxRecDepth 40000 in
theorem w_X12_of_0 {F : xH} {ev : xEv} {prim : xRel} {d sz : Nat} {T : yT} {v : Int32} {S' : yS} (N : Nat) (S : yS) (l1 : Int32) (l2 : Int32) (hp : xH) (lv : xLv) (a0 : Nat) (fa0 : yAt T 12 8 0 a0) (g0 : xG lv 0 = some (.ref a0)) (g1 : xG lv 1 = some (.int l1)) (g2 : xG lv 2 = some (.int l2)) (hM : cR [8] F ev T S hp) (h : f_X12_of_0 N S l1 l2 = some (v, S')) : yWE ev.2.1 (xstr ev) (xCalls ev xmi (xprog ev) prim (d + 2)) (pX12_of ev) (0, lv, [], hp, sz, 0) (ypQ [8] F ev T sz (some (.int v)) S') := by
  unfold f_X12_of_0 at h
  refine ye_aload rfl g0 ?_
  refine ye_p rfl rfl ?_
  obtain ⟨S1, eS1, h⟩ := sq_some h
  refine yw_putI rfl hM fa0 rfl ⟨rfl, rfl⟩ (Nat.le_of_ble_eq_true rfl) rfl rfl (ys_12_47 ev T _ 0) (fun q => absurd q (by decide)) eS1 (fun y1 M1 => ?_)
  refine ye_aload rfl g0 ?_
  refine ye_iload rfl g1 ?_
  obtain ⟨w1, hw1, h⟩ := bV_some h
  refine ye_callV (As := [.int l1]) (rest := []) 0 (Or.inl rfl) rfl rfl rfl (Nat.le_of_ble_eq_true rfl) (M1.obj fa0 ⟨rfl, rfl⟩) ((m_X12_isPlane (d := d + 0) (T := T) N S1 l1 a0 fa0 hw1) y1 sz M1) ?_
  refine ye_if_eq rfl (fun h1 => ?_) (fun h1 => ?_)
  · replace h := yiT h1 h
    exact w_X12_of_23 (prim := prim) (d := d) N S1 y1 lv a0 fa0 g0 M1 h
  · replace h := yiN h1 h
    refine ye_iload rfl g2 ?_
    refine ye_p rfl rfl ?_
    refine ye_p rfl rfl ?_
    obtain ⟨w2, hw2, h⟩ := bV_some h
    refine ye_callS (As := [.int l2, .int 0, .int 10]) (rest := []) 1 (Or.inl rfl) rfl rfl rfl (Nat.le_of_ble_eq_true rfl) ((m_X12_in (d := d + 1) (T := T) N S1 l2 0 10 hw2) y1 sz M1) ?_
    refine ye_if_ne rfl (fun h2 => ?_) (fun h2 => ?_)
    · replace h := yiT h2 h
      refine ye_iload rfl g2 ?_
      by_cases h3 : l2 = 0
      · replace h := yiT h3 h
        refine ye_sw rfl (show _ = 84 from by rw [h3]; rfl) ?_
        refine ye_aload rfl g0 ?_
        refine ye_iload rfl g1 ?_
        refine ye_p rfl rfl ?_
        obtain ⟨w3, hw3, h⟩ := bV_some h
        refine ye_callV (As := [.int l1, .int 0]) (rest := []) 0 (Or.inl rfl) rfl rfl rfl (Nat.le_of_ble_eq_true rfl) (M1.obj fa0 ⟨rfl, rfl⟩) ((m_X12_plane (d := d + 1) (T := T) N S1 l1 0 a0 fa0 hw3) y1 sz M1) ?_
        exact ye_ret rfl rfl (rQ h M1)
      · replace h := yiN h3 h
        by_cases h4 : l2 = 1
        · replace h := yiT h4 h
          refine ye_sw rfl (show _ = 91 from by rw [h4]; rfl) ?_
          refine ye_aload rfl g0 ?_
          refine ye_iload rfl g1 ?_
          refine ye_p rfl rfl ?_
          obtain ⟨w4, hw4, h⟩ := bV_some h
          refine ye_callV (As := [.int l1, .int 1]) (rest := []) 0 (Or.inl rfl) rfl rfl rfl (Nat.le_of_ble_eq_true rfl) (M1.obj fa0 ⟨rfl, rfl⟩) ((m_X12_plane (d := d + 1) (T := T) N S1 l1 1 a0 fa0 hw4) y1 sz M1) ?_
          exact ye_ret rfl rfl (rQ h M1)
        · replace h := yiN h4 h
          by_cases h5 : l2 = 2
          · replace h := yiT h5 h
            refine ye_sw rfl (show _ = 98 from by rw [h5]; rfl) ?_
            refine ye_aload rfl g0 ?_
            refine ye_iload rfl g1 ?_
            refine ye_p rfl rfl ?_
            obtain ⟨w5, hw5, h⟩ := bV_some h
            refine ye_callV (As := [.int l1, .int 2]) (rest := []) 0 (Or.inl rfl) rfl rfl rfl (Nat.le_of_ble_eq_true rfl) (M1.obj fa0 ⟨rfl, rfl⟩) ((m_X12_plane (d := d + 1) (T := T) N S1 l1 2 a0 fa0 hw5) y1 sz M1) ?_
            exact ye_ret rfl rfl (rQ h M1)
          · replace h := yiN h5 h
            by_cases h6 : l2 = 3
            · replace h := yiT h6 h
              refine ye_sw rfl (show _ = 105 from by rw [h6]; rfl) ?_
              refine ye_aload rfl g0 ?_
              refine ye_iload rfl g1 ?_
              refine ye_p rfl rfl ?_
              obtain ⟨w6, hw6, h⟩ := bV_some h
              refine ye_callV (As := [.int l1, .int 3]) (rest := []) 0 (Or.inl rfl) rfl rfl rfl (Nat.le_of_ble_eq_true rfl) (M1.obj fa0 ⟨rfl, rfl⟩) ((m_X12_plane (d := d + 1) (T := T) N S1 l1 3 a0 fa0 hw6) y1 sz M1) ?_
              exact ye_ret rfl rfl (rQ h M1)
            · replace h := yiN h6 h
              by_cases h7 : l2 = 4
              · replace h := yiT h7 h
                refine ye_sw rfl (show _ = 112 from by rw [h7]; rfl) ?_
                refine ye_aload rfl g0 ?_
                refine ye_iload rfl g1 ?_
                refine ye_p rfl rfl ?_
                obtain ⟨w7, hw7, h⟩ := bV_some h
                refine ye_callV (As := [.int l1, .int 4]) (rest := []) 0 (Or.inl rfl) rfl rfl rfl (Nat.le_of_ble_eq_true rfl) (M1.obj fa0 ⟨rfl, rfl⟩) ((m_X12_plane (d := d + 1) (T := T) N S1 l1 4 a0 fa0 hw7) y1 sz M1) ?_
                exact ye_ret rfl rfl (rQ h M1)
              · replace h := yiN h7 h
                by_cases h8 : l2 = 5
                · replace h := yiT h8 h
                  refine ye_sw rfl (show _ = 119 from by rw [h8]; rfl) ?_
                  refine ye_aload rfl g0 ?_
                  refine ye_iload rfl g1 ?_
                  refine ye_p rfl rfl ?_
                  obtain ⟨w8, hw8, h⟩ := bV_some h
                  refine ye_callV (As := [.int l1, .int 5]) (rest := []) 0 (Or.inl rfl) rfl rfl rfl (Nat.le_of_ble_eq_true rfl) (M1.obj fa0 ⟨rfl, rfl⟩) ((m_X12_plane (d := d + 1) (T := T) N S1 l1 5 a0 fa0 hw8) y1 sz M1) ?_
                  exact ye_ret rfl rfl (rQ h M1)
                · replace h := yiN h8 h
                  by_cases h9 : l2 = 6
                  · replace h := yiT h9 h
                    refine ye_sw rfl (show _ = 126 from by rw [h9]; rfl) ?_
                    refine ye_aload rfl g0 ?_
                    refine ye_iload rfl g1 ?_
                    refine ye_p rfl rfl ?_
                    obtain ⟨w9, hw9, h⟩ := bV_some h
                    refine ye_callV (As := [.int l1, .int 8]) (rest := []) 0 (Or.inl rfl) rfl rfl rfl (Nat.le_of_ble_eq_true rfl) (M1.obj fa0 ⟨rfl, rfl⟩) ((m_X12_plane (d := d + 1) (T := T) N S1 l1 8 a0 fa0 hw9) y1 sz M1) ?_
                    exact ye_ret rfl rfl (rQ h M1)
                  · replace h := yiN h9 h
                    by_cases h10 : l2 = 7
                    · replace h := yiT h10 h
                      refine ye_sw rfl (show _ = 134 from by rw [h10]; rfl) ?_
                      refine ye_aload rfl g0 ?_
                      refine ye_iload rfl g1 ?_
                      refine ye_p rfl rfl ?_
                      obtain ⟨w10, hw10, h⟩ := bV_some h
                      refine ye_callV (As := [.int l1, .int 9]) (rest := []) 0 (Or.inl rfl) rfl rfl rfl (Nat.le_of_ble_eq_true rfl) (M1.obj fa0 ⟨rfl, rfl⟩) ((m_X12_plane (d := d + 1) (T := T) N S1 l1 9 a0 fa0 hw10) y1 sz M1) ?_
                      exact ye_ret rfl rfl (rQ h M1)
                    · replace h := yiN h10 h
                      by_cases h11 : l2 = 8
                      · replace h := yiT h11 h
                        refine ye_sw rfl (show _ = 142 from by rw [h11]; rfl) ?_
                        refine ye_p rfl rfl ?_
                        refine ye_p rfl rfl ?_
                        have g0_z1 := xG_o1 (i := 3) (v := .int 0) g0 rfl
                        have g1_z1 := xG_o1 (i := 3) (v := .int 0) g1 rfl
                        have g3_z1 := xG_same lv 3 (.int 0)
                        generalize xSt1 lv 3 (.int 0) = lvz1 at g0_z1 g1_z1 g3_z1 ⊢
                        refine ye_p rfl rfl ?_
                        refine ye_p rfl rfl ?_
                        have g0_z2 := xG_o1 (i := 4) (v := .int 0) g0_z1 rfl
                        have g1_z2 := xG_o1 (i := 4) (v := .int 0) g1_z1 rfl
                        have g3_z2 := xG_o1 (i := 4) (v := .int 0) g3_z1 rfl
                        have g4_z2 := xG_same lvz1 4 (.int 0)
                        generalize xSt1 lvz1 4 (.int 0) = lvz2 at g0_z2 g1_z2 g3_z2 g4_z2 ⊢
                        exact w_X12_of_147 (prim := prim) (d := d) N N S1 l1 0 0 y1 lvz2 a0 fa0 g0_z2 g1_z2 g3_z2 g4_z2 M1 h
                      · replace h := yiN h11 h
                        by_cases h12 : l2 = 9
                        · replace h := yiT h12 h
                          refine ye_sw rfl (show _ = 185 from by rw [h12]; rfl) ?_
                          refine ye_aload rfl g0 ?_
                          refine ye_iload rfl g1 ?_
                          refine ye_p rfl rfl ?_
                          obtain ⟨w11, hw11, h⟩ := bV_some h
                          refine ye_callV (As := [.int l1, .int 11]) (rest := []) 0 (Or.inl rfl) rfl rfl rfl (Nat.le_of_ble_eq_true rfl) (M1.obj fa0 ⟨rfl, rfl⟩) ((m_X12_plane (d := d + 1) (T := T) N S1 l1 11 a0 fa0 hw11) y1 sz M1) ?_
                          exact ye_ret rfl rfl (rQ h M1)
                        · replace h := yiN h12 h
                          refine ye_sw rfl (show _ = 193 from xtsw_neg h3 (by decide) (xtsw_neg h4 (by decide) (xtsw_neg h5 (by decide) (xtsw_neg h6 (by decide) (xtsw_neg h7 (by decide) (xtsw_neg h8 (by decide) (xtsw_neg h9 (by decide) (xtsw_neg h10 (by decide) (xtsw_neg h11 (by decide) (xtsw_neg h12 (by decide) (xtsw_nil))))))))))) ?_
                          refine ye_aload rfl g0 ?_
                          refine ye_iload rfl g1 ?_
                          obtain ⟨w12, hw12, h⟩ := bV_some h
                          refine ye_callV (As := [.int l1]) (rest := []) 0 (Or.inl rfl) rfl rfl rfl (Nat.le_of_ble_eq_true rfl) (M1.obj fa0 ⟨rfl, rfl⟩) ((m_X12_isAloft (d := d + 0) (T := T) N S1 l1 a0 fa0 hw12) y1 sz M1) ?_
                          refine ye_if_ne rfl (fun h13 => ?_) (fun h13 => ?_)
                          · replace h := yiT h13 h
                            refine ye_aload rfl g0 ?_
                            refine ye_iload rfl g1 ?_
                            refine ye_p rfl rfl ?_
                            obtain ⟨w13, hw13, h⟩ := bV_some h
                            refine ye_callV (As := [.int l1, .int 10]) (rest := []) 0 (Or.inl rfl) rfl rfl rfl (Nat.le_of_ble_eq_true rfl) (M1.obj fa0 ⟨rfl, rfl⟩) ((m_X12_plane (d := d + 1) (T := T) N S1 l1 10 a0 fa0 hw13) y1 sz M1) ?_
                            refine ye_p rfl rfl ?_
                            refine ye_icmp_ne rfl (fun h14 => ?_) (fun h14 => ?_)
                            · replace h := yiT h14 h
                              refine ye_aload rfl g0 ?_
                              refine ye_getr rfl (M1.obj fa0 ⟨rfl, rfl⟩) rfl (fun cx1 ecx1 => ?_)
                              have fcx1 := yAt.row fa0 ecx1
                              refine ye_aload rfl g0 ?_
                              refine ye_iload rfl g1 ?_
                              refine ye_p rfl rfl ?_
                              obtain ⟨w14, hw14, h⟩ := bV_some h
                              refine ye_callV (As := [.int l1, .int 1]) (rest := [.ref cx1]) 0 (Or.inl rfl) rfl rfl rfl (Nat.le_of_ble_eq_true rfl) (M1.obj fa0 ⟨rfl, rfl⟩) ((m_X12_plane (d := d + 1) (T := T) N S1 l1 1 a0 fa0 hw14) y1 sz M1) ?_
                              obtain ⟨j1, ej1, ij1, h⟩ := gA_some h
                              refine yj_ald rfl (M1.arr fcx1 yr_12_2) ij1 ej1 ?_
                              exact w_X12_of_239 (prim := prim) (d := d) N S1 (S1.2.1 8 2 j1) y1 lv M1 h
                            · replace h := yiN h14 h
                              refine ye_aload rfl g0 ?_
                              refine ye_getr rfl (M1.obj fa0 ⟨rfl, rfl⟩) rfl (fun cx2 ecx2 => ?_)
                              have fcx2 := yAt.row fa0 ecx2
                              refine ye_aload rfl g0 ?_
                              refine ye_iload rfl g1 ?_
                              refine ye_p rfl rfl ?_
                              obtain ⟨w15, hw15, h⟩ := bV_some h
                              refine ye_callV (As := [.int l1, .int 1]) (rest := [.ref cx2]) 0 (Or.inl rfl) rfl rfl rfl (Nat.le_of_ble_eq_true rfl) (M1.obj fa0 ⟨rfl, rfl⟩) ((m_X12_plane (d := d + 1) (T := T) N S1 l1 1 a0 fa0 hw15) y1 sz M1) ?_
                              obtain ⟨j2, ej2, ij2, h⟩ := gA_some h
                              refine yj_ald rfl (M1.arr fcx2 yr_12_3) ij2 ej2 ?_
                              refine ye_p rfl rfl ?_
                              exact w_X12_of_239 (prim := prim) (d := d) N S1 (S1.2.1 8 3 j2) y1 lv M1 h
                          · replace h := yiN h13 h
                            refine ye_p rfl rfl ?_
                            exact ye_ret rfl rfl (rQ h M1)
    · replace h := yiN h2 h
      exact w_X12_of_23 (prim := prim) (d := d) N S1 y1 lv a0 fa0 g0 M1 h
def f_X12_of (N : Nat) (S : yS) (xl1 : Int32) (xl2 : Int32) : Option (Int32 × yS) := f_X12_of_0 N S xl1 xl2
theorem m_X12_of {F : xH} {ev : xEv} {prim : xRel} {d : Nat} {T : yT} {v : Int32} {S' : yS} (N : Nat) (S : yS) (xl1 : Int32) (xl2 : Int32) (a0 : Nat) (fa0 : yAt T 12 8 0 a0) (h : f_X12_of N S xl1 xl2 = some (v, S')) : ykQ [8] F ev prim (d + 3) 267 T S [.ref a0, .int xl1, .int xl2] (some (.int v)) S' :=
  ykQ.of (pg_267 ev) mi_267 (Nat.le_of_ble_eq_true rfl) (fun hp sz hM => w_X12_of_0 (prim := prim) (d := d) N S xl1 xl2 hp _ a0 fa0 rfl rfl rfl hM h)

def f_X12_who_35 (N : Nat) (S : yS) (t0 : Int32) : Option (Int32 × yS) := some (t0, S)
set_option maxHeartbeats 4000000 in
set_option maxRecDepth 40000 in
theorem w_X12_who_35 {F : xH} {ev : xEv} {prim : xRel} {d sz : Nat} {T : yT} {v : Int32} {S' : yS} (N : Nat) (S : yS) (t0 : Int32) (hp : xH) (lv : xLv) (hM : cR [8] F ev T S hp) (h : f_X12_who_35 N S t0 = some (v, S')) : yWE ev.2.1 (xstr ev) (xCalls ev xmi (xprog ev) prim (d + 2)) (pX12_who ev) (35, lv, [.int t0], hp, sz, 0) (ypQ [8] F ev T sz (some (.int v)) S') := by
  unfold f_X12_who_35 at h
  exact ye_ret rfl rfl (rQ h hM)

def f_X12_who_31 (N : Nat) (S : yS) : Option (Int32 × yS) := bS (f_X12_lost N S) fun w1 S1 => f_X12_who_35 N S1 w1
set_option maxHeartbeats 4000000 in
set_option maxRecDepth 40000 in
theorem w_X12_who_31 {F : xH} {ev : xEv} {prim : xRel} {d sz : Nat} {T : yT} {v : Int32} {S' : yS} (N : Nat) (S : yS) (hp : xH) (lv : xLv) (a0 : Nat) (fa0 : yAt T 12 8 0 a0) (g0 : xG lv 0 = some (.ref a0)) (hM : cR [8] F ev T S hp) (h : f_X12_who_31 N S = some (v, S')) : yWE ev.2.1 (xstr ev) (xCalls ev xmi (xprog ev) prim (d + 2)) (pX12_who ev) (31, lv, [], hp, sz, 0) (ypQ [8] F ev T sz (some (.int v)) S') := by
  unfold f_X12_who_31 at h
  refine ye_aload rfl g0 ?_
  obtain ⟨w1, S1, hw1, h⟩ := bS_some h
  obtain ⟨y1, cy1, M1⟩ := (m_X12_lost (d := d + 1) (T := T) N S a0 fa0 hw1) hp sz hM
  refine ye_callV (As := []) (rest := []) 0 (Or.inl rfl) rfl rfl rfl (Nat.le_of_ble_eq_true rfl) (hM.obj fa0 ⟨rfl, rfl⟩) cy1 ?_
  exact w_X12_who_35 (prim := prim) (d := d) N S1 w1 y1 lv M1 h

def f_X12_who_0 (N : Nat) (S : yS) (l1 : Int32) (l2 : Int32) : Option (Int32 × yS) := sq (yI S 8 47 0) fun S1 => bV (f_X12_isPilot N S1 l1) fun w1 => if w1 = 0 then f_X12_who_31 N S1 else bV (f_X12_in N S1 l2 0 3) fun w2 => if w2 = 0 then f_X12_who_31 N S1 else bV (f_X12_pilotOf N S1 l1 l2) fun w3 => f_X12_who_35 N S1 w3
set_option maxHeartbeats 4000000 in
set_option maxRecDepth 40000 in
theorem w_X12_who_0 {F : xH} {ev : xEv} {prim : xRel} {d sz : Nat} {T : yT} {v : Int32} {S' : yS} (N : Nat) (S : yS) (l1 : Int32) (l2 : Int32) (hp : xH) (lv : xLv) (a0 : Nat) (fa0 : yAt T 12 8 0 a0) (g0 : xG lv 0 = some (.ref a0)) (g1 : xG lv 1 = some (.int l1)) (g2 : xG lv 2 = some (.int l2)) (hM : cR [8] F ev T S hp) (h : f_X12_who_0 N S l1 l2 = some (v, S')) : yWE ev.2.1 (xstr ev) (xCalls ev xmi (xprog ev) prim (d + 2)) (pX12_who ev) (0, lv, [], hp, sz, 0) (ypQ [8] F ev T sz (some (.int v)) S') := by
  unfold f_X12_who_0 at h
  refine ye_aload rfl g0 ?_
  refine ye_p rfl rfl ?_
  obtain ⟨S1, eS1, h⟩ := sq_some h
  refine yw_putI rfl hM fa0 rfl ⟨rfl, rfl⟩ (Nat.le_of_ble_eq_true rfl) rfl rfl (ys_12_47 ev T _ 0) (fun q => absurd q (by decide)) eS1 (fun y1 M1 => ?_)
  refine ye_aload rfl g0 ?_
  refine ye_iload rfl g1 ?_
  obtain ⟨w1, hw1, h⟩ := bV_some h
  refine ye_callV (As := [.int l1]) (rest := []) 0 (Or.inl rfl) rfl rfl rfl (Nat.le_of_ble_eq_true rfl) (M1.obj fa0 ⟨rfl, rfl⟩) ((m_X12_isPilot (d := d + 0) (T := T) N S1 l1 a0 fa0 hw1) y1 sz M1) ?_
  refine ye_if_eq rfl (fun h1 => ?_) (fun h1 => ?_)
  · replace h := yiT h1 h
    exact w_X12_who_31 (prim := prim) (d := d) N S1 y1 lv a0 fa0 g0 M1 h
  · replace h := yiN h1 h
    refine ye_iload rfl g2 ?_
    refine ye_p rfl rfl ?_
    refine ye_p rfl rfl ?_
    obtain ⟨w2, hw2, h⟩ := bV_some h
    refine ye_callS (As := [.int l2, .int 0, .int 3]) (rest := []) 1 (Or.inl rfl) rfl rfl rfl (Nat.le_of_ble_eq_true rfl) ((m_X12_in (d := d + 1) (T := T) N S1 l2 0 3 hw2) y1 sz M1) ?_
    refine ye_if_eq rfl (fun h2 => ?_) (fun h2 => ?_)
    · replace h := yiT h2 h
      exact w_X12_who_31 (prim := prim) (d := d) N S1 y1 lv a0 fa0 g0 M1 h
    · replace h := yiN h2 h
      refine ye_aload rfl g0 ?_
      refine ye_iload rfl g1 ?_
      refine ye_iload rfl g2 ?_
      obtain ⟨w3, hw3, h⟩ := bV_some h
      refine ye_callV (As := [.int l1, .int l2]) (rest := []) 0 (Or.inl rfl) rfl rfl rfl (Nat.le_of_ble_eq_true rfl) (M1.obj fa0 ⟨rfl, rfl⟩) ((m_X12_pilotOf (d := d + 1) (T := T) N S1 l1 l2 a0 fa0 hw3) y1 sz M1) ?_
      refine ye_p rfl rfl ?_
      exact w_X12_who_35 (prim := prim) (d := d) N S1 w3 y1 lv M1 h
def f_X12_who (N : Nat) (S : yS) (xl1 : Int32) (xl2 : Int32) : Option (Int32 × yS) := f_X12_who_0 N S xl1 xl2
theorem m_X12_who {F : xH} {ev : xEv} {prim : xRel} {d : Nat} {T : yT} {v : Int32} {S' : yS} (N : Nat) (S : yS) (xl1 : Int32) (xl2 : Int32) (a0 : Nat) (fa0 : yAt T 12 8 0 a0) (h : f_X12_who N S xl1 xl2 = some (v, S')) : ykQ [8] F ev prim (d + 3) 268 T S [.ref a0, .int xl1, .int xl2] (some (.int v)) S' :=
  ykQ.of (pg_268 ev) mi_268 (Nat.le_of_ble_eq_true rfl) (fun hp sz hM => w_X12_who_0 (prim := prim) (d := d) N S xl1 xl2 hp _ a0 fa0 rfl rfl rfl hM h)

def f_X12_flown_38 (N : Nat) (S : yS) (t0 : Int32) : Option (Int32 × yS) := some (t0, S)
set_option maxHeartbeats 4000000 in
set_option maxRecDepth 40000 in
theorem w_X12_flown_38 {F : xH} {ev : xEv} {prim : xRel} {d sz : Nat} {T : yT} {v : Int32} {S' : yS} (N : Nat) (S : yS) (t0 : Int32) (hp : xH) (lv : xLv) (hM : cR [8] F ev T S hp) (h : f_X12_flown_38 N S t0 = some (v, S')) : yWE ev.2.1 (xstr ev) (xCalls ev xmi (xprog ev) prim (d + 1)) (pX12_flown ev) (38, lv, [.int t0], hp, sz, 0) (ypQ [8] F ev T sz (some (.int v)) S') := by
  unfold f_X12_flown_38 at h
  exact ye_ret rfl rfl (rQ h hM)

def f_X12_flown_37 (N : Nat) (S : yS) : Option (Int32 × yS) := f_X12_flown_38 N S ((-1))
set_option maxHeartbeats 4000000 in
set_option maxRecDepth 40000 in
theorem w_X12_flown_37 {F : xH} {ev : xEv} {prim : xRel} {d sz : Nat} {T : yT} {v : Int32} {S' : yS} (N : Nat) (S : yS) (hp : xH) (lv : xLv) (hM : cR [8] F ev T S hp) (h : f_X12_flown_37 N S = some (v, S')) : yWE ev.2.1 (xstr ev) (xCalls ev xmi (xprog ev) prim (d + 1)) (pX12_flown ev) (37, lv, [], hp, sz, 0) (ypQ [8] F ev T sz (some (.int v)) S') := by
  unfold f_X12_flown_37 at h
  refine ye_p rfl rfl ?_
  exact w_X12_flown_38 (prim := prim) (d := d) N S ((-1)) hp lv hM h

def f_X12_flown_0 (N : Nat) (S : yS) (l1 : Int32) (l2 : Int32) : Option (Int32 × yS) := sq (yI S 8 47 0) fun S1 => bV (f_X12_in N S1 l1 0 ((S1.1 8 33) - 1)) fun w1 => if w1 = 0 then f_X12_flown_37 N S1 else bV (f_X12_in N S1 l2 0 2) fun w2 => if w2 = 0 then f_X12_flown_37 N S1 else bV (f_X12_flightOf N S1 l1 l2) fun w3 => f_X12_flown_38 N S1 w3
set_option maxHeartbeats 4000000 in
set_option maxRecDepth 40000 in
theorem w_X12_flown_0 {F : xH} {ev : xEv} {prim : xRel} {d sz : Nat} {T : yT} {v : Int32} {S' : yS} (N : Nat) (S : yS) (l1 : Int32) (l2 : Int32) (hp : xH) (lv : xLv) (a0 : Nat) (fa0 : yAt T 12 8 0 a0) (g0 : xG lv 0 = some (.ref a0)) (g1 : xG lv 1 = some (.int l1)) (g2 : xG lv 2 = some (.int l2)) (hM : cR [8] F ev T S hp) (h : f_X12_flown_0 N S l1 l2 = some (v, S')) : yWE ev.2.1 (xstr ev) (xCalls ev xmi (xprog ev) prim (d + 1)) (pX12_flown ev) (0, lv, [], hp, sz, 0) (ypQ [8] F ev T sz (some (.int v)) S') := by
  unfold f_X12_flown_0 at h
  refine ye_aload rfl g0 ?_
  refine ye_p rfl rfl ?_
  obtain ⟨S1, eS1, h⟩ := sq_some h
  refine yw_putI rfl hM fa0 rfl ⟨rfl, rfl⟩ (Nat.le_of_ble_eq_true rfl) rfl rfl (ys_12_47 ev T _ 0) (fun q => absurd q (by decide)) eS1 (fun y1 M1 => ?_)
  refine ye_iload rfl g1 ?_
  refine ye_p rfl rfl ?_
  refine ye_aload rfl g0 ?_
  refine ye_getf rfl (M1.obj fa0 ⟨rfl, rfl⟩) rfl ?_
  refine ye_p rfl rfl ?_
  refine ye_p rfl rfl ?_
  obtain ⟨w1, hw1, h⟩ := bV_some h
  refine ye_callS (As := [.int l1, .int 0, .int ((S1.1 8 33) - 1)]) (rest := []) 1 (Or.inl rfl) rfl rfl rfl (Nat.le_of_ble_eq_true rfl) ((m_X12_in (d := d + 0) (T := T) N S1 l1 0 ((S1.1 8 33) - 1) hw1) y1 sz M1) ?_
  refine ye_if_eq rfl (fun h1 => ?_) (fun h1 => ?_)
  · replace h := yiT h1 h
    exact w_X12_flown_37 (prim := prim) (d := d) N S1 y1 lv M1 h
  · replace h := yiN h1 h
    refine ye_iload rfl g2 ?_
    refine ye_p rfl rfl ?_
    refine ye_p rfl rfl ?_
    obtain ⟨w2, hw2, h⟩ := bV_some h
    refine ye_callS (As := [.int l2, .int 0, .int 2]) (rest := []) 1 (Or.inl rfl) rfl rfl rfl (Nat.le_of_ble_eq_true rfl) ((m_X12_in (d := d + 0) (T := T) N S1 l2 0 2 hw2) y1 sz M1) ?_
    refine ye_if_eq rfl (fun h2 => ?_) (fun h2 => ?_)
    · replace h := yiT h2 h
      exact w_X12_flown_37 (prim := prim) (d := d) N S1 y1 lv M1 h
    · replace h := yiN h2 h
      refine ye_aload rfl g0 ?_
      refine ye_iload rfl g1 ?_
      refine ye_iload rfl g2 ?_
      obtain ⟨w3, hw3, h⟩ := bV_some h
      refine ye_callV (As := [.int l1, .int l2]) (rest := []) 0 (Or.inl rfl) rfl rfl rfl (Nat.le_of_ble_eq_true rfl) (M1.obj fa0 ⟨rfl, rfl⟩) ((m_X12_flightOf (d := d + 0) (T := T) N S1 l1 l2 a0 fa0 hw3) y1 sz M1) ?_
      refine ye_p rfl rfl ?_
      exact w_X12_flown_38 (prim := prim) (d := d) N S1 w3 y1 lv M1 h
def f_X12_flown (N : Nat) (S : yS) (xl1 : Int32) (xl2 : Int32) : Option (Int32 × yS) := f_X12_flown_0 N S xl1 xl2
theorem m_X12_flown {F : xH} {ev : xEv} {prim : xRel} {d : Nat} {T : yT} {v : Int32} {S' : yS} (N : Nat) (S : yS) (xl1 : Int32) (xl2 : Int32) (a0 : Nat) (fa0 : yAt T 12 8 0 a0) (h : f_X12_flown N S xl1 xl2 = some (v, S')) : ykQ [8] F ev prim (d + 2) 272 T S [.ref a0, .int xl1, .int xl2] (some (.int v)) S' :=
  ykQ.of (pg_272 ev) mi_272 (Nat.le_of_ble_eq_true rfl) (fun hp sz hM => w_X12_flown_0 (prim := prim) (d := d) N S xl1 xl2 hp _ a0 fa0 rfl rfl rfl hM h)

def f_X12_lead_24 : Nat → Nat → yS → Int32 → Int32 → Int32 → Option (Int32 × yS)
  | 0, _, _, _, _, _ => none
  | n + 1, N, S, l1, l2, l3 => if (2 * l2) ≤ l3 then sq (yI S 8 46 (2 * l2)) fun S1 => some (l2, S1) else bV (f_X12_bagOf N S l1 (5 + l3)) fun w1 => gA 64 l3 fun j1 => sq (yA S 8 45 (upd (S.2.1 8 45) j1 w1)) fun S2 => f_X12_lead_24 n N S2 l1 l2 (l3 + 1)
set_option maxHeartbeats 4000000 in
set_option maxRecDepth 40000 in
theorem w_X12_lead_24 {F : xH} {ev : xEv} {prim : xRel} {d sz : Nat} {T : yT} {v : Int32} {S' : yS} (N : Nat) (n : Nat) : ∀ (S : yS) (l1 : Int32) (l2 : Int32) (l3 : Int32) (hp : xH) (lv : xLv) (a0 : Nat) (fa0 : yAt T 12 8 0 a0) (g0 : xG lv 0 = some (.ref a0)) (g1 : xG lv 1 = some (.int l1)) (g2 : xG lv 2 = some (.int l2)) (g3 : xG lv 3 = some (.int l3)) (hM : cR [8] F ev T S hp) (h : f_X12_lead_24 n N S l1 l2 l3 = some (v, S')), yWE ev.2.1 (xstr ev) (xCalls ev xmi (xprog ev) prim (d + 2)) (pX12_lead ev) (24, lv, [], hp, sz, 0) (ypQ [8] F ev T sz (some (.int v)) S') := by
  induction n with
  | zero => intro S l1 l2 l3 hp lv a0 fa0 g0 g1 g2 g3 hM h; exact n_some h
  | succ n ih =>
    intro S l1 l2 l3 hp lv a0 fa0 g0 g1 g2 g3 hM h
    unfold f_X12_lead_24 at h
    refine ye_iload rfl g3 ?_
    refine ye_p rfl rfl ?_
    refine ye_iload rfl g2 ?_
    refine ye_p rfl rfl ?_
    refine ye_icmp_ge rfl (fun h1 => ?_) (fun h1 => ?_)
    · replace h := yiT h1 h
      refine ye_aload rfl g0 ?_
      refine ye_p rfl rfl ?_
      refine ye_iload rfl g2 ?_
      refine ye_p rfl rfl ?_
      obtain ⟨S1, eS1, h⟩ := sq_some h
      refine yw_putI rfl hM fa0 rfl ⟨rfl, rfl⟩ (Nat.le_of_ble_eq_true rfl) rfl rfl (ys_12_46 ev T _ (2 * l2)) (fun q => absurd q (by decide)) eS1 (fun y1 M1 => ?_)
      refine ye_iload rfl g2 ?_
      exact ye_ret rfl rfl (rQ h M1)
    · replace h := yiN h1 h
      refine ye_aload rfl g0 ?_
      refine ye_getr rfl (hM.obj fa0 ⟨rfl, rfl⟩) rfl (fun cx1 ecx1 => ?_)
      have fcx1 := yAt.row fa0 ecx1
      refine ye_iload rfl g3 ?_
      refine ye_aload rfl g0 ?_
      refine ye_iload rfl g1 ?_
      refine ye_p rfl rfl ?_
      refine ye_iload rfl g3 ?_
      refine ye_p rfl rfl ?_
      obtain ⟨w1, hw1, h⟩ := bV_some h
      refine ye_callV (As := [.int l1, .int (5 + l3)]) (rest := [.int l3, .ref cx1]) 0 (Or.inl rfl) rfl rfl rfl (Nat.le_of_ble_eq_true rfl) (hM.obj fa0 ⟨rfl, rfl⟩) ((m_X12_bagOf (d := d + 1) (T := T) N S l1 (5 + l3) a0 fa0 hw1) hp sz hM) ?_
      obtain ⟨j1, ej1, ij1, h⟩ := gA_some h
      obtain ⟨S2, eS2, h⟩ := sq_some h
      refine yw_ast rfl hM fcx1 yr_12_45 (by decide) ij1 ej1 eS2 (fun y2 M2 => ?_)
      refine ye_iinc rfl g3 ?_
      have g0_z1 := xG_o1 (i := 3) (v := .int (l3 + 1)) g0 rfl
      have g1_z1 := xG_o1 (i := 3) (v := .int (l3 + 1)) g1 rfl
      have g2_z1 := xG_o1 (i := 3) (v := .int (l3 + 1)) g2 rfl
      have g3_z1 := xG_same lv 3 (.int (l3 + 1))
      generalize xSt1 lv 3 (.int (l3 + 1)) = lvz1 at g0_z1 g1_z1 g2_z1 g3_z1 ⊢
      refine ye_p rfl rfl ?_
      exact ih S2 l1 l2 (l3 + 1) y2 lvz1 a0 fa0 g0_z1 g1_z1 g2_z1 g3_z1 M2 h

def f_X12_lead_0 (N : Nat) (S : yS) (l1 : Int32) : Option (Int32 × yS) := sq (yI S 8 47 0) fun S1 => bV (f_X12_isBag N S1 l1) fun w1 => if ¬ w1 = 0 then bV (f_X12_bagOf N S1 l1 4) fun w2 => f_X12_lead_24 N N S1 l1 w2 0 else some ((-1), S1)
set_option maxHeartbeats 4000000 in
set_option maxRecDepth 40000 in
theorem w_X12_lead_0 {F : xH} {ev : xEv} {prim : xRel} {d sz : Nat} {T : yT} {v : Int32} {S' : yS} (N : Nat) (S : yS) (l1 : Int32) (hp : xH) (lv : xLv) (a0 : Nat) (fa0 : yAt T 12 8 0 a0) (g0 : xG lv 0 = some (.ref a0)) (g1 : xG lv 1 = some (.int l1)) (hM : cR [8] F ev T S hp) (h : f_X12_lead_0 N S l1 = some (v, S')) : yWE ev.2.1 (xstr ev) (xCalls ev xmi (xprog ev) prim (d + 2)) (pX12_lead ev) (0, lv, [], hp, sz, 0) (ypQ [8] F ev T sz (some (.int v)) S') := by
  unfold f_X12_lead_0 at h
  refine ye_aload rfl g0 ?_
  refine ye_p rfl rfl ?_
  obtain ⟨S1, eS1, h⟩ := sq_some h
  refine yw_putI rfl hM fa0 rfl ⟨rfl, rfl⟩ (Nat.le_of_ble_eq_true rfl) rfl rfl (ys_12_47 ev T _ 0) (fun q => absurd q (by decide)) eS1 (fun y1 M1 => ?_)
  refine ye_aload rfl g0 ?_
  refine ye_iload rfl g1 ?_
  obtain ⟨w1, hw1, h⟩ := bV_some h
  refine ye_callV (As := [.int l1]) (rest := []) 0 (Or.inl rfl) rfl rfl rfl (Nat.le_of_ble_eq_true rfl) (M1.obj fa0 ⟨rfl, rfl⟩) ((m_X12_isBag (d := d + 0) (T := T) N S1 l1 a0 fa0 hw1) y1 sz M1) ?_
  refine ye_if_ne rfl (fun h1 => ?_) (fun h1 => ?_)
  · replace h := yiT h1 h
    refine ye_aload rfl g0 ?_
    refine ye_iload rfl g1 ?_
    refine ye_p rfl rfl ?_
    obtain ⟨w2, hw2, h⟩ := bV_some h
    refine ye_callV (As := [.int l1, .int 4]) (rest := []) 0 (Or.inl rfl) rfl rfl rfl (Nat.le_of_ble_eq_true rfl) (M1.obj fa0 ⟨rfl, rfl⟩) ((m_X12_bagOf (d := d + 1) (T := T) N S1 l1 4 a0 fa0 hw2) y1 sz M1) ?_
    refine ye_p rfl rfl ?_
    have g0_z1 := xG_o1 (i := 2) (v := .int w2) g0 rfl
    have g1_z1 := xG_o1 (i := 2) (v := .int w2) g1 rfl
    have g2_z1 := xG_same lv 2 (.int w2)
    generalize xSt1 lv 2 (.int w2) = lvz1 at g0_z1 g1_z1 g2_z1 ⊢
    refine ye_p rfl rfl ?_
    refine ye_p rfl rfl ?_
    have g0_z2 := xG_o1 (i := 3) (v := .int 0) g0_z1 rfl
    have g1_z2 := xG_o1 (i := 3) (v := .int 0) g1_z1 rfl
    have g2_z2 := xG_o1 (i := 3) (v := .int 0) g2_z1 rfl
    have g3_z2 := xG_same lvz1 3 (.int 0)
    generalize xSt1 lvz1 3 (.int 0) = lvz2 at g0_z2 g1_z2 g2_z2 g3_z2 ⊢
    exact w_X12_lead_24 (prim := prim) (d := d) N N S1 l1 w2 0 y1 lvz2 a0 fa0 g0_z2 g1_z2 g2_z2 g3_z2 M1 h
  · replace h := yiN h1 h
    refine ye_p rfl rfl ?_
    exact ye_ret rfl rfl (rQ h M1)
def f_X12_lead (N : Nat) (S : yS) (xl1 : Int32) : Option (Int32 × yS) := f_X12_lead_0 N S xl1
theorem m_X12_lead {F : xH} {ev : xEv} {prim : xRel} {d : Nat} {T : yT} {v : Int32} {S' : yS} (N : Nat) (S : yS) (xl1 : Int32) (a0 : Nat) (fa0 : yAt T 12 8 0 a0) (h : f_X12_lead N S xl1 = some (v, S')) : ykQ [8] F ev prim (d + 3) 273 T S [.ref a0, .int xl1] (some (.int v)) S' :=
  ykQ.of (pg_273 ev) mi_273 (Nat.le_of_ble_eq_true rfl) (fun hp sz hM => w_X12_lead_0 (prim := prim) (d := d) N S xl1 hp _ a0 fa0 rfl rfl hM h)

def f_X12_isDown_23 (N : Nat) (S : yS) (t0 : Int32) : Option Int32 := gP (t0 = 0 ∨ t0 = 1) (some t0)
set_option maxHeartbeats 4000000 in
set_option maxRecDepth 40000 in
theorem w_X12_isDown_23 {F : xH} {ev : xEv} {prim : xRel} {d sz : Nat} {T : yT} {v : Int32} {hp : xH} (N : Nat) (S : yS) (t0 : Int32) (lv : xLv) (hM : cR [8] F ev T S hp) (h : f_X12_isDown_23 N S t0 = some v) : yWE ev.2.1 (xstr ev) (xCalls ev xmi (xprog ev) prim (d + 2)) (pX12_isDown ev) (23, lv, [.int t0], hp, sz, 0) (ypP hp sz (.int v)) := by
  unfold f_X12_isDown_23 at h
  obtain ⟨i1, h⟩ := gP_some h
  exact ye_ret rfl (if_pos (zb_nar i1)) (rP h)

def f_X12_isDown_22 (N : Nat) (S : yS) : Option Int32 := f_X12_isDown_23 N S 0
set_option maxHeartbeats 4000000 in
set_option maxRecDepth 40000 in
theorem w_X12_isDown_22 {F : xH} {ev : xEv} {prim : xRel} {d sz : Nat} {T : yT} {v : Int32} {hp : xH} (N : Nat) (S : yS) (lv : xLv) (hM : cR [8] F ev T S hp) (h : f_X12_isDown_22 N S = some v) : yWE ev.2.1 (xstr ev) (xCalls ev xmi (xprog ev) prim (d + 2)) (pX12_isDown ev) (22, lv, [], hp, sz, 0) (ypP hp sz (.int v)) := by
  unfold f_X12_isDown_22 at h
  refine ye_p rfl rfl ?_
  exact w_X12_isDown_23 (prim := prim) (d := d) N S 0 lv hM h

def f_X12_isDown_0 (N : Nat) (S : yS) (l1 : Int32) : Option Int32 := bV (f_X12_isPlane N S l1) fun w1 => if w1 = 0 then f_X12_isDown_22 N S else bV (f_X12_plane N S l1 3) fun w2 => if ¬ w2 = 1 then f_X12_isDown_22 N S else f_X12_isDown_23 N S 1
set_option maxHeartbeats 4000000 in
set_option maxRecDepth 40000 in
theorem w_X12_isDown_0 {F : xH} {ev : xEv} {prim : xRel} {d sz : Nat} {T : yT} {v : Int32} {hp : xH} (N : Nat) (S : yS) (l1 : Int32) (lv : xLv) (a0 : Nat) (fa0 : yAt T 12 8 0 a0) (g0 : xG lv 0 = some (.ref a0)) (g1 : xG lv 1 = some (.int l1)) (hM : cR [8] F ev T S hp) (h : f_X12_isDown_0 N S l1 = some v) : yWE ev.2.1 (xstr ev) (xCalls ev xmi (xprog ev) prim (d + 2)) (pX12_isDown ev) (0, lv, [], hp, sz, 0) (ypP hp sz (.int v)) := by
  unfold f_X12_isDown_0 at h
  refine ye_aload rfl g0 ?_
  refine ye_iload rfl g1 ?_
  obtain ⟨w1, hw1, h⟩ := bV_some h
  refine ye_callV (As := [.int l1]) (rest := []) 0 (Or.inl rfl) rfl rfl rfl (Nat.le_of_ble_eq_true rfl) (hM.obj fa0 ⟨rfl, rfl⟩) ((m_X12_isPlane (d := d + 0) (T := T) N S l1 a0 fa0 hw1) hp sz hM) ?_
  refine ye_if_eq rfl (fun h1 => ?_) (fun h1 => ?_)
  · replace h := yiT h1 h
    exact w_X12_isDown_22 (prim := prim) (d := d) N S lv hM h
  · replace h := yiN h1 h
    refine ye_aload rfl g0 ?_
    refine ye_iload rfl g1 ?_
    refine ye_p rfl rfl ?_
    obtain ⟨w2, hw2, h⟩ := bV_some h
    refine ye_callV (As := [.int l1, .int 3]) (rest := []) 0 (Or.inl rfl) rfl rfl rfl (Nat.le_of_ble_eq_true rfl) (hM.obj fa0 ⟨rfl, rfl⟩) ((m_X12_plane (d := d + 1) (T := T) N S l1 3 a0 fa0 hw2) hp sz hM) ?_
    refine ye_p rfl rfl ?_
    refine ye_icmp_ne rfl (fun h2 => ?_) (fun h2 => ?_)
    · replace h := yiT h2 h
      exact w_X12_isDown_22 (prim := prim) (d := d) N S lv hM h
    · replace h := yiN h2 h
      refine ye_p rfl rfl ?_
      refine ye_p rfl rfl ?_
      exact w_X12_isDown_23 (prim := prim) (d := d) N S 1 lv hM h
def f_X12_isDown (N : Nat) (S : yS) (xl1 : Int32) : Option Int32 := f_X12_isDown_0 N S xl1
theorem m_X12_isDown {F : xH} {ev : xEv} {prim : xRel} {d : Nat} {T : yT} {v : Int32} (N : Nat) (S : yS) (xl1 : Int32) (a0 : Nat) (fa0 : yAt T 12 8 0 a0) (h : f_X12_isDown N S xl1 = some v) : ykP [8] F ev prim (d + 3) 277 T S [.ref a0, .int xl1] (.int v) :=
  ykP.of (pg_277 ev) mi_277 (Nat.le_of_ble_eq_true rfl) (fun hp sz hM => w_X12_isDown_0 (prim := prim) (d := d) N S xl1 _ a0 fa0 rfl rfl hM h)

def f_X12_find_56 (N : Nat) (S : yS) (l1 : Int32) (t1 : Int32) (t2 : Int32) : Option (Int32 × yS) := bS (f_X12_comeTo N S t1 t2) fun w1 S1 => bV (f_X12_plane N S1 l1 0) fun w2 => some (w2, S1)
set_option maxHeartbeats 4000000 in
set_option maxRecDepth 40000 in
theorem w_X12_find_56 {F : xH} {ev : xEv} {prim : xRel} {d sz : Nat} {T : yT} {v : Int32} {S' : yS} (N : Nat) (S : yS) (l1 : Int32) (t1 : Int32) (t2 : Int32) (hp : xH) (lv : xLv) (a0 : Nat) (b0 : Nat) (fa0 : yAt T 12 8 0 a0) (fb0 : yAt T 12 8 0 b0) (g0 : xG lv 0 = some (.ref a0)) (g1 : xG lv 1 = some (.int l1)) (hM : cR [8] F ev T S hp) (h : f_X12_find_56 N S l1 t1 t2 = some (v, S')) : yWE ev.2.1 (xstr ev) (xCalls ev xmi (xprog ev) prim (d + 4)) (pX12_find ev) (56, lv, [.int t2, .int t1, .ref b0], hp, sz, 0) (ypQ [8] F ev T sz (some (.int v)) S') := by
  unfold f_X12_find_56 at h
  obtain ⟨w1, S1, hw1, h⟩ := bS_some h
  obtain ⟨y1, cy1, M1⟩ := (m_X12_comeTo (d := d + 0) (T := T) N S t1 t2 b0 fb0 hw1) hp sz hM
  refine ye_callV (As := [.int t1, .int t2]) (rest := []) 0 (Or.inl rfl) rfl rfl rfl (Nat.le_of_ble_eq_true rfl) (hM.obj fb0 ⟨rfl, rfl⟩) cy1 ?_
  refine ye_aload rfl g0 ?_
  refine ye_iload rfl g1 ?_
  refine ye_p rfl rfl ?_
  obtain ⟨w2, hw2, h⟩ := bV_some h
  refine ye_callV (As := [.int l1, .int 0]) (rest := []) 0 (Or.inl rfl) rfl rfl rfl (Nat.le_of_ble_eq_true rfl) (M1.obj fa0 ⟨rfl, rfl⟩) ((m_X12_plane (d := d + 3) (T := T) N S1 l1 0 a0 fa0 hw2) y1 sz M1) ?_
  exact ye_ret rfl rfl (rQ h M1)

def f_X12_find_0 (N : Nat) (S : yS) (l1 : Int32) : Option (Int32 × yS) := sq (yI S 8 47 0) fun S1 => bV (f_X12_isDown N S1 l1) fun w1 => if ¬ w1 = 0 then bV (f_X12_plane N S1 l1 1) fun w2 => bV (f_X12_plane N S1 l1 2) fun w3 => gA 12 w2 fun j1 => if (S1.2.1 8 4 j1) < (2 * w3) then gA 12 w2 fun j2 => f_X12_find_56 N S1 l1 l1 (S1.2.1 8 3 j2) else gA 12 w2 fun j3 => f_X12_find_56 N S1 l1 l1 (S1.2.1 8 2 j3) else some ((-1), S1)
set_option maxHeartbeats 4000000 in
set_option maxRecDepth 40000 in
theorem w_X12_find_0 {F : xH} {ev : xEv} {prim : xRel} {d sz : Nat} {T : yT} {v : Int32} {S' : yS} (N : Nat) (S : yS) (l1 : Int32) (hp : xH) (lv : xLv) (a0 : Nat) (fa0 : yAt T 12 8 0 a0) (g0 : xG lv 0 = some (.ref a0)) (g1 : xG lv 1 = some (.int l1)) (hM : cR [8] F ev T S hp) (h : f_X12_find_0 N S l1 = some (v, S')) : yWE ev.2.1 (xstr ev) (xCalls ev xmi (xprog ev) prim (d + 4)) (pX12_find ev) (0, lv, [], hp, sz, 0) (ypQ [8] F ev T sz (some (.int v)) S') := by
  unfold f_X12_find_0 at h
  refine ye_aload rfl g0 ?_
  refine ye_p rfl rfl ?_
  obtain ⟨S1, eS1, h⟩ := sq_some h
  refine yw_putI rfl hM fa0 rfl ⟨rfl, rfl⟩ (Nat.le_of_ble_eq_true rfl) rfl rfl (ys_12_47 ev T _ 0) (fun q => absurd q (by decide)) eS1 (fun y1 M1 => ?_)
  refine ye_aload rfl g0 ?_
  refine ye_iload rfl g1 ?_
  obtain ⟨w1, hw1, h⟩ := bV_some h
  refine ye_callV (As := [.int l1]) (rest := []) 0 (Or.inl rfl) rfl rfl rfl (Nat.le_of_ble_eq_true rfl) (M1.obj fa0 ⟨rfl, rfl⟩) ((m_X12_isDown (d := d + 1) (T := T) N S1 l1 a0 fa0 hw1) y1 sz M1) ?_
  refine ye_if_ne rfl (fun h1 => ?_) (fun h1 => ?_)
  · replace h := yiT h1 h
    refine ye_aload rfl g0 ?_
    refine ye_iload rfl g1 ?_
    refine ye_p rfl rfl ?_
    obtain ⟨w2, hw2, h⟩ := bV_some h
    refine ye_callV (As := [.int l1, .int 1]) (rest := []) 0 (Or.inl rfl) rfl rfl rfl (Nat.le_of_ble_eq_true rfl) (M1.obj fa0 ⟨rfl, rfl⟩) ((m_X12_plane (d := d + 3) (T := T) N S1 l1 1 a0 fa0 hw2) y1 sz M1) ?_
    refine ye_p rfl rfl ?_
    have g0_z1 := xG_o1 (i := 2) (v := .int w2) g0 rfl
    have g1_z1 := xG_o1 (i := 2) (v := .int w2) g1 rfl
    have g2_z1 := xG_same lv 2 (.int w2)
    generalize xSt1 lv 2 (.int w2) = lvz1 at g0_z1 g1_z1 g2_z1 ⊢
    refine ye_aload rfl g0_z1 ?_
    refine ye_iload rfl g1_z1 ?_
    refine ye_p rfl rfl ?_
    refine ye_aload rfl g0_z1 ?_
    refine ye_iload rfl g1_z1 ?_
    refine ye_p rfl rfl ?_
    obtain ⟨w3, hw3, h⟩ := bV_some h
    refine ye_callV (As := [.int l1, .int 2]) (rest := [.int 2, .int l1, .ref a0]) 0 (Or.inl rfl) rfl rfl rfl (Nat.le_of_ble_eq_true rfl) (M1.obj fa0 ⟨rfl, rfl⟩) ((m_X12_plane (d := d + 3) (T := T) N S1 l1 2 a0 fa0 hw3) y1 sz M1) ?_
    refine ye_p rfl rfl ?_
    refine ye_aload rfl g0_z1 ?_
    refine ye_getr rfl (M1.obj fa0 ⟨rfl, rfl⟩) rfl (fun cx1 ecx1 => ?_)
    have fcx1 := yAt.row fa0 ecx1
    refine ye_iload rfl g2_z1 ?_
    obtain ⟨j1, ej1, ij1, h⟩ := gA_some h
    refine yj_ald rfl (M1.arr fcx1 yr_12_4) ij1 ej1 ?_
    refine ye_icmp_gt rfl (fun h2 => ?_) (fun h2 => ?_)
    · replace h := yiT h2 h
      refine ye_aload rfl g0_z1 ?_
      refine ye_getr rfl (M1.obj fa0 ⟨rfl, rfl⟩) rfl (fun cx2 ecx2 => ?_)
      have fcx2 := yAt.row fa0 ecx2
      refine ye_iload rfl g2_z1 ?_
      obtain ⟨j2, ej2, ij2, h⟩ := gA_some h
      refine yj_ald rfl (M1.arr fcx2 yr_12_3) ij2 ej2 ?_
      exact w_X12_find_56 (prim := prim) (d := d) N S1 l1 l1 (S1.2.1 8 3 j2) y1 lvz1 a0 a0 fa0 fa0 g0_z1 g1_z1 M1 h
    · replace h := yiN h2 h
      refine ye_aload rfl g0_z1 ?_
      refine ye_getr rfl (M1.obj fa0 ⟨rfl, rfl⟩) rfl (fun cx3 ecx3 => ?_)
      have fcx3 := yAt.row fa0 ecx3
      refine ye_iload rfl g2_z1 ?_
      obtain ⟨j3, ej3, ij3, h⟩ := gA_some h
      refine yj_ald rfl (M1.arr fcx3 yr_12_2) ij3 ej3 ?_
      refine ye_p rfl rfl ?_
      exact w_X12_find_56 (prim := prim) (d := d) N S1 l1 l1 (S1.2.1 8 2 j3) y1 lvz1 a0 a0 fa0 fa0 g0_z1 g1_z1 M1 h
  · replace h := yiN h1 h
    refine ye_p rfl rfl ?_
    exact ye_ret rfl rfl (rQ h M1)
def f_X12_find (N : Nat) (S : yS) (xl1 : Int32) : Option (Int32 × yS) := f_X12_find_0 N S xl1
theorem m_X12_find {F : xH} {ev : xEv} {prim : xRel} {d : Nat} {T : yT} {v : Int32} {S' : yS} (N : Nat) (S : yS) (xl1 : Int32) (a0 : Nat) (fa0 : yAt T 12 8 0 a0) (h : f_X12_find N S xl1 = some (v, S')) : ykQ [8] F ev prim (d + 5) 278 T S [.ref a0, .int xl1] (some (.int v)) S' :=
  ykQ.of (pg_278 ev) mi_278 (Nat.le_of_ble_eq_true rfl) (fun hp sz hM => w_X12_find_0 (prim := prim) (d := d) N S xl1 hp _ a0 fa0 rfl rfl hM h)

def f_X12_cells_0 (N : Nat) (S : yS) (l1 : Int32) : Option Int32 := bV (f_X12_plane N S l1 1) fun w1 => gA 12 w1 fun j1 => some (((S.2.1 8 4 j1) / 10) + 1)
set_option maxHeartbeats 4000000 in
set_option maxRecDepth 40000 in
theorem w_X12_cells_0 {F : xH} {ev : xEv} {prim : xRel} {d sz : Nat} {T : yT} {v : Int32} {hp : xH} (N : Nat) (S : yS) (l1 : Int32) (lv : xLv) (a0 : Nat) (fa0 : yAt T 12 8 0 a0) (g0 : xG lv 0 = some (.ref a0)) (g1 : xG lv 1 = some (.int l1)) (hM : cR [8] F ev T S hp) (h : f_X12_cells_0 N S l1 = some v) : yWE ev.2.1 (xstr ev) (xCalls ev xmi (xprog ev) prim (d + 1)) (pX12_cells ev) (0, lv, [], hp, sz, 0) (ypP hp sz (.int v)) := by
  unfold f_X12_cells_0 at h
  refine ye_aload rfl g0 ?_
  refine ye_getr rfl (hM.obj fa0 ⟨rfl, rfl⟩) rfl (fun cx1 ecx1 => ?_)
  have fcx1 := yAt.row fa0 ecx1
  refine ye_aload rfl g0 ?_
  refine ye_iload rfl g1 ?_
  refine ye_p rfl rfl ?_
  obtain ⟨w1, hw1, h⟩ := bV_some h
  refine ye_callV (As := [.int l1, .int 1]) (rest := [.ref cx1]) 0 (Or.inl rfl) rfl rfl rfl (Nat.le_of_ble_eq_true rfl) (hM.obj fa0 ⟨rfl, rfl⟩) ((m_X12_plane (d := d + 0) (T := T) N S l1 1 a0 fa0 hw1) hp sz hM) ?_
  obtain ⟨j1, ej1, ij1, h⟩ := gA_some h
  refine yj_ald rfl (hM.arr fcx1 yr_12_4) ij1 ej1 ?_
  refine ye_p rfl rfl ?_
  refine ye_div rfl (by decide) ?_
  refine ye_p rfl rfl ?_
  refine ye_p rfl rfl ?_
  exact ye_ret rfl rfl (rP h)
def f_X12_cells (N : Nat) (S : yS) (xl1 : Int32) : Option Int32 := f_X12_cells_0 N S xl1
theorem m_X12_cells {F : xH} {ev : xEv} {prim : xRel} {d : Nat} {T : yT} {v : Int32} (N : Nat) (S : yS) (xl1 : Int32) (a0 : Nat) (fa0 : yAt T 12 8 0 a0) (h : f_X12_cells N S xl1 = some v) : ykP [8] F ev prim (d + 2) 279 T S [.ref a0, .int xl1] (.int v) :=
  ykP.of (pg_279 ev) mi_279 (Nat.le_of_ble_eq_true rfl) (fun hp sz hM => w_X12_cells_0 (prim := prim) (d := d) N S xl1 _ a0 fa0 rfl rfl hM h)
