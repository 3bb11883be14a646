
def f_X12_look_49 (N : Nat) (S : yS) : Option (Int32 × yS) := some ((-1), S)
set_option maxHeartbeats 4000000 in
set_option maxRecDepth 40000 in
theorem w_X12_look_49 {F : xH} {ev : xEv} {prim : xRel} {d sz : Nat} {T : yT} {v : Int32} {S' : yS} (N : Nat) (S : yS) (hp : xH) (lv : xLv) (hM : cR [8] F ev T S hp) (h : f_X12_look_49 N S = some (v, S')) : yWE ev.2.1 (xstr ev) (xCalls ev xmi (xprog ev) prim (d + 3)) (pX12_look ev) (49, lv, [], hp, sz, 0) (ypQ [8] F ev T sz (some (.int v)) S') := by
  unfold f_X12_look_49 at h
  refine ye_p rfl rfl ?_
  exact ye_ret rfl rfl (rQ h hM)

def f_X12_look_0 (N : Nat) (S : yS) (l1 : Int32) (l2 : Int32) (l3 : Int32) : Option (Int32 × yS) := sq (yI S 8 47 0) fun S1 => bV (f_X12_isDown N S1 l1) fun w1 => if w1 = 0 then f_X12_look_49 N S1 else bV (f_X12_cells N S1 l1) fun w2 => bV (f_X12_in N S1 l2 0 (w2 - 1)) fun w3 => if w3 = 0 then f_X12_look_49 N S1 else bV (f_X12_in N S1 l3 1 99) fun w4 => if w4 = 0 then f_X12_look_49 N S1 else bV (f_X12_plane N S1 l1 14) fun w5 => if ¬ w5 = 4 then bV (f_X12_plane N S1 l1 14) fun w6 => bS (f_X12_plane2 N S1 l1 (15 + (2 * w6)) l2) fun w7 S2 => bS (f_X12_plane2 N S2 l1 ((15 + (2 * w6)) + 1) l3) fun w8 S3 => bS (f_X12_plane2 N S3 l1 14 (w6 + 1)) fun w9 S4 => some (w6 + 1, S4) else f_X12_look_49 N S1
set_option maxHeartbeats 4000000 in
set_option maxRecDepth 40000 in
theorem w_X12_look_0 {F : xH} {ev : xEv} {prim : xRel} {d sz : Nat} {T : yT} {v : Int32} {S' : yS} (N : Nat) (S : yS) (l1 : Int32) (l2 : Int32) (l3 : Int32) (hp : xH) (lv : xLv) (a0 : Nat) (fa0 : yAt T 12 8 0 a0) (g0 : xG lv 0 = some (.ref a0)) (g1 : xG lv 1 = some (.int l1)) (g2 : xG lv 2 = some (.int l2)) (g3 : xG lv 3 = some (.int l3)) (hM : cR [8] F ev T S hp) (h : f_X12_look_0 N S l1 l2 l3 = some (v, S')) : yWE ev.2.1 (xstr ev) (xCalls ev xmi (xprog ev) prim (d + 3)) (pX12_look ev) (0, lv, [], hp, sz, 0) (ypQ [8] F ev T sz (some (.int v)) S') := by
  unfold f_X12_look_0 at h
  refine ye_aload rfl g0 ?_
  refine ye_p rfl rfl ?_
  obtain ⟨S1, eS1, h⟩ := sq_some h
  refine yw_putI rfl hM fa0 rfl ⟨rfl, rfl⟩ (Nat.le_of_ble_eq_true rfl) rfl rfl (ys_12_47 ev T _ 0) (fun q => absurd q (by decide)) eS1 (fun y1 M1 => ?_)
  refine ye_aload rfl g0 ?_
  refine ye_iload rfl g1 ?_
  obtain ⟨w1, hw1, h⟩ := bV_some h
  refine ye_callV (As := [.int l1]) (rest := []) 0 (Or.inl rfl) rfl rfl rfl (Nat.le_of_ble_eq_true rfl) (M1.obj fa0 ⟨rfl, rfl⟩) ((m_X12_isDown (d := d + 0) (T := T) N S1 l1 a0 fa0 hw1) y1 sz M1) ?_
  refine ye_if_eq rfl (fun h1 => ?_) (fun h1 => ?_)
  · replace h := yiT h1 h
    exact w_X12_look_49 (prim := prim) (d := d) N S1 y1 lv M1 h
  · replace h := yiN h1 h
    refine ye_iload rfl g2 ?_
    refine ye_p rfl rfl ?_
    refine ye_aload rfl g0 ?_
    refine ye_iload rfl g1 ?_
    obtain ⟨w2, hw2, h⟩ := bV_some h
    refine ye_callV (As := [.int l1]) (rest := [.int 0, .int l2]) 0 (Or.inl rfl) rfl rfl rfl (Nat.le_of_ble_eq_true rfl) (M1.obj fa0 ⟨rfl, rfl⟩) ((m_X12_cells (d := d + 1) (T := T) N S1 l1 a0 fa0 hw2) y1 sz M1) ?_
    refine ye_p rfl rfl ?_
    refine ye_p rfl rfl ?_
    obtain ⟨w3, hw3, h⟩ := bV_some h
    refine ye_callS (As := [.int l2, .int 0, .int (w2 - 1)]) (rest := []) 1 (Or.inl rfl) rfl rfl rfl (Nat.le_of_ble_eq_true rfl) ((m_X12_in (d := d + 2) (T := T) N S1 l2 0 (w2 - 1) hw3) y1 sz M1) ?_
    refine ye_if_eq rfl (fun h2 => ?_) (fun h2 => ?_)
    · replace h := yiT h2 h
      exact w_X12_look_49 (prim := prim) (d := d) N S1 y1 lv M1 h
    · replace h := yiN h2 h
      refine ye_iload rfl g3 ?_
      refine ye_p rfl rfl ?_
      refine ye_p rfl rfl ?_
      obtain ⟨w4, hw4, h⟩ := bV_some h
      refine ye_callS (As := [.int l3, .int 1, .int 99]) (rest := []) 1 (Or.inl rfl) rfl rfl rfl (Nat.le_of_ble_eq_true rfl) ((m_X12_in (d := d + 2) (T := T) N S1 l3 1 99 hw4) y1 sz M1) ?_
      refine ye_if_eq rfl (fun h3 => ?_) (fun h3 => ?_)
      · replace h := yiT h3 h
        exact w_X12_look_49 (prim := prim) (d := d) N S1 y1 lv M1 h
      · replace h := yiN h3 h
        refine ye_aload rfl g0 ?_
        refine ye_iload rfl g1 ?_
        refine ye_p rfl rfl ?_
        obtain ⟨w5, hw5, h⟩ := bV_some h
        refine ye_callV (As := [.int l1, .int 14]) (rest := []) 0 (Or.inl rfl) rfl rfl rfl (Nat.le_of_ble_eq_true rfl) (M1.obj fa0 ⟨rfl, rfl⟩) ((m_X12_plane (d := d + 2) (T := T) N S1 l1 14 a0 fa0 hw5) y1 sz M1) ?_
        refine ye_p rfl rfl ?_
        refine ye_icmp_ne rfl (fun h4 => ?_) (fun h4 => ?_)
        · replace h := yiT h4 h
          refine ye_aload rfl g0 ?_
          refine ye_iload rfl g1 ?_
          refine ye_p rfl rfl ?_
          obtain ⟨w6, hw6, h⟩ := bV_some h
          refine ye_callV (As := [.int l1, .int 14]) (rest := []) 0 (Or.inl rfl) rfl rfl rfl (Nat.le_of_ble_eq_true rfl) (M1.obj fa0 ⟨rfl, rfl⟩) ((m_X12_plane (d := d + 2) (T := T) N S1 l1 14 a0 fa0 hw6) y1 sz M1) ?_
          refine ye_p rfl rfl ?_
          have g0_z1 := xG_o1 (i := 4) (v := .int w6) g0 rfl
          have g1_z1 := xG_o1 (i := 4) (v := .int w6) g1 rfl
          have g2_z1 := xG_o1 (i := 4) (v := .int w6) g2 rfl
          have g3_z1 := xG_o1 (i := 4) (v := .int w6) g3 rfl
          have g4_z1 := xG_same lv 4 (.int w6)
          generalize xSt1 lv 4 (.int w6) = lvz1 at g0_z1 g1_z1 g2_z1 g3_z1 g4_z1 ⊢
          refine ye_aload rfl g0_z1 ?_
          refine ye_iload rfl g1_z1 ?_
          refine ye_p rfl rfl ?_
          refine ye_p rfl rfl ?_
          refine ye_iload rfl g4_z1 ?_
          refine ye_p rfl rfl ?_
          refine ye_p rfl rfl ?_
          refine ye_iload rfl g2_z1 ?_
          obtain ⟨w7, S2, hw7, h⟩ := bS_some h
          obtain ⟨y2, cy2, M2⟩ := (m_X12_plane2 (d := d + 2) (T := T) N S1 l1 (15 + (2 * w6)) l2 a0 fa0 hw7) y1 sz M1
          refine ye_callV (As := [.int l1, .int (15 + (2 * w6)), .int l2]) (rest := []) 0 (Or.inl rfl) rfl rfl rfl (Nat.le_of_ble_eq_true rfl) (M1.obj fa0 ⟨rfl, rfl⟩) cy2 ?_
          refine ye_aload rfl g0_z1 ?_
          refine ye_iload rfl g1_z1 ?_
          refine ye_p rfl rfl ?_
          refine ye_p rfl rfl ?_
          refine ye_iload rfl g4_z1 ?_
          refine ye_p rfl rfl ?_
          refine ye_p rfl rfl ?_
          refine ye_p rfl rfl ?_
          refine ye_p rfl rfl ?_
          refine ye_iload rfl g3_z1 ?_
          obtain ⟨w8, S3, hw8, h⟩ := bS_some h
          obtain ⟨y3, cy3, M3⟩ := (m_X12_plane2 (d := d + 2) (T := T) N S2 l1 ((15 + (2 * w6)) + 1) l3 a0 fa0 hw8) y2 sz M2
          refine ye_callV (As := [.int l1, .int ((15 + (2 * w6)) + 1), .int l3]) (rest := []) 0 (Or.inl rfl) rfl rfl rfl (Nat.le_of_ble_eq_true rfl) (M2.obj fa0 ⟨rfl, rfl⟩) cy3 ?_
          refine ye_aload rfl g0_z1 ?_
          refine ye_iload rfl g1_z1 ?_
          refine ye_p rfl rfl ?_
          refine ye_iload rfl g4_z1 ?_
          refine ye_p rfl rfl ?_
          refine ye_p rfl rfl ?_
          obtain ⟨w9, S4, hw9, h⟩ := bS_some h
          obtain ⟨y4, cy4, M4⟩ := (m_X12_plane2 (d := d + 2) (T := T) N S3 l1 14 (w6 + 1) a0 fa0 hw9) y3 sz M3
          refine ye_callV (As := [.int l1, .int 14, .int (w6 + 1)]) (rest := []) 0 (Or.inl rfl) rfl rfl rfl (Nat.le_of_ble_eq_true rfl) (M3.obj fa0 ⟨rfl, rfl⟩) cy4 ?_
          refine ye_iload rfl g4_z1 ?_
          refine ye_p rfl rfl ?_
          refine ye_p rfl rfl ?_
          exact ye_ret rfl rfl (rQ h M4)
        · replace h := yiN h4 h
          exact w_X12_look_49 (prim := prim) (d := d) N S1 y1 lv M1 h
def f_X12_look (N : Nat) (S : yS) (xl1 : Int32) (xl2 : Int32) (xl3 : Int32) : Option (Int32 × yS) := f_X12_look_0 N S xl1 xl2 xl3
theorem m_X12_look {F : xH} {ev : xEv} {prim : xRel} {d : Nat} {T : yT} {v : Int32} {S' : yS} (N : Nat) (S : yS) (xl1 : Int32) (xl2 : Int32) (xl3 : Int32) (a0 : Nat) (fa0 : yAt T 12 8 0 a0) (h : f_X12_look N S xl1 xl2 xl3 = some (v, S')) : ykQ [8] F ev prim (d + 4) 280 T S [.ref a0, .int xl1, .int xl2, .int xl3] (some (.int v)) S' :=
  ykQ.of (pg_280 ev) mi_280 (Nat.le_of_ble_eq_true rfl) (fun hp sz hM => w_X12_look_0 (prim := prim) (d := d) N S xl1 xl2 xl3 hp _ a0 fa0 rfl rfl rfl rfl hM h)

def f_X12_share_99 (N : Nat) (k16 : yS → Int32 → Int32 → Int32 → Int32 → Int32 → Int32 → Option Int64) (S : yS) (l1 : Int32) (l2 : Int32) (l3 : Int32) (l4 : Int32) (l5 : Int32) (l6 : Int32) : Option Int64 := k16 S l1 l2 l3 l4 l5 (l6 + 1)
set_option maxHeartbeats 4000000 in
set_option maxRecDepth 40000 in
theorem w_X12_share_99 {F : xH} {ev : xEv} {prim : xRel} {d sz : Nat} {T : yT} {v : Int64} {hp : xH} (N : Nat) (k16 : yS → Int32 → Int32 → Int32 → Int32 → Int32 → Int32 → Option Int64) (u16 : ∀ (S : yS) (l1 : Int32) (l2 : Int32) (l3 : Int32) (l4 : Int32) (l5 : Int32) (l6 : Int32) (lv : xLv) (a0 : Nat) (fa0 : yAt T 12 8 0 a0) (g0 : xG lv 0 = some (.ref a0)) (g1 : xG lv 1 = some (.int l1)) (g2 : xG lv 2 = some (.int l2)) (g3 : xG lv 3 = some (.int l3)) (g4 : xG lv 4 = some (.int l4)) (g5 : xG lv 5 = some (.int l5)) (g6 : xG lv 6 = some (.int l6)) (hM : cR [8] F ev T S hp) (h : k16 S l1 l2 l3 l4 l5 l6 = some v), yWE ev.2.1 (xstr ev) (xCalls ev xmi (xprog ev) prim (d + 1)) (pX12_share ev) (16, lv, [], hp, sz, 0) (ypP hp sz (.long v))) (S : yS) (l1 : Int32) (l2 : Int32) (l3 : Int32) (l4 : Int32) (l5 : Int32) (l6 : Int32) (lv : xLv) (a0 : Nat) (fa0 : yAt T 12 8 0 a0) (g0 : xG lv 0 = some (.ref a0)) (g1 : xG lv 1 = some (.int l1)) (g2 : xG lv 2 = some (.int l2)) (g3 : xG lv 3 = some (.int l3)) (g4 : xG lv 4 = some (.int l4)) (g5 : xG lv 5 = some (.int l5)) (g6 : xG lv 6 = some (.int l6)) (hM : cR [8] F ev T S hp) (h : f_X12_share_99 N k16 S l1 l2 l3 l4 l5 l6 = some v) : yWE ev.2.1 (xstr ev) (xCalls ev xmi (xprog ev) prim (d + 1)) (pX12_share ev) (99, lv, [], hp, sz, 0) (ypP hp sz (.long v)) := by
  unfold f_X12_share_99 at h
  refine ye_iinc rfl g6 ?_
  have g0_z1 := xG_o1 (i := 6) (v := .int (l6 + 1)) g0 rfl
  have g1_z1 := xG_o1 (i := 6) (v := .int (l6 + 1)) g1 rfl
  have g2_z1 := xG_o1 (i := 6) (v := .int (l6 + 1)) g2 rfl
  have g3_z1 := xG_o1 (i := 6) (v := .int (l6 + 1)) g3 rfl
  have g4_z1 := xG_o1 (i := 6) (v := .int (l6 + 1)) g4 rfl
  have g5_z1 := xG_o1 (i := 6) (v := .int (l6 + 1)) g5 rfl
  have g6_z1 := xG_same lv 6 (.int (l6 + 1))
  generalize xSt1 lv 6 (.int (l6 + 1)) = lvz1 at g0_z1 g1_z1 g2_z1 g3_z1 g4_z1 g5_z1 g6_z1 ⊢
  refine ye_p rfl rfl ?_
  exact u16 S l1 l2 l3 l4 l5 (l6 + 1) lvz1 a0 fa0 g0_z1 g1_z1 g2_z1 g3_z1 g4_z1 g5_z1 g6_z1 hM h

def f_X12_share_85 (N : Nat) (k16 : yS → Int32 → Int32 → Int32 → Int32 → Int32 → Int32 → Option Int64) (S : yS) (l1 : Int32) (l2 : Int32) (l3 : Int32) (l4 : Int32) (l5 : Int32) (l6 : Int32) (t0 : Int32) : Option Int64 := if ¬ (t0 / 10) = l2 then f_X12_share_99 N k16 S l1 l2 l3 l4 l5 l6 else f_X12_share_99 N k16 S l1 l2 l3 l4 (l5 + 1) l6
set_option maxHeartbeats 4000000 in
set_option maxRecDepth 40000 in
theorem w_X12_share_85 {F : xH} {ev : xEv} {prim : xRel} {d sz : Nat} {T : yT} {v : Int64} {hp : xH} (N : Nat) (k16 : yS → Int32 → Int32 → Int32 → Int32 → Int32 → Int32 → Option Int64) (u16 : ∀ (S : yS) (l1 : Int32) (l2 : Int32) (l3 : Int32) (l4 : Int32) (l5 : Int32) (l6 : Int32) (lv : xLv) (a0 : Nat) (fa0 : yAt T 12 8 0 a0) (g0 : xG lv 0 = some (.ref a0)) (g1 : xG lv 1 = some (.int l1)) (g2 : xG lv 2 = some (.int l2)) (g3 : xG lv 3 = some (.int l3)) (g4 : xG lv 4 = some (.int l4)) (g5 : xG lv 5 = some (.int l5)) (g6 : xG lv 6 = some (.int l6)) (hM : cR [8] F ev T S hp) (h : k16 S l1 l2 l3 l4 l5 l6 = some v), yWE ev.2.1 (xstr ev) (xCalls ev xmi (xprog ev) prim (d + 1)) (pX12_share ev) (16, lv, [], hp, sz, 0) (ypP hp sz (.long v))) (S : yS) (l1 : Int32) (l2 : Int32) (l3 : Int32) (l4 : Int32) (l5 : Int32) (l6 : Int32) (t0 : Int32) (lv : xLv) (a0 : Nat) (fa0 : yAt T 12 8 0 a0) (g0 : xG lv 0 = some (.ref a0)) (g1 : xG lv 1 = some (.int l1)) (g2 : xG lv 2 = some (.int l2)) (g3 : xG lv 3 = some (.int l3)) (g4 : xG lv 4 = some (.int l4)) (g5 : xG lv 5 = some (.int l5)) (g6 : xG lv 6 = some (.int l6)) (hM : cR [8] F ev T S hp) (h : f_X12_share_85 N k16 S l1 l2 l3 l4 l5 l6 t0 = some v) : yWE ev.2.1 (xstr ev) (xCalls ev xmi (xprog ev) prim (d + 1)) (pX12_share ev) (85, lv, [.int t0], hp, sz, 0) (ypP hp sz (.long v)) := by
  unfold f_X12_share_85 at h
  refine ye_p rfl rfl ?_
  have g0_z1 := xG_o1 (i := 8) (v := .int t0) g0 rfl
  have g1_z1 := xG_o1 (i := 8) (v := .int t0) g1 rfl
  have g2_z1 := xG_o1 (i := 8) (v := .int t0) g2 rfl
  have g3_z1 := xG_o1 (i := 8) (v := .int t0) g3 rfl
  have g4_z1 := xG_o1 (i := 8) (v := .int t0) g4 rfl
  have g5_z1 := xG_o1 (i := 8) (v := .int t0) g5 rfl
  have g6_z1 := xG_o1 (i := 8) (v := .int t0) g6 rfl
  have g8_z1 := xG_same lv 8 (.int t0)
  generalize xSt1 lv 8 (.int t0) = lvz1 at g0_z1 g1_z1 g2_z1 g3_z1 g4_z1 g5_z1 g6_z1 g8_z1 ⊢
  refine ye_iload rfl g8_z1 ?_
  refine ye_p rfl rfl ?_
  refine ye_div rfl (by decide) ?_
  refine ye_iload rfl g2_z1 ?_
  refine ye_icmp_ne rfl (fun h1 => ?_) (fun h1 => ?_)
  · replace h := yiT h1 h
    exact w_X12_share_99 (prim := prim) (d := d) N k16 u16 S l1 l2 l3 l4 l5 l6 lvz1 a0 fa0 g0_z1 g1_z1 g2_z1 g3_z1 g4_z1 g5_z1 g6_z1 hM h
  · replace h := yiN h1 h
    refine ye_iinc rfl g5_z1 ?_
    have g0_z2 := xG_o1 (i := 5) (v := .int (l5 + 1)) g0_z1 rfl
    have g1_z2 := xG_o1 (i := 5) (v := .int (l5 + 1)) g1_z1 rfl
    have g2_z2 := xG_o1 (i := 5) (v := .int (l5 + 1)) g2_z1 rfl
    have g3_z2 := xG_o1 (i := 5) (v := .int (l5 + 1)) g3_z1 rfl
    have g4_z2 := xG_o1 (i := 5) (v := .int (l5 + 1)) g4_z1 rfl
    have g6_z2 := xG_o1 (i := 5) (v := .int (l5 + 1)) g6_z1 rfl
    have g5_z2 := xG_same lvz1 5 (.int (l5 + 1))
    generalize xSt1 lvz1 5 (.int (l5 + 1)) = lvz2 at g0_z2 g1_z2 g2_z2 g3_z2 g4_z2 g6_z2 g5_z2 ⊢
    exact w_X12_share_99 (prim := prim) (d := d) N k16 u16 S l1 l2 l3 l4 (l5 + 1) l6 lvz2 a0 fa0 g0_z2 g1_z2 g2_z2 g3_z2 g4_z2 g5_z2 g6_z2 hM h

def f_X12_share_176 (N : Nat) (k122 : yS → Int32 → Int32 → Int64 → Int32 → Option Int64) (S : yS) (l1 : Int32) (l2 : Int32) (l8 : Int32) (t0 : Int64) (t1 : Int64) : Option Int64 := k122 S l1 l2 (t0 * t1) (l8 + 1)
set_option maxHeartbeats 4000000 in
set_option maxRecDepth 40000 in
theorem w_X12_share_176 {F : xH} {ev : xEv} {prim : xRel} {d sz : Nat} {T : yT} {v : Int64} {hp : xH} (N : Nat) (k122 : yS → Int32 → Int32 → Int64 → Int32 → Option Int64) (u122 : ∀ (S : yS) (l1 : Int32) (l2 : Int32) (l6 : Int64) (l8 : Int32) (lv : xLv) (a0 : Nat) (fa0 : yAt T 12 8 0 a0) (g0 : xG lv 0 = some (.ref a0)) (g1 : xG lv 1 = some (.int l1)) (g2 : xG lv 2 = some (.int l2)) (g6 : xG lv 6 = some (.long l6)) (g8 : xG lv 8 = some (.int l8)) (hM : cR [8] F ev T S hp) (h : k122 S l1 l2 l6 l8 = some v), yWE ev.2.1 (xstr ev) (xCalls ev xmi (xprog ev) prim (d + 1)) (pX12_share ev) (122, lv, [], hp, sz, 0) (ypP hp sz (.long v))) (S : yS) (l1 : Int32) (l2 : Int32) (l8 : Int32) (t0 : Int64) (t1 : Int64) (lv : xLv) (a0 : Nat) (fa0 : yAt T 12 8 0 a0) (g0 : xG lv 0 = some (.ref a0)) (g1 : xG lv 1 = some (.int l1)) (g2 : xG lv 2 = some (.int l2)) (g8 : xG lv 8 = some (.int l8)) (hM : cR [8] F ev T S hp) (h : f_X12_share_176 N k122 S l1 l2 l8 t0 t1 = some v) : yWE ev.2.1 (xstr ev) (xCalls ev xmi (xprog ev) prim (d + 1)) (pX12_share ev) (176, lv, [.long t1, .long t0], hp, sz, 0) (ypP hp sz (.long v)) := by
  unfold f_X12_share_176 at h
  refine ye_p rfl rfl ?_
  refine ye_p rfl rfl ?_
  have g0_z1 := xG_o2 (i := 6) (v := .long (t0 * t1)) g0 rfl
  have g1_z1 := xG_o2 (i := 6) (v := .long (t0 * t1)) g1 rfl
  have g2_z1 := xG_o2 (i := 6) (v := .long (t0 * t1)) g2 rfl
  have g8_z1 := xG_o2 (i := 6) (v := .long (t0 * t1)) g8 rfl
  have g6_z1 := xG_same2 lv 6 (.long (t0 * t1))
  generalize xSt2 lv 6 (.long (t0 * t1)) = lvz1 at g0_z1 g1_z1 g2_z1 g8_z1 g6_z1 ⊢
  refine ye_iinc rfl g8_z1 ?_
  have g0_z2 := xG_o1 (i := 8) (v := .int (l8 + 1)) g0_z1 rfl
  have g1_z2 := xG_o1 (i := 8) (v := .int (l8 + 1)) g1_z1 rfl
  have g2_z2 := xG_o1 (i := 8) (v := .int (l8 + 1)) g2_z1 rfl
  have g6_z2 := xG_o1 (i := 8) (v := .int (l8 + 1)) g6_z1 rfl
  have g8_z2 := xG_same lvz1 8 (.int (l8 + 1))
  generalize xSt1 lvz1 8 (.int (l8 + 1)) = lvz2 at g0_z2 g1_z2 g2_z2 g6_z2 g8_z2 ⊢
  refine ye_p rfl rfl ?_
  exact u122 S l1 l2 (t0 * t1) (l8 + 1) lvz2 a0 fa0 g0_z2 g1_z2 g2_z2 g6_z2 g8_z2 hM h

def f_X12_share_122 : Nat → Nat → yS → Int32 → Int32 → Int64 → Int32 → Option Int64
  | 0, _, _, _, _, _, _ => none
  | n + 1, N, S, l1, l2, l6, l8 => bV (f_X12_plane N S l1 14) fun w1 => if w1 ≤ l8 then some l6 else bV (f_X12_plane N S l1 (15 + (2 * l8))) fun w2 => if ¬ w2 = l2 then f_X12_share_176 N (fun S l1 l2 l6 l8 => f_X12_share_122 n N S l1 l2 l6 l8) S l1 l2 l8 l6 100 else bV (f_X12_plane N S l1 ((15 + (2 * l8)) + 1)) fun w3 => f_X12_share_176 N (fun S l1 l2 l6 l8 => f_X12_share_122 n N S l1 l2 l6 l8) S l1 l2 l8 l6 ((100 - w3).toInt64)
set_option maxHeartbeats 4000000 in
set_option maxRecDepth 40000 in
theorem w_X12_share_122 {F : xH} {ev : xEv} {prim : xRel} {d sz : Nat} {T : yT} {v : Int64} {hp : xH} (N : Nat) (n : Nat) : ∀ (S : yS) (l1 : Int32) (l2 : Int32) (l6 : Int64) (l8 : Int32) (lv : xLv) (a0 : Nat) (fa0 : yAt T 12 8 0 a0) (g0 : xG lv 0 = some (.ref a0)) (g1 : xG lv 1 = some (.int l1)) (g2 : xG lv 2 = some (.int l2)) (g6 : xG lv 6 = some (.long l6)) (g8 : xG lv 8 = some (.int l8)) (hM : cR [8] F ev T S hp) (h : f_X12_share_122 n N S l1 l2 l6 l8 = some v), yWE ev.2.1 (xstr ev) (xCalls ev xmi (xprog ev) prim (d + 1)) (pX12_share ev) (122, lv, [], hp, sz, 0) (ypP hp sz (.long v)) := by
  induction n with
  | zero => intro S l1 l2 l6 l8 lv a0 fa0 g0 g1 g2 g6 g8 hM h; exact n_some h
  | succ n ih =>
    intro S l1 l2 l6 l8 lv a0 fa0 g0 g1 g2 g6 g8 hM h
    unfold f_X12_share_122 at h
    refine ye_iload rfl g8 ?_
    refine ye_aload rfl g0 ?_
    refine ye_iload rfl g1 ?_
    refine ye_p rfl rfl ?_
    obtain ⟨w1, hw1, h⟩ := bV_some h
    refine ye_callV (As := [.int l1, .int 14]) (rest := [.int l8]) 0 (Or.inl rfl) rfl rfl rfl (Nat.le_of_ble_eq_true rfl) (hM.obj fa0 ⟨rfl, rfl⟩) ((m_X12_plane (d := d + 0) (T := T) N S l1 14 a0 fa0 hw1) hp sz hM) ?_
    refine ye_icmp_ge rfl (fun h1 => ?_) (fun h1 => ?_)
    · replace h := yiT h1 h
      refine ye_lload rfl g6 ?_
      exact ye_ret rfl rfl (rPJ h)
    · replace h := yiN h1 h
      refine ye_lload rfl g6 ?_
      refine ye_aload rfl g0 ?_
      refine ye_iload rfl g1 ?_
      refine ye_p rfl rfl ?_
      refine ye_p rfl rfl ?_
      refine ye_iload rfl g8 ?_
      refine ye_p rfl rfl ?_
      refine ye_p rfl rfl ?_
      obtain ⟨w2, hw2, h⟩ := bV_some h
      refine ye_callV (As := [.int l1, .int (15 + (2 * l8))]) (rest := [.long l6]) 0 (Or.inl rfl) rfl rfl rfl (Nat.le_of_ble_eq_true rfl) (hM.obj fa0 ⟨rfl, rfl⟩) ((m_X12_plane (d := d + 0) (T := T) N S l1 (15 + (2 * l8)) a0 fa0 hw2) hp sz hM) ?_
      refine ye_iload rfl g2 ?_
      refine ye_icmp_ne rfl (fun h2 => ?_) (fun h2 => ?_)
      · replace h := yiT h2 h
        refine ye_p rfl rfl ?_
        exact w_X12_share_176 (prim := prim) (d := d) N (fun S l1 l2 l6 l8 => f_X12_share_122 n N S l1 l2 l6 l8) ih S l1 l2 l8 l6 100 lv a0 fa0 g0 g1 g2 g8 hM h
      · replace h := yiN h2 h
        refine ye_p rfl rfl ?_
        refine ye_aload rfl g0 ?_
        refine ye_iload rfl g1 ?_
        refine ye_p rfl rfl ?_
        refine ye_p rfl rfl ?_
        refine ye_iload rfl g8 ?_
        refine ye_p rfl rfl ?_
        refine ye_p rfl rfl ?_
        refine ye_p rfl rfl ?_
        refine ye_p rfl rfl ?_
        obtain ⟨w3, hw3, h⟩ := bV_some h
        refine ye_callV (As := [.int l1, .int ((15 + (2 * l8)) + 1)]) (rest := [.int 100, .long l6]) 0 (Or.inl rfl) rfl rfl rfl (Nat.le_of_ble_eq_true rfl) (hM.obj fa0 ⟨rfl, rfl⟩) ((m_X12_plane (d := d + 0) (T := T) N S l1 ((15 + (2 * l8)) + 1) a0 fa0 hw3) hp sz hM) ?_
        refine ye_p rfl rfl ?_
        refine ye_p rfl rfl ?_
        refine ye_p rfl rfl ?_
        exact w_X12_share_176 (prim := prim) (d := d) N (fun S l1 l2 l6 l8 => f_X12_share_122 n N S l1 l2 l6 l8) ih S l1 l2 l8 l6 ((100 - w3).toInt64) lv a0 fa0 g0 g1 g2 g8 hM h

def f_X12_share_117 (N : Nat) (S : yS) (l1 : Int32) (l2 : Int32) (t0 : Int64) : Option Int64 := f_X12_share_122 N N S l1 l2 t0 0
set_option maxHeartbeats 4000000 in
set_option maxRecDepth 40000 in
theorem w_X12_share_117 {F : xH} {ev : xEv} {prim : xRel} {d sz : Nat} {T : yT} {v : Int64} {hp : xH} (N : Nat) (S : yS) (l1 : Int32) (l2 : Int32) (t0 : Int64) (lv : xLv) (a0 : Nat) (fa0 : yAt T 12 8 0 a0) (g0 : xG lv 0 = some (.ref a0)) (g1 : xG lv 1 = some (.int l1)) (g2 : xG lv 2 = some (.int l2)) (hM : cR [8] F ev T S hp) (h : f_X12_share_117 N S l1 l2 t0 = some v) : yWE ev.2.1 (xstr ev) (xCalls ev xmi (xprog ev) prim (d + 1)) (pX12_share ev) (117, lv, [.long t0], hp, sz, 0) (ypP hp sz (.long v)) := by
  unfold f_X12_share_117 at h
  refine ye_p rfl rfl ?_
  have g0_z1 := xG_o2 (i := 6) (v := .long t0) g0 rfl
  have g1_z1 := xG_o2 (i := 6) (v := .long t0) g1 rfl
  have g2_z1 := xG_o2 (i := 6) (v := .long t0) g2 rfl
  have g6_z1 := xG_same2 lv 6 (.long t0)
  generalize xSt2 lv 6 (.long t0) = lvz1 at g0_z1 g1_z1 g2_z1 g6_z1 ⊢
  refine ye_p rfl rfl ?_
  refine ye_p rfl rfl ?_
  have g0_z2 := xG_o1 (i := 8) (v := .int 0) g0_z1 rfl
  have g1_z2 := xG_o1 (i := 8) (v := .int 0) g1_z1 rfl
  have g2_z2 := xG_o1 (i := 8) (v := .int 0) g2_z1 rfl
  have g6_z2 := xG_o1 (i := 8) (v := .int 0) g6_z1 rfl
  have g8_z2 := xG_same lvz1 8 (.int 0)
  generalize xSt1 lvz1 8 (.int 0) = lvz2 at g0_z2 g1_z2 g2_z2 g6_z2 g8_z2 ⊢
  exact w_X12_share_122 (prim := prim) (d := d) N N S l1 l2 t0 0 lvz2 a0 fa0 g0_z2 g1_z2 g2_z2 g6_z2 g8_z2 hM h

def f_X12_share_105 (N : Nat) (S : yS) (l1 : Int32) (l2 : Int32) (l4 : Int32) (l5 : Int32) : Option Int64 := if ¬ l4 = 0 then f_X12_share_117 N S l1 l2 l5.toInt64 else f_X12_share_117 N S l1 l2 1
set_option maxHeartbeats 4000000 in
set_option maxRecDepth 40000 in
theorem w_X12_share_105 {F : xH} {ev : xEv} {prim : xRel} {d sz : Nat} {T : yT} {v : Int64} {hp : xH} (N : Nat) (S : yS) (l1 : Int32) (l2 : Int32) (l4 : Int32) (l5 : Int32) (lv : xLv) (a0 : Nat) (fa0 : yAt T 12 8 0 a0) (g0 : xG lv 0 = some (.ref a0)) (g1 : xG lv 1 = some (.int l1)) (g2 : xG lv 2 = some (.int l2)) (g4 : xG lv 4 = some (.int l4)) (g5 : xG lv 5 = some (.int l5)) (hM : cR [8] F ev T S hp) (h : f_X12_share_105 N S l1 l2 l4 l5 = some v) : yWE ev.2.1 (xstr ev) (xCalls ev xmi (xprog ev) prim (d + 1)) (pX12_share ev) (105, lv, [], hp, sz, 0) (ypP hp sz (.long v)) := by
  unfold f_X12_share_105 at h
  refine ye_iload rfl g4 ?_
  refine ye_if_ne rfl (fun h1 => ?_) (fun h1 => ?_)
  · replace h := yiT h1 h
    refine ye_iload rfl g5 ?_
    refine ye_p rfl rfl ?_
    exact w_X12_share_117 (prim := prim) (d := d) N S l1 l2 l5.toInt64 lv a0 fa0 g0 g1 g2 hM h
  · replace h := yiN h1 h
    refine ye_p rfl rfl ?_
    refine ye_p rfl rfl ?_
    exact w_X12_share_117 (prim := prim) (d := d) N S l1 l2 1 lv a0 fa0 g0 g1 g2 hM h

def f_X12_share_16 : Nat → Nat → yS → Int32 → Int32 → Int32 → Int32 → Int32 → Int32 → Option Int64
  | 0, _, _, _, _, _, _, _, _ => none
  | n + 1, N, S, l1, l2, l3, l4, l5, l6 => gA 8 l1 fun j1 => if (S.2.1 8 19 j1) < l6 then f_X12_share_105 N S l1 l2 l4 l5 else gA 8 l1 fun j2 => gA 12 l3 fun j3 => if ((S.2.1 8 16 j2) * l6) < (S.2.1 8 4 j3) then bV (f_X12_plane N S l1 13) fun w1 => gA 12 l3 fun j4 => if ¬ w1 = (S.2.1 8 2 j4) then gA 12 l3 fun j5 => f_X12_share_85 N (fun S l1 l2 l3 l4 l5 l6 => f_X12_share_16 n N S l1 l2 l3 l4 l5 l6) S l1 l2 l3 (l4 + 1) l5 l6 ((S.2.1 8 4 j5) - ((S.2.1 8 16 j2) * l6)) else f_X12_share_85 N (fun S l1 l2 l3 l4 l5 l6 => f_X12_share_16 n N S l1 l2 l3 l4 l5 l6) S l1 l2 l3 (l4 + 1) l5 l6 ((S.2.1 8 16 j2) * l6) else f_X12_share_105 N S l1 l2 l4 l5
set_option maxHeartbeats 4000000 in
set_option maxRecDepth 40000 in
theorem w_X12_share_16 {F : xH} {ev : xEv} {prim : xRel} {d sz : Nat} {T : yT} {v : Int64} {hp : xH} (N : Nat) (n : Nat) : ∀ (S : yS) (l1 : Int32) (l2 : Int32) (l3 : Int32) (l4 : Int32) (l5 : Int32) (l6 : Int32) (lv : xLv) (a0 : Nat) (fa0 : yAt T 12 8 0 a0) (g0 : xG lv 0 = some (.ref a0)) (g1 : xG lv 1 = some (.int l1)) (g2 : xG lv 2 = some (.int l2)) (g3 : xG lv 3 = some (.int l3)) (g4 : xG lv 4 = some (.int l4)) (g5 : xG lv 5 = some (.int l5)) (g6 : xG lv 6 = some (.int l6)) (hM : cR [8] F ev T S hp) (h : f_X12_share_16 n N S l1 l2 l3 l4 l5 l6 = some v), yWE ev.2.1 (xstr ev) (xCalls ev xmi (xprog ev) prim (d + 1)) (pX12_share ev) (16, lv, [], hp, sz, 0) (ypP hp sz (.long v)) := by
  induction n with
  | zero => intro S l1 l2 l3 l4 l5 l6 lv a0 fa0 g0 g1 g2 g3 g4 g5 g6 hM h; exact n_some h
  | succ n ih =>
    intro S l1 l2 l3 l4 l5 l6 lv a0 fa0 g0 g1 g2 g3 g4 g5 g6 hM h
    unfold f_X12_share_16 at h
    refine ye_iload rfl g6 ?_
    refine ye_aload rfl g0 ?_
    refine ye_getr rfl (hM.obj fa0 ⟨rfl, rfl⟩) rfl (fun cx1 ecx1 => ?_)
    have fcx1 := yAt.row fa0 ecx1
    refine ye_iload rfl g1 ?_
    obtain ⟨j1, ej1, ij1, h⟩ := gA_some h
    refine yj_ald rfl (hM.arr fcx1 yr_12_19) ij1 ej1 ?_
    refine ye_icmp_gt rfl (fun h1 => ?_) (fun h1 => ?_)
    · replace h := yiT h1 h
      exact w_X12_share_105 (prim := prim) (d := d) N S l1 l2 l4 l5 lv a0 fa0 g0 g1 g2 g4 g5 hM h
    · replace h := yiN h1 h
      refine ye_aload rfl g0 ?_
      refine ye_getr rfl (hM.obj fa0 ⟨rfl, rfl⟩) rfl (fun cx2 ecx2 => ?_)
      have fcx2 := yAt.row fa0 ecx2
      refine ye_iload rfl g1 ?_
      obtain ⟨j2, ej2, ij2, h⟩ := gA_some h
      refine yj_ald rfl (hM.arr fcx2 yr_12_16) ij2 ej2 ?_
      refine ye_iload rfl g6 ?_
      refine ye_p rfl rfl ?_
      refine ye_p rfl rfl ?_
      have g0_z1 := xG_o1 (i := 7) (v := .int ((S.2.1 8 16 j2) * l6)) g0 rfl
      have g1_z1 := xG_o1 (i := 7) (v := .int ((S.2.1 8 16 j2) * l6)) g1 rfl
      have g2_z1 := xG_o1 (i := 7) (v := .int ((S.2.1 8 16 j2) * l6)) g2 rfl
      have g3_z1 := xG_o1 (i := 7) (v := .int ((S.2.1 8 16 j2) * l6)) g3 rfl
      have g4_z1 := xG_o1 (i := 7) (v := .int ((S.2.1 8 16 j2) * l6)) g4 rfl
      have g5_z1 := xG_o1 (i := 7) (v := .int ((S.2.1 8 16 j2) * l6)) g5 rfl
      have g6_z1 := xG_o1 (i := 7) (v := .int ((S.2.1 8 16 j2) * l6)) g6 rfl
      have g7_z1 := xG_same lv 7 (.int ((S.2.1 8 16 j2) * l6))
      generalize xSt1 lv 7 (.int ((S.2.1 8 16 j2) * l6)) = lvz1 at g0_z1 g1_z1 g2_z1 g3_z1 g4_z1 g5_z1 g6_z1 g7_z1 ⊢
      refine ye_iload rfl g7_z1 ?_
      refine ye_aload rfl g0_z1 ?_
      refine ye_getr rfl (hM.obj fa0 ⟨rfl, rfl⟩) rfl (fun cx3 ecx3 => ?_)
      have fcx3 := yAt.row fa0 ecx3
      refine ye_iload rfl g3_z1 ?_
      obtain ⟨j3, ej3, ij3, h⟩ := gA_some h
      refine yj_ald rfl (hM.arr fcx3 yr_12_4) ij3 ej3 ?_
      refine ye_icmp_lt rfl (fun h2 => ?_) (fun h2 => ?_)
      · replace h := yiT h2 h
        refine ye_iinc rfl g4_z1 ?_
        have g0_z2 := xG_o1 (i := 4) (v := .int (l4 + 1)) g0_z1 rfl
        have g1_z2 := xG_o1 (i := 4) (v := .int (l4 + 1)) g1_z1 rfl
        have g2_z2 := xG_o1 (i := 4) (v := .int (l4 + 1)) g2_z1 rfl
        have g3_z2 := xG_o1 (i := 4) (v := .int (l4 + 1)) g3_z1 rfl
        have g5_z2 := xG_o1 (i := 4) (v := .int (l4 + 1)) g5_z1 rfl
        have g6_z2 := xG_o1 (i := 4) (v := .int (l4 + 1)) g6_z1 rfl
        have g7_z2 := xG_o1 (i := 4) (v := .int (l4 + 1)) g7_z1 rfl
        have g4_z2 := xG_same lvz1 4 (.int (l4 + 1))
        generalize xSt1 lvz1 4 (.int (l4 + 1)) = lvz2 at g0_z2 g1_z2 g2_z2 g3_z2 g5_z2 g6_z2 g7_z2 g4_z2 ⊢
        refine ye_aload rfl g0_z2 ?_
        refine ye_iload rfl g1_z2 ?_
        refine ye_p rfl rfl ?_
        obtain ⟨w1, hw1, h⟩ := bV_some h
        refine ye_callV (As := [.int l1, .int 13]) (rest := []) 0 (Or.inl rfl) rfl rfl rfl (Nat.le_of_ble_eq_true rfl) (hM.obj fa0 ⟨rfl, rfl⟩) ((m_X12_plane (d := d + 0) (T := T) N S l1 13 a0 fa0 hw1) hp sz hM) ?_
        refine ye_aload rfl g0_z2 ?_
        refine ye_getr rfl (hM.obj fa0 ⟨rfl, rfl⟩) rfl (fun cx4 ecx4 => ?_)
        have fcx4 := yAt.row fa0 ecx4
        refine ye_iload rfl g3_z2 ?_
        obtain ⟨j4, ej4, ij4, h⟩ := gA_some h
        refine yj_ald rfl (hM.arr fcx4 yr_12_2) ij4 ej4 ?_
        refine ye_icmp_ne rfl (fun h3 => ?_) (fun h3 => ?_)
        · replace h := yiT h3 h
          refine ye_aload rfl g0_z2 ?_
          refine ye_getr rfl (hM.obj fa0 ⟨rfl, rfl⟩) rfl (fun cx5 ecx5 => ?_)
          have fcx5 := yAt.row fa0 ecx5
          refine ye_iload rfl g3_z2 ?_
          obtain ⟨j5, ej5, ij5, h⟩ := gA_some h
          refine yj_ald rfl (hM.arr fcx5 yr_12_4) ij5 ej5 ?_
          refine ye_iload rfl g7_z2 ?_
          refine ye_p rfl rfl ?_
          exact w_X12_share_85 (prim := prim) (d := d) N (fun S l1 l2 l3 l4 l5 l6 => f_X12_share_16 n N S l1 l2 l3 l4 l5 l6) ih S l1 l2 l3 (l4 + 1) l5 l6 ((S.2.1 8 4 j5) - ((S.2.1 8 16 j2) * l6)) lvz2 a0 fa0 g0_z2 g1_z2 g2_z2 g3_z2 g4_z2 g5_z2 g6_z2 hM h
        · replace h := yiN h3 h
          refine ye_iload rfl g7_z2 ?_
          refine ye_p rfl rfl ?_
          exact w_X12_share_85 (prim := prim) (d := d) N (fun S l1 l2 l3 l4 l5 l6 => f_X12_share_16 n N S l1 l2 l3 l4 l5 l6) ih S l1 l2 l3 (l4 + 1) l5 l6 ((S.2.1 8 16 j2) * l6) lvz2 a0 fa0 g0_z2 g1_z2 g2_z2 g3_z2 g4_z2 g5_z2 g6_z2 hM h
      · replace h := yiN h2 h
        refine ye_p rfl rfl ?_
        exact w_X12_share_105 (prim := prim) (d := d) N S l1 l2 l4 l5 lvz1 a0 fa0 g0_z1 g1_z1 g2_z1 g4_z1 g5_z1 hM h

def f_X12_share_0 (N : Nat) (S : yS) (l1 : Int32) (l2 : Int32) : Option Int64 := bV (f_X12_plane N S l1 1) fun w1 => f_X12_share_16 N N S l1 l2 w1 0 0 1
set_option maxHeartbeats 4000000 in
set_option maxRecDepth 40000 in
theorem w_X12_share_0 {F : xH} {ev : xEv} {prim : xRel} {d sz : Nat} {T : yT} {v : Int64} {hp : xH} (N : Nat) (S : yS) (l1 : Int32) (l2 : Int32) (lv : xLv) (a0 : Nat) (fa0 : yAt T 12 8 0 a0) (g0 : xG lv 0 = some (.ref a0)) (g1 : xG lv 1 = some (.int l1)) (g2 : xG lv 2 = some (.int l2)) (hM : cR [8] F ev T S hp) (h : f_X12_share_0 N S l1 l2 = some v) : yWE ev.2.1 (xstr ev) (xCalls ev xmi (xprog ev) prim (d + 1)) (pX12_share ev) (0, lv, [], hp, sz, 0) (ypP hp sz (.long v)) := by
  unfold f_X12_share_0 at h
  refine ye_aload rfl g0 ?_
  refine ye_iload rfl g1 ?_
  refine ye_p rfl rfl ?_
  obtain ⟨w1, hw1, h⟩ := bV_some h
  refine ye_callV (As := [.int l1, .int 1]) (rest := []) 0 (Or.inl rfl) rfl rfl rfl (Nat.le_of_ble_eq_true rfl) (hM.obj fa0 ⟨rfl, rfl⟩) ((m_X12_plane (d := d + 0) (T := T) N S l1 1 a0 fa0 hw1) hp sz hM) ?_
  refine ye_p rfl rfl ?_
  have g0_z1 := xG_o1 (i := 3) (v := .int w1) g0 rfl
  have g1_z1 := xG_o1 (i := 3) (v := .int w1) g1 rfl
  have g2_z1 := xG_o1 (i := 3) (v := .int w1) g2 rfl
  have g3_z1 := xG_same lv 3 (.int w1)
  generalize xSt1 lv 3 (.int w1) = lvz1 at g0_z1 g1_z1 g2_z1 g3_z1 ⊢
  refine ye_p rfl rfl ?_
  refine ye_p rfl rfl ?_
  have g0_z2 := xG_o1 (i := 4) (v := .int 0) g0_z1 rfl
  have g1_z2 := xG_o1 (i := 4) (v := .int 0) g1_z1 rfl
  have g2_z2 := xG_o1 (i := 4) (v := .int 0) g2_z1 rfl
  have g3_z2 := xG_o1 (i := 4) (v := .int 0) g3_z1 rfl
  have g4_z2 := xG_same lvz1 4 (.int 0)
  generalize xSt1 lvz1 4 (.int 0) = lvz2 at g0_z2 g1_z2 g2_z2 g3_z2 g4_z2 ⊢
  refine ye_p rfl rfl ?_
  refine ye_p rfl rfl ?_
  have g0_z3 := xG_o1 (i := 5) (v := .int 0) g0_z2 rfl
  have g1_z3 := xG_o1 (i := 5) (v := .int 0) g1_z2 rfl
  have g2_z3 := xG_o1 (i := 5) (v := .int 0) g2_z2 rfl
  have g3_z3 := xG_o1 (i := 5) (v := .int 0) g3_z2 rfl
  have g4_z3 := xG_o1 (i := 5) (v := .int 0) g4_z2 rfl
  have g5_z3 := xG_same lvz2 5 (.int 0)
  generalize xSt1 lvz2 5 (.int 0) = lvz3 at g0_z3 g1_z3 g2_z3 g3_z3 g4_z3 g5_z3 ⊢
  refine ye_p rfl rfl ?_
  refine ye_p rfl rfl ?_
  have g0_z4 := xG_o1 (i := 6) (v := .int 1) g0_z3 rfl
  have g1_z4 := xG_o1 (i := 6) (v := .int 1) g1_z3 rfl
  have g2_z4 := xG_o1 (i := 6) (v := .int 1) g2_z3 rfl
  have g3_z4 := xG_o1 (i := 6) (v := .int 1) g3_z3 rfl
  have g4_z4 := xG_o1 (i := 6) (v := .int 1) g4_z3 rfl
  have g5_z4 := xG_o1 (i := 6) (v := .int 1) g5_z3 rfl
  have g6_z4 := xG_same lvz3 6 (.int 1)
  generalize xSt1 lvz3 6 (.int 1) = lvz4 at g0_z4 g1_z4 g2_z4 g3_z4 g4_z4 g5_z4 g6_z4 ⊢
  exact w_X12_share_16 (prim := prim) (d := d) N N S l1 l2 w1 0 0 1 lvz4 a0 fa0 g0_z4 g1_z4 g2_z4 g3_z4 g4_z4 g5_z4 g6_z4 hM h
def f_X12_share (N : Nat) (S : yS) (xl1 : Int32) (xl2 : Int32) : Option Int64 := f_X12_share_0 N S xl1 xl2
theorem m_X12_share {F : xH} {ev : xEv} {prim : xRel} {d : Nat} {T : yT} {v : Int64} (N : Nat) (S : yS) (xl1 : Int32) (xl2 : Int32) (a0 : Nat) (fa0 : yAt T 12 8 0 a0) (h : f_X12_share N S xl1 xl2 = some v) : ykP [8] F ev prim (d + 2) 281 T S [.ref a0, .int xl1, .int xl2] (.long v) :=
  ykP.of (pg_281 ev) mi_281 (Nat.le_of_ble_eq_true rfl) (fun hp sz hM => w_X12_share_0 (prim := prim) (d := d) N S xl1 xl2 _ a0 fa0 rfl rfl rfl hM h)

def f_X12_chance_37 (N : Nat) (S : yS) : Option (Int64 × yS) := sq (yI S 8 47 1) fun S1 => some (0, S1)
set_option maxHeartbeats 4000000 in
set_option maxRecDepth 40000 in
theorem w_X12_chance_37 {F : xH} {ev : xEv} {prim : xRel} {d sz : Nat} {T : yT} {v : Int64} {S' : yS} (N : Nat) (S : yS) (hp : xH) (lv : xLv) (a0 : Nat) (fa0 : yAt T 12 8 0 a0) (g0 : xG lv 0 = some (.ref a0)) (hM : cR [8] F ev T S hp) (h : f_X12_chance_37 N S = some (v, S')) : yWE ev.2.1 (xstr ev) (xCalls ev xmi (xprog ev) prim (d + 110)) (pX12_chance ev) (37, lv, [], hp, sz, 0) (ypQ [8] F ev T sz (some (.long v)) S') := by
  unfold f_X12_chance_37 at h
  refine ye_aload rfl g0 ?_
  refine ye_p rfl rfl ?_
  obtain ⟨S1, eS1, h⟩ := sq_some h
  refine yw_putI rfl hM fa0 rfl ⟨rfl, rfl⟩ (Nat.le_of_ble_eq_true rfl) rfl rfl (ys_12_47 ev T _ 1) (fun q => absurd q (by decide)) eS1 (fun y1 M1 => ?_)
  refine ye_p rfl rfl ?_
  exact ye_ret rfl rfl (rQJ h M1)

def f_X12_chance_102 (N : Nat) (S : yS) (t0 : Int64) : Option (Int64 × yS) := some (t0, S)
set_option maxHeartbeats 4000000 in
set_option maxRecDepth 40000 in
theorem w_X12_chance_102 {F : xH} {ev : xEv} {prim : xRel} {d sz : Nat} {T : yT} {v : Int64} {S' : yS} (N : Nat) (S : yS) (t0 : Int64) (hp : xH) (lv : xLv) (hM : cR [8] F ev T S hp) (h : f_X12_chance_102 N S t0 = some (v, S')) : yWE ev.2.1 (xstr ev) (xCalls ev xmi (xprog ev) prim (d + 110)) (pX12_chance ev) (102, lv, [.long t0], hp, sz, 0) (ypQ [8] F ev T sz (some (.long v)) S') := by
  unfold f_X12_chance_102 at h
  exact ye_ret rfl rfl (rQJ h hM)

def f_X12_chance_129 (N : Nat) (S : yS) (t0 : Int64) : Option (Int64 × yS) := some (t0, S)
set_option maxHeartbeats 4000000 in
set_option maxRecDepth 40000 in
theorem w_X12_chance_129 {F : xH} {ev : xEv} {prim : xRel} {d sz : Nat} {T : yT} {v : Int64} {S' : yS} (N : Nat) (S : yS) (t0 : Int64) (hp : xH) (lv : xLv) (hM : cR [8] F ev T S hp) (h : f_X12_chance_129 N S t0 = some (v, S')) : yWE ev.2.1 (xstr ev) (xCalls ev xmi (xprog ev) prim (d + 110)) (pX12_chance ev) (129, lv, [.long t0], hp, sz, 0) (ypQ [8] F ev T sz (some (.long v)) S') := by
  unfold f_X12_chance_129 at h
  exact ye_ret rfl rfl (rQJ h hM)

def f_X12_chance_50 : Nat → Nat → yS → Int32 → Int32 → Int32 → Int64 → Int32 → Option (Int64 × yS)
  | 0, _, _, _, _, _, _, _ => none
  | n + 1, N, S, l1, l2, l3, l4, l6 => bV (f_X12_cells N S l1) fun w1 => if w1 ≤ l6 then bV (f_X12_share N S l1 l2) fun w2 => if ¬ (lg_cmp w2 0) = 0 then bV (f_X12_commonT N S l4 w2) fun w3 => if ¬ l3 = 0 then gP (¬ w3 = 0) (f_X12_chance_129 N S (l4 / w3)) else gP (¬ w3 = 0) (f_X12_chance_129 N S (w2 / w3)) else if ¬ l3 = 0 then f_X12_chance_102 N S 1 else f_X12_chance_102 N S 0 else bV (f_X12_share N S l1 l6) fun w4 => f_X12_chance_50 n N S l1 l2 l3 (l4 + w4) (l6 + 1)
set_option maxHeartbeats 4000000 in
set_option maxRecDepth 40000 in
theorem w_X12_chance_50 {F : xH} {ev : xEv} {prim : xRel} {d sz : Nat} {T : yT} {v : Int64} {S' : yS} (N : Nat) (n : Nat) : ∀ (S : yS) (l1 : Int32) (l2 : Int32) (l3 : Int32) (l4 : Int64) (l6 : Int32) (hp : xH) (lv : xLv) (a0 : Nat) (fa0 : yAt T 12 8 0 a0) (g0 : xG lv 0 = some (.ref a0)) (g1 : xG lv 1 = some (.int l1)) (g2 : xG lv 2 = some (.int l2)) (g3 : xG lv 3 = some (.int l3)) (g4 : xG lv 4 = some (.long l4)) (g6 : xG lv 6 = some (.int l6)) (hM : cR [8] F ev T S hp) (h : f_X12_chance_50 n N S l1 l2 l3 l4 l6 = some (v, S')), yWE ev.2.1 (xstr ev) (xCalls ev xmi (xprog ev) prim (d + 110)) (pX12_chance ev) (50, lv, [], hp, sz, 0) (ypQ [8] F ev T sz (some (.long v)) S') := by
  induction n with
  | zero => intro S l1 l2 l3 l4 l6 hp lv a0 fa0 g0 g1 g2 g3 g4 g6 hM h; exact n_some h
  | succ n ih =>
    intro S l1 l2 l3 l4 l6 hp lv a0 fa0 g0 g1 g2 g3 g4 g6 hM h
    unfold f_X12_chance_50 at h
    refine ye_iload rfl g6 ?_
    refine ye_aload rfl g0 ?_
    refine ye_iload rfl g1 ?_
    obtain ⟨w1, hw1, h⟩ := bV_some h
    refine ye_callV (As := [.int l1]) (rest := [.int l6]) 0 (Or.inl rfl) rfl rfl rfl (Nat.le_of_ble_eq_true rfl) (hM.obj fa0 ⟨rfl, rfl⟩) ((m_X12_cells (d := d + 108) (T := T) N S l1 a0 fa0 hw1) hp sz hM) ?_
    refine ye_icmp_ge rfl (fun h1 => ?_) (fun h1 => ?_)
    · replace h := yiT h1 h
      refine ye_aload rfl g0 ?_
      refine ye_iload rfl g1 ?_
      refine ye_iload rfl g2 ?_
      obtain ⟨w2, hw2, h⟩ := bV_some h
      refine ye_callV (As := [.int l1, .int l2]) (rest := []) 0 (Or.inl rfl) rfl rfl rfl (Nat.le_of_ble_eq_true rfl) (hM.obj fa0 ⟨rfl, rfl⟩) ((m_X12_share (d := d + 108) (T := T) N S l1 l2 a0 fa0 hw2) hp sz hM) ?_
      refine ye_p rfl rfl ?_
      have g3_z1 := xG_o2 (i := 6) (v := .long w2) g3 rfl
      have g4_z1 := xG_o2 (i := 6) (v := .long w2) g4 rfl
      have g6_z1 := xG_same2 lv 6 (.long w2)
      generalize xSt2 lv 6 (.long w2) = lvz1 at g3_z1 g4_z1 g6_z1 ⊢
      refine ye_lload rfl g6_z1 ?_
      refine ye_p rfl rfl ?_
      refine ye_p rfl rfl ?_
      refine ye_if_ne rfl (fun h2 => ?_) (fun h2 => ?_)
      · replace h := yiT h2 h
        refine ye_lload rfl g4_z1 ?_
        refine ye_lload rfl g6_z1 ?_
        obtain ⟨w3, hw3, h⟩ := bV_some h
        refine ye_callS (As := [.long l4, .long w2]) (rest := []) 1 (Or.inl rfl) rfl rfl rfl (Nat.le_of_ble_eq_true rfl) ((m_X12_commonT (d := d + 0) (T := T) N S l4 w2 hw3) hp sz hM) ?_
        refine ye_p rfl rfl ?_
        have g3_z2 := xG_o2 (i := 8) (v := .long w3) g3_z1 rfl
        have g4_z2 := xG_o2 (i := 8) (v := .long w3) g4_z1 rfl
        have g6_z2 := xG_o2 (i := 8) (v := .long w3) g6_z1 rfl
        have g8_z2 := xG_same2 lvz1 8 (.long w3)
        generalize xSt2 lvz1 8 (.long w3) = lvz2 at g3_z2 g4_z2 g6_z2 g8_z2 ⊢
        refine ye_iload rfl g3_z2 ?_
        refine ye_if_ne rfl (fun h3 => ?_) (fun h3 => ?_)
        · replace h := yiT h3 h
          refine ye_lload rfl g4_z2 ?_
          refine ye_lload rfl g8_z2 ?_
          obtain ⟨i1, h⟩ := gP_some h
          refine ye_ldiv rfl i1 ?_
          exact w_X12_chance_129 (prim := prim) (d := d) N S (l4 / w3) hp lvz2 hM h
        · replace h := yiN h3 h
          refine ye_lload rfl g6_z2 ?_
          refine ye_lload rfl g8_z2 ?_
          obtain ⟨i2, h⟩ := gP_some h
          refine ye_ldiv rfl i2 ?_
          refine ye_p rfl rfl ?_
          exact w_X12_chance_129 (prim := prim) (d := d) N S (w2 / w3) hp lvz2 hM h
      · replace h := yiN h2 h
        refine ye_iload rfl g3_z1 ?_
        refine ye_if_ne rfl (fun h4 => ?_) (fun h4 => ?_)
        · replace h := yiT h4 h
          refine ye_p rfl rfl ?_
          exact w_X12_chance_102 (prim := prim) (d := d) N S 1 hp lvz1 hM h
        · replace h := yiN h4 h
          refine ye_p rfl rfl ?_
          refine ye_p rfl rfl ?_
          exact w_X12_chance_102 (prim := prim) (d := d) N S 0 hp lvz1 hM h
    · replace h := yiN h1 h
      refine ye_lload rfl g4 ?_
      refine ye_aload rfl g0 ?_
      refine ye_iload rfl g1 ?_
      refine ye_iload rfl g6 ?_
      obtain ⟨w4, hw4, h⟩ := bV_some h
      refine ye_callV (As := [.int l1, .int l6]) (rest := [.long l4]) 0 (Or.inl rfl) rfl rfl rfl (Nat.le_of_ble_eq_true rfl) (hM.obj fa0 ⟨rfl, rfl⟩) ((m_X12_share (d := d + 108) (T := T) N S l1 l6 a0 fa0 hw4) hp sz hM) ?_
      refine ye_p rfl rfl ?_
      refine ye_p rfl rfl ?_
      have g0_z3 := xG_o2 (i := 4) (v := .long (l4 + w4)) g0 rfl
      have g1_z3 := xG_o2 (i := 4) (v := .long (l4 + w4)) g1 rfl
      have g2_z3 := xG_o2 (i := 4) (v := .long (l4 + w4)) g2 rfl
      have g3_z3 := xG_o2 (i := 4) (v := .long (l4 + w4)) g3 rfl
      have g6_z3 := xG_o2 (i := 4) (v := .long (l4 + w4)) g6 rfl
      have g4_z3 := xG_same2 lv 4 (.long (l4 + w4))
      generalize xSt2 lv 4 (.long (l4 + w4)) = lvz3 at g0_z3 g1_z3 g2_z3 g3_z3 g6_z3 g4_z3 ⊢
      refine ye_iinc rfl g6_z3 ?_
      have g0_z4 := xG_o1 (i := 6) (v := .int (l6 + 1)) g0_z3 rfl
      have g1_z4 := xG_o1 (i := 6) (v := .int (l6 + 1)) g1_z3 rfl
      have g2_z4 := xG_o1 (i := 6) (v := .int (l6 + 1)) g2_z3 rfl
      have g3_z4 := xG_o1 (i := 6) (v := .int (l6 + 1)) g3_z3 rfl
      have g4_z4 := xG_o1 (i := 6) (v := .int (l6 + 1)) g4_z3 rfl
      have g6_z4 := xG_same lvz3 6 (.int (l6 + 1))
      generalize xSt1 lvz3 6 (.int (l6 + 1)) = lvz4 at g0_z4 g1_z4 g2_z4 g3_z4 g4_z4 g6_z4 ⊢
      refine ye_p rfl rfl ?_
      exact ih S l1 l2 l3 (l4 + w4) (l6 + 1) hp lvz4 a0 fa0 g0_z4 g1_z4 g2_z4 g3_z4 g4_z4 g6_z4 hM h

def f_X12_chance_0 (N : Nat) (S : yS) (l1 : Int32) (l2 : Int32) (l3 : Int32) : Option (Int64 × yS) := sq (yI S 8 47 0) fun S1 => bV (f_X12_isDown N S1 l1) fun w1 => if w1 = 0 then f_X12_chance_37 N S1 else bV (f_X12_cells N S1 l1) fun w2 => bV (f_X12_in N S1 l2 0 (w2 - 1)) fun w3 => if w3 = 0 then f_X12_chance_37 N S1 else bV (f_X12_in N S1 l3 0 1) fun w4 => if ¬ w4 = 0 then f_X12_chance_50 N N S1 l1 l2 l3 0 0 else f_X12_chance_37 N S1
set_option maxHeartbeats 4000000 in
set_option maxRecDepth 40000 in
theorem w_X12_chance_0 {F : xH} {ev : xEv} {prim : xRel} {d sz : Nat} {T : yT} {v : Int64} {S' : yS} (N : Nat) (S : yS) (l1 : Int32) (l2 : Int32) (l3 : Int32) (hp : xH) (lv : xLv) (a0 : Nat) (fa0 : yAt T 12 8 0 a0) (g0 : xG lv 0 = some (.ref a0)) (g1 : xG lv 1 = some (.int l1)) (g2 : xG lv 2 = some (.int l2)) (g3 : xG lv 3 = some (.int l3)) (hM : cR [8] F ev T S hp) (h : f_X12_chance_0 N S l1 l2 l3 = some (v, S')) : yWE ev.2.1 (xstr ev) (xCalls ev xmi (xprog ev) prim (d + 110)) (pX12_chance ev) (0, lv, [], hp, sz, 0) (ypQ [8] F ev T sz (some (.long v)) S') := by
  unfold f_X12_chance_0 at h
  refine ye_aload rfl g0 ?_
  refine ye_p rfl rfl ?_
  obtain ⟨S1, eS1, h⟩ := sq_some h
  refine yw_putI rfl hM fa0 rfl ⟨rfl, rfl⟩ (Nat.le_of_ble_eq_true rfl) rfl rfl (ys_12_47 ev T _ 0) (fun q => absurd q (by decide)) eS1 (fun y1 M1 => ?_)
  refine ye_aload rfl g0 ?_
  refine ye_iload rfl g1 ?_
  obtain ⟨w1, hw1, h⟩ := bV_some h
  refine ye_callV (As := [.int l1]) (rest := []) 0 (Or.inl rfl) rfl rfl rfl (Nat.le_of_ble_eq_true rfl) (M1.obj fa0 ⟨rfl, rfl⟩) ((m_X12_isDown (d := d + 107) (T := T) N S1 l1 a0 fa0 hw1) y1 sz M1) ?_
  refine ye_if_eq rfl (fun h1 => ?_) (fun h1 => ?_)
  · replace h := yiT h1 h
    exact w_X12_chance_37 (prim := prim) (d := d) N S1 y1 lv a0 fa0 g0 M1 h
  · replace h := yiN h1 h
    refine ye_iload rfl g2 ?_
    refine ye_p rfl rfl ?_
    refine ye_aload rfl g0 ?_
    refine ye_iload rfl g1 ?_
    obtain ⟨w2, hw2, h⟩ := bV_some h
    refine ye_callV (As := [.int l1]) (rest := [.int 0, .int l2]) 0 (Or.inl rfl) rfl rfl rfl (Nat.le_of_ble_eq_true rfl) (M1.obj fa0 ⟨rfl, rfl⟩) ((m_X12_cells (d := d + 108) (T := T) N S1 l1 a0 fa0 hw2) y1 sz M1) ?_
    refine ye_p rfl rfl ?_
    refine ye_p rfl rfl ?_
    obtain ⟨w3, hw3, h⟩ := bV_some h
    refine ye_callS (As := [.int l2, .int 0, .int (w2 - 1)]) (rest := []) 1 (Or.inl rfl) rfl rfl rfl (Nat.le_of_ble_eq_true rfl) ((m_X12_in (d := d + 109) (T := T) N S1 l2 0 (w2 - 1) hw3) y1 sz M1) ?_
    refine ye_if_eq rfl (fun h2 => ?_) (fun h2 => ?_)
    · replace h := yiT h2 h
      exact w_X12_chance_37 (prim := prim) (d := d) N S1 y1 lv a0 fa0 g0 M1 h
    · replace h := yiN h2 h
      refine ye_iload rfl g3 ?_
      refine ye_p rfl rfl ?_
      refine ye_p rfl rfl ?_
      obtain ⟨w4, hw4, h⟩ := bV_some h
      refine ye_callS (As := [.int l3, .int 0, .int 1]) (rest := []) 1 (Or.inl rfl) rfl rfl rfl (Nat.le_of_ble_eq_true rfl) ((m_X12_in (d := d + 109) (T := T) N S1 l3 0 1 hw4) y1 sz M1) ?_
      refine ye_if_ne rfl (fun h3 => ?_) (fun h3 => ?_)
      · replace h := yiT h3 h
        refine ye_p rfl rfl ?_
        refine ye_p rfl rfl ?_
        have g0_z1 := xG_o2 (i := 4) (v := .long 0) g0 rfl
        have g1_z1 := xG_o2 (i := 4) (v := .long 0) g1 rfl
        have g2_z1 := xG_o2 (i := 4) (v := .long 0) g2 rfl
        have g3_z1 := xG_o2 (i := 4) (v := .long 0) g3 rfl
        have g4_z1 := xG_same2 lv 4 (.long 0)
        generalize xSt2 lv 4 (.long 0) = lvz1 at g0_z1 g1_z1 g2_z1 g3_z1 g4_z1 ⊢
        refine ye_p rfl rfl ?_
        refine ye_p rfl rfl ?_
        have g0_z2 := xG_o1 (i := 6) (v := .int 0) g0_z1 rfl
        have g1_z2 := xG_o1 (i := 6) (v := .int 0) g1_z1 rfl
        have g2_z2 := xG_o1 (i := 6) (v := .int 0) g2_z1 rfl
        have g3_z2 := xG_o1 (i := 6) (v := .int 0) g3_z1 rfl
        have g4_z2 := xG_o1 (i := 6) (v := .int 0) g4_z1 rfl
        have g6_z2 := xG_same lvz1 6 (.int 0)
        generalize xSt1 lvz1 6 (.int 0) = lvz2 at g0_z2 g1_z2 g2_z2 g3_z2 g4_z2 g6_z2 ⊢
        exact w_X12_chance_50 (prim := prim) (d := d) N N S1 l1 l2 l3 0 0 y1 lvz2 a0 fa0 g0_z2 g1_z2 g2_z2 g3_z2 g4_z2 g6_z2 M1 h
      · replace h := yiN h3 h
        exact w_X12_chance_37 (prim := prim) (d := d) N S1 y1 lv a0 fa0 g0 M1 h
def f_X12_chance (N : Nat) (S : yS) (xl1 : Int32) (xl2 : Int32) (xl3 : Int32) : Option (Int64 × yS) := f_X12_chance_0 N S xl1 xl2 xl3
theorem m_X12_chance {F : xH} {ev : xEv} {prim : xRel} {d : Nat} {T : yT} {v : Int64} {S' : yS} (N : Nat) (S : yS) (xl1 : Int32) (xl2 : Int32) (xl3 : Int32) (a0 : Nat) (fa0 : yAt T 12 8 0 a0) (h : f_X12_chance N S xl1 xl2 xl3 = some (v, S')) : ykQ [8] F ev prim (d + 111) 283 T S [.ref a0, .int xl1, .int xl2, .int xl3] (some (.long v)) S' :=
  ykQ.of (pg_283 ev) mi_283 (Nat.le_of_ble_eq_true rfl) (fun hp sz hM => w_X12_chance_0 (prim := prim) (d := d) N S xl1 xl2 xl3 hp _ a0 fa0 rfl rfl rfl rfl hM h)

def f_X12_lanes_42 (N : Nat) (S : yS) : Option (Int32 × yS) := some ((-1), S)
set_option maxHeartbeats 4000000 in
set_option maxRecDepth 40000 in
theorem w_X12_lanes_42 {F : xH} {ev : xEv} {prim : xRel} {d sz : Nat} {T : yT} {v : Int32} {S' : yS} (N : Nat) (S : yS) (hp : xH) (lv : xLv) (hM : cR [8] F ev T S hp) (h : f_X12_lanes_42 N S = some (v, S')) : yWE ev.2.1 (xstr ev) (xCalls ev xmi (xprog ev) prim (d + 3)) (pX12_lanes ev) (42, lv, [], hp, sz, 0) (ypQ [8] F ev T sz (some (.int v)) S') := by
  unfold f_X12_lanes_42 at h
  refine ye_p rfl rfl ?_
  exact ye_ret rfl rfl (rQ h hM)

def f_X12_lanes_140 (N : Nat) (k53 : yS → Int32 → Int32 → Int32 → Int32 → Int64 → Int32 → Option (Int32 × yS)) (k66 : yS → Int32 → Int32 → Int32 → Int32 → Int64 → Int32 → Int32 → Option (Int32 × yS)) (S : yS) (l1 : Int32) (l2 : Int32) (l3 : Int32) (l4 : Int32) (l5 : Int64) (l7 : Int32) (l8 : Int32) : Option (Int32 × yS) := k66 S l1 l2 l3 l4 l5 l7 (l8 + 1)
set_option maxHeartbeats 4000000 in
set_option maxRecDepth 40000 in
theorem w_X12_lanes_140 {F : xH} {ev : xEv} {prim : xRel} {d sz : Nat} {T : yT} {v : Int32} {S' : yS} (N : Nat) (k53 : yS → Int32 → Int32 → Int32 → Int32 → Int64 → Int32 → Option (Int32 × yS)) (k66 : yS → Int32 → Int32 → Int32 → Int32 → Int64 → Int32 → Int32 → Option (Int32 × yS)) (u53 : ∀ (S : yS) (l1 : Int32) (l2 : Int32) (l3 : Int32) (l4 : Int32) (l5 : Int64) (l7 : Int32) (hp : xH) (lv : xLv) (a0 : Nat) (fa0 : yAt T 12 8 0 a0) (g0 : xG lv 0 = some (.ref a0)) (g1 : xG lv 1 = some (.int l1)) (g2 : xG lv 2 = some (.int l2)) (g3 : xG lv 3 = some (.int l3)) (g4 : xG lv 4 = some (.int l4)) (g5 : xG lv 5 = some (.long l5)) (g7 : xG lv 7 = some (.int l7)) (hM : cR [8] F ev T S hp) (h : k53 S l1 l2 l3 l4 l5 l7 = some (v, S')), yWE ev.2.1 (xstr ev) (xCalls ev xmi (xprog ev) prim (d + 3)) (pX12_lanes ev) (53, lv, [], hp, sz, 0) (ypQ [8] F ev T sz (some (.int v)) S')) (u66 : ∀ (S : yS) (l1 : Int32) (l2 : Int32) (l3 : Int32) (l4 : Int32) (l5 : Int64) (l7 : Int32) (l8 : Int32) (hp : xH) (lv : xLv) (a0 : Nat) (fa0 : yAt T 12 8 0 a0) (g0 : xG lv 0 = some (.ref a0)) (g1 : xG lv 1 = some (.int l1)) (g2 : xG lv 2 = some (.int l2)) (g3 : xG lv 3 = some (.int l3)) (g4 : xG lv 4 = some (.int l4)) (g5 : xG lv 5 = some (.long l5)) (g7 : xG lv 7 = some (.int l7)) (g8 : xG lv 8 = some (.int l8)) (hM : cR [8] F ev T S hp) (h : k66 S l1 l2 l3 l4 l5 l7 l8 = some (v, S')), yWE ev.2.1 (xstr ev) (xCalls ev xmi (xprog ev) prim (d + 3)) (pX12_lanes ev) (66, lv, [], hp, sz, 0) (ypQ [8] F ev T sz (some (.int v)) S')) (S : yS) (l1 : Int32) (l2 : Int32) (l3 : Int32) (l4 : Int32) (l5 : Int64) (l7 : Int32) (l8 : Int32) (hp : xH) (lv : xLv) (a0 : Nat) (fa0 : yAt T 12 8 0 a0) (g0 : xG lv 0 = some (.ref a0)) (g1 : xG lv 1 = some (.int l1)) (g2 : xG lv 2 = some (.int l2)) (g3 : xG lv 3 = some (.int l3)) (g4 : xG lv 4 = some (.int l4)) (g5 : xG lv 5 = some (.long l5)) (g7 : xG lv 7 = some (.int l7)) (g8 : xG lv 8 = some (.int l8)) (hM : cR [8] F ev T S hp) (h : f_X12_lanes_140 N k53 k66 S l1 l2 l3 l4 l5 l7 l8 = some (v, S')) : yWE ev.2.1 (xstr ev) (xCalls ev xmi (xprog ev) prim (d + 3)) (pX12_lanes ev) (140, lv, [], hp, sz, 0) (ypQ [8] F ev T sz (some (.int v)) S') := by
  unfold f_X12_lanes_140 at h
  refine ye_iinc rfl g8 ?_
  have g0_z1 := xG_o1 (i := 8) (v := .int (l8 + 1)) g0 rfl
  have g1_z1 := xG_o1 (i := 8) (v := .int (l8 + 1)) g1 rfl
  have g2_z1 := xG_o1 (i := 8) (v := .int (l8 + 1)) g2 rfl
  have g3_z1 := xG_o1 (i := 8) (v := .int (l8 + 1)) g3 rfl
  have g4_z1 := xG_o1 (i := 8) (v := .int (l8 + 1)) g4 rfl
  have g5_z1 := xG_o1 (i := 8) (v := .int (l8 + 1)) g5 rfl
  have g7_z1 := xG_o1 (i := 8) (v := .int (l8 + 1)) g7 rfl
  have g8_z1 := xG_same lv 8 (.int (l8 + 1))
  generalize xSt1 lv 8 (.int (l8 + 1)) = lvz1 at g0_z1 g1_z1 g2_z1 g3_z1 g4_z1 g5_z1 g7_z1 g8_z1 ⊢
  refine ye_p rfl rfl ?_
  exact u66 S l1 l2 l3 l4 l5 l7 (l8 + 1) hp lvz1 a0 fa0 g0_z1 g1_z1 g2_z1 g3_z1 g4_z1 g5_z1 g7_z1 g8_z1 hM h

def f_X12_lanes_126 (N : Nat) (k53 : yS → Int32 → Int32 → Int32 → Int32 → Int64 → Int32 → Option (Int32 × yS)) (k66 : yS → Int32 → Int32 → Int32 → Int32 → Int64 → Int32 → Int32 → Option (Int32 × yS)) (S : yS) (l1 : Int32) (l2 : Int32) (l3 : Int32) (l7 : Int32) (l8 : Int32) (l9 : Int64) : Option (Int32 × yS) := f_X12_lanes_140 N k53 k66 S l1 l2 l3 ((100 * l7) + l8) l9 l7 l8
set_option maxHeartbeats 4000000 in
set_option maxRecDepth 40000 in
theorem w_X12_lanes_126 {F : xH} {ev : xEv} {prim : xRel} {d sz : Nat} {T : yT} {v : Int32} {S' : yS} (N : Nat) (k53 : yS → Int32 → Int32 → Int32 → Int32 → Int64 → Int32 → Option (Int32 × yS)) (k66 : yS → Int32 → Int32 → Int32 → Int32 → Int64 → Int32 → Int32 → Option (Int32 × yS)) (u53 : ∀ (S : yS) (l1 : Int32) (l2 : Int32) (l3 : Int32) (l4 : Int32) (l5 : Int64) (l7 : Int32) (hp : xH) (lv : xLv) (a0 : Nat) (fa0 : yAt T 12 8 0 a0) (g0 : xG lv 0 = some (.ref a0)) (g1 : xG lv 1 = some (.int l1)) (g2 : xG lv 2 = some (.int l2)) (g3 : xG lv 3 = some (.int l3)) (g4 : xG lv 4 = some (.int l4)) (g5 : xG lv 5 = some (.long l5)) (g7 : xG lv 7 = some (.int l7)) (hM : cR [8] F ev T S hp) (h : k53 S l1 l2 l3 l4 l5 l7 = some (v, S')), yWE ev.2.1 (xstr ev) (xCalls ev xmi (xprog ev) prim (d + 3)) (pX12_lanes ev) (53, lv, [], hp, sz, 0) (ypQ [8] F ev T sz (some (.int v)) S')) (u66 : ∀ (S : yS) (l1 : Int32) (l2 : Int32) (l3 : Int32) (l4 : Int32) (l5 : Int64) (l7 : Int32) (l8 : Int32) (hp : xH) (lv : xLv) (a0 : Nat) (fa0 : yAt T 12 8 0 a0) (g0 : xG lv 0 = some (.ref a0)) (g1 : xG lv 1 = some (.int l1)) (g2 : xG lv 2 = some (.int l2)) (g3 : xG lv 3 = some (.int l3)) (g4 : xG lv 4 = some (.int l4)) (g5 : xG lv 5 = some (.long l5)) (g7 : xG lv 7 = some (.int l7)) (g8 : xG lv 8 = some (.int l8)) (hM : cR [8] F ev T S hp) (h : k66 S l1 l2 l3 l4 l5 l7 l8 = some (v, S')), yWE ev.2.1 (xstr ev) (xCalls ev xmi (xprog ev) prim (d + 3)) (pX12_lanes ev) (66, lv, [], hp, sz, 0) (ypQ [8] F ev T sz (some (.int v)) S')) (S : yS) (l1 : Int32) (l2 : Int32) (l3 : Int32) (l7 : Int32) (l8 : Int32) (l9 : Int64) (hp : xH) (lv : xLv) (a0 : Nat) (fa0 : yAt T 12 8 0 a0) (g0 : xG lv 0 = some (.ref a0)) (g1 : xG lv 1 = some (.int l1)) (g2 : xG lv 2 = some (.int l2)) (g3 : xG lv 3 = some (.int l3)) (g7 : xG lv 7 = some (.int l7)) (g8 : xG lv 8 = some (.int l8)) (g9 : xG lv 9 = some (.long l9)) (hM : cR [8] F ev T S hp) (h : f_X12_lanes_126 N k53 k66 S l1 l2 l3 l7 l8 l9 = some (v, S')) : yWE ev.2.1 (xstr ev) (xCalls ev xmi (xprog ev) prim (d + 3)) (pX12_lanes ev) (126, lv, [], hp, sz, 0) (ypQ [8] F ev T sz (some (.int v)) S') := by
  unfold f_X12_lanes_126 at h
  refine ye_p rfl rfl ?_
  refine ye_iload rfl g7 ?_
  refine ye_p rfl rfl ?_
  refine ye_iload rfl g8 ?_
  refine ye_p rfl rfl ?_
  refine ye_p rfl rfl ?_
  have g0_z1 := xG_o1 (i := 4) (v := .int ((100 * l7) + l8)) g0 rfl
  have g1_z1 := xG_o1 (i := 4) (v := .int ((100 * l7) + l8)) g1 rfl
  have g2_z1 := xG_o1 (i := 4) (v := .int ((100 * l7) + l8)) g2 rfl
  have g3_z1 := xG_o1 (i := 4) (v := .int ((100 * l7) + l8)) g3 rfl
  have g7_z1 := xG_o1 (i := 4) (v := .int ((100 * l7) + l8)) g7 rfl
  have g8_z1 := xG_o1 (i := 4) (v := .int ((100 * l7) + l8)) g8 rfl
  have g9_z1 := xG_o1 (i := 4) (v := .int ((100 * l7) + l8)) g9 rfl
  have g4_z1 := xG_same lv 4 (.int ((100 * l7) + l8))
  generalize xSt1 lv 4 (.int ((100 * l7) + l8)) = lvz1 at g0_z1 g1_z1 g2_z1 g3_z1 g7_z1 g8_z1 g9_z1 g4_z1 ⊢
  refine ye_lload rfl g9_z1 ?_
  refine ye_p rfl rfl ?_
  have g0_z2 := xG_o2 (i := 5) (v := .long l9) g0_z1 rfl
  have g1_z2 := xG_o2 (i := 5) (v := .long l9) g1_z1 rfl
  have g2_z2 := xG_o2 (i := 5) (v := .long l9) g2_z1 rfl
  have g3_z2 := xG_o2 (i := 5) (v := .long l9) g3_z1 rfl
  have g4_z2 := xG_o2 (i := 5) (v := .long l9) g4_z1 rfl
  have g7_z2 := xG_o2 (i := 5) (v := .long l9) g7_z1 rfl
  have g8_z2 := xG_o2 (i := 5) (v := .long l9) g8_z1 rfl
  have g5_z2 := xG_same2 lvz1 5 (.long l9)
  generalize xSt2 lvz1 5 (.long l9) = lvz2 at g0_z2 g1_z2 g2_z2 g3_z2 g4_z2 g7_z2 g8_z2 g5_z2 ⊢
  exact w_X12_lanes_140 (prim := prim) (d := d) N k53 k66 u53 u66 S l1 l2 l3 ((100 * l7) + l8) l9 l7 l8 hp lvz2 a0 fa0 g0_z2 g1_z2 g2_z2 g3_z2 g4_z2 g5_z2 g7_z2 g8_z2 hM h

def f_X12_lanes_66 : Nat → Nat → (yS → Int32 → Int32 → Int32 → Int32 → Int64 → Int32 → Option (Int32 × yS)) → yS → Int32 → Int32 → Int32 → Int32 → Int64 → Int32 → Int32 → Option (Int32 × yS)
  | 0, _, _, _, _, _, _, _, _, _, _ => none
  | n + 1, N, k53, S, l1, l2, l3, l4, l5, l7, l8 => bV (f_X12_cells N S l1) fun w1 => if w1 ≤ l8 then k53 S l1 l2 l3 l4 l5 (l7 + 1) else if ¬ l7 = l8 then bV (f_X12_share N S l1 l7) fun w2 => bV (f_X12_share N S l1 l8) fun w3 => if l4 = ((-1)) then f_X12_lanes_126 N k53 (fun S l1 l2 l3 l4 l5 l7 l8 => f_X12_lanes_66 n N k53 S l1 l2 l3 l4 l5 l7 l8) S l1 l2 l3 l7 l8 ((w2 * l2.toInt64) + (w3 * l3.toInt64)) else if 0 < (lg_cmp ((w2 * l2.toInt64) + (w3 * l3.toInt64)) l5) then f_X12_lanes_126 N k53 (fun S l1 l2 l3 l4 l5 l7 l8 => f_X12_lanes_66 n N k53 S l1 l2 l3 l4 l5 l7 l8) S l1 l2 l3 l7 l8 ((w2 * l2.toInt64) + (w3 * l3.toInt64)) else f_X12_lanes_140 N k53 (fun S l1 l2 l3 l4 l5 l7 l8 => f_X12_lanes_66 n N k53 S l1 l2 l3 l4 l5 l7 l8) S l1 l2 l3 l4 l5 l7 l8 else f_X12_lanes_140 N k53 (fun S l1 l2 l3 l4 l5 l7 l8 => f_X12_lanes_66 n N k53 S l1 l2 l3 l4 l5 l7 l8) S l1 l2 l3 l4 l5 l7 l8
set_option maxHeartbeats 4000000 in
set_option maxRecDepth 40000 in
theorem w_X12_lanes_66 {F : xH} {ev : xEv} {prim : xRel} {d sz : Nat} {T : yT} {v : Int32} {S' : yS} (N : Nat) (n : Nat) (k53 : yS → Int32 → Int32 → Int32 → Int32 → Int64 → Int32 → Option (Int32 × yS)) (u53 : ∀ (S : yS) (l1 : Int32) (l2 : Int32) (l3 : Int32) (l4 : Int32) (l5 : Int64) (l7 : Int32) (hp : xH) (lv : xLv) (a0 : Nat) (fa0 : yAt T 12 8 0 a0) (g0 : xG lv 0 = some (.ref a0)) (g1 : xG lv 1 = some (.int l1)) (g2 : xG lv 2 = some (.int l2)) (g3 : xG lv 3 = some (.int l3)) (g4 : xG lv 4 = some (.int l4)) (g5 : xG lv 5 = some (.long l5)) (g7 : xG lv 7 = some (.int l7)) (hM : cR [8] F ev T S hp) (h : k53 S l1 l2 l3 l4 l5 l7 = some (v, S')), yWE ev.2.1 (xstr ev) (xCalls ev xmi (xprog ev) prim (d + 3)) (pX12_lanes ev) (53, lv, [], hp, sz, 0) (ypQ [8] F ev T sz (some (.int v)) S')) : ∀ (S : yS) (l1 : Int32) (l2 : Int32) (l3 : Int32) (l4 : Int32) (l5 : Int64) (l7 : Int32) (l8 : Int32) (hp : xH) (lv : xLv) (a0 : Nat) (fa0 : yAt T 12 8 0 a0) (g0 : xG lv 0 = some (.ref a0)) (g1 : xG lv 1 = some (.int l1)) (g2 : xG lv 2 = some (.int l2)) (g3 : xG lv 3 = some (.int l3)) (g4 : xG lv 4 = some (.int l4)) (g5 : xG lv 5 = some (.long l5)) (g7 : xG lv 7 = some (.int l7)) (g8 : xG lv 8 = some (.int l8)) (hM : cR [8] F ev T S hp) (h : f_X12_lanes_66 n N k53 S l1 l2 l3 l4 l5 l7 l8 = some (v, S')), yWE ev.2.1 (xstr ev) (xCalls ev xmi (xprog ev) prim (d + 3)) (pX12_lanes ev) (66, lv, [], hp, sz, 0) (ypQ [8] F ev T sz (some (.int v)) S') := by
  induction n with
  | zero => intro S l1 l2 l3 l4 l5 l7 l8 hp lv a0 fa0 g0 g1 g2 g3 g4 g5 g7 g8 hM h; exact n_some h
  | succ n ih =>
    intro S l1 l2 l3 l4 l5 l7 l8 hp lv a0 fa0 g0 g1 g2 g3 g4 g5 g7 g8 hM h
    unfold f_X12_lanes_66 at h
    refine ye_iload rfl g8 ?_
    refine ye_aload rfl g0 ?_
    refine ye_iload rfl g1 ?_
    obtain ⟨w1, hw1, h⟩ := bV_some h
    refine ye_callV (As := [.int l1]) (rest := [.int l8]) 0 (Or.inl rfl) rfl rfl rfl (Nat.le_of_ble_eq_true rfl) (hM.obj fa0 ⟨rfl, rfl⟩) ((m_X12_cells (d := d + 1) (T := T) N S l1 a0 fa0 hw1) hp sz hM) ?_
    refine ye_icmp_ge rfl (fun h1 => ?_) (fun h1 => ?_)
    · replace h := yiT h1 h
      refine ye_iinc rfl g7 ?_
      have g0_z1 := xG_o1 (i := 7) (v := .int (l7 + 1)) g0 rfl
      have g1_z1 := xG_o1 (i := 7) (v := .int (l7 + 1)) g1 rfl
      have g2_z1 := xG_o1 (i := 7) (v := .int (l7 + 1)) g2 rfl
      have g3_z1 := xG_o1 (i := 7) (v := .int (l7 + 1)) g3 rfl
      have g4_z1 := xG_o1 (i := 7) (v := .int (l7 + 1)) g4 rfl
      have g5_z1 := xG_o1 (i := 7) (v := .int (l7 + 1)) g5 rfl
      have g7_z1 := xG_same lv 7 (.int (l7 + 1))
      generalize xSt1 lv 7 (.int (l7 + 1)) = lvz1 at g0_z1 g1_z1 g2_z1 g3_z1 g4_z1 g5_z1 g7_z1 ⊢
      refine ye_p rfl rfl ?_
      exact u53 S l1 l2 l3 l4 l5 (l7 + 1) hp lvz1 a0 fa0 g0_z1 g1_z1 g2_z1 g3_z1 g4_z1 g5_z1 g7_z1 hM h
    · replace h := yiN h1 h
      refine ye_iload rfl g7 ?_
      refine ye_iload rfl g8 ?_
      refine ye_icmp_ne rfl (fun h2 => ?_) (fun h2 => ?_)
      · replace h := yiT h2 h
        refine ye_aload rfl g0 ?_
        refine ye_iload rfl g1 ?_
        refine ye_iload rfl g7 ?_
        obtain ⟨w2, hw2, h⟩ := bV_some h
        refine ye_callV (As := [.int l1, .int l7]) (rest := []) 0 (Or.inl rfl) rfl rfl rfl (Nat.le_of_ble_eq_true rfl) (hM.obj fa0 ⟨rfl, rfl⟩) ((m_X12_share (d := d + 1) (T := T) N S l1 l7 a0 fa0 hw2) hp sz hM) ?_
        refine ye_iload rfl g2 ?_
        refine ye_p rfl rfl ?_
        refine ye_p rfl rfl ?_
        refine ye_aload rfl g0 ?_
        refine ye_iload rfl g1 ?_
        refine ye_iload rfl g8 ?_
        obtain ⟨w3, hw3, h⟩ := bV_some h
        refine ye_callV (As := [.int l1, .int l8]) (rest := [.long (w2 * l2.toInt64)]) 0 (Or.inl rfl) rfl rfl rfl (Nat.le_of_ble_eq_true rfl) (hM.obj fa0 ⟨rfl, rfl⟩) ((m_X12_share (d := d + 1) (T := T) N S l1 l8 a0 fa0 hw3) hp sz hM) ?_
        refine ye_iload rfl g3 ?_
        refine ye_p rfl rfl ?_
        refine ye_p rfl rfl ?_
        refine ye_p rfl rfl ?_
        refine ye_p rfl rfl ?_
        have g0_z2 := xG_o2 (i := 9) (v := .long ((w2 * l2.toInt64) + (w3 * l3.toInt64))) g0 rfl
        have g1_z2 := xG_o2 (i := 9) (v := .long ((w2 * l2.toInt64) + (w3 * l3.toInt64))) g1 rfl
        have g2_z2 := xG_o2 (i := 9) (v := .long ((w2 * l2.toInt64) + (w3 * l3.toInt64))) g2 rfl
        have g3_z2 := xG_o2 (i := 9) (v := .long ((w2 * l2.toInt64) + (w3 * l3.toInt64))) g3 rfl
        have g4_z2 := xG_o2 (i := 9) (v := .long ((w2 * l2.toInt64) + (w3 * l3.toInt64))) g4 rfl
        have g5_z2 := xG_o2 (i := 9) (v := .long ((w2 * l2.toInt64) + (w3 * l3.toInt64))) g5 rfl
        have g7_z2 := xG_o2 (i := 9) (v := .long ((w2 * l2.toInt64) + (w3 * l3.toInt64))) g7 rfl
        have g8_z2 := xG_o2 (i := 9) (v := .long ((w2 * l2.toInt64) + (w3 * l3.toInt64))) g8 rfl
        have g9_z2 := xG_same2 lv 9 (.long ((w2 * l2.toInt64) + (w3 * l3.toInt64)))
        generalize xSt2 lv 9 (.long ((w2 * l2.toInt64) + (w3 * l3.toInt64))) = lvz2 at g0_z2 g1_z2 g2_z2 g3_z2 g4_z2 g5_z2 g7_z2 g8_z2 g9_z2 ⊢
        refine ye_iload rfl g4_z2 ?_
        refine ye_p rfl rfl ?_
        refine ye_icmp_eq rfl (fun h3 => ?_) (fun h3 => ?_)
        · replace h := yiT h3 h
          exact w_X12_lanes_126 (prim := prim) (d := d) N k53 (fun S l1 l2 l3 l4 l5 l7 l8 => f_X12_lanes_66 n N k53 S l1 l2 l3 l4 l5 l7 l8) u53 ih S l1 l2 l3 l7 l8 ((w2 * l2.toInt64) + (w3 * l3.toInt64)) hp lvz2 a0 fa0 g0_z2 g1_z2 g2_z2 g3_z2 g7_z2 g8_z2 g9_z2 hM h
        · replace h := yiN h3 h
          refine ye_lload rfl g9_z2 ?_
          refine ye_lload rfl g5_z2 ?_
          refine ye_p rfl rfl ?_
          refine ye_if_gt rfl (fun h4 => ?_) (fun h4 => ?_)
          · replace h := yiT h4 h
            exact w_X12_lanes_126 (prim := prim) (d := d) N k53 (fun S l1 l2 l3 l4 l5 l7 l8 => f_X12_lanes_66 n N k53 S l1 l2 l3 l4 l5 l7 l8) u53 ih S l1 l2 l3 l7 l8 ((w2 * l2.toInt64) + (w3 * l3.toInt64)) hp lvz2 a0 fa0 g0_z2 g1_z2 g2_z2 g3_z2 g7_z2 g8_z2 g9_z2 hM h
          · replace h := yiN h4 h
            refine ye_p rfl rfl ?_
            exact w_X12_lanes_140 (prim := prim) (d := d) N k53 (fun S l1 l2 l3 l4 l5 l7 l8 => f_X12_lanes_66 n N k53 S l1 l2 l3 l4 l5 l7 l8) u53 ih S l1 l2 l3 l4 l5 l7 l8 hp lvz2 a0 fa0 g0_z2 g1_z2 g2_z2 g3_z2 g4_z2 g5_z2 g7_z2 g8_z2 hM h
      · replace h := yiN h2 h
        refine ye_p rfl rfl ?_
        exact w_X12_lanes_140 (prim := prim) (d := d) N k53 (fun S l1 l2 l3 l4 l5 l7 l8 => f_X12_lanes_66 n N k53 S l1 l2 l3 l4 l5 l7 l8) u53 ih S l1 l2 l3 l4 l5 l7 l8 hp lv a0 fa0 g0 g1 g2 g3 g4 g5 g7 g8 hM h

def f_X12_lanes_53 : Nat → Nat → yS → Int32 → Int32 → Int32 → Int32 → Int64 → Int32 → Option (Int32 × yS)
  | 0, _, _, _, _, _, _, _, _ => none
  | n + 1, N, S, l1, l2, l3, l4, l5, l7 => bV (f_X12_cells N S l1) fun w1 => if w1 ≤ l7 then some (l4, S) else f_X12_lanes_66 N N (fun S l1 l2 l3 l4 l5 l7 => f_X12_lanes_53 n N S l1 l2 l3 l4 l5 l7) S l1 l2 l3 l4 l5 l7 0
set_option maxHeartbeats 4000000 in
set_option maxRecDepth 40000 in
theorem w_X12_lanes_53 {F : xH} {ev : xEv} {prim : xRel} {d sz : Nat} {T : yT} {v : Int32} {S' : yS} (N : Nat) (n : Nat) : ∀ (S : yS) (l1 : Int32) (l2 : Int32) (l3 : Int32) (l4 : Int32) (l5 : Int64) (l7 : Int32) (hp : xH) (lv : xLv) (a0 : Nat) (fa0 : yAt T 12 8 0 a0) (g0 : xG lv 0 = some (.ref a0)) (g1 : xG lv 1 = some (.int l1)) (g2 : xG lv 2 = some (.int l2)) (g3 : xG lv 3 = some (.int l3)) (g4 : xG lv 4 = some (.int l4)) (g5 : xG lv 5 = some (.long l5)) (g7 : xG lv 7 = some (.int l7)) (hM : cR [8] F ev T S hp) (h : f_X12_lanes_53 n N S l1 l2 l3 l4 l5 l7 = some (v, S')), yWE ev.2.1 (xstr ev) (xCalls ev xmi (xprog ev) prim (d + 3)) (pX12_lanes ev) (53, lv, [], hp, sz, 0) (ypQ [8] F ev T sz (some (.int v)) S') := by
  induction n with
  | zero => intro S l1 l2 l3 l4 l5 l7 hp lv a0 fa0 g0 g1 g2 g3 g4 g5 g7 hM h; exact n_some h
  | succ n ih =>
    intro S l1 l2 l3 l4 l5 l7 hp lv a0 fa0 g0 g1 g2 g3 g4 g5 g7 hM h
    unfold f_X12_lanes_53 at h
    refine ye_iload rfl g7 ?_
    refine ye_aload rfl g0 ?_
    refine ye_iload rfl g1 ?_
    obtain ⟨w1, hw1, h⟩ := bV_some h
    refine ye_callV (As := [.int l1]) (rest := [.int l7]) 0 (Or.inl rfl) rfl rfl rfl (Nat.le_of_ble_eq_true rfl) (hM.obj fa0 ⟨rfl, rfl⟩) ((m_X12_cells (d := d + 1) (T := T) N S l1 a0 fa0 hw1) hp sz hM) ?_
    refine ye_icmp_ge rfl (fun h1 => ?_) (fun h1 => ?_)
    · replace h := yiT h1 h
      refine ye_iload rfl g4 ?_
      exact ye_ret rfl rfl (rQ h hM)
    · replace h := yiN h1 h
      refine ye_p rfl rfl ?_
      refine ye_p rfl rfl ?_
      have g0_z1 := xG_o1 (i := 8) (v := .int 0) g0 rfl
      have g1_z1 := xG_o1 (i := 8) (v := .int 0) g1 rfl
      have g2_z1 := xG_o1 (i := 8) (v := .int 0) g2 rfl
      have g3_z1 := xG_o1 (i := 8) (v := .int 0) g3 rfl
      have g4_z1 := xG_o1 (i := 8) (v := .int 0) g4 rfl
      have g5_z1 := xG_o1 (i := 8) (v := .int 0) g5 rfl
      have g7_z1 := xG_o1 (i := 8) (v := .int 0) g7 rfl
      have g8_z1 := xG_same lv 8 (.int 0)
      generalize xSt1 lv 8 (.int 0) = lvz1 at g0_z1 g1_z1 g2_z1 g3_z1 g4_z1 g5_z1 g7_z1 g8_z1 ⊢
      exact w_X12_lanes_66 (prim := prim) (d := d) N N (fun S l1 l2 l3 l4 l5 l7 => f_X12_lanes_53 n N S l1 l2 l3 l4 l5 l7) ih S l1 l2 l3 l4 l5 l7 0 hp lvz1 a0 fa0 g0_z1 g1_z1 g2_z1 g3_z1 g4_z1 g5_z1 g7_z1 g8_z1 hM h

def f_X12_lanes_0 (N : Nat) (S : yS) (l1 : Int32) (l2 : Int32) (l3 : Int32) : Option (Int32 × yS) := sq (yI S 8 47 0) fun S1 => bV (f_X12_isDown N S1 l1) fun w1 => if w1 = 0 then f_X12_lanes_42 N S1 else bV (f_X12_in N S1 l2 1 99) fun w2 => if w2 = 0 then f_X12_lanes_42 N S1 else bV (f_X12_in N S1 l3 1 99) fun w3 => if w3 = 0 then f_X12_lanes_42 N S1 else bV (f_X12_cells N S1 l1) fun w4 => if 2 ≤ w4 then f_X12_lanes_53 N N S1 l1 l2 l3 ((-1)) 0 0 else f_X12_lanes_42 N S1
set_option maxHeartbeats 4000000 in
set_option maxRecDepth 40000 in
theorem w_X12_lanes_0 {F : xH} {ev : xEv} {prim : xRel} {d sz : Nat} {T : yT} {v : Int32} {S' : yS} (N : Nat) (S : yS) (l1 : Int32) (l2 : Int32) (l3 : Int32) (hp : xH) (lv : xLv) (a0 : Nat) (fa0 : yAt T 12 8 0 a0) (g0 : xG lv 0 = some (.ref a0)) (g1 : xG lv 1 = some (.int l1)) (g2 : xG lv 2 = some (.int l2)) (g3 : xG lv 3 = some (.int l3)) (hM : cR [8] F ev T S hp) (h : f_X12_lanes_0 N S l1 l2 l3 = some (v, S')) : yWE ev.2.1 (xstr ev) (xCalls ev xmi (xprog ev) prim (d + 3)) (pX12_lanes ev) (0, lv, [], hp, sz, 0) (ypQ [8] F ev T sz (some (.int v)) S') := by
  unfold f_X12_lanes_0 at h
  refine ye_aload rfl g0 ?_
  refine ye_p rfl rfl ?_
  obtain ⟨S1, eS1, h⟩ := sq_some h
  refine yw_putI rfl hM fa0 rfl ⟨rfl, rfl⟩ (Nat.le_of_ble_eq_true rfl) rfl rfl (ys_12_47 ev T _ 0) (fun q => absurd q (by decide)) eS1 (fun y1 M1 => ?_)
  refine ye_aload rfl g0 ?_
  refine ye_iload rfl g1 ?_
  obtain ⟨w1, hw1, h⟩ := bV_some h
  refine ye_callV (As := [.int l1]) (rest := []) 0 (Or.inl rfl) rfl rfl rfl (Nat.le_of_ble_eq_true rfl) (M1.obj fa0 ⟨rfl, rfl⟩) ((m_X12_isDown (d := d + 0) (T := T) N S1 l1 a0 fa0 hw1) y1 sz M1) ?_
  refine ye_if_eq rfl (fun h1 => ?_) (fun h1 => ?_)
  · replace h := yiT h1 h
    exact w_X12_lanes_42 (prim := prim) (d := d) N S1 y1 lv M1 h
  · replace h := yiN h1 h
    refine ye_iload rfl g2 ?_
    refine ye_p rfl rfl ?_
    refine ye_p rfl rfl ?_
    obtain ⟨w2, hw2, h⟩ := bV_some h
    refine ye_callS (As := [.int l2, .int 1, .int 99]) (rest := []) 1 (Or.inl rfl) rfl rfl rfl (Nat.le_of_ble_eq_true rfl) ((m_X12_in (d := d + 2) (T := T) N S1 l2 1 99 hw2) y1 sz M1) ?_
    refine ye_if_eq rfl (fun h2 => ?_) (fun h2 => ?_)
    · replace h := yiT h2 h
      exact w_X12_lanes_42 (prim := prim) (d := d) N S1 y1 lv M1 h
    · replace h := yiN h2 h
      refine ye_iload rfl g3 ?_
      refine ye_p rfl rfl ?_
      refine ye_p rfl rfl ?_
      obtain ⟨w3, hw3, h⟩ := bV_some h
      refine ye_callS (As := [.int l3, .int 1, .int 99]) (rest := []) 1 (Or.inl rfl) rfl rfl rfl (Nat.le_of_ble_eq_true rfl) ((m_X12_in (d := d + 2) (T := T) N S1 l3 1 99 hw3) y1 sz M1) ?_
      refine ye_if_eq rfl (fun h3 => ?_) (fun h3 => ?_)
      · replace h := yiT h3 h
        exact w_X12_lanes_42 (prim := prim) (d := d) N S1 y1 lv M1 h
      · replace h := yiN h3 h
        refine ye_aload rfl g0 ?_
        refine ye_iload rfl g1 ?_
        obtain ⟨w4, hw4, h⟩ := bV_some h
        refine ye_callV (As := [.int l1]) (rest := []) 0 (Or.inl rfl) rfl rfl rfl (Nat.le_of_ble_eq_true rfl) (M1.obj fa0 ⟨rfl, rfl⟩) ((m_X12_cells (d := d + 1) (T := T) N S1 l1 a0 fa0 hw4) y1 sz M1) ?_
        refine ye_p rfl rfl ?_
        refine ye_icmp_ge rfl (fun h4 => ?_) (fun h4 => ?_)
        · replace h := yiT h4 h
          refine ye_p rfl rfl ?_
          refine ye_p rfl rfl ?_
          have g0_z1 := xG_o1 (i := 4) (v := .int ((-1))) g0 rfl
          have g1_z1 := xG_o1 (i := 4) (v := .int ((-1))) g1 rfl
          have g2_z1 := xG_o1 (i := 4) (v := .int ((-1))) g2 rfl
          have g3_z1 := xG_o1 (i := 4) (v := .int ((-1))) g3 rfl
          have g4_z1 := xG_same lv 4 (.int ((-1)))
          generalize xSt1 lv 4 (.int ((-1))) = lvz1 at g0_z1 g1_z1 g2_z1 g3_z1 g4_z1 ⊢
          refine ye_p rfl rfl ?_
          refine ye_p rfl rfl ?_
          have g0_z2 := xG_o2 (i := 5) (v := .long 0) g0_z1 rfl
          have g1_z2 := xG_o2 (i := 5) (v := .long 0) g1_z1 rfl
          have g2_z2 := xG_o2 (i := 5) (v := .long 0) g2_z1 rfl
          have g3_z2 := xG_o2 (i := 5) (v := .long 0) g3_z1 rfl
          have g4_z2 := xG_o2 (i := 5) (v := .long 0) g4_z1 rfl
          have g5_z2 := xG_same2 lvz1 5 (.long 0)
          generalize xSt2 lvz1 5 (.long 0) = lvz2 at g0_z2 g1_z2 g2_z2 g3_z2 g4_z2 g5_z2 ⊢
          refine ye_p rfl rfl ?_
          refine ye_p rfl rfl ?_
          have g0_z3 := xG_o1 (i := 7) (v := .int 0) g0_z2 rfl
          have g1_z3 := xG_o1 (i := 7) (v := .int 0) g1_z2 rfl
          have g2_z3 := xG_o1 (i := 7) (v := .int 0) g2_z2 rfl
          have g3_z3 := xG_o1 (i := 7) (v := .int 0) g3_z2 rfl
          have g4_z3 := xG_o1 (i := 7) (v := .int 0) g4_z2 rfl
          have g5_z3 := xG_o1 (i := 7) (v := .int 0) g5_z2 rfl
          have g7_z3 := xG_same lvz2 7 (.int 0)
          generalize xSt1 lvz2 7 (.int 0) = lvz3 at g0_z3 g1_z3 g2_z3 g3_z3 g4_z3 g5_z3 g7_z3 ⊢
          exact w_X12_lanes_53 (prim := prim) (d := d) N N S1 l1 l2 l3 ((-1)) 0 0 y1 lvz3 a0 fa0 g0_z3 g1_z3 g2_z3 g3_z3 g4_z3 g5_z3 g7_z3 M1 h
        · replace h := yiN h4 h
          exact w_X12_lanes_42 (prim := prim) (d := d) N S1 y1 lv M1 h
def f_X12_lanes (N : Nat) (S : yS) (xl1 : Int32) (xl2 : Int32) (xl3 : Int32) : Option (Int32 × yS) := f_X12_lanes_0 N S xl1 xl2 xl3
theorem m_X12_lanes {F : xH} {ev : xEv} {prim : xRel} {d : Nat} {T : yT} {v : Int32} {S' : yS} (N : Nat) (S : yS) (xl1 : Int32) (xl2 : Int32) (xl3 : Int32) (a0 : Nat) (fa0 : yAt T 12 8 0 a0) (h : f_X12_lanes N S xl1 xl2 xl3 = some (v, S')) : ykQ [8] F ev prim (d + 4) 284 T S [.ref a0, .int xl1, .int xl2, .int xl3] (some (.int v)) S' :=
  ykQ.of (pg_284 ev) mi_284 (Nat.le_of_ble_eq_true rfl) (fun hp sz hM => w_X12_lanes_0 (prim := prim) (d := d) N S xl1 xl2 xl3 hp _ a0 fa0 rfl rfl rfl rfl hM h)

def f_X12_needsOne_56 (N : Nat) (S : yS) (t0 : Int32) : Option Int32 := gP (t0 = 0 ∨ t0 = 1) (some t0)
set_option maxHeartbeats 4000000 in
set_option maxRecDepth 40000 in
theorem w_X12_needsOne_56 {F : xH} {ev : xEv} {prim : xRel} {d sz : Nat} {T : yT} {v : Int32} {hp : xH} (N : Nat) (S : yS) (t0 : Int32) (lv : xLv) (hM : cR [8] F ev T S hp) (h : f_X12_needsOne_56 N S t0 = some v) : yWE ev.2.1 (xstr ev) (xCalls ev xmi (xprog ev) prim (d + 1)) (pX12_needsOne ev) (56, lv, [.int t0], hp, sz, 0) (ypP hp sz (.int v)) := by
  unfold f_X12_needsOne_56 at h
  obtain ⟨i1, h⟩ := gP_some h
  exact ye_ret rfl (if_pos (zb_nar i1)) (rP h)

def f_X12_needsOne_51 (N : Nat) (S : yS) : Option Int32 := f_X12_needsOne_56 N S 1
set_option maxHeartbeats 4000000 in
set_option maxRecDepth 40000 in
theorem w_X12_needsOne_51 {F : xH} {ev : xEv} {prim : xRel} {d sz : Nat} {T : yT} {v : Int32} {hp : xH} (N : Nat) (S : yS) (lv : xLv) (hM : cR [8] F ev T S hp) (h : f_X12_needsOne_51 N S = some v) : yWE ev.2.1 (xstr ev) (xCalls ev xmi (xprog ev) prim (d + 1)) (pX12_needsOne ev) (51, lv, [], hp, sz, 0) (ypP hp sz (.int v)) := by
  unfold f_X12_needsOne_51 at h
  refine ye_p rfl rfl ?_
  refine ye_p rfl rfl ?_
  exact w_X12_needsOne_56 (prim := prim) (d := d) N S 1 lv hM h

def f_X12_needsOne_55 (N : Nat) (S : yS) : Option Int32 := f_X12_needsOne_56 N S 0
set_option maxHeartbeats 4000000 in
set_option maxRecDepth 40000 in
theorem w_X12_needsOne_55 {F : xH} {ev : xEv} {prim : xRel} {d sz : Nat} {T : yT} {v : Int32} {hp : xH} (N : Nat) (S : yS) (lv : xLv) (hM : cR [8] F ev T S hp) (h : f_X12_needsOne_55 N S = some v) : yWE ev.2.1 (xstr ev) (xCalls ev xmi (xprog ev) prim (d + 1)) (pX12_needsOne ev) (55, lv, [], hp, sz, 0) (ypP hp sz (.int v)) := by
  unfold f_X12_needsOne_55 at h
  refine ye_p rfl rfl ?_
  exact w_X12_needsOne_56 (prim := prim) (d := d) N S 0 lv hM h

def f_X12_needsOne_0 (N : Nat) (S : yS) (l1 : Int32) : Option Int32 := bV (f_X12_plane N S l1 0) fun w1 => if w1 = ((-1)) then f_X12_needsOne_55 N S else bV (f_X12_plane N S l1 9) fun w2 => gA 2305 0 fun j1 => if (S.2.1 8 48 j1) < w2 then f_X12_needsOne_55 N S else bV (f_X12_plane N S l1 4) fun w3 => if 0 < w3 then f_X12_needsOne_51 N S else bV (f_X12_plane N S l1 5) fun w4 => bV (f_X12_plane N S l1 6) fun w5 => if w4 < w5 then f_X12_needsOne_55 N S else f_X12_needsOne_51 N S
set_option maxHeartbeats 4000000 in
set_option maxRecDepth 40000 in
theorem w_X12_needsOne_0 {F : xH} {ev : xEv} {prim : xRel} {d sz : Nat} {T : yT} {v : Int32} {hp : xH} (N : Nat) (S : yS) (l1 : Int32) (lv : xLv) (a0 : Nat) (fa0 : yAt T 12 8 0 a0) (g0 : xG lv 0 = some (.ref a0)) (g1 : xG lv 1 = some (.int l1)) (hM : cR [8] F ev T S hp) (h : f_X12_needsOne_0 N S l1 = some v) : yWE ev.2.1 (xstr ev) (xCalls ev xmi (xprog ev) prim (d + 1)) (pX12_needsOne ev) (0, lv, [], hp, sz, 0) (ypP hp sz (.int v)) := by
  unfold f_X12_needsOne_0 at h
  refine ye_aload rfl g0 ?_
  refine ye_iload rfl g1 ?_
  refine ye_p rfl rfl ?_
  obtain ⟨w1, hw1, h⟩ := bV_some h
  refine ye_callV (As := [.int l1, .int 0]) (rest := []) 0 (Or.inl rfl) rfl rfl rfl (Nat.le_of_ble_eq_true rfl) (hM.obj fa0 ⟨rfl, rfl⟩) ((m_X12_plane (d := d + 0) (T := T) N S l1 0 a0 fa0 hw1) hp sz hM) ?_
  refine ye_p rfl rfl ?_
  refine ye_icmp_eq rfl (fun h1 => ?_) (fun h1 => ?_)
  · replace h := yiT h1 h
    exact w_X12_needsOne_55 (prim := prim) (d := d) N S lv hM h
  · replace h := yiN h1 h
    refine ye_aload rfl g0 ?_
    refine ye_iload rfl g1 ?_
    refine ye_p rfl rfl ?_
    obtain ⟨w2, hw2, h⟩ := bV_some h
    refine ye_callV (As := [.int l1, .int 9]) (rest := []) 0 (Or.inl rfl) rfl rfl rfl (Nat.le_of_ble_eq_true rfl) (hM.obj fa0 ⟨rfl, rfl⟩) ((m_X12_plane (d := d + 0) (T := T) N S l1 9 a0 fa0 hw2) hp sz hM) ?_
    refine ye_aload rfl g0 ?_
    refine ye_getr rfl (hM.obj fa0 ⟨rfl, rfl⟩) rfl (fun cx1 ecx1 => ?_)
    have fcx1 := yAt.row fa0 ecx1
    refine ye_p rfl rfl ?_
    obtain ⟨j1, ej1, ij1, h⟩ := gA_some h
    refine yj_ald rfl (hM.arr fcx1 yr_12_48) ij1 ej1 ?_
    refine ye_icmp_gt rfl (fun h2 => ?_) (fun h2 => ?_)
    · replace h := yiT h2 h
      exact w_X12_needsOne_55 (prim := prim) (d := d) N S lv hM h
    · replace h := yiN h2 h
      refine ye_aload rfl g0 ?_
      refine ye_iload rfl g1 ?_
      refine ye_p rfl rfl ?_
      obtain ⟨w3, hw3, h⟩ := bV_some h
      refine ye_callV (As := [.int l1, .int 4]) (rest := []) 0 (Or.inl rfl) rfl rfl rfl (Nat.le_of_ble_eq_true rfl) (hM.obj fa0 ⟨rfl, rfl⟩) ((m_X12_plane (d := d + 0) (T := T) N S l1 4 a0 fa0 hw3) hp sz hM) ?_
      refine ye_if_gt rfl (fun h3 => ?_) (fun h3 => ?_)
      · replace h := yiT h3 h
        exact w_X12_needsOne_51 (prim := prim) (d := d) N S lv hM h
      · replace h := yiN h3 h
        refine ye_aload rfl g0 ?_
        refine ye_iload rfl g1 ?_
        refine ye_p rfl rfl ?_
        obtain ⟨w4, hw4, h⟩ := bV_some h
        refine ye_callV (As := [.int l1, .int 5]) (rest := []) 0 (Or.inl rfl) rfl rfl rfl (Nat.le_of_ble_eq_true rfl) (hM.obj fa0 ⟨rfl, rfl⟩) ((m_X12_plane (d := d + 0) (T := T) N S l1 5 a0 fa0 hw4) hp sz hM) ?_
        refine ye_aload rfl g0 ?_
        refine ye_iload rfl g1 ?_
        refine ye_p rfl rfl ?_
        obtain ⟨w5, hw5, h⟩ := bV_some h
        refine ye_callV (As := [.int l1, .int 6]) (rest := [.int w4]) 0 (Or.inl rfl) rfl rfl rfl (Nat.le_of_ble_eq_true rfl) (hM.obj fa0 ⟨rfl, rfl⟩) ((m_X12_plane (d := d + 0) (T := T) N S l1 6 a0 fa0 hw5) hp sz hM) ?_
        refine ye_icmp_lt rfl (fun h4 => ?_) (fun h4 => ?_)
        · replace h := yiT h4 h
          exact w_X12_needsOne_55 (prim := prim) (d := d) N S lv hM h
        · replace h := yiN h4 h
          exact w_X12_needsOne_51 (prim := prim) (d := d) N S lv hM h
def f_X12_needsOne (N : Nat) (S : yS) (xl1 : Int32) : Option Int32 := f_X12_needsOne_0 N S xl1
theorem m_X12_needsOne {F : xH} {ev : xEv} {prim : xRel} {d : Nat} {T : yT} {v : Int32} (N : Nat) (S : yS) (xl1 : Int32) (a0 : Nat) (fa0 : yAt T 12 8 0 a0) (h : f_X12_needsOne N S xl1 = some v) : ykP [8] F ev prim (d + 2) 285 T S [.ref a0, .int xl1] (.int v) :=
  ykP.of (pg_285 ev) mi_285 (Nat.le_of_ble_eq_true rfl) (fun hp sz hM => w_X12_needsOne_0 (prim := prim) (d := d) N S xl1 _ a0 fa0 rfl rfl hM h)

def f_X12_findNeedy_46 (N : Nat) (k7 : yS → Int32 → Option (Int32 × yS)) (S : yS) (l1 : Int32) : Option (Int32 × yS) := k7 S (l1 + 1)
set_option maxHeartbeats 4000000 in
set_option maxRecDepth 40000 in
theorem w_X12_findNeedy_46 {F : xH} {ev : xEv} {prim : xRel} {d sz : Nat} {T : yT} {v : Int32} {S' : yS} (N : Nat) (k7 : yS → Int32 → Option (Int32 × yS)) (u7 : ∀ (S : yS) (l1 : Int32) (hp : xH) (lv : xLv) (a0 : Nat) (fa0 : yAt T 12 8 0 a0) (g0 : xG lv 0 = some (.ref a0)) (g1 : xG lv 1 = some (.int l1)) (hM : cR [8] F ev T S hp) (h : k7 S l1 = some (v, S')), yWE ev.2.1 (xstr ev) (xCalls ev xmi (xprog ev) prim (d + 2)) (pX12_findNeedy ev) (7, lv, [], hp, sz, 0) (ypQ [8] F ev T sz (some (.int v)) S')) (S : yS) (l1 : Int32) (hp : xH) (lv : xLv) (a0 : Nat) (fa0 : yAt T 12 8 0 a0) (g0 : xG lv 0 = some (.ref a0)) (g1 : xG lv 1 = some (.int l1)) (hM : cR [8] F ev T S hp) (h : f_X12_findNeedy_46 N k7 S l1 = some (v, S')) : yWE ev.2.1 (xstr ev) (xCalls ev xmi (xprog ev) prim (d + 2)) (pX12_findNeedy ev) (46, lv, [], hp, sz, 0) (ypQ [8] F ev T sz (some (.int v)) S') := by
  unfold f_X12_findNeedy_46 at h
  refine ye_iinc rfl g1 ?_
  have g0_z1 := xG_o1 (i := 1) (v := .int (l1 + 1)) g0 rfl
  have g1_z1 := xG_same lv 1 (.int (l1 + 1))
  generalize xSt1 lv 1 (.int (l1 + 1)) = lvz1 at g0_z1 g1_z1 ⊢
  refine ye_p rfl rfl ?_
  exact u7 S (l1 + 1) hp lvz1 a0 fa0 g0_z1 g1_z1 hM h

def f_X12_findNeedy_7 : Nat → Nat → yS → Int32 → Option (Int32 × yS)
  | 0, _, _, _ => none
  | n + 1, N, S, l1 => if (S.1 8 21) ≤ l1 then some (S.1 8 59, S) else bV (f_X12_needsOne N S l1) fun w1 => if ¬ w1 = 0 then gA 8 (S.1 8 59) fun j1 => sq (yA S 8 58 (upd (S.2.1 8 58) j1 l1)) fun S1 => sq (yI S1 8 59 ((S1.1 8 59) + 1)) fun S2 => f_X12_findNeedy_46 N (fun S l1 => f_X12_findNeedy_7 n N S l1) S2 l1 else f_X12_findNeedy_46 N (fun S l1 => f_X12_findNeedy_7 n N S l1) S l1
set_option maxHeartbeats 4000000 in
set_option maxRecDepth 40000 in
theorem w_X12_findNeedy_7 {F : xH} {ev : xEv} {prim : xRel} {d sz : Nat} {T : yT} {v : Int32} {S' : yS} (N : Nat) (n : Nat) : ∀ (S : yS) (l1 : Int32) (hp : xH) (lv : xLv) (a0 : Nat) (fa0 : yAt T 12 8 0 a0) (g0 : xG lv 0 = some (.ref a0)) (g1 : xG lv 1 = some (.int l1)) (hM : cR [8] F ev T S hp) (h : f_X12_findNeedy_7 n N S l1 = some (v, S')), yWE ev.2.1 (xstr ev) (xCalls ev xmi (xprog ev) prim (d + 2)) (pX12_findNeedy ev) (7, lv, [], hp, sz, 0) (ypQ [8] F ev T sz (some (.int v)) S') := by
  induction n with
  | zero => intro S l1 hp lv a0 fa0 g0 g1 hM h; exact n_some h
  | succ n ih =>
    intro S l1 hp lv a0 fa0 g0 g1 hM h
    unfold f_X12_findNeedy_7 at h
    refine ye_iload rfl g1 ?_
    refine ye_aload rfl g0 ?_
    refine ye_getf rfl (hM.obj fa0 ⟨rfl, rfl⟩) rfl ?_
    refine ye_icmp_ge rfl (fun h1 => ?_) (fun h1 => ?_)
    · replace h := yiT h1 h
      refine ye_aload rfl g0 ?_
      refine ye_getf rfl (hM.obj fa0 ⟨rfl, rfl⟩) rfl ?_
      exact ye_ret rfl rfl (rQ h hM)
    · replace h := yiN h1 h
      refine ye_aload rfl g0 ?_
      refine ye_iload rfl g1 ?_
      obtain ⟨w1, hw1, h⟩ := bV_some h
      refine ye_callV (As := [.int l1]) (rest := []) 0 (Or.inl rfl) rfl rfl rfl (Nat.le_of_ble_eq_true rfl) (hM.obj fa0 ⟨rfl, rfl⟩) ((m_X12_needsOne (d := d + 0) (T := T) N S l1 a0 fa0 hw1) hp sz hM) ?_
      refine ye_if_ne rfl (fun h2 => ?_) (fun h2 => ?_)
      · replace h := yiT h2 h
        refine ye_aload rfl g0 ?_
        refine ye_getr rfl (hM.obj fa0 ⟨rfl, rfl⟩) rfl (fun cx1 ecx1 => ?_)
        have fcx1 := yAt.row fa0 ecx1
        refine ye_aload rfl g0 ?_
        refine ye_getf rfl (hM.obj fa0 ⟨rfl, rfl⟩) rfl ?_
        refine ye_iload rfl g1 ?_
        obtain ⟨j1, ej1, ij1, h⟩ := gA_some h
        obtain ⟨S1, eS1, h⟩ := sq_some h
        refine yw_ast rfl hM fcx1 yr_12_58 (by decide) ij1 ej1 eS1 (fun y1 M1 => ?_)
        refine ye_aload rfl g0 ?_
        refine ye_p rfl rfl ?_
        refine ye_getf rfl (M1.obj fa0 ⟨rfl, rfl⟩) rfl ?_
        refine ye_p rfl rfl ?_
        refine ye_p rfl rfl ?_
        obtain ⟨S2, eS2, h⟩ := sq_some h
        refine yw_putI rfl M1 fa0 rfl ⟨rfl, rfl⟩ (Nat.le_of_ble_eq_true rfl) rfl rfl (ys_12_59 ev T _ ((S1.1 8 59) + 1)) (fun q => absurd q (by decide)) eS2 (fun y2 M2 => ?_)
        exact w_X12_findNeedy_46 (prim := prim) (d := d) N (fun S l1 => f_X12_findNeedy_7 n N S l1) ih S2 l1 y2 lv a0 fa0 g0 g1 M2 h
      · replace h := yiN h2 h
        refine ye_p rfl rfl ?_
        exact w_X12_findNeedy_46 (prim := prim) (d := d) N (fun S l1 => f_X12_findNeedy_7 n N S l1) ih S l1 hp lv a0 fa0 g0 g1 hM h

def f_X12_findNeedy_0 (N : Nat) (S : yS) : Option (Int32 × yS) := sq (yI S 8 59 0) fun S1 => f_X12_findNeedy_7 N N S1 0
set_option maxHeartbeats 4000000 in
set_option maxRecDepth 40000 in
theorem w_X12_findNeedy_0 {F : xH} {ev : xEv} {prim : xRel} {d sz : Nat} {T : yT} {v : Int32} {S' : yS} (N : Nat) (S : yS) (hp : xH) (lv : xLv) (a0 : Nat) (fa0 : yAt T 12 8 0 a0) (g0 : xG lv 0 = some (.ref a0)) (hM : cR [8] F ev T S hp) (h : f_X12_findNeedy_0 N S = some (v, S')) : yWE ev.2.1 (xstr ev) (xCalls ev xmi (xprog ev) prim (d + 2)) (pX12_findNeedy ev) (0, lv, [], hp, sz, 0) (ypQ [8] F ev T sz (some (.int v)) S') := by
  unfold f_X12_findNeedy_0 at h
  refine ye_aload rfl g0 ?_
  refine ye_p rfl rfl ?_
  obtain ⟨S1, eS1, h⟩ := sq_some h
  refine yw_putI rfl hM fa0 rfl ⟨rfl, rfl⟩ (Nat.le_of_ble_eq_true rfl) rfl rfl (ys_12_59 ev T _ 0) (fun q => absurd q (by decide)) eS1 (fun y1 M1 => ?_)
  refine ye_p rfl rfl ?_
  refine ye_p rfl rfl ?_
  have g0_z1 := xG_o1 (i := 1) (v := .int 0) g0 rfl
  have g1_z1 := xG_same lv 1 (.int 0)
  generalize xSt1 lv 1 (.int 0) = lvz1 at g0_z1 g1_z1 ⊢
  exact w_X12_findNeedy_7 (prim := prim) (d := d) N N S1 0 y1 lvz1 a0 fa0 g0_z1 g1_z1 M1 h
def f_X12_findNeedy (N : Nat) (S : yS) : Option (Int32 × yS) := f_X12_findNeedy_0 N S
theorem m_X12_findNeedy {F : xH} {ev : xEv} {prim : xRel} {d : Nat} {T : yT} {v : Int32} {S' : yS} (N : Nat) (S : yS) (a0 : Nat) (fa0 : yAt T 12 8 0 a0) (h : f_X12_findNeedy N S = some (v, S')) : ykQ [8] F ev prim (d + 3) 286 T S [.ref a0] (some (.int v)) S' :=
  ykQ.of (pg_286 ev) mi_286 (Nat.le_of_ble_eq_true rfl) (fun hp sz hM => w_X12_findNeedy_0 (prim := prim) (d := d) N S hp _ a0 fa0 rfl hM h)

def f_X12_needs_0 (N : Nat) (S : yS) : Option (Int32 × yS) := sq (yI S 8 47 0) fun S1 => bS (f_X12_findNeedy N S1) fun w1 S2 => some (w1, S2)
set_option maxHeartbeats 4000000 in
set_option maxRecDepth 40000 in
theorem w_X12_needs_0 {F : xH} {ev : xEv} {prim : xRel} {d sz : Nat} {T : yT} {v : Int32} {S' : yS} (N : Nat) (S : yS) (hp : xH) (lv : xLv) (a0 : Nat) (fa0 : yAt T 12 8 0 a0) (g0 : xG lv 0 = some (.ref a0)) (hM : cR [8] F ev T S hp) (h : f_X12_needs_0 N S = some (v, S')) : yWE ev.2.1 (xstr ev) (xCalls ev xmi (xprog ev) prim (d + 3)) (pX12_needs ev) (0, lv, [], hp, sz, 0) (ypQ [8] F ev T sz (some (.int v)) S') := by
  unfold f_X12_needs_0 at h
  refine ye_aload rfl g0 ?_
  refine ye_p rfl rfl ?_
  obtain ⟨S1, eS1, h⟩ := sq_some h
  refine yw_putI rfl hM fa0 rfl ⟨rfl, rfl⟩ (Nat.le_of_ble_eq_true rfl) rfl rfl (ys_12_47 ev T _ 0) (fun q => absurd q (by decide)) eS1 (fun y1 M1 => ?_)
  refine ye_aload rfl g0 ?_
  obtain ⟨w1, S2, hw1, h⟩ := bS_some h
  obtain ⟨y2, cy2, M2⟩ := (m_X12_findNeedy (d := d + 0) (T := T) N S1 a0 fa0 hw1) y1 sz M1
  refine ye_callV (As := []) (rest := []) 0 (Or.inl rfl) rfl rfl rfl (Nat.le_of_ble_eq_true rfl) (M1.obj fa0 ⟨rfl, rfl⟩) cy2 ?_
  exact ye_ret rfl rfl (rQ h M2)
def f_X12_needs (N : Nat) (S : yS) : Option (Int32 × yS) := f_X12_needs_0 N S
theorem m_X12_needs {F : xH} {ev : xEv} {prim : xRel} {d : Nat} {T : yT} {v : Int32} {S' : yS} (N : Nat) (S : yS) (a0 : Nat) (fa0 : yAt T 12 8 0 a0) (h : f_X12_needs N S = some (v, S')) : ykQ [8] F ev prim (d + 4) 287 T S [.ref a0] (some (.int v)) S' :=
  ykQ.of (pg_287 ev) mi_287 (Nat.le_of_ble_eq_true rfl) (fun hp sz hM => w_X12_needs_0 (prim := prim) (d := d) N S hp _ a0 fa0 rfl hM h)

def f_X12_quarters_33 (N : Nat) (S : yS) (t0 : Int32) : Option Int32 := some t0
set_option maxHeartbeats 4000000 in
set_option maxRecDepth 40000 in
theorem w_X12_quarters_33 {F : xH} {ev : xEv} {prim : xRel} {d sz : Nat} {T : yT} {v : Int32} {hp : xH} (N : Nat) (S : yS) (t0 : Int32) (lv : xLv) (hM : cR [8] F ev T S hp) (h : f_X12_quarters_33 N S t0 = some v) : yWE ev.2.1 (xstr ev) (xCalls ev xmi (xprog ev) prim (d + 1)) (pX12_quarters ev) (33, lv, [.int t0], hp, sz, 0) (ypP hp sz (.int v)) := by
  unfold f_X12_quarters_33 at h
  exact ye_ret rfl rfl (rP h)

def f_X12_quarters_0 (N : Nat) (S : yS) (l1 : Int32) (l2 : Int32) : Option Int32 := bV (f_X12_plane N S l2 0) fun w1 => gA 64 ((8 * l1) + w1) fun j1 => if (S.2.1 8 10 j1) < 268435456 then bV (f_X12_up N S (S.2.1 8 10 j1) 8) fun w2 => f_X12_quarters_33 N S w2 else f_X12_quarters_33 N S ((-1))
set_option maxHeartbeats 4000000 in
set_option maxRecDepth 40000 in
theorem w_X12_quarters_0 {F : xH} {ev : xEv} {prim : xRel} {d sz : Nat} {T : yT} {v : Int32} {hp : xH} (N : Nat) (S : yS) (l1 : Int32) (l2 : Int32) (lv : xLv) (a0 : Nat) (fa0 : yAt T 12 8 0 a0) (g0 : xG lv 0 = some (.ref a0)) (g1 : xG lv 1 = some (.int l1)) (g2 : xG lv 2 = some (.int l2)) (hM : cR [8] F ev T S hp) (h : f_X12_quarters_0 N S l1 l2 = some v) : yWE ev.2.1 (xstr ev) (xCalls ev xmi (xprog ev) prim (d + 1)) (pX12_quarters ev) (0, lv, [], hp, sz, 0) (ypP hp sz (.int v)) := by
  unfold f_X12_quarters_0 at h
  refine ye_aload rfl g0 ?_
  refine ye_getr rfl (hM.obj fa0 ⟨rfl, rfl⟩) rfl (fun cx1 ecx1 => ?_)
  have fcx1 := yAt.row fa0 ecx1
  refine ye_p rfl rfl ?_
  refine ye_iload rfl g1 ?_
  refine ye_p rfl rfl ?_
  refine ye_aload rfl g0 ?_
  refine ye_iload rfl g2 ?_
  refine ye_p rfl rfl ?_
  obtain ⟨w1, hw1, h⟩ := bV_some h
  refine ye_callV (As := [.int l2, .int 0]) (rest := [.int (8 * l1), .ref cx1]) 0 (Or.inl rfl) rfl rfl rfl (Nat.le_of_ble_eq_true rfl) (hM.obj fa0 ⟨rfl, rfl⟩) ((m_X12_plane (d := d + 0) (T := T) N S l2 0 a0 fa0 hw1) hp sz hM) ?_
  refine ye_p rfl rfl ?_
  obtain ⟨j1, ej1, ij1, h⟩ := gA_some h
  refine yj_ald rfl (hM.arr fcx1 yr_12_10) ij1 ej1 ?_
  refine ye_p rfl rfl ?_
  have g3_z1 := xG_same lv 3 (.int (S.2.1 8 10 j1))
  generalize xSt1 lv 3 (.int (S.2.1 8 10 j1)) = lvz1 at g3_z1 ⊢
  refine ye_iload rfl g3_z1 ?_
  refine ye_p rfl rfl ?_
  refine ye_icmp_lt rfl (fun h1 => ?_) (fun h1 => ?_)
  · replace h := yiT h1 h
    refine ye_iload rfl g3_z1 ?_
    refine ye_p rfl rfl ?_
    obtain ⟨w2, hw2, h⟩ := bV_some h
    refine ye_callS (As := [.int (S.2.1 8 10 j1), .int 8]) (rest := []) 1 (Or.inl rfl) rfl rfl rfl (Nat.le_of_ble_eq_true rfl) ((m_X12_up (d := d + 0) (T := T) N S (S.2.1 8 10 j1) 8 hw2) hp sz hM) ?_
    exact w_X12_quarters_33 (prim := prim) (d := d) N S w2 lvz1 hM h
  · replace h := yiN h1 h
    refine ye_p rfl rfl ?_
    refine ye_p rfl rfl ?_
    exact w_X12_quarters_33 (prim := prim) (d := d) N S ((-1)) lvz1 hM h
def f_X12_quarters (N : Nat) (S : yS) (xl1 : Int32) (xl2 : Int32) : Option Int32 := f_X12_quarters_0 N S xl1 xl2
theorem m_X12_quarters {F : xH} {ev : xEv} {prim : xRel} {d : Nat} {T : yT} {v : Int32} (N : Nat) (S : yS) (xl1 : Int32) (xl2 : Int32) (a0 : Nat) (fa0 : yAt T 12 8 0 a0) (h : f_X12_quarters N S xl1 xl2 = some v) : ykP [8] F ev prim (d + 2) 288 T S [.ref a0, .int xl1, .int xl2] (.int v) :=
  ykP.of (pg_288 ev) mi_288 (Nat.le_of_ble_eq_true rfl) (fun hp sz hM => w_X12_quarters_0 (prim := prim) (d := d) N S xl1 xl2 _ a0 fa0 rfl rfl rfl hM h)

def f_X12_putAside_2 : Nat → Nat → yS → Int32 → Option (Int32 × yS)
  | 0, _, _, _ => none
  | n + 1, N, S, l1 => if 2305 ≤ l1 then some (0, S) else gA 2305 l1 fun j1 => gA 2305 l1 fun j2 => sq (yA S 8 49 (upd (S.2.1 8 49) j2 (S.2.1 8 48 j1))) fun S1 => f_X12_putAside_2 n N S1 (l1 + 1)
set_option maxHeartbeats 4000000 in
set_option maxRecDepth 40000 in
theorem w_X12_putAside_2 {F : xH} {ev : xEv} {prim : xRel} {d sz : Nat} {T : yT} {v : Int32} {S' : yS} (N : Nat) (n : Nat) : ∀ (S : yS) (l1 : Int32) (hp : xH) (lv : xLv) (a0 : Nat) (fa0 : yAt T 12 8 0 a0) (g0 : xG lv 0 = some (.ref a0)) (g1 : xG lv 1 = some (.int l1)) (hM : cR [8] F ev T S hp) (h : f_X12_putAside_2 n N S l1 = some (v, S')), yWE ev.2.1 (xstr ev) (xCalls ev xmi (xprog ev) prim (d + 0)) (pX12_putAside ev) (2, lv, [], hp, sz, 0) (ypQ [8] F ev T sz (none) S') := by
  induction n with
  | zero => intro S l1 hp lv a0 fa0 g0 g1 hM h; exact n_some h
  | succ n ih =>
    intro S l1 hp lv a0 fa0 g0 g1 hM h
    unfold f_X12_putAside_2 at h
    refine ye_iload rfl g1 ?_
    refine ye_p rfl rfl ?_
    refine ye_icmp_ge rfl (fun h1 => ?_) (fun h1 => ?_)
    · replace h := yiT h1 h
      exact ye_ret rfl rfl (rQV h hM)
    · replace h := yiN h1 h
      refine ye_aload rfl g0 ?_
      refine ye_getr rfl (hM.obj fa0 ⟨rfl, rfl⟩) rfl (fun cx1 ecx1 => ?_)
      have fcx1 := yAt.row fa0 ecx1
      refine ye_iload rfl g1 ?_
      refine ye_aload rfl g0 ?_
      refine ye_getr rfl (hM.obj fa0 ⟨rfl, rfl⟩) rfl (fun cx2 ecx2 => ?_)
      have fcx2 := yAt.row fa0 ecx2
      refine ye_iload rfl g1 ?_
      obtain ⟨j1, ej1, ij1, h⟩ := gA_some h
      refine yj_ald rfl (hM.arr fcx2 yr_12_48) ij1 ej1 ?_
      obtain ⟨j2, ej2, ij2, h⟩ := gA_some h
      obtain ⟨S1, eS1, h⟩ := sq_some h
      refine yw_ast rfl hM fcx1 yr_12_49 (by decide) ij2 ej2 eS1 (fun y1 M1 => ?_)
      refine ye_iinc rfl g1 ?_
      have g0_z1 := xG_o1 (i := 1) (v := .int (l1 + 1)) g0 rfl
      have g1_z1 := xG_same lv 1 (.int (l1 + 1))
      generalize xSt1 lv 1 (.int (l1 + 1)) = lvz1 at g0_z1 g1_z1 ⊢
      refine ye_p rfl rfl ?_
      exact ih S1 (l1 + 1) y1 lvz1 a0 fa0 g0_z1 g1_z1 M1 h

def f_X12_putAside_0 (N : Nat) (S : yS) : Option (Int32 × yS) := f_X12_putAside_2 N N S 0
set_option maxHeartbeats 4000000 in
set_option maxRecDepth 40000 in
theorem w_X12_putAside_0 {F : xH} {ev : xEv} {prim : xRel} {d sz : Nat} {T : yT} {v : Int32} {S' : yS} (N : Nat) (S : yS) (hp : xH) (lv : xLv) (a0 : Nat) (fa0 : yAt T 12 8 0 a0) (g0 : xG lv 0 = some (.ref a0)) (hM : cR [8] F ev T S hp) (h : f_X12_putAside_0 N S = some (v, S')) : yWE ev.2.1 (xstr ev) (xCalls ev xmi (xprog ev) prim (d + 0)) (pX12_putAside ev) (0, lv, [], hp, sz, 0) (ypQ [8] F ev T sz (none) S') := by
  unfold f_X12_putAside_0 at h
  refine ye_p rfl rfl ?_
  refine ye_p rfl rfl ?_
  have g0_z1 := xG_o1 (i := 1) (v := .int 0) g0 rfl
  have g1_z1 := xG_same lv 1 (.int 0)
  generalize xSt1 lv 1 (.int 0) = lvz1 at g0_z1 g1_z1 ⊢
  exact w_X12_putAside_2 (prim := prim) (d := d) N N S 0 hp lvz1 a0 fa0 g0_z1 g1_z1 hM h
def f_X12_putAside (N : Nat) (S : yS) : Option (Int32 × yS) := f_X12_putAside_0 N S
theorem m_X12_putAside {F : xH} {ev : xEv} {prim : xRel} {d : Nat} {T : yT} {v : Int32} {S' : yS} (N : Nat) (S : yS) (a0 : Nat) (fa0 : yAt T 12 8 0 a0) (h : f_X12_putAside N S = some (v, S')) : ykQ [8] F ev prim (d + 1) 291 T S [.ref a0] (none) S' :=
  ykQ.of (pg_291 ev) mi_291 (Nat.le_of_ble_eq_true rfl) (fun hp sz hM => w_X12_putAside_0 (prim := prim) (d := d) N S hp _ a0 fa0 rfl hM h)

def f_X12_putBack_2 : Nat → Nat → yS → Int32 → Option (Int32 × yS)
  | 0, _, _, _ => none
  | n + 1, N, S, l1 => if 2305 ≤ l1 then some (0, S) else gA 2305 l1 fun j1 => gA 2305 l1 fun j2 => sq (yA S 8 48 (upd (S.2.1 8 48) j2 (S.2.1 8 49 j1))) fun S1 => f_X12_putBack_2 n N S1 (l1 + 1)
set_option maxHeartbeats 4000000 in
set_option maxRecDepth 40000 in
theorem w_X12_putBack_2 {F : xH} {ev : xEv} {prim : xRel} {d sz : Nat} {T : yT} {v : Int32} {S' : yS} (N : Nat) (n : Nat) : ∀ (S : yS) (l1 : Int32) (hp : xH) (lv : xLv) (a0 : Nat) (fa0 : yAt T 12 8 0 a0) (g0 : xG lv 0 = some (.ref a0)) (g1 : xG lv 1 = some (.int l1)) (hM : cR [8] F ev T S hp) (h : f_X12_putBack_2 n N S l1 = some (v, S')), yWE ev.2.1 (xstr ev) (xCalls ev xmi (xprog ev) prim (d + 0)) (pX12_putBack ev) (2, lv, [], hp, sz, 0) (ypQ [8] F ev T sz (none) S') := by
  induction n with
  | zero => intro S l1 hp lv a0 fa0 g0 g1 hM h; exact n_some h
  | succ n ih =>
    intro S l1 hp lv a0 fa0 g0 g1 hM h
    unfold f_X12_putBack_2 at h
    refine ye_iload rfl g1 ?_
    refine ye_p rfl rfl ?_
    refine ye_icmp_ge rfl (fun h1 => ?_) (fun h1 => ?_)
    · replace h := yiT h1 h
      exact ye_ret rfl rfl (rQV h hM)
    · replace h := yiN h1 h
      refine ye_aload rfl g0 ?_
      refine ye_getr rfl (hM.obj fa0 ⟨rfl, rfl⟩) rfl (fun cx1 ecx1 => ?_)
      have fcx1 := yAt.row fa0 ecx1
      refine ye_iload rfl g1 ?_
      refine ye_aload rfl g0 ?_
      refine ye_getr rfl (hM.obj fa0 ⟨rfl, rfl⟩) rfl (fun cx2 ecx2 => ?_)
      have fcx2 := yAt.row fa0 ecx2
      refine ye_iload rfl g1 ?_
      obtain ⟨j1, ej1, ij1, h⟩ := gA_some h
      refine yj_ald rfl (hM.arr fcx2 yr_12_49) ij1 ej1 ?_
      obtain ⟨j2, ej2, ij2, h⟩ := gA_some h
      obtain ⟨S1, eS1, h⟩ := sq_some h
      refine yw_ast rfl hM fcx1 yr_12_48 (by decide) ij2 ej2 eS1 (fun y1 M1 => ?_)
      refine ye_iinc rfl g1 ?_
      have g0_z1 := xG_o1 (i := 1) (v := .int (l1 + 1)) g0 rfl
      have g1_z1 := xG_same lv 1 (.int (l1 + 1))
      generalize xSt1 lv 1 (.int (l1 + 1)) = lvz1 at g0_z1 g1_z1 ⊢
      refine ye_p rfl rfl ?_
      exact ih S1 (l1 + 1) y1 lvz1 a0 fa0 g0_z1 g1_z1 M1 h

def f_X12_putBack_0 (N : Nat) (S : yS) : Option (Int32 × yS) := f_X12_putBack_2 N N S 0
set_option maxHeartbeats 4000000 in
set_option maxRecDepth 40000 in
theorem w_X12_putBack_0 {F : xH} {ev : xEv} {prim : xRel} {d sz : Nat} {T : yT} {v : Int32} {S' : yS} (N : Nat) (S : yS) (hp : xH) (lv : xLv) (a0 : Nat) (fa0 : yAt T 12 8 0 a0) (g0 : xG lv 0 = some (.ref a0)) (hM : cR [8] F ev T S hp) (h : f_X12_putBack_0 N S = some (v, S')) : yWE ev.2.1 (xstr ev) (xCalls ev xmi (xprog ev) prim (d + 0)) (pX12_putBack ev) (0, lv, [], hp, sz, 0) (ypQ [8] F ev T sz (none) S') := by
  unfold f_X12_putBack_0 at h
  refine ye_p rfl rfl ?_
  refine ye_p rfl rfl ?_
  have g0_z1 := xG_o1 (i := 1) (v := .int 0) g0 rfl
  have g1_z1 := xG_same lv 1 (.int 0)
  generalize xSt1 lv 1 (.int 0) = lvz1 at g0_z1 g1_z1 ⊢
  exact w_X12_putBack_2 (prim := prim) (d := d) N N S 0 hp lvz1 a0 fa0 g0_z1 g1_z1 hM h
def f_X12_putBack (N : Nat) (S : yS) : Option (Int32 × yS) := f_X12_putBack_0 N S
theorem m_X12_putBack {F : xH} {ev : xEv} {prim : xRel} {d : Nat} {T : yT} {v : Int32} {S' : yS} (N : Nat) (S : yS) (a0 : Nat) (fa0 : yAt T 12 8 0 a0) (h : f_X12_putBack N S = some (v, S')) : ykQ [8] F ev prim (d + 1) 292 T S [.ref a0] (none) S' :=
  ykQ.of (pg_292 ev) mi_292 (Nat.le_of_ble_eq_true rfl) (fun hp sz hM => w_X12_putBack_0 (prim := prim) (d := d) N S hp _ a0 fa0 rfl hM h)

def f_X12_canTry_30 (N : Nat) (S : yS) (t0 : Int32) : Option Int32 := gP (t0 = 0 ∨ t0 = 1) (some t0)
set_option maxHeartbeats 4000000 in
set_option maxRecDepth 40000 in
theorem w_X12_canTry_30 {F : xH} {ev : xEv} {prim : xRel} {d sz : Nat} {T : yT} {v : Int32} {hp : xH} (N : Nat) (S : yS) (t0 : Int32) (lv : xLv) (hM : cR [8] F ev T S hp) (h : f_X12_canTry_30 N S t0 = some v) : yWE ev.2.1 (xstr ev) (xCalls ev xmi (xprog ev) prim (d + 1)) (pX12_canTry ev) (30, lv, [.int t0], hp, sz, 0) (ypP hp sz (.int v)) := by
  unfold f_X12_canTry_30 at h
  obtain ⟨i1, h⟩ := gP_some h
  exact ye_ret rfl (if_pos (zb_nar i1)) (rP h)

def f_X12_canTry_29 (N : Nat) (S : yS) : Option Int32 := f_X12_canTry_30 N S 0
set_option maxHeartbeats 4000000 in
set_option maxRecDepth 40000 in
theorem w_X12_canTry_29 {F : xH} {ev : xEv} {prim : xRel} {d sz : Nat} {T : yT} {v : Int32} {hp : xH} (N : Nat) (S : yS) (lv : xLv) (hM : cR [8] F ev T S hp) (h : f_X12_canTry_29 N S = some v) : yWE ev.2.1 (xstr ev) (xCalls ev xmi (xprog ev) prim (d + 1)) (pX12_canTry ev) (29, lv, [], hp, sz, 0) (ypP hp sz (.int v)) := by
  unfold f_X12_canTry_29 at h
  refine ye_p rfl rfl ?_
  exact w_X12_canTry_30 (prim := prim) (d := d) N S 0 lv hM h

def f_X12_canTry_0 (N : Nat) (S : yS) (l1 : Int32) : Option Int32 := bV (f_X12_in N S l1 0 200) fun w1 => if w1 = 0 then f_X12_canTry_29 N S else gA 2305 0 fun j1 => if 3000 < ((S.2.1 8 48 j1) + l1) then f_X12_canTry_29 N S else f_X12_canTry_30 N S 1
set_option maxHeartbeats 4000000 in
set_option maxRecDepth 40000 in
theorem w_X12_canTry_0 {F : xH} {ev : xEv} {prim : xRel} {d sz : Nat} {T : yT} {v : Int32} {hp : xH} (N : Nat) (S : yS) (l1 : Int32) (lv : xLv) (a0 : Nat) (fa0 : yAt T 12 8 0 a0) (g0 : xG lv 0 = some (.ref a0)) (g1 : xG lv 1 = some (.int l1)) (hM : cR [8] F ev T S hp) (h : f_X12_canTry_0 N S l1 = some v) : yWE ev.2.1 (xstr ev) (xCalls ev xmi (xprog ev) prim (d + 1)) (pX12_canTry ev) (0, lv, [], hp, sz, 0) (ypP hp sz (.int v)) := by
  unfold f_X12_canTry_0 at h
  refine ye_iload rfl g1 ?_
  refine ye_p rfl rfl ?_
  refine ye_p rfl rfl ?_
  obtain ⟨w1, hw1, h⟩ := bV_some h
  refine ye_callS (As := [.int l1, .int 0, .int 200]) (rest := []) 1 (Or.inl rfl) rfl rfl rfl (Nat.le_of_ble_eq_true rfl) ((m_X12_in (d := d + 0) (T := T) N S l1 0 200 hw1) hp sz hM) ?_
  refine ye_if_eq rfl (fun h1 => ?_) (fun h1 => ?_)
  · replace h := yiT h1 h
    exact w_X12_canTry_29 (prim := prim) (d := d) N S lv hM h
  · replace h := yiN h1 h
    refine ye_aload rfl g0 ?_
    refine ye_getr rfl (hM.obj fa0 ⟨rfl, rfl⟩) rfl (fun cx1 ecx1 => ?_)
    have fcx1 := yAt.row fa0 ecx1
    refine ye_p rfl rfl ?_
    obtain ⟨j1, ej1, ij1, h⟩ := gA_some h
    refine yj_ald rfl (hM.arr fcx1 yr_12_48) ij1 ej1 ?_
    refine ye_iload rfl g1 ?_
    refine ye_p rfl rfl ?_
    refine ye_p rfl rfl ?_
    refine ye_icmp_gt rfl (fun h2 => ?_) (fun h2 => ?_)
    · replace h := yiT h2 h
      exact w_X12_canTry_29 (prim := prim) (d := d) N S lv hM h
    · replace h := yiN h2 h
      refine ye_p rfl rfl ?_
      refine ye_p rfl rfl ?_
      exact w_X12_canTry_30 (prim := prim) (d := d) N S 1 lv hM h
def f_X12_canTry (N : Nat) (S : yS) (xl1 : Int32) : Option Int32 := f_X12_canTry_0 N S xl1
theorem m_X12_canTry {F : xH} {ev : xEv} {prim : xRel} {d : Nat} {T : yT} {v : Int32} (N : Nat) (S : yS) (xl1 : Int32) (a0 : Nat) (fa0 : yAt T 12 8 0 a0) (h : f_X12_canTry N S xl1 = some v) : ykP [8] F ev prim (d + 2) 293 T S [.ref a0, .int xl1] (.int v) :=
  ykP.of (pg_293 ev) mi_293 (Nat.le_of_ble_eq_true rfl) (fun hp sz hM => w_X12_canTry_0 (prim := prim) (d := d) N S xl1 _ a0 fa0 rfl rfl hM h)

def f_X12_onTime_40 (N : Nat) (k4 : yS → Int32 → Int32 → Option Int32) (S : yS) (l1 : Int32) (l2 : Int32) : Option Int32 := k4 S l1 (l2 + 1)
set_option maxHeartbeats 4000000 in
set_option maxRecDepth 40000 in
theorem w_X12_onTime_40 {F : xH} {ev : xEv} {prim : xRel} {d sz : Nat} {T : yT} {v : Int32} {hp : xH} (N : Nat) (k4 : yS → Int32 → Int32 → Option Int32) (u4 : ∀ (S : yS) (l1 : Int32) (l2 : Int32) (lv : xLv) (a0 : Nat) (fa0 : yAt T 12 8 0 a0) (g0 : xG lv 0 = some (.ref a0)) (g1 : xG lv 1 = some (.int l1)) (g2 : xG lv 2 = some (.int l2)) (hM : cR [8] F ev T S hp) (h : k4 S l1 l2 = some v), yWE ev.2.1 (xstr ev) (xCalls ev xmi (xprog ev) prim (d + 1)) (pX12_onTime ev) (4, lv, [], hp, sz, 0) (ypP hp sz (.int v))) (S : yS) (l1 : Int32) (l2 : Int32) (lv : xLv) (a0 : Nat) (fa0 : yAt T 12 8 0 a0) (g0 : xG lv 0 = some (.ref a0)) (g1 : xG lv 1 = some (.int l1)) (g2 : xG lv 2 = some (.int l2)) (hM : cR [8] F ev T S hp) (h : f_X12_onTime_40 N k4 S l1 l2 = some v) : yWE ev.2.1 (xstr ev) (xCalls ev xmi (xprog ev) prim (d + 1)) (pX12_onTime ev) (40, lv, [], hp, sz, 0) (ypP hp sz (.int v)) := by
  unfold f_X12_onTime_40 at h
  refine ye_iinc rfl g2 ?_
  have g0_z1 := xG_o1 (i := 2) (v := .int (l2 + 1)) g0 rfl
  have g1_z1 := xG_o1 (i := 2) (v := .int (l2 + 1)) g1 rfl
  have g2_z1 := xG_same lv 2 (.int (l2 + 1))
  generalize xSt1 lv 2 (.int (l2 + 1)) = lvz1 at g0_z1 g1_z1 g2_z1 ⊢
  refine ye_p rfl rfl ?_
  exact u4 S l1 (l2 + 1) lvz1 a0 fa0 g0_z1 g1_z1 g2_z1 hM h

def f_X12_onTime_4 : Nat → Nat → yS → Int32 → Int32 → Option Int32
  | 0, _, _, _, _ => none
  | n + 1, N, S, l1, l2 => if (S.1 8 28) ≤ l2 then some l1 else bV (f_X12_bagOf N S l2 3) fun w1 => if w1 = ((-1)) then f_X12_onTime_40 N (fun S l1 l2 => f_X12_onTime_4 n N S l1 l2) S l1 l2 else bV (f_X12_bagOf N S l2 3) fun w2 => gA 30 l2 fun j1 => if (S.2.1 8 27 j1) < w2 then f_X12_onTime_40 N (fun S l1 l2 => f_X12_onTime_4 n N S l1 l2) S l1 l2 else f_X12_onTime_40 N (fun S l1 l2 => f_X12_onTime_4 n N S l1 l2) S (l1 + 1) l2
set_option maxHeartbeats 4000000 in
set_option maxRecDepth 40000 in
theorem w_X12_onTime_4 {F : xH} {ev : xEv} {prim : xRel} {d sz : Nat} {T : yT} {v : Int32} {hp : xH} (N : Nat) (n : Nat) : ∀ (S : yS) (l1 : Int32) (l2 : Int32) (lv : xLv) (a0 : Nat) (fa0 : yAt T 12 8 0 a0) (g0 : xG lv 0 = some (.ref a0)) (g1 : xG lv 1 = some (.int l1)) (g2 : xG lv 2 = some (.int l2)) (hM : cR [8] F ev T S hp) (h : f_X12_onTime_4 n N S l1 l2 = some v), yWE ev.2.1 (xstr ev) (xCalls ev xmi (xprog ev) prim (d + 1)) (pX12_onTime ev) (4, lv, [], hp, sz, 0) (ypP hp sz (.int v)) := by
  induction n with
  | zero => intro S l1 l2 lv a0 fa0 g0 g1 g2 hM h; exact n_some h
  | succ n ih =>
    intro S l1 l2 lv a0 fa0 g0 g1 g2 hM h
    unfold f_X12_onTime_4 at h
    refine ye_iload rfl g2 ?_
    refine ye_aload rfl g0 ?_
    refine ye_getf rfl (hM.obj fa0 ⟨rfl, rfl⟩) rfl ?_
    refine ye_icmp_ge rfl (fun h1 => ?_) (fun h1 => ?_)
    · replace h := yiT h1 h
      refine ye_iload rfl g1 ?_
      exact ye_ret rfl rfl (rP h)
    · replace h := yiN h1 h
      refine ye_aload rfl g0 ?_
      refine ye_iload rfl g2 ?_
      refine ye_p rfl rfl ?_
      obtain ⟨w1, hw1, h⟩ := bV_some h
      refine ye_callV (As := [.int l2, .int 3]) (rest := []) 0 (Or.inl rfl) rfl rfl rfl (Nat.le_of_ble_eq_true rfl) (hM.obj fa0 ⟨rfl, rfl⟩) ((m_X12_bagOf (d := d + 0) (T := T) N S l2 3 a0 fa0 hw1) hp sz hM) ?_
      refine ye_p rfl rfl ?_
      refine ye_icmp_eq rfl (fun h2 => ?_) (fun h2 => ?_)
      · replace h := yiT h2 h
        exact w_X12_onTime_40 (prim := prim) (d := d) N (fun S l1 l2 => f_X12_onTime_4 n N S l1 l2) ih S l1 l2 lv a0 fa0 g0 g1 g2 hM h
      · replace h := yiN h2 h
        refine ye_aload rfl g0 ?_
        refine ye_iload rfl g2 ?_
        refine ye_p rfl rfl ?_
        obtain ⟨w2, hw2, h⟩ := bV_some h
        refine ye_callV (As := [.int l2, .int 3]) (rest := []) 0 (Or.inl rfl) rfl rfl rfl (Nat.le_of_ble_eq_true rfl) (hM.obj fa0 ⟨rfl, rfl⟩) ((m_X12_bagOf (d := d + 0) (T := T) N S l2 3 a0 fa0 hw2) hp sz hM) ?_
        refine ye_aload rfl g0 ?_
        refine ye_getr rfl (hM.obj fa0 ⟨rfl, rfl⟩) rfl (fun cx1 ecx1 => ?_)
        have fcx1 := yAt.row fa0 ecx1
        refine ye_iload rfl g2 ?_
        obtain ⟨j1, ej1, ij1, h⟩ := gA_some h
        refine yj_ald rfl (hM.arr fcx1 yr_12_27) ij1 ej1 ?_
        refine ye_icmp_gt rfl (fun h3 => ?_) (fun h3 => ?_)
        · replace h := yiT h3 h
          exact w_X12_onTime_40 (prim := prim) (d := d) N (fun S l1 l2 => f_X12_onTime_4 n N S l1 l2) ih S l1 l2 lv a0 fa0 g0 g1 g2 hM h
        · replace h := yiN h3 h
          refine ye_iinc rfl g1 ?_
          have g0_z1 := xG_o1 (i := 1) (v := .int (l1 + 1)) g0 rfl
          have g2_z1 := xG_o1 (i := 1) (v := .int (l1 + 1)) g2 rfl
          have g1_z1 := xG_same lv 1 (.int (l1 + 1))
          generalize xSt1 lv 1 (.int (l1 + 1)) = lvz1 at g0_z1 g2_z1 g1_z1 ⊢
          exact w_X12_onTime_40 (prim := prim) (d := d) N (fun S l1 l2 => f_X12_onTime_4 n N S l1 l2) ih S (l1 + 1) l2 lvz1 a0 fa0 g0_z1 g1_z1 g2_z1 hM h

def f_X12_onTime_0 (N : Nat) (S : yS) : Option Int32 := f_X12_onTime_4 N N S 0 0
set_option maxHeartbeats 4000000 in
set_option maxRecDepth 40000 in
theorem w_X12_onTime_0 {F : xH} {ev : xEv} {prim : xRel} {d sz : Nat} {T : yT} {v : Int32} {hp : xH} (N : Nat) (S : yS) (lv : xLv) (a0 : Nat) (fa0 : yAt T 12 8 0 a0) (g0 : xG lv 0 = some (.ref a0)) (hM : cR [8] F ev T S hp) (h : f_X12_onTime_0 N S = some v) : yWE ev.2.1 (xstr ev) (xCalls ev xmi (xprog ev) prim (d + 1)) (pX12_onTime ev) (0, lv, [], hp, sz, 0) (ypP hp sz (.int v)) := by
  unfold f_X12_onTime_0 at h
  refine ye_p rfl rfl ?_
  refine ye_p rfl rfl ?_
  have g0_z1 := xG_o1 (i := 1) (v := .int 0) g0 rfl
  have g1_z1 := xG_same lv 1 (.int 0)
  generalize xSt1 lv 1 (.int 0) = lvz1 at g0_z1 g1_z1 ⊢
  refine ye_p rfl rfl ?_
  refine ye_p rfl rfl ?_
  have g0_z2 := xG_o1 (i := 2) (v := .int 0) g0_z1 rfl
  have g1_z2 := xG_o1 (i := 2) (v := .int 0) g1_z1 rfl
  have g2_z2 := xG_same lvz1 2 (.int 0)
  generalize xSt1 lvz1 2 (.int 0) = lvz2 at g0_z2 g1_z2 g2_z2 ⊢
  exact w_X12_onTime_4 (prim := prim) (d := d) N N S 0 0 lvz2 a0 fa0 g0_z2 g1_z2 g2_z2 hM h
def f_X12_onTime (N : Nat) (S : yS) : Option Int32 := f_X12_onTime_0 N S
theorem m_X12_onTime {F : xH} {ev : xEv} {prim : xRel} {d : Nat} {T : yT} {v : Int32} (N : Nat) (S : yS) (a0 : Nat) (fa0 : yAt T 12 8 0 a0) (h : f_X12_onTime N S = some v) : ykP [8] F ev prim (d + 2) 296 T S [.ref a0] (.int v) :=
  ykP.of (pg_296 ev) mi_296 (Nat.le_of_ble_eq_true rfl) (fun hp sz hM => w_X12_onTime_0 (prim := prim) (d := d) N S _ a0 fa0 rfl hM h)

def f_X12_row_32 (N : Nat) (S : yS) (t0 : Int32) : Option (Int32 × yS) := some (t0, S)
set_option maxHeartbeats 4000000 in
set_option maxRecDepth 40000 in
theorem w_X12_row_32 {F : xH} {ev : xEv} {prim : xRel} {d sz : Nat} {T : yT} {v : Int32} {S' : yS} (N : Nat) (S : yS) (t0 : Int32) (hp : xH) (lv : xLv) (hM : cR [8] F ev T S hp) (h : f_X12_row_32 N S t0 = some (v, S')) : yWE ev.2.1 (xstr ev) (xCalls ev xmi (xprog ev) prim (d + 1)) (pX12_row ev) (32, lv, [.int t0], hp, sz, 0) (ypQ [8] F ev T sz (some (.int v)) S') := by
  unfold f_X12_row_32 at h
  exact ye_ret rfl rfl (rQ h hM)

def f_X12_row_0 (N : Nat) (S : yS) (l1 : Int32) : Option (Int32 × yS) := sq (yI S 8 47 0) fun S1 => bV (f_X12_in N S1 l1 0 ((S1.1 8 46) - 1)) fun w1 => if w1 = 0 then bS (f_X12_lost N S1) fun w2 S2 => f_X12_row_32 N S2 w2 else gA 64 l1 fun j1 => f_X12_row_32 N S1 (S1.2.1 8 45 j1)
set_option maxHeartbeats 4000000 in
set_option maxRecDepth 40000 in
theorem w_X12_row_0 {F : xH} {ev : xEv} {prim : xRel} {d sz : Nat} {T : yT} {v : Int32} {S' : yS} (N : Nat) (S : yS) (l1 : Int32) (hp : xH) (lv : xLv) (a0 : Nat) (fa0 : yAt T 12 8 0 a0) (g0 : xG lv 0 = some (.ref a0)) (g1 : xG lv 1 = some (.int l1)) (hM : cR [8] F ev T S hp) (h : f_X12_row_0 N S l1 = some (v, S')) : yWE ev.2.1 (xstr ev) (xCalls ev xmi (xprog ev) prim (d + 1)) (pX12_row ev) (0, lv, [], hp, sz, 0) (ypQ [8] F ev T sz (some (.int v)) S') := by
  unfold f_X12_row_0 at h
  refine ye_aload rfl g0 ?_
  refine ye_p rfl rfl ?_
  obtain ⟨S1, eS1, h⟩ := sq_some h
  refine yw_putI rfl hM fa0 rfl ⟨rfl, rfl⟩ (Nat.le_of_ble_eq_true rfl) rfl rfl (ys_12_47 ev T _ 0) (fun q => absurd q (by decide)) eS1 (fun y1 M1 => ?_)
  refine ye_iload rfl g1 ?_
  refine ye_p rfl rfl ?_
  refine ye_aload rfl g0 ?_
  refine ye_getf rfl (M1.obj fa0 ⟨rfl, rfl⟩) rfl ?_
  refine ye_p rfl rfl ?_
  refine ye_p rfl rfl ?_
  obtain ⟨w1, hw1, h⟩ := bV_some h
  refine ye_callS (As := [.int l1, .int 0, .int ((S1.1 8 46) - 1)]) (rest := []) 1 (Or.inl rfl) rfl rfl rfl (Nat.le_of_ble_eq_true rfl) ((m_X12_in (d := d + 0) (T := T) N S1 l1 0 ((S1.1 8 46) - 1) hw1) y1 sz M1) ?_
  refine ye_if_eq rfl (fun h1 => ?_) (fun h1 => ?_)
  · replace h := yiT h1 h
    refine ye_aload rfl g0 ?_
    obtain ⟨w2, S2, hw2, h⟩ := bS_some h
    obtain ⟨y2, cy2, M2⟩ := (m_X12_lost (d := d + 0) (T := T) N S1 a0 fa0 hw2) y1 sz M1
    refine ye_callV (As := []) (rest := []) 0 (Or.inl rfl) rfl rfl rfl (Nat.le_of_ble_eq_true rfl) (M1.obj fa0 ⟨rfl, rfl⟩) cy2 ?_
    exact w_X12_row_32 (prim := prim) (d := d) N S2 w2 y2 lv M2 h
  · replace h := yiN h1 h
    refine ye_aload rfl g0 ?_
    refine ye_getr rfl (M1.obj fa0 ⟨rfl, rfl⟩) rfl (fun cx1 ecx1 => ?_)
    have fcx1 := yAt.row fa0 ecx1
    refine ye_iload rfl g1 ?_
    obtain ⟨j1, ej1, ij1, h⟩ := gA_some h
    refine yj_ald rfl (M1.arr fcx1 yr_12_45) ij1 ej1 ?_
    refine ye_p rfl rfl ?_
    exact w_X12_row_32 (prim := prim) (d := d) N S1 (S1.2.1 8 45 j1) y1 lv M1 h
def f_X12_row (N : Nat) (S : yS) (xl1 : Int32) : Option (Int32 × yS) := f_X12_row_0 N S xl1
theorem m_X12_row {F : xH} {ev : xEv} {prim : xRel} {d : Nat} {T : yT} {v : Int32} {S' : yS} (N : Nat) (S : yS) (xl1 : Int32) (a0 : Nat) (fa0 : yAt T 12 8 0 a0) (h : f_X12_row N S xl1 = some (v, S')) : ykQ [8] F ev prim (d + 2) 299 T S [.ref a0, .int xl1] (some (.int v)) S' :=
  ykQ.of (pg_299 ev) mi_299 (Nat.le_of_ble_eq_true rfl) (fun hp sz hM => w_X12_row_0 (prim := prim) (d := d) N S xl1 hp _ a0 fa0 rfl rfl hM h)

def f_J6_bitCount_0f7a4_0 (N : Nat) (S : yS) (l0 : Int32) : Option Int32 := some ((((((((l0 - (((l0.toUInt32 >>> ((1 : Int32).toUInt32 &&& Int32.toUInt32 31)).toInt32) &&& 1431655765)) &&& 858993459) + ((((l0 - (((l0.toUInt32 >>> ((1 : Int32).toUInt32 &&& Int32.toUInt32 31)).toInt32) &&& 1431655765)).toUInt32 >>> ((2 : Int32).toUInt32 &&& Int32.toUInt32 31)).toInt32) &&& 858993459)) + (((((l0 - (((l0.toUInt32 >>> ((1 : Int32).toUInt32 &&& Int32.toUInt32 31)).toInt32) &&& 1431655765)) &&& 858993459) + ((((l0 - (((l0.toUInt32 >>> ((1 : Int32).toUInt32 &&& Int32.toUInt32 31)).toInt32) &&& 1431655765)).toUInt32 >>> ((2 : Int32).toUInt32 &&& Int32.toUInt32 31)).toInt32) &&& 858993459)).toUInt32 >>> ((4 : Int32).toUInt32 &&& Int32.toUInt32 31)).toInt32)) &&& 252645135) + (((((((l0 - (((l0.toUInt32 >>> ((1 : Int32).toUInt32 &&& Int32.toUInt32 31)).toInt32) &&& 1431655765)) &&& 858993459) + ((((l0 - (((l0.toUInt32 >>> ((1 : Int32).toUInt32 &&& Int32.toUInt32 31)).toInt32) &&& 1431655765)).toUInt32 >>> ((2 : Int32).toUInt32 &&& Int32.toUInt32 31)).toInt32) &&& 858993459)) + (((((l0 - (((l0.toUInt32 >>> ((1 : Int32).toUInt32 &&& Int32.toUInt32 31)).toInt32) &&& 1431655765)) &&& 858993459) + ((((l0 - (((l0.toUInt32 >>> ((1 : Int32).toUInt32 &&& Int32.toUInt32 31)).toInt32) &&& 1431655765)).toUInt32 >>> ((2 : Int32).toUInt32 &&& Int32.toUInt32 31)).toInt32) &&& 858993459)).toUInt32 >>> ((4 : Int32).toUInt32 &&& Int32.toUInt32 31)).toInt32)) &&& 252645135).toUInt32 >>> ((8 : Int32).toUInt32 &&& Int32.toUInt32 31)).toInt32)) + ((((((((l0 - (((l0.toUInt32 >>> ((1 : Int32).toUInt32 &&& Int32.toUInt32 31)).toInt32) &&& 1431655765)) &&& 858993459) + ((((l0 - (((l0.toUInt32 >>> ((1 : Int32).toUInt32 &&& Int32.toUInt32 31)).toInt32) &&& 1431655765)).toUInt32 >>> ((2 : Int32).toUInt32 &&& Int32.toUInt32 31)).toInt32) &&& 858993459)) + (((((l0 - (((l0.toUInt32 >>> ((1 : Int32).toUInt32 &&& Int32.toUInt32 31)).toInt32) &&& 1431655765)) &&& 858993459) + ((((l0 - (((l0.toUInt32 >>> ((1 : Int32).toUInt32 &&& Int32.toUInt32 31)).toInt32) &&& 1431655765)).toUInt32 >>> ((2 : Int32).toUInt32 &&& Int32.toUInt32 31)).toInt32) &&& 858993459)).toUInt32 >>> ((4 : Int32).toUInt32 &&& Int32.toUInt32 31)).toInt32)) &&& 252645135) + (((((((l0 - (((l0.toUInt32 >>> ((1 : Int32).toUInt32 &&& Int32.toUInt32 31)).toInt32) &&& 1431655765)) &&& 858993459) + ((((l0 - (((l0.toUInt32 >>> ((1 : Int32).toUInt32 &&& Int32.toUInt32 31)).toInt32) &&& 1431655765)).toUInt32 >>> ((2 : Int32).toUInt32 &&& Int32.toUInt32 31)).toInt32) &&& 858993459)) + (((((l0 - (((l0.toUInt32 >>> ((1 : Int32).toUInt32 &&& Int32.toUInt32 31)).toInt32) &&& 1431655765)) &&& 858993459) + ((((l0 - (((l0.toUInt32 >>> ((1 : Int32).toUInt32 &&& Int32.toUInt32 31)).toInt32) &&& 1431655765)).toUInt32 >>> ((2 : Int32).toUInt32 &&& Int32.toUInt32 31)).toInt32) &&& 858993459)).toUInt32 >>> ((4 : Int32).toUInt32 &&& Int32.toUInt32 31)).toInt32)) &&& 252645135).toUInt32 >>> ((8 : Int32).toUInt32 &&& Int32.toUInt32 31)).toInt32)).toUInt32 >>> ((16 : Int32).toUInt32 &&& Int32.toUInt32 31)).toInt32)) &&& 63)
set_option maxHeartbeats 4000000 in
set_option maxRecDepth 40000 in
theorem w_J6_bitCount_0f7a4_0 {rt : List Nat} {F : xH} {ev : xEv} {prim : xRel} {d sz : Nat} {T : yT} {v : Int32} {hp : xH} (N : Nat) (S : yS) (l0 : Int32) (lv : xLv) (g0 : xG lv 0 = some (.int l0)) (hM : cR rt F ev T S hp) (h : f_J6_bitCount_0f7a4_0 N S l0 = some v) : yWE ev.2.1 (xstr ev) (xCalls ev xmi (xprog ev) prim (d + 0)) (pJ6_bitCount_0f7a4 ev) (0, lv, [], hp, sz, 0) (ypP hp sz (.int v)) := by
  unfold f_J6_bitCount_0f7a4_0 at h
  refine ye_iload rfl g0 ?_
  refine ye_iload rfl g0 ?_
  refine ye_p rfl rfl ?_
  refine ye_p rfl rfl ?_
  refine ye_p rfl rfl ?_
  refine ye_p rfl rfl ?_
  refine ye_p rfl rfl ?_
  refine ye_p rfl rfl ?_
  have g0_z1 := xG_same lv 0 (.int (l0 - (((l0.toUInt32 >>> ((1 : Int32).toUInt32 &&& Int32.toUInt32 31)).toInt32) &&& 1431655765)))
  generalize xSt1 lv 0 (.int (l0 - (((l0.toUInt32 >>> ((1 : Int32).toUInt32 &&& Int32.toUInt32 31)).toInt32) &&& 1431655765))) = lvz1 at g0_z1 ⊢
  refine ye_iload rfl g0_z1 ?_
  refine ye_p rfl rfl ?_
  refine ye_p rfl rfl ?_
  refine ye_iload rfl g0_z1 ?_
  refine ye_p rfl rfl ?_
  refine ye_p rfl rfl ?_
  refine ye_p rfl rfl ?_
  refine ye_p rfl rfl ?_
  refine ye_p rfl rfl ?_
  refine ye_p rfl rfl ?_
  have g0_z2 := xG_same lvz1 0 (.int (((l0 - (((l0.toUInt32 >>> ((1 : Int32).toUInt32 &&& Int32.toUInt32 31)).toInt32) &&& 1431655765)) &&& 858993459) + ((((l0 - (((l0.toUInt32 >>> ((1 : Int32).toUInt32 &&& Int32.toUInt32 31)).toInt32) &&& 1431655765)).toUInt32 >>> ((2 : Int32).toUInt32 &&& Int32.toUInt32 31)).toInt32) &&& 858993459)))
  generalize xSt1 lvz1 0 (.int (((l0 - (((l0.toUInt32 >>> ((1 : Int32).toUInt32 &&& Int32.toUInt32 31)).toInt32) &&& 1431655765)) &&& 858993459) + ((((l0 - (((l0.toUInt32 >>> ((1 : Int32).toUInt32 &&& Int32.toUInt32 31)).toInt32) &&& 1431655765)).toUInt32 >>> ((2 : Int32).toUInt32 &&& Int32.toUInt32 31)).toInt32) &&& 858993459))) = lvz2 at g0_z2 ⊢
  refine ye_iload rfl g0_z2 ?_
  refine ye_iload rfl g0_z2 ?_
  refine ye_p rfl rfl ?_
  refine ye_p rfl rfl ?_
  refine ye_p rfl rfl ?_
  refine ye_p rfl rfl ?_
  refine ye_p rfl rfl ?_
  refine ye_p rfl rfl ?_
  have g0_z3 := xG_same lvz2 0 (.int (((((l0 - (((l0.toUInt32 >>> ((1 : Int32).toUInt32 &&& Int32.toUInt32 31)).toInt32) &&& 1431655765)) &&& 858993459) + ((((l0 - (((l0.toUInt32 >>> ((1 : Int32).toUInt32 &&& Int32.toUInt32 31)).toInt32) &&& 1431655765)).toUInt32 >>> ((2 : Int32).toUInt32 &&& Int32.toUInt32 31)).toInt32) &&& 858993459)) + (((((l0 - (((l0.toUInt32 >>> ((1 : Int32).toUInt32 &&& Int32.toUInt32 31)).toInt32) &&& 1431655765)) &&& 858993459) + ((((l0 - (((l0.toUInt32 >>> ((1 : Int32).toUInt32 &&& Int32.toUInt32 31)).toInt32) &&& 1431655765)).toUInt32 >>> ((2 : Int32).toUInt32 &&& Int32.toUInt32 31)).toInt32) &&& 858993459)).toUInt32 >>> ((4 : Int32).toUInt32 &&& Int32.toUInt32 31)).toInt32)) &&& 252645135))
  generalize xSt1 lvz2 0 (.int (((((l0 - (((l0.toUInt32 >>> ((1 : Int32).toUInt32 &&& Int32.toUInt32 31)).toInt32) &&& 1431655765)) &&& 858993459) + ((((l0 - (((l0.toUInt32 >>> ((1 : Int32).toUInt32 &&& Int32.toUInt32 31)).toInt32) &&& 1431655765)).toUInt32 >>> ((2 : Int32).toUInt32 &&& Int32.toUInt32 31)).toInt32) &&& 858993459)) + (((((l0 - (((l0.toUInt32 >>> ((1 : Int32).toUInt32 &&& Int32.toUInt32 31)).toInt32) &&& 1431655765)) &&& 858993459) + ((((l0 - (((l0.toUInt32 >>> ((1 : Int32).toUInt32 &&& Int32.toUInt32 31)).toInt32) &&& 1431655765)).toUInt32 >>> ((2 : Int32).toUInt32 &&& Int32.toUInt32 31)).toInt32) &&& 858993459)).toUInt32 >>> ((4 : Int32).toUInt32 &&& Int32.toUInt32 31)).toInt32)) &&& 252645135)) = lvz3 at g0_z3 ⊢
  refine ye_iload rfl g0_z3 ?_
  refine ye_iload rfl g0_z3 ?_
  refine ye_p rfl rfl ?_
  refine ye_p rfl rfl ?_
  refine ye_p rfl rfl ?_
  refine ye_p rfl rfl ?_
  have g0_z4 := xG_same lvz3 0 (.int ((((((l0 - (((l0.toUInt32 >>> ((1 : Int32).toUInt32 &&& Int32.toUInt32 31)).toInt32) &&& 1431655765)) &&& 858993459) + ((((l0 - (((l0.toUInt32 >>> ((1 : Int32).toUInt32 &&& Int32.toUInt32 31)).toInt32) &&& 1431655765)).toUInt32 >>> ((2 : Int32).toUInt32 &&& Int32.toUInt32 31)).toInt32) &&& 858993459)) + (((((l0 - (((l0.toUInt32 >>> ((1 : Int32).toUInt32 &&& Int32.toUInt32 31)).toInt32) &&& 1431655765)) &&& 858993459) + ((((l0 - (((l0.toUInt32 >>> ((1 : Int32).toUInt32 &&& Int32.toUInt32 31)).toInt32) &&& 1431655765)).toUInt32 >>> ((2 : Int32).toUInt32 &&& Int32.toUInt32 31)).toInt32) &&& 858993459)).toUInt32 >>> ((4 : Int32).toUInt32 &&& Int32.toUInt32 31)).toInt32)) &&& 252645135) + (((((((l0 - (((l0.toUInt32 >>> ((1 : Int32).toUInt32 &&& Int32.toUInt32 31)).toInt32) &&& 1431655765)) &&& 858993459) + ((((l0 - (((l0.toUInt32 >>> ((1 : Int32).toUInt32 &&& Int32.toUInt32 31)).toInt32) &&& 1431655765)).toUInt32 >>> ((2 : Int32).toUInt32 &&& Int32.toUInt32 31)).toInt32) &&& 858993459)) + (((((l0 - (((l0.toUInt32 >>> ((1 : Int32).toUInt32 &&& Int32.toUInt32 31)).toInt32) &&& 1431655765)) &&& 858993459) + ((((l0 - (((l0.toUInt32 >>> ((1 : Int32).toUInt32 &&& Int32.toUInt32 31)).toInt32) &&& 1431655765)).toUInt32 >>> ((2 : Int32).toUInt32 &&& Int32.toUInt32 31)).toInt32) &&& 858993459)).toUInt32 >>> ((4 : Int32).toUInt32 &&& Int32.toUInt32 31)).toInt32)) &&& 252645135).toUInt32 >>> ((8 : Int32).toUInt32 &&& Int32.toUInt32 31)).toInt32)))
  generalize xSt1 lvz3 0 (.int ((((((l0 - (((l0.toUInt32 >>> ((1 : Int32).toUInt32 &&& Int32.toUInt32 31)).toInt32) &&& 1431655765)) &&& 858993459) + ((((l0 - (((l0.toUInt32 >>> ((1 : Int32).toUInt32 &&& Int32.toUInt32 31)).toInt32) &&& 1431655765)).toUInt32 >>> ((2 : Int32).toUInt32 &&& Int32.toUInt32 31)).toInt32) &&& 858993459)) + (((((l0 - (((l0.toUInt32 >>> ((1 : Int32).toUInt32 &&& Int32.toUInt32 31)).toInt32) &&& 1431655765)) &&& 858993459) + ((((l0 - (((l0.toUInt32 >>> ((1 : Int32).toUInt32 &&& Int32.toUInt32 31)).toInt32) &&& 1431655765)).toUInt32 >>> ((2 : Int32).toUInt32 &&& Int32.toUInt32 31)).toInt32) &&& 858993459)).toUInt32 >>> ((4 : Int32).toUInt32 &&& Int32.toUInt32 31)).toInt32)) &&& 252645135) + (((((((l0 - (((l0.toUInt32 >>> ((1 : Int32).toUInt32 &&& Int32.toUInt32 31)).toInt32) &&& 1431655765)) &&& 858993459) + ((((l0 - (((l0.toUInt32 >>> ((1 : Int32).toUInt32 &&& Int32.toUInt32 31)).toInt32) &&& 1431655765)).toUInt32 >>> ((2 : Int32).toUInt32 &&& Int32.toUInt32 31)).toInt32) &&& 858993459)) + (((((l0 - (((l0.toUInt32 >>> ((1 : Int32).toUInt32 &&& Int32.toUInt32 31)).toInt32) &&& 1431655765)) &&& 858993459) + ((((l0 - (((l0.toUInt32 >>> ((1 : Int32).toUInt32 &&& Int32.toUInt32 31)).toInt32) &&& 1431655765)).toUInt32 >>> ((2 : Int32).toUInt32 &&& Int32.toUInt32 31)).toInt32) &&& 858993459)).toUInt32 >>> ((4 : Int32).toUInt32 &&& Int32.toUInt32 31)).toInt32)) &&& 252645135).toUInt32 >>> ((8 : Int32).toUInt32 &&& Int32.toUInt32 31)).toInt32))) = lvz4 at g0_z4 ⊢
  refine ye_iload rfl g0_z4 ?_
  refine ye_iload rfl g0_z4 ?_
  refine ye_p rfl rfl ?_
  refine ye_p rfl rfl ?_
  refine ye_p rfl rfl ?_
  refine ye_p rfl rfl ?_
  have g0_z5 := xG_same lvz4 0 (.int (((((((l0 - (((l0.toUInt32 >>> ((1 : Int32).toUInt32 &&& Int32.toUInt32 31)).toInt32) &&& 1431655765)) &&& 858993459) + ((((l0 - (((l0.toUInt32 >>> ((1 : Int32).toUInt32 &&& Int32.toUInt32 31)).toInt32) &&& 1431655765)).toUInt32 >>> ((2 : Int32).toUInt32 &&& Int32.toUInt32 31)).toInt32) &&& 858993459)) + (((((l0 - (((l0.toUInt32 >>> ((1 : Int32).toUInt32 &&& Int32.toUInt32 31)).toInt32) &&& 1431655765)) &&& 858993459) + ((((l0 - (((l0.toUInt32 >>> ((1 : Int32).toUInt32 &&& Int32.toUInt32 31)).toInt32) &&& 1431655765)).toUInt32 >>> ((2 : Int32).toUInt32 &&& Int32.toUInt32 31)).toInt32) &&& 858993459)).toUInt32 >>> ((4 : Int32).toUInt32 &&& Int32.toUInt32 31)).toInt32)) &&& 252645135) + (((((((l0 - (((l0.toUInt32 >>> ((1 : Int32).toUInt32 &&& Int32.toUInt32 31)).toInt32) &&& 1431655765)) &&& 858993459) + ((((l0 - (((l0.toUInt32 >>> ((1 : Int32).toUInt32 &&& Int32.toUInt32 31)).toInt32) &&& 1431655765)).toUInt32 >>> ((2 : Int32).toUInt32 &&& Int32.toUInt32 31)).toInt32) &&& 858993459)) + (((((l0 - (((l0.toUInt32 >>> ((1 : Int32).toUInt32 &&& Int32.toUInt32 31)).toInt32) &&& 1431655765)) &&& 858993459) + ((((l0 - (((l0.toUInt32 >>> ((1 : Int32).toUInt32 &&& Int32.toUInt32 31)).toInt32) &&& 1431655765)).toUInt32 >>> ((2 : Int32).toUInt32 &&& Int32.toUInt32 31)).toInt32) &&& 858993459)).toUInt32 >>> ((4 : Int32).toUInt32 &&& Int32.toUInt32 31)).toInt32)) &&& 252645135).toUInt32 >>> ((8 : Int32).toUInt32 &&& Int32.toUInt32 31)).toInt32)) + ((((((((l0 - (((l0.toUInt32 >>> ((1 : Int32).toUInt32 &&& Int32.toUInt32 31)).toInt32) &&& 1431655765)) &&& 858993459) + ((((l0 - (((l0.toUInt32 >>> ((1 : Int32).toUInt32 &&& Int32.toUInt32 31)).toInt32) &&& 1431655765)).toUInt32 >>> ((2 : Int32).toUInt32 &&& Int32.toUInt32 31)).toInt32) &&& 858993459)) + (((((l0 - (((l0.toUInt32 >>> ((1 : Int32).toUInt32 &&& Int32.toUInt32 31)).toInt32) &&& 1431655765)) &&& 858993459) + ((((l0 - (((l0.toUInt32 >>> ((1 : Int32).toUInt32 &&& Int32.toUInt32 31)).toInt32) &&& 1431655765)).toUInt32 >>> ((2 : Int32).toUInt32 &&& Int32.toUInt32 31)).toInt32) &&& 858993459)).toUInt32 >>> ((4 : Int32).toUInt32 &&& Int32.toUInt32 31)).toInt32)) &&& 252645135) + (((((((l0 - (((l0.toUInt32 >>> ((1 : Int32).toUInt32 &&& Int32.toUInt32 31)).toInt32) &&& 1431655765)) &&& 858993459) + ((((l0 - (((l0.toUInt32 >>> ((1 : Int32).toUInt32 &&& Int32.toUInt32 31)).toInt32) &&& 1431655765)).toUInt32 >>> ((2 : Int32).toUInt32 &&& Int32.toUInt32 31)).toInt32) &&& 858993459)) + (((((l0 - (((l0.toUInt32 >>> ((1 : Int32).toUInt32 &&& Int32.toUInt32 31)).toInt32) &&& 1431655765)) &&& 858993459) + ((((l0 - (((l0.toUInt32 >>> ((1 : Int32).toUInt32 &&& Int32.toUInt32 31)).toInt32) &&& 1431655765)).toUInt32 >>> ((2 : Int32).toUInt32 &&& Int32.toUInt32 31)).toInt32) &&& 858993459)).toUInt32 >>> ((4 : Int32).toUInt32 &&& Int32.toUInt32 31)).toInt32)) &&& 252645135).toUInt32 >>> ((8 : Int32).toUInt32 &&& Int32.toUInt32 31)).toInt32)).toUInt32 >>> ((16 : Int32).toUInt32 &&& Int32.toUInt32 31)).toInt32)))
  generalize xSt1 lvz4 0 (.int (((((((l0 - (((l0.toUInt32 >>> ((1 : Int32).toUInt32 &&& Int32.toUInt32 31)).toInt32) &&& 1431655765)) &&& 858993459) + ((((l0 - (((l0.toUInt32 >>> ((1 : Int32).toUInt32 &&& Int32.toUInt32 31)).toInt32) &&& 1431655765)).toUInt32 >>> ((2 : Int32).toUInt32 &&& Int32.toUInt32 31)).toInt32) &&& 858993459)) + (((((l0 - (((l0.toUInt32 >>> ((1 : Int32).toUInt32 &&& Int32.toUInt32 31)).toInt32) &&& 1431655765)) &&& 858993459) + ((((l0 - (((l0.toUInt32 >>> ((1 : Int32).toUInt32 &&& Int32.toUInt32 31)).toInt32) &&& 1431655765)).toUInt32 >>> ((2 : Int32).toUInt32 &&& Int32.toUInt32 31)).toInt32) &&& 858993459)).toUInt32 >>> ((4 : Int32).toUInt32 &&& Int32.toUInt32 31)).toInt32)) &&& 252645135) + (((((((l0 - (((l0.toUInt32 >>> ((1 : Int32).toUInt32 &&& Int32.toUInt32 31)).toInt32) &&& 1431655765)) &&& 858993459) + ((((l0 - (((l0.toUInt32 >>> ((1 : Int32).toUInt32 &&& Int32.toUInt32 31)).toInt32) &&& 1431655765)).toUInt32 >>> ((2 : Int32).toUInt32 &&& Int32.toUInt32 31)).toInt32) &&& 858993459)) + (((((l0 - (((l0.toUInt32 >>> ((1 : Int32).toUInt32 &&& Int32.toUInt32 31)).toInt32) &&& 1431655765)) &&& 858993459) + ((((l0 - (((l0.toUInt32 >>> ((1 : Int32).toUInt32 &&& Int32.toUInt32 31)).toInt32) &&& 1431655765)).toUInt32 >>> ((2 : Int32).toUInt32 &&& Int32.toUInt32 31)).toInt32) &&& 858993459)).toUInt32 >>> ((4 : Int32).toUInt32 &&& Int32.toUInt32 31)).toInt32)) &&& 252645135).toUInt32 >>> ((8 : Int32).toUInt32 &&& Int32.toUInt32 31)).toInt32)) + ((((((((l0 - (((l0.toUInt32 >>> ((1 : Int32).toUInt32 &&& Int32.toUInt32 31)).toInt32) &&& 1431655765)) &&& 858993459) + ((((l0 - (((l0.toUInt32 >>> ((1 : Int32).toUInt32 &&& Int32.toUInt32 31)).toInt32) &&& 1431655765)).toUInt32 >>> ((2 : Int32).toUInt32 &&& Int32.toUInt32 31)).toInt32) &&& 858993459)) + (((((l0 - (((l0.toUInt32 >>> ((1 : Int32).toUInt32 &&& Int32.toUInt32 31)).toInt32) &&& 1431655765)) &&& 858993459) + ((((l0 - (((l0.toUInt32 >>> ((1 : Int32).toUInt32 &&& Int32.toUInt32 31)).toInt32) &&& 1431655765)).toUInt32 >>> ((2 : Int32).toUInt32 &&& Int32.toUInt32 31)).toInt32) &&& 858993459)).toUInt32 >>> ((4 : Int32).toUInt32 &&& Int32.toUInt32 31)).toInt32)) &&& 252645135) + (((((((l0 - (((l0.toUInt32 >>> ((1 : Int32).toUInt32 &&& Int32.toUInt32 31)).toInt32) &&& 1431655765)) &&& 858993459) + ((((l0 - (((l0.toUInt32 >>> ((1 : Int32).toUInt32 &&& Int32.toUInt32 31)).toInt32) &&& 1431655765)).toUInt32 >>> ((2 : Int32).toUInt32 &&& Int32.toUInt32 31)).toInt32) &&& 858993459)) + (((((l0 - (((l0.toUInt32 >>> ((1 : Int32).toUInt32 &&& Int32.toUInt32 31)).toInt32) &&& 1431655765)) &&& 858993459) + ((((l0 - (((l0.toUInt32 >>> ((1 : Int32).toUInt32 &&& Int32.toUInt32 31)).toInt32) &&& 1431655765)).toUInt32 >>> ((2 : Int32).toUInt32 &&& Int32.toUInt32 31)).toInt32) &&& 858993459)).toUInt32 >>> ((4 : Int32).toUInt32 &&& Int32.toUInt32 31)).toInt32)) &&& 252645135).toUInt32 >>> ((8 : Int32).toUInt32 &&& Int32.toUInt32 31)).toInt32)).toUInt32 >>> ((16 : Int32).toUInt32 &&& Int32.toUInt32 31)).toInt32))) = lvz5 at g0_z5 ⊢
  refine ye_iload rfl g0_z5 ?_
  refine ye_p rfl rfl ?_
  refine ye_p rfl rfl ?_
  exact ye_ret rfl rfl (rP h)
def f_J6_bitCount_0f7a4 (N : Nat) (S : yS) (xl0 : Int32) : Option Int32 := f_J6_bitCount_0f7a4_0 N S xl0
theorem m_J6_bitCount_0f7a4 {rt : List Nat} {F : xH} {ev : xEv} {prim : xRel} {d : Nat} {T : yT} {v : Int32} (N : Nat) (S : yS) (xl0 : Int32) (h : f_J6_bitCount_0f7a4 N S xl0 = some v) : ykP rt F ev prim (d + 1) 300 T S [.int xl0] (.int v) :=
  ykP.of (pg_300 ev) mi_300 (Nat.le_of_ble_eq_true rfl) (fun hp sz hM => w_J6_bitCount_0f7a4_0 (prim := prim) (d := d) N S xl0 _ rfl hM h)
