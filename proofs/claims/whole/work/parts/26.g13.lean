
def f_X12_lamps_31 (N : Nat) (k10 : yS → Int32 → Int32 → Int32 → Int32 → Option (Int32 × yS)) (S : yS) (l1 : Int32) (l2 : Int32) (l3 : Int32) (l4 : Int32) : Option (Int32 × yS) := k10 S l1 l2 l3 (l4 + 1)
set_option maxHeartbeats 4000000 in
set_option maxRecDepth 40000 in
theorem w_X12_lamps_31 {F : xH} {ev : xEv} {prim : xRel} {d sz : Nat} {T : yT} {v : Int32} {S' : yS} (N : Nat) (k10 : yS → Int32 → Int32 → Int32 → Int32 → Option (Int32 × yS)) (u10 : ∀ (S : yS) (l1 : Int32) (l2 : Int32) (l3 : Int32) (l4 : Int32) (hp : xH) (lv : xLv) (a0 : Nat) (fa0 : yAt T 12 8 0 a0) (g0 : xG lv 0 = some (.ref a0)) (g1 : xG lv 1 = some (.int l1)) (g2 : xG lv 2 = some (.int l2)) (g3 : xG lv 3 = some (.int l3)) (g4 : xG lv 4 = some (.int l4)) (hM : cR [8] F ev T S hp) (h : k10 S l1 l2 l3 l4 = some (v, S')), yWE ev.2.1 (xstr ev) (xCalls ev xmi (xprog ev) prim (d + 409)) (pX12_lamps ev) (10, lv, [], hp, sz, 0) (ypQ [8] F ev T sz (some (.int v)) S')) (S : yS) (l1 : Int32) (l2 : Int32) (l3 : Int32) (l4 : Int32) (hp : xH) (lv : xLv) (a0 : Nat) (fa0 : yAt T 12 8 0 a0) (g0 : xG lv 0 = some (.ref a0)) (g1 : xG lv 1 = some (.int l1)) (g2 : xG lv 2 = some (.int l2)) (g3 : xG lv 3 = some (.int l3)) (g4 : xG lv 4 = some (.int l4)) (hM : cR [8] F ev T S hp) (h : f_X12_lamps_31 N k10 S l1 l2 l3 l4 = some (v, S')) : yWE ev.2.1 (xstr ev) (xCalls ev xmi (xprog ev) prim (d + 409)) (pX12_lamps ev) (31, lv, [], hp, sz, 0) (ypQ [8] F ev T sz (some (.int v)) S') := by
  unfold f_X12_lamps_31 at h
  refine ye_iinc rfl g4 ?_
  have g0_z1 := xG_o1 (i := 4) (v := .int (l4 + 1)) g0 rfl
  have g1_z1 := xG_o1 (i := 4) (v := .int (l4 + 1)) g1 rfl
  have g2_z1 := xG_o1 (i := 4) (v := .int (l4 + 1)) g2 rfl
  have g3_z1 := xG_o1 (i := 4) (v := .int (l4 + 1)) g3 rfl
  have g4_z1 := xG_same lv 4 (.int (l4 + 1))
  generalize xSt1 lv 4 (.int (l4 + 1)) = lvz1 at g0_z1 g1_z1 g2_z1 g3_z1 g4_z1 ⊢
  refine ye_p rfl rfl ?_
  exact u10 S l1 l2 l3 (l4 + 1) hp lvz1 a0 fa0 g0_z1 g1_z1 g2_z1 g3_z1 g4_z1 hM h

def f_X12_lamps_59 (N : Nat) (S : yS) : Option (Int32 × yS) := some ((-1), S)
set_option maxHeartbeats 4000000 in
set_option maxRecDepth 40000 in
theorem w_X12_lamps_59 {F : xH} {ev : xEv} {prim : xRel} {d sz : Nat} {T : yT} {v : Int32} {S' : yS} (N : Nat) (S : yS) (hp : xH) (lv : xLv) (hM : cR [8] F ev T S hp) (h : f_X12_lamps_59 N S = some (v, S')) : yWE ev.2.1 (xstr ev) (xCalls ev xmi (xprog ev) prim (d + 409)) (pX12_lamps ev) (59, lv, [], hp, sz, 0) (ypQ [8] F ev T sz (some (.int v)) S') := by
  unfold f_X12_lamps_59 at h
  refine ye_p rfl rfl ?_
  exact ye_ret rfl rfl (rQ h hM)

def f_X12_lamps_280 (N : Nat) (k82 : yS → Int32 → Int32 → Int32 → Int32 → Int32 → Option (Int32 × yS)) (k114 : yS → Int32 → Int32 → Int32 → Int32 → Int32 → Int32 → Option (Int32 × yS)) (S : yS) (l1 : Int32) (l2 : Int32) (l4 : Int32) (l5 : Int32) (l6 : Int32) (l7 : Int32) : Option (Int32 × yS) := k114 S l1 l2 l4 l5 l6 (l7 + 1)
set_option maxHeartbeats 4000000 in
set_option maxRecDepth 40000 in
theorem w_X12_lamps_280 {F : xH} {ev : xEv} {prim : xRel} {d sz : Nat} {T : yT} {v : Int32} {S' : yS} (N : Nat) (k82 : yS → Int32 → Int32 → Int32 → Int32 → Int32 → Option (Int32 × yS)) (k114 : yS → Int32 → Int32 → Int32 → Int32 → Int32 → Int32 → Option (Int32 × yS)) (u82 : ∀ (S : yS) (l1 : Int32) (l2 : Int32) (l4 : Int32) (l5 : Int32) (l6 : Int32) (hp : xH) (lv : xLv) (a0 : Nat) (fa0 : yAt T 12 8 0 a0) (g0 : xG lv 0 = some (.ref a0)) (g1 : xG lv 1 = some (.int l1)) (g2 : xG lv 2 = some (.int l2)) (g4 : xG lv 4 = some (.int l4)) (g5 : xG lv 5 = some (.int l5)) (g6 : xG lv 6 = some (.int l6)) (hM : cR [8] F ev T S hp) (h : k82 S l1 l2 l4 l5 l6 = some (v, S')), yWE ev.2.1 (xstr ev) (xCalls ev xmi (xprog ev) prim (d + 409)) (pX12_lamps ev) (82, lv, [], hp, sz, 0) (ypQ [8] F ev T sz (some (.int v)) S')) (u114 : ∀ (S : yS) (l1 : Int32) (l2 : Int32) (l4 : Int32) (l5 : Int32) (l6 : Int32) (l7 : Int32) (hp : xH) (lv : xLv) (a0 : Nat) (fa0 : yAt T 12 8 0 a0) (g0 : xG lv 0 = some (.ref a0)) (g1 : xG lv 1 = some (.int l1)) (g2 : xG lv 2 = some (.int l2)) (g4 : xG lv 4 = some (.int l4)) (g5 : xG lv 5 = some (.int l5)) (g6 : xG lv 6 = some (.int l6)) (g7 : xG lv 7 = some (.int l7)) (hM : cR [8] F ev T S hp) (h : k114 S l1 l2 l4 l5 l6 l7 = some (v, S')), yWE ev.2.1 (xstr ev) (xCalls ev xmi (xprog ev) prim (d + 409)) (pX12_lamps ev) (114, lv, [], hp, sz, 0) (ypQ [8] F ev T sz (some (.int v)) S')) (S : yS) (l1 : Int32) (l2 : Int32) (l4 : Int32) (l5 : Int32) (l6 : Int32) (l7 : Int32) (hp : xH) (lv : xLv) (a0 : Nat) (fa0 : yAt T 12 8 0 a0) (g0 : xG lv 0 = some (.ref a0)) (g1 : xG lv 1 = some (.int l1)) (g2 : xG lv 2 = some (.int l2)) (g4 : xG lv 4 = some (.int l4)) (g5 : xG lv 5 = some (.int l5)) (g6 : xG lv 6 = some (.int l6)) (g7 : xG lv 7 = some (.int l7)) (hM : cR [8] F ev T S hp) (h : f_X12_lamps_280 N k82 k114 S l1 l2 l4 l5 l6 l7 = some (v, S')) : yWE ev.2.1 (xstr ev) (xCalls ev xmi (xprog ev) prim (d + 409)) (pX12_lamps ev) (280, lv, [], hp, sz, 0) (ypQ [8] F ev T sz (some (.int v)) S') := by
  unfold f_X12_lamps_280 at h
  refine ye_iinc rfl g7 ?_
  have g0_z1 := xG_o1 (i := 7) (v := .int (l7 + 1)) g0 rfl
  have g1_z1 := xG_o1 (i := 7) (v := .int (l7 + 1)) g1 rfl
  have g2_z1 := xG_o1 (i := 7) (v := .int (l7 + 1)) g2 rfl
  have g4_z1 := xG_o1 (i := 7) (v := .int (l7 + 1)) g4 rfl
  have g5_z1 := xG_o1 (i := 7) (v := .int (l7 + 1)) g5 rfl
  have g6_z1 := xG_o1 (i := 7) (v := .int (l7 + 1)) g6 rfl
  have g7_z1 := xG_same lv 7 (.int (l7 + 1))
  generalize xSt1 lv 7 (.int (l7 + 1)) = lvz1 at g0_z1 g1_z1 g2_z1 g4_z1 g5_z1 g6_z1 g7_z1 ⊢
  refine ye_p rfl rfl ?_
  exact u114 S l1 l2 l4 l5 l6 (l7 + 1) hp lvz1 a0 fa0 g0_z1 g1_z1 g2_z1 g4_z1 g5_z1 g6_z1 g7_z1 hM h

def f_X12_lamps_256 (N : Nat) (k82 : yS → Int32 → Int32 → Int32 → Int32 → Int32 → Option (Int32 × yS)) (k114 : yS → Int32 → Int32 → Int32 → Int32 → Int32 → Int32 → Option (Int32 × yS)) (S : yS) (l1 : Int32) (l2 : Int32) (l6 : Int32) (l7 : Int32) (l8 : Int32) (l9 : Int32) : Option (Int32 × yS) := gA 64 0 fun j1 => sq (yA S 8 45 (upd (S.2.1 8 45) j1 l6)) fun S1 => gA 64 1 fun j2 => sq (yA S1 8 45 (upd (S1.2.1 8 45) j2 l7)) fun S2 => f_X12_lamps_280 N k82 k114 S2 l1 l2 l8 l9 l6 l7
set_option maxHeartbeats 4000000 in
set_option maxRecDepth 40000 in
theorem w_X12_lamps_256 {F : xH} {ev : xEv} {prim : xRel} {d sz : Nat} {T : yT} {v : Int32} {S' : yS} (N : Nat) (k82 : yS → Int32 → Int32 → Int32 → Int32 → Int32 → Option (Int32 × yS)) (k114 : yS → Int32 → Int32 → Int32 → Int32 → Int32 → Int32 → Option (Int32 × yS)) (u82 : ∀ (S : yS) (l1 : Int32) (l2 : Int32) (l4 : Int32) (l5 : Int32) (l6 : Int32) (hp : xH) (lv : xLv) (a0 : Nat) (fa0 : yAt T 12 8 0 a0) (g0 : xG lv 0 = some (.ref a0)) (g1 : xG lv 1 = some (.int l1)) (g2 : xG lv 2 = some (.int l2)) (g4 : xG lv 4 = some (.int l4)) (g5 : xG lv 5 = some (.int l5)) (g6 : xG lv 6 = some (.int l6)) (hM : cR [8] F ev T S hp) (h : k82 S l1 l2 l4 l5 l6 = some (v, S')), yWE ev.2.1 (xstr ev) (xCalls ev xmi (xprog ev) prim (d + 409)) (pX12_lamps ev) (82, lv, [], hp, sz, 0) (ypQ [8] F ev T sz (some (.int v)) S')) (u114 : ∀ (S : yS) (l1 : Int32) (l2 : Int32) (l4 : Int32) (l5 : Int32) (l6 : Int32) (l7 : Int32) (hp : xH) (lv : xLv) (a0 : Nat) (fa0 : yAt T 12 8 0 a0) (g0 : xG lv 0 = some (.ref a0)) (g1 : xG lv 1 = some (.int l1)) (g2 : xG lv 2 = some (.int l2)) (g4 : xG lv 4 = some (.int l4)) (g5 : xG lv 5 = some (.int l5)) (g6 : xG lv 6 = some (.int l6)) (g7 : xG lv 7 = some (.int l7)) (hM : cR [8] F ev T S hp) (h : k114 S l1 l2 l4 l5 l6 l7 = some (v, S')), yWE ev.2.1 (xstr ev) (xCalls ev xmi (xprog ev) prim (d + 409)) (pX12_lamps ev) (114, lv, [], hp, sz, 0) (ypQ [8] F ev T sz (some (.int v)) S')) (S : yS) (l1 : Int32) (l2 : Int32) (l6 : Int32) (l7 : Int32) (l8 : Int32) (l9 : Int32) (hp : xH) (lv : xLv) (a0 : Nat) (fa0 : yAt T 12 8 0 a0) (g0 : xG lv 0 = some (.ref a0)) (g1 : xG lv 1 = some (.int l1)) (g2 : xG lv 2 = some (.int l2)) (g6 : xG lv 6 = some (.int l6)) (g7 : xG lv 7 = some (.int l7)) (g8 : xG lv 8 = some (.int l8)) (g9 : xG lv 9 = some (.int l9)) (hM : cR [8] F ev T S hp) (h : f_X12_lamps_256 N k82 k114 S l1 l2 l6 l7 l8 l9 = some (v, S')) : yWE ev.2.1 (xstr ev) (xCalls ev xmi (xprog ev) prim (d + 409)) (pX12_lamps ev) (256, lv, [], hp, sz, 0) (ypQ [8] F ev T sz (some (.int v)) S') := by
  unfold f_X12_lamps_256 at h
  refine ye_iload rfl g8 ?_
  refine ye_p rfl rfl ?_
  have g0_z1 := xG_o1 (i := 4) (v := .int l8) g0 rfl
  have g1_z1 := xG_o1 (i := 4) (v := .int l8) g1 rfl
  have g2_z1 := xG_o1 (i := 4) (v := .int l8) g2 rfl
  have g6_z1 := xG_o1 (i := 4) (v := .int l8) g6 rfl
  have g7_z1 := xG_o1 (i := 4) (v := .int l8) g7 rfl
  have g9_z1 := xG_o1 (i := 4) (v := .int l8) g9 rfl
  have g4_z1 := xG_same lv 4 (.int l8)
  generalize xSt1 lv 4 (.int l8) = lvz1 at g0_z1 g1_z1 g2_z1 g6_z1 g7_z1 g9_z1 g4_z1 ⊢
  refine ye_iload rfl g9_z1 ?_
  refine ye_p rfl rfl ?_
  have g0_z2 := xG_o1 (i := 5) (v := .int l9) g0_z1 rfl
  have g1_z2 := xG_o1 (i := 5) (v := .int l9) g1_z1 rfl
  have g2_z2 := xG_o1 (i := 5) (v := .int l9) g2_z1 rfl
  have g4_z2 := xG_o1 (i := 5) (v := .int l9) g4_z1 rfl
  have g6_z2 := xG_o1 (i := 5) (v := .int l9) g6_z1 rfl
  have g7_z2 := xG_o1 (i := 5) (v := .int l9) g7_z1 rfl
  have g5_z2 := xG_same lvz1 5 (.int l9)
  generalize xSt1 lvz1 5 (.int l9) = lvz2 at g0_z2 g1_z2 g2_z2 g4_z2 g6_z2 g7_z2 g5_z2 ⊢
  refine ye_aload rfl g0_z2 ?_
  refine ye_getr rfl (hM.obj fa0 ⟨rfl, rfl⟩) rfl (fun cx1 ecx1 => ?_)
  have fcx1 := yAt.row fa0 ecx1
  refine ye_p rfl rfl ?_
  refine ye_iload rfl g6_z2 ?_
  obtain ⟨j1, ej1, ij1, h⟩ := gA_some h
  obtain ⟨S1, eS1, h⟩ := sq_some h
  refine yw_ast rfl hM fcx1 yr_12_45 (by decide) ij1 ej1 eS1 (fun y1 M1 => ?_)
  refine ye_aload rfl g0_z2 ?_
  refine ye_getr rfl (M1.obj fa0 ⟨rfl, rfl⟩) rfl (fun cx2 ecx2 => ?_)
  have fcx2 := yAt.row fa0 ecx2
  refine ye_p rfl rfl ?_
  refine ye_iload rfl g7_z2 ?_
  obtain ⟨j2, ej2, ij2, h⟩ := gA_some h
  obtain ⟨S2, eS2, h⟩ := sq_some h
  refine yw_ast rfl M1 fcx2 yr_12_45 (by decide) ij2 ej2 eS2 (fun y2 M2 => ?_)
  exact w_X12_lamps_280 (prim := prim) (d := d) N k82 k114 u82 u114 S2 l1 l2 l8 l9 l6 l7 y2 lvz2 a0 fa0 g0_z2 g1_z2 g2_z2 g4_z2 g5_z2 g6_z2 g7_z2 M2 h

def f_X12_lamps_205 (N : Nat) (k82 : yS → Int32 → Int32 → Int32 → Int32 → Int32 → Option (Int32 × yS)) (k114 : yS → Int32 → Int32 → Int32 → Int32 → Int32 → Int32 → Option (Int32 × yS)) (S : yS) (l1 : Int32) (l2 : Int32) (l4 : Int32) (l5 : Int32) (l6 : Int32) (l7 : Int32) : Option (Int32 × yS) := bS (f_X12_go N S l2) fun w1 S1 => bV (f_X12_onTime N S1) fun w2 => bS (f_X12_coinNow N S1) fun w3 S2 => bS (f_X12_putBack N S2) fun w4 S3 => if l4 = ((-1)) then f_X12_lamps_256 N k82 k114 S3 l1 l2 l6 l7 w2 w3 else if w2 < l4 then f_X12_lamps_280 N k82 k114 S3 l1 l2 l4 l5 l6 l7 else if ¬ w2 = l4 then f_X12_lamps_256 N k82 k114 S3 l1 l2 l6 l7 w2 w3 else if l5 < w3 then f_X12_lamps_256 N k82 k114 S3 l1 l2 l6 l7 w2 w3 else f_X12_lamps_280 N k82 k114 S3 l1 l2 l4 l5 l6 l7
set_option maxHeartbeats 4000000 in
set_option maxRecDepth 40000 in
theorem w_X12_lamps_205 {F : xH} {ev : xEv} {prim : xRel} {d sz : Nat} {T : yT} {v : Int32} {S' : yS} (N : Nat) (k82 : yS → Int32 → Int32 → Int32 → Int32 → Int32 → Option (Int32 × yS)) (k114 : yS → Int32 → Int32 → Int32 → Int32 → Int32 → Int32 → Option (Int32 × yS)) (u82 : ∀ (S : yS) (l1 : Int32) (l2 : Int32) (l4 : Int32) (l5 : Int32) (l6 : Int32) (hp : xH) (lv : xLv) (a0 : Nat) (fa0 : yAt T 12 8 0 a0) (g0 : xG lv 0 = some (.ref a0)) (g1 : xG lv 1 = some (.int l1)) (g2 : xG lv 2 = some (.int l2)) (g4 : xG lv 4 = some (.int l4)) (g5 : xG lv 5 = some (.int l5)) (g6 : xG lv 6 = some (.int l6)) (hM : cR [8] F ev T S hp) (h : k82 S l1 l2 l4 l5 l6 = some (v, S')), yWE ev.2.1 (xstr ev) (xCalls ev xmi (xprog ev) prim (d + 409)) (pX12_lamps ev) (82, lv, [], hp, sz, 0) (ypQ [8] F ev T sz (some (.int v)) S')) (u114 : ∀ (S : yS) (l1 : Int32) (l2 : Int32) (l4 : Int32) (l5 : Int32) (l6 : Int32) (l7 : Int32) (hp : xH) (lv : xLv) (a0 : Nat) (fa0 : yAt T 12 8 0 a0) (g0 : xG lv 0 = some (.ref a0)) (g1 : xG lv 1 = some (.int l1)) (g2 : xG lv 2 = some (.int l2)) (g4 : xG lv 4 = some (.int l4)) (g5 : xG lv 5 = some (.int l5)) (g6 : xG lv 6 = some (.int l6)) (g7 : xG lv 7 = some (.int l7)) (hM : cR [8] F ev T S hp) (h : k114 S l1 l2 l4 l5 l6 l7 = some (v, S')), yWE ev.2.1 (xstr ev) (xCalls ev xmi (xprog ev) prim (d + 409)) (pX12_lamps ev) (114, lv, [], hp, sz, 0) (ypQ [8] F ev T sz (some (.int v)) S')) (S : yS) (l1 : Int32) (l2 : Int32) (l4 : Int32) (l5 : Int32) (l6 : Int32) (l7 : Int32) (hp : xH) (lv : xLv) (a0 : Nat) (fa0 : yAt T 12 8 0 a0) (g0 : xG lv 0 = some (.ref a0)) (g1 : xG lv 1 = some (.int l1)) (g2 : xG lv 2 = some (.int l2)) (g4 : xG lv 4 = some (.int l4)) (g5 : xG lv 5 = some (.int l5)) (g6 : xG lv 6 = some (.int l6)) (g7 : xG lv 7 = some (.int l7)) (hM : cR [8] F ev T S hp) (h : f_X12_lamps_205 N k82 k114 S l1 l2 l4 l5 l6 l7 = some (v, S')) : yWE ev.2.1 (xstr ev) (xCalls ev xmi (xprog ev) prim (d + 409)) (pX12_lamps ev) (205, lv, [], hp, sz, 0) (ypQ [8] F ev T sz (some (.int v)) S') := by
  unfold f_X12_lamps_205 at h
  refine ye_aload rfl g0 ?_
  refine ye_iload rfl g2 ?_
  obtain ⟨w1, S1, hw1, h⟩ := bS_some h
  obtain ⟨y1, cy1, M1⟩ := (m_X12_go (d := d + 0) (T := T) N S l2 a0 fa0 hw1) hp sz hM
  refine ye_callV (As := [.int l2]) (rest := []) 0 (Or.inl rfl) rfl rfl rfl (Nat.le_of_ble_eq_true rfl) (hM.obj fa0 ⟨rfl, rfl⟩) cy1 ?_
  refine ye_aload rfl g0 ?_
  obtain ⟨w2, hw2, h⟩ := bV_some h
  refine ye_callV (As := []) (rest := []) 0 (Or.inl rfl) rfl rfl rfl (Nat.le_of_ble_eq_true rfl) (M1.obj fa0 ⟨rfl, rfl⟩) ((m_X12_onTime (d := d + 407) (T := T) N S1 a0 fa0 hw2) y1 sz M1) ?_
  refine ye_p rfl rfl ?_
  have g0_z1 := xG_o1 (i := 8) (v := .int w2) g0 rfl
  have g1_z1 := xG_o1 (i := 8) (v := .int w2) g1 rfl
  have g2_z1 := xG_o1 (i := 8) (v := .int w2) g2 rfl
  have g4_z1 := xG_o1 (i := 8) (v := .int w2) g4 rfl
  have g5_z1 := xG_o1 (i := 8) (v := .int w2) g5 rfl
  have g6_z1 := xG_o1 (i := 8) (v := .int w2) g6 rfl
  have g7_z1 := xG_o1 (i := 8) (v := .int w2) g7 rfl
  have g8_z1 := xG_same lv 8 (.int w2)
  generalize xSt1 lv 8 (.int w2) = lvz1 at g0_z1 g1_z1 g2_z1 g4_z1 g5_z1 g6_z1 g7_z1 g8_z1 ⊢
  refine ye_aload rfl g0_z1 ?_
  obtain ⟨w3, S2, hw3, h⟩ := bS_some h
  obtain ⟨y2, cy2, M2⟩ := (m_X12_coinNow (d := d + 2) (T := T) N S1 a0 fa0 hw3) y1 sz M1
  refine ye_callV (As := []) (rest := []) 0 (Or.inl rfl) rfl rfl rfl (Nat.le_of_ble_eq_true rfl) (M1.obj fa0 ⟨rfl, rfl⟩) cy2 ?_
  refine ye_p rfl rfl ?_
  have g0_z2 := xG_o1 (i := 9) (v := .int w3) g0_z1 rfl
  have g1_z2 := xG_o1 (i := 9) (v := .int w3) g1_z1 rfl
  have g2_z2 := xG_o1 (i := 9) (v := .int w3) g2_z1 rfl
  have g4_z2 := xG_o1 (i := 9) (v := .int w3) g4_z1 rfl
  have g5_z2 := xG_o1 (i := 9) (v := .int w3) g5_z1 rfl
  have g6_z2 := xG_o1 (i := 9) (v := .int w3) g6_z1 rfl
  have g7_z2 := xG_o1 (i := 9) (v := .int w3) g7_z1 rfl
  have g8_z2 := xG_o1 (i := 9) (v := .int w3) g8_z1 rfl
  have g9_z2 := xG_same lvz1 9 (.int w3)
  generalize xSt1 lvz1 9 (.int w3) = lvz2 at g0_z2 g1_z2 g2_z2 g4_z2 g5_z2 g6_z2 g7_z2 g8_z2 g9_z2 ⊢
  refine ye_aload rfl g0_z2 ?_
  obtain ⟨w4, S3, hw4, h⟩ := bS_some h
  obtain ⟨y3, cy3, M3⟩ := (m_X12_putBack (d := d + 408) (T := T) N S2 a0 fa0 hw4) y2 sz M2
  refine ye_callV (As := []) (rest := []) 0 (Or.inl rfl) rfl rfl rfl (Nat.le_of_ble_eq_true rfl) (M2.obj fa0 ⟨rfl, rfl⟩) cy3 ?_
  refine ye_iload rfl g4_z2 ?_
  refine ye_p rfl rfl ?_
  refine ye_icmp_eq rfl (fun h1 => ?_) (fun h1 => ?_)
  · replace h := yiT h1 h
    exact w_X12_lamps_256 (prim := prim) (d := d) N k82 k114 u82 u114 S3 l1 l2 l6 l7 w2 w3 y3 lvz2 a0 fa0 g0_z2 g1_z2 g2_z2 g6_z2 g7_z2 g8_z2 g9_z2 M3 h
  · replace h := yiN h1 h
    refine ye_iload rfl g8_z2 ?_
    refine ye_iload rfl g4_z2 ?_
    refine ye_icmp_lt rfl (fun h2 => ?_) (fun h2 => ?_)
    · replace h := yiT h2 h
      exact w_X12_lamps_280 (prim := prim) (d := d) N k82 k114 u82 u114 S3 l1 l2 l4 l5 l6 l7 y3 lvz2 a0 fa0 g0_z2 g1_z2 g2_z2 g4_z2 g5_z2 g6_z2 g7_z2 M3 h
    · replace h := yiN h2 h
      refine ye_iload rfl g8_z2 ?_
      refine ye_iload rfl g4_z2 ?_
      refine ye_icmp_ne rfl (fun h3 => ?_) (fun h3 => ?_)
      · replace h := yiT h3 h
        exact w_X12_lamps_256 (prim := prim) (d := d) N k82 k114 u82 u114 S3 l1 l2 l6 l7 w2 w3 y3 lvz2 a0 fa0 g0_z2 g1_z2 g2_z2 g6_z2 g7_z2 g8_z2 g9_z2 M3 h
      · replace h := yiN h3 h
        refine ye_iload rfl g9_z2 ?_
        refine ye_iload rfl g5_z2 ?_
        refine ye_icmp_gt rfl (fun h4 => ?_) (fun h4 => ?_)
        · replace h := yiT h4 h
          exact w_X12_lamps_256 (prim := prim) (d := d) N k82 k114 u82 u114 S3 l1 l2 l6 l7 w2 w3 y3 lvz2 a0 fa0 g0_z2 g1_z2 g2_z2 g6_z2 g7_z2 g8_z2 g9_z2 M3 h
        · replace h := yiN h4 h
          refine ye_p rfl rfl ?_
          exact w_X12_lamps_280 (prim := prim) (d := d) N k82 k114 u82 u114 S3 l1 l2 l4 l5 l6 l7 y3 lvz2 a0 fa0 g0_z2 g1_z2 g2_z2 g4_z2 g5_z2 g6_z2 g7_z2 M3 h

def f_X12_lamps_185 (N : Nat) (k82 : yS → Int32 → Int32 → Int32 → Int32 → Int32 → Option (Int32 × yS)) (k114 : yS → Int32 → Int32 → Int32 → Int32 → Int32 → Int32 → Option (Int32 × yS)) (S : yS) (l1 : Int32) (l2 : Int32) (l4 : Int32) (l5 : Int32) (l6 : Int32) (l7 : Int32) : Option (Int32 × yS) := if l7 = ((-1)) then f_X12_lamps_205 N k82 k114 S l1 l2 l4 l5 l6 l7 else gA 2305 ((3 + (2 * l7)) + 0) fun j1 => sq (yA S 8 48 (upd (S.2.1 8 48) j1 1)) fun S1 => f_X12_lamps_205 N k82 k114 S1 l1 l2 l4 l5 l6 l7
set_option maxHeartbeats 4000000 in
set_option maxRecDepth 40000 in
theorem w_X12_lamps_185 {F : xH} {ev : xEv} {prim : xRel} {d sz : Nat} {T : yT} {v : Int32} {S' : yS} (N : Nat) (k82 : yS → Int32 → Int32 → Int32 → Int32 → Int32 → Option (Int32 × yS)) (k114 : yS → Int32 → Int32 → Int32 → Int32 → Int32 → Int32 → Option (Int32 × yS)) (u82 : ∀ (S : yS) (l1 : Int32) (l2 : Int32) (l4 : Int32) (l5 : Int32) (l6 : Int32) (hp : xH) (lv : xLv) (a0 : Nat) (fa0 : yAt T 12 8 0 a0) (g0 : xG lv 0 = some (.ref a0)) (g1 : xG lv 1 = some (.int l1)) (g2 : xG lv 2 = some (.int l2)) (g4 : xG lv 4 = some (.int l4)) (g5 : xG lv 5 = some (.int l5)) (g6 : xG lv 6 = some (.int l6)) (hM : cR [8] F ev T S hp) (h : k82 S l1 l2 l4 l5 l6 = some (v, S')), yWE ev.2.1 (xstr ev) (xCalls ev xmi (xprog ev) prim (d + 409)) (pX12_lamps ev) (82, lv, [], hp, sz, 0) (ypQ [8] F ev T sz (some (.int v)) S')) (u114 : ∀ (S : yS) (l1 : Int32) (l2 : Int32) (l4 : Int32) (l5 : Int32) (l6 : Int32) (l7 : Int32) (hp : xH) (lv : xLv) (a0 : Nat) (fa0 : yAt T 12 8 0 a0) (g0 : xG lv 0 = some (.ref a0)) (g1 : xG lv 1 = some (.int l1)) (g2 : xG lv 2 = some (.int l2)) (g4 : xG lv 4 = some (.int l4)) (g5 : xG lv 5 = some (.int l5)) (g6 : xG lv 6 = some (.int l6)) (g7 : xG lv 7 = some (.int l7)) (hM : cR [8] F ev T S hp) (h : k114 S l1 l2 l4 l5 l6 l7 = some (v, S')), yWE ev.2.1 (xstr ev) (xCalls ev xmi (xprog ev) prim (d + 409)) (pX12_lamps ev) (114, lv, [], hp, sz, 0) (ypQ [8] F ev T sz (some (.int v)) S')) (S : yS) (l1 : Int32) (l2 : Int32) (l4 : Int32) (l5 : Int32) (l6 : Int32) (l7 : Int32) (hp : xH) (lv : xLv) (a0 : Nat) (fa0 : yAt T 12 8 0 a0) (g0 : xG lv 0 = some (.ref a0)) (g1 : xG lv 1 = some (.int l1)) (g2 : xG lv 2 = some (.int l2)) (g4 : xG lv 4 = some (.int l4)) (g5 : xG lv 5 = some (.int l5)) (g6 : xG lv 6 = some (.int l6)) (g7 : xG lv 7 = some (.int l7)) (hM : cR [8] F ev T S hp) (h : f_X12_lamps_185 N k82 k114 S l1 l2 l4 l5 l6 l7 = some (v, S')) : yWE ev.2.1 (xstr ev) (xCalls ev xmi (xprog ev) prim (d + 409)) (pX12_lamps ev) (185, lv, [], hp, sz, 0) (ypQ [8] F ev T sz (some (.int v)) S') := by
  unfold f_X12_lamps_185 at h
  refine ye_iload rfl g7 ?_
  refine ye_p rfl rfl ?_
  refine ye_icmp_eq rfl (fun h1 => ?_) (fun h1 => ?_)
  · replace h := yiT h1 h
    exact w_X12_lamps_205 (prim := prim) (d := d) N k82 k114 u82 u114 S l1 l2 l4 l5 l6 l7 hp lv a0 fa0 g0 g1 g2 g4 g5 g6 g7 hM h
  · replace h := yiN h1 h
    refine ye_aload rfl g0 ?_
    refine ye_getr rfl (hM.obj fa0 ⟨rfl, rfl⟩) rfl (fun cx1 ecx1 => ?_)
    have fcx1 := yAt.row fa0 ecx1
    refine ye_p rfl rfl ?_
    refine ye_p rfl rfl ?_
    refine ye_iload rfl g7 ?_
    refine ye_p rfl rfl ?_
    refine ye_p rfl rfl ?_
    refine ye_p rfl rfl ?_
    refine ye_p rfl rfl ?_
    refine ye_p rfl rfl ?_
    obtain ⟨j1, ej1, ij1, h⟩ := gA_some h
    obtain ⟨S1, eS1, h⟩ := sq_some h
    refine yw_ast rfl hM fcx1 yr_12_48 (by decide) ij1 ej1 eS1 (fun y1 M1 => ?_)
    exact w_X12_lamps_205 (prim := prim) (d := d) N k82 k114 u82 u114 S1 l1 l2 l4 l5 l6 l7 y1 lv a0 fa0 g0 g1 g2 g4 g5 g6 g7 M1 h

def f_X12_lamps_165 (N : Nat) (k82 : yS → Int32 → Int32 → Int32 → Int32 → Int32 → Option (Int32 × yS)) (k114 : yS → Int32 → Int32 → Int32 → Int32 → Int32 → Int32 → Option (Int32 × yS)) (S : yS) (l1 : Int32) (l2 : Int32) (l4 : Int32) (l5 : Int32) (l6 : Int32) (l7 : Int32) : Option (Int32 × yS) := if l6 = ((-1)) then f_X12_lamps_185 N k82 k114 S l1 l2 l4 l5 l6 l7 else gA 2305 ((3 + (2 * l6)) + 0) fun j1 => sq (yA S 8 48 (upd (S.2.1 8 48) j1 1)) fun S1 => f_X12_lamps_185 N k82 k114 S1 l1 l2 l4 l5 l6 l7
set_option maxHeartbeats 4000000 in
set_option maxRecDepth 40000 in
theorem w_X12_lamps_165 {F : xH} {ev : xEv} {prim : xRel} {d sz : Nat} {T : yT} {v : Int32} {S' : yS} (N : Nat) (k82 : yS → Int32 → Int32 → Int32 → Int32 → Int32 → Option (Int32 × yS)) (k114 : yS → Int32 → Int32 → Int32 → Int32 → Int32 → Int32 → Option (Int32 × yS)) (u82 : ∀ (S : yS) (l1 : Int32) (l2 : Int32) (l4 : Int32) (l5 : Int32) (l6 : Int32) (hp : xH) (lv : xLv) (a0 : Nat) (fa0 : yAt T 12 8 0 a0) (g0 : xG lv 0 = some (.ref a0)) (g1 : xG lv 1 = some (.int l1)) (g2 : xG lv 2 = some (.int l2)) (g4 : xG lv 4 = some (.int l4)) (g5 : xG lv 5 = some (.int l5)) (g6 : xG lv 6 = some (.int l6)) (hM : cR [8] F ev T S hp) (h : k82 S l1 l2 l4 l5 l6 = some (v, S')), yWE ev.2.1 (xstr ev) (xCalls ev xmi (xprog ev) prim (d + 409)) (pX12_lamps ev) (82, lv, [], hp, sz, 0) (ypQ [8] F ev T sz (some (.int v)) S')) (u114 : ∀ (S : yS) (l1 : Int32) (l2 : Int32) (l4 : Int32) (l5 : Int32) (l6 : Int32) (l7 : Int32) (hp : xH) (lv : xLv) (a0 : Nat) (fa0 : yAt T 12 8 0 a0) (g0 : xG lv 0 = some (.ref a0)) (g1 : xG lv 1 = some (.int l1)) (g2 : xG lv 2 = some (.int l2)) (g4 : xG lv 4 = some (.int l4)) (g5 : xG lv 5 = some (.int l5)) (g6 : xG lv 6 = some (.int l6)) (g7 : xG lv 7 = some (.int l7)) (hM : cR [8] F ev T S hp) (h : k114 S l1 l2 l4 l5 l6 l7 = some (v, S')), yWE ev.2.1 (xstr ev) (xCalls ev xmi (xprog ev) prim (d + 409)) (pX12_lamps ev) (114, lv, [], hp, sz, 0) (ypQ [8] F ev T sz (some (.int v)) S')) (S : yS) (l1 : Int32) (l2 : Int32) (l4 : Int32) (l5 : Int32) (l6 : Int32) (l7 : Int32) (hp : xH) (lv : xLv) (a0 : Nat) (fa0 : yAt T 12 8 0 a0) (g0 : xG lv 0 = some (.ref a0)) (g1 : xG lv 1 = some (.int l1)) (g2 : xG lv 2 = some (.int l2)) (g4 : xG lv 4 = some (.int l4)) (g5 : xG lv 5 = some (.int l5)) (g6 : xG lv 6 = some (.int l6)) (g7 : xG lv 7 = some (.int l7)) (hM : cR [8] F ev T S hp) (h : f_X12_lamps_165 N k82 k114 S l1 l2 l4 l5 l6 l7 = some (v, S')) : yWE ev.2.1 (xstr ev) (xCalls ev xmi (xprog ev) prim (d + 409)) (pX12_lamps ev) (165, lv, [], hp, sz, 0) (ypQ [8] F ev T sz (some (.int v)) S') := by
  unfold f_X12_lamps_165 at h
  refine ye_iload rfl g6 ?_
  refine ye_p rfl rfl ?_
  refine ye_icmp_eq rfl (fun h1 => ?_) (fun h1 => ?_)
  · replace h := yiT h1 h
    exact w_X12_lamps_185 (prim := prim) (d := d) N k82 k114 u82 u114 S l1 l2 l4 l5 l6 l7 hp lv a0 fa0 g0 g1 g2 g4 g5 g6 g7 hM h
  · replace h := yiN h1 h
    refine ye_aload rfl g0 ?_
    refine ye_getr rfl (hM.obj fa0 ⟨rfl, rfl⟩) rfl (fun cx1 ecx1 => ?_)
    have fcx1 := yAt.row fa0 ecx1
    refine ye_p rfl rfl ?_
    refine ye_p rfl rfl ?_
    refine ye_iload rfl g6 ?_
    refine ye_p rfl rfl ?_
    refine ye_p rfl rfl ?_
    refine ye_p rfl rfl ?_
    refine ye_p rfl rfl ?_
    refine ye_p rfl rfl ?_
    obtain ⟨j1, ej1, ij1, h⟩ := gA_some h
    obtain ⟨S1, eS1, h⟩ := sq_some h
    refine yw_ast rfl hM fcx1 yr_12_48 (by decide) ij1 ej1 eS1 (fun y1 M1 => ?_)
    exact w_X12_lamps_185 (prim := prim) (d := d) N k82 k114 u82 u114 S1 l1 l2 l4 l5 l6 l7 y1 lv a0 fa0 g0 g1 g2 g4 g5 g6 g7 M1 h

def f_X12_lamps_147 (N : Nat) (k82 : yS → Int32 → Int32 → Int32 → Int32 → Int32 → Option (Int32 × yS)) (k114 : yS → Int32 → Int32 → Int32 → Int32 → Int32 → Int32 → Option (Int32 × yS)) (S : yS) (l1 : Int32) (l2 : Int32) (l4 : Int32) (l5 : Int32) (l6 : Int32) (l7 : Int32) : Option (Int32 × yS) := if l7 = ((-1)) then f_X12_lamps_165 N k82 k114 S l1 l2 l4 l5 l6 l7 else bV (f_X12_hasLamp N S l7) fun w1 => if w1 = 0 then f_X12_lamps_165 N k82 k114 S l1 l2 l4 l5 l6 l7 else f_X12_lamps_280 N k82 k114 S l1 l2 l4 l5 l6 l7
set_option maxHeartbeats 4000000 in
set_option maxRecDepth 40000 in
theorem w_X12_lamps_147 {F : xH} {ev : xEv} {prim : xRel} {d sz : Nat} {T : yT} {v : Int32} {S' : yS} (N : Nat) (k82 : yS → Int32 → Int32 → Int32 → Int32 → Int32 → Option (Int32 × yS)) (k114 : yS → Int32 → Int32 → Int32 → Int32 → Int32 → Int32 → Option (Int32 × yS)) (u82 : ∀ (S : yS) (l1 : Int32) (l2 : Int32) (l4 : Int32) (l5 : Int32) (l6 : Int32) (hp : xH) (lv : xLv) (a0 : Nat) (fa0 : yAt T 12 8 0 a0) (g0 : xG lv 0 = some (.ref a0)) (g1 : xG lv 1 = some (.int l1)) (g2 : xG lv 2 = some (.int l2)) (g4 : xG lv 4 = some (.int l4)) (g5 : xG lv 5 = some (.int l5)) (g6 : xG lv 6 = some (.int l6)) (hM : cR [8] F ev T S hp) (h : k82 S l1 l2 l4 l5 l6 = some (v, S')), yWE ev.2.1 (xstr ev) (xCalls ev xmi (xprog ev) prim (d + 409)) (pX12_lamps ev) (82, lv, [], hp, sz, 0) (ypQ [8] F ev T sz (some (.int v)) S')) (u114 : ∀ (S : yS) (l1 : Int32) (l2 : Int32) (l4 : Int32) (l5 : Int32) (l6 : Int32) (l7 : Int32) (hp : xH) (lv : xLv) (a0 : Nat) (fa0 : yAt T 12 8 0 a0) (g0 : xG lv 0 = some (.ref a0)) (g1 : xG lv 1 = some (.int l1)) (g2 : xG lv 2 = some (.int l2)) (g4 : xG lv 4 = some (.int l4)) (g5 : xG lv 5 = some (.int l5)) (g6 : xG lv 6 = some (.int l6)) (g7 : xG lv 7 = some (.int l7)) (hM : cR [8] F ev T S hp) (h : k114 S l1 l2 l4 l5 l6 l7 = some (v, S')), yWE ev.2.1 (xstr ev) (xCalls ev xmi (xprog ev) prim (d + 409)) (pX12_lamps ev) (114, lv, [], hp, sz, 0) (ypQ [8] F ev T sz (some (.int v)) S')) (S : yS) (l1 : Int32) (l2 : Int32) (l4 : Int32) (l5 : Int32) (l6 : Int32) (l7 : Int32) (hp : xH) (lv : xLv) (a0 : Nat) (fa0 : yAt T 12 8 0 a0) (g0 : xG lv 0 = some (.ref a0)) (g1 : xG lv 1 = some (.int l1)) (g2 : xG lv 2 = some (.int l2)) (g4 : xG lv 4 = some (.int l4)) (g5 : xG lv 5 = some (.int l5)) (g6 : xG lv 6 = some (.int l6)) (g7 : xG lv 7 = some (.int l7)) (hM : cR [8] F ev T S hp) (h : f_X12_lamps_147 N k82 k114 S l1 l2 l4 l5 l6 l7 = some (v, S')) : yWE ev.2.1 (xstr ev) (xCalls ev xmi (xprog ev) prim (d + 409)) (pX12_lamps ev) (147, lv, [], hp, sz, 0) (ypQ [8] F ev T sz (some (.int v)) S') := by
  unfold f_X12_lamps_147 at h
  refine ye_iload rfl g7 ?_
  refine ye_p rfl rfl ?_
  refine ye_icmp_eq rfl (fun h1 => ?_) (fun h1 => ?_)
  · replace h := yiT h1 h
    exact w_X12_lamps_165 (prim := prim) (d := d) N k82 k114 u82 u114 S l1 l2 l4 l5 l6 l7 hp lv a0 fa0 g0 g1 g2 g4 g5 g6 g7 hM h
  · replace h := yiN h1 h
    refine ye_aload rfl g0 ?_
    refine ye_iload rfl g7 ?_
    obtain ⟨w1, hw1, h⟩ := bV_some h
    refine ye_callV (As := [.int l7]) (rest := []) 0 (Or.inl rfl) rfl rfl rfl (Nat.le_of_ble_eq_true rfl) (hM.obj fa0 ⟨rfl, rfl⟩) ((m_X12_hasLamp (d := d + 408) (T := T) N S l7 a0 fa0 hw1) hp sz hM) ?_
    refine ye_if_eq rfl (fun h2 => ?_) (fun h2 => ?_)
    · replace h := yiT h2 h
      exact w_X12_lamps_165 (prim := prim) (d := d) N k82 k114 u82 u114 S l1 l2 l4 l5 l6 l7 hp lv a0 fa0 g0 g1 g2 g4 g5 g6 g7 hM h
    · replace h := yiN h2 h
      refine ye_p rfl rfl ?_
      exact w_X12_lamps_280 (prim := prim) (d := d) N k82 k114 u82 u114 S l1 l2 l4 l5 l6 l7 hp lv a0 fa0 g0 g1 g2 g4 g5 g6 g7 hM h

def f_X12_lamps_129 (N : Nat) (k82 : yS → Int32 → Int32 → Int32 → Int32 → Int32 → Option (Int32 × yS)) (k114 : yS → Int32 → Int32 → Int32 → Int32 → Int32 → Int32 → Option (Int32 × yS)) (S : yS) (l1 : Int32) (l2 : Int32) (l4 : Int32) (l5 : Int32) (l6 : Int32) (l7 : Int32) (t0 : Int32) (t1 : Int32) : Option (Int32 × yS) := if t1 ≤ t0 then k82 S l1 l2 l4 l5 (l6 + 1) else if l6 = ((-1)) then f_X12_lamps_147 N k82 k114 S l1 l2 l4 l5 l6 l7 else bV (f_X12_hasLamp N S l6) fun w1 => if ¬ w1 = 0 then f_X12_lamps_280 N k82 k114 S l1 l2 l4 l5 l6 l7 else f_X12_lamps_147 N k82 k114 S l1 l2 l4 l5 l6 l7
set_option maxHeartbeats 4000000 in
set_option maxRecDepth 40000 in
theorem w_X12_lamps_129 {F : xH} {ev : xEv} {prim : xRel} {d sz : Nat} {T : yT} {v : Int32} {S' : yS} (N : Nat) (k82 : yS → Int32 → Int32 → Int32 → Int32 → Int32 → Option (Int32 × yS)) (k114 : yS → Int32 → Int32 → Int32 → Int32 → Int32 → Int32 → Option (Int32 × yS)) (u82 : ∀ (S : yS) (l1 : Int32) (l2 : Int32) (l4 : Int32) (l5 : Int32) (l6 : Int32) (hp : xH) (lv : xLv) (a0 : Nat) (fa0 : yAt T 12 8 0 a0) (g0 : xG lv 0 = some (.ref a0)) (g1 : xG lv 1 = some (.int l1)) (g2 : xG lv 2 = some (.int l2)) (g4 : xG lv 4 = some (.int l4)) (g5 : xG lv 5 = some (.int l5)) (g6 : xG lv 6 = some (.int l6)) (hM : cR [8] F ev T S hp) (h : k82 S l1 l2 l4 l5 l6 = some (v, S')), yWE ev.2.1 (xstr ev) (xCalls ev xmi (xprog ev) prim (d + 409)) (pX12_lamps ev) (82, lv, [], hp, sz, 0) (ypQ [8] F ev T sz (some (.int v)) S')) (u114 : ∀ (S : yS) (l1 : Int32) (l2 : Int32) (l4 : Int32) (l5 : Int32) (l6 : Int32) (l7 : Int32) (hp : xH) (lv : xLv) (a0 : Nat) (fa0 : yAt T 12 8 0 a0) (g0 : xG lv 0 = some (.ref a0)) (g1 : xG lv 1 = some (.int l1)) (g2 : xG lv 2 = some (.int l2)) (g4 : xG lv 4 = some (.int l4)) (g5 : xG lv 5 = some (.int l5)) (g6 : xG lv 6 = some (.int l6)) (g7 : xG lv 7 = some (.int l7)) (hM : cR [8] F ev T S hp) (h : k114 S l1 l2 l4 l5 l6 l7 = some (v, S')), yWE ev.2.1 (xstr ev) (xCalls ev xmi (xprog ev) prim (d + 409)) (pX12_lamps ev) (114, lv, [], hp, sz, 0) (ypQ [8] F ev T sz (some (.int v)) S')) (S : yS) (l1 : Int32) (l2 : Int32) (l4 : Int32) (l5 : Int32) (l6 : Int32) (l7 : Int32) (t0 : Int32) (t1 : Int32) (hp : xH) (lv : xLv) (a0 : Nat) (fa0 : yAt T 12 8 0 a0) (g0 : xG lv 0 = some (.ref a0)) (g1 : xG lv 1 = some (.int l1)) (g2 : xG lv 2 = some (.int l2)) (g4 : xG lv 4 = some (.int l4)) (g5 : xG lv 5 = some (.int l5)) (g6 : xG lv 6 = some (.int l6)) (g7 : xG lv 7 = some (.int l7)) (hM : cR [8] F ev T S hp) (h : f_X12_lamps_129 N k82 k114 S l1 l2 l4 l5 l6 l7 t0 t1 = some (v, S')) : yWE ev.2.1 (xstr ev) (xCalls ev xmi (xprog ev) prim (d + 409)) (pX12_lamps ev) (129, lv, [.int t1, .int t0], hp, sz, 0) (ypQ [8] F ev T sz (some (.int v)) S') := by
  unfold f_X12_lamps_129 at h
  refine ye_icmp_ge rfl (fun h1 => ?_) (fun h1 => ?_)
  · replace h := yiT h1 h
    refine ye_iinc rfl g6 ?_
    have g0_z1 := xG_o1 (i := 6) (v := .int (l6 + 1)) g0 rfl
    have g1_z1 := xG_o1 (i := 6) (v := .int (l6 + 1)) g1 rfl
    have g2_z1 := xG_o1 (i := 6) (v := .int (l6 + 1)) g2 rfl
    have g4_z1 := xG_o1 (i := 6) (v := .int (l6 + 1)) g4 rfl
    have g5_z1 := xG_o1 (i := 6) (v := .int (l6 + 1)) g5 rfl
    have g6_z1 := xG_same lv 6 (.int (l6 + 1))
    generalize xSt1 lv 6 (.int (l6 + 1)) = lvz1 at g0_z1 g1_z1 g2_z1 g4_z1 g5_z1 g6_z1 ⊢
    refine ye_p rfl rfl ?_
    exact u82 S l1 l2 l4 l5 (l6 + 1) hp lvz1 a0 fa0 g0_z1 g1_z1 g2_z1 g4_z1 g5_z1 g6_z1 hM h
  · replace h := yiN h1 h
    refine ye_iload rfl g6 ?_
    refine ye_p rfl rfl ?_
    refine ye_icmp_eq rfl (fun h2 => ?_) (fun h2 => ?_)
    · replace h := yiT h2 h
      exact w_X12_lamps_147 (prim := prim) (d := d) N k82 k114 u82 u114 S l1 l2 l4 l5 l6 l7 hp lv a0 fa0 g0 g1 g2 g4 g5 g6 g7 hM h
    · replace h := yiN h2 h
      refine ye_aload rfl g0 ?_
      refine ye_iload rfl g6 ?_
      obtain ⟨w1, hw1, h⟩ := bV_some h
      refine ye_callV (As := [.int l6]) (rest := []) 0 (Or.inl rfl) rfl rfl rfl (Nat.le_of_ble_eq_true rfl) (hM.obj fa0 ⟨rfl, rfl⟩) ((m_X12_hasLamp (d := d + 408) (T := T) N S l6 a0 fa0 hw1) hp sz hM) ?_
      refine ye_if_ne rfl (fun h3 => ?_) (fun h3 => ?_)
      · replace h := yiT h3 h
        exact w_X12_lamps_280 (prim := prim) (d := d) N k82 k114 u82 u114 S l1 l2 l4 l5 l6 l7 hp lv a0 fa0 g0 g1 g2 g4 g5 g6 g7 hM h
      · replace h := yiN h3 h
        exact w_X12_lamps_147 (prim := prim) (d := d) N k82 k114 u82 u114 S l1 l2 l4 l5 l6 l7 hp lv a0 fa0 g0 g1 g2 g4 g5 g6 g7 hM h

def f_X12_lamps_114 : Nat → Nat → (yS → Int32 → Int32 → Int32 → Int32 → Int32 → Option (Int32 × yS)) → yS → Int32 → Int32 → Int32 → Int32 → Int32 → Int32 → Option (Int32 × yS)
  | 0, _, _, _, _, _, _, _, _, _ => none
  | n + 1, N, k82, S, l1, l2, l4, l5, l6, l7 => if l1 ≤ 1 then f_X12_lamps_129 N k82 (fun S l1 l2 l4 l5 l6 l7 => f_X12_lamps_114 n N k82 S l1 l2 l4 l5 l6 l7) S l1 l2 l4 l5 l6 l7 l7 0 else f_X12_lamps_129 N k82 (fun S l1 l2 l4 l5 l6 l7 => f_X12_lamps_114 n N k82 S l1 l2 l4 l5 l6 l7) S l1 l2 l4 l5 l6 l7 l7 (S.1 8 1)
set_option maxHeartbeats 4000000 in
set_option maxRecDepth 40000 in
theorem w_X12_lamps_114 {F : xH} {ev : xEv} {prim : xRel} {d sz : Nat} {T : yT} {v : Int32} {S' : yS} (N : Nat) (n : Nat) (k82 : yS → Int32 → Int32 → Int32 → Int32 → Int32 → Option (Int32 × yS)) (u82 : ∀ (S : yS) (l1 : Int32) (l2 : Int32) (l4 : Int32) (l5 : Int32) (l6 : Int32) (hp : xH) (lv : xLv) (a0 : Nat) (fa0 : yAt T 12 8 0 a0) (g0 : xG lv 0 = some (.ref a0)) (g1 : xG lv 1 = some (.int l1)) (g2 : xG lv 2 = some (.int l2)) (g4 : xG lv 4 = some (.int l4)) (g5 : xG lv 5 = some (.int l5)) (g6 : xG lv 6 = some (.int l6)) (hM : cR [8] F ev T S hp) (h : k82 S l1 l2 l4 l5 l6 = some (v, S')), yWE ev.2.1 (xstr ev) (xCalls ev xmi (xprog ev) prim (d + 409)) (pX12_lamps ev) (82, lv, [], hp, sz, 0) (ypQ [8] F ev T sz (some (.int v)) S')) : ∀ (S : yS) (l1 : Int32) (l2 : Int32) (l4 : Int32) (l5 : Int32) (l6 : Int32) (l7 : Int32) (hp : xH) (lv : xLv) (a0 : Nat) (fa0 : yAt T 12 8 0 a0) (g0 : xG lv 0 = some (.ref a0)) (g1 : xG lv 1 = some (.int l1)) (g2 : xG lv 2 = some (.int l2)) (g4 : xG lv 4 = some (.int l4)) (g5 : xG lv 5 = some (.int l5)) (g6 : xG lv 6 = some (.int l6)) (g7 : xG lv 7 = some (.int l7)) (hM : cR [8] F ev T S hp) (h : f_X12_lamps_114 n N k82 S l1 l2 l4 l5 l6 l7 = some (v, S')), yWE ev.2.1 (xstr ev) (xCalls ev xmi (xprog ev) prim (d + 409)) (pX12_lamps ev) (114, lv, [], hp, sz, 0) (ypQ [8] F ev T sz (some (.int v)) S') := by
  induction n with
  | zero => intro S l1 l2 l4 l5 l6 l7 hp lv a0 fa0 g0 g1 g2 g4 g5 g6 g7 hM h; exact n_some h
  | succ n ih =>
    intro S l1 l2 l4 l5 l6 l7 hp lv a0 fa0 g0 g1 g2 g4 g5 g6 g7 hM h
    unfold f_X12_lamps_114 at h
    refine ye_iload rfl g7 ?_
    refine ye_iload rfl g1 ?_
    refine ye_p rfl rfl ?_
    refine ye_icmp_le rfl (fun h1 => ?_) (fun h1 => ?_)
    · replace h := yiT h1 h
      refine ye_p rfl rfl ?_
      exact w_X12_lamps_129 (prim := prim) (d := d) N k82 (fun S l1 l2 l4 l5 l6 l7 => f_X12_lamps_114 n N k82 S l1 l2 l4 l5 l6 l7) u82 ih S l1 l2 l4 l5 l6 l7 l7 0 hp lv a0 fa0 g0 g1 g2 g4 g5 g6 g7 hM h
    · replace h := yiN h1 h
      refine ye_aload rfl g0 ?_
      refine ye_getf rfl (hM.obj fa0 ⟨rfl, rfl⟩) rfl ?_
      refine ye_p rfl rfl ?_
      exact w_X12_lamps_129 (prim := prim) (d := d) N k82 (fun S l1 l2 l4 l5 l6 l7 => f_X12_lamps_114 n N k82 S l1 l2 l4 l5 l6 l7) u82 ih S l1 l2 l4 l5 l6 l7 l7 (S.1 8 1) hp lv a0 fa0 g0 g1 g2 g4 g5 g6 g7 hM h

def f_X12_lamps_112 (N : Nat) (k82 : yS → Int32 → Int32 → Int32 → Int32 → Int32 → Option (Int32 × yS)) (S : yS) (l1 : Int32) (l2 : Int32) (l4 : Int32) (l5 : Int32) (l6 : Int32) (t0 : Int32) : Option (Int32 × yS) := f_X12_lamps_114 N N k82 S l1 l2 l4 l5 l6 t0
set_option maxHeartbeats 4000000 in
set_option maxRecDepth 40000 in
theorem w_X12_lamps_112 {F : xH} {ev : xEv} {prim : xRel} {d sz : Nat} {T : yT} {v : Int32} {S' : yS} (N : Nat) (k82 : yS → Int32 → Int32 → Int32 → Int32 → Int32 → Option (Int32 × yS)) (u82 : ∀ (S : yS) (l1 : Int32) (l2 : Int32) (l4 : Int32) (l5 : Int32) (l6 : Int32) (hp : xH) (lv : xLv) (a0 : Nat) (fa0 : yAt T 12 8 0 a0) (g0 : xG lv 0 = some (.ref a0)) (g1 : xG lv 1 = some (.int l1)) (g2 : xG lv 2 = some (.int l2)) (g4 : xG lv 4 = some (.int l4)) (g5 : xG lv 5 = some (.int l5)) (g6 : xG lv 6 = some (.int l6)) (hM : cR [8] F ev T S hp) (h : k82 S l1 l2 l4 l5 l6 = some (v, S')), yWE ev.2.1 (xstr ev) (xCalls ev xmi (xprog ev) prim (d + 409)) (pX12_lamps ev) (82, lv, [], hp, sz, 0) (ypQ [8] F ev T sz (some (.int v)) S')) (S : yS) (l1 : Int32) (l2 : Int32) (l4 : Int32) (l5 : Int32) (l6 : Int32) (t0 : Int32) (hp : xH) (lv : xLv) (a0 : Nat) (fa0 : yAt T 12 8 0 a0) (g0 : xG lv 0 = some (.ref a0)) (g1 : xG lv 1 = some (.int l1)) (g2 : xG lv 2 = some (.int l2)) (g4 : xG lv 4 = some (.int l4)) (g5 : xG lv 5 = some (.int l5)) (g6 : xG lv 6 = some (.int l6)) (hM : cR [8] F ev T S hp) (h : f_X12_lamps_112 N k82 S l1 l2 l4 l5 l6 t0 = some (v, S')) : yWE ev.2.1 (xstr ev) (xCalls ev xmi (xprog ev) prim (d + 409)) (pX12_lamps ev) (112, lv, [.int t0], hp, sz, 0) (ypQ [8] F ev T sz (some (.int v)) S') := by
  unfold f_X12_lamps_112 at h
  refine ye_p rfl rfl ?_
  have g0_z1 := xG_o1 (i := 7) (v := .int t0) g0 rfl
  have g1_z1 := xG_o1 (i := 7) (v := .int t0) g1 rfl
  have g2_z1 := xG_o1 (i := 7) (v := .int t0) g2 rfl
  have g4_z1 := xG_o1 (i := 7) (v := .int t0) g4 rfl
  have g5_z1 := xG_o1 (i := 7) (v := .int t0) g5 rfl
  have g6_z1 := xG_o1 (i := 7) (v := .int t0) g6 rfl
  have g7_z1 := xG_same lv 7 (.int t0)
  generalize xSt1 lv 7 (.int t0) = lvz1 at g0_z1 g1_z1 g2_z1 g4_z1 g5_z1 g6_z1 g7_z1 ⊢
  exact w_X12_lamps_114 (prim := prim) (d := d) N N k82 u82 S l1 l2 l4 l5 l6 t0 hp lvz1 a0 fa0 g0_z1 g1_z1 g2_z1 g4_z1 g5_z1 g6_z1 g7_z1 hM h

def f_X12_lamps_96 (N : Nat) (k82 : yS → Int32 → Int32 → Int32 → Int32 → Int32 → Option (Int32 × yS)) (S : yS) (l1 : Int32) (l2 : Int32) (l4 : Int32) (l5 : Int32) (l6 : Int32) (t0 : Int32) (t1 : Int32) : Option (Int32 × yS) := if t1 ≤ t0 then sq (yI S 8 46 l1) fun S1 => some (l4, S1) else if l1 ≤ 1 then f_X12_lamps_112 N k82 S l1 l2 l4 l5 l6 ((-1)) else f_X12_lamps_112 N k82 S l1 l2 l4 l5 l6 (l6 + 1)
set_option maxHeartbeats 4000000 in
set_option maxRecDepth 40000 in
theorem w_X12_lamps_96 {F : xH} {ev : xEv} {prim : xRel} {d sz : Nat} {T : yT} {v : Int32} {S' : yS} (N : Nat) (k82 : yS → Int32 → Int32 → Int32 → Int32 → Int32 → Option (Int32 × yS)) (u82 : ∀ (S : yS) (l1 : Int32) (l2 : Int32) (l4 : Int32) (l5 : Int32) (l6 : Int32) (hp : xH) (lv : xLv) (a0 : Nat) (fa0 : yAt T 12 8 0 a0) (g0 : xG lv 0 = some (.ref a0)) (g1 : xG lv 1 = some (.int l1)) (g2 : xG lv 2 = some (.int l2)) (g4 : xG lv 4 = some (.int l4)) (g5 : xG lv 5 = some (.int l5)) (g6 : xG lv 6 = some (.int l6)) (hM : cR [8] F ev T S hp) (h : k82 S l1 l2 l4 l5 l6 = some (v, S')), yWE ev.2.1 (xstr ev) (xCalls ev xmi (xprog ev) prim (d + 409)) (pX12_lamps ev) (82, lv, [], hp, sz, 0) (ypQ [8] F ev T sz (some (.int v)) S')) (S : yS) (l1 : Int32) (l2 : Int32) (l4 : Int32) (l5 : Int32) (l6 : Int32) (t0 : Int32) (t1 : Int32) (hp : xH) (lv : xLv) (a0 : Nat) (fa0 : yAt T 12 8 0 a0) (g0 : xG lv 0 = some (.ref a0)) (g1 : xG lv 1 = some (.int l1)) (g2 : xG lv 2 = some (.int l2)) (g4 : xG lv 4 = some (.int l4)) (g5 : xG lv 5 = some (.int l5)) (g6 : xG lv 6 = some (.int l6)) (hM : cR [8] F ev T S hp) (h : f_X12_lamps_96 N k82 S l1 l2 l4 l5 l6 t0 t1 = some (v, S')) : yWE ev.2.1 (xstr ev) (xCalls ev xmi (xprog ev) prim (d + 409)) (pX12_lamps ev) (96, lv, [.int t1, .int t0], hp, sz, 0) (ypQ [8] F ev T sz (some (.int v)) S') := by
  unfold f_X12_lamps_96 at h
  refine ye_icmp_ge rfl (fun h1 => ?_) (fun h1 => ?_)
  · replace h := yiT h1 h
    refine ye_aload rfl g0 ?_
    refine ye_iload rfl g1 ?_
    obtain ⟨S1, eS1, h⟩ := sq_some h
    refine yw_putI rfl hM fa0 rfl ⟨rfl, rfl⟩ (Nat.le_of_ble_eq_true rfl) rfl rfl (ys_12_46 ev T _ l1) (fun q => absurd q (by decide)) eS1 (fun y1 M1 => ?_)
    refine ye_iload rfl g4 ?_
    exact ye_ret rfl rfl (rQ h M1)
  · replace h := yiN h1 h
    refine ye_iload rfl g1 ?_
    refine ye_p rfl rfl ?_
    refine ye_icmp_le rfl (fun h2 => ?_) (fun h2 => ?_)
    · replace h := yiT h2 h
      refine ye_p rfl rfl ?_
      exact w_X12_lamps_112 (prim := prim) (d := d) N k82 u82 S l1 l2 l4 l5 l6 ((-1)) hp lv a0 fa0 g0 g1 g2 g4 g5 g6 hM h
    · replace h := yiN h2 h
      refine ye_iload rfl g6 ?_
      refine ye_p rfl rfl ?_
      refine ye_p rfl rfl ?_
      refine ye_p rfl rfl ?_
      exact w_X12_lamps_112 (prim := prim) (d := d) N k82 u82 S l1 l2 l4 l5 l6 (l6 + 1) hp lv a0 fa0 g0 g1 g2 g4 g5 g6 hM h

def f_X12_lamps_82 : Nat → Nat → yS → Int32 → Int32 → Int32 → Int32 → Int32 → Option (Int32 × yS)
  | 0, _, _, _, _, _, _, _ => none
  | n + 1, N, S, l1, l2, l4, l5, l6 => if l1 ≤ 0 then f_X12_lamps_96 N (fun S l1 l2 l4 l5 l6 => f_X12_lamps_82 n N S l1 l2 l4 l5 l6) S l1 l2 l4 l5 l6 l6 0 else f_X12_lamps_96 N (fun S l1 l2 l4 l5 l6 => f_X12_lamps_82 n N S l1 l2 l4 l5 l6) S l1 l2 l4 l5 l6 l6 (S.1 8 1)
set_option maxHeartbeats 4000000 in
set_option maxRecDepth 40000 in
theorem w_X12_lamps_82 {F : xH} {ev : xEv} {prim : xRel} {d sz : Nat} {T : yT} {v : Int32} {S' : yS} (N : Nat) (n : Nat) : ∀ (S : yS) (l1 : Int32) (l2 : Int32) (l4 : Int32) (l5 : Int32) (l6 : Int32) (hp : xH) (lv : xLv) (a0 : Nat) (fa0 : yAt T 12 8 0 a0) (g0 : xG lv 0 = some (.ref a0)) (g1 : xG lv 1 = some (.int l1)) (g2 : xG lv 2 = some (.int l2)) (g4 : xG lv 4 = some (.int l4)) (g5 : xG lv 5 = some (.int l5)) (g6 : xG lv 6 = some (.int l6)) (hM : cR [8] F ev T S hp) (h : f_X12_lamps_82 n N S l1 l2 l4 l5 l6 = some (v, S')), yWE ev.2.1 (xstr ev) (xCalls ev xmi (xprog ev) prim (d + 409)) (pX12_lamps ev) (82, lv, [], hp, sz, 0) (ypQ [8] F ev T sz (some (.int v)) S') := by
  induction n with
  | zero => intro S l1 l2 l4 l5 l6 hp lv a0 fa0 g0 g1 g2 g4 g5 g6 hM h; exact n_some h
  | succ n ih =>
    intro S l1 l2 l4 l5 l6 hp lv a0 fa0 g0 g1 g2 g4 g5 g6 hM h
    unfold f_X12_lamps_82 at h
    refine ye_iload rfl g6 ?_
    refine ye_iload rfl g1 ?_
    refine ye_if_le rfl (fun h1 => ?_) (fun h1 => ?_)
    · replace h := yiT h1 h
      refine ye_p rfl rfl ?_
      exact w_X12_lamps_96 (prim := prim) (d := d) N (fun S l1 l2 l4 l5 l6 => f_X12_lamps_82 n N S l1 l2 l4 l5 l6) ih S l1 l2 l4 l5 l6 l6 0 hp lv a0 fa0 g0 g1 g2 g4 g5 g6 hM h
    · replace h := yiN h1 h
      refine ye_aload rfl g0 ?_
      refine ye_getf rfl (hM.obj fa0 ⟨rfl, rfl⟩) rfl ?_
      refine ye_p rfl rfl ?_
      exact w_X12_lamps_96 (prim := prim) (d := d) N (fun S l1 l2 l4 l5 l6 => f_X12_lamps_82 n N S l1 l2 l4 l5 l6) ih S l1 l2 l4 l5 l6 l6 (S.1 8 1) hp lv a0 fa0 g0 g1 g2 g4 g5 g6 hM h

def f_X12_lamps_80 (N : Nat) (S : yS) (l1 : Int32) (l2 : Int32) (l4 : Int32) (l5 : Int32) (t0 : Int32) : Option (Int32 × yS) := f_X12_lamps_82 N N S l1 l2 l4 l5 t0
set_option maxHeartbeats 4000000 in
set_option maxRecDepth 40000 in
theorem w_X12_lamps_80 {F : xH} {ev : xEv} {prim : xRel} {d sz : Nat} {T : yT} {v : Int32} {S' : yS} (N : Nat) (S : yS) (l1 : Int32) (l2 : Int32) (l4 : Int32) (l5 : Int32) (t0 : Int32) (hp : xH) (lv : xLv) (a0 : Nat) (fa0 : yAt T 12 8 0 a0) (g0 : xG lv 0 = some (.ref a0)) (g1 : xG lv 1 = some (.int l1)) (g2 : xG lv 2 = some (.int l2)) (g4 : xG lv 4 = some (.int l4)) (g5 : xG lv 5 = some (.int l5)) (hM : cR [8] F ev T S hp) (h : f_X12_lamps_80 N S l1 l2 l4 l5 t0 = some (v, S')) : yWE ev.2.1 (xstr ev) (xCalls ev xmi (xprog ev) prim (d + 409)) (pX12_lamps ev) (80, lv, [.int t0], hp, sz, 0) (ypQ [8] F ev T sz (some (.int v)) S') := by
  unfold f_X12_lamps_80 at h
  refine ye_p rfl rfl ?_
  have g0_z1 := xG_o1 (i := 6) (v := .int t0) g0 rfl
  have g1_z1 := xG_o1 (i := 6) (v := .int t0) g1 rfl
  have g2_z1 := xG_o1 (i := 6) (v := .int t0) g2 rfl
  have g4_z1 := xG_o1 (i := 6) (v := .int t0) g4 rfl
  have g5_z1 := xG_o1 (i := 6) (v := .int t0) g5 rfl
  have g6_z1 := xG_same lv 6 (.int t0)
  generalize xSt1 lv 6 (.int t0) = lvz1 at g0_z1 g1_z1 g2_z1 g4_z1 g5_z1 g6_z1 ⊢
  exact w_X12_lamps_82 (prim := prim) (d := d) N N S l1 l2 l4 l5 t0 hp lvz1 a0 fa0 g0_z1 g1_z1 g2_z1 g4_z1 g5_z1 g6_z1 hM h

def f_X12_lamps_10 : Nat → Nat → yS → Int32 → Int32 → Int32 → Int32 → Option (Int32 × yS)
  | 0, _, _, _, _, _, _ => none
  | n + 1, N, S, l1, l2, l3, l4 => if (S.1 8 1) ≤ l4 then bV (f_X12_canTry N S l2) fun w1 => if w1 = 0 then f_X12_lamps_59 N S else bV (f_X12_in N S l1 0 2) fun w2 => if w2 = 0 then f_X12_lamps_59 N S else if l1 ≤ l3 then bS (f_X12_putAside N S) fun w3 S1 => if l1 ≤ 0 then f_X12_lamps_80 N S1 l1 l2 ((-1)) 0 ((-1)) else f_X12_lamps_80 N S1 l1 l2 ((-1)) 0 0 else f_X12_lamps_59 N S else bV (f_X12_hasLamp N S l4) fun w4 => if ¬ w4 = 0 then f_X12_lamps_31 N (fun S l1 l2 l3 l4 => f_X12_lamps_10 n N S l1 l2 l3 l4) S l1 l2 l3 l4 else f_X12_lamps_31 N (fun S l1 l2 l3 l4 => f_X12_lamps_10 n N S l1 l2 l3 l4) S l1 l2 (l3 + 1) l4
set_option maxHeartbeats 4000000 in
set_option maxRecDepth 40000 in
theorem w_X12_lamps_10 {F : xH} {ev : xEv} {prim : xRel} {d sz : Nat} {T : yT} {v : Int32} {S' : yS} (N : Nat) (n : Nat) : ∀ (S : yS) (l1 : Int32) (l2 : Int32) (l3 : Int32) (l4 : Int32) (hp : xH) (lv : xLv) (a0 : Nat) (fa0 : yAt T 12 8 0 a0) (g0 : xG lv 0 = some (.ref a0)) (g1 : xG lv 1 = some (.int l1)) (g2 : xG lv 2 = some (.int l2)) (g3 : xG lv 3 = some (.int l3)) (g4 : xG lv 4 = some (.int l4)) (hM : cR [8] F ev T S hp) (h : f_X12_lamps_10 n N S l1 l2 l3 l4 = some (v, S')), yWE ev.2.1 (xstr ev) (xCalls ev xmi (xprog ev) prim (d + 409)) (pX12_lamps ev) (10, lv, [], hp, sz, 0) (ypQ [8] F ev T sz (some (.int v)) S') := by
  induction n with
  | zero => intro S l1 l2 l3 l4 hp lv a0 fa0 g0 g1 g2 g3 g4 hM h; exact n_some h
  | succ n ih =>
    intro S l1 l2 l3 l4 hp lv a0 fa0 g0 g1 g2 g3 g4 hM h
    unfold f_X12_lamps_10 at h
    refine ye_iload rfl g4 ?_
    refine ye_aload rfl g0 ?_
    refine ye_getf rfl (hM.obj fa0 ⟨rfl, rfl⟩) rfl ?_
    refine ye_icmp_ge rfl (fun h1 => ?_) (fun h1 => ?_)
    · replace h := yiT h1 h
      refine ye_aload rfl g0 ?_
      refine ye_iload rfl g2 ?_
      obtain ⟨w1, hw1, h⟩ := bV_some h
      refine ye_callV (As := [.int l2]) (rest := []) 0 (Or.inl rfl) rfl rfl rfl (Nat.le_of_ble_eq_true rfl) (hM.obj fa0 ⟨rfl, rfl⟩) ((m_X12_canTry (d := d + 407) (T := T) N S l2 a0 fa0 hw1) hp sz hM) ?_
      refine ye_if_eq rfl (fun h2 => ?_) (fun h2 => ?_)
      · replace h := yiT h2 h
        exact w_X12_lamps_59 (prim := prim) (d := d) N S hp lv hM h
      · replace h := yiN h2 h
        refine ye_iload rfl g1 ?_
        refine ye_p rfl rfl ?_
        refine ye_p rfl rfl ?_
        obtain ⟨w2, hw2, h⟩ := bV_some h
        refine ye_callS (As := [.int l1, .int 0, .int 2]) (rest := []) 1 (Or.inl rfl) rfl rfl rfl (Nat.le_of_ble_eq_true rfl) ((m_X12_in (d := d + 408) (T := T) N S l1 0 2 hw2) hp sz hM) ?_
        refine ye_if_eq rfl (fun h3 => ?_) (fun h3 => ?_)
        · replace h := yiT h3 h
          exact w_X12_lamps_59 (prim := prim) (d := d) N S hp lv hM h
        · replace h := yiN h3 h
          refine ye_iload rfl g3 ?_
          refine ye_iload rfl g1 ?_
          refine ye_icmp_ge rfl (fun h4 => ?_) (fun h4 => ?_)
          · replace h := yiT h4 h
            refine ye_aload rfl g0 ?_
            obtain ⟨w3, S1, hw3, h⟩ := bS_some h
            obtain ⟨y1, cy1, M1⟩ := (m_X12_putAside (d := d + 408) (T := T) N S a0 fa0 hw3) hp sz hM
            refine ye_callV (As := []) (rest := []) 0 (Or.inl rfl) rfl rfl rfl (Nat.le_of_ble_eq_true rfl) (hM.obj fa0 ⟨rfl, rfl⟩) cy1 ?_
            refine ye_p rfl rfl ?_
            refine ye_p rfl rfl ?_
            have g0_z1 := xG_o1 (i := 4) (v := .int ((-1))) g0 rfl
            have g1_z1 := xG_o1 (i := 4) (v := .int ((-1))) g1 rfl
            have g2_z1 := xG_o1 (i := 4) (v := .int ((-1))) g2 rfl
            have g4_z1 := xG_same lv 4 (.int ((-1)))
            generalize xSt1 lv 4 (.int ((-1))) = lvz1 at g0_z1 g1_z1 g2_z1 g4_z1 ⊢
            refine ye_p rfl rfl ?_
            refine ye_p rfl rfl ?_
            have g0_z2 := xG_o1 (i := 5) (v := .int 0) g0_z1 rfl
            have g1_z2 := xG_o1 (i := 5) (v := .int 0) g1_z1 rfl
            have g2_z2 := xG_o1 (i := 5) (v := .int 0) g2_z1 rfl
            have g4_z2 := xG_o1 (i := 5) (v := .int 0) g4_z1 rfl
            have g5_z2 := xG_same lvz1 5 (.int 0)
            generalize xSt1 lvz1 5 (.int 0) = lvz2 at g0_z2 g1_z2 g2_z2 g4_z2 g5_z2 ⊢
            refine ye_iload rfl g1_z2 ?_
            refine ye_if_le rfl (fun h5 => ?_) (fun h5 => ?_)
            · replace h := yiT h5 h
              refine ye_p rfl rfl ?_
              exact w_X12_lamps_80 (prim := prim) (d := d) N S1 l1 l2 ((-1)) 0 ((-1)) y1 lvz2 a0 fa0 g0_z2 g1_z2 g2_z2 g4_z2 g5_z2 M1 h
            · replace h := yiN h5 h
              refine ye_p rfl rfl ?_
              refine ye_p rfl rfl ?_
              exact w_X12_lamps_80 (prim := prim) (d := d) N S1 l1 l2 ((-1)) 0 0 y1 lvz2 a0 fa0 g0_z2 g1_z2 g2_z2 g4_z2 g5_z2 M1 h
          · replace h := yiN h4 h
            exact w_X12_lamps_59 (prim := prim) (d := d) N S hp lv hM h
    · replace h := yiN h1 h
      refine ye_aload rfl g0 ?_
      refine ye_iload rfl g4 ?_
      obtain ⟨w4, hw4, h⟩ := bV_some h
      refine ye_callV (As := [.int l4]) (rest := []) 0 (Or.inl rfl) rfl rfl rfl (Nat.le_of_ble_eq_true rfl) (hM.obj fa0 ⟨rfl, rfl⟩) ((m_X12_hasLamp (d := d + 408) (T := T) N S l4 a0 fa0 hw4) hp sz hM) ?_
      refine ye_if_ne rfl (fun h6 => ?_) (fun h6 => ?_)
      · replace h := yiT h6 h
        exact w_X12_lamps_31 (prim := prim) (d := d) N (fun S l1 l2 l3 l4 => f_X12_lamps_10 n N S l1 l2 l3 l4) ih S l1 l2 l3 l4 hp lv a0 fa0 g0 g1 g2 g3 g4 hM h
      · replace h := yiN h6 h
        refine ye_iinc rfl g3 ?_
        have g0_z3 := xG_o1 (i := 3) (v := .int (l3 + 1)) g0 rfl
        have g1_z3 := xG_o1 (i := 3) (v := .int (l3 + 1)) g1 rfl
        have g2_z3 := xG_o1 (i := 3) (v := .int (l3 + 1)) g2 rfl
        have g4_z3 := xG_o1 (i := 3) (v := .int (l3 + 1)) g4 rfl
        have g3_z3 := xG_same lv 3 (.int (l3 + 1))
        generalize xSt1 lv 3 (.int (l3 + 1)) = lvz3 at g0_z3 g1_z3 g2_z3 g4_z3 g3_z3 ⊢
        exact w_X12_lamps_31 (prim := prim) (d := d) N (fun S l1 l2 l3 l4 => f_X12_lamps_10 n N S l1 l2 l3 l4) ih S l1 l2 (l3 + 1) l4 hp lvz3 a0 fa0 g0_z3 g1_z3 g2_z3 g3_z3 g4_z3 hM h

def f_X12_lamps_0 (N : Nat) (S : yS) (l1 : Int32) (l2 : Int32) : Option (Int32 × yS) := sq (yI S 8 47 0) fun S1 => f_X12_lamps_10 N N S1 l1 l2 0 0
set_option maxHeartbeats 4000000 in
set_option maxRecDepth 40000 in
theorem w_X12_lamps_0 {F : xH} {ev : xEv} {prim : xRel} {d sz : Nat} {T : yT} {v : Int32} {S' : yS} (N : Nat) (S : yS) (l1 : Int32) (l2 : Int32) (hp : xH) (lv : xLv) (a0 : Nat) (fa0 : yAt T 12 8 0 a0) (g0 : xG lv 0 = some (.ref a0)) (g1 : xG lv 1 = some (.int l1)) (g2 : xG lv 2 = some (.int l2)) (hM : cR [8] F ev T S hp) (h : f_X12_lamps_0 N S l1 l2 = some (v, S')) : yWE ev.2.1 (xstr ev) (xCalls ev xmi (xprog ev) prim (d + 409)) (pX12_lamps ev) (0, lv, [], hp, sz, 0) (ypQ [8] F ev T sz (some (.int v)) S') := by
  unfold f_X12_lamps_0 at h
  refine ye_aload rfl g0 ?_
  refine ye_p rfl rfl ?_
  obtain ⟨S1, eS1, h⟩ := sq_some h
  refine yw_putI rfl hM fa0 rfl ⟨rfl, rfl⟩ (Nat.le_of_ble_eq_true rfl) rfl rfl (ys_12_47 ev T _ 0) (fun q => absurd q (by decide)) eS1 (fun y1 M1 => ?_)
  refine ye_p rfl rfl ?_
  refine ye_p rfl rfl ?_
  have g0_z1 := xG_o1 (i := 3) (v := .int 0) g0 rfl
  have g1_z1 := xG_o1 (i := 3) (v := .int 0) g1 rfl
  have g2_z1 := xG_o1 (i := 3) (v := .int 0) g2 rfl
  have g3_z1 := xG_same lv 3 (.int 0)
  generalize xSt1 lv 3 (.int 0) = lvz1 at g0_z1 g1_z1 g2_z1 g3_z1 ⊢
  refine ye_p rfl rfl ?_
  refine ye_p rfl rfl ?_
  have g0_z2 := xG_o1 (i := 4) (v := .int 0) g0_z1 rfl
  have g1_z2 := xG_o1 (i := 4) (v := .int 0) g1_z1 rfl
  have g2_z2 := xG_o1 (i := 4) (v := .int 0) g2_z1 rfl
  have g3_z2 := xG_o1 (i := 4) (v := .int 0) g3_z1 rfl
  have g4_z2 := xG_same lvz1 4 (.int 0)
  generalize xSt1 lvz1 4 (.int 0) = lvz2 at g0_z2 g1_z2 g2_z2 g3_z2 g4_z2 ⊢
  exact w_X12_lamps_10 (prim := prim) (d := d) N N S1 l1 l2 0 0 y1 lvz2 a0 fa0 g0_z2 g1_z2 g2_z2 g3_z2 g4_z2 M1 h
def f_X12_lamps (N : Nat) (S : yS) (xl1 : Int32) (xl2 : Int32) : Option (Int32 × yS) := f_X12_lamps_0 N S xl1 xl2
theorem m_X12_lamps {F : xH} {ev : xEv} {prim : xRel} {d : Nat} {T : yT} {v : Int32} {S' : yS} (N : Nat) (S : yS) (xl1 : Int32) (xl2 : Int32) (a0 : Nat) (fa0 : yAt T 12 8 0 a0) (h : f_X12_lamps N S xl1 xl2 = some (v, S')) : ykQ [8] F ev prim (d + 410) 297 T S [.ref a0, .int xl1, .int xl2] (some (.int v)) S' :=
  ykQ.of (pg_297 ev) mi_297 (Nat.le_of_ble_eq_true rfl) (fun hp sz hM => w_X12_lamps_0 (prim := prim) (d := d) N S xl1 xl2 hp _ a0 fa0 rfl rfl rfl hM h)

def f_X12_tried_0 (N : Nat) (S : yS) (l1 : Int32) : Option (Int32 × yS) := sq (yI S 8 47 0) fun S1 => bV (f_X12_canTry N S1 l1) fun w1 => if ¬ w1 = 0 then bS (f_X12_putAside N S1) fun w2 S2 => bS (f_X12_go N S2 l1) fun w3 S3 => bS (f_X12_coinNow N S3) fun w4 S4 => bS (f_X12_putBack N S4) fun w5 S5 => some (w4, S5) else some ((-1), S1)
set_option maxHeartbeats 4000000 in
set_option maxRecDepth 40000 in
theorem w_X12_tried_0 {F : xH} {ev : xEv} {prim : xRel} {d sz : Nat} {T : yT} {v : Int32} {S' : yS} (N : Nat) (S : yS) (l1 : Int32) (hp : xH) (lv : xLv) (a0 : Nat) (fa0 : yAt T 12 8 0 a0) (g0 : xG lv 0 = some (.ref a0)) (g1 : xG lv 1 = some (.int l1)) (hM : cR [8] F ev T S hp) (h : f_X12_tried_0 N S l1 = some (v, S')) : yWE ev.2.1 (xstr ev) (xCalls ev xmi (xprog ev) prim (d + 409)) (pX12_tried ev) (0, lv, [], hp, sz, 0) (ypQ [8] F ev T sz (some (.int v)) S') := by
  unfold f_X12_tried_0 at h
  refine ye_aload rfl g0 ?_
  refine ye_p rfl rfl ?_
  obtain ⟨S1, eS1, h⟩ := sq_some h
  refine yw_putI rfl hM fa0 rfl ⟨rfl, rfl⟩ (Nat.le_of_ble_eq_true rfl) rfl rfl (ys_12_47 ev T _ 0) (fun q => absurd q (by decide)) eS1 (fun y1 M1 => ?_)
  refine ye_aload rfl g0 ?_
  refine ye_iload rfl g1 ?_
  obtain ⟨w1, hw1, h⟩ := bV_some h
  refine ye_callV (As := [.int l1]) (rest := []) 0 (Or.inl rfl) rfl rfl rfl (Nat.le_of_ble_eq_true rfl) (M1.obj fa0 ⟨rfl, rfl⟩) ((m_X12_canTry (d := d + 407) (T := T) N S1 l1 a0 fa0 hw1) y1 sz M1) ?_
  refine ye_if_ne rfl (fun h1 => ?_) (fun h1 => ?_)
  · replace h := yiT h1 h
    refine ye_aload rfl g0 ?_
    obtain ⟨w2, S2, hw2, h⟩ := bS_some h
    obtain ⟨y2, cy2, M2⟩ := (m_X12_putAside (d := d + 408) (T := T) N S1 a0 fa0 hw2) y1 sz M1
    refine ye_callV (As := []) (rest := []) 0 (Or.inl rfl) rfl rfl rfl (Nat.le_of_ble_eq_true rfl) (M1.obj fa0 ⟨rfl, rfl⟩) cy2 ?_
    refine ye_aload rfl g0 ?_
    refine ye_iload rfl g1 ?_
    obtain ⟨w3, S3, hw3, h⟩ := bS_some h
    obtain ⟨y3, cy3, M3⟩ := (m_X12_go (d := d + 0) (T := T) N S2 l1 a0 fa0 hw3) y2 sz M2
    refine ye_callV (As := [.int l1]) (rest := []) 0 (Or.inl rfl) rfl rfl rfl (Nat.le_of_ble_eq_true rfl) (M2.obj fa0 ⟨rfl, rfl⟩) cy3 ?_
    refine ye_aload rfl g0 ?_
    obtain ⟨w4, S4, hw4, h⟩ := bS_some h
    obtain ⟨y4, cy4, M4⟩ := (m_X12_coinNow (d := d + 2) (T := T) N S3 a0 fa0 hw4) y3 sz M3
    refine ye_callV (As := []) (rest := []) 0 (Or.inl rfl) rfl rfl rfl (Nat.le_of_ble_eq_true rfl) (M3.obj fa0 ⟨rfl, rfl⟩) cy4 ?_
    refine ye_p rfl rfl ?_
    have g0_z1 := xG_o1 (i := 2) (v := .int w4) g0 rfl
    have g2_z1 := xG_same lv 2 (.int w4)
    generalize xSt1 lv 2 (.int w4) = lvz1 at g0_z1 g2_z1 ⊢
    refine ye_aload rfl g0_z1 ?_
    obtain ⟨w5, S5, hw5, h⟩ := bS_some h
    obtain ⟨y5, cy5, M5⟩ := (m_X12_putBack (d := d + 408) (T := T) N S4 a0 fa0 hw5) y4 sz M4
    refine ye_callV (As := []) (rest := []) 0 (Or.inl rfl) rfl rfl rfl (Nat.le_of_ble_eq_true rfl) (M4.obj fa0 ⟨rfl, rfl⟩) cy5 ?_
    refine ye_iload rfl g2_z1 ?_
    exact ye_ret rfl rfl (rQ h M5)
  · replace h := yiN h1 h
    refine ye_p rfl rfl ?_
    exact ye_ret rfl rfl (rQ h M1)
def f_X12_tried (N : Nat) (S : yS) (xl1 : Int32) : Option (Int32 × yS) := f_X12_tried_0 N S xl1
theorem m_X12_tried {F : xH} {ev : xEv} {prim : xRel} {d : Nat} {T : yT} {v : Int32} {S' : yS} (N : Nat) (S : yS) (xl1 : Int32) (a0 : Nat) (fa0 : yAt T 12 8 0 a0) (h : f_X12_tried N S xl1 = some (v, S')) : ykQ [8] F ev prim (d + 410) 298 T S [.ref a0, .int xl1] (some (.int v)) S' :=
  ykQ.of (pg_298 ev) mi_298 (Nat.le_of_ble_eq_true rfl) (fun hp sz hM => w_X12_tried_0 (prim := prim) (d := d) N S xl1 hp _ a0 fa0 rfl rfl hM h)

def f_X4_takesClose_0 (N : Nat) (S : yS) : Option (Int32 × yS) := if ¬ (S.1 7 5) = 0 then bS (f_X4_releaseDownTo N S 1) fun w1 S1 => bS (f_X4_drop N S1) fun w2 S2 => sq (yI S2 7 5 ((S2.1 7 5) - 1)) fun S3 => bS (f_X4_takeNoDigits N S3) fun w3 S4 => some (1, S4) else some (0, S)
set_option maxHeartbeats 4000000 in
set_option maxRecDepth 40000 in
theorem w_X4_takesClose_0 {F : xH} {ev : xEv} {prim : xRel} {d sz : Nat} {T : yT} {v : Int32} {S' : yS} (N : Nat) (S : yS) (hp : xH) (lv : xLv) (a0 : Nat) (fa0 : yAt T 4 7 0 a0) (g0 : xG lv 0 = some (.ref a0)) (hM : cR [0, 1, 2, 3, 4, 5, 6, 7] F ev T S hp) (h : f_X4_takesClose_0 N S = some (v, S')) : yWE ev.2.1 (xstr ev) (xCalls ev xmi (xprog ev) prim (d + 2)) (pX4_takesClose ev) (0, lv, [], hp, sz, 0) (ypQ [0, 1, 2, 3, 4, 5, 6, 7] F ev T sz (some (.int v)) S') := by
  unfold f_X4_takesClose_0 at h
  refine ye_aload rfl g0 ?_
  refine ye_getf rfl (hM.obj fa0 ⟨rfl, rfl⟩) rfl ?_
  refine ye_if_ne rfl (fun h1 => ?_) (fun h1 => ?_)
  · replace h := yiT h1 h
    refine ye_aload rfl g0 ?_
    refine ye_p rfl rfl ?_
    obtain ⟨w1, S1, hw1, h⟩ := bS_some h
    obtain ⟨y1, cy1, M1⟩ := (m_X4_releaseDownTo (d := d + 0) (T := T) N S 1 a0 fa0 hw1) hp sz hM
    refine ye_callV (As := [.int 1]) (rest := []) 0 (Or.inl rfl) rfl rfl rfl (Nat.le_of_ble_eq_true rfl) (hM.obj fa0 ⟨rfl, rfl⟩) cy1 ?_
    refine ye_aload rfl g0 ?_
    obtain ⟨w2, S2, hw2, h⟩ := bS_some h
    obtain ⟨y2, cy2, M2⟩ := (m_X4_drop (d := d + 1) (T := T) N S1 a0 fa0 hw2) y1 sz M1
    refine ye_callV (As := []) (rest := []) 0 (Or.inl rfl) rfl rfl rfl (Nat.le_of_ble_eq_true rfl) (M1.obj fa0 ⟨rfl, rfl⟩) cy2 ?_
    refine ye_aload rfl g0 ?_
    refine ye_p rfl rfl ?_
    refine ye_getf rfl (M2.obj fa0 ⟨rfl, rfl⟩) rfl ?_
    refine ye_p rfl rfl ?_
    refine ye_p rfl rfl ?_
    obtain ⟨S3, eS3, h⟩ := sq_some h
    refine yw_putI rfl M2 fa0 rfl ⟨rfl, rfl⟩ (Nat.le_of_ble_eq_true rfl) rfl rfl (ys_4_5 ev T _ ((S2.1 7 5) - 1)) (fun q => absurd q (by decide)) eS3 (fun y3 M3 => ?_)
    refine ye_aload rfl g0 ?_
    obtain ⟨w3, S4, hw3, h⟩ := bS_some h
    obtain ⟨y4, cy4, M4⟩ := (m_X4_takeNoDigits (d := d + 1) (T := T) N S3 a0 fa0 hw3) y3 sz M3
    refine ye_callV (As := []) (rest := []) 0 (Or.inl rfl) rfl rfl rfl (Nat.le_of_ble_eq_true rfl) (M3.obj fa0 ⟨rfl, rfl⟩) cy4 ?_
    refine ye_p rfl rfl ?_
    exact ye_ret rfl rfl (rQ h M4)
  · replace h := yiN h1 h
    refine ye_p rfl rfl ?_
    exact ye_ret rfl rfl (rQ h hM)
def f_X4_takesClose (N : Nat) (S : yS) : Option (Int32 × yS) := f_X4_takesClose_0 N S
theorem m_X4_takesClose {F : xH} {ev : xEv} {prim : xRel} {d : Nat} {T : yT} {v : Int32} {S' : yS} (N : Nat) (S : yS) (a0 : Nat) (fa0 : yAt T 4 7 0 a0) (h : f_X4_takesClose N S = some (v, S')) : ykQ [0, 1, 2, 3, 4, 5, 6, 7] F ev prim (d + 3) 51 T S [.ref a0] (some (.int v)) S' :=
  ykQ.of (pg_51 ev) mi_51 (Nat.le_of_ble_eq_true rfl) (fun hp sz hM => w_X4_takesClose_0 (prim := prim) (d := d) N S hp _ a0 fa0 rfl hM h)

def f_X4_takesConditionEnd_0 (N : Nat) (S : yS) (l1 : Int32) : Option (Int32 × yS) := if l1 = 58 then bS (f_X4_releaseDownTo N S 1) fun w1 S1 => gA 61 0 fun j1 => sq (yA S1 7 4 (upd (S1.2.1 7 4) j1 (vp_nar .boolean 0))) fun S2 => sq (yI S2 7 9 3) fun S3 => some (1, S3) else some (0, S)
set_option maxHeartbeats 4000000 in
set_option maxRecDepth 40000 in
theorem w_X4_takesConditionEnd_0 {F : xH} {ev : xEv} {prim : xRel} {d sz : Nat} {T : yT} {v : Int32} {S' : yS} (N : Nat) (S : yS) (l1 : Int32) (hp : xH) (lv : xLv) (a0 : Nat) (fa0 : yAt T 4 7 0 a0) (g0 : xG lv 0 = some (.ref a0)) (g1 : xG lv 1 = some (.int l1)) (hM : cR [0, 1, 2, 3, 4, 5, 6, 7] F ev T S hp) (h : f_X4_takesConditionEnd_0 N S l1 = some (v, S')) : yWE ev.2.1 (xstr ev) (xCalls ev xmi (xprog ev) prim (d + 2)) (pX4_takesConditionEnd ev) (0, lv, [], hp, sz, 0) (ypQ [0, 1, 2, 3, 4, 5, 6, 7] F ev T sz (some (.int v)) S') := by
  unfold f_X4_takesConditionEnd_0 at h
  refine ye_iload rfl g1 ?_
  refine ye_p rfl rfl ?_
  refine ye_icmp_eq rfl (fun h1 => ?_) (fun h1 => ?_)
  · replace h := yiT h1 h
    refine ye_aload rfl g0 ?_
    refine ye_p rfl rfl ?_
    obtain ⟨w1, S1, hw1, h⟩ := bS_some h
    obtain ⟨y1, cy1, M1⟩ := (m_X4_releaseDownTo (d := d + 0) (T := T) N S 1 a0 fa0 hw1) hp sz hM
    refine ye_callV (As := [.int 1]) (rest := []) 0 (Or.inl rfl) rfl rfl rfl (Nat.le_of_ble_eq_true rfl) (hM.obj fa0 ⟨rfl, rfl⟩) cy1 ?_
    refine ye_aload rfl g0 ?_
    refine ye_getr rfl (M1.obj fa0 ⟨rfl, rfl⟩) rfl (fun cx1 ecx1 => ?_)
    have fcx1 := yAt.row fa0 ecx1
    refine ye_p rfl rfl ?_
    refine ye_p rfl rfl ?_
    obtain ⟨j1, ej1, ij1, h⟩ := gA_some h
    obtain ⟨S2, eS2, h⟩ := sq_some h
    refine yw_ast rfl M1 fcx1 yr_4_4 (by decide) ij1 ej1 eS2 (fun y2 M2 => ?_)
    refine ye_aload rfl g0 ?_
    refine ye_p rfl rfl ?_
    obtain ⟨S3, eS3, h⟩ := sq_some h
    refine yw_putI rfl M2 fa0 rfl ⟨rfl, rfl⟩ (Nat.le_of_ble_eq_true rfl) rfl rfl (ys_4_9 ev T _ 3) (fun q => absurd q (by decide)) eS3 (fun y3 M3 => ?_)
    refine ye_p rfl rfl ?_
    exact ye_ret rfl rfl (rQ h M3)
  · replace h := yiN h1 h
    refine ye_p rfl rfl ?_
    exact ye_ret rfl rfl (rQ h hM)
def f_X4_takesConditionEnd (N : Nat) (S : yS) (xl1 : Int32) : Option (Int32 × yS) := f_X4_takesConditionEnd_0 N S xl1
theorem m_X4_takesConditionEnd {F : xH} {ev : xEv} {prim : xRel} {d : Nat} {T : yT} {v : Int32} {S' : yS} (N : Nat) (S : yS) (xl1 : Int32) (a0 : Nat) (fa0 : yAt T 4 7 0 a0) (h : f_X4_takesConditionEnd N S xl1 = some (v, S')) : ykQ [0, 1, 2, 3, 4, 5, 6, 7] F ev prim (d + 3) 52 T S [.ref a0, .int xl1] (some (.int v)) S' :=
  ykQ.of (pg_52 ev) mi_52 (Nat.le_of_ble_eq_true rfl) (fun hp sz hM => w_X4_takesConditionEnd_0 (prim := prim) (d := d) N S xl1 hp _ a0 fa0 rfl rfl hM h)

def f_X4_takesChoice_57 (N : Nat) (S : yS) (l1 : Int32) : Option (Int32 × yS) := bS (f_X4_hold N S l1) fun w1 S1 => gA 61 0 fun j1 => sq (yA S1 7 4 (upd (S1.2.1 7 4) j1 (vp_nar .boolean 0))) fun S2 => sq (yI S2 7 9 1) fun S3 => some (1, S3)
set_option maxHeartbeats 4000000 in
set_option maxRecDepth 40000 in
theorem w_X4_takesChoice_57 {F : xH} {ev : xEv} {prim : xRel} {d sz : Nat} {T : yT} {v : Int32} {S' : yS} (N : Nat) (S : yS) (l1 : Int32) (hp : xH) (lv : xLv) (a0 : Nat) (fa0 : yAt T 4 7 0 a0) (g0 : xG lv 0 = some (.ref a0)) (g1 : xG lv 1 = some (.int l1)) (hM : cR [0, 1, 2, 3, 4, 5, 6, 7] F ev T S hp) (h : f_X4_takesChoice_57 N S l1 = some (v, S')) : yWE ev.2.1 (xstr ev) (xCalls ev xmi (xprog ev) prim (d + 2)) (pX4_takesChoice ev) (57, lv, [], hp, sz, 0) (ypQ [0, 1, 2, 3, 4, 5, 6, 7] F ev T sz (some (.int v)) S') := by
  unfold f_X4_takesChoice_57 at h
  refine ye_aload rfl g0 ?_
  refine ye_iload rfl g1 ?_
  obtain ⟨w1, S1, hw1, h⟩ := bS_some h
  obtain ⟨y1, cy1, M1⟩ := (m_X4_hold (d := d + 1) (T := T) N S l1 a0 fa0 hw1) hp sz hM
  refine ye_callV (As := [.int l1]) (rest := []) 0 (Or.inl rfl) rfl rfl rfl (Nat.le_of_ble_eq_true rfl) (hM.obj fa0 ⟨rfl, rfl⟩) cy1 ?_
  refine ye_aload rfl g0 ?_
  refine ye_getr rfl (M1.obj fa0 ⟨rfl, rfl⟩) rfl (fun cx1 ecx1 => ?_)
  have fcx1 := yAt.row fa0 ecx1
  refine ye_p rfl rfl ?_
  refine ye_p rfl rfl ?_
  obtain ⟨j1, ej1, ij1, h⟩ := gA_some h
  obtain ⟨S2, eS2, h⟩ := sq_some h
  refine yw_ast rfl M1 fcx1 yr_4_4 (by decide) ij1 ej1 eS2 (fun y2 M2 => ?_)
  refine ye_aload rfl g0 ?_
  refine ye_p rfl rfl ?_
  obtain ⟨S3, eS3, h⟩ := sq_some h
  refine yw_putI rfl M2 fa0 rfl ⟨rfl, rfl⟩ (Nat.le_of_ble_eq_true rfl) rfl rfl (ys_4_9 ev T _ 1) (fun q => absurd q (by decide)) eS3 (fun y3 M3 => ?_)
  refine ye_p rfl rfl ?_
  exact ye_ret rfl rfl (rQ h M3)

def f_X4_takesChoice_15 (N : Nat) (S : yS) (l1 : Int32) : Option (Int32 × yS) := bS (f_X4_releaseDownTo N S 1) fun w1 S1 => if ¬ l1 = 63 then bS (f_X4_closeChoices N S1) fun w2 S2 => bS (f_X4_drop N S2) fun w3 S3 => sq (yI S3 7 7 ((S3.1 7 7) - 1)) fun S4 => f_X4_takesChoice_57 N S4 l1 else sq (yI S1 7 7 ((S1.1 7 7) + 1)) fun S5 => f_X4_takesChoice_57 N S5 l1
set_option maxHeartbeats 4000000 in
set_option maxRecDepth 40000 in
theorem w_X4_takesChoice_15 {F : xH} {ev : xEv} {prim : xRel} {d sz : Nat} {T : yT} {v : Int32} {S' : yS} (N : Nat) (S : yS) (l1 : Int32) (hp : xH) (lv : xLv) (a0 : Nat) (fa0 : yAt T 4 7 0 a0) (g0 : xG lv 0 = some (.ref a0)) (g1 : xG lv 1 = some (.int l1)) (hM : cR [0, 1, 2, 3, 4, 5, 6, 7] F ev T S hp) (h : f_X4_takesChoice_15 N S l1 = some (v, S')) : yWE ev.2.1 (xstr ev) (xCalls ev xmi (xprog ev) prim (d + 2)) (pX4_takesChoice ev) (15, lv, [], hp, sz, 0) (ypQ [0, 1, 2, 3, 4, 5, 6, 7] F ev T sz (some (.int v)) S') := by
  unfold f_X4_takesChoice_15 at h
  refine ye_aload rfl g0 ?_
  refine ye_p rfl rfl ?_
  obtain ⟨w1, S1, hw1, h⟩ := bS_some h
  obtain ⟨y1, cy1, M1⟩ := (m_X4_releaseDownTo (d := d + 0) (T := T) N S 1 a0 fa0 hw1) hp sz hM
  refine ye_callV (As := [.int 1]) (rest := []) 0 (Or.inl rfl) rfl rfl rfl (Nat.le_of_ble_eq_true rfl) (hM.obj fa0 ⟨rfl, rfl⟩) cy1 ?_
  refine ye_iload rfl g1 ?_
  refine ye_p rfl rfl ?_
  refine ye_icmp_ne rfl (fun h1 => ?_) (fun h1 => ?_)
  · replace h := yiT h1 h
    refine ye_aload rfl g0 ?_
    obtain ⟨w2, S2, hw2, h⟩ := bS_some h
    obtain ⟨y2, cy2, M2⟩ := (m_X4_closeChoices (d := d + 0) (T := T) N S1 a0 fa0 hw2) y1 sz M1
    refine ye_callV (As := []) (rest := []) 0 (Or.inl rfl) rfl rfl rfl (Nat.le_of_ble_eq_true rfl) (M1.obj fa0 ⟨rfl, rfl⟩) cy2 ?_
    refine ye_aload rfl g0 ?_
    obtain ⟨w3, S3, hw3, h⟩ := bS_some h
    obtain ⟨y3, cy3, M3⟩ := (m_X4_drop (d := d + 1) (T := T) N S2 a0 fa0 hw3) y2 sz M2
    refine ye_callV (As := []) (rest := []) 0 (Or.inl rfl) rfl rfl rfl (Nat.le_of_ble_eq_true rfl) (M2.obj fa0 ⟨rfl, rfl⟩) cy3 ?_
    refine ye_aload rfl g0 ?_
    refine ye_p rfl rfl ?_
    refine ye_getf rfl (M3.obj fa0 ⟨rfl, rfl⟩) rfl ?_
    refine ye_p rfl rfl ?_
    refine ye_p rfl rfl ?_
    obtain ⟨S4, eS4, h⟩ := sq_some h
    refine yw_putI rfl M3 fa0 rfl ⟨rfl, rfl⟩ (Nat.le_of_ble_eq_true rfl) rfl rfl (ys_4_7 ev T _ ((S3.1 7 7) - 1)) (fun q => absurd q (by decide)) eS4 (fun y4 M4 => ?_)
    exact w_X4_takesChoice_57 (prim := prim) (d := d) N S4 l1 y4 lv a0 fa0 g0 g1 M4 h
  · replace h := yiN h1 h
    refine ye_aload rfl g0 ?_
    refine ye_p rfl rfl ?_
    refine ye_getf rfl (M1.obj fa0 ⟨rfl, rfl⟩) rfl ?_
    refine ye_p rfl rfl ?_
    refine ye_p rfl rfl ?_
    obtain ⟨S5, eS5, h⟩ := sq_some h
    refine yw_putI rfl M1 fa0 rfl ⟨rfl, rfl⟩ (Nat.le_of_ble_eq_true rfl) rfl rfl (ys_4_7 ev T _ ((S1.1 7 7) + 1)) (fun q => absurd q (by decide)) eS5 (fun y5 M5 => ?_)
    refine ye_p rfl rfl ?_
    exact w_X4_takesChoice_57 (prim := prim) (d := d) N S5 l1 y5 lv a0 fa0 g0 g1 M5 h

def f_X4_takesChoice_0 (N : Nat) (S : yS) (l1 : Int32) : Option (Int32 × yS) := if ¬ l1 = 58 then f_X4_takesChoice_15 N S l1 else if ¬ (S.1 7 7) = 0 then f_X4_takesChoice_15 N S l1 else some (0, S)
set_option maxHeartbeats 4000000 in
set_option maxRecDepth 40000 in
theorem w_X4_takesChoice_0 {F : xH} {ev : xEv} {prim : xRel} {d sz : Nat} {T : yT} {v : Int32} {S' : yS} (N : Nat) (S : yS) (l1 : Int32) (hp : xH) (lv : xLv) (a0 : Nat) (fa0 : yAt T 4 7 0 a0) (g0 : xG lv 0 = some (.ref a0)) (g1 : xG lv 1 = some (.int l1)) (hM : cR [0, 1, 2, 3, 4, 5, 6, 7] F ev T S hp) (h : f_X4_takesChoice_0 N S l1 = some (v, S')) : yWE ev.2.1 (xstr ev) (xCalls ev xmi (xprog ev) prim (d + 2)) (pX4_takesChoice ev) (0, lv, [], hp, sz, 0) (ypQ [0, 1, 2, 3, 4, 5, 6, 7] F ev T sz (some (.int v)) S') := by
  unfold f_X4_takesChoice_0 at h
  refine ye_iload rfl g1 ?_
  refine ye_p rfl rfl ?_
  refine ye_icmp_ne rfl (fun h1 => ?_) (fun h1 => ?_)
  · replace h := yiT h1 h
    exact w_X4_takesChoice_15 (prim := prim) (d := d) N S l1 hp lv a0 fa0 g0 g1 hM h
  · replace h := yiN h1 h
    refine ye_aload rfl g0 ?_
    refine ye_getf rfl (hM.obj fa0 ⟨rfl, rfl⟩) rfl ?_
    refine ye_if_ne rfl (fun h2 => ?_) (fun h2 => ?_)
    · replace h := yiT h2 h
      exact w_X4_takesChoice_15 (prim := prim) (d := d) N S l1 hp lv a0 fa0 g0 g1 hM h
    · replace h := yiN h2 h
      refine ye_p rfl rfl ?_
      exact ye_ret rfl rfl (rQ h hM)
def f_X4_takesChoice (N : Nat) (S : yS) (xl1 : Int32) : Option (Int32 × yS) := f_X4_takesChoice_0 N S xl1
theorem m_X4_takesChoice {F : xH} {ev : xEv} {prim : xRel} {d : Nat} {T : yT} {v : Int32} {S' : yS} (N : Nat) (S : yS) (xl1 : Int32) (a0 : Nat) (fa0 : yAt T 4 7 0 a0) (h : f_X4_takesChoice N S xl1 = some (v, S')) : ykQ [0, 1, 2, 3, 4, 5, 6, 7] F ev prim (d + 3) 53 T S [.ref a0, .int xl1] (some (.int v)) S' :=
  ykQ.of (pg_53 ev) mi_53 (Nat.le_of_ble_eq_true rfl) (fun hp sz hM => w_X4_takesChoice_0 (prim := prim) (d := d) N S xl1 hp _ a0 fa0 rfl rfl hM h)

def f_X4_takesOperator_14 (N : Nat) (S : yS) : Option (Int32 × yS) := some (0, S)
set_option maxHeartbeats 4000000 in
set_option maxRecDepth 40000 in
theorem w_X4_takesOperator_14 {F : xH} {ev : xEv} {prim : xRel} {d sz : Nat} {T : yT} {v : Int32} {S' : yS} (N : Nat) (S : yS) (hp : xH) (lv : xLv) (hM : cR [0, 1, 2, 3, 4, 5, 6, 7] F ev T S hp) (h : f_X4_takesOperator_14 N S = some (v, S')) : yWE ev.2.1 (xstr ev) (xCalls ev xmi (xprog ev) prim (d + 2)) (pX4_takesOperator ev) (14, lv, [], hp, sz, 0) (ypQ [0, 1, 2, 3, 4, 5, 6, 7] F ev T sz (some (.int v)) S') := by
  unfold f_X4_takesOperator_14 at h
  refine ye_p rfl rfl ?_
  exact ye_ret rfl rfl (rQ h hM)

def f_X4_takesOperator_65 (N : Nat) (S : yS) (l1 : Int32) : Option (Int32 × yS) := bS (f_X4_hold N S l1) fun w1 S1 => sq (yI S1 7 9 1) fun S2 => some (1, S2)
set_option maxHeartbeats 4000000 in
set_option maxRecDepth 40000 in
theorem w_X4_takesOperator_65 {F : xH} {ev : xEv} {prim : xRel} {d sz : Nat} {T : yT} {v : Int32} {S' : yS} (N : Nat) (S : yS) (l1 : Int32) (hp : xH) (lv : xLv) (a0 : Nat) (fa0 : yAt T 4 7 0 a0) (g0 : xG lv 0 = some (.ref a0)) (g1 : xG lv 1 = some (.int l1)) (hM : cR [0, 1, 2, 3, 4, 5, 6, 7] F ev T S hp) (h : f_X4_takesOperator_65 N S l1 = some (v, S')) : yWE ev.2.1 (xstr ev) (xCalls ev xmi (xprog ev) prim (d + 2)) (pX4_takesOperator ev) (65, lv, [], hp, sz, 0) (ypQ [0, 1, 2, 3, 4, 5, 6, 7] F ev T sz (some (.int v)) S') := by
  unfold f_X4_takesOperator_65 at h
  refine ye_aload rfl g0 ?_
  refine ye_iload rfl g1 ?_
  obtain ⟨w1, S1, hw1, h⟩ := bS_some h
  obtain ⟨y1, cy1, M1⟩ := (m_X4_hold (d := d + 1) (T := T) N S l1 a0 fa0 hw1) hp sz hM
  refine ye_callV (As := [.int l1]) (rest := []) 0 (Or.inl rfl) rfl rfl rfl (Nat.le_of_ble_eq_true rfl) (hM.obj fa0 ⟨rfl, rfl⟩) cy1 ?_
  refine ye_aload rfl g0 ?_
  refine ye_p rfl rfl ?_
  obtain ⟨S2, eS2, h⟩ := sq_some h
  refine yw_putI rfl M1 fa0 rfl ⟨rfl, rfl⟩ (Nat.le_of_ble_eq_true rfl) rfl rfl (ys_4_9 ev T _ 1) (fun q => absurd q (by decide)) eS2 (fun y2 M2 => ?_)
  refine ye_p rfl rfl ?_
  exact ye_ret rfl rfl (rQ h M2)

def f_X4_takesOperator_45 (N : Nat) (S : yS) (l1 : Int32) (l2 : Int32) (l3 : Int32) : Option (Int32 × yS) := bS (f_X4_releaseDownTo N S l2) fun w1 S1 => if 3 < l2 then f_X4_takesOperator_65 N S1 l1 else gA 61 (S1.1 7 5) fun j1 => sq (yA S1 7 4 (upd (S1.2.1 7 4) j1 (vp_nar .boolean l3))) fun S2 => f_X4_takesOperator_65 N S2 l1
set_option maxHeartbeats 4000000 in
set_option maxRecDepth 40000 in
theorem w_X4_takesOperator_45 {F : xH} {ev : xEv} {prim : xRel} {d sz : Nat} {T : yT} {v : Int32} {S' : yS} (N : Nat) (S : yS) (l1 : Int32) (l2 : Int32) (l3 : Int32) (hp : xH) (lv : xLv) (a0 : Nat) (fa0 : yAt T 4 7 0 a0) (g0 : xG lv 0 = some (.ref a0)) (g1 : xG lv 1 = some (.int l1)) (g2 : xG lv 2 = some (.int l2)) (g3 : xG lv 3 = some (.int l3)) (hM : cR [0, 1, 2, 3, 4, 5, 6, 7] F ev T S hp) (h : f_X4_takesOperator_45 N S l1 l2 l3 = some (v, S')) : yWE ev.2.1 (xstr ev) (xCalls ev xmi (xprog ev) prim (d + 2)) (pX4_takesOperator ev) (45, lv, [], hp, sz, 0) (ypQ [0, 1, 2, 3, 4, 5, 6, 7] F ev T sz (some (.int v)) S') := by
  unfold f_X4_takesOperator_45 at h
  refine ye_aload rfl g0 ?_
  refine ye_iload rfl g2 ?_
  obtain ⟨w1, S1, hw1, h⟩ := bS_some h
  obtain ⟨y1, cy1, M1⟩ := (m_X4_releaseDownTo (d := d + 0) (T := T) N S l2 a0 fa0 hw1) hp sz hM
  refine ye_callV (As := [.int l2]) (rest := []) 0 (Or.inl rfl) rfl rfl rfl (Nat.le_of_ble_eq_true rfl) (hM.obj fa0 ⟨rfl, rfl⟩) cy1 ?_
  refine ye_iload rfl g2 ?_
  refine ye_p rfl rfl ?_
  refine ye_icmp_gt rfl (fun h1 => ?_) (fun h1 => ?_)
  · replace h := yiT h1 h
    exact w_X4_takesOperator_65 (prim := prim) (d := d) N S1 l1 y1 lv a0 fa0 g0 g1 M1 h
  · replace h := yiN h1 h
    refine ye_aload rfl g0 ?_
    refine ye_getr rfl (M1.obj fa0 ⟨rfl, rfl⟩) rfl (fun cx1 ecx1 => ?_)
    have fcx1 := yAt.row fa0 ecx1
    refine ye_aload rfl g0 ?_
    refine ye_getf rfl (M1.obj fa0 ⟨rfl, rfl⟩) rfl ?_
    refine ye_iload rfl g3 ?_
    obtain ⟨j1, ej1, ij1, h⟩ := gA_some h
    obtain ⟨S2, eS2, h⟩ := sq_some h
    refine yw_ast rfl M1 fcx1 yr_4_4 (by decide) ij1 ej1 eS2 (fun y2 M2 => ?_)
    exact w_X4_takesOperator_65 (prim := prim) (d := d) N S2 l1 y2 lv a0 fa0 g0 g1 M2 h

def f_X4_takesOperator_26 (N : Nat) (S : yS) (l1 : Int32) (l2 : Int32) (t0 : Int32) : Option (Int32 × yS) := if t0 = 0 then f_X4_takesOperator_45 N S l1 l2 t0 else gA 61 (S.1 7 5) fun j1 => if (S.2.1 7 4 j1) = 0 then f_X4_takesOperator_45 N S l1 l2 t0 else some (0, S)
set_option maxHeartbeats 4000000 in
set_option maxRecDepth 40000 in
theorem w_X4_takesOperator_26 {F : xH} {ev : xEv} {prim : xRel} {d sz : Nat} {T : yT} {v : Int32} {S' : yS} (N : Nat) (S : yS) (l1 : Int32) (l2 : Int32) (t0 : Int32) (hp : xH) (lv : xLv) (a0 : Nat) (fa0 : yAt T 4 7 0 a0) (g0 : xG lv 0 = some (.ref a0)) (g1 : xG lv 1 = some (.int l1)) (g2 : xG lv 2 = some (.int l2)) (hM : cR [0, 1, 2, 3, 4, 5, 6, 7] F ev T S hp) (h : f_X4_takesOperator_26 N S l1 l2 t0 = some (v, S')) : yWE ev.2.1 (xstr ev) (xCalls ev xmi (xprog ev) prim (d + 2)) (pX4_takesOperator ev) (26, lv, [.int t0], hp, sz, 0) (ypQ [0, 1, 2, 3, 4, 5, 6, 7] F ev T sz (some (.int v)) S') := by
  unfold f_X4_takesOperator_26 at h
  refine ye_p rfl rfl ?_
  have g0_z1 := xG_o1 (i := 3) (v := .int t0) g0 rfl
  have g1_z1 := xG_o1 (i := 3) (v := .int t0) g1 rfl
  have g2_z1 := xG_o1 (i := 3) (v := .int t0) g2 rfl
  have g3_z1 := xG_same lv 3 (.int t0)
  generalize xSt1 lv 3 (.int t0) = lvz1 at g0_z1 g1_z1 g2_z1 g3_z1 ⊢
  refine ye_iload rfl g3_z1 ?_
  refine ye_if_eq rfl (fun h1 => ?_) (fun h1 => ?_)
  · replace h := yiT h1 h
    exact w_X4_takesOperator_45 (prim := prim) (d := d) N S l1 l2 t0 hp lvz1 a0 fa0 g0_z1 g1_z1 g2_z1 g3_z1 hM h
  · replace h := yiN h1 h
    refine ye_aload rfl g0_z1 ?_
    refine ye_getr rfl (hM.obj fa0 ⟨rfl, rfl⟩) rfl (fun cx1 ecx1 => ?_)
    have fcx1 := yAt.row fa0 ecx1
    refine ye_aload rfl g0_z1 ?_
    refine ye_getf rfl (hM.obj fa0 ⟨rfl, rfl⟩) rfl ?_
    obtain ⟨j1, ej1, ij1, h⟩ := gA_some h
    refine yj_ald rfl (hM.arr fcx1 yr_4_4) ij1 ej1 ?_
    refine ye_if_eq rfl (fun h2 => ?_) (fun h2 => ?_)
    · replace h := yiT h2 h
      exact w_X4_takesOperator_45 (prim := prim) (d := d) N S l1 l2 t0 hp lvz1 a0 fa0 g0_z1 g1_z1 g2_z1 g3_z1 hM h
    · replace h := yiN h2 h
      refine ye_p rfl rfl ?_
      exact ye_ret rfl rfl (rQ h hM)

def f_X4_takesOperator_0 (N : Nat) (S : yS) (l1 : Int32) : Option (Int32 × yS) := bV (f_X4_strengthOf N S l1) fun w1 => if w1 = 0 then f_X4_takesOperator_14 N S else if w1 ≤ 5 then if ¬ w1 = 3 then f_X4_takesOperator_26 N S l1 w1 0 else f_X4_takesOperator_26 N S l1 w1 1 else f_X4_takesOperator_14 N S
set_option maxHeartbeats 4000000 in
set_option maxRecDepth 40000 in
theorem w_X4_takesOperator_0 {F : xH} {ev : xEv} {prim : xRel} {d sz : Nat} {T : yT} {v : Int32} {S' : yS} (N : Nat) (S : yS) (l1 : Int32) (hp : xH) (lv : xLv) (a0 : Nat) (fa0 : yAt T 4 7 0 a0) (g0 : xG lv 0 = some (.ref a0)) (g1 : xG lv 1 = some (.int l1)) (hM : cR [0, 1, 2, 3, 4, 5, 6, 7] F ev T S hp) (h : f_X4_takesOperator_0 N S l1 = some (v, S')) : yWE ev.2.1 (xstr ev) (xCalls ev xmi (xprog ev) prim (d + 2)) (pX4_takesOperator ev) (0, lv, [], hp, sz, 0) (ypQ [0, 1, 2, 3, 4, 5, 6, 7] F ev T sz (some (.int v)) S') := by
  unfold f_X4_takesOperator_0 at h
  refine ye_iload rfl g1 ?_
  obtain ⟨w1, hw1, h⟩ := bV_some h
  refine ye_callS (As := [.int l1]) (rest := []) 1 (Or.inl rfl) rfl rfl rfl (Nat.le_of_ble_eq_true rfl) ((m_X4_strengthOf (d := d + 1) (T := T) N S l1 hw1) hp sz hM) ?_
  refine ye_p rfl rfl ?_
  have g0_z1 := xG_o1 (i := 2) (v := .int w1) g0 rfl
  have g1_z1 := xG_o1 (i := 2) (v := .int w1) g1 rfl
  have g2_z1 := xG_same lv 2 (.int w1)
  generalize xSt1 lv 2 (.int w1) = lvz1 at g0_z1 g1_z1 g2_z1 ⊢
  refine ye_iload rfl g2_z1 ?_
  refine ye_if_eq rfl (fun h1 => ?_) (fun h1 => ?_)
  · replace h := yiT h1 h
    exact w_X4_takesOperator_14 (prim := prim) (d := d) N S hp lvz1 hM h
  · replace h := yiN h1 h
    refine ye_iload rfl g2_z1 ?_
    refine ye_p rfl rfl ?_
    refine ye_icmp_le rfl (fun h2 => ?_) (fun h2 => ?_)
    · replace h := yiT h2 h
      refine ye_iload rfl g2_z1 ?_
      refine ye_p rfl rfl ?_
      refine ye_icmp_ne rfl (fun h3 => ?_) (fun h3 => ?_)
      · replace h := yiT h3 h
        refine ye_p rfl rfl ?_
        exact w_X4_takesOperator_26 (prim := prim) (d := d) N S l1 w1 0 hp lvz1 a0 fa0 g0_z1 g1_z1 g2_z1 hM h
      · replace h := yiN h3 h
        refine ye_p rfl rfl ?_
        refine ye_p rfl rfl ?_
        exact w_X4_takesOperator_26 (prim := prim) (d := d) N S l1 w1 1 hp lvz1 a0 fa0 g0_z1 g1_z1 g2_z1 hM h
    · replace h := yiN h2 h
      exact w_X4_takesOperator_14 (prim := prim) (d := d) N S hp lvz1 hM h
def f_X4_takesOperator (N : Nat) (S : yS) (xl1 : Int32) : Option (Int32 × yS) := f_X4_takesOperator_0 N S xl1
theorem m_X4_takesOperator {F : xH} {ev : xEv} {prim : xRel} {d : Nat} {T : yT} {v : Int32} {S' : yS} (N : Nat) (S : yS) (xl1 : Int32) (a0 : Nat) (fa0 : yAt T 4 7 0 a0) (h : f_X4_takesOperator N S xl1 = some (v, S')) : ykQ [0, 1, 2, 3, 4, 5, 6, 7] F ev prim (d + 3) 54 T S [.ref a0, .int xl1] (some (.int v)) S' :=
  ykQ.of (pg_54 ev) mi_54 (Nat.le_of_ble_eq_true rfl) (fun hp sz hM => w_X4_takesOperator_0 (prim := prim) (d := d) N S xl1 hp _ a0 fa0 rfl rfl hM h)

def f_X7_share_75 (N : Nat) (k25 : yS → Int32 → Option (Int32 × yS)) (S : yS) (l2 : Int32) : Option (Int32 × yS) := k25 S (l2 + 1)
set_option maxHeartbeats 4000000 in
set_option maxRecDepth 40000 in
theorem w_X7_share_75 {F : xH} {ev : xEv} {prim : xRel} {d sz : Nat} {T : yT} {v : Int32} {S' : yS} (N : Nat) (k25 : yS → Int32 → Option (Int32 × yS)) (u25 : ∀ (S : yS) (l2 : Int32) (hp : xH) (lv : xLv) (a0 : Nat) (a1 : Nat) (fa0 : yAt T 7 6 0 a0) (fa1 : yAt T 10 2 0 a1) (g0 : xG lv 0 = some (.ref a0)) (g1 : xG lv 1 = some (.ref a1)) (g2 : xG lv 2 = some (.int l2)) (hM : cR [0, 1, 2, 3, 4, 5, 6, 7] F ev T S hp) (h : k25 S l2 = some (v, S')), yWE ev.2.1 (xstr ev) (xCalls ev xmi (xprog ev) prim (d + 3)) (pX7_share ev) (25, lv, [], hp, sz, 0) (ypQ [0, 1, 2, 3, 4, 5, 6, 7] F ev T sz (some (.int v)) S')) (S : yS) (l2 : Int32) (hp : xH) (lv : xLv) (a0 : Nat) (a1 : Nat) (fa0 : yAt T 7 6 0 a0) (fa1 : yAt T 10 2 0 a1) (g0 : xG lv 0 = some (.ref a0)) (g1 : xG lv 1 = some (.ref a1)) (g2 : xG lv 2 = some (.int l2)) (hM : cR [0, 1, 2, 3, 4, 5, 6, 7] F ev T S hp) (h : f_X7_share_75 N k25 S l2 = some (v, S')) : yWE ev.2.1 (xstr ev) (xCalls ev xmi (xprog ev) prim (d + 3)) (pX7_share ev) (75, lv, [], hp, sz, 0) (ypQ [0, 1, 2, 3, 4, 5, 6, 7] F ev T sz (some (.int v)) S') := by
  unfold f_X7_share_75 at h
  refine ye_iinc rfl g2 ?_
  have g0_z1 := xG_o1 (i := 2) (v := .int (l2 + 1)) g0 rfl
  have g1_z1 := xG_o1 (i := 2) (v := .int (l2 + 1)) g1 rfl
  have g2_z1 := xG_same lv 2 (.int (l2 + 1))
  generalize xSt1 lv 2 (.int (l2 + 1)) = lvz1 at g0_z1 g1_z1 g2_z1 ⊢
  refine ye_p rfl rfl ?_
  exact u25 S (l2 + 1) hp lvz1 a0 a1 fa0 fa1 g0_z1 g1_z1 g2_z1 hM h

def f_X7_share_44 : Nat → Nat → (yS → Int32 → Option (Int32 × yS)) → yS → Int32 → Int32 → Option (Int32 × yS)
  | 0, _, _, _, _, _ => none
  | n + 1, N, k25, S, l2, l3 => gA 8 l2 fun j1 => if (S.2.1 1 2 j1) ≤ l3 then f_X7_share_75 N k25 S l2 else if (S.1 6 2) ≤ l3 then f_X7_share_75 N k25 S l2 else bS (f_X7_offer N S) fun w1 S1 => f_X7_share_44 n N k25 S1 l2 (l3 + 1)
set_option maxHeartbeats 4000000 in
set_option maxRecDepth 40000 in
theorem w_X7_share_44 {F : xH} {ev : xEv} {prim : xRel} {d sz : Nat} {T : yT} {v : Int32} {S' : yS} (N : Nat) (n : Nat) (k25 : yS → Int32 → Option (Int32 × yS)) (u25 : ∀ (S : yS) (l2 : Int32) (hp : xH) (lv : xLv) (a0 : Nat) (a1 : Nat) (fa0 : yAt T 7 6 0 a0) (fa1 : yAt T 10 2 0 a1) (g0 : xG lv 0 = some (.ref a0)) (g1 : xG lv 1 = some (.ref a1)) (g2 : xG lv 2 = some (.int l2)) (hM : cR [0, 1, 2, 3, 4, 5, 6, 7] F ev T S hp) (h : k25 S l2 = some (v, S')), yWE ev.2.1 (xstr ev) (xCalls ev xmi (xprog ev) prim (d + 3)) (pX7_share ev) (25, lv, [], hp, sz, 0) (ypQ [0, 1, 2, 3, 4, 5, 6, 7] F ev T sz (some (.int v)) S')) : ∀ (S : yS) (l2 : Int32) (l3 : Int32) (hp : xH) (lv : xLv) (a0 : Nat) (a1 : Nat) (fa0 : yAt T 7 6 0 a0) (fa1 : yAt T 10 2 0 a1) (g0 : xG lv 0 = some (.ref a0)) (g1 : xG lv 1 = some (.ref a1)) (g2 : xG lv 2 = some (.int l2)) (g3 : xG lv 3 = some (.int l3)) (hM : cR [0, 1, 2, 3, 4, 5, 6, 7] F ev T S hp) (h : f_X7_share_44 n N k25 S l2 l3 = some (v, S')), yWE ev.2.1 (xstr ev) (xCalls ev xmi (xprog ev) prim (d + 3)) (pX7_share ev) (44, lv, [], hp, sz, 0) (ypQ [0, 1, 2, 3, 4, 5, 6, 7] F ev T sz (some (.int v)) S') := by
  induction n with
  | zero => intro S l2 l3 hp lv a0 a1 fa0 fa1 g0 g1 g2 g3 hM h; exact n_some h
  | succ n ih =>
    intro S l2 l3 hp lv a0 a1 fa0 fa1 g0 g1 g2 g3 hM h
    unfold f_X7_share_44 at h
    refine ye_iload rfl g3 ?_
    refine ye_aload rfl g1 ?_
    refine ye_getr rfl (hM.obj fa1 ⟨rfl, rfl⟩) rfl (fun cx1 ecx1 => ?_)
    have fcx1 := hM.root 2 0 (by decide) rfl ecx1
    refine ye_getr rfl (hM.obj fcx1 ⟨rfl, rfl⟩) rfl (fun cx2 ecx2 => ?_)
    have fcx2 := yAt.row fcx1 ecx2
    refine ye_iload rfl g2 ?_
    obtain ⟨j1, ej1, ij1, h⟩ := gA_some h
    refine yj_ald rfl (hM.arr fcx2 yr_2_2) ij1 ej1 ?_
    refine ye_icmp_ge rfl (fun h1 => ?_) (fun h1 => ?_)
    · replace h := yiT h1 h
      exact w_X7_share_75 (prim := prim) (d := d) N k25 u25 S l2 hp lv a0 a1 fa0 fa1 g0 g1 g2 hM h
    · replace h := yiN h1 h
      refine ye_iload rfl g3 ?_
      refine ye_aload rfl g0 ?_
      refine ye_getf rfl (hM.obj fa0 ⟨rfl, rfl⟩) rfl ?_
      refine ye_icmp_ge rfl (fun h2 => ?_) (fun h2 => ?_)
      · replace h := yiT h2 h
        exact w_X7_share_75 (prim := prim) (d := d) N k25 u25 S l2 hp lv a0 a1 fa0 fa1 g0 g1 g2 hM h
      · replace h := yiN h2 h
        refine ye_aload rfl g0 ?_
        obtain ⟨w1, S1, hw1, h⟩ := bS_some h
        obtain ⟨y1, cy1, M1⟩ := (m_X7_offer (d := d + 2) (T := T) N S a0 fa0 hw1) hp sz hM
        refine ye_callV (As := []) (rest := []) 0 (Or.inl rfl) rfl rfl rfl (Nat.le_of_ble_eq_true rfl) (hM.obj fa0 ⟨rfl, rfl⟩) cy1 ?_
        refine ye_iinc rfl g3 ?_
        have g0_z1 := xG_o1 (i := 3) (v := .int (l3 + 1)) g0 rfl
        have g1_z1 := xG_o1 (i := 3) (v := .int (l3 + 1)) g1 rfl
        have g2_z1 := xG_o1 (i := 3) (v := .int (l3 + 1)) g2 rfl
        have g3_z1 := xG_same lv 3 (.int (l3 + 1))
        generalize xSt1 lv 3 (.int (l3 + 1)) = lvz1 at g0_z1 g1_z1 g2_z1 g3_z1 ⊢
        refine ye_p rfl rfl ?_
        exact ih S1 l2 (l3 + 1) y1 lvz1 a0 a1 fa0 fa1 g0_z1 g1_z1 g2_z1 g3_z1 M1 h

def f_X7_share_25 : Nat → Nat → yS → Int32 → Option (Int32 × yS)
  | 0, _, _, _ => none
  | n + 1, N, S, l2 => if (S.1 1 3) ≤ l2 then bV (f_X7_leastOfAll N S) fun w1 => bS (f_X7_readFields N S w1) fun w2 S1 => some (((w1 / 43046721) - (w1 / 43046721) / 4096 * 4096).toInt32, S1) else bS (f_X7_price N S l2) fun w3 S2 => f_X7_share_44 N N (fun S l2 => f_X7_share_25 n N S l2) S2 l2 0
set_option maxHeartbeats 4000000 in
set_option maxRecDepth 40000 in
theorem w_X7_share_25 {F : xH} {ev : xEv} {prim : xRel} {d sz : Nat} {T : yT} {v : Int32} {S' : yS} (N : Nat) (n : Nat) : ∀ (S : yS) (l2 : Int32) (hp : xH) (lv : xLv) (a0 : Nat) (a1 : Nat) (fa0 : yAt T 7 6 0 a0) (fa1 : yAt T 10 2 0 a1) (g0 : xG lv 0 = some (.ref a0)) (g1 : xG lv 1 = some (.ref a1)) (g2 : xG lv 2 = some (.int l2)) (hM : cR [0, 1, 2, 3, 4, 5, 6, 7] F ev T S hp) (h : f_X7_share_25 n N S l2 = some (v, S')), yWE ev.2.1 (xstr ev) (xCalls ev xmi (xprog ev) prim (d + 3)) (pX7_share ev) (25, lv, [], hp, sz, 0) (ypQ [0, 1, 2, 3, 4, 5, 6, 7] F ev T sz (some (.int v)) S') := by
  induction n with
  | zero => intro S l2 hp lv a0 a1 fa0 fa1 g0 g1 g2 hM h; exact n_some h
  | succ n ih =>
    intro S l2 hp lv a0 a1 fa0 fa1 g0 g1 g2 hM h
    unfold f_X7_share_25 at h
    refine ye_iload rfl g2 ?_
    refine ye_aload rfl g1 ?_
    refine ye_getr rfl (hM.obj fa1 ⟨rfl, rfl⟩) rfl (fun cx1 ecx1 => ?_)
    have fcx1 := hM.root 2 0 (by decide) rfl ecx1
    refine ye_getf rfl (hM.obj fcx1 ⟨rfl, rfl⟩) rfl ?_
    refine ye_icmp_ge rfl (fun h1 => ?_) (fun h1 => ?_)
    · replace h := yiT h1 h
      refine ye_aload rfl g0 ?_
      obtain ⟨w1, hw1, h⟩ := bV_some h
      refine ye_callV (As := []) (rest := []) 0 (Or.inl rfl) rfl rfl rfl (Nat.le_of_ble_eq_true rfl) (hM.obj fa0 ⟨rfl, rfl⟩) ((m_X7_leastOfAll (d := d + 2) (T := T) N S a0 fa0 hw1) hp sz hM) ?_
      refine ye_p rfl rfl ?_
      have g0_z1 := xG_o2 (i := 2) (v := .long w1) g0 rfl
      have g2_z1 := xG_same2 lv 2 (.long w1)
      generalize xSt2 lv 2 (.long w1) = lvz1 at g0_z1 g2_z1 ⊢
      refine ye_aload rfl g0_z1 ?_
      refine ye_lload rfl g2_z1 ?_
      obtain ⟨w2, S1, hw2, h⟩ := bS_some h
      obtain ⟨y1, cy1, M1⟩ := (m_X7_readFields (d := d + 2) (T := T) N S w1 a0 fa0 hw2) hp sz hM
      refine ye_callV (As := [.long w1]) (rest := []) 0 (Or.inl rfl) rfl rfl rfl (Nat.le_of_ble_eq_true rfl) (hM.obj fa0 ⟨rfl, rfl⟩) cy1 ?_
      refine ye_lload rfl g2_z1 ?_
      refine ye_p rfl rfl ?_
      refine ye_ldiv rfl (by decide) ?_
      refine ye_p rfl rfl ?_
      refine ye_ldiv rfl (by decide) ?_
      refine ye_p rfl rfl ?_
      exact ye_ret rfl rfl (rQ h M1)
    · replace h := yiN h1 h
      refine ye_aload rfl g0 ?_
      refine ye_aload rfl g1 ?_
      refine ye_iload rfl g2 ?_
      obtain ⟨w3, S2, hw3, h⟩ := bS_some h
      obtain ⟨y2, cy2, M2⟩ := (m_X7_price (d := d + 0) (T := T) N S l2 a0 a1 fa0 fa1 hw3) hp sz hM
      refine ye_callV (As := [.ref a1, .int l2]) (rest := []) 0 (Or.inl rfl) rfl rfl rfl (Nat.le_of_ble_eq_true rfl) (hM.obj fa0 ⟨rfl, rfl⟩) cy2 ?_
      refine ye_p rfl rfl ?_
      refine ye_p rfl rfl ?_
      have g0_z2 := xG_o1 (i := 3) (v := .int 0) g0 rfl
      have g1_z2 := xG_o1 (i := 3) (v := .int 0) g1 rfl
      have g2_z2 := xG_o1 (i := 3) (v := .int 0) g2 rfl
      have g3_z2 := xG_same lv 3 (.int 0)
      generalize xSt1 lv 3 (.int 0) = lvz2 at g0_z2 g1_z2 g2_z2 g3_z2 ⊢
      exact w_X7_share_44 (prim := prim) (d := d) N N (fun S l2 => f_X7_share_25 n N S l2) ih S2 l2 0 y2 lvz2 a0 a1 fa0 fa1 g0_z2 g1_z2 g2_z2 g3_z2 M2 h

def f_X7_share_0 (N : Nat) (S : yS) : Option (Int32 × yS) := bS (f_X7_listNeeding N S) fun w1 S1 => sq (yJ S1 6 4 (fun i => if i < 256 then 1152921504606846976 else S1.2.2 6 4 i)) fun S2 => gA 256 0 fun j1 => sq (yJ S2 6 4 (vp_updL (S2.2.2 6 4) j1 0)) fun S3 => f_X7_share_25 N N S3 0
set_option maxHeartbeats 4000000 in
set_option maxRecDepth 40000 in
theorem w_X7_share_0 {F : xH} {ev : xEv} {prim : xRel} {d sz : Nat} {T : yT} {v : Int32} {S' : yS} (N : Nat) (S : yS) (hp : xH) (lv : xLv) (a0 : Nat) (a1 : Nat) (fa0 : yAt T 7 6 0 a0) (fa1 : yAt T 10 2 0 a1) (g0 : xG lv 0 = some (.ref a0)) (g1 : xG lv 1 = some (.ref a1)) (hM : cR [0, 1, 2, 3, 4, 5, 6, 7] F ev T S hp) (h : f_X7_share_0 N S = some (v, S')) : yWE ev.2.1 (xstr ev) (xCalls ev xmi (xprog ev) prim (d + 3)) (pX7_share ev) (0, lv, [], hp, sz, 0) (ypQ [0, 1, 2, 3, 4, 5, 6, 7] F ev T sz (some (.int v)) S') := by
  unfold f_X7_share_0 at h
  refine ye_aload rfl g0 ?_
  refine ye_aload rfl g1 ?_
  obtain ⟨w1, S1, hw1, h⟩ := bS_some h
  obtain ⟨y1, cy1, M1⟩ := (m_X7_listNeeding (d := d + 2) (T := T) N S a0 a1 fa0 fa1 hw1) hp sz hM
  refine ye_callV (As := [.ref a1]) (rest := []) 0 (Or.inl rfl) rfl rfl rfl (Nat.le_of_ble_eq_true rfl) (hM.obj fa0 ⟨rfl, rfl⟩) cy1 ?_
  refine ye_p rfl rfl ?_
  refine ye_aload rfl g0 ?_
  refine ye_getr rfl (M1.obj fa0 ⟨rfl, rfl⟩) rfl (fun cx1 ecx1 => ?_)
  have fcx1 := yAt.row fa0 ecx1
  refine ye_p rfl rfl ?_
  obtain ⟨S2, eS2, h⟩ := sq_some h
  obtain ⟨y2, cy2, M2⟩ := y_fill (prim := prim) (d := d + 2) fcx1 yr_7_4 (by decide) 1152921504606846976 y1 sz M1
  rw [← eS2] at M2
  refine ye_callS (As := [.ref cx1, .long 1152921504606846976]) (rest := []) 1 (Or.inl rfl) rfl rfl rfl (Nat.le_of_ble_eq_true rfl) cy2 ?_
  refine ye_aload rfl g0 ?_
  refine ye_getr rfl (M2.obj fa0 ⟨rfl, rfl⟩) rfl (fun cx2 ecx2 => ?_)
  have fcx2 := yAt.row fa0 ecx2
  refine ye_p rfl rfl ?_
  refine ye_p rfl rfl ?_
  obtain ⟨j1, ej1, ij1, h⟩ := gA_some h
  obtain ⟨S3, eS3, h⟩ := sq_some h
  refine yw_last rfl M2 fcx2 yr_7_4 ij1 ej1 eS3 (fun y3 M3 => ?_)
  refine ye_p rfl rfl ?_
  refine ye_p rfl rfl ?_
  have g0_z1 := xG_o1 (i := 2) (v := .int 0) g0 rfl
  have g1_z1 := xG_o1 (i := 2) (v := .int 0) g1 rfl
  have g2_z1 := xG_same lv 2 (.int 0)
  generalize xSt1 lv 2 (.int 0) = lvz1 at g0_z1 g1_z1 g2_z1 ⊢
  exact w_X7_share_25 (prim := prim) (d := d) N N S3 0 y3 lvz1 a0 a1 fa0 fa1 g0_z1 g1_z1 g2_z1 M3 h
def f_X7_share (N : Nat) (S : yS) : Option (Int32 × yS) := f_X7_share_0 N S
theorem m_X7_share {F : xH} {ev : xEv} {prim : xRel} {d : Nat} {T : yT} {v : Int32} {S' : yS} (N : Nat) (S : yS) (a0 : Nat) (a1 : Nat) (fa0 : yAt T 7 6 0 a0) (fa1 : yAt T 10 2 0 a1) (h : f_X7_share N S = some (v, S')) : ykQ [0, 1, 2, 3, 4, 5, 6, 7] F ev prim (d + 4) 80 T S [.ref a0, .ref a1] (some (.int v)) S' :=
  ykQ.of (pg_80 ev) mi_80 (Nat.le_of_ble_eq_true rfl) (fun hp sz hM => w_X7_share_0 (prim := prim) (d := d) N S hp _ a0 a1 fa0 fa1 rfl rfl hM h)

def f_X8r_run_107 (N : Nat) (k30 : yS → Int32 → Int32 → Int32 → Int32 → Int32 → Option (Int32 × yS)) (S : yS) (l1 : Int32) (l2 : Int32) (l3 : Int32) (l4 : Int32) (l5 : Int32) : Option (Int32 × yS) := k30 S l1 l2 l3 l4 (l5 + 1)
set_option maxHeartbeats 4000000 in
set_option maxRecDepth 40000 in
theorem w_X8r_run_107 {F : xH} {ev : xEv} {prim : xRel} {d sz : Nat} {T : yT} {v : Int32} {S' : yS} (N : Nat) (k30 : yS → Int32 → Int32 → Int32 → Int32 → Int32 → Option (Int32 × yS)) (u30 : ∀ (S : yS) (l1 : Int32) (l2 : Int32) (l3 : Int32) (l4 : Int32) (l5 : Int32) (hp : xH) (lv : xLv) (a0 : Nat) (fa0 : yAt T 14 4 0 a0) (g0 : xG lv 0 = some (.ref a0)) (g1 : xG lv 1 = some (.int l1)) (g2 : xG lv 2 = some (.int l2)) (g3 : xG lv 3 = some (.int l3)) (g4 : xG lv 4 = some (.int l4)) (g5 : xG lv 5 = some (.int l5)) (hM : cR [0, 1, 2, 3, 4, 5, 6, 7] F ev T S hp) (h : k30 S l1 l2 l3 l4 l5 = some (v, S')), yWE ev.2.1 (xstr ev) (xCalls ev xmi (xprog ev) prim (d + 2)) (pX8_run ev) (30, lv, [], hp, sz, 0) (ypQ [0, 1, 2, 3, 4, 5, 6, 7] F ev T sz (some (.int v)) S')) (S : yS) (l1 : Int32) (l2 : Int32) (l3 : Int32) (l4 : Int32) (l5 : Int32) (hp : xH) (lv : xLv) (a0 : Nat) (fa0 : yAt T 14 4 0 a0) (g0 : xG lv 0 = some (.ref a0)) (g1 : xG lv 1 = some (.int l1)) (g2 : xG lv 2 = some (.int l2)) (g3 : xG lv 3 = some (.int l3)) (g4 : xG lv 4 = some (.int l4)) (g5 : xG lv 5 = some (.int l5)) (hM : cR [0, 1, 2, 3, 4, 5, 6, 7] F ev T S hp) (h : f_X8r_run_107 N k30 S l1 l2 l3 l4 l5 = some (v, S')) : yWE ev.2.1 (xstr ev) (xCalls ev xmi (xprog ev) prim (d + 2)) (pX8_run ev) (107, lv, [], hp, sz, 0) (ypQ [0, 1, 2, 3, 4, 5, 6, 7] F ev T sz (some (.int v)) S') := by
  unfold f_X8r_run_107 at h
  refine ye_iinc rfl g5 ?_
  have g0_z1 := xG_o1 (i := 5) (v := .int (l5 + 1)) g0 rfl
  have g1_z1 := xG_o1 (i := 5) (v := .int (l5 + 1)) g1 rfl
  have g2_z1 := xG_o1 (i := 5) (v := .int (l5 + 1)) g2 rfl
  have g3_z1 := xG_o1 (i := 5) (v := .int (l5 + 1)) g3 rfl
  have g4_z1 := xG_o1 (i := 5) (v := .int (l5 + 1)) g4 rfl
  have g5_z1 := xG_same lv 5 (.int (l5 + 1))
  generalize xSt1 lv 5 (.int (l5 + 1)) = lvz1 at g0_z1 g1_z1 g2_z1 g3_z1 g4_z1 g5_z1 ⊢
  refine ye_p rfl rfl ?_
  exact u30 S l1 l2 l3 l4 (l5 + 1) hp lvz1 a0 fa0 g0_z1 g1_z1 g2_z1 g3_z1 g4_z1 g5_z1 hM h

def f_X8r_run_102 (N : Nat) (k30 : yS → Int32 → Int32 → Int32 → Int32 → Int32 → Option (Int32 × yS)) (S : yS) (l1 : Int32) (l2 : Int32) (l4 : Int32) (l5 : Int32) : Option (Int32 × yS) := f_X8r_run_107 N k30 S l1 l2 0 (l4 + 1) l5
set_option maxHeartbeats 4000000 in
set_option maxRecDepth 40000 in
theorem w_X8r_run_102 {F : xH} {ev : xEv} {prim : xRel} {d sz : Nat} {T : yT} {v : Int32} {S' : yS} (N : Nat) (k30 : yS → Int32 → Int32 → Int32 → Int32 → Int32 → Option (Int32 × yS)) (u30 : ∀ (S : yS) (l1 : Int32) (l2 : Int32) (l3 : Int32) (l4 : Int32) (l5 : Int32) (hp : xH) (lv : xLv) (a0 : Nat) (fa0 : yAt T 14 4 0 a0) (g0 : xG lv 0 = some (.ref a0)) (g1 : xG lv 1 = some (.int l1)) (g2 : xG lv 2 = some (.int l2)) (g3 : xG lv 3 = some (.int l3)) (g4 : xG lv 4 = some (.int l4)) (g5 : xG lv 5 = some (.int l5)) (hM : cR [0, 1, 2, 3, 4, 5, 6, 7] F ev T S hp) (h : k30 S l1 l2 l3 l4 l5 = some (v, S')), yWE ev.2.1 (xstr ev) (xCalls ev xmi (xprog ev) prim (d + 2)) (pX8_run ev) (30, lv, [], hp, sz, 0) (ypQ [0, 1, 2, 3, 4, 5, 6, 7] F ev T sz (some (.int v)) S')) (S : yS) (l1 : Int32) (l2 : Int32) (l4 : Int32) (l5 : Int32) (hp : xH) (lv : xLv) (a0 : Nat) (fa0 : yAt T 14 4 0 a0) (g0 : xG lv 0 = some (.ref a0)) (g1 : xG lv 1 = some (.int l1)) (g2 : xG lv 2 = some (.int l2)) (g4 : xG lv 4 = some (.int l4)) (g5 : xG lv 5 = some (.int l5)) (hM : cR [0, 1, 2, 3, 4, 5, 6, 7] F ev T S hp) (h : f_X8r_run_102 N k30 S l1 l2 l4 l5 = some (v, S')) : yWE ev.2.1 (xstr ev) (xCalls ev xmi (xprog ev) prim (d + 2)) (pX8_run ev) (102, lv, [], hp, sz, 0) (ypQ [0, 1, 2, 3, 4, 5, 6, 7] F ev T sz (some (.int v)) S') := by
  unfold f_X8r_run_102 at h
  refine ye_p rfl rfl ?_
  refine ye_p rfl rfl ?_
  have g0_z1 := xG_o1 (i := 3) (v := .int 0) g0 rfl
  have g1_z1 := xG_o1 (i := 3) (v := .int 0) g1 rfl
  have g2_z1 := xG_o1 (i := 3) (v := .int 0) g2 rfl
  have g4_z1 := xG_o1 (i := 3) (v := .int 0) g4 rfl
  have g5_z1 := xG_o1 (i := 3) (v := .int 0) g5 rfl
  have g3_z1 := xG_same lv 3 (.int 0)
  generalize xSt1 lv 3 (.int 0) = lvz1 at g0_z1 g1_z1 g2_z1 g4_z1 g5_z1 g3_z1 ⊢
  refine ye_iinc rfl g4_z1 ?_
  have g0_z2 := xG_o1 (i := 4) (v := .int (l4 + 1)) g0_z1 rfl
  have g1_z2 := xG_o1 (i := 4) (v := .int (l4 + 1)) g1_z1 rfl
  have g2_z2 := xG_o1 (i := 4) (v := .int (l4 + 1)) g2_z1 rfl
  have g3_z2 := xG_o1 (i := 4) (v := .int (l4 + 1)) g3_z1 rfl
  have g5_z2 := xG_o1 (i := 4) (v := .int (l4 + 1)) g5_z1 rfl
  have g4_z2 := xG_same lvz1 4 (.int (l4 + 1))
  generalize xSt1 lvz1 4 (.int (l4 + 1)) = lvz2 at g0_z2 g1_z2 g2_z2 g3_z2 g5_z2 g4_z2 ⊢
  exact w_X8r_run_107 (prim := prim) (d := d) N k30 u30 S l1 l2 0 (l4 + 1) l5 hp lvz2 a0 fa0 g0_z2 g1_z2 g2_z2 g3_z2 g4_z2 g5_z2 hM h

def f_X8r_run_129 (N : Nat) (S : yS) (t0 : Int32) : Option (Int32 × yS) := some (t0, S)
set_option maxHeartbeats 4000000 in
set_option maxRecDepth 40000 in
theorem w_X8r_run_129 {F : xH} {ev : xEv} {prim : xRel} {d sz : Nat} {T : yT} {v : Int32} {S' : yS} (N : Nat) (S : yS) (t0 : Int32) (hp : xH) (lv : xLv) (hM : cR [0, 1, 2, 3, 4, 5, 6, 7] F ev T S hp) (h : f_X8r_run_129 N S t0 = some (v, S')) : yWE ev.2.1 (xstr ev) (xCalls ev xmi (xprog ev) prim (d + 2)) (pX8_run ev) (129, lv, [.int t0], hp, sz, 0) (ypQ [0, 1, 2, 3, 4, 5, 6, 7] F ev T sz (some (.int v)) S') := by
  unfold f_X8r_run_129 at h
  exact ye_ret rfl rfl (rQ h hM)

def f_X8r_run_30 : Nat → Nat → yS → Int32 → Int32 → Int32 → Int32 → Int32 → Option (Int32 × yS)
  | 0, _, _, _, _, _, _, _ => none
  | n + 1, N, S, l1, l2, l3, l4, l5 => gA 20 l1 fun j1 => if (S.2.1 4 5 j1) ≤ l5 then if l3 ≤ 0 then f_X8r_run_129 N S l2 else gA 60 (l3 - 1) fun j2 => f_X8r_run_129 N S (S.2.1 4 7 j2) else gA 1200 ((l1 * 60) + l5) fun j3 => if 3000 ≤ (S.2.1 4 6 j3) then if l3 ≤ 0 then f_X8r_run_102 N (fun S l1 l2 l3 l4 l5 => f_X8r_run_30 n N S l1 l2 l3 l4 l5) S l1 l2 l4 l5 else gA 60 (l3 - 1) fun j4 => if (S.2.1 4 7 j4) = 0 then f_X8r_run_102 N (fun S l1 l2 l3 l4 l5 => f_X8r_run_30 n N S l1 l2 l3 l4 l5) S l1 l2 l4 l5 else sq (yI S 4 1 l4) fun S1 => some ((S.2.1 4 6 j3) - 3000, S1) else bS (f_X8r_work N S (S.2.1 4 6 j3) l3) fun w1 S2 => f_X8r_run_107 N (fun S l1 l2 l3 l4 l5 => f_X8r_run_30 n N S l1 l2 l3 l4 l5) S2 l1 l2 w1 l4 l5
set_option maxHeartbeats 4000000 in
set_option maxRecDepth 40000 in
theorem w_X8r_run_30 {F : xH} {ev : xEv} {prim : xRel} {d sz : Nat} {T : yT} {v : Int32} {S' : yS} (N : Nat) (n : Nat) : ∀ (S : yS) (l1 : Int32) (l2 : Int32) (l3 : Int32) (l4 : Int32) (l5 : Int32) (hp : xH) (lv : xLv) (a0 : Nat) (fa0 : yAt T 14 4 0 a0) (g0 : xG lv 0 = some (.ref a0)) (g1 : xG lv 1 = some (.int l1)) (g2 : xG lv 2 = some (.int l2)) (g3 : xG lv 3 = some (.int l3)) (g4 : xG lv 4 = some (.int l4)) (g5 : xG lv 5 = some (.int l5)) (hM : cR [0, 1, 2, 3, 4, 5, 6, 7] F ev T S hp) (h : f_X8r_run_30 n N S l1 l2 l3 l4 l5 = some (v, S')), yWE ev.2.1 (xstr ev) (xCalls ev xmi (xprog ev) prim (d + 2)) (pX8_run ev) (30, lv, [], hp, sz, 0) (ypQ [0, 1, 2, 3, 4, 5, 6, 7] F ev T sz (some (.int v)) S') := by
  induction n with
  | zero => intro S l1 l2 l3 l4 l5 hp lv a0 fa0 g0 g1 g2 g3 g4 g5 hM h; exact n_some h
  | succ n ih =>
    intro S l1 l2 l3 l4 l5 hp lv a0 fa0 g0 g1 g2 g3 g4 g5 hM h
    unfold f_X8r_run_30 at h
    refine ye_iload rfl g5 ?_
    refine ye_aload rfl g0 ?_
    refine ye_getr rfl (hM.obj fa0 ⟨rfl, rfl⟩) rfl (fun cx1 ecx1 => ?_)
    have fcx1 := yAt.row fa0 ecx1
    refine ye_iload rfl g1 ?_
    obtain ⟨j1, ej1, ij1, h⟩ := gA_some h
    refine yj_ald rfl (hM.arr fcx1 yr_14_5) ij1 ej1 ?_
    refine ye_icmp_ge rfl (fun h1 => ?_) (fun h1 => ?_)
    · replace h := yiT h1 h
      refine ye_iload rfl g3 ?_
      refine ye_if_le rfl (fun h2 => ?_) (fun h2 => ?_)
      · replace h := yiT h2 h
        refine ye_iload rfl g2 ?_
        exact w_X8r_run_129 (prim := prim) (d := d) N S l2 hp lv hM h
      · replace h := yiN h2 h
        refine ye_aload rfl g0 ?_
        refine ye_getr rfl (hM.obj fa0 ⟨rfl, rfl⟩) rfl (fun cx2 ecx2 => ?_)
        have fcx2 := yAt.row fa0 ecx2
        refine ye_iload rfl g3 ?_
        refine ye_p rfl rfl ?_
        refine ye_p rfl rfl ?_
        obtain ⟨j2, ej2, ij2, h⟩ := gA_some h
        refine yj_ald rfl (hM.arr fcx2 yr_14_7) ij2 ej2 ?_
        refine ye_p rfl rfl ?_
        exact w_X8r_run_129 (prim := prim) (d := d) N S (S.2.1 4 7 j2) hp lv hM h
    · replace h := yiN h1 h
      refine ye_aload rfl g0 ?_
      refine ye_getr rfl (hM.obj fa0 ⟨rfl, rfl⟩) rfl (fun cx3 ecx3 => ?_)
      have fcx3 := yAt.row fa0 ecx3
      refine ye_iload rfl g1 ?_
      refine ye_p rfl rfl ?_
      refine ye_p rfl rfl ?_
      refine ye_iload rfl g5 ?_
      refine ye_p rfl rfl ?_
      obtain ⟨j3, ej3, ij3, h⟩ := gA_some h
      refine yj_ald rfl (hM.arr fcx3 yr_14_6) ij3 ej3 ?_
      refine ye_p rfl rfl ?_
      have g0_z1 := xG_o1 (i := 6) (v := .int (S.2.1 4 6 j3)) g0 rfl
      have g1_z1 := xG_o1 (i := 6) (v := .int (S.2.1 4 6 j3)) g1 rfl
      have g2_z1 := xG_o1 (i := 6) (v := .int (S.2.1 4 6 j3)) g2 rfl
      have g3_z1 := xG_o1 (i := 6) (v := .int (S.2.1 4 6 j3)) g3 rfl
      have g4_z1 := xG_o1 (i := 6) (v := .int (S.2.1 4 6 j3)) g4 rfl
      have g5_z1 := xG_o1 (i := 6) (v := .int (S.2.1 4 6 j3)) g5 rfl
      have g6_z1 := xG_same lv 6 (.int (S.2.1 4 6 j3))
      generalize xSt1 lv 6 (.int (S.2.1 4 6 j3)) = lvz1 at g0_z1 g1_z1 g2_z1 g3_z1 g4_z1 g5_z1 g6_z1 ⊢
      refine ye_iload rfl g6_z1 ?_
      refine ye_p rfl rfl ?_
      refine ye_icmp_ge rfl (fun h3 => ?_) (fun h3 => ?_)
      · replace h := yiT h3 h
        refine ye_iload rfl g3_z1 ?_
        refine ye_if_le rfl (fun h4 => ?_) (fun h4 => ?_)
        · replace h := yiT h4 h
          exact w_X8r_run_102 (prim := prim) (d := d) N (fun S l1 l2 l3 l4 l5 => f_X8r_run_30 n N S l1 l2 l3 l4 l5) ih S l1 l2 l4 l5 hp lvz1 a0 fa0 g0_z1 g1_z1 g2_z1 g4_z1 g5_z1 hM h
        · replace h := yiN h4 h
          refine ye_aload rfl g0_z1 ?_
          refine ye_getr rfl (hM.obj fa0 ⟨rfl, rfl⟩) rfl (fun cx4 ecx4 => ?_)
          have fcx4 := yAt.row fa0 ecx4
          refine ye_iload rfl g3_z1 ?_
          refine ye_p rfl rfl ?_
          refine ye_p rfl rfl ?_
          obtain ⟨j4, ej4, ij4, h⟩ := gA_some h
          refine yj_ald rfl (hM.arr fcx4 yr_14_7) ij4 ej4 ?_
          refine ye_if_eq rfl (fun h5 => ?_) (fun h5 => ?_)
          · replace h := yiT h5 h
            exact w_X8r_run_102 (prim := prim) (d := d) N (fun S l1 l2 l3 l4 l5 => f_X8r_run_30 n N S l1 l2 l3 l4 l5) ih S l1 l2 l4 l5 hp lvz1 a0 fa0 g0_z1 g1_z1 g2_z1 g4_z1 g5_z1 hM h
          · replace h := yiN h5 h
            refine ye_aload rfl g0_z1 ?_
            refine ye_iload rfl g4_z1 ?_
            obtain ⟨S1, eS1, h⟩ := sq_some h
            refine yw_putI rfl hM fa0 rfl ⟨rfl, rfl⟩ (Nat.le_of_ble_eq_true rfl) rfl rfl (ys_14_1 ev T _ l4) (fun q => absurd q (by decide)) eS1 (fun y1 M1 => ?_)
            refine ye_iload rfl g6_z1 ?_
            refine ye_p rfl rfl ?_
            refine ye_p rfl rfl ?_
            exact ye_ret rfl rfl (rQ h M1)
      · replace h := yiN h3 h
        refine ye_aload rfl g0_z1 ?_
        refine ye_iload rfl g6_z1 ?_
        refine ye_iload rfl g3_z1 ?_
        obtain ⟨w1, S2, hw1, h⟩ := bS_some h
        obtain ⟨y2, cy2, M2⟩ := (m_X8r_work (d := d + 0) (T := T) N S (S.2.1 4 6 j3) l3 a0 fa0 hw1) hp sz hM
        refine ye_callV (As := [.int (S.2.1 4 6 j3), .int l3]) (rest := []) 0 (Or.inl rfl) rfl rfl rfl (Nat.le_of_ble_eq_true rfl) (hM.obj fa0 ⟨rfl, rfl⟩) cy2 ?_
        refine ye_p rfl rfl ?_
        have g0_z2 := xG_o1 (i := 3) (v := .int w1) g0_z1 rfl
        have g1_z2 := xG_o1 (i := 3) (v := .int w1) g1_z1 rfl
        have g2_z2 := xG_o1 (i := 3) (v := .int w1) g2_z1 rfl
        have g4_z2 := xG_o1 (i := 3) (v := .int w1) g4_z1 rfl
        have g5_z2 := xG_o1 (i := 3) (v := .int w1) g5_z1 rfl
        have g3_z2 := xG_same lvz1 3 (.int w1)
        generalize xSt1 lvz1 3 (.int w1) = lvz2 at g0_z2 g1_z2 g2_z2 g4_z2 g5_z2 g3_z2 ⊢
        refine ye_p rfl rfl ?_
        exact w_X8r_run_107 (prim := prim) (d := d) N (fun S l1 l2 l3 l4 l5 => f_X8r_run_30 n N S l1 l2 l3 l4 l5) ih S2 l1 l2 w1 l4 l5 y2 lvz2 a0 fa0 g0_z2 g1_z2 g2_z2 g3_z2 g4_z2 g5_z2 M2 h

def f_X8r_run_0 (N : Nat) (S : yS) (l1 : Int32) (l2 : Int32) : Option (Int32 × yS) := sq (yI S 4 1 ((-2))) fun S1 => bV (f_X11_within N S1 l1 0 ((S1.1 4 0) - 1)) fun w1 => if ¬ w1 = 0 then f_X8r_run_30 N N S1 l1 l2 0 0 0 else some (l2, S1)
set_option maxHeartbeats 4000000 in
set_option maxRecDepth 40000 in
theorem w_X8r_run_0 {F : xH} {ev : xEv} {prim : xRel} {d sz : Nat} {T : yT} {v : Int32} {S' : yS} (N : Nat) (S : yS) (l1 : Int32) (l2 : Int32) (hp : xH) (lv : xLv) (a0 : Nat) (fa0 : yAt T 14 4 0 a0) (g0 : xG lv 0 = some (.ref a0)) (g1 : xG lv 1 = some (.int l1)) (g2 : xG lv 2 = some (.int l2)) (hM : cR [0, 1, 2, 3, 4, 5, 6, 7] F ev T S hp) (h : f_X8r_run_0 N S l1 l2 = some (v, S')) : yWE ev.2.1 (xstr ev) (xCalls ev xmi (xprog ev) prim (d + 2)) (pX8_run ev) (0, lv, [], hp, sz, 0) (ypQ [0, 1, 2, 3, 4, 5, 6, 7] F ev T sz (some (.int v)) S') := by
  unfold f_X8r_run_0 at h
  refine ye_aload rfl g0 ?_
  refine ye_p rfl rfl ?_
  obtain ⟨S1, eS1, h⟩ := sq_some h
  refine yw_putI rfl hM fa0 rfl ⟨rfl, rfl⟩ (Nat.le_of_ble_eq_true rfl) rfl rfl (ys_14_1 ev T _ ((-2))) (fun q => absurd q (by decide)) eS1 (fun y1 M1 => ?_)
  refine ye_iload rfl g1 ?_
  refine ye_p rfl rfl ?_
  refine ye_aload rfl g0 ?_
  refine ye_getf rfl (M1.obj fa0 ⟨rfl, rfl⟩) rfl ?_
  refine ye_p rfl rfl ?_
  refine ye_p rfl rfl ?_
  obtain ⟨w1, hw1, h⟩ := bV_some h
  refine ye_callS (As := [.int l1, .int 0, .int ((S1.1 4 0) - 1)]) (rest := []) 3 (Or.inr rfl) rfl rfl rfl (Nat.le_of_ble_eq_true rfl) ((m_X11_within (d := d + 1) (T := T) N S1 l1 0 ((S1.1 4 0) - 1) hw1) y1 sz M1) ?_
  refine ye_if_ne rfl (fun h1 => ?_) (fun h1 => ?_)
  · replace h := yiT h1 h
    refine ye_p rfl rfl ?_
    refine ye_p rfl rfl ?_
    have g0_z1 := xG_o1 (i := 3) (v := .int 0) g0 rfl
    have g1_z1 := xG_o1 (i := 3) (v := .int 0) g1 rfl
    have g2_z1 := xG_o1 (i := 3) (v := .int 0) g2 rfl
    have g3_z1 := xG_same lv 3 (.int 0)
    generalize xSt1 lv 3 (.int 0) = lvz1 at g0_z1 g1_z1 g2_z1 g3_z1 ⊢
    refine ye_p rfl rfl ?_
    refine ye_p rfl rfl ?_
    have g0_z2 := xG_o1 (i := 4) (v := .int 0) g0_z1 rfl
    have g1_z2 := xG_o1 (i := 4) (v := .int 0) g1_z1 rfl
    have g2_z2 := xG_o1 (i := 4) (v := .int 0) g2_z1 rfl
    have g3_z2 := xG_o1 (i := 4) (v := .int 0) g3_z1 rfl
    have g4_z2 := xG_same lvz1 4 (.int 0)
    generalize xSt1 lvz1 4 (.int 0) = lvz2 at g0_z2 g1_z2 g2_z2 g3_z2 g4_z2 ⊢
    refine ye_p rfl rfl ?_
    refine ye_p rfl rfl ?_
    have g0_z3 := xG_o1 (i := 5) (v := .int 0) g0_z2 rfl
    have g1_z3 := xG_o1 (i := 5) (v := .int 0) g1_z2 rfl
    have g2_z3 := xG_o1 (i := 5) (v := .int 0) g2_z2 rfl
    have g3_z3 := xG_o1 (i := 5) (v := .int 0) g3_z2 rfl
    have g4_z3 := xG_o1 (i := 5) (v := .int 0) g4_z2 rfl
    have g5_z3 := xG_same lvz2 5 (.int 0)
    generalize xSt1 lvz2 5 (.int 0) = lvz3 at g0_z3 g1_z3 g2_z3 g3_z3 g4_z3 g5_z3 ⊢
    exact w_X8r_run_30 (prim := prim) (d := d) N N S1 l1 l2 0 0 0 y1 lvz3 a0 fa0 g0_z3 g1_z3 g2_z3 g3_z3 g4_z3 g5_z3 M1 h
  · replace h := yiN h1 h
    refine ye_iload rfl g2 ?_
    exact ye_ret rfl rfl (rQ h M1)
def f_X8r_run (N : Nat) (S : yS) (xl1 : Int32) (xl2 : Int32) : Option (Int32 × yS) := f_X8r_run_0 N S xl1 xl2
theorem m_X8r_run {F : xH} {ev : xEv} {prim : xRel} {d : Nat} {T : yT} {v : Int32} {S' : yS} (N : Nat) (S : yS) (xl1 : Int32) (xl2 : Int32) (a0 : Nat) (fa0 : yAt T 14 4 0 a0) (h : f_X8r_run N S xl1 xl2 = some (v, S')) : ykQ [0, 1, 2, 3, 4, 5, 6, 7] F ev prim (d + 3) 89 T S [.ref a0, .int xl1, .int xl2] (some (.int v)) S' :=
  ykQ.of (pg_89 ev) mi_89 (Nat.le_of_ble_eq_true rfl) (fun hp sz hM => w_X8r_run_0 (prim := prim) (d := d) N S xl1 xl2 hp _ a0 fa0 rfl rfl rfl hM h)

def f_X8l_run_107 (N : Nat) (k30 : yS → Int32 → Int32 → Int32 → Int32 → Int32 → Option (Int32 × yS)) (S : yS) (l1 : Int32) (l2 : Int32) (l3 : Int32) (l4 : Int32) (l5 : Int32) : Option (Int32 × yS) := k30 S l1 l2 l3 l4 (l5 + 1)
set_option maxHeartbeats 4000000 in
set_option maxRecDepth 40000 in
theorem w_X8l_run_107 {F : xH} {ev : xEv} {prim : xRel} {d sz : Nat} {T : yT} {v : Int32} {S' : yS} (N : Nat) (k30 : yS → Int32 → Int32 → Int32 → Int32 → Int32 → Option (Int32 × yS)) (u30 : ∀ (S : yS) (l1 : Int32) (l2 : Int32) (l3 : Int32) (l4 : Int32) (l5 : Int32) (hp : xH) (lv : xLv) (a0 : Nat) (fa0 : yAt T 8 5 0 a0) (g0 : xG lv 0 = some (.ref a0)) (g1 : xG lv 1 = some (.int l1)) (g2 : xG lv 2 = some (.int l2)) (g3 : xG lv 3 = some (.int l3)) (g4 : xG lv 4 = some (.int l4)) (g5 : xG lv 5 = some (.int l5)) (hM : cR [0, 1, 2, 3, 4, 5, 6, 7] F ev T S hp) (h : k30 S l1 l2 l3 l4 l5 = some (v, S')), yWE ev.2.1 (xstr ev) (xCalls ev xmi (xprog ev) prim (d + 2)) (pX8_run ev) (30, lv, [], hp, sz, 0) (ypQ [0, 1, 2, 3, 4, 5, 6, 7] F ev T sz (some (.int v)) S')) (S : yS) (l1 : Int32) (l2 : Int32) (l3 : Int32) (l4 : Int32) (l5 : Int32) (hp : xH) (lv : xLv) (a0 : Nat) (fa0 : yAt T 8 5 0 a0) (g0 : xG lv 0 = some (.ref a0)) (g1 : xG lv 1 = some (.int l1)) (g2 : xG lv 2 = some (.int l2)) (g3 : xG lv 3 = some (.int l3)) (g4 : xG lv 4 = some (.int l4)) (g5 : xG lv 5 = some (.int l5)) (hM : cR [0, 1, 2, 3, 4, 5, 6, 7] F ev T S hp) (h : f_X8l_run_107 N k30 S l1 l2 l3 l4 l5 = some (v, S')) : yWE ev.2.1 (xstr ev) (xCalls ev xmi (xprog ev) prim (d + 2)) (pX8_run ev) (107, lv, [], hp, sz, 0) (ypQ [0, 1, 2, 3, 4, 5, 6, 7] F ev T sz (some (.int v)) S') := by
  unfold f_X8l_run_107 at h
  refine ye_iinc rfl g5 ?_
  have g0_z1 := xG_o1 (i := 5) (v := .int (l5 + 1)) g0 rfl
  have g1_z1 := xG_o1 (i := 5) (v := .int (l5 + 1)) g1 rfl
  have g2_z1 := xG_o1 (i := 5) (v := .int (l5 + 1)) g2 rfl
  have g3_z1 := xG_o1 (i := 5) (v := .int (l5 + 1)) g3 rfl
  have g4_z1 := xG_o1 (i := 5) (v := .int (l5 + 1)) g4 rfl
  have g5_z1 := xG_same lv 5 (.int (l5 + 1))
  generalize xSt1 lv 5 (.int (l5 + 1)) = lvz1 at g0_z1 g1_z1 g2_z1 g3_z1 g4_z1 g5_z1 ⊢
  refine ye_p rfl rfl ?_
  exact u30 S l1 l2 l3 l4 (l5 + 1) hp lvz1 a0 fa0 g0_z1 g1_z1 g2_z1 g3_z1 g4_z1 g5_z1 hM h

def f_X8l_run_102 (N : Nat) (k30 : yS → Int32 → Int32 → Int32 → Int32 → Int32 → Option (Int32 × yS)) (S : yS) (l1 : Int32) (l2 : Int32) (l4 : Int32) (l5 : Int32) : Option (Int32 × yS) := f_X8l_run_107 N k30 S l1 l2 0 (l4 + 1) l5
set_option maxHeartbeats 4000000 in
set_option maxRecDepth 40000 in
theorem w_X8l_run_102 {F : xH} {ev : xEv} {prim : xRel} {d sz : Nat} {T : yT} {v : Int32} {S' : yS} (N : Nat) (k30 : yS → Int32 → Int32 → Int32 → Int32 → Int32 → Option (Int32 × yS)) (u30 : ∀ (S : yS) (l1 : Int32) (l2 : Int32) (l3 : Int32) (l4 : Int32) (l5 : Int32) (hp : xH) (lv : xLv) (a0 : Nat) (fa0 : yAt T 8 5 0 a0) (g0 : xG lv 0 = some (.ref a0)) (g1 : xG lv 1 = some (.int l1)) (g2 : xG lv 2 = some (.int l2)) (g3 : xG lv 3 = some (.int l3)) (g4 : xG lv 4 = some (.int l4)) (g5 : xG lv 5 = some (.int l5)) (hM : cR [0, 1, 2, 3, 4, 5, 6, 7] F ev T S hp) (h : k30 S l1 l2 l3 l4 l5 = some (v, S')), yWE ev.2.1 (xstr ev) (xCalls ev xmi (xprog ev) prim (d + 2)) (pX8_run ev) (30, lv, [], hp, sz, 0) (ypQ [0, 1, 2, 3, 4, 5, 6, 7] F ev T sz (some (.int v)) S')) (S : yS) (l1 : Int32) (l2 : Int32) (l4 : Int32) (l5 : Int32) (hp : xH) (lv : xLv) (a0 : Nat) (fa0 : yAt T 8 5 0 a0) (g0 : xG lv 0 = some (.ref a0)) (g1 : xG lv 1 = some (.int l1)) (g2 : xG lv 2 = some (.int l2)) (g4 : xG lv 4 = some (.int l4)) (g5 : xG lv 5 = some (.int l5)) (hM : cR [0, 1, 2, 3, 4, 5, 6, 7] F ev T S hp) (h : f_X8l_run_102 N k30 S l1 l2 l4 l5 = some (v, S')) : yWE ev.2.1 (xstr ev) (xCalls ev xmi (xprog ev) prim (d + 2)) (pX8_run ev) (102, lv, [], hp, sz, 0) (ypQ [0, 1, 2, 3, 4, 5, 6, 7] F ev T sz (some (.int v)) S') := by
  unfold f_X8l_run_102 at h
  refine ye_p rfl rfl ?_
  refine ye_p rfl rfl ?_
  have g0_z1 := xG_o1 (i := 3) (v := .int 0) g0 rfl
  have g1_z1 := xG_o1 (i := 3) (v := .int 0) g1 rfl
  have g2_z1 := xG_o1 (i := 3) (v := .int 0) g2 rfl
  have g4_z1 := xG_o1 (i := 3) (v := .int 0) g4 rfl
  have g5_z1 := xG_o1 (i := 3) (v := .int 0) g5 rfl
  have g3_z1 := xG_same lv 3 (.int 0)
  generalize xSt1 lv 3 (.int 0) = lvz1 at g0_z1 g1_z1 g2_z1 g4_z1 g5_z1 g3_z1 ⊢
  refine ye_iinc rfl g4_z1 ?_
  have g0_z2 := xG_o1 (i := 4) (v := .int (l4 + 1)) g0_z1 rfl
  have g1_z2 := xG_o1 (i := 4) (v := .int (l4 + 1)) g1_z1 rfl
  have g2_z2 := xG_o1 (i := 4) (v := .int (l4 + 1)) g2_z1 rfl
  have g3_z2 := xG_o1 (i := 4) (v := .int (l4 + 1)) g3_z1 rfl
  have g5_z2 := xG_o1 (i := 4) (v := .int (l4 + 1)) g5_z1 rfl
  have g4_z2 := xG_same lvz1 4 (.int (l4 + 1))
  generalize xSt1 lvz1 4 (.int (l4 + 1)) = lvz2 at g0_z2 g1_z2 g2_z2 g3_z2 g5_z2 g4_z2 ⊢
  exact w_X8l_run_107 (prim := prim) (d := d) N k30 u30 S l1 l2 0 (l4 + 1) l5 hp lvz2 a0 fa0 g0_z2 g1_z2 g2_z2 g3_z2 g4_z2 g5_z2 hM h

def f_X8l_run_129 (N : Nat) (S : yS) (t0 : Int32) : Option (Int32 × yS) := some (t0, S)
set_option maxHeartbeats 4000000 in
set_option maxRecDepth 40000 in
theorem w_X8l_run_129 {F : xH} {ev : xEv} {prim : xRel} {d sz : Nat} {T : yT} {v : Int32} {S' : yS} (N : Nat) (S : yS) (t0 : Int32) (hp : xH) (lv : xLv) (hM : cR [0, 1, 2, 3, 4, 5, 6, 7] F ev T S hp) (h : f_X8l_run_129 N S t0 = some (v, S')) : yWE ev.2.1 (xstr ev) (xCalls ev xmi (xprog ev) prim (d + 2)) (pX8_run ev) (129, lv, [.int t0], hp, sz, 0) (ypQ [0, 1, 2, 3, 4, 5, 6, 7] F ev T sz (some (.int v)) S') := by
  unfold f_X8l_run_129 at h
  exact ye_ret rfl rfl (rQ h hM)

def f_X8l_run_30 : Nat → Nat → yS → Int32 → Int32 → Int32 → Int32 → Int32 → Option (Int32 × yS)
  | 0, _, _, _, _, _, _, _ => none
  | n + 1, N, S, l1, l2, l3, l4, l5 => gA 12 l1 fun j1 => if (S.2.1 5 5 j1) ≤ l5 then if l3 ≤ 0 then f_X8l_run_129 N S l2 else gA 60 (l3 - 1) fun j2 => f_X8l_run_129 N S (S.2.1 5 7 j2) else gA 720 ((l1 * 60) + l5) fun j3 => if 3000 ≤ (S.2.1 5 6 j3) then if l3 ≤ 0 then f_X8l_run_102 N (fun S l1 l2 l3 l4 l5 => f_X8l_run_30 n N S l1 l2 l3 l4 l5) S l1 l2 l4 l5 else gA 60 (l3 - 1) fun j4 => if (S.2.1 5 7 j4) = 0 then f_X8l_run_102 N (fun S l1 l2 l3 l4 l5 => f_X8l_run_30 n N S l1 l2 l3 l4 l5) S l1 l2 l4 l5 else sq (yI S 5 1 l4) fun S1 => some ((S.2.1 5 6 j3) - 3000, S1) else bS (f_X8l_work N S (S.2.1 5 6 j3) l3) fun w1 S2 => f_X8l_run_107 N (fun S l1 l2 l3 l4 l5 => f_X8l_run_30 n N S l1 l2 l3 l4 l5) S2 l1 l2 w1 l4 l5
set_option maxHeartbeats 4000000 in
set_option maxRecDepth 40000 in
theorem w_X8l_run_30 {F : xH} {ev : xEv} {prim : xRel} {d sz : Nat} {T : yT} {v : Int32} {S' : yS} (N : Nat) (n : Nat) : ∀ (S : yS) (l1 : Int32) (l2 : Int32) (l3 : Int32) (l4 : Int32) (l5 : Int32) (hp : xH) (lv : xLv) (a0 : Nat) (fa0 : yAt T 8 5 0 a0) (g0 : xG lv 0 = some (.ref a0)) (g1 : xG lv 1 = some (.int l1)) (g2 : xG lv 2 = some (.int l2)) (g3 : xG lv 3 = some (.int l3)) (g4 : xG lv 4 = some (.int l4)) (g5 : xG lv 5 = some (.int l5)) (hM : cR [0, 1, 2, 3, 4, 5, 6, 7] F ev T S hp) (h : f_X8l_run_30 n N S l1 l2 l3 l4 l5 = some (v, S')), yWE ev.2.1 (xstr ev) (xCalls ev xmi (xprog ev) prim (d + 2)) (pX8_run ev) (30, lv, [], hp, sz, 0) (ypQ [0, 1, 2, 3, 4, 5, 6, 7] F ev T sz (some (.int v)) S') := by
  induction n with
  | zero => intro S l1 l2 l3 l4 l5 hp lv a0 fa0 g0 g1 g2 g3 g4 g5 hM h; exact n_some h
  | succ n ih =>
    intro S l1 l2 l3 l4 l5 hp lv a0 fa0 g0 g1 g2 g3 g4 g5 hM h
    unfold f_X8l_run_30 at h
    refine ye_iload rfl g5 ?_
    refine ye_aload rfl g0 ?_
    refine ye_getr rfl (hM.obj fa0 ⟨rfl, rfl⟩) rfl (fun cx1 ecx1 => ?_)
    have fcx1 := yAt.row fa0 ecx1
    refine ye_iload rfl g1 ?_
    obtain ⟨j1, ej1, ij1, h⟩ := gA_some h
    refine yj_ald rfl (hM.arr fcx1 yr_8_5) ij1 ej1 ?_
    refine ye_icmp_ge rfl (fun h1 => ?_) (fun h1 => ?_)
    · replace h := yiT h1 h
      refine ye_iload rfl g3 ?_
      refine ye_if_le rfl (fun h2 => ?_) (fun h2 => ?_)
      · replace h := yiT h2 h
        refine ye_iload rfl g2 ?_
        exact w_X8l_run_129 (prim := prim) (d := d) N S l2 hp lv hM h
      · replace h := yiN h2 h
        refine ye_aload rfl g0 ?_
        refine ye_getr rfl (hM.obj fa0 ⟨rfl, rfl⟩) rfl (fun cx2 ecx2 => ?_)
        have fcx2 := yAt.row fa0 ecx2
        refine ye_iload rfl g3 ?_
        refine ye_p rfl rfl ?_
        refine ye_p rfl rfl ?_
        obtain ⟨j2, ej2, ij2, h⟩ := gA_some h
        refine yj_ald rfl (hM.arr fcx2 yr_8_7) ij2 ej2 ?_
        refine ye_p rfl rfl ?_
        exact w_X8l_run_129 (prim := prim) (d := d) N S (S.2.1 5 7 j2) hp lv hM h
    · replace h := yiN h1 h
      refine ye_aload rfl g0 ?_
      refine ye_getr rfl (hM.obj fa0 ⟨rfl, rfl⟩) rfl (fun cx3 ecx3 => ?_)
      have fcx3 := yAt.row fa0 ecx3
      refine ye_iload rfl g1 ?_
      refine ye_p rfl rfl ?_
      refine ye_p rfl rfl ?_
      refine ye_iload rfl g5 ?_
      refine ye_p rfl rfl ?_
      obtain ⟨j3, ej3, ij3, h⟩ := gA_some h
      refine yj_ald rfl (hM.arr fcx3 yr_8_6) ij3 ej3 ?_
      refine ye_p rfl rfl ?_
      have g0_z1 := xG_o1 (i := 6) (v := .int (S.2.1 5 6 j3)) g0 rfl
      have g1_z1 := xG_o1 (i := 6) (v := .int (S.2.1 5 6 j3)) g1 rfl
      have g2_z1 := xG_o1 (i := 6) (v := .int (S.2.1 5 6 j3)) g2 rfl
      have g3_z1 := xG_o1 (i := 6) (v := .int (S.2.1 5 6 j3)) g3 rfl
      have g4_z1 := xG_o1 (i := 6) (v := .int (S.2.1 5 6 j3)) g4 rfl
      have g5_z1 := xG_o1 (i := 6) (v := .int (S.2.1 5 6 j3)) g5 rfl
      have g6_z1 := xG_same lv 6 (.int (S.2.1 5 6 j3))
      generalize xSt1 lv 6 (.int (S.2.1 5 6 j3)) = lvz1 at g0_z1 g1_z1 g2_z1 g3_z1 g4_z1 g5_z1 g6_z1 ⊢
      refine ye_iload rfl g6_z1 ?_
      refine ye_p rfl rfl ?_
      refine ye_icmp_ge rfl (fun h3 => ?_) (fun h3 => ?_)
      · replace h := yiT h3 h
        refine ye_iload rfl g3_z1 ?_
        refine ye_if_le rfl (fun h4 => ?_) (fun h4 => ?_)
        · replace h := yiT h4 h
          exact w_X8l_run_102 (prim := prim) (d := d) N (fun S l1 l2 l3 l4 l5 => f_X8l_run_30 n N S l1 l2 l3 l4 l5) ih S l1 l2 l4 l5 hp lvz1 a0 fa0 g0_z1 g1_z1 g2_z1 g4_z1 g5_z1 hM h
        · replace h := yiN h4 h
          refine ye_aload rfl g0_z1 ?_
          refine ye_getr rfl (hM.obj fa0 ⟨rfl, rfl⟩) rfl (fun cx4 ecx4 => ?_)
          have fcx4 := yAt.row fa0 ecx4
          refine ye_iload rfl g3_z1 ?_
          refine ye_p rfl rfl ?_
          refine ye_p rfl rfl ?_
          obtain ⟨j4, ej4, ij4, h⟩ := gA_some h
          refine yj_ald rfl (hM.arr fcx4 yr_8_7) ij4 ej4 ?_
          refine ye_if_eq rfl (fun h5 => ?_) (fun h5 => ?_)
          · replace h := yiT h5 h
            exact w_X8l_run_102 (prim := prim) (d := d) N (fun S l1 l2 l3 l4 l5 => f_X8l_run_30 n N S l1 l2 l3 l4 l5) ih S l1 l2 l4 l5 hp lvz1 a0 fa0 g0_z1 g1_z1 g2_z1 g4_z1 g5_z1 hM h
          · replace h := yiN h5 h
            refine ye_aload rfl g0_z1 ?_
            refine ye_iload rfl g4_z1 ?_
            obtain ⟨S1, eS1, h⟩ := sq_some h
            refine yw_putI rfl hM fa0 rfl ⟨rfl, rfl⟩ (Nat.le_of_ble_eq_true rfl) rfl rfl (ys_8_1 ev T _ l4) (fun q => absurd q (by decide)) eS1 (fun y1 M1 => ?_)
            refine ye_iload rfl g6_z1 ?_
            refine ye_p rfl rfl ?_
            refine ye_p rfl rfl ?_
            exact ye_ret rfl rfl (rQ h M1)
      · replace h := yiN h3 h
        refine ye_aload rfl g0_z1 ?_
        refine ye_iload rfl g6_z1 ?_
        refine ye_iload rfl g3_z1 ?_
        obtain ⟨w1, S2, hw1, h⟩ := bS_some h
        obtain ⟨y2, cy2, M2⟩ := (m_X8l_work (d := d + 0) (T := T) N S (S.2.1 5 6 j3) l3 a0 fa0 hw1) hp sz hM
        refine ye_callV (As := [.int (S.2.1 5 6 j3), .int l3]) (rest := []) 0 (Or.inl rfl) rfl rfl rfl (Nat.le_of_ble_eq_true rfl) (hM.obj fa0 ⟨rfl, rfl⟩) cy2 ?_
        refine ye_p rfl rfl ?_
        have g0_z2 := xG_o1 (i := 3) (v := .int w1) g0_z1 rfl
        have g1_z2 := xG_o1 (i := 3) (v := .int w1) g1_z1 rfl
        have g2_z2 := xG_o1 (i := 3) (v := .int w1) g2_z1 rfl
        have g4_z2 := xG_o1 (i := 3) (v := .int w1) g4_z1 rfl
        have g5_z2 := xG_o1 (i := 3) (v := .int w1) g5_z1 rfl
        have g3_z2 := xG_same lvz1 3 (.int w1)
        generalize xSt1 lvz1 3 (.int w1) = lvz2 at g0_z2 g1_z2 g2_z2 g4_z2 g5_z2 g3_z2 ⊢
        refine ye_p rfl rfl ?_
        exact w_X8l_run_107 (prim := prim) (d := d) N (fun S l1 l2 l3 l4 l5 => f_X8l_run_30 n N S l1 l2 l3 l4 l5) ih S2 l1 l2 w1 l4 l5 y2 lvz2 a0 fa0 g0_z2 g1_z2 g2_z2 g3_z2 g4_z2 g5_z2 M2 h

def f_X8l_run_0 (N : Nat) (S : yS) (l1 : Int32) (l2 : Int32) : Option (Int32 × yS) := sq (yI S 5 1 ((-2))) fun S1 => bV (f_X11_within N S1 l1 0 ((S1.1 5 0) - 1)) fun w1 => if ¬ w1 = 0 then f_X8l_run_30 N N S1 l1 l2 0 0 0 else some (l2, S1)
set_option maxHeartbeats 4000000 in
set_option maxRecDepth 40000 in
theorem w_X8l_run_0 {F : xH} {ev : xEv} {prim : xRel} {d sz : Nat} {T : yT} {v : Int32} {S' : yS} (N : Nat) (S : yS) (l1 : Int32) (l2 : Int32) (hp : xH) (lv : xLv) (a0 : Nat) (fa0 : yAt T 8 5 0 a0) (g0 : xG lv 0 = some (.ref a0)) (g1 : xG lv 1 = some (.int l1)) (g2 : xG lv 2 = some (.int l2)) (hM : cR [0, 1, 2, 3, 4, 5, 6, 7] F ev T S hp) (h : f_X8l_run_0 N S l1 l2 = some (v, S')) : yWE ev.2.1 (xstr ev) (xCalls ev xmi (xprog ev) prim (d + 2)) (pX8_run ev) (0, lv, [], hp, sz, 0) (ypQ [0, 1, 2, 3, 4, 5, 6, 7] F ev T sz (some (.int v)) S') := by
  unfold f_X8l_run_0 at h
  refine ye_aload rfl g0 ?_
  refine ye_p rfl rfl ?_
  obtain ⟨S1, eS1, h⟩ := sq_some h
  refine yw_putI rfl hM fa0 rfl ⟨rfl, rfl⟩ (Nat.le_of_ble_eq_true rfl) rfl rfl (ys_8_1 ev T _ ((-2))) (fun q => absurd q (by decide)) eS1 (fun y1 M1 => ?_)
  refine ye_iload rfl g1 ?_
  refine ye_p rfl rfl ?_
  refine ye_aload rfl g0 ?_
  refine ye_getf rfl (M1.obj fa0 ⟨rfl, rfl⟩) rfl ?_
  refine ye_p rfl rfl ?_
  refine ye_p rfl rfl ?_
  obtain ⟨w1, hw1, h⟩ := bV_some h
  refine ye_callS (As := [.int l1, .int 0, .int ((S1.1 5 0) - 1)]) (rest := []) 3 (Or.inr rfl) rfl rfl rfl (Nat.le_of_ble_eq_true rfl) ((m_X11_within (d := d + 1) (T := T) N S1 l1 0 ((S1.1 5 0) - 1) hw1) y1 sz M1) ?_
  refine ye_if_ne rfl (fun h1 => ?_) (fun h1 => ?_)
  · replace h := yiT h1 h
    refine ye_p rfl rfl ?_
    refine ye_p rfl rfl ?_
    have g0_z1 := xG_o1 (i := 3) (v := .int 0) g0 rfl
    have g1_z1 := xG_o1 (i := 3) (v := .int 0) g1 rfl
    have g2_z1 := xG_o1 (i := 3) (v := .int 0) g2 rfl
    have g3_z1 := xG_same lv 3 (.int 0)
    generalize xSt1 lv 3 (.int 0) = lvz1 at g0_z1 g1_z1 g2_z1 g3_z1 ⊢
    refine ye_p rfl rfl ?_
    refine ye_p rfl rfl ?_
    have g0_z2 := xG_o1 (i := 4) (v := .int 0) g0_z1 rfl
    have g1_z2 := xG_o1 (i := 4) (v := .int 0) g1_z1 rfl
    have g2_z2 := xG_o1 (i := 4) (v := .int 0) g2_z1 rfl
    have g3_z2 := xG_o1 (i := 4) (v := .int 0) g3_z1 rfl
    have g4_z2 := xG_same lvz1 4 (.int 0)
    generalize xSt1 lvz1 4 (.int 0) = lvz2 at g0_z2 g1_z2 g2_z2 g3_z2 g4_z2 ⊢
    refine ye_p rfl rfl ?_
    refine ye_p rfl rfl ?_
    have g0_z3 := xG_o1 (i := 5) (v := .int 0) g0_z2 rfl
    have g1_z3 := xG_o1 (i := 5) (v := .int 0) g1_z2 rfl
    have g2_z3 := xG_o1 (i := 5) (v := .int 0) g2_z2 rfl
    have g3_z3 := xG_o1 (i := 5) (v := .int 0) g3_z2 rfl
    have g4_z3 := xG_o1 (i := 5) (v := .int 0) g4_z2 rfl
    have g5_z3 := xG_same lvz2 5 (.int 0)
    generalize xSt1 lvz2 5 (.int 0) = lvz3 at g0_z3 g1_z3 g2_z3 g3_z3 g4_z3 g5_z3 ⊢
    exact w_X8l_run_30 (prim := prim) (d := d) N N S1 l1 l2 0 0 0 y1 lvz3 a0 fa0 g0_z3 g1_z3 g2_z3 g3_z3 g4_z3 g5_z3 M1 h
  · replace h := yiN h1 h
    refine ye_iload rfl g2 ?_
    exact ye_ret rfl rfl (rQ h M1)
def f_X8l_run (N : Nat) (S : yS) (xl1 : Int32) (xl2 : Int32) : Option (Int32 × yS) := f_X8l_run_0 N S xl1 xl2
theorem m_X8l_run {F : xH} {ev : xEv} {prim : xRel} {d : Nat} {T : yT} {v : Int32} {S' : yS} (N : Nat) (S : yS) (xl1 : Int32) (xl2 : Int32) (a0 : Nat) (fa0 : yAt T 8 5 0 a0) (h : f_X8l_run N S xl1 xl2 = some (v, S')) : ykQ [0, 1, 2, 3, 4, 5, 6, 7] F ev prim (d + 3) 89 T S [.ref a0, .int xl1, .int xl2] (some (.int v)) S' :=
  ykQ.of (pg_89 ev) mi_89 (Nat.le_of_ble_eq_true rfl) (fun hp sz hM => w_X8l_run_0 (prim := prim) (d := d) N S xl1 xl2 hp _ a0 fa0 rfl rfl rfl hM h)
