
def f_X11_count_0 (N : Nat) (S : yS) (l1 : Int32) : Option Int32 := if l1 = 0 then some (S.1 2 13) else if l1 = 1 then some (S.1 1 3) else if l1 = 2 then some (S.1 1 5) else if l1 = 3 then some (S.1 2 5) else if l1 = 4 then some (S.1 2 7) else if l1 = 5 then some (S.1 2 9) else if l1 = 6 then some (S.1 2 12) else if l1 = 7 then some (S.1 3 1) else if l1 = 8 then bV (f_X10_bagsGiven N S 0) fun w1 => some w1 else if l1 = 9 then some (S.1 2 14) else if l1 = 10 then some (S.1 0 8) else if l1 = 11 then some (S.1 0 6) else if l1 = 12 then bV (f_X10_planesDown N S) fun w2 => some w2 else some ((-1))
set_option maxHeartbeats 4000000 in
set_option maxRecDepth 40000 in
theorem w_X11_count_0 {F : xH} {ev : xEv} {prim : xRel} {d sz : Nat} {T : yT} {v : Int32} {hp : xH} (N : Nat) (S : yS) (l1 : Int32) (lv : xLv) (a0 : Nat) (fa0 : yAt T 11 0 0 a0) (g0 : xG lv 0 = some (.ref a0)) (g1 : xG lv 1 = some (.int l1)) (hM : cR [0, 1, 2, 3, 4, 5, 6, 7] F ev T S hp) (h : f_X11_count_0 N S l1 = some v) : yWE ev.2.1 (xstr ev) (xCalls ev xmi (xprog ev) prim (d + 2)) (pX11_count ev) (0, lv, [], hp, sz, 0) (ypP hp sz (.int v)) := by
  unfold f_X11_count_0 at h
  refine ye_iload rfl g1 ?_
  by_cases h1 : l1 = 0
  · replace h := yiT h1 h
    refine ye_sw rfl (show _ = 68 from by rw [h1]; rfl) ?_
    refine ye_aload rfl g0 ?_
    refine ye_getr rfl (hM.obj fa0 ⟨rfl, rfl⟩) rfl (fun cx1 ecx1 => ?_)
    have fcx1 := hM.root 10 0 (by decide) rfl ecx1
    refine ye_getf rfl (hM.obj fcx1 ⟨rfl, rfl⟩) rfl ?_
    exact ye_ret rfl rfl (rP h)
  · replace h := yiN h1 h
    by_cases h2 : l1 = 1
    · replace h := yiT h2 h
      refine ye_sw rfl (show _ = 76 from by rw [h2]; rfl) ?_
      refine ye_aload rfl g0 ?_
      refine ye_getr rfl (hM.obj fa0 ⟨rfl, rfl⟩) rfl (fun cx2 ecx2 => ?_)
      have fcx2 := hM.root 2 0 (by decide) rfl ecx2
      refine ye_getf rfl (hM.obj fcx2 ⟨rfl, rfl⟩) rfl ?_
      exact ye_ret rfl rfl (rP h)
    · replace h := yiN h2 h
      by_cases h3 : l1 = 2
      · replace h := yiT h3 h
        refine ye_sw rfl (show _ = 84 from by rw [h3]; rfl) ?_
        refine ye_aload rfl g0 ?_
        refine ye_getr rfl (hM.obj fa0 ⟨rfl, rfl⟩) rfl (fun cx3 ecx3 => ?_)
        have fcx3 := hM.root 2 0 (by decide) rfl ecx3
        refine ye_getf rfl (hM.obj fcx3 ⟨rfl, rfl⟩) rfl ?_
        exact ye_ret rfl rfl (rP h)
      · replace h := yiN h3 h
        by_cases h4 : l1 = 3
        · replace h := yiT h4 h
          refine ye_sw rfl (show _ = 92 from by rw [h4]; rfl) ?_
          refine ye_aload rfl g0 ?_
          refine ye_getr rfl (hM.obj fa0 ⟨rfl, rfl⟩) rfl (fun cx4 ecx4 => ?_)
          have fcx4 := hM.root 10 0 (by decide) rfl ecx4
          refine ye_getf rfl (hM.obj fcx4 ⟨rfl, rfl⟩) rfl ?_
          exact ye_ret rfl rfl (rP h)
        · replace h := yiN h4 h
          by_cases h5 : l1 = 4
          · replace h := yiT h5 h
            refine ye_sw rfl (show _ = 100 from by rw [h5]; rfl) ?_
            refine ye_aload rfl g0 ?_
            refine ye_getr rfl (hM.obj fa0 ⟨rfl, rfl⟩) rfl (fun cx5 ecx5 => ?_)
            have fcx5 := hM.root 10 0 (by decide) rfl ecx5
            refine ye_getf rfl (hM.obj fcx5 ⟨rfl, rfl⟩) rfl ?_
            exact ye_ret rfl rfl (rP h)
          · replace h := yiN h5 h
            by_cases h6 : l1 = 5
            · replace h := yiT h6 h
              refine ye_sw rfl (show _ = 108 from by rw [h6]; rfl) ?_
              refine ye_aload rfl g0 ?_
              refine ye_getr rfl (hM.obj fa0 ⟨rfl, rfl⟩) rfl (fun cx6 ecx6 => ?_)
              have fcx6 := hM.root 10 0 (by decide) rfl ecx6
              refine ye_getf rfl (hM.obj fcx6 ⟨rfl, rfl⟩) rfl ?_
              exact ye_ret rfl rfl (rP h)
            · replace h := yiN h6 h
              by_cases h7 : l1 = 6
              · replace h := yiT h7 h
                refine ye_sw rfl (show _ = 116 from by rw [h7]; rfl) ?_
                refine ye_aload rfl g0 ?_
                refine ye_getr rfl (hM.obj fa0 ⟨rfl, rfl⟩) rfl (fun cx7 ecx7 => ?_)
                have fcx7 := hM.root 10 0 (by decide) rfl ecx7
                refine ye_getf rfl (hM.obj fcx7 ⟨rfl, rfl⟩) rfl ?_
                exact ye_ret rfl rfl (rP h)
              · replace h := yiN h7 h
                by_cases h8 : l1 = 7
                · replace h := yiT h8 h
                  refine ye_sw rfl (show _ = 124 from by rw [h8]; rfl) ?_
                  refine ye_aload rfl g0 ?_
                  refine ye_getr rfl (hM.obj fa0 ⟨rfl, rfl⟩) rfl (fun cx8 ecx8 => ?_)
                  have fcx8 := hM.root 10 0 (by decide) rfl ecx8
                  refine ye_getr rfl (hM.obj fcx8 ⟨rfl, rfl⟩) rfl (fun cx9 ecx9 => ?_)
                  have fcx9 := hM.root 9 0 (by decide) rfl ecx9
                  refine ye_getf rfl (hM.obj fcx9 ⟨rfl, rfl⟩) rfl ?_
                  exact ye_ret rfl rfl (rP h)
                · replace h := yiN h8 h
                  by_cases h9 : l1 = 8
                  · replace h := yiT h9 h
                    refine ye_sw rfl (show _ = 135 from by rw [h9]; rfl) ?_
                    refine ye_aload rfl g0 ?_
                    refine ye_getr rfl (hM.obj fa0 ⟨rfl, rfl⟩) rfl (fun cx10 ecx10 => ?_)
                    have fcx10 := hM.root 10 0 (by decide) rfl ecx10
                    refine ye_p rfl rfl ?_
                    obtain ⟨w1, hw1, h⟩ := bV_some h
                    refine ye_callV (As := [.int 0]) (rest := []) 0 (Or.inl rfl) rfl rfl rfl (Nat.le_of_ble_eq_true rfl) (hM.obj fcx10 ⟨rfl, rfl⟩) ((m_X10_bagsGiven (d := d + 0) (T := T) N S 0 cx10 fcx10 hw1) hp sz hM) ?_
                    exact ye_ret rfl rfl (rP h)
                  · replace h := yiN h9 h
                    by_cases h10 : l1 = 9
                    · replace h := yiT h10 h
                      refine ye_sw rfl (show _ = 144 from by rw [h10]; rfl) ?_
                      refine ye_aload rfl g0 ?_
                      refine ye_getr rfl (hM.obj fa0 ⟨rfl, rfl⟩) rfl (fun cx11 ecx11 => ?_)
                      have fcx11 := hM.root 10 0 (by decide) rfl ecx11
                      refine ye_getf rfl (hM.obj fcx11 ⟨rfl, rfl⟩) rfl ?_
                      exact ye_ret rfl rfl (rP h)
                    · replace h := yiN h10 h
                      by_cases h11 : l1 = 10
                      · replace h := yiT h11 h
                        refine ye_sw rfl (show _ = 152 from by rw [h11]; rfl) ?_
                        refine ye_aload rfl g0 ?_
                        refine ye_getf rfl (hM.obj fa0 ⟨rfl, rfl⟩) rfl ?_
                        exact ye_ret rfl rfl (rP h)
                      · replace h := yiN h11 h
                        by_cases h12 : l1 = 11
                        · replace h := yiT h12 h
                          refine ye_sw rfl (show _ = 157 from by rw [h12]; rfl) ?_
                          refine ye_aload rfl g0 ?_
                          refine ye_getf rfl (hM.obj fa0 ⟨rfl, rfl⟩) rfl ?_
                          exact ye_ret rfl rfl (rP h)
                        · replace h := yiN h12 h
                          by_cases h13 : l1 = 12
                          · replace h := yiT h13 h
                            refine ye_sw rfl (show _ = 162 from by rw [h13]; rfl) ?_
                            refine ye_aload rfl g0 ?_
                            refine ye_getr rfl (hM.obj fa0 ⟨rfl, rfl⟩) rfl (fun cx12 ecx12 => ?_)
                            have fcx12 := hM.root 10 0 (by decide) rfl ecx12
                            obtain ⟨w2, hw2, h⟩ := bV_some h
                            refine ye_callV (As := []) (rest := []) 0 (Or.inl rfl) rfl rfl rfl (Nat.le_of_ble_eq_true rfl) (hM.obj fcx12 ⟨rfl, rfl⟩) ((m_X10_planesDown (d := d + 1) (T := T) N S cx12 fcx12 hw2) hp sz hM) ?_
                            exact ye_ret rfl rfl (rP h)
                          · replace h := yiN h13 h
                            refine ye_sw rfl (show _ = 170 from xtsw_neg h1 (by decide) (xtsw_neg h2 (by decide) (xtsw_neg h3 (by decide) (xtsw_neg h4 (by decide) (xtsw_neg h5 (by decide) (xtsw_neg h6 (by decide) (xtsw_neg h7 (by decide) (xtsw_neg h8 (by decide) (xtsw_neg h9 (by decide) (xtsw_neg h10 (by decide) (xtsw_neg h11 (by decide) (xtsw_neg h12 (by decide) (xtsw_neg h13 (by decide) (xtsw_nil)))))))))))))) ?_
                            refine ye_p rfl rfl ?_
                            exact ye_ret rfl rfl (rP h)
def f_X11_count (N : Nat) (S : yS) (xl1 : Int32) : Option Int32 := f_X11_count_0 N S xl1
theorem m_X11_count {F : xH} {ev : xEv} {prim : xRel} {d : Nat} {T : yT} {v : Int32} (N : Nat) (S : yS) (xl1 : Int32) (a0 : Nat) (fa0 : yAt T 11 0 0 a0) (h : f_X11_count N S xl1 = some v) : ykP [0, 1, 2, 3, 4, 5, 6, 7] F ev prim (d + 3) 153 T S [.ref a0, .int xl1] (.int v) :=
  ykP.of (pg_153 ev) mi_153 (Nat.le_of_ble_eq_true rfl) (fun hp sz hM => w_X11_count_0 (prim := prim) (d := d) N S xl1 _ a0 fa0 rfl rfl hM h)

def f_X11_weighCells_50 (N : Nat) (S : yS) (p2 : Nat) (p3 : Nat) (t0 : Int32) : Option (Int32 × yS) := bS (f_X6_weigh N S p2 p3 t0) fun w1 S1 => bV (f_X3_cellCount N S1 p3) fun w2 => some (w2, S1)
set_option maxHeartbeats 4000000 in
set_option maxRecDepth 40000 in
theorem w_X11_weighCells_50 {F : xH} {ev : xEv} {prim : xRel} {d sz : Nat} {T : yT} {v : Int32} {S' : yS} (N : Nat) (S : yS) (p2 : Nat) (p3 : Nat) (t0 : Int32) (hp : xH) (lv : xLv) (a0 : Nat) (a2 : Nat) (a3 : Nat) (fa0 : yAt T 11 0 0 a0) (fa2 : yAt T 6 p2 0 a2) (fa3 : yAt T 3 p3 0 a3) (g0 : xG lv 0 = some (.ref a0)) (g2 : xG lv 2 = some (.ref a2)) (g3 : xG lv 3 = some (.ref a3)) (hM : cR [0, 1, 2, 3, 4, 5, 6, 7] F ev T S hp) (h : f_X11_weighCells_50 N S p2 p3 t0 = some (v, S')) : yWE ev.2.1 (xstr ev) (xCalls ev xmi (xprog ev) prim (d + 2)) (pX11_weighCells ev) (50, lv, [.int t0], hp, sz, 0) (ypQ [0, 1, 2, 3, 4, 5, 6, 7] F ev T sz (some (.int v)) S') := by
  unfold f_X11_weighCells_50 at h
  refine ye_p rfl rfl ?_
  have g0_z1 := xG_o1 (i := 4) (v := .int t0) g0 rfl
  have g2_z1 := xG_o1 (i := 4) (v := .int t0) g2 rfl
  have g3_z1 := xG_o1 (i := 4) (v := .int t0) g3 rfl
  have g4_z1 := xG_same lv 4 (.int t0)
  generalize xSt1 lv 4 (.int t0) = lvz1 at g0_z1 g2_z1 g3_z1 g4_z1 ⊢
  refine ye_aload rfl g2_z1 ?_
  refine ye_aload rfl g3_z1 ?_
  refine ye_iload rfl g4_z1 ?_
  refine ye_aload rfl g0_z1 ?_
  refine ye_getr rfl (hM.obj fa0 ⟨rfl, rfl⟩) rfl (fun cx1 ecx1 => ?_)
  have fcx1 := yAt.row fa0 ecx1
  obtain ⟨w1, S1, hw1, h⟩ := bS_some h
  obtain ⟨y1, cy1, M1⟩ := (m_X6_weigh (d := d + 0) (T := T) N S p2 p3 t0 a2 a3 cx1 fa2 fa3 fcx1 hw1) hp sz hM
  refine ye_callV (As := [.ref a3, .int t0, .ref cx1]) (rest := []) 0 (Or.inl rfl) rfl rfl rfl (Nat.le_of_ble_eq_true rfl) (hM.obj fa2 ⟨rfl, rfl⟩) cy1 ?_
  refine ye_aload rfl g3_z1 ?_
  obtain ⟨w2, hw2, h⟩ := bV_some h
  refine ye_callV (As := []) (rest := []) 0 (Or.inl rfl) rfl rfl rfl (Nat.le_of_ble_eq_true rfl) (M1.obj fa3 ⟨rfl, rfl⟩) ((m_X3_cellCount (d := d + 1) (T := T) N S1 p3 a3 fa3 hw2) y1 sz M1) ?_
  exact ye_ret rfl rfl (rQ h M1)

def f_X11_weighCells_0 (N : Nat) (S : yS) (l1 : Int32) : Option (Int32 × yS) := gR (S.2.1 2 4) 8 l1 fun j1 => gR (S.2.1 1 4) 12 (S.1 ((128 + j1)) 9) fun j2 => gR (S.2.1 2 11) 24 (S.1 ((128 + j1)) 17) fun j3 => if ¬ (S.1 ((512 + j3)) 7) = (S.1 ((64 + j2)) 0) then f_X11_weighCells_50 N S ((128 + j1)) ((64 + j2)) 0 else f_X11_weighCells_50 N S ((128 + j1)) ((64 + j2)) 1
set_option maxHeartbeats 4000000 in
set_option maxRecDepth 40000 in
theorem w_X11_weighCells_0 {F : xH} {ev : xEv} {prim : xRel} {d sz : Nat} {T : yT} {v : Int32} {S' : yS} (N : Nat) (S : yS) (l1 : Int32) (hp : xH) (lv : xLv) (a0 : Nat) (fa0 : yAt T 11 0 0 a0) (g0 : xG lv 0 = some (.ref a0)) (g1 : xG lv 1 = some (.int l1)) (hM : cR [0, 1, 2, 3, 4, 5, 6, 7] F ev T S hp) (h : f_X11_weighCells_0 N S l1 = some (v, S')) : yWE ev.2.1 (xstr ev) (xCalls ev xmi (xprog ev) prim (d + 2)) (pX11_weighCells ev) (0, lv, [], hp, sz, 0) (ypQ [0, 1, 2, 3, 4, 5, 6, 7] F ev T sz (some (.int v)) S') := by
  unfold f_X11_weighCells_0 at h
  refine ye_aload rfl g0 ?_
  refine ye_getr rfl (hM.obj fa0 ⟨rfl, rfl⟩) rfl (fun cx1 ecx1 => ?_)
  have fcx1 := hM.root 10 0 (by decide) rfl ecx1
  refine ye_getr rfl (hM.obj fcx1 ⟨rfl, rfl⟩) rfl (fun cx2 ecx2 => ?_)
  have fcx2 := yAt.row fcx1 ecx2
  refine ye_iload rfl g1 ?_
  obtain ⟨j1, ej1, ij1, rj1, h⟩ := gR_some h
  refine ye_aaldR (t := 5) rfl (hM.arr fcx2 yr_10_4) ij1 ej1 rj1 (fun cx3 ecx3 => ?_)
  have fcx3 : yAt T 6 (128 + j1) 0 cx3 := ⟨hM.refd fcx2 yr_10_4 (by decide) rj1, oc_128 (by have := vp_lt ij1; omega), ecx3⟩
  refine ye_p rfl rfl ?_
  have g0_z1 := xG_o1 (i := 2) (v := .ref cx3) g0 rfl
  have g2_z1 := xG_same lv 2 (.ref cx3)
  generalize xSt1 lv 2 (.ref cx3) = lvz1 at g0_z1 g2_z1 ⊢
  refine ye_aload rfl g0_z1 ?_
  refine ye_getr rfl (hM.obj fa0 ⟨rfl, rfl⟩) rfl (fun cx4 ecx4 => ?_)
  have fcx4 := hM.root 2 0 (by decide) rfl ecx4
  refine ye_getr rfl (hM.obj fcx4 ⟨rfl, rfl⟩) rfl (fun cx5 ecx5 => ?_)
  have fcx5 := yAt.row fcx4 ecx5
  refine ye_aload rfl g2_z1 ?_
  refine ye_getf rfl (hM.obj fcx3 ⟨rfl, rfl⟩) rfl ?_
  obtain ⟨j2, ej2, ij2, rj2, h⟩ := gR_some h
  refine ye_aaldR (t := 4) rfl (hM.arr fcx5 yr_2_4) ij2 ej2 rj2 (fun cx6 ecx6 => ?_)
  have fcx6 : yAt T 3 (64 + j2) 0 cx6 := ⟨hM.refd fcx5 yr_2_4 (by decide) rj2, oc_64 (by have := vp_lt ij2; omega), ecx6⟩
  refine ye_p rfl rfl ?_
  have g0_z2 := xG_o1 (i := 3) (v := .ref cx6) g0_z1 rfl
  have g2_z2 := xG_o1 (i := 3) (v := .ref cx6) g2_z1 rfl
  have g3_z2 := xG_same lvz1 3 (.ref cx6)
  generalize xSt1 lvz1 3 (.ref cx6) = lvz2 at g0_z2 g2_z2 g3_z2 ⊢
  refine ye_aload rfl g0_z2 ?_
  refine ye_getr rfl (hM.obj fa0 ⟨rfl, rfl⟩) rfl (fun cx7 ecx7 => ?_)
  have fcx7 := hM.root 10 0 (by decide) rfl ecx7
  refine ye_getr rfl (hM.obj fcx7 ⟨rfl, rfl⟩) rfl (fun cx8 ecx8 => ?_)
  have fcx8 := yAt.row fcx7 ecx8
  refine ye_aload rfl g2_z2 ?_
  refine ye_getf rfl (hM.obj fcx3 ⟨rfl, rfl⟩) rfl ?_
  obtain ⟨j3, ej3, ij3, rj3, h⟩ := gR_some h
  refine ye_aaldR (t := 8) rfl (hM.arr fcx8 yr_10_11) ij3 ej3 rj3 (fun cx9 ecx9 => ?_)
  have fcx9 : yAt T 1 (512 + j3) 0 cx9 := ⟨hM.refd fcx8 yr_10_11 (by decide) rj3, oc_512 (by have := vp_lt ij3; omega), ecx9⟩
  refine ye_getf rfl (hM.obj fcx9 ⟨rfl, rfl⟩) rfl ?_
  refine ye_aload rfl g3_z2 ?_
  refine ye_getf rfl (hM.obj fcx6 ⟨rfl, rfl⟩) rfl ?_
  refine ye_icmp_ne rfl (fun h1 => ?_) (fun h1 => ?_)
  · replace h := yiT h1 h
    refine ye_p rfl rfl ?_
    exact w_X11_weighCells_50 (prim := prim) (d := d) N S ((128 + j1)) ((64 + j2)) 0 hp lvz2 a0 cx3 cx6 fa0 fcx3 fcx6 g0_z2 g2_z2 g3_z2 hM h
  · replace h := yiN h1 h
    refine ye_p rfl rfl ?_
    refine ye_p rfl rfl ?_
    exact w_X11_weighCells_50 (prim := prim) (d := d) N S ((128 + j1)) ((64 + j2)) 1 hp lvz2 a0 cx3 cx6 fa0 fcx3 fcx6 g0_z2 g2_z2 g3_z2 hM h
def f_X11_weighCells (N : Nat) (S : yS) (xl1 : Int32) : Option (Int32 × yS) := f_X11_weighCells_0 N S xl1
theorem m_X11_weighCells {F : xH} {ev : xEv} {prim : xRel} {d : Nat} {T : yT} {v : Int32} {S' : yS} (N : Nat) (S : yS) (xl1 : Int32) (a0 : Nat) (fa0 : yAt T 11 0 0 a0) (h : f_X11_weighCells N S xl1 = some (v, S')) : ykQ [0, 1, 2, 3, 4, 5, 6, 7] F ev prim (d + 3) 165 T S [.ref a0, .int xl1] (some (.int v)) S' :=
  ykQ.of (pg_165 ev) mi_165 (Nat.le_of_ble_eq_true rfl) (fun hp sz hM => w_X11_weighCells_0 (prim := prim) (d := d) N S xl1 hp _ a0 fa0 rfl rfl hM h)

def f_X11_needs_0 (N : Nat) (S : yS) : Option (Int32 × yS) := bS (f_X7_listNeeding N S) fun w1 S1 => some (w1, S1)
set_option maxHeartbeats 4000000 in
set_option maxRecDepth 40000 in
theorem w_X11_needs_0 {F : xH} {ev : xEv} {prim : xRel} {d sz : Nat} {T : yT} {v : Int32} {S' : yS} (N : Nat) (S : yS) (hp : xH) (lv : xLv) (a0 : Nat) (fa0 : yAt T 11 0 0 a0) (g0 : xG lv 0 = some (.ref a0)) (hM : cR [0, 1, 2, 3, 4, 5, 6, 7] F ev T S hp) (h : f_X11_needs_0 N S = some (v, S')) : yWE ev.2.1 (xstr ev) (xCalls ev xmi (xprog ev) prim (d + 1)) (pX11_needs ev) (0, lv, [], hp, sz, 0) (ypQ [0, 1, 2, 3, 4, 5, 6, 7] F ev T sz (some (.int v)) S') := by
  unfold f_X11_needs_0 at h
  refine ye_aload rfl g0 ?_
  refine ye_getr rfl (hM.obj fa0 ⟨rfl, rfl⟩) rfl (fun cx1 ecx1 => ?_)
  have fcx1 := hM.root 7 0 (by decide) rfl ecx1
  refine ye_aload rfl g0 ?_
  refine ye_getr rfl (hM.obj fa0 ⟨rfl, rfl⟩) rfl (fun cx2 ecx2 => ?_)
  have fcx2 := hM.root 10 0 (by decide) rfl ecx2
  obtain ⟨w1, S1, hw1, h⟩ := bS_some h
  obtain ⟨y1, cy1, M1⟩ := (m_X7_listNeeding (d := d + 0) (T := T) N S cx1 cx2 fcx1 fcx2 hw1) hp sz hM
  refine ye_callV (As := [.ref cx2]) (rest := []) 0 (Or.inl rfl) rfl rfl rfl (Nat.le_of_ble_eq_true rfl) (hM.obj fcx1 ⟨rfl, rfl⟩) cy1 ?_
  exact ye_ret rfl rfl (rQ h M1)
def f_X11_needs (N : Nat) (S : yS) : Option (Int32 × yS) := f_X11_needs_0 N S
theorem m_X11_needs {F : xH} {ev : xEv} {prim : xRel} {d : Nat} {T : yT} {v : Int32} {S' : yS} (N : Nat) (S : yS) (a0 : Nat) (fa0 : yAt T 11 0 0 a0) (h : f_X11_needs N S = some (v, S')) : ykQ [0, 1, 2, 3, 4, 5, 6, 7] F ev prim (d + 2) 166 T S [.ref a0] (some (.int v)) S' :=
  ykQ.of (pg_166 ev) mi_166 (Nat.le_of_ble_eq_true rfl) (fun hp sz hM => w_X11_needs_0 (prim := prim) (d := d) N S hp _ a0 fa0 rfl hM h)

def f_X11_within_15 (N : Nat) (S : yS) (t0 : Int32) : Option Int32 := gP (t0 = 0 ∨ t0 = 1) (some t0)
set_option maxHeartbeats 4000000 in
set_option maxRecDepth 40000 in
theorem w_X11_within_15 {F : xH} {ev : xEv} {prim : xRel} {d sz : Nat} {T : yT} {v : Int32} {hp : xH} (N : Nat) (S : yS) (t0 : Int32) (lv : xLv) (hM : cR [0, 1, 2, 3, 4, 5, 6, 7] F ev T S hp) (h : f_X11_within_15 N S t0 = some v) : yWE ev.2.1 (xstr ev) (xCalls ev xmi (xprog ev) prim (d + 0)) (pX11_within ev) (15, lv, [.int t0], hp, sz, 0) (ypP hp sz (.int v)) := by
  unfold f_X11_within_15 at h
  obtain ⟨i1, h⟩ := gP_some h
  exact ye_ret rfl (if_pos (zb_nar i1)) (rP h)

def f_X11_within_14 (N : Nat) (S : yS) : Option Int32 := f_X11_within_15 N S 0
set_option maxHeartbeats 4000000 in
set_option maxRecDepth 40000 in
theorem w_X11_within_14 {F : xH} {ev : xEv} {prim : xRel} {d sz : Nat} {T : yT} {v : Int32} {hp : xH} (N : Nat) (S : yS) (lv : xLv) (hM : cR [0, 1, 2, 3, 4, 5, 6, 7] F ev T S hp) (h : f_X11_within_14 N S = some v) : yWE ev.2.1 (xstr ev) (xCalls ev xmi (xprog ev) prim (d + 0)) (pX11_within ev) (14, lv, [], hp, sz, 0) (ypP hp sz (.int v)) := by
  unfold f_X11_within_14 at h
  refine ye_p rfl rfl ?_
  exact w_X11_within_15 (prim := prim) (d := d) N S 0 lv hM h

def f_X11_within_0 (N : Nat) (S : yS) (l0 : Int32) (l1 : Int32) (l2 : Int32) : Option Int32 := if l0 < l1 then f_X11_within_14 N S else if l2 < l0 then f_X11_within_14 N S else f_X11_within_15 N S 1
set_option maxHeartbeats 4000000 in
set_option maxRecDepth 40000 in
theorem w_X11_within_0 {F : xH} {ev : xEv} {prim : xRel} {d sz : Nat} {T : yT} {v : Int32} {hp : xH} (N : Nat) (S : yS) (l0 : Int32) (l1 : Int32) (l2 : Int32) (lv : xLv) (g0 : xG lv 0 = some (.int l0)) (g1 : xG lv 1 = some (.int l1)) (g2 : xG lv 2 = some (.int l2)) (hM : cR [0, 1, 2, 3, 4, 5, 6, 7] F ev T S hp) (h : f_X11_within_0 N S l0 l1 l2 = some v) : yWE ev.2.1 (xstr ev) (xCalls ev xmi (xprog ev) prim (d + 0)) (pX11_within ev) (0, lv, [], hp, sz, 0) (ypP hp sz (.int v)) := by
  unfold f_X11_within_0 at h
  refine ye_iload rfl g0 ?_
  refine ye_iload rfl g1 ?_
  refine ye_icmp_lt rfl (fun h1 => ?_) (fun h1 => ?_)
  · replace h := yiT h1 h
    exact w_X11_within_14 (prim := prim) (d := d) N S lv hM h
  · replace h := yiN h1 h
    refine ye_iload rfl g0 ?_
    refine ye_iload rfl g2 ?_
    refine ye_icmp_gt rfl (fun h2 => ?_) (fun h2 => ?_)
    · replace h := yiT h2 h
      exact w_X11_within_14 (prim := prim) (d := d) N S lv hM h
    · replace h := yiN h2 h
      refine ye_p rfl rfl ?_
      refine ye_p rfl rfl ?_
      exact w_X11_within_15 (prim := prim) (d := d) N S 1 lv hM h
def f_X11_within (N : Nat) (S : yS) (xl0 : Int32) (xl1 : Int32) (xl2 : Int32) : Option Int32 := f_X11_within_0 N S xl0 xl1 xl2
theorem m_X11_within {F : xH} {ev : xEv} {prim : xRel} {d : Nat} {T : yT} {v : Int32} (N : Nat) (S : yS) (xl0 : Int32) (xl1 : Int32) (xl2 : Int32) (h : f_X11_within N S xl0 xl1 xl2 = some v) : ykP [0, 1, 2, 3, 4, 5, 6, 7] F ev prim (d + 1) 183 T S [.int xl0, .int xl1, .int xl2] (.int v) :=
  ykP.of (pg_183 ev) mi_183 (Nat.le_of_ble_eq_true rfl) (fun hp sz hM => w_X11_within_0 (prim := prim) (d := d) N S xl0 xl1 xl2 _ rfl rfl rfl hM h)

def f_X11_roundUp_15 (N : Nat) (S : yS) (t0 : Int32) : Option Int32 := some t0
set_option maxHeartbeats 4000000 in
set_option maxRecDepth 40000 in
theorem w_X11_roundUp_15 {F : xH} {ev : xEv} {prim : xRel} {d sz : Nat} {T : yT} {v : Int32} {hp : xH} (N : Nat) (S : yS) (t0 : Int32) (lv : xLv) (hM : cR [0, 1, 2, 3, 4, 5, 6, 7] F ev T S hp) (h : f_X11_roundUp_15 N S t0 = some v) : yWE ev.2.1 (xstr ev) (xCalls ev xmi (xprog ev) prim (d + 0)) (pX11_roundUp ev) (15, lv, [.int t0], hp, sz, 0) (ypP hp sz (.int v)) := by
  unfold f_X11_roundUp_15 at h
  exact ye_ret rfl rfl (rP h)

def f_X11_roundUp_0 (N : Nat) (S : yS) (l0 : Int32) (l1 : Int32) : Option Int32 := if 0 < l1 then gP (¬ l1 = 0) (f_X11_roundUp_15 N S (((l0 + l1) - 1) / l1)) else f_X11_roundUp_15 N S 0
set_option maxHeartbeats 4000000 in
set_option maxRecDepth 40000 in
theorem w_X11_roundUp_0 {F : xH} {ev : xEv} {prim : xRel} {d sz : Nat} {T : yT} {v : Int32} {hp : xH} (N : Nat) (S : yS) (l0 : Int32) (l1 : Int32) (lv : xLv) (g0 : xG lv 0 = some (.int l0)) (g1 : xG lv 1 = some (.int l1)) (hM : cR [0, 1, 2, 3, 4, 5, 6, 7] F ev T S hp) (h : f_X11_roundUp_0 N S l0 l1 = some v) : yWE ev.2.1 (xstr ev) (xCalls ev xmi (xprog ev) prim (d + 0)) (pX11_roundUp ev) (0, lv, [], hp, sz, 0) (ypP hp sz (.int v)) := by
  unfold f_X11_roundUp_0 at h
  refine ye_iload rfl g1 ?_
  refine ye_if_gt rfl (fun h1 => ?_) (fun h1 => ?_)
  · replace h := yiT h1 h
    refine ye_iload rfl g0 ?_
    refine ye_iload rfl g1 ?_
    refine ye_p rfl rfl ?_
    refine ye_p rfl rfl ?_
    refine ye_p rfl rfl ?_
    refine ye_iload rfl g1 ?_
    obtain ⟨i1, h⟩ := gP_some h
    refine ye_div rfl i1 ?_
    exact w_X11_roundUp_15 (prim := prim) (d := d) N S (((l0 + l1) - 1) / l1) lv hM h
  · replace h := yiN h1 h
    refine ye_p rfl rfl ?_
    refine ye_p rfl rfl ?_
    exact w_X11_roundUp_15 (prim := prim) (d := d) N S 0 lv hM h
def f_X11_roundUp (N : Nat) (S : yS) (xl0 : Int32) (xl1 : Int32) : Option Int32 := f_X11_roundUp_0 N S xl0 xl1
theorem m_X11_roundUp {F : xH} {ev : xEv} {prim : xRel} {d : Nat} {T : yT} {v : Int32} (N : Nat) (S : yS) (xl0 : Int32) (xl1 : Int32) (h : f_X11_roundUp N S xl0 xl1 = some v) : ykP [0, 1, 2, 3, 4, 5, 6, 7] F ev prim (d + 1) 184 T S [.int xl0, .int xl1] (.int v) :=
  ykP.of (pg_184 ev) mi_184 (Nat.le_of_ble_eq_true rfl) (fun hp sz hM => w_X11_roundUp_0 (prim := prim) (d := d) N S xl0 xl1 _ rfl rfl hM h)

def f_X11_commonDivisor_44 (N : Nat) (S : yS) (l4 : Int64) : Option Int64 := some l4
set_option maxHeartbeats 4000000 in
set_option maxRecDepth 40000 in
theorem w_X11_commonDivisor_44 {F : xH} {ev : xEv} {prim : xRel} {d sz : Nat} {T : yT} {v : Int64} {hp : xH} (N : Nat) (S : yS) (l4 : Int64) (lv : xLv) (g4 : xG lv 4 = some (.long l4)) (hM : cR [0, 1, 2, 3, 4, 5, 6, 7] F ev T S hp) (h : f_X11_commonDivisor_44 N S l4 = some v) : yWE ev.2.1 (xstr ev) (xCalls ev xmi (xprog ev) prim (d + 0)) (pX11_commonDivisor ev) (44, lv, [], hp, sz, 0) (ypP hp sz (.long v)) := by
  unfold f_X11_commonDivisor_44 at h
  refine ye_lload rfl g4 ?_
  exact ye_ret rfl rfl (rPJ h)

def f_X11_commonDivisor_9 : Nat → Nat → yS → Int64 → Int64 → Int32 → Option Int64
  | 0, _, _, _, _, _ => none
  | n + 1, N, S, l4, l6, l8 => if 100 ≤ l8 then f_X11_commonDivisor_44 N S l4 else if (lg_cmp l6 0) = 0 then f_X11_commonDivisor_44 N S l4 else gP (¬ l6 = 0) (f_X11_commonDivisor_9 n N S l6 (l4 - l4 / l6 * l6) (l8 + 1))
set_option maxHeartbeats 4000000 in
set_option maxRecDepth 40000 in
theorem w_X11_commonDivisor_9 {F : xH} {ev : xEv} {prim : xRel} {d sz : Nat} {T : yT} {v : Int64} {hp : xH} (N : Nat) (n : Nat) : ∀ (S : yS) (l4 : Int64) (l6 : Int64) (l8 : Int32) (lv : xLv) (g4 : xG lv 4 = some (.long l4)) (g6 : xG lv 6 = some (.long l6)) (g8 : xG lv 8 = some (.int l8)) (hM : cR [0, 1, 2, 3, 4, 5, 6, 7] F ev T S hp) (h : f_X11_commonDivisor_9 n N S l4 l6 l8 = some v), yWE ev.2.1 (xstr ev) (xCalls ev xmi (xprog ev) prim (d + 0)) (pX11_commonDivisor ev) (9, lv, [], hp, sz, 0) (ypP hp sz (.long v)) := by
  induction n with
  | zero => intro S l4 l6 l8 lv g4 g6 g8 hM h; exact n_some h
  | succ n ih =>
    intro S l4 l6 l8 lv g4 g6 g8 hM h
    unfold f_X11_commonDivisor_9 at h
    refine ye_iload rfl g8 ?_
    refine ye_p rfl rfl ?_
    refine ye_icmp_ge rfl (fun h1 => ?_) (fun h1 => ?_)
    · replace h := yiT h1 h
      exact w_X11_commonDivisor_44 (prim := prim) (d := d) N S l4 lv g4 hM h
    · replace h := yiN h1 h
      refine ye_lload rfl g6 ?_
      refine ye_p rfl rfl ?_
      refine ye_p rfl rfl ?_
      refine ye_if_eq rfl (fun h2 => ?_) (fun h2 => ?_)
      · replace h := yiT h2 h
        exact w_X11_commonDivisor_44 (prim := prim) (d := d) N S l4 lv g4 hM h
      · replace h := yiN h2 h
        refine ye_lload rfl g4 ?_
        refine ye_lload rfl g6 ?_
        obtain ⟨i1, h⟩ := gP_some h
        refine ye_ldiv rfl i1 ?_
        refine ye_p rfl rfl ?_
        have g6_z1 := xG_o2 (i := 9) (v := .long (l4 - l4 / l6 * l6)) g6 rfl
        have g8_z1 := xG_o2 (i := 9) (v := .long (l4 - l4 / l6 * l6)) g8 rfl
        have g9_z1 := xG_same2 lv 9 (.long (l4 - l4 / l6 * l6))
        generalize xSt2 lv 9 (.long (l4 - l4 / l6 * l6)) = lvz1 at g6_z1 g8_z1 g9_z1 ⊢
        refine ye_lload rfl g6_z1 ?_
        refine ye_p rfl rfl ?_
        have g8_z2 := xG_o2 (i := 4) (v := .long l6) g8_z1 rfl
        have g9_z2 := xG_o2 (i := 4) (v := .long l6) g9_z1 rfl
        have g4_z2 := xG_same2 lvz1 4 (.long l6)
        generalize xSt2 lvz1 4 (.long l6) = lvz2 at g8_z2 g9_z2 g4_z2 ⊢
        refine ye_lload rfl g9_z2 ?_
        refine ye_p rfl rfl ?_
        have g4_z3 := xG_o2 (i := 6) (v := .long (l4 - l4 / l6 * l6)) g4_z2 rfl
        have g8_z3 := xG_o2 (i := 6) (v := .long (l4 - l4 / l6 * l6)) g8_z2 rfl
        have g6_z3 := xG_same2 lvz2 6 (.long (l4 - l4 / l6 * l6))
        generalize xSt2 lvz2 6 (.long (l4 - l4 / l6 * l6)) = lvz3 at g4_z3 g8_z3 g6_z3 ⊢
        refine ye_iinc rfl g8_z3 ?_
        have g4_z4 := xG_o1 (i := 8) (v := .int (l8 + 1)) g4_z3 rfl
        have g6_z4 := xG_o1 (i := 8) (v := .int (l8 + 1)) g6_z3 rfl
        have g8_z4 := xG_same lvz3 8 (.int (l8 + 1))
        generalize xSt1 lvz3 8 (.int (l8 + 1)) = lvz4 at g4_z4 g6_z4 g8_z4 ⊢
        refine ye_p rfl rfl ?_
        exact ih S l6 (l4 - l4 / l6 * l6) (l8 + 1) lvz4 g4_z4 g6_z4 g8_z4 hM h

def f_X11_commonDivisor_0 (N : Nat) (S : yS) (l0 : Int64) (l2 : Int64) : Option Int64 := f_X11_commonDivisor_9 N N S l0 l2 0
set_option maxHeartbeats 4000000 in
set_option maxRecDepth 40000 in
theorem w_X11_commonDivisor_0 {F : xH} {ev : xEv} {prim : xRel} {d sz : Nat} {T : yT} {v : Int64} {hp : xH} (N : Nat) (S : yS) (l0 : Int64) (l2 : Int64) (lv : xLv) (g0 : xG lv 0 = some (.long l0)) (g2 : xG lv 2 = some (.long l2)) (hM : cR [0, 1, 2, 3, 4, 5, 6, 7] F ev T S hp) (h : f_X11_commonDivisor_0 N S l0 l2 = some v) : yWE ev.2.1 (xstr ev) (xCalls ev xmi (xprog ev) prim (d + 0)) (pX11_commonDivisor ev) (0, lv, [], hp, sz, 0) (ypP hp sz (.long v)) := by
  unfold f_X11_commonDivisor_0 at h
  refine ye_lload rfl g0 ?_
  refine ye_p rfl rfl ?_
  have g2_z1 := xG_o2 (i := 4) (v := .long l0) g2 rfl
  have g4_z1 := xG_same2 lv 4 (.long l0)
  generalize xSt2 lv 4 (.long l0) = lvz1 at g2_z1 g4_z1 ⊢
  refine ye_lload rfl g2_z1 ?_
  refine ye_p rfl rfl ?_
  have g4_z2 := xG_o2 (i := 6) (v := .long l2) g4_z1 rfl
  have g6_z2 := xG_same2 lvz1 6 (.long l2)
  generalize xSt2 lvz1 6 (.long l2) = lvz2 at g4_z2 g6_z2 ⊢
  refine ye_p rfl rfl ?_
  refine ye_p rfl rfl ?_
  have g4_z3 := xG_o1 (i := 8) (v := .int 0) g4_z2 rfl
  have g6_z3 := xG_o1 (i := 8) (v := .int 0) g6_z2 rfl
  have g8_z3 := xG_same lvz2 8 (.int 0)
  generalize xSt1 lvz2 8 (.int 0) = lvz3 at g4_z3 g6_z3 g8_z3 ⊢
  exact w_X11_commonDivisor_9 (prim := prim) (d := d) N N S l0 l2 0 lvz3 g4_z3 g6_z3 g8_z3 hM h
def f_X11_commonDivisor (N : Nat) (S : yS) (xl0 : Int64) (xl2 : Int64) : Option Int64 := f_X11_commonDivisor_0 N S xl0 xl2
theorem m_X11_commonDivisor {F : xH} {ev : xEv} {prim : xRel} {d : Nat} {T : yT} {v : Int64} (N : Nat) (S : yS) (xl0 : Int64) (xl2 : Int64) (h : f_X11_commonDivisor N S xl0 xl2 = some v) : ykP [0, 1, 2, 3, 4, 5, 6, 7] F ev prim (d + 1) 185 T S [.long xl0, .long xl2] (.long v) :=
  ykP.of (pg_185 ev) mi_185 (Nat.le_of_ble_eq_true rfl) (fun hp sz hM => w_X11_commonDivisor_0 (prim := prim) (d := d) N S xl0 xl2 _ rfl rfl hM h)

def f_X12_thrown_0 (N : Nat) (S : yS) : Option Int32 := some (S.1 8 47)
set_option maxHeartbeats 4000000 in
set_option maxRecDepth 40000 in
theorem w_X12_thrown_0 {F : xH} {ev : xEv} {prim : xRel} {d sz : Nat} {T : yT} {v : Int32} {hp : xH} (N : Nat) (S : yS) (lv : xLv) (a0 : Nat) (fa0 : yAt T 12 8 0 a0) (g0 : xG lv 0 = some (.ref a0)) (hM : cR [8] F ev T S hp) (h : f_X12_thrown_0 N S = some v) : yWE ev.2.1 (xstr ev) (xCalls ev xmi (xprog ev) prim (d + 0)) (pX12_thrown ev) (0, lv, [], hp, sz, 0) (ypP hp sz (.int v)) := by
  unfold f_X12_thrown_0 at h
  refine ye_aload rfl g0 ?_
  refine ye_getf rfl (hM.obj fa0 ⟨rfl, rfl⟩) rfl ?_
  exact ye_ret rfl rfl (rP h)
def f_X12_thrown (N : Nat) (S : yS) : Option Int32 := f_X12_thrown_0 N S
theorem m_X12_thrown {F : xH} {ev : xEv} {prim : xRel} {d : Nat} {T : yT} {v : Int32} (N : Nat) (S : yS) (a0 : Nat) (fa0 : yAt T 12 8 0 a0) (h : f_X12_thrown N S = some v) : ykP [8] F ev prim (d + 1) 187 T S [.ref a0] (.int v) :=
  ykP.of (pg_187 ev) mi_187 (Nat.le_of_ble_eq_true rfl) (fun hp sz hM => w_X12_thrown_0 (prim := prim) (d := d) N S _ a0 fa0 rfl hM h)

def f_X12_in_15 (N : Nat) (S : yS) (t0 : Int32) : Option Int32 := gP (t0 = 0 ∨ t0 = 1) (some t0)
set_option maxHeartbeats 4000000 in
set_option maxRecDepth 40000 in
theorem w_X12_in_15 {F : xH} {ev : xEv} {prim : xRel} {d sz : Nat} {T : yT} {v : Int32} {hp : xH} (N : Nat) (S : yS) (t0 : Int32) (lv : xLv) (hM : cR [8] F ev T S hp) (h : f_X12_in_15 N S t0 = some v) : yWE ev.2.1 (xstr ev) (xCalls ev xmi (xprog ev) prim (d + 0)) (pX12_in ev) (15, lv, [.int t0], hp, sz, 0) (ypP hp sz (.int v)) := by
  unfold f_X12_in_15 at h
  obtain ⟨i1, h⟩ := gP_some h
  exact ye_ret rfl (if_pos (zb_nar i1)) (rP h)

def f_X12_in_14 (N : Nat) (S : yS) : Option Int32 := f_X12_in_15 N S 0
set_option maxHeartbeats 4000000 in
set_option maxRecDepth 40000 in
theorem w_X12_in_14 {F : xH} {ev : xEv} {prim : xRel} {d sz : Nat} {T : yT} {v : Int32} {hp : xH} (N : Nat) (S : yS) (lv : xLv) (hM : cR [8] F ev T S hp) (h : f_X12_in_14 N S = some v) : yWE ev.2.1 (xstr ev) (xCalls ev xmi (xprog ev) prim (d + 0)) (pX12_in ev) (14, lv, [], hp, sz, 0) (ypP hp sz (.int v)) := by
  unfold f_X12_in_14 at h
  refine ye_p rfl rfl ?_
  exact w_X12_in_15 (prim := prim) (d := d) N S 0 lv hM h

def f_X12_in_0 (N : Nat) (S : yS) (l0 : Int32) (l1 : Int32) (l2 : Int32) : Option Int32 := if l0 < l1 then f_X12_in_14 N S else if l2 < l0 then f_X12_in_14 N S else f_X12_in_15 N S 1
set_option maxHeartbeats 4000000 in
set_option maxRecDepth 40000 in
theorem w_X12_in_0 {F : xH} {ev : xEv} {prim : xRel} {d sz : Nat} {T : yT} {v : Int32} {hp : xH} (N : Nat) (S : yS) (l0 : Int32) (l1 : Int32) (l2 : Int32) (lv : xLv) (g0 : xG lv 0 = some (.int l0)) (g1 : xG lv 1 = some (.int l1)) (g2 : xG lv 2 = some (.int l2)) (hM : cR [8] F ev T S hp) (h : f_X12_in_0 N S l0 l1 l2 = some v) : yWE ev.2.1 (xstr ev) (xCalls ev xmi (xprog ev) prim (d + 0)) (pX12_in ev) (0, lv, [], hp, sz, 0) (ypP hp sz (.int v)) := by
  unfold f_X12_in_0 at h
  refine ye_iload rfl g0 ?_
  refine ye_iload rfl g1 ?_
  refine ye_icmp_lt rfl (fun h1 => ?_) (fun h1 => ?_)
  · replace h := yiT h1 h
    exact w_X12_in_14 (prim := prim) (d := d) N S lv hM h
  · replace h := yiN h1 h
    refine ye_iload rfl g0 ?_
    refine ye_iload rfl g2 ?_
    refine ye_icmp_gt rfl (fun h2 => ?_) (fun h2 => ?_)
    · replace h := yiT h2 h
      exact w_X12_in_14 (prim := prim) (d := d) N S lv hM h
    · replace h := yiN h2 h
      refine ye_p rfl rfl ?_
      refine ye_p rfl rfl ?_
      exact w_X12_in_15 (prim := prim) (d := d) N S 1 lv hM h
def f_X12_in (N : Nat) (S : yS) (xl0 : Int32) (xl1 : Int32) (xl2 : Int32) : Option Int32 := f_X12_in_0 N S xl0 xl1 xl2
theorem m_X12_in {F : xH} {ev : xEv} {prim : xRel} {d : Nat} {T : yT} {v : Int32} (N : Nat) (S : yS) (xl0 : Int32) (xl1 : Int32) (xl2 : Int32) (h : f_X12_in N S xl0 xl1 xl2 = some v) : ykP [8] F ev prim (d + 1) 188 T S [.int xl0, .int xl1, .int xl2] (.int v) :=
  ykP.of (pg_188 ev) mi_188 (Nat.le_of_ble_eq_true rfl) (fun hp sz hM => w_X12_in_0 (prim := prim) (d := d) N S xl0 xl1 xl2 _ rfl rfl rfl hM h)

def f_X12_lost_0 (N : Nat) (S : yS) : Option (Int32 × yS) := sq (yI S 8 47 1) fun S1 => some (0, S1)
set_option maxHeartbeats 4000000 in
set_option maxRecDepth 40000 in
theorem w_X12_lost_0 {F : xH} {ev : xEv} {prim : xRel} {d sz : Nat} {T : yT} {v : Int32} {S' : yS} (N : Nat) (S : yS) (hp : xH) (lv : xLv) (a0 : Nat) (fa0 : yAt T 12 8 0 a0) (g0 : xG lv 0 = some (.ref a0)) (hM : cR [8] F ev T S hp) (h : f_X12_lost_0 N S = some (v, S')) : yWE ev.2.1 (xstr ev) (xCalls ev xmi (xprog ev) prim (d + 0)) (pX12_lost ev) (0, lv, [], hp, sz, 0) (ypQ [8] F ev T sz (some (.int v)) S') := by
  unfold f_X12_lost_0 at h
  refine ye_aload rfl g0 ?_
  refine ye_p rfl rfl ?_
  obtain ⟨S1, eS1, h⟩ := sq_some h
  refine yw_putI rfl hM fa0 rfl ⟨rfl, rfl⟩ (Nat.le_of_ble_eq_true rfl) rfl rfl (ys_12_47 ev T _ 1) (fun q => absurd q (by decide)) eS1 (fun y1 M1 => ?_)
  refine ye_p rfl rfl ?_
  exact ye_ret rfl rfl (rQ h M1)
def f_X12_lost (N : Nat) (S : yS) : Option (Int32 × yS) := f_X12_lost_0 N S
theorem m_X12_lost {F : xH} {ev : xEv} {prim : xRel} {d : Nat} {T : yT} {v : Int32} {S' : yS} (N : Nat) (S : yS) (a0 : Nat) (fa0 : yAt T 12 8 0 a0) (h : f_X12_lost N S = some (v, S')) : ykQ [8] F ev prim (d + 1) 189 T S [.ref a0] (some (.int v)) S' :=
  ykQ.of (pg_189 ev) mi_189 (Nat.le_of_ble_eq_true rfl) (fun hp sz hM => w_X12_lost_0 (prim := prim) (d := d) N S hp _ a0 fa0 rfl hM h)

def f_X12_isField_0 (N : Nat) (S : yS) (l1 : Int32) : Option Int32 := bV (f_X12_in N S l1 0 ((S.1 8 1) - 1)) fun w1 => gP (w1 = 0 ∨ w1 = 1) (some w1)
set_option maxHeartbeats 4000000 in
set_option maxRecDepth 40000 in
theorem w_X12_isField_0 {F : xH} {ev : xEv} {prim : xRel} {d sz : Nat} {T : yT} {v : Int32} {hp : xH} (N : Nat) (S : yS) (l1 : Int32) (lv : xLv) (a0 : Nat) (fa0 : yAt T 12 8 0 a0) (g0 : xG lv 0 = some (.ref a0)) (g1 : xG lv 1 = some (.int l1)) (hM : cR [8] F ev T S hp) (h : f_X12_isField_0 N S l1 = some v) : yWE ev.2.1 (xstr ev) (xCalls ev xmi (xprog ev) prim (d + 1)) (pX12_isField ev) (0, lv, [], hp, sz, 0) (ypP hp sz (.int v)) := by
  unfold f_X12_isField_0 at h
  refine ye_iload rfl g1 ?_
  refine ye_p rfl rfl ?_
  refine ye_aload rfl g0 ?_
  refine ye_getf rfl (hM.obj fa0 ⟨rfl, rfl⟩) rfl ?_
  refine ye_p rfl rfl ?_
  refine ye_p rfl rfl ?_
  obtain ⟨w1, hw1, h⟩ := bV_some h
  refine ye_callS (As := [.int l1, .int 0, .int ((S.1 8 1) - 1)]) (rest := []) 1 (Or.inl rfl) rfl rfl rfl (Nat.le_of_ble_eq_true rfl) ((m_X12_in (d := d + 0) (T := T) N S l1 0 ((S.1 8 1) - 1) hw1) hp sz hM) ?_
  obtain ⟨i1, h⟩ := gP_some h
  exact ye_ret rfl (if_pos (zb_nar i1)) (rP h)
def f_X12_isField (N : Nat) (S : yS) (xl1 : Int32) : Option Int32 := f_X12_isField_0 N S xl1
theorem m_X12_isField {F : xH} {ev : xEv} {prim : xRel} {d : Nat} {T : yT} {v : Int32} (N : Nat) (S : yS) (xl1 : Int32) (a0 : Nat) (fa0 : yAt T 12 8 0 a0) (h : f_X12_isField N S xl1 = some v) : ykP [8] F ev prim (d + 2) 190 T S [.ref a0, .int xl1] (.int v) :=
  ykP.of (pg_190 ev) mi_190 (Nat.le_of_ble_eq_true rfl) (fun hp sz hM => w_X12_isField_0 (prim := prim) (d := d) N S xl1 _ a0 fa0 rfl rfl hM h)

def f_X12_isLeg_0 (N : Nat) (S : yS) (l1 : Int32) : Option Int32 := bV (f_X12_in N S l1 0 ((S.1 8 9) - 1)) fun w1 => gP (w1 = 0 ∨ w1 = 1) (some w1)
set_option maxHeartbeats 4000000 in
set_option maxRecDepth 40000 in
theorem w_X12_isLeg_0 {F : xH} {ev : xEv} {prim : xRel} {d sz : Nat} {T : yT} {v : Int32} {hp : xH} (N : Nat) (S : yS) (l1 : Int32) (lv : xLv) (a0 : Nat) (fa0 : yAt T 12 8 0 a0) (g0 : xG lv 0 = some (.ref a0)) (g1 : xG lv 1 = some (.int l1)) (hM : cR [8] F ev T S hp) (h : f_X12_isLeg_0 N S l1 = some v) : yWE ev.2.1 (xstr ev) (xCalls ev xmi (xprog ev) prim (d + 1)) (pX12_isLeg ev) (0, lv, [], hp, sz, 0) (ypP hp sz (.int v)) := by
  unfold f_X12_isLeg_0 at h
  refine ye_iload rfl g1 ?_
  refine ye_p rfl rfl ?_
  refine ye_aload rfl g0 ?_
  refine ye_getf rfl (hM.obj fa0 ⟨rfl, rfl⟩) rfl ?_
  refine ye_p rfl rfl ?_
  refine ye_p rfl rfl ?_
  obtain ⟨w1, hw1, h⟩ := bV_some h
  refine ye_callS (As := [.int l1, .int 0, .int ((S.1 8 9) - 1)]) (rest := []) 1 (Or.inl rfl) rfl rfl rfl (Nat.le_of_ble_eq_true rfl) ((m_X12_in (d := d + 0) (T := T) N S l1 0 ((S.1 8 9) - 1) hw1) hp sz hM) ?_
  obtain ⟨i1, h⟩ := gP_some h
  exact ye_ret rfl (if_pos (zb_nar i1)) (rP h)
def f_X12_isLeg (N : Nat) (S : yS) (xl1 : Int32) : Option Int32 := f_X12_isLeg_0 N S xl1
theorem m_X12_isLeg {F : xH} {ev : xEv} {prim : xRel} {d : Nat} {T : yT} {v : Int32} (N : Nat) (S : yS) (xl1 : Int32) (a0 : Nat) (fa0 : yAt T 12 8 0 a0) (h : f_X12_isLeg N S xl1 = some v) : ykP [8] F ev prim (d + 2) 191 T S [.ref a0, .int xl1] (.int v) :=
  ykP.of (pg_191 ev) mi_191 (Nat.le_of_ble_eq_true rfl) (fun hp sz hM => w_X12_isLeg_0 (prim := prim) (d := d) N S xl1 _ a0 fa0 rfl rfl hM h)

def f_X12_isPlane_0 (N : Nat) (S : yS) (l1 : Int32) : Option Int32 := bV (f_X12_in N S l1 0 ((S.1 8 21) - 1)) fun w1 => gP (w1 = 0 ∨ w1 = 1) (some w1)
set_option maxHeartbeats 4000000 in
set_option maxRecDepth 40000 in
theorem w_X12_isPlane_0 {F : xH} {ev : xEv} {prim : xRel} {d sz : Nat} {T : yT} {v : Int32} {hp : xH} (N : Nat) (S : yS) (l1 : Int32) (lv : xLv) (a0 : Nat) (fa0 : yAt T 12 8 0 a0) (g0 : xG lv 0 = some (.ref a0)) (g1 : xG lv 1 = some (.int l1)) (hM : cR [8] F ev T S hp) (h : f_X12_isPlane_0 N S l1 = some v) : yWE ev.2.1 (xstr ev) (xCalls ev xmi (xprog ev) prim (d + 1)) (pX12_isPlane ev) (0, lv, [], hp, sz, 0) (ypP hp sz (.int v)) := by
  unfold f_X12_isPlane_0 at h
  refine ye_iload rfl g1 ?_
  refine ye_p rfl rfl ?_
  refine ye_aload rfl g0 ?_
  refine ye_getf rfl (hM.obj fa0 ⟨rfl, rfl⟩) rfl ?_
  refine ye_p rfl rfl ?_
  refine ye_p rfl rfl ?_
  obtain ⟨w1, hw1, h⟩ := bV_some h
  refine ye_callS (As := [.int l1, .int 0, .int ((S.1 8 21) - 1)]) (rest := []) 1 (Or.inl rfl) rfl rfl rfl (Nat.le_of_ble_eq_true rfl) ((m_X12_in (d := d + 0) (T := T) N S l1 0 ((S.1 8 21) - 1) hw1) hp sz hM) ?_
  obtain ⟨i1, h⟩ := gP_some h
  exact ye_ret rfl (if_pos (zb_nar i1)) (rP h)
def f_X12_isPlane (N : Nat) (S : yS) (xl1 : Int32) : Option Int32 := f_X12_isPlane_0 N S xl1
theorem m_X12_isPlane {F : xH} {ev : xEv} {prim : xRel} {d : Nat} {T : yT} {v : Int32} (N : Nat) (S : yS) (xl1 : Int32) (a0 : Nat) (fa0 : yAt T 12 8 0 a0) (h : f_X12_isPlane N S xl1 = some v) : ykP [8] F ev prim (d + 2) 192 T S [.ref a0, .int xl1] (.int v) :=
  ykP.of (pg_192 ev) mi_192 (Nat.le_of_ble_eq_true rfl) (fun hp sz hM => w_X12_isPlane_0 (prim := prim) (d := d) N S xl1 _ a0 fa0 rfl rfl hM h)

def f_X12_isPilot_0 (N : Nat) (S : yS) (l1 : Int32) : Option Int32 := bV (f_X12_in N S l1 0 ((S.1 8 22) - 1)) fun w1 => gP (w1 = 0 ∨ w1 = 1) (some w1)
set_option maxHeartbeats 4000000 in
set_option maxRecDepth 40000 in
theorem w_X12_isPilot_0 {F : xH} {ev : xEv} {prim : xRel} {d sz : Nat} {T : yT} {v : Int32} {hp : xH} (N : Nat) (S : yS) (l1 : Int32) (lv : xLv) (a0 : Nat) (fa0 : yAt T 12 8 0 a0) (g0 : xG lv 0 = some (.ref a0)) (g1 : xG lv 1 = some (.int l1)) (hM : cR [8] F ev T S hp) (h : f_X12_isPilot_0 N S l1 = some v) : yWE ev.2.1 (xstr ev) (xCalls ev xmi (xprog ev) prim (d + 1)) (pX12_isPilot ev) (0, lv, [], hp, sz, 0) (ypP hp sz (.int v)) := by
  unfold f_X12_isPilot_0 at h
  refine ye_iload rfl g1 ?_
  refine ye_p rfl rfl ?_
  refine ye_aload rfl g0 ?_
  refine ye_getf rfl (hM.obj fa0 ⟨rfl, rfl⟩) rfl ?_
  refine ye_p rfl rfl ?_
  refine ye_p rfl rfl ?_
  obtain ⟨w1, hw1, h⟩ := bV_some h
  refine ye_callS (As := [.int l1, .int 0, .int ((S.1 8 22) - 1)]) (rest := []) 1 (Or.inl rfl) rfl rfl rfl (Nat.le_of_ble_eq_true rfl) ((m_X12_in (d := d + 0) (T := T) N S l1 0 ((S.1 8 22) - 1) hw1) hp sz hM) ?_
  obtain ⟨i1, h⟩ := gP_some h
  exact ye_ret rfl (if_pos (zb_nar i1)) (rP h)
def f_X12_isPilot (N : Nat) (S : yS) (xl1 : Int32) : Option Int32 := f_X12_isPilot_0 N S xl1
theorem m_X12_isPilot {F : xH} {ev : xEv} {prim : xRel} {d : Nat} {T : yT} {v : Int32} (N : Nat) (S : yS) (xl1 : Int32) (a0 : Nat) (fa0 : yAt T 12 8 0 a0) (h : f_X12_isPilot N S xl1 = some v) : ykP [8] F ev prim (d + 2) 193 T S [.ref a0, .int xl1] (.int v) :=
  ykP.of (pg_193 ev) mi_193 (Nat.le_of_ble_eq_true rfl) (fun hp sz hM => w_X12_isPilot_0 (prim := prim) (d := d) N S xl1 _ a0 fa0 rfl rfl hM h)

def f_X12_isBag_0 (N : Nat) (S : yS) (l1 : Int32) : Option Int32 := bV (f_X12_in N S l1 0 ((S.1 8 28) - 1)) fun w1 => gP (w1 = 0 ∨ w1 = 1) (some w1)
set_option maxHeartbeats 4000000 in
set_option maxRecDepth 40000 in
theorem w_X12_isBag_0 {F : xH} {ev : xEv} {prim : xRel} {d sz : Nat} {T : yT} {v : Int32} {hp : xH} (N : Nat) (S : yS) (l1 : Int32) (lv : xLv) (a0 : Nat) (fa0 : yAt T 12 8 0 a0) (g0 : xG lv 0 = some (.ref a0)) (g1 : xG lv 1 = some (.int l1)) (hM : cR [8] F ev T S hp) (h : f_X12_isBag_0 N S l1 = some v) : yWE ev.2.1 (xstr ev) (xCalls ev xmi (xprog ev) prim (d + 1)) (pX12_isBag ev) (0, lv, [], hp, sz, 0) (ypP hp sz (.int v)) := by
  unfold f_X12_isBag_0 at h
  refine ye_iload rfl g1 ?_
  refine ye_p rfl rfl ?_
  refine ye_aload rfl g0 ?_
  refine ye_getf rfl (hM.obj fa0 ⟨rfl, rfl⟩) rfl ?_
  refine ye_p rfl rfl ?_
  refine ye_p rfl rfl ?_
  obtain ⟨w1, hw1, h⟩ := bV_some h
  refine ye_callS (As := [.int l1, .int 0, .int ((S.1 8 28) - 1)]) (rest := []) 1 (Or.inl rfl) rfl rfl rfl (Nat.le_of_ble_eq_true rfl) ((m_X12_in (d := d + 0) (T := T) N S l1 0 ((S.1 8 28) - 1) hw1) hp sz hM) ?_
  obtain ⟨i1, h⟩ := gP_some h
  exact ye_ret rfl (if_pos (zb_nar i1)) (rP h)
def f_X12_isBag (N : Nat) (S : yS) (xl1 : Int32) : Option Int32 := f_X12_isBag_0 N S xl1
theorem m_X12_isBag {F : xH} {ev : xEv} {prim : xRel} {d : Nat} {T : yT} {v : Int32} (N : Nat) (S : yS) (xl1 : Int32) (a0 : Nat) (fa0 : yAt T 12 8 0 a0) (h : f_X12_isBag N S xl1 = some v) : ykP [8] F ev prim (d + 2) 194 T S [.ref a0, .int xl1] (.int v) :=
  ykP.of (pg_194 ev) mi_194 (Nat.le_of_ble_eq_true rfl) (fun hp sz hM => w_X12_isBag_0 (prim := prim) (d := d) N S xl1 _ a0 fa0 rfl rfl hM h)

def f_X12_plane_0 (N : Nat) (S : yS) (l1 : Int32) (l2 : Int32) : Option Int32 := gA 2305 ((19 + (23 * l1)) + l2) fun j1 => some (S.2.1 8 48 j1)
set_option maxHeartbeats 4000000 in
set_option maxRecDepth 40000 in
theorem w_X12_plane_0 {F : xH} {ev : xEv} {prim : xRel} {d sz : Nat} {T : yT} {v : Int32} {hp : xH} (N : Nat) (S : yS) (l1 : Int32) (l2 : Int32) (lv : xLv) (a0 : Nat) (fa0 : yAt T 12 8 0 a0) (g0 : xG lv 0 = some (.ref a0)) (g1 : xG lv 1 = some (.int l1)) (g2 : xG lv 2 = some (.int l2)) (hM : cR [8] F ev T S hp) (h : f_X12_plane_0 N S l1 l2 = some v) : yWE ev.2.1 (xstr ev) (xCalls ev xmi (xprog ev) prim (d + 0)) (pX12_plane ev) (0, lv, [], hp, sz, 0) (ypP hp sz (.int v)) := by
  unfold f_X12_plane_0 at h
  refine ye_aload rfl g0 ?_
  refine ye_getr rfl (hM.obj fa0 ⟨rfl, rfl⟩) rfl (fun cx1 ecx1 => ?_)
  have fcx1 := yAt.row fa0 ecx1
  refine ye_p rfl rfl ?_
  refine ye_p rfl rfl ?_
  refine ye_iload rfl g1 ?_
  refine ye_p rfl rfl ?_
  refine ye_p rfl rfl ?_
  refine ye_iload rfl g2 ?_
  refine ye_p rfl rfl ?_
  obtain ⟨j1, ej1, ij1, h⟩ := gA_some h
  refine yj_ald rfl (hM.arr fcx1 yr_12_48) ij1 ej1 ?_
  exact ye_ret rfl rfl (rP h)
def f_X12_plane (N : Nat) (S : yS) (xl1 : Int32) (xl2 : Int32) : Option Int32 := f_X12_plane_0 N S xl1 xl2
theorem m_X12_plane {F : xH} {ev : xEv} {prim : xRel} {d : Nat} {T : yT} {v : Int32} (N : Nat) (S : yS) (xl1 : Int32) (xl2 : Int32) (a0 : Nat) (fa0 : yAt T 12 8 0 a0) (h : f_X12_plane N S xl1 xl2 = some v) : ykP [8] F ev prim (d + 1) 195 T S [.ref a0, .int xl1, .int xl2] (.int v) :=
  ykP.of (pg_195 ev) mi_195 (Nat.le_of_ble_eq_true rfl) (fun hp sz hM => w_X12_plane_0 (prim := prim) (d := d) N S xl1 xl2 _ a0 fa0 rfl rfl rfl hM h)

def f_X12_plane2_0 (N : Nat) (S : yS) (l1 : Int32) (l2 : Int32) (l3 : Int32) : Option (Int32 × yS) := gA 2305 ((19 + (23 * l1)) + l2) fun j1 => sq (yA S 8 48 (upd (S.2.1 8 48) j1 l3)) fun S1 => some (0, S1)
set_option maxHeartbeats 4000000 in
set_option maxRecDepth 40000 in
theorem w_X12_plane2_0 {F : xH} {ev : xEv} {prim : xRel} {d sz : Nat} {T : yT} {v : Int32} {S' : yS} (N : Nat) (S : yS) (l1 : Int32) (l2 : Int32) (l3 : Int32) (hp : xH) (lv : xLv) (a0 : Nat) (fa0 : yAt T 12 8 0 a0) (g0 : xG lv 0 = some (.ref a0)) (g1 : xG lv 1 = some (.int l1)) (g2 : xG lv 2 = some (.int l2)) (g3 : xG lv 3 = some (.int l3)) (hM : cR [8] F ev T S hp) (h : f_X12_plane2_0 N S l1 l2 l3 = some (v, S')) : yWE ev.2.1 (xstr ev) (xCalls ev xmi (xprog ev) prim (d + 0)) (pX12_plane_ ev) (0, lv, [], hp, sz, 0) (ypQ [8] F ev T sz (none) S') := by
  unfold f_X12_plane2_0 at h
  refine ye_aload rfl g0 ?_
  refine ye_getr rfl (hM.obj fa0 ⟨rfl, rfl⟩) rfl (fun cx1 ecx1 => ?_)
  have fcx1 := yAt.row fa0 ecx1
  refine ye_p rfl rfl ?_
  refine ye_p rfl rfl ?_
  refine ye_iload rfl g1 ?_
  refine ye_p rfl rfl ?_
  refine ye_p rfl rfl ?_
  refine ye_iload rfl g2 ?_
  refine ye_p rfl rfl ?_
  refine ye_iload rfl g3 ?_
  obtain ⟨j1, ej1, ij1, h⟩ := gA_some h
  obtain ⟨S1, eS1, h⟩ := sq_some h
  refine yw_ast rfl hM fcx1 yr_12_48 (by decide) ij1 ej1 eS1 (fun y1 M1 => ?_)
  exact ye_ret rfl rfl (rQV h M1)
def f_X12_plane2 (N : Nat) (S : yS) (xl1 : Int32) (xl2 : Int32) (xl3 : Int32) : Option (Int32 × yS) := f_X12_plane2_0 N S xl1 xl2 xl3
theorem m_X12_plane2 {F : xH} {ev : xEv} {prim : xRel} {d : Nat} {T : yT} {v : Int32} {S' : yS} (N : Nat) (S : yS) (xl1 : Int32) (xl2 : Int32) (xl3 : Int32) (a0 : Nat) (fa0 : yAt T 12 8 0 a0) (h : f_X12_plane2 N S xl1 xl2 xl3 = some (v, S')) : ykQ [8] F ev prim (d + 1) 196 T S [.ref a0, .int xl1, .int xl2, .int xl3] (none) S' :=
  ykQ.of (pg_196 ev) mi_196 (Nat.le_of_ble_eq_true rfl) (fun hp sz hM => w_X12_plane2_0 (prim := prim) (d := d) N S xl1 xl2 xl3 hp _ a0 fa0 rfl rfl rfl rfl hM h)

def f_X12_pilotOf_0 (N : Nat) (S : yS) (l1 : Int32) (l2 : Int32) : Option Int32 := gA 2305 ((203 + (4 * l1)) + l2) fun j1 => some (S.2.1 8 48 j1)
set_option maxHeartbeats 4000000 in
set_option maxRecDepth 40000 in
theorem w_X12_pilotOf_0 {F : xH} {ev : xEv} {prim : xRel} {d sz : Nat} {T : yT} {v : Int32} {hp : xH} (N : Nat) (S : yS) (l1 : Int32) (l2 : Int32) (lv : xLv) (a0 : Nat) (fa0 : yAt T 12 8 0 a0) (g0 : xG lv 0 = some (.ref a0)) (g1 : xG lv 1 = some (.int l1)) (g2 : xG lv 2 = some (.int l2)) (hM : cR [8] F ev T S hp) (h : f_X12_pilotOf_0 N S l1 l2 = some v) : yWE ev.2.1 (xstr ev) (xCalls ev xmi (xprog ev) prim (d + 0)) (pX12_pilotOf ev) (0, lv, [], hp, sz, 0) (ypP hp sz (.int v)) := by
  unfold f_X12_pilotOf_0 at h
  refine ye_aload rfl g0 ?_
  refine ye_getr rfl (hM.obj fa0 ⟨rfl, rfl⟩) rfl (fun cx1 ecx1 => ?_)
  have fcx1 := yAt.row fa0 ecx1
  refine ye_p rfl rfl ?_
  refine ye_p rfl rfl ?_
  refine ye_iload rfl g1 ?_
  refine ye_p rfl rfl ?_
  refine ye_p rfl rfl ?_
  refine ye_iload rfl g2 ?_
  refine ye_p rfl rfl ?_
  obtain ⟨j1, ej1, ij1, h⟩ := gA_some h
  refine yj_ald rfl (hM.arr fcx1 yr_12_48) ij1 ej1 ?_
  exact ye_ret rfl rfl (rP h)
def f_X12_pilotOf (N : Nat) (S : yS) (xl1 : Int32) (xl2 : Int32) : Option Int32 := f_X12_pilotOf_0 N S xl1 xl2
theorem m_X12_pilotOf {F : xH} {ev : xEv} {prim : xRel} {d : Nat} {T : yT} {v : Int32} (N : Nat) (S : yS) (xl1 : Int32) (xl2 : Int32) (a0 : Nat) (fa0 : yAt T 12 8 0 a0) (h : f_X12_pilotOf N S xl1 xl2 = some v) : ykP [8] F ev prim (d + 1) 197 T S [.ref a0, .int xl1, .int xl2] (.int v) :=
  ykP.of (pg_197 ev) mi_197 (Nat.le_of_ble_eq_true rfl) (fun hp sz hM => w_X12_pilotOf_0 (prim := prim) (d := d) N S xl1 xl2 _ a0 fa0 rfl rfl rfl hM h)

def f_X12_setPilot_0 (N : Nat) (S : yS) (l1 : Int32) (l2 : Int32) (l3 : Int32) : Option (Int32 × yS) := gA 2305 ((203 + (4 * l1)) + l2) fun j1 => sq (yA S 8 48 (upd (S.2.1 8 48) j1 l3)) fun S1 => some (0, S1)
set_option maxHeartbeats 4000000 in
set_option maxRecDepth 40000 in
theorem w_X12_setPilot_0 {F : xH} {ev : xEv} {prim : xRel} {d sz : Nat} {T : yT} {v : Int32} {S' : yS} (N : Nat) (S : yS) (l1 : Int32) (l2 : Int32) (l3 : Int32) (hp : xH) (lv : xLv) (a0 : Nat) (fa0 : yAt T 12 8 0 a0) (g0 : xG lv 0 = some (.ref a0)) (g1 : xG lv 1 = some (.int l1)) (g2 : xG lv 2 = some (.int l2)) (g3 : xG lv 3 = some (.int l3)) (hM : cR [8] F ev T S hp) (h : f_X12_setPilot_0 N S l1 l2 l3 = some (v, S')) : yWE ev.2.1 (xstr ev) (xCalls ev xmi (xprog ev) prim (d + 0)) (pX12_setPilot ev) (0, lv, [], hp, sz, 0) (ypQ [8] F ev T sz (none) S') := by
  unfold f_X12_setPilot_0 at h
  refine ye_aload rfl g0 ?_
  refine ye_getr rfl (hM.obj fa0 ⟨rfl, rfl⟩) rfl (fun cx1 ecx1 => ?_)
  have fcx1 := yAt.row fa0 ecx1
  refine ye_p rfl rfl ?_
  refine ye_p rfl rfl ?_
  refine ye_iload rfl g1 ?_
  refine ye_p rfl rfl ?_
  refine ye_p rfl rfl ?_
  refine ye_iload rfl g2 ?_
  refine ye_p rfl rfl ?_
  refine ye_iload rfl g3 ?_
  obtain ⟨j1, ej1, ij1, h⟩ := gA_some h
  obtain ⟨S1, eS1, h⟩ := sq_some h
  refine yw_ast rfl hM fcx1 yr_12_48 (by decide) ij1 ej1 eS1 (fun y1 M1 => ?_)
  exact ye_ret rfl rfl (rQV h M1)
def f_X12_setPilot (N : Nat) (S : yS) (xl1 : Int32) (xl2 : Int32) (xl3 : Int32) : Option (Int32 × yS) := f_X12_setPilot_0 N S xl1 xl2 xl3
theorem m_X12_setPilot {F : xH} {ev : xEv} {prim : xRel} {d : Nat} {T : yT} {v : Int32} {S' : yS} (N : Nat) (S : yS) (xl1 : Int32) (xl2 : Int32) (xl3 : Int32) (a0 : Nat) (fa0 : yAt T 12 8 0 a0) (h : f_X12_setPilot N S xl1 xl2 xl3 = some (v, S')) : ykQ [8] F ev prim (d + 1) 198 T S [.ref a0, .int xl1, .int xl2, .int xl3] (none) S' :=
  ykQ.of (pg_198 ev) mi_198 (Nat.le_of_ble_eq_true rfl) (fun hp sz hM => w_X12_setPilot_0 (prim := prim) (d := d) N S xl1 xl2 xl3 hp _ a0 fa0 rfl rfl rfl rfl hM h)

def f_X12_bagOf_0 (N : Nat) (S : yS) (l1 : Int32) (l2 : Int32) : Option Int32 := gA 2305 ((235 + (37 * l1)) + l2) fun j1 => some (S.2.1 8 48 j1)
set_option maxHeartbeats 4000000 in
set_option maxRecDepth 40000 in
theorem w_X12_bagOf_0 {F : xH} {ev : xEv} {prim : xRel} {d sz : Nat} {T : yT} {v : Int32} {hp : xH} (N : Nat) (S : yS) (l1 : Int32) (l2 : Int32) (lv : xLv) (a0 : Nat) (fa0 : yAt T 12 8 0 a0) (g0 : xG lv 0 = some (.ref a0)) (g1 : xG lv 1 = some (.int l1)) (g2 : xG lv 2 = some (.int l2)) (hM : cR [8] F ev T S hp) (h : f_X12_bagOf_0 N S l1 l2 = some v) : yWE ev.2.1 (xstr ev) (xCalls ev xmi (xprog ev) prim (d + 0)) (pX12_bagOf ev) (0, lv, [], hp, sz, 0) (ypP hp sz (.int v)) := by
  unfold f_X12_bagOf_0 at h
  refine ye_aload rfl g0 ?_
  refine ye_getr rfl (hM.obj fa0 ⟨rfl, rfl⟩) rfl (fun cx1 ecx1 => ?_)
  have fcx1 := yAt.row fa0 ecx1
  refine ye_p rfl rfl ?_
  refine ye_p rfl rfl ?_
  refine ye_iload rfl g1 ?_
  refine ye_p rfl rfl ?_
  refine ye_p rfl rfl ?_
  refine ye_iload rfl g2 ?_
  refine ye_p rfl rfl ?_
  obtain ⟨j1, ej1, ij1, h⟩ := gA_some h
  refine yj_ald rfl (hM.arr fcx1 yr_12_48) ij1 ej1 ?_
  exact ye_ret rfl rfl (rP h)
def f_X12_bagOf (N : Nat) (S : yS) (xl1 : Int32) (xl2 : Int32) : Option Int32 := f_X12_bagOf_0 N S xl1 xl2
theorem m_X12_bagOf {F : xH} {ev : xEv} {prim : xRel} {d : Nat} {T : yT} {v : Int32} (N : Nat) (S : yS) (xl1 : Int32) (xl2 : Int32) (a0 : Nat) (fa0 : yAt T 12 8 0 a0) (h : f_X12_bagOf N S xl1 xl2 = some v) : ykP [8] F ev prim (d + 1) 199 T S [.ref a0, .int xl1, .int xl2] (.int v) :=
  ykP.of (pg_199 ev) mi_199 (Nat.le_of_ble_eq_true rfl) (fun hp sz hM => w_X12_bagOf_0 (prim := prim) (d := d) N S xl1 xl2 _ a0 fa0 rfl rfl rfl hM h)

def f_X12_setBag_0 (N : Nat) (S : yS) (l1 : Int32) (l2 : Int32) (l3 : Int32) : Option (Int32 × yS) := gA 2305 ((235 + (37 * l1)) + l2) fun j1 => sq (yA S 8 48 (upd (S.2.1 8 48) j1 l3)) fun S1 => some (0, S1)
set_option maxHeartbeats 4000000 in
set_option maxRecDepth 40000 in
theorem w_X12_setBag_0 {F : xH} {ev : xEv} {prim : xRel} {d sz : Nat} {T : yT} {v : Int32} {S' : yS} (N : Nat) (S : yS) (l1 : Int32) (l2 : Int32) (l3 : Int32) (hp : xH) (lv : xLv) (a0 : Nat) (fa0 : yAt T 12 8 0 a0) (g0 : xG lv 0 = some (.ref a0)) (g1 : xG lv 1 = some (.int l1)) (g2 : xG lv 2 = some (.int l2)) (g3 : xG lv 3 = some (.int l3)) (hM : cR [8] F ev T S hp) (h : f_X12_setBag_0 N S l1 l2 l3 = some (v, S')) : yWE ev.2.1 (xstr ev) (xCalls ev xmi (xprog ev) prim (d + 0)) (pX12_setBag ev) (0, lv, [], hp, sz, 0) (ypQ [8] F ev T sz (none) S') := by
  unfold f_X12_setBag_0 at h
  refine ye_aload rfl g0 ?_
  refine ye_getr rfl (hM.obj fa0 ⟨rfl, rfl⟩) rfl (fun cx1 ecx1 => ?_)
  have fcx1 := yAt.row fa0 ecx1
  refine ye_p rfl rfl ?_
  refine ye_p rfl rfl ?_
  refine ye_iload rfl g1 ?_
  refine ye_p rfl rfl ?_
  refine ye_p rfl rfl ?_
  refine ye_iload rfl g2 ?_
  refine ye_p rfl rfl ?_
  refine ye_iload rfl g3 ?_
  obtain ⟨j1, ej1, ij1, h⟩ := gA_some h
  obtain ⟨S1, eS1, h⟩ := sq_some h
  refine yw_ast rfl hM fcx1 yr_12_48 (by decide) ij1 ej1 eS1 (fun y1 M1 => ?_)
  exact ye_ret rfl rfl (rQV h M1)
def f_X12_setBag (N : Nat) (S : yS) (xl1 : Int32) (xl2 : Int32) (xl3 : Int32) : Option (Int32 × yS) := f_X12_setBag_0 N S xl1 xl2 xl3
theorem m_X12_setBag {F : xH} {ev : xEv} {prim : xRel} {d : Nat} {T : yT} {v : Int32} {S' : yS} (N : Nat) (S : yS) (xl1 : Int32) (xl2 : Int32) (xl3 : Int32) (a0 : Nat) (fa0 : yAt T 12 8 0 a0) (h : f_X12_setBag N S xl1 xl2 xl3 = some (v, S')) : ykQ [8] F ev prim (d + 1) 200 T S [.ref a0, .int xl1, .int xl2, .int xl3] (none) S' :=
  ykQ.of (pg_200 ev) mi_200 (Nat.le_of_ble_eq_true rfl) (fun hp sz hM => w_X12_setBag_0 (prim := prim) (d := d) N S xl1 xl2 xl3 hp _ a0 fa0 rfl rfl rfl rfl hM h)

def f_X12_flightOf_0 (N : Nat) (S : yS) (l1 : Int32) (l2 : Int32) : Option Int32 := gA 2305 ((1345 + (5 * l1)) + l2) fun j1 => some (S.2.1 8 48 j1)
set_option maxHeartbeats 4000000 in
set_option maxRecDepth 40000 in
theorem w_X12_flightOf_0 {F : xH} {ev : xEv} {prim : xRel} {d sz : Nat} {T : yT} {v : Int32} {hp : xH} (N : Nat) (S : yS) (l1 : Int32) (l2 : Int32) (lv : xLv) (a0 : Nat) (fa0 : yAt T 12 8 0 a0) (g0 : xG lv 0 = some (.ref a0)) (g1 : xG lv 1 = some (.int l1)) (g2 : xG lv 2 = some (.int l2)) (hM : cR [8] F ev T S hp) (h : f_X12_flightOf_0 N S l1 l2 = some v) : yWE ev.2.1 (xstr ev) (xCalls ev xmi (xprog ev) prim (d + 0)) (pX12_flightOf ev) (0, lv, [], hp, sz, 0) (ypP hp sz (.int v)) := by
  unfold f_X12_flightOf_0 at h
  refine ye_aload rfl g0 ?_
  refine ye_getr rfl (hM.obj fa0 ⟨rfl, rfl⟩) rfl (fun cx1 ecx1 => ?_)
  have fcx1 := yAt.row fa0 ecx1
  refine ye_p rfl rfl ?_
  refine ye_p rfl rfl ?_
  refine ye_iload rfl g1 ?_
  refine ye_p rfl rfl ?_
  refine ye_p rfl rfl ?_
  refine ye_iload rfl g2 ?_
  refine ye_p rfl rfl ?_
  obtain ⟨j1, ej1, ij1, h⟩ := gA_some h
  refine yj_ald rfl (hM.arr fcx1 yr_12_48) ij1 ej1 ?_
  exact ye_ret rfl rfl (rP h)
def f_X12_flightOf (N : Nat) (S : yS) (xl1 : Int32) (xl2 : Int32) : Option Int32 := f_X12_flightOf_0 N S xl1 xl2
theorem m_X12_flightOf {F : xH} {ev : xEv} {prim : xRel} {d : Nat} {T : yT} {v : Int32} (N : Nat) (S : yS) (xl1 : Int32) (xl2 : Int32) (a0 : Nat) (fa0 : yAt T 12 8 0 a0) (h : f_X12_flightOf N S xl1 xl2 = some v) : ykP [8] F ev prim (d + 1) 201 T S [.ref a0, .int xl1, .int xl2] (.int v) :=
  ykP.of (pg_201 ev) mi_201 (Nat.le_of_ble_eq_true rfl) (fun hp sz hM => w_X12_flightOf_0 (prim := prim) (d := d) N S xl1 xl2 _ a0 fa0 rfl rfl rfl hM h)

def f_X12_setFlight_0 (N : Nat) (S : yS) (l1 : Int32) (l2 : Int32) (l3 : Int32) : Option (Int32 × yS) := gA 2305 ((1345 + (5 * l1)) + l2) fun j1 => sq (yA S 8 48 (upd (S.2.1 8 48) j1 l3)) fun S1 => some (0, S1)
set_option maxHeartbeats 4000000 in
set_option maxRecDepth 40000 in
theorem w_X12_setFlight_0 {F : xH} {ev : xEv} {prim : xRel} {d sz : Nat} {T : yT} {v : Int32} {S' : yS} (N : Nat) (S : yS) (l1 : Int32) (l2 : Int32) (l3 : Int32) (hp : xH) (lv : xLv) (a0 : Nat) (fa0 : yAt T 12 8 0 a0) (g0 : xG lv 0 = some (.ref a0)) (g1 : xG lv 1 = some (.int l1)) (g2 : xG lv 2 = some (.int l2)) (g3 : xG lv 3 = some (.int l3)) (hM : cR [8] F ev T S hp) (h : f_X12_setFlight_0 N S l1 l2 l3 = some (v, S')) : yWE ev.2.1 (xstr ev) (xCalls ev xmi (xprog ev) prim (d + 0)) (pX12_setFlight ev) (0, lv, [], hp, sz, 0) (ypQ [8] F ev T sz (none) S') := by
  unfold f_X12_setFlight_0 at h
  refine ye_aload rfl g0 ?_
  refine ye_getr rfl (hM.obj fa0 ⟨rfl, rfl⟩) rfl (fun cx1 ecx1 => ?_)
  have fcx1 := yAt.row fa0 ecx1
  refine ye_p rfl rfl ?_
  refine ye_p rfl rfl ?_
  refine ye_iload rfl g1 ?_
  refine ye_p rfl rfl ?_
  refine ye_p rfl rfl ?_
  refine ye_iload rfl g2 ?_
  refine ye_p rfl rfl ?_
  refine ye_iload rfl g3 ?_
  obtain ⟨j1, ej1, ij1, h⟩ := gA_some h
  obtain ⟨S1, eS1, h⟩ := sq_some h
  refine yw_ast rfl hM fcx1 yr_12_48 (by decide) ij1 ej1 eS1 (fun y1 M1 => ?_)
  exact ye_ret rfl rfl (rQV h M1)
def f_X12_setFlight (N : Nat) (S : yS) (xl1 : Int32) (xl2 : Int32) (xl3 : Int32) : Option (Int32 × yS) := f_X12_setFlight_0 N S xl1 xl2 xl3
theorem m_X12_setFlight {F : xH} {ev : xEv} {prim : xRel} {d : Nat} {T : yT} {v : Int32} {S' : yS} (N : Nat) (S : yS) (xl1 : Int32) (xl2 : Int32) (xl3 : Int32) (a0 : Nat) (fa0 : yAt T 12 8 0 a0) (h : f_X12_setFlight N S xl1 xl2 xl3 = some (v, S')) : ykQ [8] F ev prim (d + 1) 202 T S [.ref a0, .int xl1, .int xl2, .int xl3] (none) S' :=
  ykQ.of (pg_202 ev) mi_202 (Nat.le_of_ble_eq_true rfl) (fun hp sz hM => w_X12_setFlight_0 (prim := prim) (d := d) N S xl1 xl2 xl3 hp _ a0 fa0 rfl rfl rfl rfl hM h)

def f_X12_hasLamp_21 (N : Nat) (S : yS) (t0 : Int32) : Option Int32 := gP (t0 = 0 ∨ t0 = 1) (some t0)
set_option maxHeartbeats 4000000 in
set_option maxRecDepth 40000 in
theorem w_X12_hasLamp_21 {F : xH} {ev : xEv} {prim : xRel} {d sz : Nat} {T : yT} {v : Int32} {hp : xH} (N : Nat) (S : yS) (t0 : Int32) (lv : xLv) (hM : cR [8] F ev T S hp) (h : f_X12_hasLamp_21 N S t0 = some v) : yWE ev.2.1 (xstr ev) (xCalls ev xmi (xprog ev) prim (d + 0)) (pX12_hasLamp ev) (21, lv, [.int t0], hp, sz, 0) (ypP hp sz (.int v)) := by
  unfold f_X12_hasLamp_21 at h
  obtain ⟨i1, h⟩ := gP_some h
  exact ye_ret rfl (if_pos (zb_nar i1)) (rP h)

def f_X12_hasLamp_0 (N : Nat) (S : yS) (l1 : Int32) : Option Int32 := gA 2305 ((3 + (2 * l1)) + 0) fun j1 => if ¬ (S.2.1 8 48 j1) = 1 then f_X12_hasLamp_21 N S 0 else f_X12_hasLamp_21 N S 1
set_option maxHeartbeats 4000000 in
set_option maxRecDepth 40000 in
theorem w_X12_hasLamp_0 {F : xH} {ev : xEv} {prim : xRel} {d sz : Nat} {T : yT} {v : Int32} {hp : xH} (N : Nat) (S : yS) (l1 : Int32) (lv : xLv) (a0 : Nat) (fa0 : yAt T 12 8 0 a0) (g0 : xG lv 0 = some (.ref a0)) (g1 : xG lv 1 = some (.int l1)) (hM : cR [8] F ev T S hp) (h : f_X12_hasLamp_0 N S l1 = some v) : yWE ev.2.1 (xstr ev) (xCalls ev xmi (xprog ev) prim (d + 0)) (pX12_hasLamp ev) (0, lv, [], hp, sz, 0) (ypP hp sz (.int v)) := by
  unfold f_X12_hasLamp_0 at h
  refine ye_aload rfl g0 ?_
  refine ye_getr rfl (hM.obj fa0 ⟨rfl, rfl⟩) rfl (fun cx1 ecx1 => ?_)
  have fcx1 := yAt.row fa0 ecx1
  refine ye_p rfl rfl ?_
  refine ye_p rfl rfl ?_
  refine ye_iload rfl g1 ?_
  refine ye_p rfl rfl ?_
  refine ye_p rfl rfl ?_
  refine ye_p rfl rfl ?_
  refine ye_p rfl rfl ?_
  obtain ⟨j1, ej1, ij1, h⟩ := gA_some h
  refine yj_ald rfl (hM.arr fcx1 yr_12_48) ij1 ej1 ?_
  refine ye_p rfl rfl ?_
  refine ye_icmp_ne rfl (fun h1 => ?_) (fun h1 => ?_)
  · replace h := yiT h1 h
    refine ye_p rfl rfl ?_
    exact w_X12_hasLamp_21 (prim := prim) (d := d) N S 0 lv hM h
  · replace h := yiN h1 h
    refine ye_p rfl rfl ?_
    refine ye_p rfl rfl ?_
    exact w_X12_hasLamp_21 (prim := prim) (d := d) N S 1 lv hM h
def f_X12_hasLamp (N : Nat) (S : yS) (xl1 : Int32) : Option Int32 := f_X12_hasLamp_0 N S xl1
theorem m_X12_hasLamp {F : xH} {ev : xEv} {prim : xRel} {d : Nat} {T : yT} {v : Int32} (N : Nat) (S : yS) (xl1 : Int32) (a0 : Nat) (fa0 : yAt T 12 8 0 a0) (h : f_X12_hasLamp N S xl1 = some v) : ykP [8] F ev prim (d + 1) 203 T S [.ref a0, .int xl1] (.int v) :=
  ykP.of (pg_203 ev) mi_203 (Nat.le_of_ble_eq_true rfl) (fun hp sz hM => w_X12_hasLamp_0 (prim := prim) (d := d) N S xl1 _ a0 fa0 rfl rfl hM h)

def f_X12_isDark_22 (N : Nat) (S : yS) (t0 : Int32) : Option Int32 := gP (t0 = 0 ∨ t0 = 1) (some t0)
set_option maxHeartbeats 4000000 in
set_option maxRecDepth 40000 in
theorem w_X12_isDark_22 {F : xH} {ev : xEv} {prim : xRel} {d sz : Nat} {T : yT} {v : Int32} {hp : xH} (N : Nat) (S : yS) (t0 : Int32) (lv : xLv) (hM : cR [8] F ev T S hp) (h : f_X12_isDark_22 N S t0 = some v) : yWE ev.2.1 (xstr ev) (xCalls ev xmi (xprog ev) prim (d + 0)) (pX12_isDark ev) (22, lv, [.int t0], hp, sz, 0) (ypP hp sz (.int v)) := by
  unfold f_X12_isDark_22 at h
  obtain ⟨i1, h⟩ := gP_some h
  exact ye_ret rfl (if_pos (zb_nar i1)) (rP h)

def f_X12_isDark_17 (N : Nat) (S : yS) : Option Int32 := f_X12_isDark_22 N S 1
set_option maxHeartbeats 4000000 in
set_option maxRecDepth 40000 in
theorem w_X12_isDark_17 {F : xH} {ev : xEv} {prim : xRel} {d sz : Nat} {T : yT} {v : Int32} {hp : xH} (N : Nat) (S : yS) (lv : xLv) (hM : cR [8] F ev T S hp) (h : f_X12_isDark_17 N S = some v) : yWE ev.2.1 (xstr ev) (xCalls ev xmi (xprog ev) prim (d + 0)) (pX12_isDark ev) (17, lv, [], hp, sz, 0) (ypP hp sz (.int v)) := by
  unfold f_X12_isDark_17 at h
  refine ye_p rfl rfl ?_
  refine ye_p rfl rfl ?_
  exact w_X12_isDark_22 (prim := prim) (d := d) N S 1 lv hM h

def f_X12_isDark_0 (N : Nat) (S : yS) (l0 : Int32) : Option Int32 := if (l0 - l0 / 96 * 96) < 24 then f_X12_isDark_17 N S else if (l0 - l0 / 96 * 96) < 72 then f_X12_isDark_22 N S 0 else f_X12_isDark_17 N S
set_option maxHeartbeats 4000000 in
set_option maxRecDepth 40000 in
theorem w_X12_isDark_0 {F : xH} {ev : xEv} {prim : xRel} {d sz : Nat} {T : yT} {v : Int32} {hp : xH} (N : Nat) (S : yS) (l0 : Int32) (lv : xLv) (g0 : xG lv 0 = some (.int l0)) (hM : cR [8] F ev T S hp) (h : f_X12_isDark_0 N S l0 = some v) : yWE ev.2.1 (xstr ev) (xCalls ev xmi (xprog ev) prim (d + 0)) (pX12_isDark ev) (0, lv, [], hp, sz, 0) (ypP hp sz (.int v)) := by
  unfold f_X12_isDark_0 at h
  refine ye_iload rfl g0 ?_
  refine ye_p rfl rfl ?_
  refine ye_div rfl (by decide) ?_
  refine ye_p rfl rfl ?_
  have g1_z1 := xG_same lv 1 (.int (l0 - l0 / 96 * 96))
  generalize xSt1 lv 1 (.int (l0 - l0 / 96 * 96)) = lvz1 at g1_z1 ⊢
  refine ye_iload rfl g1_z1 ?_
  refine ye_p rfl rfl ?_
  refine ye_icmp_lt rfl (fun h1 => ?_) (fun h1 => ?_)
  · replace h := yiT h1 h
    exact w_X12_isDark_17 (prim := prim) (d := d) N S lvz1 hM h
  · replace h := yiN h1 h
    refine ye_iload rfl g1_z1 ?_
    refine ye_p rfl rfl ?_
    refine ye_icmp_lt rfl (fun h2 => ?_) (fun h2 => ?_)
    · replace h := yiT h2 h
      refine ye_p rfl rfl ?_
      exact w_X12_isDark_22 (prim := prim) (d := d) N S 0 lvz1 hM h
    · replace h := yiN h2 h
      exact w_X12_isDark_17 (prim := prim) (d := d) N S lvz1 hM h
def f_X12_isDark (N : Nat) (S : yS) (xl0 : Int32) : Option Int32 := f_X12_isDark_0 N S xl0
theorem m_X12_isDark {F : xH} {ev : xEv} {prim : xRel} {d : Nat} {T : yT} {v : Int32} (N : Nat) (S : yS) (xl0 : Int32) (h : f_X12_isDark N S xl0 = some v) : ykP [8] F ev prim (d + 1) 204 T S [.int xl0] (.int v) :=
  ykP.of (pg_204 ev) mi_204 (Nat.le_of_ble_eq_true rfl) (fun hp sz hM => w_X12_isDark_0 (prim := prim) (d := d) N S xl0 _ rfl hM h)

def f_X12_field_34 (N : Nat) (S : yS) : Option (Int32 × yS) := some ((-1), S)
set_option maxHeartbeats 4000000 in
set_option maxRecDepth 40000 in
theorem w_X12_field_34 {F : xH} {ev : xEv} {prim : xRel} {d sz : Nat} {T : yT} {v : Int32} {S' : yS} (N : Nat) (S : yS) (hp : xH) (lv : xLv) (hM : cR [8] F ev T S hp) (h : f_X12_field_34 N S = some (v, S')) : yWE ev.2.1 (xstr ev) (xCalls ev xmi (xprog ev) prim (d + 1)) (pX12_field ev) (34, lv, [], hp, sz, 0) (ypQ [8] F ev T sz (some (.int v)) S') := by
  unfold f_X12_field_34 at h
  refine ye_p rfl rfl ?_
  exact ye_ret rfl rfl (rQ h hM)

def f_X12_field_69 (N : Nat) (S : yS) (l3 : Int32) (t1 : Int32) (t2 : Int32) : Option (Int32 × yS) := gA 2305 t1 fun j1 => sq (yA S 8 48 (upd (S.2.1 8 48) j1 t2)) fun S1 => gA 2305 ((3 + (2 * (S1.1 8 1))) + 1) fun j2 => sq (yA S1 8 48 (upd (S1.2.1 8 48) j2 l3)) fun S2 => sq (yI S2 8 1 ((S2.1 8 1) + 1)) fun S3 => some ((S3.1 8 1) - 1, S3)
set_option maxHeartbeats 4000000 in
set_option maxRecDepth 40000 in
theorem w_X12_field_69 {F : xH} {ev : xEv} {prim : xRel} {d sz : Nat} {T : yT} {v : Int32} {S' : yS} (N : Nat) (S : yS) (l3 : Int32) (t1 : Int32) (t2 : Int32) (hp : xH) (lv : xLv) (a0 : Nat) (b0 : Nat) (fa0 : yAt T 12 8 0 a0) (fb0 : yAt T 12 8 49 b0) (g0 : xG lv 0 = some (.ref a0)) (g3 : xG lv 3 = some (.int l3)) (hM : cR [8] F ev T S hp) (h : f_X12_field_69 N S l3 t1 t2 = some (v, S')) : yWE ev.2.1 (xstr ev) (xCalls ev xmi (xprog ev) prim (d + 1)) (pX12_field ev) (69, lv, [.int t2, .int t1, .ref b0], hp, sz, 0) (ypQ [8] F ev T sz (some (.int v)) S') := by
  unfold f_X12_field_69 at h
  obtain ⟨j1, ej1, ij1, h⟩ := gA_some h
  obtain ⟨S1, eS1, h⟩ := sq_some h
  refine yw_ast rfl hM fb0 yr_12_48 (by decide) ij1 ej1 eS1 (fun y1 M1 => ?_)
  refine ye_aload rfl g0 ?_
  refine ye_getr rfl (M1.obj fa0 ⟨rfl, rfl⟩) rfl (fun cx1 ecx1 => ?_)
  have fcx1 := yAt.row fa0 ecx1
  refine ye_p rfl rfl ?_
  refine ye_p rfl rfl ?_
  refine ye_aload rfl g0 ?_
  refine ye_getf rfl (M1.obj fa0 ⟨rfl, rfl⟩) rfl ?_
  refine ye_p rfl rfl ?_
  refine ye_p rfl rfl ?_
  refine ye_p rfl rfl ?_
  refine ye_p rfl rfl ?_
  refine ye_iload rfl g3 ?_
  obtain ⟨j2, ej2, ij2, h⟩ := gA_some h
  obtain ⟨S2, eS2, h⟩ := sq_some h
  refine yw_ast rfl M1 fcx1 yr_12_48 (by decide) ij2 ej2 eS2 (fun y2 M2 => ?_)
  refine ye_aload rfl g0 ?_
  refine ye_p rfl rfl ?_
  refine ye_getf rfl (M2.obj fa0 ⟨rfl, rfl⟩) rfl ?_
  refine ye_p rfl rfl ?_
  refine ye_p rfl rfl ?_
  obtain ⟨S3, eS3, h⟩ := sq_some h
  refine yw_putI rfl M2 fa0 rfl ⟨rfl, rfl⟩ (Nat.le_of_ble_eq_true rfl) rfl rfl (ys_12_1 ev T _ ((S2.1 8 1) + 1)) (fun q => absurd q (by decide)) eS3 (fun y3 M3 => ?_)
  refine ye_aload rfl g0 ?_
  refine ye_getf rfl (M3.obj fa0 ⟨rfl, rfl⟩) rfl ?_
  refine ye_p rfl rfl ?_
  refine ye_p rfl rfl ?_
  exact ye_ret rfl rfl (rQ h M3)

def f_X12_field_0 (N : Nat) (S : yS) (l1 : Int32) (l2 : Int32) (l3 : Int32) : Option (Int32 × yS) := sq (yI S 8 47 0) fun S1 => bV (f_X12_in N S1 l1 0 99) fun w1 => if w1 = 0 then f_X12_field_34 N S1 else bV (f_X12_in N S1 l3 0 9) fun w2 => if w2 = 0 then f_X12_field_34 N S1 else if ¬ (S1.1 8 1) = 8 then gA 8 (S1.1 8 1) fun j1 => sq (yA S1 8 0 (upd (S1.2.1 8 0) j1 l1)) fun S2 => if l2 = 0 then f_X12_field_69 N S2 l3 ((3 + (2 * (S2.1 8 1))) + 0) 0 else f_X12_field_69 N S2 l3 ((3 + (2 * (S2.1 8 1))) + 0) 1 else f_X12_field_34 N S1
set_option maxHeartbeats 4000000 in
set_option maxRecDepth 40000 in
theorem w_X12_field_0 {F : xH} {ev : xEv} {prim : xRel} {d sz : Nat} {T : yT} {v : Int32} {S' : yS} (N : Nat) (S : yS) (l1 : Int32) (l2 : Int32) (l3 : Int32) (hp : xH) (lv : xLv) (a0 : Nat) (fa0 : yAt T 12 8 0 a0) (g0 : xG lv 0 = some (.ref a0)) (g1 : xG lv 1 = some (.int l1)) (g2 : xG lv 2 = some (.int l2)) (g3 : xG lv 3 = some (.int l3)) (hM : cR [8] F ev T S hp) (h : f_X12_field_0 N S l1 l2 l3 = some (v, S')) : yWE ev.2.1 (xstr ev) (xCalls ev xmi (xprog ev) prim (d + 1)) (pX12_field ev) (0, lv, [], hp, sz, 0) (ypQ [8] F ev T sz (some (.int v)) S') := by
  unfold f_X12_field_0 at h
  refine ye_aload rfl g0 ?_
  refine ye_p rfl rfl ?_
  obtain ⟨S1, eS1, h⟩ := sq_some h
  refine yw_putI rfl hM fa0 rfl ⟨rfl, rfl⟩ (Nat.le_of_ble_eq_true rfl) rfl rfl (ys_12_47 ev T _ 0) (fun q => absurd q (by decide)) eS1 (fun y1 M1 => ?_)
  refine ye_iload rfl g1 ?_
  refine ye_p rfl rfl ?_
  refine ye_p rfl rfl ?_
  obtain ⟨w1, hw1, h⟩ := bV_some h
  refine ye_callS (As := [.int l1, .int 0, .int 99]) (rest := []) 1 (Or.inl rfl) rfl rfl rfl (Nat.le_of_ble_eq_true rfl) ((m_X12_in (d := d + 0) (T := T) N S1 l1 0 99 hw1) y1 sz M1) ?_
  refine ye_if_eq rfl (fun h1 => ?_) (fun h1 => ?_)
  · replace h := yiT h1 h
    exact w_X12_field_34 (prim := prim) (d := d) N S1 y1 lv M1 h
  · replace h := yiN h1 h
    refine ye_iload rfl g3 ?_
    refine ye_p rfl rfl ?_
    refine ye_p rfl rfl ?_
    obtain ⟨w2, hw2, h⟩ := bV_some h
    refine ye_callS (As := [.int l3, .int 0, .int 9]) (rest := []) 1 (Or.inl rfl) rfl rfl rfl (Nat.le_of_ble_eq_true rfl) ((m_X12_in (d := d + 0) (T := T) N S1 l3 0 9 hw2) y1 sz M1) ?_
    refine ye_if_eq rfl (fun h2 => ?_) (fun h2 => ?_)
    · replace h := yiT h2 h
      exact w_X12_field_34 (prim := prim) (d := d) N S1 y1 lv M1 h
    · replace h := yiN h2 h
      refine ye_aload rfl g0 ?_
      refine ye_getf rfl (M1.obj fa0 ⟨rfl, rfl⟩) rfl ?_
      refine ye_p rfl rfl ?_
      refine ye_icmp_ne rfl (fun h3 => ?_) (fun h3 => ?_)
      · replace h := yiT h3 h
        refine ye_aload rfl g0 ?_
        refine ye_getr rfl (M1.obj fa0 ⟨rfl, rfl⟩) rfl (fun cx1 ecx1 => ?_)
        have fcx1 := yAt.row fa0 ecx1
        refine ye_aload rfl g0 ?_
        refine ye_getf rfl (M1.obj fa0 ⟨rfl, rfl⟩) rfl ?_
        refine ye_iload rfl g1 ?_
        obtain ⟨j1, ej1, ij1, h⟩ := gA_some h
        obtain ⟨S2, eS2, h⟩ := sq_some h
        refine yw_ast rfl M1 fcx1 yr_12_0 (by decide) ij1 ej1 eS2 (fun y2 M2 => ?_)
        refine ye_aload rfl g0 ?_
        refine ye_getr rfl (M2.obj fa0 ⟨rfl, rfl⟩) rfl (fun cx2 ecx2 => ?_)
        have fcx2 := yAt.row fa0 ecx2
        refine ye_p rfl rfl ?_
        refine ye_p rfl rfl ?_
        refine ye_aload rfl g0 ?_
        refine ye_getf rfl (M2.obj fa0 ⟨rfl, rfl⟩) rfl ?_
        refine ye_p rfl rfl ?_
        refine ye_p rfl rfl ?_
        refine ye_p rfl rfl ?_
        refine ye_p rfl rfl ?_
        refine ye_iload rfl g2 ?_
        refine ye_if_eq rfl (fun h4 => ?_) (fun h4 => ?_)
        · replace h := yiT h4 h
          refine ye_p rfl rfl ?_
          exact w_X12_field_69 (prim := prim) (d := d) N S2 l3 ((3 + (2 * (S2.1 8 1))) + 0) 0 y2 lv a0 cx2 fa0 fcx2 g0 g3 M2 h
        · replace h := yiN h4 h
          refine ye_p rfl rfl ?_
          refine ye_p rfl rfl ?_
          exact w_X12_field_69 (prim := prim) (d := d) N S2 l3 ((3 + (2 * (S2.1 8 1))) + 0) 1 y2 lv a0 cx2 fa0 fcx2 g0 g3 M2 h
      · replace h := yiN h3 h
        exact w_X12_field_34 (prim := prim) (d := d) N S1 y1 lv M1 h
def f_X12_field (N : Nat) (S : yS) (xl1 : Int32) (xl2 : Int32) (xl3 : Int32) : Option (Int32 × yS) := f_X12_field_0 N S xl1 xl2 xl3
theorem m_X12_field {F : xH} {ev : xEv} {prim : xRel} {d : Nat} {T : yT} {v : Int32} {S' : yS} (N : Nat) (S : yS) (xl1 : Int32) (xl2 : Int32) (xl3 : Int32) (a0 : Nat) (fa0 : yAt T 12 8 0 a0) (h : f_X12_field N S xl1 xl2 xl3 = some (v, S')) : ykQ [8] F ev prim (d + 2) 205 T S [.ref a0, .int xl1, .int xl2, .int xl3] (some (.int v)) S' :=
  ykQ.of (pg_205 ev) mi_205 (Nat.le_of_ble_eq_true rfl) (fun hp sz hM => w_X12_field_0 (prim := prim) (d := d) N S xl1 xl2 xl3 hp _ a0 fa0 rfl rfl rfl rfl hM h)

def f_X12_lamp_35 (N : Nat) (S : yS) (t1 : Int32) (t2 : Int32) : Option (Int32 × yS) := gA 2305 t1 fun j1 => sq (yA S 8 48 (upd (S.2.1 8 48) j1 t2)) fun S1 => some (1, S1)
set_option maxHeartbeats 4000000 in
set_option maxRecDepth 40000 in
theorem w_X12_lamp_35 {F : xH} {ev : xEv} {prim : xRel} {d sz : Nat} {T : yT} {v : Int32} {S' : yS} (N : Nat) (S : yS) (t1 : Int32) (t2 : Int32) (hp : xH) (lv : xLv) (b0 : Nat) (fb0 : yAt T 12 8 49 b0) (hM : cR [8] F ev T S hp) (h : f_X12_lamp_35 N S t1 t2 = some (v, S')) : yWE ev.2.1 (xstr ev) (xCalls ev xmi (xprog ev) prim (d + 2)) (pX12_lamp ev) (35, lv, [.int t2, .int t1, .ref b0], hp, sz, 0) (ypQ [8] F ev T sz (some (.int v)) S') := by
  unfold f_X12_lamp_35 at h
  obtain ⟨j1, ej1, ij1, h⟩ := gA_some h
  obtain ⟨S1, eS1, h⟩ := sq_some h
  refine yw_ast rfl hM fb0 yr_12_48 (by decide) ij1 ej1 eS1 (fun y1 M1 => ?_)
  refine ye_p rfl rfl ?_
  exact ye_ret rfl rfl (rQ h M1)

def f_X12_lamp_0 (N : Nat) (S : yS) (l1 : Int32) (l2 : Int32) : Option (Int32 × yS) := sq (yI S 8 47 0) fun S1 => bV (f_X12_isField N S1 l1) fun w1 => if ¬ w1 = 0 then if l2 = 0 then f_X12_lamp_35 N S1 ((3 + (2 * l1)) + 0) 0 else f_X12_lamp_35 N S1 ((3 + (2 * l1)) + 0) 1 else some (0, S1)
set_option maxHeartbeats 4000000 in
set_option maxRecDepth 40000 in
theorem w_X12_lamp_0 {F : xH} {ev : xEv} {prim : xRel} {d sz : Nat} {T : yT} {v : Int32} {S' : yS} (N : Nat) (S : yS) (l1 : Int32) (l2 : Int32) (hp : xH) (lv : xLv) (a0 : Nat) (fa0 : yAt T 12 8 0 a0) (g0 : xG lv 0 = some (.ref a0)) (g1 : xG lv 1 = some (.int l1)) (g2 : xG lv 2 = some (.int l2)) (hM : cR [8] F ev T S hp) (h : f_X12_lamp_0 N S l1 l2 = some (v, S')) : yWE ev.2.1 (xstr ev) (xCalls ev xmi (xprog ev) prim (d + 2)) (pX12_lamp ev) (0, lv, [], hp, sz, 0) (ypQ [8] F ev T sz (some (.int v)) S') := by
  unfold f_X12_lamp_0 at h
  refine ye_aload rfl g0 ?_
  refine ye_p rfl rfl ?_
  obtain ⟨S1, eS1, h⟩ := sq_some h
  refine yw_putI rfl hM fa0 rfl ⟨rfl, rfl⟩ (Nat.le_of_ble_eq_true rfl) rfl rfl (ys_12_47 ev T _ 0) (fun q => absurd q (by decide)) eS1 (fun y1 M1 => ?_)
  refine ye_aload rfl g0 ?_
  refine ye_iload rfl g1 ?_
  obtain ⟨w1, hw1, h⟩ := bV_some h
  refine ye_callV (As := [.int l1]) (rest := []) 0 (Or.inl rfl) rfl rfl rfl (Nat.le_of_ble_eq_true rfl) (M1.obj fa0 ⟨rfl, rfl⟩) ((m_X12_isField (d := d + 0) (T := T) N S1 l1 a0 fa0 hw1) y1 sz M1) ?_
  refine ye_if_ne rfl (fun h1 => ?_) (fun h1 => ?_)
  · replace h := yiT h1 h
    refine ye_aload rfl g0 ?_
    refine ye_getr rfl (M1.obj fa0 ⟨rfl, rfl⟩) rfl (fun cx1 ecx1 => ?_)
    have fcx1 := yAt.row fa0 ecx1
    refine ye_p rfl rfl ?_
    refine ye_p rfl rfl ?_
    refine ye_iload rfl g1 ?_
    refine ye_p rfl rfl ?_
    refine ye_p rfl rfl ?_
    refine ye_p rfl rfl ?_
    refine ye_p rfl rfl ?_
    refine ye_iload rfl g2 ?_
    refine ye_if_eq rfl (fun h2 => ?_) (fun h2 => ?_)
    · replace h := yiT h2 h
      refine ye_p rfl rfl ?_
      exact w_X12_lamp_35 (prim := prim) (d := d) N S1 ((3 + (2 * l1)) + 0) 0 y1 lv cx1 fcx1 M1 h
    · replace h := yiN h2 h
      refine ye_p rfl rfl ?_
      refine ye_p rfl rfl ?_
      exact w_X12_lamp_35 (prim := prim) (d := d) N S1 ((3 + (2 * l1)) + 0) 1 y1 lv cx1 fcx1 M1 h
  · replace h := yiN h1 h
    refine ye_p rfl rfl ?_
    exact ye_ret rfl rfl (rQ h M1)
def f_X12_lamp (N : Nat) (S : yS) (xl1 : Int32) (xl2 : Int32) : Option (Int32 × yS) := f_X12_lamp_0 N S xl1 xl2
theorem m_X12_lamp {F : xH} {ev : xEv} {prim : xRel} {d : Nat} {T : yT} {v : Int32} {S' : yS} (N : Nat) (S : yS) (xl1 : Int32) (xl2 : Int32) (a0 : Nat) (fa0 : yAt T 12 8 0 a0) (h : f_X12_lamp N S xl1 xl2 = some (v, S')) : ykQ [8] F ev prim (d + 3) 206 T S [.ref a0, .int xl1, .int xl2] (some (.int v)) S' :=
  ykQ.of (pg_206 ev) mi_206 (Nat.le_of_ble_eq_true rfl) (fun hp sz hM => w_X12_lamp_0 (prim := prim) (d := d) N S xl1 xl2 hp _ a0 fa0 rfl rfl rfl hM h)

def f_X12_leg_59 (N : Nat) (S : yS) : Option (Int32 × yS) := some ((-1), S)
set_option maxHeartbeats 4000000 in
set_option maxRecDepth 40000 in
theorem w_X12_leg_59 {F : xH} {ev : xEv} {prim : xRel} {d sz : Nat} {T : yT} {v : Int32} {S' : yS} (N : Nat) (S : yS) (hp : xH) (lv : xLv) (hM : cR [8] F ev T S hp) (h : f_X12_leg_59 N S = some (v, S')) : yWE ev.2.1 (xstr ev) (xCalls ev xmi (xprog ev) prim (d + 2)) (pX12_leg ev) (59, lv, [], hp, sz, 0) (ypQ [8] F ev T sz (some (.int v)) S') := by
  unfold f_X12_leg_59 at h
  refine ye_p rfl rfl ?_
  exact ye_ret rfl rfl (rQ h hM)

def f_X12_leg_232 (N : Nat) (k125 : yS → Int32 → Int32 → Int32 → Int32 → Option (Int32 × yS)) (k135 : yS → Int32 → Int32 → Int32 → Int32 → Int32 → Option (Int32 × yS)) (S : yS) (l1 : Int32) (l2 : Int32) (l3 : Int32) (l5 : Int32) (l6 : Int32) : Option (Int32 × yS) := k135 S l1 l2 l3 l5 (l6 + 1)
set_option maxHeartbeats 4000000 in
set_option maxRecDepth 40000 in
theorem w_X12_leg_232 {F : xH} {ev : xEv} {prim : xRel} {d sz : Nat} {T : yT} {v : Int32} {S' : yS} (N : Nat) (k125 : yS → Int32 → Int32 → Int32 → Int32 → Option (Int32 × yS)) (k135 : yS → Int32 → Int32 → Int32 → Int32 → Int32 → Option (Int32 × yS)) (u125 : ∀ (S : yS) (l1 : Int32) (l2 : Int32) (l3 : Int32) (l5 : Int32) (hp : xH) (lv : xLv) (a0 : Nat) (fa0 : yAt T 12 8 0 a0) (g0 : xG lv 0 = some (.ref a0)) (g1 : xG lv 1 = some (.int l1)) (g2 : xG lv 2 = some (.int l2)) (g3 : xG lv 3 = some (.int l3)) (g5 : xG lv 5 = some (.int l5)) (hM : cR [8] F ev T S hp) (h : k125 S l1 l2 l3 l5 = some (v, S')), yWE ev.2.1 (xstr ev) (xCalls ev xmi (xprog ev) prim (d + 2)) (pX12_leg ev) (125, lv, [], hp, sz, 0) (ypQ [8] F ev T sz (some (.int v)) S')) (u135 : ∀ (S : yS) (l1 : Int32) (l2 : Int32) (l3 : Int32) (l5 : Int32) (l6 : Int32) (hp : xH) (lv : xLv) (a0 : Nat) (fa0 : yAt T 12 8 0 a0) (g0 : xG lv 0 = some (.ref a0)) (g1 : xG lv 1 = some (.int l1)) (g2 : xG lv 2 = some (.int l2)) (g3 : xG lv 3 = some (.int l3)) (g5 : xG lv 5 = some (.int l5)) (g6 : xG lv 6 = some (.int l6)) (hM : cR [8] F ev T S hp) (h : k135 S l1 l2 l3 l5 l6 = some (v, S')), yWE ev.2.1 (xstr ev) (xCalls ev xmi (xprog ev) prim (d + 2)) (pX12_leg ev) (135, lv, [], hp, sz, 0) (ypQ [8] F ev T sz (some (.int v)) S')) (S : yS) (l1 : Int32) (l2 : Int32) (l3 : Int32) (l5 : Int32) (l6 : Int32) (hp : xH) (lv : xLv) (a0 : Nat) (fa0 : yAt T 12 8 0 a0) (g0 : xG lv 0 = some (.ref a0)) (g1 : xG lv 1 = some (.int l1)) (g2 : xG lv 2 = some (.int l2)) (g3 : xG lv 3 = some (.int l3)) (g5 : xG lv 5 = some (.int l5)) (g6 : xG lv 6 = some (.int l6)) (hM : cR [8] F ev T S hp) (h : f_X12_leg_232 N k125 k135 S l1 l2 l3 l5 l6 = some (v, S')) : yWE ev.2.1 (xstr ev) (xCalls ev xmi (xprog ev) prim (d + 2)) (pX12_leg ev) (232, lv, [], hp, sz, 0) (ypQ [8] F ev T sz (some (.int v)) S') := by
  unfold f_X12_leg_232 at h
  refine ye_iinc rfl g6 ?_
  have g0_z1 := xG_o1 (i := 6) (v := .int (l6 + 1)) g0 rfl
  have g1_z1 := xG_o1 (i := 6) (v := .int (l6 + 1)) g1 rfl
  have g2_z1 := xG_o1 (i := 6) (v := .int (l6 + 1)) g2 rfl
  have g3_z1 := xG_o1 (i := 6) (v := .int (l6 + 1)) g3 rfl
  have g5_z1 := xG_o1 (i := 6) (v := .int (l6 + 1)) g5 rfl
  have g6_z1 := xG_same lv 6 (.int (l6 + 1))
  generalize xSt1 lv 6 (.int (l6 + 1)) = lvz1 at g0_z1 g1_z1 g2_z1 g3_z1 g5_z1 g6_z1 ⊢
  refine ye_p rfl rfl ?_
  exact u135 S l1 l2 l3 l5 (l6 + 1) hp lvz1 a0 fa0 g0_z1 g1_z1 g2_z1 g3_z1 g5_z1 g6_z1 hM h

def f_X12_leg_135 : Nat → Nat → (yS → Int32 → Int32 → Int32 → Int32 → Option (Int32 × yS)) → yS → Int32 → Int32 → Int32 → Int32 → Int32 → Option (Int32 × yS)
  | 0, _, _, _, _, _, _, _, _ => none
  | n + 1, N, k125, S, l1, l2, l3, l5, l6 => if 8 ≤ l6 then k125 S l1 l2 l3 (l5 + 1) else gA 64 ((8 * l5) + l1) fun j1 => gA 64 ((8 * l2) + l6) fun j2 => gA 64 ((8 * l5) + l2) fun j3 => gA 64 ((8 * l1) + l6) fun j4 => gA 64 ((8 * l5) + l6) fun j5 => if (S.2.1 8 10 j5) ≤ ((if ((S.2.1 8 10 j3) + (S.2.1 8 10 j4)) < ((S.2.1 8 10 j1) + (S.2.1 8 10 j2)) then ((S.2.1 8 10 j3) + (S.2.1 8 10 j4)) else ((S.2.1 8 10 j1) + (S.2.1 8 10 j2))) + l3) then f_X12_leg_232 N k125 (fun S l1 l2 l3 l5 l6 => f_X12_leg_135 n N k125 S l1 l2 l3 l5 l6) S l1 l2 l3 l5 l6 else gA 64 ((8 * l5) + l6) fun j6 => sq (yA S 8 10 (upd (S.2.1 8 10) j6 ((if ((S.2.1 8 10 j3) + (S.2.1 8 10 j4)) < ((S.2.1 8 10 j1) + (S.2.1 8 10 j2)) then ((S.2.1 8 10 j3) + (S.2.1 8 10 j4)) else ((S.2.1 8 10 j1) + (S.2.1 8 10 j2))) + l3))) fun S1 => f_X12_leg_232 N k125 (fun S l1 l2 l3 l5 l6 => f_X12_leg_135 n N k125 S l1 l2 l3 l5 l6) S1 l1 l2 l3 l5 l6
set_option maxHeartbeats 4000000 in
set_option maxRecDepth 40000 in
theorem w_X12_leg_135 {F : xH} {ev : xEv} {prim : xRel} {d sz : Nat} {T : yT} {v : Int32} {S' : yS} (N : Nat) (n : Nat) (k125 : yS → Int32 → Int32 → Int32 → Int32 → Option (Int32 × yS)) (u125 : ∀ (S : yS) (l1 : Int32) (l2 : Int32) (l3 : Int32) (l5 : Int32) (hp : xH) (lv : xLv) (a0 : Nat) (fa0 : yAt T 12 8 0 a0) (g0 : xG lv 0 = some (.ref a0)) (g1 : xG lv 1 = some (.int l1)) (g2 : xG lv 2 = some (.int l2)) (g3 : xG lv 3 = some (.int l3)) (g5 : xG lv 5 = some (.int l5)) (hM : cR [8] F ev T S hp) (h : k125 S l1 l2 l3 l5 = some (v, S')), yWE ev.2.1 (xstr ev) (xCalls ev xmi (xprog ev) prim (d + 2)) (pX12_leg ev) (125, lv, [], hp, sz, 0) (ypQ [8] F ev T sz (some (.int v)) S')) : ∀ (S : yS) (l1 : Int32) (l2 : Int32) (l3 : Int32) (l5 : Int32) (l6 : Int32) (hp : xH) (lv : xLv) (a0 : Nat) (fa0 : yAt T 12 8 0 a0) (g0 : xG lv 0 = some (.ref a0)) (g1 : xG lv 1 = some (.int l1)) (g2 : xG lv 2 = some (.int l2)) (g3 : xG lv 3 = some (.int l3)) (g5 : xG lv 5 = some (.int l5)) (g6 : xG lv 6 = some (.int l6)) (hM : cR [8] F ev T S hp) (h : f_X12_leg_135 n N k125 S l1 l2 l3 l5 l6 = some (v, S')), yWE ev.2.1 (xstr ev) (xCalls ev xmi (xprog ev) prim (d + 2)) (pX12_leg ev) (135, lv, [], hp, sz, 0) (ypQ [8] F ev T sz (some (.int v)) S') := by
  induction n with
  | zero => intro S l1 l2 l3 l5 l6 hp lv a0 fa0 g0 g1 g2 g3 g5 g6 hM h; exact n_some h
  | succ n ih =>
    intro S l1 l2 l3 l5 l6 hp lv a0 fa0 g0 g1 g2 g3 g5 g6 hM h
    unfold f_X12_leg_135 at h
    refine ye_iload rfl g6 ?_
    refine ye_p rfl rfl ?_
    refine ye_icmp_ge rfl (fun h1 => ?_) (fun h1 => ?_)
    · replace h := yiT h1 h
      refine ye_iinc rfl g5 ?_
      have g0_z1 := xG_o1 (i := 5) (v := .int (l5 + 1)) g0 rfl
      have g1_z1 := xG_o1 (i := 5) (v := .int (l5 + 1)) g1 rfl
      have g2_z1 := xG_o1 (i := 5) (v := .int (l5 + 1)) g2 rfl
      have g3_z1 := xG_o1 (i := 5) (v := .int (l5 + 1)) g3 rfl
      have g5_z1 := xG_same lv 5 (.int (l5 + 1))
      generalize xSt1 lv 5 (.int (l5 + 1)) = lvz1 at g0_z1 g1_z1 g2_z1 g3_z1 g5_z1 ⊢
      refine ye_p rfl rfl ?_
      exact u125 S l1 l2 l3 (l5 + 1) hp lvz1 a0 fa0 g0_z1 g1_z1 g2_z1 g3_z1 g5_z1 hM h
    · replace h := yiN h1 h
      refine ye_aload rfl g0 ?_
      refine ye_getr rfl (hM.obj fa0 ⟨rfl, rfl⟩) rfl (fun cx1 ecx1 => ?_)
      have fcx1 := yAt.row fa0 ecx1
      refine ye_p rfl rfl ?_
      refine ye_iload rfl g5 ?_
      refine ye_p rfl rfl ?_
      refine ye_iload rfl g1 ?_
      refine ye_p rfl rfl ?_
      obtain ⟨j1, ej1, ij1, h⟩ := gA_some h
      refine yj_ald rfl (hM.arr fcx1 yr_12_10) ij1 ej1 ?_
      refine ye_aload rfl g0 ?_
      refine ye_getr rfl (hM.obj fa0 ⟨rfl, rfl⟩) rfl (fun cx2 ecx2 => ?_)
      have fcx2 := yAt.row fa0 ecx2
      refine ye_p rfl rfl ?_
      refine ye_iload rfl g2 ?_
      refine ye_p rfl rfl ?_
      refine ye_iload rfl g6 ?_
      refine ye_p rfl rfl ?_
      obtain ⟨j2, ej2, ij2, h⟩ := gA_some h
      refine yj_ald rfl (hM.arr fcx2 yr_12_10) ij2 ej2 ?_
      refine ye_p rfl rfl ?_
      refine ye_aload rfl g0 ?_
      refine ye_getr rfl (hM.obj fa0 ⟨rfl, rfl⟩) rfl (fun cx3 ecx3 => ?_)
      have fcx3 := yAt.row fa0 ecx3
      refine ye_p rfl rfl ?_
      refine ye_iload rfl g5 ?_
      refine ye_p rfl rfl ?_
      refine ye_iload rfl g2 ?_
      refine ye_p rfl rfl ?_
      obtain ⟨j3, ej3, ij3, h⟩ := gA_some h
      refine yj_ald rfl (hM.arr fcx3 yr_12_10) ij3 ej3 ?_
      refine ye_aload rfl g0 ?_
      refine ye_getr rfl (hM.obj fa0 ⟨rfl, rfl⟩) rfl (fun cx4 ecx4 => ?_)
      have fcx4 := yAt.row fa0 ecx4
      refine ye_p rfl rfl ?_
      refine ye_iload rfl g1 ?_
      refine ye_p rfl rfl ?_
      refine ye_iload rfl g6 ?_
      refine ye_p rfl rfl ?_
      obtain ⟨j4, ej4, ij4, h⟩ := gA_some h
      refine yj_ald rfl (hM.arr fcx4 yr_12_10) ij4 ej4 ?_
      refine ye_p rfl rfl ?_
      refine ye_p rfl rfl ?_
      refine ye_iload rfl g3 ?_
      refine ye_p rfl rfl ?_
      refine ye_p rfl rfl ?_
      have g0_z2 := xG_o1 (i := 7) (v := .int ((if ((S.2.1 8 10 j3) + (S.2.1 8 10 j4)) < ((S.2.1 8 10 j1) + (S.2.1 8 10 j2)) then ((S.2.1 8 10 j3) + (S.2.1 8 10 j4)) else ((S.2.1 8 10 j1) + (S.2.1 8 10 j2))) + l3)) g0 rfl
      have g1_z2 := xG_o1 (i := 7) (v := .int ((if ((S.2.1 8 10 j3) + (S.2.1 8 10 j4)) < ((S.2.1 8 10 j1) + (S.2.1 8 10 j2)) then ((S.2.1 8 10 j3) + (S.2.1 8 10 j4)) else ((S.2.1 8 10 j1) + (S.2.1 8 10 j2))) + l3)) g1 rfl
      have g2_z2 := xG_o1 (i := 7) (v := .int ((if ((S.2.1 8 10 j3) + (S.2.1 8 10 j4)) < ((S.2.1 8 10 j1) + (S.2.1 8 10 j2)) then ((S.2.1 8 10 j3) + (S.2.1 8 10 j4)) else ((S.2.1 8 10 j1) + (S.2.1 8 10 j2))) + l3)) g2 rfl
      have g3_z2 := xG_o1 (i := 7) (v := .int ((if ((S.2.1 8 10 j3) + (S.2.1 8 10 j4)) < ((S.2.1 8 10 j1) + (S.2.1 8 10 j2)) then ((S.2.1 8 10 j3) + (S.2.1 8 10 j4)) else ((S.2.1 8 10 j1) + (S.2.1 8 10 j2))) + l3)) g3 rfl
      have g5_z2 := xG_o1 (i := 7) (v := .int ((if ((S.2.1 8 10 j3) + (S.2.1 8 10 j4)) < ((S.2.1 8 10 j1) + (S.2.1 8 10 j2)) then ((S.2.1 8 10 j3) + (S.2.1 8 10 j4)) else ((S.2.1 8 10 j1) + (S.2.1 8 10 j2))) + l3)) g5 rfl
      have g6_z2 := xG_o1 (i := 7) (v := .int ((if ((S.2.1 8 10 j3) + (S.2.1 8 10 j4)) < ((S.2.1 8 10 j1) + (S.2.1 8 10 j2)) then ((S.2.1 8 10 j3) + (S.2.1 8 10 j4)) else ((S.2.1 8 10 j1) + (S.2.1 8 10 j2))) + l3)) g6 rfl
      have g7_z2 := xG_same lv 7 (.int ((if ((S.2.1 8 10 j3) + (S.2.1 8 10 j4)) < ((S.2.1 8 10 j1) + (S.2.1 8 10 j2)) then ((S.2.1 8 10 j3) + (S.2.1 8 10 j4)) else ((S.2.1 8 10 j1) + (S.2.1 8 10 j2))) + l3))
      generalize xSt1 lv 7 (.int ((if ((S.2.1 8 10 j3) + (S.2.1 8 10 j4)) < ((S.2.1 8 10 j1) + (S.2.1 8 10 j2)) then ((S.2.1 8 10 j3) + (S.2.1 8 10 j4)) else ((S.2.1 8 10 j1) + (S.2.1 8 10 j2))) + l3)) = lvz2 at g0_z2 g1_z2 g2_z2 g3_z2 g5_z2 g6_z2 g7_z2 ⊢
      refine ye_iload rfl g7_z2 ?_
      refine ye_aload rfl g0_z2 ?_
      refine ye_getr rfl (hM.obj fa0 ⟨rfl, rfl⟩) rfl (fun cx5 ecx5 => ?_)
      have fcx5 := yAt.row fa0 ecx5
      refine ye_p rfl rfl ?_
      refine ye_iload rfl g5_z2 ?_
      refine ye_p rfl rfl ?_
      refine ye_iload rfl g6_z2 ?_
      refine ye_p rfl rfl ?_
      obtain ⟨j5, ej5, ij5, h⟩ := gA_some h
      refine yj_ald rfl (hM.arr fcx5 yr_12_10) ij5 ej5 ?_
      refine ye_icmp_ge rfl (fun h2 => ?_) (fun h2 => ?_)
      · replace h := yiT h2 h
        exact w_X12_leg_232 (prim := prim) (d := d) N k125 (fun S l1 l2 l3 l5 l6 => f_X12_leg_135 n N k125 S l1 l2 l3 l5 l6) u125 ih S l1 l2 l3 l5 l6 hp lvz2 a0 fa0 g0_z2 g1_z2 g2_z2 g3_z2 g5_z2 g6_z2 hM h
      · replace h := yiN h2 h
        refine ye_aload rfl g0_z2 ?_
        refine ye_getr rfl (hM.obj fa0 ⟨rfl, rfl⟩) rfl (fun cx6 ecx6 => ?_)
        have fcx6 := yAt.row fa0 ecx6
        refine ye_p rfl rfl ?_
        refine ye_iload rfl g5_z2 ?_
        refine ye_p rfl rfl ?_
        refine ye_iload rfl g6_z2 ?_
        refine ye_p rfl rfl ?_
        refine ye_iload rfl g7_z2 ?_
        obtain ⟨j6, ej6, ij6, h⟩ := gA_some h
        obtain ⟨S1, eS1, h⟩ := sq_some h
        refine yw_ast rfl hM fcx6 yr_12_10 (by decide) ij6 ej6 eS1 (fun y1 M1 => ?_)
        exact w_X12_leg_232 (prim := prim) (d := d) N k125 (fun S l1 l2 l3 l5 l6 => f_X12_leg_135 n N k125 S l1 l2 l3 l5 l6) u125 ih S1 l1 l2 l3 l5 l6 y1 lvz2 a0 fa0 g0_z2 g1_z2 g2_z2 g3_z2 g5_z2 g6_z2 M1 h

def f_X12_leg_125 : Nat → Nat → yS → Int32 → Int32 → Int32 → Int32 → Option (Int32 × yS)
  | 0, _, _, _, _, _, _ => none
  | n + 1, N, S, l1, l2, l3, l5 => if 8 ≤ l5 then some ((S.1 8 9) - 1, S) else f_X12_leg_135 N N (fun S l1 l2 l3 l5 => f_X12_leg_125 n N S l1 l2 l3 l5) S l1 l2 l3 l5 0
set_option maxHeartbeats 4000000 in
set_option maxRecDepth 40000 in
theorem w_X12_leg_125 {F : xH} {ev : xEv} {prim : xRel} {d sz : Nat} {T : yT} {v : Int32} {S' : yS} (N : Nat) (n : Nat) : ∀ (S : yS) (l1 : Int32) (l2 : Int32) (l3 : Int32) (l5 : Int32) (hp : xH) (lv : xLv) (a0 : Nat) (fa0 : yAt T 12 8 0 a0) (g0 : xG lv 0 = some (.ref a0)) (g1 : xG lv 1 = some (.int l1)) (g2 : xG lv 2 = some (.int l2)) (g3 : xG lv 3 = some (.int l3)) (g5 : xG lv 5 = some (.int l5)) (hM : cR [8] F ev T S hp) (h : f_X12_leg_125 n N S l1 l2 l3 l5 = some (v, S')), yWE ev.2.1 (xstr ev) (xCalls ev xmi (xprog ev) prim (d + 2)) (pX12_leg ev) (125, lv, [], hp, sz, 0) (ypQ [8] F ev T sz (some (.int v)) S') := by
  induction n with
  | zero => intro S l1 l2 l3 l5 hp lv a0 fa0 g0 g1 g2 g3 g5 hM h; exact n_some h
  | succ n ih =>
    intro S l1 l2 l3 l5 hp lv a0 fa0 g0 g1 g2 g3 g5 hM h
    unfold f_X12_leg_125 at h
    refine ye_iload rfl g5 ?_
    refine ye_p rfl rfl ?_
    refine ye_icmp_ge rfl (fun h1 => ?_) (fun h1 => ?_)
    · replace h := yiT h1 h
      refine ye_aload rfl g0 ?_
      refine ye_getf rfl (hM.obj fa0 ⟨rfl, rfl⟩) rfl ?_
      refine ye_p rfl rfl ?_
      refine ye_p rfl rfl ?_
      exact ye_ret rfl rfl (rQ h hM)
    · replace h := yiN h1 h
      refine ye_p rfl rfl ?_
      refine ye_p rfl rfl ?_
      have g0_z1 := xG_o1 (i := 6) (v := .int 0) g0 rfl
      have g1_z1 := xG_o1 (i := 6) (v := .int 0) g1 rfl
      have g2_z1 := xG_o1 (i := 6) (v := .int 0) g2 rfl
      have g3_z1 := xG_o1 (i := 6) (v := .int 0) g3 rfl
      have g5_z1 := xG_o1 (i := 6) (v := .int 0) g5 rfl
      have g6_z1 := xG_same lv 6 (.int 0)
      generalize xSt1 lv 6 (.int 0) = lvz1 at g0_z1 g1_z1 g2_z1 g3_z1 g5_z1 g6_z1 ⊢
      exact w_X12_leg_135 (prim := prim) (d := d) N N (fun S l1 l2 l3 l5 => f_X12_leg_125 n N S l1 l2 l3 l5) ih S l1 l2 l3 l5 0 hp lvz1 a0 fa0 g0_z1 g1_z1 g2_z1 g3_z1 g5_z1 g6_z1 hM h

def f_X12_leg_0 (N : Nat) (S : yS) (l1 : Int32) (l2 : Int32) (l3 : Int32) (l4 : Int32) : Option (Int32 × yS) := sq (yI S 8 47 0) fun S1 => bV (f_X12_isField N S1 l1) fun w1 => if w1 = 0 then f_X12_leg_59 N S1 else bV (f_X12_isField N S1 l2) fun w2 => if w2 = 0 then f_X12_leg_59 N S1 else if l1 = l2 then f_X12_leg_59 N S1 else bV (f_X12_in N S1 l3 10 400) fun w3 => if w3 = 0 then f_X12_leg_59 N S1 else bV (f_X12_in N S1 l4 0 150) fun w4 => if w4 = 0 then f_X12_leg_59 N S1 else if ¬ (S1.1 8 9) = 12 then gA 12 (S1.1 8 9) fun j1 => sq (yA S1 8 2 (upd (S1.2.1 8 2) j1 l1)) fun S2 => gA 12 (S2.1 8 9) fun j2 => sq (yA S2 8 3 (upd (S2.2.1 8 3) j2 l2)) fun S3 => gA 12 (S3.1 8 9) fun j3 => sq (yA S3 8 4 (upd (S3.2.1 8 4) j3 l3)) fun S4 => gA 12 (S4.1 8 9) fun j4 => sq (yA S4 8 5 (upd (S4.2.1 8 5) j4 l4)) fun S5 => gA 12 (S5.1 8 9) fun j5 => sq (yA S5 8 8 (upd (S5.2.1 8 8) j5 0)) fun S6 => sq (yI S6 8 9 ((S6.1 8 9) + 1)) fun S7 => f_X12_leg_125 N N S7 l1 l2 l3 0 else f_X12_leg_59 N S1
set_option maxHeartbeats 4000000 in
set_option maxRecDepth 40000 in
theorem w_X12_leg_0 {F : xH} {ev : xEv} {prim : xRel} {d sz : Nat} {T : yT} {v : Int32} {S' : yS} (N : Nat) (S : yS) (l1 : Int32) (l2 : Int32) (l3 : Int32) (l4 : Int32) (hp : xH) (lv : xLv) (a0 : Nat) (fa0 : yAt T 12 8 0 a0) (g0 : xG lv 0 = some (.ref a0)) (g1 : xG lv 1 = some (.int l1)) (g2 : xG lv 2 = some (.int l2)) (g3 : xG lv 3 = some (.int l3)) (g4 : xG lv 4 = some (.int l4)) (hM : cR [8] F ev T S hp) (h : f_X12_leg_0 N S l1 l2 l3 l4 = some (v, S')) : yWE ev.2.1 (xstr ev) (xCalls ev xmi (xprog ev) prim (d + 2)) (pX12_leg ev) (0, lv, [], hp, sz, 0) (ypQ [8] F ev T sz (some (.int v)) S') := by
  unfold f_X12_leg_0 at h
  refine ye_aload rfl g0 ?_
  refine ye_p rfl rfl ?_
  obtain ⟨S1, eS1, h⟩ := sq_some h
  refine yw_putI rfl hM fa0 rfl ⟨rfl, rfl⟩ (Nat.le_of_ble_eq_true rfl) rfl rfl (ys_12_47 ev T _ 0) (fun q => absurd q (by decide)) eS1 (fun y1 M1 => ?_)
  refine ye_aload rfl g0 ?_
  refine ye_iload rfl g1 ?_
  obtain ⟨w1, hw1, h⟩ := bV_some h
  refine ye_callV (As := [.int l1]) (rest := []) 0 (Or.inl rfl) rfl rfl rfl (Nat.le_of_ble_eq_true rfl) (M1.obj fa0 ⟨rfl, rfl⟩) ((m_X12_isField (d := d + 0) (T := T) N S1 l1 a0 fa0 hw1) y1 sz M1) ?_
  refine ye_if_eq rfl (fun h1 => ?_) (fun h1 => ?_)
  · replace h := yiT h1 h
    exact w_X12_leg_59 (prim := prim) (d := d) N S1 y1 lv M1 h
  · replace h := yiN h1 h
    refine ye_aload rfl g0 ?_
    refine ye_iload rfl g2 ?_
    obtain ⟨w2, hw2, h⟩ := bV_some h
    refine ye_callV (As := [.int l2]) (rest := []) 0 (Or.inl rfl) rfl rfl rfl (Nat.le_of_ble_eq_true rfl) (M1.obj fa0 ⟨rfl, rfl⟩) ((m_X12_isField (d := d + 0) (T := T) N S1 l2 a0 fa0 hw2) y1 sz M1) ?_
    refine ye_if_eq rfl (fun h2 => ?_) (fun h2 => ?_)
    · replace h := yiT h2 h
      exact w_X12_leg_59 (prim := prim) (d := d) N S1 y1 lv M1 h
    · replace h := yiN h2 h
      refine ye_iload rfl g1 ?_
      refine ye_iload rfl g2 ?_
      refine ye_icmp_eq rfl (fun h3 => ?_) (fun h3 => ?_)
      · replace h := yiT h3 h
        exact w_X12_leg_59 (prim := prim) (d := d) N S1 y1 lv M1 h
      · replace h := yiN h3 h
        refine ye_iload rfl g3 ?_
        refine ye_p rfl rfl ?_
        refine ye_p rfl rfl ?_
        obtain ⟨w3, hw3, h⟩ := bV_some h
        refine ye_callS (As := [.int l3, .int 10, .int 400]) (rest := []) 1 (Or.inl rfl) rfl rfl rfl (Nat.le_of_ble_eq_true rfl) ((m_X12_in (d := d + 1) (T := T) N S1 l3 10 400 hw3) y1 sz M1) ?_
        refine ye_if_eq rfl (fun h4 => ?_) (fun h4 => ?_)
        · replace h := yiT h4 h
          exact w_X12_leg_59 (prim := prim) (d := d) N S1 y1 lv M1 h
        · replace h := yiN h4 h
          refine ye_iload rfl g4 ?_
          refine ye_p rfl rfl ?_
          refine ye_p rfl rfl ?_
          obtain ⟨w4, hw4, h⟩ := bV_some h
          refine ye_callS (As := [.int l4, .int 0, .int 150]) (rest := []) 1 (Or.inl rfl) rfl rfl rfl (Nat.le_of_ble_eq_true rfl) ((m_X12_in (d := d + 1) (T := T) N S1 l4 0 150 hw4) y1 sz M1) ?_
          refine ye_if_eq rfl (fun h5 => ?_) (fun h5 => ?_)
          · replace h := yiT h5 h
            exact w_X12_leg_59 (prim := prim) (d := d) N S1 y1 lv M1 h
          · replace h := yiN h5 h
            refine ye_aload rfl g0 ?_
            refine ye_getf rfl (M1.obj fa0 ⟨rfl, rfl⟩) rfl ?_
            refine ye_p rfl rfl ?_
            refine ye_icmp_ne rfl (fun h6 => ?_) (fun h6 => ?_)
            · replace h := yiT h6 h
              refine ye_aload rfl g0 ?_
              refine ye_getr rfl (M1.obj fa0 ⟨rfl, rfl⟩) rfl (fun cx1 ecx1 => ?_)
              have fcx1 := yAt.row fa0 ecx1
              refine ye_aload rfl g0 ?_
              refine ye_getf rfl (M1.obj fa0 ⟨rfl, rfl⟩) rfl ?_
              refine ye_iload rfl g1 ?_
              obtain ⟨j1, ej1, ij1, h⟩ := gA_some h
              obtain ⟨S2, eS2, h⟩ := sq_some h
              refine yw_ast rfl M1 fcx1 yr_12_2 (by decide) ij1 ej1 eS2 (fun y2 M2 => ?_)
              refine ye_aload rfl g0 ?_
              refine ye_getr rfl (M2.obj fa0 ⟨rfl, rfl⟩) rfl (fun cx2 ecx2 => ?_)
              have fcx2 := yAt.row fa0 ecx2
              refine ye_aload rfl g0 ?_
              refine ye_getf rfl (M2.obj fa0 ⟨rfl, rfl⟩) rfl ?_
              refine ye_iload rfl g2 ?_
              obtain ⟨j2, ej2, ij2, h⟩ := gA_some h
              obtain ⟨S3, eS3, h⟩ := sq_some h
              refine yw_ast rfl M2 fcx2 yr_12_3 (by decide) ij2 ej2 eS3 (fun y3 M3 => ?_)
              refine ye_aload rfl g0 ?_
              refine ye_getr rfl (M3.obj fa0 ⟨rfl, rfl⟩) rfl (fun cx3 ecx3 => ?_)
              have fcx3 := yAt.row fa0 ecx3
              refine ye_aload rfl g0 ?_
              refine ye_getf rfl (M3.obj fa0 ⟨rfl, rfl⟩) rfl ?_
              refine ye_iload rfl g3 ?_
              obtain ⟨j3, ej3, ij3, h⟩ := gA_some h
              obtain ⟨S4, eS4, h⟩ := sq_some h
              refine yw_ast rfl M3 fcx3 yr_12_4 (by decide) ij3 ej3 eS4 (fun y4 M4 => ?_)
              refine ye_aload rfl g0 ?_
              refine ye_getr rfl (M4.obj fa0 ⟨rfl, rfl⟩) rfl (fun cx4 ecx4 => ?_)
              have fcx4 := yAt.row fa0 ecx4
              refine ye_aload rfl g0 ?_
              refine ye_getf rfl (M4.obj fa0 ⟨rfl, rfl⟩) rfl ?_
              refine ye_iload rfl g4 ?_
              obtain ⟨j4, ej4, ij4, h⟩ := gA_some h
              obtain ⟨S5, eS5, h⟩ := sq_some h
              refine yw_ast rfl M4 fcx4 yr_12_5 (by decide) ij4 ej4 eS5 (fun y5 M5 => ?_)
              refine ye_aload rfl g0 ?_
              refine ye_getr rfl (M5.obj fa0 ⟨rfl, rfl⟩) rfl (fun cx5 ecx5 => ?_)
              have fcx5 := yAt.row fa0 ecx5
              refine ye_aload rfl g0 ?_
              refine ye_getf rfl (M5.obj fa0 ⟨rfl, rfl⟩) rfl ?_
              refine ye_p rfl rfl ?_
              obtain ⟨j5, ej5, ij5, h⟩ := gA_some h
              obtain ⟨S6, eS6, h⟩ := sq_some h
              refine yw_ast rfl M5 fcx5 yr_12_8 (by decide) ij5 ej5 eS6 (fun y6 M6 => ?_)
              refine ye_aload rfl g0 ?_
              refine ye_p rfl rfl ?_
              refine ye_getf rfl (M6.obj fa0 ⟨rfl, rfl⟩) rfl ?_
              refine ye_p rfl rfl ?_
              refine ye_p rfl rfl ?_
              obtain ⟨S7, eS7, h⟩ := sq_some h
              refine yw_putI rfl M6 fa0 rfl ⟨rfl, rfl⟩ (Nat.le_of_ble_eq_true rfl) rfl rfl (ys_12_9 ev T _ ((S6.1 8 9) + 1)) (fun q => absurd q (by decide)) eS7 (fun y7 M7 => ?_)
              refine ye_p rfl rfl ?_
              refine ye_p rfl rfl ?_
              have g0_z1 := xG_o1 (i := 5) (v := .int 0) g0 rfl
              have g1_z1 := xG_o1 (i := 5) (v := .int 0) g1 rfl
              have g2_z1 := xG_o1 (i := 5) (v := .int 0) g2 rfl
              have g3_z1 := xG_o1 (i := 5) (v := .int 0) g3 rfl
              have g5_z1 := xG_same lv 5 (.int 0)
              generalize xSt1 lv 5 (.int 0) = lvz1 at g0_z1 g1_z1 g2_z1 g3_z1 g5_z1 ⊢
              exact w_X12_leg_125 (prim := prim) (d := d) N N S7 l1 l2 l3 0 y7 lvz1 a0 fa0 g0_z1 g1_z1 g2_z1 g3_z1 g5_z1 M7 h
            · replace h := yiN h6 h
              exact w_X12_leg_59 (prim := prim) (d := d) N S1 y1 lv M1 h
def f_X12_leg (N : Nat) (S : yS) (xl1 : Int32) (xl2 : Int32) (xl3 : Int32) (xl4 : Int32) : Option (Int32 × yS) := f_X12_leg_0 N S xl1 xl2 xl3 xl4
theorem m_X12_leg {F : xH} {ev : xEv} {prim : xRel} {d : Nat} {T : yT} {v : Int32} {S' : yS} (N : Nat) (S : yS) (xl1 : Int32) (xl2 : Int32) (xl3 : Int32) (xl4 : Int32) (a0 : Nat) (fa0 : yAt T 12 8 0 a0) (h : f_X12_leg N S xl1 xl2 xl3 xl4 = some (v, S')) : ykQ [8] F ev prim (d + 3) 207 T S [.ref a0, .int xl1, .int xl2, .int xl3, .int xl4] (some (.int v)) S' :=
  ykQ.of (pg_207 ev) mi_207 (Nat.le_of_ble_eq_true rfl) (fun hp sz hM => w_X12_leg_0 (prim := prim) (d := d) N S xl1 xl2 xl3 xl4 hp _ a0 fa0 rfl rfl rfl rfl rfl hM h)

def f_X12_ground_48 (N : Nat) (S : yS) : Option (Int32 × yS) := some ((-1), S)
set_option maxHeartbeats 4000000 in
set_option maxRecDepth 40000 in
theorem w_X12_ground_48 {F : xH} {ev : xEv} {prim : xRel} {d sz : Nat} {T : yT} {v : Int32} {S' : yS} (N : Nat) (S : yS) (hp : xH) (lv : xLv) (hM : cR [8] F ev T S hp) (h : f_X12_ground_48 N S = some (v, S')) : yWE ev.2.1 (xstr ev) (xCalls ev xmi (xprog ev) prim (d + 2)) (pX12_ground ev) (48, lv, [], hp, sz, 0) (ypQ [8] F ev T sz (some (.int v)) S') := by
  unfold f_X12_ground_48 at h
  refine ye_p rfl rfl ?_
  exact ye_ret rfl rfl (rQ h hM)

def f_X12_ground_0 (N : Nat) (S : yS) (l1 : Int32) (l2 : Int32) (l3 : Int32) : Option (Int32 × yS) := sq (yI S 8 47 0) fun S1 => bV (f_X12_isLeg N S1 l1) fun w1 => if w1 = 0 then f_X12_ground_48 N S1 else gA 12 l1 fun j1 => bV (f_X12_in N S1 l2 1 ((S1.2.1 8 4 j1) - 1)) fun w2 => if w2 = 0 then f_X12_ground_48 N S1 else bV (f_X12_in N S1 l3 0 3) fun w3 => if w3 = 0 then f_X12_ground_48 N S1 else gA 12 l1 fun j2 => if ¬ (S1.2.1 8 8 j2) = 4 then gA 12 l1 fun j3 => gA 48 ((4 * l1) + (S1.2.1 8 8 j3)) fun j4 => sq (yA S1 8 6 (upd (S1.2.1 8 6) j4 l2)) fun S2 => gA 12 l1 fun j5 => gA 48 ((4 * l1) + (S2.2.1 8 8 j5)) fun j6 => sq (yA S2 8 7 (upd (S2.2.1 8 7) j6 l3)) fun S3 => gA 12 l1 fun j7 => gA 12 l1 fun j8 => sq (yA S3 8 8 (upd (S3.2.1 8 8) j8 ((S3.2.1 8 8 j7) + 1))) fun S4 => gA 12 l1 fun j9 => some (S4.2.1 8 8 j9, S4) else f_X12_ground_48 N S1
set_option maxHeartbeats 4000000 in
set_option maxRecDepth 40000 in
theorem w_X12_ground_0 {F : xH} {ev : xEv} {prim : xRel} {d sz : Nat} {T : yT} {v : Int32} {S' : yS} (N : Nat) (S : yS) (l1 : Int32) (l2 : Int32) (l3 : Int32) (hp : xH) (lv : xLv) (a0 : Nat) (fa0 : yAt T 12 8 0 a0) (g0 : xG lv 0 = some (.ref a0)) (g1 : xG lv 1 = some (.int l1)) (g2 : xG lv 2 = some (.int l2)) (g3 : xG lv 3 = some (.int l3)) (hM : cR [8] F ev T S hp) (h : f_X12_ground_0 N S l1 l2 l3 = some (v, S')) : yWE ev.2.1 (xstr ev) (xCalls ev xmi (xprog ev) prim (d + 2)) (pX12_ground ev) (0, lv, [], hp, sz, 0) (ypQ [8] F ev T sz (some (.int v)) S') := by
  unfold f_X12_ground_0 at h
  refine ye_aload rfl g0 ?_
  refine ye_p rfl rfl ?_
  obtain ⟨S1, eS1, h⟩ := sq_some h
  refine yw_putI rfl hM fa0 rfl ⟨rfl, rfl⟩ (Nat.le_of_ble_eq_true rfl) rfl rfl (ys_12_47 ev T _ 0) (fun q => absurd q (by decide)) eS1 (fun y1 M1 => ?_)
  refine ye_aload rfl g0 ?_
  refine ye_iload rfl g1 ?_
  obtain ⟨w1, hw1, h⟩ := bV_some h
  refine ye_callV (As := [.int l1]) (rest := []) 0 (Or.inl rfl) rfl rfl rfl (Nat.le_of_ble_eq_true rfl) (M1.obj fa0 ⟨rfl, rfl⟩) ((m_X12_isLeg (d := d + 0) (T := T) N S1 l1 a0 fa0 hw1) y1 sz M1) ?_
  refine ye_if_eq rfl (fun h1 => ?_) (fun h1 => ?_)
  · replace h := yiT h1 h
    exact w_X12_ground_48 (prim := prim) (d := d) N S1 y1 lv M1 h
  · replace h := yiN h1 h
    refine ye_iload rfl g2 ?_
    refine ye_p rfl rfl ?_
    refine ye_aload rfl g0 ?_
    refine ye_getr rfl (M1.obj fa0 ⟨rfl, rfl⟩) rfl (fun cx1 ecx1 => ?_)
    have fcx1 := yAt.row fa0 ecx1
    refine ye_iload rfl g1 ?_
    obtain ⟨j1, ej1, ij1, h⟩ := gA_some h
    refine yj_ald rfl (M1.arr fcx1 yr_12_4) ij1 ej1 ?_
    refine ye_p rfl rfl ?_
    refine ye_p rfl rfl ?_
    obtain ⟨w2, hw2, h⟩ := bV_some h
    refine ye_callS (As := [.int l2, .int 1, .int ((S1.2.1 8 4 j1) - 1)]) (rest := []) 1 (Or.inl rfl) rfl rfl rfl (Nat.le_of_ble_eq_true rfl) ((m_X12_in (d := d + 1) (T := T) N S1 l2 1 ((S1.2.1 8 4 j1) - 1) hw2) y1 sz M1) ?_
    refine ye_if_eq rfl (fun h2 => ?_) (fun h2 => ?_)
    · replace h := yiT h2 h
      exact w_X12_ground_48 (prim := prim) (d := d) N S1 y1 lv M1 h
    · replace h := yiN h2 h
      refine ye_iload rfl g3 ?_
      refine ye_p rfl rfl ?_
      refine ye_p rfl rfl ?_
      obtain ⟨w3, hw3, h⟩ := bV_some h
      refine ye_callS (As := [.int l3, .int 0, .int 3]) (rest := []) 1 (Or.inl rfl) rfl rfl rfl (Nat.le_of_ble_eq_true rfl) ((m_X12_in (d := d + 1) (T := T) N S1 l3 0 3 hw3) y1 sz M1) ?_
      refine ye_if_eq rfl (fun h3 => ?_) (fun h3 => ?_)
      · replace h := yiT h3 h
        exact w_X12_ground_48 (prim := prim) (d := d) N S1 y1 lv M1 h
      · replace h := yiN h3 h
        refine ye_aload rfl g0 ?_
        refine ye_getr rfl (M1.obj fa0 ⟨rfl, rfl⟩) rfl (fun cx2 ecx2 => ?_)
        have fcx2 := yAt.row fa0 ecx2
        refine ye_iload rfl g1 ?_
        obtain ⟨j2, ej2, ij2, h⟩ := gA_some h
        refine yj_ald rfl (M1.arr fcx2 yr_12_8) ij2 ej2 ?_
        refine ye_p rfl rfl ?_
        refine ye_icmp_ne rfl (fun h4 => ?_) (fun h4 => ?_)
        · replace h := yiT h4 h
          refine ye_aload rfl g0 ?_
          refine ye_getr rfl (M1.obj fa0 ⟨rfl, rfl⟩) rfl (fun cx3 ecx3 => ?_)
          have fcx3 := yAt.row fa0 ecx3
          refine ye_p rfl rfl ?_
          refine ye_iload rfl g1 ?_
          refine ye_p rfl rfl ?_
          refine ye_aload rfl g0 ?_
          refine ye_getr rfl (M1.obj fa0 ⟨rfl, rfl⟩) rfl (fun cx4 ecx4 => ?_)
          have fcx4 := yAt.row fa0 ecx4
          refine ye_iload rfl g1 ?_
          obtain ⟨j3, ej3, ij3, h⟩ := gA_some h
          refine yj_ald rfl (M1.arr fcx4 yr_12_8) ij3 ej3 ?_
          refine ye_p rfl rfl ?_
          refine ye_iload rfl g2 ?_
          obtain ⟨j4, ej4, ij4, h⟩ := gA_some h
          obtain ⟨S2, eS2, h⟩ := sq_some h
          refine yw_ast rfl M1 fcx3 yr_12_6 (by decide) ij4 ej4 eS2 (fun y2 M2 => ?_)
          refine ye_aload rfl g0 ?_
          refine ye_getr rfl (M2.obj fa0 ⟨rfl, rfl⟩) rfl (fun cx5 ecx5 => ?_)
          have fcx5 := yAt.row fa0 ecx5
          refine ye_p rfl rfl ?_
          refine ye_iload rfl g1 ?_
          refine ye_p rfl rfl ?_
          refine ye_aload rfl g0 ?_
          refine ye_getr rfl (M2.obj fa0 ⟨rfl, rfl⟩) rfl (fun cx6 ecx6 => ?_)
          have fcx6 := yAt.row fa0 ecx6
          refine ye_iload rfl g1 ?_
          obtain ⟨j5, ej5, ij5, h⟩ := gA_some h
          refine yj_ald rfl (M2.arr fcx6 yr_12_8) ij5 ej5 ?_
          refine ye_p rfl rfl ?_
          refine ye_iload rfl g3 ?_
          obtain ⟨j6, ej6, ij6, h⟩ := gA_some h
          obtain ⟨S3, eS3, h⟩ := sq_some h
          refine yw_ast rfl M2 fcx5 yr_12_7 (by decide) ij6 ej6 eS3 (fun y3 M3 => ?_)
          refine ye_aload rfl g0 ?_
          refine ye_getr rfl (M3.obj fa0 ⟨rfl, rfl⟩) rfl (fun cx7 ecx7 => ?_)
          have fcx7 := yAt.row fa0 ecx7
          refine ye_iload rfl g1 ?_
          refine ye_p rfl rfl ?_
          obtain ⟨j7, ej7, ij7, h⟩ := gA_some h
          refine yj_ald rfl (M3.arr fcx7 yr_12_8) ij7 ej7 ?_
          refine ye_p rfl rfl ?_
          refine ye_p rfl rfl ?_
          obtain ⟨j8, ej8, ij8, h⟩ := gA_some h
          obtain ⟨S4, eS4, h⟩ := sq_some h
          refine yw_ast rfl M3 fcx7 yr_12_8 (by decide) ij8 ej8 eS4 (fun y4 M4 => ?_)
          refine ye_aload rfl g0 ?_
          refine ye_getr rfl (M4.obj fa0 ⟨rfl, rfl⟩) rfl (fun cx8 ecx8 => ?_)
          have fcx8 := yAt.row fa0 ecx8
          refine ye_iload rfl g1 ?_
          obtain ⟨j9, ej9, ij9, h⟩ := gA_some h
          refine yj_ald rfl (M4.arr fcx8 yr_12_8) ij9 ej9 ?_
          exact ye_ret rfl rfl (rQ h M4)
        · replace h := yiN h4 h
          exact w_X12_ground_48 (prim := prim) (d := d) N S1 y1 lv M1 h
def f_X12_ground (N : Nat) (S : yS) (xl1 : Int32) (xl2 : Int32) (xl3 : Int32) : Option (Int32 × yS) := f_X12_ground_0 N S xl1 xl2 xl3
theorem m_X12_ground {F : xH} {ev : xEv} {prim : xRel} {d : Nat} {T : yT} {v : Int32} {S' : yS} (N : Nat) (S : yS) (xl1 : Int32) (xl2 : Int32) (xl3 : Int32) (a0 : Nat) (fa0 : yAt T 12 8 0 a0) (h : f_X12_ground N S xl1 xl2 xl3 = some (v, S')) : ykQ [8] F ev prim (d + 3) 208 T S [.ref a0, .int xl1, .int xl2, .int xl3] (some (.int v)) S' :=
  ykQ.of (pg_208 ev) mi_208 (Nat.le_of_ble_eq_true rfl) (fun hp sz hM => w_X12_ground_0 (prim := prim) (d := d) N S xl1 xl2 xl3 hp _ a0 fa0 rfl rfl rfl rfl hM h)

def f_X12_far_52 (N : Nat) (S : yS) (t0 : Int32) : Option (Int32 × yS) := some (t0, S)
set_option maxHeartbeats 4000000 in
set_option maxRecDepth 40000 in
theorem w_X12_far_52 {F : xH} {ev : xEv} {prim : xRel} {d sz : Nat} {T : yT} {v : Int32} {S' : yS} (N : Nat) (S : yS) (t0 : Int32) (hp : xH) (lv : xLv) (hM : cR [8] F ev T S hp) (h : f_X12_far_52 N S t0 = some (v, S')) : yWE ev.2.1 (xstr ev) (xCalls ev xmi (xprog ev) prim (d + 2)) (pX12_far ev) (52, lv, [.int t0], hp, sz, 0) (ypQ [8] F ev T sz (some (.int v)) S') := by
  unfold f_X12_far_52 at h
  exact ye_ret rfl rfl (rQ h hM)

def f_X12_far_51 (N : Nat) (S : yS) : Option (Int32 × yS) := f_X12_far_52 N S ((-1))
set_option maxHeartbeats 4000000 in
set_option maxRecDepth 40000 in
theorem w_X12_far_51 {F : xH} {ev : xEv} {prim : xRel} {d sz : Nat} {T : yT} {v : Int32} {S' : yS} (N : Nat) (S : yS) (hp : xH) (lv : xLv) (hM : cR [8] F ev T S hp) (h : f_X12_far_51 N S = some (v, S')) : yWE ev.2.1 (xstr ev) (xCalls ev xmi (xprog ev) prim (d + 2)) (pX12_far ev) (51, lv, [], hp, sz, 0) (ypQ [8] F ev T sz (some (.int v)) S') := by
  unfold f_X12_far_51 at h
  refine ye_p rfl rfl ?_
  exact w_X12_far_52 (prim := prim) (d := d) N S ((-1)) hp lv hM h

def f_X12_far_0 (N : Nat) (S : yS) (l1 : Int32) (l2 : Int32) : Option (Int32 × yS) := sq (yI S 8 47 0) fun S1 => bV (f_X12_isField N S1 l1) fun w1 => if w1 = 0 then f_X12_far_51 N S1 else bV (f_X12_isField N S1 l2) fun w2 => if w2 = 0 then f_X12_far_51 N S1 else gA 64 ((8 * l1) + l2) fun j1 => if 268435456 ≤ (S1.2.1 8 10 j1) then f_X12_far_51 N S1 else gA 64 ((8 * l1) + l2) fun j2 => f_X12_far_52 N S1 (S1.2.1 8 10 j2)
set_option maxHeartbeats 4000000 in
set_option maxRecDepth 40000 in
theorem w_X12_far_0 {F : xH} {ev : xEv} {prim : xRel} {d sz : Nat} {T : yT} {v : Int32} {S' : yS} (N : Nat) (S : yS) (l1 : Int32) (l2 : Int32) (hp : xH) (lv : xLv) (a0 : Nat) (fa0 : yAt T 12 8 0 a0) (g0 : xG lv 0 = some (.ref a0)) (g1 : xG lv 1 = some (.int l1)) (g2 : xG lv 2 = some (.int l2)) (hM : cR [8] F ev T S hp) (h : f_X12_far_0 N S l1 l2 = some (v, S')) : yWE ev.2.1 (xstr ev) (xCalls ev xmi (xprog ev) prim (d + 2)) (pX12_far ev) (0, lv, [], hp, sz, 0) (ypQ [8] F ev T sz (some (.int v)) S') := by
  unfold f_X12_far_0 at h
  refine ye_aload rfl g0 ?_
  refine ye_p rfl rfl ?_
  obtain ⟨S1, eS1, h⟩ := sq_some h
  refine yw_putI rfl hM fa0 rfl ⟨rfl, rfl⟩ (Nat.le_of_ble_eq_true rfl) rfl rfl (ys_12_47 ev T _ 0) (fun q => absurd q (by decide)) eS1 (fun y1 M1 => ?_)
  refine ye_aload rfl g0 ?_
  refine ye_iload rfl g1 ?_
  obtain ⟨w1, hw1, h⟩ := bV_some h
  refine ye_callV (As := [.int l1]) (rest := []) 0 (Or.inl rfl) rfl rfl rfl (Nat.le_of_ble_eq_true rfl) (M1.obj fa0 ⟨rfl, rfl⟩) ((m_X12_isField (d := d + 0) (T := T) N S1 l1 a0 fa0 hw1) y1 sz M1) ?_
  refine ye_if_eq rfl (fun h1 => ?_) (fun h1 => ?_)
  · replace h := yiT h1 h
    exact w_X12_far_51 (prim := prim) (d := d) N S1 y1 lv M1 h
  · replace h := yiN h1 h
    refine ye_aload rfl g0 ?_
    refine ye_iload rfl g2 ?_
    obtain ⟨w2, hw2, h⟩ := bV_some h
    refine ye_callV (As := [.int l2]) (rest := []) 0 (Or.inl rfl) rfl rfl rfl (Nat.le_of_ble_eq_true rfl) (M1.obj fa0 ⟨rfl, rfl⟩) ((m_X12_isField (d := d + 0) (T := T) N S1 l2 a0 fa0 hw2) y1 sz M1) ?_
    refine ye_if_eq rfl (fun h2 => ?_) (fun h2 => ?_)
    · replace h := yiT h2 h
      exact w_X12_far_51 (prim := prim) (d := d) N S1 y1 lv M1 h
    · replace h := yiN h2 h
      refine ye_aload rfl g0 ?_
      refine ye_getr rfl (M1.obj fa0 ⟨rfl, rfl⟩) rfl (fun cx1 ecx1 => ?_)
      have fcx1 := yAt.row fa0 ecx1
      refine ye_p rfl rfl ?_
      refine ye_iload rfl g1 ?_
      refine ye_p rfl rfl ?_
      refine ye_iload rfl g2 ?_
      refine ye_p rfl rfl ?_
      obtain ⟨j1, ej1, ij1, h⟩ := gA_some h
      refine yj_ald rfl (M1.arr fcx1 yr_12_10) ij1 ej1 ?_
      refine ye_p rfl rfl ?_
      refine ye_icmp_ge rfl (fun h3 => ?_) (fun h3 => ?_)
      · replace h := yiT h3 h
        exact w_X12_far_51 (prim := prim) (d := d) N S1 y1 lv M1 h
      · replace h := yiN h3 h
        refine ye_aload rfl g0 ?_
        refine ye_getr rfl (M1.obj fa0 ⟨rfl, rfl⟩) rfl (fun cx2 ecx2 => ?_)
        have fcx2 := yAt.row fa0 ecx2
        refine ye_p rfl rfl ?_
        refine ye_iload rfl g1 ?_
        refine ye_p rfl rfl ?_
        refine ye_iload rfl g2 ?_
        refine ye_p rfl rfl ?_
        obtain ⟨j2, ej2, ij2, h⟩ := gA_some h
        refine yj_ald rfl (M1.arr fcx2 yr_12_10) ij2 ej2 ?_
        refine ye_p rfl rfl ?_
        exact w_X12_far_52 (prim := prim) (d := d) N S1 (S1.2.1 8 10 j2) y1 lv M1 h
def f_X12_far (N : Nat) (S : yS) (xl1 : Int32) (xl2 : Int32) : Option (Int32 × yS) := f_X12_far_0 N S xl1 xl2
theorem m_X12_far {F : xH} {ev : xEv} {prim : xRel} {d : Nat} {T : yT} {v : Int32} {S' : yS} (N : Nat) (S : yS) (xl1 : Int32) (xl2 : Int32) (a0 : Nat) (fa0 : yAt T 12 8 0 a0) (h : f_X12_far N S xl1 xl2 = some (v, S')) : ykQ [8] F ev prim (d + 3) 209 T S [.ref a0, .int xl1, .int xl2] (some (.int v)) S' :=
  ykQ.of (pg_209 ev) mi_209 (Nat.le_of_ble_eq_true rfl) (fun hp sz hM => w_X12_far_0 (prim := prim) (d := d) N S xl1 xl2 hp _ a0 fa0 rfl rfl rfl hM h)

def f_X12_weather_56 (N : Nat) (S : yS) : Option (Int32 × yS) := some ((-1), S)
set_option maxHeartbeats 4000000 in
set_option maxRecDepth 40000 in
theorem w_X12_weather_56 {F : xH} {ev : xEv} {prim : xRel} {d sz : Nat} {T : yT} {v : Int32} {S' : yS} (N : Nat) (S : yS) (hp : xH) (lv : xLv) (hM : cR [8] F ev T S hp) (h : f_X12_weather_56 N S = some (v, S')) : yWE ev.2.1 (xstr ev) (xCalls ev xmi (xprog ev) prim (d + 2)) (pX12_weather ev) (56, lv, [], hp, sz, 0) (ypQ [8] F ev T sz (some (.int v)) S') := by
  unfold f_X12_weather_56 at h
  refine ye_p rfl rfl ?_
  exact ye_ret rfl rfl (rQ h hM)

def f_X12_weather_0 (N : Nat) (S : yS) (l1 : Int32) (l2 : Int32) (l3 : Int32) (l4 : Int32) : Option (Int32 × yS) := sq (yI S 8 47 0) fun S1 => bV (f_X12_isLeg N S1 l1) fun w1 => if w1 = 0 then f_X12_weather_56 N S1 else bV (f_X12_in N S1 l2 0 3000) fun w2 => if w2 = 0 then f_X12_weather_56 N S1 else bV (f_X12_in N S1 l3 0 200) fun w3 => if w3 = 0 then f_X12_weather_56 N S1 else bV (f_X12_in N S1 l4 ((-9)) 9) fun w4 => if w4 = 0 then f_X12_weather_56 N S1 else if ¬ (S1.1 8 15) = 60 then gA 60 (S1.1 8 15) fun j1 => sq (yA S1 8 11 (upd (S1.2.1 8 11) j1 l1)) fun S2 => gA 60 (S2.1 8 15) fun j2 => sq (yA S2 8 12 (upd (S2.2.1 8 12) j2 l2)) fun S3 => gA 60 (S3.1 8 15) fun j3 => sq (yA S3 8 13 (upd (S3.2.1 8 13) j3 l3)) fun S4 => gA 60 (S4.1 8 15) fun j4 => sq (yA S4 8 14 (upd (S4.2.1 8 14) j4 l4)) fun S5 => sq (yI S5 8 15 ((S5.1 8 15) + 1)) fun S6 => some (S6.1 8 15, S6) else f_X12_weather_56 N S1
set_option maxHeartbeats 4000000 in
set_option maxRecDepth 40000 in
theorem w_X12_weather_0 {F : xH} {ev : xEv} {prim : xRel} {d sz : Nat} {T : yT} {v : Int32} {S' : yS} (N : Nat) (S : yS) (l1 : Int32) (l2 : Int32) (l3 : Int32) (l4 : Int32) (hp : xH) (lv : xLv) (a0 : Nat) (fa0 : yAt T 12 8 0 a0) (g0 : xG lv 0 = some (.ref a0)) (g1 : xG lv 1 = some (.int l1)) (g2 : xG lv 2 = some (.int l2)) (g3 : xG lv 3 = some (.int l3)) (g4 : xG lv 4 = some (.int l4)) (hM : cR [8] F ev T S hp) (h : f_X12_weather_0 N S l1 l2 l3 l4 = some (v, S')) : yWE ev.2.1 (xstr ev) (xCalls ev xmi (xprog ev) prim (d + 2)) (pX12_weather ev) (0, lv, [], hp, sz, 0) (ypQ [8] F ev T sz (some (.int v)) S') := by
  unfold f_X12_weather_0 at h
  refine ye_aload rfl g0 ?_
  refine ye_p rfl rfl ?_
  obtain ⟨S1, eS1, h⟩ := sq_some h
  refine yw_putI rfl hM fa0 rfl ⟨rfl, rfl⟩ (Nat.le_of_ble_eq_true rfl) rfl rfl (ys_12_47 ev T _ 0) (fun q => absurd q (by decide)) eS1 (fun y1 M1 => ?_)
  refine ye_aload rfl g0 ?_
  refine ye_iload rfl g1 ?_
  obtain ⟨w1, hw1, h⟩ := bV_some h
  refine ye_callV (As := [.int l1]) (rest := []) 0 (Or.inl rfl) rfl rfl rfl (Nat.le_of_ble_eq_true rfl) (M1.obj fa0 ⟨rfl, rfl⟩) ((m_X12_isLeg (d := d + 0) (T := T) N S1 l1 a0 fa0 hw1) y1 sz M1) ?_
  refine ye_if_eq rfl (fun h1 => ?_) (fun h1 => ?_)
  · replace h := yiT h1 h
    exact w_X12_weather_56 (prim := prim) (d := d) N S1 y1 lv M1 h
  · replace h := yiN h1 h
    refine ye_iload rfl g2 ?_
    refine ye_p rfl rfl ?_
    refine ye_p rfl rfl ?_
    obtain ⟨w2, hw2, h⟩ := bV_some h
    refine ye_callS (As := [.int l2, .int 0, .int 3000]) (rest := []) 1 (Or.inl rfl) rfl rfl rfl (Nat.le_of_ble_eq_true rfl) ((m_X12_in (d := d + 1) (T := T) N S1 l2 0 3000 hw2) y1 sz M1) ?_
    refine ye_if_eq rfl (fun h2 => ?_) (fun h2 => ?_)
    · replace h := yiT h2 h
      exact w_X12_weather_56 (prim := prim) (d := d) N S1 y1 lv M1 h
    · replace h := yiN h2 h
      refine ye_iload rfl g3 ?_
      refine ye_p rfl rfl ?_
      refine ye_p rfl rfl ?_
      obtain ⟨w3, hw3, h⟩ := bV_some h
      refine ye_callS (As := [.int l3, .int 0, .int 200]) (rest := []) 1 (Or.inl rfl) rfl rfl rfl (Nat.le_of_ble_eq_true rfl) ((m_X12_in (d := d + 1) (T := T) N S1 l3 0 200 hw3) y1 sz M1) ?_
      refine ye_if_eq rfl (fun h3 => ?_) (fun h3 => ?_)
      · replace h := yiT h3 h
        exact w_X12_weather_56 (prim := prim) (d := d) N S1 y1 lv M1 h
      · replace h := yiN h3 h
        refine ye_iload rfl g4 ?_
        refine ye_p rfl rfl ?_
        refine ye_p rfl rfl ?_
        obtain ⟨w4, hw4, h⟩ := bV_some h
        refine ye_callS (As := [.int l4, .int ((-9)), .int 9]) (rest := []) 1 (Or.inl rfl) rfl rfl rfl (Nat.le_of_ble_eq_true rfl) ((m_X12_in (d := d + 1) (T := T) N S1 l4 ((-9)) 9 hw4) y1 sz M1) ?_
        refine ye_if_eq rfl (fun h4 => ?_) (fun h4 => ?_)
        · replace h := yiT h4 h
          exact w_X12_weather_56 (prim := prim) (d := d) N S1 y1 lv M1 h
        · replace h := yiN h4 h
          refine ye_aload rfl g0 ?_
          refine ye_getf rfl (M1.obj fa0 ⟨rfl, rfl⟩) rfl ?_
          refine ye_p rfl rfl ?_
          refine ye_icmp_ne rfl (fun h5 => ?_) (fun h5 => ?_)
          · replace h := yiT h5 h
            refine ye_aload rfl g0 ?_
            refine ye_getr rfl (M1.obj fa0 ⟨rfl, rfl⟩) rfl (fun cx1 ecx1 => ?_)
            have fcx1 := yAt.row fa0 ecx1
            refine ye_aload rfl g0 ?_
            refine ye_getf rfl (M1.obj fa0 ⟨rfl, rfl⟩) rfl ?_
            refine ye_iload rfl g1 ?_
            obtain ⟨j1, ej1, ij1, h⟩ := gA_some h
            obtain ⟨S2, eS2, h⟩ := sq_some h
            refine yw_ast rfl M1 fcx1 yr_12_11 (by decide) ij1 ej1 eS2 (fun y2 M2 => ?_)
            refine ye_aload rfl g0 ?_
            refine ye_getr rfl (M2.obj fa0 ⟨rfl, rfl⟩) rfl (fun cx2 ecx2 => ?_)
            have fcx2 := yAt.row fa0 ecx2
            refine ye_aload rfl g0 ?_
            refine ye_getf rfl (M2.obj fa0 ⟨rfl, rfl⟩) rfl ?_
            refine ye_iload rfl g2 ?_
            obtain ⟨j2, ej2, ij2, h⟩ := gA_some h
            obtain ⟨S3, eS3, h⟩ := sq_some h
            refine yw_ast rfl M2 fcx2 yr_12_12 (by decide) ij2 ej2 eS3 (fun y3 M3 => ?_)
            refine ye_aload rfl g0 ?_
            refine ye_getr rfl (M3.obj fa0 ⟨rfl, rfl⟩) rfl (fun cx3 ecx3 => ?_)
            have fcx3 := yAt.row fa0 ecx3
            refine ye_aload rfl g0 ?_
            refine ye_getf rfl (M3.obj fa0 ⟨rfl, rfl⟩) rfl ?_
            refine ye_iload rfl g3 ?_
            obtain ⟨j3, ej3, ij3, h⟩ := gA_some h
            obtain ⟨S4, eS4, h⟩ := sq_some h
            refine yw_ast rfl M3 fcx3 yr_12_13 (by decide) ij3 ej3 eS4 (fun y4 M4 => ?_)
            refine ye_aload rfl g0 ?_
            refine ye_getr rfl (M4.obj fa0 ⟨rfl, rfl⟩) rfl (fun cx4 ecx4 => ?_)
            have fcx4 := yAt.row fa0 ecx4
            refine ye_aload rfl g0 ?_
            refine ye_getf rfl (M4.obj fa0 ⟨rfl, rfl⟩) rfl ?_
            refine ye_iload rfl g4 ?_
            obtain ⟨j4, ej4, ij4, h⟩ := gA_some h
            obtain ⟨S5, eS5, h⟩ := sq_some h
            refine yw_ast rfl M4 fcx4 yr_12_14 (by decide) ij4 ej4 eS5 (fun y5 M5 => ?_)
            refine ye_aload rfl g0 ?_
            refine ye_p rfl rfl ?_
            refine ye_getf rfl (M5.obj fa0 ⟨rfl, rfl⟩) rfl ?_
            refine ye_p rfl rfl ?_
            refine ye_p rfl rfl ?_
            obtain ⟨S6, eS6, h⟩ := sq_some h
            refine yw_putI rfl M5 fa0 rfl ⟨rfl, rfl⟩ (Nat.le_of_ble_eq_true rfl) rfl rfl (ys_12_15 ev T _ ((S5.1 8 15) + 1)) (fun q => absurd q (by decide)) eS6 (fun y6 M6 => ?_)
            refine ye_aload rfl g0 ?_
            refine ye_getf rfl (M6.obj fa0 ⟨rfl, rfl⟩) rfl ?_
            exact ye_ret rfl rfl (rQ h M6)
          · replace h := yiN h5 h
            exact w_X12_weather_56 (prim := prim) (d := d) N S1 y1 lv M1 h
def f_X12_weather (N : Nat) (S : yS) (xl1 : Int32) (xl2 : Int32) (xl3 : Int32) (xl4 : Int32) : Option (Int32 × yS) := f_X12_weather_0 N S xl1 xl2 xl3 xl4
theorem m_X12_weather {F : xH} {ev : xEv} {prim : xRel} {d : Nat} {T : yT} {v : Int32} {S' : yS} (N : Nat) (S : yS) (xl1 : Int32) (xl2 : Int32) (xl3 : Int32) (xl4 : Int32) (a0 : Nat) (fa0 : yAt T 12 8 0 a0) (h : f_X12_weather N S xl1 xl2 xl3 xl4 = some (v, S')) : ykQ [8] F ev prim (d + 3) 210 T S [.ref a0, .int xl1, .int xl2, .int xl3, .int xl4] (some (.int v)) S' :=
  ykQ.of (pg_210 ev) mi_210 (Nat.le_of_ble_eq_true rfl) (fun hp sz hM => w_X12_weather_0 (prim := prim) (d := d) N S xl1 xl2 xl3 xl4 hp _ a0 fa0 rfl rfl rfl rfl rfl hM h)

def f_X12_sky_60 (N : Nat) (k5 : yS → Int32 → Int32 → Int32 → Int32 → Option Int32) (S : yS) (l1 : Int32) (l2 : Int32) (l3 : Int32) (l4 : Int32) : Option Int32 := k5 S l1 l2 l3 (l4 + 1)
set_option maxHeartbeats 4000000 in
set_option maxRecDepth 40000 in
theorem w_X12_sky_60 {F : xH} {ev : xEv} {prim : xRel} {d sz : Nat} {T : yT} {v : Int32} {hp : xH} (N : Nat) (k5 : yS → Int32 → Int32 → Int32 → Int32 → Option Int32) (u5 : ∀ (S : yS) (l1 : Int32) (l2 : Int32) (l3 : Int32) (l4 : Int32) (lv : xLv) (a0 : Nat) (fa0 : yAt T 12 8 0 a0) (g0 : xG lv 0 = some (.ref a0)) (g1 : xG lv 1 = some (.int l1)) (g2 : xG lv 2 = some (.int l2)) (g3 : xG lv 3 = some (.int l3)) (g4 : xG lv 4 = some (.int l4)) (hM : cR [8] F ev T S hp) (h : k5 S l1 l2 l3 l4 = some v), yWE ev.2.1 (xstr ev) (xCalls ev xmi (xprog ev) prim (d + 0)) (pX12_sky ev) (5, lv, [], hp, sz, 0) (ypP hp sz (.int v))) (S : yS) (l1 : Int32) (l2 : Int32) (l3 : Int32) (l4 : Int32) (lv : xLv) (a0 : Nat) (fa0 : yAt T 12 8 0 a0) (g0 : xG lv 0 = some (.ref a0)) (g1 : xG lv 1 = some (.int l1)) (g2 : xG lv 2 = some (.int l2)) (g3 : xG lv 3 = some (.int l3)) (g4 : xG lv 4 = some (.int l4)) (hM : cR [8] F ev T S hp) (h : f_X12_sky_60 N k5 S l1 l2 l3 l4 = some v) : yWE ev.2.1 (xstr ev) (xCalls ev xmi (xprog ev) prim (d + 0)) (pX12_sky ev) (60, lv, [], hp, sz, 0) (ypP hp sz (.int v)) := by
  unfold f_X12_sky_60 at h
  refine ye_iinc rfl g4 ?_
  have g0_z1 := xG_o1 (i := 4) (v := .int (l4 + 1)) g0 rfl
  have g1_z1 := xG_o1 (i := 4) (v := .int (l4 + 1)) g1 rfl
  have g2_z1 := xG_o1 (i := 4) (v := .int (l4 + 1)) g2 rfl
  have g3_z1 := xG_o1 (i := 4) (v := .int (l4 + 1)) g3 rfl
  have g4_z1 := xG_same lv 4 (.int (l4 + 1))
  generalize xSt1 lv 4 (.int (l4 + 1)) = lvz1 at g0_z1 g1_z1 g2_z1 g3_z1 g4_z1 ⊢
  refine ye_p rfl rfl ?_
  exact u5 S l1 l2 l3 (l4 + 1) lvz1 a0 fa0 g0_z1 g1_z1 g2_z1 g3_z1 g4_z1 hM h

def f_X12_sky_57 (N : Nat) (k5 : yS → Int32 → Int32 → Int32 → Int32 → Option Int32) (S : yS) (l1 : Int32) (l2 : Int32) (l4 : Int32) : Option Int32 := f_X12_sky_60 N k5 S l1 l2 l4 l4
set_option maxHeartbeats 4000000 in
set_option maxRecDepth 40000 in
theorem w_X12_sky_57 {F : xH} {ev : xEv} {prim : xRel} {d sz : Nat} {T : yT} {v : Int32} {hp : xH} (N : Nat) (k5 : yS → Int32 → Int32 → Int32 → Int32 → Option Int32) (u5 : ∀ (S : yS) (l1 : Int32) (l2 : Int32) (l3 : Int32) (l4 : Int32) (lv : xLv) (a0 : Nat) (fa0 : yAt T 12 8 0 a0) (g0 : xG lv 0 = some (.ref a0)) (g1 : xG lv 1 = some (.int l1)) (g2 : xG lv 2 = some (.int l2)) (g3 : xG lv 3 = some (.int l3)) (g4 : xG lv 4 = some (.int l4)) (hM : cR [8] F ev T S hp) (h : k5 S l1 l2 l3 l4 = some v), yWE ev.2.1 (xstr ev) (xCalls ev xmi (xprog ev) prim (d + 0)) (pX12_sky ev) (5, lv, [], hp, sz, 0) (ypP hp sz (.int v))) (S : yS) (l1 : Int32) (l2 : Int32) (l4 : Int32) (lv : xLv) (a0 : Nat) (fa0 : yAt T 12 8 0 a0) (g0 : xG lv 0 = some (.ref a0)) (g1 : xG lv 1 = some (.int l1)) (g2 : xG lv 2 = some (.int l2)) (g4 : xG lv 4 = some (.int l4)) (hM : cR [8] F ev T S hp) (h : f_X12_sky_57 N k5 S l1 l2 l4 = some v) : yWE ev.2.1 (xstr ev) (xCalls ev xmi (xprog ev) prim (d + 0)) (pX12_sky ev) (57, lv, [], hp, sz, 0) (ypP hp sz (.int v)) := by
  unfold f_X12_sky_57 at h
  refine ye_iload rfl g4 ?_
  refine ye_p rfl rfl ?_
  have g0_z1 := xG_o1 (i := 3) (v := .int l4) g0 rfl
  have g1_z1 := xG_o1 (i := 3) (v := .int l4) g1 rfl
  have g2_z1 := xG_o1 (i := 3) (v := .int l4) g2 rfl
  have g4_z1 := xG_o1 (i := 3) (v := .int l4) g4 rfl
  have g3_z1 := xG_same lv 3 (.int l4)
  generalize xSt1 lv 3 (.int l4) = lvz1 at g0_z1 g1_z1 g2_z1 g4_z1 g3_z1 ⊢
  exact w_X12_sky_60 (prim := prim) (d := d) N k5 u5 S l1 l2 l4 l4 lvz1 a0 fa0 g0_z1 g1_z1 g2_z1 g3_z1 g4_z1 hM h

def f_X12_sky_5 : Nat → Nat → yS → Int32 → Int32 → Int32 → Int32 → Option Int32
  | 0, _, _, _, _, _, _ => none
  | n + 1, N, S, l1, l2, l3, l4 => if (S.1 8 15) ≤ l4 then some l3 else gA 60 l4 fun j1 => if ¬ (S.2.1 8 11 j1) = l1 then f_X12_sky_60 N (fun S l1 l2 l3 l4 => f_X12_sky_5 n N S l1 l2 l3 l4) S l1 l2 l3 l4 else gA 60 l4 fun j2 => if l2 < (S.2.1 8 12 j2) then f_X12_sky_60 N (fun S l1 l2 l3 l4 => f_X12_sky_5 n N S l1 l2 l3 l4) S l1 l2 l3 l4 else if l3 = ((-1)) then f_X12_sky_57 N (fun S l1 l2 l3 l4 => f_X12_sky_5 n N S l1 l2 l3 l4) S l1 l2 l4 else gA 60 l4 fun j3 => gA 60 l3 fun j4 => if (S.2.1 8 12 j3) < (S.2.1 8 12 j4) then f_X12_sky_60 N (fun S l1 l2 l3 l4 => f_X12_sky_5 n N S l1 l2 l3 l4) S l1 l2 l3 l4 else f_X12_sky_57 N (fun S l1 l2 l3 l4 => f_X12_sky_5 n N S l1 l2 l3 l4) S l1 l2 l4
set_option maxHeartbeats 4000000 in
set_option maxRecDepth 40000 in
theorem w_X12_sky_5 {F : xH} {ev : xEv} {prim : xRel} {d sz : Nat} {T : yT} {v : Int32} {hp : xH} (N : Nat) (n : Nat) : ∀ (S : yS) (l1 : Int32) (l2 : Int32) (l3 : Int32) (l4 : Int32) (lv : xLv) (a0 : Nat) (fa0 : yAt T 12 8 0 a0) (g0 : xG lv 0 = some (.ref a0)) (g1 : xG lv 1 = some (.int l1)) (g2 : xG lv 2 = some (.int l2)) (g3 : xG lv 3 = some (.int l3)) (g4 : xG lv 4 = some (.int l4)) (hM : cR [8] F ev T S hp) (h : f_X12_sky_5 n N S l1 l2 l3 l4 = some v), yWE ev.2.1 (xstr ev) (xCalls ev xmi (xprog ev) prim (d + 0)) (pX12_sky ev) (5, lv, [], hp, sz, 0) (ypP hp sz (.int v)) := by
  induction n with
  | zero => intro S l1 l2 l3 l4 lv a0 fa0 g0 g1 g2 g3 g4 hM h; exact n_some h
  | succ n ih =>
    intro S l1 l2 l3 l4 lv a0 fa0 g0 g1 g2 g3 g4 hM h
    unfold f_X12_sky_5 at h
    refine ye_iload rfl g4 ?_
    refine ye_aload rfl g0 ?_
    refine ye_getf rfl (hM.obj fa0 ⟨rfl, rfl⟩) rfl ?_
    refine ye_icmp_ge rfl (fun h1 => ?_) (fun h1 => ?_)
    · replace h := yiT h1 h
      refine ye_iload rfl g3 ?_
      exact ye_ret rfl rfl (rP h)
    · replace h := yiN h1 h
      refine ye_aload rfl g0 ?_
      refine ye_getr rfl (hM.obj fa0 ⟨rfl, rfl⟩) rfl (fun cx1 ecx1 => ?_)
      have fcx1 := yAt.row fa0 ecx1
      refine ye_iload rfl g4 ?_
      obtain ⟨j1, ej1, ij1, h⟩ := gA_some h
      refine yj_ald rfl (hM.arr fcx1 yr_12_11) ij1 ej1 ?_
      refine ye_iload rfl g1 ?_
      refine ye_icmp_ne rfl (fun h2 => ?_) (fun h2 => ?_)
      · replace h := yiT h2 h
        exact w_X12_sky_60 (prim := prim) (d := d) N (fun S l1 l2 l3 l4 => f_X12_sky_5 n N S l1 l2 l3 l4) ih S l1 l2 l3 l4 lv a0 fa0 g0 g1 g2 g3 g4 hM h
      · replace h := yiN h2 h
        refine ye_aload rfl g0 ?_
        refine ye_getr rfl (hM.obj fa0 ⟨rfl, rfl⟩) rfl (fun cx2 ecx2 => ?_)
        have fcx2 := yAt.row fa0 ecx2
        refine ye_iload rfl g4 ?_
        obtain ⟨j2, ej2, ij2, h⟩ := gA_some h
        refine yj_ald rfl (hM.arr fcx2 yr_12_12) ij2 ej2 ?_
        refine ye_iload rfl g2 ?_
        refine ye_icmp_gt rfl (fun h3 => ?_) (fun h3 => ?_)
        · replace h := yiT h3 h
          exact w_X12_sky_60 (prim := prim) (d := d) N (fun S l1 l2 l3 l4 => f_X12_sky_5 n N S l1 l2 l3 l4) ih S l1 l2 l3 l4 lv a0 fa0 g0 g1 g2 g3 g4 hM h
        · replace h := yiN h3 h
          refine ye_iload rfl g3 ?_
          refine ye_p rfl rfl ?_
          refine ye_icmp_eq rfl (fun h4 => ?_) (fun h4 => ?_)
          · replace h := yiT h4 h
            exact w_X12_sky_57 (prim := prim) (d := d) N (fun S l1 l2 l3 l4 => f_X12_sky_5 n N S l1 l2 l3 l4) ih S l1 l2 l4 lv a0 fa0 g0 g1 g2 g4 hM h
          · replace h := yiN h4 h
            refine ye_aload rfl g0 ?_
            refine ye_getr rfl (hM.obj fa0 ⟨rfl, rfl⟩) rfl (fun cx3 ecx3 => ?_)
            have fcx3 := yAt.row fa0 ecx3
            refine ye_iload rfl g4 ?_
            obtain ⟨j3, ej3, ij3, h⟩ := gA_some h
            refine yj_ald rfl (hM.arr fcx3 yr_12_12) ij3 ej3 ?_
            refine ye_aload rfl g0 ?_
            refine ye_getr rfl (hM.obj fa0 ⟨rfl, rfl⟩) rfl (fun cx4 ecx4 => ?_)
            have fcx4 := yAt.row fa0 ecx4
            refine ye_iload rfl g3 ?_
            obtain ⟨j4, ej4, ij4, h⟩ := gA_some h
            refine yj_ald rfl (hM.arr fcx4 yr_12_12) ij4 ej4 ?_
            refine ye_icmp_lt rfl (fun h5 => ?_) (fun h5 => ?_)
            · replace h := yiT h5 h
              exact w_X12_sky_60 (prim := prim) (d := d) N (fun S l1 l2 l3 l4 => f_X12_sky_5 n N S l1 l2 l3 l4) ih S l1 l2 l3 l4 lv a0 fa0 g0 g1 g2 g3 g4 hM h
            · replace h := yiN h5 h
              exact w_X12_sky_57 (prim := prim) (d := d) N (fun S l1 l2 l3 l4 => f_X12_sky_5 n N S l1 l2 l3 l4) ih S l1 l2 l4 lv a0 fa0 g0 g1 g2 g4 hM h

def f_X12_sky_0 (N : Nat) (S : yS) (l1 : Int32) (l2 : Int32) : Option Int32 := f_X12_sky_5 N N S l1 l2 ((-1)) 0
set_option maxHeartbeats 4000000 in
set_option maxRecDepth 40000 in
theorem w_X12_sky_0 {F : xH} {ev : xEv} {prim : xRel} {d sz : Nat} {T : yT} {v : Int32} {hp : xH} (N : Nat) (S : yS) (l1 : Int32) (l2 : Int32) (lv : xLv) (a0 : Nat) (fa0 : yAt T 12 8 0 a0) (g0 : xG lv 0 = some (.ref a0)) (g1 : xG lv 1 = some (.int l1)) (g2 : xG lv 2 = some (.int l2)) (hM : cR [8] F ev T S hp) (h : f_X12_sky_0 N S l1 l2 = some v) : yWE ev.2.1 (xstr ev) (xCalls ev xmi (xprog ev) prim (d + 0)) (pX12_sky ev) (0, lv, [], hp, sz, 0) (ypP hp sz (.int v)) := by
  unfold f_X12_sky_0 at h
  refine ye_p rfl rfl ?_
  refine ye_p rfl rfl ?_
  have g0_z1 := xG_o1 (i := 3) (v := .int ((-1))) g0 rfl
  have g1_z1 := xG_o1 (i := 3) (v := .int ((-1))) g1 rfl
  have g2_z1 := xG_o1 (i := 3) (v := .int ((-1))) g2 rfl
  have g3_z1 := xG_same lv 3 (.int ((-1)))
  generalize xSt1 lv 3 (.int ((-1))) = lvz1 at g0_z1 g1_z1 g2_z1 g3_z1 ⊢
  refine ye_p rfl rfl ?_
  refine ye_p rfl rfl ?_
  have g0_z2 := xG_o1 (i := 4) (v := .int 0) g0_z1 rfl
  have g1_z2 := xG_o1 (i := 4) (v := .int 0) g1_z1 rfl
  have g2_z2 := xG_o1 (i := 4) (v := .int 0) g2_z1 rfl
  have g3_z2 := xG_o1 (i := 4) (v := .int 0) g3_z1 rfl
  have g4_z2 := xG_same lvz1 4 (.int 0)
  generalize xSt1 lvz1 4 (.int 0) = lvz2 at g0_z2 g1_z2 g2_z2 g3_z2 g4_z2 ⊢
  exact w_X12_sky_5 (prim := prim) (d := d) N N S l1 l2 ((-1)) 0 lvz2 a0 fa0 g0_z2 g1_z2 g2_z2 g3_z2 g4_z2 hM h
def f_X12_sky (N : Nat) (S : yS) (xl1 : Int32) (xl2 : Int32) : Option Int32 := f_X12_sky_0 N S xl1 xl2
theorem m_X12_sky {F : xH} {ev : xEv} {prim : xRel} {d : Nat} {T : yT} {v : Int32} (N : Nat) (S : yS) (xl1 : Int32) (xl2 : Int32) (a0 : Nat) (fa0 : yAt T 12 8 0 a0) (h : f_X12_sky N S xl1 xl2 = some v) : ykP [8] F ev prim (d + 1) 211 T S [.ref a0, .int xl1, .int xl2] (.int v) :=
  ykP.of (pg_211 ev) mi_211 (Nat.le_of_ble_eq_true rfl) (fun hp sz hM => w_X12_sky_0 (prim := prim) (d := d) N S xl1 xl2 _ a0 fa0 rfl rfl rfl hM h)
