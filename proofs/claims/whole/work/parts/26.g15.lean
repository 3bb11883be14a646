
def f_X11_why_17 (N : Nat) (S : yS) : Option Int32 := some ((-1))
set_option maxHeartbeats 4000000 in
set_option maxRecDepth 40000 in
theorem w_X11_why_17 {F : xH} {ev : xEv} {prim : xRel} {d sz : Nat} {T : yT} {v : Int32} {hp : xH} (N : Nat) (S : yS) (lv : xLv) (hM : cR [0, 1, 2, 3, 4, 5, 6, 7] F ev T S hp) (h : f_X11_why_17 N S = some v) : yWE ev.2.1 (xstr ev) (xCalls ev xmi (xprog ev) prim (d + 2)) (pX11_why ev) (17, lv, [], hp, sz, 0) (ypP hp sz (.int v)) := by
  unfold f_X11_why_17 at h
  refine ye_p rfl rfl ?_
  exact ye_ret rfl rfl (rP h)

def f_X11_why_44 (N : Nat) (S : yS) (t0 : Int32) : Option Int32 := some t0
set_option maxHeartbeats 4000000 in
set_option maxRecDepth 40000 in
theorem w_X11_why_44 {F : xH} {ev : xEv} {prim : xRel} {d sz : Nat} {T : yT} {v : Int32} {hp : xH} (N : Nat) (S : yS) (t0 : Int32) (lv : xLv) (hM : cR [0, 1, 2, 3, 4, 5, 6, 7] F ev T S hp) (h : f_X11_why_44 N S t0 = some v) : yWE ev.2.1 (xstr ev) (xCalls ev xmi (xprog ev) prim (d + 2)) (pX11_why ev) (44, lv, [.int t0], hp, sz, 0) (ypP hp sz (.int v)) := by
  unfold f_X11_why_44 at h
  exact ye_ret rfl rfl (rP h)

def f_X11_why_0 (N : Nat) (S : yS) (l1 : Int32) (l2 : Int32) : Option Int32 := bV (f_X11_isFlight N S l1) fun w1 => if w1 = 0 then f_X11_why_17 N S else bV (f_X11_within N S l2 0 1) fun w2 => if ¬ w2 = 0 then gR (S.2.1 2 11) 24 l1 fun j1 => if ¬ l2 = 0 then f_X11_why_44 N S (S.1 ((512 + j1)) 9) else f_X11_why_44 N S (S.1 ((512 + j1)) 8) else f_X11_why_17 N S
set_option maxHeartbeats 4000000 in
set_option maxRecDepth 40000 in
theorem w_X11_why_0 {F : xH} {ev : xEv} {prim : xRel} {d sz : Nat} {T : yT} {v : Int32} {hp : xH} (N : Nat) (S : yS) (l1 : Int32) (l2 : Int32) (lv : xLv) (a0 : Nat) (fa0 : yAt T 11 0 0 a0) (g0 : xG lv 0 = some (.ref a0)) (g1 : xG lv 1 = some (.int l1)) (g2 : xG lv 2 = some (.int l2)) (hM : cR [0, 1, 2, 3, 4, 5, 6, 7] F ev T S hp) (h : f_X11_why_0 N S l1 l2 = some v) : yWE ev.2.1 (xstr ev) (xCalls ev xmi (xprog ev) prim (d + 2)) (pX11_why ev) (0, lv, [], hp, sz, 0) (ypP hp sz (.int v)) := by
  unfold f_X11_why_0 at h
  refine ye_aload rfl g0 ?_
  refine ye_iload rfl g1 ?_
  obtain ⟨w1, hw1, h⟩ := bV_some h
  refine ye_callV (As := [.int l1]) (rest := []) 0 (Or.inl rfl) rfl rfl rfl (Nat.le_of_ble_eq_true rfl) (hM.obj fa0 ⟨rfl, rfl⟩) ((m_X11_isFlight (d := d + 0) (T := T) N S l1 a0 fa0 hw1) hp sz hM) ?_
  refine ye_if_eq rfl (fun h1 => ?_) (fun h1 => ?_)
  · replace h := yiT h1 h
    exact w_X11_why_17 (prim := prim) (d := d) N S lv hM h
  · replace h := yiN h1 h
    refine ye_iload rfl g2 ?_
    refine ye_p rfl rfl ?_
    refine ye_p rfl rfl ?_
    obtain ⟨w2, hw2, h⟩ := bV_some h
    refine ye_callS (As := [.int l2, .int 0, .int 1]) (rest := []) 1 (Or.inl rfl) rfl rfl rfl (Nat.le_of_ble_eq_true rfl) ((m_X11_within (d := d + 1) (T := T) N S l2 0 1 hw2) hp sz hM) ?_
    refine ye_if_ne rfl (fun h2 => ?_) (fun h2 => ?_)
    · replace h := yiT h2 h
      refine ye_aload rfl g0 ?_
      refine ye_getr rfl (hM.obj fa0 ⟨rfl, rfl⟩) rfl (fun cx1 ecx1 => ?_)
      have fcx1 := hM.root 10 0 (by decide) rfl ecx1
      refine ye_getr rfl (hM.obj fcx1 ⟨rfl, rfl⟩) rfl (fun cx2 ecx2 => ?_)
      have fcx2 := yAt.row fcx1 ecx2
      refine ye_iload rfl g1 ?_
      obtain ⟨j1, ej1, ij1, rj1, h⟩ := gR_some h
      refine ye_aaldR (t := 8) rfl (hM.arr fcx2 yr_10_11) ij1 ej1 rj1 (fun cx3 ecx3 => ?_)
      have fcx3 : yAt T 1 (512 + j1) 0 cx3 := ⟨hM.refd fcx2 yr_10_11 (by decide) rj1, oc_512 (by have := vp_lt ij1; omega), ecx3⟩
      refine ye_p rfl rfl ?_
      have g2_z1 := xG_o1 (i := 3) (v := .ref cx3) g2 rfl
      have g3_z1 := xG_same lv 3 (.ref cx3)
      generalize xSt1 lv 3 (.ref cx3) = lvz1 at g2_z1 g3_z1 ⊢
      refine ye_iload rfl g2_z1 ?_
      refine ye_if_ne rfl (fun h3 => ?_) (fun h3 => ?_)
      · replace h := yiT h3 h
        refine ye_aload rfl g3_z1 ?_
        refine ye_getf rfl (hM.obj fcx3 ⟨rfl, rfl⟩) rfl ?_
        exact w_X11_why_44 (prim := prim) (d := d) N S (S.1 ((512 + j1)) 9) lvz1 hM h
      · replace h := yiN h3 h
        refine ye_aload rfl g3_z1 ?_
        refine ye_getf rfl (hM.obj fcx3 ⟨rfl, rfl⟩) rfl ?_
        refine ye_p rfl rfl ?_
        exact w_X11_why_44 (prim := prim) (d := d) N S (S.1 ((512 + j1)) 8) lvz1 hM h
    · replace h := yiN h2 h
      exact w_X11_why_17 (prim := prim) (d := d) N S lv hM h
def f_X11_why (N : Nat) (S : yS) (xl1 : Int32) (xl2 : Int32) : Option Int32 := f_X11_why_0 N S xl1 xl2
theorem m_X11_why {F : xH} {ev : xEv} {prim : xRel} {d : Nat} {T : yT} {v : Int32} (N : Nat) (S : yS) (xl1 : Int32) (xl2 : Int32) (a0 : Nat) (fa0 : yAt T 11 0 0 a0) (h : f_X11_why N S xl1 xl2 = some v) : ykP [0, 1, 2, 3, 4, 5, 6, 7] F ev prim (d + 3) 152 T S [.ref a0, .int xl1, .int xl2] (.int v) :=
  ykP.of (pg_152 ev) mi_152 (Nat.le_of_ble_eq_true rfl) (fun hp sz hM => w_X11_why_0 (prim := prim) (d := d) N S xl1 xl2 _ a0 fa0 rfl rfl rfl hM h)

def f_X11_of_115 (N : Nat) (S : yS) (t0 : Int32) : Option (Option Int32 × yS) := some (some t0, S)
set_option maxHeartbeats 4000000 in
set_option maxRecDepth 40000 in
theorem w_X11_of_115 {F : xH} {ev : xEv} {prim : xRel} {d sz : Nat} {T : yT} {v : Option Int32} {S' : yS} (N : Nat) (S : yS) (t0 : Int32) (hp : xH) (lv : xLv) (hM : cR [0, 1, 2, 3, 4, 5, 6, 7] F ev T S hp) (h : f_X11_of_115 N S t0 = some (v, S')) : yWE ev.2.1 (xstr ev) (xCalls ev xmi (xprog ev) prim (d + 2)) (pX11_of ev) (115, lv, [.int t0], hp, sz, 0) (ypT [0, 1, 2, 3, 4, 5, 6, 7] F ev T sz [8, 181] (vI v) S') := by
  unfold f_X11_of_115 at h
  exact ye_ret rfl rfl (rT h hM)

def f_X11_of_180 (N : Nat) (S : yS) (t0 : Int32) : Option (Option Int32 × yS) := some (some t0, S)
set_option maxHeartbeats 4000000 in
set_option maxRecDepth 40000 in
theorem w_X11_of_180 {F : xH} {ev : xEv} {prim : xRel} {d sz : Nat} {T : yT} {v : Option Int32} {S' : yS} (N : Nat) (S : yS) (t0 : Int32) (hp : xH) (lv : xLv) (hM : cR [0, 1, 2, 3, 4, 5, 6, 7] F ev T S hp) (h : f_X11_of_180 N S t0 = some (v, S')) : yWE ev.2.1 (xstr ev) (xCalls ev xmi (xprog ev) prim (d + 2)) (pX11_of ev) (180, lv, [.int t0], hp, sz, 0) (ypT [0, 1, 2, 3, 4, 5, 6, 7] F ev T sz [8, 181] (vI v) S') := by
  unfold f_X11_of_180 at h
  exact ye_ret rfl rfl (rT h hM)

def f_X11_of_0 (N : Nat) (S : yS) (l1 : Int32) (l2 : Int32) : Option (Option Int32 × yS) := bV (f_X11_isPlane N S l1) fun w1 => if ¬ w1 = 0 then gR (S.2.1 2 4) 8 l1 fun j1 => if l2 = 0 then some (some (S.1 ((128 + j1)) 8), S) else if l2 = 1 then some (some (S.1 ((128 + j1)) 9), S) else if l2 = 2 then some (some (S.1 ((128 + j1)) 10), S) else if l2 = 3 then if (S.1 ((128 + j1)) 12) = 0 then f_X11_of_115 N S 0 else f_X11_of_115 N S 1 else if l2 = 4 then some (some (S.1 ((128 + j1)) 13), S) else if l2 = 5 then some (some (S.1 ((128 + j1)) 5), S) else if l2 = 6 then some (some (S.1 ((128 + j1)) 15), S) else if l2 = 7 then some (some (S.1 ((128 + j1)) 14), S) else if l2 = 8 then bV (f_X10_weightOn N S l1) fun w2 => some (some w2, S) else if l2 = 9 then some (some (S.1 ((128 + j1)) 16), S) else if l2 = 10 then bV (f_X6_isAloft N S ((128 + j1))) fun w3 => if w3 = 0 then f_X11_of_180 N S ((-1)) else gR (S.2.1 1 4) 12 (S.1 ((128 + j1)) 9) fun j2 => bV (f_X3_goal N S ((64 + j2)) (S.1 ((128 + j1)) 11)) fun w4 => f_X11_of_180 N S w4 else some (none, S) else some (none, S)
set_option maxHeartbeats 4000000 in
set_option maxRecDepth 40000 in
theorem w_X11_of_0 {F : xH} {ev : xEv} {prim : xRel} {d sz : Nat} {T : yT} {v : Option Int32} {S' : yS} (N : Nat) (S : yS) (l1 : Int32) (l2 : Int32) (hp : xH) (lv : xLv) (a0 : Nat) (fa0 : yAt T 11 0 0 a0) (g0 : xG lv 0 = some (.ref a0)) (g1 : xG lv 1 = some (.int l1)) (g2 : xG lv 2 = some (.int l2)) (hM : cR [0, 1, 2, 3, 4, 5, 6, 7] F ev T S hp) (h : f_X11_of_0 N S l1 l2 = some (v, S')) : yWE ev.2.1 (xstr ev) (xCalls ev xmi (xprog ev) prim (d + 2)) (pX11_of ev) (0, lv, [], hp, sz, 0) (ypT [0, 1, 2, 3, 4, 5, 6, 7] F ev T sz [8, 181] (vI v) S') := by
  unfold f_X11_of_0 at h
  refine ye_aload rfl g0 ?_
  refine ye_iload rfl g1 ?_
  obtain ⟨w1, hw1, h⟩ := bV_some h
  refine ye_callV (As := [.int l1]) (rest := []) 0 (Or.inl rfl) rfl rfl rfl (Nat.le_of_ble_eq_true rfl) (hM.obj fa0 ⟨rfl, rfl⟩) ((m_X11_isPlane (d := d + 0) (T := T) N S l1 a0 fa0 hw1) hp sz hM) ?_
  refine ye_if_ne rfl (fun h1 => ?_) (fun h1 => ?_)
  · replace h := yiT h1 h
    refine ye_aload rfl g0 ?_
    refine ye_getr rfl (hM.obj fa0 ⟨rfl, rfl⟩) rfl (fun cx1 ecx1 => ?_)
    have fcx1 := hM.root 10 0 (by decide) rfl ecx1
    refine ye_getr rfl (hM.obj fcx1 ⟨rfl, rfl⟩) rfl (fun cx2 ecx2 => ?_)
    have fcx2 := yAt.row fcx1 ecx2
    refine ye_iload rfl g1 ?_
    obtain ⟨j1, ej1, ij1, rj1, h⟩ := gR_some h
    refine ye_aaldR (t := 5) rfl (hM.arr fcx2 yr_10_4) ij1 ej1 rj1 (fun cx3 ecx3 => ?_)
    have fcx3 : yAt T 6 (128 + j1) 0 cx3 := ⟨hM.refd fcx2 yr_10_4 (by decide) rj1, oc_128 (by have := vp_lt ij1; omega), ecx3⟩
    refine ye_p rfl rfl ?_
    have g0_z1 := xG_o1 (i := 3) (v := .ref cx3) g0 rfl
    have g1_z1 := xG_o1 (i := 3) (v := .ref cx3) g1 rfl
    have g2_z1 := xG_o1 (i := 3) (v := .ref cx3) g2 rfl
    have g3_z1 := xG_same lv 3 (.ref cx3)
    generalize xSt1 lv 3 (.ref cx3) = lvz1 at g0_z1 g1_z1 g2_z1 g3_z1 ⊢
    refine ye_iload rfl g2_z1 ?_
    by_cases h2 : l2 = 0
    · replace h := yiT h2 h
      refine ye_sw rfl (show _ = 88 from by rw [h2]; rfl) ?_
      refine ye_aload rfl g3_z1 ?_
      refine ye_getf rfl (hM.obj fcx3 ⟨rfl, rfl⟩) rfl ?_
      exact ye_ret rfl rfl (rT h hM)
    · replace h := yiN h2 h
      by_cases h3 : l2 = 1
      · replace h := yiT h3 h
        refine ye_sw rfl (show _ = 93 from by rw [h3]; rfl) ?_
        refine ye_aload rfl g3_z1 ?_
        refine ye_getf rfl (hM.obj fcx3 ⟨rfl, rfl⟩) rfl ?_
        exact ye_ret rfl rfl (rT h hM)
      · replace h := yiN h3 h
        by_cases h4 : l2 = 2
        · replace h := yiT h4 h
          refine ye_sw rfl (show _ = 98 from by rw [h4]; rfl) ?_
          refine ye_aload rfl g3_z1 ?_
          refine ye_getf rfl (hM.obj fcx3 ⟨rfl, rfl⟩) rfl ?_
          exact ye_ret rfl rfl (rT h hM)
        · replace h := yiN h4 h
          by_cases h5 : l2 = 3
          · replace h := yiT h5 h
            refine ye_sw rfl (show _ = 103 from by rw [h5]; rfl) ?_
            refine ye_aload rfl g3_z1 ?_
            refine ye_getf rfl (hM.obj fcx3 ⟨rfl, rfl⟩) rfl ?_
            refine ye_if_eq rfl (fun h6 => ?_) (fun h6 => ?_)
            · replace h := yiT h6 h
              refine ye_p rfl rfl ?_
              exact w_X11_of_115 (prim := prim) (d := d) N S 0 hp lvz1 hM h
            · replace h := yiN h6 h
              refine ye_p rfl rfl ?_
              refine ye_p rfl rfl ?_
              exact w_X11_of_115 (prim := prim) (d := d) N S 1 hp lvz1 hM h
          · replace h := yiN h5 h
            by_cases h7 : l2 = 4
            · replace h := yiT h7 h
              refine ye_sw rfl (show _ = 116 from by rw [h7]; rfl) ?_
              refine ye_aload rfl g3_z1 ?_
              refine ye_getf rfl (hM.obj fcx3 ⟨rfl, rfl⟩) rfl ?_
              exact ye_ret rfl rfl (rT h hM)
            · replace h := yiN h7 h
              by_cases h8 : l2 = 5
              · replace h := yiT h8 h
                refine ye_sw rfl (show _ = 121 from by rw [h8]; rfl) ?_
                refine ye_aload rfl g3_z1 ?_
                refine ye_getf rfl (hM.obj fcx3 ⟨rfl, rfl⟩) rfl ?_
                exact ye_ret rfl rfl (rT h hM)
              · replace h := yiN h8 h
                by_cases h9 : l2 = 6
                · replace h := yiT h9 h
                  refine ye_sw rfl (show _ = 126 from by rw [h9]; rfl) ?_
                  refine ye_aload rfl g3_z1 ?_
                  refine ye_getf rfl (hM.obj fcx3 ⟨rfl, rfl⟩) rfl ?_
                  exact ye_ret rfl rfl (rT h hM)
                · replace h := yiN h9 h
                  by_cases h10 : l2 = 7
                  · replace h := yiT h10 h
                    refine ye_sw rfl (show _ = 131 from by rw [h10]; rfl) ?_
                    refine ye_aload rfl g3_z1 ?_
                    refine ye_getf rfl (hM.obj fcx3 ⟨rfl, rfl⟩) rfl ?_
                    exact ye_ret rfl rfl (rT h hM)
                  · replace h := yiN h10 h
                    by_cases h11 : l2 = 8
                    · replace h := yiT h11 h
                      refine ye_sw rfl (show _ = 136 from by rw [h11]; rfl) ?_
                      refine ye_aload rfl g0_z1 ?_
                      refine ye_getr rfl (hM.obj fa0 ⟨rfl, rfl⟩) rfl (fun cx4 ecx4 => ?_)
                      have fcx4 := hM.root 10 0 (by decide) rfl ecx4
                      refine ye_iload rfl g1_z1 ?_
                      obtain ⟨w2, hw2, h⟩ := bV_some h
                      refine ye_callV (As := [.int l1]) (rest := []) 0 (Or.inl rfl) rfl rfl rfl (Nat.le_of_ble_eq_true rfl) (hM.obj fcx4 ⟨rfl, rfl⟩) ((m_X10_weightOn (d := d + 1) (T := T) N S l1 cx4 fcx4 hw2) hp sz hM) ?_
                      exact ye_ret rfl rfl (rT h hM)
                    · replace h := yiN h11 h
                      by_cases h12 : l2 = 9
                      · replace h := yiT h12 h
                        refine ye_sw rfl (show _ = 145 from by rw [h12]; rfl) ?_
                        refine ye_aload rfl g3_z1 ?_
                        refine ye_getf rfl (hM.obj fcx3 ⟨rfl, rfl⟩) rfl ?_
                        exact ye_ret rfl rfl (rT h hM)
                      · replace h := yiN h12 h
                        by_cases h13 : l2 = 10
                        · replace h := yiT h13 h
                          refine ye_sw rfl (show _ = 150 from by rw [h13]; rfl) ?_
                          refine ye_aload rfl g3_z1 ?_
                          obtain ⟨w3, hw3, h⟩ := bV_some h
                          refine ye_callV (As := []) (rest := []) 0 (Or.inl rfl) rfl rfl rfl (Nat.le_of_ble_eq_true rfl) (hM.obj fcx3 ⟨rfl, rfl⟩) ((m_X6_isAloft (d := d + 1) (T := T) N S ((128 + j1)) cx3 fcx3 hw3) hp sz hM) ?_
                          refine ye_if_eq rfl (fun h14 => ?_) (fun h14 => ?_)
                          · replace h := yiT h14 h
                            refine ye_p rfl rfl ?_
                            exact w_X11_of_180 (prim := prim) (d := d) N S ((-1)) hp lvz1 hM h
                          · replace h := yiN h14 h
                            refine ye_aload rfl g0_z1 ?_
                            refine ye_getr rfl (hM.obj fa0 ⟨rfl, rfl⟩) rfl (fun cx5 ecx5 => ?_)
                            have fcx5 := hM.root 2 0 (by decide) rfl ecx5
                            refine ye_getr rfl (hM.obj fcx5 ⟨rfl, rfl⟩) rfl (fun cx6 ecx6 => ?_)
                            have fcx6 := yAt.row fcx5 ecx6
                            refine ye_aload rfl g3_z1 ?_
                            refine ye_getf rfl (hM.obj fcx3 ⟨rfl, rfl⟩) rfl ?_
                            obtain ⟨j2, ej2, ij2, rj2, h⟩ := gR_some h
                            refine ye_aaldR (t := 4) rfl (hM.arr fcx6 yr_2_4) ij2 ej2 rj2 (fun cx7 ecx7 => ?_)
                            have fcx7 : yAt T 3 (64 + j2) 0 cx7 := ⟨hM.refd fcx6 yr_2_4 (by decide) rj2, oc_64 (by have := vp_lt ij2; omega), ecx7⟩
                            refine ye_aload rfl g3_z1 ?_
                            refine ye_getf rfl (hM.obj fcx3 ⟨rfl, rfl⟩) rfl ?_
                            obtain ⟨w4, hw4, h⟩ := bV_some h
                            refine ye_callV (As := [.int (S.1 ((128 + j1)) 11)]) (rest := []) 0 (Or.inl rfl) rfl rfl rfl (Nat.le_of_ble_eq_true rfl) (hM.obj fcx7 ⟨rfl, rfl⟩) ((m_X3_goal (d := d + 1) (T := T) N S ((64 + j2)) (S.1 ((128 + j1)) 11) cx7 fcx7 hw4) hp sz hM) ?_
                            refine ye_p rfl rfl ?_
                            exact w_X11_of_180 (prim := prim) (d := d) N S w4 hp lvz1 hM h
                        · replace h := yiN h13 h
                          refine ye_sw rfl (show _ = 181 from xtsw_neg h2 (by decide) (xtsw_neg h3 (by decide) (xtsw_neg h4 (by decide) (xtsw_neg h5 (by decide) (xtsw_neg h7 (by decide) (xtsw_neg h8 (by decide) (xtsw_neg h9 (by decide) (xtsw_neg h10 (by decide) (xtsw_neg h11 (by decide) (xtsw_neg h12 (by decide) (xtsw_neg h13 (by decide) (xtsw_nil)))))))))))) ?_
                          exact ye_stop (rX h (by decide) hM)
  · replace h := yiN h1 h
    exact ye_stop (rX h (by decide) hM)
def f_X11_of (N : Nat) (S : yS) (xl1 : Int32) (xl2 : Int32) : Option (Option Int32 × yS) := f_X11_of_0 N S xl1 xl2
theorem m_X11_of {F : xH} {ev : xEv} {prim : xRel} {d : Nat} {T : yT} {v : Option Int32} {S' : yS} (N : Nat) (S : yS) (xl1 : Int32) (xl2 : Int32) (a0 : Nat) (fa0 : yAt T 11 0 0 a0) (h : f_X11_of N S xl1 xl2 = some (v, S')) : ∀ (hp : xH) (sz : Nat), cR [0, 1, 2, 3, 4, 5, 6, 7] F ev T S hp → yWE ev.2.1 (xstr ev) (xCalls ev xmi (xprog ev) prim (d + 2)) (pX11_of ev) (0, lv_args 0 [.ref a0, .int xl1, .int xl2], [], hp, sz, 0) (ypT [0, 1, 2, 3, 4, 5, 6, 7] F ev T sz [8, 181] (vI v) S') :=
  fun hp sz hM => w_X11_of_0 (prim := prim) (d := d) N S xl1 xl2 hp _ a0 fa0 rfl rfl rfl hM h

def f_X11_who_0 (N : Nat) (S : yS) (l1 : Int32) (l2 : Int32) : Option (Option Int32 × yS) := bV (f_X11_isPilot N S l1) fun w1 => if ¬ w1 = 0 then gR (S.2.1 2 6) 8 l1 fun j1 => if l2 = 0 then some (some (S.1 ((256 + j1)) 0), S) else if l2 = 1 then some (some (S.1 ((256 + j1)) 1), S) else if l2 = 2 then some (some (S.1 ((256 + j1)) 2), S) else if l2 = 3 then some (some (S.1 ((256 + j1)) 3), S) else some (none, S) else some (none, S)
set_option maxHeartbeats 4000000 in
set_option maxRecDepth 40000 in
theorem w_X11_who_0 {F : xH} {ev : xEv} {prim : xRel} {d sz : Nat} {T : yT} {v : Option Int32} {S' : yS} (N : Nat) (S : yS) (l1 : Int32) (l2 : Int32) (hp : xH) (lv : xLv) (a0 : Nat) (fa0 : yAt T 11 0 0 a0) (g0 : xG lv 0 = some (.ref a0)) (g1 : xG lv 1 = some (.int l1)) (g2 : xG lv 2 = some (.int l2)) (hM : cR [0, 1, 2, 3, 4, 5, 6, 7] F ev T S hp) (h : f_X11_who_0 N S l1 l2 = some (v, S')) : yWE ev.2.1 (xstr ev) (xCalls ev xmi (xprog ev) prim (d + 2)) (pX11_who ev) (0, lv, [], hp, sz, 0) (ypT [0, 1, 2, 3, 4, 5, 6, 7] F ev T sz [8, 80] (vI v) S') := by
  unfold f_X11_who_0 at h
  refine ye_aload rfl g0 ?_
  refine ye_iload rfl g1 ?_
  obtain ⟨w1, hw1, h⟩ := bV_some h
  refine ye_callV (As := [.int l1]) (rest := []) 0 (Or.inl rfl) rfl rfl rfl (Nat.le_of_ble_eq_true rfl) (hM.obj fa0 ⟨rfl, rfl⟩) ((m_X11_isPilot (d := d + 0) (T := T) N S l1 a0 fa0 hw1) hp sz hM) ?_
  refine ye_if_ne rfl (fun h1 => ?_) (fun h1 => ?_)
  · replace h := yiT h1 h
    refine ye_aload rfl g0 ?_
    refine ye_getr rfl (hM.obj fa0 ⟨rfl, rfl⟩) rfl (fun cx1 ecx1 => ?_)
    have fcx1 := hM.root 10 0 (by decide) rfl ecx1
    refine ye_getr rfl (hM.obj fcx1 ⟨rfl, rfl⟩) rfl (fun cx2 ecx2 => ?_)
    have fcx2 := yAt.row fcx1 ecx2
    refine ye_iload rfl g1 ?_
    obtain ⟨j1, ej1, ij1, rj1, h⟩ := gR_some h
    refine ye_aaldR (t := 6) rfl (hM.arr fcx2 yr_10_6) ij1 ej1 rj1 (fun cx3 ecx3 => ?_)
    have fcx3 : yAt T 5 (256 + j1) 0 cx3 := ⟨hM.refd fcx2 yr_10_6 (by decide) rj1, oc_256 (by have := vp_lt ij1; omega), ecx3⟩
    refine ye_p rfl rfl ?_
    have g2_z1 := xG_o1 (i := 3) (v := .ref cx3) g2 rfl
    have g3_z1 := xG_same lv 3 (.ref cx3)
    generalize xSt1 lv 3 (.ref cx3) = lvz1 at g2_z1 g3_z1 ⊢
    refine ye_iload rfl g2_z1 ?_
    by_cases h2 : l2 = 0
    · replace h := yiT h2 h
      refine ye_sw rfl (show _ = 60 from by rw [h2]; rfl) ?_
      refine ye_aload rfl g3_z1 ?_
      refine ye_getf rfl (hM.obj fcx3 ⟨rfl, rfl⟩) rfl ?_
      exact ye_ret rfl rfl (rT h hM)
    · replace h := yiN h2 h
      by_cases h3 : l2 = 1
      · replace h := yiT h3 h
        refine ye_sw rfl (show _ = 65 from by rw [h3]; rfl) ?_
        refine ye_aload rfl g3_z1 ?_
        refine ye_getf rfl (hM.obj fcx3 ⟨rfl, rfl⟩) rfl ?_
        exact ye_ret rfl rfl (rT h hM)
      · replace h := yiN h3 h
        by_cases h4 : l2 = 2
        · replace h := yiT h4 h
          refine ye_sw rfl (show _ = 70 from by rw [h4]; rfl) ?_
          refine ye_aload rfl g3_z1 ?_
          refine ye_getf rfl (hM.obj fcx3 ⟨rfl, rfl⟩) rfl ?_
          exact ye_ret rfl rfl (rT h hM)
        · replace h := yiN h4 h
          by_cases h5 : l2 = 3
          · replace h := yiT h5 h
            refine ye_sw rfl (show _ = 75 from by rw [h5]; rfl) ?_
            refine ye_aload rfl g3_z1 ?_
            refine ye_getf rfl (hM.obj fcx3 ⟨rfl, rfl⟩) rfl ?_
            exact ye_ret rfl rfl (rT h hM)
          · replace h := yiN h5 h
            refine ye_sw rfl (show _ = 80 from xtsw_neg h2 (by decide) (xtsw_neg h3 (by decide) (xtsw_neg h4 (by decide) (xtsw_neg h5 (by decide) (xtsw_nil))))) ?_
            exact ye_stop (rX h (by decide) hM)
  · replace h := yiN h1 h
    exact ye_stop (rX h (by decide) hM)
def f_X11_who (N : Nat) (S : yS) (xl1 : Int32) (xl2 : Int32) : Option (Option Int32 × yS) := f_X11_who_0 N S xl1 xl2
theorem m_X11_who {F : xH} {ev : xEv} {prim : xRel} {d : Nat} {T : yT} {v : Option Int32} {S' : yS} (N : Nat) (S : yS) (xl1 : Int32) (xl2 : Int32) (a0 : Nat) (fa0 : yAt T 11 0 0 a0) (h : f_X11_who N S xl1 xl2 = some (v, S')) : ∀ (hp : xH) (sz : Nat), cR [0, 1, 2, 3, 4, 5, 6, 7] F ev T S hp → yWE ev.2.1 (xstr ev) (xCalls ev xmi (xprog ev) prim (d + 2)) (pX11_who ev) (0, lv_args 0 [.ref a0, .int xl1, .int xl2], [], hp, sz, 0) (ypT [0, 1, 2, 3, 4, 5, 6, 7] F ev T sz [8, 80] (vI v) S') :=
  fun hp sz hM => w_X11_who_0 (prim := prim) (d := d) N S xl1 xl2 hp _ a0 fa0 rfl rfl rfl hM h

def f_X11_flown_0 (N : Nat) (S : yS) (l1 : Int32) (l2 : Int32) : Option Int32 := bV (f_X11_isFlight N S l1) fun w1 => if ¬ w1 = 0 then gR (S.2.1 2 11) 24 l1 fun j1 => if l2 = 0 then some (S.1 ((512 + j1)) 4) else if l2 = 1 then some (S.1 ((512 + j1)) 5) else if l2 = 2 then some (S.1 ((512 + j1)) 6) else some ((-1)) else some ((-1))
set_option maxHeartbeats 4000000 in
set_option maxRecDepth 40000 in
theorem w_X11_flown_0 {F : xH} {ev : xEv} {prim : xRel} {d sz : Nat} {T : yT} {v : Int32} {hp : xH} (N : Nat) (S : yS) (l1 : Int32) (l2 : Int32) (lv : xLv) (a0 : Nat) (fa0 : yAt T 11 0 0 a0) (g0 : xG lv 0 = some (.ref a0)) (g1 : xG lv 1 = some (.int l1)) (g2 : xG lv 2 = some (.int l2)) (hM : cR [0, 1, 2, 3, 4, 5, 6, 7] F ev T S hp) (h : f_X11_flown_0 N S l1 l2 = some v) : yWE ev.2.1 (xstr ev) (xCalls ev xmi (xprog ev) prim (d + 2)) (pX11_flown ev) (0, lv, [], hp, sz, 0) (ypP hp sz (.int v)) := by
  unfold f_X11_flown_0 at h
  refine ye_aload rfl g0 ?_
  refine ye_iload rfl g1 ?_
  obtain ⟨w1, hw1, h⟩ := bV_some h
  refine ye_callV (As := [.int l1]) (rest := []) 0 (Or.inl rfl) rfl rfl rfl (Nat.le_of_ble_eq_true rfl) (hM.obj fa0 ⟨rfl, rfl⟩) ((m_X11_isFlight (d := d + 0) (T := T) N S l1 a0 fa0 hw1) hp sz hM) ?_
  refine ye_if_ne rfl (fun h1 => ?_) (fun h1 => ?_)
  · replace h := yiT h1 h
    refine ye_aload rfl g0 ?_
    refine ye_getr rfl (hM.obj fa0 ⟨rfl, rfl⟩) rfl (fun cx1 ecx1 => ?_)
    have fcx1 := hM.root 10 0 (by decide) rfl ecx1
    refine ye_getr rfl (hM.obj fcx1 ⟨rfl, rfl⟩) rfl (fun cx2 ecx2 => ?_)
    have fcx2 := yAt.row fcx1 ecx2
    refine ye_iload rfl g1 ?_
    obtain ⟨j1, ej1, ij1, rj1, h⟩ := gR_some h
    refine ye_aaldR (t := 8) rfl (hM.arr fcx2 yr_10_11) ij1 ej1 rj1 (fun cx3 ecx3 => ?_)
    have fcx3 : yAt T 1 (512 + j1) 0 cx3 := ⟨hM.refd fcx2 yr_10_11 (by decide) rj1, oc_512 (by have := vp_lt ij1; omega), ecx3⟩
    refine ye_p rfl rfl ?_
    have g2_z1 := xG_o1 (i := 3) (v := .ref cx3) g2 rfl
    have g3_z1 := xG_same lv 3 (.ref cx3)
    generalize xSt1 lv 3 (.ref cx3) = lvz1 at g2_z1 g3_z1 ⊢
    refine ye_iload rfl g2_z1 ?_
    by_cases h2 : l2 = 0
    · replace h := yiT h2 h
      refine ye_sw rfl (show _ = 48 from by rw [h2]; rfl) ?_
      refine ye_aload rfl g3_z1 ?_
      refine ye_getf rfl (hM.obj fcx3 ⟨rfl, rfl⟩) rfl ?_
      exact ye_ret rfl rfl (rP h)
    · replace h := yiN h2 h
      by_cases h3 : l2 = 1
      · replace h := yiT h3 h
        refine ye_sw rfl (show _ = 53 from by rw [h3]; rfl) ?_
        refine ye_aload rfl g3_z1 ?_
        refine ye_getf rfl (hM.obj fcx3 ⟨rfl, rfl⟩) rfl ?_
        exact ye_ret rfl rfl (rP h)
      · replace h := yiN h3 h
        by_cases h4 : l2 = 2
        · replace h := yiT h4 h
          refine ye_sw rfl (show _ = 58 from by rw [h4]; rfl) ?_
          refine ye_aload rfl g3_z1 ?_
          refine ye_getf rfl (hM.obj fcx3 ⟨rfl, rfl⟩) rfl ?_
          exact ye_ret rfl rfl (rP h)
        · replace h := yiN h4 h
          refine ye_sw rfl (show _ = 63 from xtsw_neg h2 (by decide) (xtsw_neg h3 (by decide) (xtsw_neg h4 (by decide) (xtsw_nil)))) ?_
          refine ye_p rfl rfl ?_
          exact ye_ret rfl rfl (rP h)
  · replace h := yiN h1 h
    refine ye_p rfl rfl ?_
    exact ye_ret rfl rfl (rP h)
def f_X11_flown (N : Nat) (S : yS) (xl1 : Int32) (xl2 : Int32) : Option Int32 := f_X11_flown_0 N S xl1 xl2
theorem m_X11_flown {F : xH} {ev : xEv} {prim : xRel} {d : Nat} {T : yT} {v : Int32} (N : Nat) (S : yS) (xl1 : Int32) (xl2 : Int32) (a0 : Nat) (fa0 : yAt T 11 0 0 a0) (h : f_X11_flown N S xl1 xl2 = some v) : ykP [0, 1, 2, 3, 4, 5, 6, 7] F ev prim (d + 3) 157 T S [.ref a0, .int xl1, .int xl2] (.int v) :=
  ykP.of (pg_157 ev) mi_157 (Nat.le_of_ble_eq_true rfl) (fun hp sz hM => w_X11_flown_0 (prim := prim) (d := d) N S xl1 xl2 _ a0 fa0 rfl rfl rfl hM h)

def f_X11_lead_0 (N : Nat) (S : yS) (l1 : Int32) : Option (Int32 × yS) := bV (f_X11_isBag N S l1) fun w1 => if ¬ w1 = 0 then gR (S.2.1 2 8) 30 l1 fun j1 => sq (yI S 0 8 (2 * (S.1 ((384 + j1)) 10))) fun S1 => gP (¬ (0 : Int32) < 0 ∧ ¬ (0 : Int32) < 0 ∧ ¬ (S1.1 0 8) < 0 ∧ (0 : Int32).toNatClampNeg + (S1.1 0 8).toNatClampNeg ≤ 32 ∧ (0 : Int32).toNatClampNeg + (S1.1 0 8).toNatClampNeg ≤ 32) (sq (yA S1 0 7 (va_cpy (S1.2.1 ((384 + j1)) 9) (S1.2.1 0 7) (0 : Int32).toNatClampNeg (0 : Int32).toNatClampNeg (S1.1 0 8).toNatClampNeg)) fun S2 => some (S2.1 ((384 + j1)) 10, S2)) else some ((-1), S)
set_option maxHeartbeats 4000000 in
set_option maxRecDepth 40000 in
theorem w_X11_lead_0 {F : xH} {ev : xEv} {prim : xRel} {d sz : Nat} {T : yT} {v : Int32} {S' : yS} (N : Nat) (S : yS) (l1 : Int32) (hp : xH) (lv : xLv) (a0 : Nat) (fa0 : yAt T 11 0 0 a0) (g0 : xG lv 0 = some (.ref a0)) (g1 : xG lv 1 = some (.int l1)) (hM : cR [0, 1, 2, 3, 4, 5, 6, 7] F ev T S hp) (h : f_X11_lead_0 N S l1 = some (v, S')) : yWE ev.2.1 (xstr ev) (xCalls ev xmi (xprog ev) prim (d + 2)) (pX11_lead ev) (0, lv, [], hp, sz, 0) (ypQ [0, 1, 2, 3, 4, 5, 6, 7] F ev T sz (some (.int v)) S') := by
  unfold f_X11_lead_0 at h
  refine ye_aload rfl g0 ?_
  refine ye_iload rfl g1 ?_
  obtain ⟨w1, hw1, h⟩ := bV_some h
  refine ye_callV (As := [.int l1]) (rest := []) 0 (Or.inl rfl) rfl rfl rfl (Nat.le_of_ble_eq_true rfl) (hM.obj fa0 ⟨rfl, rfl⟩) ((m_X11_isBag (d := d + 0) (T := T) N S l1 a0 fa0 hw1) hp sz hM) ?_
  refine ye_if_ne rfl (fun h1 => ?_) (fun h1 => ?_)
  · replace h := yiT h1 h
    refine ye_aload rfl g0 ?_
    refine ye_getr rfl (hM.obj fa0 ⟨rfl, rfl⟩) rfl (fun cx1 ecx1 => ?_)
    have fcx1 := hM.root 10 0 (by decide) rfl ecx1
    refine ye_getr rfl (hM.obj fcx1 ⟨rfl, rfl⟩) rfl (fun cx2 ecx2 => ?_)
    have fcx2 := yAt.row fcx1 ecx2
    refine ye_iload rfl g1 ?_
    obtain ⟨j1, ej1, ij1, rj1, h⟩ := gR_some h
    refine ye_aaldR (t := 7) rfl (hM.arr fcx2 yr_10_8) ij1 ej1 rj1 (fun cx3 ecx3 => ?_)
    have fcx3 : yAt T 0 (384 + j1) 0 cx3 := ⟨hM.refd fcx2 yr_10_8 (by decide) rj1, oc_384 (by have := vp_lt ij1; omega), ecx3⟩
    refine ye_p rfl rfl ?_
    have g0_z1 := xG_o1 (i := 2) (v := .ref cx3) g0 rfl
    have g2_z1 := xG_same lv 2 (.ref cx3)
    generalize xSt1 lv 2 (.ref cx3) = lvz1 at g0_z1 g2_z1 ⊢
    refine ye_aload rfl g0_z1 ?_
    refine ye_p rfl rfl ?_
    refine ye_aload rfl g2_z1 ?_
    refine ye_getf rfl (hM.obj fcx3 ⟨rfl, rfl⟩) rfl ?_
    refine ye_p rfl rfl ?_
    obtain ⟨S1, eS1, h⟩ := sq_some h
    refine yw_putI rfl hM fa0 rfl ⟨rfl, rfl⟩ (Nat.le_of_ble_eq_true rfl) rfl rfl (ys_11_8 ev T _ (2 * (S.1 ((384 + j1)) 10))) (fun q => absurd q (by decide)) eS1 (fun y1 M1 => ?_)
    refine ye_aload rfl g2_z1 ?_
    refine ye_getr rfl (M1.obj fcx3 ⟨rfl, rfl⟩) rfl (fun cx4 ecx4 => ?_)
    have fcx4 := yAt.row fcx3 ecx4
    refine ye_p rfl rfl ?_
    refine ye_aload rfl g0_z1 ?_
    refine ye_getr rfl (M1.obj fa0 ⟨rfl, rfl⟩) rfl (fun cx5 ecx5 => ?_)
    have fcx5 := yAt.row fa0 ecx5
    refine ye_p rfl rfl ?_
    refine ye_aload rfl g0_z1 ?_
    refine ye_getf rfl (M1.obj fa0 ⟨rfl, rfl⟩) rfl ?_
    obtain ⟨i1, h⟩ := gP_some h
    obtain ⟨S2, eS2, h⟩ := sq_some h
    refine yw_copy rfl M1 fcx4 yr_0_9 fcx5 yr_11_7 i1 (Nat.le_of_ble_eq_true rfl) eS2 (fun y2 M2 => ?_)
    refine ye_aload rfl g2_z1 ?_
    refine ye_getf rfl (M2.obj fcx3 ⟨rfl, rfl⟩) rfl ?_
    exact ye_ret rfl rfl (rQ h M2)
  · replace h := yiN h1 h
    refine ye_p rfl rfl ?_
    exact ye_ret rfl rfl (rQ h hM)
def f_X11_lead (N : Nat) (S : yS) (xl1 : Int32) : Option (Int32 × yS) := f_X11_lead_0 N S xl1
theorem m_X11_lead {F : xH} {ev : xEv} {prim : xRel} {d : Nat} {T : yT} {v : Int32} {S' : yS} (N : Nat) (S : yS) (xl1 : Int32) (a0 : Nat) (fa0 : yAt T 11 0 0 a0) (h : f_X11_lead N S xl1 = some (v, S')) : ykQ [0, 1, 2, 3, 4, 5, 6, 7] F ev prim (d + 3) 158 T S [.ref a0, .int xl1] (some (.int v)) S' :=
  ykQ.of (pg_158 ev) mi_158 (Nat.le_of_ble_eq_true rfl) (fun hp sz hM => w_X11_lead_0 (prim := prim) (d := d) N S xl1 hp _ a0 fa0 rfl rfl hM h)

def f_X11_judge_26 : Nat → Nat → yS → Int32 → Int32 → Int32 → Option (Int32 × yS)
  | 0, _, _, _, _, _ => none
  | n + 1, N, S, l1, l2, l3 => if (S.1 2 9) ≤ l3 then some (l2, S) else gR (S.2.1 2 8) 30 l3 fun j1 => bS (f_X10_payBy N S l1 ((384 + j1))) fun w1 S1 => f_X11_judge_26 n N S1 l1 (l2 + w1) (l3 + 1)
set_option maxHeartbeats 4000000 in
set_option maxRecDepth 40000 in
theorem w_X11_judge_26 {F : xH} {ev : xEv} {prim : xRel} {d sz : Nat} {T : yT} {v : Int32} {S' : yS} (N : Nat) (n : Nat) : ∀ (S : yS) (l1 : Int32) (l2 : Int32) (l3 : Int32) (hp : xH) (lv : xLv) (a0 : Nat) (fa0 : yAt T 11 0 0 a0) (g0 : xG lv 0 = some (.ref a0)) (g1 : xG lv 1 = some (.int l1)) (g2 : xG lv 2 = some (.int l2)) (g3 : xG lv 3 = some (.int l3)) (hM : cR [0, 1, 2, 3, 4, 5, 6, 7] F ev T S hp) (h : f_X11_judge_26 n N S l1 l2 l3 = some (v, S')), yWE ev.2.1 (xstr ev) (xCalls ev xmi (xprog ev) prim (d + 4)) (pX11_judge ev) (26, lv, [], hp, sz, 0) (ypQ [0, 1, 2, 3, 4, 5, 6, 7] F ev T sz (some (.int v)) S') := by
  induction n with
  | zero => intro S l1 l2 l3 hp lv a0 fa0 g0 g1 g2 g3 hM h; exact n_some h
  | succ n ih =>
    intro S l1 l2 l3 hp lv a0 fa0 g0 g1 g2 g3 hM h
    unfold f_X11_judge_26 at h
    refine ye_iload rfl g3 ?_
    refine ye_aload rfl g0 ?_
    refine ye_getr rfl (hM.obj fa0 ⟨rfl, rfl⟩) rfl (fun cx1 ecx1 => ?_)
    have fcx1 := hM.root 10 0 (by decide) rfl ecx1
    refine ye_getf rfl (hM.obj fcx1 ⟨rfl, rfl⟩) rfl ?_
    refine ye_icmp_ge rfl (fun h1 => ?_) (fun h1 => ?_)
    · replace h := yiT h1 h
      refine ye_iload rfl g2 ?_
      exact ye_ret rfl rfl (rQ h hM)
    · replace h := yiN h1 h
      refine ye_iload rfl g2 ?_
      refine ye_aload rfl g0 ?_
      refine ye_getr rfl (hM.obj fa0 ⟨rfl, rfl⟩) rfl (fun cx2 ecx2 => ?_)
      have fcx2 := hM.root 10 0 (by decide) rfl ecx2
      refine ye_iload rfl g1 ?_
      refine ye_aload rfl g0 ?_
      refine ye_getr rfl (hM.obj fa0 ⟨rfl, rfl⟩) rfl (fun cx3 ecx3 => ?_)
      have fcx3 := hM.root 10 0 (by decide) rfl ecx3
      refine ye_getr rfl (hM.obj fcx3 ⟨rfl, rfl⟩) rfl (fun cx4 ecx4 => ?_)
      have fcx4 := yAt.row fcx3 ecx4
      refine ye_iload rfl g3 ?_
      obtain ⟨j1, ej1, ij1, rj1, h⟩ := gR_some h
      refine ye_aaldR (t := 7) rfl (hM.arr fcx4 yr_10_8) ij1 ej1 rj1 (fun cx5 ecx5 => ?_)
      have fcx5 : yAt T 0 (384 + j1) 0 cx5 := ⟨hM.refd fcx4 yr_10_8 (by decide) rj1, oc_384 (by have := vp_lt ij1; omega), ecx5⟩
      obtain ⟨w1, S1, hw1, h⟩ := bS_some h
      obtain ⟨y1, cy1, M1⟩ := (m_X10_payBy (d := d + 0) (T := T) N S l1 ((384 + j1)) cx2 cx5 fcx2 fcx5 hw1) hp sz hM
      refine ye_callV (As := [.int l1, .ref cx5]) (rest := [.int l2]) 0 (Or.inl rfl) rfl rfl rfl (Nat.le_of_ble_eq_true rfl) (hM.obj fcx2 ⟨rfl, rfl⟩) cy1 ?_
      refine ye_p rfl rfl ?_
      refine ye_p rfl rfl ?_
      have g0_z1 := xG_o1 (i := 2) (v := .int (l2 + w1)) g0 rfl
      have g1_z1 := xG_o1 (i := 2) (v := .int (l2 + w1)) g1 rfl
      have g3_z1 := xG_o1 (i := 2) (v := .int (l2 + w1)) g3 rfl
      have g2_z1 := xG_same lv 2 (.int (l2 + w1))
      generalize xSt1 lv 2 (.int (l2 + w1)) = lvz1 at g0_z1 g1_z1 g3_z1 g2_z1 ⊢
      refine ye_iinc rfl g3_z1 ?_
      have g0_z2 := xG_o1 (i := 3) (v := .int (l3 + 1)) g0_z1 rfl
      have g1_z2 := xG_o1 (i := 3) (v := .int (l3 + 1)) g1_z1 rfl
      have g2_z2 := xG_o1 (i := 3) (v := .int (l3 + 1)) g2_z1 rfl
      have g3_z2 := xG_same lvz1 3 (.int (l3 + 1))
      generalize xSt1 lvz1 3 (.int (l3 + 1)) = lvz2 at g0_z2 g1_z2 g2_z2 g3_z2 ⊢
      refine ye_p rfl rfl ?_
      exact ih S1 l1 (l2 + w1) (l3 + 1) y1 lvz2 a0 fa0 g0_z2 g1_z2 g2_z2 g3_z2 M1 h

def f_X11_judge_0 (N : Nat) (S : yS) (l1 : Int32) : Option (Int32 × yS) := bV (f_X11_within N S l1 0 ((S.1 5 0) - 1)) fun w1 => if ¬ w1 = 0 then f_X11_judge_26 N N S l1 0 0 else some ((-1), S)
set_option maxHeartbeats 4000000 in
set_option maxRecDepth 40000 in
theorem w_X11_judge_0 {F : xH} {ev : xEv} {prim : xRel} {d sz : Nat} {T : yT} {v : Int32} {S' : yS} (N : Nat) (S : yS) (l1 : Int32) (hp : xH) (lv : xLv) (a0 : Nat) (fa0 : yAt T 11 0 0 a0) (g0 : xG lv 0 = some (.ref a0)) (g1 : xG lv 1 = some (.int l1)) (hM : cR [0, 1, 2, 3, 4, 5, 6, 7] F ev T S hp) (h : f_X11_judge_0 N S l1 = some (v, S')) : yWE ev.2.1 (xstr ev) (xCalls ev xmi (xprog ev) prim (d + 4)) (pX11_judge ev) (0, lv, [], hp, sz, 0) (ypQ [0, 1, 2, 3, 4, 5, 6, 7] F ev T sz (some (.int v)) S') := by
  unfold f_X11_judge_0 at h
  refine ye_iload rfl g1 ?_
  refine ye_p rfl rfl ?_
  refine ye_aload rfl g0 ?_
  refine ye_getr rfl (hM.obj fa0 ⟨rfl, rfl⟩) rfl (fun cx1 ecx1 => ?_)
  have fcx1 := hM.root 10 0 (by decide) rfl ecx1
  refine ye_getr rfl (hM.obj fcx1 ⟨rfl, rfl⟩) rfl (fun cx2 ecx2 => ?_)
  have fcx2 := hM.root 8 0 (by decide) rfl ecx2
  refine ye_getf rfl (hM.obj fcx2 ⟨rfl, rfl⟩) rfl ?_
  refine ye_p rfl rfl ?_
  refine ye_p rfl rfl ?_
  obtain ⟨w1, hw1, h⟩ := bV_some h
  refine ye_callS (As := [.int l1, .int 0, .int ((S.1 5 0) - 1)]) (rest := []) 1 (Or.inl rfl) rfl rfl rfl (Nat.le_of_ble_eq_true rfl) ((m_X11_within (d := d + 3) (T := T) N S l1 0 ((S.1 5 0) - 1) hw1) hp sz hM) ?_
  refine ye_if_ne rfl (fun h1 => ?_) (fun h1 => ?_)
  · replace h := yiT h1 h
    refine ye_p rfl rfl ?_
    refine ye_p rfl rfl ?_
    have g0_z1 := xG_o1 (i := 2) (v := .int 0) g0 rfl
    have g1_z1 := xG_o1 (i := 2) (v := .int 0) g1 rfl
    have g2_z1 := xG_same lv 2 (.int 0)
    generalize xSt1 lv 2 (.int 0) = lvz1 at g0_z1 g1_z1 g2_z1 ⊢
    refine ye_p rfl rfl ?_
    refine ye_p rfl rfl ?_
    have g0_z2 := xG_o1 (i := 3) (v := .int 0) g0_z1 rfl
    have g1_z2 := xG_o1 (i := 3) (v := .int 0) g1_z1 rfl
    have g2_z2 := xG_o1 (i := 3) (v := .int 0) g2_z1 rfl
    have g3_z2 := xG_same lvz1 3 (.int 0)
    generalize xSt1 lvz1 3 (.int 0) = lvz2 at g0_z2 g1_z2 g2_z2 g3_z2 ⊢
    exact w_X11_judge_26 (prim := prim) (d := d) N N S l1 0 0 hp lvz2 a0 fa0 g0_z2 g1_z2 g2_z2 g3_z2 hM h
  · replace h := yiN h1 h
    refine ye_p rfl rfl ?_
    exact ye_ret rfl rfl (rQ h hM)
def f_X11_judge (N : Nat) (S : yS) (xl1 : Int32) : Option (Int32 × yS) := f_X11_judge_0 N S xl1
theorem m_X11_judge {F : xH} {ev : xEv} {prim : xRel} {d : Nat} {T : yT} {v : Int32} {S' : yS} (N : Nat) (S : yS) (xl1 : Int32) (a0 : Nat) (fa0 : yAt T 11 0 0 a0) (h : f_X11_judge N S xl1 = some (v, S')) : ykQ [0, 1, 2, 3, 4, 5, 6, 7] F ev prim (d + 5) 159 T S [.ref a0, .int xl1] (some (.int v)) S' :=
  ykQ.of (pg_159 ev) mi_159 (Nat.le_of_ble_eq_true rfl) (fun hp sz hM => w_X11_judge_0 (prim := prim) (d := d) N S xl1 hp _ a0 fa0 rfl rfl hM h)

def f_X11_find_0 (N : Nat) (S : yS) (l1 : Int32) : Option (Int32 × yS) := bV (f_X11_isDown N S l1) fun w1 => if ¬ w1 = 0 then gR (S.2.1 2 4) 8 l1 fun j1 => gR (S.2.1 1 4) 12 (S.1 ((128 + j1)) 9) fun j2 => bV (f_X3_nearer N S ((64 + j2)) (S.1 ((128 + j1)) 10)) fun w2 => sq (yI S ((128 + j1)) 18 0) fun S1 => bS (f_X10_unload N S1 l1 w2) fun w3 S2 => some (w2, S2) else some ((-1), S)
set_option maxHeartbeats 4000000 in
set_option maxRecDepth 40000 in
theorem w_X11_find_0 {F : xH} {ev : xEv} {prim : xRel} {d sz : Nat} {T : yT} {v : Int32} {S' : yS} (N : Nat) (S : yS) (l1 : Int32) (hp : xH) (lv : xLv) (a0 : Nat) (fa0 : yAt T 11 0 0 a0) (g0 : xG lv 0 = some (.ref a0)) (g1 : xG lv 1 = some (.int l1)) (hM : cR [0, 1, 2, 3, 4, 5, 6, 7] F ev T S hp) (h : f_X11_find_0 N S l1 = some (v, S')) : yWE ev.2.1 (xstr ev) (xCalls ev xmi (xprog ev) prim (d + 3)) (pX11_find ev) (0, lv, [], hp, sz, 0) (ypQ [0, 1, 2, 3, 4, 5, 6, 7] F ev T sz (some (.int v)) S') := by
  unfold f_X11_find_0 at h
  refine ye_aload rfl g0 ?_
  refine ye_iload rfl g1 ?_
  obtain ⟨w1, hw1, h⟩ := bV_some h
  refine ye_callV (As := [.int l1]) (rest := []) 0 (Or.inl rfl) rfl rfl rfl (Nat.le_of_ble_eq_true rfl) (hM.obj fa0 ⟨rfl, rfl⟩) ((m_X11_isDown (d := d + 0) (T := T) N S l1 a0 fa0 hw1) hp sz hM) ?_
  refine ye_if_ne rfl (fun h1 => ?_) (fun h1 => ?_)
  · replace h := yiT h1 h
    refine ye_aload rfl g0 ?_
    refine ye_getr rfl (hM.obj fa0 ⟨rfl, rfl⟩) rfl (fun cx1 ecx1 => ?_)
    have fcx1 := hM.root 10 0 (by decide) rfl ecx1
    refine ye_getr rfl (hM.obj fcx1 ⟨rfl, rfl⟩) rfl (fun cx2 ecx2 => ?_)
    have fcx2 := yAt.row fcx1 ecx2
    refine ye_iload rfl g1 ?_
    obtain ⟨j1, ej1, ij1, rj1, h⟩ := gR_some h
    refine ye_aaldR (t := 5) rfl (hM.arr fcx2 yr_10_4) ij1 ej1 rj1 (fun cx3 ecx3 => ?_)
    have fcx3 : yAt T 6 (128 + j1) 0 cx3 := ⟨hM.refd fcx2 yr_10_4 (by decide) rj1, oc_128 (by have := vp_lt ij1; omega), ecx3⟩
    refine ye_p rfl rfl ?_
    have g0_z1 := xG_o1 (i := 2) (v := .ref cx3) g0 rfl
    have g1_z1 := xG_o1 (i := 2) (v := .ref cx3) g1 rfl
    have g2_z1 := xG_same lv 2 (.ref cx3)
    generalize xSt1 lv 2 (.ref cx3) = lvz1 at g0_z1 g1_z1 g2_z1 ⊢
    refine ye_aload rfl g0_z1 ?_
    refine ye_getr rfl (hM.obj fa0 ⟨rfl, rfl⟩) rfl (fun cx4 ecx4 => ?_)
    have fcx4 := hM.root 2 0 (by decide) rfl ecx4
    refine ye_getr rfl (hM.obj fcx4 ⟨rfl, rfl⟩) rfl (fun cx5 ecx5 => ?_)
    have fcx5 := yAt.row fcx4 ecx5
    refine ye_aload rfl g2_z1 ?_
    refine ye_getf rfl (hM.obj fcx3 ⟨rfl, rfl⟩) rfl ?_
    obtain ⟨j2, ej2, ij2, rj2, h⟩ := gR_some h
    refine ye_aaldR (t := 4) rfl (hM.arr fcx5 yr_2_4) ij2 ej2 rj2 (fun cx6 ecx6 => ?_)
    have fcx6 : yAt T 3 (64 + j2) 0 cx6 := ⟨hM.refd fcx5 yr_2_4 (by decide) rj2, oc_64 (by have := vp_lt ij2; omega), ecx6⟩
    refine ye_aload rfl g2_z1 ?_
    refine ye_getf rfl (hM.obj fcx3 ⟨rfl, rfl⟩) rfl ?_
    obtain ⟨w2, hw2, h⟩ := bV_some h
    refine ye_callV (As := [.int (S.1 ((128 + j1)) 10)]) (rest := []) 0 (Or.inl rfl) rfl rfl rfl (Nat.le_of_ble_eq_true rfl) (hM.obj fcx6 ⟨rfl, rfl⟩) ((m_X3_nearer (d := d + 2) (T := T) N S ((64 + j2)) (S.1 ((128 + j1)) 10) cx6 fcx6 hw2) hp sz hM) ?_
    refine ye_p rfl rfl ?_
    have g0_z2 := xG_o1 (i := 3) (v := .int w2) g0_z1 rfl
    have g1_z2 := xG_o1 (i := 3) (v := .int w2) g1_z1 rfl
    have g2_z2 := xG_o1 (i := 3) (v := .int w2) g2_z1 rfl
    have g3_z2 := xG_same lvz1 3 (.int w2)
    generalize xSt1 lvz1 3 (.int w2) = lvz2 at g0_z2 g1_z2 g2_z2 g3_z2 ⊢
    refine ye_aload rfl g2_z2 ?_
    refine ye_p rfl rfl ?_
    obtain ⟨S1, eS1, h⟩ := sq_some h
    refine yw_putI rfl hM fcx3 rfl ⟨rfl, rfl⟩ (Nat.le_of_ble_eq_true rfl) rfl rfl (ys_6_18 ev T _ 0) (fun q => absurd q (by decide)) eS1 (fun y1 M1 => ?_)
    refine ye_aload rfl g0_z2 ?_
    refine ye_getr rfl (M1.obj fa0 ⟨rfl, rfl⟩) rfl (fun cx7 ecx7 => ?_)
    have fcx7 := M1.root 10 0 (by decide) rfl ecx7
    refine ye_iload rfl g1_z2 ?_
    refine ye_iload rfl g3_z2 ?_
    obtain ⟨w3, S2, hw3, h⟩ := bS_some h
    obtain ⟨y2, cy2, M2⟩ := (m_X10_unload (d := d + 0) (T := T) N S1 l1 w2 cx7 fcx7 hw3) y1 sz M1
    refine ye_callV (As := [.int l1, .int w2]) (rest := []) 0 (Or.inl rfl) rfl rfl rfl (Nat.le_of_ble_eq_true rfl) (M1.obj fcx7 ⟨rfl, rfl⟩) cy2 ?_
    refine ye_iload rfl g3_z2 ?_
    exact ye_ret rfl rfl (rQ h M2)
  · replace h := yiN h1 h
    refine ye_p rfl rfl ?_
    exact ye_ret rfl rfl (rQ h hM)
def f_X11_find (N : Nat) (S : yS) (xl1 : Int32) : Option (Int32 × yS) := f_X11_find_0 N S xl1
theorem m_X11_find {F : xH} {ev : xEv} {prim : xRel} {d : Nat} {T : yT} {v : Int32} {S' : yS} (N : Nat) (S : yS) (xl1 : Int32) (a0 : Nat) (fa0 : yAt T 11 0 0 a0) (h : f_X11_find N S xl1 = some (v, S')) : ykQ [0, 1, 2, 3, 4, 5, 6, 7] F ev prim (d + 4) 161 T S [.ref a0, .int xl1] (some (.int v)) S' :=
  ykQ.of (pg_161 ev) mi_161 (Nat.le_of_ble_eq_true rfl) (fun hp sz hM => w_X11_find_0 (prim := prim) (d := d) N S xl1 hp _ a0 fa0 rfl rfl hM h)

def f_X11_look_19 (N : Nat) (S : yS) : Option (Int32 × yS) := some ((-1), S)
set_option maxHeartbeats 4000000 in
set_option maxRecDepth 40000 in
theorem w_X11_look_19 {F : xH} {ev : xEv} {prim : xRel} {d sz : Nat} {T : yT} {v : Int32} {S' : yS} (N : Nat) (S : yS) (hp : xH) (lv : xLv) (hM : cR [0, 1, 2, 3, 4, 5, 6, 7] F ev T S hp) (h : f_X11_look_19 N S = some (v, S')) : yWE ev.2.1 (xstr ev) (xCalls ev xmi (xprog ev) prim (d + 4)) (pX11_look ev) (19, lv, [], hp, sz, 0) (ypQ [0, 1, 2, 3, 4, 5, 6, 7] F ev T sz (some (.int v)) S') := by
  unfold f_X11_look_19 at h
  refine ye_p rfl rfl ?_
  exact ye_ret rfl rfl (rQ h hM)

def f_X11_look_0 (N : Nat) (S : yS) (l1 : Int32) (l2 : Int32) (l3 : Int32) : Option (Int32 × yS) := bV (f_X11_isCell N S l1 l2) fun w1 => if w1 = 0 then f_X11_look_19 N S else bV (f_X11_within N S l3 1 99) fun w2 => if ¬ w2 = 0 then gR (S.2.1 2 4) 8 l1 fun j1 => if (S.1 ((128 + j1)) 18) < 4 then bS (f_X6_addLook N S ((128 + j1)) l2 l3) fun w3 S1 => some (w3, S1) else some ((-1), S) else f_X11_look_19 N S
set_option maxHeartbeats 4000000 in
set_option maxRecDepth 40000 in
theorem w_X11_look_0 {F : xH} {ev : xEv} {prim : xRel} {d sz : Nat} {T : yT} {v : Int32} {S' : yS} (N : Nat) (S : yS) (l1 : Int32) (l2 : Int32) (l3 : Int32) (hp : xH) (lv : xLv) (a0 : Nat) (fa0 : yAt T 11 0 0 a0) (g0 : xG lv 0 = some (.ref a0)) (g1 : xG lv 1 = some (.int l1)) (g2 : xG lv 2 = some (.int l2)) (g3 : xG lv 3 = some (.int l3)) (hM : cR [0, 1, 2, 3, 4, 5, 6, 7] F ev T S hp) (h : f_X11_look_0 N S l1 l2 l3 = some (v, S')) : yWE ev.2.1 (xstr ev) (xCalls ev xmi (xprog ev) prim (d + 4)) (pX11_look ev) (0, lv, [], hp, sz, 0) (ypQ [0, 1, 2, 3, 4, 5, 6, 7] F ev T sz (some (.int v)) S') := by
  unfold f_X11_look_0 at h
  refine ye_aload rfl g0 ?_
  refine ye_iload rfl g1 ?_
  refine ye_iload rfl g2 ?_
  obtain ⟨w1, hw1, h⟩ := bV_some h
  refine ye_callV (As := [.int l1, .int l2]) (rest := []) 0 (Or.inl rfl) rfl rfl rfl (Nat.le_of_ble_eq_true rfl) (hM.obj fa0 ⟨rfl, rfl⟩) ((m_X11_isCell (d := d + 0) (T := T) N S l1 l2 a0 fa0 hw1) hp sz hM) ?_
  refine ye_if_eq rfl (fun h1 => ?_) (fun h1 => ?_)
  · replace h := yiT h1 h
    exact w_X11_look_19 (prim := prim) (d := d) N S hp lv hM h
  · replace h := yiN h1 h
    refine ye_iload rfl g3 ?_
    refine ye_p rfl rfl ?_
    refine ye_p rfl rfl ?_
    obtain ⟨w2, hw2, h⟩ := bV_some h
    refine ye_callS (As := [.int l3, .int 1, .int 99]) (rest := []) 1 (Or.inl rfl) rfl rfl rfl (Nat.le_of_ble_eq_true rfl) ((m_X11_within (d := d + 3) (T := T) N S l3 1 99 hw2) hp sz hM) ?_
    refine ye_if_ne rfl (fun h2 => ?_) (fun h2 => ?_)
    · replace h := yiT h2 h
      refine ye_aload rfl g0 ?_
      refine ye_getr rfl (hM.obj fa0 ⟨rfl, rfl⟩) rfl (fun cx1 ecx1 => ?_)
      have fcx1 := hM.root 10 0 (by decide) rfl ecx1
      refine ye_getr rfl (hM.obj fcx1 ⟨rfl, rfl⟩) rfl (fun cx2 ecx2 => ?_)
      have fcx2 := yAt.row fcx1 ecx2
      refine ye_iload rfl g1 ?_
      obtain ⟨j1, ej1, ij1, rj1, h⟩ := gR_some h
      refine ye_aaldR (t := 5) rfl (hM.arr fcx2 yr_10_4) ij1 ej1 rj1 (fun cx3 ecx3 => ?_)
      have fcx3 : yAt T 6 (128 + j1) 0 cx3 := ⟨hM.refd fcx2 yr_10_4 (by decide) rj1, oc_128 (by have := vp_lt ij1; omega), ecx3⟩
      refine ye_p rfl rfl ?_
      have g2_z1 := xG_o1 (i := 4) (v := .ref cx3) g2 rfl
      have g3_z1 := xG_o1 (i := 4) (v := .ref cx3) g3 rfl
      have g4_z1 := xG_same lv 4 (.ref cx3)
      generalize xSt1 lv 4 (.ref cx3) = lvz1 at g2_z1 g3_z1 g4_z1 ⊢
      refine ye_aload rfl g4_z1 ?_
      refine ye_getf rfl (hM.obj fcx3 ⟨rfl, rfl⟩) rfl ?_
      refine ye_p rfl rfl ?_
      refine ye_icmp_lt rfl (fun h3 => ?_) (fun h3 => ?_)
      · replace h := yiT h3 h
        refine ye_aload rfl g4_z1 ?_
        refine ye_iload rfl g2_z1 ?_
        refine ye_iload rfl g3_z1 ?_
        obtain ⟨w3, S1, hw3, h⟩ := bS_some h
        obtain ⟨y1, cy1, M1⟩ := (m_X6_addLook (d := d + 3) (T := T) N S ((128 + j1)) l2 l3 cx3 fcx3 hw3) hp sz hM
        refine ye_callV (As := [.int l2, .int l3]) (rest := []) 0 (Or.inl rfl) rfl rfl rfl (Nat.le_of_ble_eq_true rfl) (hM.obj fcx3 ⟨rfl, rfl⟩) cy1 ?_
        exact ye_ret rfl rfl (rQ h M1)
      · replace h := yiN h3 h
        refine ye_p rfl rfl ?_
        exact ye_ret rfl rfl (rQ h hM)
    · replace h := yiN h2 h
      exact w_X11_look_19 (prim := prim) (d := d) N S hp lv hM h
def f_X11_look (N : Nat) (S : yS) (xl1 : Int32) (xl2 : Int32) (xl3 : Int32) : Option (Int32 × yS) := f_X11_look_0 N S xl1 xl2 xl3
theorem m_X11_look {F : xH} {ev : xEv} {prim : xRel} {d : Nat} {T : yT} {v : Int32} {S' : yS} (N : Nat) (S : yS) (xl1 : Int32) (xl2 : Int32) (xl3 : Int32) (a0 : Nat) (fa0 : yAt T 11 0 0 a0) (h : f_X11_look N S xl1 xl2 xl3 = some (v, S')) : ykQ [0, 1, 2, 3, 4, 5, 6, 7] F ev prim (d + 5) 162 T S [.ref a0, .int xl1, .int xl2, .int xl3] (some (.int v)) S' :=
  ykQ.of (pg_162 ev) mi_162 (Nat.le_of_ble_eq_true rfl) (fun hp sz hM => w_X11_look_0 (prim := prim) (d := d) N S xl1 xl2 xl3 hp _ a0 fa0 rfl rfl rfl rfl hM h)

def f_X11_chance_18 (N : Nat) (S : yS) : Option (Option Int64 × yS) := some (none, S)
set_option maxHeartbeats 4000000 in
set_option maxRecDepth 40000 in
theorem w_X11_chance_18 {F : xH} {ev : xEv} {prim : xRel} {d sz : Nat} {T : yT} {v : Option Int64} {S' : yS} (N : Nat) (S : yS) (hp : xH) (lv : xLv) (hM : cR [0, 1, 2, 3, 4, 5, 6, 7] F ev T S hp) (h : f_X11_chance_18 N S = some (v, S')) : yWE ev.2.1 (xstr ev) (xCalls ev xmi (xprog ev) prim (d + 4)) (pX11_chance ev) (18, lv, [], hp, sz, 0) (ypT [0, 1, 2, 3, 4, 5, 6, 7] F ev T sz [18] (vJ v) S') := by
  unfold f_X11_chance_18 at h
  exact ye_stop (rXJ h (by decide) hM)

def f_X11_chance_105 (N : Nat) (S : yS) (l7 : Int64) (t0 : Int64) : Option (Option Int64 × yS) := gP (¬ l7 = 0) (some (some (t0 / l7), S))
set_option maxHeartbeats 4000000 in
set_option maxRecDepth 40000 in
theorem w_X11_chance_105 {F : xH} {ev : xEv} {prim : xRel} {d sz : Nat} {T : yT} {v : Option Int64} {S' : yS} (N : Nat) (S : yS) (l7 : Int64) (t0 : Int64) (hp : xH) (lv : xLv) (g7 : xG lv 7 = some (.long l7)) (hM : cR [0, 1, 2, 3, 4, 5, 6, 7] F ev T S hp) (h : f_X11_chance_105 N S l7 t0 = some (v, S')) : yWE ev.2.1 (xstr ev) (xCalls ev xmi (xprog ev) prim (d + 4)) (pX11_chance ev) (105, lv, [.long t0], hp, sz, 0) (ypT [0, 1, 2, 3, 4, 5, 6, 7] F ev T sz [18] (vJ v) S') := by
  unfold f_X11_chance_105 at h
  refine ye_lload rfl g7 ?_
  obtain ⟨i1, h⟩ := gP_some h
  refine ye_ldiv rfl i1 ?_
  exact ye_ret rfl rfl (rTJ h hM)

def f_X11_chance_42 : Nat → Nat → yS → Int32 → Int32 → Int32 → Int64 → Int32 → Option (Option Int64 × yS)
  | 0, _, _, _, _, _, _, _ => none
  | n + 1, N, S, l2, l3, l4, l5, l7 => if l4 ≤ l7 then gA 41 l2 fun j1 => bV (f_X11_commonDivisor N S l5 (S.2.2 0 4 j1)) fun w1 => if 0 < (lg_cmp w1 0) then if ¬ l3 = 0 then f_X11_chance_105 N S w1 l5 else gA 41 l2 fun j2 => f_X11_chance_105 N S w1 (S.2.2 0 4 j2) else some (some l3.toInt64, S) else gA 41 l7 fun j3 => f_X11_chance_42 n N S l2 l3 l4 (l5 + (S.2.2 0 4 j3)) (l7 + 1)
set_option maxHeartbeats 4000000 in
set_option maxRecDepth 40000 in
theorem w_X11_chance_42 {F : xH} {ev : xEv} {prim : xRel} {d sz : Nat} {T : yT} {v : Option Int64} {S' : yS} (N : Nat) (n : Nat) : ∀ (S : yS) (l2 : Int32) (l3 : Int32) (l4 : Int32) (l5 : Int64) (l7 : Int32) (hp : xH) (lv : xLv) (a0 : Nat) (fa0 : yAt T 11 0 0 a0) (g0 : xG lv 0 = some (.ref a0)) (g2 : xG lv 2 = some (.int l2)) (g3 : xG lv 3 = some (.int l3)) (g4 : xG lv 4 = some (.int l4)) (g5 : xG lv 5 = some (.long l5)) (g7 : xG lv 7 = some (.int l7)) (hM : cR [0, 1, 2, 3, 4, 5, 6, 7] F ev T S hp) (h : f_X11_chance_42 n N S l2 l3 l4 l5 l7 = some (v, S')), yWE ev.2.1 (xstr ev) (xCalls ev xmi (xprog ev) prim (d + 4)) (pX11_chance ev) (42, lv, [], hp, sz, 0) (ypT [0, 1, 2, 3, 4, 5, 6, 7] F ev T sz [18] (vJ v) S') := by
  induction n with
  | zero => intro S l2 l3 l4 l5 l7 hp lv a0 fa0 g0 g2 g3 g4 g5 g7 hM h; exact n_some h
  | succ n ih =>
    intro S l2 l3 l4 l5 l7 hp lv a0 fa0 g0 g2 g3 g4 g5 g7 hM h
    unfold f_X11_chance_42 at h
    refine ye_iload rfl g7 ?_
    refine ye_iload rfl g4 ?_
    refine ye_icmp_ge rfl (fun h1 => ?_) (fun h1 => ?_)
    · replace h := yiT h1 h
      refine ye_lload rfl g5 ?_
      refine ye_aload rfl g0 ?_
      refine ye_getr rfl (hM.obj fa0 ⟨rfl, rfl⟩) rfl (fun cx1 ecx1 => ?_)
      have fcx1 := yAt.row fa0 ecx1
      refine ye_iload rfl g2 ?_
      obtain ⟨j1, ej1, ij1, h⟩ := gA_some h
      refine yj_lald rfl (hM.arr fcx1 yr_11_4) ij1 ej1 ?_
      obtain ⟨w1, hw1, h⟩ := bV_some h
      refine ye_callS (As := [.long l5, .long (S.2.2 0 4 j1)]) (rest := []) 1 (Or.inl rfl) rfl rfl rfl (Nat.le_of_ble_eq_true rfl) ((m_X11_commonDivisor (d := d + 3) (T := T) N S l5 (S.2.2 0 4 j1) hw1) hp sz hM) ?_
      refine ye_p rfl rfl ?_
      have g0_z1 := xG_o2 (i := 7) (v := .long w1) g0 rfl
      have g2_z1 := xG_o2 (i := 7) (v := .long w1) g2 rfl
      have g3_z1 := xG_o2 (i := 7) (v := .long w1) g3 rfl
      have g5_z1 := xG_o2 (i := 7) (v := .long w1) g5 rfl
      have g7_z1 := xG_same2 lv 7 (.long w1)
      generalize xSt2 lv 7 (.long w1) = lvz1 at g0_z1 g2_z1 g3_z1 g5_z1 g7_z1 ⊢
      refine ye_lload rfl g7_z1 ?_
      refine ye_p rfl rfl ?_
      refine ye_p rfl rfl ?_
      refine ye_if_gt rfl (fun h2 => ?_) (fun h2 => ?_)
      · replace h := yiT h2 h
        refine ye_iload rfl g3_z1 ?_
        refine ye_if_ne rfl (fun h3 => ?_) (fun h3 => ?_)
        · replace h := yiT h3 h
          refine ye_lload rfl g5_z1 ?_
          exact w_X11_chance_105 (prim := prim) (d := d) N S w1 l5 hp lvz1 g7_z1 hM h
        · replace h := yiN h3 h
          refine ye_aload rfl g0_z1 ?_
          refine ye_getr rfl (hM.obj fa0 ⟨rfl, rfl⟩) rfl (fun cx2 ecx2 => ?_)
          have fcx2 := yAt.row fa0 ecx2
          refine ye_iload rfl g2_z1 ?_
          obtain ⟨j2, ej2, ij2, h⟩ := gA_some h
          refine yj_lald rfl (hM.arr fcx2 yr_11_4) ij2 ej2 ?_
          refine ye_p rfl rfl ?_
          exact w_X11_chance_105 (prim := prim) (d := d) N S w1 (S.2.2 0 4 j2) hp lvz1 g7_z1 hM h
      · replace h := yiN h2 h
        refine ye_iload rfl g3_z1 ?_
        refine ye_p rfl rfl ?_
        exact ye_ret rfl rfl (rTJ h hM)
    · replace h := yiN h1 h
      refine ye_lload rfl g5 ?_
      refine ye_aload rfl g0 ?_
      refine ye_getr rfl (hM.obj fa0 ⟨rfl, rfl⟩) rfl (fun cx3 ecx3 => ?_)
      have fcx3 := yAt.row fa0 ecx3
      refine ye_iload rfl g7 ?_
      obtain ⟨j3, ej3, ij3, h⟩ := gA_some h
      refine yj_lald rfl (hM.arr fcx3 yr_11_4) ij3 ej3 ?_
      refine ye_p rfl rfl ?_
      refine ye_p rfl rfl ?_
      have g0_z2 := xG_o2 (i := 5) (v := .long (l5 + (S.2.2 0 4 j3))) g0 rfl
      have g2_z2 := xG_o2 (i := 5) (v := .long (l5 + (S.2.2 0 4 j3))) g2 rfl
      have g3_z2 := xG_o2 (i := 5) (v := .long (l5 + (S.2.2 0 4 j3))) g3 rfl
      have g4_z2 := xG_o2 (i := 5) (v := .long (l5 + (S.2.2 0 4 j3))) g4 rfl
      have g7_z2 := xG_o2 (i := 5) (v := .long (l5 + (S.2.2 0 4 j3))) g7 rfl
      have g5_z2 := xG_same2 lv 5 (.long (l5 + (S.2.2 0 4 j3)))
      generalize xSt2 lv 5 (.long (l5 + (S.2.2 0 4 j3))) = lvz2 at g0_z2 g2_z2 g3_z2 g4_z2 g7_z2 g5_z2 ⊢
      refine ye_iinc rfl g7_z2 ?_
      have g0_z3 := xG_o1 (i := 7) (v := .int (l7 + 1)) g0_z2 rfl
      have g2_z3 := xG_o1 (i := 7) (v := .int (l7 + 1)) g2_z2 rfl
      have g3_z3 := xG_o1 (i := 7) (v := .int (l7 + 1)) g3_z2 rfl
      have g4_z3 := xG_o1 (i := 7) (v := .int (l7 + 1)) g4_z2 rfl
      have g5_z3 := xG_o1 (i := 7) (v := .int (l7 + 1)) g5_z2 rfl
      have g7_z3 := xG_same lvz2 7 (.int (l7 + 1))
      generalize xSt1 lvz2 7 (.int (l7 + 1)) = lvz3 at g0_z3 g2_z3 g3_z3 g4_z3 g5_z3 g7_z3 ⊢
      refine ye_p rfl rfl ?_
      exact ih S l2 l3 l4 (l5 + (S.2.2 0 4 j3)) (l7 + 1) hp lvz3 a0 fa0 g0_z3 g2_z3 g3_z3 g4_z3 g5_z3 g7_z3 hM h

def f_X11_chance_0 (N : Nat) (S : yS) (l1 : Int32) (l2 : Int32) (l3 : Int32) : Option (Option Int64 × yS) := bV (f_X11_isCell N S l1 l2) fun w1 => if w1 = 0 then f_X11_chance_18 N S else bV (f_X11_within N S l3 0 1) fun w2 => if ¬ w2 = 0 then bS (f_X11_weighCells N S l1) fun w3 S1 => f_X11_chance_42 N N S1 l2 l3 w3 0 0 else f_X11_chance_18 N S
set_option maxHeartbeats 4000000 in
set_option maxRecDepth 40000 in
theorem w_X11_chance_0 {F : xH} {ev : xEv} {prim : xRel} {d sz : Nat} {T : yT} {v : Option Int64} {S' : yS} (N : Nat) (S : yS) (l1 : Int32) (l2 : Int32) (l3 : Int32) (hp : xH) (lv : xLv) (a0 : Nat) (fa0 : yAt T 11 0 0 a0) (g0 : xG lv 0 = some (.ref a0)) (g1 : xG lv 1 = some (.int l1)) (g2 : xG lv 2 = some (.int l2)) (g3 : xG lv 3 = some (.int l3)) (hM : cR [0, 1, 2, 3, 4, 5, 6, 7] F ev T S hp) (h : f_X11_chance_0 N S l1 l2 l3 = some (v, S')) : yWE ev.2.1 (xstr ev) (xCalls ev xmi (xprog ev) prim (d + 4)) (pX11_chance ev) (0, lv, [], hp, sz, 0) (ypT [0, 1, 2, 3, 4, 5, 6, 7] F ev T sz [18] (vJ v) S') := by
  unfold f_X11_chance_0 at h
  refine ye_aload rfl g0 ?_
  refine ye_iload rfl g1 ?_
  refine ye_iload rfl g2 ?_
  obtain ⟨w1, hw1, h⟩ := bV_some h
  refine ye_callV (As := [.int l1, .int l2]) (rest := []) 0 (Or.inl rfl) rfl rfl rfl (Nat.le_of_ble_eq_true rfl) (hM.obj fa0 ⟨rfl, rfl⟩) ((m_X11_isCell (d := d + 0) (T := T) N S l1 l2 a0 fa0 hw1) hp sz hM) ?_
  refine ye_if_eq rfl (fun h1 => ?_) (fun h1 => ?_)
  · replace h := yiT h1 h
    exact w_X11_chance_18 (prim := prim) (d := d) N S hp lv hM h
  · replace h := yiN h1 h
    refine ye_iload rfl g3 ?_
    refine ye_p rfl rfl ?_
    refine ye_p rfl rfl ?_
    obtain ⟨w2, hw2, h⟩ := bV_some h
    refine ye_callS (As := [.int l3, .int 0, .int 1]) (rest := []) 1 (Or.inl rfl) rfl rfl rfl (Nat.le_of_ble_eq_true rfl) ((m_X11_within (d := d + 3) (T := T) N S l3 0 1 hw2) hp sz hM) ?_
    refine ye_if_ne rfl (fun h2 => ?_) (fun h2 => ?_)
    · replace h := yiT h2 h
      refine ye_aload rfl g0 ?_
      refine ye_iload rfl g1 ?_
      obtain ⟨w3, S1, hw3, h⟩ := bS_some h
      obtain ⟨y1, cy1, M1⟩ := (m_X11_weighCells (d := d + 1) (T := T) N S l1 a0 fa0 hw3) hp sz hM
      refine ye_callV (As := [.int l1]) (rest := []) 0 (Or.inl rfl) rfl rfl rfl (Nat.le_of_ble_eq_true rfl) (hM.obj fa0 ⟨rfl, rfl⟩) cy1 ?_
      refine ye_p rfl rfl ?_
      have g0_z1 := xG_o1 (i := 4) (v := .int w3) g0 rfl
      have g2_z1 := xG_o1 (i := 4) (v := .int w3) g2 rfl
      have g3_z1 := xG_o1 (i := 4) (v := .int w3) g3 rfl
      have g4_z1 := xG_same lv 4 (.int w3)
      generalize xSt1 lv 4 (.int w3) = lvz1 at g0_z1 g2_z1 g3_z1 g4_z1 ⊢
      refine ye_p rfl rfl ?_
      refine ye_p rfl rfl ?_
      have g0_z2 := xG_o2 (i := 5) (v := .long 0) g0_z1 rfl
      have g2_z2 := xG_o2 (i := 5) (v := .long 0) g2_z1 rfl
      have g3_z2 := xG_o2 (i := 5) (v := .long 0) g3_z1 rfl
      have g4_z2 := xG_o2 (i := 5) (v := .long 0) g4_z1 rfl
      have g5_z2 := xG_same2 lvz1 5 (.long 0)
      generalize xSt2 lvz1 5 (.long 0) = lvz2 at g0_z2 g2_z2 g3_z2 g4_z2 g5_z2 ⊢
      refine ye_p rfl rfl ?_
      refine ye_p rfl rfl ?_
      have g0_z3 := xG_o1 (i := 7) (v := .int 0) g0_z2 rfl
      have g2_z3 := xG_o1 (i := 7) (v := .int 0) g2_z2 rfl
      have g3_z3 := xG_o1 (i := 7) (v := .int 0) g3_z2 rfl
      have g4_z3 := xG_o1 (i := 7) (v := .int 0) g4_z2 rfl
      have g5_z3 := xG_o1 (i := 7) (v := .int 0) g5_z2 rfl
      have g7_z3 := xG_same lvz2 7 (.int 0)
      generalize xSt1 lvz2 7 (.int 0) = lvz3 at g0_z3 g2_z3 g3_z3 g4_z3 g5_z3 g7_z3 ⊢
      exact w_X11_chance_42 (prim := prim) (d := d) N N S1 l2 l3 w3 0 0 y1 lvz3 a0 fa0 g0_z3 g2_z3 g3_z3 g4_z3 g5_z3 g7_z3 M1 h
    · replace h := yiN h2 h
      exact w_X11_chance_18 (prim := prim) (d := d) N S hp lv hM h
def f_X11_chance (N : Nat) (S : yS) (xl1 : Int32) (xl2 : Int32) (xl3 : Int32) : Option (Option Int64 × yS) := f_X11_chance_0 N S xl1 xl2 xl3
theorem m_X11_chance {F : xH} {ev : xEv} {prim : xRel} {d : Nat} {T : yT} {v : Option Int64} {S' : yS} (N : Nat) (S : yS) (xl1 : Int32) (xl2 : Int32) (xl3 : Int32) (a0 : Nat) (fa0 : yAt T 11 0 0 a0) (h : f_X11_chance N S xl1 xl2 xl3 = some (v, S')) : ∀ (hp : xH) (sz : Nat), cR [0, 1, 2, 3, 4, 5, 6, 7] F ev T S hp → yWE ev.2.1 (xstr ev) (xCalls ev xmi (xprog ev) prim (d + 4)) (pX11_chance ev) (0, lv_args 0 [.ref a0, .int xl1, .int xl2, .int xl3], [], hp, sz, 0) (ypT [0, 1, 2, 3, 4, 5, 6, 7] F ev T sz [18] (vJ v) S') :=
  fun hp sz hM => w_X11_chance_0 (prim := prim) (d := d) N S xl1 xl2 xl3 hp _ a0 fa0 rfl rfl rfl rfl hM h

def f_X11_lanes_28 (N : Nat) (S : yS) : Option (Int32 × yS) := some ((-1), S)
set_option maxHeartbeats 4000000 in
set_option maxRecDepth 40000 in
theorem w_X11_lanes_28 {F : xH} {ev : xEv} {prim : xRel} {d sz : Nat} {T : yT} {v : Int32} {S' : yS} (N : Nat) (S : yS) (hp : xH) (lv : xLv) (hM : cR [0, 1, 2, 3, 4, 5, 6, 7] F ev T S hp) (h : f_X11_lanes_28 N S = some (v, S')) : yWE ev.2.1 (xstr ev) (xCalls ev xmi (xprog ev) prim (d + 3)) (pX11_lanes ev) (28, lv, [], hp, sz, 0) (ypQ [0, 1, 2, 3, 4, 5, 6, 7] F ev T sz (some (.int v)) S') := by
  unfold f_X11_lanes_28 at h
  refine ye_p rfl rfl ?_
  exact ye_ret rfl rfl (rQ h hM)

def f_X11_lanes_117 (N : Nat) (k48 : yS → Int32 → Int32 → Int32 → Int32 → Int64 → Int32 → Option (Int32 × yS)) (k58 : yS → Int32 → Int32 → Int32 → Int32 → Int64 → Int32 → Int32 → Option (Int32 × yS)) (S : yS) (l2 : Int32) (l3 : Int32) (l4 : Int32) (l5 : Int32) (l6 : Int64) (l8 : Int32) (l9 : Int32) : Option (Int32 × yS) := k58 S l2 l3 l4 l5 l6 l8 (l9 + 1)
set_option maxHeartbeats 4000000 in
set_option maxRecDepth 40000 in
theorem w_X11_lanes_117 {F : xH} {ev : xEv} {prim : xRel} {d sz : Nat} {T : yT} {v : Int32} {S' : yS} (N : Nat) (k48 : yS → Int32 → Int32 → Int32 → Int32 → Int64 → Int32 → Option (Int32 × yS)) (k58 : yS → Int32 → Int32 → Int32 → Int32 → Int64 → Int32 → Int32 → Option (Int32 × yS)) (u48 : ∀ (S : yS) (l2 : Int32) (l3 : Int32) (l4 : Int32) (l5 : Int32) (l6 : Int64) (l8 : Int32) (hp : xH) (lv : xLv) (a0 : Nat) (fa0 : yAt T 11 0 0 a0) (g0 : xG lv 0 = some (.ref a0)) (g2 : xG lv 2 = some (.int l2)) (g3 : xG lv 3 = some (.int l3)) (g4 : xG lv 4 = some (.int l4)) (g5 : xG lv 5 = some (.int l5)) (g6 : xG lv 6 = some (.long l6)) (g8 : xG lv 8 = some (.int l8)) (hM : cR [0, 1, 2, 3, 4, 5, 6, 7] F ev T S hp) (h : k48 S l2 l3 l4 l5 l6 l8 = some (v, S')), yWE ev.2.1 (xstr ev) (xCalls ev xmi (xprog ev) prim (d + 3)) (pX11_lanes ev) (48, lv, [], hp, sz, 0) (ypQ [0, 1, 2, 3, 4, 5, 6, 7] F ev T sz (some (.int v)) S')) (u58 : ∀ (S : yS) (l2 : Int32) (l3 : Int32) (l4 : Int32) (l5 : Int32) (l6 : Int64) (l8 : Int32) (l9 : Int32) (hp : xH) (lv : xLv) (a0 : Nat) (fa0 : yAt T 11 0 0 a0) (g0 : xG lv 0 = some (.ref a0)) (g2 : xG lv 2 = some (.int l2)) (g3 : xG lv 3 = some (.int l3)) (g4 : xG lv 4 = some (.int l4)) (g5 : xG lv 5 = some (.int l5)) (g6 : xG lv 6 = some (.long l6)) (g8 : xG lv 8 = some (.int l8)) (g9 : xG lv 9 = some (.int l9)) (hM : cR [0, 1, 2, 3, 4, 5, 6, 7] F ev T S hp) (h : k58 S l2 l3 l4 l5 l6 l8 l9 = some (v, S')), yWE ev.2.1 (xstr ev) (xCalls ev xmi (xprog ev) prim (d + 3)) (pX11_lanes ev) (58, lv, [], hp, sz, 0) (ypQ [0, 1, 2, 3, 4, 5, 6, 7] F ev T sz (some (.int v)) S')) (S : yS) (l2 : Int32) (l3 : Int32) (l4 : Int32) (l5 : Int32) (l6 : Int64) (l8 : Int32) (l9 : Int32) (hp : xH) (lv : xLv) (a0 : Nat) (fa0 : yAt T 11 0 0 a0) (g0 : xG lv 0 = some (.ref a0)) (g2 : xG lv 2 = some (.int l2)) (g3 : xG lv 3 = some (.int l3)) (g4 : xG lv 4 = some (.int l4)) (g5 : xG lv 5 = some (.int l5)) (g6 : xG lv 6 = some (.long l6)) (g8 : xG lv 8 = some (.int l8)) (g9 : xG lv 9 = some (.int l9)) (hM : cR [0, 1, 2, 3, 4, 5, 6, 7] F ev T S hp) (h : f_X11_lanes_117 N k48 k58 S l2 l3 l4 l5 l6 l8 l9 = some (v, S')) : yWE ev.2.1 (xstr ev) (xCalls ev xmi (xprog ev) prim (d + 3)) (pX11_lanes ev) (117, lv, [], hp, sz, 0) (ypQ [0, 1, 2, 3, 4, 5, 6, 7] F ev T sz (some (.int v)) S') := by
  unfold f_X11_lanes_117 at h
  refine ye_iinc rfl g9 ?_
  have g0_z1 := xG_o1 (i := 9) (v := .int (l9 + 1)) g0 rfl
  have g2_z1 := xG_o1 (i := 9) (v := .int (l9 + 1)) g2 rfl
  have g3_z1 := xG_o1 (i := 9) (v := .int (l9 + 1)) g3 rfl
  have g4_z1 := xG_o1 (i := 9) (v := .int (l9 + 1)) g4 rfl
  have g5_z1 := xG_o1 (i := 9) (v := .int (l9 + 1)) g5 rfl
  have g6_z1 := xG_o1 (i := 9) (v := .int (l9 + 1)) g6 rfl
  have g8_z1 := xG_o1 (i := 9) (v := .int (l9 + 1)) g8 rfl
  have g9_z1 := xG_same lv 9 (.int (l9 + 1))
  generalize xSt1 lv 9 (.int (l9 + 1)) = lvz1 at g0_z1 g2_z1 g3_z1 g4_z1 g5_z1 g6_z1 g8_z1 g9_z1 ⊢
  refine ye_p rfl rfl ?_
  exact u58 S l2 l3 l4 l5 l6 l8 (l9 + 1) hp lvz1 a0 fa0 g0_z1 g2_z1 g3_z1 g4_z1 g5_z1 g6_z1 g8_z1 g9_z1 hM h

def f_X11_lanes_58 : Nat → Nat → (yS → Int32 → Int32 → Int32 → Int32 → Int64 → Int32 → Option (Int32 × yS)) → yS → Int32 → Int32 → Int32 → Int32 → Int64 → Int32 → Int32 → Option (Int32 × yS)
  | 0, _, _, _, _, _, _, _, _, _, _ => none
  | n + 1, N, k48, S, l2, l3, l4, l5, l6, l8, l9 => if l4 ≤ l9 then k48 S l2 l3 l4 l5 l6 (l8 + 1) else gA 41 l8 fun j1 => gA 41 l9 fun j2 => if l8 = l9 then f_X11_lanes_117 N k48 (fun S l2 l3 l4 l5 l6 l8 l9 => f_X11_lanes_58 n N k48 S l2 l3 l4 l5 l6 l8 l9) S l2 l3 l4 l5 l6 l8 l9 else if (lg_cmp ((l2.toInt64 * (S.2.2 0 4 j1)) + (l3.toInt64 * (S.2.2 0 4 j2))) l6) ≤ 0 then f_X11_lanes_117 N k48 (fun S l2 l3 l4 l5 l6 l8 l9 => f_X11_lanes_58 n N k48 S l2 l3 l4 l5 l6 l8 l9) S l2 l3 l4 l5 l6 l8 l9 else f_X11_lanes_117 N k48 (fun S l2 l3 l4 l5 l6 l8 l9 => f_X11_lanes_58 n N k48 S l2 l3 l4 l5 l6 l8 l9) S l2 l3 l4 ((100 * l8) + l9) ((l2.toInt64 * (S.2.2 0 4 j1)) + (l3.toInt64 * (S.2.2 0 4 j2))) l8 l9
set_option maxHeartbeats 4000000 in
set_option maxRecDepth 40000 in
theorem w_X11_lanes_58 {F : xH} {ev : xEv} {prim : xRel} {d sz : Nat} {T : yT} {v : Int32} {S' : yS} (N : Nat) (n : Nat) (k48 : yS → Int32 → Int32 → Int32 → Int32 → Int64 → Int32 → Option (Int32 × yS)) (u48 : ∀ (S : yS) (l2 : Int32) (l3 : Int32) (l4 : Int32) (l5 : Int32) (l6 : Int64) (l8 : Int32) (hp : xH) (lv : xLv) (a0 : Nat) (fa0 : yAt T 11 0 0 a0) (g0 : xG lv 0 = some (.ref a0)) (g2 : xG lv 2 = some (.int l2)) (g3 : xG lv 3 = some (.int l3)) (g4 : xG lv 4 = some (.int l4)) (g5 : xG lv 5 = some (.int l5)) (g6 : xG lv 6 = some (.long l6)) (g8 : xG lv 8 = some (.int l8)) (hM : cR [0, 1, 2, 3, 4, 5, 6, 7] F ev T S hp) (h : k48 S l2 l3 l4 l5 l6 l8 = some (v, S')), yWE ev.2.1 (xstr ev) (xCalls ev xmi (xprog ev) prim (d + 3)) (pX11_lanes ev) (48, lv, [], hp, sz, 0) (ypQ [0, 1, 2, 3, 4, 5, 6, 7] F ev T sz (some (.int v)) S')) : ∀ (S : yS) (l2 : Int32) (l3 : Int32) (l4 : Int32) (l5 : Int32) (l6 : Int64) (l8 : Int32) (l9 : Int32) (hp : xH) (lv : xLv) (a0 : Nat) (fa0 : yAt T 11 0 0 a0) (g0 : xG lv 0 = some (.ref a0)) (g2 : xG lv 2 = some (.int l2)) (g3 : xG lv 3 = some (.int l3)) (g4 : xG lv 4 = some (.int l4)) (g5 : xG lv 5 = some (.int l5)) (g6 : xG lv 6 = some (.long l6)) (g8 : xG lv 8 = some (.int l8)) (g9 : xG lv 9 = some (.int l9)) (hM : cR [0, 1, 2, 3, 4, 5, 6, 7] F ev T S hp) (h : f_X11_lanes_58 n N k48 S l2 l3 l4 l5 l6 l8 l9 = some (v, S')), yWE ev.2.1 (xstr ev) (xCalls ev xmi (xprog ev) prim (d + 3)) (pX11_lanes ev) (58, lv, [], hp, sz, 0) (ypQ [0, 1, 2, 3, 4, 5, 6, 7] F ev T sz (some (.int v)) S') := by
  induction n with
  | zero => intro S l2 l3 l4 l5 l6 l8 l9 hp lv a0 fa0 g0 g2 g3 g4 g5 g6 g8 g9 hM h; exact n_some h
  | succ n ih =>
    intro S l2 l3 l4 l5 l6 l8 l9 hp lv a0 fa0 g0 g2 g3 g4 g5 g6 g8 g9 hM h
    unfold f_X11_lanes_58 at h
    refine ye_iload rfl g9 ?_
    refine ye_iload rfl g4 ?_
    refine ye_icmp_ge rfl (fun h1 => ?_) (fun h1 => ?_)
    · replace h := yiT h1 h
      refine ye_iinc rfl g8 ?_
      have g0_z1 := xG_o1 (i := 8) (v := .int (l8 + 1)) g0 rfl
      have g2_z1 := xG_o1 (i := 8) (v := .int (l8 + 1)) g2 rfl
      have g3_z1 := xG_o1 (i := 8) (v := .int (l8 + 1)) g3 rfl
      have g4_z1 := xG_o1 (i := 8) (v := .int (l8 + 1)) g4 rfl
      have g5_z1 := xG_o1 (i := 8) (v := .int (l8 + 1)) g5 rfl
      have g6_z1 := xG_o1 (i := 8) (v := .int (l8 + 1)) g6 rfl
      have g8_z1 := xG_same lv 8 (.int (l8 + 1))
      generalize xSt1 lv 8 (.int (l8 + 1)) = lvz1 at g0_z1 g2_z1 g3_z1 g4_z1 g5_z1 g6_z1 g8_z1 ⊢
      refine ye_p rfl rfl ?_
      exact u48 S l2 l3 l4 l5 l6 (l8 + 1) hp lvz1 a0 fa0 g0_z1 g2_z1 g3_z1 g4_z1 g5_z1 g6_z1 g8_z1 hM h
    · replace h := yiN h1 h
      refine ye_iload rfl g2 ?_
      refine ye_p rfl rfl ?_
      refine ye_aload rfl g0 ?_
      refine ye_getr rfl (hM.obj fa0 ⟨rfl, rfl⟩) rfl (fun cx1 ecx1 => ?_)
      have fcx1 := yAt.row fa0 ecx1
      refine ye_iload rfl g8 ?_
      obtain ⟨j1, ej1, ij1, h⟩ := gA_some h
      refine yj_lald rfl (hM.arr fcx1 yr_11_4) ij1 ej1 ?_
      refine ye_p rfl rfl ?_
      refine ye_iload rfl g3 ?_
      refine ye_p rfl rfl ?_
      refine ye_aload rfl g0 ?_
      refine ye_getr rfl (hM.obj fa0 ⟨rfl, rfl⟩) rfl (fun cx2 ecx2 => ?_)
      have fcx2 := yAt.row fa0 ecx2
      refine ye_iload rfl g9 ?_
      obtain ⟨j2, ej2, ij2, h⟩ := gA_some h
      refine yj_lald rfl (hM.arr fcx2 yr_11_4) ij2 ej2 ?_
      refine ye_p rfl rfl ?_
      refine ye_p rfl rfl ?_
      refine ye_p rfl rfl ?_
      have g0_z2 := xG_o2 (i := 10) (v := .long ((l2.toInt64 * (S.2.2 0 4 j1)) + (l3.toInt64 * (S.2.2 0 4 j2)))) g0 rfl
      have g2_z2 := xG_o2 (i := 10) (v := .long ((l2.toInt64 * (S.2.2 0 4 j1)) + (l3.toInt64 * (S.2.2 0 4 j2)))) g2 rfl
      have g3_z2 := xG_o2 (i := 10) (v := .long ((l2.toInt64 * (S.2.2 0 4 j1)) + (l3.toInt64 * (S.2.2 0 4 j2)))) g3 rfl
      have g4_z2 := xG_o2 (i := 10) (v := .long ((l2.toInt64 * (S.2.2 0 4 j1)) + (l3.toInt64 * (S.2.2 0 4 j2)))) g4 rfl
      have g5_z2 := xG_o2 (i := 10) (v := .long ((l2.toInt64 * (S.2.2 0 4 j1)) + (l3.toInt64 * (S.2.2 0 4 j2)))) g5 rfl
      have g6_z2 := xG_o2 (i := 10) (v := .long ((l2.toInt64 * (S.2.2 0 4 j1)) + (l3.toInt64 * (S.2.2 0 4 j2)))) g6 rfl
      have g8_z2 := xG_o2 (i := 10) (v := .long ((l2.toInt64 * (S.2.2 0 4 j1)) + (l3.toInt64 * (S.2.2 0 4 j2)))) g8 rfl
      have g9_z2 := xG_o2 (i := 10) (v := .long ((l2.toInt64 * (S.2.2 0 4 j1)) + (l3.toInt64 * (S.2.2 0 4 j2)))) g9 rfl
      have g10_z2 := xG_same2 lv 10 (.long ((l2.toInt64 * (S.2.2 0 4 j1)) + (l3.toInt64 * (S.2.2 0 4 j2))))
      generalize xSt2 lv 10 (.long ((l2.toInt64 * (S.2.2 0 4 j1)) + (l3.toInt64 * (S.2.2 0 4 j2)))) = lvz2 at g0_z2 g2_z2 g3_z2 g4_z2 g5_z2 g6_z2 g8_z2 g9_z2 g10_z2 ⊢
      refine ye_iload rfl g8_z2 ?_
      refine ye_iload rfl g9_z2 ?_
      refine ye_icmp_eq rfl (fun h2 => ?_) (fun h2 => ?_)
      · replace h := yiT h2 h
        exact w_X11_lanes_117 (prim := prim) (d := d) N k48 (fun S l2 l3 l4 l5 l6 l8 l9 => f_X11_lanes_58 n N k48 S l2 l3 l4 l5 l6 l8 l9) u48 ih S l2 l3 l4 l5 l6 l8 l9 hp lvz2 a0 fa0 g0_z2 g2_z2 g3_z2 g4_z2 g5_z2 g6_z2 g8_z2 g9_z2 hM h
      · replace h := yiN h2 h
        refine ye_lload rfl g10_z2 ?_
        refine ye_lload rfl g6_z2 ?_
        refine ye_p rfl rfl ?_
        refine ye_if_le rfl (fun h3 => ?_) (fun h3 => ?_)
        · replace h := yiT h3 h
          exact w_X11_lanes_117 (prim := prim) (d := d) N k48 (fun S l2 l3 l4 l5 l6 l8 l9 => f_X11_lanes_58 n N k48 S l2 l3 l4 l5 l6 l8 l9) u48 ih S l2 l3 l4 l5 l6 l8 l9 hp lvz2 a0 fa0 g0_z2 g2_z2 g3_z2 g4_z2 g5_z2 g6_z2 g8_z2 g9_z2 hM h
        · replace h := yiN h3 h
          refine ye_lload rfl g10_z2 ?_
          refine ye_p rfl rfl ?_
          have g0_z3 := xG_o2 (i := 6) (v := .long ((l2.toInt64 * (S.2.2 0 4 j1)) + (l3.toInt64 * (S.2.2 0 4 j2)))) g0_z2 rfl
          have g2_z3 := xG_o2 (i := 6) (v := .long ((l2.toInt64 * (S.2.2 0 4 j1)) + (l3.toInt64 * (S.2.2 0 4 j2)))) g2_z2 rfl
          have g3_z3 := xG_o2 (i := 6) (v := .long ((l2.toInt64 * (S.2.2 0 4 j1)) + (l3.toInt64 * (S.2.2 0 4 j2)))) g3_z2 rfl
          have g4_z3 := xG_o2 (i := 6) (v := .long ((l2.toInt64 * (S.2.2 0 4 j1)) + (l3.toInt64 * (S.2.2 0 4 j2)))) g4_z2 rfl
          have g8_z3 := xG_o2 (i := 6) (v := .long ((l2.toInt64 * (S.2.2 0 4 j1)) + (l3.toInt64 * (S.2.2 0 4 j2)))) g8_z2 rfl
          have g9_z3 := xG_o2 (i := 6) (v := .long ((l2.toInt64 * (S.2.2 0 4 j1)) + (l3.toInt64 * (S.2.2 0 4 j2)))) g9_z2 rfl
          have g6_z3 := xG_same2 lvz2 6 (.long ((l2.toInt64 * (S.2.2 0 4 j1)) + (l3.toInt64 * (S.2.2 0 4 j2))))
          generalize xSt2 lvz2 6 (.long ((l2.toInt64 * (S.2.2 0 4 j1)) + (l3.toInt64 * (S.2.2 0 4 j2)))) = lvz3 at g0_z3 g2_z3 g3_z3 g4_z3 g8_z3 g9_z3 g6_z3 ⊢
          refine ye_p rfl rfl ?_
          refine ye_iload rfl g8_z3 ?_
          refine ye_p rfl rfl ?_
          refine ye_iload rfl g9_z3 ?_
          refine ye_p rfl rfl ?_
          refine ye_p rfl rfl ?_
          have g0_z4 := xG_o1 (i := 5) (v := .int ((100 * l8) + l9)) g0_z3 rfl
          have g2_z4 := xG_o1 (i := 5) (v := .int ((100 * l8) + l9)) g2_z3 rfl
          have g3_z4 := xG_o1 (i := 5) (v := .int ((100 * l8) + l9)) g3_z3 rfl
          have g4_z4 := xG_o1 (i := 5) (v := .int ((100 * l8) + l9)) g4_z3 rfl
          have g6_z4 := xG_o1 (i := 5) (v := .int ((100 * l8) + l9)) g6_z3 rfl
          have g8_z4 := xG_o1 (i := 5) (v := .int ((100 * l8) + l9)) g8_z3 rfl
          have g9_z4 := xG_o1 (i := 5) (v := .int ((100 * l8) + l9)) g9_z3 rfl
          have g5_z4 := xG_same lvz3 5 (.int ((100 * l8) + l9))
          generalize xSt1 lvz3 5 (.int ((100 * l8) + l9)) = lvz4 at g0_z4 g2_z4 g3_z4 g4_z4 g6_z4 g8_z4 g9_z4 g5_z4 ⊢
          exact w_X11_lanes_117 (prim := prim) (d := d) N k48 (fun S l2 l3 l4 l5 l6 l8 l9 => f_X11_lanes_58 n N k48 S l2 l3 l4 l5 l6 l8 l9) u48 ih S l2 l3 l4 ((100 * l8) + l9) ((l2.toInt64 * (S.2.2 0 4 j1)) + (l3.toInt64 * (S.2.2 0 4 j2))) l8 l9 hp lvz4 a0 fa0 g0_z4 g2_z4 g3_z4 g4_z4 g5_z4 g6_z4 g8_z4 g9_z4 hM h

def f_X11_lanes_48 : Nat → Nat → yS → Int32 → Int32 → Int32 → Int32 → Int64 → Int32 → Option (Int32 × yS)
  | 0, _, _, _, _, _, _, _, _ => none
  | n + 1, N, S, l2, l3, l4, l5, l6, l8 => if l4 ≤ l8 then some (l5, S) else f_X11_lanes_58 N N (fun S l2 l3 l4 l5 l6 l8 => f_X11_lanes_48 n N S l2 l3 l4 l5 l6 l8) S l2 l3 l4 l5 l6 l8 0
set_option maxHeartbeats 4000000 in
set_option maxRecDepth 40000 in
theorem w_X11_lanes_48 {F : xH} {ev : xEv} {prim : xRel} {d sz : Nat} {T : yT} {v : Int32} {S' : yS} (N : Nat) (n : Nat) : ∀ (S : yS) (l2 : Int32) (l3 : Int32) (l4 : Int32) (l5 : Int32) (l6 : Int64) (l8 : Int32) (hp : xH) (lv : xLv) (a0 : Nat) (fa0 : yAt T 11 0 0 a0) (g0 : xG lv 0 = some (.ref a0)) (g2 : xG lv 2 = some (.int l2)) (g3 : xG lv 3 = some (.int l3)) (g4 : xG lv 4 = some (.int l4)) (g5 : xG lv 5 = some (.int l5)) (g6 : xG lv 6 = some (.long l6)) (g8 : xG lv 8 = some (.int l8)) (hM : cR [0, 1, 2, 3, 4, 5, 6, 7] F ev T S hp) (h : f_X11_lanes_48 n N S l2 l3 l4 l5 l6 l8 = some (v, S')), yWE ev.2.1 (xstr ev) (xCalls ev xmi (xprog ev) prim (d + 3)) (pX11_lanes ev) (48, lv, [], hp, sz, 0) (ypQ [0, 1, 2, 3, 4, 5, 6, 7] F ev T sz (some (.int v)) S') := by
  induction n with
  | zero => intro S l2 l3 l4 l5 l6 l8 hp lv a0 fa0 g0 g2 g3 g4 g5 g6 g8 hM h; exact n_some h
  | succ n ih =>
    intro S l2 l3 l4 l5 l6 l8 hp lv a0 fa0 g0 g2 g3 g4 g5 g6 g8 hM h
    unfold f_X11_lanes_48 at h
    refine ye_iload rfl g8 ?_
    refine ye_iload rfl g4 ?_
    refine ye_icmp_ge rfl (fun h1 => ?_) (fun h1 => ?_)
    · replace h := yiT h1 h
      refine ye_iload rfl g5 ?_
      exact ye_ret rfl rfl (rQ h hM)
    · replace h := yiN h1 h
      refine ye_p rfl rfl ?_
      refine ye_p rfl rfl ?_
      have g0_z1 := xG_o1 (i := 9) (v := .int 0) g0 rfl
      have g2_z1 := xG_o1 (i := 9) (v := .int 0) g2 rfl
      have g3_z1 := xG_o1 (i := 9) (v := .int 0) g3 rfl
      have g4_z1 := xG_o1 (i := 9) (v := .int 0) g4 rfl
      have g5_z1 := xG_o1 (i := 9) (v := .int 0) g5 rfl
      have g6_z1 := xG_o1 (i := 9) (v := .int 0) g6 rfl
      have g8_z1 := xG_o1 (i := 9) (v := .int 0) g8 rfl
      have g9_z1 := xG_same lv 9 (.int 0)
      generalize xSt1 lv 9 (.int 0) = lvz1 at g0_z1 g2_z1 g3_z1 g4_z1 g5_z1 g6_z1 g8_z1 g9_z1 ⊢
      exact w_X11_lanes_58 (prim := prim) (d := d) N N (fun S l2 l3 l4 l5 l6 l8 => f_X11_lanes_48 n N S l2 l3 l4 l5 l6 l8) ih S l2 l3 l4 l5 l6 l8 0 hp lvz1 a0 fa0 g0_z1 g2_z1 g3_z1 g4_z1 g5_z1 g6_z1 g8_z1 g9_z1 hM h

def f_X11_lanes_0 (N : Nat) (S : yS) (l1 : Int32) (l2 : Int32) (l3 : Int32) : Option (Int32 × yS) := bV (f_X11_isDown N S l1) fun w1 => if w1 = 0 then f_X11_lanes_28 N S else bV (f_X11_within N S l2 1 99) fun w2 => if w2 = 0 then f_X11_lanes_28 N S else bV (f_X11_within N S l3 1 99) fun w3 => if ¬ w3 = 0 then bS (f_X11_weighCells N S l1) fun w4 S1 => f_X11_lanes_48 N N S1 l2 l3 w4 ((-1)) ((-1)) 0 else f_X11_lanes_28 N S
set_option maxHeartbeats 4000000 in
set_option maxRecDepth 40000 in
theorem w_X11_lanes_0 {F : xH} {ev : xEv} {prim : xRel} {d sz : Nat} {T : yT} {v : Int32} {S' : yS} (N : Nat) (S : yS) (l1 : Int32) (l2 : Int32) (l3 : Int32) (hp : xH) (lv : xLv) (a0 : Nat) (fa0 : yAt T 11 0 0 a0) (g0 : xG lv 0 = some (.ref a0)) (g1 : xG lv 1 = some (.int l1)) (g2 : xG lv 2 = some (.int l2)) (g3 : xG lv 3 = some (.int l3)) (hM : cR [0, 1, 2, 3, 4, 5, 6, 7] F ev T S hp) (h : f_X11_lanes_0 N S l1 l2 l3 = some (v, S')) : yWE ev.2.1 (xstr ev) (xCalls ev xmi (xprog ev) prim (d + 3)) (pX11_lanes ev) (0, lv, [], hp, sz, 0) (ypQ [0, 1, 2, 3, 4, 5, 6, 7] F ev T sz (some (.int v)) S') := by
  unfold f_X11_lanes_0 at h
  refine ye_aload rfl g0 ?_
  refine ye_iload rfl g1 ?_
  obtain ⟨w1, hw1, h⟩ := bV_some h
  refine ye_callV (As := [.int l1]) (rest := []) 0 (Or.inl rfl) rfl rfl rfl (Nat.le_of_ble_eq_true rfl) (hM.obj fa0 ⟨rfl, rfl⟩) ((m_X11_isDown (d := d + 0) (T := T) N S l1 a0 fa0 hw1) hp sz hM) ?_
  refine ye_if_eq rfl (fun h1 => ?_) (fun h1 => ?_)
  · replace h := yiT h1 h
    exact w_X11_lanes_28 (prim := prim) (d := d) N S hp lv hM h
  · replace h := yiN h1 h
    refine ye_iload rfl g2 ?_
    refine ye_p rfl rfl ?_
    refine ye_p rfl rfl ?_
    obtain ⟨w2, hw2, h⟩ := bV_some h
    refine ye_callS (As := [.int l2, .int 1, .int 99]) (rest := []) 1 (Or.inl rfl) rfl rfl rfl (Nat.le_of_ble_eq_true rfl) ((m_X11_within (d := d + 2) (T := T) N S l2 1 99 hw2) hp sz hM) ?_
    refine ye_if_eq rfl (fun h2 => ?_) (fun h2 => ?_)
    · replace h := yiT h2 h
      exact w_X11_lanes_28 (prim := prim) (d := d) N S hp lv hM h
    · replace h := yiN h2 h
      refine ye_iload rfl g3 ?_
      refine ye_p rfl rfl ?_
      refine ye_p rfl rfl ?_
      obtain ⟨w3, hw3, h⟩ := bV_some h
      refine ye_callS (As := [.int l3, .int 1, .int 99]) (rest := []) 1 (Or.inl rfl) rfl rfl rfl (Nat.le_of_ble_eq_true rfl) ((m_X11_within (d := d + 2) (T := T) N S l3 1 99 hw3) hp sz hM) ?_
      refine ye_if_ne rfl (fun h3 => ?_) (fun h3 => ?_)
      · replace h := yiT h3 h
        refine ye_aload rfl g0 ?_
        refine ye_iload rfl g1 ?_
        obtain ⟨w4, S1, hw4, h⟩ := bS_some h
        obtain ⟨y1, cy1, M1⟩ := (m_X11_weighCells (d := d + 0) (T := T) N S l1 a0 fa0 hw4) hp sz hM
        refine ye_callV (As := [.int l1]) (rest := []) 0 (Or.inl rfl) rfl rfl rfl (Nat.le_of_ble_eq_true rfl) (hM.obj fa0 ⟨rfl, rfl⟩) cy1 ?_
        refine ye_p rfl rfl ?_
        have g0_z1 := xG_o1 (i := 4) (v := .int w4) g0 rfl
        have g2_z1 := xG_o1 (i := 4) (v := .int w4) g2 rfl
        have g3_z1 := xG_o1 (i := 4) (v := .int w4) g3 rfl
        have g4_z1 := xG_same lv 4 (.int w4)
        generalize xSt1 lv 4 (.int w4) = lvz1 at g0_z1 g2_z1 g3_z1 g4_z1 ⊢
        refine ye_p rfl rfl ?_
        refine ye_p rfl rfl ?_
        have g0_z2 := xG_o1 (i := 5) (v := .int ((-1))) g0_z1 rfl
        have g2_z2 := xG_o1 (i := 5) (v := .int ((-1))) g2_z1 rfl
        have g3_z2 := xG_o1 (i := 5) (v := .int ((-1))) g3_z1 rfl
        have g4_z2 := xG_o1 (i := 5) (v := .int ((-1))) g4_z1 rfl
        have g5_z2 := xG_same lvz1 5 (.int ((-1)))
        generalize xSt1 lvz1 5 (.int ((-1))) = lvz2 at g0_z2 g2_z2 g3_z2 g4_z2 g5_z2 ⊢
        refine ye_p rfl rfl ?_
        refine ye_p rfl rfl ?_
        have g0_z3 := xG_o2 (i := 6) (v := .long ((-1))) g0_z2 rfl
        have g2_z3 := xG_o2 (i := 6) (v := .long ((-1))) g2_z2 rfl
        have g3_z3 := xG_o2 (i := 6) (v := .long ((-1))) g3_z2 rfl
        have g4_z3 := xG_o2 (i := 6) (v := .long ((-1))) g4_z2 rfl
        have g5_z3 := xG_o2 (i := 6) (v := .long ((-1))) g5_z2 rfl
        have g6_z3 := xG_same2 lvz2 6 (.long ((-1)))
        generalize xSt2 lvz2 6 (.long ((-1))) = lvz3 at g0_z3 g2_z3 g3_z3 g4_z3 g5_z3 g6_z3 ⊢
        refine ye_p rfl rfl ?_
        refine ye_p rfl rfl ?_
        have g0_z4 := xG_o1 (i := 8) (v := .int 0) g0_z3 rfl
        have g2_z4 := xG_o1 (i := 8) (v := .int 0) g2_z3 rfl
        have g3_z4 := xG_o1 (i := 8) (v := .int 0) g3_z3 rfl
        have g4_z4 := xG_o1 (i := 8) (v := .int 0) g4_z3 rfl
        have g5_z4 := xG_o1 (i := 8) (v := .int 0) g5_z3 rfl
        have g6_z4 := xG_o1 (i := 8) (v := .int 0) g6_z3 rfl
        have g8_z4 := xG_same lvz3 8 (.int 0)
        generalize xSt1 lvz3 8 (.int 0) = lvz4 at g0_z4 g2_z4 g3_z4 g4_z4 g5_z4 g6_z4 g8_z4 ⊢
        exact w_X11_lanes_48 (prim := prim) (d := d) N N S1 l2 l3 w4 ((-1)) ((-1)) 0 y1 lvz4 a0 fa0 g0_z4 g2_z4 g3_z4 g4_z4 g5_z4 g6_z4 g8_z4 M1 h
      · replace h := yiN h3 h
        exact w_X11_lanes_28 (prim := prim) (d := d) N S hp lv hM h
def f_X11_lanes (N : Nat) (S : yS) (xl1 : Int32) (xl2 : Int32) (xl3 : Int32) : Option (Int32 × yS) := f_X11_lanes_0 N S xl1 xl2 xl3
theorem m_X11_lanes {F : xH} {ev : xEv} {prim : xRel} {d : Nat} {T : yT} {v : Int32} {S' : yS} (N : Nat) (S : yS) (xl1 : Int32) (xl2 : Int32) (xl3 : Int32) (a0 : Nat) (fa0 : yAt T 11 0 0 a0) (h : f_X11_lanes N S xl1 xl2 xl3 = some (v, S')) : ykQ [0, 1, 2, 3, 4, 5, 6, 7] F ev prim (d + 4) 164 T S [.ref a0, .int xl1, .int xl2, .int xl3] (some (.int v)) S' :=
  ykQ.of (pg_164 ev) mi_164 (Nat.le_of_ble_eq_true rfl) (fun hp sz hM => w_X11_lanes_0 (prim := prim) (d := d) N S xl1 xl2 xl3 hp _ a0 fa0 rfl rfl rfl rfl hM h)

def f_X11_send_78 (N : Nat) (k14 : yS → Int32 → Int32 → Option (Int32 × yS)) (S : yS) (l1 : Int32) (l2 : Int32) : Option (Int32 × yS) := k14 S l1 (l2 + 1)
set_option maxHeartbeats 4000000 in
set_option maxRecDepth 40000 in
theorem w_X11_send_78 {F : xH} {ev : xEv} {prim : xRel} {d sz : Nat} {T : yT} {v : Int32} {S' : yS} (N : Nat) (k14 : yS → Int32 → Int32 → Option (Int32 × yS)) (u14 : ∀ (S : yS) (l1 : Int32) (l2 : Int32) (hp : xH) (lv : xLv) (a0 : Nat) (fa0 : yAt T 11 0 0 a0) (g0 : xG lv 0 = some (.ref a0)) (g1 : xG lv 1 = some (.int l1)) (g2 : xG lv 2 = some (.int l2)) (hM : cR [0, 1, 2, 3, 4, 5, 6, 7] F ev T S hp) (h : k14 S l1 l2 = some (v, S')), yWE ev.2.1 (xstr ev) (xCalls ev xmi (xprog ev) prim (d + 4)) (pX11_send ev) (14, lv, [], hp, sz, 0) (ypQ [0, 1, 2, 3, 4, 5, 6, 7] F ev T sz (some (.int v)) S')) (S : yS) (l1 : Int32) (l2 : Int32) (hp : xH) (lv : xLv) (a0 : Nat) (fa0 : yAt T 11 0 0 a0) (g0 : xG lv 0 = some (.ref a0)) (g1 : xG lv 1 = some (.int l1)) (g2 : xG lv 2 = some (.int l2)) (hM : cR [0, 1, 2, 3, 4, 5, 6, 7] F ev T S hp) (h : f_X11_send_78 N k14 S l1 l2 = some (v, S')) : yWE ev.2.1 (xstr ev) (xCalls ev xmi (xprog ev) prim (d + 4)) (pX11_send ev) (78, lv, [], hp, sz, 0) (ypQ [0, 1, 2, 3, 4, 5, 6, 7] F ev T sz (some (.int v)) S') := by
  unfold f_X11_send_78 at h
  refine ye_iinc rfl g2 ?_
  have g0_z1 := xG_o1 (i := 2) (v := .int (l2 + 1)) g0 rfl
  have g1_z1 := xG_o1 (i := 2) (v := .int (l2 + 1)) g1 rfl
  have g2_z1 := xG_same lv 2 (.int (l2 + 1))
  generalize xSt1 lv 2 (.int (l2 + 1)) = lvz1 at g0_z1 g1_z1 g2_z1 ⊢
  refine ye_p rfl rfl ?_
  exact u14 S l1 (l2 + 1) hp lvz1 a0 fa0 g0_z1 g1_z1 g2_z1 hM h

def f_X11_send_14 : Nat → Nat → yS → Int32 → Int32 → Option (Int32 × yS)
  | 0, _, _, _, _ => none
  | n + 1, N, S, l1, l2 => if (S.1 6 2) ≤ l2 then sq (yI S 0 8 (S.1 6 2)) fun S1 => some (l1, S1) else gA 8 l2 fun j1 => gA 32 l2 fun j2 => sq (yA S 0 7 (upd (S.2.1 0 7) j2 (S.2.1 6 1 j1))) fun S2 => gA 8 l2 fun j3 => if (S2.2.1 6 1 j3) = ((-1)) then f_X11_send_78 N (fun S l1 l2 => f_X11_send_14 n N S l1 l2) S2 l1 l2 else gA 8 l2 fun j4 => gA 8 l2 fun j5 => bS (f_X10_renew N S2 (S2.2.1 6 0 j4) (S2.2.1 6 1 j5)) fun w1 S3 => f_X11_send_78 N (fun S l1 l2 => f_X11_send_14 n N S l1 l2) S3 l1 l2
set_option maxHeartbeats 4000000 in
set_option maxRecDepth 40000 in
theorem w_X11_send_14 {F : xH} {ev : xEv} {prim : xRel} {d sz : Nat} {T : yT} {v : Int32} {S' : yS} (N : Nat) (n : Nat) : ∀ (S : yS) (l1 : Int32) (l2 : Int32) (hp : xH) (lv : xLv) (a0 : Nat) (fa0 : yAt T 11 0 0 a0) (g0 : xG lv 0 = some (.ref a0)) (g1 : xG lv 1 = some (.int l1)) (g2 : xG lv 2 = some (.int l2)) (hM : cR [0, 1, 2, 3, 4, 5, 6, 7] F ev T S hp) (h : f_X11_send_14 n N S l1 l2 = some (v, S')), yWE ev.2.1 (xstr ev) (xCalls ev xmi (xprog ev) prim (d + 4)) (pX11_send ev) (14, lv, [], hp, sz, 0) (ypQ [0, 1, 2, 3, 4, 5, 6, 7] F ev T sz (some (.int v)) S') := by
  induction n with
  | zero => intro S l1 l2 hp lv a0 fa0 g0 g1 g2 hM h; exact n_some h
  | succ n ih =>
    intro S l1 l2 hp lv a0 fa0 g0 g1 g2 hM h
    unfold f_X11_send_14 at h
    refine ye_iload rfl g2 ?_
    refine ye_aload rfl g0 ?_
    refine ye_getr rfl (hM.obj fa0 ⟨rfl, rfl⟩) rfl (fun cx1 ecx1 => ?_)
    have fcx1 := hM.root 7 0 (by decide) rfl ecx1
    refine ye_getf rfl (hM.obj fcx1 ⟨rfl, rfl⟩) rfl ?_
    refine ye_icmp_ge rfl (fun h1 => ?_) (fun h1 => ?_)
    · replace h := yiT h1 h
      refine ye_aload rfl g0 ?_
      refine ye_aload rfl g0 ?_
      refine ye_getr rfl (hM.obj fa0 ⟨rfl, rfl⟩) rfl (fun cx2 ecx2 => ?_)
      have fcx2 := hM.root 7 0 (by decide) rfl ecx2
      refine ye_getf rfl (hM.obj fcx2 ⟨rfl, rfl⟩) rfl ?_
      obtain ⟨S1, eS1, h⟩ := sq_some h
      refine yw_putI rfl hM fa0 rfl ⟨rfl, rfl⟩ (Nat.le_of_ble_eq_true rfl) rfl rfl (ys_11_8 ev T _ (S.1 6 2)) (fun q => absurd q (by decide)) eS1 (fun y1 M1 => ?_)
      refine ye_iload rfl g1 ?_
      exact ye_ret rfl rfl (rQ h M1)
    · replace h := yiN h1 h
      refine ye_aload rfl g0 ?_
      refine ye_getr rfl (hM.obj fa0 ⟨rfl, rfl⟩) rfl (fun cx3 ecx3 => ?_)
      have fcx3 := yAt.row fa0 ecx3
      refine ye_iload rfl g2 ?_
      refine ye_aload rfl g0 ?_
      refine ye_getr rfl (hM.obj fa0 ⟨rfl, rfl⟩) rfl (fun cx4 ecx4 => ?_)
      have fcx4 := hM.root 7 0 (by decide) rfl ecx4
      refine ye_getr rfl (hM.obj fcx4 ⟨rfl, rfl⟩) rfl (fun cx5 ecx5 => ?_)
      have fcx5 := yAt.row fcx4 ecx5
      refine ye_iload rfl g2 ?_
      obtain ⟨j1, ej1, ij1, h⟩ := gA_some h
      refine yj_ald rfl (hM.arr fcx5 yr_7_1) ij1 ej1 ?_
      obtain ⟨j2, ej2, ij2, h⟩ := gA_some h
      obtain ⟨S2, eS2, h⟩ := sq_some h
      refine yw_ast rfl hM fcx3 yr_11_7 (by decide) ij2 ej2 eS2 (fun y2 M2 => ?_)
      refine ye_aload rfl g0 ?_
      refine ye_getr rfl (M2.obj fa0 ⟨rfl, rfl⟩) rfl (fun cx6 ecx6 => ?_)
      have fcx6 := M2.root 7 0 (by decide) rfl ecx6
      refine ye_getr rfl (M2.obj fcx6 ⟨rfl, rfl⟩) rfl (fun cx7 ecx7 => ?_)
      have fcx7 := yAt.row fcx6 ecx7
      refine ye_iload rfl g2 ?_
      obtain ⟨j3, ej3, ij3, h⟩ := gA_some h
      refine yj_ald rfl (M2.arr fcx7 yr_7_1) ij3 ej3 ?_
      refine ye_p rfl rfl ?_
      refine ye_icmp_eq rfl (fun h2 => ?_) (fun h2 => ?_)
      · replace h := yiT h2 h
        exact w_X11_send_78 (prim := prim) (d := d) N (fun S l1 l2 => f_X11_send_14 n N S l1 l2) ih S2 l1 l2 y2 lv a0 fa0 g0 g1 g2 M2 h
      · replace h := yiN h2 h
        refine ye_aload rfl g0 ?_
        refine ye_getr rfl (M2.obj fa0 ⟨rfl, rfl⟩) rfl (fun cx8 ecx8 => ?_)
        have fcx8 := M2.root 10 0 (by decide) rfl ecx8
        refine ye_aload rfl g0 ?_
        refine ye_getr rfl (M2.obj fa0 ⟨rfl, rfl⟩) rfl (fun cx9 ecx9 => ?_)
        have fcx9 := M2.root 7 0 (by decide) rfl ecx9
        refine ye_getr rfl (M2.obj fcx9 ⟨rfl, rfl⟩) rfl (fun cx10 ecx10 => ?_)
        have fcx10 := yAt.row fcx9 ecx10
        refine ye_iload rfl g2 ?_
        obtain ⟨j4, ej4, ij4, h⟩ := gA_some h
        refine yj_ald rfl (M2.arr fcx10 yr_7_0) ij4 ej4 ?_
        refine ye_aload rfl g0 ?_
        refine ye_getr rfl (M2.obj fa0 ⟨rfl, rfl⟩) rfl (fun cx11 ecx11 => ?_)
        have fcx11 := M2.root 7 0 (by decide) rfl ecx11
        refine ye_getr rfl (M2.obj fcx11 ⟨rfl, rfl⟩) rfl (fun cx12 ecx12 => ?_)
        have fcx12 := yAt.row fcx11 ecx12
        refine ye_iload rfl g2 ?_
        obtain ⟨j5, ej5, ij5, h⟩ := gA_some h
        refine yj_ald rfl (M2.arr fcx12 yr_7_1) ij5 ej5 ?_
        obtain ⟨w1, S3, hw1, h⟩ := bS_some h
        obtain ⟨y3, cy3, M3⟩ := (m_X10_renew (d := d + 1) (T := T) N S2 (S2.2.1 6 0 j4) (S2.2.1 6 1 j5) cx8 fcx8 hw1) y2 sz M2
        refine ye_callV (As := [.int (S2.2.1 6 0 j4), .int (S2.2.1 6 1 j5)]) (rest := []) 0 (Or.inl rfl) rfl rfl rfl (Nat.le_of_ble_eq_true rfl) (M2.obj fcx8 ⟨rfl, rfl⟩) cy3 ?_
        exact w_X11_send_78 (prim := prim) (d := d) N (fun S l1 l2 => f_X11_send_14 n N S l1 l2) ih S3 l1 l2 y3 lv a0 fa0 g0 g1 g2 M3 h

def f_X11_send_0 (N : Nat) (S : yS) : Option (Int32 × yS) := bS (f_X7_share N S) fun w1 S1 => f_X11_send_14 N N S1 w1 0
set_option maxHeartbeats 4000000 in
set_option maxRecDepth 40000 in
theorem w_X11_send_0 {F : xH} {ev : xEv} {prim : xRel} {d sz : Nat} {T : yT} {v : Int32} {S' : yS} (N : Nat) (S : yS) (hp : xH) (lv : xLv) (a0 : Nat) (fa0 : yAt T 11 0 0 a0) (g0 : xG lv 0 = some (.ref a0)) (hM : cR [0, 1, 2, 3, 4, 5, 6, 7] F ev T S hp) (h : f_X11_send_0 N S = some (v, S')) : yWE ev.2.1 (xstr ev) (xCalls ev xmi (xprog ev) prim (d + 4)) (pX11_send ev) (0, lv, [], hp, sz, 0) (ypQ [0, 1, 2, 3, 4, 5, 6, 7] F ev T sz (some (.int v)) S') := by
  unfold f_X11_send_0 at h
  refine ye_aload rfl g0 ?_
  refine ye_getr rfl (hM.obj fa0 ⟨rfl, rfl⟩) rfl (fun cx1 ecx1 => ?_)
  have fcx1 := hM.root 7 0 (by decide) rfl ecx1
  refine ye_aload rfl g0 ?_
  refine ye_getr rfl (hM.obj fa0 ⟨rfl, rfl⟩) rfl (fun cx2 ecx2 => ?_)
  have fcx2 := hM.root 10 0 (by decide) rfl ecx2
  obtain ⟨w1, S1, hw1, h⟩ := bS_some h
  obtain ⟨y1, cy1, M1⟩ := (m_X7_share (d := d + 0) (T := T) N S cx1 cx2 fcx1 fcx2 hw1) hp sz hM
  refine ye_callV (As := [.ref cx2]) (rest := []) 0 (Or.inl rfl) rfl rfl rfl (Nat.le_of_ble_eq_true rfl) (hM.obj fcx1 ⟨rfl, rfl⟩) cy1 ?_
  refine ye_p rfl rfl ?_
  have g0_z1 := xG_o1 (i := 1) (v := .int w1) g0 rfl
  have g1_z1 := xG_same lv 1 (.int w1)
  generalize xSt1 lv 1 (.int w1) = lvz1 at g0_z1 g1_z1 ⊢
  refine ye_p rfl rfl ?_
  refine ye_p rfl rfl ?_
  have g0_z2 := xG_o1 (i := 2) (v := .int 0) g0_z1 rfl
  have g1_z2 := xG_o1 (i := 2) (v := .int 0) g1_z1 rfl
  have g2_z2 := xG_same lvz1 2 (.int 0)
  generalize xSt1 lvz1 2 (.int 0) = lvz2 at g0_z2 g1_z2 g2_z2 ⊢
  exact w_X11_send_14 (prim := prim) (d := d) N N S1 w1 0 y1 lvz2 a0 fa0 g0_z2 g1_z2 g2_z2 M1 h
def f_X11_send (N : Nat) (S : yS) : Option (Int32 × yS) := f_X11_send_0 N S
theorem m_X11_send {F : xH} {ev : xEv} {prim : xRel} {d : Nat} {T : yT} {v : Int32} {S' : yS} (N : Nat) (S : yS) (a0 : Nat) (fa0 : yAt T 11 0 0 a0) (h : f_X11_send N S = some (v, S')) : ykQ [0, 1, 2, 3, 4, 5, 6, 7] F ev prim (d + 5) 167 T S [.ref a0] (some (.int v)) S' :=
  ykQ.of (pg_167 ev) mi_167 (Nat.le_of_ble_eq_true rfl) (fun hp sz hM => w_X11_send_0 (prim := prim) (d := d) N S hp _ a0 fa0 rfl hM h)

def f_X4_takesBehindThing_78 (N : Nat) (S : yS) (t0 : Int32) : Option (Int32 × yS) := gP (t0 = 0 ∨ t0 = 1) (some (t0, S))
set_option maxHeartbeats 4000000 in
set_option maxRecDepth 40000 in
theorem w_X4_takesBehindThing_78 {F : xH} {ev : xEv} {prim : xRel} {d sz : Nat} {T : yT} {v : Int32} {S' : yS} (N : Nat) (S : yS) (t0 : Int32) (hp : xH) (lv : xLv) (hM : cR [0, 1, 2, 3, 4, 5, 6, 7] F ev T S hp) (h : f_X4_takesBehindThing_78 N S t0 = some (v, S')) : yWE ev.2.1 (xstr ev) (xCalls ev xmi (xprog ev) prim (d + 3)) (pX4_takesBehindThing ev) (78, lv, [.int t0], hp, sz, 0) (ypQ [0, 1, 2, 3, 4, 5, 6, 7] F ev T sz (some (.int v)) S') := by
  unfold f_X4_takesBehindThing_78 at h
  obtain ⟨i1, h⟩ := gP_some h
  exact ye_ret rfl (if_pos (zb_nar i1)) (rQ h hM)

def f_X4_takesBehindThing_73 (N : Nat) (S : yS) : Option (Int32 × yS) := f_X4_takesBehindThing_78 N S 1
set_option maxHeartbeats 4000000 in
set_option maxRecDepth 40000 in
theorem w_X4_takesBehindThing_73 {F : xH} {ev : xEv} {prim : xRel} {d sz : Nat} {T : yT} {v : Int32} {S' : yS} (N : Nat) (S : yS) (hp : xH) (lv : xLv) (hM : cR [0, 1, 2, 3, 4, 5, 6, 7] F ev T S hp) (h : f_X4_takesBehindThing_73 N S = some (v, S')) : yWE ev.2.1 (xstr ev) (xCalls ev xmi (xprog ev) prim (d + 3)) (pX4_takesBehindThing ev) (73, lv, [], hp, sz, 0) (ypQ [0, 1, 2, 3, 4, 5, 6, 7] F ev T sz (some (.int v)) S') := by
  unfold f_X4_takesBehindThing_73 at h
  refine ye_p rfl rfl ?_
  refine ye_p rfl rfl ?_
  exact w_X4_takesBehindThing_78 (prim := prim) (d := d) N S 1 hp lv hM h

def f_X4_takesBehindThing_77 (N : Nat) (S : yS) : Option (Int32 × yS) := f_X4_takesBehindThing_78 N S 0
set_option maxHeartbeats 4000000 in
set_option maxRecDepth 40000 in
theorem w_X4_takesBehindThing_77 {F : xH} {ev : xEv} {prim : xRel} {d sz : Nat} {T : yT} {v : Int32} {S' : yS} (N : Nat) (S : yS) (hp : xH) (lv : xLv) (hM : cR [0, 1, 2, 3, 4, 5, 6, 7] F ev T S hp) (h : f_X4_takesBehindThing_77 N S = some (v, S')) : yWE ev.2.1 (xstr ev) (xCalls ev xmi (xprog ev) prim (d + 3)) (pX4_takesBehindThing ev) (77, lv, [], hp, sz, 0) (ypQ [0, 1, 2, 3, 4, 5, 6, 7] F ev T sz (some (.int v)) S') := by
  unfold f_X4_takesBehindThing_77 at h
  refine ye_p rfl rfl ?_
  exact w_X4_takesBehindThing_78 (prim := prim) (d := d) N S 0 hp lv hM h

def f_X4_takesBehindThing_39 (N : Nat) (S : yS) (l1 : Int32) : Option (Int32 × yS) := if ¬ (S.1 7 5) = 0 then f_X4_takesBehindThing_77 N S else if ¬ (S.1 7 8) = 2 then bS (f_X4_takesConditionEnd N S l1) fun w1 S1 => if w1 = 0 then f_X4_takesBehindThing_77 N S1 else f_X4_takesBehindThing_73 N S1 else bS (f_X4_takesChoice N S l1) fun w2 S2 => if w2 = 0 then f_X4_takesBehindThing_77 N S2 else f_X4_takesBehindThing_73 N S2
set_option maxHeartbeats 4000000 in
set_option maxRecDepth 40000 in
theorem w_X4_takesBehindThing_39 {F : xH} {ev : xEv} {prim : xRel} {d sz : Nat} {T : yT} {v : Int32} {S' : yS} (N : Nat) (S : yS) (l1 : Int32) (hp : xH) (lv : xLv) (a0 : Nat) (fa0 : yAt T 4 7 0 a0) (g0 : xG lv 0 = some (.ref a0)) (g1 : xG lv 1 = some (.int l1)) (hM : cR [0, 1, 2, 3, 4, 5, 6, 7] F ev T S hp) (h : f_X4_takesBehindThing_39 N S l1 = some (v, S')) : yWE ev.2.1 (xstr ev) (xCalls ev xmi (xprog ev) prim (d + 3)) (pX4_takesBehindThing ev) (39, lv, [], hp, sz, 0) (ypQ [0, 1, 2, 3, 4, 5, 6, 7] F ev T sz (some (.int v)) S') := by
  unfold f_X4_takesBehindThing_39 at h
  refine ye_aload rfl g0 ?_
  refine ye_getf rfl (hM.obj fa0 ⟨rfl, rfl⟩) rfl ?_
  refine ye_if_ne rfl (fun h1 => ?_) (fun h1 => ?_)
  · replace h := yiT h1 h
    exact w_X4_takesBehindThing_77 (prim := prim) (d := d) N S hp lv hM h
  · replace h := yiN h1 h
    refine ye_aload rfl g0 ?_
    refine ye_getf rfl (hM.obj fa0 ⟨rfl, rfl⟩) rfl ?_
    refine ye_p rfl rfl ?_
    refine ye_icmp_ne rfl (fun h2 => ?_) (fun h2 => ?_)
    · replace h := yiT h2 h
      refine ye_aload rfl g0 ?_
      refine ye_iload rfl g1 ?_
      obtain ⟨w1, S1, hw1, h⟩ := bS_some h
      obtain ⟨y1, cy1, M1⟩ := (m_X4_takesConditionEnd (d := d + 0) (T := T) N S l1 a0 fa0 hw1) hp sz hM
      refine ye_callV (As := [.int l1]) (rest := []) 0 (Or.inl rfl) rfl rfl rfl (Nat.le_of_ble_eq_true rfl) (hM.obj fa0 ⟨rfl, rfl⟩) cy1 ?_
      refine ye_if_eq rfl (fun h3 => ?_) (fun h3 => ?_)
      · replace h := yiT h3 h
        exact w_X4_takesBehindThing_77 (prim := prim) (d := d) N S1 y1 lv M1 h
      · replace h := yiN h3 h
        exact w_X4_takesBehindThing_73 (prim := prim) (d := d) N S1 y1 lv M1 h
    · replace h := yiN h2 h
      refine ye_aload rfl g0 ?_
      refine ye_iload rfl g1 ?_
      obtain ⟨w2, S2, hw2, h⟩ := bS_some h
      obtain ⟨y2, cy2, M2⟩ := (m_X4_takesChoice (d := d + 0) (T := T) N S l1 a0 fa0 hw2) hp sz hM
      refine ye_callV (As := [.int l1]) (rest := []) 0 (Or.inl rfl) rfl rfl rfl (Nat.le_of_ble_eq_true rfl) (hM.obj fa0 ⟨rfl, rfl⟩) cy2 ?_
      refine ye_if_eq rfl (fun h4 => ?_) (fun h4 => ?_)
      · replace h := yiT h4 h
        exact w_X4_takesBehindThing_77 (prim := prim) (d := d) N S2 y2 lv M2 h
      · replace h := yiN h4 h
        refine ye_p rfl rfl ?_
        exact w_X4_takesBehindThing_73 (prim := prim) (d := d) N S2 y2 lv M2 h

def f_X4_takesBehindThing_0 (N : Nat) (S : yS) (l1 : Int32) : Option (Int32 × yS) := bV (f_X4_isDigit N S l1) fun w1 => if w1 = 0 then if ¬ l1 = 41 then if l1 = 58 then f_X4_takesBehindThing_39 N S l1 else if ¬ l1 = 63 then bS (f_X4_takesOperator N S l1) fun w2 S1 => gP (w2 = 0 ∨ w2 = 1) (some (w2, S1)) else f_X4_takesBehindThing_39 N S l1 else bS (f_X4_takesClose N S) fun w3 S2 => gP (w3 = 0 ∨ w3 = 1) (some (w3, S2)) else bS (f_X4_takesNextDigit N S (l1 - 48)) fun w4 S3 => gP (w4 = 0 ∨ w4 = 1) (some (w4, S3))
set_option maxHeartbeats 4000000 in
set_option maxRecDepth 40000 in
theorem w_X4_takesBehindThing_0 {F : xH} {ev : xEv} {prim : xRel} {d sz : Nat} {T : yT} {v : Int32} {S' : yS} (N : Nat) (S : yS) (l1 : Int32) (hp : xH) (lv : xLv) (a0 : Nat) (fa0 : yAt T 4 7 0 a0) (g0 : xG lv 0 = some (.ref a0)) (g1 : xG lv 1 = some (.int l1)) (hM : cR [0, 1, 2, 3, 4, 5, 6, 7] F ev T S hp) (h : f_X4_takesBehindThing_0 N S l1 = some (v, S')) : yWE ev.2.1 (xstr ev) (xCalls ev xmi (xprog ev) prim (d + 3)) (pX4_takesBehindThing ev) (0, lv, [], hp, sz, 0) (ypQ [0, 1, 2, 3, 4, 5, 6, 7] F ev T sz (some (.int v)) S') := by
  unfold f_X4_takesBehindThing_0 at h
  refine ye_iload rfl g1 ?_
  obtain ⟨w1, hw1, h⟩ := bV_some h
  refine ye_callS (As := [.int l1]) (rest := []) 1 (Or.inl rfl) rfl rfl rfl (Nat.le_of_ble_eq_true rfl) ((m_X4_isDigit (d := d + 2) (T := T) N S l1 hw1) hp sz hM) ?_
  refine ye_if_eq rfl (fun h1 => ?_) (fun h1 => ?_)
  · replace h := yiT h1 h
    refine ye_iload rfl g1 ?_
    refine ye_p rfl rfl ?_
    refine ye_icmp_ne rfl (fun h2 => ?_) (fun h2 => ?_)
    · replace h := yiT h2 h
      refine ye_iload rfl g1 ?_
      refine ye_p rfl rfl ?_
      refine ye_icmp_eq rfl (fun h3 => ?_) (fun h3 => ?_)
      · replace h := yiT h3 h
        exact w_X4_takesBehindThing_39 (prim := prim) (d := d) N S l1 hp lv a0 fa0 g0 g1 hM h
      · replace h := yiN h3 h
        refine ye_iload rfl g1 ?_
        refine ye_p rfl rfl ?_
        refine ye_icmp_ne rfl (fun h4 => ?_) (fun h4 => ?_)
        · replace h := yiT h4 h
          refine ye_aload rfl g0 ?_
          refine ye_iload rfl g1 ?_
          obtain ⟨w2, S1, hw2, h⟩ := bS_some h
          obtain ⟨y1, cy1, M1⟩ := (m_X4_takesOperator (d := d + 0) (T := T) N S l1 a0 fa0 hw2) hp sz hM
          refine ye_callV (As := [.int l1]) (rest := []) 0 (Or.inl rfl) rfl rfl rfl (Nat.le_of_ble_eq_true rfl) (hM.obj fa0 ⟨rfl, rfl⟩) cy1 ?_
          obtain ⟨i1, h⟩ := gP_some h
          exact ye_ret rfl (if_pos (zb_nar i1)) (rQ h M1)
        · replace h := yiN h4 h
          exact w_X4_takesBehindThing_39 (prim := prim) (d := d) N S l1 hp lv a0 fa0 g0 g1 hM h
    · replace h := yiN h2 h
      refine ye_aload rfl g0 ?_
      obtain ⟨w3, S2, hw3, h⟩ := bS_some h
      obtain ⟨y2, cy2, M2⟩ := (m_X4_takesClose (d := d + 0) (T := T) N S a0 fa0 hw3) hp sz hM
      refine ye_callV (As := []) (rest := []) 0 (Or.inl rfl) rfl rfl rfl (Nat.le_of_ble_eq_true rfl) (hM.obj fa0 ⟨rfl, rfl⟩) cy2 ?_
      obtain ⟨i2, h⟩ := gP_some h
      exact ye_ret rfl (if_pos (zb_nar i2)) (rQ h M2)
  · replace h := yiN h1 h
    refine ye_aload rfl g0 ?_
    refine ye_iload rfl g1 ?_
    refine ye_p rfl rfl ?_
    refine ye_p rfl rfl ?_
    obtain ⟨w4, S3, hw4, h⟩ := bS_some h
    obtain ⟨y3, cy3, M3⟩ := (m_X4_takesNextDigit (d := d + 2) (T := T) N S (l1 - 48) a0 fa0 hw4) hp sz hM
    refine ye_callV (As := [.int (l1 - 48)]) (rest := []) 0 (Or.inl rfl) rfl rfl rfl (Nat.le_of_ble_eq_true rfl) (hM.obj fa0 ⟨rfl, rfl⟩) cy3 ?_
    obtain ⟨i3, h⟩ := gP_some h
    exact ye_ret rfl (if_pos (zb_nar i3)) (rQ h M3)
def f_X4_takesBehindThing (N : Nat) (S : yS) (xl1 : Int32) : Option (Int32 × yS) := f_X4_takesBehindThing_0 N S xl1
theorem m_X4_takesBehindThing {F : xH} {ev : xEv} {prim : xRel} {d : Nat} {T : yT} {v : Int32} {S' : yS} (N : Nat) (S : yS) (xl1 : Int32) (a0 : Nat) (fa0 : yAt T 4 7 0 a0) (h : f_X4_takesBehindThing N S xl1 = some (v, S')) : ykQ [0, 1, 2, 3, 4, 5, 6, 7] F ev prim (d + 4) 48 T S [.ref a0, .int xl1] (some (.int v)) S' :=
  ykQ.of (pg_48 ev) mi_48 (Nat.le_of_ble_eq_true rfl) (fun hp sz hM => w_X4_takesBehindThing_0 (prim := prim) (d := d) N S xl1 hp _ a0 fa0 rfl rfl hM h)

def f_X10_tryStart_68 (N : Nat) (S : yS) : Option (Int32 × yS) := some (0, S)
set_option maxHeartbeats 4000000 in
set_option maxRecDepth 40000 in
theorem w_X10_tryStart_68 {F : xH} {ev : xEv} {prim : xRel} {d sz : Nat} {T : yT} {v : Int32} {S' : yS} (N : Nat) (S : yS) (hp : xH) (lv : xLv) (hM : cR [0, 1, 2, 3, 4, 5, 6, 7] F ev T S hp) (h : f_X10_tryStart_68 N S = some (v, S')) : yWE ev.2.1 (xstr ev) (xCalls ev xmi (xprog ev) prim (d + 4)) (pX10_tryStart ev) (68, lv, [], hp, sz, 0) (ypQ [0, 1, 2, 3, 4, 5, 6, 7] F ev T sz (none) S') := by
  unfold f_X10_tryStart_68 at h
  exact ye_ret rfl rfl (rQV h hM)

def f_X10_tryStart_0 (N : Nat) (S : yS) (l1 : Int32) : Option (Int32 × yS) := gR (S.2.1 2 11) 24 l1 fun j1 => if ((S.1 2 13) - 16) < (S.1 ((512 + j1)) 3) then bV (f_X10_hindrance N S ((512 + j1))) fun w1 => if w1 = 0 then bS (f_X10_startAct N S ((512 + j1))) fun w2 S1 => sq (yI S1 ((512 + j1)) 8 (S1.1 4 1)) fun S2 => if ¬ w2 = 71 then f_X10_tryStart_68 N S2 else bS (f_X10_start N S2 l1) fun w3 S3 => f_X10_tryStart_68 N S3 else some (0, S) else bS (f_X1_finish N S ((512 + j1)) 3 (S.1 2 13)) fun w4 S4 => some (0, S4)
set_option maxHeartbeats 4000000 in
set_option maxRecDepth 40000 in
theorem w_X10_tryStart_0 {F : xH} {ev : xEv} {prim : xRel} {d sz : Nat} {T : yT} {v : Int32} {S' : yS} (N : Nat) (S : yS) (l1 : Int32) (hp : xH) (lv : xLv) (a0 : Nat) (fa0 : yAt T 10 2 0 a0) (g0 : xG lv 0 = some (.ref a0)) (g1 : xG lv 1 = some (.int l1)) (hM : cR [0, 1, 2, 3, 4, 5, 6, 7] F ev T S hp) (h : f_X10_tryStart_0 N S l1 = some (v, S')) : yWE ev.2.1 (xstr ev) (xCalls ev xmi (xprog ev) prim (d + 4)) (pX10_tryStart ev) (0, lv, [], hp, sz, 0) (ypQ [0, 1, 2, 3, 4, 5, 6, 7] F ev T sz (none) S') := by
  unfold f_X10_tryStart_0 at h
  refine ye_aload rfl g0 ?_
  refine ye_getr rfl (hM.obj fa0 ⟨rfl, rfl⟩) rfl (fun cx1 ecx1 => ?_)
  have fcx1 := yAt.row fa0 ecx1
  refine ye_iload rfl g1 ?_
  obtain ⟨j1, ej1, ij1, rj1, h⟩ := gR_some h
  refine ye_aaldR (t := 8) rfl (hM.arr fcx1 yr_10_11) ij1 ej1 rj1 (fun cx2 ecx2 => ?_)
  have fcx2 : yAt T 1 (512 + j1) 0 cx2 := ⟨hM.refd fcx1 yr_10_11 (by decide) rj1, oc_512 (by have := vp_lt ij1; omega), ecx2⟩
  refine ye_p rfl rfl ?_
  have g0_z1 := xG_o1 (i := 2) (v := .ref cx2) g0 rfl
  have g1_z1 := xG_o1 (i := 2) (v := .ref cx2) g1 rfl
  have g2_z1 := xG_same lv 2 (.ref cx2)
  generalize xSt1 lv 2 (.ref cx2) = lvz1 at g0_z1 g1_z1 g2_z1 ⊢
  refine ye_aload rfl g2_z1 ?_
  refine ye_getf rfl (hM.obj fcx2 ⟨rfl, rfl⟩) rfl ?_
  refine ye_aload rfl g0_z1 ?_
  refine ye_getf rfl (hM.obj fa0 ⟨rfl, rfl⟩) rfl ?_
  refine ye_p rfl rfl ?_
  refine ye_p rfl rfl ?_
  refine ye_icmp_gt rfl (fun h1 => ?_) (fun h1 => ?_)
  · replace h := yiT h1 h
    refine ye_aload rfl g0_z1 ?_
    refine ye_aload rfl g2_z1 ?_
    obtain ⟨w1, hw1, h⟩ := bV_some h
    refine ye_callV (As := [.ref cx2]) (rest := []) 0 (Or.inl rfl) rfl rfl rfl (Nat.le_of_ble_eq_true rfl) (hM.obj fa0 ⟨rfl, rfl⟩) ((m_X10_hindrance (d := d + 2) (T := T) N S ((512 + j1)) a0 cx2 fa0 fcx2 hw1) hp sz hM) ?_
    refine ye_if_eq rfl (fun h2 => ?_) (fun h2 => ?_)
    · replace h := yiT h2 h
      refine ye_aload rfl g0_z1 ?_
      refine ye_aload rfl g2_z1 ?_
      obtain ⟨w2, S1, hw2, h⟩ := bS_some h
      obtain ⟨y1, cy1, M1⟩ := (m_X10_startAct (d := d + 0) (T := T) N S ((512 + j1)) a0 cx2 fa0 fcx2 hw2) hp sz hM
      refine ye_callV (As := [.ref cx2]) (rest := []) 0 (Or.inl rfl) rfl rfl rfl (Nat.le_of_ble_eq_true rfl) (hM.obj fa0 ⟨rfl, rfl⟩) cy1 ?_
      refine ye_p rfl rfl ?_
      have g0_z2 := xG_o1 (i := 3) (v := .int w2) g0_z1 rfl
      have g1_z2 := xG_o1 (i := 3) (v := .int w2) g1_z1 rfl
      have g2_z2 := xG_o1 (i := 3) (v := .int w2) g2_z1 rfl
      have g3_z2 := xG_same lvz1 3 (.int w2)
      generalize xSt1 lvz1 3 (.int w2) = lvz2 at g0_z2 g1_z2 g2_z2 g3_z2 ⊢
      refine ye_aload rfl g2_z2 ?_
      refine ye_aload rfl g0_z2 ?_
      refine ye_getr rfl (M1.obj fa0 ⟨rfl, rfl⟩) rfl (fun cx3 ecx3 => ?_)
      have fcx3 := M1.root 14 0 (by decide) rfl ecx3
      refine ye_getf rfl (M1.obj fcx3 ⟨rfl, rfl⟩) rfl ?_
      obtain ⟨S2, eS2, h⟩ := sq_some h
      refine yw_putI rfl M1 fcx2 rfl ⟨rfl, rfl⟩ (Nat.le_of_ble_eq_true rfl) rfl rfl (ys_1_8 ev T _ (S1.1 4 1)) (fun q => absurd q (by decide)) eS2 (fun y2 M2 => ?_)
      refine ye_iload rfl g3_z2 ?_
      refine ye_p rfl rfl ?_
      refine ye_icmp_ne rfl (fun h3 => ?_) (fun h3 => ?_)
      · replace h := yiT h3 h
        exact w_X10_tryStart_68 (prim := prim) (d := d) N S2 y2 lvz2 M2 h
      · replace h := yiN h3 h
        refine ye_aload rfl g0_z2 ?_
        refine ye_iload rfl g1_z2 ?_
        obtain ⟨w3, S3, hw3, h⟩ := bS_some h
        obtain ⟨y3, cy3, M3⟩ := (m_X10_start (d := d + 0) (T := T) N S2 l1 a0 fa0 hw3) y2 sz M2
        refine ye_callV (As := [.int l1]) (rest := []) 0 (Or.inl rfl) rfl rfl rfl (Nat.le_of_ble_eq_true rfl) (M2.obj fa0 ⟨rfl, rfl⟩) cy3 ?_
        exact w_X10_tryStart_68 (prim := prim) (d := d) N S3 y3 lvz2 M3 h
    · replace h := yiN h2 h
      exact ye_ret rfl rfl (rQV h hM)
  · replace h := yiN h1 h
    refine ye_aload rfl g2_z1 ?_
    refine ye_p rfl rfl ?_
    refine ye_aload rfl g0_z1 ?_
    refine ye_getf rfl (hM.obj fa0 ⟨rfl, rfl⟩) rfl ?_
    obtain ⟨w4, S4, hw4, h⟩ := bS_some h
    obtain ⟨y4, cy4, M4⟩ := (m_X1_finish (d := d + 3) (T := T) N S ((512 + j1)) 3 (S.1 2 13) cx2 fcx2 hw4) hp sz hM
    refine ye_callV (As := [.int 3, .int (S.1 2 13)]) (rest := []) 0 (Or.inl rfl) rfl rfl rfl (Nat.le_of_ble_eq_true rfl) (hM.obj fcx2 ⟨rfl, rfl⟩) cy4 ?_
    exact ye_ret rfl rfl (rQV h M4)
def f_X10_tryStart (N : Nat) (S : yS) (xl1 : Int32) : Option (Int32 × yS) := f_X10_tryStart_0 N S xl1
theorem m_X10_tryStart {F : xH} {ev : xEv} {prim : xRel} {d : Nat} {T : yT} {v : Int32} {S' : yS} (N : Nat) (S : yS) (xl1 : Int32) (a0 : Nat) (fa0 : yAt T 10 2 0 a0) (h : f_X10_tryStart N S xl1 = some (v, S')) : ykQ [0, 1, 2, 3, 4, 5, 6, 7] F ev prim (d + 5) 101 T S [.ref a0, .int xl1] (none) S' :=
  ykQ.of (pg_101 ev) mi_101 (Nat.le_of_ble_eq_true rfl) (fun hp sz hM => w_X10_tryStart_0 (prim := prim) (d := d) N S xl1 hp _ a0 fa0 rfl rfl hM h)

def f_X10_fly_111 (N : Nat) (S : yS) (p2 : Nat) : Option (Int32 × yS) := bS (f_X10_forceDown N S p2) fun w1 S1 => some (0, S1)
set_option maxHeartbeats 4000000 in
set_option maxRecDepth 40000 in
theorem w_X10_fly_111 {F : xH} {ev : xEv} {prim : xRel} {d sz : Nat} {T : yT} {v : Int32} {S' : yS} (N : Nat) (S : yS) (p2 : Nat) (hp : xH) (lv : xLv) (a0 : Nat) (a2 : Nat) (fa0 : yAt T 10 2 0 a0) (fa2 : yAt T 6 p2 0 a2) (g0 : xG lv 0 = some (.ref a0)) (g2 : xG lv 2 = some (.ref a2)) (hM : cR [0, 1, 2, 3, 4, 5, 6, 7] F ev T S hp) (h : f_X10_fly_111 N S p2 = some (v, S')) : yWE ev.2.1 (xstr ev) (xCalls ev xmi (xprog ev) prim (d + 4)) (pX10_fly ev) (111, lv, [], hp, sz, 0) (ypQ [0, 1, 2, 3, 4, 5, 6, 7] F ev T sz (none) S') := by
  unfold f_X10_fly_111 at h
  refine ye_aload rfl g0 ?_
  refine ye_aload rfl g2 ?_
  obtain ⟨w1, S1, hw1, h⟩ := bS_some h
  obtain ⟨y1, cy1, M1⟩ := (m_X10_forceDown (d := d + 1) (T := T) N S p2 a0 a2 fa0 fa2 hw1) hp sz hM
  refine ye_callV (As := [.ref a2]) (rest := []) 0 (Or.inl rfl) rfl rfl rfl (Nat.le_of_ble_eq_true rfl) (hM.obj fa0 ⟨rfl, rfl⟩) cy1 ?_
  exact ye_ret rfl rfl (rQV h M1)

def f_X10_fly_253 (N : Nat) (S : yS) : Option (Int32 × yS) := some (0, S)
set_option maxHeartbeats 4000000 in
set_option maxRecDepth 40000 in
theorem w_X10_fly_253 {F : xH} {ev : xEv} {prim : xRel} {d sz : Nat} {T : yT} {v : Int32} {S' : yS} (N : Nat) (S : yS) (hp : xH) (lv : xLv) (hM : cR [0, 1, 2, 3, 4, 5, 6, 7] F ev T S hp) (h : f_X10_fly_253 N S = some (v, S')) : yWE ev.2.1 (xstr ev) (xCalls ev xmi (xprog ev) prim (d + 4)) (pX10_fly ev) (253, lv, [], hp, sz, 0) (ypQ [0, 1, 2, 3, 4, 5, 6, 7] F ev T sz (none) S') := by
  unfold f_X10_fly_253 at h
  exact ye_ret rfl rfl (rQV h hM)

def f_X10_fly_212 (N : Nat) (S : yS) (p2 : Nat) : Option (Int32 × yS) := bS (f_X10_forceDown N S p2) fun w1 S1 => f_X10_fly_253 N S1
set_option maxHeartbeats 4000000 in
set_option maxRecDepth 40000 in
theorem w_X10_fly_212 {F : xH} {ev : xEv} {prim : xRel} {d sz : Nat} {T : yT} {v : Int32} {S' : yS} (N : Nat) (S : yS) (p2 : Nat) (hp : xH) (lv : xLv) (a0 : Nat) (a2 : Nat) (fa0 : yAt T 10 2 0 a0) (fa2 : yAt T 6 p2 0 a2) (g0 : xG lv 0 = some (.ref a0)) (g2 : xG lv 2 = some (.ref a2)) (hM : cR [0, 1, 2, 3, 4, 5, 6, 7] F ev T S hp) (h : f_X10_fly_212 N S p2 = some (v, S')) : yWE ev.2.1 (xstr ev) (xCalls ev xmi (xprog ev) prim (d + 4)) (pX10_fly ev) (212, lv, [], hp, sz, 0) (ypQ [0, 1, 2, 3, 4, 5, 6, 7] F ev T sz (none) S') := by
  unfold f_X10_fly_212 at h
  refine ye_aload rfl g0 ?_
  refine ye_aload rfl g2 ?_
  obtain ⟨w1, S1, hw1, h⟩ := bS_some h
  obtain ⟨y1, cy1, M1⟩ := (m_X10_forceDown (d := d + 1) (T := T) N S p2 a0 a2 fa0 fa2 hw1) hp sz hM
  refine ye_callV (As := [.ref a2]) (rest := []) 0 (Or.inl rfl) rfl rfl rfl (Nat.le_of_ble_eq_true rfl) (hM.obj fa0 ⟨rfl, rfl⟩) cy1 ?_
  refine ye_p rfl rfl ?_
  exact w_X10_fly_253 (prim := prim) (d := d) N S1 y1 lv M1 h

def f_X10_fly_198 (N : Nat) (S : yS) (l1 : Int32) (p2 : Nat) (p4 : Nat) (l6 : Int32) (t0 : Int32) : Option (Int32 × yS) := if l6 = 76 then f_X10_fly_212 N S p2 else if t0 = 0 then bS (f_X10_reachesField N S p2) fun w1 S1 => if w1 = 0 then f_X10_fly_253 N S1 else bV (f_X3_goal N S1 p4 (S1.1 p2 11)) fun w2 => bS (f_X10_comeIn N S1 p2 w2) fun w3 S2 => bS (f_X10_unload N S2 l1 w2) fun w4 S3 => f_X10_fly_253 N S3 else f_X10_fly_212 N S p2
set_option maxHeartbeats 4000000 in
set_option maxRecDepth 40000 in
theorem w_X10_fly_198 {F : xH} {ev : xEv} {prim : xRel} {d sz : Nat} {T : yT} {v : Int32} {S' : yS} (N : Nat) (S : yS) (l1 : Int32) (p2 : Nat) (p4 : Nat) (l6 : Int32) (t0 : Int32) (hp : xH) (lv : xLv) (a0 : Nat) (a2 : Nat) (a4 : Nat) (fa0 : yAt T 10 2 0 a0) (fa2 : yAt T 6 p2 0 a2) (fa4 : yAt T 3 p4 0 a4) (g0 : xG lv 0 = some (.ref a0)) (g1 : xG lv 1 = some (.int l1)) (g2 : xG lv 2 = some (.ref a2)) (g4 : xG lv 4 = some (.ref a4)) (g6 : xG lv 6 = some (.int l6)) (hM : cR [0, 1, 2, 3, 4, 5, 6, 7] F ev T S hp) (h : f_X10_fly_198 N S l1 p2 p4 l6 t0 = some (v, S')) : yWE ev.2.1 (xstr ev) (xCalls ev xmi (xprog ev) prim (d + 4)) (pX10_fly ev) (198, lv, [.int t0], hp, sz, 0) (ypQ [0, 1, 2, 3, 4, 5, 6, 7] F ev T sz (none) S') := by
  unfold f_X10_fly_198 at h
  refine ye_p rfl rfl ?_
  have g0_z1 := xG_o1 (i := 7) (v := .int t0) g0 rfl
  have g1_z1 := xG_o1 (i := 7) (v := .int t0) g1 rfl
  have g2_z1 := xG_o1 (i := 7) (v := .int t0) g2 rfl
  have g4_z1 := xG_o1 (i := 7) (v := .int t0) g4 rfl
  have g6_z1 := xG_o1 (i := 7) (v := .int t0) g6 rfl
  have g7_z1 := xG_same lv 7 (.int t0)
  generalize xSt1 lv 7 (.int t0) = lvz1 at g0_z1 g1_z1 g2_z1 g4_z1 g6_z1 g7_z1 ⊢
  refine ye_iload rfl g6_z1 ?_
  refine ye_p rfl rfl ?_
  refine ye_icmp_eq rfl (fun h1 => ?_) (fun h1 => ?_)
  · replace h := yiT h1 h
    exact w_X10_fly_212 (prim := prim) (d := d) N S p2 hp lvz1 a0 a2 fa0 fa2 g0_z1 g2_z1 hM h
  · replace h := yiN h1 h
    refine ye_iload rfl g7_z1 ?_
    refine ye_if_eq rfl (fun h2 => ?_) (fun h2 => ?_)
    · replace h := yiT h2 h
      refine ye_aload rfl g0_z1 ?_
      refine ye_aload rfl g2_z1 ?_
      obtain ⟨w1, S1, hw1, h⟩ := bS_some h
      obtain ⟨y1, cy1, M1⟩ := (m_X10_reachesField (d := d + 0) (T := T) N S p2 a0 a2 fa0 fa2 hw1) hp sz hM
      refine ye_callV (As := [.ref a2]) (rest := []) 0 (Or.inl rfl) rfl rfl rfl (Nat.le_of_ble_eq_true rfl) (hM.obj fa0 ⟨rfl, rfl⟩) cy1 ?_
      refine ye_if_eq rfl (fun h3 => ?_) (fun h3 => ?_)
      · replace h := yiT h3 h
        exact w_X10_fly_253 (prim := prim) (d := d) N S1 y1 lvz1 M1 h
      · replace h := yiN h3 h
        refine ye_aload rfl g4_z1 ?_
        refine ye_aload rfl g2_z1 ?_
        refine ye_getf rfl (M1.obj fa2 ⟨rfl, rfl⟩) rfl ?_
        obtain ⟨w2, hw2, h⟩ := bV_some h
        refine ye_callV (As := [.int (S1.1 p2 11)]) (rest := []) 0 (Or.inl rfl) rfl rfl rfl (Nat.le_of_ble_eq_true rfl) (M1.obj fa4 ⟨rfl, rfl⟩) ((m_X3_goal (d := d + 3) (T := T) N S1 p4 (S1.1 p2 11) a4 fa4 hw2) y1 sz M1) ?_
        refine ye_p rfl rfl ?_
        have g0_z2 := xG_o1 (i := 8) (v := .int w2) g0_z1 rfl
        have g1_z2 := xG_o1 (i := 8) (v := .int w2) g1_z1 rfl
        have g2_z2 := xG_o1 (i := 8) (v := .int w2) g2_z1 rfl
        have g8_z2 := xG_same lvz1 8 (.int w2)
        generalize xSt1 lvz1 8 (.int w2) = lvz2 at g0_z2 g1_z2 g2_z2 g8_z2 ⊢
        refine ye_aload rfl g0_z2 ?_
        refine ye_aload rfl g2_z2 ?_
        refine ye_iload rfl g8_z2 ?_
        obtain ⟨w3, S2, hw3, h⟩ := bS_some h
        obtain ⟨y2, cy2, M2⟩ := (m_X10_comeIn (d := d + 1) (T := T) N S1 p2 w2 a0 a2 fa0 fa2 hw3) y1 sz M1
        refine ye_callV (As := [.ref a2, .int w2]) (rest := []) 0 (Or.inl rfl) rfl rfl rfl (Nat.le_of_ble_eq_true rfl) (M1.obj fa0 ⟨rfl, rfl⟩) cy2 ?_
        refine ye_aload rfl g0_z2 ?_
        refine ye_iload rfl g1_z2 ?_
        refine ye_iload rfl g8_z2 ?_
        obtain ⟨w4, S3, hw4, h⟩ := bS_some h
        obtain ⟨y3, cy3, M3⟩ := (m_X10_unload (d := d + 1) (T := T) N S2 l1 w2 a0 fa0 hw4) y2 sz M2
        refine ye_callV (As := [.int l1, .int w2]) (rest := []) 0 (Or.inl rfl) rfl rfl rfl (Nat.le_of_ble_eq_true rfl) (M2.obj fa0 ⟨rfl, rfl⟩) cy3 ?_
        exact w_X10_fly_253 (prim := prim) (d := d) N S3 y3 lvz2 M3 h
    · replace h := yiN h2 h
      exact w_X10_fly_212 (prim := prim) (d := d) N S p2 hp lvz1 a0 a2 fa0 fa2 g0_z1 g2_z1 hM h

def f_X10_fly_197 (N : Nat) (S : yS) (l1 : Int32) (p2 : Nat) (p4 : Nat) (l6 : Int32) : Option (Int32 × yS) := f_X10_fly_198 N S l1 p2 p4 l6 0
set_option maxHeartbeats 4000000 in
set_option maxRecDepth 40000 in
theorem w_X10_fly_197 {F : xH} {ev : xEv} {prim : xRel} {d sz : Nat} {T : yT} {v : Int32} {S' : yS} (N : Nat) (S : yS) (l1 : Int32) (p2 : Nat) (p4 : Nat) (l6 : Int32) (hp : xH) (lv : xLv) (a0 : Nat) (a2 : Nat) (a4 : Nat) (fa0 : yAt T 10 2 0 a0) (fa2 : yAt T 6 p2 0 a2) (fa4 : yAt T 3 p4 0 a4) (g0 : xG lv 0 = some (.ref a0)) (g1 : xG lv 1 = some (.int l1)) (g2 : xG lv 2 = some (.ref a2)) (g4 : xG lv 4 = some (.ref a4)) (g6 : xG lv 6 = some (.int l6)) (hM : cR [0, 1, 2, 3, 4, 5, 6, 7] F ev T S hp) (h : f_X10_fly_197 N S l1 p2 p4 l6 = some (v, S')) : yWE ev.2.1 (xstr ev) (xCalls ev xmi (xprog ev) prim (d + 4)) (pX10_fly ev) (197, lv, [], hp, sz, 0) (ypQ [0, 1, 2, 3, 4, 5, 6, 7] F ev T sz (none) S') := by
  unfold f_X10_fly_197 at h
  refine ye_p rfl rfl ?_
  exact w_X10_fly_198 (prim := prim) (d := d) N S l1 p2 p4 l6 0 hp lv a0 a2 a4 fa0 fa2 fa4 g0 g1 g2 g4 g6 hM h

def f_X10_fly_158 (N : Nat) (S : yS) (l1 : Int32) (p2 : Nat) (p4 : Nat) (p5 : Nat) (l6 : Int32) : Option (Int32 × yS) := bV (f_X2_cloudAt N S (S.1 p2 9) (S.1 2 13)) fun w1 => if (S.1 p4 3) ≤ w1 then f_X10_fly_197 N S l1 p2 p4 l6 else bV (f_X5_knowsLeg N S p5 (S.1 p2 9)) fun w2 => if ¬ w2 = 0 then f_X10_fly_197 N S l1 p2 p4 l6 else f_X10_fly_198 N S l1 p2 p4 l6 1
set_option maxHeartbeats 4000000 in
set_option maxRecDepth 40000 in
theorem w_X10_fly_158 {F : xH} {ev : xEv} {prim : xRel} {d sz : Nat} {T : yT} {v : Int32} {S' : yS} (N : Nat) (S : yS) (l1 : Int32) (p2 : Nat) (p4 : Nat) (p5 : Nat) (l6 : Int32) (hp : xH) (lv : xLv) (a0 : Nat) (a2 : Nat) (a4 : Nat) (a5 : Nat) (fa0 : yAt T 10 2 0 a0) (fa2 : yAt T 6 p2 0 a2) (fa4 : yAt T 3 p4 0 a4) (fa5 : yAt T 5 p5 0 a5) (g0 : xG lv 0 = some (.ref a0)) (g1 : xG lv 1 = some (.int l1)) (g2 : xG lv 2 = some (.ref a2)) (g4 : xG lv 4 = some (.ref a4)) (g5 : xG lv 5 = some (.ref a5)) (g6 : xG lv 6 = some (.int l6)) (hM : cR [0, 1, 2, 3, 4, 5, 6, 7] F ev T S hp) (h : f_X10_fly_158 N S l1 p2 p4 p5 l6 = some (v, S')) : yWE ev.2.1 (xstr ev) (xCalls ev xmi (xprog ev) prim (d + 4)) (pX10_fly ev) (158, lv, [], hp, sz, 0) (ypQ [0, 1, 2, 3, 4, 5, 6, 7] F ev T sz (none) S') := by
  unfold f_X10_fly_158 at h
  refine ye_aload rfl g0 ?_
  refine ye_getr rfl (hM.obj fa0 ⟨rfl, rfl⟩) rfl (fun cx1 ecx1 => ?_)
  have fcx1 := hM.root 2 0 (by decide) rfl ecx1
  refine ye_aload rfl g2 ?_
  refine ye_getf rfl (hM.obj fa2 ⟨rfl, rfl⟩) rfl ?_
  refine ye_aload rfl g0 ?_
  refine ye_getf rfl (hM.obj fa0 ⟨rfl, rfl⟩) rfl ?_
  obtain ⟨w1, hw1, h⟩ := bV_some h
  refine ye_callV (As := [.int (S.1 p2 9), .int (S.1 2 13)]) (rest := []) 0 (Or.inl rfl) rfl rfl rfl (Nat.le_of_ble_eq_true rfl) (hM.obj fcx1 ⟨rfl, rfl⟩) ((m_X2_cloudAt (d := d + 2) (T := T) N S (S.1 p2 9) (S.1 2 13) cx1 fcx1 hw1) hp sz hM) ?_
  refine ye_aload rfl g4 ?_
  refine ye_getf rfl (hM.obj fa4 ⟨rfl, rfl⟩) rfl ?_
  refine ye_icmp_ge rfl (fun h1 => ?_) (fun h1 => ?_)
  · replace h := yiT h1 h
    exact w_X10_fly_197 (prim := prim) (d := d) N S l1 p2 p4 l6 hp lv a0 a2 a4 fa0 fa2 fa4 g0 g1 g2 g4 g6 hM h
  · replace h := yiN h1 h
    refine ye_aload rfl g5 ?_
    refine ye_aload rfl g2 ?_
    refine ye_getf rfl (hM.obj fa2 ⟨rfl, rfl⟩) rfl ?_
    obtain ⟨w2, hw2, h⟩ := bV_some h
    refine ye_callV (As := [.int (S.1 p2 9)]) (rest := []) 0 (Or.inl rfl) rfl rfl rfl (Nat.le_of_ble_eq_true rfl) (hM.obj fa5 ⟨rfl, rfl⟩) ((m_X5_knowsLeg (d := d + 3) (T := T) N S p5 (S.1 p2 9) a5 fa5 hw2) hp sz hM) ?_
    refine ye_if_ne rfl (fun h2 => ?_) (fun h2 => ?_)
    · replace h := yiT h2 h
      exact w_X10_fly_197 (prim := prim) (d := d) N S l1 p2 p4 l6 hp lv a0 a2 a4 fa0 fa2 fa4 g0 g1 g2 g4 g6 hM h
    · replace h := yiN h2 h
      refine ye_p rfl rfl ?_
      refine ye_p rfl rfl ?_
      exact w_X10_fly_198 (prim := prim) (d := d) N S l1 p2 p4 l6 1 hp lv a0 a2 a4 fa0 fa2 fa4 g0 g1 g2 g4 g6 hM h

def f_X10_fly_155 (N : Nat) (S : yS) (l1 : Int32) (p2 : Nat) (p4 : Nat) (p5 : Nat) (l6 : Int32) (q0 : Nat) (t1 : Int32) : Option (Int32 × yS) := gP (t1 = 0 ∨ t1 = 1) (sq (yI S q0 11 t1) fun S1 => f_X10_fly_158 N S1 l1 p2 p4 p5 l6)
set_option maxHeartbeats 4000000 in
set_option maxRecDepth 40000 in
theorem w_X10_fly_155 {F : xH} {ev : xEv} {prim : xRel} {d sz : Nat} {T : yT} {v : Int32} {S' : yS} (N : Nat) (S : yS) (l1 : Int32) (p2 : Nat) (p4 : Nat) (p5 : Nat) (l6 : Int32) (q0 : Nat) (t1 : Int32) (hp : xH) (lv : xLv) (a0 : Nat) (a2 : Nat) (a4 : Nat) (a5 : Nat) (b0 : Nat) (fa0 : yAt T 10 2 0 a0) (fa2 : yAt T 6 p2 0 a2) (fa4 : yAt T 3 p4 0 a4) (fa5 : yAt T 5 p5 0 a5) (fb0 : yAt T 6 q0 0 b0) (g0 : xG lv 0 = some (.ref a0)) (g1 : xG lv 1 = some (.int l1)) (g2 : xG lv 2 = some (.ref a2)) (g4 : xG lv 4 = some (.ref a4)) (g5 : xG lv 5 = some (.ref a5)) (g6 : xG lv 6 = some (.int l6)) (hM : cR [0, 1, 2, 3, 4, 5, 6, 7] F ev T S hp) (h : f_X10_fly_155 N S l1 p2 p4 p5 l6 q0 t1 = some (v, S')) : yWE ev.2.1 (xstr ev) (xCalls ev xmi (xprog ev) prim (d + 4)) (pX10_fly ev) (155, lv, [.int t1, .ref b0], hp, sz, 0) (ypQ [0, 1, 2, 3, 4, 5, 6, 7] F ev T sz (none) S') := by
  unfold f_X10_fly_155 at h
  obtain ⟨i1, h⟩ := gP_some h
  obtain ⟨S1, eS1, h⟩ := sq_some h
  refine yw_putI rfl hM fb0 rfl ⟨rfl, rfl⟩ (Nat.le_of_ble_eq_true rfl) (zb_fit i1) (zb_nar i1) (ys_6_11 ev T _ t1) (fun q => absurd q (by decide)) eS1 (fun y1 M1 => ?_)
  exact w_X10_fly_158 (prim := prim) (d := d) N S1 l1 p2 p4 p5 l6 y1 lv a0 a2 a4 a5 fa0 fa2 fa4 fa5 g0 g1 g2 g4 g5 g6 M1 h

def f_X10_fly_104 (N : Nat) (S : yS) (l1 : Int32) (p2 : Nat) (p3 : Nat) (p4 : Nat) (p5 : Nat) : Option (Int32 × yS) := if 0 ≤ (S.1 p2 15) then bS (f_X10_aloftAct N S p2) fun w1 S1 => sq (yI S1 p3 9 (S1.1 4 1)) fun S2 => if ¬ w1 = 84 then f_X10_fly_158 N S2 l1 p2 p4 p5 w1 else if ¬ (S2.1 p2 11) = 0 then f_X10_fly_155 N S2 l1 p2 p4 p5 w1 p2 0 else f_X10_fly_155 N S2 l1 p2 p4 p5 w1 p2 1 else f_X10_fly_111 N S p2
set_option maxHeartbeats 4000000 in
set_option maxRecDepth 40000 in
theorem w_X10_fly_104 {F : xH} {ev : xEv} {prim : xRel} {d sz : Nat} {T : yT} {v : Int32} {S' : yS} (N : Nat) (S : yS) (l1 : Int32) (p2 : Nat) (p3 : Nat) (p4 : Nat) (p5 : Nat) (hp : xH) (lv : xLv) (a0 : Nat) (a2 : Nat) (a3 : Nat) (a4 : Nat) (a5 : Nat) (fa0 : yAt T 10 2 0 a0) (fa2 : yAt T 6 p2 0 a2) (fa3 : yAt T 1 p3 0 a3) (fa4 : yAt T 3 p4 0 a4) (fa5 : yAt T 5 p5 0 a5) (g0 : xG lv 0 = some (.ref a0)) (g1 : xG lv 1 = some (.int l1)) (g2 : xG lv 2 = some (.ref a2)) (g3 : xG lv 3 = some (.ref a3)) (g4 : xG lv 4 = some (.ref a4)) (g5 : xG lv 5 = some (.ref a5)) (hM : cR [0, 1, 2, 3, 4, 5, 6, 7] F ev T S hp) (h : f_X10_fly_104 N S l1 p2 p3 p4 p5 = some (v, S')) : yWE ev.2.1 (xstr ev) (xCalls ev xmi (xprog ev) prim (d + 4)) (pX10_fly ev) (104, lv, [], hp, sz, 0) (ypQ [0, 1, 2, 3, 4, 5, 6, 7] F ev T sz (none) S') := by
  unfold f_X10_fly_104 at h
  refine ye_aload rfl g2 ?_
  refine ye_getf rfl (hM.obj fa2 ⟨rfl, rfl⟩) rfl ?_
  refine ye_if_ge rfl (fun h1 => ?_) (fun h1 => ?_)
  · replace h := yiT h1 h
    refine ye_aload rfl g0 ?_
    refine ye_aload rfl g2 ?_
    obtain ⟨w1, S1, hw1, h⟩ := bS_some h
    obtain ⟨y1, cy1, M1⟩ := (m_X10_aloftAct (d := d + 0) (T := T) N S p2 a0 a2 fa0 fa2 hw1) hp sz hM
    refine ye_callV (As := [.ref a2]) (rest := []) 0 (Or.inl rfl) rfl rfl rfl (Nat.le_of_ble_eq_true rfl) (hM.obj fa0 ⟨rfl, rfl⟩) cy1 ?_
    refine ye_p rfl rfl ?_
    have g0_z1 := xG_o1 (i := 6) (v := .int w1) g0 rfl
    have g1_z1 := xG_o1 (i := 6) (v := .int w1) g1 rfl
    have g2_z1 := xG_o1 (i := 6) (v := .int w1) g2 rfl
    have g3_z1 := xG_o1 (i := 6) (v := .int w1) g3 rfl
    have g4_z1 := xG_o1 (i := 6) (v := .int w1) g4 rfl
    have g5_z1 := xG_o1 (i := 6) (v := .int w1) g5 rfl
    have g6_z1 := xG_same lv 6 (.int w1)
    generalize xSt1 lv 6 (.int w1) = lvz1 at g0_z1 g1_z1 g2_z1 g3_z1 g4_z1 g5_z1 g6_z1 ⊢
    refine ye_aload rfl g3_z1 ?_
    refine ye_aload rfl g0_z1 ?_
    refine ye_getr rfl (M1.obj fa0 ⟨rfl, rfl⟩) rfl (fun cx1 ecx1 => ?_)
    have fcx1 := M1.root 14 0 (by decide) rfl ecx1
    refine ye_getf rfl (M1.obj fcx1 ⟨rfl, rfl⟩) rfl ?_
    obtain ⟨S2, eS2, h⟩ := sq_some h
    refine yw_putI rfl M1 fa3 rfl ⟨rfl, rfl⟩ (Nat.le_of_ble_eq_true rfl) rfl rfl (ys_1_9 ev T _ (S1.1 4 1)) (fun q => absurd q (by decide)) eS2 (fun y2 M2 => ?_)
    refine ye_iload rfl g6_z1 ?_
    refine ye_p rfl rfl ?_
    refine ye_icmp_ne rfl (fun h2 => ?_) (fun h2 => ?_)
    · replace h := yiT h2 h
      exact w_X10_fly_158 (prim := prim) (d := d) N S2 l1 p2 p4 p5 w1 y2 lvz1 a0 a2 a4 a5 fa0 fa2 fa4 fa5 g0_z1 g1_z1 g2_z1 g4_z1 g5_z1 g6_z1 M2 h
    · replace h := yiN h2 h
      refine ye_aload rfl g2_z1 ?_
      refine ye_aload rfl g2_z1 ?_
      refine ye_getf rfl (M2.obj fa2 ⟨rfl, rfl⟩) rfl ?_
      refine ye_if_ne rfl (fun h3 => ?_) (fun h3 => ?_)
      · replace h := yiT h3 h
        refine ye_p rfl rfl ?_
        exact w_X10_fly_155 (prim := prim) (d := d) N S2 l1 p2 p4 p5 w1 p2 0 y2 lvz1 a0 a2 a4 a5 a2 fa0 fa2 fa4 fa5 fa2 g0_z1 g1_z1 g2_z1 g4_z1 g5_z1 g6_z1 M2 h
      · replace h := yiN h3 h
        refine ye_p rfl rfl ?_
        refine ye_p rfl rfl ?_
        exact w_X10_fly_155 (prim := prim) (d := d) N S2 l1 p2 p4 p5 w1 p2 1 y2 lvz1 a0 a2 a4 a5 a2 fa0 fa2 fa4 fa5 fa2 g0_z1 g1_z1 g2_z1 g4_z1 g5_z1 g6_z1 M2 h
  · replace h := yiN h1 h
    exact w_X10_fly_111 (prim := prim) (d := d) N S p2 hp lv a0 a2 fa0 fa2 g0 g2 hM h

def f_X10_fly_0 (N : Nat) (S : yS) (l1 : Int32) : Option (Int32 × yS) := gR (S.2.1 2 4) 8 l1 fun j1 => gR (S.2.1 2 11) 24 (S.1 ((128 + j1)) 17) fun j2 => gR (S.2.1 1 4) 12 (S.1 ((128 + j1)) 9) fun j3 => gR (S.2.1 2 6) 8 (S.1 ((128 + j1)) 16) fun j4 => sq (yI S ((128 + j1)) 5 ((S.1 ((128 + j1)) 5) + 1)) fun S1 => sq (yI S1 ((256 + j4)) 2 ((S1.1 ((256 + j4)) 2) + 1)) fun S2 => sq (yI S2 ((128 + j1)) 15 ((S2.1 ((128 + j1)) 15) - 1)) fun S3 => sq (yI S3 2 14 ((S3.1 2 14) + (S3.1 2 16))) fun S4 => if (S4.1 ((128 + j1)) 7) = 0 then f_X10_fly_104 N S4 l1 ((128 + j1)) ((512 + j2)) ((64 + j3)) ((256 + j4)) else if (S4.1 ((128 + j1)) 5) = (S4.1 ((128 + j1)) 7) then f_X10_fly_111 N S4 ((128 + j1)) else f_X10_fly_104 N S4 l1 ((128 + j1)) ((512 + j2)) ((64 + j3)) ((256 + j4))
set_option maxHeartbeats 4000000 in
set_option maxRecDepth 40000 in
theorem w_X10_fly_0 {F : xH} {ev : xEv} {prim : xRel} {d sz : Nat} {T : yT} {v : Int32} {S' : yS} (N : Nat) (S : yS) (l1 : Int32) (hp : xH) (lv : xLv) (a0 : Nat) (fa0 : yAt T 10 2 0 a0) (g0 : xG lv 0 = some (.ref a0)) (g1 : xG lv 1 = some (.int l1)) (hM : cR [0, 1, 2, 3, 4, 5, 6, 7] F ev T S hp) (h : f_X10_fly_0 N S l1 = some (v, S')) : yWE ev.2.1 (xstr ev) (xCalls ev xmi (xprog ev) prim (d + 4)) (pX10_fly ev) (0, lv, [], hp, sz, 0) (ypQ [0, 1, 2, 3, 4, 5, 6, 7] F ev T sz (none) S') := by
  unfold f_X10_fly_0 at h
  refine ye_aload rfl g0 ?_
  refine ye_getr rfl (hM.obj fa0 ⟨rfl, rfl⟩) rfl (fun cx1 ecx1 => ?_)
  have fcx1 := yAt.row fa0 ecx1
  refine ye_iload rfl g1 ?_
  obtain ⟨j1, ej1, ij1, rj1, h⟩ := gR_some h
  refine ye_aaldR (t := 5) rfl (hM.arr fcx1 yr_10_4) ij1 ej1 rj1 (fun cx2 ecx2 => ?_)
  have fcx2 : yAt T 6 (128 + j1) 0 cx2 := ⟨hM.refd fcx1 yr_10_4 (by decide) rj1, oc_128 (by have := vp_lt ij1; omega), ecx2⟩
  refine ye_p rfl rfl ?_
  have g0_z1 := xG_o1 (i := 2) (v := .ref cx2) g0 rfl
  have g1_z1 := xG_o1 (i := 2) (v := .ref cx2) g1 rfl
  have g2_z1 := xG_same lv 2 (.ref cx2)
  generalize xSt1 lv 2 (.ref cx2) = lvz1 at g0_z1 g1_z1 g2_z1 ⊢
  refine ye_aload rfl g0_z1 ?_
  refine ye_getr rfl (hM.obj fa0 ⟨rfl, rfl⟩) rfl (fun cx3 ecx3 => ?_)
  have fcx3 := yAt.row fa0 ecx3
  refine ye_aload rfl g2_z1 ?_
  refine ye_getf rfl (hM.obj fcx2 ⟨rfl, rfl⟩) rfl ?_
  obtain ⟨j2, ej2, ij2, rj2, h⟩ := gR_some h
  refine ye_aaldR (t := 8) rfl (hM.arr fcx3 yr_10_11) ij2 ej2 rj2 (fun cx4 ecx4 => ?_)
  have fcx4 : yAt T 1 (512 + j2) 0 cx4 := ⟨hM.refd fcx3 yr_10_11 (by decide) rj2, oc_512 (by have := vp_lt ij2; omega), ecx4⟩
  refine ye_p rfl rfl ?_
  have g0_z2 := xG_o1 (i := 3) (v := .ref cx4) g0_z1 rfl
  have g1_z2 := xG_o1 (i := 3) (v := .ref cx4) g1_z1 rfl
  have g2_z2 := xG_o1 (i := 3) (v := .ref cx4) g2_z1 rfl
  have g3_z2 := xG_same lvz1 3 (.ref cx4)
  generalize xSt1 lvz1 3 (.ref cx4) = lvz2 at g0_z2 g1_z2 g2_z2 g3_z2 ⊢
  refine ye_aload rfl g0_z2 ?_
  refine ye_getr rfl (hM.obj fa0 ⟨rfl, rfl⟩) rfl (fun cx5 ecx5 => ?_)
  have fcx5 := hM.root 2 0 (by decide) rfl ecx5
  refine ye_getr rfl (hM.obj fcx5 ⟨rfl, rfl⟩) rfl (fun cx6 ecx6 => ?_)
  have fcx6 := yAt.row fcx5 ecx6
  refine ye_aload rfl g2_z2 ?_
  refine ye_getf rfl (hM.obj fcx2 ⟨rfl, rfl⟩) rfl ?_
  obtain ⟨j3, ej3, ij3, rj3, h⟩ := gR_some h
  refine ye_aaldR (t := 4) rfl (hM.arr fcx6 yr_2_4) ij3 ej3 rj3 (fun cx7 ecx7 => ?_)
  have fcx7 : yAt T 3 (64 + j3) 0 cx7 := ⟨hM.refd fcx6 yr_2_4 (by decide) rj3, oc_64 (by have := vp_lt ij3; omega), ecx7⟩
  refine ye_p rfl rfl ?_
  have g0_z3 := xG_o1 (i := 4) (v := .ref cx7) g0_z2 rfl
  have g1_z3 := xG_o1 (i := 4) (v := .ref cx7) g1_z2 rfl
  have g2_z3 := xG_o1 (i := 4) (v := .ref cx7) g2_z2 rfl
  have g3_z3 := xG_o1 (i := 4) (v := .ref cx7) g3_z2 rfl
  have g4_z3 := xG_same lvz2 4 (.ref cx7)
  generalize xSt1 lvz2 4 (.ref cx7) = lvz3 at g0_z3 g1_z3 g2_z3 g3_z3 g4_z3 ⊢
  refine ye_aload rfl g0_z3 ?_
  refine ye_getr rfl (hM.obj fa0 ⟨rfl, rfl⟩) rfl (fun cx8 ecx8 => ?_)
  have fcx8 := yAt.row fa0 ecx8
  refine ye_aload rfl g2_z3 ?_
  refine ye_getf rfl (hM.obj fcx2 ⟨rfl, rfl⟩) rfl ?_
  obtain ⟨j4, ej4, ij4, rj4, h⟩ := gR_some h
  refine ye_aaldR (t := 6) rfl (hM.arr fcx8 yr_10_6) ij4 ej4 rj4 (fun cx9 ecx9 => ?_)
  have fcx9 : yAt T 5 (256 + j4) 0 cx9 := ⟨hM.refd fcx8 yr_10_6 (by decide) rj4, oc_256 (by have := vp_lt ij4; omega), ecx9⟩
  refine ye_p rfl rfl ?_
  have g0_z4 := xG_o1 (i := 5) (v := .ref cx9) g0_z3 rfl
  have g1_z4 := xG_o1 (i := 5) (v := .ref cx9) g1_z3 rfl
  have g2_z4 := xG_o1 (i := 5) (v := .ref cx9) g2_z3 rfl
  have g3_z4 := xG_o1 (i := 5) (v := .ref cx9) g3_z3 rfl
  have g4_z4 := xG_o1 (i := 5) (v := .ref cx9) g4_z3 rfl
  have g5_z4 := xG_same lvz3 5 (.ref cx9)
  generalize xSt1 lvz3 5 (.ref cx9) = lvz4 at g0_z4 g1_z4 g2_z4 g3_z4 g4_z4 g5_z4 ⊢
  refine ye_aload rfl g2_z4 ?_
  refine ye_p rfl rfl ?_
  refine ye_getf rfl (hM.obj fcx2 ⟨rfl, rfl⟩) rfl ?_
  refine ye_p rfl rfl ?_
  refine ye_p rfl rfl ?_
  obtain ⟨S1, eS1, h⟩ := sq_some h
  refine yw_putI rfl hM fcx2 rfl ⟨rfl, rfl⟩ (Nat.le_of_ble_eq_true rfl) rfl rfl (ys_6_5 ev T _ ((S.1 ((128 + j1)) 5) + 1)) (fun q => absurd q (by decide)) eS1 (fun y1 M1 => ?_)
  refine ye_aload rfl g5_z4 ?_
  refine ye_p rfl rfl ?_
  refine ye_getf rfl (M1.obj fcx9 ⟨rfl, rfl⟩) rfl ?_
  refine ye_p rfl rfl ?_
  refine ye_p rfl rfl ?_
  obtain ⟨S2, eS2, h⟩ := sq_some h
  refine yw_putI rfl M1 fcx9 rfl ⟨rfl, rfl⟩ (Nat.le_of_ble_eq_true rfl) rfl rfl (ys_5_2 ev T _ ((S1.1 ((256 + j4)) 2) + 1)) (fun q => absurd q (by decide)) eS2 (fun y2 M2 => ?_)
  refine ye_aload rfl g2_z4 ?_
  refine ye_p rfl rfl ?_
  refine ye_getf rfl (M2.obj fcx2 ⟨rfl, rfl⟩) rfl ?_
  refine ye_p rfl rfl ?_
  refine ye_p rfl rfl ?_
  obtain ⟨S3, eS3, h⟩ := sq_some h
  refine yw_putI rfl M2 fcx2 rfl ⟨rfl, rfl⟩ (Nat.le_of_ble_eq_true rfl) rfl rfl (ys_6_15 ev T _ ((S2.1 ((128 + j1)) 15) - 1)) (fun q => absurd q (by decide)) eS3 (fun y3 M3 => ?_)
  refine ye_aload rfl g0_z4 ?_
  refine ye_p rfl rfl ?_
  refine ye_getf rfl (M3.obj fa0 ⟨rfl, rfl⟩) rfl ?_
  refine ye_aload rfl g0_z4 ?_
  refine ye_getf rfl (M3.obj fa0 ⟨rfl, rfl⟩) rfl ?_
  refine ye_p rfl rfl ?_
  obtain ⟨S4, eS4, h⟩ := sq_some h
  refine yw_putI rfl M3 fa0 rfl ⟨rfl, rfl⟩ (Nat.le_of_ble_eq_true rfl) rfl rfl (ys_10_14 ev T _ ((S3.1 2 14) + (S3.1 2 16))) (fun q => absurd q (by decide)) eS4 (fun y4 M4 => ?_)
  refine ye_aload rfl g2_z4 ?_
  refine ye_getf rfl (M4.obj fcx2 ⟨rfl, rfl⟩) rfl ?_
  refine ye_if_eq rfl (fun h1 => ?_) (fun h1 => ?_)
  · replace h := yiT h1 h
    exact w_X10_fly_104 (prim := prim) (d := d) N S4 l1 ((128 + j1)) ((512 + j2)) ((64 + j3)) ((256 + j4)) y4 lvz4 a0 cx2 cx4 cx7 cx9 fa0 fcx2 fcx4 fcx7 fcx9 g0_z4 g1_z4 g2_z4 g3_z4 g4_z4 g5_z4 M4 h
  · replace h := yiN h1 h
    refine ye_aload rfl g2_z4 ?_
    refine ye_getf rfl (M4.obj fcx2 ⟨rfl, rfl⟩) rfl ?_
    refine ye_aload rfl g2_z4 ?_
    refine ye_getf rfl (M4.obj fcx2 ⟨rfl, rfl⟩) rfl ?_
    refine ye_icmp_eq rfl (fun h2 => ?_) (fun h2 => ?_)
    · replace h := yiT h2 h
      exact w_X10_fly_111 (prim := prim) (d := d) N S4 ((128 + j1)) y4 lvz4 a0 cx2 fa0 fcx2 g0_z4 g2_z4 M4 h
    · replace h := yiN h2 h
      exact w_X10_fly_104 (prim := prim) (d := d) N S4 l1 ((128 + j1)) ((512 + j2)) ((64 + j3)) ((256 + j4)) y4 lvz4 a0 cx2 cx4 cx7 cx9 fa0 fcx2 fcx4 fcx7 fcx9 g0_z4 g1_z4 g2_z4 g3_z4 g4_z4 g5_z4 M4 h
def f_X10_fly (N : Nat) (S : yS) (xl1 : Int32) : Option (Int32 × yS) := f_X10_fly_0 N S xl1
theorem m_X10_fly {F : xH} {ev : xEv} {prim : xRel} {d : Nat} {T : yT} {v : Int32} {S' : yS} (N : Nat) (S : yS) (xl1 : Int32) (a0 : Nat) (fa0 : yAt T 10 2 0 a0) (h : f_X10_fly N S xl1 = some (v, S')) : ykQ [0, 1, 2, 3, 4, 5, 6, 7] F ev prim (d + 5) 109 T S [.ref a0, .int xl1] (none) S' :=
  ykQ.of (pg_109 ev) mi_109 (Nat.le_of_ble_eq_true rfl) (fun hp sz hM => w_X10_fly_0 (prim := prim) (d := d) N S xl1 hp _ a0 fa0 rfl rfl hM h)

def f_X10_payByDay_32 (N : Nat) (S : yS) (t0 : Int32) : Option (Int32 × yS) := some (t0, S)
set_option maxHeartbeats 4000000 in
set_option maxRecDepth 40000 in
theorem w_X10_payByDay_32 {F : xH} {ev : xEv} {prim : xRel} {d sz : Nat} {T : yT} {v : Int32} {S' : yS} (N : Nat) (S : yS) (t0 : Int32) (hp : xH) (lv : xLv) (hM : cR [0, 1, 2, 3, 4, 5, 6, 7] F ev T S hp) (h : f_X10_payByDay_32 N S t0 = some (v, S')) : yWE ev.2.1 (xstr ev) (xCalls ev xmi (xprog ev) prim (d + 4)) (pX10_payByDay ev) (32, lv, [.int t0], hp, sz, 0) (ypQ [0, 1, 2, 3, 4, 5, 6, 7] F ev T sz (some (.int v)) S') := by
  unfold f_X10_payByDay_32 at h
  exact ye_ret rfl rfl (rQ h hM)

def f_X10_payByDay_0 (N : Nat) (S : yS) (p1 : Nat) : Option (Int32 × yS) := if ¬ (S.1 p1 8) = ((-1)) then bV (f_X8l_inForce N S 2 ((S.1 p1 8) / 96)) fun w1 => bS (f_X10_payBy N S w1 p1) fun w2 S1 => f_X10_payByDay_32 N S1 w2 else f_X10_payByDay_32 N S 0
set_option maxHeartbeats 4000000 in
set_option maxRecDepth 40000 in
theorem w_X10_payByDay_0 {F : xH} {ev : xEv} {prim : xRel} {d sz : Nat} {T : yT} {v : Int32} {S' : yS} (N : Nat) (S : yS) (p1 : Nat) (hp : xH) (lv : xLv) (a0 : Nat) (a1 : Nat) (fa0 : yAt T 10 2 0 a0) (fa1 : yAt T 0 p1 0 a1) (g0 : xG lv 0 = some (.ref a0)) (g1 : xG lv 1 = some (.ref a1)) (hM : cR [0, 1, 2, 3, 4, 5, 6, 7] F ev T S hp) (h : f_X10_payByDay_0 N S p1 = some (v, S')) : yWE ev.2.1 (xstr ev) (xCalls ev xmi (xprog ev) prim (d + 4)) (pX10_payByDay ev) (0, lv, [], hp, sz, 0) (ypQ [0, 1, 2, 3, 4, 5, 6, 7] F ev T sz (some (.int v)) S') := by
  unfold f_X10_payByDay_0 at h
  refine ye_aload rfl g1 ?_
  refine ye_getf rfl (hM.obj fa1 ⟨rfl, rfl⟩) rfl ?_
  refine ye_p rfl rfl ?_
  refine ye_icmp_ne rfl (fun h1 => ?_) (fun h1 => ?_)
  · replace h := yiT h1 h
    refine ye_aload rfl g0 ?_
    refine ye_aload rfl g0 ?_
    refine ye_getr rfl (hM.obj fa0 ⟨rfl, rfl⟩) rfl (fun cx1 ecx1 => ?_)
    have fcx1 := hM.root 8 0 (by decide) rfl ecx1
    refine ye_p rfl rfl ?_
    refine ye_aload rfl g1 ?_
    refine ye_getf rfl (hM.obj fa1 ⟨rfl, rfl⟩) rfl ?_
    refine ye_p rfl rfl ?_
    refine ye_div rfl (by decide) ?_
    obtain ⟨w1, hw1, h⟩ := bV_some h
    refine ye_callV (As := [.int 2, .int ((S.1 p1 8) / 96)]) (rest := [.ref a0]) 0 (Or.inl rfl) rfl rfl rfl (Nat.le_of_ble_eq_true rfl) (hM.obj fcx1 ⟨rfl, rfl⟩) ((m_X8l_inForce (d := d + 3) (T := T) N S 2 ((S.1 p1 8) / 96) cx1 fcx1 hw1) hp sz hM) ?_
    refine ye_aload rfl g1 ?_
    obtain ⟨w2, S1, hw2, h⟩ := bS_some h
    obtain ⟨y1, cy1, M1⟩ := (m_X10_payBy (d := d + 0) (T := T) N S w1 p1 a0 a1 fa0 fa1 hw2) hp sz hM
    refine ye_callV (As := [.int w1, .ref a1]) (rest := []) 0 (Or.inl rfl) rfl rfl rfl (Nat.le_of_ble_eq_true rfl) (hM.obj fa0 ⟨rfl, rfl⟩) cy1 ?_
    exact w_X10_payByDay_32 (prim := prim) (d := d) N S1 w2 y1 lv M1 h
  · replace h := yiN h1 h
    refine ye_p rfl rfl ?_
    refine ye_p rfl rfl ?_
    exact w_X10_payByDay_32 (prim := prim) (d := d) N S 0 hp lv hM h
def f_X10_payByDay (N : Nat) (S : yS) (xp1 : Nat) : Option (Int32 × yS) := f_X10_payByDay_0 N S xp1
theorem m_X10_payByDay {F : xH} {ev : xEv} {prim : xRel} {d : Nat} {T : yT} {v : Int32} {S' : yS} (N : Nat) (S : yS) (xp1 : Nat) (a0 : Nat) (a1 : Nat) (fa0 : yAt T 10 2 0 a0) (fa1 : yAt T 0 xp1 0 a1) (h : f_X10_payByDay N S xp1 = some (v, S')) : ykQ [0, 1, 2, 3, 4, 5, 6, 7] F ev prim (d + 5) 121 T S [.ref a0, .ref a1] (some (.int v)) S' :=
  ykQ.of (pg_121 ev) mi_121 (Nat.le_of_ble_eq_true rfl) (fun hp sz hM => w_X10_payByDay_0 (prim := prim) (d := d) N S xp1 hp _ a0 a1 fa0 fa1 rfl rfl hM h)
