
def f_X11_where_104 (N : Nat) (S : yS) (t0 : Int32) : Option (Option Int32 × yS) := some (some t0, S)
set_option maxHeartbeats 4000000 in
set_option maxRecDepth 40000 in
theorem w_X11_where_104 {F : xH} {ev : xEv} {prim : xRel} {d sz : Nat} {T : yT} {v : Option Int32} {S' : yS} (N : Nat) (S : yS) (t0 : Int32) (hp : xH) (lv : xLv) (hM : cR [0, 1, 2, 3, 4, 5, 6, 7] F ev T S hp) (h : f_X11_where_104 N S t0 = some (v, S')) : yWE ev.2.1 (xstr ev) (xCalls ev xmi (xprog ev) prim (d + 5)) (pX11_where ev) (104, lv, [.int t0], hp, sz, 0) (ypT [0, 1, 2, 3, 4, 5, 6, 7] F ev T sz [8, 114] (vI v) S') := by
  unfold f_X11_where_104 at h
  exact ye_ret rfl rfl (rT h hM)

def f_X11_where_0 (N : Nat) (S : yS) (l1 : Int32) (l2 : Int32) : Option (Option Int32 × yS) := bV (f_X11_isBag N S l1) fun w1 => if ¬ w1 = 0 then gR (S.2.1 2 8) 30 l1 fun j1 => if l2 = 0 then some (some (S.1 ((384 + j1)) 5), S) else if l2 = 1 then some (some (S.1 ((384 + j1)) 6), S) else if l2 = 2 then some (some (S.1 ((384 + j1)) 7), S) else if l2 = 3 then some (some (S.1 ((384 + j1)) 8), S) else if l2 = 4 then if ¬ (S.1 ((384 + j1)) 8) = ((-1)) then bV (f_X0_late N S ((384 + j1))) fun w2 => f_X11_where_104 N S w2 else f_X11_where_104 N S ((-1)) else if l2 = 5 then bS (f_X10_payByDay N S ((384 + j1))) fun w3 S1 => some (some w3, S1) else some (none, S) else some (none, S)
set_option maxHeartbeats 4000000 in
set_option maxRecDepth 40000 in
theorem w_X11_where_0 {F : xH} {ev : xEv} {prim : xRel} {d sz : Nat} {T : yT} {v : Option Int32} {S' : yS} (N : Nat) (S : yS) (l1 : Int32) (l2 : Int32) (hp : xH) (lv : xLv) (a0 : Nat) (fa0 : yAt T 11 0 0 a0) (g0 : xG lv 0 = some (.ref a0)) (g1 : xG lv 1 = some (.int l1)) (g2 : xG lv 2 = some (.int l2)) (hM : cR [0, 1, 2, 3, 4, 5, 6, 7] F ev T S hp) (h : f_X11_where_0 N S l1 l2 = some (v, S')) : yWE ev.2.1 (xstr ev) (xCalls ev xmi (xprog ev) prim (d + 5)) (pX11_where ev) (0, lv, [], hp, sz, 0) (ypT [0, 1, 2, 3, 4, 5, 6, 7] F ev T sz [8, 114] (vI v) S') := by
  unfold f_X11_where_0 at h
  refine ye_aload rfl g0 ?_
  refine ye_iload rfl g1 ?_
  obtain ⟨w1, hw1, h⟩ := bV_some h
  refine ye_callV (As := [.int l1]) (rest := []) 0 (Or.inl rfl) rfl rfl rfl (Nat.le_of_ble_eq_true rfl) (hM.obj fa0 ⟨rfl, rfl⟩) ((m_X11_isBag (d := d + 3) (T := T) N S l1 a0 fa0 hw1) hp sz hM) ?_
  refine ye_if_ne rfl (fun h1 => ?_) (fun h1 => ?_)
  · replace h := yiT h1 h
    refine ye_aload rfl g0 ?_
    refine ye_getr rfl (hM.obj fa0 ⟨rfl, rfl⟩) rfl (fun cx1 ecx1 => ?_)
    have fcx1 := hM.root 10 0 (by decide) rfl ecx1
    refine ye_getr rfl (hM.obj fcx1 ⟨rfl, rfl⟩) rfl (fun cx2 ecx2 => ?_)
    have fcx2 := yAt.row fcx1 ecx2
    refine ye_iload rfl g1 ?_
    obtain ⟨j1, ej1, ij1, rj1, h⟩ := gR_some h
    refine ye_aaldR (t := 7) rfl (hM.arr fcx2 yr_10_8) ij1 ej1 rj1 (fun cx3 ecx3 => ?_)
    have fcx3 : yAt T 0 (384 + j1) 0 cx3 := ⟨hM.refd fcx2 yr_10_8 (by decide) rj1, oc_384 (by have := vp_lt ij1; omega), ecx3⟩
    refine ye_p rfl rfl ?_
    have g0_z1 := xG_o1 (i := 3) (v := .ref cx3) g0 rfl
    have g2_z1 := xG_o1 (i := 3) (v := .ref cx3) g2 rfl
    have g3_z1 := xG_same lv 3 (.ref cx3)
    generalize xSt1 lv 3 (.ref cx3) = lvz1 at g0_z1 g2_z1 g3_z1 ⊢
    refine ye_iload rfl g2_z1 ?_
    by_cases h2 : l2 = 0
    · replace h := yiT h2 h
      refine ye_sw rfl (show _ = 68 from by rw [h2]; rfl) ?_
      refine ye_aload rfl g3_z1 ?_
      refine ye_getf rfl (hM.obj fcx3 ⟨rfl, rfl⟩) rfl ?_
      exact ye_ret rfl rfl (rT h hM)
    · replace h := yiN h2 h
      by_cases h3 : l2 = 1
      · replace h := yiT h3 h
        refine ye_sw rfl (show _ = 73 from by rw [h3]; rfl) ?_
        refine ye_aload rfl g3_z1 ?_
        refine ye_getf rfl (hM.obj fcx3 ⟨rfl, rfl⟩) rfl ?_
        exact ye_ret rfl rfl (rT h hM)
      · replace h := yiN h3 h
        by_cases h4 : l2 = 2
        · replace h := yiT h4 h
          refine ye_sw rfl (show _ = 78 from by rw [h4]; rfl) ?_
          refine ye_aload rfl g3_z1 ?_
          refine ye_getf rfl (hM.obj fcx3 ⟨rfl, rfl⟩) rfl ?_
          exact ye_ret rfl rfl (rT h hM)
        · replace h := yiN h4 h
          by_cases h5 : l2 = 3
          · replace h := yiT h5 h
            refine ye_sw rfl (show _ = 83 from by rw [h5]; rfl) ?_
            refine ye_aload rfl g3_z1 ?_
            refine ye_getf rfl (hM.obj fcx3 ⟨rfl, rfl⟩) rfl ?_
            exact ye_ret rfl rfl (rT h hM)
          · replace h := yiN h5 h
            by_cases h6 : l2 = 4
            · replace h := yiT h6 h
              refine ye_sw rfl (show _ = 88 from by rw [h6]; rfl) ?_
              refine ye_aload rfl g3_z1 ?_
              refine ye_getf rfl (hM.obj fcx3 ⟨rfl, rfl⟩) rfl ?_
              refine ye_p rfl rfl ?_
              refine ye_icmp_ne rfl (fun h7 => ?_) (fun h7 => ?_)
              · replace h := yiT h7 h
                refine ye_aload rfl g3_z1 ?_
                obtain ⟨w2, hw2, h⟩ := bV_some h
                refine ye_callV (As := []) (rest := []) 0 (Or.inl rfl) rfl rfl rfl (Nat.le_of_ble_eq_true rfl) (hM.obj fcx3 ⟨rfl, rfl⟩) ((m_X0_late (d := d + 4) (T := T) N S ((384 + j1)) cx3 fcx3 hw2) hp sz hM) ?_
                exact w_X11_where_104 (prim := prim) (d := d) N S w2 hp lvz1 hM h
              · replace h := yiN h7 h
                refine ye_p rfl rfl ?_
                refine ye_p rfl rfl ?_
                exact w_X11_where_104 (prim := prim) (d := d) N S ((-1)) hp lvz1 hM h
            · replace h := yiN h6 h
              by_cases h8 : l2 = 5
              · replace h := yiT h8 h
                refine ye_sw rfl (show _ = 105 from by rw [h8]; rfl) ?_
                refine ye_aload rfl g0_z1 ?_
                refine ye_getr rfl (hM.obj fa0 ⟨rfl, rfl⟩) rfl (fun cx4 ecx4 => ?_)
                have fcx4 := hM.root 10 0 (by decide) rfl ecx4
                refine ye_aload rfl g3_z1 ?_
                obtain ⟨w3, S1, hw3, h⟩ := bS_some h
                obtain ⟨y1, cy1, M1⟩ := (m_X10_payByDay (d := d + 0) (T := T) N S ((384 + j1)) cx4 cx3 fcx4 fcx3 hw3) hp sz hM
                refine ye_callV (As := [.ref cx3]) (rest := []) 0 (Or.inl rfl) rfl rfl rfl (Nat.le_of_ble_eq_true rfl) (hM.obj fcx4 ⟨rfl, rfl⟩) cy1 ?_
                exact ye_ret rfl rfl (rT h M1)
              · replace h := yiN h8 h
                refine ye_sw rfl (show _ = 114 from xtsw_neg h2 (by decide) (xtsw_neg h3 (by decide) (xtsw_neg h4 (by decide) (xtsw_neg h5 (by decide) (xtsw_neg h6 (by decide) (xtsw_neg h8 (by decide) (xtsw_nil))))))) ?_
                exact ye_stop (rX h (by decide) hM)
  · replace h := yiN h1 h
    exact ye_stop (rX h (by decide) hM)
def f_X11_where (N : Nat) (S : yS) (xl1 : Int32) (xl2 : Int32) : Option (Option Int32 × yS) := f_X11_where_0 N S xl1 xl2
theorem m_X11_where {F : xH} {ev : xEv} {prim : xRel} {d : Nat} {T : yT} {v : Option Int32} {S' : yS} (N : Nat) (S : yS) (xl1 : Int32) (xl2 : Int32) (a0 : Nat) (fa0 : yAt T 11 0 0 a0) (h : f_X11_where N S xl1 xl2 = some (v, S')) : ∀ (hp : xH) (sz : Nat), cR [0, 1, 2, 3, 4, 5, 6, 7] F ev T S hp → yWE ev.2.1 (xstr ev) (xCalls ev xmi (xprog ev) prim (d + 5)) (pX11_where ev) (0, lv_args 0 [.ref a0, .int xl1, .int xl2], [], hp, sz, 0) (ypT [0, 1, 2, 3, 4, 5, 6, 7] F ev T sz [8, 114] (vI v) S') :=
  fun hp sz hM => w_X11_where_0 (prim := prim) (d := d) N S xl1 xl2 hp _ a0 fa0 rfl rfl rfl hM h

def f_X4_takes_54 (N : Nat) (S : yS) (t0 : Int32) : Option (Int32 × yS) := gP (t0 = 0 ∨ t0 = 1) (some (t0, S))
set_option maxHeartbeats 4000000 in
set_option maxRecDepth 40000 in
theorem w_X4_takes_54 {F : xH} {ev : xEv} {prim : xRel} {d sz : Nat} {T : yT} {v : Int32} {S' : yS} (N : Nat) (S : yS) (t0 : Int32) (hp : xH) (lv : xLv) (hM : cR [0, 1, 2, 3, 4, 5, 6, 7] F ev T S hp) (h : f_X4_takes_54 N S t0 = some (v, S')) : yWE ev.2.1 (xstr ev) (xCalls ev xmi (xprog ev) prim (d + 5)) (pX4_takes ev) (54, lv, [.int t0], hp, sz, 0) (ypQ [0, 1, 2, 3, 4, 5, 6, 7] F ev T sz (some (.int v)) S') := by
  unfold f_X4_takes_54 at h
  obtain ⟨i1, h⟩ := gP_some h
  exact ye_ret rfl (if_pos (zb_nar i1)) (rQ h hM)

def f_X4_takes_89 (N : Nat) (S : yS) (t0 : Int32) : Option (Int32 × yS) := gP (t0 = 0 ∨ t0 = 1) (some (t0, S))
set_option maxHeartbeats 4000000 in
set_option maxRecDepth 40000 in
theorem w_X4_takes_89 {F : xH} {ev : xEv} {prim : xRel} {d sz : Nat} {T : yT} {v : Int32} {S' : yS} (N : Nat) (S : yS) (t0 : Int32) (hp : xH) (lv : xLv) (hM : cR [0, 1, 2, 3, 4, 5, 6, 7] F ev T S hp) (h : f_X4_takes_89 N S t0 = some (v, S')) : yWE ev.2.1 (xstr ev) (xCalls ev xmi (xprog ev) prim (d + 5)) (pX4_takes ev) (89, lv, [.int t0], hp, sz, 0) (ypQ [0, 1, 2, 3, 4, 5, 6, 7] F ev T sz (some (.int v)) S') := by
  unfold f_X4_takes_89 at h
  obtain ⟨i1, h⟩ := gP_some h
  exact ye_ret rfl (if_pos (zb_nar i1)) (rQ h hM)

def f_X4_takes_0 (N : Nat) (S : yS) (l1 : Int32) : Option (Int32 × yS) := if S.1 7 9 = 0 then if ¬ l1 = 58 then bS (f_X4_takesThing N S l1) fun w1 S1 => f_X4_takes_54 N S1 w1 else bS (f_X4_takesEmptyCondition N S) fun w2 S2 => f_X4_takes_54 N S2 w2 else if S.1 7 9 = 1 then bS (f_X4_takesThing N S l1) fun w3 S3 => gP (w3 = 0 ∨ w3 = 1) (some (w3, S3)) else if S.1 7 9 = 2 then bS (f_X4_takesBehindThing N S l1) fun w4 S4 => gP (w4 = 0 ∨ w4 = 1) (some (w4, S4)) else if S.1 7 9 = 3 then bS (f_X4_takesAct N S l1) fun w5 S5 => gP (w5 = 0 ∨ w5 = 1) (some (w5, S5)) else sq (yI S 7 9 0) fun S6 => if ¬ l1 = 59 then f_X4_takes_89 N S6 0 else f_X4_takes_89 N S6 1
set_option maxHeartbeats 4000000 in
set_option maxRecDepth 40000 in
theorem w_X4_takes_0 {F : xH} {ev : xEv} {prim : xRel} {d sz : Nat} {T : yT} {v : Int32} {S' : yS} (N : Nat) (S : yS) (l1 : Int32) (hp : xH) (lv : xLv) (a0 : Nat) (fa0 : yAt T 4 7 0 a0) (g0 : xG lv 0 = some (.ref a0)) (g1 : xG lv 1 = some (.int l1)) (hM : cR [0, 1, 2, 3, 4, 5, 6, 7] F ev T S hp) (h : f_X4_takes_0 N S l1 = some (v, S')) : yWE ev.2.1 (xstr ev) (xCalls ev xmi (xprog ev) prim (d + 5)) (pX4_takes ev) (0, lv, [], hp, sz, 0) (ypQ [0, 1, 2, 3, 4, 5, 6, 7] F ev T sz (some (.int v)) S') := by
  unfold f_X4_takes_0 at h
  refine ye_aload rfl g0 ?_
  refine ye_getf rfl (hM.obj fa0 ⟨rfl, rfl⟩) rfl ?_
  by_cases h1 : S.1 7 9 = 0
  · replace h := yiT h1 h
    refine ye_sw rfl (show _ = 36 from by rw [h1]; rfl) ?_
    refine ye_iload rfl g1 ?_
    refine ye_p rfl rfl ?_
    refine ye_icmp_ne rfl (fun h2 => ?_) (fun h2 => ?_)
    · replace h := yiT h2 h
      refine ye_aload rfl g0 ?_
      refine ye_iload rfl g1 ?_
      obtain ⟨w1, S1, hw1, h⟩ := bS_some h
      obtain ⟨y1, cy1, M1⟩ := (m_X4_takesThing (d := d + 0) (T := T) N S l1 a0 fa0 hw1) hp sz hM
      refine ye_callV (As := [.int l1]) (rest := []) 0 (Or.inl rfl) rfl rfl rfl (Nat.le_of_ble_eq_true rfl) (hM.obj fa0 ⟨rfl, rfl⟩) cy1 ?_
      exact w_X4_takes_54 (prim := prim) (d := d) N S1 w1 y1 lv M1 h
    · replace h := yiN h2 h
      refine ye_aload rfl g0 ?_
      obtain ⟨w2, S2, hw2, h⟩ := bS_some h
      obtain ⟨y2, cy2, M2⟩ := (m_X4_takesEmptyCondition (d := d + 3) (T := T) N S a0 fa0 hw2) hp sz hM
      refine ye_callV (As := []) (rest := []) 0 (Or.inl rfl) rfl rfl rfl (Nat.le_of_ble_eq_true rfl) (hM.obj fa0 ⟨rfl, rfl⟩) cy2 ?_
      refine ye_p rfl rfl ?_
      exact w_X4_takes_54 (prim := prim) (d := d) N S2 w2 y2 lv M2 h
  · replace h := yiN h1 h
    by_cases h3 : S.1 7 9 = 1
    · replace h := yiT h3 h
      refine ye_sw rfl (show _ = 55 from by rw [h3]; rfl) ?_
      refine ye_aload rfl g0 ?_
      refine ye_iload rfl g1 ?_
      obtain ⟨w3, S3, hw3, h⟩ := bS_some h
      obtain ⟨y3, cy3, M3⟩ := (m_X4_takesThing (d := d + 0) (T := T) N S l1 a0 fa0 hw3) hp sz hM
      refine ye_callV (As := [.int l1]) (rest := []) 0 (Or.inl rfl) rfl rfl rfl (Nat.le_of_ble_eq_true rfl) (hM.obj fa0 ⟨rfl, rfl⟩) cy3 ?_
      obtain ⟨i1, h⟩ := gP_some h
      exact ye_ret rfl (if_pos (zb_nar i1)) (rQ h M3)
    · replace h := yiN h3 h
      by_cases h4 : S.1 7 9 = 2
      · replace h := yiT h4 h
        refine ye_sw rfl (show _ = 61 from by rw [h4]; rfl) ?_
        refine ye_aload rfl g0 ?_
        refine ye_iload rfl g1 ?_
        obtain ⟨w4, S4, hw4, h⟩ := bS_some h
        obtain ⟨y4, cy4, M4⟩ := (m_X4_takesBehindThing (d := d + 1) (T := T) N S l1 a0 fa0 hw4) hp sz hM
        refine ye_callV (As := [.int l1]) (rest := []) 0 (Or.inl rfl) rfl rfl rfl (Nat.le_of_ble_eq_true rfl) (hM.obj fa0 ⟨rfl, rfl⟩) cy4 ?_
        obtain ⟨i2, h⟩ := gP_some h
        exact ye_ret rfl (if_pos (zb_nar i2)) (rQ h M4)
      · replace h := yiN h4 h
        by_cases h5 : S.1 7 9 = 3
        · replace h := yiT h5 h
          refine ye_sw rfl (show _ = 67 from by rw [h5]; rfl) ?_
          refine ye_aload rfl g0 ?_
          refine ye_iload rfl g1 ?_
          obtain ⟨w5, S5, hw5, h⟩ := bS_some h
          obtain ⟨y5, cy5, M5⟩ := (m_X4_takesAct (d := d + 0) (T := T) N S l1 a0 fa0 hw5) hp sz hM
          refine ye_callV (As := [.int l1]) (rest := []) 0 (Or.inl rfl) rfl rfl rfl (Nat.le_of_ble_eq_true rfl) (hM.obj fa0 ⟨rfl, rfl⟩) cy5 ?_
          obtain ⟨i3, h⟩ := gP_some h
          exact ye_ret rfl (if_pos (zb_nar i3)) (rQ h M5)
        · replace h := yiN h5 h
          refine ye_sw rfl (show _ = 73 from xtsw_neg h1 (by decide) (xtsw_neg h3 (by decide) (xtsw_neg h4 (by decide) (xtsw_neg h5 (by decide) (xtsw_nil))))) ?_
          refine ye_aload rfl g0 ?_
          refine ye_p rfl rfl ?_
          obtain ⟨S6, eS6, h⟩ := sq_some h
          refine yw_putI rfl hM fa0 rfl ⟨rfl, rfl⟩ (Nat.le_of_ble_eq_true rfl) rfl rfl (ys_4_9 ev T _ 0) (fun q => absurd q (by decide)) eS6 (fun y6 M6 => ?_)
          refine ye_iload rfl g1 ?_
          refine ye_p rfl rfl ?_
          refine ye_icmp_ne rfl (fun h6 => ?_) (fun h6 => ?_)
          · replace h := yiT h6 h
            refine ye_p rfl rfl ?_
            exact w_X4_takes_89 (prim := prim) (d := d) N S6 0 y6 lv M6 h
          · replace h := yiN h6 h
            refine ye_p rfl rfl ?_
            refine ye_p rfl rfl ?_
            exact w_X4_takes_89 (prim := prim) (d := d) N S6 1 y6 lv M6 h
def f_X4_takes (N : Nat) (S : yS) (xl1 : Int32) : Option (Int32 × yS) := f_X4_takes_0 N S xl1
theorem m_X4_takes {F : xH} {ev : xEv} {prim : xRel} {d : Nat} {T : yT} {v : Int32} {S' : yS} (N : Nat) (S : yS) (xl1 : Int32) (a0 : Nat) (fa0 : yAt T 4 7 0 a0) (h : f_X4_takes N S xl1 = some (v, S')) : ykQ [0, 1, 2, 3, 4, 5, 6, 7] F ev prim (d + 6) 45 T S [.ref a0, .int xl1] (some (.int v)) S' :=
  ykQ.of (pg_45 ev) mi_45 (Nat.le_of_ble_eq_true rfl) (fun hp sz hM => w_X4_takes_0 (prim := prim) (d := d) N S xl1 hp _ a0 fa0 rfl rfl hM h)

def f_X10_pass_92 (N : Nat) (k9 : yS → Int32 → Int32 → Int32 → Option (Int32 × yS)) (k47 : yS → Int32 → Int32 → Int32 → Int32 → Option (Int32 × yS)) (S : yS) (l1 : Int32) (l2 : Int32) (l3 : Int32) (l4 : Int32) : Option (Int32 × yS) := k47 S l1 l2 l3 (l4 + 1)
set_option maxHeartbeats 4000000 in
set_option maxRecDepth 40000 in
theorem w_X10_pass_92 {F : xH} {ev : xEv} {prim : xRel} {d sz : Nat} {T : yT} {v : Int32} {S' : yS} (N : Nat) (k9 : yS → Int32 → Int32 → Int32 → Option (Int32 × yS)) (k47 : yS → Int32 → Int32 → Int32 → Int32 → Option (Int32 × yS)) (u9 : ∀ (S : yS) (l1 : Int32) (l2 : Int32) (l3 : Int32) (hp : xH) (lv : xLv) (a0 : Nat) (fa0 : yAt T 10 2 0 a0) (g0 : xG lv 0 = some (.ref a0)) (g1 : xG lv 1 = some (.int l1)) (g2 : xG lv 2 = some (.int l2)) (g3 : xG lv 3 = some (.int l3)) (hM : cR [0, 1, 2, 3, 4, 5, 6, 7] F ev T S hp) (h : k9 S l1 l2 l3 = some (v, S')), yWE ev.2.1 (xstr ev) (xCalls ev xmi (xprog ev) prim (d + 5)) (pX10_pass ev) (9, lv, [], hp, sz, 0) (ypQ [0, 1, 2, 3, 4, 5, 6, 7] F ev T sz (none) S')) (u47 : ∀ (S : yS) (l1 : Int32) (l2 : Int32) (l3 : Int32) (l4 : Int32) (hp : xH) (lv : xLv) (a0 : Nat) (fa0 : yAt T 10 2 0 a0) (g0 : xG lv 0 = some (.ref a0)) (g1 : xG lv 1 = some (.int l1)) (g2 : xG lv 2 = some (.int l2)) (g3 : xG lv 3 = some (.int l3)) (g4 : xG lv 4 = some (.int l4)) (hM : cR [0, 1, 2, 3, 4, 5, 6, 7] F ev T S hp) (h : k47 S l1 l2 l3 l4 = some (v, S')), yWE ev.2.1 (xstr ev) (xCalls ev xmi (xprog ev) prim (d + 5)) (pX10_pass ev) (47, lv, [], hp, sz, 0) (ypQ [0, 1, 2, 3, 4, 5, 6, 7] F ev T sz (none) S')) (S : yS) (l1 : Int32) (l2 : Int32) (l3 : Int32) (l4 : Int32) (hp : xH) (lv : xLv) (a0 : Nat) (fa0 : yAt T 10 2 0 a0) (g0 : xG lv 0 = some (.ref a0)) (g1 : xG lv 1 = some (.int l1)) (g2 : xG lv 2 = some (.int l2)) (g3 : xG lv 3 = some (.int l3)) (g4 : xG lv 4 = some (.int l4)) (hM : cR [0, 1, 2, 3, 4, 5, 6, 7] F ev T S hp) (h : f_X10_pass_92 N k9 k47 S l1 l2 l3 l4 = some (v, S')) : yWE ev.2.1 (xstr ev) (xCalls ev xmi (xprog ev) prim (d + 5)) (pX10_pass ev) (92, lv, [], hp, sz, 0) (ypQ [0, 1, 2, 3, 4, 5, 6, 7] F ev T sz (none) S') := by
  unfold f_X10_pass_92 at h
  refine ye_iinc rfl g4 ?_
  have g0_z1 := xG_o1 (i := 4) (v := .int (l4 + 1)) g0 rfl
  have g1_z1 := xG_o1 (i := 4) (v := .int (l4 + 1)) g1 rfl
  have g2_z1 := xG_o1 (i := 4) (v := .int (l4 + 1)) g2 rfl
  have g3_z1 := xG_o1 (i := 4) (v := .int (l4 + 1)) g3 rfl
  have g4_z1 := xG_same lv 4 (.int (l4 + 1))
  generalize xSt1 lv 4 (.int (l4 + 1)) = lvz1 at g0_z1 g1_z1 g2_z1 g3_z1 g4_z1 ⊢
  refine ye_p rfl rfl ?_
  exact u47 S l1 l2 l3 (l4 + 1) hp lvz1 a0 fa0 g0_z1 g1_z1 g2_z1 g3_z1 g4_z1 hM h

def f_X10_pass_129 (N : Nat) (k9 : yS → Int32 → Int32 → Int32 → Option (Int32 × yS)) (k101 : yS → Int32 → Int32 → Int32 → Int32 → Option (Int32 × yS)) (S : yS) (l1 : Int32) (l2 : Int32) (l3 : Int32) (l4 : Int32) : Option (Int32 × yS) := k101 S l1 l2 l3 (l4 + 1)
set_option maxHeartbeats 4000000 in
set_option maxRecDepth 40000 in
theorem w_X10_pass_129 {F : xH} {ev : xEv} {prim : xRel} {d sz : Nat} {T : yT} {v : Int32} {S' : yS} (N : Nat) (k9 : yS → Int32 → Int32 → Int32 → Option (Int32 × yS)) (k101 : yS → Int32 → Int32 → Int32 → Int32 → Option (Int32 × yS)) (u9 : ∀ (S : yS) (l1 : Int32) (l2 : Int32) (l3 : Int32) (hp : xH) (lv : xLv) (a0 : Nat) (fa0 : yAt T 10 2 0 a0) (g0 : xG lv 0 = some (.ref a0)) (g1 : xG lv 1 = some (.int l1)) (g2 : xG lv 2 = some (.int l2)) (g3 : xG lv 3 = some (.int l3)) (hM : cR [0, 1, 2, 3, 4, 5, 6, 7] F ev T S hp) (h : k9 S l1 l2 l3 = some (v, S')), yWE ev.2.1 (xstr ev) (xCalls ev xmi (xprog ev) prim (d + 5)) (pX10_pass ev) (9, lv, [], hp, sz, 0) (ypQ [0, 1, 2, 3, 4, 5, 6, 7] F ev T sz (none) S')) (u101 : ∀ (S : yS) (l1 : Int32) (l2 : Int32) (l3 : Int32) (l4 : Int32) (hp : xH) (lv : xLv) (a0 : Nat) (fa0 : yAt T 10 2 0 a0) (g0 : xG lv 0 = some (.ref a0)) (g1 : xG lv 1 = some (.int l1)) (g2 : xG lv 2 = some (.int l2)) (g3 : xG lv 3 = some (.int l3)) (g4 : xG lv 4 = some (.int l4)) (hM : cR [0, 1, 2, 3, 4, 5, 6, 7] F ev T S hp) (h : k101 S l1 l2 l3 l4 = some (v, S')), yWE ev.2.1 (xstr ev) (xCalls ev xmi (xprog ev) prim (d + 5)) (pX10_pass ev) (101, lv, [], hp, sz, 0) (ypQ [0, 1, 2, 3, 4, 5, 6, 7] F ev T sz (none) S')) (S : yS) (l1 : Int32) (l2 : Int32) (l3 : Int32) (l4 : Int32) (hp : xH) (lv : xLv) (a0 : Nat) (fa0 : yAt T 10 2 0 a0) (g0 : xG lv 0 = some (.ref a0)) (g1 : xG lv 1 = some (.int l1)) (g2 : xG lv 2 = some (.int l2)) (g3 : xG lv 3 = some (.int l3)) (g4 : xG lv 4 = some (.int l4)) (hM : cR [0, 1, 2, 3, 4, 5, 6, 7] F ev T S hp) (h : f_X10_pass_129 N k9 k101 S l1 l2 l3 l4 = some (v, S')) : yWE ev.2.1 (xstr ev) (xCalls ev xmi (xprog ev) prim (d + 5)) (pX10_pass ev) (129, lv, [], hp, sz, 0) (ypQ [0, 1, 2, 3, 4, 5, 6, 7] F ev T sz (none) S') := by
  unfold f_X10_pass_129 at h
  refine ye_iinc rfl g4 ?_
  have g0_z1 := xG_o1 (i := 4) (v := .int (l4 + 1)) g0 rfl
  have g1_z1 := xG_o1 (i := 4) (v := .int (l4 + 1)) g1 rfl
  have g2_z1 := xG_o1 (i := 4) (v := .int (l4 + 1)) g2 rfl
  have g3_z1 := xG_o1 (i := 4) (v := .int (l4 + 1)) g3 rfl
  have g4_z1 := xG_same lv 4 (.int (l4 + 1))
  generalize xSt1 lv 4 (.int (l4 + 1)) = lvz1 at g0_z1 g1_z1 g2_z1 g3_z1 g4_z1 ⊢
  refine ye_p rfl rfl ?_
  exact u101 S l1 l2 l3 (l4 + 1) hp lvz1 a0 fa0 g0_z1 g1_z1 g2_z1 g3_z1 g4_z1 hM h

def f_X10_pass_101 : Nat → Nat → (yS → Int32 → Int32 → Int32 → Option (Int32 × yS)) → yS → Int32 → Int32 → Int32 → Int32 → Option (Int32 × yS)
  | 0, _, _, _, _, _, _, _ => none
  | n + 1, N, k9, S, l1, l2, l3, l4 => if (S.1 2 5) ≤ l4 then sq (yI S 2 13 ((S.1 2 13) + 1)) fun S1 => k9 S1 l1 l2 (l3 + 1) else gR (S.2.1 2 4) 8 l4 fun j1 => bV (f_X6_isAloft N S ((128 + j1))) fun w1 => if w1 = 0 then f_X10_pass_129 N k9 (fun S l1 l2 l3 l4 => f_X10_pass_101 n N k9 S l1 l2 l3 l4) S l1 l2 l3 l4 else bS (f_X10_fly N S l4) fun w2 S2 => f_X10_pass_129 N k9 (fun S l1 l2 l3 l4 => f_X10_pass_101 n N k9 S l1 l2 l3 l4) S2 l1 l2 l3 l4
set_option maxHeartbeats 4000000 in
set_option maxRecDepth 40000 in
theorem w_X10_pass_101 {F : xH} {ev : xEv} {prim : xRel} {d sz : Nat} {T : yT} {v : Int32} {S' : yS} (N : Nat) (n : Nat) (k9 : yS → Int32 → Int32 → Int32 → Option (Int32 × yS)) (u9 : ∀ (S : yS) (l1 : Int32) (l2 : Int32) (l3 : Int32) (hp : xH) (lv : xLv) (a0 : Nat) (fa0 : yAt T 10 2 0 a0) (g0 : xG lv 0 = some (.ref a0)) (g1 : xG lv 1 = some (.int l1)) (g2 : xG lv 2 = some (.int l2)) (g3 : xG lv 3 = some (.int l3)) (hM : cR [0, 1, 2, 3, 4, 5, 6, 7] F ev T S hp) (h : k9 S l1 l2 l3 = some (v, S')), yWE ev.2.1 (xstr ev) (xCalls ev xmi (xprog ev) prim (d + 5)) (pX10_pass ev) (9, lv, [], hp, sz, 0) (ypQ [0, 1, 2, 3, 4, 5, 6, 7] F ev T sz (none) S')) : ∀ (S : yS) (l1 : Int32) (l2 : Int32) (l3 : Int32) (l4 : Int32) (hp : xH) (lv : xLv) (a0 : Nat) (fa0 : yAt T 10 2 0 a0) (g0 : xG lv 0 = some (.ref a0)) (g1 : xG lv 1 = some (.int l1)) (g2 : xG lv 2 = some (.int l2)) (g3 : xG lv 3 = some (.int l3)) (g4 : xG lv 4 = some (.int l4)) (hM : cR [0, 1, 2, 3, 4, 5, 6, 7] F ev T S hp) (h : f_X10_pass_101 n N k9 S l1 l2 l3 l4 = some (v, S')), yWE ev.2.1 (xstr ev) (xCalls ev xmi (xprog ev) prim (d + 5)) (pX10_pass ev) (101, lv, [], hp, sz, 0) (ypQ [0, 1, 2, 3, 4, 5, 6, 7] F ev T sz (none) S') := by
  induction n with
  | zero => intro S l1 l2 l3 l4 hp lv a0 fa0 g0 g1 g2 g3 g4 hM h; exact n_some h
  | succ n ih =>
    intro S l1 l2 l3 l4 hp lv a0 fa0 g0 g1 g2 g3 g4 hM h
    unfold f_X10_pass_101 at h
    refine ye_iload rfl g4 ?_
    refine ye_aload rfl g0 ?_
    refine ye_getf rfl (hM.obj fa0 ⟨rfl, rfl⟩) rfl ?_
    refine ye_icmp_ge rfl (fun h1 => ?_) (fun h1 => ?_)
    · replace h := yiT h1 h
      refine ye_aload rfl g0 ?_
      refine ye_p rfl rfl ?_
      refine ye_getf rfl (hM.obj fa0 ⟨rfl, rfl⟩) rfl ?_
      refine ye_p rfl rfl ?_
      refine ye_p rfl rfl ?_
      obtain ⟨S1, eS1, h⟩ := sq_some h
      refine yw_putI rfl hM fa0 rfl ⟨rfl, rfl⟩ (Nat.le_of_ble_eq_true rfl) rfl rfl (ys_10_13 ev T _ ((S.1 2 13) + 1)) (fun q => absurd q (by decide)) eS1 (fun y1 M1 => ?_)
      refine ye_iinc rfl g3 ?_
      have g0_z1 := xG_o1 (i := 3) (v := .int (l3 + 1)) g0 rfl
      have g1_z1 := xG_o1 (i := 3) (v := .int (l3 + 1)) g1 rfl
      have g2_z1 := xG_o1 (i := 3) (v := .int (l3 + 1)) g2 rfl
      have g3_z1 := xG_same lv 3 (.int (l3 + 1))
      generalize xSt1 lv 3 (.int (l3 + 1)) = lvz1 at g0_z1 g1_z1 g2_z1 g3_z1 ⊢
      refine ye_p rfl rfl ?_
      exact u9 S1 l1 l2 (l3 + 1) y1 lvz1 a0 fa0 g0_z1 g1_z1 g2_z1 g3_z1 M1 h
    · replace h := yiN h1 h
      refine ye_aload rfl g0 ?_
      refine ye_getr rfl (hM.obj fa0 ⟨rfl, rfl⟩) rfl (fun cx1 ecx1 => ?_)
      have fcx1 := yAt.row fa0 ecx1
      refine ye_iload rfl g4 ?_
      obtain ⟨j1, ej1, ij1, rj1, h⟩ := gR_some h
      refine ye_aaldR (t := 5) rfl (hM.arr fcx1 yr_10_4) ij1 ej1 rj1 (fun cx2 ecx2 => ?_)
      have fcx2 : yAt T 6 (128 + j1) 0 cx2 := ⟨hM.refd fcx1 yr_10_4 (by decide) rj1, oc_128 (by have := vp_lt ij1; omega), ecx2⟩
      obtain ⟨w1, hw1, h⟩ := bV_some h
      refine ye_callV (As := []) (rest := []) 0 (Or.inl rfl) rfl rfl rfl (Nat.le_of_ble_eq_true rfl) (hM.obj fcx2 ⟨rfl, rfl⟩) ((m_X6_isAloft (d := d + 4) (T := T) N S ((128 + j1)) cx2 fcx2 hw1) hp sz hM) ?_
      refine ye_if_eq rfl (fun h2 => ?_) (fun h2 => ?_)
      · replace h := yiT h2 h
        exact w_X10_pass_129 (prim := prim) (d := d) N k9 (fun S l1 l2 l3 l4 => f_X10_pass_101 n N k9 S l1 l2 l3 l4) u9 ih S l1 l2 l3 l4 hp lv a0 fa0 g0 g1 g2 g3 g4 hM h
      · replace h := yiN h2 h
        refine ye_aload rfl g0 ?_
        refine ye_iload rfl g4 ?_
        obtain ⟨w2, S2, hw2, h⟩ := bS_some h
        obtain ⟨y2, cy2, M2⟩ := (m_X10_fly (d := d + 0) (T := T) N S l4 a0 fa0 hw2) hp sz hM
        refine ye_callV (As := [.int l4]) (rest := []) 0 (Or.inl rfl) rfl rfl rfl (Nat.le_of_ble_eq_true rfl) (hM.obj fa0 ⟨rfl, rfl⟩) cy2 ?_
        exact w_X10_pass_129 (prim := prim) (d := d) N k9 (fun S l1 l2 l3 l4 => f_X10_pass_101 n N k9 S l1 l2 l3 l4) u9 ih S2 l1 l2 l3 l4 y2 lv a0 fa0 g0 g1 g2 g3 g4 M2 h

def f_X10_pass_47 : Nat → Nat → (yS → Int32 → Int32 → Int32 → Option (Int32 × yS)) → yS → Int32 → Int32 → Int32 → Int32 → Option (Int32 × yS)
  | 0, _, _, _, _, _, _, _ => none
  | n + 1, N, k9, S, l1, l2, l3, l4 => if (S.1 2 12) ≤ l4 then f_X10_pass_101 N N k9 S l1 l2 l3 0 else gR (S.2.1 2 11) 24 l4 fun j1 => bV (f_X1_waits N S ((512 + j1))) fun w1 => if w1 = 0 then f_X10_pass_92 N k9 (fun S l1 l2 l3 l4 => f_X10_pass_47 n N k9 S l1 l2 l3 l4) S l1 l2 l3 l4 else gR (S.2.1 2 11) 24 l4 fun j2 => if (S.1 2 13) < (S.1 ((512 + j2)) 3) then f_X10_pass_92 N k9 (fun S l1 l2 l3 l4 => f_X10_pass_47 n N k9 S l1 l2 l3 l4) S l1 l2 l3 l4 else bS (f_X10_tryStart N S l4) fun w2 S1 => f_X10_pass_92 N k9 (fun S l1 l2 l3 l4 => f_X10_pass_47 n N k9 S l1 l2 l3 l4) S1 l1 l2 l3 l4
set_option maxHeartbeats 4000000 in
set_option maxRecDepth 40000 in
theorem w_X10_pass_47 {F : xH} {ev : xEv} {prim : xRel} {d sz : Nat} {T : yT} {v : Int32} {S' : yS} (N : Nat) (n : Nat) (k9 : yS → Int32 → Int32 → Int32 → Option (Int32 × yS)) (u9 : ∀ (S : yS) (l1 : Int32) (l2 : Int32) (l3 : Int32) (hp : xH) (lv : xLv) (a0 : Nat) (fa0 : yAt T 10 2 0 a0) (g0 : xG lv 0 = some (.ref a0)) (g1 : xG lv 1 = some (.int l1)) (g2 : xG lv 2 = some (.int l2)) (g3 : xG lv 3 = some (.int l3)) (hM : cR [0, 1, 2, 3, 4, 5, 6, 7] F ev T S hp) (h : k9 S l1 l2 l3 = some (v, S')), yWE ev.2.1 (xstr ev) (xCalls ev xmi (xprog ev) prim (d + 5)) (pX10_pass ev) (9, lv, [], hp, sz, 0) (ypQ [0, 1, 2, 3, 4, 5, 6, 7] F ev T sz (none) S')) : ∀ (S : yS) (l1 : Int32) (l2 : Int32) (l3 : Int32) (l4 : Int32) (hp : xH) (lv : xLv) (a0 : Nat) (fa0 : yAt T 10 2 0 a0) (g0 : xG lv 0 = some (.ref a0)) (g1 : xG lv 1 = some (.int l1)) (g2 : xG lv 2 = some (.int l2)) (g3 : xG lv 3 = some (.int l3)) (g4 : xG lv 4 = some (.int l4)) (hM : cR [0, 1, 2, 3, 4, 5, 6, 7] F ev T S hp) (h : f_X10_pass_47 n N k9 S l1 l2 l3 l4 = some (v, S')), yWE ev.2.1 (xstr ev) (xCalls ev xmi (xprog ev) prim (d + 5)) (pX10_pass ev) (47, lv, [], hp, sz, 0) (ypQ [0, 1, 2, 3, 4, 5, 6, 7] F ev T sz (none) S') := by
  induction n with
  | zero => intro S l1 l2 l3 l4 hp lv a0 fa0 g0 g1 g2 g3 g4 hM h; exact n_some h
  | succ n ih =>
    intro S l1 l2 l3 l4 hp lv a0 fa0 g0 g1 g2 g3 g4 hM h
    unfold f_X10_pass_47 at h
    refine ye_iload rfl g4 ?_
    refine ye_aload rfl g0 ?_
    refine ye_getf rfl (hM.obj fa0 ⟨rfl, rfl⟩) rfl ?_
    refine ye_icmp_ge rfl (fun h1 => ?_) (fun h1 => ?_)
    · replace h := yiT h1 h
      refine ye_p rfl rfl ?_
      refine ye_p rfl rfl ?_
      have g0_z1 := xG_o1 (i := 4) (v := .int 0) g0 rfl
      have g1_z1 := xG_o1 (i := 4) (v := .int 0) g1 rfl
      have g2_z1 := xG_o1 (i := 4) (v := .int 0) g2 rfl
      have g3_z1 := xG_o1 (i := 4) (v := .int 0) g3 rfl
      have g4_z1 := xG_same lv 4 (.int 0)
      generalize xSt1 lv 4 (.int 0) = lvz1 at g0_z1 g1_z1 g2_z1 g3_z1 g4_z1 ⊢
      exact w_X10_pass_101 (prim := prim) (d := d) N N k9 u9 S l1 l2 l3 0 hp lvz1 a0 fa0 g0_z1 g1_z1 g2_z1 g3_z1 g4_z1 hM h
    · replace h := yiN h1 h
      refine ye_aload rfl g0 ?_
      refine ye_getr rfl (hM.obj fa0 ⟨rfl, rfl⟩) rfl (fun cx1 ecx1 => ?_)
      have fcx1 := yAt.row fa0 ecx1
      refine ye_iload rfl g4 ?_
      obtain ⟨j1, ej1, ij1, rj1, h⟩ := gR_some h
      refine ye_aaldR (t := 8) rfl (hM.arr fcx1 yr_10_11) ij1 ej1 rj1 (fun cx2 ecx2 => ?_)
      have fcx2 : yAt T 1 (512 + j1) 0 cx2 := ⟨hM.refd fcx1 yr_10_11 (by decide) rj1, oc_512 (by have := vp_lt ij1; omega), ecx2⟩
      obtain ⟨w1, hw1, h⟩ := bV_some h
      refine ye_callV (As := []) (rest := []) 0 (Or.inl rfl) rfl rfl rfl (Nat.le_of_ble_eq_true rfl) (hM.obj fcx2 ⟨rfl, rfl⟩) ((m_X1_waits (d := d + 4) (T := T) N S ((512 + j1)) cx2 fcx2 hw1) hp sz hM) ?_
      refine ye_if_eq rfl (fun h2 => ?_) (fun h2 => ?_)
      · replace h := yiT h2 h
        exact w_X10_pass_92 (prim := prim) (d := d) N k9 (fun S l1 l2 l3 l4 => f_X10_pass_47 n N k9 S l1 l2 l3 l4) u9 ih S l1 l2 l3 l4 hp lv a0 fa0 g0 g1 g2 g3 g4 hM h
      · replace h := yiN h2 h
        refine ye_aload rfl g0 ?_
        refine ye_getr rfl (hM.obj fa0 ⟨rfl, rfl⟩) rfl (fun cx3 ecx3 => ?_)
        have fcx3 := yAt.row fa0 ecx3
        refine ye_iload rfl g4 ?_
        obtain ⟨j2, ej2, ij2, rj2, h⟩ := gR_some h
        refine ye_aaldR (t := 8) rfl (hM.arr fcx3 yr_10_11) ij2 ej2 rj2 (fun cx4 ecx4 => ?_)
        have fcx4 : yAt T 1 (512 + j2) 0 cx4 := ⟨hM.refd fcx3 yr_10_11 (by decide) rj2, oc_512 (by have := vp_lt ij2; omega), ecx4⟩
        refine ye_getf rfl (hM.obj fcx4 ⟨rfl, rfl⟩) rfl ?_
        refine ye_aload rfl g0 ?_
        refine ye_getf rfl (hM.obj fa0 ⟨rfl, rfl⟩) rfl ?_
        refine ye_icmp_gt rfl (fun h3 => ?_) (fun h3 => ?_)
        · replace h := yiT h3 h
          exact w_X10_pass_92 (prim := prim) (d := d) N k9 (fun S l1 l2 l3 l4 => f_X10_pass_47 n N k9 S l1 l2 l3 l4) u9 ih S l1 l2 l3 l4 hp lv a0 fa0 g0 g1 g2 g3 g4 hM h
        · replace h := yiN h3 h
          refine ye_aload rfl g0 ?_
          refine ye_iload rfl g4 ?_
          obtain ⟨w2, S1, hw2, h⟩ := bS_some h
          obtain ⟨y1, cy1, M1⟩ := (m_X10_tryStart (d := d + 0) (T := T) N S l4 a0 fa0 hw2) hp sz hM
          refine ye_callV (As := [.int l4]) (rest := []) 0 (Or.inl rfl) rfl rfl rfl (Nat.le_of_ble_eq_true rfl) (hM.obj fa0 ⟨rfl, rfl⟩) cy1 ?_
          exact w_X10_pass_92 (prim := prim) (d := d) N k9 (fun S l1 l2 l3 l4 => f_X10_pass_47 n N k9 S l1 l2 l3 l4) u9 ih S1 l1 l2 l3 l4 y1 lv a0 fa0 g0 g1 g2 g3 g4 M1 h

def f_X10_pass_151 (N : Nat) (S : yS) : Option (Int32 × yS) := some (0, S)
set_option maxHeartbeats 4000000 in
set_option maxRecDepth 40000 in
theorem w_X10_pass_151 {F : xH} {ev : xEv} {prim : xRel} {d sz : Nat} {T : yT} {v : Int32} {S' : yS} (N : Nat) (S : yS) (hp : xH) (lv : xLv) (hM : cR [0, 1, 2, 3, 4, 5, 6, 7] F ev T S hp) (h : f_X10_pass_151 N S = some (v, S')) : yWE ev.2.1 (xstr ev) (xCalls ev xmi (xprog ev) prim (d + 5)) (pX10_pass ev) (151, lv, [], hp, sz, 0) (ypQ [0, 1, 2, 3, 4, 5, 6, 7] F ev T sz (none) S') := by
  unfold f_X10_pass_151 at h
  exact ye_ret rfl rfl (rQV h hM)

def f_X10_pass_9 : Nat → Nat → yS → Int32 → Int32 → Int32 → Option (Int32 × yS)
  | 0, _, _, _, _, _ => none
  | n + 1, N, S, l1, l2, l3 => if l1 ≤ l3 then f_X10_pass_151 N S else if l2 ≤ (S.1 2 13) then f_X10_pass_151 N S else bV (f_X10_nextBusy N S l2) fun w1 => sq (yI S 2 13 w1) fun S1 => if ¬ (S1.1 2 13) = l2 then bS (f_X10_beginQuarter N S1) fun w2 S2 => f_X10_pass_47 N N (fun S l1 l2 l3 => f_X10_pass_9 n N S l1 l2 l3) S2 l1 l2 l3 0 else some (0, S1)
set_option maxHeartbeats 4000000 in
set_option maxRecDepth 40000 in
theorem w_X10_pass_9 {F : xH} {ev : xEv} {prim : xRel} {d sz : Nat} {T : yT} {v : Int32} {S' : yS} (N : Nat) (n : Nat) : ∀ (S : yS) (l1 : Int32) (l2 : Int32) (l3 : Int32) (hp : xH) (lv : xLv) (a0 : Nat) (fa0 : yAt T 10 2 0 a0) (g0 : xG lv 0 = some (.ref a0)) (g1 : xG lv 1 = some (.int l1)) (g2 : xG lv 2 = some (.int l2)) (g3 : xG lv 3 = some (.int l3)) (hM : cR [0, 1, 2, 3, 4, 5, 6, 7] F ev T S hp) (h : f_X10_pass_9 n N S l1 l2 l3 = some (v, S')), yWE ev.2.1 (xstr ev) (xCalls ev xmi (xprog ev) prim (d + 5)) (pX10_pass ev) (9, lv, [], hp, sz, 0) (ypQ [0, 1, 2, 3, 4, 5, 6, 7] F ev T sz (none) S') := by
  induction n with
  | zero => intro S l1 l2 l3 hp lv a0 fa0 g0 g1 g2 g3 hM h; exact n_some h
  | succ n ih =>
    intro S l1 l2 l3 hp lv a0 fa0 g0 g1 g2 g3 hM h
    unfold f_X10_pass_9 at h
    refine ye_iload rfl g3 ?_
    refine ye_iload rfl g1 ?_
    refine ye_icmp_ge rfl (fun h1 => ?_) (fun h1 => ?_)
    · replace h := yiT h1 h
      exact w_X10_pass_151 (prim := prim) (d := d) N S hp lv hM h
    · replace h := yiN h1 h
      refine ye_aload rfl g0 ?_
      refine ye_getf rfl (hM.obj fa0 ⟨rfl, rfl⟩) rfl ?_
      refine ye_iload rfl g2 ?_
      refine ye_icmp_ge rfl (fun h2 => ?_) (fun h2 => ?_)
      · replace h := yiT h2 h
        exact w_X10_pass_151 (prim := prim) (d := d) N S hp lv hM h
      · replace h := yiN h2 h
        refine ye_aload rfl g0 ?_
        refine ye_aload rfl g0 ?_
        refine ye_iload rfl g2 ?_
        obtain ⟨w1, hw1, h⟩ := bV_some h
        refine ye_callV (As := [.int l2]) (rest := [.ref a0]) 0 (Or.inl rfl) rfl rfl rfl (Nat.le_of_ble_eq_true rfl) (hM.obj fa0 ⟨rfl, rfl⟩) ((m_X10_nextBusy (d := d + 3) (T := T) N S l2 a0 fa0 hw1) hp sz hM) ?_
        obtain ⟨S1, eS1, h⟩ := sq_some h
        refine yw_putI rfl hM fa0 rfl ⟨rfl, rfl⟩ (Nat.le_of_ble_eq_true rfl) rfl rfl (ys_10_13 ev T _ w1) (fun q => absurd q (by decide)) eS1 (fun y1 M1 => ?_)
        refine ye_aload rfl g0 ?_
        refine ye_getf rfl (M1.obj fa0 ⟨rfl, rfl⟩) rfl ?_
        refine ye_iload rfl g2 ?_
        refine ye_icmp_ne rfl (fun h3 => ?_) (fun h3 => ?_)
        · replace h := yiT h3 h
          refine ye_aload rfl g0 ?_
          obtain ⟨w2, S2, hw2, h⟩ := bS_some h
          obtain ⟨y2, cy2, M2⟩ := (m_X10_beginQuarter (d := d + 2) (T := T) N S1 a0 fa0 hw2) y1 sz M1
          refine ye_callV (As := []) (rest := []) 0 (Or.inl rfl) rfl rfl rfl (Nat.le_of_ble_eq_true rfl) (M1.obj fa0 ⟨rfl, rfl⟩) cy2 ?_
          refine ye_p rfl rfl ?_
          refine ye_p rfl rfl ?_
          have g0_z1 := xG_o1 (i := 4) (v := .int 0) g0 rfl
          have g1_z1 := xG_o1 (i := 4) (v := .int 0) g1 rfl
          have g2_z1 := xG_o1 (i := 4) (v := .int 0) g2 rfl
          have g3_z1 := xG_o1 (i := 4) (v := .int 0) g3 rfl
          have g4_z1 := xG_same lv 4 (.int 0)
          generalize xSt1 lv 4 (.int 0) = lvz1 at g0_z1 g1_z1 g2_z1 g3_z1 g4_z1 ⊢
          exact w_X10_pass_47 (prim := prim) (d := d) N N (fun S l1 l2 l3 => f_X10_pass_9 n N S l1 l2 l3) ih S2 l1 l2 l3 0 y2 lvz1 a0 fa0 g0_z1 g1_z1 g2_z1 g3_z1 g4_z1 M2 h
        · replace h := yiN h3 h
          exact ye_ret rfl rfl (rQV h M1)

def f_X10_pass_0 (N : Nat) (S : yS) (l1 : Int32) : Option (Int32 × yS) := f_X10_pass_9 N N S l1 ((S.1 2 13) + l1) 0
set_option maxHeartbeats 4000000 in
set_option maxRecDepth 40000 in
theorem w_X10_pass_0 {F : xH} {ev : xEv} {prim : xRel} {d sz : Nat} {T : yT} {v : Int32} {S' : yS} (N : Nat) (S : yS) (l1 : Int32) (hp : xH) (lv : xLv) (a0 : Nat) (fa0 : yAt T 10 2 0 a0) (g0 : xG lv 0 = some (.ref a0)) (g1 : xG lv 1 = some (.int l1)) (hM : cR [0, 1, 2, 3, 4, 5, 6, 7] F ev T S hp) (h : f_X10_pass_0 N S l1 = some (v, S')) : yWE ev.2.1 (xstr ev) (xCalls ev xmi (xprog ev) prim (d + 5)) (pX10_pass ev) (0, lv, [], hp, sz, 0) (ypQ [0, 1, 2, 3, 4, 5, 6, 7] F ev T sz (none) S') := by
  unfold f_X10_pass_0 at h
  refine ye_aload rfl g0 ?_
  refine ye_getf rfl (hM.obj fa0 ⟨rfl, rfl⟩) rfl ?_
  refine ye_iload rfl g1 ?_
  refine ye_p rfl rfl ?_
  refine ye_p rfl rfl ?_
  have g0_z1 := xG_o1 (i := 2) (v := .int ((S.1 2 13) + l1)) g0 rfl
  have g1_z1 := xG_o1 (i := 2) (v := .int ((S.1 2 13) + l1)) g1 rfl
  have g2_z1 := xG_same lv 2 (.int ((S.1 2 13) + l1))
  generalize xSt1 lv 2 (.int ((S.1 2 13) + l1)) = lvz1 at g0_z1 g1_z1 g2_z1 ⊢
  refine ye_p rfl rfl ?_
  refine ye_p rfl rfl ?_
  have g0_z2 := xG_o1 (i := 3) (v := .int 0) g0_z1 rfl
  have g1_z2 := xG_o1 (i := 3) (v := .int 0) g1_z1 rfl
  have g2_z2 := xG_o1 (i := 3) (v := .int 0) g2_z1 rfl
  have g3_z2 := xG_same lvz1 3 (.int 0)
  generalize xSt1 lvz1 3 (.int 0) = lvz2 at g0_z2 g1_z2 g2_z2 g3_z2 ⊢
  exact w_X10_pass_9 (prim := prim) (d := d) N N S l1 ((S.1 2 13) + l1) 0 hp lvz2 a0 fa0 g0_z2 g1_z2 g2_z2 g3_z2 hM h
def f_X10_pass (N : Nat) (S : yS) (xl1 : Int32) : Option (Int32 × yS) := f_X10_pass_0 N S xl1
theorem m_X10_pass {F : xH} {ev : xEv} {prim : xRel} {d : Nat} {T : yT} {v : Int32} {S' : yS} (N : Nat) (S : yS) (xl1 : Int32) (a0 : Nat) (fa0 : yAt T 10 2 0 a0) (h : f_X10_pass N S xl1 = some (v, S')) : ykQ [0, 1, 2, 3, 4, 5, 6, 7] F ev prim (d + 6) 97 T S [.ref a0, .int xl1] (none) S' :=
  ykQ.of (pg_97 ev) mi_97 (Nat.le_of_ble_eq_true rfl) (fun hp sz hM => w_X10_pass_0 (prim := prim) (d := d) N S xl1 hp _ a0 fa0 rfl rfl hM h)

def f_X10_coinNow_8 : Nat → Nat → yS → Int32 → Int32 → Option (Int32 × yS)
  | 0, _, _, _, _ => none
  | n + 1, N, S, l1, l2 => if (S.1 2 9) ≤ l2 then some (l1, S) else gR (S.2.1 2 8) 30 l2 fun j1 => bS (f_X10_payByDay N S ((384 + j1))) fun w1 S1 => f_X10_coinNow_8 n N S1 (l1 + w1) (l2 + 1)
set_option maxHeartbeats 4000000 in
set_option maxRecDepth 40000 in
theorem w_X10_coinNow_8 {F : xH} {ev : xEv} {prim : xRel} {d sz : Nat} {T : yT} {v : Int32} {S' : yS} (N : Nat) (n : Nat) : ∀ (S : yS) (l1 : Int32) (l2 : Int32) (hp : xH) (lv : xLv) (a0 : Nat) (fa0 : yAt T 10 2 0 a0) (g0 : xG lv 0 = some (.ref a0)) (g1 : xG lv 1 = some (.int l1)) (g2 : xG lv 2 = some (.int l2)) (hM : cR [0, 1, 2, 3, 4, 5, 6, 7] F ev T S hp) (h : f_X10_coinNow_8 n N S l1 l2 = some (v, S')), yWE ev.2.1 (xstr ev) (xCalls ev xmi (xprog ev) prim (d + 5)) (pX10_coinNow ev) (8, lv, [], hp, sz, 0) (ypQ [0, 1, 2, 3, 4, 5, 6, 7] F ev T sz (some (.int v)) S') := by
  induction n with
  | zero => intro S l1 l2 hp lv a0 fa0 g0 g1 g2 hM h; exact n_some h
  | succ n ih =>
    intro S l1 l2 hp lv a0 fa0 g0 g1 g2 hM h
    unfold f_X10_coinNow_8 at h
    refine ye_iload rfl g2 ?_
    refine ye_aload rfl g0 ?_
    refine ye_getf rfl (hM.obj fa0 ⟨rfl, rfl⟩) rfl ?_
    refine ye_icmp_ge rfl (fun h1 => ?_) (fun h1 => ?_)
    · replace h := yiT h1 h
      refine ye_iload rfl g1 ?_
      exact ye_ret rfl rfl (rQ h hM)
    · replace h := yiN h1 h
      refine ye_iload rfl g1 ?_
      refine ye_aload rfl g0 ?_
      refine ye_aload rfl g0 ?_
      refine ye_getr rfl (hM.obj fa0 ⟨rfl, rfl⟩) rfl (fun cx1 ecx1 => ?_)
      have fcx1 := yAt.row fa0 ecx1
      refine ye_iload rfl g2 ?_
      obtain ⟨j1, ej1, ij1, rj1, h⟩ := gR_some h
      refine ye_aaldR (t := 7) rfl (hM.arr fcx1 yr_10_8) ij1 ej1 rj1 (fun cx2 ecx2 => ?_)
      have fcx2 : yAt T 0 (384 + j1) 0 cx2 := ⟨hM.refd fcx1 yr_10_8 (by decide) rj1, oc_384 (by have := vp_lt ij1; omega), ecx2⟩
      obtain ⟨w1, S1, hw1, h⟩ := bS_some h
      obtain ⟨y1, cy1, M1⟩ := (m_X10_payByDay (d := d + 0) (T := T) N S ((384 + j1)) a0 cx2 fa0 fcx2 hw1) hp sz hM
      refine ye_callV (As := [.ref cx2]) (rest := [.int l1]) 0 (Or.inl rfl) rfl rfl rfl (Nat.le_of_ble_eq_true rfl) (hM.obj fa0 ⟨rfl, rfl⟩) cy1 ?_
      refine ye_p rfl rfl ?_
      refine ye_p rfl rfl ?_
      have g0_z1 := xG_o1 (i := 1) (v := .int (l1 + w1)) g0 rfl
      have g2_z1 := xG_o1 (i := 1) (v := .int (l1 + w1)) g2 rfl
      have g1_z1 := xG_same lv 1 (.int (l1 + w1))
      generalize xSt1 lv 1 (.int (l1 + w1)) = lvz1 at g0_z1 g2_z1 g1_z1 ⊢
      refine ye_iinc rfl g2_z1 ?_
      have g0_z2 := xG_o1 (i := 2) (v := .int (l2 + 1)) g0_z1 rfl
      have g1_z2 := xG_o1 (i := 2) (v := .int (l2 + 1)) g1_z1 rfl
      have g2_z2 := xG_same lvz1 2 (.int (l2 + 1))
      generalize xSt1 lvz1 2 (.int (l2 + 1)) = lvz2 at g0_z2 g1_z2 g2_z2 ⊢
      refine ye_p rfl rfl ?_
      exact ih S1 (l1 + w1) (l2 + 1) y1 lvz2 a0 fa0 g0_z2 g1_z2 g2_z2 M1 h

def f_X10_coinNow_0 (N : Nat) (S : yS) : Option (Int32 × yS) := f_X10_coinNow_8 N N S (-(S.1 2 14)) 0
set_option maxHeartbeats 4000000 in
set_option maxRecDepth 40000 in
theorem w_X10_coinNow_0 {F : xH} {ev : xEv} {prim : xRel} {d sz : Nat} {T : yT} {v : Int32} {S' : yS} (N : Nat) (S : yS) (hp : xH) (lv : xLv) (a0 : Nat) (fa0 : yAt T 10 2 0 a0) (g0 : xG lv 0 = some (.ref a0)) (hM : cR [0, 1, 2, 3, 4, 5, 6, 7] F ev T S hp) (h : f_X10_coinNow_0 N S = some (v, S')) : yWE ev.2.1 (xstr ev) (xCalls ev xmi (xprog ev) prim (d + 5)) (pX10_coinNow ev) (0, lv, [], hp, sz, 0) (ypQ [0, 1, 2, 3, 4, 5, 6, 7] F ev T sz (some (.int v)) S') := by
  unfold f_X10_coinNow_0 at h
  refine ye_aload rfl g0 ?_
  refine ye_getf rfl (hM.obj fa0 ⟨rfl, rfl⟩) rfl ?_
  refine ye_p rfl rfl ?_
  refine ye_p rfl rfl ?_
  have g0_z1 := xG_o1 (i := 1) (v := .int (-(S.1 2 14))) g0 rfl
  have g1_z1 := xG_same lv 1 (.int (-(S.1 2 14)))
  generalize xSt1 lv 1 (.int (-(S.1 2 14))) = lvz1 at g0_z1 g1_z1 ⊢
  refine ye_p rfl rfl ?_
  refine ye_p rfl rfl ?_
  have g0_z2 := xG_o1 (i := 2) (v := .int 0) g0_z1 rfl
  have g1_z2 := xG_o1 (i := 2) (v := .int 0) g1_z1 rfl
  have g2_z2 := xG_same lvz1 2 (.int 0)
  generalize xSt1 lvz1 2 (.int 0) = lvz2 at g0_z2 g1_z2 g2_z2 ⊢
  exact w_X10_coinNow_8 (prim := prim) (d := d) N N S (-(S.1 2 14)) 0 hp lvz2 a0 fa0 g0_z2 g1_z2 g2_z2 hM h
def f_X10_coinNow (N : Nat) (S : yS) : Option (Int32 × yS) := f_X10_coinNow_0 N S
theorem m_X10_coinNow {F : xH} {ev : xEv} {prim : xRel} {d : Nat} {T : yT} {v : Int32} {S' : yS} (N : Nat) (S : yS) (a0 : Nat) (fa0 : yAt T 10 2 0 a0) (h : f_X10_coinNow N S = some (v, S')) : ykQ [0, 1, 2, 3, 4, 5, 6, 7] F ev prim (d + 6) 120 T S [.ref a0] (some (.int v)) S' :=
  ykQ.of (pg_120 ev) mi_120 (Nat.le_of_ble_eq_true rfl) (fun hp sz hM => w_X10_coinNow_0 (prim := prim) (d := d) N S hp _ a0 fa0 rfl hM h)

def f_X11_step_26 (N : Nat) (S : yS) : Option (Int32 × yS) := some ((-1), S)
set_option maxHeartbeats 4000000 in
set_option maxRecDepth 40000 in
theorem w_X11_step_26 {F : xH} {ev : xEv} {prim : xRel} {d sz : Nat} {T : yT} {v : Int32} {S' : yS} (N : Nat) (S : yS) (hp : xH) (lv : xLv) (hM : cR [0, 1, 2, 3, 4, 5, 6, 7] F ev T S hp) (h : f_X11_step_26 N S = some (v, S')) : yWE ev.2.1 (xstr ev) (xCalls ev xmi (xprog ev) prim (d + 6)) (pX11_step ev) (26, lv, [], hp, sz, 0) (ypQ [0, 1, 2, 3, 4, 5, 6, 7] F ev T sz (some (.int v)) S') := by
  unfold f_X11_step_26 at h
  refine ye_p rfl rfl ?_
  exact ye_ret rfl rfl (rQ h hM)

def f_X11_step_0 (N : Nat) (S : yS) (l1 : Int32) : Option (Int32 × yS) := bV (f_X11_within N S l1 0 400) fun w1 => if w1 = 0 then f_X11_step_26 N S else if ((S.1 2 13) + l1) ≤ 3000 then bS (f_X10_pass N S l1) fun w2 S1 => some (S1.1 2 13, S1) else f_X11_step_26 N S
set_option maxHeartbeats 4000000 in
set_option maxRecDepth 40000 in
theorem w_X11_step_0 {F : xH} {ev : xEv} {prim : xRel} {d sz : Nat} {T : yT} {v : Int32} {S' : yS} (N : Nat) (S : yS) (l1 : Int32) (hp : xH) (lv : xLv) (a0 : Nat) (fa0 : yAt T 11 0 0 a0) (g0 : xG lv 0 = some (.ref a0)) (g1 : xG lv 1 = some (.int l1)) (hM : cR [0, 1, 2, 3, 4, 5, 6, 7] F ev T S hp) (h : f_X11_step_0 N S l1 = some (v, S')) : yWE ev.2.1 (xstr ev) (xCalls ev xmi (xprog ev) prim (d + 6)) (pX11_step ev) (0, lv, [], hp, sz, 0) (ypQ [0, 1, 2, 3, 4, 5, 6, 7] F ev T sz (some (.int v)) S') := by
  unfold f_X11_step_0 at h
  refine ye_iload rfl g1 ?_
  refine ye_p rfl rfl ?_
  refine ye_p rfl rfl ?_
  obtain ⟨w1, hw1, h⟩ := bV_some h
  refine ye_callS (As := [.int l1, .int 0, .int 400]) (rest := []) 1 (Or.inl rfl) rfl rfl rfl (Nat.le_of_ble_eq_true rfl) ((m_X11_within (d := d + 5) (T := T) N S l1 0 400 hw1) hp sz hM) ?_
  refine ye_if_eq rfl (fun h1 => ?_) (fun h1 => ?_)
  · replace h := yiT h1 h
    exact w_X11_step_26 (prim := prim) (d := d) N S hp lv hM h
  · replace h := yiN h1 h
    refine ye_aload rfl g0 ?_
    refine ye_getr rfl (hM.obj fa0 ⟨rfl, rfl⟩) rfl (fun cx1 ecx1 => ?_)
    have fcx1 := hM.root 10 0 (by decide) rfl ecx1
    refine ye_getf rfl (hM.obj fcx1 ⟨rfl, rfl⟩) rfl ?_
    refine ye_iload rfl g1 ?_
    refine ye_p rfl rfl ?_
    refine ye_p rfl rfl ?_
    refine ye_icmp_le rfl (fun h2 => ?_) (fun h2 => ?_)
    · replace h := yiT h2 h
      refine ye_aload rfl g0 ?_
      refine ye_getr rfl (hM.obj fa0 ⟨rfl, rfl⟩) rfl (fun cx2 ecx2 => ?_)
      have fcx2 := hM.root 10 0 (by decide) rfl ecx2
      refine ye_iload rfl g1 ?_
      obtain ⟨w2, S1, hw2, h⟩ := bS_some h
      obtain ⟨y1, cy1, M1⟩ := (m_X10_pass (d := d + 0) (T := T) N S l1 cx2 fcx2 hw2) hp sz hM
      refine ye_callV (As := [.int l1]) (rest := []) 0 (Or.inl rfl) rfl rfl rfl (Nat.le_of_ble_eq_true rfl) (hM.obj fcx2 ⟨rfl, rfl⟩) cy1 ?_
      refine ye_aload rfl g0 ?_
      refine ye_getr rfl (M1.obj fa0 ⟨rfl, rfl⟩) rfl (fun cx3 ecx3 => ?_)
      have fcx3 := M1.root 10 0 (by decide) rfl ecx3
      refine ye_getf rfl (M1.obj fcx3 ⟨rfl, rfl⟩) rfl ?_
      exact ye_ret rfl rfl (rQ h M1)
    · replace h := yiN h2 h
      exact w_X11_step_26 (prim := prim) (d := d) N S hp lv hM h
def f_X11_step (N : Nat) (S : yS) (xl1 : Int32) : Option (Int32 × yS) := f_X11_step_0 N S xl1
theorem m_X11_step {F : xH} {ev : xEv} {prim : xRel} {d : Nat} {T : yT} {v : Int32} {S' : yS} (N : Nat) (S : yS) (xl1 : Int32) (a0 : Nat) (fa0 : yAt T 11 0 0 a0) (h : f_X11_step N S xl1 = some (v, S')) : ykQ [0, 1, 2, 3, 4, 5, 6, 7] F ev prim (d + 7) 150 T S [.ref a0, .int xl1] (some (.int v)) S' :=
  ykQ.of (pg_150 ev) mi_150 (Nat.le_of_ble_eq_true rfl) (fun hp sz hM => w_X11_step_0 (prim := prim) (d := d) N S xl1 hp _ a0 fa0 rfl rfl hM h)

def f_X11_coin_0 (N : Nat) (S : yS) : Option (Int32 × yS) := bS (f_X10_coinNow N S) fun w1 S1 => some (w1, S1)
set_option maxHeartbeats 4000000 in
set_option maxRecDepth 40000 in
theorem w_X11_coin_0 {F : xH} {ev : xEv} {prim : xRel} {d sz : Nat} {T : yT} {v : Int32} {S' : yS} (N : Nat) (S : yS) (hp : xH) (lv : xLv) (a0 : Nat) (fa0 : yAt T 11 0 0 a0) (g0 : xG lv 0 = some (.ref a0)) (hM : cR [0, 1, 2, 3, 4, 5, 6, 7] F ev T S hp) (h : f_X11_coin_0 N S = some (v, S')) : yWE ev.2.1 (xstr ev) (xCalls ev xmi (xprog ev) prim (d + 6)) (pX11_coin ev) (0, lv, [], hp, sz, 0) (ypQ [0, 1, 2, 3, 4, 5, 6, 7] F ev T sz (some (.int v)) S') := by
  unfold f_X11_coin_0 at h
  refine ye_aload rfl g0 ?_
  refine ye_getr rfl (hM.obj fa0 ⟨rfl, rfl⟩) rfl (fun cx1 ecx1 => ?_)
  have fcx1 := hM.root 10 0 (by decide) rfl ecx1
  obtain ⟨w1, S1, hw1, h⟩ := bS_some h
  obtain ⟨y1, cy1, M1⟩ := (m_X10_coinNow (d := d + 0) (T := T) N S cx1 fcx1 hw1) hp sz hM
  refine ye_callV (As := []) (rest := []) 0 (Or.inl rfl) rfl rfl rfl (Nat.le_of_ble_eq_true rfl) (hM.obj fcx1 ⟨rfl, rfl⟩) cy1 ?_
  exact ye_ret rfl rfl (rQ h M1)
def f_X11_coin (N : Nat) (S : yS) : Option (Int32 × yS) := f_X11_coin_0 N S
theorem m_X11_coin {F : xH} {ev : xEv} {prim : xRel} {d : Nat} {T : yT} {v : Int32} {S' : yS} (N : Nat) (S : yS) (a0 : Nat) (fa0 : yAt T 11 0 0 a0) (h : f_X11_coin N S = some (v, S')) : ykQ [0, 1, 2, 3, 4, 5, 6, 7] F ev prim (d + 7) 160 T S [.ref a0] (some (.int v)) S' :=
  ykQ.of (pg_160 ev) mi_160 (Nat.le_of_ble_eq_true rfl) (fun hp sz hM => w_X11_coin_0 (prim := prim) (d := d) N S hp _ a0 fa0 rfl hM h)

def f_X4_firstWrong_61 (N : Nat) (S : yS) (l4 : Int32) : Option (Int32 × yS) := some (l4, S)
set_option maxHeartbeats 4000000 in
set_option maxRecDepth 40000 in
theorem w_X4_firstWrong_61 {F : xH} {ev : xEv} {prim : xRel} {d sz : Nat} {T : yT} {v : Int32} {S' : yS} (N : Nat) (S : yS) (l4 : Int32) (hp : xH) (lv : xLv) (g4 : xG lv 4 = some (.int l4)) (hM : cR [0, 1, 2, 3, 4, 5, 6, 7] F ev T S hp) (h : f_X4_firstWrong_61 N S l4 = some (v, S')) : yWE ev.2.1 (xstr ev) (xCalls ev xmi (xprog ev) prim (d + 6)) (pX4_firstWrong ev) (61, lv, [], hp, sz, 0) (ypQ [0, 1, 2, 3, 4, 5, 6, 7] F ev T sz (some (.int v)) S') := by
  unfold f_X4_firstWrong_61 at h
  refine ye_iload rfl g4 ?_
  exact ye_ret rfl rfl (rQ h hM)

def f_X4_firstWrong_21 : Nat → Nat → yS → Int32 → Int32 → Int32 → Option (Int32 × yS)
  | 0, _, _, _, _, _ => none
  | n + 1, N, S, l2, l4, l5 => if l4 ≤ l5 then if l4 < l2 then f_X4_firstWrong_61 N S l4 else bV (f_X4_mayEnd N S) fun w1 => if ¬ w1 = 0 then bS (f_X4_releaseDownTo N S 1) fun w2 S1 => bS (f_X4_closeChoices N S1) fun w3 S2 => some ((-1), S2) else f_X4_firstWrong_61 N S l4 else gA 100 l5 fun j1 => bS (f_X4_takes N S (S.2.1 0 5 j1)) fun w4 S3 => if ¬ w4 = 0 then f_X4_firstWrong_21 n N S3 l2 l4 (l5 + 1) else some (l5, S3)
set_option maxHeartbeats 4000000 in
set_option maxRecDepth 40000 in
theorem w_X4_firstWrong_21 {F : xH} {ev : xEv} {prim : xRel} {d sz : Nat} {T : yT} {v : Int32} {S' : yS} (N : Nat) (n : Nat) : ∀ (S : yS) (l2 : Int32) (l4 : Int32) (l5 : Int32) (hp : xH) (lv : xLv) (a0 : Nat) (a1 : Nat) (fa0 : yAt T 4 7 0 a0) (fa1 : yAt T 11 0 6 a1) (g0 : xG lv 0 = some (.ref a0)) (g1 : xG lv 1 = some (.ref a1)) (g2 : xG lv 2 = some (.int l2)) (g4 : xG lv 4 = some (.int l4)) (g5 : xG lv 5 = some (.int l5)) (hM : cR [0, 1, 2, 3, 4, 5, 6, 7] F ev T S hp) (h : f_X4_firstWrong_21 n N S l2 l4 l5 = some (v, S')), yWE ev.2.1 (xstr ev) (xCalls ev xmi (xprog ev) prim (d + 6)) (pX4_firstWrong ev) (21, lv, [], hp, sz, 0) (ypQ [0, 1, 2, 3, 4, 5, 6, 7] F ev T sz (some (.int v)) S') := by
  induction n with
  | zero => intro S l2 l4 l5 hp lv a0 a1 fa0 fa1 g0 g1 g2 g4 g5 hM h; exact n_some h
  | succ n ih =>
    intro S l2 l4 l5 hp lv a0 a1 fa0 fa1 g0 g1 g2 g4 g5 hM h
    unfold f_X4_firstWrong_21 at h
    refine ye_iload rfl g5 ?_
    refine ye_iload rfl g4 ?_
    refine ye_icmp_ge rfl (fun h1 => ?_) (fun h1 => ?_)
    · replace h := yiT h1 h
      refine ye_iload rfl g2 ?_
      refine ye_iload rfl g4 ?_
      refine ye_icmp_gt rfl (fun h2 => ?_) (fun h2 => ?_)
      · replace h := yiT h2 h
        exact w_X4_firstWrong_61 (prim := prim) (d := d) N S l4 hp lv g4 hM h
      · replace h := yiN h2 h
        refine ye_aload rfl g0 ?_
        obtain ⟨w1, hw1, h⟩ := bV_some h
        refine ye_callV (As := []) (rest := []) 0 (Or.inl rfl) rfl rfl rfl (Nat.le_of_ble_eq_true rfl) (hM.obj fa0 ⟨rfl, rfl⟩) ((m_X4_mayEnd (d := d + 5) (T := T) N S a0 fa0 hw1) hp sz hM) ?_
        refine ye_if_ne rfl (fun h3 => ?_) (fun h3 => ?_)
        · replace h := yiT h3 h
          refine ye_aload rfl g0 ?_
          refine ye_p rfl rfl ?_
          obtain ⟨w2, S1, hw2, h⟩ := bS_some h
          obtain ⟨y1, cy1, M1⟩ := (m_X4_releaseDownTo (d := d + 4) (T := T) N S 1 a0 fa0 hw2) hp sz hM
          refine ye_callV (As := [.int 1]) (rest := []) 0 (Or.inl rfl) rfl rfl rfl (Nat.le_of_ble_eq_true rfl) (hM.obj fa0 ⟨rfl, rfl⟩) cy1 ?_
          refine ye_aload rfl g0 ?_
          obtain ⟨w3, S2, hw3, h⟩ := bS_some h
          obtain ⟨y2, cy2, M2⟩ := (m_X4_closeChoices (d := d + 4) (T := T) N S1 a0 fa0 hw3) y1 sz M1
          refine ye_callV (As := []) (rest := []) 0 (Or.inl rfl) rfl rfl rfl (Nat.le_of_ble_eq_true rfl) (M1.obj fa0 ⟨rfl, rfl⟩) cy2 ?_
          refine ye_p rfl rfl ?_
          exact ye_ret rfl rfl (rQ h M2)
        · replace h := yiN h3 h
          exact w_X4_firstWrong_61 (prim := prim) (d := d) N S l4 hp lv g4 hM h
    · replace h := yiN h1 h
      refine ye_aload rfl g0 ?_
      refine ye_aload rfl g1 ?_
      refine ye_iload rfl g5 ?_
      obtain ⟨j1, ej1, ij1, h⟩ := gA_some h
      refine yj_ald rfl (hM.arr fa1 yr_11_5) ij1 ej1 ?_
      obtain ⟨w4, S3, hw4, h⟩ := bS_some h
      obtain ⟨y3, cy3, M3⟩ := (m_X4_takes (d := d + 0) (T := T) N S (S.2.1 0 5 j1) a0 fa0 hw4) hp sz hM
      refine ye_callV (As := [.int (S.2.1 0 5 j1)]) (rest := []) 0 (Or.inl rfl) rfl rfl rfl (Nat.le_of_ble_eq_true rfl) (hM.obj fa0 ⟨rfl, rfl⟩) cy3 ?_
      refine ye_if_ne rfl (fun h4 => ?_) (fun h4 => ?_)
      · replace h := yiT h4 h
        refine ye_iinc rfl g5 ?_
        have g0_z1 := xG_o1 (i := 5) (v := .int (l5 + 1)) g0 rfl
        have g1_z1 := xG_o1 (i := 5) (v := .int (l5 + 1)) g1 rfl
        have g2_z1 := xG_o1 (i := 5) (v := .int (l5 + 1)) g2 rfl
        have g4_z1 := xG_o1 (i := 5) (v := .int (l5 + 1)) g4 rfl
        have g5_z1 := xG_same lv 5 (.int (l5 + 1))
        generalize xSt1 lv 5 (.int (l5 + 1)) = lvz1 at g0_z1 g1_z1 g2_z1 g4_z1 g5_z1 ⊢
        refine ye_p rfl rfl ?_
        exact ih S3 l2 l4 (l5 + 1) y3 lvz1 a0 a1 fa0 fa1 g0_z1 g1_z1 g2_z1 g4_z1 g5_z1 M3 h
      · replace h := yiN h4 h
        refine ye_iload rfl g5 ?_
        exact ye_ret rfl rfl (rQ h M3)

def f_X4_firstWrong_0 (N : Nat) (S : yS) (l2 : Int32) (l3 : Int32) : Option (Int32 × yS) := bS (f_X4_begin N S l3) fun w1 S1 => f_X4_firstWrong_21 N N S1 l2 (if (if (Int32.ofNat 100) < 60 then (Int32.ofNat 100) else 60) < l2 then (if (Int32.ofNat 100) < 60 then (Int32.ofNat 100) else 60) else l2) 0
set_option maxHeartbeats 4000000 in
set_option maxRecDepth 40000 in
theorem w_X4_firstWrong_0 {F : xH} {ev : xEv} {prim : xRel} {d sz : Nat} {T : yT} {v : Int32} {S' : yS} (N : Nat) (S : yS) (l2 : Int32) (l3 : Int32) (hp : xH) (lv : xLv) (a0 : Nat) (a1 : Nat) (fa0 : yAt T 4 7 0 a0) (fa1 : yAt T 11 0 6 a1) (g0 : xG lv 0 = some (.ref a0)) (g1 : xG lv 1 = some (.ref a1)) (g2 : xG lv 2 = some (.int l2)) (g3 : xG lv 3 = some (.int l3)) (hM : cR [0, 1, 2, 3, 4, 5, 6, 7] F ev T S hp) (h : f_X4_firstWrong_0 N S l2 l3 = some (v, S')) : yWE ev.2.1 (xstr ev) (xCalls ev xmi (xprog ev) prim (d + 6)) (pX4_firstWrong ev) (0, lv, [], hp, sz, 0) (ypQ [0, 1, 2, 3, 4, 5, 6, 7] F ev T sz (some (.int v)) S') := by
  unfold f_X4_firstWrong_0 at h
  refine ye_aload rfl g0 ?_
  refine ye_iload rfl g3 ?_
  obtain ⟨w1, S1, hw1, h⟩ := bS_some h
  obtain ⟨y1, cy1, M1⟩ := (m_X4_begin (d := d + 5) (T := T) N S l3 a0 fa0 hw1) hp sz hM
  refine ye_callV (As := [.int l3]) (rest := []) 0 (Or.inl rfl) rfl rfl rfl (Nat.le_of_ble_eq_true rfl) (hM.obj fa0 ⟨rfl, rfl⟩) cy1 ?_
  refine ye_iload rfl g2 ?_
  refine ye_p rfl rfl ?_
  refine ye_aload rfl g1 ?_
  refine ye_alen rfl (M1.arr fa1 yr_11_5) ?_
  refine ye_p rfl rfl ?_
  refine ye_p rfl rfl ?_
  refine ye_p rfl rfl ?_
  have g0_z1 := xG_o1 (i := 4) (v := .int (if (if (Int32.ofNat 100) < 60 then (Int32.ofNat 100) else 60) < l2 then (if (Int32.ofNat 100) < 60 then (Int32.ofNat 100) else 60) else l2)) g0 rfl
  have g1_z1 := xG_o1 (i := 4) (v := .int (if (if (Int32.ofNat 100) < 60 then (Int32.ofNat 100) else 60) < l2 then (if (Int32.ofNat 100) < 60 then (Int32.ofNat 100) else 60) else l2)) g1 rfl
  have g2_z1 := xG_o1 (i := 4) (v := .int (if (if (Int32.ofNat 100) < 60 then (Int32.ofNat 100) else 60) < l2 then (if (Int32.ofNat 100) < 60 then (Int32.ofNat 100) else 60) else l2)) g2 rfl
  have g4_z1 := xG_same lv 4 (.int (if (if (Int32.ofNat 100) < 60 then (Int32.ofNat 100) else 60) < l2 then (if (Int32.ofNat 100) < 60 then (Int32.ofNat 100) else 60) else l2))
  generalize xSt1 lv 4 (.int (if (if (Int32.ofNat 100) < 60 then (Int32.ofNat 100) else 60) < l2 then (if (Int32.ofNat 100) < 60 then (Int32.ofNat 100) else 60) else l2)) = lvz1 at g0_z1 g1_z1 g2_z1 g4_z1 ⊢
  refine ye_p rfl rfl ?_
  refine ye_p rfl rfl ?_
  have g0_z2 := xG_o1 (i := 5) (v := .int 0) g0_z1 rfl
  have g1_z2 := xG_o1 (i := 5) (v := .int 0) g1_z1 rfl
  have g2_z2 := xG_o1 (i := 5) (v := .int 0) g2_z1 rfl
  have g4_z2 := xG_o1 (i := 5) (v := .int 0) g4_z1 rfl
  have g5_z2 := xG_same lvz1 5 (.int 0)
  generalize xSt1 lvz1 5 (.int 0) = lvz2 at g0_z2 g1_z2 g2_z2 g4_z2 g5_z2 ⊢
  exact w_X4_firstWrong_21 (prim := prim) (d := d) N N S1 l2 (if (if (Int32.ofNat 100) < 60 then (Int32.ofNat 100) else 60) < l2 then (if (Int32.ofNat 100) < 60 then (Int32.ofNat 100) else 60) else l2) 0 y1 lvz2 a0 a1 fa0 fa1 g0_z2 g1_z2 g2_z2 g4_z2 g5_z2 M1 h
def f_X4_firstWrong (N : Nat) (S : yS) (xl2 : Int32) (xl3 : Int32) : Option (Int32 × yS) := f_X4_firstWrong_0 N S xl2 xl3
theorem m_X4_firstWrong {F : xH} {ev : xEv} {prim : xRel} {d : Nat} {T : yT} {v : Int32} {S' : yS} (N : Nat) (S : yS) (xl2 : Int32) (xl3 : Int32) (a0 : Nat) (a1 : Nat) (fa0 : yAt T 4 7 0 a0) (fa1 : yAt T 11 0 6 a1) (h : f_X4_firstWrong N S xl2 xl3 = some (v, S')) : ykQ [0, 1, 2, 3, 4, 5, 6, 7] F ev prim (d + 7) 42 T S [.ref a0, .ref a1, .int xl2, .int xl3] (some (.int v)) S' :=
  ykQ.of (pg_42 ev) mi_42 (Nat.le_of_ble_eq_true rfl) (fun hp sz hM => w_X4_firstWrong_0 (prim := prim) (d := d) N S xl2 xl3 hp _ a0 a1 fa0 fa1 rfl rfl rfl rfl hM h)

def f_X11_force_0 (N : Nat) (S : yS) (l1 : Int32) (l2 : Int32) : Option (Int32 × yS) := sq (yI S 0 6 0) fun S1 => bV (f_X11_mayForce N S1 l1 l2) fun w1 => if ¬ w1 = 0 then bS (f_X4_firstWrong N S1 (S.1 0 6) l1) fun w2 S2 => if w2 = ((-1)) then if ¬ l1 = 2 then bS (f_X8r_add N S2 l1 l2 (S2.1 7 1)) fun w3 S3 => some (w3, S3) else bS (f_X8l_add N S2 l1 l2 (S2.1 7 1)) fun w4 S4 => some (w4, S4) else some (((-1)) - w2, S2) else some ((-100), S1)
set_option maxHeartbeats 4000000 in
set_option maxRecDepth 40000 in
theorem w_X11_force_0 {F : xH} {ev : xEv} {prim : xRel} {d sz : Nat} {T : yT} {v : Int32} {S' : yS} (N : Nat) (S : yS) (l1 : Int32) (l2 : Int32) (hp : xH) (lv : xLv) (a0 : Nat) (fa0 : yAt T 11 0 0 a0) (g0 : xG lv 0 = some (.ref a0)) (g1 : xG lv 1 = some (.int l1)) (g2 : xG lv 2 = some (.int l2)) (hM : cR [0, 1, 2, 3, 4, 5, 6, 7] F ev T S hp) (h : f_X11_force_0 N S l1 l2 = some (v, S')) : yWE ev.2.1 (xstr ev) (xCalls ev xmi (xprog ev) prim (d + 7)) (pX11_force ev) (0, lv, [], hp, sz, 0) (ypQ [0, 1, 2, 3, 4, 5, 6, 7] F ev T sz (some (.int v)) S') := by
  unfold f_X11_force_0 at h
  refine ye_aload rfl g0 ?_
  refine ye_getf rfl (hM.obj fa0 ⟨rfl, rfl⟩) rfl ?_
  refine ye_p rfl rfl ?_
  have g0_z1 := xG_o1 (i := 3) (v := .int (S.1 0 6)) g0 rfl
  have g1_z1 := xG_o1 (i := 3) (v := .int (S.1 0 6)) g1 rfl
  have g2_z1 := xG_o1 (i := 3) (v := .int (S.1 0 6)) g2 rfl
  have g3_z1 := xG_same lv 3 (.int (S.1 0 6))
  generalize xSt1 lv 3 (.int (S.1 0 6)) = lvz1 at g0_z1 g1_z1 g2_z1 g3_z1 ⊢
  refine ye_aload rfl g0_z1 ?_
  refine ye_p rfl rfl ?_
  obtain ⟨S1, eS1, h⟩ := sq_some h
  refine yw_putI rfl hM fa0 rfl ⟨rfl, rfl⟩ (Nat.le_of_ble_eq_true rfl) rfl rfl (ys_11_6 ev T _ 0) (fun q => absurd q (by decide)) eS1 (fun y1 M1 => ?_)
  refine ye_aload rfl g0_z1 ?_
  refine ye_iload rfl g1_z1 ?_
  refine ye_iload rfl g2_z1 ?_
  obtain ⟨w1, hw1, h⟩ := bV_some h
  refine ye_callV (As := [.int l1, .int l2]) (rest := []) 0 (Or.inl rfl) rfl rfl rfl (Nat.le_of_ble_eq_true rfl) (M1.obj fa0 ⟨rfl, rfl⟩) ((m_X11_mayForce (d := d + 4) (T := T) N S1 l1 l2 a0 fa0 hw1) y1 sz M1) ?_
  refine ye_if_ne rfl (fun h1 => ?_) (fun h1 => ?_)
  · replace h := yiT h1 h
    refine ye_aload rfl g0_z1 ?_
    refine ye_getr rfl (M1.obj fa0 ⟨rfl, rfl⟩) rfl (fun cx1 ecx1 => ?_)
    have fcx1 := M1.root 4 0 (by decide) rfl ecx1
    refine ye_aload rfl g0_z1 ?_
    refine ye_getr rfl (M1.obj fa0 ⟨rfl, rfl⟩) rfl (fun cx2 ecx2 => ?_)
    have fcx2 := yAt.row fa0 ecx2
    refine ye_iload rfl g3_z1 ?_
    refine ye_iload rfl g1_z1 ?_
    obtain ⟨w2, S2, hw2, h⟩ := bS_some h
    obtain ⟨y2, cy2, M2⟩ := (m_X4_firstWrong (d := d + 0) (T := T) N S1 (S.1 0 6) l1 cx1 cx2 fcx1 fcx2 hw2) y1 sz M1
    refine ye_callV (As := [.ref cx2, .int (S.1 0 6), .int l1]) (rest := []) 0 (Or.inl rfl) rfl rfl rfl (Nat.le_of_ble_eq_true rfl) (M1.obj fcx1 ⟨rfl, rfl⟩) cy2 ?_
    refine ye_p rfl rfl ?_
    have g0_z2 := xG_o1 (i := 4) (v := .int w2) g0_z1 rfl
    have g1_z2 := xG_o1 (i := 4) (v := .int w2) g1_z1 rfl
    have g2_z2 := xG_o1 (i := 4) (v := .int w2) g2_z1 rfl
    have g4_z2 := xG_same lvz1 4 (.int w2)
    generalize xSt1 lvz1 4 (.int w2) = lvz2 at g0_z2 g1_z2 g2_z2 g4_z2 ⊢
    refine ye_iload rfl g4_z2 ?_
    refine ye_p rfl rfl ?_
    refine ye_icmp_eq rfl (fun h2 => ?_) (fun h2 => ?_)
    · replace h := yiT h2 h
      refine ye_iload rfl g1_z2 ?_
      refine ye_p rfl rfl ?_
      refine ye_icmp_ne rfl (fun h3 => ?_) (fun h3 => ?_)
      · replace h := yiT h3 h
        refine ye_aload rfl g0_z2 ?_
        refine ye_getr rfl (M2.obj fa0 ⟨rfl, rfl⟩) rfl (fun cx3 ecx3 => ?_)
        have fcx3 := M2.root 10 0 (by decide) rfl ecx3
        refine ye_getr rfl (M2.obj fcx3 ⟨rfl, rfl⟩) rfl (fun cx4 ecx4 => ?_)
        have fcx4 := M2.root 14 0 (by decide) rfl ecx4
        refine ye_p rfl rfl ?_
        have g0_z3 := xG_o1 (i := 5) (v := .ref cx4) g0_z2 rfl
        have g1_z3 := xG_o1 (i := 5) (v := .ref cx4) g1_z2 rfl
        have g2_z3 := xG_o1 (i := 5) (v := .ref cx4) g2_z2 rfl
        have g5_z3 := xG_same lvz2 5 (.ref cx4)
        generalize xSt1 lvz2 5 (.ref cx4) = lvz3 at g0_z3 g1_z3 g2_z3 g5_z3 ⊢
        refine ye_aload rfl g5_z3 ?_
        refine ye_iload rfl g1_z3 ?_
        refine ye_iload rfl g2_z3 ?_
        refine ye_aload rfl g0_z3 ?_
        refine ye_getr rfl (M2.obj fa0 ⟨rfl, rfl⟩) rfl (fun cx5 ecx5 => ?_)
        have fcx5 := M2.root 4 0 (by decide) rfl ecx5
        refine ye_getr rfl (M2.obj fcx5 ⟨rfl, rfl⟩) rfl (fun cx6 ecx6 => ?_)
        have fcx6 := yAt.row fcx5 ecx6
        refine ye_aload rfl g0_z3 ?_
        refine ye_getr rfl (M2.obj fa0 ⟨rfl, rfl⟩) rfl (fun cx7 ecx7 => ?_)
        have fcx7 := M2.root 4 0 (by decide) rfl ecx7
        refine ye_getf rfl (M2.obj fcx7 ⟨rfl, rfl⟩) rfl ?_
        obtain ⟨w3, S3, hw3, h⟩ := bS_some h
        obtain ⟨y3, cy3, M3⟩ := (m_X8r_add (d := d + 6) (T := T) N S2 l1 l2 (S2.1 7 1) cx4 cx6 fcx4 fcx6 hw3) y2 sz M2
        refine ye_callV (As := [.int l1, .int l2, .ref cx6, .int (S2.1 7 1)]) (rest := []) 0 (Or.inl rfl) rfl rfl rfl (Nat.le_of_ble_eq_true rfl) (M2.obj fcx4 ⟨rfl, rfl⟩) cy3 ?_
        exact ye_ret rfl rfl (rQ h M3)
      · replace h := yiN h3 h
        refine ye_aload rfl g0_z2 ?_
        refine ye_getr rfl (M2.obj fa0 ⟨rfl, rfl⟩) rfl (fun cx8 ecx8 => ?_)
        have fcx8 := M2.root 10 0 (by decide) rfl ecx8
        refine ye_getr rfl (M2.obj fcx8 ⟨rfl, rfl⟩) rfl (fun cx9 ecx9 => ?_)
        have fcx9 := M2.root 8 0 (by decide) rfl ecx9
        refine ye_p rfl rfl ?_
        refine ye_p rfl rfl ?_
        have g0_z4 := xG_o1 (i := 5) (v := .ref cx9) g0_z2 rfl
        have g1_z4 := xG_o1 (i := 5) (v := .ref cx9) g1_z2 rfl
        have g2_z4 := xG_o1 (i := 5) (v := .ref cx9) g2_z2 rfl
        have g5_z4 := xG_same lvz2 5 (.ref cx9)
        generalize xSt1 lvz2 5 (.ref cx9) = lvz4 at g0_z4 g1_z4 g2_z4 g5_z4 ⊢
        refine ye_aload rfl g5_z4 ?_
        refine ye_iload rfl g1_z4 ?_
        refine ye_iload rfl g2_z4 ?_
        refine ye_aload rfl g0_z4 ?_
        refine ye_getr rfl (M2.obj fa0 ⟨rfl, rfl⟩) rfl (fun cx10 ecx10 => ?_)
        have fcx10 := M2.root 4 0 (by decide) rfl ecx10
        refine ye_getr rfl (M2.obj fcx10 ⟨rfl, rfl⟩) rfl (fun cx11 ecx11 => ?_)
        have fcx11 := yAt.row fcx10 ecx11
        refine ye_aload rfl g0_z4 ?_
        refine ye_getr rfl (M2.obj fa0 ⟨rfl, rfl⟩) rfl (fun cx12 ecx12 => ?_)
        have fcx12 := M2.root 4 0 (by decide) rfl ecx12
        refine ye_getf rfl (M2.obj fcx12 ⟨rfl, rfl⟩) rfl ?_
        obtain ⟨w4, S4, hw4, h⟩ := bS_some h
        obtain ⟨y4, cy4, M4⟩ := (m_X8l_add (d := d + 6) (T := T) N S2 l1 l2 (S2.1 7 1) cx9 cx11 fcx9 fcx11 hw4) y2 sz M2
        refine ye_callV (As := [.int l1, .int l2, .ref cx11, .int (S2.1 7 1)]) (rest := []) 0 (Or.inl rfl) rfl rfl rfl (Nat.le_of_ble_eq_true rfl) (M2.obj fcx9 ⟨rfl, rfl⟩) cy4 ?_
        exact ye_ret rfl rfl (rQ h M4)
    · replace h := yiN h2 h
      refine ye_p rfl rfl ?_
      refine ye_iload rfl g4_z2 ?_
      refine ye_p rfl rfl ?_
      exact ye_ret rfl rfl (rQ h M2)
  · replace h := yiN h1 h
    refine ye_p rfl rfl ?_
    exact ye_ret rfl rfl (rQ h M1)
def f_X11_force (N : Nat) (S : yS) (xl1 : Int32) (xl2 : Int32) : Option (Int32 × yS) := f_X11_force_0 N S xl1 xl2
theorem m_X11_force {F : xH} {ev : xEv} {prim : xRel} {d : Nat} {T : yT} {v : Int32} {S' : yS} (N : Nat) (S : yS) (xl1 : Int32) (xl2 : Int32) (a0 : Nat) (fa0 : yAt T 11 0 0 a0) (h : f_X11_force N S xl1 xl2 = some (v, S')) : ykQ [0, 1, 2, 3, 4, 5, 6, 7] F ev prim (d + 8) 146 T S [.ref a0, .int xl1, .int xl2] (some (.int v)) S' :=
  ykQ.of (pg_146 ev) mi_146 (Nat.le_of_ble_eq_true rfl) (fun hp sz hM => w_X11_force_0 (prim := prim) (d := d) N S xl1 xl2 hp _ a0 fa0 rfl rfl rfl hM h)
