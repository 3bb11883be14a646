
def f_X12_sign_20 : Nat → Nat → yS → Int32 → Int32 → Option (Int32 × yS)
  | 0, _, _, _, _ => none
  | n + 1, N, S, l1, l2 => if l2 < 0 then some (S.1 8 44, S) else sq (yI S 8 44 ((S.1 8 44) + 1)) fun S1 => gA 100 (S.1 8 44) fun j1 => sq (yA S1 8 43 (upd (S1.2.1 8 43) j1 (vp_nar .byte ((l1 >>> ((8 * l2) &&& 31)).toInt8.toInt32)))) fun S2 => f_X12_sign_20 n N S2 l1 (l2 + (-1))
set_option maxHeartbeats 4000000 in
set_option maxRecDepth 40000 in
theorem w_X12_sign_20 {F : xH} {ev : xEv} {prim : xRel} {d sz : Nat} {T : yT} {v : Int32} {S' : yS} (N : Nat) (n : Nat) : ∀ (S : yS) (l1 : Int32) (l2 : Int32) (hp : xH) (lv : xLv) (a0 : Nat) (fa0 : yAt T 12 8 0 a0) (g0 : xG lv 0 = some (.ref a0)) (g1 : xG lv 1 = some (.int l1)) (g2 : xG lv 2 = some (.int l2)) (hM : cR [8] F ev T S hp) (h : f_X12_sign_20 n N S l1 l2 = some (v, S')), yWE ev.2.1 (xstr ev) (xCalls ev xmi (xprog ev) prim (d + 0)) (pX12_sign ev) (20, lv, [], hp, sz, 0) (ypQ [8] F ev T sz (some (.int v)) S') := by
  induction n with
  | zero => intro S l1 l2 hp lv a0 fa0 g0 g1 g2 hM h; exact n_some h
  | succ n ih =>
    intro S l1 l2 hp lv a0 fa0 g0 g1 g2 hM h
    unfold f_X12_sign_20 at h
    refine ye_iload rfl g2 ?_
    refine ye_if_lt rfl (fun h1 => ?_) (fun h1 => ?_)
    · replace h := yiT h1 h
      refine ye_aload rfl g0 ?_
      refine ye_getf rfl (hM.obj fa0 ⟨rfl, rfl⟩) rfl ?_
      exact ye_ret rfl rfl (rQ h hM)
    · replace h := yiN h1 h
      refine ye_aload rfl g0 ?_
      refine ye_getr rfl (hM.obj fa0 ⟨rfl, rfl⟩) rfl (fun cx1 ecx1 => ?_)
      have fcx1 := yAt.row fa0 ecx1
      refine ye_aload rfl g0 ?_
      refine ye_p rfl rfl ?_
      refine ye_getf rfl (hM.obj fa0 ⟨rfl, rfl⟩) rfl ?_
      refine ye_p rfl rfl ?_
      refine ye_p rfl rfl ?_
      refine ye_p rfl rfl ?_
      obtain ⟨S1, eS1, h⟩ := sq_some h
      refine yw_putI rfl hM fa0 rfl ⟨rfl, rfl⟩ (Nat.le_of_ble_eq_true rfl) rfl rfl (ys_12_44 ev T _ ((S.1 8 44) + 1)) (fun q => absurd q (by decide)) eS1 (fun y1 M1 => ?_)
      refine ye_iload rfl g1 ?_
      refine ye_p rfl rfl ?_
      refine ye_iload rfl g2 ?_
      refine ye_p rfl rfl ?_
      refine ye_p rfl rfl ?_
      refine ye_p rfl rfl ?_
      obtain ⟨j1, ej1, ij1, h⟩ := gA_some h
      obtain ⟨S2, eS2, h⟩ := sq_some h
      refine yw_ast rfl M1 fcx1 yr_12_43 (by decide) ij1 ej1 eS2 (fun y2 M2 => ?_)
      refine ye_iinc rfl g2 ?_
      have g0_z1 := xG_o1 (i := 2) (v := .int (l2 + (-1))) g0 rfl
      have g1_z1 := xG_o1 (i := 2) (v := .int (l2 + (-1))) g1 rfl
      have g2_z1 := xG_same lv 2 (.int (l2 + (-1)))
      generalize xSt1 lv 2 (.int (l2 + (-1))) = lvz1 at g0_z1 g1_z1 g2_z1 ⊢
      refine ye_p rfl rfl ?_
      exact ih S2 l1 (l2 + (-1)) y2 lvz1 a0 fa0 g0_z1 g1_z1 g2_z1 M2 h

def f_X12_sign_0 (N : Nat) (S : yS) (l1 : Int32) : Option (Int32 × yS) := sq (yI S 8 47 0) fun S1 => if ((S1.1 8 44) + 4) ≤ 100 then f_X12_sign_20 N N S1 l1 3 else some ((-1), S1)
set_option maxHeartbeats 4000000 in
set_option maxRecDepth 40000 in
theorem w_X12_sign_0 {F : xH} {ev : xEv} {prim : xRel} {d sz : Nat} {T : yT} {v : Int32} {S' : yS} (N : Nat) (S : yS) (l1 : Int32) (hp : xH) (lv : xLv) (a0 : Nat) (fa0 : yAt T 12 8 0 a0) (g0 : xG lv 0 = some (.ref a0)) (g1 : xG lv 1 = some (.int l1)) (hM : cR [8] F ev T S hp) (h : f_X12_sign_0 N S l1 = some (v, S')) : yWE ev.2.1 (xstr ev) (xCalls ev xmi (xprog ev) prim (d + 0)) (pX12_sign ev) (0, lv, [], hp, sz, 0) (ypQ [8] F ev T sz (some (.int v)) S') := by
  unfold f_X12_sign_0 at h
  refine ye_aload rfl g0 ?_
  refine ye_p rfl rfl ?_
  obtain ⟨S1, eS1, h⟩ := sq_some h
  refine yw_putI rfl hM fa0 rfl ⟨rfl, rfl⟩ (Nat.le_of_ble_eq_true rfl) rfl rfl (ys_12_47 ev T _ 0) (fun q => absurd q (by decide)) eS1 (fun y1 M1 => ?_)
  refine ye_aload rfl g0 ?_
  refine ye_getf rfl (M1.obj fa0 ⟨rfl, rfl⟩) rfl ?_
  refine ye_p rfl rfl ?_
  refine ye_p rfl rfl ?_
  refine ye_p rfl rfl ?_
  refine ye_icmp_le rfl (fun h1 => ?_) (fun h1 => ?_)
  · replace h := yiT h1 h
    refine ye_p rfl rfl ?_
    refine ye_p rfl rfl ?_
    have g0_z1 := xG_o1 (i := 2) (v := .int 3) g0 rfl
    have g1_z1 := xG_o1 (i := 2) (v := .int 3) g1 rfl
    have g2_z1 := xG_same lv 2 (.int 3)
    generalize xSt1 lv 2 (.int 3) = lvz1 at g0_z1 g1_z1 g2_z1 ⊢
    exact w_X12_sign_20 (prim := prim) (d := d) N N S1 l1 3 y1 lvz1 a0 fa0 g0_z1 g1_z1 g2_z1 M1 h
  · replace h := yiN h1 h
    refine ye_p rfl rfl ?_
    exact ye_ret rfl rfl (rQ h M1)
def f_X12_sign (N : Nat) (S : yS) (xl1 : Int32) : Option (Int32 × yS) := f_X12_sign_0 N S xl1
theorem m_X12_sign {F : xH} {ev : xEv} {prim : xRel} {d : Nat} {T : yT} {v : Int32} {S' : yS} (N : Nat) (S : yS) (xl1 : Int32) (a0 : Nat) (fa0 : yAt T 12 8 0 a0) (h : f_X12_sign N S xl1 = some (v, S')) : ykQ [8] F ev prim (d + 1) 229 T S [.ref a0, .int xl1] (some (.int v)) S' :=
  ykQ.of (pg_229 ev) mi_229 (Nat.le_of_ble_eq_true rfl) (fun hp sz hM => w_X12_sign_0 (prim := prim) (d := d) N S xl1 hp _ a0 fa0 rfl rfl hM h)

def f_X12_end_0 (N : Nat) (S : yS) (l1 : Int32) : Option (Int32 × yS) := sq (yI S 8 47 0) fun S1 => bV (f_X12_in N S1 l1 0 (S1.1 8 44)) fun w1 => if ¬ w1 = 0 then sq (yI S1 8 44 l1) fun S2 => some (1, S2) else some (0, S1)
set_option maxHeartbeats 4000000 in
set_option maxRecDepth 40000 in
theorem w_X12_end_0 {F : xH} {ev : xEv} {prim : xRel} {d sz : Nat} {T : yT} {v : Int32} {S' : yS} (N : Nat) (S : yS) (l1 : Int32) (hp : xH) (lv : xLv) (a0 : Nat) (fa0 : yAt T 12 8 0 a0) (g0 : xG lv 0 = some (.ref a0)) (g1 : xG lv 1 = some (.int l1)) (hM : cR [8] F ev T S hp) (h : f_X12_end_0 N S l1 = some (v, S')) : yWE ev.2.1 (xstr ev) (xCalls ev xmi (xprog ev) prim (d + 1)) (pX12_end ev) (0, lv, [], hp, sz, 0) (ypQ [8] F ev T sz (some (.int v)) S') := by
  unfold f_X12_end_0 at h
  refine ye_aload rfl g0 ?_
  refine ye_p rfl rfl ?_
  obtain ⟨S1, eS1, h⟩ := sq_some h
  refine yw_putI rfl hM fa0 rfl ⟨rfl, rfl⟩ (Nat.le_of_ble_eq_true rfl) rfl rfl (ys_12_47 ev T _ 0) (fun q => absurd q (by decide)) eS1 (fun y1 M1 => ?_)
  refine ye_iload rfl g1 ?_
  refine ye_p rfl rfl ?_
  refine ye_aload rfl g0 ?_
  refine ye_getf rfl (M1.obj fa0 ⟨rfl, rfl⟩) rfl ?_
  obtain ⟨w1, hw1, h⟩ := bV_some h
  refine ye_callS (As := [.int l1, .int 0, .int (S1.1 8 44)]) (rest := []) 1 (Or.inl rfl) rfl rfl rfl (Nat.le_of_ble_eq_true rfl) ((m_X12_in (d := d + 0) (T := T) N S1 l1 0 (S1.1 8 44) hw1) y1 sz M1) ?_
  refine ye_if_ne rfl (fun h1 => ?_) (fun h1 => ?_)
  · replace h := yiT h1 h
    refine ye_aload rfl g0 ?_
    refine ye_iload rfl g1 ?_
    obtain ⟨S2, eS2, h⟩ := sq_some h
    refine yw_putI rfl M1 fa0 rfl ⟨rfl, rfl⟩ (Nat.le_of_ble_eq_true rfl) rfl rfl (ys_12_44 ev T _ l1) (fun q => absurd q (by decide)) eS2 (fun y2 M2 => ?_)
    refine ye_p rfl rfl ?_
    exact ye_ret rfl rfl (rQ h M2)
  · replace h := yiN h1 h
    refine ye_p rfl rfl ?_
    exact ye_ret rfl rfl (rQ h M1)
def f_X12_end (N : Nat) (S : yS) (xl1 : Int32) : Option (Int32 × yS) := f_X12_end_0 N S xl1
theorem m_X12_end {F : xH} {ev : xEv} {prim : xRel} {d : Nat} {T : yT} {v : Int32} {S' : yS} (N : Nat) (S : yS) (xl1 : Int32) (a0 : Nat) (fa0 : yAt T 12 8 0 a0) (h : f_X12_end N S xl1 = some (v, S')) : ykQ [8] F ev prim (d + 2) 230 T S [.ref a0, .int xl1] (some (.int v)) S' :=
  ykQ.of (pg_230 ev) mi_230 (Nat.le_of_ble_eq_true rfl) (fun hp sz hM => w_X12_end_0 (prim := prim) (d := d) N S xl1 hp _ a0 fa0 rfl rfl hM h)

def f_X12_here_42 (N : Nat) (S : yS) (t0 : Int32) : Option Int32 := some t0
set_option maxHeartbeats 4000000 in
set_option maxRecDepth 40000 in
theorem w_X12_here_42 {F : xH} {ev : xEv} {prim : xRel} {d sz : Nat} {T : yT} {v : Int32} {hp : xH} (N : Nat) (S : yS) (t0 : Int32) (lv : xLv) (hM : cR [8] F ev T S hp) (h : f_X12_here_42 N S t0 = some v) : yWE ev.2.1 (xstr ev) (xCalls ev xmi (xprog ev) prim (d + 0)) (pX12_here ev) (42, lv, [.int t0], hp, sz, 0) (ypP hp sz (.int v)) := by
  unfold f_X12_here_42 at h
  exact ye_ret rfl rfl (rP h)

def f_X12_here_41 (N : Nat) (S : yS) : Option Int32 := f_X12_here_42 N S ((-1))
set_option maxHeartbeats 4000000 in
set_option maxRecDepth 40000 in
theorem w_X12_here_41 {F : xH} {ev : xEv} {prim : xRel} {d sz : Nat} {T : yT} {v : Int32} {hp : xH} (N : Nat) (S : yS) (lv : xLv) (hM : cR [8] F ev T S hp) (h : f_X12_here_41 N S = some v) : yWE ev.2.1 (xstr ev) (xCalls ev xmi (xprog ev) prim (d + 0)) (pX12_here ev) (41, lv, [], hp, sz, 0) (ypP hp sz (.int v)) := by
  unfold f_X12_here_41 at h
  refine ye_p rfl rfl ?_
  exact w_X12_here_42 (prim := prim) (d := d) N S ((-1)) lv hM h

def f_X12_here_0 (N : Nat) (S : yS) : Option Int32 := if (S.1 8 52) ≤ (S.1 8 53) then f_X12_here_41 N S else if 60 ≤ (S.1 8 53) then f_X12_here_41 N S else gP (S.1 8 50 = 1 ∨ S.1 8 50 = 2) (gB S (S.1 8 50) ((S.1 8 51) + (S.1 8 53)) fun w1 => f_X12_here_42 N S (w1 &&& 255))
set_option maxHeartbeats 4000000 in
set_option maxRecDepth 40000 in
theorem w_X12_here_0 {F : xH} {ev : xEv} {prim : xRel} {d sz : Nat} {T : yT} {v : Int32} {hp : xH} (N : Nat) (S : yS) (lv : xLv) (a0 : Nat) (fa0 : yAt T 12 8 0 a0) (g0 : xG lv 0 = some (.ref a0)) (hM : cR [8] F ev T S hp) (h : f_X12_here_0 N S = some v) : yWE ev.2.1 (xstr ev) (xCalls ev xmi (xprog ev) prim (d + 0)) (pX12_here ev) (0, lv, [], hp, sz, 0) (ypP hp sz (.int v)) := by
  unfold f_X12_here_0 at h
  refine ye_aload rfl g0 ?_
  refine ye_getf rfl (hM.obj fa0 ⟨rfl, rfl⟩) rfl ?_
  refine ye_aload rfl g0 ?_
  refine ye_getf rfl (hM.obj fa0 ⟨rfl, rfl⟩) rfl ?_
  refine ye_icmp_ge rfl (fun h1 => ?_) (fun h1 => ?_)
  · replace h := yiT h1 h
    exact w_X12_here_41 (prim := prim) (d := d) N S lv hM h
  · replace h := yiN h1 h
    refine ye_aload rfl g0 ?_
    refine ye_getf rfl (hM.obj fa0 ⟨rfl, rfl⟩) rfl ?_
    refine ye_p rfl rfl ?_
    refine ye_icmp_ge rfl (fun h2 => ?_) (fun h2 => ?_)
    · replace h := yiT h2 h
      exact w_X12_here_41 (prim := prim) (d := d) N S lv hM h
    · replace h := yiN h2 h
      refine ye_aload rfl g0 ?_
      obtain ⟨i1, h⟩ := gP_some h
      obtain ⟨cx1, fcx1⟩ := yByt_ref (T := T) i1
      refine ye_getf rfl (hM.obj fa0 ⟨rfl, rfl⟩) rfl ?_
      rw [fcx1]
      refine ye_aload rfl g0 ?_
      refine ye_getf rfl (hM.obj fa0 ⟨rfl, rfl⟩) rfl ?_
      refine ye_aload rfl g0 ?_
      refine ye_getf rfl (hM.obj fa0 ⟨rfl, rfl⟩) rfl ?_
      refine ye_p rfl rfl ?_
      obtain ⟨w1, hw1, h⟩ := gB_some h
      refine ye_aldB rfl hM fcx1 hw1 ?_
      refine ye_p rfl rfl ?_
      refine ye_p rfl rfl ?_
      refine ye_p rfl rfl ?_
      exact w_X12_here_42 (prim := prim) (d := d) N S (w1 &&& 255) lv hM h
def f_X12_here (N : Nat) (S : yS) : Option Int32 := f_X12_here_0 N S
theorem m_X12_here {F : xH} {ev : xEv} {prim : xRel} {d : Nat} {T : yT} {v : Int32} (N : Nat) (S : yS) (a0 : Nat) (fa0 : yAt T 12 8 0 a0) (h : f_X12_here N S = some v) : ykP [8] F ev prim (d + 1) 231 T S [.ref a0] (.int v) :=
  ykP.of (pg_231 ev) mi_231 (Nat.le_of_ble_eq_true rfl) (fun hp sz hM => w_X12_here_0 (prim := prim) (d := d) N S _ a0 fa0 rfl hM h)

def f_X12_comes_0 (N : Nat) (S : yS) (l1 : Int32) : Option (Int32 × yS) := bV (f_X12_here N S) fun w1 => if w1 = l1 then sq (yI S 8 53 ((S.1 8 53) + 1)) fun S1 => some (1, S1) else some (0, S)
set_option maxHeartbeats 4000000 in
set_option maxRecDepth 40000 in
theorem w_X12_comes_0 {F : xH} {ev : xEv} {prim : xRel} {d sz : Nat} {T : yT} {v : Int32} {S' : yS} (N : Nat) (S : yS) (l1 : Int32) (hp : xH) (lv : xLv) (a0 : Nat) (fa0 : yAt T 12 8 0 a0) (g0 : xG lv 0 = some (.ref a0)) (g1 : xG lv 1 = some (.int l1)) (hM : cR [8] F ev T S hp) (h : f_X12_comes_0 N S l1 = some (v, S')) : yWE ev.2.1 (xstr ev) (xCalls ev xmi (xprog ev) prim (d + 1)) (pX12_comes ev) (0, lv, [], hp, sz, 0) (ypQ [8] F ev T sz (some (.int v)) S') := by
  unfold f_X12_comes_0 at h
  refine ye_aload rfl g0 ?_
  obtain ⟨w1, hw1, h⟩ := bV_some h
  refine ye_callV (As := []) (rest := []) 0 (Or.inl rfl) rfl rfl rfl (Nat.le_of_ble_eq_true rfl) (hM.obj fa0 ⟨rfl, rfl⟩) ((m_X12_here (d := d + 0) (T := T) N S a0 fa0 hw1) hp sz hM) ?_
  refine ye_iload rfl g1 ?_
  refine ye_icmp_eq rfl (fun h1 => ?_) (fun h1 => ?_)
  · replace h := yiT h1 h
    refine ye_aload rfl g0 ?_
    refine ye_p rfl rfl ?_
    refine ye_getf rfl (hM.obj fa0 ⟨rfl, rfl⟩) rfl ?_
    refine ye_p rfl rfl ?_
    refine ye_p rfl rfl ?_
    obtain ⟨S1, eS1, h⟩ := sq_some h
    refine yw_putI rfl hM fa0 rfl ⟨rfl, rfl⟩ (Nat.le_of_ble_eq_true rfl) rfl rfl (ys_12_53 ev T _ ((S.1 8 53) + 1)) (fun q => absurd q (by decide)) eS1 (fun y1 M1 => ?_)
    refine ye_p rfl rfl ?_
    exact ye_ret rfl rfl (rQ h M1)
  · replace h := yiN h1 h
    refine ye_p rfl rfl ?_
    exact ye_ret rfl rfl (rQ h hM)
def f_X12_comes (N : Nat) (S : yS) (xl1 : Int32) : Option (Int32 × yS) := f_X12_comes_0 N S xl1
theorem m_X12_comes {F : xH} {ev : xEv} {prim : xRel} {d : Nat} {T : yT} {v : Int32} {S' : yS} (N : Nat) (S : yS) (xl1 : Int32) (a0 : Nat) (fa0 : yAt T 12 8 0 a0) (h : f_X12_comes N S xl1 = some (v, S')) : ykQ [8] F ev prim (d + 2) 232 T S [.ref a0, .int xl1] (some (.int v)) S' :=
  ykQ.of (pg_232 ev) mi_232 (Nat.le_of_ble_eq_true rfl) (fun hp sz hM => w_X12_comes_0 (prim := prim) (d := d) N S xl1 hp _ a0 fa0 rfl rfl hM h)

def f_X12_isWrong_16 (N : Nat) (S : yS) : Option (Int32 × yS) := some (0, S)
set_option maxHeartbeats 4000000 in
set_option maxRecDepth 40000 in
theorem w_X12_isWrong_16 {F : xH} {ev : xEv} {prim : xRel} {d sz : Nat} {T : yT} {v : Int32} {S' : yS} (N : Nat) (S : yS) (hp : xH) (lv : xLv) (hM : cR [8] F ev T S hp) (h : f_X12_isWrong_16 N S = some (v, S')) : yWE ev.2.1 (xstr ev) (xCalls ev xmi (xprog ev) prim (d + 0)) (pX12_isWrong ev) (16, lv, [], hp, sz, 0) (ypQ [8] F ev T sz (some (.int v)) S') := by
  unfold f_X12_isWrong_16 at h
  refine ye_p rfl rfl ?_
  exact ye_ret rfl rfl (rQ h hM)

def f_X12_isWrong_0 (N : Nat) (S : yS) : Option (Int32 × yS) := if ¬ (S.1 8 54) = ((-1)) then f_X12_isWrong_16 N S else sq (yI S 8 54 (S.1 8 53)) fun S1 => f_X12_isWrong_16 N S1
set_option maxHeartbeats 4000000 in
set_option maxRecDepth 40000 in
theorem w_X12_isWrong_0 {F : xH} {ev : xEv} {prim : xRel} {d sz : Nat} {T : yT} {v : Int32} {S' : yS} (N : Nat) (S : yS) (hp : xH) (lv : xLv) (a0 : Nat) (fa0 : yAt T 12 8 0 a0) (g0 : xG lv 0 = some (.ref a0)) (hM : cR [8] F ev T S hp) (h : f_X12_isWrong_0 N S = some (v, S')) : yWE ev.2.1 (xstr ev) (xCalls ev xmi (xprog ev) prim (d + 0)) (pX12_isWrong ev) (0, lv, [], hp, sz, 0) (ypQ [8] F ev T sz (some (.int v)) S') := by
  unfold f_X12_isWrong_0 at h
  refine ye_aload rfl g0 ?_
  refine ye_getf rfl (hM.obj fa0 ⟨rfl, rfl⟩) rfl ?_
  refine ye_p rfl rfl ?_
  refine ye_icmp_ne rfl (fun h1 => ?_) (fun h1 => ?_)
  · replace h := yiT h1 h
    exact w_X12_isWrong_16 (prim := prim) (d := d) N S hp lv hM h
  · replace h := yiN h1 h
    refine ye_aload rfl g0 ?_
    refine ye_aload rfl g0 ?_
    refine ye_getf rfl (hM.obj fa0 ⟨rfl, rfl⟩) rfl ?_
    obtain ⟨S1, eS1, h⟩ := sq_some h
    refine yw_putI rfl hM fa0 rfl ⟨rfl, rfl⟩ (Nat.le_of_ble_eq_true rfl) rfl rfl (ys_12_54 ev T _ (S.1 8 53)) (fun q => absurd q (by decide)) eS1 (fun y1 M1 => ?_)
    exact w_X12_isWrong_16 (prim := prim) (d := d) N S1 y1 lv M1 h
def f_X12_isWrong (N : Nat) (S : yS) : Option (Int32 × yS) := f_X12_isWrong_0 N S
theorem m_X12_isWrong {F : xH} {ev : xEv} {prim : xRel} {d : Nat} {T : yT} {v : Int32} {S' : yS} (N : Nat) (S : yS) (a0 : Nat) (fa0 : yAt T 12 8 0 a0) (h : f_X12_isWrong N S = some (v, S')) : ykQ [8] F ev prim (d + 1) 233 T S [.ref a0] (some (.int v)) S' :=
  ykQ.of (pg_233 ev) mi_233 (Nat.le_of_ble_eq_true rfl) (fun hp sz hM => w_X12_isWrong_0 (prim := prim) (d := d) N S hp _ a0 fa0 rfl hM h)

def f_X12_isDigit_23 (N : Nat) (S : yS) (t0 : Int32) : Option Int32 := gP (t0 = 0 ∨ t0 = 1) (some t0)
set_option maxHeartbeats 4000000 in
set_option maxRecDepth 40000 in
theorem w_X12_isDigit_23 {F : xH} {ev : xEv} {prim : xRel} {d sz : Nat} {T : yT} {v : Int32} {hp : xH} (N : Nat) (S : yS) (t0 : Int32) (lv : xLv) (hM : cR [8] F ev T S hp) (h : f_X12_isDigit_23 N S t0 = some v) : yWE ev.2.1 (xstr ev) (xCalls ev xmi (xprog ev) prim (d + 1)) (pX12_isDigit ev) (23, lv, [.int t0], hp, sz, 0) (ypP hp sz (.int v)) := by
  unfold f_X12_isDigit_23 at h
  obtain ⟨i1, h⟩ := gP_some h
  exact ye_ret rfl (if_pos (zb_nar i1)) (rP h)

def f_X12_isDigit_22 (N : Nat) (S : yS) : Option Int32 := f_X12_isDigit_23 N S 0
set_option maxHeartbeats 4000000 in
set_option maxRecDepth 40000 in
theorem w_X12_isDigit_22 {F : xH} {ev : xEv} {prim : xRel} {d sz : Nat} {T : yT} {v : Int32} {hp : xH} (N : Nat) (S : yS) (lv : xLv) (hM : cR [8] F ev T S hp) (h : f_X12_isDigit_22 N S = some v) : yWE ev.2.1 (xstr ev) (xCalls ev xmi (xprog ev) prim (d + 1)) (pX12_isDigit ev) (22, lv, [], hp, sz, 0) (ypP hp sz (.int v)) := by
  unfold f_X12_isDigit_22 at h
  refine ye_p rfl rfl ?_
  exact w_X12_isDigit_23 (prim := prim) (d := d) N S 0 lv hM h

def f_X12_isDigit_0 (N : Nat) (S : yS) : Option Int32 := bV (f_X12_here N S) fun w1 => if w1 < 48 then f_X12_isDigit_22 N S else bV (f_X12_here N S) fun w2 => if 57 < w2 then f_X12_isDigit_22 N S else f_X12_isDigit_23 N S 1
set_option maxHeartbeats 4000000 in
set_option maxRecDepth 40000 in
theorem w_X12_isDigit_0 {F : xH} {ev : xEv} {prim : xRel} {d sz : Nat} {T : yT} {v : Int32} {hp : xH} (N : Nat) (S : yS) (lv : xLv) (a0 : Nat) (fa0 : yAt T 12 8 0 a0) (g0 : xG lv 0 = some (.ref a0)) (hM : cR [8] F ev T S hp) (h : f_X12_isDigit_0 N S = some v) : yWE ev.2.1 (xstr ev) (xCalls ev xmi (xprog ev) prim (d + 1)) (pX12_isDigit ev) (0, lv, [], hp, sz, 0) (ypP hp sz (.int v)) := by
  unfold f_X12_isDigit_0 at h
  refine ye_aload rfl g0 ?_
  obtain ⟨w1, hw1, h⟩ := bV_some h
  refine ye_callV (As := []) (rest := []) 0 (Or.inl rfl) rfl rfl rfl (Nat.le_of_ble_eq_true rfl) (hM.obj fa0 ⟨rfl, rfl⟩) ((m_X12_here (d := d + 0) (T := T) N S a0 fa0 hw1) hp sz hM) ?_
  refine ye_p rfl rfl ?_
  refine ye_icmp_lt rfl (fun h1 => ?_) (fun h1 => ?_)
  · replace h := yiT h1 h
    exact w_X12_isDigit_22 (prim := prim) (d := d) N S lv hM h
  · replace h := yiN h1 h
    refine ye_aload rfl g0 ?_
    obtain ⟨w2, hw2, h⟩ := bV_some h
    refine ye_callV (As := []) (rest := []) 0 (Or.inl rfl) rfl rfl rfl (Nat.le_of_ble_eq_true rfl) (hM.obj fa0 ⟨rfl, rfl⟩) ((m_X12_here (d := d + 0) (T := T) N S a0 fa0 hw2) hp sz hM) ?_
    refine ye_p rfl rfl ?_
    refine ye_icmp_gt rfl (fun h2 => ?_) (fun h2 => ?_)
    · replace h := yiT h2 h
      exact w_X12_isDigit_22 (prim := prim) (d := d) N S lv hM h
    · replace h := yiN h2 h
      refine ye_p rfl rfl ?_
      refine ye_p rfl rfl ?_
      exact w_X12_isDigit_23 (prim := prim) (d := d) N S 1 lv hM h
def f_X12_isDigit (N : Nat) (S : yS) : Option Int32 := f_X12_isDigit_0 N S
theorem m_X12_isDigit {F : xH} {ev : xEv} {prim : xRel} {d : Nat} {T : yT} {v : Int32} (N : Nat) (S : yS) (a0 : Nat) (fa0 : yAt T 12 8 0 a0) (h : f_X12_isDigit N S = some v) : ykP [8] F ev prim (d + 2) 234 T S [.ref a0] (.int v) :=
  ykP.of (pg_234 ev) mi_234 (Nat.le_of_ble_eq_true rfl) (fun hp sz hM => w_X12_isDigit_0 (prim := prim) (d := d) N S _ a0 fa0 rfl hM h)

def f_X12_actsOf_13 (N : Nat) (S : yS) (n0 : Nat) : Option Nat := some n0
set_option maxHeartbeats 4000000 in
set_option maxRecDepth 40000 in
theorem w_X12_actsOf_13 {F : xH} {ev : xEv} {prim : xRel} {d sz : Nat} {T : yT} {v : Nat} {hp : xH} (N : Nat) (S : yS) (n0 : Nat) (lv : xLv) (hM : cR [8] F ev T S hp) (h : f_X12_actsOf_13 N S n0 = some v) : yWE ev.2.1 (xstr ev) (xCalls ev xmi (xprog ev) prim (d + 0)) (pX12_actsOf ev) (13, lv, [.ref (ev.2.1 n0)], hp, sz, 0) (ypP hp sz (.ref (ev.2.1 v))) := by
  unfold f_X12_actsOf_13 at h
  exact ye_ret rfl rfl (rPS h)

def f_X12_actsOf_0 (N : Nat) (S : yS) (l0 : Int32) : Option Nat := if ¬ l0 = 0 then f_X12_actsOf_13 N S 3 else f_X12_actsOf_13 N S 2
set_option maxHeartbeats 4000000 in
set_option maxRecDepth 40000 in
theorem w_X12_actsOf_0 {F : xH} {ev : xEv} {prim : xRel} {d sz : Nat} {T : yT} {v : Nat} {hp : xH} (N : Nat) (S : yS) (l0 : Int32) (lv : xLv) (g0 : xG lv 0 = some (.int l0)) (hM : cR [8] F ev T S hp) (h : f_X12_actsOf_0 N S l0 = some v) : yWE ev.2.1 (xstr ev) (xCalls ev xmi (xprog ev) prim (d + 0)) (pX12_actsOf ev) (0, lv, [], hp, sz, 0) (ypP hp sz (.ref (ev.2.1 v))) := by
  unfold f_X12_actsOf_0 at h
  refine ye_iload rfl g0 ?_
  refine ye_if_ne rfl (fun h1 => ?_) (fun h1 => ?_)
  · replace h := yiT h1 h
    refine ye_p rfl rfl ?_
    exact w_X12_actsOf_13 (prim := prim) (d := d) N S 3 lv hM h
  · replace h := yiN h1 h
    refine ye_p rfl rfl ?_
    refine ye_p rfl rfl ?_
    exact w_X12_actsOf_13 (prim := prim) (d := d) N S 2 lv hM h
def f_X12_actsOf (N : Nat) (S : yS) (xl0 : Int32) : Option Nat := f_X12_actsOf_0 N S xl0
theorem m_X12_actsOf {F : xH} {ev : xEv} {prim : xRel} {d : Nat} {T : yT} {v : Nat} (N : Nat) (S : yS) (xl0 : Int32) (h : f_X12_actsOf N S xl0 = some v) : ykP [8] F ev prim (d + 1) 243 T S [.int xl0] (.ref (ev.2.1 v)) :=
  ykP.of (pg_243 ev) mi_243 (Nat.le_of_ble_eq_true rfl) (fun hp sz hM => w_X12_actsOf_0 (prim := prim) (d := d) N S xl0 _ rfl hM h)

def f_X12_open_0 (N : Nat) (S : yS) (l1 : Int32) (l2 : Int32) (l3 : Int32) (m4 : Nat) : Option (Int32 × yS) := sq (yI S 8 50 l1) fun S1 => sq (yI S1 8 51 l2) fun S2 => sq (yI S2 8 52 l3) fun S3 => sq (yI S3 8 53 0) fun S4 => sq (yI S4 8 54 ((-1))) fun S5 => gP (m4 = 0 ∨ m4 = 1) (sq (yI S5 8 55 (Int32.ofNat (m4 + 1))) fun S6 => some (0, S6))
set_option maxHeartbeats 4000000 in
set_option maxRecDepth 40000 in
theorem w_X12_open_0 {F : xH} {ev : xEv} {prim : xRel} {d sz : Nat} {T : yT} {v : Int32} {S' : yS} (N : Nat) (S : yS) (l1 : Int32) (l2 : Int32) (l3 : Int32) (m4 : Nat) (hp : xH) (lv : xLv) (a0 : Nat) (a1 : Nat) (fa0 : yAt T 12 8 0 a0) (fa1 : yByt T l1 = .ref a1) (g0 : xG lv 0 = some (.ref a0)) (g1 : xG lv 1 = some (.ref a1)) (g2 : xG lv 2 = some (.int l2)) (g3 : xG lv 3 = some (.int l3)) (g4 : xG lv 4 = some (.ref (ev.2.1 m4))) (hM : cR [8] F ev T S hp) (h : f_X12_open_0 N S l1 l2 l3 m4 = some (v, S')) : yWE ev.2.1 (xstr ev) (xCalls ev xmi (xprog ev) prim (d + 0)) (pX12_open ev) (0, lv, [], hp, sz, 0) (ypQ [8] F ev T sz (none) S') := by
  unfold f_X12_open_0 at h
  refine ye_aload rfl g0 ?_
  refine ye_aload rfl g1 ?_
  obtain ⟨S1, eS1, h⟩ := sq_some h
  refine yw_putI rfl hM fa0 rfl ⟨rfl, rfl⟩ (Nat.le_of_ble_eq_true rfl) rfl rfl (ys_sg fa1) (fun q => absurd q (by decide)) eS1 (fun y1 M1 => ?_)
  refine ye_aload rfl g0 ?_
  refine ye_iload rfl g2 ?_
  obtain ⟨S2, eS2, h⟩ := sq_some h
  refine yw_putI rfl M1 fa0 rfl ⟨rfl, rfl⟩ (Nat.le_of_ble_eq_true rfl) rfl rfl (ys_12_51 ev T _ l2) (fun q => absurd q (by decide)) eS2 (fun y2 M2 => ?_)
  refine ye_aload rfl g0 ?_
  refine ye_iload rfl g3 ?_
  obtain ⟨S3, eS3, h⟩ := sq_some h
  refine yw_putI rfl M2 fa0 rfl ⟨rfl, rfl⟩ (Nat.le_of_ble_eq_true rfl) rfl rfl (ys_12_52 ev T _ l3) (fun q => absurd q (by decide)) eS3 (fun y3 M3 => ?_)
  refine ye_aload rfl g0 ?_
  refine ye_p rfl rfl ?_
  obtain ⟨S4, eS4, h⟩ := sq_some h
  refine yw_putI rfl M3 fa0 rfl ⟨rfl, rfl⟩ (Nat.le_of_ble_eq_true rfl) rfl rfl (ys_12_53 ev T _ 0) (fun q => absurd q (by decide)) eS4 (fun y4 M4 => ?_)
  refine ye_aload rfl g0 ?_
  refine ye_p rfl rfl ?_
  obtain ⟨S5, eS5, h⟩ := sq_some h
  refine yw_putI rfl M4 fa0 rfl ⟨rfl, rfl⟩ (Nat.le_of_ble_eq_true rfl) rfl rfl (ys_12_54 ev T _ ((-1))) (fun q => absurd q (by decide)) eS5 (fun y5 M5 => ?_)
  refine ye_aload rfl g0 ?_
  refine ye_aload rfl g4 ?_
  obtain ⟨i1, h⟩ := gP_some h
  obtain ⟨S6, eS6, h⟩ := sq_some h
  refine yw_putI rfl M5 fa0 rfl ⟨rfl, rfl⟩ (Nat.le_of_ble_eq_true rfl) rfl rfl (ys_nm i1) (fun q => absurd q (by decide)) eS6 (fun y6 M6 => ?_)
  exact ye_ret rfl rfl (rQV h M6)
def f_X12_open (N : Nat) (S : yS) (xl1 : Int32) (xl2 : Int32) (xl3 : Int32) (xm4 : Nat) : Option (Int32 × yS) := f_X12_open_0 N S xl1 xl2 xl3 xm4
theorem m_X12_open {F : xH} {ev : xEv} {prim : xRel} {d : Nat} {T : yT} {v : Int32} {S' : yS} (N : Nat) (S : yS) (xl1 : Int32) (xl2 : Int32) (xl3 : Int32) (xm4 : Nat) (a0 : Nat) (a1 : Nat) (fa0 : yAt T 12 8 0 a0) (fa1 : yByt T xl1 = .ref a1) (h : f_X12_open N S xl1 xl2 xl3 xm4 = some (v, S')) : ykQ [8] F ev prim (d + 1) 244 T S [.ref a0, .ref a1, .int xl2, .int xl3, .ref (ev.2.1 xm4)] (none) S' :=
  ykQ.of (pg_244 ev) mi_244 (Nat.le_of_ble_eq_true rfl) (fun hp sz hM => w_X12_open_0 (prim := prim) (d := d) N S xl1 xl2 xl3 xm4 hp _ a0 a1 fa0 fa1 rfl rfl rfl rfl rfl hM h)

def f_X12_textOf_96 (N : Nat) (k37 : yS → Int32 → Int32 → Int32 → Int32 → Int32 → Int32 → Option Int32) (S : yS) (l1 : Int32) (l2 : Int32) (l3 : Int32) (l4 : Int32) (l5 : Int32) (l6 : Int32) : Option Int32 := k37 S l1 l2 l3 l4 l5 (l6 + 1)
set_option maxHeartbeats 4000000 in
set_option maxRecDepth 40000 in
theorem w_X12_textOf_96 {F : xH} {ev : xEv} {prim : xRel} {d sz : Nat} {T : yT} {v : Int32} {hp : xH} (N : Nat) (k37 : yS → Int32 → Int32 → Int32 → Int32 → Int32 → Int32 → Option Int32) (u37 : ∀ (S : yS) (l1 : Int32) (l2 : Int32) (l3 : Int32) (l4 : Int32) (l5 : Int32) (l6 : Int32) (lv : xLv) (a0 : Nat) (fa0 : yAt T 12 8 0 a0) (g0 : xG lv 0 = some (.ref a0)) (g1 : xG lv 1 = some (.int l1)) (g2 : xG lv 2 = some (.int l2)) (g3 : xG lv 3 = some (.int l3)) (g4 : xG lv 4 = some (.int l4)) (g5 : xG lv 5 = some (.int l5)) (g6 : xG lv 6 = some (.int l6)) (hM : cR [8] F ev T S hp) (h : k37 S l1 l2 l3 l4 l5 l6 = some v), yWE ev.2.1 (xstr ev) (xCalls ev xmi (xprog ev) prim (d + 0)) (pX12_textOf ev) (37, lv, [], hp, sz, 0) (ypP hp sz (.int v))) (S : yS) (l1 : Int32) (l2 : Int32) (l3 : Int32) (l4 : Int32) (l5 : Int32) (l6 : Int32) (lv : xLv) (a0 : Nat) (fa0 : yAt T 12 8 0 a0) (g0 : xG lv 0 = some (.ref a0)) (g1 : xG lv 1 = some (.int l1)) (g2 : xG lv 2 = some (.int l2)) (g3 : xG lv 3 = some (.int l3)) (g4 : xG lv 4 = some (.int l4)) (g5 : xG lv 5 = some (.int l5)) (g6 : xG lv 6 = some (.int l6)) (hM : cR [8] F ev T S hp) (h : f_X12_textOf_96 N k37 S l1 l2 l3 l4 l5 l6 = some v) : yWE ev.2.1 (xstr ev) (xCalls ev xmi (xprog ev) prim (d + 0)) (pX12_textOf ev) (96, lv, [], hp, sz, 0) (ypP hp sz (.int v)) := by
  unfold f_X12_textOf_96 at h
  refine ye_iinc rfl g6 ?_
  have g0_z1 := xG_o1 (i := 6) (v := .int (l6 + 1)) g0 rfl
  have g1_z1 := xG_o1 (i := 6) (v := .int (l6 + 1)) g1 rfl
  have g2_z1 := xG_o1 (i := 6) (v := .int (l6 + 1)) g2 rfl
  have g3_z1 := xG_o1 (i := 6) (v := .int (l6 + 1)) g3 rfl
  have g4_z1 := xG_o1 (i := 6) (v := .int (l6 + 1)) g4 rfl
  have g5_z1 := xG_o1 (i := 6) (v := .int (l6 + 1)) g5 rfl
  have g6_z1 := xG_same lv 6 (.int (l6 + 1))
  generalize xSt1 lv 6 (.int (l6 + 1)) = lvz1 at g0_z1 g1_z1 g2_z1 g3_z1 g4_z1 g5_z1 g6_z1 ⊢
  refine ye_p rfl rfl ?_
  exact u37 S l1 l2 l3 l4 l5 (l6 + 1) lvz1 a0 fa0 g0_z1 g1_z1 g2_z1 g3_z1 g4_z1 g5_z1 g6_z1 hM h

def f_X12_textOf_93 (N : Nat) (k37 : yS → Int32 → Int32 → Int32 → Int32 → Int32 → Int32 → Option Int32) (S : yS) (l1 : Int32) (l2 : Int32) (l4 : Int32) (l5 : Int32) (l6 : Int32) : Option Int32 := f_X12_textOf_96 N k37 S l1 l2 l6 l4 l5 l6
set_option maxHeartbeats 4000000 in
set_option maxRecDepth 40000 in
theorem w_X12_textOf_93 {F : xH} {ev : xEv} {prim : xRel} {d sz : Nat} {T : yT} {v : Int32} {hp : xH} (N : Nat) (k37 : yS → Int32 → Int32 → Int32 → Int32 → Int32 → Int32 → Option Int32) (u37 : ∀ (S : yS) (l1 : Int32) (l2 : Int32) (l3 : Int32) (l4 : Int32) (l5 : Int32) (l6 : Int32) (lv : xLv) (a0 : Nat) (fa0 : yAt T 12 8 0 a0) (g0 : xG lv 0 = some (.ref a0)) (g1 : xG lv 1 = some (.int l1)) (g2 : xG lv 2 = some (.int l2)) (g3 : xG lv 3 = some (.int l3)) (g4 : xG lv 4 = some (.int l4)) (g5 : xG lv 5 = some (.int l5)) (g6 : xG lv 6 = some (.int l6)) (hM : cR [8] F ev T S hp) (h : k37 S l1 l2 l3 l4 l5 l6 = some v), yWE ev.2.1 (xstr ev) (xCalls ev xmi (xprog ev) prim (d + 0)) (pX12_textOf ev) (37, lv, [], hp, sz, 0) (ypP hp sz (.int v))) (S : yS) (l1 : Int32) (l2 : Int32) (l4 : Int32) (l5 : Int32) (l6 : Int32) (lv : xLv) (a0 : Nat) (fa0 : yAt T 12 8 0 a0) (g0 : xG lv 0 = some (.ref a0)) (g1 : xG lv 1 = some (.int l1)) (g2 : xG lv 2 = some (.int l2)) (g4 : xG lv 4 = some (.int l4)) (g5 : xG lv 5 = some (.int l5)) (g6 : xG lv 6 = some (.int l6)) (hM : cR [8] F ev T S hp) (h : f_X12_textOf_93 N k37 S l1 l2 l4 l5 l6 = some v) : yWE ev.2.1 (xstr ev) (xCalls ev xmi (xprog ev) prim (d + 0)) (pX12_textOf ev) (93, lv, [], hp, sz, 0) (ypP hp sz (.int v)) := by
  unfold f_X12_textOf_93 at h
  refine ye_iload rfl g6 ?_
  refine ye_p rfl rfl ?_
  have g0_z1 := xG_o1 (i := 3) (v := .int l6) g0 rfl
  have g1_z1 := xG_o1 (i := 3) (v := .int l6) g1 rfl
  have g2_z1 := xG_o1 (i := 3) (v := .int l6) g2 rfl
  have g4_z1 := xG_o1 (i := 3) (v := .int l6) g4 rfl
  have g5_z1 := xG_o1 (i := 3) (v := .int l6) g5 rfl
  have g6_z1 := xG_o1 (i := 3) (v := .int l6) g6 rfl
  have g3_z1 := xG_same lv 3 (.int l6)
  generalize xSt1 lv 3 (.int l6) = lvz1 at g0_z1 g1_z1 g2_z1 g4_z1 g5_z1 g6_z1 g3_z1 ⊢
  exact w_X12_textOf_96 (prim := prim) (d := d) N k37 u37 S l1 l2 l6 l4 l5 l6 lvz1 a0 fa0 g0_z1 g1_z1 g2_z1 g3_z1 g4_z1 g5_z1 g6_z1 hM h

def f_X12_textOf_37 : Nat → Nat → yS → Int32 → Int32 → Int32 → Int32 → Int32 → Int32 → Option Int32
  | 0, _, _, _, _, _, _, _, _ => none
  | n + 1, N, S, l1, l2, l3, l4, l5, l6 => if (l4 + l5) ≤ l6 then some l3 else gA 32 l6 fun j1 => if ¬ (S.2.1 8 39 j1) = l1 then f_X12_textOf_96 N (fun S l1 l2 l3 l4 l5 l6 => f_X12_textOf_37 n N S l1 l2 l3 l4 l5 l6) S l1 l2 l3 l4 l5 l6 else gA 32 l6 fun j2 => if (S.2.1 8 40 j2) ≤ l2 then if l3 = ((-1)) then f_X12_textOf_93 N (fun S l1 l2 l3 l4 l5 l6 => f_X12_textOf_37 n N S l1 l2 l3 l4 l5 l6) S l1 l2 l4 l5 l6 else gA 32 l6 fun j3 => gA 32 l3 fun j4 => if (S.2.1 8 40 j3) < (S.2.1 8 40 j4) then f_X12_textOf_96 N (fun S l1 l2 l3 l4 l5 l6 => f_X12_textOf_37 n N S l1 l2 l3 l4 l5 l6) S l1 l2 l3 l4 l5 l6 else f_X12_textOf_93 N (fun S l1 l2 l3 l4 l5 l6 => f_X12_textOf_37 n N S l1 l2 l3 l4 l5 l6) S l1 l2 l4 l5 l6 else f_X12_textOf_96 N (fun S l1 l2 l3 l4 l5 l6 => f_X12_textOf_37 n N S l1 l2 l3 l4 l5 l6) S l1 l2 l3 l4 l5 l6
set_option maxHeartbeats 4000000 in
set_option maxRecDepth 40000 in
theorem w_X12_textOf_37 {F : xH} {ev : xEv} {prim : xRel} {d sz : Nat} {T : yT} {v : Int32} {hp : xH} (N : Nat) (n : Nat) : ∀ (S : yS) (l1 : Int32) (l2 : Int32) (l3 : Int32) (l4 : Int32) (l5 : Int32) (l6 : Int32) (lv : xLv) (a0 : Nat) (fa0 : yAt T 12 8 0 a0) (g0 : xG lv 0 = some (.ref a0)) (g1 : xG lv 1 = some (.int l1)) (g2 : xG lv 2 = some (.int l2)) (g3 : xG lv 3 = some (.int l3)) (g4 : xG lv 4 = some (.int l4)) (g5 : xG lv 5 = some (.int l5)) (g6 : xG lv 6 = some (.int l6)) (hM : cR [8] F ev T S hp) (h : f_X12_textOf_37 n N S l1 l2 l3 l4 l5 l6 = some v), yWE ev.2.1 (xstr ev) (xCalls ev xmi (xprog ev) prim (d + 0)) (pX12_textOf ev) (37, lv, [], hp, sz, 0) (ypP hp sz (.int v)) := by
  induction n with
  | zero => intro S l1 l2 l3 l4 l5 l6 lv a0 fa0 g0 g1 g2 g3 g4 g5 g6 hM h; exact n_some h
  | succ n ih =>
    intro S l1 l2 l3 l4 l5 l6 lv a0 fa0 g0 g1 g2 g3 g4 g5 g6 hM h
    unfold f_X12_textOf_37 at h
    refine ye_iload rfl g6 ?_
    refine ye_iload rfl g4 ?_
    refine ye_iload rfl g5 ?_
    refine ye_p rfl rfl ?_
    refine ye_icmp_ge rfl (fun h1 => ?_) (fun h1 => ?_)
    · replace h := yiT h1 h
      refine ye_iload rfl g3 ?_
      exact ye_ret rfl rfl (rP h)
    · replace h := yiN h1 h
      refine ye_aload rfl g0 ?_
      refine ye_getr rfl (hM.obj fa0 ⟨rfl, rfl⟩) rfl (fun cx1 ecx1 => ?_)
      have fcx1 := yAt.row fa0 ecx1
      refine ye_iload rfl g6 ?_
      obtain ⟨j1, ej1, ij1, h⟩ := gA_some h
      refine yj_ald rfl (hM.arr fcx1 yr_12_39) ij1 ej1 ?_
      refine ye_iload rfl g1 ?_
      refine ye_icmp_ne rfl (fun h2 => ?_) (fun h2 => ?_)
      · replace h := yiT h2 h
        exact w_X12_textOf_96 (prim := prim) (d := d) N (fun S l1 l2 l3 l4 l5 l6 => f_X12_textOf_37 n N S l1 l2 l3 l4 l5 l6) ih S l1 l2 l3 l4 l5 l6 lv a0 fa0 g0 g1 g2 g3 g4 g5 g6 hM h
      · replace h := yiN h2 h
        refine ye_aload rfl g0 ?_
        refine ye_getr rfl (hM.obj fa0 ⟨rfl, rfl⟩) rfl (fun cx2 ecx2 => ?_)
        have fcx2 := yAt.row fa0 ecx2
        refine ye_iload rfl g6 ?_
        obtain ⟨j2, ej2, ij2, h⟩ := gA_some h
        refine yj_ald rfl (hM.arr fcx2 yr_12_40) ij2 ej2 ?_
        refine ye_iload rfl g2 ?_
        refine ye_icmp_le rfl (fun h3 => ?_) (fun h3 => ?_)
        · replace h := yiT h3 h
          refine ye_iload rfl g3 ?_
          refine ye_p rfl rfl ?_
          refine ye_icmp_eq rfl (fun h4 => ?_) (fun h4 => ?_)
          · replace h := yiT h4 h
            exact w_X12_textOf_93 (prim := prim) (d := d) N (fun S l1 l2 l3 l4 l5 l6 => f_X12_textOf_37 n N S l1 l2 l3 l4 l5 l6) ih S l1 l2 l4 l5 l6 lv a0 fa0 g0 g1 g2 g4 g5 g6 hM h
          · replace h := yiN h4 h
            refine ye_aload rfl g0 ?_
            refine ye_getr rfl (hM.obj fa0 ⟨rfl, rfl⟩) rfl (fun cx3 ecx3 => ?_)
            have fcx3 := yAt.row fa0 ecx3
            refine ye_iload rfl g6 ?_
            obtain ⟨j3, ej3, ij3, h⟩ := gA_some h
            refine yj_ald rfl (hM.arr fcx3 yr_12_40) ij3 ej3 ?_
            refine ye_aload rfl g0 ?_
            refine ye_getr rfl (hM.obj fa0 ⟨rfl, rfl⟩) rfl (fun cx4 ecx4 => ?_)
            have fcx4 := yAt.row fa0 ecx4
            refine ye_iload rfl g3 ?_
            obtain ⟨j4, ej4, ij4, h⟩ := gA_some h
            refine yj_ald rfl (hM.arr fcx4 yr_12_40) ij4 ej4 ?_
            refine ye_icmp_lt rfl (fun h5 => ?_) (fun h5 => ?_)
            · replace h := yiT h5 h
              exact w_X12_textOf_96 (prim := prim) (d := d) N (fun S l1 l2 l3 l4 l5 l6 => f_X12_textOf_37 n N S l1 l2 l3 l4 l5 l6) ih S l1 l2 l3 l4 l5 l6 lv a0 fa0 g0 g1 g2 g3 g4 g5 g6 hM h
            · replace h := yiN h5 h
              exact w_X12_textOf_93 (prim := prim) (d := d) N (fun S l1 l2 l3 l4 l5 l6 => f_X12_textOf_37 n N S l1 l2 l3 l4 l5 l6) ih S l1 l2 l4 l5 l6 lv a0 fa0 g0 g1 g2 g4 g5 g6 hM h
        · replace h := yiN h3 h
          refine ye_p rfl rfl ?_
          exact w_X12_textOf_96 (prim := prim) (d := d) N (fun S l1 l2 l3 l4 l5 l6 => f_X12_textOf_37 n N S l1 l2 l3 l4 l5 l6) ih S l1 l2 l3 l4 l5 l6 lv a0 fa0 g0 g1 g2 g3 g4 g5 g6 hM h

def f_X12_textOf_31 (N : Nat) (S : yS) (l1 : Int32) (l2 : Int32) (l3 : Int32) (l4 : Int32) (t0 : Int32) : Option Int32 := f_X12_textOf_37 N N S l1 l2 l3 l4 t0 l4
set_option maxHeartbeats 4000000 in
set_option maxRecDepth 40000 in
theorem w_X12_textOf_31 {F : xH} {ev : xEv} {prim : xRel} {d sz : Nat} {T : yT} {v : Int32} {hp : xH} (N : Nat) (S : yS) (l1 : Int32) (l2 : Int32) (l3 : Int32) (l4 : Int32) (t0 : Int32) (lv : xLv) (a0 : Nat) (fa0 : yAt T 12 8 0 a0) (g0 : xG lv 0 = some (.ref a0)) (g1 : xG lv 1 = some (.int l1)) (g2 : xG lv 2 = some (.int l2)) (g3 : xG lv 3 = some (.int l3)) (g4 : xG lv 4 = some (.int l4)) (hM : cR [8] F ev T S hp) (h : f_X12_textOf_31 N S l1 l2 l3 l4 t0 = some v) : yWE ev.2.1 (xstr ev) (xCalls ev xmi (xprog ev) prim (d + 0)) (pX12_textOf ev) (31, lv, [.int t0], hp, sz, 0) (ypP hp sz (.int v)) := by
  unfold f_X12_textOf_31 at h
  refine ye_p rfl rfl ?_
  have g0_z1 := xG_o1 (i := 5) (v := .int t0) g0 rfl
  have g1_z1 := xG_o1 (i := 5) (v := .int t0) g1 rfl
  have g2_z1 := xG_o1 (i := 5) (v := .int t0) g2 rfl
  have g3_z1 := xG_o1 (i := 5) (v := .int t0) g3 rfl
  have g4_z1 := xG_o1 (i := 5) (v := .int t0) g4 rfl
  have g5_z1 := xG_same lv 5 (.int t0)
  generalize xSt1 lv 5 (.int t0) = lvz1 at g0_z1 g1_z1 g2_z1 g3_z1 g4_z1 g5_z1 ⊢
  refine ye_iload rfl g4_z1 ?_
  refine ye_p rfl rfl ?_
  have g0_z2 := xG_o1 (i := 6) (v := .int l4) g0_z1 rfl
  have g1_z2 := xG_o1 (i := 6) (v := .int l4) g1_z1 rfl
  have g2_z2 := xG_o1 (i := 6) (v := .int l4) g2_z1 rfl
  have g3_z2 := xG_o1 (i := 6) (v := .int l4) g3_z1 rfl
  have g4_z2 := xG_o1 (i := 6) (v := .int l4) g4_z1 rfl
  have g5_z2 := xG_o1 (i := 6) (v := .int l4) g5_z1 rfl
  have g6_z2 := xG_same lvz1 6 (.int l4)
  generalize xSt1 lvz1 6 (.int l4) = lvz2 at g0_z2 g1_z2 g2_z2 g3_z2 g4_z2 g5_z2 g6_z2 ⊢
  exact w_X12_textOf_37 (prim := prim) (d := d) N N S l1 l2 l3 l4 t0 l4 lvz2 a0 fa0 g0_z2 g1_z2 g2_z2 g3_z2 g4_z2 g5_z2 g6_z2 hM h

def f_X12_textOf_13 (N : Nat) (S : yS) (l1 : Int32) (l2 : Int32) (l3 : Int32) (t0 : Int32) : Option Int32 := if ¬ l1 = 2 then f_X12_textOf_31 N S l1 l2 l3 t0 (S.1 8 41) else f_X12_textOf_31 N S l1 l2 l3 t0 (S.1 8 42)
set_option maxHeartbeats 4000000 in
set_option maxRecDepth 40000 in
theorem w_X12_textOf_13 {F : xH} {ev : xEv} {prim : xRel} {d sz : Nat} {T : yT} {v : Int32} {hp : xH} (N : Nat) (S : yS) (l1 : Int32) (l2 : Int32) (l3 : Int32) (t0 : Int32) (lv : xLv) (a0 : Nat) (fa0 : yAt T 12 8 0 a0) (g0 : xG lv 0 = some (.ref a0)) (g1 : xG lv 1 = some (.int l1)) (g2 : xG lv 2 = some (.int l2)) (g3 : xG lv 3 = some (.int l3)) (hM : cR [8] F ev T S hp) (h : f_X12_textOf_13 N S l1 l2 l3 t0 = some v) : yWE ev.2.1 (xstr ev) (xCalls ev xmi (xprog ev) prim (d + 0)) (pX12_textOf ev) (13, lv, [.int t0], hp, sz, 0) (ypP hp sz (.int v)) := by
  unfold f_X12_textOf_13 at h
  refine ye_p rfl rfl ?_
  have g0_z1 := xG_o1 (i := 4) (v := .int t0) g0 rfl
  have g1_z1 := xG_o1 (i := 4) (v := .int t0) g1 rfl
  have g2_z1 := xG_o1 (i := 4) (v := .int t0) g2 rfl
  have g3_z1 := xG_o1 (i := 4) (v := .int t0) g3 rfl
  have g4_z1 := xG_same lv 4 (.int t0)
  generalize xSt1 lv 4 (.int t0) = lvz1 at g0_z1 g1_z1 g2_z1 g3_z1 g4_z1 ⊢
  refine ye_iload rfl g1_z1 ?_
  refine ye_p rfl rfl ?_
  refine ye_icmp_ne rfl (fun h1 => ?_) (fun h1 => ?_)
  · replace h := yiT h1 h
    refine ye_aload rfl g0_z1 ?_
    refine ye_getf rfl (hM.obj fa0 ⟨rfl, rfl⟩) rfl ?_
    exact w_X12_textOf_31 (prim := prim) (d := d) N S l1 l2 l3 t0 (S.1 8 41) lvz1 a0 fa0 g0_z1 g1_z1 g2_z1 g3_z1 g4_z1 hM h
  · replace h := yiN h1 h
    refine ye_aload rfl g0_z1 ?_
    refine ye_getf rfl (hM.obj fa0 ⟨rfl, rfl⟩) rfl ?_
    refine ye_p rfl rfl ?_
    exact w_X12_textOf_31 (prim := prim) (d := d) N S l1 l2 l3 t0 (S.1 8 42) lvz1 a0 fa0 g0_z1 g1_z1 g2_z1 g3_z1 g4_z1 hM h

def f_X12_textOf_0 (N : Nat) (S : yS) (l1 : Int32) (l2 : Int32) : Option Int32 := if ¬ l1 = 2 then f_X12_textOf_13 N S l1 l2 ((-1)) 0 else f_X12_textOf_13 N S l1 l2 ((-1)) 20
set_option maxHeartbeats 4000000 in
set_option maxRecDepth 40000 in
theorem w_X12_textOf_0 {F : xH} {ev : xEv} {prim : xRel} {d sz : Nat} {T : yT} {v : Int32} {hp : xH} (N : Nat) (S : yS) (l1 : Int32) (l2 : Int32) (lv : xLv) (a0 : Nat) (fa0 : yAt T 12 8 0 a0) (g0 : xG lv 0 = some (.ref a0)) (g1 : xG lv 1 = some (.int l1)) (g2 : xG lv 2 = some (.int l2)) (hM : cR [8] F ev T S hp) (h : f_X12_textOf_0 N S l1 l2 = some v) : yWE ev.2.1 (xstr ev) (xCalls ev xmi (xprog ev) prim (d + 0)) (pX12_textOf ev) (0, lv, [], hp, sz, 0) (ypP hp sz (.int v)) := by
  unfold f_X12_textOf_0 at h
  refine ye_p rfl rfl ?_
  refine ye_p rfl rfl ?_
  have g0_z1 := xG_o1 (i := 3) (v := .int ((-1))) g0 rfl
  have g1_z1 := xG_o1 (i := 3) (v := .int ((-1))) g1 rfl
  have g2_z1 := xG_o1 (i := 3) (v := .int ((-1))) g2 rfl
  have g3_z1 := xG_same lv 3 (.int ((-1)))
  generalize xSt1 lv 3 (.int ((-1))) = lvz1 at g0_z1 g1_z1 g2_z1 g3_z1 ⊢
  refine ye_iload rfl g1_z1 ?_
  refine ye_p rfl rfl ?_
  refine ye_icmp_ne rfl (fun h1 => ?_) (fun h1 => ?_)
  · replace h := yiT h1 h
    refine ye_p rfl rfl ?_
    exact w_X12_textOf_13 (prim := prim) (d := d) N S l1 l2 ((-1)) 0 lvz1 a0 fa0 g0_z1 g1_z1 g2_z1 g3_z1 hM h
  · replace h := yiN h1 h
    refine ye_p rfl rfl ?_
    refine ye_p rfl rfl ?_
    exact w_X12_textOf_13 (prim := prim) (d := d) N S l1 l2 ((-1)) 20 lvz1 a0 fa0 g0_z1 g1_z1 g2_z1 g3_z1 hM h
def f_X12_textOf (N : Nat) (S : yS) (xl1 : Int32) (xl2 : Int32) : Option Int32 := f_X12_textOf_0 N S xl1 xl2
theorem m_X12_textOf {F : xH} {ev : xEv} {prim : xRel} {d : Nat} {T : yT} {v : Int32} (N : Nat) (S : yS) (xl1 : Int32) (xl2 : Int32) (a0 : Nat) (fa0 : yAt T 12 8 0 a0) (h : f_X12_textOf N S xl1 xl2 = some v) : ykP [8] F ev prim (d + 1) 246 T S [.ref a0, .int xl1, .int xl2] (.int v) :=
  ykP.of (pg_246 ev) mi_246 (Nat.le_of_ble_eq_true rfl) (fun hp sz hM => w_X12_textOf_0 (prim := prim) (d := d) N S xl1 xl2 _ a0 fa0 rfl rfl rfl hM h)

def f_X12_flight_55 (N : Nat) (S : yS) : Option (Int32 × yS) := some ((-1), S)
set_option maxHeartbeats 4000000 in
set_option maxRecDepth 40000 in
theorem w_X12_flight_55 {F : xH} {ev : xEv} {prim : xRel} {d sz : Nat} {T : yT} {v : Int32} {S' : yS} (N : Nat) (S : yS) (hp : xH) (lv : xLv) (hM : cR [8] F ev T S hp) (h : f_X12_flight_55 N S = some (v, S')) : yWE ev.2.1 (xstr ev) (xCalls ev xmi (xprog ev) prim (d + 2)) (pX12_flight ev) (55, lv, [], hp, sz, 0) (ypQ [8] F ev T sz (some (.int v)) S') := by
  unfold f_X12_flight_55 at h
  refine ye_p rfl rfl ?_
  exact ye_ret rfl rfl (rQ h hM)

def f_X12_flight_0 (N : Nat) (S : yS) (l1 : Int32) (l2 : Int32) (l3 : Int32) (l4 : Int32) : Option (Int32 × yS) := sq (yI S 8 47 0) fun S1 => bV (f_X12_isPlane N S1 l1) fun w1 => if w1 = 0 then f_X12_flight_55 N S1 else bV (f_X12_isPilot N S1 l2) fun w2 => if w2 = 0 then f_X12_flight_55 N S1 else bV (f_X12_isLeg N S1 l3) fun w3 => if w3 = 0 then f_X12_flight_55 N S1 else gA 2305 0 fun j1 => bV (f_X12_in N S1 l4 (S1.2.1 8 48 j1) 3000) fun w4 => if w4 = 0 then f_X12_flight_55 N S1 else if ¬ (S1.1 8 33) = 24 then gA 24 (S1.1 8 33) fun j2 => sq (yA S1 8 29 (upd (S1.2.1 8 29) j2 l1)) fun S2 => gA 24 (S2.1 8 33) fun j3 => sq (yA S2 8 30 (upd (S2.2.1 8 30) j3 l2)) fun S3 => gA 24 (S3.1 8 33) fun j4 => sq (yA S3 8 31 (upd (S3.2.1 8 31) j4 l3)) fun S4 => gA 24 (S4.1 8 33) fun j5 => sq (yA S4 8 32 (upd (S4.2.1 8 32) j5 l4)) fun S5 => bS (f_X12_setFlight N S5 (S5.1 8 33) 0 0) fun w5 S6 => bS (f_X12_setFlight N S6 (S6.1 8 33) 1 ((-1))) fun w6 S7 => bS (f_X12_setFlight N S7 (S7.1 8 33) 2 ((-1))) fun w7 S8 => bS (f_X12_setFlight N S8 (S8.1 8 33) 3 ((-3))) fun w8 S9 => bS (f_X12_setFlight N S9 (S9.1 8 33) 4 ((-3))) fun w9 S10 => sq (yI S10 8 33 ((S10.1 8 33) + 1)) fun S11 => some ((S11.1 8 33) - 1, S11) else f_X12_flight_55 N S1
set_option maxHeartbeats 4000000 in
set_option maxRecDepth 40000 in
theorem w_X12_flight_0 {F : xH} {ev : xEv} {prim : xRel} {d sz : Nat} {T : yT} {v : Int32} {S' : yS} (N : Nat) (S : yS) (l1 : Int32) (l2 : Int32) (l3 : Int32) (l4 : Int32) (hp : xH) (lv : xLv) (a0 : Nat) (fa0 : yAt T 12 8 0 a0) (g0 : xG lv 0 = some (.ref a0)) (g1 : xG lv 1 = some (.int l1)) (g2 : xG lv 2 = some (.int l2)) (g3 : xG lv 3 = some (.int l3)) (g4 : xG lv 4 = some (.int l4)) (hM : cR [8] F ev T S hp) (h : f_X12_flight_0 N S l1 l2 l3 l4 = some (v, S')) : yWE ev.2.1 (xstr ev) (xCalls ev xmi (xprog ev) prim (d + 2)) (pX12_flight ev) (0, lv, [], hp, sz, 0) (ypQ [8] F ev T sz (some (.int v)) S') := by
  unfold f_X12_flight_0 at h
  refine ye_aload rfl g0 ?_
  refine ye_p rfl rfl ?_
  obtain ⟨S1, eS1, h⟩ := sq_some h
  refine yw_putI rfl hM fa0 rfl ⟨rfl, rfl⟩ (Nat.le_of_ble_eq_true rfl) rfl rfl (ys_12_47 ev T _ 0) (fun q => absurd q (by decide)) eS1 (fun y1 M1 => ?_)
  refine ye_aload rfl g0 ?_
  refine ye_iload rfl g1 ?_
  obtain ⟨w1, hw1, h⟩ := bV_some h
  refine ye_callV (As := [.int l1]) (rest := []) 0 (Or.inl rfl) rfl rfl rfl (Nat.le_of_ble_eq_true rfl) (M1.obj fa0 ⟨rfl, rfl⟩) ((m_X12_isPlane (d := d + 0) (T := T) N S1 l1 a0 fa0 hw1) y1 sz M1) ?_
  refine ye_if_eq rfl (fun h1 => ?_) (fun h1 => ?_)
  · replace h := yiT h1 h
    exact w_X12_flight_55 (prim := prim) (d := d) N S1 y1 lv M1 h
  · replace h := yiN h1 h
    refine ye_aload rfl g0 ?_
    refine ye_iload rfl g2 ?_
    obtain ⟨w2, hw2, h⟩ := bV_some h
    refine ye_callV (As := [.int l2]) (rest := []) 0 (Or.inl rfl) rfl rfl rfl (Nat.le_of_ble_eq_true rfl) (M1.obj fa0 ⟨rfl, rfl⟩) ((m_X12_isPilot (d := d + 0) (T := T) N S1 l2 a0 fa0 hw2) y1 sz M1) ?_
    refine ye_if_eq rfl (fun h2 => ?_) (fun h2 => ?_)
    · replace h := yiT h2 h
      exact w_X12_flight_55 (prim := prim) (d := d) N S1 y1 lv M1 h
    · replace h := yiN h2 h
      refine ye_aload rfl g0 ?_
      refine ye_iload rfl g3 ?_
      obtain ⟨w3, hw3, h⟩ := bV_some h
      refine ye_callV (As := [.int l3]) (rest := []) 0 (Or.inl rfl) rfl rfl rfl (Nat.le_of_ble_eq_true rfl) (M1.obj fa0 ⟨rfl, rfl⟩) ((m_X12_isLeg (d := d + 0) (T := T) N S1 l3 a0 fa0 hw3) y1 sz M1) ?_
      refine ye_if_eq rfl (fun h3 => ?_) (fun h3 => ?_)
      · replace h := yiT h3 h
        exact w_X12_flight_55 (prim := prim) (d := d) N S1 y1 lv M1 h
      · replace h := yiN h3 h
        refine ye_iload rfl g4 ?_
        refine ye_aload rfl g0 ?_
        refine ye_getr rfl (M1.obj fa0 ⟨rfl, rfl⟩) rfl (fun cx1 ecx1 => ?_)
        have fcx1 := yAt.row fa0 ecx1
        refine ye_p rfl rfl ?_
        obtain ⟨j1, ej1, ij1, h⟩ := gA_some h
        refine yj_ald rfl (M1.arr fcx1 yr_12_48) ij1 ej1 ?_
        refine ye_p rfl rfl ?_
        obtain ⟨w4, hw4, h⟩ := bV_some h
        refine ye_callS (As := [.int l4, .int (S1.2.1 8 48 j1), .int 3000]) (rest := []) 1 (Or.inl rfl) rfl rfl rfl (Nat.le_of_ble_eq_true rfl) ((m_X12_in (d := d + 1) (T := T) N S1 l4 (S1.2.1 8 48 j1) 3000 hw4) y1 sz M1) ?_
        refine ye_if_eq rfl (fun h4 => ?_) (fun h4 => ?_)
        · replace h := yiT h4 h
          exact w_X12_flight_55 (prim := prim) (d := d) N S1 y1 lv M1 h
        · replace h := yiN h4 h
          refine ye_aload rfl g0 ?_
          refine ye_getf rfl (M1.obj fa0 ⟨rfl, rfl⟩) rfl ?_
          refine ye_p rfl rfl ?_
          refine ye_icmp_ne rfl (fun h5 => ?_) (fun h5 => ?_)
          · replace h := yiT h5 h
            refine ye_aload rfl g0 ?_
            refine ye_getr rfl (M1.obj fa0 ⟨rfl, rfl⟩) rfl (fun cx2 ecx2 => ?_)
            have fcx2 := yAt.row fa0 ecx2
            refine ye_aload rfl g0 ?_
            refine ye_getf rfl (M1.obj fa0 ⟨rfl, rfl⟩) rfl ?_
            refine ye_iload rfl g1 ?_
            obtain ⟨j2, ej2, ij2, h⟩ := gA_some h
            obtain ⟨S2, eS2, h⟩ := sq_some h
            refine yw_ast rfl M1 fcx2 yr_12_29 (by decide) ij2 ej2 eS2 (fun y2 M2 => ?_)
            refine ye_aload rfl g0 ?_
            refine ye_getr rfl (M2.obj fa0 ⟨rfl, rfl⟩) rfl (fun cx3 ecx3 => ?_)
            have fcx3 := yAt.row fa0 ecx3
            refine ye_aload rfl g0 ?_
            refine ye_getf rfl (M2.obj fa0 ⟨rfl, rfl⟩) rfl ?_
            refine ye_iload rfl g2 ?_
            obtain ⟨j3, ej3, ij3, h⟩ := gA_some h
            obtain ⟨S3, eS3, h⟩ := sq_some h
            refine yw_ast rfl M2 fcx3 yr_12_30 (by decide) ij3 ej3 eS3 (fun y3 M3 => ?_)
            refine ye_aload rfl g0 ?_
            refine ye_getr rfl (M3.obj fa0 ⟨rfl, rfl⟩) rfl (fun cx4 ecx4 => ?_)
            have fcx4 := yAt.row fa0 ecx4
            refine ye_aload rfl g0 ?_
            refine ye_getf rfl (M3.obj fa0 ⟨rfl, rfl⟩) rfl ?_
            refine ye_iload rfl g3 ?_
            obtain ⟨j4, ej4, ij4, h⟩ := gA_some h
            obtain ⟨S4, eS4, h⟩ := sq_some h
            refine yw_ast rfl M3 fcx4 yr_12_31 (by decide) ij4 ej4 eS4 (fun y4 M4 => ?_)
            refine ye_aload rfl g0 ?_
            refine ye_getr rfl (M4.obj fa0 ⟨rfl, rfl⟩) rfl (fun cx5 ecx5 => ?_)
            have fcx5 := yAt.row fa0 ecx5
            refine ye_aload rfl g0 ?_
            refine ye_getf rfl (M4.obj fa0 ⟨rfl, rfl⟩) rfl ?_
            refine ye_iload rfl g4 ?_
            obtain ⟨j5, ej5, ij5, h⟩ := gA_some h
            obtain ⟨S5, eS5, h⟩ := sq_some h
            refine yw_ast rfl M4 fcx5 yr_12_32 (by decide) ij5 ej5 eS5 (fun y5 M5 => ?_)
            refine ye_aload rfl g0 ?_
            refine ye_aload rfl g0 ?_
            refine ye_getf rfl (M5.obj fa0 ⟨rfl, rfl⟩) rfl ?_
            refine ye_p rfl rfl ?_
            refine ye_p rfl rfl ?_
            obtain ⟨w5, S6, hw5, h⟩ := bS_some h
            obtain ⟨y6, cy6, M6⟩ := (m_X12_setFlight (d := d + 1) (T := T) N S5 (S5.1 8 33) 0 0 a0 fa0 hw5) y5 sz M5
            refine ye_callV (As := [.int (S5.1 8 33), .int 0, .int 0]) (rest := []) 0 (Or.inl rfl) rfl rfl rfl (Nat.le_of_ble_eq_true rfl) (M5.obj fa0 ⟨rfl, rfl⟩) cy6 ?_
            refine ye_aload rfl g0 ?_
            refine ye_aload rfl g0 ?_
            refine ye_getf rfl (M6.obj fa0 ⟨rfl, rfl⟩) rfl ?_
            refine ye_p rfl rfl ?_
            refine ye_p rfl rfl ?_
            obtain ⟨w6, S7, hw6, h⟩ := bS_some h
            obtain ⟨y7, cy7, M7⟩ := (m_X12_setFlight (d := d + 1) (T := T) N S6 (S6.1 8 33) 1 ((-1)) a0 fa0 hw6) y6 sz M6
            refine ye_callV (As := [.int (S6.1 8 33), .int 1, .int ((-1))]) (rest := []) 0 (Or.inl rfl) rfl rfl rfl (Nat.le_of_ble_eq_true rfl) (M6.obj fa0 ⟨rfl, rfl⟩) cy7 ?_
            refine ye_aload rfl g0 ?_
            refine ye_aload rfl g0 ?_
            refine ye_getf rfl (M7.obj fa0 ⟨rfl, rfl⟩) rfl ?_
            refine ye_p rfl rfl ?_
            refine ye_p rfl rfl ?_
            obtain ⟨w7, S8, hw7, h⟩ := bS_some h
            obtain ⟨y8, cy8, M8⟩ := (m_X12_setFlight (d := d + 1) (T := T) N S7 (S7.1 8 33) 2 ((-1)) a0 fa0 hw7) y7 sz M7
            refine ye_callV (As := [.int (S7.1 8 33), .int 2, .int ((-1))]) (rest := []) 0 (Or.inl rfl) rfl rfl rfl (Nat.le_of_ble_eq_true rfl) (M7.obj fa0 ⟨rfl, rfl⟩) cy8 ?_
            refine ye_aload rfl g0 ?_
            refine ye_aload rfl g0 ?_
            refine ye_getf rfl (M8.obj fa0 ⟨rfl, rfl⟩) rfl ?_
            refine ye_p rfl rfl ?_
            refine ye_p rfl rfl ?_
            obtain ⟨w8, S9, hw8, h⟩ := bS_some h
            obtain ⟨y9, cy9, M9⟩ := (m_X12_setFlight (d := d + 1) (T := T) N S8 (S8.1 8 33) 3 ((-3)) a0 fa0 hw8) y8 sz M8
            refine ye_callV (As := [.int (S8.1 8 33), .int 3, .int ((-3))]) (rest := []) 0 (Or.inl rfl) rfl rfl rfl (Nat.le_of_ble_eq_true rfl) (M8.obj fa0 ⟨rfl, rfl⟩) cy9 ?_
            refine ye_aload rfl g0 ?_
            refine ye_aload rfl g0 ?_
            refine ye_getf rfl (M9.obj fa0 ⟨rfl, rfl⟩) rfl ?_
            refine ye_p rfl rfl ?_
            refine ye_p rfl rfl ?_
            obtain ⟨w9, S10, hw9, h⟩ := bS_some h
            obtain ⟨y10, cy10, M10⟩ := (m_X12_setFlight (d := d + 1) (T := T) N S9 (S9.1 8 33) 4 ((-3)) a0 fa0 hw9) y9 sz M9
            refine ye_callV (As := [.int (S9.1 8 33), .int 4, .int ((-3))]) (rest := []) 0 (Or.inl rfl) rfl rfl rfl (Nat.le_of_ble_eq_true rfl) (M9.obj fa0 ⟨rfl, rfl⟩) cy10 ?_
            refine ye_aload rfl g0 ?_
            refine ye_p rfl rfl ?_
            refine ye_getf rfl (M10.obj fa0 ⟨rfl, rfl⟩) rfl ?_
            refine ye_p rfl rfl ?_
            refine ye_p rfl rfl ?_
            obtain ⟨S11, eS11, h⟩ := sq_some h
            refine yw_putI rfl M10 fa0 rfl ⟨rfl, rfl⟩ (Nat.le_of_ble_eq_true rfl) rfl rfl (ys_12_33 ev T _ ((S10.1 8 33) + 1)) (fun q => absurd q (by decide)) eS11 (fun y11 M11 => ?_)
            refine ye_aload rfl g0 ?_
            refine ye_getf rfl (M11.obj fa0 ⟨rfl, rfl⟩) rfl ?_
            refine ye_p rfl rfl ?_
            refine ye_p rfl rfl ?_
            exact ye_ret rfl rfl (rQ h M11)
          · replace h := yiN h5 h
            exact w_X12_flight_55 (prim := prim) (d := d) N S1 y1 lv M1 h
def f_X12_flight (N : Nat) (S : yS) (xl1 : Int32) (xl2 : Int32) (xl3 : Int32) (xl4 : Int32) : Option (Int32 × yS) := f_X12_flight_0 N S xl1 xl2 xl3 xl4
theorem m_X12_flight {F : xH} {ev : xEv} {prim : xRel} {d : Nat} {T : yT} {v : Int32} {S' : yS} (N : Nat) (S : yS) (xl1 : Int32) (xl2 : Int32) (xl3 : Int32) (xl4 : Int32) (a0 : Nat) (fa0 : yAt T 12 8 0 a0) (h : f_X12_flight N S xl1 xl2 xl3 xl4 = some (v, S')) : ykQ [8] F ev prim (d + 3) 248 T S [.ref a0, .int xl1, .int xl2, .int xl3, .int xl4] (some (.int v)) S' :=
  ykQ.of (pg_248 ev) mi_248 (Nat.le_of_ble_eq_true rfl) (fun hp sz hM => w_X12_flight_0 (prim := prim) (d := d) N S xl1 xl2 xl3 xl4 hp _ a0 fa0 rfl rfl rfl rfl rfl hM h)

def f_X12_waits_28 (N : Nat) (S : yS) (t0 : Int32) : Option Int32 := gP (t0 = 0 ∨ t0 = 1) (some t0)
set_option maxHeartbeats 4000000 in
set_option maxRecDepth 40000 in
theorem w_X12_waits_28 {F : xH} {ev : xEv} {prim : xRel} {d sz : Nat} {T : yT} {v : Int32} {hp : xH} (N : Nat) (S : yS) (t0 : Int32) (lv : xLv) (hM : cR [8] F ev T S hp) (h : f_X12_waits_28 N S t0 = some v) : yWE ev.2.1 (xstr ev) (xCalls ev xmi (xprog ev) prim (d + 1)) (pX12_waits ev) (28, lv, [.int t0], hp, sz, 0) (ypP hp sz (.int v)) := by
  unfold f_X12_waits_28 at h
  obtain ⟨i1, h⟩ := gP_some h
  exact ye_ret rfl (if_pos (zb_nar i1)) (rP h)

def f_X12_waits_27 (N : Nat) (S : yS) : Option Int32 := f_X12_waits_28 N S 0
set_option maxHeartbeats 4000000 in
set_option maxRecDepth 40000 in
theorem w_X12_waits_27 {F : xH} {ev : xEv} {prim : xRel} {d sz : Nat} {T : yT} {v : Int32} {hp : xH} (N : Nat) (S : yS) (lv : xLv) (hM : cR [8] F ev T S hp) (h : f_X12_waits_27 N S = some v) : yWE ev.2.1 (xstr ev) (xCalls ev xmi (xprog ev) prim (d + 1)) (pX12_waits ev) (27, lv, [], hp, sz, 0) (ypP hp sz (.int v)) := by
  unfold f_X12_waits_27 at h
  refine ye_p rfl rfl ?_
  exact w_X12_waits_28 (prim := prim) (d := d) N S 0 lv hM h

def f_X12_waits_0 (N : Nat) (S : yS) (l1 : Int32) : Option Int32 := bV (f_X12_in N S l1 0 ((S.1 8 33) - 1)) fun w1 => if w1 = 0 then f_X12_waits_27 N S else bV (f_X12_flightOf N S l1 0) fun w2 => if ¬ w2 = 0 then f_X12_waits_27 N S else f_X12_waits_28 N S 1
set_option maxHeartbeats 4000000 in
set_option maxRecDepth 40000 in
theorem w_X12_waits_0 {F : xH} {ev : xEv} {prim : xRel} {d sz : Nat} {T : yT} {v : Int32} {hp : xH} (N : Nat) (S : yS) (l1 : Int32) (lv : xLv) (a0 : Nat) (fa0 : yAt T 12 8 0 a0) (g0 : xG lv 0 = some (.ref a0)) (g1 : xG lv 1 = some (.int l1)) (hM : cR [8] F ev T S hp) (h : f_X12_waits_0 N S l1 = some v) : yWE ev.2.1 (xstr ev) (xCalls ev xmi (xprog ev) prim (d + 1)) (pX12_waits ev) (0, lv, [], hp, sz, 0) (ypP hp sz (.int v)) := by
  unfold f_X12_waits_0 at h
  refine ye_iload rfl g1 ?_
  refine ye_p rfl rfl ?_
  refine ye_aload rfl g0 ?_
  refine ye_getf rfl (hM.obj fa0 ⟨rfl, rfl⟩) rfl ?_
  refine ye_p rfl rfl ?_
  refine ye_p rfl rfl ?_
  obtain ⟨w1, hw1, h⟩ := bV_some h
  refine ye_callS (As := [.int l1, .int 0, .int ((S.1 8 33) - 1)]) (rest := []) 1 (Or.inl rfl) rfl rfl rfl (Nat.le_of_ble_eq_true rfl) ((m_X12_in (d := d + 0) (T := T) N S l1 0 ((S.1 8 33) - 1) hw1) hp sz hM) ?_
  refine ye_if_eq rfl (fun h1 => ?_) (fun h1 => ?_)
  · replace h := yiT h1 h
    exact w_X12_waits_27 (prim := prim) (d := d) N S lv hM h
  · replace h := yiN h1 h
    refine ye_aload rfl g0 ?_
    refine ye_iload rfl g1 ?_
    refine ye_p rfl rfl ?_
    obtain ⟨w2, hw2, h⟩ := bV_some h
    refine ye_callV (As := [.int l1, .int 0]) (rest := []) 0 (Or.inl rfl) rfl rfl rfl (Nat.le_of_ble_eq_true rfl) (hM.obj fa0 ⟨rfl, rfl⟩) ((m_X12_flightOf (d := d + 0) (T := T) N S l1 0 a0 fa0 hw2) hp sz hM) ?_
    refine ye_if_ne rfl (fun h2 => ?_) (fun h2 => ?_)
    · replace h := yiT h2 h
      exact w_X12_waits_27 (prim := prim) (d := d) N S lv hM h
    · replace h := yiN h2 h
      refine ye_p rfl rfl ?_
      refine ye_p rfl rfl ?_
      exact w_X12_waits_28 (prim := prim) (d := d) N S 1 lv hM h
def f_X12_waits (N : Nat) (S : yS) (xl1 : Int32) : Option Int32 := f_X12_waits_0 N S xl1
theorem m_X12_waits {F : xH} {ev : xEv} {prim : xRel} {d : Nat} {T : yT} {v : Int32} (N : Nat) (S : yS) (xl1 : Int32) (a0 : Nat) (fa0 : yAt T 12 8 0 a0) (h : f_X12_waits N S xl1 = some v) : ykP [8] F ev prim (d + 2) 249 T S [.ref a0, .int xl1] (.int v) :=
  ykP.of (pg_249 ev) mi_249 (Nat.le_of_ble_eq_true rfl) (fun hp sz hM => w_X12_waits_0 (prim := prim) (d := d) N S xl1 _ a0 fa0 rfl rfl hM h)

def f_X12_endFlight_0 (N : Nat) (S : yS) (l1 : Int32) (l2 : Int32) : Option (Int32 × yS) := bS (f_X12_setFlight N S l1 0 l2) fun w1 S1 => gA 2305 0 fun j1 => bS (f_X12_setFlight N S1 l1 2 (S1.2.1 8 48 j1)) fun w2 S2 => some (0, S2)
set_option maxHeartbeats 4000000 in
set_option maxRecDepth 40000 in
theorem w_X12_endFlight_0 {F : xH} {ev : xEv} {prim : xRel} {d sz : Nat} {T : yT} {v : Int32} {S' : yS} (N : Nat) (S : yS) (l1 : Int32) (l2 : Int32) (hp : xH) (lv : xLv) (a0 : Nat) (fa0 : yAt T 12 8 0 a0) (g0 : xG lv 0 = some (.ref a0)) (g1 : xG lv 1 = some (.int l1)) (g2 : xG lv 2 = some (.int l2)) (hM : cR [8] F ev T S hp) (h : f_X12_endFlight_0 N S l1 l2 = some (v, S')) : yWE ev.2.1 (xstr ev) (xCalls ev xmi (xprog ev) prim (d + 1)) (pX12_endFlight ev) (0, lv, [], hp, sz, 0) (ypQ [8] F ev T sz (none) S') := by
  unfold f_X12_endFlight_0 at h
  refine ye_aload rfl g0 ?_
  refine ye_iload rfl g1 ?_
  refine ye_p rfl rfl ?_
  refine ye_iload rfl g2 ?_
  obtain ⟨w1, S1, hw1, h⟩ := bS_some h
  obtain ⟨y1, cy1, M1⟩ := (m_X12_setFlight (d := d + 0) (T := T) N S l1 0 l2 a0 fa0 hw1) hp sz hM
  refine ye_callV (As := [.int l1, .int 0, .int l2]) (rest := []) 0 (Or.inl rfl) rfl rfl rfl (Nat.le_of_ble_eq_true rfl) (hM.obj fa0 ⟨rfl, rfl⟩) cy1 ?_
  refine ye_aload rfl g0 ?_
  refine ye_iload rfl g1 ?_
  refine ye_p rfl rfl ?_
  refine ye_aload rfl g0 ?_
  refine ye_getr rfl (M1.obj fa0 ⟨rfl, rfl⟩) rfl (fun cx1 ecx1 => ?_)
  have fcx1 := yAt.row fa0 ecx1
  refine ye_p rfl rfl ?_
  obtain ⟨j1, ej1, ij1, h⟩ := gA_some h
  refine yj_ald rfl (M1.arr fcx1 yr_12_48) ij1 ej1 ?_
  obtain ⟨w2, S2, hw2, h⟩ := bS_some h
  obtain ⟨y2, cy2, M2⟩ := (m_X12_setFlight (d := d + 0) (T := T) N S1 l1 2 (S1.2.1 8 48 j1) a0 fa0 hw2) y1 sz M1
  refine ye_callV (As := [.int l1, .int 2, .int (S1.2.1 8 48 j1)]) (rest := []) 0 (Or.inl rfl) rfl rfl rfl (Nat.le_of_ble_eq_true rfl) (M1.obj fa0 ⟨rfl, rfl⟩) cy2 ?_
  exact ye_ret rfl rfl (rQV h M2)
def f_X12_endFlight (N : Nat) (S : yS) (xl1 : Int32) (xl2 : Int32) : Option (Int32 × yS) := f_X12_endFlight_0 N S xl1 xl2
theorem m_X12_endFlight {F : xH} {ev : xEv} {prim : xRel} {d : Nat} {T : yT} {v : Int32} {S' : yS} (N : Nat) (S : yS) (xl1 : Int32) (xl2 : Int32) (a0 : Nat) (fa0 : yAt T 12 8 0 a0) (h : f_X12_endFlight N S xl1 xl2 = some (v, S')) : ykQ [8] F ev prim (d + 2) 250 T S [.ref a0, .int xl1, .int xl2] (none) S' :=
  ykQ.of (pg_250 ev) mi_250 (Nat.le_of_ble_eq_true rfl) (fun hp sz hM => w_X12_endFlight_0 (prim := prim) (d := d) N S xl1 xl2 hp _ a0 fa0 rfl rfl rfl hM h)

def f_X12_cancel_0 (N : Nat) (S : yS) (l1 : Int32) : Option (Int32 × yS) := sq (yI S 8 47 0) fun S1 => bV (f_X12_waits N S1 l1) fun w1 => if ¬ w1 = 0 then bS (f_X12_endFlight N S1 l1 3) fun w2 S2 => some (1, S2) else some (0, S1)
set_option maxHeartbeats 4000000 in
set_option maxRecDepth 40000 in
theorem w_X12_cancel_0 {F : xH} {ev : xEv} {prim : xRel} {d sz : Nat} {T : yT} {v : Int32} {S' : yS} (N : Nat) (S : yS) (l1 : Int32) (hp : xH) (lv : xLv) (a0 : Nat) (fa0 : yAt T 12 8 0 a0) (g0 : xG lv 0 = some (.ref a0)) (g1 : xG lv 1 = some (.int l1)) (hM : cR [8] F ev T S hp) (h : f_X12_cancel_0 N S l1 = some (v, S')) : yWE ev.2.1 (xstr ev) (xCalls ev xmi (xprog ev) prim (d + 2)) (pX12_cancel ev) (0, lv, [], hp, sz, 0) (ypQ [8] F ev T sz (some (.int v)) S') := by
  unfold f_X12_cancel_0 at h
  refine ye_aload rfl g0 ?_
  refine ye_p rfl rfl ?_
  obtain ⟨S1, eS1, h⟩ := sq_some h
  refine yw_putI rfl hM fa0 rfl ⟨rfl, rfl⟩ (Nat.le_of_ble_eq_true rfl) rfl rfl (ys_12_47 ev T _ 0) (fun q => absurd q (by decide)) eS1 (fun y1 M1 => ?_)
  refine ye_aload rfl g0 ?_
  refine ye_iload rfl g1 ?_
  obtain ⟨w1, hw1, h⟩ := bV_some h
  refine ye_callV (As := [.int l1]) (rest := []) 0 (Or.inl rfl) rfl rfl rfl (Nat.le_of_ble_eq_true rfl) (M1.obj fa0 ⟨rfl, rfl⟩) ((m_X12_waits (d := d + 0) (T := T) N S1 l1 a0 fa0 hw1) y1 sz M1) ?_
  refine ye_if_ne rfl (fun h1 => ?_) (fun h1 => ?_)
  · replace h := yiT h1 h
    refine ye_aload rfl g0 ?_
    refine ye_iload rfl g1 ?_
    refine ye_p rfl rfl ?_
    obtain ⟨w2, S2, hw2, h⟩ := bS_some h
    obtain ⟨y2, cy2, M2⟩ := (m_X12_endFlight (d := d + 0) (T := T) N S1 l1 3 a0 fa0 hw2) y1 sz M1
    refine ye_callV (As := [.int l1, .int 3]) (rest := []) 0 (Or.inl rfl) rfl rfl rfl (Nat.le_of_ble_eq_true rfl) (M1.obj fa0 ⟨rfl, rfl⟩) cy2 ?_
    refine ye_p rfl rfl ?_
    exact ye_ret rfl rfl (rQ h M2)
  · replace h := yiN h1 h
    refine ye_p rfl rfl ?_
    exact ye_ret rfl rfl (rQ h M1)
def f_X12_cancel (N : Nat) (S : yS) (xl1 : Int32) : Option (Int32 × yS) := f_X12_cancel_0 N S xl1
theorem m_X12_cancel {F : xH} {ev : xEv} {prim : xRel} {d : Nat} {T : yT} {v : Int32} {S' : yS} (N : Nat) (S : yS) (xl1 : Int32) (a0 : Nat) (fa0 : yAt T 12 8 0 a0) (h : f_X12_cancel N S xl1 = some (v, S')) : ykQ [8] F ev prim (d + 3) 251 T S [.ref a0, .int xl1] (some (.int v)) S' :=
  ykQ.of (pg_251 ev) mi_251 (Nat.le_of_ble_eq_true rfl) (fun hp sz hM => w_X12_cancel_0 (prim := prim) (d := d) N S xl1 hp _ a0 fa0 rfl rfl hM h)

def f_X12_carries_0 (N : Nat) (S : yS) (l1 : Int32) (l2 : Int32) (l3 : Int32) : Option Int32 := gA 8 l1 fun j1 => gA 8 l3 fun j2 => gA 8 l1 fun j3 => bV (f_X12_plane N S l1 5) fun w1 => gA 12 l2 fun j4 => some (if (50 * (((S.2.1 8 18 j3) - (w1 / 20)) - (S.2.1 8 5 j4))) < ((S.2.1 8 17 j1) - (5 * (S.2.1 8 0 j2))) then (50 * (((S.2.1 8 18 j3) - (w1 / 20)) - (S.2.1 8 5 j4))) else ((S.2.1 8 17 j1) - (5 * (S.2.1 8 0 j2))))
set_option maxHeartbeats 4000000 in
set_option maxRecDepth 40000 in
theorem w_X12_carries_0 {F : xH} {ev : xEv} {prim : xRel} {d sz : Nat} {T : yT} {v : Int32} {hp : xH} (N : Nat) (S : yS) (l1 : Int32) (l2 : Int32) (l3 : Int32) (lv : xLv) (a0 : Nat) (fa0 : yAt T 12 8 0 a0) (g0 : xG lv 0 = some (.ref a0)) (g1 : xG lv 1 = some (.int l1)) (g2 : xG lv 2 = some (.int l2)) (g3 : xG lv 3 = some (.int l3)) (hM : cR [8] F ev T S hp) (h : f_X12_carries_0 N S l1 l2 l3 = some v) : yWE ev.2.1 (xstr ev) (xCalls ev xmi (xprog ev) prim (d + 1)) (pX12_carries ev) (0, lv, [], hp, sz, 0) (ypP hp sz (.int v)) := by
  unfold f_X12_carries_0 at h
  refine ye_aload rfl g0 ?_
  refine ye_getr rfl (hM.obj fa0 ⟨rfl, rfl⟩) rfl (fun cx1 ecx1 => ?_)
  have fcx1 := yAt.row fa0 ecx1
  refine ye_iload rfl g1 ?_
  obtain ⟨j1, ej1, ij1, h⟩ := gA_some h
  refine yj_ald rfl (hM.arr fcx1 yr_12_17) ij1 ej1 ?_
  refine ye_p rfl rfl ?_
  refine ye_aload rfl g0 ?_
  refine ye_getr rfl (hM.obj fa0 ⟨rfl, rfl⟩) rfl (fun cx2 ecx2 => ?_)
  have fcx2 := yAt.row fa0 ecx2
  refine ye_iload rfl g3 ?_
  obtain ⟨j2, ej2, ij2, h⟩ := gA_some h
  refine yj_ald rfl (hM.arr fcx2 yr_12_0) ij2 ej2 ?_
  refine ye_p rfl rfl ?_
  refine ye_p rfl rfl ?_
  refine ye_p rfl rfl ?_
  refine ye_aload rfl g0 ?_
  refine ye_getr rfl (hM.obj fa0 ⟨rfl, rfl⟩) rfl (fun cx3 ecx3 => ?_)
  have fcx3 := yAt.row fa0 ecx3
  refine ye_iload rfl g1 ?_
  obtain ⟨j3, ej3, ij3, h⟩ := gA_some h
  refine yj_ald rfl (hM.arr fcx3 yr_12_18) ij3 ej3 ?_
  refine ye_aload rfl g0 ?_
  refine ye_iload rfl g1 ?_
  refine ye_p rfl rfl ?_
  obtain ⟨w1, hw1, h⟩ := bV_some h
  refine ye_callV (As := [.int l1, .int 5]) (rest := [.int (S.2.1 8 18 j3), .int 50, .int ((S.2.1 8 17 j1) - (5 * (S.2.1 8 0 j2)))]) 0 (Or.inl rfl) rfl rfl rfl (Nat.le_of_ble_eq_true rfl) (hM.obj fa0 ⟨rfl, rfl⟩) ((m_X12_plane (d := d + 0) (T := T) N S l1 5 a0 fa0 hw1) hp sz hM) ?_
  refine ye_p rfl rfl ?_
  refine ye_div rfl (by decide) ?_
  refine ye_p rfl rfl ?_
  refine ye_aload rfl g0 ?_
  refine ye_getr rfl (hM.obj fa0 ⟨rfl, rfl⟩) rfl (fun cx4 ecx4 => ?_)
  have fcx4 := yAt.row fa0 ecx4
  refine ye_iload rfl g2 ?_
  obtain ⟨j4, ej4, ij4, h⟩ := gA_some h
  refine yj_ald rfl (hM.arr fcx4 yr_12_5) ij4 ej4 ?_
  refine ye_p rfl rfl ?_
  refine ye_p rfl rfl ?_
  refine ye_p rfl rfl ?_
  exact ye_ret rfl rfl (rP h)
def f_X12_carries (N : Nat) (S : yS) (xl1 : Int32) (xl2 : Int32) (xl3 : Int32) : Option Int32 := f_X12_carries_0 N S xl1 xl2 xl3
theorem m_X12_carries {F : xH} {ev : xEv} {prim : xRel} {d : Nat} {T : yT} {v : Int32} (N : Nat) (S : yS) (xl1 : Int32) (xl2 : Int32) (xl3 : Int32) (a0 : Nat) (fa0 : yAt T 12 8 0 a0) (h : f_X12_carries N S xl1 xl2 xl3 = some v) : ykP [8] F ev prim (d + 2) 252 T S [.ref a0, .int xl1, .int xl2, .int xl3] (.int v) :=
  ykP.of (pg_252 ev) mi_252 (Nat.le_of_ble_eq_true rfl) (fun hp sz hM => w_X12_carries_0 (prim := prim) (d := d) N S xl1 xl2 xl3 _ a0 fa0 rfl rfl rfl rfl hM h)

def f_X12_tell_42 (N : Nat) (S : yS) (l1 : Int32) (l2 : Int32) (l3 : Int32) (l5 : Int32) (l6 : Int32) (t1 : Int32) (t2 : Int32) : Option (Int32 × yS) := gA 10 t1 fun j1 => sq (yA S 8 56 (upd (S.2.1 8 56) j1 t2)) fun S1 => bV (f_X12_pilotOf N S1 l2 3) fun w1 => gA 10 5 fun j2 => sq (yA S1 8 56 (upd (S1.2.1 8 56) j2 ((w1 >>> (l3 &&& 31)) &&& 1))) fun S2 => bV (f_X12_pilotOf N S2 l2 2) fun w2 => gA 10 6 fun j3 => sq (yA S2 8 56 (upd (S2.2.1 8 56) j3 w2)) fun S3 => gA 10 7 fun j4 => sq (yA S3 8 56 (upd (S3.2.1 8 56) j4 l5)) fun S4 => gA 8 l1 fun j5 => bV (f_X12_up N S4 l6 (S4.2.1 8 16 j5)) fun w3 => gA 10 8 fun j6 => sq (yA S4 8 56 (upd (S4.2.1 8 56) j6 w3)) fun S5 => bV (f_X12_plane N S5 l1 6) fun w4 => bV (f_X12_plane N S5 l1 5) fun w5 => gA 10 9 fun j7 => sq (yA S5 8 56 (upd (S5.2.1 8 56) j7 (w4 - w5))) fun S6 => some (0, S6)
set_option maxHeartbeats 4000000 in
set_option maxRecDepth 40000 in
theorem w_X12_tell_42 {F : xH} {ev : xEv} {prim : xRel} {d sz : Nat} {T : yT} {v : Int32} {S' : yS} (N : Nat) (S : yS) (l1 : Int32) (l2 : Int32) (l3 : Int32) (l5 : Int32) (l6 : Int32) (t1 : Int32) (t2 : Int32) (hp : xH) (lv : xLv) (a0 : Nat) (b0 : Nat) (fa0 : yAt T 12 8 0 a0) (fb0 : yAt T 12 8 57 b0) (g0 : xG lv 0 = some (.ref a0)) (g1 : xG lv 1 = some (.int l1)) (g2 : xG lv 2 = some (.int l2)) (g3 : xG lv 3 = some (.int l3)) (g5 : xG lv 5 = some (.int l5)) (g6 : xG lv 6 = some (.int l6)) (hM : cR [8] F ev T S hp) (h : f_X12_tell_42 N S l1 l2 l3 l5 l6 t1 t2 = some (v, S')) : yWE ev.2.1 (xstr ev) (xCalls ev xmi (xprog ev) prim (d + 1)) (pX12_tell ev) (42, lv, [.int t2, .int t1, .ref b0], hp, sz, 0) (ypQ [8] F ev T sz (none) S') := by
  unfold f_X12_tell_42 at h
  obtain ⟨j1, ej1, ij1, h⟩ := gA_some h
  obtain ⟨S1, eS1, h⟩ := sq_some h
  refine yw_ast rfl hM fb0 yr_12_56 (by decide) ij1 ej1 eS1 (fun y1 M1 => ?_)
  refine ye_aload rfl g0 ?_
  refine ye_getr rfl (M1.obj fa0 ⟨rfl, rfl⟩) rfl (fun cx1 ecx1 => ?_)
  have fcx1 := yAt.row fa0 ecx1
  refine ye_p rfl rfl ?_
  refine ye_aload rfl g0 ?_
  refine ye_iload rfl g2 ?_
  refine ye_p rfl rfl ?_
  obtain ⟨w1, hw1, h⟩ := bV_some h
  refine ye_callV (As := [.int l2, .int 3]) (rest := [.int 5, .ref cx1]) 0 (Or.inl rfl) rfl rfl rfl (Nat.le_of_ble_eq_true rfl) (M1.obj fa0 ⟨rfl, rfl⟩) ((m_X12_pilotOf (d := d + 0) (T := T) N S1 l2 3 a0 fa0 hw1) y1 sz M1) ?_
  refine ye_iload rfl g3 ?_
  refine ye_p rfl rfl ?_
  refine ye_p rfl rfl ?_
  refine ye_p rfl rfl ?_
  obtain ⟨j2, ej2, ij2, h⟩ := gA_some h
  obtain ⟨S2, eS2, h⟩ := sq_some h
  refine yw_ast rfl M1 fcx1 yr_12_56 (by decide) ij2 ej2 eS2 (fun y2 M2 => ?_)
  refine ye_aload rfl g0 ?_
  refine ye_getr rfl (M2.obj fa0 ⟨rfl, rfl⟩) rfl (fun cx2 ecx2 => ?_)
  have fcx2 := yAt.row fa0 ecx2
  refine ye_p rfl rfl ?_
  refine ye_aload rfl g0 ?_
  refine ye_iload rfl g2 ?_
  refine ye_p rfl rfl ?_
  obtain ⟨w2, hw2, h⟩ := bV_some h
  refine ye_callV (As := [.int l2, .int 2]) (rest := [.int 6, .ref cx2]) 0 (Or.inl rfl) rfl rfl rfl (Nat.le_of_ble_eq_true rfl) (M2.obj fa0 ⟨rfl, rfl⟩) ((m_X12_pilotOf (d := d + 0) (T := T) N S2 l2 2 a0 fa0 hw2) y2 sz M2) ?_
  obtain ⟨j3, ej3, ij3, h⟩ := gA_some h
  obtain ⟨S3, eS3, h⟩ := sq_some h
  refine yw_ast rfl M2 fcx2 yr_12_56 (by decide) ij3 ej3 eS3 (fun y3 M3 => ?_)
  refine ye_aload rfl g0 ?_
  refine ye_getr rfl (M3.obj fa0 ⟨rfl, rfl⟩) rfl (fun cx3 ecx3 => ?_)
  have fcx3 := yAt.row fa0 ecx3
  refine ye_p rfl rfl ?_
  refine ye_iload rfl g5 ?_
  obtain ⟨j4, ej4, ij4, h⟩ := gA_some h
  obtain ⟨S4, eS4, h⟩ := sq_some h
  refine yw_ast rfl M3 fcx3 yr_12_56 (by decide) ij4 ej4 eS4 (fun y4 M4 => ?_)
  refine ye_aload rfl g0 ?_
  refine ye_getr rfl (M4.obj fa0 ⟨rfl, rfl⟩) rfl (fun cx4 ecx4 => ?_)
  have fcx4 := yAt.row fa0 ecx4
  refine ye_p rfl rfl ?_
  refine ye_iload rfl g6 ?_
  refine ye_aload rfl g0 ?_
  refine ye_getr rfl (M4.obj fa0 ⟨rfl, rfl⟩) rfl (fun cx5 ecx5 => ?_)
  have fcx5 := yAt.row fa0 ecx5
  refine ye_iload rfl g1 ?_
  obtain ⟨j5, ej5, ij5, h⟩ := gA_some h
  refine yj_ald rfl (M4.arr fcx5 yr_12_16) ij5 ej5 ?_
  obtain ⟨w3, hw3, h⟩ := bV_some h
  refine ye_callS (As := [.int l6, .int (S4.2.1 8 16 j5)]) (rest := [.int 8, .ref cx4]) 1 (Or.inl rfl) rfl rfl rfl (Nat.le_of_ble_eq_true rfl) ((m_X12_up (d := d + 0) (T := T) N S4 l6 (S4.2.1 8 16 j5) hw3) y4 sz M4) ?_
  obtain ⟨j6, ej6, ij6, h⟩ := gA_some h
  obtain ⟨S5, eS5, h⟩ := sq_some h
  refine yw_ast rfl M4 fcx4 yr_12_56 (by decide) ij6 ej6 eS5 (fun y5 M5 => ?_)
  refine ye_aload rfl g0 ?_
  refine ye_getr rfl (M5.obj fa0 ⟨rfl, rfl⟩) rfl (fun cx6 ecx6 => ?_)
  have fcx6 := yAt.row fa0 ecx6
  refine ye_p rfl rfl ?_
  refine ye_aload rfl g0 ?_
  refine ye_iload rfl g1 ?_
  refine ye_p rfl rfl ?_
  obtain ⟨w4, hw4, h⟩ := bV_some h
  refine ye_callV (As := [.int l1, .int 6]) (rest := [.int 9, .ref cx6]) 0 (Or.inl rfl) rfl rfl rfl (Nat.le_of_ble_eq_true rfl) (M5.obj fa0 ⟨rfl, rfl⟩) ((m_X12_plane (d := d + 0) (T := T) N S5 l1 6 a0 fa0 hw4) y5 sz M5) ?_
  refine ye_aload rfl g0 ?_
  refine ye_iload rfl g1 ?_
  refine ye_p rfl rfl ?_
  obtain ⟨w5, hw5, h⟩ := bV_some h
  refine ye_callV (As := [.int l1, .int 5]) (rest := [.int w4, .int 9, .ref cx6]) 0 (Or.inl rfl) rfl rfl rfl (Nat.le_of_ble_eq_true rfl) (M5.obj fa0 ⟨rfl, rfl⟩) ((m_X12_plane (d := d + 0) (T := T) N S5 l1 5 a0 fa0 hw5) y5 sz M5) ?_
  refine ye_p rfl rfl ?_
  obtain ⟨j7, ej7, ij7, h⟩ := gA_some h
  obtain ⟨S6, eS6, h⟩ := sq_some h
  refine yw_ast rfl M5 fcx6 yr_12_56 (by decide) ij7 ej7 eS6 (fun y6 M6 => ?_)
  exact ye_ret rfl rfl (rQV h M6)

def f_X12_tell_22 (N : Nat) (S : yS) (l1 : Int32) (l2 : Int32) (l3 : Int32) (l4 : Int32) (l5 : Int32) (l6 : Int32) (t1 : Int32) (t2 : Int32) : Option (Int32 × yS) := gA 10 t1 fun j1 => sq (yA S 8 56 (upd (S.2.1 8 56) j1 t2)) fun S1 => bV (f_X12_hasLamp N S1 l4) fun w1 => if w1 = 0 then f_X12_tell_42 N S1 l1 l2 l3 l5 l6 4 0 else f_X12_tell_42 N S1 l1 l2 l3 l5 l6 4 1
set_option maxHeartbeats 4000000 in
set_option maxRecDepth 40000 in
theorem w_X12_tell_22 {F : xH} {ev : xEv} {prim : xRel} {d sz : Nat} {T : yT} {v : Int32} {S' : yS} (N : Nat) (S : yS) (l1 : Int32) (l2 : Int32) (l3 : Int32) (l4 : Int32) (l5 : Int32) (l6 : Int32) (t1 : Int32) (t2 : Int32) (hp : xH) (lv : xLv) (a0 : Nat) (b0 : Nat) (fa0 : yAt T 12 8 0 a0) (fb0 : yAt T 12 8 57 b0) (g0 : xG lv 0 = some (.ref a0)) (g1 : xG lv 1 = some (.int l1)) (g2 : xG lv 2 = some (.int l2)) (g3 : xG lv 3 = some (.int l3)) (g4 : xG lv 4 = some (.int l4)) (g5 : xG lv 5 = some (.int l5)) (g6 : xG lv 6 = some (.int l6)) (hM : cR [8] F ev T S hp) (h : f_X12_tell_22 N S l1 l2 l3 l4 l5 l6 t1 t2 = some (v, S')) : yWE ev.2.1 (xstr ev) (xCalls ev xmi (xprog ev) prim (d + 1)) (pX12_tell ev) (22, lv, [.int t2, .int t1, .ref b0], hp, sz, 0) (ypQ [8] F ev T sz (none) S') := by
  unfold f_X12_tell_22 at h
  obtain ⟨j1, ej1, ij1, h⟩ := gA_some h
  obtain ⟨S1, eS1, h⟩ := sq_some h
  refine yw_ast rfl hM fb0 yr_12_56 (by decide) ij1 ej1 eS1 (fun y1 M1 => ?_)
  refine ye_aload rfl g0 ?_
  refine ye_getr rfl (M1.obj fa0 ⟨rfl, rfl⟩) rfl (fun cx1 ecx1 => ?_)
  have fcx1 := yAt.row fa0 ecx1
  refine ye_p rfl rfl ?_
  refine ye_aload rfl g0 ?_
  refine ye_iload rfl g4 ?_
  obtain ⟨w1, hw1, h⟩ := bV_some h
  refine ye_callV (As := [.int l4]) (rest := [.int 4, .ref cx1]) 0 (Or.inl rfl) rfl rfl rfl (Nat.le_of_ble_eq_true rfl) (M1.obj fa0 ⟨rfl, rfl⟩) ((m_X12_hasLamp (d := d + 0) (T := T) N S1 l4 a0 fa0 hw1) y1 sz M1) ?_
  refine ye_if_eq rfl (fun h1 => ?_) (fun h1 => ?_)
  · replace h := yiT h1 h
    refine ye_p rfl rfl ?_
    exact w_X12_tell_42 (prim := prim) (d := d) N S1 l1 l2 l3 l5 l6 4 0 y1 lv a0 cx1 fa0 fcx1 g0 g1 g2 g3 g5 g6 M1 h
  · replace h := yiN h1 h
    refine ye_p rfl rfl ?_
    refine ye_p rfl rfl ?_
    exact w_X12_tell_42 (prim := prim) (d := d) N S1 l1 l2 l3 l5 l6 4 1 y1 lv a0 cx1 fa0 fcx1 g0 g1 g2 g3 g5 g6 M1 h

def f_X12_tell_0 (N : Nat) (S : yS) (l1 : Int32) (l2 : Int32) (l3 : Int32) (l4 : Int32) (l5 : Int32) (l6 : Int32) : Option (Int32 × yS) := gA 2305 0 fun j1 => bV (f_X12_isDark N S (S.2.1 8 48 j1)) fun w1 => if w1 = 0 then f_X12_tell_22 N S l1 l2 l3 l4 l5 l6 3 0 else f_X12_tell_22 N S l1 l2 l3 l4 l5 l6 3 1
set_option maxHeartbeats 4000000 in
set_option maxRecDepth 40000 in
theorem w_X12_tell_0 {F : xH} {ev : xEv} {prim : xRel} {d sz : Nat} {T : yT} {v : Int32} {S' : yS} (N : Nat) (S : yS) (l1 : Int32) (l2 : Int32) (l3 : Int32) (l4 : Int32) (l5 : Int32) (l6 : Int32) (hp : xH) (lv : xLv) (a0 : Nat) (fa0 : yAt T 12 8 0 a0) (g0 : xG lv 0 = some (.ref a0)) (g1 : xG lv 1 = some (.int l1)) (g2 : xG lv 2 = some (.int l2)) (g3 : xG lv 3 = some (.int l3)) (g4 : xG lv 4 = some (.int l4)) (g5 : xG lv 5 = some (.int l5)) (g6 : xG lv 6 = some (.int l6)) (hM : cR [8] F ev T S hp) (h : f_X12_tell_0 N S l1 l2 l3 l4 l5 l6 = some (v, S')) : yWE ev.2.1 (xstr ev) (xCalls ev xmi (xprog ev) prim (d + 1)) (pX12_tell ev) (0, lv, [], hp, sz, 0) (ypQ [8] F ev T sz (none) S') := by
  unfold f_X12_tell_0 at h
  refine ye_aload rfl g0 ?_
  refine ye_getr rfl (hM.obj fa0 ⟨rfl, rfl⟩) rfl (fun cx1 ecx1 => ?_)
  have fcx1 := yAt.row fa0 ecx1
  refine ye_p rfl rfl ?_
  refine ye_aload rfl g0 ?_
  refine ye_getr rfl (hM.obj fa0 ⟨rfl, rfl⟩) rfl (fun cx2 ecx2 => ?_)
  have fcx2 := yAt.row fa0 ecx2
  refine ye_p rfl rfl ?_
  obtain ⟨j1, ej1, ij1, h⟩ := gA_some h
  refine yj_ald rfl (hM.arr fcx2 yr_12_48) ij1 ej1 ?_
  obtain ⟨w1, hw1, h⟩ := bV_some h
  refine ye_callS (As := [.int (S.2.1 8 48 j1)]) (rest := [.int 3, .ref cx1]) 1 (Or.inl rfl) rfl rfl rfl (Nat.le_of_ble_eq_true rfl) ((m_X12_isDark (d := d + 0) (T := T) N S (S.2.1 8 48 j1) hw1) hp sz hM) ?_
  refine ye_if_eq rfl (fun h1 => ?_) (fun h1 => ?_)
  · replace h := yiT h1 h
    refine ye_p rfl rfl ?_
    exact w_X12_tell_22 (prim := prim) (d := d) N S l1 l2 l3 l4 l5 l6 3 0 hp lv a0 cx1 fa0 fcx1 g0 g1 g2 g3 g4 g5 g6 hM h
  · replace h := yiN h1 h
    refine ye_p rfl rfl ?_
    refine ye_p rfl rfl ?_
    exact w_X12_tell_22 (prim := prim) (d := d) N S l1 l2 l3 l4 l5 l6 3 1 hp lv a0 cx1 fa0 fcx1 g0 g1 g2 g3 g4 g5 g6 hM h
def f_X12_tell (N : Nat) (S : yS) (xl1 : Int32) (xl2 : Int32) (xl3 : Int32) (xl4 : Int32) (xl5 : Int32) (xl6 : Int32) : Option (Int32 × yS) := f_X12_tell_0 N S xl1 xl2 xl3 xl4 xl5 xl6
theorem m_X12_tell {F : xH} {ev : xEv} {prim : xRel} {d : Nat} {T : yT} {v : Int32} {S' : yS} (N : Nat) (S : yS) (xl1 : Int32) (xl2 : Int32) (xl3 : Int32) (xl4 : Int32) (xl5 : Int32) (xl6 : Int32) (a0 : Nat) (fa0 : yAt T 12 8 0 a0) (h : f_X12_tell N S xl1 xl2 xl3 xl4 xl5 xl6 = some (v, S')) : ykQ [8] F ev prim (d + 2) 254 T S [.ref a0, .int xl1, .int xl2, .int xl3, .int xl4, .int xl5, .int xl6] (none) S' :=
  ykQ.of (pg_254 ev) mi_254 (Nat.le_of_ble_eq_true rfl) (fun hp sz hM => w_X12_tell_0 (prim := prim) (d := d) N S xl1 xl2 xl3 xl4 xl5 xl6 hp _ a0 fa0 rfl rfl rfl rfl rfl rfl rfl hM h)

def f_X12_start_316 (N : Nat) (k214 : yS → Int32 → Int32 → Int32 → Int32 → Int32 → Int32 → Option (Int32 × yS)) (k220 : yS → Int32 → Int32 → Int32 → Int32 → Int32 → Int32 → Int32 → Int32 → Option (Int32 × yS)) (S : yS) (l2 : Int32) (l4 : Int32) (l5 : Int32) (l6 : Int32) (l7 : Int32) (l8 : Int32) (l9 : Int32) (l10 : Int32) : Option (Int32 × yS) := k220 S l2 l4 l5 l6 l7 l8 l9 (l10 + 1)
set_option maxHeartbeats 4000000 in
set_option maxRecDepth 40000 in
theorem w_X12_start_316 {F : xH} {ev : xEv} {prim : xRel} {d sz : Nat} {T : yT} {v : Int32} {S' : yS} (N : Nat) (k214 : yS → Int32 → Int32 → Int32 → Int32 → Int32 → Int32 → Option (Int32 × yS)) (k220 : yS → Int32 → Int32 → Int32 → Int32 → Int32 → Int32 → Int32 → Int32 → Option (Int32 × yS)) (u214 : ∀ (S : yS) (l2 : Int32) (l4 : Int32) (l5 : Int32) (l6 : Int32) (l7 : Int32) (l8 : Int32) (hp : xH) (lv : xLv) (a0 : Nat) (fa0 : yAt T 12 8 0 a0) (g0 : xG lv 0 = some (.ref a0)) (g2 : xG lv 2 = some (.int l2)) (g4 : xG lv 4 = some (.int l4)) (g5 : xG lv 5 = some (.int l5)) (g6 : xG lv 6 = some (.int l6)) (g7 : xG lv 7 = some (.int l7)) (g8 : xG lv 8 = some (.int l8)) (hM : cR [8] F ev T S hp) (h : k214 S l2 l4 l5 l6 l7 l8 = some (v, S')), yWE ev.2.1 (xstr ev) (xCalls ev xmi (xprog ev) prim (d + 2)) (pX12_start ev) (214, lv, [], hp, sz, 0) (ypQ [8] F ev T sz (none) S')) (u220 : ∀ (S : yS) (l2 : Int32) (l4 : Int32) (l5 : Int32) (l6 : Int32) (l7 : Int32) (l8 : Int32) (l9 : Int32) (l10 : Int32) (hp : xH) (lv : xLv) (a0 : Nat) (fa0 : yAt T 12 8 0 a0) (g0 : xG lv 0 = some (.ref a0)) (g2 : xG lv 2 = some (.int l2)) (g4 : xG lv 4 = some (.int l4)) (g5 : xG lv 5 = some (.int l5)) (g6 : xG lv 6 = some (.int l6)) (g7 : xG lv 7 = some (.int l7)) (g8 : xG lv 8 = some (.int l8)) (g9 : xG lv 9 = some (.int l9)) (g10 : xG lv 10 = some (.int l10)) (hM : cR [8] F ev T S hp) (h : k220 S l2 l4 l5 l6 l7 l8 l9 l10 = some (v, S')), yWE ev.2.1 (xstr ev) (xCalls ev xmi (xprog ev) prim (d + 2)) (pX12_start ev) (220, lv, [], hp, sz, 0) (ypQ [8] F ev T sz (none) S')) (S : yS) (l2 : Int32) (l4 : Int32) (l5 : Int32) (l6 : Int32) (l7 : Int32) (l8 : Int32) (l9 : Int32) (l10 : Int32) (hp : xH) (lv : xLv) (a0 : Nat) (fa0 : yAt T 12 8 0 a0) (g0 : xG lv 0 = some (.ref a0)) (g2 : xG lv 2 = some (.int l2)) (g4 : xG lv 4 = some (.int l4)) (g5 : xG lv 5 = some (.int l5)) (g6 : xG lv 6 = some (.int l6)) (g7 : xG lv 7 = some (.int l7)) (g8 : xG lv 8 = some (.int l8)) (g9 : xG lv 9 = some (.int l9)) (g10 : xG lv 10 = some (.int l10)) (hM : cR [8] F ev T S hp) (h : f_X12_start_316 N k214 k220 S l2 l4 l5 l6 l7 l8 l9 l10 = some (v, S')) : yWE ev.2.1 (xstr ev) (xCalls ev xmi (xprog ev) prim (d + 2)) (pX12_start ev) (316, lv, [], hp, sz, 0) (ypQ [8] F ev T sz (none) S') := by
  unfold f_X12_start_316 at h
  refine ye_iinc rfl g10 ?_
  have g0_z1 := xG_o1 (i := 10) (v := .int (l10 + 1)) g0 rfl
  have g2_z1 := xG_o1 (i := 10) (v := .int (l10 + 1)) g2 rfl
  have g4_z1 := xG_o1 (i := 10) (v := .int (l10 + 1)) g4 rfl
  have g5_z1 := xG_o1 (i := 10) (v := .int (l10 + 1)) g5 rfl
  have g6_z1 := xG_o1 (i := 10) (v := .int (l10 + 1)) g6 rfl
  have g7_z1 := xG_o1 (i := 10) (v := .int (l10 + 1)) g7 rfl
  have g8_z1 := xG_o1 (i := 10) (v := .int (l10 + 1)) g8 rfl
  have g9_z1 := xG_o1 (i := 10) (v := .int (l10 + 1)) g9 rfl
  have g10_z1 := xG_same lv 10 (.int (l10 + 1))
  generalize xSt1 lv 10 (.int (l10 + 1)) = lvz1 at g0_z1 g2_z1 g4_z1 g5_z1 g6_z1 g7_z1 g8_z1 g9_z1 g10_z1 ⊢
  refine ye_p rfl rfl ?_
  exact u220 S l2 l4 l5 l6 l7 l8 l9 (l10 + 1) hp lvz1 a0 fa0 g0_z1 g2_z1 g4_z1 g5_z1 g6_z1 g7_z1 g8_z1 g9_z1 g10_z1 hM h

def f_X12_start_312 (N : Nat) (k214 : yS → Int32 → Int32 → Int32 → Int32 → Int32 → Int32 → Option (Int32 × yS)) (k220 : yS → Int32 → Int32 → Int32 → Int32 → Int32 → Int32 → Int32 → Int32 → Option (Int32 × yS)) (S : yS) (l2 : Int32) (l4 : Int32) (l5 : Int32) (l6 : Int32) (l7 : Int32) (l8 : Int32) (l10 : Int32) : Option (Int32 × yS) := f_X12_start_316 N k214 k220 S l2 l4 l5 l6 l7 l8 l10 l10
set_option maxHeartbeats 4000000 in
set_option maxRecDepth 40000 in
theorem w_X12_start_312 {F : xH} {ev : xEv} {prim : xRel} {d sz : Nat} {T : yT} {v : Int32} {S' : yS} (N : Nat) (k214 : yS → Int32 → Int32 → Int32 → Int32 → Int32 → Int32 → Option (Int32 × yS)) (k220 : yS → Int32 → Int32 → Int32 → Int32 → Int32 → Int32 → Int32 → Int32 → Option (Int32 × yS)) (u214 : ∀ (S : yS) (l2 : Int32) (l4 : Int32) (l5 : Int32) (l6 : Int32) (l7 : Int32) (l8 : Int32) (hp : xH) (lv : xLv) (a0 : Nat) (fa0 : yAt T 12 8 0 a0) (g0 : xG lv 0 = some (.ref a0)) (g2 : xG lv 2 = some (.int l2)) (g4 : xG lv 4 = some (.int l4)) (g5 : xG lv 5 = some (.int l5)) (g6 : xG lv 6 = some (.int l6)) (g7 : xG lv 7 = some (.int l7)) (g8 : xG lv 8 = some (.int l8)) (hM : cR [8] F ev T S hp) (h : k214 S l2 l4 l5 l6 l7 l8 = some (v, S')), yWE ev.2.1 (xstr ev) (xCalls ev xmi (xprog ev) prim (d + 2)) (pX12_start ev) (214, lv, [], hp, sz, 0) (ypQ [8] F ev T sz (none) S')) (u220 : ∀ (S : yS) (l2 : Int32) (l4 : Int32) (l5 : Int32) (l6 : Int32) (l7 : Int32) (l8 : Int32) (l9 : Int32) (l10 : Int32) (hp : xH) (lv : xLv) (a0 : Nat) (fa0 : yAt T 12 8 0 a0) (g0 : xG lv 0 = some (.ref a0)) (g2 : xG lv 2 = some (.int l2)) (g4 : xG lv 4 = some (.int l4)) (g5 : xG lv 5 = some (.int l5)) (g6 : xG lv 6 = some (.int l6)) (g7 : xG lv 7 = some (.int l7)) (g8 : xG lv 8 = some (.int l8)) (g9 : xG lv 9 = some (.int l9)) (g10 : xG lv 10 = some (.int l10)) (hM : cR [8] F ev T S hp) (h : k220 S l2 l4 l5 l6 l7 l8 l9 l10 = some (v, S')), yWE ev.2.1 (xstr ev) (xCalls ev xmi (xprog ev) prim (d + 2)) (pX12_start ev) (220, lv, [], hp, sz, 0) (ypQ [8] F ev T sz (none) S')) (S : yS) (l2 : Int32) (l4 : Int32) (l5 : Int32) (l6 : Int32) (l7 : Int32) (l8 : Int32) (l10 : Int32) (hp : xH) (lv : xLv) (a0 : Nat) (fa0 : yAt T 12 8 0 a0) (g0 : xG lv 0 = some (.ref a0)) (g2 : xG lv 2 = some (.int l2)) (g4 : xG lv 4 = some (.int l4)) (g5 : xG lv 5 = some (.int l5)) (g6 : xG lv 6 = some (.int l6)) (g7 : xG lv 7 = some (.int l7)) (g8 : xG lv 8 = some (.int l8)) (g10 : xG lv 10 = some (.int l10)) (hM : cR [8] F ev T S hp) (h : f_X12_start_312 N k214 k220 S l2 l4 l5 l6 l7 l8 l10 = some (v, S')) : yWE ev.2.1 (xstr ev) (xCalls ev xmi (xprog ev) prim (d + 2)) (pX12_start ev) (312, lv, [], hp, sz, 0) (ypQ [8] F ev T sz (none) S') := by
  unfold f_X12_start_312 at h
  refine ye_iload rfl g10 ?_
  refine ye_p rfl rfl ?_
  have g0_z1 := xG_o1 (i := 9) (v := .int l10) g0 rfl
  have g2_z1 := xG_o1 (i := 9) (v := .int l10) g2 rfl
  have g4_z1 := xG_o1 (i := 9) (v := .int l10) g4 rfl
  have g5_z1 := xG_o1 (i := 9) (v := .int l10) g5 rfl
  have g6_z1 := xG_o1 (i := 9) (v := .int l10) g6 rfl
  have g7_z1 := xG_o1 (i := 9) (v := .int l10) g7 rfl
  have g8_z1 := xG_o1 (i := 9) (v := .int l10) g8 rfl
  have g10_z1 := xG_o1 (i := 9) (v := .int l10) g10 rfl
  have g9_z1 := xG_same lv 9 (.int l10)
  generalize xSt1 lv 9 (.int l10) = lvz1 at g0_z1 g2_z1 g4_z1 g5_z1 g6_z1 g7_z1 g8_z1 g10_z1 g9_z1 ⊢
  exact w_X12_start_316 (prim := prim) (d := d) N k214 k220 u214 u220 S l2 l4 l5 l6 l7 l8 l10 l10 hp lvz1 a0 fa0 g0_z1 g2_z1 g4_z1 g5_z1 g6_z1 g7_z1 g8_z1 g9_z1 g10_z1 hM h

def f_X12_start_402 (N : Nat) (k214 : yS → Int32 → Int32 → Int32 → Int32 → Int32 → Int32 → Option (Int32 × yS)) (S : yS) (l2 : Int32) (l4 : Int32) (l5 : Int32) (l6 : Int32) (l7 : Int32) (l8 : Int32) (l9 : Int32) (t0 : Int32) : Option (Int32 × yS) := if t0 = 0 then k214 S l2 l4 l5 l6 l7 l8 else gA 30 l9 fun j1 => if (S.2.1 8 25 j1) ≤ l6 then gA 30 l9 fun j2 => bS (f_X12_setBag N S l9 0 ((-1))) fun w1 S1 => bS (f_X12_setBag N S1 l9 1 l2) fun w2 S2 => bS (f_X12_led N S2 l9 (100 + l2)) fun w3 S3 => k214 S3 l2 l4 l5 (l6 - (S.2.1 8 25 j2)) l7 l8 else k214 S l2 l4 l5 l6 l7 l8
set_option maxHeartbeats 4000000 in
set_option maxRecDepth 40000 in
theorem w_X12_start_402 {F : xH} {ev : xEv} {prim : xRel} {d sz : Nat} {T : yT} {v : Int32} {S' : yS} (N : Nat) (k214 : yS → Int32 → Int32 → Int32 → Int32 → Int32 → Int32 → Option (Int32 × yS)) (u214 : ∀ (S : yS) (l2 : Int32) (l4 : Int32) (l5 : Int32) (l6 : Int32) (l7 : Int32) (l8 : Int32) (hp : xH) (lv : xLv) (a0 : Nat) (fa0 : yAt T 12 8 0 a0) (g0 : xG lv 0 = some (.ref a0)) (g2 : xG lv 2 = some (.int l2)) (g4 : xG lv 4 = some (.int l4)) (g5 : xG lv 5 = some (.int l5)) (g6 : xG lv 6 = some (.int l6)) (g7 : xG lv 7 = some (.int l7)) (g8 : xG lv 8 = some (.int l8)) (hM : cR [8] F ev T S hp) (h : k214 S l2 l4 l5 l6 l7 l8 = some (v, S')), yWE ev.2.1 (xstr ev) (xCalls ev xmi (xprog ev) prim (d + 2)) (pX12_start ev) (214, lv, [], hp, sz, 0) (ypQ [8] F ev T sz (none) S')) (S : yS) (l2 : Int32) (l4 : Int32) (l5 : Int32) (l6 : Int32) (l7 : Int32) (l8 : Int32) (l9 : Int32) (t0 : Int32) (hp : xH) (lv : xLv) (a0 : Nat) (fa0 : yAt T 12 8 0 a0) (g0 : xG lv 0 = some (.ref a0)) (g2 : xG lv 2 = some (.int l2)) (g4 : xG lv 4 = some (.int l4)) (g5 : xG lv 5 = some (.int l5)) (g6 : xG lv 6 = some (.int l6)) (g7 : xG lv 7 = some (.int l7)) (g8 : xG lv 8 = some (.int l8)) (g9 : xG lv 9 = some (.int l9)) (hM : cR [8] F ev T S hp) (h : f_X12_start_402 N k214 S l2 l4 l5 l6 l7 l8 l9 t0 = some (v, S')) : yWE ev.2.1 (xstr ev) (xCalls ev xmi (xprog ev) prim (d + 2)) (pX12_start ev) (402, lv, [.int t0], hp, sz, 0) (ypQ [8] F ev T sz (none) S') := by
  unfold f_X12_start_402 at h
  refine ye_p rfl rfl ?_
  have g0_z1 := xG_o1 (i := 10) (v := .int t0) g0 rfl
  have g2_z1 := xG_o1 (i := 10) (v := .int t0) g2 rfl
  have g4_z1 := xG_o1 (i := 10) (v := .int t0) g4 rfl
  have g5_z1 := xG_o1 (i := 10) (v := .int t0) g5 rfl
  have g6_z1 := xG_o1 (i := 10) (v := .int t0) g6 rfl
  have g7_z1 := xG_o1 (i := 10) (v := .int t0) g7 rfl
  have g8_z1 := xG_o1 (i := 10) (v := .int t0) g8 rfl
  have g9_z1 := xG_o1 (i := 10) (v := .int t0) g9 rfl
  have g10_z1 := xG_same lv 10 (.int t0)
  generalize xSt1 lv 10 (.int t0) = lvz1 at g0_z1 g2_z1 g4_z1 g5_z1 g6_z1 g7_z1 g8_z1 g9_z1 g10_z1 ⊢
  refine ye_iload rfl g10_z1 ?_
  refine ye_if_eq rfl (fun h1 => ?_) (fun h1 => ?_)
  · replace h := yiT h1 h
    exact u214 S l2 l4 l5 l6 l7 l8 hp lvz1 a0 fa0 g0_z1 g2_z1 g4_z1 g5_z1 g6_z1 g7_z1 g8_z1 hM h
  · replace h := yiN h1 h
    refine ye_aload rfl g0_z1 ?_
    refine ye_getr rfl (hM.obj fa0 ⟨rfl, rfl⟩) rfl (fun cx1 ecx1 => ?_)
    have fcx1 := yAt.row fa0 ecx1
    refine ye_iload rfl g9_z1 ?_
    obtain ⟨j1, ej1, ij1, h⟩ := gA_some h
    refine yj_ald rfl (hM.arr fcx1 yr_12_25) ij1 ej1 ?_
    refine ye_iload rfl g6_z1 ?_
    refine ye_icmp_le rfl (fun h2 => ?_) (fun h2 => ?_)
    · replace h := yiT h2 h
      refine ye_iload rfl g6_z1 ?_
      refine ye_aload rfl g0_z1 ?_
      refine ye_getr rfl (hM.obj fa0 ⟨rfl, rfl⟩) rfl (fun cx2 ecx2 => ?_)
      have fcx2 := yAt.row fa0 ecx2
      refine ye_iload rfl g9_z1 ?_
      obtain ⟨j2, ej2, ij2, h⟩ := gA_some h
      refine yj_ald rfl (hM.arr fcx2 yr_12_25) ij2 ej2 ?_
      refine ye_p rfl rfl ?_
      refine ye_p rfl rfl ?_
      have g0_z2 := xG_o1 (i := 6) (v := .int (l6 - (S.2.1 8 25 j2))) g0_z1 rfl
      have g2_z2 := xG_o1 (i := 6) (v := .int (l6 - (S.2.1 8 25 j2))) g2_z1 rfl
      have g4_z2 := xG_o1 (i := 6) (v := .int (l6 - (S.2.1 8 25 j2))) g4_z1 rfl
      have g5_z2 := xG_o1 (i := 6) (v := .int (l6 - (S.2.1 8 25 j2))) g5_z1 rfl
      have g7_z2 := xG_o1 (i := 6) (v := .int (l6 - (S.2.1 8 25 j2))) g7_z1 rfl
      have g8_z2 := xG_o1 (i := 6) (v := .int (l6 - (S.2.1 8 25 j2))) g8_z1 rfl
      have g9_z2 := xG_o1 (i := 6) (v := .int (l6 - (S.2.1 8 25 j2))) g9_z1 rfl
      have g6_z2 := xG_same lvz1 6 (.int (l6 - (S.2.1 8 25 j2)))
      generalize xSt1 lvz1 6 (.int (l6 - (S.2.1 8 25 j2))) = lvz2 at g0_z2 g2_z2 g4_z2 g5_z2 g7_z2 g8_z2 g9_z2 g6_z2 ⊢
      refine ye_aload rfl g0_z2 ?_
      refine ye_iload rfl g9_z2 ?_
      refine ye_p rfl rfl ?_
      refine ye_p rfl rfl ?_
      obtain ⟨w1, S1, hw1, h⟩ := bS_some h
      obtain ⟨y1, cy1, M1⟩ := (m_X12_setBag (d := d + 1) (T := T) N S l9 0 ((-1)) a0 fa0 hw1) hp sz hM
      refine ye_callV (As := [.int l9, .int 0, .int ((-1))]) (rest := []) 0 (Or.inl rfl) rfl rfl rfl (Nat.le_of_ble_eq_true rfl) (hM.obj fa0 ⟨rfl, rfl⟩) cy1 ?_
      refine ye_aload rfl g0_z2 ?_
      refine ye_iload rfl g9_z2 ?_
      refine ye_p rfl rfl ?_
      refine ye_iload rfl g2_z2 ?_
      obtain ⟨w2, S2, hw2, h⟩ := bS_some h
      obtain ⟨y2, cy2, M2⟩ := (m_X12_setBag (d := d + 1) (T := T) N S1 l9 1 l2 a0 fa0 hw2) y1 sz M1
      refine ye_callV (As := [.int l9, .int 1, .int l2]) (rest := []) 0 (Or.inl rfl) rfl rfl rfl (Nat.le_of_ble_eq_true rfl) (M1.obj fa0 ⟨rfl, rfl⟩) cy2 ?_
      refine ye_aload rfl g0_z2 ?_
      refine ye_iload rfl g9_z2 ?_
      refine ye_p rfl rfl ?_
      refine ye_iload rfl g2_z2 ?_
      refine ye_p rfl rfl ?_
      obtain ⟨w3, S3, hw3, h⟩ := bS_some h
      obtain ⟨y3, cy3, M3⟩ := (m_X12_led (d := d + 0) (T := T) N S2 l9 (100 + l2) a0 fa0 hw3) y2 sz M2
      refine ye_callV (As := [.int l9, .int (100 + l2)]) (rest := []) 0 (Or.inl rfl) rfl rfl rfl (Nat.le_of_ble_eq_true rfl) (M2.obj fa0 ⟨rfl, rfl⟩) cy3 ?_
      refine ye_p rfl rfl ?_
      exact u214 S3 l2 l4 l5 (l6 - (S.2.1 8 25 j2)) l7 l8 y3 lvz2 a0 fa0 g0_z2 g2_z2 g4_z2 g5_z2 g6_z2 g7_z2 g8_z2 M3 h
    · replace h := yiN h2 h
      refine ye_p rfl rfl ?_
      exact u214 S l2 l4 l5 l6 l7 l8 hp lvz1 a0 fa0 g0_z1 g2_z1 g4_z1 g5_z1 g6_z1 g7_z1 g8_z1 hM h

def f_X12_start_397 (N : Nat) (k214 : yS → Int32 → Int32 → Int32 → Int32 → Int32 → Int32 → Option (Int32 × yS)) (S : yS) (l2 : Int32) (l4 : Int32) (l5 : Int32) (l6 : Int32) (l7 : Int32) (l8 : Int32) (l9 : Int32) : Option (Int32 × yS) := f_X12_start_402 N k214 S l2 l4 l5 l6 l7 l8 l9 1
set_option maxHeartbeats 4000000 in
set_option maxRecDepth 40000 in
theorem w_X12_start_397 {F : xH} {ev : xEv} {prim : xRel} {d sz : Nat} {T : yT} {v : Int32} {S' : yS} (N : Nat) (k214 : yS → Int32 → Int32 → Int32 → Int32 → Int32 → Int32 → Option (Int32 × yS)) (u214 : ∀ (S : yS) (l2 : Int32) (l4 : Int32) (l5 : Int32) (l6 : Int32) (l7 : Int32) (l8 : Int32) (hp : xH) (lv : xLv) (a0 : Nat) (fa0 : yAt T 12 8 0 a0) (g0 : xG lv 0 = some (.ref a0)) (g2 : xG lv 2 = some (.int l2)) (g4 : xG lv 4 = some (.int l4)) (g5 : xG lv 5 = some (.int l5)) (g6 : xG lv 6 = some (.int l6)) (g7 : xG lv 7 = some (.int l7)) (g8 : xG lv 8 = some (.int l8)) (hM : cR [8] F ev T S hp) (h : k214 S l2 l4 l5 l6 l7 l8 = some (v, S')), yWE ev.2.1 (xstr ev) (xCalls ev xmi (xprog ev) prim (d + 2)) (pX12_start ev) (214, lv, [], hp, sz, 0) (ypQ [8] F ev T sz (none) S')) (S : yS) (l2 : Int32) (l4 : Int32) (l5 : Int32) (l6 : Int32) (l7 : Int32) (l8 : Int32) (l9 : Int32) (hp : xH) (lv : xLv) (a0 : Nat) (fa0 : yAt T 12 8 0 a0) (g0 : xG lv 0 = some (.ref a0)) (g2 : xG lv 2 = some (.int l2)) (g4 : xG lv 4 = some (.int l4)) (g5 : xG lv 5 = some (.int l5)) (g6 : xG lv 6 = some (.int l6)) (g7 : xG lv 7 = some (.int l7)) (g8 : xG lv 8 = some (.int l8)) (g9 : xG lv 9 = some (.int l9)) (hM : cR [8] F ev T S hp) (h : f_X12_start_397 N k214 S l2 l4 l5 l6 l7 l8 l9 = some (v, S')) : yWE ev.2.1 (xstr ev) (xCalls ev xmi (xprog ev) prim (d + 2)) (pX12_start ev) (397, lv, [], hp, sz, 0) (ypQ [8] F ev T sz (none) S') := by
  unfold f_X12_start_397 at h
  refine ye_p rfl rfl ?_
  refine ye_p rfl rfl ?_
  exact w_X12_start_402 (prim := prim) (d := d) N k214 u214 S l2 l4 l5 l6 l7 l8 l9 1 hp lv a0 fa0 g0 g2 g4 g5 g6 g7 g8 g9 hM h

def f_X12_start_220 : Nat → Nat → (yS → Int32 → Int32 → Int32 → Int32 → Int32 → Int32 → Option (Int32 × yS)) → yS → Int32 → Int32 → Int32 → Int32 → Int32 → Int32 → Int32 → Int32 → Option (Int32 × yS)
  | 0, _, _, _, _, _, _, _, _, _, _, _ => none
  | n + 1, N, k214, S, l2, l4, l5, l6, l7, l8, l9, l10 => if (S.1 8 28) ≤ l10 then if ¬ l9 = ((-1)) then gA 30 l9 fun j1 => if (S.2.1 8 24 j1) = l7 then f_X12_start_397 N k214 S l2 l4 l5 l6 l7 (l8 ||| (1 <<< (l9 &&& 31))) l9 else gA 12 l4 fun j2 => gA 30 l9 fun j3 => gA 64 ((8 * l7) + (S.2.1 8 24 j3)) fun j4 => gA 30 l9 fun j5 => gA 64 ((8 * l5) + (S.2.1 8 24 j5)) fun j6 => if ¬ ((S.2.1 8 4 j2) + (S.2.1 8 10 j4)) = (S.2.1 8 10 j6) then f_X12_start_402 N k214 S l2 l4 l5 l6 l7 (l8 ||| (1 <<< (l9 &&& 31))) l9 0 else f_X12_start_397 N k214 S l2 l4 l5 l6 l7 (l8 ||| (1 <<< (l9 &&& 31))) l9 else some (0, S) else if ((l8 >>> (l10 &&& 31)) &&& 1) = 1 then f_X12_start_316 N k214 (fun S l2 l4 l5 l6 l7 l8 l9 l10 => f_X12_start_220 n N k214 S l2 l4 l5 l6 l7 l8 l9 l10) S l2 l4 l5 l6 l7 l8 l9 l10 else bV (f_X12_bagOf N S l10 0) fun w1 => if w1 = l5 then if l9 = ((-1)) then f_X12_start_312 N k214 (fun S l2 l4 l5 l6 l7 l8 l9 l10 => f_X12_start_220 n N k214 S l2 l4 l5 l6 l7 l8 l9 l10) S l2 l4 l5 l6 l7 l8 l10 else gA 30 l10 fun j7 => gA 30 l9 fun j8 => if (S.2.1 8 26 j7) < (S.2.1 8 26 j8) then f_X12_start_312 N k214 (fun S l2 l4 l5 l6 l7 l8 l9 l10 => f_X12_start_220 n N k214 S l2 l4 l5 l6 l7 l8 l9 l10) S l2 l4 l5 l6 l7 l8 l10 else gA 30 l10 fun j9 => gA 30 l9 fun j10 => if ¬ (S.2.1 8 26 j9) = (S.2.1 8 26 j10) then f_X12_start_316 N k214 (fun S l2 l4 l5 l6 l7 l8 l9 l10 => f_X12_start_220 n N k214 S l2 l4 l5 l6 l7 l8 l9 l10) S l2 l4 l5 l6 l7 l8 l9 l10 else gA 30 l10 fun j11 => gA 30 l9 fun j12 => if (S.2.1 8 27 j12) ≤ (S.2.1 8 27 j11) then f_X12_start_316 N k214 (fun S l2 l4 l5 l6 l7 l8 l9 l10 => f_X12_start_220 n N k214 S l2 l4 l5 l6 l7 l8 l9 l10) S l2 l4 l5 l6 l7 l8 l9 l10 else f_X12_start_312 N k214 (fun S l2 l4 l5 l6 l7 l8 l9 l10 => f_X12_start_220 n N k214 S l2 l4 l5 l6 l7 l8 l9 l10) S l2 l4 l5 l6 l7 l8 l10 else f_X12_start_316 N k214 (fun S l2 l4 l5 l6 l7 l8 l9 l10 => f_X12_start_220 n N k214 S l2 l4 l5 l6 l7 l8 l9 l10) S l2 l4 l5 l6 l7 l8 l9 l10
set_option maxHeartbeats 4000000 in
set_option maxRecDepth 40000 in
theorem w_X12_start_220 {F : xH} {ev : xEv} {prim : xRel} {d sz : Nat} {T : yT} {v : Int32} {S' : yS} (N : Nat) (n : Nat) (k214 : yS → Int32 → Int32 → Int32 → Int32 → Int32 → Int32 → Option (Int32 × yS)) (u214 : ∀ (S : yS) (l2 : Int32) (l4 : Int32) (l5 : Int32) (l6 : Int32) (l7 : Int32) (l8 : Int32) (hp : xH) (lv : xLv) (a0 : Nat) (fa0 : yAt T 12 8 0 a0) (g0 : xG lv 0 = some (.ref a0)) (g2 : xG lv 2 = some (.int l2)) (g4 : xG lv 4 = some (.int l4)) (g5 : xG lv 5 = some (.int l5)) (g6 : xG lv 6 = some (.int l6)) (g7 : xG lv 7 = some (.int l7)) (g8 : xG lv 8 = some (.int l8)) (hM : cR [8] F ev T S hp) (h : k214 S l2 l4 l5 l6 l7 l8 = some (v, S')), yWE ev.2.1 (xstr ev) (xCalls ev xmi (xprog ev) prim (d + 2)) (pX12_start ev) (214, lv, [], hp, sz, 0) (ypQ [8] F ev T sz (none) S')) : ∀ (S : yS) (l2 : Int32) (l4 : Int32) (l5 : Int32) (l6 : Int32) (l7 : Int32) (l8 : Int32) (l9 : Int32) (l10 : Int32) (hp : xH) (lv : xLv) (a0 : Nat) (fa0 : yAt T 12 8 0 a0) (g0 : xG lv 0 = some (.ref a0)) (g2 : xG lv 2 = some (.int l2)) (g4 : xG lv 4 = some (.int l4)) (g5 : xG lv 5 = some (.int l5)) (g6 : xG lv 6 = some (.int l6)) (g7 : xG lv 7 = some (.int l7)) (g8 : xG lv 8 = some (.int l8)) (g9 : xG lv 9 = some (.int l9)) (g10 : xG lv 10 = some (.int l10)) (hM : cR [8] F ev T S hp) (h : f_X12_start_220 n N k214 S l2 l4 l5 l6 l7 l8 l9 l10 = some (v, S')), yWE ev.2.1 (xstr ev) (xCalls ev xmi (xprog ev) prim (d + 2)) (pX12_start ev) (220, lv, [], hp, sz, 0) (ypQ [8] F ev T sz (none) S') := by
  induction n with
  | zero => intro S l2 l4 l5 l6 l7 l8 l9 l10 hp lv a0 fa0 g0 g2 g4 g5 g6 g7 g8 g9 g10 hM h; exact n_some h
  | succ n ih =>
    intro S l2 l4 l5 l6 l7 l8 l9 l10 hp lv a0 fa0 g0 g2 g4 g5 g6 g7 g8 g9 g10 hM h
    unfold f_X12_start_220 at h
    refine ye_iload rfl g10 ?_
    refine ye_aload rfl g0 ?_
    refine ye_getf rfl (hM.obj fa0 ⟨rfl, rfl⟩) rfl ?_
    refine ye_icmp_ge rfl (fun h1 => ?_) (fun h1 => ?_)
    · replace h := yiT h1 h
      refine ye_iload rfl g9 ?_
      refine ye_p rfl rfl ?_
      refine ye_icmp_ne rfl (fun h2 => ?_) (fun h2 => ?_)
      · replace h := yiT h2 h
        refine ye_iload rfl g8 ?_
        refine ye_p rfl rfl ?_
        refine ye_iload rfl g9 ?_
        refine ye_p rfl rfl ?_
        refine ye_p rfl rfl ?_
        refine ye_p rfl rfl ?_
        have g0_z1 := xG_o1 (i := 8) (v := .int (l8 ||| (1 <<< (l9 &&& 31)))) g0 rfl
        have g2_z1 := xG_o1 (i := 8) (v := .int (l8 ||| (1 <<< (l9 &&& 31)))) g2 rfl
        have g4_z1 := xG_o1 (i := 8) (v := .int (l8 ||| (1 <<< (l9 &&& 31)))) g4 rfl
        have g5_z1 := xG_o1 (i := 8) (v := .int (l8 ||| (1 <<< (l9 &&& 31)))) g5 rfl
        have g6_z1 := xG_o1 (i := 8) (v := .int (l8 ||| (1 <<< (l9 &&& 31)))) g6 rfl
        have g7_z1 := xG_o1 (i := 8) (v := .int (l8 ||| (1 <<< (l9 &&& 31)))) g7 rfl
        have g9_z1 := xG_o1 (i := 8) (v := .int (l8 ||| (1 <<< (l9 &&& 31)))) g9 rfl
        have g8_z1 := xG_same lv 8 (.int (l8 ||| (1 <<< (l9 &&& 31))))
        generalize xSt1 lv 8 (.int (l8 ||| (1 <<< (l9 &&& 31)))) = lvz1 at g0_z1 g2_z1 g4_z1 g5_z1 g6_z1 g7_z1 g9_z1 g8_z1 ⊢
        refine ye_aload rfl g0_z1 ?_
        refine ye_getr rfl (hM.obj fa0 ⟨rfl, rfl⟩) rfl (fun cx1 ecx1 => ?_)
        have fcx1 := yAt.row fa0 ecx1
        refine ye_iload rfl g9_z1 ?_
        obtain ⟨j1, ej1, ij1, h⟩ := gA_some h
        refine yj_ald rfl (hM.arr fcx1 yr_12_24) ij1 ej1 ?_
        refine ye_iload rfl g7_z1 ?_
        refine ye_icmp_eq rfl (fun h3 => ?_) (fun h3 => ?_)
        · replace h := yiT h3 h
          exact w_X12_start_397 (prim := prim) (d := d) N k214 u214 S l2 l4 l5 l6 l7 (l8 ||| (1 <<< (l9 &&& 31))) l9 hp lvz1 a0 fa0 g0_z1 g2_z1 g4_z1 g5_z1 g6_z1 g7_z1 g8_z1 g9_z1 hM h
        · replace h := yiN h3 h
          refine ye_aload rfl g0_z1 ?_
          refine ye_getr rfl (hM.obj fa0 ⟨rfl, rfl⟩) rfl (fun cx2 ecx2 => ?_)
          have fcx2 := yAt.row fa0 ecx2
          refine ye_iload rfl g4_z1 ?_
          obtain ⟨j2, ej2, ij2, h⟩ := gA_some h
          refine yj_ald rfl (hM.arr fcx2 yr_12_4) ij2 ej2 ?_
          refine ye_aload rfl g0_z1 ?_
          refine ye_getr rfl (hM.obj fa0 ⟨rfl, rfl⟩) rfl (fun cx3 ecx3 => ?_)
          have fcx3 := yAt.row fa0 ecx3
          refine ye_p rfl rfl ?_
          refine ye_iload rfl g7_z1 ?_
          refine ye_p rfl rfl ?_
          refine ye_aload rfl g0_z1 ?_
          refine ye_getr rfl (hM.obj fa0 ⟨rfl, rfl⟩) rfl (fun cx4 ecx4 => ?_)
          have fcx4 := yAt.row fa0 ecx4
          refine ye_iload rfl g9_z1 ?_
          obtain ⟨j3, ej3, ij3, h⟩ := gA_some h
          refine yj_ald rfl (hM.arr fcx4 yr_12_24) ij3 ej3 ?_
          refine ye_p rfl rfl ?_
          obtain ⟨j4, ej4, ij4, h⟩ := gA_some h
          refine yj_ald rfl (hM.arr fcx3 yr_12_10) ij4 ej4 ?_
          refine ye_p rfl rfl ?_
          refine ye_aload rfl g0_z1 ?_
          refine ye_getr rfl (hM.obj fa0 ⟨rfl, rfl⟩) rfl (fun cx5 ecx5 => ?_)
          have fcx5 := yAt.row fa0 ecx5
          refine ye_p rfl rfl ?_
          refine ye_iload rfl g5_z1 ?_
          refine ye_p rfl rfl ?_
          refine ye_aload rfl g0_z1 ?_
          refine ye_getr rfl (hM.obj fa0 ⟨rfl, rfl⟩) rfl (fun cx6 ecx6 => ?_)
          have fcx6 := yAt.row fa0 ecx6
          refine ye_iload rfl g9_z1 ?_
          obtain ⟨j5, ej5, ij5, h⟩ := gA_some h
          refine yj_ald rfl (hM.arr fcx6 yr_12_24) ij5 ej5 ?_
          refine ye_p rfl rfl ?_
          obtain ⟨j6, ej6, ij6, h⟩ := gA_some h
          refine yj_ald rfl (hM.arr fcx5 yr_12_10) ij6 ej6 ?_
          refine ye_icmp_ne rfl (fun h4 => ?_) (fun h4 => ?_)
          · replace h := yiT h4 h
            refine ye_p rfl rfl ?_
            exact w_X12_start_402 (prim := prim) (d := d) N k214 u214 S l2 l4 l5 l6 l7 (l8 ||| (1 <<< (l9 &&& 31))) l9 0 hp lvz1 a0 fa0 g0_z1 g2_z1 g4_z1 g5_z1 g6_z1 g7_z1 g8_z1 g9_z1 hM h
          · replace h := yiN h4 h
            exact w_X12_start_397 (prim := prim) (d := d) N k214 u214 S l2 l4 l5 l6 l7 (l8 ||| (1 <<< (l9 &&& 31))) l9 hp lvz1 a0 fa0 g0_z1 g2_z1 g4_z1 g5_z1 g6_z1 g7_z1 g8_z1 g9_z1 hM h
      · replace h := yiN h2 h
        exact ye_ret rfl rfl (rQV h hM)
    · replace h := yiN h1 h
      refine ye_iload rfl g8 ?_
      refine ye_iload rfl g10 ?_
      refine ye_p rfl rfl ?_
      refine ye_p rfl rfl ?_
      refine ye_p rfl rfl ?_
      refine ye_p rfl rfl ?_
      refine ye_icmp_eq rfl (fun h5 => ?_) (fun h5 => ?_)
      · replace h := yiT h5 h
        exact w_X12_start_316 (prim := prim) (d := d) N k214 (fun S l2 l4 l5 l6 l7 l8 l9 l10 => f_X12_start_220 n N k214 S l2 l4 l5 l6 l7 l8 l9 l10) u214 ih S l2 l4 l5 l6 l7 l8 l9 l10 hp lv a0 fa0 g0 g2 g4 g5 g6 g7 g8 g9 g10 hM h
      · replace h := yiN h5 h
        refine ye_aload rfl g0 ?_
        refine ye_iload rfl g10 ?_
        refine ye_p rfl rfl ?_
        obtain ⟨w1, hw1, h⟩ := bV_some h
        refine ye_callV (As := [.int l10, .int 0]) (rest := []) 0 (Or.inl rfl) rfl rfl rfl (Nat.le_of_ble_eq_true rfl) (hM.obj fa0 ⟨rfl, rfl⟩) ((m_X12_bagOf (d := d + 1) (T := T) N S l10 0 a0 fa0 hw1) hp sz hM) ?_
        refine ye_iload rfl g5 ?_
        refine ye_icmp_eq rfl (fun h6 => ?_) (fun h6 => ?_)
        · replace h := yiT h6 h
          refine ye_iload rfl g9 ?_
          refine ye_p rfl rfl ?_
          refine ye_icmp_eq rfl (fun h7 => ?_) (fun h7 => ?_)
          · replace h := yiT h7 h
            exact w_X12_start_312 (prim := prim) (d := d) N k214 (fun S l2 l4 l5 l6 l7 l8 l9 l10 => f_X12_start_220 n N k214 S l2 l4 l5 l6 l7 l8 l9 l10) u214 ih S l2 l4 l5 l6 l7 l8 l10 hp lv a0 fa0 g0 g2 g4 g5 g6 g7 g8 g10 hM h
          · replace h := yiN h7 h
            refine ye_aload rfl g0 ?_
            refine ye_getr rfl (hM.obj fa0 ⟨rfl, rfl⟩) rfl (fun cx7 ecx7 => ?_)
            have fcx7 := yAt.row fa0 ecx7
            refine ye_iload rfl g10 ?_
            obtain ⟨j7, ej7, ij7, h⟩ := gA_some h
            refine yj_ald rfl (hM.arr fcx7 yr_12_26) ij7 ej7 ?_
            refine ye_aload rfl g0 ?_
            refine ye_getr rfl (hM.obj fa0 ⟨rfl, rfl⟩) rfl (fun cx8 ecx8 => ?_)
            have fcx8 := yAt.row fa0 ecx8
            refine ye_iload rfl g9 ?_
            obtain ⟨j8, ej8, ij8, h⟩ := gA_some h
            refine yj_ald rfl (hM.arr fcx8 yr_12_26) ij8 ej8 ?_
            refine ye_icmp_lt rfl (fun h8 => ?_) (fun h8 => ?_)
            · replace h := yiT h8 h
              exact w_X12_start_312 (prim := prim) (d := d) N k214 (fun S l2 l4 l5 l6 l7 l8 l9 l10 => f_X12_start_220 n N k214 S l2 l4 l5 l6 l7 l8 l9 l10) u214 ih S l2 l4 l5 l6 l7 l8 l10 hp lv a0 fa0 g0 g2 g4 g5 g6 g7 g8 g10 hM h
            · replace h := yiN h8 h
              refine ye_aload rfl g0 ?_
              refine ye_getr rfl (hM.obj fa0 ⟨rfl, rfl⟩) rfl (fun cx9 ecx9 => ?_)
              have fcx9 := yAt.row fa0 ecx9
              refine ye_iload rfl g10 ?_
              obtain ⟨j9, ej9, ij9, h⟩ := gA_some h
              refine yj_ald rfl (hM.arr fcx9 yr_12_26) ij9 ej9 ?_
              refine ye_aload rfl g0 ?_
              refine ye_getr rfl (hM.obj fa0 ⟨rfl, rfl⟩) rfl (fun cx10 ecx10 => ?_)
              have fcx10 := yAt.row fa0 ecx10
              refine ye_iload rfl g9 ?_
              obtain ⟨j10, ej10, ij10, h⟩ := gA_some h
              refine yj_ald rfl (hM.arr fcx10 yr_12_26) ij10 ej10 ?_
              refine ye_icmp_ne rfl (fun h9 => ?_) (fun h9 => ?_)
              · replace h := yiT h9 h
                exact w_X12_start_316 (prim := prim) (d := d) N k214 (fun S l2 l4 l5 l6 l7 l8 l9 l10 => f_X12_start_220 n N k214 S l2 l4 l5 l6 l7 l8 l9 l10) u214 ih S l2 l4 l5 l6 l7 l8 l9 l10 hp lv a0 fa0 g0 g2 g4 g5 g6 g7 g8 g9 g10 hM h
              · replace h := yiN h9 h
                refine ye_aload rfl g0 ?_
                refine ye_getr rfl (hM.obj fa0 ⟨rfl, rfl⟩) rfl (fun cx11 ecx11 => ?_)
                have fcx11 := yAt.row fa0 ecx11
                refine ye_iload rfl g10 ?_
                obtain ⟨j11, ej11, ij11, h⟩ := gA_some h
                refine yj_ald rfl (hM.arr fcx11 yr_12_27) ij11 ej11 ?_
                refine ye_aload rfl g0 ?_
                refine ye_getr rfl (hM.obj fa0 ⟨rfl, rfl⟩) rfl (fun cx12 ecx12 => ?_)
                have fcx12 := yAt.row fa0 ecx12
                refine ye_iload rfl g9 ?_
                obtain ⟨j12, ej12, ij12, h⟩ := gA_some h
                refine yj_ald rfl (hM.arr fcx12 yr_12_27) ij12 ej12 ?_
                refine ye_icmp_ge rfl (fun h10 => ?_) (fun h10 => ?_)
                · replace h := yiT h10 h
                  exact w_X12_start_316 (prim := prim) (d := d) N k214 (fun S l2 l4 l5 l6 l7 l8 l9 l10 => f_X12_start_220 n N k214 S l2 l4 l5 l6 l7 l8 l9 l10) u214 ih S l2 l4 l5 l6 l7 l8 l9 l10 hp lv a0 fa0 g0 g2 g4 g5 g6 g7 g8 g9 g10 hM h
                · replace h := yiN h10 h
                  exact w_X12_start_312 (prim := prim) (d := d) N k214 (fun S l2 l4 l5 l6 l7 l8 l9 l10 => f_X12_start_220 n N k214 S l2 l4 l5 l6 l7 l8 l9 l10) u214 ih S l2 l4 l5 l6 l7 l8 l10 hp lv a0 fa0 g0 g2 g4 g5 g6 g7 g8 g10 hM h
        · replace h := yiN h6 h
          refine ye_p rfl rfl ?_
          exact w_X12_start_316 (prim := prim) (d := d) N k214 (fun S l2 l4 l5 l6 l7 l8 l9 l10 => f_X12_start_220 n N k214 S l2 l4 l5 l6 l7 l8 l9 l10) u214 ih S l2 l4 l5 l6 l7 l8 l9 l10 hp lv a0 fa0 g0 g2 g4 g5 g6 g7 g8 g9 g10 hM h

def f_X12_start_214 : Nat → Nat → yS → Int32 → Int32 → Int32 → Int32 → Int32 → Int32 → Option (Int32 × yS)
  | 0, _, _, _, _, _, _, _, _ => none
  | n + 1, N, S, l2, l4, l5, l6, l7, l8 => f_X12_start_220 N N (fun S l2 l4 l5 l6 l7 l8 => f_X12_start_214 n N S l2 l4 l5 l6 l7 l8) S l2 l4 l5 l6 l7 l8 ((-1)) 0
set_option maxHeartbeats 4000000 in
set_option maxRecDepth 40000 in
theorem w_X12_start_214 {F : xH} {ev : xEv} {prim : xRel} {d sz : Nat} {T : yT} {v : Int32} {S' : yS} (N : Nat) (n : Nat) : ∀ (S : yS) (l2 : Int32) (l4 : Int32) (l5 : Int32) (l6 : Int32) (l7 : Int32) (l8 : Int32) (hp : xH) (lv : xLv) (a0 : Nat) (fa0 : yAt T 12 8 0 a0) (g0 : xG lv 0 = some (.ref a0)) (g2 : xG lv 2 = some (.int l2)) (g4 : xG lv 4 = some (.int l4)) (g5 : xG lv 5 = some (.int l5)) (g6 : xG lv 6 = some (.int l6)) (g7 : xG lv 7 = some (.int l7)) (g8 : xG lv 8 = some (.int l8)) (hM : cR [8] F ev T S hp) (h : f_X12_start_214 n N S l2 l4 l5 l6 l7 l8 = some (v, S')), yWE ev.2.1 (xstr ev) (xCalls ev xmi (xprog ev) prim (d + 2)) (pX12_start ev) (214, lv, [], hp, sz, 0) (ypQ [8] F ev T sz (none) S') := by
  induction n with
  | zero => intro S l2 l4 l5 l6 l7 l8 hp lv a0 fa0 g0 g2 g4 g5 g6 g7 g8 hM h; exact n_some h
  | succ n ih =>
    intro S l2 l4 l5 l6 l7 l8 hp lv a0 fa0 g0 g2 g4 g5 g6 g7 g8 hM h
    unfold f_X12_start_214 at h
    refine ye_p rfl rfl ?_
    refine ye_p rfl rfl ?_
    have g0_z1 := xG_o1 (i := 9) (v := .int ((-1))) g0 rfl
    have g2_z1 := xG_o1 (i := 9) (v := .int ((-1))) g2 rfl
    have g4_z1 := xG_o1 (i := 9) (v := .int ((-1))) g4 rfl
    have g5_z1 := xG_o1 (i := 9) (v := .int ((-1))) g5 rfl
    have g6_z1 := xG_o1 (i := 9) (v := .int ((-1))) g6 rfl
    have g7_z1 := xG_o1 (i := 9) (v := .int ((-1))) g7 rfl
    have g8_z1 := xG_o1 (i := 9) (v := .int ((-1))) g8 rfl
    have g9_z1 := xG_same lv 9 (.int ((-1)))
    generalize xSt1 lv 9 (.int ((-1))) = lvz1 at g0_z1 g2_z1 g4_z1 g5_z1 g6_z1 g7_z1 g8_z1 g9_z1 ⊢
    refine ye_p rfl rfl ?_
    refine ye_p rfl rfl ?_
    have g0_z2 := xG_o1 (i := 10) (v := .int 0) g0_z1 rfl
    have g2_z2 := xG_o1 (i := 10) (v := .int 0) g2_z1 rfl
    have g4_z2 := xG_o1 (i := 10) (v := .int 0) g4_z1 rfl
    have g5_z2 := xG_o1 (i := 10) (v := .int 0) g5_z1 rfl
    have g6_z2 := xG_o1 (i := 10) (v := .int 0) g6_z1 rfl
    have g7_z2 := xG_o1 (i := 10) (v := .int 0) g7_z1 rfl
    have g8_z2 := xG_o1 (i := 10) (v := .int 0) g8_z1 rfl
    have g9_z2 := xG_o1 (i := 10) (v := .int 0) g9_z1 rfl
    have g10_z2 := xG_same lvz1 10 (.int 0)
    generalize xSt1 lvz1 10 (.int 0) = lvz2 at g0_z2 g2_z2 g4_z2 g5_z2 g6_z2 g7_z2 g8_z2 g9_z2 g10_z2 ⊢
    exact w_X12_start_220 (prim := prim) (d := d) N N (fun S l2 l4 l5 l6 l7 l8 => f_X12_start_214 n N S l2 l4 l5 l6 l7 l8) ih S l2 l4 l5 l6 l7 l8 ((-1)) 0 hp lvz2 a0 fa0 g0_z2 g2_z2 g4_z2 g5_z2 g6_z2 g7_z2 g8_z2 g9_z2 g10_z2 hM h

def f_X12_start_156 (N : Nat) (S : yS) (l1 : Int32) (l2 : Int32) (l3 : Int32) (l4 : Int32) (l5 : Int32) (l6 : Int32) (l7 : Int32) (t1 : Int32) (t2 : Int32) (t3 : Int32) : Option (Int32 × yS) := bS (f_X12_plane2 N S t1 t2 t3) fun w1 S1 => gA 8 l2 fun j1 => bS (f_X12_plane2 N S1 l2 8 (S1.2.1 8 19 j1)) fun w2 S2 => bS (f_X12_plane2 N S2 l2 11 l3) fun w3 S3 => bS (f_X12_plane2 N S3 l2 12 l1) fun w4 S4 => bS (f_X12_plane2 N S4 l2 13 l5) fun w5 S5 => bS (f_X12_setPilot N S5 l3 0 ((-1))) fun w6 S6 => bS (f_X12_setPilot N S6 l3 1 l2) fun w7 S7 => f_X12_start_214 N N S7 l2 l4 l5 l6 l7 0
set_option maxHeartbeats 4000000 in
set_option maxRecDepth 40000 in
theorem w_X12_start_156 {F : xH} {ev : xEv} {prim : xRel} {d sz : Nat} {T : yT} {v : Int32} {S' : yS} (N : Nat) (S : yS) (l1 : Int32) (l2 : Int32) (l3 : Int32) (l4 : Int32) (l5 : Int32) (l6 : Int32) (l7 : Int32) (t1 : Int32) (t2 : Int32) (t3 : Int32) (hp : xH) (lv : xLv) (a0 : Nat) (b0 : Nat) (fa0 : yAt T 12 8 0 a0) (fb0 : yAt T 12 8 0 b0) (g0 : xG lv 0 = some (.ref a0)) (g1 : xG lv 1 = some (.int l1)) (g2 : xG lv 2 = some (.int l2)) (g3 : xG lv 3 = some (.int l3)) (g4 : xG lv 4 = some (.int l4)) (g5 : xG lv 5 = some (.int l5)) (g6 : xG lv 6 = some (.int l6)) (g7 : xG lv 7 = some (.int l7)) (hM : cR [8] F ev T S hp) (h : f_X12_start_156 N S l1 l2 l3 l4 l5 l6 l7 t1 t2 t3 = some (v, S')) : yWE ev.2.1 (xstr ev) (xCalls ev xmi (xprog ev) prim (d + 2)) (pX12_start ev) (156, lv, [.int t3, .int t2, .int t1, .ref b0], hp, sz, 0) (ypQ [8] F ev T sz (none) S') := by
  unfold f_X12_start_156 at h
  obtain ⟨w1, S1, hw1, h⟩ := bS_some h
  obtain ⟨y1, cy1, M1⟩ := (m_X12_plane2 (d := d + 1) (T := T) N S t1 t2 t3 b0 fb0 hw1) hp sz hM
  refine ye_callV (As := [.int t1, .int t2, .int t3]) (rest := []) 0 (Or.inl rfl) rfl rfl rfl (Nat.le_of_ble_eq_true rfl) (hM.obj fb0 ⟨rfl, rfl⟩) cy1 ?_
  refine ye_aload rfl g0 ?_
  refine ye_iload rfl g2 ?_
  refine ye_p rfl rfl ?_
  refine ye_aload rfl g0 ?_
  refine ye_getr rfl (M1.obj fa0 ⟨rfl, rfl⟩) rfl (fun cx1 ecx1 => ?_)
  have fcx1 := yAt.row fa0 ecx1
  refine ye_iload rfl g2 ?_
  obtain ⟨j1, ej1, ij1, h⟩ := gA_some h
  refine yj_ald rfl (M1.arr fcx1 yr_12_19) ij1 ej1 ?_
  obtain ⟨w2, S2, hw2, h⟩ := bS_some h
  obtain ⟨y2, cy2, M2⟩ := (m_X12_plane2 (d := d + 1) (T := T) N S1 l2 8 (S1.2.1 8 19 j1) a0 fa0 hw2) y1 sz M1
  refine ye_callV (As := [.int l2, .int 8, .int (S1.2.1 8 19 j1)]) (rest := []) 0 (Or.inl rfl) rfl rfl rfl (Nat.le_of_ble_eq_true rfl) (M1.obj fa0 ⟨rfl, rfl⟩) cy2 ?_
  refine ye_aload rfl g0 ?_
  refine ye_iload rfl g2 ?_
  refine ye_p rfl rfl ?_
  refine ye_iload rfl g3 ?_
  obtain ⟨w3, S3, hw3, h⟩ := bS_some h
  obtain ⟨y3, cy3, M3⟩ := (m_X12_plane2 (d := d + 1) (T := T) N S2 l2 11 l3 a0 fa0 hw3) y2 sz M2
  refine ye_callV (As := [.int l2, .int 11, .int l3]) (rest := []) 0 (Or.inl rfl) rfl rfl rfl (Nat.le_of_ble_eq_true rfl) (M2.obj fa0 ⟨rfl, rfl⟩) cy3 ?_
  refine ye_aload rfl g0 ?_
  refine ye_iload rfl g2 ?_
  refine ye_p rfl rfl ?_
  refine ye_iload rfl g1 ?_
  obtain ⟨w4, S4, hw4, h⟩ := bS_some h
  obtain ⟨y4, cy4, M4⟩ := (m_X12_plane2 (d := d + 1) (T := T) N S3 l2 12 l1 a0 fa0 hw4) y3 sz M3
  refine ye_callV (As := [.int l2, .int 12, .int l1]) (rest := []) 0 (Or.inl rfl) rfl rfl rfl (Nat.le_of_ble_eq_true rfl) (M3.obj fa0 ⟨rfl, rfl⟩) cy4 ?_
  refine ye_aload rfl g0 ?_
  refine ye_iload rfl g2 ?_
  refine ye_p rfl rfl ?_
  refine ye_iload rfl g5 ?_
  obtain ⟨w5, S5, hw5, h⟩ := bS_some h
  obtain ⟨y5, cy5, M5⟩ := (m_X12_plane2 (d := d + 1) (T := T) N S4 l2 13 l5 a0 fa0 hw5) y4 sz M4
  refine ye_callV (As := [.int l2, .int 13, .int l5]) (rest := []) 0 (Or.inl rfl) rfl rfl rfl (Nat.le_of_ble_eq_true rfl) (M4.obj fa0 ⟨rfl, rfl⟩) cy5 ?_
  refine ye_aload rfl g0 ?_
  refine ye_iload rfl g3 ?_
  refine ye_p rfl rfl ?_
  refine ye_p rfl rfl ?_
  obtain ⟨w6, S6, hw6, h⟩ := bS_some h
  obtain ⟨y6, cy6, M6⟩ := (m_X12_setPilot (d := d + 1) (T := T) N S5 l3 0 ((-1)) a0 fa0 hw6) y5 sz M5
  refine ye_callV (As := [.int l3, .int 0, .int ((-1))]) (rest := []) 0 (Or.inl rfl) rfl rfl rfl (Nat.le_of_ble_eq_true rfl) (M5.obj fa0 ⟨rfl, rfl⟩) cy6 ?_
  refine ye_aload rfl g0 ?_
  refine ye_iload rfl g3 ?_
  refine ye_p rfl rfl ?_
  refine ye_iload rfl g2 ?_
  obtain ⟨w7, S7, hw7, h⟩ := bS_some h
  obtain ⟨y7, cy7, M7⟩ := (m_X12_setPilot (d := d + 1) (T := T) N S6 l3 1 l2 a0 fa0 hw7) y6 sz M6
  refine ye_callV (As := [.int l3, .int 1, .int l2]) (rest := []) 0 (Or.inl rfl) rfl rfl rfl (Nat.le_of_ble_eq_true rfl) (M6.obj fa0 ⟨rfl, rfl⟩) cy7 ?_
  refine ye_p rfl rfl ?_
  refine ye_p rfl rfl ?_
  have g0_z1 := xG_o1 (i := 8) (v := .int 0) g0 rfl
  have g2_z1 := xG_o1 (i := 8) (v := .int 0) g2 rfl
  have g4_z1 := xG_o1 (i := 8) (v := .int 0) g4 rfl
  have g5_z1 := xG_o1 (i := 8) (v := .int 0) g5 rfl
  have g6_z1 := xG_o1 (i := 8) (v := .int 0) g6 rfl
  have g7_z1 := xG_o1 (i := 8) (v := .int 0) g7 rfl
  have g8_z1 := xG_same lv 8 (.int 0)
  generalize xSt1 lv 8 (.int 0) = lvz1 at g0_z1 g2_z1 g4_z1 g5_z1 g6_z1 g7_z1 g8_z1 ⊢
  exact w_X12_start_214 (prim := prim) (d := d) N N S7 l2 l4 l5 l6 l7 0 y7 lvz1 a0 fa0 g0_z1 g2_z1 g4_z1 g5_z1 g6_z1 g7_z1 g8_z1 M7 h

def f_X12_start_132 (N : Nat) (S : yS) (l1 : Int32) (l2 : Int32) (l3 : Int32) (l4 : Int32) (l5 : Int32) (l6 : Int32) (l7 : Int32) (t1 : Int32) (t2 : Int32) (t3 : Int32) : Option (Int32 × yS) := bS (f_X12_plane2 N S t1 t2 t3) fun w1 S1 => gA 12 l4 fun j1 => if ¬ l5 = (S1.2.1 8 2 j1) then f_X12_start_156 N S1 l1 l2 l3 l4 l5 l6 l7 l2 10 0 else f_X12_start_156 N S1 l1 l2 l3 l4 l5 l6 l7 l2 10 1
set_option maxHeartbeats 4000000 in
set_option maxRecDepth 40000 in
theorem w_X12_start_132 {F : xH} {ev : xEv} {prim : xRel} {d sz : Nat} {T : yT} {v : Int32} {S' : yS} (N : Nat) (S : yS) (l1 : Int32) (l2 : Int32) (l3 : Int32) (l4 : Int32) (l5 : Int32) (l6 : Int32) (l7 : Int32) (t1 : Int32) (t2 : Int32) (t3 : Int32) (hp : xH) (lv : xLv) (a0 : Nat) (b0 : Nat) (fa0 : yAt T 12 8 0 a0) (fb0 : yAt T 12 8 0 b0) (g0 : xG lv 0 = some (.ref a0)) (g1 : xG lv 1 = some (.int l1)) (g2 : xG lv 2 = some (.int l2)) (g3 : xG lv 3 = some (.int l3)) (g4 : xG lv 4 = some (.int l4)) (g5 : xG lv 5 = some (.int l5)) (g6 : xG lv 6 = some (.int l6)) (g7 : xG lv 7 = some (.int l7)) (hM : cR [8] F ev T S hp) (h : f_X12_start_132 N S l1 l2 l3 l4 l5 l6 l7 t1 t2 t3 = some (v, S')) : yWE ev.2.1 (xstr ev) (xCalls ev xmi (xprog ev) prim (d + 2)) (pX12_start ev) (132, lv, [.int t3, .int t2, .int t1, .ref b0], hp, sz, 0) (ypQ [8] F ev T sz (none) S') := by
  unfold f_X12_start_132 at h
  obtain ⟨w1, S1, hw1, h⟩ := bS_some h
  obtain ⟨y1, cy1, M1⟩ := (m_X12_plane2 (d := d + 1) (T := T) N S t1 t2 t3 b0 fb0 hw1) hp sz hM
  refine ye_callV (As := [.int t1, .int t2, .int t3]) (rest := []) 0 (Or.inl rfl) rfl rfl rfl (Nat.le_of_ble_eq_true rfl) (hM.obj fb0 ⟨rfl, rfl⟩) cy1 ?_
  refine ye_aload rfl g0 ?_
  refine ye_iload rfl g2 ?_
  refine ye_p rfl rfl ?_
  refine ye_iload rfl g5 ?_
  refine ye_aload rfl g0 ?_
  refine ye_getr rfl (M1.obj fa0 ⟨rfl, rfl⟩) rfl (fun cx1 ecx1 => ?_)
  have fcx1 := yAt.row fa0 ecx1
  refine ye_iload rfl g4 ?_
  obtain ⟨j1, ej1, ij1, h⟩ := gA_some h
  refine yj_ald rfl (M1.arr fcx1 yr_12_2) ij1 ej1 ?_
  refine ye_icmp_ne rfl (fun h1 => ?_) (fun h1 => ?_)
  · replace h := yiT h1 h
    refine ye_p rfl rfl ?_
    exact w_X12_start_156 (prim := prim) (d := d) N S1 l1 l2 l3 l4 l5 l6 l7 l2 10 0 y1 lv a0 a0 fa0 fa0 g0 g1 g2 g3 g4 g5 g6 g7 M1 h
  · replace h := yiN h1 h
    refine ye_p rfl rfl ?_
    refine ye_p rfl rfl ?_
    exact w_X12_start_156 (prim := prim) (d := d) N S1 l1 l2 l3 l4 l5 l6 l7 l2 10 1 y1 lv a0 a0 fa0 fa0 g0 g1 g2 g3 g4 g5 g6 g7 M1 h

def f_X12_start_70 (N : Nat) (S : yS) (l1 : Int32) (l2 : Int32) (l3 : Int32) (l4 : Int32) (l5 : Int32) (l6 : Int32) (t0 : Int32) : Option (Int32 × yS) := bS (f_X12_setFlight N S l1 0 1) fun w1 S1 => gA 2305 0 fun j1 => bS (f_X12_setFlight N S1 l1 1 (S1.2.1 8 48 j1)) fun w2 S2 => bS (f_X12_plane2 N S2 l2 0 ((-1))) fun w3 S3 => bS (f_X12_plane2 N S3 l2 1 l4) fun w4 S4 => gA 12 l4 fun j2 => if ¬ l5 = (S4.2.1 8 2 j2) then gA 12 l4 fun j3 => f_X12_start_132 N S4 l1 l2 l3 l4 l5 l6 t0 l2 2 (S4.2.1 8 4 j3) else f_X12_start_132 N S4 l1 l2 l3 l4 l5 l6 t0 l2 2 0
set_option maxHeartbeats 4000000 in
set_option maxRecDepth 40000 in
theorem w_X12_start_70 {F : xH} {ev : xEv} {prim : xRel} {d sz : Nat} {T : yT} {v : Int32} {S' : yS} (N : Nat) (S : yS) (l1 : Int32) (l2 : Int32) (l3 : Int32) (l4 : Int32) (l5 : Int32) (l6 : Int32) (t0 : Int32) (hp : xH) (lv : xLv) (a0 : Nat) (fa0 : yAt T 12 8 0 a0) (g0 : xG lv 0 = some (.ref a0)) (g1 : xG lv 1 = some (.int l1)) (g2 : xG lv 2 = some (.int l2)) (g3 : xG lv 3 = some (.int l3)) (g4 : xG lv 4 = some (.int l4)) (g5 : xG lv 5 = some (.int l5)) (g6 : xG lv 6 = some (.int l6)) (hM : cR [8] F ev T S hp) (h : f_X12_start_70 N S l1 l2 l3 l4 l5 l6 t0 = some (v, S')) : yWE ev.2.1 (xstr ev) (xCalls ev xmi (xprog ev) prim (d + 2)) (pX12_start ev) (70, lv, [.int t0], hp, sz, 0) (ypQ [8] F ev T sz (none) S') := by
  unfold f_X12_start_70 at h
  refine ye_p rfl rfl ?_
  have g0_z1 := xG_o1 (i := 7) (v := .int t0) g0 rfl
  have g1_z1 := xG_o1 (i := 7) (v := .int t0) g1 rfl
  have g2_z1 := xG_o1 (i := 7) (v := .int t0) g2 rfl
  have g3_z1 := xG_o1 (i := 7) (v := .int t0) g3 rfl
  have g4_z1 := xG_o1 (i := 7) (v := .int t0) g4 rfl
  have g5_z1 := xG_o1 (i := 7) (v := .int t0) g5 rfl
  have g6_z1 := xG_o1 (i := 7) (v := .int t0) g6 rfl
  have g7_z1 := xG_same lv 7 (.int t0)
  generalize xSt1 lv 7 (.int t0) = lvz1 at g0_z1 g1_z1 g2_z1 g3_z1 g4_z1 g5_z1 g6_z1 g7_z1 ⊢
  refine ye_aload rfl g0_z1 ?_
  refine ye_iload rfl g1_z1 ?_
  refine ye_p rfl rfl ?_
  refine ye_p rfl rfl ?_
  obtain ⟨w1, S1, hw1, h⟩ := bS_some h
  obtain ⟨y1, cy1, M1⟩ := (m_X12_setFlight (d := d + 1) (T := T) N S l1 0 1 a0 fa0 hw1) hp sz hM
  refine ye_callV (As := [.int l1, .int 0, .int 1]) (rest := []) 0 (Or.inl rfl) rfl rfl rfl (Nat.le_of_ble_eq_true rfl) (hM.obj fa0 ⟨rfl, rfl⟩) cy1 ?_
  refine ye_aload rfl g0_z1 ?_
  refine ye_iload rfl g1_z1 ?_
  refine ye_p rfl rfl ?_
  refine ye_aload rfl g0_z1 ?_
  refine ye_getr rfl (M1.obj fa0 ⟨rfl, rfl⟩) rfl (fun cx1 ecx1 => ?_)
  have fcx1 := yAt.row fa0 ecx1
  refine ye_p rfl rfl ?_
  obtain ⟨j1, ej1, ij1, h⟩ := gA_some h
  refine yj_ald rfl (M1.arr fcx1 yr_12_48) ij1 ej1 ?_
  obtain ⟨w2, S2, hw2, h⟩ := bS_some h
  obtain ⟨y2, cy2, M2⟩ := (m_X12_setFlight (d := d + 1) (T := T) N S1 l1 1 (S1.2.1 8 48 j1) a0 fa0 hw2) y1 sz M1
  refine ye_callV (As := [.int l1, .int 1, .int (S1.2.1 8 48 j1)]) (rest := []) 0 (Or.inl rfl) rfl rfl rfl (Nat.le_of_ble_eq_true rfl) (M1.obj fa0 ⟨rfl, rfl⟩) cy2 ?_
  refine ye_aload rfl g0_z1 ?_
  refine ye_iload rfl g2_z1 ?_
  refine ye_p rfl rfl ?_
  refine ye_p rfl rfl ?_
  obtain ⟨w3, S3, hw3, h⟩ := bS_some h
  obtain ⟨y3, cy3, M3⟩ := (m_X12_plane2 (d := d + 1) (T := T) N S2 l2 0 ((-1)) a0 fa0 hw3) y2 sz M2
  refine ye_callV (As := [.int l2, .int 0, .int ((-1))]) (rest := []) 0 (Or.inl rfl) rfl rfl rfl (Nat.le_of_ble_eq_true rfl) (M2.obj fa0 ⟨rfl, rfl⟩) cy3 ?_
  refine ye_aload rfl g0_z1 ?_
  refine ye_iload rfl g2_z1 ?_
  refine ye_p rfl rfl ?_
  refine ye_iload rfl g4_z1 ?_
  obtain ⟨w4, S4, hw4, h⟩ := bS_some h
  obtain ⟨y4, cy4, M4⟩ := (m_X12_plane2 (d := d + 1) (T := T) N S3 l2 1 l4 a0 fa0 hw4) y3 sz M3
  refine ye_callV (As := [.int l2, .int 1, .int l4]) (rest := []) 0 (Or.inl rfl) rfl rfl rfl (Nat.le_of_ble_eq_true rfl) (M3.obj fa0 ⟨rfl, rfl⟩) cy4 ?_
  refine ye_aload rfl g0_z1 ?_
  refine ye_iload rfl g2_z1 ?_
  refine ye_p rfl rfl ?_
  refine ye_iload rfl g5_z1 ?_
  refine ye_aload rfl g0_z1 ?_
  refine ye_getr rfl (M4.obj fa0 ⟨rfl, rfl⟩) rfl (fun cx2 ecx2 => ?_)
  have fcx2 := yAt.row fa0 ecx2
  refine ye_iload rfl g4_z1 ?_
  obtain ⟨j2, ej2, ij2, h⟩ := gA_some h
  refine yj_ald rfl (M4.arr fcx2 yr_12_2) ij2 ej2 ?_
  refine ye_icmp_ne rfl (fun h1 => ?_) (fun h1 => ?_)
  · replace h := yiT h1 h
    refine ye_aload rfl g0_z1 ?_
    refine ye_getr rfl (M4.obj fa0 ⟨rfl, rfl⟩) rfl (fun cx3 ecx3 => ?_)
    have fcx3 := yAt.row fa0 ecx3
    refine ye_iload rfl g4_z1 ?_
    obtain ⟨j3, ej3, ij3, h⟩ := gA_some h
    refine yj_ald rfl (M4.arr fcx3 yr_12_4) ij3 ej3 ?_
    exact w_X12_start_132 (prim := prim) (d := d) N S4 l1 l2 l3 l4 l5 l6 t0 l2 2 (S4.2.1 8 4 j3) y4 lvz1 a0 a0 fa0 fa0 g0_z1 g1_z1 g2_z1 g3_z1 g4_z1 g5_z1 g6_z1 g7_z1 M4 h
  · replace h := yiN h1 h
    refine ye_p rfl rfl ?_
    refine ye_p rfl rfl ?_
    exact w_X12_start_132 (prim := prim) (d := d) N S4 l1 l2 l3 l4 l5 l6 t0 l2 2 0 y4 lvz1 a0 a0 fa0 fa0 g0_z1 g1_z1 g2_z1 g3_z1 g4_z1 g5_z1 g6_z1 g7_z1 M4 h

def f_X12_start_0 (N : Nat) (S : yS) (l1 : Int32) : Option (Int32 × yS) := gA 24 l1 fun j1 => gA 24 l1 fun j2 => gA 24 l1 fun j3 => bV (f_X12_plane N S (S.2.1 8 29 j1) 0) fun w1 => bV (f_X12_carries N S (S.2.1 8 29 j1) (S.2.1 8 31 j3) w1) fun w2 => gA 12 (S.2.1 8 31 j3) fun j4 => if ¬ w1 = (S.2.1 8 2 j4) then gA 12 (S.2.1 8 31 j3) fun j5 => f_X12_start_70 N S l1 (S.2.1 8 29 j1) (S.2.1 8 30 j2) (S.2.1 8 31 j3) w1 w2 (S.2.1 8 2 j5) else gA 12 (S.2.1 8 31 j3) fun j6 => f_X12_start_70 N S l1 (S.2.1 8 29 j1) (S.2.1 8 30 j2) (S.2.1 8 31 j3) w1 w2 (S.2.1 8 3 j6)
set_option maxHeartbeats 4000000 in
set_option maxRecDepth 40000 in
theorem w_X12_start_0 {F : xH} {ev : xEv} {prim : xRel} {d sz : Nat} {T : yT} {v : Int32} {S' : yS} (N : Nat) (S : yS) (l1 : Int32) (hp : xH) (lv : xLv) (a0 : Nat) (fa0 : yAt T 12 8 0 a0) (g0 : xG lv 0 = some (.ref a0)) (g1 : xG lv 1 = some (.int l1)) (hM : cR [8] F ev T S hp) (h : f_X12_start_0 N S l1 = some (v, S')) : yWE ev.2.1 (xstr ev) (xCalls ev xmi (xprog ev) prim (d + 2)) (pX12_start ev) (0, lv, [], hp, sz, 0) (ypQ [8] F ev T sz (none) S') := by
  unfold f_X12_start_0 at h
  refine ye_aload rfl g0 ?_
  refine ye_getr rfl (hM.obj fa0 ⟨rfl, rfl⟩) rfl (fun cx1 ecx1 => ?_)
  have fcx1 := yAt.row fa0 ecx1
  refine ye_iload rfl g1 ?_
  obtain ⟨j1, ej1, ij1, h⟩ := gA_some h
  refine yj_ald rfl (hM.arr fcx1 yr_12_29) ij1 ej1 ?_
  refine ye_p rfl rfl ?_
  have g0_z1 := xG_o1 (i := 2) (v := .int (S.2.1 8 29 j1)) g0 rfl
  have g1_z1 := xG_o1 (i := 2) (v := .int (S.2.1 8 29 j1)) g1 rfl
  have g2_z1 := xG_same lv 2 (.int (S.2.1 8 29 j1))
  generalize xSt1 lv 2 (.int (S.2.1 8 29 j1)) = lvz1 at g0_z1 g1_z1 g2_z1 ⊢
  refine ye_aload rfl g0_z1 ?_
  refine ye_getr rfl (hM.obj fa0 ⟨rfl, rfl⟩) rfl (fun cx2 ecx2 => ?_)
  have fcx2 := yAt.row fa0 ecx2
  refine ye_iload rfl g1_z1 ?_
  obtain ⟨j2, ej2, ij2, h⟩ := gA_some h
  refine yj_ald rfl (hM.arr fcx2 yr_12_30) ij2 ej2 ?_
  refine ye_p rfl rfl ?_
  have g0_z2 := xG_o1 (i := 3) (v := .int (S.2.1 8 30 j2)) g0_z1 rfl
  have g1_z2 := xG_o1 (i := 3) (v := .int (S.2.1 8 30 j2)) g1_z1 rfl
  have g2_z2 := xG_o1 (i := 3) (v := .int (S.2.1 8 30 j2)) g2_z1 rfl
  have g3_z2 := xG_same lvz1 3 (.int (S.2.1 8 30 j2))
  generalize xSt1 lvz1 3 (.int (S.2.1 8 30 j2)) = lvz2 at g0_z2 g1_z2 g2_z2 g3_z2 ⊢
  refine ye_aload rfl g0_z2 ?_
  refine ye_getr rfl (hM.obj fa0 ⟨rfl, rfl⟩) rfl (fun cx3 ecx3 => ?_)
  have fcx3 := yAt.row fa0 ecx3
  refine ye_iload rfl g1_z2 ?_
  obtain ⟨j3, ej3, ij3, h⟩ := gA_some h
  refine yj_ald rfl (hM.arr fcx3 yr_12_31) ij3 ej3 ?_
  refine ye_p rfl rfl ?_
  have g0_z3 := xG_o1 (i := 4) (v := .int (S.2.1 8 31 j3)) g0_z2 rfl
  have g1_z3 := xG_o1 (i := 4) (v := .int (S.2.1 8 31 j3)) g1_z2 rfl
  have g2_z3 := xG_o1 (i := 4) (v := .int (S.2.1 8 31 j3)) g2_z2 rfl
  have g3_z3 := xG_o1 (i := 4) (v := .int (S.2.1 8 31 j3)) g3_z2 rfl
  have g4_z3 := xG_same lvz2 4 (.int (S.2.1 8 31 j3))
  generalize xSt1 lvz2 4 (.int (S.2.1 8 31 j3)) = lvz3 at g0_z3 g1_z3 g2_z3 g3_z3 g4_z3 ⊢
  refine ye_aload rfl g0_z3 ?_
  refine ye_iload rfl g2_z3 ?_
  refine ye_p rfl rfl ?_
  obtain ⟨w1, hw1, h⟩ := bV_some h
  refine ye_callV (As := [.int (S.2.1 8 29 j1), .int 0]) (rest := []) 0 (Or.inl rfl) rfl rfl rfl (Nat.le_of_ble_eq_true rfl) (hM.obj fa0 ⟨rfl, rfl⟩) ((m_X12_plane (d := d + 1) (T := T) N S (S.2.1 8 29 j1) 0 a0 fa0 hw1) hp sz hM) ?_
  refine ye_p rfl rfl ?_
  have g0_z4 := xG_o1 (i := 5) (v := .int w1) g0_z3 rfl
  have g1_z4 := xG_o1 (i := 5) (v := .int w1) g1_z3 rfl
  have g2_z4 := xG_o1 (i := 5) (v := .int w1) g2_z3 rfl
  have g3_z4 := xG_o1 (i := 5) (v := .int w1) g3_z3 rfl
  have g4_z4 := xG_o1 (i := 5) (v := .int w1) g4_z3 rfl
  have g5_z4 := xG_same lvz3 5 (.int w1)
  generalize xSt1 lvz3 5 (.int w1) = lvz4 at g0_z4 g1_z4 g2_z4 g3_z4 g4_z4 g5_z4 ⊢
  refine ye_aload rfl g0_z4 ?_
  refine ye_iload rfl g2_z4 ?_
  refine ye_iload rfl g4_z4 ?_
  refine ye_iload rfl g5_z4 ?_
  obtain ⟨w2, hw2, h⟩ := bV_some h
  refine ye_callV (As := [.int (S.2.1 8 29 j1), .int (S.2.1 8 31 j3), .int w1]) (rest := []) 0 (Or.inl rfl) rfl rfl rfl (Nat.le_of_ble_eq_true rfl) (hM.obj fa0 ⟨rfl, rfl⟩) ((m_X12_carries (d := d + 0) (T := T) N S (S.2.1 8 29 j1) (S.2.1 8 31 j3) w1 a0 fa0 hw2) hp sz hM) ?_
  refine ye_p rfl rfl ?_
  have g0_z5 := xG_o1 (i := 6) (v := .int w2) g0_z4 rfl
  have g1_z5 := xG_o1 (i := 6) (v := .int w2) g1_z4 rfl
  have g2_z5 := xG_o1 (i := 6) (v := .int w2) g2_z4 rfl
  have g3_z5 := xG_o1 (i := 6) (v := .int w2) g3_z4 rfl
  have g4_z5 := xG_o1 (i := 6) (v := .int w2) g4_z4 rfl
  have g5_z5 := xG_o1 (i := 6) (v := .int w2) g5_z4 rfl
  have g6_z5 := xG_same lvz4 6 (.int w2)
  generalize xSt1 lvz4 6 (.int w2) = lvz5 at g0_z5 g1_z5 g2_z5 g3_z5 g4_z5 g5_z5 g6_z5 ⊢
  refine ye_iload rfl g5_z5 ?_
  refine ye_aload rfl g0_z5 ?_
  refine ye_getr rfl (hM.obj fa0 ⟨rfl, rfl⟩) rfl (fun cx4 ecx4 => ?_)
  have fcx4 := yAt.row fa0 ecx4
  refine ye_iload rfl g4_z5 ?_
  obtain ⟨j4, ej4, ij4, h⟩ := gA_some h
  refine yj_ald rfl (hM.arr fcx4 yr_12_2) ij4 ej4 ?_
  refine ye_icmp_ne rfl (fun h1 => ?_) (fun h1 => ?_)
  · replace h := yiT h1 h
    refine ye_aload rfl g0_z5 ?_
    refine ye_getr rfl (hM.obj fa0 ⟨rfl, rfl⟩) rfl (fun cx5 ecx5 => ?_)
    have fcx5 := yAt.row fa0 ecx5
    refine ye_iload rfl g4_z5 ?_
    obtain ⟨j5, ej5, ij5, h⟩ := gA_some h
    refine yj_ald rfl (hM.arr fcx5 yr_12_2) ij5 ej5 ?_
    exact w_X12_start_70 (prim := prim) (d := d) N S l1 (S.2.1 8 29 j1) (S.2.1 8 30 j2) (S.2.1 8 31 j3) w1 w2 (S.2.1 8 2 j5) hp lvz5 a0 fa0 g0_z5 g1_z5 g2_z5 g3_z5 g4_z5 g5_z5 g6_z5 hM h
  · replace h := yiN h1 h
    refine ye_aload rfl g0_z5 ?_
    refine ye_getr rfl (hM.obj fa0 ⟨rfl, rfl⟩) rfl (fun cx6 ecx6 => ?_)
    have fcx6 := yAt.row fa0 ecx6
    refine ye_iload rfl g4_z5 ?_
    obtain ⟨j6, ej6, ij6, h⟩ := gA_some h
    refine yj_ald rfl (hM.arr fcx6 yr_12_3) ij6 ej6 ?_
    refine ye_p rfl rfl ?_
    exact w_X12_start_70 (prim := prim) (d := d) N S l1 (S.2.1 8 29 j1) (S.2.1 8 30 j2) (S.2.1 8 31 j3) w1 w2 (S.2.1 8 3 j6) hp lvz5 a0 fa0 g0_z5 g1_z5 g2_z5 g3_z5 g4_z5 g5_z5 g6_z5 hM h
def f_X12_start (N : Nat) (S : yS) (xl1 : Int32) : Option (Int32 × yS) := f_X12_start_0 N S xl1
theorem m_X12_start {F : xH} {ev : xEv} {prim : xRel} {d : Nat} {T : yT} {v : Int32} {S' : yS} (N : Nat) (S : yS) (xl1 : Int32) (a0 : Nat) (fa0 : yAt T 12 8 0 a0) (h : f_X12_start N S xl1 = some (v, S')) : ykQ [8] F ev prim (d + 3) 255 T S [.ref a0, .int xl1] (none) S' :=
  ykQ.of (pg_255 ev) mi_255 (Nat.le_of_ble_eq_true rfl) (fun hp sz hM => w_X12_start_0 (prim := prim) (d := d) N S xl1 hp _ a0 fa0 rfl rfl hM h)
