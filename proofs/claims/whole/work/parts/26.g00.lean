
def f_X12_common_17 (N : Nat) (rk : yS → Int64 → Int64 → Option Int64) (S : yS) (t0 : Int64) : Option Int64 := some t0
set_option maxHeartbeats 4000000 in
set_option maxRecDepth 40000 in
theorem w_X12_common_17 {F : xH} {ev : xEv} {prim : xRel} {d sz : Nat} {T : yT} {v : Int64} {hp : xH} (N : Nat) (rk : yS → Int64 → Int64 → Option Int64) (hrec : ∀ (S : yS) (x0 x1 : Int64) (v : Int64), rk S x0 x1 = some v → ykP [8] F ev prim (d + 0) 282 T S [.long x0, .long x1] (.long v)) (S : yS) (t0 : Int64) (lv : xLv) (hM : cR [8] F ev T S hp) (h : f_X12_common_17 N rk S t0 = some v) : yWE ev.2.1 (xstr ev) (xCalls ev xmi (xprog ev) prim (d + 0)) (pX12_common ev) (17, lv, [.long t0], hp, sz, 0) (ypP hp sz (.long v)) := by
  unfold f_X12_common_17 at h
  exact ye_ret rfl rfl (rPJ h)

def f_X12_common_0 (N : Nat) (rk : yS → Int64 → Int64 → Option Int64) (S : yS) (l0 : Int64) (l2 : Int64) : Option Int64 := if ¬ (lg_cmp l2 0) = 0 then gP (¬ l2 = 0) (bV (rk S l2 (l0 - l0 / l2 * l2)) fun w1 => f_X12_common_17 N rk S w1) else f_X12_common_17 N rk S l0
set_option maxHeartbeats 4000000 in
set_option maxRecDepth 40000 in
theorem w_X12_common_0 {F : xH} {ev : xEv} {prim : xRel} {d sz : Nat} {T : yT} {v : Int64} {hp : xH} (N : Nat) (rk : yS → Int64 → Int64 → Option Int64) (hrec : ∀ (S : yS) (x0 x1 : Int64) (v : Int64), rk S x0 x1 = some v → ykP [8] F ev prim (d + 0) 282 T S [.long x0, .long x1] (.long v)) (S : yS) (l0 : Int64) (l2 : Int64) (lv : xLv) (g0 : xG lv 0 = some (.long l0)) (g2 : xG lv 2 = some (.long l2)) (hM : cR [8] F ev T S hp) (h : f_X12_common_0 N rk S l0 l2 = some v) : yWE ev.2.1 (xstr ev) (xCalls ev xmi (xprog ev) prim (d + 0)) (pX12_common ev) (0, lv, [], hp, sz, 0) (ypP hp sz (.long v)) := by
  unfold f_X12_common_0 at h
  refine ye_lload rfl g2 ?_
  refine ye_p rfl rfl ?_
  refine ye_p rfl rfl ?_
  refine ye_if_ne rfl (fun h1 => ?_) (fun h1 => ?_)
  · replace h := yiT h1 h
    refine ye_lload rfl g2 ?_
    refine ye_lload rfl g0 ?_
    refine ye_lload rfl g2 ?_
    obtain ⟨i1, h⟩ := gP_some h
    refine ye_ldiv rfl i1 ?_
    obtain ⟨w1, hw1, h⟩ := bV_some h
    refine ye_callS (As := [.long l2, .long (l0 - l0 / l2 * l2)]) (rest := []) 1 (Or.inl rfl) rfl rfl rfl (Nat.le_of_ble_eq_true rfl) ((hrec S l2 (l0 - l0 / l2 * l2) _ hw1) hp sz hM) ?_
    exact w_X12_common_17 (prim := prim) (d := d) N rk hrec S w1 lv hM h
  · replace h := yiN h1 h
    refine ye_lload rfl g0 ?_
    refine ye_p rfl rfl ?_
    exact w_X12_common_17 (prim := prim) (d := d) N rk hrec S l0 lv hM h
def f_X12_common (N : Nat) (rk : yS → Int64 → Int64 → Option Int64) (S : yS) (xl0 : Int64) (xl2 : Int64) : Option Int64 := f_X12_common_0 N rk S xl0 xl2
theorem m_X12_common {F : xH} {ev : xEv} {prim : xRel} {d : Nat} {T : yT} {v : Int64} (N : Nat) (rk : yS → Int64 → Int64 → Option Int64) (hrec : ∀ (S : yS) (x0 x1 : Int64) (v : Int64), rk S x0 x1 = some v → ykP [8] F ev prim (d + 0) 282 T S [.long x0, .long x1] (.long v)) (S : yS) (xl0 : Int64) (xl2 : Int64) (h : f_X12_common N rk S xl0 xl2 = some v) : ykP [8] F ev prim (d + 1) 282 T S [.long xl0, .long xl2] (.long v) :=
  ykP.of (pg_282 ev) mi_282 (Nat.le_of_ble_eq_true rfl) (fun hp sz hM => w_X12_common_0 (prim := prim) (d := d) N rk hrec S xl0 xl2 _ rfl rfl hM h)
def f_comR (N : Nat) : Nat → yS → Int64 → Int64 → Option Int64
  | 0, _, _, _ => none
  | n + 1, S, x, y => f_X12_common N (f_comR N n) S x y
theorem m_comR {F : xH} {ev : xEv} {prim : xRel} {T : yT} (d N n : Nat) : ∀ (S : yS) (x0 x1 : Int64) (v : Int64), f_comR N n S x0 x1 = some v → ykP [8] F ev prim (d + n + 0) 282 T S [.long x0, .long x1] (.long v) := by
  induction n with
  | zero => intro S x0 x1 v h; exact n_some h
  | succ n ih =>
    intro S x0 x1 v h
    unfold f_comR at h
    exact (show d + (n + 1) + 0 = d + n + 1 by omega) ▸ m_X12_common (d := d + n) N (f_comR N n) ih S x0 x1 h
def f_X12_commonT (N : Nat) (S : yS) (x0 x1 : Int64) : Option Int64 := f_comR N 110 S x0 x1
theorem m_X12_commonT {F : xH} {ev : xEv} {prim : xRel} {d : Nat} {T : yT} {v : Int64} (N : Nat) (S : yS) (x0 x1 : Int64) (h : f_X12_commonT N S x0 x1 = some v) : ykP [8] F ev prim (d + 110) 282 T S [.long x0, .long x1] (.long v) := (show d + 110 + 0 = d + 110 by omega) ▸ m_comR d N 110 S x0 x1 v h


def f_X0_isAheadOf_38 (N : Nat) (S : yS) (t0 : Int32) : Option Int32 := gP (t0 = 0 ∨ t0 = 1) (some t0)
set_option maxHeartbeats 4000000 in
set_option maxRecDepth 40000 in
theorem w_X0_isAheadOf_38 {F : xH} {ev : xEv} {prim : xRel} {d sz : Nat} {T : yT} {v : Int32} {hp : xH} (N : Nat) (S : yS) (t0 : Int32) (lv : xLv) (hM : cR [0, 1, 2, 3, 4, 5, 6, 7] F ev T S hp) (h : f_X0_isAheadOf_38 N S t0 = some v) : yWE ev.2.1 (xstr ev) (xCalls ev xmi (xprog ev) prim (d + 0)) (pX0_isAheadOf ev) (38, lv, [.int t0], hp, sz, 0) (ypP hp sz (.int v)) := by
  unfold f_X0_isAheadOf_38 at h
  obtain ⟨i1, h⟩ := gP_some h
  exact ye_ret rfl (if_pos (zb_nar i1)) (rP h)

def f_X0_isAheadOf_33 (N : Nat) (S : yS) : Option Int32 := f_X0_isAheadOf_38 N S 1
set_option maxHeartbeats 4000000 in
set_option maxRecDepth 40000 in
theorem w_X0_isAheadOf_33 {F : xH} {ev : xEv} {prim : xRel} {d sz : Nat} {T : yT} {v : Int32} {hp : xH} (N : Nat) (S : yS) (lv : xLv) (hM : cR [0, 1, 2, 3, 4, 5, 6, 7] F ev T S hp) (h : f_X0_isAheadOf_33 N S = some v) : yWE ev.2.1 (xstr ev) (xCalls ev xmi (xprog ev) prim (d + 0)) (pX0_isAheadOf ev) (33, lv, [], hp, sz, 0) (ypP hp sz (.int v)) := by
  unfold f_X0_isAheadOf_33 at h
  refine ye_p rfl rfl ?_
  refine ye_p rfl rfl ?_
  exact w_X0_isAheadOf_38 (prim := prim) (d := d) N S 1 lv hM h

def f_X0_isAheadOf_37 (N : Nat) (S : yS) : Option Int32 := f_X0_isAheadOf_38 N S 0
set_option maxHeartbeats 4000000 in
set_option maxRecDepth 40000 in
theorem w_X0_isAheadOf_37 {F : xH} {ev : xEv} {prim : xRel} {d sz : Nat} {T : yT} {v : Int32} {hp : xH} (N : Nat) (S : yS) (lv : xLv) (hM : cR [0, 1, 2, 3, 4, 5, 6, 7] F ev T S hp) (h : f_X0_isAheadOf_37 N S = some v) : yWE ev.2.1 (xstr ev) (xCalls ev xmi (xprog ev) prim (d + 0)) (pX0_isAheadOf ev) (37, lv, [], hp, sz, 0) (ypP hp sz (.int v)) := by
  unfold f_X0_isAheadOf_37 at h
  refine ye_p rfl rfl ?_
  exact w_X0_isAheadOf_38 (prim := prim) (d := d) N S 0 lv hM h

def f_X0_isAheadOf_0 (N : Nat) (S : yS) (p0 : Nat) (p1 : Nat) : Option Int32 := if (S.1 p0 3) < (S.1 p1 3) then f_X0_isAheadOf_33 N S else if ¬ (S.1 p0 3) = (S.1 p1 3) then f_X0_isAheadOf_37 N S else if (S.1 p1 4) ≤ (S.1 p0 4) then f_X0_isAheadOf_37 N S else f_X0_isAheadOf_33 N S
set_option maxHeartbeats 4000000 in
set_option maxRecDepth 40000 in
theorem w_X0_isAheadOf_0 {F : xH} {ev : xEv} {prim : xRel} {d sz : Nat} {T : yT} {v : Int32} {hp : xH} (N : Nat) (S : yS) (p0 : Nat) (p1 : Nat) (lv : xLv) (a0 : Nat) (a1 : Nat) (fa0 : yAt T 0 p0 0 a0) (fa1 : yAt T 0 p1 0 a1) (g0 : xG lv 0 = some (.ref a0)) (g1 : xG lv 1 = some (.ref a1)) (hM : cR [0, 1, 2, 3, 4, 5, 6, 7] F ev T S hp) (h : f_X0_isAheadOf_0 N S p0 p1 = some v) : yWE ev.2.1 (xstr ev) (xCalls ev xmi (xprog ev) prim (d + 0)) (pX0_isAheadOf ev) (0, lv, [], hp, sz, 0) (ypP hp sz (.int v)) := by
  unfold f_X0_isAheadOf_0 at h
  refine ye_aload rfl g0 ?_
  refine ye_getf rfl (hM.obj fa0 ⟨rfl, rfl⟩) rfl ?_
  refine ye_aload rfl g1 ?_
  refine ye_getf rfl (hM.obj fa1 ⟨rfl, rfl⟩) rfl ?_
  refine ye_icmp_lt rfl (fun h1 => ?_) (fun h1 => ?_)
  · replace h := yiT h1 h
    exact w_X0_isAheadOf_33 (prim := prim) (d := d) N S lv hM h
  · replace h := yiN h1 h
    refine ye_aload rfl g0 ?_
    refine ye_getf rfl (hM.obj fa0 ⟨rfl, rfl⟩) rfl ?_
    refine ye_aload rfl g1 ?_
    refine ye_getf rfl (hM.obj fa1 ⟨rfl, rfl⟩) rfl ?_
    refine ye_icmp_ne rfl (fun h2 => ?_) (fun h2 => ?_)
    · replace h := yiT h2 h
      exact w_X0_isAheadOf_37 (prim := prim) (d := d) N S lv hM h
    · replace h := yiN h2 h
      refine ye_aload rfl g0 ?_
      refine ye_getf rfl (hM.obj fa0 ⟨rfl, rfl⟩) rfl ?_
      refine ye_aload rfl g1 ?_
      refine ye_getf rfl (hM.obj fa1 ⟨rfl, rfl⟩) rfl ?_
      refine ye_icmp_ge rfl (fun h3 => ?_) (fun h3 => ?_)
      · replace h := yiT h3 h
        exact w_X0_isAheadOf_37 (prim := prim) (d := d) N S lv hM h
      · replace h := yiN h3 h
        exact w_X0_isAheadOf_33 (prim := prim) (d := d) N S lv hM h
def f_X0_isAheadOf (N : Nat) (S : yS) (xp0 : Nat) (xp1 : Nat) : Option Int32 := f_X0_isAheadOf_0 N S xp0 xp1
theorem m_X0_isAheadOf {F : xH} {ev : xEv} {prim : xRel} {d : Nat} {T : yT} {v : Int32} (N : Nat) (S : yS) (xp0 : Nat) (xp1 : Nat) (a0 : Nat) (a1 : Nat) (fa0 : yAt T 0 xp0 0 a0) (fa1 : yAt T 0 xp1 0 a1) (h : f_X0_isAheadOf N S xp0 xp1 = some v) : ykP [0, 1, 2, 3, 4, 5, 6, 7] F ev prim (d + 1) 1 T S [.ref a0, .ref a1] (.int v) :=
  ykP.of (pg_1 ev) mi_1 (Nat.le_of_ble_eq_true rfl) (fun hp sz hM => w_X0_isAheadOf_0 (prim := prim) (d := d) N S xp0 xp1 _ a0 a1 fa0 fa1 rfl rfl hM h)

def f_X0_late_0 (N : Nat) (S : yS) (p0 : Nat) : Option Int32 := some (if 0 < ((S.1 p0 8) - (S.1 p0 4)) then ((S.1 p0 8) - (S.1 p0 4)) else 0)
set_option maxHeartbeats 4000000 in
set_option maxRecDepth 40000 in
theorem w_X0_late_0 {F : xH} {ev : xEv} {prim : xRel} {d sz : Nat} {T : yT} {v : Int32} {hp : xH} (N : Nat) (S : yS) (p0 : Nat) (lv : xLv) (a0 : Nat) (fa0 : yAt T 0 p0 0 a0) (g0 : xG lv 0 = some (.ref a0)) (hM : cR [0, 1, 2, 3, 4, 5, 6, 7] F ev T S hp) (h : f_X0_late_0 N S p0 = some v) : yWE ev.2.1 (xstr ev) (xCalls ev xmi (xprog ev) prim (d + 0)) (pX0_late ev) (0, lv, [], hp, sz, 0) (ypP hp sz (.int v)) := by
  unfold f_X0_late_0 at h
  refine ye_p rfl rfl ?_
  refine ye_aload rfl g0 ?_
  refine ye_getf rfl (hM.obj fa0 ⟨rfl, rfl⟩) rfl ?_
  refine ye_aload rfl g0 ?_
  refine ye_getf rfl (hM.obj fa0 ⟨rfl, rfl⟩) rfl ?_
  refine ye_p rfl rfl ?_
  refine ye_p rfl rfl ?_
  exact ye_ret rfl rfl (rP h)
def f_X0_late (N : Nat) (S : yS) (xp0 : Nat) : Option Int32 := f_X0_late_0 N S xp0
theorem m_X0_late {F : xH} {ev : xEv} {prim : xRel} {d : Nat} {T : yT} {v : Int32} (N : Nat) (S : yS) (xp0 : Nat) (a0 : Nat) (fa0 : yAt T 0 xp0 0 a0) (h : f_X0_late N S xp0 = some v) : ykP [0, 1, 2, 3, 4, 5, 6, 7] F ev prim (d + 1) 2 T S [.ref a0] (.int v) :=
  ykP.of (pg_2 ev) mi_2 (Nat.le_of_ble_eq_true rfl) (fun hp sz hM => w_X0_late_0 (prim := prim) (d := d) N S xp0 _ a0 fa0 rfl hM h)

def f_X0_addStep_45 (N : Nat) (S : yS) : Option (Int32 × yS) := some (0, S)
set_option maxHeartbeats 4000000 in
set_option maxRecDepth 40000 in
theorem w_X0_addStep_45 {F : xH} {ev : xEv} {prim : xRel} {d sz : Nat} {T : yT} {v : Int32} {S' : yS} (N : Nat) (S : yS) (hp : xH) (lv : xLv) (hM : cR [0, 1, 2, 3, 4, 5, 6, 7] F ev T S hp) (h : f_X0_addStep_45 N S = some (v, S')) : yWE ev.2.1 (xstr ev) (xCalls ev xmi (xprog ev) prim (d + 0)) (pX0_addStep ev) (45, lv, [], hp, sz, 0) (ypQ [0, 1, 2, 3, 4, 5, 6, 7] F ev T sz (none) S') := by
  unfold f_X0_addStep_45 at h
  exact ye_ret rfl rfl (rQV h hM)

def f_X0_addStep_0 (N : Nat) (S : yS) (p0 : Nat) (l1 : Int32) (l2 : Int32) : Option (Int32 × yS) := if 16 ≤ (S.1 p0 10) then f_X0_addStep_45 N S else gA 32 (2 * (S.1 p0 10)) fun j1 => sq (yA S p0 9 (upd (S.2.1 p0 9) j1 l1)) fun S1 => gA 32 ((2 * (S1.1 p0 10)) + 1) fun j2 => sq (yA S1 p0 9 (upd (S1.2.1 p0 9) j2 l2)) fun S2 => sq (yI S2 p0 10 ((S2.1 p0 10) + 1)) fun S3 => f_X0_addStep_45 N S3
set_option maxHeartbeats 4000000 in
set_option maxRecDepth 40000 in
theorem w_X0_addStep_0 {F : xH} {ev : xEv} {prim : xRel} {d sz : Nat} {T : yT} {v : Int32} {S' : yS} (N : Nat) (S : yS) (p0 : Nat) (l1 : Int32) (l2 : Int32) (hp : xH) (lv : xLv) (a0 : Nat) (fa0 : yAt T 0 p0 0 a0) (g0 : xG lv 0 = some (.ref a0)) (g1 : xG lv 1 = some (.int l1)) (g2 : xG lv 2 = some (.int l2)) (hM : cR [0, 1, 2, 3, 4, 5, 6, 7] F ev T S hp) (h : f_X0_addStep_0 N S p0 l1 l2 = some (v, S')) : yWE ev.2.1 (xstr ev) (xCalls ev xmi (xprog ev) prim (d + 0)) (pX0_addStep ev) (0, lv, [], hp, sz, 0) (ypQ [0, 1, 2, 3, 4, 5, 6, 7] F ev T sz (none) S') := by
  unfold f_X0_addStep_0 at h
  refine ye_aload rfl g0 ?_
  refine ye_getf rfl (hM.obj fa0 ⟨rfl, rfl⟩) rfl ?_
  refine ye_p rfl rfl ?_
  refine ye_icmp_ge rfl (fun h1 => ?_) (fun h1 => ?_)
  · replace h := yiT h1 h
    exact w_X0_addStep_45 (prim := prim) (d := d) N S hp lv hM h
  · replace h := yiN h1 h
    refine ye_aload rfl g0 ?_
    refine ye_getr rfl (hM.obj fa0 ⟨rfl, rfl⟩) rfl (fun cx1 ecx1 => ?_)
    have fcx1 := yAt.row fa0 ecx1
    refine ye_p rfl rfl ?_
    refine ye_aload rfl g0 ?_
    refine ye_getf rfl (hM.obj fa0 ⟨rfl, rfl⟩) rfl ?_
    refine ye_p rfl rfl ?_
    refine ye_iload rfl g1 ?_
    obtain ⟨j1, ej1, ij1, h⟩ := gA_some h
    obtain ⟨S1, eS1, h⟩ := sq_some h
    refine yw_ast rfl hM fcx1 yr_0_9 (by decide) ij1 ej1 eS1 (fun y1 M1 => ?_)
    refine ye_aload rfl g0 ?_
    refine ye_getr rfl (M1.obj fa0 ⟨rfl, rfl⟩) rfl (fun cx2 ecx2 => ?_)
    have fcx2 := yAt.row fa0 ecx2
    refine ye_p rfl rfl ?_
    refine ye_aload rfl g0 ?_
    refine ye_getf rfl (M1.obj fa0 ⟨rfl, rfl⟩) rfl ?_
    refine ye_p rfl rfl ?_
    refine ye_p rfl rfl ?_
    refine ye_p rfl rfl ?_
    refine ye_iload rfl g2 ?_
    obtain ⟨j2, ej2, ij2, h⟩ := gA_some h
    obtain ⟨S2, eS2, h⟩ := sq_some h
    refine yw_ast rfl M1 fcx2 yr_0_9 (by decide) ij2 ej2 eS2 (fun y2 M2 => ?_)
    refine ye_aload rfl g0 ?_
    refine ye_p rfl rfl ?_
    refine ye_getf rfl (M2.obj fa0 ⟨rfl, rfl⟩) rfl ?_
    refine ye_p rfl rfl ?_
    refine ye_p rfl rfl ?_
    obtain ⟨S3, eS3, h⟩ := sq_some h
    refine yw_putI rfl M2 fa0 rfl ⟨rfl, rfl⟩ (Nat.le_of_ble_eq_true rfl) rfl rfl (ys_0_10 ev T _ ((S2.1 p0 10) + 1)) (fun q => absurd q (by decide)) eS3 (fun y3 M3 => ?_)
    exact w_X0_addStep_45 (prim := prim) (d := d) N S3 y3 lv M3 h
def f_X0_addStep (N : Nat) (S : yS) (xp0 : Nat) (xl1 : Int32) (xl2 : Int32) : Option (Int32 × yS) := f_X0_addStep_0 N S xp0 xl1 xl2
theorem m_X0_addStep {F : xH} {ev : xEv} {prim : xRel} {d : Nat} {T : yT} {v : Int32} {S' : yS} (N : Nat) (S : yS) (xp0 : Nat) (xl1 : Int32) (xl2 : Int32) (a0 : Nat) (fa0 : yAt T 0 xp0 0 a0) (h : f_X0_addStep N S xp0 xl1 xl2 = some (v, S')) : ykQ [0, 1, 2, 3, 4, 5, 6, 7] F ev prim (d + 1) 6 T S [.ref a0, .int xl1, .int xl2] (none) S' :=
  ykQ.of (pg_6 ev) mi_6 (Nat.le_of_ble_eq_true rfl) (fun hp sz hM => w_X0_addStep_0 (prim := prim) (d := d) N S xp0 xl1 xl2 hp _ a0 fa0 rfl rfl rfl hM h)

def f_X0_copy_0 (N : Nat) (S : yS) (p0 : Nat) (p1 : Nat) : Option (Int32 × yS) := sq (yI S p1 5 (S.1 p0 5)) fun S1 => sq (yI S1 p1 6 (S1.1 p0 6)) fun S2 => sq (yI S2 p1 7 (S2.1 p0 7)) fun S3 => sq (yI S3 p1 8 (S3.1 p0 8)) fun S4 => sq (yI S4 p1 10 (S4.1 p0 10)) fun S5 => some (0, S5)
set_option maxHeartbeats 4000000 in
set_option maxRecDepth 40000 in
theorem w_X0_copy_0 {F : xH} {ev : xEv} {prim : xRel} {d sz : Nat} {T : yT} {v : Int32} {S' : yS} (N : Nat) (S : yS) (p0 : Nat) (p1 : Nat) (hp : xH) (lv : xLv) (a0 : Nat) (a1 : Nat) (fa0 : yAt T 0 p0 0 a0) (fa1 : yAt T 0 p1 0 a1) (g0 : xG lv 0 = some (.ref a0)) (g1 : xG lv 1 = some (.ref a1)) (hM : cR [0, 1, 2, 3, 4, 5, 6, 7] F ev T S hp) (h : f_X0_copy_0 N S p0 p1 = some (v, S')) : yWE ev.2.1 (xstr ev) (xCalls ev xmi (xprog ev) prim (d + 0)) (pX0_copy ev) (0, lv, [], hp, sz, 0) (ypQ [0, 1, 2, 3, 4, 5, 6, 7] F ev T sz (none) S') := by
  unfold f_X0_copy_0 at h
  refine ye_aload rfl g1 ?_
  refine ye_aload rfl g0 ?_
  refine ye_getf rfl (hM.obj fa0 ⟨rfl, rfl⟩) rfl ?_
  obtain ⟨S1, eS1, h⟩ := sq_some h
  refine yw_putI rfl hM fa1 rfl ⟨rfl, rfl⟩ (Nat.le_of_ble_eq_true rfl) rfl rfl (ys_0_5 ev T _ (S.1 p0 5)) (fun q => absurd q (by decide)) eS1 (fun y1 M1 => ?_)
  refine ye_aload rfl g1 ?_
  refine ye_aload rfl g0 ?_
  refine ye_getf rfl (M1.obj fa0 ⟨rfl, rfl⟩) rfl ?_
  obtain ⟨S2, eS2, h⟩ := sq_some h
  refine yw_putI rfl M1 fa1 rfl ⟨rfl, rfl⟩ (Nat.le_of_ble_eq_true rfl) rfl rfl (ys_0_6 ev T _ (S1.1 p0 6)) (fun q => absurd q (by decide)) eS2 (fun y2 M2 => ?_)
  refine ye_aload rfl g1 ?_
  refine ye_aload rfl g0 ?_
  refine ye_getf rfl (M2.obj fa0 ⟨rfl, rfl⟩) rfl ?_
  obtain ⟨S3, eS3, h⟩ := sq_some h
  refine yw_putI rfl M2 fa1 rfl ⟨rfl, rfl⟩ (Nat.le_of_ble_eq_true rfl) rfl rfl (ys_0_7 ev T _ (S2.1 p0 7)) (fun q => absurd q (by decide)) eS3 (fun y3 M3 => ?_)
  refine ye_aload rfl g1 ?_
  refine ye_aload rfl g0 ?_
  refine ye_getf rfl (M3.obj fa0 ⟨rfl, rfl⟩) rfl ?_
  obtain ⟨S4, eS4, h⟩ := sq_some h
  refine yw_putI rfl M3 fa1 rfl ⟨rfl, rfl⟩ (Nat.le_of_ble_eq_true rfl) rfl rfl (ys_0_8 ev T _ (S3.1 p0 8)) (fun q => absurd q (by decide)) eS4 (fun y4 M4 => ?_)
  refine ye_aload rfl g1 ?_
  refine ye_aload rfl g0 ?_
  refine ye_getf rfl (M4.obj fa0 ⟨rfl, rfl⟩) rfl ?_
  obtain ⟨S5, eS5, h⟩ := sq_some h
  refine yw_putI rfl M4 fa1 rfl ⟨rfl, rfl⟩ (Nat.le_of_ble_eq_true rfl) rfl rfl (ys_0_10 ev T _ (S4.1 p0 10)) (fun q => absurd q (by decide)) eS5 (fun y5 M5 => ?_)
  exact ye_ret rfl rfl (rQV h M5)
def f_X0_copy (N : Nat) (S : yS) (xp0 : Nat) (xp1 : Nat) : Option (Int32 × yS) := f_X0_copy_0 N S xp0 xp1
theorem m_X0_copy {F : xH} {ev : xEv} {prim : xRel} {d : Nat} {T : yT} {v : Int32} {S' : yS} (N : Nat) (S : yS) (xp0 : Nat) (xp1 : Nat) (a0 : Nat) (a1 : Nat) (fa0 : yAt T 0 xp0 0 a0) (fa1 : yAt T 0 xp1 0 a1) (h : f_X0_copy N S xp0 xp1 = some (v, S')) : ykQ [0, 1, 2, 3, 4, 5, 6, 7] F ev prim (d + 1) 9 T S [.ref a0, .ref a1] (none) S' :=
  ykQ.of (pg_9 ev) mi_9 (Nat.le_of_ble_eq_true rfl) (fun hp sz hM => w_X0_copy_0 (prim := prim) (d := d) N S xp0 xp1 hp _ a0 a1 fa0 fa1 rfl rfl hM h)

def f_X1_waits_12 (N : Nat) (S : yS) (t0 : Int32) : Option Int32 := gP (t0 = 0 ∨ t0 = 1) (some t0)
set_option maxHeartbeats 4000000 in
set_option maxRecDepth 40000 in
theorem w_X1_waits_12 {F : xH} {ev : xEv} {prim : xRel} {d sz : Nat} {T : yT} {v : Int32} {hp : xH} (N : Nat) (S : yS) (t0 : Int32) (lv : xLv) (hM : cR [0, 1, 2, 3, 4, 5, 6, 7] F ev T S hp) (h : f_X1_waits_12 N S t0 = some v) : yWE ev.2.1 (xstr ev) (xCalls ev xmi (xprog ev) prim (d + 0)) (pX1_waits ev) (12, lv, [.int t0], hp, sz, 0) (ypP hp sz (.int v)) := by
  unfold f_X1_waits_12 at h
  obtain ⟨i1, h⟩ := gP_some h
  exact ye_ret rfl (if_pos (zb_nar i1)) (rP h)

def f_X1_waits_0 (N : Nat) (S : yS) (p0 : Nat) : Option Int32 := if ¬ (S.1 p0 4) = 0 then f_X1_waits_12 N S 0 else f_X1_waits_12 N S 1
set_option maxHeartbeats 4000000 in
set_option maxRecDepth 40000 in
theorem w_X1_waits_0 {F : xH} {ev : xEv} {prim : xRel} {d sz : Nat} {T : yT} {v : Int32} {hp : xH} (N : Nat) (S : yS) (p0 : Nat) (lv : xLv) (a0 : Nat) (fa0 : yAt T 1 p0 0 a0) (g0 : xG lv 0 = some (.ref a0)) (hM : cR [0, 1, 2, 3, 4, 5, 6, 7] F ev T S hp) (h : f_X1_waits_0 N S p0 = some v) : yWE ev.2.1 (xstr ev) (xCalls ev xmi (xprog ev) prim (d + 0)) (pX1_waits ev) (0, lv, [], hp, sz, 0) (ypP hp sz (.int v)) := by
  unfold f_X1_waits_0 at h
  refine ye_aload rfl g0 ?_
  refine ye_getf rfl (hM.obj fa0 ⟨rfl, rfl⟩) rfl ?_
  refine ye_if_ne rfl (fun h1 => ?_) (fun h1 => ?_)
  · replace h := yiT h1 h
    refine ye_p rfl rfl ?_
    exact w_X1_waits_12 (prim := prim) (d := d) N S 0 lv hM h
  · replace h := yiN h1 h
    refine ye_p rfl rfl ?_
    refine ye_p rfl rfl ?_
    exact w_X1_waits_12 (prim := prim) (d := d) N S 1 lv hM h
def f_X1_waits (N : Nat) (S : yS) (xp0 : Nat) : Option Int32 := f_X1_waits_0 N S xp0
theorem m_X1_waits {F : xH} {ev : xEv} {prim : xRel} {d : Nat} {T : yT} {v : Int32} (N : Nat) (S : yS) (xp0 : Nat) (a0 : Nat) (fa0 : yAt T 1 xp0 0 a0) (h : f_X1_waits N S xp0 = some v) : ykP [0, 1, 2, 3, 4, 5, 6, 7] F ev prim (d + 1) 11 T S [.ref a0] (.int v) :=
  ykP.of (pg_11 ev) mi_11 (Nat.le_of_ble_eq_true rfl) (fun hp sz hM => w_X1_waits_0 (prim := prim) (d := d) N S xp0 _ a0 fa0 rfl hM h)

def f_X1_begin_0 (N : Nat) (S : yS) (p0 : Nat) (l1 : Int32) (l2 : Int32) : Option (Int32 × yS) := sq (yI S p0 4 1) fun S1 => sq (yI S1 p0 5 l1) fun S2 => sq (yI S2 p0 7 l2) fun S3 => some (0, S3)
set_option maxHeartbeats 4000000 in
set_option maxRecDepth 40000 in
theorem w_X1_begin_0 {F : xH} {ev : xEv} {prim : xRel} {d sz : Nat} {T : yT} {v : Int32} {S' : yS} (N : Nat) (S : yS) (p0 : Nat) (l1 : Int32) (l2 : Int32) (hp : xH) (lv : xLv) (a0 : Nat) (fa0 : yAt T 1 p0 0 a0) (g0 : xG lv 0 = some (.ref a0)) (g1 : xG lv 1 = some (.int l1)) (g2 : xG lv 2 = some (.int l2)) (hM : cR [0, 1, 2, 3, 4, 5, 6, 7] F ev T S hp) (h : f_X1_begin_0 N S p0 l1 l2 = some (v, S')) : yWE ev.2.1 (xstr ev) (xCalls ev xmi (xprog ev) prim (d + 0)) (pX1_begin ev) (0, lv, [], hp, sz, 0) (ypQ [0, 1, 2, 3, 4, 5, 6, 7] F ev T sz (none) S') := by
  unfold f_X1_begin_0 at h
  refine ye_aload rfl g0 ?_
  refine ye_p rfl rfl ?_
  obtain ⟨S1, eS1, h⟩ := sq_some h
  refine yw_putI rfl hM fa0 rfl ⟨rfl, rfl⟩ (Nat.le_of_ble_eq_true rfl) rfl rfl (ys_1_4 ev T _ 1) (fun q => absurd q (by decide)) eS1 (fun y1 M1 => ?_)
  refine ye_aload rfl g0 ?_
  refine ye_iload rfl g1 ?_
  obtain ⟨S2, eS2, h⟩ := sq_some h
  refine yw_putI rfl M1 fa0 rfl ⟨rfl, rfl⟩ (Nat.le_of_ble_eq_true rfl) rfl rfl (ys_1_5 ev T _ l1) (fun q => absurd q (by decide)) eS2 (fun y2 M2 => ?_)
  refine ye_aload rfl g0 ?_
  refine ye_iload rfl g2 ?_
  obtain ⟨S3, eS3, h⟩ := sq_some h
  refine yw_putI rfl M2 fa0 rfl ⟨rfl, rfl⟩ (Nat.le_of_ble_eq_true rfl) rfl rfl (ys_1_7 ev T _ l2) (fun q => absurd q (by decide)) eS3 (fun y3 M3 => ?_)
  exact ye_ret rfl rfl (rQV h M3)
def f_X1_begin (N : Nat) (S : yS) (xp0 : Nat) (xl1 : Int32) (xl2 : Int32) : Option (Int32 × yS) := f_X1_begin_0 N S xp0 xl1 xl2
theorem m_X1_begin {F : xH} {ev : xEv} {prim : xRel} {d : Nat} {T : yT} {v : Int32} {S' : yS} (N : Nat) (S : yS) (xp0 : Nat) (xl1 : Int32) (xl2 : Int32) (a0 : Nat) (fa0 : yAt T 1 xp0 0 a0) (h : f_X1_begin N S xp0 xl1 xl2 = some (v, S')) : ykQ [0, 1, 2, 3, 4, 5, 6, 7] F ev prim (d + 1) 12 T S [.ref a0, .int xl1, .int xl2] (none) S' :=
  ykQ.of (pg_12 ev) mi_12 (Nat.le_of_ble_eq_true rfl) (fun hp sz hM => w_X1_begin_0 (prim := prim) (d := d) N S xp0 xl1 xl2 hp _ a0 fa0 rfl rfl rfl hM h)

def f_X1_finish_0 (N : Nat) (S : yS) (p0 : Nat) (l1 : Int32) (l2 : Int32) : Option (Int32 × yS) := sq (yI S p0 4 l1) fun S1 => sq (yI S1 p0 6 l2) fun S2 => some (0, S2)
set_option maxHeartbeats 4000000 in
set_option maxRecDepth 40000 in
theorem w_X1_finish_0 {F : xH} {ev : xEv} {prim : xRel} {d sz : Nat} {T : yT} {v : Int32} {S' : yS} (N : Nat) (S : yS) (p0 : Nat) (l1 : Int32) (l2 : Int32) (hp : xH) (lv : xLv) (a0 : Nat) (fa0 : yAt T 1 p0 0 a0) (g0 : xG lv 0 = some (.ref a0)) (g1 : xG lv 1 = some (.int l1)) (g2 : xG lv 2 = some (.int l2)) (hM : cR [0, 1, 2, 3, 4, 5, 6, 7] F ev T S hp) (h : f_X1_finish_0 N S p0 l1 l2 = some (v, S')) : yWE ev.2.1 (xstr ev) (xCalls ev xmi (xprog ev) prim (d + 0)) (pX1_finish ev) (0, lv, [], hp, sz, 0) (ypQ [0, 1, 2, 3, 4, 5, 6, 7] F ev T sz (none) S') := by
  unfold f_X1_finish_0 at h
  refine ye_aload rfl g0 ?_
  refine ye_iload rfl g1 ?_
  obtain ⟨S1, eS1, h⟩ := sq_some h
  refine yw_putI rfl hM fa0 rfl ⟨rfl, rfl⟩ (Nat.le_of_ble_eq_true rfl) rfl rfl (ys_1_4 ev T _ l1) (fun q => absurd q (by decide)) eS1 (fun y1 M1 => ?_)
  refine ye_aload rfl g0 ?_
  refine ye_iload rfl g2 ?_
  obtain ⟨S2, eS2, h⟩ := sq_some h
  refine yw_putI rfl M1 fa0 rfl ⟨rfl, rfl⟩ (Nat.le_of_ble_eq_true rfl) rfl rfl (ys_1_6 ev T _ l2) (fun q => absurd q (by decide)) eS2 (fun y2 M2 => ?_)
  exact ye_ret rfl rfl (rQV h M2)
def f_X1_finish (N : Nat) (S : yS) (xp0 : Nat) (xl1 : Int32) (xl2 : Int32) : Option (Int32 × yS) := f_X1_finish_0 N S xp0 xl1 xl2
theorem m_X1_finish {F : xH} {ev : xEv} {prim : xRel} {d : Nat} {T : yT} {v : Int32} {S' : yS} (N : Nat) (S : yS) (xp0 : Nat) (xl1 : Int32) (xl2 : Int32) (a0 : Nat) (fa0 : yAt T 1 xp0 0 a0) (h : f_X1_finish N S xp0 xl1 xl2 = some (v, S')) : ykQ [0, 1, 2, 3, 4, 5, 6, 7] F ev prim (d + 1) 13 T S [.ref a0, .int xl1, .int xl2] (none) S' :=
  ykQ.of (pg_13 ev) mi_13 (Nat.le_of_ble_eq_true rfl) (fun hp sz hM => w_X1_finish_0 (prim := prim) (d := d) N S xp0 xl1 xl2 hp _ a0 fa0 rfl rfl rfl hM h)

def f_X1_copy_0 (N : Nat) (S : yS) (p0 : Nat) (p1 : Nat) : Option (Int32 × yS) := sq (yI S p1 4 (S.1 p0 4)) fun S1 => sq (yI S1 p1 5 (S1.1 p0 5)) fun S2 => sq (yI S2 p1 6 (S2.1 p0 6)) fun S3 => sq (yI S3 p1 7 (S3.1 p0 7)) fun S4 => sq (yI S4 p1 8 (S4.1 p0 8)) fun S5 => sq (yI S5 p1 9 (S5.1 p0 9)) fun S6 => some (0, S6)
set_option maxHeartbeats 4000000 in
set_option maxRecDepth 40000 in
theorem w_X1_copy_0 {F : xH} {ev : xEv} {prim : xRel} {d sz : Nat} {T : yT} {v : Int32} {S' : yS} (N : Nat) (S : yS) (p0 : Nat) (p1 : Nat) (hp : xH) (lv : xLv) (a0 : Nat) (a1 : Nat) (fa0 : yAt T 1 p0 0 a0) (fa1 : yAt T 1 p1 0 a1) (g0 : xG lv 0 = some (.ref a0)) (g1 : xG lv 1 = some (.ref a1)) (hM : cR [0, 1, 2, 3, 4, 5, 6, 7] F ev T S hp) (h : f_X1_copy_0 N S p0 p1 = some (v, S')) : yWE ev.2.1 (xstr ev) (xCalls ev xmi (xprog ev) prim (d + 0)) (pX1_copy ev) (0, lv, [], hp, sz, 0) (ypQ [0, 1, 2, 3, 4, 5, 6, 7] F ev T sz (none) S') := by
  unfold f_X1_copy_0 at h
  refine ye_aload rfl g1 ?_
  refine ye_aload rfl g0 ?_
  refine ye_getf rfl (hM.obj fa0 ⟨rfl, rfl⟩) rfl ?_
  obtain ⟨S1, eS1, h⟩ := sq_some h
  refine yw_putI rfl hM fa1 rfl ⟨rfl, rfl⟩ (Nat.le_of_ble_eq_true rfl) rfl rfl (ys_1_4 ev T _ (S.1 p0 4)) (fun q => absurd q (by decide)) eS1 (fun y1 M1 => ?_)
  refine ye_aload rfl g1 ?_
  refine ye_aload rfl g0 ?_
  refine ye_getf rfl (M1.obj fa0 ⟨rfl, rfl⟩) rfl ?_
  obtain ⟨S2, eS2, h⟩ := sq_some h
  refine yw_putI rfl M1 fa1 rfl ⟨rfl, rfl⟩ (Nat.le_of_ble_eq_true rfl) rfl rfl (ys_1_5 ev T _ (S1.1 p0 5)) (fun q => absurd q (by decide)) eS2 (fun y2 M2 => ?_)
  refine ye_aload rfl g1 ?_
  refine ye_aload rfl g0 ?_
  refine ye_getf rfl (M2.obj fa0 ⟨rfl, rfl⟩) rfl ?_
  obtain ⟨S3, eS3, h⟩ := sq_some h
  refine yw_putI rfl M2 fa1 rfl ⟨rfl, rfl⟩ (Nat.le_of_ble_eq_true rfl) rfl rfl (ys_1_6 ev T _ (S2.1 p0 6)) (fun q => absurd q (by decide)) eS3 (fun y3 M3 => ?_)
  refine ye_aload rfl g1 ?_
  refine ye_aload rfl g0 ?_
  refine ye_getf rfl (M3.obj fa0 ⟨rfl, rfl⟩) rfl ?_
  obtain ⟨S4, eS4, h⟩ := sq_some h
  refine yw_putI rfl M3 fa1 rfl ⟨rfl, rfl⟩ (Nat.le_of_ble_eq_true rfl) rfl rfl (ys_1_7 ev T _ (S3.1 p0 7)) (fun q => absurd q (by decide)) eS4 (fun y4 M4 => ?_)
  refine ye_aload rfl g1 ?_
  refine ye_aload rfl g0 ?_
  refine ye_getf rfl (M4.obj fa0 ⟨rfl, rfl⟩) rfl ?_
  obtain ⟨S5, eS5, h⟩ := sq_some h
  refine yw_putI rfl M4 fa1 rfl ⟨rfl, rfl⟩ (Nat.le_of_ble_eq_true rfl) rfl rfl (ys_1_8 ev T _ (S4.1 p0 8)) (fun q => absurd q (by decide)) eS5 (fun y5 M5 => ?_)
  refine ye_aload rfl g1 ?_
  refine ye_aload rfl g0 ?_
  refine ye_getf rfl (M5.obj fa0 ⟨rfl, rfl⟩) rfl ?_
  obtain ⟨S6, eS6, h⟩ := sq_some h
  refine yw_putI rfl M5 fa1 rfl ⟨rfl, rfl⟩ (Nat.le_of_ble_eq_true rfl) rfl rfl (ys_1_9 ev T _ (S5.1 p0 9)) (fun q => absurd q (by decide)) eS6 (fun y6 M6 => ?_)
  exact ye_ret rfl rfl (rQV h M6)
def f_X1_copy (N : Nat) (S : yS) (xp0 : Nat) (xp1 : Nat) : Option (Int32 × yS) := f_X1_copy_0 N S xp0 xp1
theorem m_X1_copy {F : xH} {ev : xEv} {prim : xRel} {d : Nat} {T : yT} {v : Int32} {S' : yS} (N : Nat) (S : yS) (xp0 : Nat) (xp1 : Nat) (a0 : Nat) (a1 : Nat) (fa0 : yAt T 1 xp0 0 a0) (fa1 : yAt T 1 xp1 0 a1) (h : f_X1_copy N S xp0 xp1 = some (v, S')) : ykQ [0, 1, 2, 3, 4, 5, 6, 7] F ev prim (d + 1) 16 T S [.ref a0, .ref a1] (none) S' :=
  ykQ.of (pg_16 ev) mi_16 (Nat.le_of_ble_eq_true rfl) (fun hp sz hM => w_X1_copy_0 (prim := prim) (d := d) N S xp0 xp1 hp _ a0 a1 fa0 fa1 rfl rfl hM h)

def f_X2_addField_0 (N : Nat) (S : yS) (l1 : Int32) (l2 : Int32) (l3 : Int32) : Option (Int32 × yS) := gA 8 (S.1 1 3) fun j1 => sq (yA S 1 0 (upd (S.2.1 1 0) j1 l1)) fun S1 => gA 8 (S1.1 1 3) fun j2 => sq (yA S1 1 1 (upd (S1.2.1 1 1) j2 (vp_nar .boolean l2))) fun S2 => gA 8 (S2.1 1 3) fun j3 => sq (yA S2 1 2 (upd (S2.2.1 1 2) j3 l3)) fun S3 => sq (yI S3 1 3 ((S3.1 1 3) + 1)) fun S4 => some (S3.1 1 3, S4)
set_option maxHeartbeats 4000000 in
set_option maxRecDepth 40000 in
theorem w_X2_addField_0 {F : xH} {ev : xEv} {prim : xRel} {d sz : Nat} {T : yT} {v : Int32} {S' : yS} (N : Nat) (S : yS) (l1 : Int32) (l2 : Int32) (l3 : Int32) (hp : xH) (lv : xLv) (a0 : Nat) (fa0 : yAt T 2 1 0 a0) (g0 : xG lv 0 = some (.ref a0)) (g1 : xG lv 1 = some (.int l1)) (g2 : xG lv 2 = some (.int l2)) (g3 : xG lv 3 = some (.int l3)) (hM : cR [0, 1, 2, 3, 4, 5, 6, 7] F ev T S hp) (h : f_X2_addField_0 N S l1 l2 l3 = some (v, S')) : yWE ev.2.1 (xstr ev) (xCalls ev xmi (xprog ev) prim (d + 0)) (pX2_addField ev) (0, lv, [], hp, sz, 0) (ypQ [0, 1, 2, 3, 4, 5, 6, 7] F ev T sz (some (.int v)) S') := by
  unfold f_X2_addField_0 at h
  refine ye_aload rfl g0 ?_
  refine ye_getr rfl (hM.obj fa0 ⟨rfl, rfl⟩) rfl (fun cx1 ecx1 => ?_)
  have fcx1 := yAt.row fa0 ecx1
  refine ye_aload rfl g0 ?_
  refine ye_getf rfl (hM.obj fa0 ⟨rfl, rfl⟩) rfl ?_
  refine ye_iload rfl g1 ?_
  obtain ⟨j1, ej1, ij1, h⟩ := gA_some h
  obtain ⟨S1, eS1, h⟩ := sq_some h
  refine yw_ast rfl hM fcx1 yr_2_0 (by decide) ij1 ej1 eS1 (fun y1 M1 => ?_)
  refine ye_aload rfl g0 ?_
  refine ye_getr rfl (M1.obj fa0 ⟨rfl, rfl⟩) rfl (fun cx2 ecx2 => ?_)
  have fcx2 := yAt.row fa0 ecx2
  refine ye_aload rfl g0 ?_
  refine ye_getf rfl (M1.obj fa0 ⟨rfl, rfl⟩) rfl ?_
  refine ye_iload rfl g2 ?_
  obtain ⟨j2, ej2, ij2, h⟩ := gA_some h
  obtain ⟨S2, eS2, h⟩ := sq_some h
  refine yw_ast rfl M1 fcx2 yr_2_1 (by decide) ij2 ej2 eS2 (fun y2 M2 => ?_)
  refine ye_aload rfl g0 ?_
  refine ye_getr rfl (M2.obj fa0 ⟨rfl, rfl⟩) rfl (fun cx3 ecx3 => ?_)
  have fcx3 := yAt.row fa0 ecx3
  refine ye_aload rfl g0 ?_
  refine ye_getf rfl (M2.obj fa0 ⟨rfl, rfl⟩) rfl ?_
  refine ye_iload rfl g3 ?_
  obtain ⟨j3, ej3, ij3, h⟩ := gA_some h
  obtain ⟨S3, eS3, h⟩ := sq_some h
  refine yw_ast rfl M2 fcx3 yr_2_2 (by decide) ij3 ej3 eS3 (fun y3 M3 => ?_)
  refine ye_aload rfl g0 ?_
  refine ye_p rfl rfl ?_
  refine ye_getf rfl (M3.obj fa0 ⟨rfl, rfl⟩) rfl ?_
  refine ye_p rfl rfl ?_
  refine ye_p rfl rfl ?_
  refine ye_p rfl rfl ?_
  obtain ⟨S4, eS4, h⟩ := sq_some h
  refine yw_putI rfl M3 fa0 rfl ⟨rfl, rfl⟩ (Nat.le_of_ble_eq_true rfl) rfl rfl (ys_2_3 ev T _ ((S3.1 1 3) + 1)) (fun q => absurd q (by decide)) eS4 (fun y4 M4 => ?_)
  exact ye_ret rfl rfl (rQ h M4)
def f_X2_addField (N : Nat) (S : yS) (xl1 : Int32) (xl2 : Int32) (xl3 : Int32) : Option (Int32 × yS) := f_X2_addField_0 N S xl1 xl2 xl3
theorem m_X2_addField {F : xH} {ev : xEv} {prim : xRel} {d : Nat} {T : yT} {v : Int32} {S' : yS} (N : Nat) (S : yS) (xl1 : Int32) (xl2 : Int32) (xl3 : Int32) (a0 : Nat) (fa0 : yAt T 2 1 0 a0) (h : f_X2_addField N S xl1 xl2 xl3 = some (v, S')) : ykQ [0, 1, 2, 3, 4, 5, 6, 7] F ev prim (d + 1) 18 T S [.ref a0, .int xl1, .int xl2, .int xl3] (some (.int v)) S' :=
  ykQ.of (pg_18 ev) mi_18 (Nat.le_of_ble_eq_true rfl) (fun hp sz hM => w_X2_addField_0 (prim := prim) (d := d) N S xl1 xl2 xl3 hp _ a0 fa0 rfl rfl rfl rfl hM h)

def f_X2_milesBetween_0 (N : Nat) (S : yS) (l1 : Int32) (l2 : Int32) : Option Int32 := gA 64 ((l1 * 8) + l2) fun j1 => some (S.2.1 1 7 j1)
set_option maxHeartbeats 4000000 in
set_option maxRecDepth 40000 in
theorem w_X2_milesBetween_0 {F : xH} {ev : xEv} {prim : xRel} {d sz : Nat} {T : yT} {v : Int32} {hp : xH} (N : Nat) (S : yS) (l1 : Int32) (l2 : Int32) (lv : xLv) (a0 : Nat) (fa0 : yAt T 2 1 0 a0) (g0 : xG lv 0 = some (.ref a0)) (g1 : xG lv 1 = some (.int l1)) (g2 : xG lv 2 = some (.int l2)) (hM : cR [0, 1, 2, 3, 4, 5, 6, 7] F ev T S hp) (h : f_X2_milesBetween_0 N S l1 l2 = some v) : yWE ev.2.1 (xstr ev) (xCalls ev xmi (xprog ev) prim (d + 0)) (pX2_milesBetween ev) (0, lv, [], hp, sz, 0) (ypP hp sz (.int v)) := by
  unfold f_X2_milesBetween_0 at h
  refine ye_aload rfl g0 ?_
  refine ye_getr rfl (hM.obj fa0 ⟨rfl, rfl⟩) rfl (fun cx1 ecx1 => ?_)
  have fcx1 := yAt.row fa0 ecx1
  refine ye_iload rfl g1 ?_
  refine ye_p rfl rfl ?_
  refine ye_p rfl rfl ?_
  refine ye_iload rfl g2 ?_
  refine ye_p rfl rfl ?_
  obtain ⟨j1, ej1, ij1, h⟩ := gA_some h
  refine yj_ald rfl (hM.arr fcx1 yr_2_7) ij1 ej1 ?_
  exact ye_ret rfl rfl (rP h)
def f_X2_milesBetween (N : Nat) (S : yS) (xl1 : Int32) (xl2 : Int32) : Option Int32 := f_X2_milesBetween_0 N S xl1 xl2
theorem m_X2_milesBetween {F : xH} {ev : xEv} {prim : xRel} {d : Nat} {T : yT} {v : Int32} (N : Nat) (S : yS) (xl1 : Int32) (xl2 : Int32) (a0 : Nat) (fa0 : yAt T 2 1 0 a0) (h : f_X2_milesBetween N S xl1 xl2 = some v) : ykP [0, 1, 2, 3, 4, 5, 6, 7] F ev prim (d + 1) 20 T S [.ref a0, .int xl1, .int xl2] (.int v) :=
  ykP.of (pg_20 ev) mi_20 (Nat.le_of_ble_eq_true rfl) (fun hp sz hM => w_X2_milesBetween_0 (prim := prim) (d := d) N S xl1 xl2 _ a0 fa0 rfl rfl rfl hM h)

def f_X2_tell_0 (N : Nat) (S : yS) (l1 : Int32) (l2 : Int32) (l3 : Int32) (l4 : Int32) : Option (Int32 × yS) := gA 60 (S.1 1 6) fun j1 => sq (yA S 1 8 (upd (S.2.1 1 8) j1 l1)) fun S1 => gA 60 (S1.1 1 6) fun j2 => sq (yA S1 1 9 (upd (S1.2.1 1 9) j2 l2)) fun S2 => gA 60 (S2.1 1 6) fun j3 => sq (yA S2 1 10 (upd (S2.2.1 1 10) j3 l3)) fun S3 => gA 60 (S3.1 1 6) fun j4 => sq (yA S3 1 11 (upd (S3.2.1 1 11) j4 l4)) fun S4 => sq (yI S4 1 6 ((S4.1 1 6) + 1)) fun S5 => some (S5.1 1 6, S5)
set_option maxHeartbeats 4000000 in
set_option maxRecDepth 40000 in
theorem w_X2_tell_0 {F : xH} {ev : xEv} {prim : xRel} {d sz : Nat} {T : yT} {v : Int32} {S' : yS} (N : Nat) (S : yS) (l1 : Int32) (l2 : Int32) (l3 : Int32) (l4 : Int32) (hp : xH) (lv : xLv) (a0 : Nat) (fa0 : yAt T 2 1 0 a0) (g0 : xG lv 0 = some (.ref a0)) (g1 : xG lv 1 = some (.int l1)) (g2 : xG lv 2 = some (.int l2)) (g3 : xG lv 3 = some (.int l3)) (g4 : xG lv 4 = some (.int l4)) (hM : cR [0, 1, 2, 3, 4, 5, 6, 7] F ev T S hp) (h : f_X2_tell_0 N S l1 l2 l3 l4 = some (v, S')) : yWE ev.2.1 (xstr ev) (xCalls ev xmi (xprog ev) prim (d + 0)) (pX2_tell ev) (0, lv, [], hp, sz, 0) (ypQ [0, 1, 2, 3, 4, 5, 6, 7] F ev T sz (some (.int v)) S') := by
  unfold f_X2_tell_0 at h
  refine ye_aload rfl g0 ?_
  refine ye_getr rfl (hM.obj fa0 ⟨rfl, rfl⟩) rfl (fun cx1 ecx1 => ?_)
  have fcx1 := yAt.row fa0 ecx1
  refine ye_aload rfl g0 ?_
  refine ye_getf rfl (hM.obj fa0 ⟨rfl, rfl⟩) rfl ?_
  refine ye_iload rfl g1 ?_
  obtain ⟨j1, ej1, ij1, h⟩ := gA_some h
  obtain ⟨S1, eS1, h⟩ := sq_some h
  refine yw_ast rfl hM fcx1 yr_2_8 (by decide) ij1 ej1 eS1 (fun y1 M1 => ?_)
  refine ye_aload rfl g0 ?_
  refine ye_getr rfl (M1.obj fa0 ⟨rfl, rfl⟩) rfl (fun cx2 ecx2 => ?_)
  have fcx2 := yAt.row fa0 ecx2
  refine ye_aload rfl g0 ?_
  refine ye_getf rfl (M1.obj fa0 ⟨rfl, rfl⟩) rfl ?_
  refine ye_iload rfl g2 ?_
  obtain ⟨j2, ej2, ij2, h⟩ := gA_some h
  obtain ⟨S2, eS2, h⟩ := sq_some h
  refine yw_ast rfl M1 fcx2 yr_2_9 (by decide) ij2 ej2 eS2 (fun y2 M2 => ?_)
  refine ye_aload rfl g0 ?_
  refine ye_getr rfl (M2.obj fa0 ⟨rfl, rfl⟩) rfl (fun cx3 ecx3 => ?_)
  have fcx3 := yAt.row fa0 ecx3
  refine ye_aload rfl g0 ?_
  refine ye_getf rfl (M2.obj fa0 ⟨rfl, rfl⟩) rfl ?_
  refine ye_iload rfl g3 ?_
  obtain ⟨j3, ej3, ij3, h⟩ := gA_some h
  obtain ⟨S3, eS3, h⟩ := sq_some h
  refine yw_ast rfl M2 fcx3 yr_2_10 (by decide) ij3 ej3 eS3 (fun y3 M3 => ?_)
  refine ye_aload rfl g0 ?_
  refine ye_getr rfl (M3.obj fa0 ⟨rfl, rfl⟩) rfl (fun cx4 ecx4 => ?_)
  have fcx4 := yAt.row fa0 ecx4
  refine ye_aload rfl g0 ?_
  refine ye_getf rfl (M3.obj fa0 ⟨rfl, rfl⟩) rfl ?_
  refine ye_iload rfl g4 ?_
  obtain ⟨j4, ej4, ij4, h⟩ := gA_some h
  obtain ⟨S4, eS4, h⟩ := sq_some h
  refine yw_ast rfl M3 fcx4 yr_2_11 (by decide) ij4 ej4 eS4 (fun y4 M4 => ?_)
  refine ye_aload rfl g0 ?_
  refine ye_p rfl rfl ?_
  refine ye_getf rfl (M4.obj fa0 ⟨rfl, rfl⟩) rfl ?_
  refine ye_p rfl rfl ?_
  refine ye_p rfl rfl ?_
  obtain ⟨S5, eS5, h⟩ := sq_some h
  refine yw_putI rfl M4 fa0 rfl ⟨rfl, rfl⟩ (Nat.le_of_ble_eq_true rfl) rfl rfl (ys_2_6 ev T _ ((S4.1 1 6) + 1)) (fun q => absurd q (by decide)) eS5 (fun y5 M5 => ?_)
  refine ye_aload rfl g0 ?_
  refine ye_getf rfl (M5.obj fa0 ⟨rfl, rfl⟩) rfl ?_
  exact ye_ret rfl rfl (rQ h M5)
def f_X2_tell (N : Nat) (S : yS) (xl1 : Int32) (xl2 : Int32) (xl3 : Int32) (xl4 : Int32) : Option (Int32 × yS) := f_X2_tell_0 N S xl1 xl2 xl3 xl4
theorem m_X2_tell {F : xH} {ev : xEv} {prim : xRel} {d : Nat} {T : yT} {v : Int32} {S' : yS} (N : Nat) (S : yS) (xl1 : Int32) (xl2 : Int32) (xl3 : Int32) (xl4 : Int32) (a0 : Nat) (fa0 : yAt T 2 1 0 a0) (h : f_X2_tell N S xl1 xl2 xl3 xl4 = some (v, S')) : ykQ [0, 1, 2, 3, 4, 5, 6, 7] F ev prim (d + 1) 21 T S [.ref a0, .int xl1, .int xl2, .int xl3, .int xl4] (some (.int v)) S' :=
  ykQ.of (pg_21 ev) mi_21 (Nat.le_of_ble_eq_true rfl) (fun hp sz hM => w_X2_tell_0 (prim := prim) (d := d) N S xl1 xl2 xl3 xl4 hp _ a0 fa0 rfl rfl rfl rfl rfl hM h)

def f_X2_toldFor_72 (N : Nat) (k5 : yS → Int32 → Int32 → Int32 → Int32 → Option Int32) (S : yS) (l1 : Int32) (l2 : Int32) (l3 : Int32) (l4 : Int32) : Option Int32 := k5 S l1 l2 l3 (l4 + 1)
set_option maxHeartbeats 4000000 in
set_option maxRecDepth 40000 in
theorem w_X2_toldFor_72 {F : xH} {ev : xEv} {prim : xRel} {d sz : Nat} {T : yT} {v : Int32} {hp : xH} (N : Nat) (k5 : yS → Int32 → Int32 → Int32 → Int32 → Option Int32) (u5 : ∀ (S : yS) (l1 : Int32) (l2 : Int32) (l3 : Int32) (l4 : Int32) (lv : xLv) (a0 : Nat) (fa0 : yAt T 2 1 0 a0) (g0 : xG lv 0 = some (.ref a0)) (g1 : xG lv 1 = some (.int l1)) (g2 : xG lv 2 = some (.int l2)) (g3 : xG lv 3 = some (.int l3)) (g4 : xG lv 4 = some (.int l4)) (hM : cR [0, 1, 2, 3, 4, 5, 6, 7] F ev T S hp) (h : k5 S l1 l2 l3 l4 = some v), yWE ev.2.1 (xstr ev) (xCalls ev xmi (xprog ev) prim (d + 0)) (pX2_toldFor ev) (5, lv, [], hp, sz, 0) (ypP hp sz (.int v))) (S : yS) (l1 : Int32) (l2 : Int32) (l3 : Int32) (l4 : Int32) (lv : xLv) (a0 : Nat) (fa0 : yAt T 2 1 0 a0) (g0 : xG lv 0 = some (.ref a0)) (g1 : xG lv 1 = some (.int l1)) (g2 : xG lv 2 = some (.int l2)) (g3 : xG lv 3 = some (.int l3)) (g4 : xG lv 4 = some (.int l4)) (hM : cR [0, 1, 2, 3, 4, 5, 6, 7] F ev T S hp) (h : f_X2_toldFor_72 N k5 S l1 l2 l3 l4 = some v) : yWE ev.2.1 (xstr ev) (xCalls ev xmi (xprog ev) prim (d + 0)) (pX2_toldFor ev) (72, lv, [], hp, sz, 0) (ypP hp sz (.int v)) := by
  unfold f_X2_toldFor_72 at h
  refine ye_iinc rfl g4 ?_
  have g0_z1 := xG_o1 (i := 4) (v := .int (l4 + 1)) g0 rfl
  have g1_z1 := xG_o1 (i := 4) (v := .int (l4 + 1)) g1 rfl
  have g2_z1 := xG_o1 (i := 4) (v := .int (l4 + 1)) g2 rfl
  have g3_z1 := xG_o1 (i := 4) (v := .int (l4 + 1)) g3 rfl
  have g4_z1 := xG_same lv 4 (.int (l4 + 1))
  generalize xSt1 lv 4 (.int (l4 + 1)) = lvz1 at g0_z1 g1_z1 g2_z1 g3_z1 g4_z1 ⊢
  refine ye_p rfl rfl ?_
  exact u5 S l1 l2 l3 (l4 + 1) lvz1 a0 fa0 g0_z1 g1_z1 g2_z1 g3_z1 g4_z1 hM h

def f_X2_toldFor_69 (N : Nat) (k5 : yS → Int32 → Int32 → Int32 → Int32 → Option Int32) (S : yS) (l1 : Int32) (l2 : Int32) (l4 : Int32) : Option Int32 := f_X2_toldFor_72 N k5 S l1 l2 l4 l4
set_option maxHeartbeats 4000000 in
set_option maxRecDepth 40000 in
theorem w_X2_toldFor_69 {F : xH} {ev : xEv} {prim : xRel} {d sz : Nat} {T : yT} {v : Int32} {hp : xH} (N : Nat) (k5 : yS → Int32 → Int32 → Int32 → Int32 → Option Int32) (u5 : ∀ (S : yS) (l1 : Int32) (l2 : Int32) (l3 : Int32) (l4 : Int32) (lv : xLv) (a0 : Nat) (fa0 : yAt T 2 1 0 a0) (g0 : xG lv 0 = some (.ref a0)) (g1 : xG lv 1 = some (.int l1)) (g2 : xG lv 2 = some (.int l2)) (g3 : xG lv 3 = some (.int l3)) (g4 : xG lv 4 = some (.int l4)) (hM : cR [0, 1, 2, 3, 4, 5, 6, 7] F ev T S hp) (h : k5 S l1 l2 l3 l4 = some v), yWE ev.2.1 (xstr ev) (xCalls ev xmi (xprog ev) prim (d + 0)) (pX2_toldFor ev) (5, lv, [], hp, sz, 0) (ypP hp sz (.int v))) (S : yS) (l1 : Int32) (l2 : Int32) (l4 : Int32) (lv : xLv) (a0 : Nat) (fa0 : yAt T 2 1 0 a0) (g0 : xG lv 0 = some (.ref a0)) (g1 : xG lv 1 = some (.int l1)) (g2 : xG lv 2 = some (.int l2)) (g4 : xG lv 4 = some (.int l4)) (hM : cR [0, 1, 2, 3, 4, 5, 6, 7] F ev T S hp) (h : f_X2_toldFor_69 N k5 S l1 l2 l4 = some v) : yWE ev.2.1 (xstr ev) (xCalls ev xmi (xprog ev) prim (d + 0)) (pX2_toldFor ev) (69, lv, [], hp, sz, 0) (ypP hp sz (.int v)) := by
  unfold f_X2_toldFor_69 at h
  refine ye_iload rfl g4 ?_
  refine ye_p rfl rfl ?_
  have g0_z1 := xG_o1 (i := 3) (v := .int l4) g0 rfl
  have g1_z1 := xG_o1 (i := 3) (v := .int l4) g1 rfl
  have g2_z1 := xG_o1 (i := 3) (v := .int l4) g2 rfl
  have g4_z1 := xG_o1 (i := 3) (v := .int l4) g4 rfl
  have g3_z1 := xG_same lv 3 (.int l4)
  generalize xSt1 lv 3 (.int l4) = lvz1 at g0_z1 g1_z1 g2_z1 g4_z1 g3_z1 ⊢
  exact w_X2_toldFor_72 (prim := prim) (d := d) N k5 u5 S l1 l2 l4 l4 lvz1 a0 fa0 g0_z1 g1_z1 g2_z1 g3_z1 g4_z1 hM h

def f_X2_toldFor_41 (N : Nat) (k5 : yS → Int32 → Int32 → Int32 → Int32 → Option Int32) (S : yS) (l1 : Int32) (l2 : Int32) (l3 : Int32) (l4 : Int32) (t0 : Int32) : Option Int32 := if t0 = 0 then f_X2_toldFor_72 N k5 S l1 l2 l3 l4 else if l3 = ((-1)) then f_X2_toldFor_69 N k5 S l1 l2 l4 else gA 60 l4 fun j1 => gA 60 l3 fun j2 => if (S.2.1 1 9 j1) < (S.2.1 1 9 j2) then f_X2_toldFor_72 N k5 S l1 l2 l3 l4 else f_X2_toldFor_69 N k5 S l1 l2 l4
set_option maxHeartbeats 4000000 in
set_option maxRecDepth 40000 in
theorem w_X2_toldFor_41 {F : xH} {ev : xEv} {prim : xRel} {d sz : Nat} {T : yT} {v : Int32} {hp : xH} (N : Nat) (k5 : yS → Int32 → Int32 → Int32 → Int32 → Option Int32) (u5 : ∀ (S : yS) (l1 : Int32) (l2 : Int32) (l3 : Int32) (l4 : Int32) (lv : xLv) (a0 : Nat) (fa0 : yAt T 2 1 0 a0) (g0 : xG lv 0 = some (.ref a0)) (g1 : xG lv 1 = some (.int l1)) (g2 : xG lv 2 = some (.int l2)) (g3 : xG lv 3 = some (.int l3)) (g4 : xG lv 4 = some (.int l4)) (hM : cR [0, 1, 2, 3, 4, 5, 6, 7] F ev T S hp) (h : k5 S l1 l2 l3 l4 = some v), yWE ev.2.1 (xstr ev) (xCalls ev xmi (xprog ev) prim (d + 0)) (pX2_toldFor ev) (5, lv, [], hp, sz, 0) (ypP hp sz (.int v))) (S : yS) (l1 : Int32) (l2 : Int32) (l3 : Int32) (l4 : Int32) (t0 : Int32) (lv : xLv) (a0 : Nat) (fa0 : yAt T 2 1 0 a0) (g0 : xG lv 0 = some (.ref a0)) (g1 : xG lv 1 = some (.int l1)) (g2 : xG lv 2 = some (.int l2)) (g3 : xG lv 3 = some (.int l3)) (g4 : xG lv 4 = some (.int l4)) (hM : cR [0, 1, 2, 3, 4, 5, 6, 7] F ev T S hp) (h : f_X2_toldFor_41 N k5 S l1 l2 l3 l4 t0 = some v) : yWE ev.2.1 (xstr ev) (xCalls ev xmi (xprog ev) prim (d + 0)) (pX2_toldFor ev) (41, lv, [.int t0], hp, sz, 0) (ypP hp sz (.int v)) := by
  unfold f_X2_toldFor_41 at h
  refine ye_p rfl rfl ?_
  have g0_z1 := xG_o1 (i := 5) (v := .int t0) g0 rfl
  have g1_z1 := xG_o1 (i := 5) (v := .int t0) g1 rfl
  have g2_z1 := xG_o1 (i := 5) (v := .int t0) g2 rfl
  have g3_z1 := xG_o1 (i := 5) (v := .int t0) g3 rfl
  have g4_z1 := xG_o1 (i := 5) (v := .int t0) g4 rfl
  have g5_z1 := xG_same lv 5 (.int t0)
  generalize xSt1 lv 5 (.int t0) = lvz1 at g0_z1 g1_z1 g2_z1 g3_z1 g4_z1 g5_z1 ⊢
  refine ye_iload rfl g5_z1 ?_
  refine ye_if_eq rfl (fun h1 => ?_) (fun h1 => ?_)
  · replace h := yiT h1 h
    exact w_X2_toldFor_72 (prim := prim) (d := d) N k5 u5 S l1 l2 l3 l4 lvz1 a0 fa0 g0_z1 g1_z1 g2_z1 g3_z1 g4_z1 hM h
  · replace h := yiN h1 h
    refine ye_iload rfl g3_z1 ?_
    refine ye_p rfl rfl ?_
    refine ye_icmp_eq rfl (fun h2 => ?_) (fun h2 => ?_)
    · replace h := yiT h2 h
      exact w_X2_toldFor_69 (prim := prim) (d := d) N k5 u5 S l1 l2 l4 lvz1 a0 fa0 g0_z1 g1_z1 g2_z1 g4_z1 hM h
    · replace h := yiN h2 h
      refine ye_aload rfl g0_z1 ?_
      refine ye_getr rfl (hM.obj fa0 ⟨rfl, rfl⟩) rfl (fun cx1 ecx1 => ?_)
      have fcx1 := yAt.row fa0 ecx1
      refine ye_iload rfl g4_z1 ?_
      obtain ⟨j1, ej1, ij1, h⟩ := gA_some h
      refine yj_ald rfl (hM.arr fcx1 yr_2_9) ij1 ej1 ?_
      refine ye_aload rfl g0_z1 ?_
      refine ye_getr rfl (hM.obj fa0 ⟨rfl, rfl⟩) rfl (fun cx2 ecx2 => ?_)
      have fcx2 := yAt.row fa0 ecx2
      refine ye_iload rfl g3_z1 ?_
      obtain ⟨j2, ej2, ij2, h⟩ := gA_some h
      refine yj_ald rfl (hM.arr fcx2 yr_2_9) ij2 ej2 ?_
      refine ye_icmp_lt rfl (fun h3 => ?_) (fun h3 => ?_)
      · replace h := yiT h3 h
        exact w_X2_toldFor_72 (prim := prim) (d := d) N k5 u5 S l1 l2 l3 l4 lvz1 a0 fa0 g0_z1 g1_z1 g2_z1 g3_z1 g4_z1 hM h
      · replace h := yiN h3 h
        exact w_X2_toldFor_69 (prim := prim) (d := d) N k5 u5 S l1 l2 l4 lvz1 a0 fa0 g0_z1 g1_z1 g2_z1 g4_z1 hM h

def f_X2_toldFor_40 (N : Nat) (k5 : yS → Int32 → Int32 → Int32 → Int32 → Option Int32) (S : yS) (l1 : Int32) (l2 : Int32) (l3 : Int32) (l4 : Int32) : Option Int32 := f_X2_toldFor_41 N k5 S l1 l2 l3 l4 0
set_option maxHeartbeats 4000000 in
set_option maxRecDepth 40000 in
theorem w_X2_toldFor_40 {F : xH} {ev : xEv} {prim : xRel} {d sz : Nat} {T : yT} {v : Int32} {hp : xH} (N : Nat) (k5 : yS → Int32 → Int32 → Int32 → Int32 → Option Int32) (u5 : ∀ (S : yS) (l1 : Int32) (l2 : Int32) (l3 : Int32) (l4 : Int32) (lv : xLv) (a0 : Nat) (fa0 : yAt T 2 1 0 a0) (g0 : xG lv 0 = some (.ref a0)) (g1 : xG lv 1 = some (.int l1)) (g2 : xG lv 2 = some (.int l2)) (g3 : xG lv 3 = some (.int l3)) (g4 : xG lv 4 = some (.int l4)) (hM : cR [0, 1, 2, 3, 4, 5, 6, 7] F ev T S hp) (h : k5 S l1 l2 l3 l4 = some v), yWE ev.2.1 (xstr ev) (xCalls ev xmi (xprog ev) prim (d + 0)) (pX2_toldFor ev) (5, lv, [], hp, sz, 0) (ypP hp sz (.int v))) (S : yS) (l1 : Int32) (l2 : Int32) (l3 : Int32) (l4 : Int32) (lv : xLv) (a0 : Nat) (fa0 : yAt T 2 1 0 a0) (g0 : xG lv 0 = some (.ref a0)) (g1 : xG lv 1 = some (.int l1)) (g2 : xG lv 2 = some (.int l2)) (g3 : xG lv 3 = some (.int l3)) (g4 : xG lv 4 = some (.int l4)) (hM : cR [0, 1, 2, 3, 4, 5, 6, 7] F ev T S hp) (h : f_X2_toldFor_40 N k5 S l1 l2 l3 l4 = some v) : yWE ev.2.1 (xstr ev) (xCalls ev xmi (xprog ev) prim (d + 0)) (pX2_toldFor ev) (40, lv, [], hp, sz, 0) (ypP hp sz (.int v)) := by
  unfold f_X2_toldFor_40 at h
  refine ye_p rfl rfl ?_
  exact w_X2_toldFor_41 (prim := prim) (d := d) N k5 u5 S l1 l2 l3 l4 0 lv a0 fa0 g0 g1 g2 g3 g4 hM h

def f_X2_toldFor_5 : Nat → Nat → yS → Int32 → Int32 → Int32 → Int32 → Option Int32
  | 0, _, _, _, _, _, _ => none
  | n + 1, N, S, l1, l2, l3, l4 => if (S.1 1 6) ≤ l4 then some l3 else gA 60 l4 fun j1 => if ¬ (S.2.1 1 8 j1) = l1 then f_X2_toldFor_40 N (fun S l1 l2 l3 l4 => f_X2_toldFor_5 n N S l1 l2 l3 l4) S l1 l2 l3 l4 else gA 60 l4 fun j2 => if l2 < (S.2.1 1 9 j2) then f_X2_toldFor_40 N (fun S l1 l2 l3 l4 => f_X2_toldFor_5 n N S l1 l2 l3 l4) S l1 l2 l3 l4 else f_X2_toldFor_41 N (fun S l1 l2 l3 l4 => f_X2_toldFor_5 n N S l1 l2 l3 l4) S l1 l2 l3 l4 1
set_option maxHeartbeats 4000000 in
set_option maxRecDepth 40000 in
theorem w_X2_toldFor_5 {F : xH} {ev : xEv} {prim : xRel} {d sz : Nat} {T : yT} {v : Int32} {hp : xH} (N : Nat) (n : Nat) : ∀ (S : yS) (l1 : Int32) (l2 : Int32) (l3 : Int32) (l4 : Int32) (lv : xLv) (a0 : Nat) (fa0 : yAt T 2 1 0 a0) (g0 : xG lv 0 = some (.ref a0)) (g1 : xG lv 1 = some (.int l1)) (g2 : xG lv 2 = some (.int l2)) (g3 : xG lv 3 = some (.int l3)) (g4 : xG lv 4 = some (.int l4)) (hM : cR [0, 1, 2, 3, 4, 5, 6, 7] F ev T S hp) (h : f_X2_toldFor_5 n N S l1 l2 l3 l4 = some v), yWE ev.2.1 (xstr ev) (xCalls ev xmi (xprog ev) prim (d + 0)) (pX2_toldFor ev) (5, lv, [], hp, sz, 0) (ypP hp sz (.int v)) := by
  induction n with
  | zero => intro S l1 l2 l3 l4 lv a0 fa0 g0 g1 g2 g3 g4 hM h; exact n_some h
  | succ n ih =>
    intro S l1 l2 l3 l4 lv a0 fa0 g0 g1 g2 g3 g4 hM h
    unfold f_X2_toldFor_5 at h
    refine ye_iload rfl g4 ?_
    refine ye_aload rfl g0 ?_
    refine ye_getf rfl (hM.obj fa0 ⟨rfl, rfl⟩) rfl ?_
    refine ye_icmp_ge rfl (fun h1 => ?_) (fun h1 => ?_)
    · replace h := yiT h1 h
      refine ye_iload rfl g3 ?_
      exact ye_ret rfl rfl (rP h)
    · replace h := yiN h1 h
      refine ye_aload rfl g0 ?_
      refine ye_getr rfl (hM.obj fa0 ⟨rfl, rfl⟩) rfl (fun cx1 ecx1 => ?_)
      have fcx1 := yAt.row fa0 ecx1
      refine ye_iload rfl g4 ?_
      obtain ⟨j1, ej1, ij1, h⟩ := gA_some h
      refine yj_ald rfl (hM.arr fcx1 yr_2_8) ij1 ej1 ?_
      refine ye_iload rfl g1 ?_
      refine ye_icmp_ne rfl (fun h2 => ?_) (fun h2 => ?_)
      · replace h := yiT h2 h
        exact w_X2_toldFor_40 (prim := prim) (d := d) N (fun S l1 l2 l3 l4 => f_X2_toldFor_5 n N S l1 l2 l3 l4) ih S l1 l2 l3 l4 lv a0 fa0 g0 g1 g2 g3 g4 hM h
      · replace h := yiN h2 h
        refine ye_aload rfl g0 ?_
        refine ye_getr rfl (hM.obj fa0 ⟨rfl, rfl⟩) rfl (fun cx2 ecx2 => ?_)
        have fcx2 := yAt.row fa0 ecx2
        refine ye_iload rfl g4 ?_
        obtain ⟨j2, ej2, ij2, h⟩ := gA_some h
        refine yj_ald rfl (hM.arr fcx2 yr_2_9) ij2 ej2 ?_
        refine ye_iload rfl g2 ?_
        refine ye_icmp_gt rfl (fun h3 => ?_) (fun h3 => ?_)
        · replace h := yiT h3 h
          exact w_X2_toldFor_40 (prim := prim) (d := d) N (fun S l1 l2 l3 l4 => f_X2_toldFor_5 n N S l1 l2 l3 l4) ih S l1 l2 l3 l4 lv a0 fa0 g0 g1 g2 g3 g4 hM h
        · replace h := yiN h3 h
          refine ye_p rfl rfl ?_
          refine ye_p rfl rfl ?_
          exact w_X2_toldFor_41 (prim := prim) (d := d) N (fun S l1 l2 l3 l4 => f_X2_toldFor_5 n N S l1 l2 l3 l4) ih S l1 l2 l3 l4 1 lv a0 fa0 g0 g1 g2 g3 g4 hM h

def f_X2_toldFor_0 (N : Nat) (S : yS) (l1 : Int32) (l2 : Int32) : Option Int32 := f_X2_toldFor_5 N N S l1 l2 ((-1)) 0
set_option maxHeartbeats 4000000 in
set_option maxRecDepth 40000 in
theorem w_X2_toldFor_0 {F : xH} {ev : xEv} {prim : xRel} {d sz : Nat} {T : yT} {v : Int32} {hp : xH} (N : Nat) (S : yS) (l1 : Int32) (l2 : Int32) (lv : xLv) (a0 : Nat) (fa0 : yAt T 2 1 0 a0) (g0 : xG lv 0 = some (.ref a0)) (g1 : xG lv 1 = some (.int l1)) (g2 : xG lv 2 = some (.int l2)) (hM : cR [0, 1, 2, 3, 4, 5, 6, 7] F ev T S hp) (h : f_X2_toldFor_0 N S l1 l2 = some v) : yWE ev.2.1 (xstr ev) (xCalls ev xmi (xprog ev) prim (d + 0)) (pX2_toldFor ev) (0, lv, [], hp, sz, 0) (ypP hp sz (.int v)) := by
  unfold f_X2_toldFor_0 at h
  refine ye_p rfl rfl ?_
  refine ye_p rfl rfl ?_
  have g0_z1 := xG_o1 (i := 3) (v := .int ((-1))) g0 rfl
  have g1_z1 := xG_o1 (i := 3) (v := .int ((-1))) g1 rfl
  have g2_z1 := xG_o1 (i := 3) (v := .int ((-1))) g2 rfl
  have g3_z1 := xG_same lv 3 (.int ((-1)))
  generalize xSt1 lv 3 (.int ((-1))) = lvz1 at g0_z1 g1_z1 g2_z1 g3_z1 ⊢
  refine ye_p rfl rfl ?_
  refine ye_p rfl rfl ?_
  have g0_z2 := xG_o1 (i := 4) (v := .int 0) g0_z1 rfl
  have g1_z2 := xG_o1 (i := 4) (v := .int 0) g1_z1 rfl
  have g2_z2 := xG_o1 (i := 4) (v := .int 0) g2_z1 rfl
  have g3_z2 := xG_o1 (i := 4) (v := .int 0) g3_z1 rfl
  have g4_z2 := xG_same lvz1 4 (.int 0)
  generalize xSt1 lvz1 4 (.int 0) = lvz2 at g0_z2 g1_z2 g2_z2 g3_z2 g4_z2 ⊢
  exact w_X2_toldFor_5 (prim := prim) (d := d) N N S l1 l2 ((-1)) 0 lvz2 a0 fa0 g0_z2 g1_z2 g2_z2 g3_z2 g4_z2 hM h
def f_X2_toldFor (N : Nat) (S : yS) (xl1 : Int32) (xl2 : Int32) : Option Int32 := f_X2_toldFor_0 N S xl1 xl2
theorem m_X2_toldFor {F : xH} {ev : xEv} {prim : xRel} {d : Nat} {T : yT} {v : Int32} (N : Nat) (S : yS) (xl1 : Int32) (xl2 : Int32) (a0 : Nat) (fa0 : yAt T 2 1 0 a0) (h : f_X2_toldFor N S xl1 xl2 = some v) : ykP [0, 1, 2, 3, 4, 5, 6, 7] F ev prim (d + 1) 24 T S [.ref a0, .int xl1, .int xl2] (.int v) :=
  ykP.of (pg_24 ev) mi_24 (Nat.le_of_ble_eq_true rfl) (fun hp sz hM => w_X2_toldFor_0 (prim := prim) (d := d) N S xl1 xl2 _ a0 fa0 rfl rfl rfl hM h)

def f_X2_bitOf_0 (N : Nat) (S : yS) (l0 : Int32) : Option Int32 := some (1 <<< ((7 - l0) &&& 31))
set_option maxHeartbeats 4000000 in
set_option maxRecDepth 40000 in
theorem w_X2_bitOf_0 {F : xH} {ev : xEv} {prim : xRel} {d sz : Nat} {T : yT} {v : Int32} {hp : xH} (N : Nat) (S : yS) (l0 : Int32) (lv : xLv) (g0 : xG lv 0 = some (.int l0)) (hM : cR [0, 1, 2, 3, 4, 5, 6, 7] F ev T S hp) (h : f_X2_bitOf_0 N S l0 = some v) : yWE ev.2.1 (xstr ev) (xCalls ev xmi (xprog ev) prim (d + 0)) (pX2_bitOf ev) (0, lv, [], hp, sz, 0) (ypP hp sz (.int v)) := by
  unfold f_X2_bitOf_0 at h
  refine ye_p rfl rfl ?_
  refine ye_p rfl rfl ?_
  refine ye_iload rfl g0 ?_
  refine ye_p rfl rfl ?_
  refine ye_p rfl rfl ?_
  exact ye_ret rfl rfl (rP h)
def f_X2_bitOf (N : Nat) (S : yS) (xl0 : Int32) : Option Int32 := f_X2_bitOf_0 N S xl0
theorem m_X2_bitOf {F : xH} {ev : xEv} {prim : xRel} {d : Nat} {T : yT} {v : Int32} (N : Nat) (S : yS) (xl0 : Int32) (h : f_X2_bitOf N S xl0 = some v) : ykP [0, 1, 2, 3, 4, 5, 6, 7] F ev prim (d + 1) 25 T S [.int xl0] (.int v) :=
  ykP.of (pg_25 ev) mi_25 (Nat.le_of_ble_eq_true rfl) (fun hp sz hM => w_X2_bitOf_0 (prim := prim) (d := d) N S xl0 _ rfl hM h)

def f_X2_darkFields_28 (N : Nat) (k4 : yS → Int32 → Int32 → Option Int32) (S : yS) (l1 : Int32) (l2 : Int32) : Option Int32 := k4 S l1 (l2 + 1)
set_option maxHeartbeats 4000000 in
set_option maxRecDepth 40000 in
theorem w_X2_darkFields_28 {F : xH} {ev : xEv} {prim : xRel} {d sz : Nat} {T : yT} {v : Int32} {hp : xH} (N : Nat) (k4 : yS → Int32 → Int32 → Option Int32) (u4 : ∀ (S : yS) (l1 : Int32) (l2 : Int32) (lv : xLv) (a0 : Nat) (fa0 : yAt T 2 1 0 a0) (g0 : xG lv 0 = some (.ref a0)) (g1 : xG lv 1 = some (.int l1)) (g2 : xG lv 2 = some (.int l2)) (hM : cR [0, 1, 2, 3, 4, 5, 6, 7] F ev T S hp) (h : k4 S l1 l2 = some v), yWE ev.2.1 (xstr ev) (xCalls ev xmi (xprog ev) prim (d + 1)) (pX2_darkFields ev) (4, lv, [], hp, sz, 0) (ypP hp sz (.int v))) (S : yS) (l1 : Int32) (l2 : Int32) (lv : xLv) (a0 : Nat) (fa0 : yAt T 2 1 0 a0) (g0 : xG lv 0 = some (.ref a0)) (g1 : xG lv 1 = some (.int l1)) (g2 : xG lv 2 = some (.int l2)) (hM : cR [0, 1, 2, 3, 4, 5, 6, 7] F ev T S hp) (h : f_X2_darkFields_28 N k4 S l1 l2 = some v) : yWE ev.2.1 (xstr ev) (xCalls ev xmi (xprog ev) prim (d + 1)) (pX2_darkFields ev) (28, lv, [], hp, sz, 0) (ypP hp sz (.int v)) := by
  unfold f_X2_darkFields_28 at h
  refine ye_iinc rfl g2 ?_
  have g0_z1 := xG_o1 (i := 2) (v := .int (l2 + 1)) g0 rfl
  have g1_z1 := xG_o1 (i := 2) (v := .int (l2 + 1)) g1 rfl
  have g2_z1 := xG_same lv 2 (.int (l2 + 1))
  generalize xSt1 lv 2 (.int (l2 + 1)) = lvz1 at g0_z1 g1_z1 g2_z1 ⊢
  refine ye_p rfl rfl ?_
  exact u4 S l1 (l2 + 1) lvz1 a0 fa0 g0_z1 g1_z1 g2_z1 hM h

def f_X2_darkFields_4 : Nat → Nat → yS → Int32 → Int32 → Option Int32
  | 0, _, _, _, _ => none
  | n + 1, N, S, l1, l2 => if (S.1 1 3) ≤ l2 then some l1 else gA 8 l2 fun j1 => if ¬ (S.2.1 1 1 j1) = 0 then f_X2_darkFields_28 N (fun S l1 l2 => f_X2_darkFields_4 n N S l1 l2) S l1 l2 else bV (f_X2_bitOf N S l2) fun w1 => f_X2_darkFields_28 N (fun S l1 l2 => f_X2_darkFields_4 n N S l1 l2) S (l1 ||| w1) l2
set_option maxHeartbeats 4000000 in
set_option maxRecDepth 40000 in
theorem w_X2_darkFields_4 {F : xH} {ev : xEv} {prim : xRel} {d sz : Nat} {T : yT} {v : Int32} {hp : xH} (N : Nat) (n : Nat) : ∀ (S : yS) (l1 : Int32) (l2 : Int32) (lv : xLv) (a0 : Nat) (fa0 : yAt T 2 1 0 a0) (g0 : xG lv 0 = some (.ref a0)) (g1 : xG lv 1 = some (.int l1)) (g2 : xG lv 2 = some (.int l2)) (hM : cR [0, 1, 2, 3, 4, 5, 6, 7] F ev T S hp) (h : f_X2_darkFields_4 n N S l1 l2 = some v), yWE ev.2.1 (xstr ev) (xCalls ev xmi (xprog ev) prim (d + 1)) (pX2_darkFields ev) (4, lv, [], hp, sz, 0) (ypP hp sz (.int v)) := by
  induction n with
  | zero => intro S l1 l2 lv a0 fa0 g0 g1 g2 hM h; exact n_some h
  | succ n ih =>
    intro S l1 l2 lv a0 fa0 g0 g1 g2 hM h
    unfold f_X2_darkFields_4 at h
    refine ye_iload rfl g2 ?_
    refine ye_aload rfl g0 ?_
    refine ye_getf rfl (hM.obj fa0 ⟨rfl, rfl⟩) rfl ?_
    refine ye_icmp_ge rfl (fun h1 => ?_) (fun h1 => ?_)
    · replace h := yiT h1 h
      refine ye_iload rfl g1 ?_
      exact ye_ret rfl rfl (rP h)
    · replace h := yiN h1 h
      refine ye_aload rfl g0 ?_
      refine ye_getr rfl (hM.obj fa0 ⟨rfl, rfl⟩) rfl (fun cx1 ecx1 => ?_)
      have fcx1 := yAt.row fa0 ecx1
      refine ye_iload rfl g2 ?_
      obtain ⟨j1, ej1, ij1, h⟩ := gA_some h
      refine yj_ald rfl (hM.arr fcx1 yr_2_1) ij1 ej1 ?_
      refine ye_if_ne rfl (fun h2 => ?_) (fun h2 => ?_)
      · replace h := yiT h2 h
        exact w_X2_darkFields_28 (prim := prim) (d := d) N (fun S l1 l2 => f_X2_darkFields_4 n N S l1 l2) ih S l1 l2 lv a0 fa0 g0 g1 g2 hM h
      · replace h := yiN h2 h
        refine ye_iload rfl g1 ?_
        refine ye_iload rfl g2 ?_
        obtain ⟨w1, hw1, h⟩ := bV_some h
        refine ye_callS (As := [.int l2]) (rest := [.int l1]) 1 (Or.inl rfl) rfl rfl rfl (Nat.le_of_ble_eq_true rfl) ((m_X2_bitOf (d := d + 0) (T := T) N S l2 hw1) hp sz hM) ?_
        refine ye_p rfl rfl ?_
        refine ye_p rfl rfl ?_
        have g0_z1 := xG_o1 (i := 1) (v := .int (l1 ||| w1)) g0 rfl
        have g2_z1 := xG_o1 (i := 1) (v := .int (l1 ||| w1)) g2 rfl
        have g1_z1 := xG_same lv 1 (.int (l1 ||| w1))
        generalize xSt1 lv 1 (.int (l1 ||| w1)) = lvz1 at g0_z1 g2_z1 g1_z1 ⊢
        exact w_X2_darkFields_28 (prim := prim) (d := d) N (fun S l1 l2 => f_X2_darkFields_4 n N S l1 l2) ih S (l1 ||| w1) l2 lvz1 a0 fa0 g0_z1 g1_z1 g2_z1 hM h

def f_X2_darkFields_0 (N : Nat) (S : yS) : Option Int32 := f_X2_darkFields_4 N N S 0 0
set_option maxHeartbeats 4000000 in
set_option maxRecDepth 40000 in
theorem w_X2_darkFields_0 {F : xH} {ev : xEv} {prim : xRel} {d sz : Nat} {T : yT} {v : Int32} {hp : xH} (N : Nat) (S : yS) (lv : xLv) (a0 : Nat) (fa0 : yAt T 2 1 0 a0) (g0 : xG lv 0 = some (.ref a0)) (hM : cR [0, 1, 2, 3, 4, 5, 6, 7] F ev T S hp) (h : f_X2_darkFields_0 N S = some v) : yWE ev.2.1 (xstr ev) (xCalls ev xmi (xprog ev) prim (d + 1)) (pX2_darkFields ev) (0, lv, [], hp, sz, 0) (ypP hp sz (.int v)) := by
  unfold f_X2_darkFields_0 at h
  refine ye_p rfl rfl ?_
  refine ye_p rfl rfl ?_
  have g0_z1 := xG_o1 (i := 1) (v := .int 0) g0 rfl
  have g1_z1 := xG_same lv 1 (.int 0)
  generalize xSt1 lv 1 (.int 0) = lvz1 at g0_z1 g1_z1 ⊢
  refine ye_p rfl rfl ?_
  refine ye_p rfl rfl ?_
  have g0_z2 := xG_o1 (i := 2) (v := .int 0) g0_z1 rfl
  have g1_z2 := xG_o1 (i := 2) (v := .int 0) g1_z1 rfl
  have g2_z2 := xG_same lvz1 2 (.int 0)
  generalize xSt1 lvz1 2 (.int 0) = lvz2 at g0_z2 g1_z2 g2_z2 ⊢
  exact w_X2_darkFields_4 (prim := prim) (d := d) N N S 0 0 lvz2 a0 fa0 g0_z2 g1_z2 g2_z2 hM h
def f_X2_darkFields (N : Nat) (S : yS) : Option Int32 := f_X2_darkFields_0 N S
theorem m_X2_darkFields {F : xH} {ev : xEv} {prim : xRel} {d : Nat} {T : yT} {v : Int32} (N : Nat) (S : yS) (a0 : Nat) (fa0 : yAt T 2 1 0 a0) (h : f_X2_darkFields N S = some v) : ykP [0, 1, 2, 3, 4, 5, 6, 7] F ev prim (d + 2) 26 T S [.ref a0] (.int v) :=
  ykP.of (pg_26 ev) mi_26 (Nat.le_of_ble_eq_true rfl) (fun hp sz hM => w_X2_darkFields_0 (prim := prim) (d := d) N S _ a0 fa0 rfl hM h)

def f_X2_light_26 (N : Nat) (k2 : yS → Int32 → Int32 → Int32 → Option (Int32 × yS)) (S : yS) (l1 : Int32) (l2 : Int32) (l3 : Int32) : Option (Int32 × yS) := k2 S l1 l2 (l3 + 1)
set_option maxHeartbeats 4000000 in
set_option maxRecDepth 40000 in
theorem w_X2_light_26 {F : xH} {ev : xEv} {prim : xRel} {d sz : Nat} {T : yT} {v : Int32} {S' : yS} (N : Nat) (k2 : yS → Int32 → Int32 → Int32 → Option (Int32 × yS)) (u2 : ∀ (S : yS) (l1 : Int32) (l2 : Int32) (l3 : Int32) (hp : xH) (lv : xLv) (a0 : Nat) (fa0 : yAt T 2 1 0 a0) (g0 : xG lv 0 = some (.ref a0)) (g1 : xG lv 1 = some (.int l1)) (g2 : xG lv 2 = some (.int l2)) (g3 : xG lv 3 = some (.int l3)) (hM : cR [0, 1, 2, 3, 4, 5, 6, 7] F ev T S hp) (h : k2 S l1 l2 l3 = some (v, S')), yWE ev.2.1 (xstr ev) (xCalls ev xmi (xprog ev) prim (d + 1)) (pX2_light ev) (2, lv, [], hp, sz, 0) (ypQ [0, 1, 2, 3, 4, 5, 6, 7] F ev T sz (none) S')) (S : yS) (l1 : Int32) (l2 : Int32) (l3 : Int32) (hp : xH) (lv : xLv) (a0 : Nat) (fa0 : yAt T 2 1 0 a0) (g0 : xG lv 0 = some (.ref a0)) (g1 : xG lv 1 = some (.int l1)) (g2 : xG lv 2 = some (.int l2)) (g3 : xG lv 3 = some (.int l3)) (hM : cR [0, 1, 2, 3, 4, 5, 6, 7] F ev T S hp) (h : f_X2_light_26 N k2 S l1 l2 l3 = some (v, S')) : yWE ev.2.1 (xstr ev) (xCalls ev xmi (xprog ev) prim (d + 1)) (pX2_light ev) (26, lv, [], hp, sz, 0) (ypQ [0, 1, 2, 3, 4, 5, 6, 7] F ev T sz (none) S') := by
  unfold f_X2_light_26 at h
  refine ye_iinc rfl g3 ?_
  have g0_z1 := xG_o1 (i := 3) (v := .int (l3 + 1)) g0 rfl
  have g1_z1 := xG_o1 (i := 3) (v := .int (l3 + 1)) g1 rfl
  have g2_z1 := xG_o1 (i := 3) (v := .int (l3 + 1)) g2 rfl
  have g3_z1 := xG_same lv 3 (.int (l3 + 1))
  generalize xSt1 lv 3 (.int (l3 + 1)) = lvz1 at g0_z1 g1_z1 g2_z1 g3_z1 ⊢
  refine ye_p rfl rfl ?_
  exact u2 S l1 l2 (l3 + 1) hp lvz1 a0 fa0 g0_z1 g1_z1 g2_z1 g3_z1 hM h

def f_X2_light_2 : Nat → Nat → yS → Int32 → Int32 → Int32 → Option (Int32 × yS)
  | 0, _, _, _, _, _ => none
  | n + 1, N, S, l1, l2, l3 => if (S.1 1 3) ≤ l3 then some (0, S) else bV (f_X2_bitOf N S l3) fun w1 => if (l1 &&& w1) = 0 then f_X2_light_26 N (fun S l1 l2 l3 => f_X2_light_2 n N S l1 l2 l3) S l1 l2 l3 else gA 8 l3 fun j1 => sq (yA S 1 1 (upd (S.2.1 1 1) j1 (vp_nar .boolean l2))) fun S1 => f_X2_light_26 N (fun S l1 l2 l3 => f_X2_light_2 n N S l1 l2 l3) S1 l1 l2 l3
set_option maxHeartbeats 4000000 in
set_option maxRecDepth 40000 in
theorem w_X2_light_2 {F : xH} {ev : xEv} {prim : xRel} {d sz : Nat} {T : yT} {v : Int32} {S' : yS} (N : Nat) (n : Nat) : ∀ (S : yS) (l1 : Int32) (l2 : Int32) (l3 : Int32) (hp : xH) (lv : xLv) (a0 : Nat) (fa0 : yAt T 2 1 0 a0) (g0 : xG lv 0 = some (.ref a0)) (g1 : xG lv 1 = some (.int l1)) (g2 : xG lv 2 = some (.int l2)) (g3 : xG lv 3 = some (.int l3)) (hM : cR [0, 1, 2, 3, 4, 5, 6, 7] F ev T S hp) (h : f_X2_light_2 n N S l1 l2 l3 = some (v, S')), yWE ev.2.1 (xstr ev) (xCalls ev xmi (xprog ev) prim (d + 1)) (pX2_light ev) (2, lv, [], hp, sz, 0) (ypQ [0, 1, 2, 3, 4, 5, 6, 7] F ev T sz (none) S') := by
  induction n with
  | zero => intro S l1 l2 l3 hp lv a0 fa0 g0 g1 g2 g3 hM h; exact n_some h
  | succ n ih =>
    intro S l1 l2 l3 hp lv a0 fa0 g0 g1 g2 g3 hM h
    unfold f_X2_light_2 at h
    refine ye_iload rfl g3 ?_
    refine ye_aload rfl g0 ?_
    refine ye_getf rfl (hM.obj fa0 ⟨rfl, rfl⟩) rfl ?_
    refine ye_icmp_ge rfl (fun h1 => ?_) (fun h1 => ?_)
    · replace h := yiT h1 h
      exact ye_ret rfl rfl (rQV h hM)
    · replace h := yiN h1 h
      refine ye_iload rfl g1 ?_
      refine ye_iload rfl g3 ?_
      obtain ⟨w1, hw1, h⟩ := bV_some h
      refine ye_callS (As := [.int l3]) (rest := [.int l1]) 1 (Or.inl rfl) rfl rfl rfl (Nat.le_of_ble_eq_true rfl) ((m_X2_bitOf (d := d + 0) (T := T) N S l3 hw1) hp sz hM) ?_
      refine ye_p rfl rfl ?_
      refine ye_if_eq rfl (fun h2 => ?_) (fun h2 => ?_)
      · replace h := yiT h2 h
        exact w_X2_light_26 (prim := prim) (d := d) N (fun S l1 l2 l3 => f_X2_light_2 n N S l1 l2 l3) ih S l1 l2 l3 hp lv a0 fa0 g0 g1 g2 g3 hM h
      · replace h := yiN h2 h
        refine ye_aload rfl g0 ?_
        refine ye_getr rfl (hM.obj fa0 ⟨rfl, rfl⟩) rfl (fun cx1 ecx1 => ?_)
        have fcx1 := yAt.row fa0 ecx1
        refine ye_iload rfl g3 ?_
        refine ye_iload rfl g2 ?_
        obtain ⟨j1, ej1, ij1, h⟩ := gA_some h
        obtain ⟨S1, eS1, h⟩ := sq_some h
        refine yw_ast rfl hM fcx1 yr_2_1 (by decide) ij1 ej1 eS1 (fun y1 M1 => ?_)
        exact w_X2_light_26 (prim := prim) (d := d) N (fun S l1 l2 l3 => f_X2_light_2 n N S l1 l2 l3) ih S1 l1 l2 l3 y1 lv a0 fa0 g0 g1 g2 g3 M1 h

def f_X2_light_0 (N : Nat) (S : yS) (l1 : Int32) (l2 : Int32) : Option (Int32 × yS) := f_X2_light_2 N N S l1 l2 0
set_option maxHeartbeats 4000000 in
set_option maxRecDepth 40000 in
theorem w_X2_light_0 {F : xH} {ev : xEv} {prim : xRel} {d sz : Nat} {T : yT} {v : Int32} {S' : yS} (N : Nat) (S : yS) (l1 : Int32) (l2 : Int32) (hp : xH) (lv : xLv) (a0 : Nat) (fa0 : yAt T 2 1 0 a0) (g0 : xG lv 0 = some (.ref a0)) (g1 : xG lv 1 = some (.int l1)) (g2 : xG lv 2 = some (.int l2)) (hM : cR [0, 1, 2, 3, 4, 5, 6, 7] F ev T S hp) (h : f_X2_light_0 N S l1 l2 = some (v, S')) : yWE ev.2.1 (xstr ev) (xCalls ev xmi (xprog ev) prim (d + 1)) (pX2_light ev) (0, lv, [], hp, sz, 0) (ypQ [0, 1, 2, 3, 4, 5, 6, 7] F ev T sz (none) S') := by
  unfold f_X2_light_0 at h
  refine ye_p rfl rfl ?_
  refine ye_p rfl rfl ?_
  have g0_z1 := xG_o1 (i := 3) (v := .int 0) g0 rfl
  have g1_z1 := xG_o1 (i := 3) (v := .int 0) g1 rfl
  have g2_z1 := xG_o1 (i := 3) (v := .int 0) g2 rfl
  have g3_z1 := xG_same lv 3 (.int 0)
  generalize xSt1 lv 3 (.int 0) = lvz1 at g0_z1 g1_z1 g2_z1 g3_z1 ⊢
  exact w_X2_light_2 (prim := prim) (d := d) N N S l1 l2 0 hp lvz1 a0 fa0 g0_z1 g1_z1 g2_z1 g3_z1 hM h
def f_X2_light (N : Nat) (S : yS) (xl1 : Int32) (xl2 : Int32) : Option (Int32 × yS) := f_X2_light_0 N S xl1 xl2
theorem m_X2_light {F : xH} {ev : xEv} {prim : xRel} {d : Nat} {T : yT} {v : Int32} {S' : yS} (N : Nat) (S : yS) (xl1 : Int32) (xl2 : Int32) (a0 : Nat) (fa0 : yAt T 2 1 0 a0) (h : f_X2_light N S xl1 xl2 = some (v, S')) : ykQ [0, 1, 2, 3, 4, 5, 6, 7] F ev prim (d + 2) 27 T S [.ref a0, .int xl1, .int xl2] (none) S' :=
  ykQ.of (pg_27 ev) mi_27 (Nat.le_of_ble_eq_true rfl) (fun hp sz hM => w_X2_light_0 (prim := prim) (d := d) N S xl1 xl2 hp _ a0 fa0 rfl rfl rfl hM h)

def f_X2_listFields_38 (N : Nat) (k5 : yS → Int32 → Int32 → Int32 → Option (Int32 × yS)) (S : yS) (l1 : Int32) (l3 : Int32) (l4 : Int32) : Option (Int32 × yS) := k5 S l1 l3 (l4 + 1)
set_option maxHeartbeats 4000000 in
set_option maxRecDepth 40000 in
theorem w_X2_listFields_38 {F : xH} {ev : xEv} {prim : xRel} {d sz : Nat} {T : yT} {v : Int32} {S' : yS} (N : Nat) (k5 : yS → Int32 → Int32 → Int32 → Option (Int32 × yS)) (u5 : ∀ (S : yS) (l1 : Int32) (l3 : Int32) (l4 : Int32) (hp : xH) (lv : xLv) (a0 : Nat) (a2 : Nat) (fa0 : yAt T 2 1 0 a0) (fa2 : yAt T 11 0 8 a2) (g0 : xG lv 0 = some (.ref a0)) (g1 : xG lv 1 = some (.int l1)) (g2 : xG lv 2 = some (.ref a2)) (g3 : xG lv 3 = some (.int l3)) (g4 : xG lv 4 = some (.int l4)) (hM : cR [0, 1, 2, 3, 4, 5, 6, 7] F ev T S hp) (h : k5 S l1 l3 l4 = some (v, S')), yWE ev.2.1 (xstr ev) (xCalls ev xmi (xprog ev) prim (d + 1)) (pX2_listFields ev) (5, lv, [], hp, sz, 0) (ypQ [0, 1, 2, 3, 4, 5, 6, 7] F ev T sz (some (.int v)) S')) (S : yS) (l1 : Int32) (l3 : Int32) (l4 : Int32) (hp : xH) (lv : xLv) (a0 : Nat) (a2 : Nat) (fa0 : yAt T 2 1 0 a0) (fa2 : yAt T 11 0 8 a2) (g0 : xG lv 0 = some (.ref a0)) (g1 : xG lv 1 = some (.int l1)) (g2 : xG lv 2 = some (.ref a2)) (g3 : xG lv 3 = some (.int l3)) (g4 : xG lv 4 = some (.int l4)) (hM : cR [0, 1, 2, 3, 4, 5, 6, 7] F ev T S hp) (h : f_X2_listFields_38 N k5 S l1 l3 l4 = some (v, S')) : yWE ev.2.1 (xstr ev) (xCalls ev xmi (xprog ev) prim (d + 1)) (pX2_listFields ev) (38, lv, [], hp, sz, 0) (ypQ [0, 1, 2, 3, 4, 5, 6, 7] F ev T sz (some (.int v)) S') := by
  unfold f_X2_listFields_38 at h
  refine ye_iinc rfl g4 ?_
  have g0_z1 := xG_o1 (i := 4) (v := .int (l4 + 1)) g0 rfl
  have g1_z1 := xG_o1 (i := 4) (v := .int (l4 + 1)) g1 rfl
  have g2_z1 := xG_o1 (i := 4) (v := .int (l4 + 1)) g2 rfl
  have g3_z1 := xG_o1 (i := 4) (v := .int (l4 + 1)) g3 rfl
  have g4_z1 := xG_same lv 4 (.int (l4 + 1))
  generalize xSt1 lv 4 (.int (l4 + 1)) = lvz1 at g0_z1 g1_z1 g2_z1 g3_z1 g4_z1 ⊢
  refine ye_p rfl rfl ?_
  exact u5 S l1 l3 (l4 + 1) hp lvz1 a0 a2 fa0 fa2 g0_z1 g1_z1 g2_z1 g3_z1 g4_z1 hM h

def f_X2_listFields_44 (N : Nat) (S : yS) (l3 : Int32) : Option (Int32 × yS) := some (l3, S)
set_option maxHeartbeats 4000000 in
set_option maxRecDepth 40000 in
theorem w_X2_listFields_44 {F : xH} {ev : xEv} {prim : xRel} {d sz : Nat} {T : yT} {v : Int32} {S' : yS} (N : Nat) (S : yS) (l3 : Int32) (hp : xH) (lv : xLv) (g3 : xG lv 3 = some (.int l3)) (hM : cR [0, 1, 2, 3, 4, 5, 6, 7] F ev T S hp) (h : f_X2_listFields_44 N S l3 = some (v, S')) : yWE ev.2.1 (xstr ev) (xCalls ev xmi (xprog ev) prim (d + 1)) (pX2_listFields ev) (44, lv, [], hp, sz, 0) (ypQ [0, 1, 2, 3, 4, 5, 6, 7] F ev T sz (some (.int v)) S') := by
  unfold f_X2_listFields_44 at h
  refine ye_iload rfl g3 ?_
  exact ye_ret rfl rfl (rQ h hM)

def f_X2_listFields_5 : Nat → Nat → yS → Int32 → Int32 → Int32 → Option (Int32 × yS)
  | 0, _, _, _, _, _ => none
  | n + 1, N, S, l1, l3, l4 => if (S.1 1 3) ≤ l4 then f_X2_listFields_44 N S l3 else if (Int32.ofNat 32) ≤ l3 then f_X2_listFields_44 N S l3 else bV (f_X2_bitOf N S l4) fun w1 => if (l1 &&& w1) = 0 then f_X2_listFields_38 N (fun S l1 l3 l4 => f_X2_listFields_5 n N S l1 l3 l4) S l1 l3 l4 else gA 32 l3 fun j1 => sq (yA S 0 7 (upd (S.2.1 0 7) j1 l4)) fun S1 => f_X2_listFields_38 N (fun S l1 l3 l4 => f_X2_listFields_5 n N S l1 l3 l4) S1 l1 (l3 + 1) l4
set_option maxHeartbeats 4000000 in
set_option maxRecDepth 40000 in
theorem w_X2_listFields_5 {F : xH} {ev : xEv} {prim : xRel} {d sz : Nat} {T : yT} {v : Int32} {S' : yS} (N : Nat) (n : Nat) : ∀ (S : yS) (l1 : Int32) (l3 : Int32) (l4 : Int32) (hp : xH) (lv : xLv) (a0 : Nat) (a2 : Nat) (fa0 : yAt T 2 1 0 a0) (fa2 : yAt T 11 0 8 a2) (g0 : xG lv 0 = some (.ref a0)) (g1 : xG lv 1 = some (.int l1)) (g2 : xG lv 2 = some (.ref a2)) (g3 : xG lv 3 = some (.int l3)) (g4 : xG lv 4 = some (.int l4)) (hM : cR [0, 1, 2, 3, 4, 5, 6, 7] F ev T S hp) (h : f_X2_listFields_5 n N S l1 l3 l4 = some (v, S')), yWE ev.2.1 (xstr ev) (xCalls ev xmi (xprog ev) prim (d + 1)) (pX2_listFields ev) (5, lv, [], hp, sz, 0) (ypQ [0, 1, 2, 3, 4, 5, 6, 7] F ev T sz (some (.int v)) S') := by
  induction n with
  | zero => intro S l1 l3 l4 hp lv a0 a2 fa0 fa2 g0 g1 g2 g3 g4 hM h; exact n_some h
  | succ n ih =>
    intro S l1 l3 l4 hp lv a0 a2 fa0 fa2 g0 g1 g2 g3 g4 hM h
    unfold f_X2_listFields_5 at h
    refine ye_iload rfl g4 ?_
    refine ye_aload rfl g0 ?_
    refine ye_getf rfl (hM.obj fa0 ⟨rfl, rfl⟩) rfl ?_
    refine ye_icmp_ge rfl (fun h1 => ?_) (fun h1 => ?_)
    · replace h := yiT h1 h
      exact w_X2_listFields_44 (prim := prim) (d := d) N S l3 hp lv g3 hM h
    · replace h := yiN h1 h
      refine ye_iload rfl g3 ?_
      refine ye_aload rfl g2 ?_
      refine ye_alen rfl (hM.arr fa2 yr_11_7) ?_
      refine ye_icmp_ge rfl (fun h2 => ?_) (fun h2 => ?_)
      · replace h := yiT h2 h
        exact w_X2_listFields_44 (prim := prim) (d := d) N S l3 hp lv g3 hM h
      · replace h := yiN h2 h
        refine ye_iload rfl g1 ?_
        refine ye_iload rfl g4 ?_
        obtain ⟨w1, hw1, h⟩ := bV_some h
        refine ye_callS (As := [.int l4]) (rest := [.int l1]) 1 (Or.inl rfl) rfl rfl rfl (Nat.le_of_ble_eq_true rfl) ((m_X2_bitOf (d := d + 0) (T := T) N S l4 hw1) hp sz hM) ?_
        refine ye_p rfl rfl ?_
        refine ye_if_eq rfl (fun h3 => ?_) (fun h3 => ?_)
        · replace h := yiT h3 h
          exact w_X2_listFields_38 (prim := prim) (d := d) N (fun S l1 l3 l4 => f_X2_listFields_5 n N S l1 l3 l4) ih S l1 l3 l4 hp lv a0 a2 fa0 fa2 g0 g1 g2 g3 g4 hM h
        · replace h := yiN h3 h
          refine ye_aload rfl g2 ?_
          refine ye_iload rfl g3 ?_
          refine ye_iload rfl g4 ?_
          obtain ⟨j1, ej1, ij1, h⟩ := gA_some h
          obtain ⟨S1, eS1, h⟩ := sq_some h
          refine yw_ast rfl hM fa2 yr_11_7 (by decide) ij1 ej1 eS1 (fun y1 M1 => ?_)
          refine ye_iinc rfl g3 ?_
          have g0_z1 := xG_o1 (i := 3) (v := .int (l3 + 1)) g0 rfl
          have g1_z1 := xG_o1 (i := 3) (v := .int (l3 + 1)) g1 rfl
          have g2_z1 := xG_o1 (i := 3) (v := .int (l3 + 1)) g2 rfl
          have g4_z1 := xG_o1 (i := 3) (v := .int (l3 + 1)) g4 rfl
          have g3_z1 := xG_same lv 3 (.int (l3 + 1))
          generalize xSt1 lv 3 (.int (l3 + 1)) = lvz1 at g0_z1 g1_z1 g2_z1 g4_z1 g3_z1 ⊢
          exact w_X2_listFields_38 (prim := prim) (d := d) N (fun S l1 l3 l4 => f_X2_listFields_5 n N S l1 l3 l4) ih S1 l1 (l3 + 1) l4 y1 lvz1 a0 a2 fa0 fa2 g0_z1 g1_z1 g2_z1 g3_z1 g4_z1 M1 h

def f_X2_listFields_0 (N : Nat) (S : yS) (l1 : Int32) : Option (Int32 × yS) := f_X2_listFields_5 N N S l1 0 0
set_option maxHeartbeats 4000000 in
set_option maxRecDepth 40000 in
theorem w_X2_listFields_0 {F : xH} {ev : xEv} {prim : xRel} {d sz : Nat} {T : yT} {v : Int32} {S' : yS} (N : Nat) (S : yS) (l1 : Int32) (hp : xH) (lv : xLv) (a0 : Nat) (a2 : Nat) (fa0 : yAt T 2 1 0 a0) (fa2 : yAt T 11 0 8 a2) (g0 : xG lv 0 = some (.ref a0)) (g1 : xG lv 1 = some (.int l1)) (g2 : xG lv 2 = some (.ref a2)) (hM : cR [0, 1, 2, 3, 4, 5, 6, 7] F ev T S hp) (h : f_X2_listFields_0 N S l1 = some (v, S')) : yWE ev.2.1 (xstr ev) (xCalls ev xmi (xprog ev) prim (d + 1)) (pX2_listFields ev) (0, lv, [], hp, sz, 0) (ypQ [0, 1, 2, 3, 4, 5, 6, 7] F ev T sz (some (.int v)) S') := by
  unfold f_X2_listFields_0 at h
  refine ye_p rfl rfl ?_
  refine ye_p rfl rfl ?_
  have g0_z1 := xG_o1 (i := 3) (v := .int 0) g0 rfl
  have g1_z1 := xG_o1 (i := 3) (v := .int 0) g1 rfl
  have g2_z1 := xG_o1 (i := 3) (v := .int 0) g2 rfl
  have g3_z1 := xG_same lv 3 (.int 0)
  generalize xSt1 lv 3 (.int 0) = lvz1 at g0_z1 g1_z1 g2_z1 g3_z1 ⊢
  refine ye_p rfl rfl ?_
  refine ye_p rfl rfl ?_
  have g0_z2 := xG_o1 (i := 4) (v := .int 0) g0_z1 rfl
  have g1_z2 := xG_o1 (i := 4) (v := .int 0) g1_z1 rfl
  have g2_z2 := xG_o1 (i := 4) (v := .int 0) g2_z1 rfl
  have g3_z2 := xG_o1 (i := 4) (v := .int 0) g3_z1 rfl
  have g4_z2 := xG_same lvz1 4 (.int 0)
  generalize xSt1 lvz1 4 (.int 0) = lvz2 at g0_z2 g1_z2 g2_z2 g3_z2 g4_z2 ⊢
  exact w_X2_listFields_5 (prim := prim) (d := d) N N S l1 0 0 hp lvz2 a0 a2 fa0 fa2 g0_z2 g1_z2 g2_z2 g3_z2 g4_z2 hM h
def f_X2_listFields (N : Nat) (S : yS) (xl1 : Int32) : Option (Int32 × yS) := f_X2_listFields_0 N S xl1
theorem m_X2_listFields {F : xH} {ev : xEv} {prim : xRel} {d : Nat} {T : yT} {v : Int32} {S' : yS} (N : Nat) (S : yS) (xl1 : Int32) (a0 : Nat) (a2 : Nat) (fa0 : yAt T 2 1 0 a0) (fa2 : yAt T 11 0 8 a2) (h : f_X2_listFields N S xl1 = some (v, S')) : ykQ [0, 1, 2, 3, 4, 5, 6, 7] F ev prim (d + 2) 28 T S [.ref a0, .int xl1, .ref a2] (some (.int v)) S' :=
  ykQ.of (pg_28 ev) mi_28 (Nat.le_of_ble_eq_true rfl) (fun hp sz hM => w_X2_listFields_0 (prim := prim) (d := d) N S xl1 hp _ a0 a2 fa0 fa2 rfl rfl rfl hM h)

def f_X3_addGround_0 (N : Nat) (S : yS) (p0 : Nat) (l1 : Int32) (l2 : Int32) : Option (Int32 × yS) := gA 4 (S.1 p0 4) fun j1 => sq (yA S p0 5 (upd (S.2.1 p0 5) j1 l1)) fun S1 => gA 4 (S1.1 p0 4) fun j2 => sq (yA S1 p0 6 (upd (S1.2.1 p0 6) j2 l2)) fun S2 => sq (yI S2 p0 4 ((S2.1 p0 4) + 1)) fun S3 => some (S3.1 p0 4, S3)
set_option maxHeartbeats 4000000 in
set_option maxRecDepth 40000 in
theorem w_X3_addGround_0 {F : xH} {ev : xEv} {prim : xRel} {d sz : Nat} {T : yT} {v : Int32} {S' : yS} (N : Nat) (S : yS) (p0 : Nat) (l1 : Int32) (l2 : Int32) (hp : xH) (lv : xLv) (a0 : Nat) (fa0 : yAt T 3 p0 0 a0) (g0 : xG lv 0 = some (.ref a0)) (g1 : xG lv 1 = some (.int l1)) (g2 : xG lv 2 = some (.int l2)) (hM : cR [0, 1, 2, 3, 4, 5, 6, 7] F ev T S hp) (h : f_X3_addGround_0 N S p0 l1 l2 = some (v, S')) : yWE ev.2.1 (xstr ev) (xCalls ev xmi (xprog ev) prim (d + 0)) (pX3_addGround ev) (0, lv, [], hp, sz, 0) (ypQ [0, 1, 2, 3, 4, 5, 6, 7] F ev T sz (some (.int v)) S') := by
  unfold f_X3_addGround_0 at h
  refine ye_aload rfl g0 ?_
  refine ye_getr rfl (hM.obj fa0 ⟨rfl, rfl⟩) rfl (fun cx1 ecx1 => ?_)
  have fcx1 := yAt.row fa0 ecx1
  refine ye_aload rfl g0 ?_
  refine ye_getf rfl (hM.obj fa0 ⟨rfl, rfl⟩) rfl ?_
  refine ye_iload rfl g1 ?_
  obtain ⟨j1, ej1, ij1, h⟩ := gA_some h
  obtain ⟨S1, eS1, h⟩ := sq_some h
  refine yw_ast rfl hM fcx1 yr_3_5 (by decide) ij1 ej1 eS1 (fun y1 M1 => ?_)
  refine ye_aload rfl g0 ?_
  refine ye_getr rfl (M1.obj fa0 ⟨rfl, rfl⟩) rfl (fun cx2 ecx2 => ?_)
  have fcx2 := yAt.row fa0 ecx2
  refine ye_aload rfl g0 ?_
  refine ye_getf rfl (M1.obj fa0 ⟨rfl, rfl⟩) rfl ?_
  refine ye_iload rfl g2 ?_
  obtain ⟨j2, ej2, ij2, h⟩ := gA_some h
  obtain ⟨S2, eS2, h⟩ := sq_some h
  refine yw_ast rfl M1 fcx2 yr_3_6 (by decide) ij2 ej2 eS2 (fun y2 M2 => ?_)
  refine ye_aload rfl g0 ?_
  refine ye_p rfl rfl ?_
  refine ye_getf rfl (M2.obj fa0 ⟨rfl, rfl⟩) rfl ?_
  refine ye_p rfl rfl ?_
  refine ye_p rfl rfl ?_
  obtain ⟨S3, eS3, h⟩ := sq_some h
  refine yw_putI rfl M2 fa0 rfl ⟨rfl, rfl⟩ (Nat.le_of_ble_eq_true rfl) rfl rfl (ys_3_4 ev T _ ((S2.1 p0 4) + 1)) (fun q => absurd q (by decide)) eS3 (fun y3 M3 => ?_)
  refine ye_aload rfl g0 ?_
  refine ye_getf rfl (M3.obj fa0 ⟨rfl, rfl⟩) rfl ?_
  exact ye_ret rfl rfl (rQ h M3)
def f_X3_addGround (N : Nat) (S : yS) (xp0 : Nat) (xl1 : Int32) (xl2 : Int32) : Option (Int32 × yS) := f_X3_addGround_0 N S xp0 xl1 xl2
theorem m_X3_addGround {F : xH} {ev : xEv} {prim : xRel} {d : Nat} {T : yT} {v : Int32} {S' : yS} (N : Nat) (S : yS) (xp0 : Nat) (xl1 : Int32) (xl2 : Int32) (a0 : Nat) (fa0 : yAt T 3 xp0 0 a0) (h : f_X3_addGround N S xp0 xl1 xl2 = some (v, S')) : ykQ [0, 1, 2, 3, 4, 5, 6, 7] F ev prim (d + 1) 30 T S [.ref a0, .int xl1, .int xl2] (some (.int v)) S' :=
  ykQ.of (pg_30 ev) mi_30 (Nat.le_of_ble_eq_true rfl) (fun hp sz hM => w_X3_addGround_0 (prim := prim) (d := d) N S xp0 xl1 xl2 hp _ a0 fa0 rfl rfl rfl hM h)

def f_X3_isBetter_35 (N : Nat) (S : yS) (t0 : Int32) : Option Int32 := gP (t0 = 0 ∨ t0 = 1) (some t0)
set_option maxHeartbeats 4000000 in
set_option maxRecDepth 40000 in
theorem w_X3_isBetter_35 {F : xH} {ev : xEv} {prim : xRel} {d sz : Nat} {T : yT} {v : Int32} {hp : xH} (N : Nat) (S : yS) (t0 : Int32) (lv : xLv) (hM : cR [0, 1, 2, 3, 4, 5, 6, 7] F ev T S hp) (h : f_X3_isBetter_35 N S t0 = some v) : yWE ev.2.1 (xstr ev) (xCalls ev xmi (xprog ev) prim (d + 0)) (pX3_isBetter ev) (35, lv, [.int t0], hp, sz, 0) (ypP hp sz (.int v)) := by
  unfold f_X3_isBetter_35 at h
  obtain ⟨i1, h⟩ := gP_some h
  exact ye_ret rfl (if_pos (zb_nar i1)) (rP h)

def f_X3_isBetter_96 (N : Nat) (S : yS) (t0 : Int32) : Option Int32 := gP (t0 = 0 ∨ t0 = 1) (some t0)
set_option maxHeartbeats 4000000 in
set_option maxRecDepth 40000 in
theorem w_X3_isBetter_96 {F : xH} {ev : xEv} {prim : xRel} {d sz : Nat} {T : yT} {v : Int32} {hp : xH} (N : Nat) (S : yS) (t0 : Int32) (lv : xLv) (hM : cR [0, 1, 2, 3, 4, 5, 6, 7] F ev T S hp) (h : f_X3_isBetter_96 N S t0 = some v) : yWE ev.2.1 (xstr ev) (xCalls ev xmi (xprog ev) prim (d + 0)) (pX3_isBetter ev) (96, lv, [.int t0], hp, sz, 0) (ypP hp sz (.int v)) := by
  unfold f_X3_isBetter_96 at h
  obtain ⟨i1, h⟩ := gP_some h
  exact ye_ret rfl (if_pos (zb_nar i1)) (rP h)

def f_X3_isBetter_91 (N : Nat) (S : yS) : Option Int32 := f_X3_isBetter_96 N S 1
set_option maxHeartbeats 4000000 in
set_option maxRecDepth 40000 in
theorem w_X3_isBetter_91 {F : xH} {ev : xEv} {prim : xRel} {d sz : Nat} {T : yT} {v : Int32} {hp : xH} (N : Nat) (S : yS) (lv : xLv) (hM : cR [0, 1, 2, 3, 4, 5, 6, 7] F ev T S hp) (h : f_X3_isBetter_91 N S = some v) : yWE ev.2.1 (xstr ev) (xCalls ev xmi (xprog ev) prim (d + 0)) (pX3_isBetter ev) (91, lv, [], hp, sz, 0) (ypP hp sz (.int v)) := by
  unfold f_X3_isBetter_91 at h
  refine ye_p rfl rfl ?_
  refine ye_p rfl rfl ?_
  exact w_X3_isBetter_96 (prim := prim) (d := d) N S 1 lv hM h

def f_X3_isBetter_95 (N : Nat) (S : yS) : Option Int32 := f_X3_isBetter_96 N S 0
set_option maxHeartbeats 4000000 in
set_option maxRecDepth 40000 in
theorem w_X3_isBetter_95 {F : xH} {ev : xEv} {prim : xRel} {d sz : Nat} {T : yT} {v : Int32} {hp : xH} (N : Nat) (S : yS) (lv : xLv) (hM : cR [0, 1, 2, 3, 4, 5, 6, 7] F ev T S hp) (h : f_X3_isBetter_95 N S = some v) : yWE ev.2.1 (xstr ev) (xCalls ev xmi (xprog ev) prim (d + 0)) (pX3_isBetter ev) (95, lv, [], hp, sz, 0) (ypP hp sz (.int v)) := by
  unfold f_X3_isBetter_95 at h
  refine ye_p rfl rfl ?_
  exact w_X3_isBetter_96 (prim := prim) (d := d) N S 0 lv hM h

def f_X3_isBetter_0 (N : Nat) (S : yS) (p0 : Nat) (l1 : Int32) (l2 : Int32) (l3 : Int32) : Option Int32 := gA 4 l1 fun j1 => gA 4 l2 fun j2 => if (S.2.1 p0 6 j1) = (S.2.1 p0 6 j2) then gA 4 l1 fun j3 => gA 4 l2 fun j4 => if (if 0 ≤ ((S.2.1 p0 5 j3) - l3) then ((S.2.1 p0 5 j3) - l3) else 0 - ((S.2.1 p0 5 j3) - l3)) < (if 0 ≤ ((S.2.1 p0 5 j4) - l3) then ((S.2.1 p0 5 j4) - l3) else 0 - ((S.2.1 p0 5 j4) - l3)) then f_X3_isBetter_91 N S else if ¬ (if 0 ≤ ((S.2.1 p0 5 j3) - l3) then ((S.2.1 p0 5 j3) - l3) else 0 - ((S.2.1 p0 5 j3) - l3)) = (if 0 ≤ ((S.2.1 p0 5 j4) - l3) then ((S.2.1 p0 5 j4) - l3) else 0 - ((S.2.1 p0 5 j4) - l3)) then f_X3_isBetter_95 N S else gA 4 l1 fun j5 => gA 4 l2 fun j6 => if (S.2.1 p0 5 j6) ≤ (S.2.1 p0 5 j5) then f_X3_isBetter_95 N S else f_X3_isBetter_91 N S else gA 4 l1 fun j7 => gA 4 l2 fun j8 => if (S.2.1 p0 6 j8) ≤ (S.2.1 p0 6 j7) then f_X3_isBetter_35 N S 0 else f_X3_isBetter_35 N S 1
set_option maxHeartbeats 4000000 in
set_option maxRecDepth 40000 in
theorem w_X3_isBetter_0 {F : xH} {ev : xEv} {prim : xRel} {d sz : Nat} {T : yT} {v : Int32} {hp : xH} (N : Nat) (S : yS) (p0 : Nat) (l1 : Int32) (l2 : Int32) (l3 : Int32) (lv : xLv) (a0 : Nat) (fa0 : yAt T 3 p0 0 a0) (g0 : xG lv 0 = some (.ref a0)) (g1 : xG lv 1 = some (.int l1)) (g2 : xG lv 2 = some (.int l2)) (g3 : xG lv 3 = some (.int l3)) (hM : cR [0, 1, 2, 3, 4, 5, 6, 7] F ev T S hp) (h : f_X3_isBetter_0 N S p0 l1 l2 l3 = some v) : yWE ev.2.1 (xstr ev) (xCalls ev xmi (xprog ev) prim (d + 0)) (pX3_isBetter ev) (0, lv, [], hp, sz, 0) (ypP hp sz (.int v)) := by
  unfold f_X3_isBetter_0 at h
  refine ye_aload rfl g0 ?_
  refine ye_getr rfl (hM.obj fa0 ⟨rfl, rfl⟩) rfl (fun cx1 ecx1 => ?_)
  have fcx1 := yAt.row fa0 ecx1
  refine ye_iload rfl g1 ?_
  obtain ⟨j1, ej1, ij1, h⟩ := gA_some h
  refine yj_ald rfl (hM.arr fcx1 yr_3_6) ij1 ej1 ?_
  refine ye_aload rfl g0 ?_
  refine ye_getr rfl (hM.obj fa0 ⟨rfl, rfl⟩) rfl (fun cx2 ecx2 => ?_)
  have fcx2 := yAt.row fa0 ecx2
  refine ye_iload rfl g2 ?_
  obtain ⟨j2, ej2, ij2, h⟩ := gA_some h
  refine yj_ald rfl (hM.arr fcx2 yr_3_6) ij2 ej2 ?_
  refine ye_icmp_eq rfl (fun h1 => ?_) (fun h1 => ?_)
  · replace h := yiT h1 h
    refine ye_aload rfl g0 ?_
    refine ye_getr rfl (hM.obj fa0 ⟨rfl, rfl⟩) rfl (fun cx3 ecx3 => ?_)
    have fcx3 := yAt.row fa0 ecx3
    refine ye_iload rfl g1 ?_
    obtain ⟨j3, ej3, ij3, h⟩ := gA_some h
    refine yj_ald rfl (hM.arr fcx3 yr_3_5) ij3 ej3 ?_
    refine ye_iload rfl g3 ?_
    refine ye_p rfl rfl ?_
    refine ye_p rfl rfl ?_
    refine ye_p rfl rfl ?_
    have g0_z1 := xG_o1 (i := 4) (v := .int (if 0 ≤ ((S.2.1 p0 5 j3) - l3) then ((S.2.1 p0 5 j3) - l3) else 0 - ((S.2.1 p0 5 j3) - l3))) g0 rfl
    have g1_z1 := xG_o1 (i := 4) (v := .int (if 0 ≤ ((S.2.1 p0 5 j3) - l3) then ((S.2.1 p0 5 j3) - l3) else 0 - ((S.2.1 p0 5 j3) - l3))) g1 rfl
    have g2_z1 := xG_o1 (i := 4) (v := .int (if 0 ≤ ((S.2.1 p0 5 j3) - l3) then ((S.2.1 p0 5 j3) - l3) else 0 - ((S.2.1 p0 5 j3) - l3))) g2 rfl
    have g3_z1 := xG_o1 (i := 4) (v := .int (if 0 ≤ ((S.2.1 p0 5 j3) - l3) then ((S.2.1 p0 5 j3) - l3) else 0 - ((S.2.1 p0 5 j3) - l3))) g3 rfl
    have g4_z1 := xG_same lv 4 (.int (if 0 ≤ ((S.2.1 p0 5 j3) - l3) then ((S.2.1 p0 5 j3) - l3) else 0 - ((S.2.1 p0 5 j3) - l3)))
    generalize xSt1 lv 4 (.int (if 0 ≤ ((S.2.1 p0 5 j3) - l3) then ((S.2.1 p0 5 j3) - l3) else 0 - ((S.2.1 p0 5 j3) - l3))) = lvz1 at g0_z1 g1_z1 g2_z1 g3_z1 g4_z1 ⊢
    refine ye_aload rfl g0_z1 ?_
    refine ye_getr rfl (hM.obj fa0 ⟨rfl, rfl⟩) rfl (fun cx4 ecx4 => ?_)
    have fcx4 := yAt.row fa0 ecx4
    refine ye_iload rfl g2_z1 ?_
    obtain ⟨j4, ej4, ij4, h⟩ := gA_some h
    refine yj_ald rfl (hM.arr fcx4 yr_3_5) ij4 ej4 ?_
    refine ye_iload rfl g3_z1 ?_
    refine ye_p rfl rfl ?_
    refine ye_p rfl rfl ?_
    refine ye_p rfl rfl ?_
    have g0_z2 := xG_o1 (i := 5) (v := .int (if 0 ≤ ((S.2.1 p0 5 j4) - l3) then ((S.2.1 p0 5 j4) - l3) else 0 - ((S.2.1 p0 5 j4) - l3))) g0_z1 rfl
    have g1_z2 := xG_o1 (i := 5) (v := .int (if 0 ≤ ((S.2.1 p0 5 j4) - l3) then ((S.2.1 p0 5 j4) - l3) else 0 - ((S.2.1 p0 5 j4) - l3))) g1_z1 rfl
    have g2_z2 := xG_o1 (i := 5) (v := .int (if 0 ≤ ((S.2.1 p0 5 j4) - l3) then ((S.2.1 p0 5 j4) - l3) else 0 - ((S.2.1 p0 5 j4) - l3))) g2_z1 rfl
    have g4_z2 := xG_o1 (i := 5) (v := .int (if 0 ≤ ((S.2.1 p0 5 j4) - l3) then ((S.2.1 p0 5 j4) - l3) else 0 - ((S.2.1 p0 5 j4) - l3))) g4_z1 rfl
    have g5_z2 := xG_same lvz1 5 (.int (if 0 ≤ ((S.2.1 p0 5 j4) - l3) then ((S.2.1 p0 5 j4) - l3) else 0 - ((S.2.1 p0 5 j4) - l3)))
    generalize xSt1 lvz1 5 (.int (if 0 ≤ ((S.2.1 p0 5 j4) - l3) then ((S.2.1 p0 5 j4) - l3) else 0 - ((S.2.1 p0 5 j4) - l3))) = lvz2 at g0_z2 g1_z2 g2_z2 g4_z2 g5_z2 ⊢
    refine ye_iload rfl g4_z2 ?_
    refine ye_iload rfl g5_z2 ?_
    refine ye_icmp_lt rfl (fun h2 => ?_) (fun h2 => ?_)
    · replace h := yiT h2 h
      exact w_X3_isBetter_91 (prim := prim) (d := d) N S lvz2 hM h
    · replace h := yiN h2 h
      refine ye_iload rfl g4_z2 ?_
      refine ye_iload rfl g5_z2 ?_
      refine ye_icmp_ne rfl (fun h3 => ?_) (fun h3 => ?_)
      · replace h := yiT h3 h
        exact w_X3_isBetter_95 (prim := prim) (d := d) N S lvz2 hM h
      · replace h := yiN h3 h
        refine ye_aload rfl g0_z2 ?_
        refine ye_getr rfl (hM.obj fa0 ⟨rfl, rfl⟩) rfl (fun cx5 ecx5 => ?_)
        have fcx5 := yAt.row fa0 ecx5
        refine ye_iload rfl g1_z2 ?_
        obtain ⟨j5, ej5, ij5, h⟩ := gA_some h
        refine yj_ald rfl (hM.arr fcx5 yr_3_5) ij5 ej5 ?_
        refine ye_aload rfl g0_z2 ?_
        refine ye_getr rfl (hM.obj fa0 ⟨rfl, rfl⟩) rfl (fun cx6 ecx6 => ?_)
        have fcx6 := yAt.row fa0 ecx6
        refine ye_iload rfl g2_z2 ?_
        obtain ⟨j6, ej6, ij6, h⟩ := gA_some h
        refine yj_ald rfl (hM.arr fcx6 yr_3_5) ij6 ej6 ?_
        refine ye_icmp_ge rfl (fun h4 => ?_) (fun h4 => ?_)
        · replace h := yiT h4 h
          exact w_X3_isBetter_95 (prim := prim) (d := d) N S lvz2 hM h
        · replace h := yiN h4 h
          exact w_X3_isBetter_91 (prim := prim) (d := d) N S lvz2 hM h
  · replace h := yiN h1 h
    refine ye_aload rfl g0 ?_
    refine ye_getr rfl (hM.obj fa0 ⟨rfl, rfl⟩) rfl (fun cx7 ecx7 => ?_)
    have fcx7 := yAt.row fa0 ecx7
    refine ye_iload rfl g1 ?_
    obtain ⟨j7, ej7, ij7, h⟩ := gA_some h
    refine yj_ald rfl (hM.arr fcx7 yr_3_6) ij7 ej7 ?_
    refine ye_aload rfl g0 ?_
    refine ye_getr rfl (hM.obj fa0 ⟨rfl, rfl⟩) rfl (fun cx8 ecx8 => ?_)
    have fcx8 := yAt.row fa0 ecx8
    refine ye_iload rfl g2 ?_
    obtain ⟨j8, ej8, ij8, h⟩ := gA_some h
    refine yj_ald rfl (hM.arr fcx8 yr_3_6) ij8 ej8 ?_
    refine ye_icmp_ge rfl (fun h5 => ?_) (fun h5 => ?_)
    · replace h := yiT h5 h
      refine ye_p rfl rfl ?_
      exact w_X3_isBetter_35 (prim := prim) (d := d) N S 0 lv hM h
    · replace h := yiN h5 h
      refine ye_p rfl rfl ?_
      refine ye_p rfl rfl ?_
      exact w_X3_isBetter_35 (prim := prim) (d := d) N S 1 lv hM h
def f_X3_isBetter (N : Nat) (S : yS) (xp0 : Nat) (xl1 : Int32) (xl2 : Int32) (xl3 : Int32) : Option Int32 := f_X3_isBetter_0 N S xp0 xl1 xl2 xl3
theorem m_X3_isBetter {F : xH} {ev : xEv} {prim : xRel} {d : Nat} {T : yT} {v : Int32} (N : Nat) (S : yS) (xp0 : Nat) (xl1 : Int32) (xl2 : Int32) (xl3 : Int32) (a0 : Nat) (fa0 : yAt T 3 xp0 0 a0) (h : f_X3_isBetter N S xp0 xl1 xl2 xl3 = some v) : ykP [0, 1, 2, 3, 4, 5, 6, 7] F ev prim (d + 1) 32 T S [.ref a0, .int xl1, .int xl2, .int xl3] (.int v) :=
  ykP.of (pg_32 ev) mi_32 (Nat.le_of_ble_eq_true rfl) (fun hp sz hM => w_X3_isBetter_0 (prim := prim) (d := d) N S xp0 xl1 xl2 xl3 _ a0 fa0 rfl rfl rfl rfl hM h)

def f_X3_touches_21 (N : Nat) (S : yS) (t0 : Int32) : Option Int32 := gP (t0 = 0 ∨ t0 = 1) (some t0)
set_option maxHeartbeats 4000000 in
set_option maxRecDepth 40000 in
theorem w_X3_touches_21 {F : xH} {ev : xEv} {prim : xRel} {d sz : Nat} {T : yT} {v : Int32} {hp : xH} (N : Nat) (S : yS) (t0 : Int32) (lv : xLv) (hM : cR [0, 1, 2, 3, 4, 5, 6, 7] F ev T S hp) (h : f_X3_touches_21 N S t0 = some v) : yWE ev.2.1 (xstr ev) (xCalls ev xmi (xprog ev) prim (d + 0)) (pX3_touches ev) (21, lv, [.int t0], hp, sz, 0) (ypP hp sz (.int v)) := by
  unfold f_X3_touches_21 at h
  obtain ⟨i1, h⟩ := gP_some h
  exact ye_ret rfl (if_pos (zb_nar i1)) (rP h)

def f_X3_touches_16 (N : Nat) (S : yS) : Option Int32 := f_X3_touches_21 N S 1
set_option maxHeartbeats 4000000 in
set_option maxRecDepth 40000 in
theorem w_X3_touches_16 {F : xH} {ev : xEv} {prim : xRel} {d sz : Nat} {T : yT} {v : Int32} {hp : xH} (N : Nat) (S : yS) (lv : xLv) (hM : cR [0, 1, 2, 3, 4, 5, 6, 7] F ev T S hp) (h : f_X3_touches_16 N S = some v) : yWE ev.2.1 (xstr ev) (xCalls ev xmi (xprog ev) prim (d + 0)) (pX3_touches ev) (16, lv, [], hp, sz, 0) (ypP hp sz (.int v)) := by
  unfold f_X3_touches_16 at h
  refine ye_p rfl rfl ?_
  refine ye_p rfl rfl ?_
  exact w_X3_touches_21 (prim := prim) (d := d) N S 1 lv hM h

def f_X3_touches_0 (N : Nat) (S : yS) (p0 : Nat) (l1 : Int32) : Option Int32 := if l1 = (S.1 p0 0) then f_X3_touches_16 N S else if ¬ l1 = (S.1 p0 1) then f_X3_touches_21 N S 0 else f_X3_touches_16 N S
set_option maxHeartbeats 4000000 in
set_option maxRecDepth 40000 in
theorem w_X3_touches_0 {F : xH} {ev : xEv} {prim : xRel} {d sz : Nat} {T : yT} {v : Int32} {hp : xH} (N : Nat) (S : yS) (p0 : Nat) (l1 : Int32) (lv : xLv) (a0 : Nat) (fa0 : yAt T 3 p0 0 a0) (g0 : xG lv 0 = some (.ref a0)) (g1 : xG lv 1 = some (.int l1)) (hM : cR [0, 1, 2, 3, 4, 5, 6, 7] F ev T S hp) (h : f_X3_touches_0 N S p0 l1 = some v) : yWE ev.2.1 (xstr ev) (xCalls ev xmi (xprog ev) prim (d + 0)) (pX3_touches ev) (0, lv, [], hp, sz, 0) (ypP hp sz (.int v)) := by
  unfold f_X3_touches_0 at h
  refine ye_iload rfl g1 ?_
  refine ye_aload rfl g0 ?_
  refine ye_getf rfl (hM.obj fa0 ⟨rfl, rfl⟩) rfl ?_
  refine ye_icmp_eq rfl (fun h1 => ?_) (fun h1 => ?_)
  · replace h := yiT h1 h
    exact w_X3_touches_16 (prim := prim) (d := d) N S lv hM h
  · replace h := yiN h1 h
    refine ye_iload rfl g1 ?_
    refine ye_aload rfl g0 ?_
    refine ye_getf rfl (hM.obj fa0 ⟨rfl, rfl⟩) rfl ?_
    refine ye_icmp_ne rfl (fun h2 => ?_) (fun h2 => ?_)
    · replace h := yiT h2 h
      refine ye_p rfl rfl ?_
      exact w_X3_touches_21 (prim := prim) (d := d) N S 0 lv hM h
    · replace h := yiN h2 h
      exact w_X3_touches_16 (prim := prim) (d := d) N S lv hM h
def f_X3_touches (N : Nat) (S : yS) (xp0 : Nat) (xl1 : Int32) : Option Int32 := f_X3_touches_0 N S xp0 xl1
theorem m_X3_touches {F : xH} {ev : xEv} {prim : xRel} {d : Nat} {T : yT} {v : Int32} (N : Nat) (S : yS) (xp0 : Nat) (xl1 : Int32) (a0 : Nat) (fa0 : yAt T 3 xp0 0 a0) (h : f_X3_touches N S xp0 xl1 = some v) : ykP [0, 1, 2, 3, 4, 5, 6, 7] F ev prim (d + 1) 35 T S [.ref a0, .int xl1] (.int v) :=
  ykP.of (pg_35 ev) mi_35 (Nat.le_of_ble_eq_true rfl) (fun hp sz hM => w_X3_touches_0 (prim := prim) (d := d) N S xp0 xl1 _ a0 fa0 rfl rfl hM h)

def f_X3_goal_15 (N : Nat) (S : yS) (t0 : Int32) : Option Int32 := some t0
set_option maxHeartbeats 4000000 in
set_option maxRecDepth 40000 in
theorem w_X3_goal_15 {F : xH} {ev : xEv} {prim : xRel} {d sz : Nat} {T : yT} {v : Int32} {hp : xH} (N : Nat) (S : yS) (t0 : Int32) (lv : xLv) (hM : cR [0, 1, 2, 3, 4, 5, 6, 7] F ev T S hp) (h : f_X3_goal_15 N S t0 = some v) : yWE ev.2.1 (xstr ev) (xCalls ev xmi (xprog ev) prim (d + 0)) (pX3_goal ev) (15, lv, [.int t0], hp, sz, 0) (ypP hp sz (.int v)) := by
  unfold f_X3_goal_15 at h
  exact ye_ret rfl rfl (rP h)

def f_X3_goal_0 (N : Nat) (S : yS) (p0 : Nat) (l1 : Int32) : Option Int32 := if l1 = 0 then f_X3_goal_15 N S (S.1 p0 0) else f_X3_goal_15 N S (S.1 p0 1)
set_option maxHeartbeats 4000000 in
set_option maxRecDepth 40000 in
theorem w_X3_goal_0 {F : xH} {ev : xEv} {prim : xRel} {d sz : Nat} {T : yT} {v : Int32} {hp : xH} (N : Nat) (S : yS) (p0 : Nat) (l1 : Int32) (lv : xLv) (a0 : Nat) (fa0 : yAt T 3 p0 0 a0) (g0 : xG lv 0 = some (.ref a0)) (g1 : xG lv 1 = some (.int l1)) (hM : cR [0, 1, 2, 3, 4, 5, 6, 7] F ev T S hp) (h : f_X3_goal_0 N S p0 l1 = some v) : yWE ev.2.1 (xstr ev) (xCalls ev xmi (xprog ev) prim (d + 0)) (pX3_goal ev) (0, lv, [], hp, sz, 0) (ypP hp sz (.int v)) := by
  unfold f_X3_goal_0 at h
  refine ye_iload rfl g1 ?_
  refine ye_if_eq rfl (fun h1 => ?_) (fun h1 => ?_)
  · replace h := yiT h1 h
    refine ye_aload rfl g0 ?_
    refine ye_getf rfl (hM.obj fa0 ⟨rfl, rfl⟩) rfl ?_
    exact w_X3_goal_15 (prim := prim) (d := d) N S (S.1 p0 0) lv hM h
  · replace h := yiN h1 h
    refine ye_aload rfl g0 ?_
    refine ye_getf rfl (hM.obj fa0 ⟨rfl, rfl⟩) rfl ?_
    refine ye_p rfl rfl ?_
    exact w_X3_goal_15 (prim := prim) (d := d) N S (S.1 p0 1) lv hM h
def f_X3_goal (N : Nat) (S : yS) (xp0 : Nat) (xl1 : Int32) : Option Int32 := f_X3_goal_0 N S xp0 xl1
theorem m_X3_goal {F : xH} {ev : xEv} {prim : xRel} {d : Nat} {T : yT} {v : Int32} (N : Nat) (S : yS) (xp0 : Nat) (xl1 : Int32) (a0 : Nat) (fa0 : yAt T 3 xp0 0 a0) (h : f_X3_goal N S xp0 xl1 = some v) : ykP [0, 1, 2, 3, 4, 5, 6, 7] F ev prim (d + 1) 36 T S [.ref a0, .int xl1] (.int v) :=
  ykP.of (pg_36 ev) mi_36 (Nat.le_of_ble_eq_true rfl) (fun hp sz hM => w_X3_goal_0 (prim := prim) (d := d) N S xp0 xl1 _ a0 fa0 rfl rfl hM h)

def f_X3_nearer_21 (N : Nat) (S : yS) (t0 : Int32) : Option Int32 := some t0
set_option maxHeartbeats 4000000 in
set_option maxRecDepth 40000 in
theorem w_X3_nearer_21 {F : xH} {ev : xEv} {prim : xRel} {d sz : Nat} {T : yT} {v : Int32} {hp : xH} (N : Nat) (S : yS) (t0 : Int32) (lv : xLv) (hM : cR [0, 1, 2, 3, 4, 5, 6, 7] F ev T S hp) (h : f_X3_nearer_21 N S t0 = some v) : yWE ev.2.1 (xstr ev) (xCalls ev xmi (xprog ev) prim (d + 0)) (pX3_nearer ev) (21, lv, [.int t0], hp, sz, 0) (ypP hp sz (.int v)) := by
  unfold f_X3_nearer_21 at h
  exact ye_ret rfl rfl (rP h)

def f_X3_nearer_0 (N : Nat) (S : yS) (p0 : Nat) (l1 : Int32) : Option Int32 := if ((S.1 p0 2) - l1) < l1 then f_X3_nearer_21 N S (S.1 p0 1) else f_X3_nearer_21 N S (S.1 p0 0)
set_option maxHeartbeats 4000000 in
set_option maxRecDepth 40000 in
theorem w_X3_nearer_0 {F : xH} {ev : xEv} {prim : xRel} {d sz : Nat} {T : yT} {v : Int32} {hp : xH} (N : Nat) (S : yS) (p0 : Nat) (l1 : Int32) (lv : xLv) (a0 : Nat) (fa0 : yAt T 3 p0 0 a0) (g0 : xG lv 0 = some (.ref a0)) (g1 : xG lv 1 = some (.int l1)) (hM : cR [0, 1, 2, 3, 4, 5, 6, 7] F ev T S hp) (h : f_X3_nearer_0 N S p0 l1 = some v) : yWE ev.2.1 (xstr ev) (xCalls ev xmi (xprog ev) prim (d + 0)) (pX3_nearer ev) (0, lv, [], hp, sz, 0) (ypP hp sz (.int v)) := by
  unfold f_X3_nearer_0 at h
  refine ye_iload rfl g1 ?_
  refine ye_aload rfl g0 ?_
  refine ye_getf rfl (hM.obj fa0 ⟨rfl, rfl⟩) rfl ?_
  refine ye_iload rfl g1 ?_
  refine ye_p rfl rfl ?_
  refine ye_icmp_gt rfl (fun h1 => ?_) (fun h1 => ?_)
  · replace h := yiT h1 h
    refine ye_aload rfl g0 ?_
    refine ye_getf rfl (hM.obj fa0 ⟨rfl, rfl⟩) rfl ?_
    exact w_X3_nearer_21 (prim := prim) (d := d) N S (S.1 p0 1) lv hM h
  · replace h := yiN h1 h
    refine ye_aload rfl g0 ?_
    refine ye_getf rfl (hM.obj fa0 ⟨rfl, rfl⟩) rfl ?_
    refine ye_p rfl rfl ?_
    exact w_X3_nearer_21 (prim := prim) (d := d) N S (S.1 p0 0) lv hM h
def f_X3_nearer (N : Nat) (S : yS) (xp0 : Nat) (xl1 : Int32) : Option Int32 := f_X3_nearer_0 N S xp0 xl1
theorem m_X3_nearer {F : xH} {ev : xEv} {prim : xRel} {d : Nat} {T : yT} {v : Int32} (N : Nat) (S : yS) (xp0 : Nat) (xl1 : Int32) (a0 : Nat) (fa0 : yAt T 3 xp0 0 a0) (h : f_X3_nearer N S xp0 xl1 = some v) : ykP [0, 1, 2, 3, 4, 5, 6, 7] F ev prim (d + 1) 37 T S [.ref a0, .int xl1] (.int v) :=
  ykP.of (pg_37 ev) mi_37 (Nat.le_of_ble_eq_true rfl) (fun hp sz hM => w_X3_nearer_0 (prim := prim) (d := d) N S xp0 xl1 _ a0 fa0 rfl rfl hM h)

def f_X3_toGo_14 (N : Nat) (S : yS) (t0 : Int32) : Option Int32 := some t0
set_option maxHeartbeats 4000000 in
set_option maxRecDepth 40000 in
theorem w_X3_toGo_14 {F : xH} {ev : xEv} {prim : xRel} {d sz : Nat} {T : yT} {v : Int32} {hp : xH} (N : Nat) (S : yS) (t0 : Int32) (lv : xLv) (hM : cR [0, 1, 2, 3, 4, 5, 6, 7] F ev T S hp) (h : f_X3_toGo_14 N S t0 = some v) : yWE ev.2.1 (xstr ev) (xCalls ev xmi (xprog ev) prim (d + 0)) (pX3_toGo ev) (14, lv, [.int t0], hp, sz, 0) (ypP hp sz (.int v)) := by
  unfold f_X3_toGo_14 at h
  exact ye_ret rfl rfl (rP h)

def f_X3_toGo_0 (N : Nat) (S : yS) (p0 : Nat) (l1 : Int32) (l2 : Int32) : Option Int32 := if l2 = 0 then f_X3_toGo_14 N S l1 else f_X3_toGo_14 N S ((S.1 p0 2) - l1)
set_option maxHeartbeats 4000000 in
set_option maxRecDepth 40000 in
theorem w_X3_toGo_0 {F : xH} {ev : xEv} {prim : xRel} {d sz : Nat} {T : yT} {v : Int32} {hp : xH} (N : Nat) (S : yS) (p0 : Nat) (l1 : Int32) (l2 : Int32) (lv : xLv) (a0 : Nat) (fa0 : yAt T 3 p0 0 a0) (g0 : xG lv 0 = some (.ref a0)) (g1 : xG lv 1 = some (.int l1)) (g2 : xG lv 2 = some (.int l2)) (hM : cR [0, 1, 2, 3, 4, 5, 6, 7] F ev T S hp) (h : f_X3_toGo_0 N S p0 l1 l2 = some v) : yWE ev.2.1 (xstr ev) (xCalls ev xmi (xprog ev) prim (d + 0)) (pX3_toGo ev) (0, lv, [], hp, sz, 0) (ypP hp sz (.int v)) := by
  unfold f_X3_toGo_0 at h
  refine ye_iload rfl g2 ?_
  refine ye_if_eq rfl (fun h1 => ?_) (fun h1 => ?_)
  · replace h := yiT h1 h
    refine ye_iload rfl g1 ?_
    exact w_X3_toGo_14 (prim := prim) (d := d) N S l1 lv hM h
  · replace h := yiN h1 h
    refine ye_aload rfl g0 ?_
    refine ye_getf rfl (hM.obj fa0 ⟨rfl, rfl⟩) rfl ?_
    refine ye_iload rfl g1 ?_
    refine ye_p rfl rfl ?_
    refine ye_p rfl rfl ?_
    exact w_X3_toGo_14 (prim := prim) (d := d) N S ((S.1 p0 2) - l1) lv hM h
def f_X3_toGo (N : Nat) (S : yS) (xp0 : Nat) (xl1 : Int32) (xl2 : Int32) : Option Int32 := f_X3_toGo_0 N S xp0 xl1 xl2
theorem m_X3_toGo {F : xH} {ev : xEv} {prim : xRel} {d : Nat} {T : yT} {v : Int32} (N : Nat) (S : yS) (xp0 : Nat) (xl1 : Int32) (xl2 : Int32) (a0 : Nat) (fa0 : yAt T 3 xp0 0 a0) (h : f_X3_toGo N S xp0 xl1 xl2 = some v) : ykP [0, 1, 2, 3, 4, 5, 6, 7] F ev prim (d + 1) 38 T S [.ref a0, .int xl1, .int xl2] (.int v) :=
  ykP.of (pg_38 ev) mi_38 (Nat.le_of_ble_eq_true rfl) (fun hp sz hM => w_X3_toGo_0 (prim := prim) (d := d) N S xp0 xl1 xl2 _ a0 fa0 rfl rfl rfl hM h)

def f_X3_cellCount_0 (N : Nat) (S : yS) (p0 : Nat) : Option Int32 := some (((S.1 p0 2) / 10) + 1)
set_option maxHeartbeats 4000000 in
set_option maxRecDepth 40000 in
theorem w_X3_cellCount_0 {F : xH} {ev : xEv} {prim : xRel} {d sz : Nat} {T : yT} {v : Int32} {hp : xH} (N : Nat) (S : yS) (p0 : Nat) (lv : xLv) (a0 : Nat) (fa0 : yAt T 3 p0 0 a0) (g0 : xG lv 0 = some (.ref a0)) (hM : cR [0, 1, 2, 3, 4, 5, 6, 7] F ev T S hp) (h : f_X3_cellCount_0 N S p0 = some v) : yWE ev.2.1 (xstr ev) (xCalls ev xmi (xprog ev) prim (d + 0)) (pX3_cellCount ev) (0, lv, [], hp, sz, 0) (ypP hp sz (.int v)) := by
  unfold f_X3_cellCount_0 at h
  refine ye_aload rfl g0 ?_
  refine ye_getf rfl (hM.obj fa0 ⟨rfl, rfl⟩) rfl ?_
  refine ye_p rfl rfl ?_
  refine ye_div rfl (by decide) ?_
  refine ye_p rfl rfl ?_
  refine ye_p rfl rfl ?_
  exact ye_ret rfl rfl (rP h)
def f_X3_cellCount (N : Nat) (S : yS) (xp0 : Nat) : Option Int32 := f_X3_cellCount_0 N S xp0
theorem m_X3_cellCount {F : xH} {ev : xEv} {prim : xRel} {d : Nat} {T : yT} {v : Int32} (N : Nat) (S : yS) (xp0 : Nat) (a0 : Nat) (fa0 : yAt T 3 xp0 0 a0) (h : f_X3_cellCount N S xp0 = some v) : ykP [0, 1, 2, 3, 4, 5, 6, 7] F ev prim (d + 1) 39 T S [.ref a0] (.int v) :=
  ykP.of (pg_39 ev) mi_39 (Nat.le_of_ble_eq_true rfl) (fun hp sz hM => w_X3_cellCount_0 (prim := prim) (d := d) N S xp0 _ a0 fa0 rfl hM h)

def f_X3_cellAt_0 (N : Nat) (S : yS) (l1 : Int32) : Option Int32 := some (l1 / 10)
set_option maxHeartbeats 4000000 in
set_option maxRecDepth 40000 in
theorem w_X3_cellAt_0 {F : xH} {ev : xEv} {prim : xRel} {d sz : Nat} {T : yT} {v : Int32} {hp : xH} (N : Nat) (S : yS) (l1 : Int32) (lv : xLv) (g1 : xG lv 1 = some (.int l1)) (hM : cR [0, 1, 2, 3, 4, 5, 6, 7] F ev T S hp) (h : f_X3_cellAt_0 N S l1 = some v) : yWE ev.2.1 (xstr ev) (xCalls ev xmi (xprog ev) prim (d + 0)) (pX3_cellAt ev) (0, lv, [], hp, sz, 0) (ypP hp sz (.int v)) := by
  unfold f_X3_cellAt_0 at h
  refine ye_iload rfl g1 ?_
  refine ye_p rfl rfl ?_
  refine ye_div rfl (by decide) ?_
  exact ye_ret rfl rfl (rP h)
def f_X3_cellAt (N : Nat) (S : yS) (xp0 : Nat) (xl1 : Int32) : Option Int32 := f_X3_cellAt_0 N S xl1
theorem m_X3_cellAt {F : xH} {ev : xEv} {prim : xRel} {d : Nat} {T : yT} {v : Int32} (N : Nat) (S : yS) (xp0 : Nat) (xl1 : Int32) (a0 : Nat) (fa0 : yAt T 3 xp0 0 a0) (h : f_X3_cellAt N S xp0 xl1 = some v) : ykP [0, 1, 2, 3, 4, 5, 6, 7] F ev prim (d + 1) 40 T S [.ref a0, .int xl1] (.int v) :=
  ykP.of (pg_40 ev) mi_40 (Nat.le_of_ble_eq_true rfl) (fun hp sz hM => w_X3_cellAt_0 (prim := prim) (d := d) N S xl1 _ rfl hM h)

def f_X4_begin_16 (N : Nat) (S : yS) (t1 : Int32) : Option (Int32 × yS) := sq (yI S 7 9 t1) fun S1 => sq (yI S1 7 1 0) fun S2 => sq (yI S2 7 3 0) fun S3 => sq (yI S3 7 5 0) fun S4 => sq (yI S4 7 6 0) fun S5 => sq (yI S5 7 7 0) fun S6 => gA 61 0 fun j1 => sq (yA S6 7 4 (upd (S6.2.1 7 4) j1 (vp_nar .boolean 0))) fun S7 => some (0, S7)
set_option maxHeartbeats 4000000 in
set_option maxRecDepth 40000 in
theorem w_X4_begin_16 {F : xH} {ev : xEv} {prim : xRel} {d sz : Nat} {T : yT} {v : Int32} {S' : yS} (N : Nat) (S : yS) (t1 : Int32) (hp : xH) (lv : xLv) (a0 : Nat) (b0 : Nat) (fa0 : yAt T 4 7 0 a0) (fb0 : yAt T 4 7 0 b0) (g0 : xG lv 0 = some (.ref a0)) (hM : cR [0, 1, 2, 3, 4, 5, 6, 7] F ev T S hp) (h : f_X4_begin_16 N S t1 = some (v, S')) : yWE ev.2.1 (xstr ev) (xCalls ev xmi (xprog ev) prim (d + 0)) (pX4_begin ev) (16, lv, [.int t1, .ref b0], hp, sz, 0) (ypQ [0, 1, 2, 3, 4, 5, 6, 7] F ev T sz (none) S') := by
  unfold f_X4_begin_16 at h
  obtain ⟨S1, eS1, h⟩ := sq_some h
  refine yw_putI rfl hM fb0 rfl ⟨rfl, rfl⟩ (Nat.le_of_ble_eq_true rfl) rfl rfl (ys_4_9 ev T _ t1) (fun q => absurd q (by decide)) eS1 (fun y1 M1 => ?_)
  refine ye_aload rfl g0 ?_
  refine ye_p rfl rfl ?_
  obtain ⟨S2, eS2, h⟩ := sq_some h
  refine yw_putI rfl M1 fa0 rfl ⟨rfl, rfl⟩ (Nat.le_of_ble_eq_true rfl) rfl rfl (ys_4_1 ev T _ 0) (fun q => absurd q (by decide)) eS2 (fun y2 M2 => ?_)
  refine ye_aload rfl g0 ?_
  refine ye_p rfl rfl ?_
  obtain ⟨S3, eS3, h⟩ := sq_some h
  refine yw_putI rfl M2 fa0 rfl ⟨rfl, rfl⟩ (Nat.le_of_ble_eq_true rfl) rfl rfl (ys_4_3 ev T _ 0) (fun q => absurd q (by decide)) eS3 (fun y3 M3 => ?_)
  refine ye_aload rfl g0 ?_
  refine ye_p rfl rfl ?_
  obtain ⟨S4, eS4, h⟩ := sq_some h
  refine yw_putI rfl M3 fa0 rfl ⟨rfl, rfl⟩ (Nat.le_of_ble_eq_true rfl) rfl rfl (ys_4_5 ev T _ 0) (fun q => absurd q (by decide)) eS4 (fun y4 M4 => ?_)
  refine ye_aload rfl g0 ?_
  refine ye_p rfl rfl ?_
  obtain ⟨S5, eS5, h⟩ := sq_some h
  refine yw_putI rfl M4 fa0 rfl ⟨rfl, rfl⟩ (Nat.le_of_ble_eq_true rfl) rfl rfl (ys_4_6 ev T _ 0) (fun q => absurd q (by decide)) eS5 (fun y5 M5 => ?_)
  refine ye_aload rfl g0 ?_
  refine ye_p rfl rfl ?_
  obtain ⟨S6, eS6, h⟩ := sq_some h
  refine yw_putI rfl M5 fa0 rfl ⟨rfl, rfl⟩ (Nat.le_of_ble_eq_true rfl) rfl rfl (ys_4_7 ev T _ 0) (fun q => absurd q (by decide)) eS6 (fun y6 M6 => ?_)
  refine ye_aload rfl g0 ?_
  refine ye_getr rfl (M6.obj fa0 ⟨rfl, rfl⟩) rfl (fun cx1 ecx1 => ?_)
  have fcx1 := yAt.row fa0 ecx1
  refine ye_p rfl rfl ?_
  refine ye_p rfl rfl ?_
  obtain ⟨j1, ej1, ij1, h⟩ := gA_some h
  obtain ⟨S7, eS7, h⟩ := sq_some h
  refine yw_ast rfl M6 fcx1 yr_4_4 (by decide) ij1 ej1 eS7 (fun y7 M7 => ?_)
  exact ye_ret rfl rfl (rQV h M7)

def f_X4_begin_0 (N : Nat) (S : yS) (l1 : Int32) : Option (Int32 × yS) := sq (yI S 7 8 l1) fun S1 => if ¬ l1 = 2 then f_X4_begin_16 N S1 0 else f_X4_begin_16 N S1 1
set_option maxHeartbeats 4000000 in
set_option maxRecDepth 40000 in
theorem w_X4_begin_0 {F : xH} {ev : xEv} {prim : xRel} {d sz : Nat} {T : yT} {v : Int32} {S' : yS} (N : Nat) (S : yS) (l1 : Int32) (hp : xH) (lv : xLv) (a0 : Nat) (fa0 : yAt T 4 7 0 a0) (g0 : xG lv 0 = some (.ref a0)) (g1 : xG lv 1 = some (.int l1)) (hM : cR [0, 1, 2, 3, 4, 5, 6, 7] F ev T S hp) (h : f_X4_begin_0 N S l1 = some (v, S')) : yWE ev.2.1 (xstr ev) (xCalls ev xmi (xprog ev) prim (d + 0)) (pX4_begin ev) (0, lv, [], hp, sz, 0) (ypQ [0, 1, 2, 3, 4, 5, 6, 7] F ev T sz (none) S') := by
  unfold f_X4_begin_0 at h
  refine ye_aload rfl g0 ?_
  refine ye_iload rfl g1 ?_
  obtain ⟨S1, eS1, h⟩ := sq_some h
  refine yw_putI rfl hM fa0 rfl ⟨rfl, rfl⟩ (Nat.le_of_ble_eq_true rfl) rfl rfl (ys_4_8 ev T _ l1) (fun q => absurd q (by decide)) eS1 (fun y1 M1 => ?_)
  refine ye_aload rfl g0 ?_
  refine ye_iload rfl g1 ?_
  refine ye_p rfl rfl ?_
  refine ye_icmp_ne rfl (fun h1 => ?_) (fun h1 => ?_)
  · replace h := yiT h1 h
    refine ye_p rfl rfl ?_
    exact w_X4_begin_16 (prim := prim) (d := d) N S1 0 y1 lv a0 a0 fa0 fa0 g0 M1 h
  · replace h := yiN h1 h
    refine ye_p rfl rfl ?_
    refine ye_p rfl rfl ?_
    exact w_X4_begin_16 (prim := prim) (d := d) N S1 1 y1 lv a0 a0 fa0 fa0 g0 M1 h
def f_X4_begin (N : Nat) (S : yS) (xl1 : Int32) : Option (Int32 × yS) := f_X4_begin_0 N S xl1
theorem m_X4_begin {F : xH} {ev : xEv} {prim : xRel} {d : Nat} {T : yT} {v : Int32} {S' : yS} (N : Nat) (S : yS) (xl1 : Int32) (a0 : Nat) (fa0 : yAt T 4 7 0 a0) (h : f_X4_begin N S xl1 = some (v, S')) : ykQ [0, 1, 2, 3, 4, 5, 6, 7] F ev prim (d + 1) 43 T S [.ref a0, .int xl1] (none) S' :=
  ykQ.of (pg_43 ev) mi_43 (Nat.le_of_ble_eq_true rfl) (fun hp sz hM => w_X4_begin_0 (prim := prim) (d := d) N S xl1 hp _ a0 fa0 rfl rfl hM h)

def f_X4_mayEnd_35 (N : Nat) (S : yS) (t0 : Int32) : Option Int32 := gP (t0 = 0 ∨ t0 = 1) (some t0)
set_option maxHeartbeats 4000000 in
set_option maxRecDepth 40000 in
theorem w_X4_mayEnd_35 {F : xH} {ev : xEv} {prim : xRel} {d sz : Nat} {T : yT} {v : Int32} {hp : xH} (N : Nat) (S : yS) (t0 : Int32) (lv : xLv) (hM : cR [0, 1, 2, 3, 4, 5, 6, 7] F ev T S hp) (h : f_X4_mayEnd_35 N S t0 = some v) : yWE ev.2.1 (xstr ev) (xCalls ev xmi (xprog ev) prim (d + 0)) (pX4_mayEnd ev) (35, lv, [.int t0], hp, sz, 0) (ypP hp sz (.int v)) := by
  unfold f_X4_mayEnd_35 at h
  obtain ⟨i1, h⟩ := gP_some h
  exact ye_ret rfl (if_pos (zb_nar i1)) (rP h)

def f_X4_mayEnd_34 (N : Nat) (S : yS) : Option Int32 := f_X4_mayEnd_35 N S 0
set_option maxHeartbeats 4000000 in
set_option maxRecDepth 40000 in
theorem w_X4_mayEnd_34 {F : xH} {ev : xEv} {prim : xRel} {d sz : Nat} {T : yT} {v : Int32} {hp : xH} (N : Nat) (S : yS) (lv : xLv) (hM : cR [0, 1, 2, 3, 4, 5, 6, 7] F ev T S hp) (h : f_X4_mayEnd_34 N S = some v) : yWE ev.2.1 (xstr ev) (xCalls ev xmi (xprog ev) prim (d + 0)) (pX4_mayEnd ev) (34, lv, [], hp, sz, 0) (ypP hp sz (.int v)) := by
  unfold f_X4_mayEnd_34 at h
  refine ye_p rfl rfl ?_
  exact w_X4_mayEnd_35 (prim := prim) (d := d) N S 0 lv hM h

def f_X4_mayEnd_49 (N : Nat) (S : yS) (t0 : Int32) : Option Int32 := gP (t0 = 0 ∨ t0 = 1) (some t0)
set_option maxHeartbeats 4000000 in
set_option maxRecDepth 40000 in
theorem w_X4_mayEnd_49 {F : xH} {ev : xEv} {prim : xRel} {d sz : Nat} {T : yT} {v : Int32} {hp : xH} (N : Nat) (S : yS) (t0 : Int32) (lv : xLv) (hM : cR [0, 1, 2, 3, 4, 5, 6, 7] F ev T S hp) (h : f_X4_mayEnd_49 N S t0 = some v) : yWE ev.2.1 (xstr ev) (xCalls ev xmi (xprog ev) prim (d + 0)) (pX4_mayEnd ev) (49, lv, [.int t0], hp, sz, 0) (ypP hp sz (.int v)) := by
  unfold f_X4_mayEnd_49 at h
  obtain ⟨i1, h⟩ := gP_some h
  exact ye_ret rfl (if_pos (zb_nar i1)) (rP h)

def f_X4_mayEnd_0 (N : Nat) (S : yS) : Option Int32 := if ¬ (S.1 7 8) = 2 then if ¬ (S.1 7 9) = 4 then f_X4_mayEnd_49 N S 0 else f_X4_mayEnd_49 N S 1 else if ¬ (S.1 7 9) = 2 then f_X4_mayEnd_34 N S else if ¬ (S.1 7 5) = 0 then f_X4_mayEnd_34 N S else if ¬ (S.1 7 7) = 0 then f_X4_mayEnd_34 N S else f_X4_mayEnd_35 N S 1
set_option maxHeartbeats 4000000 in
set_option maxRecDepth 40000 in
theorem w_X4_mayEnd_0 {F : xH} {ev : xEv} {prim : xRel} {d sz : Nat} {T : yT} {v : Int32} {hp : xH} (N : Nat) (S : yS) (lv : xLv) (a0 : Nat) (fa0 : yAt T 4 7 0 a0) (g0 : xG lv 0 = some (.ref a0)) (hM : cR [0, 1, 2, 3, 4, 5, 6, 7] F ev T S hp) (h : f_X4_mayEnd_0 N S = some v) : yWE ev.2.1 (xstr ev) (xCalls ev xmi (xprog ev) prim (d + 0)) (pX4_mayEnd ev) (0, lv, [], hp, sz, 0) (ypP hp sz (.int v)) := by
  unfold f_X4_mayEnd_0 at h
  refine ye_aload rfl g0 ?_
  refine ye_getf rfl (hM.obj fa0 ⟨rfl, rfl⟩) rfl ?_
  refine ye_p rfl rfl ?_
  refine ye_icmp_ne rfl (fun h1 => ?_) (fun h1 => ?_)
  · replace h := yiT h1 h
    refine ye_aload rfl g0 ?_
    refine ye_getf rfl (hM.obj fa0 ⟨rfl, rfl⟩) rfl ?_
    refine ye_p rfl rfl ?_
    refine ye_icmp_ne rfl (fun h2 => ?_) (fun h2 => ?_)
    · replace h := yiT h2 h
      refine ye_p rfl rfl ?_
      exact w_X4_mayEnd_49 (prim := prim) (d := d) N S 0 lv hM h
    · replace h := yiN h2 h
      refine ye_p rfl rfl ?_
      refine ye_p rfl rfl ?_
      exact w_X4_mayEnd_49 (prim := prim) (d := d) N S 1 lv hM h
  · replace h := yiN h1 h
    refine ye_aload rfl g0 ?_
    refine ye_getf rfl (hM.obj fa0 ⟨rfl, rfl⟩) rfl ?_
    refine ye_p rfl rfl ?_
    refine ye_icmp_ne rfl (fun h3 => ?_) (fun h3 => ?_)
    · replace h := yiT h3 h
      exact w_X4_mayEnd_34 (prim := prim) (d := d) N S lv hM h
    · replace h := yiN h3 h
      refine ye_aload rfl g0 ?_
      refine ye_getf rfl (hM.obj fa0 ⟨rfl, rfl⟩) rfl ?_
      refine ye_if_ne rfl (fun h4 => ?_) (fun h4 => ?_)
      · replace h := yiT h4 h
        exact w_X4_mayEnd_34 (prim := prim) (d := d) N S lv hM h
      · replace h := yiN h4 h
        refine ye_aload rfl g0 ?_
        refine ye_getf rfl (hM.obj fa0 ⟨rfl, rfl⟩) rfl ?_
        refine ye_if_ne rfl (fun h5 => ?_) (fun h5 => ?_)
        · replace h := yiT h5 h
          exact w_X4_mayEnd_34 (prim := prim) (d := d) N S lv hM h
        · replace h := yiN h5 h
          refine ye_p rfl rfl ?_
          refine ye_p rfl rfl ?_
          exact w_X4_mayEnd_35 (prim := prim) (d := d) N S 1 lv hM h
def f_X4_mayEnd (N : Nat) (S : yS) : Option Int32 := f_X4_mayEnd_0 N S
theorem m_X4_mayEnd {F : xH} {ev : xEv} {prim : xRel} {d : Nat} {T : yT} {v : Int32} (N : Nat) (S : yS) (a0 : Nat) (fa0 : yAt T 4 7 0 a0) (h : f_X4_mayEnd N S = some v) : ykP [0, 1, 2, 3, 4, 5, 6, 7] F ev prim (d + 1) 44 T S [.ref a0] (.int v) :=
  ykP.of (pg_44 ev) mi_44 (Nat.le_of_ble_eq_true rfl) (fun hp sz hM => w_X4_mayEnd_0 (prim := prim) (d := d) N S _ a0 fa0 rfl hM h)

def f_X4_takesNextDigit_16 (N : Nat) (S : yS) : Option (Int32 × yS) := some (0, S)
set_option maxHeartbeats 4000000 in
set_option maxRecDepth 40000 in
theorem w_X4_takesNextDigit_16 {F : xH} {ev : xEv} {prim : xRel} {d sz : Nat} {T : yT} {v : Int32} {S' : yS} (N : Nat) (S : yS) (hp : xH) (lv : xLv) (hM : cR [0, 1, 2, 3, 4, 5, 6, 7] F ev T S hp) (h : f_X4_takesNextDigit_16 N S = some (v, S')) : yWE ev.2.1 (xstr ev) (xCalls ev xmi (xprog ev) prim (d + 0)) (pX4_takesNextDigit ev) (16, lv, [], hp, sz, 0) (ypQ [0, 1, 2, 3, 4, 5, 6, 7] F ev T sz (some (.int v)) S') := by
  unfold f_X4_takesNextDigit_16 at h
  refine ye_p rfl rfl ?_
  exact ye_ret rfl rfl (rQ h hM)

def f_X4_takesNextDigit_0 (N : Nat) (S : yS) (l1 : Int32) : Option (Int32 × yS) := if 3 ≤ (S.1 7 6) then f_X4_takesNextDigit_16 N S else if 1 ≤ (S.1 7 1) then gA 60 ((S.1 7 1) - 1) fun j1 => gA 60 ((S.1 7 1) - 1) fun j2 => sq (yA S 7 0 (upd (S.2.1 7 0) j2 (((S.2.1 7 0 j1) * 10) + l1))) fun S1 => sq (yI S1 7 6 ((S1.1 7 6) + 1)) fun S2 => some (1, S2) else f_X4_takesNextDigit_16 N S
set_option maxHeartbeats 4000000 in
set_option maxRecDepth 40000 in
theorem w_X4_takesNextDigit_0 {F : xH} {ev : xEv} {prim : xRel} {d sz : Nat} {T : yT} {v : Int32} {S' : yS} (N : Nat) (S : yS) (l1 : Int32) (hp : xH) (lv : xLv) (a0 : Nat) (fa0 : yAt T 4 7 0 a0) (g0 : xG lv 0 = some (.ref a0)) (g1 : xG lv 1 = some (.int l1)) (hM : cR [0, 1, 2, 3, 4, 5, 6, 7] F ev T S hp) (h : f_X4_takesNextDigit_0 N S l1 = some (v, S')) : yWE ev.2.1 (xstr ev) (xCalls ev xmi (xprog ev) prim (d + 0)) (pX4_takesNextDigit ev) (0, lv, [], hp, sz, 0) (ypQ [0, 1, 2, 3, 4, 5, 6, 7] F ev T sz (some (.int v)) S') := by
  unfold f_X4_takesNextDigit_0 at h
  refine ye_aload rfl g0 ?_
  refine ye_getf rfl (hM.obj fa0 ⟨rfl, rfl⟩) rfl ?_
  refine ye_p rfl rfl ?_
  refine ye_icmp_ge rfl (fun h1 => ?_) (fun h1 => ?_)
  · replace h := yiT h1 h
    exact w_X4_takesNextDigit_16 (prim := prim) (d := d) N S hp lv hM h
  · replace h := yiN h1 h
    refine ye_aload rfl g0 ?_
    refine ye_getf rfl (hM.obj fa0 ⟨rfl, rfl⟩) rfl ?_
    refine ye_p rfl rfl ?_
    refine ye_icmp_ge rfl (fun h2 => ?_) (fun h2 => ?_)
    · replace h := yiT h2 h
      refine ye_aload rfl g0 ?_
      refine ye_getr rfl (hM.obj fa0 ⟨rfl, rfl⟩) rfl (fun cx1 ecx1 => ?_)
      have fcx1 := yAt.row fa0 ecx1
      refine ye_aload rfl g0 ?_
      refine ye_getf rfl (hM.obj fa0 ⟨rfl, rfl⟩) rfl ?_
      refine ye_p rfl rfl ?_
      refine ye_p rfl rfl ?_
      refine ye_aload rfl g0 ?_
      refine ye_getr rfl (hM.obj fa0 ⟨rfl, rfl⟩) rfl (fun cx2 ecx2 => ?_)
      have fcx2 := yAt.row fa0 ecx2
      refine ye_aload rfl g0 ?_
      refine ye_getf rfl (hM.obj fa0 ⟨rfl, rfl⟩) rfl ?_
      refine ye_p rfl rfl ?_
      refine ye_p rfl rfl ?_
      obtain ⟨j1, ej1, ij1, h⟩ := gA_some h
      refine yj_ald rfl (hM.arr fcx2 yr_4_0) ij1 ej1 ?_
      refine ye_p rfl rfl ?_
      refine ye_p rfl rfl ?_
      refine ye_iload rfl g1 ?_
      refine ye_p rfl rfl ?_
      obtain ⟨j2, ej2, ij2, h⟩ := gA_some h
      obtain ⟨S1, eS1, h⟩ := sq_some h
      refine yw_ast rfl hM fcx1 yr_4_0 (by decide) ij2 ej2 eS1 (fun y1 M1 => ?_)
      refine ye_aload rfl g0 ?_
      refine ye_p rfl rfl ?_
      refine ye_getf rfl (M1.obj fa0 ⟨rfl, rfl⟩) rfl ?_
      refine ye_p rfl rfl ?_
      refine ye_p rfl rfl ?_
      obtain ⟨S2, eS2, h⟩ := sq_some h
      refine yw_putI rfl M1 fa0 rfl ⟨rfl, rfl⟩ (Nat.le_of_ble_eq_true rfl) rfl rfl (ys_4_6 ev T _ ((S1.1 7 6) + 1)) (fun q => absurd q (by decide)) eS2 (fun y2 M2 => ?_)
      refine ye_p rfl rfl ?_
      exact ye_ret rfl rfl (rQ h M2)
    · replace h := yiN h2 h
      exact w_X4_takesNextDigit_16 (prim := prim) (d := d) N S hp lv hM h
def f_X4_takesNextDigit (N : Nat) (S : yS) (xl1 : Int32) : Option (Int32 × yS) := f_X4_takesNextDigit_0 N S xl1
theorem m_X4_takesNextDigit {F : xH} {ev : xEv} {prim : xRel} {d : Nat} {T : yT} {v : Int32} {S' : yS} (N : Nat) (S : yS) (xl1 : Int32) (a0 : Nat) (fa0 : yAt T 4 7 0 a0) (h : f_X4_takesNextDigit N S xl1 = some (v, S')) : ykQ [0, 1, 2, 3, 4, 5, 6, 7] F ev prim (d + 1) 49 T S [.ref a0, .int xl1] (some (.int v)) S' :=
  ykQ.of (pg_49 ev) mi_49 (Nat.le_of_ble_eq_true rfl) (fun hp sz hM => w_X4_takesNextDigit_0 (prim := prim) (d := d) N S xl1 hp _ a0 fa0 rfl rfl hM h)

def f_X4_takeNoDigits_0 (N : Nat) (S : yS) : Option (Int32 × yS) := sq (yI S 7 6 3) fun S1 => some (0, S1)
set_option maxHeartbeats 4000000 in
set_option maxRecDepth 40000 in
theorem w_X4_takeNoDigits_0 {F : xH} {ev : xEv} {prim : xRel} {d sz : Nat} {T : yT} {v : Int32} {S' : yS} (N : Nat) (S : yS) (hp : xH) (lv : xLv) (a0 : Nat) (fa0 : yAt T 4 7 0 a0) (g0 : xG lv 0 = some (.ref a0)) (hM : cR [0, 1, 2, 3, 4, 5, 6, 7] F ev T S hp) (h : f_X4_takeNoDigits_0 N S = some (v, S')) : yWE ev.2.1 (xstr ev) (xCalls ev xmi (xprog ev) prim (d + 0)) (pX4_takeNoDigits ev) (0, lv, [], hp, sz, 0) (ypQ [0, 1, 2, 3, 4, 5, 6, 7] F ev T sz (none) S') := by
  unfold f_X4_takeNoDigits_0 at h
  refine ye_aload rfl g0 ?_
  refine ye_p rfl rfl ?_
  obtain ⟨S1, eS1, h⟩ := sq_some h
  refine yw_putI rfl hM fa0 rfl ⟨rfl, rfl⟩ (Nat.le_of_ble_eq_true rfl) rfl rfl (ys_4_6 ev T _ 3) (fun q => absurd q (by decide)) eS1 (fun y1 M1 => ?_)
  exact ye_ret rfl rfl (rQV h M1)
def f_X4_takeNoDigits (N : Nat) (S : yS) : Option (Int32 × yS) := f_X4_takeNoDigits_0 N S
theorem m_X4_takeNoDigits {F : xH} {ev : xEv} {prim : xRel} {d : Nat} {T : yT} {v : Int32} {S' : yS} (N : Nat) (S : yS) (a0 : Nat) (fa0 : yAt T 4 7 0 a0) (h : f_X4_takeNoDigits N S = some (v, S')) : ykQ [0, 1, 2, 3, 4, 5, 6, 7] F ev prim (d + 1) 50 T S [.ref a0] (none) S' :=
  ykQ.of (pg_50 ev) mi_50 (Nat.le_of_ble_eq_true rfl) (fun hp sz hM => w_X4_takeNoDigits_0 (prim := prim) (d := d) N S hp _ a0 fa0 rfl hM h)

def f_X4_hold_32 (N : Nat) (S : yS) : Option (Int32 × yS) := some (0, S)
set_option maxHeartbeats 4000000 in
set_option maxRecDepth 40000 in
theorem w_X4_hold_32 {F : xH} {ev : xEv} {prim : xRel} {d sz : Nat} {T : yT} {v : Int32} {S' : yS} (N : Nat) (S : yS) (hp : xH) (lv : xLv) (hM : cR [0, 1, 2, 3, 4, 5, 6, 7] F ev T S hp) (h : f_X4_hold_32 N S = some (v, S')) : yWE ev.2.1 (xstr ev) (xCalls ev xmi (xprog ev) prim (d + 0)) (pX4_hold ev) (32, lv, [], hp, sz, 0) (ypQ [0, 1, 2, 3, 4, 5, 6, 7] F ev T sz (none) S') := by
  unfold f_X4_hold_32 at h
  exact ye_ret rfl rfl (rQV h hM)

def f_X4_hold_0 (N : Nat) (S : yS) (l1 : Int32) : Option (Int32 × yS) := if (Int32.ofNat 60) ≤ (S.1 7 3) then f_X4_hold_32 N S else gA 60 (S.1 7 3) fun j1 => sq (yA S 7 2 (upd (S.2.1 7 2) j1 l1)) fun S1 => sq (yI S1 7 3 ((S1.1 7 3) + 1)) fun S2 => f_X4_hold_32 N S2
set_option maxHeartbeats 4000000 in
set_option maxRecDepth 40000 in
theorem w_X4_hold_0 {F : xH} {ev : xEv} {prim : xRel} {d sz : Nat} {T : yT} {v : Int32} {S' : yS} (N : Nat) (S : yS) (l1 : Int32) (hp : xH) (lv : xLv) (a0 : Nat) (fa0 : yAt T 4 7 0 a0) (g0 : xG lv 0 = some (.ref a0)) (g1 : xG lv 1 = some (.int l1)) (hM : cR [0, 1, 2, 3, 4, 5, 6, 7] F ev T S hp) (h : f_X4_hold_0 N S l1 = some (v, S')) : yWE ev.2.1 (xstr ev) (xCalls ev xmi (xprog ev) prim (d + 0)) (pX4_hold ev) (0, lv, [], hp, sz, 0) (ypQ [0, 1, 2, 3, 4, 5, 6, 7] F ev T sz (none) S') := by
  unfold f_X4_hold_0 at h
  refine ye_aload rfl g0 ?_
  refine ye_getf rfl (hM.obj fa0 ⟨rfl, rfl⟩) rfl ?_
  refine ye_aload rfl g0 ?_
  refine ye_getr rfl (hM.obj fa0 ⟨rfl, rfl⟩) rfl (fun cx1 ecx1 => ?_)
  have fcx1 := yAt.row fa0 ecx1
  refine ye_alen rfl (hM.arr fcx1 yr_4_2) ?_
  refine ye_icmp_ge rfl (fun h1 => ?_) (fun h1 => ?_)
  · replace h := yiT h1 h
    exact w_X4_hold_32 (prim := prim) (d := d) N S hp lv hM h
  · replace h := yiN h1 h
    refine ye_aload rfl g0 ?_
    refine ye_getr rfl (hM.obj fa0 ⟨rfl, rfl⟩) rfl (fun cx2 ecx2 => ?_)
    have fcx2 := yAt.row fa0 ecx2
    refine ye_aload rfl g0 ?_
    refine ye_getf rfl (hM.obj fa0 ⟨rfl, rfl⟩) rfl ?_
    refine ye_iload rfl g1 ?_
    obtain ⟨j1, ej1, ij1, h⟩ := gA_some h
    obtain ⟨S1, eS1, h⟩ := sq_some h
    refine yw_ast rfl hM fcx2 yr_4_2 (by decide) ij1 ej1 eS1 (fun y1 M1 => ?_)
    refine ye_aload rfl g0 ?_
    refine ye_p rfl rfl ?_
    refine ye_getf rfl (M1.obj fa0 ⟨rfl, rfl⟩) rfl ?_
    refine ye_p rfl rfl ?_
    refine ye_p rfl rfl ?_
    obtain ⟨S2, eS2, h⟩ := sq_some h
    refine yw_putI rfl M1 fa0 rfl ⟨rfl, rfl⟩ (Nat.le_of_ble_eq_true rfl) rfl rfl (ys_4_3 ev T _ ((S1.1 7 3) + 1)) (fun q => absurd q (by decide)) eS2 (fun y2 M2 => ?_)
    exact w_X4_hold_32 (prim := prim) (d := d) N S2 y2 lv M2 h
def f_X4_hold (N : Nat) (S : yS) (xl1 : Int32) : Option (Int32 × yS) := f_X4_hold_0 N S xl1
theorem m_X4_hold {F : xH} {ev : xEv} {prim : xRel} {d : Nat} {T : yT} {v : Int32} {S' : yS} (N : Nat) (S : yS) (xl1 : Int32) (a0 : Nat) (fa0 : yAt T 4 7 0 a0) (h : f_X4_hold N S xl1 = some (v, S')) : ykQ [0, 1, 2, 3, 4, 5, 6, 7] F ev prim (d + 1) 58 T S [.ref a0, .int xl1] (none) S' :=
  ykQ.of (pg_58 ev) mi_58 (Nat.le_of_ble_eq_true rfl) (fun hp sz hM => w_X4_hold_0 (prim := prim) (d := d) N S xl1 hp _ a0 fa0 rfl rfl hM h)

def f_X4_drop_17 (N : Nat) (S : yS) : Option (Int32 × yS) := some (0, S)
set_option maxHeartbeats 4000000 in
set_option maxRecDepth 40000 in
theorem w_X4_drop_17 {F : xH} {ev : xEv} {prim : xRel} {d sz : Nat} {T : yT} {v : Int32} {S' : yS} (N : Nat) (S : yS) (hp : xH) (lv : xLv) (hM : cR [0, 1, 2, 3, 4, 5, 6, 7] F ev T S hp) (h : f_X4_drop_17 N S = some (v, S')) : yWE ev.2.1 (xstr ev) (xCalls ev xmi (xprog ev) prim (d + 0)) (pX4_drop ev) (17, lv, [], hp, sz, 0) (ypQ [0, 1, 2, 3, 4, 5, 6, 7] F ev T sz (none) S') := by
  unfold f_X4_drop_17 at h
  exact ye_ret rfl rfl (rQV h hM)

def f_X4_drop_0 (N : Nat) (S : yS) : Option (Int32 × yS) := if (S.1 7 3) ≤ 0 then f_X4_drop_17 N S else sq (yI S 7 3 ((S.1 7 3) - 1)) fun S1 => f_X4_drop_17 N S1
set_option maxHeartbeats 4000000 in
set_option maxRecDepth 40000 in
theorem w_X4_drop_0 {F : xH} {ev : xEv} {prim : xRel} {d sz : Nat} {T : yT} {v : Int32} {S' : yS} (N : Nat) (S : yS) (hp : xH) (lv : xLv) (a0 : Nat) (fa0 : yAt T 4 7 0 a0) (g0 : xG lv 0 = some (.ref a0)) (hM : cR [0, 1, 2, 3, 4, 5, 6, 7] F ev T S hp) (h : f_X4_drop_0 N S = some (v, S')) : yWE ev.2.1 (xstr ev) (xCalls ev xmi (xprog ev) prim (d + 0)) (pX4_drop ev) (0, lv, [], hp, sz, 0) (ypQ [0, 1, 2, 3, 4, 5, 6, 7] F ev T sz (none) S') := by
  unfold f_X4_drop_0 at h
  refine ye_aload rfl g0 ?_
  refine ye_getf rfl (hM.obj fa0 ⟨rfl, rfl⟩) rfl ?_
  refine ye_if_le rfl (fun h1 => ?_) (fun h1 => ?_)
  · replace h := yiT h1 h
    exact w_X4_drop_17 (prim := prim) (d := d) N S hp lv hM h
  · replace h := yiN h1 h
    refine ye_aload rfl g0 ?_
    refine ye_p rfl rfl ?_
    refine ye_getf rfl (hM.obj fa0 ⟨rfl, rfl⟩) rfl ?_
    refine ye_p rfl rfl ?_
    refine ye_p rfl rfl ?_
    obtain ⟨S1, eS1, h⟩ := sq_some h
    refine yw_putI rfl hM fa0 rfl ⟨rfl, rfl⟩ (Nat.le_of_ble_eq_true rfl) rfl rfl (ys_4_3 ev T _ ((S.1 7 3) - 1)) (fun q => absurd q (by decide)) eS1 (fun y1 M1 => ?_)
    exact w_X4_drop_17 (prim := prim) (d := d) N S1 y1 lv M1 h
def f_X4_drop (N : Nat) (S : yS) : Option (Int32 × yS) := f_X4_drop_0 N S
theorem m_X4_drop {F : xH} {ev : xEv} {prim : xRel} {d : Nat} {T : yT} {v : Int32} {S' : yS} (N : Nat) (S : yS) (a0 : Nat) (fa0 : yAt T 4 7 0 a0) (h : f_X4_drop N S = some (v, S')) : ykQ [0, 1, 2, 3, 4, 5, 6, 7] F ev prim (d + 1) 59 T S [.ref a0] (none) S' :=
  ykQ.of (pg_59 ev) mi_59 (Nat.le_of_ble_eq_true rfl) (fun hp sz hM => w_X4_drop_0 (prim := prim) (d := d) N S hp _ a0 fa0 rfl hM h)

def f_X4_write_32 (N : Nat) (S : yS) : Option (Int32 × yS) := some (0, S)
set_option maxHeartbeats 4000000 in
set_option maxRecDepth 40000 in
theorem w_X4_write_32 {F : xH} {ev : xEv} {prim : xRel} {d sz : Nat} {T : yT} {v : Int32} {S' : yS} (N : Nat) (S : yS) (hp : xH) (lv : xLv) (hM : cR [0, 1, 2, 3, 4, 5, 6, 7] F ev T S hp) (h : f_X4_write_32 N S = some (v, S')) : yWE ev.2.1 (xstr ev) (xCalls ev xmi (xprog ev) prim (d + 0)) (pX4_write ev) (32, lv, [], hp, sz, 0) (ypQ [0, 1, 2, 3, 4, 5, 6, 7] F ev T sz (none) S') := by
  unfold f_X4_write_32 at h
  exact ye_ret rfl rfl (rQV h hM)

def f_X4_write_0 (N : Nat) (S : yS) (l1 : Int32) : Option (Int32 × yS) := if (Int32.ofNat 60) ≤ (S.1 7 1) then f_X4_write_32 N S else gA 60 (S.1 7 1) fun j1 => sq (yA S 7 0 (upd (S.2.1 7 0) j1 l1)) fun S1 => sq (yI S1 7 1 ((S1.1 7 1) + 1)) fun S2 => f_X4_write_32 N S2
set_option maxHeartbeats 4000000 in
set_option maxRecDepth 40000 in
theorem w_X4_write_0 {F : xH} {ev : xEv} {prim : xRel} {d sz : Nat} {T : yT} {v : Int32} {S' : yS} (N : Nat) (S : yS) (l1 : Int32) (hp : xH) (lv : xLv) (a0 : Nat) (fa0 : yAt T 4 7 0 a0) (g0 : xG lv 0 = some (.ref a0)) (g1 : xG lv 1 = some (.int l1)) (hM : cR [0, 1, 2, 3, 4, 5, 6, 7] F ev T S hp) (h : f_X4_write_0 N S l1 = some (v, S')) : yWE ev.2.1 (xstr ev) (xCalls ev xmi (xprog ev) prim (d + 0)) (pX4_write ev) (0, lv, [], hp, sz, 0) (ypQ [0, 1, 2, 3, 4, 5, 6, 7] F ev T sz (none) S') := by
  unfold f_X4_write_0 at h
  refine ye_aload rfl g0 ?_
  refine ye_getf rfl (hM.obj fa0 ⟨rfl, rfl⟩) rfl ?_
  refine ye_aload rfl g0 ?_
  refine ye_getr rfl (hM.obj fa0 ⟨rfl, rfl⟩) rfl (fun cx1 ecx1 => ?_)
  have fcx1 := yAt.row fa0 ecx1
  refine ye_alen rfl (hM.arr fcx1 yr_4_0) ?_
  refine ye_icmp_ge rfl (fun h1 => ?_) (fun h1 => ?_)
  · replace h := yiT h1 h
    exact w_X4_write_32 (prim := prim) (d := d) N S hp lv hM h
  · replace h := yiN h1 h
    refine ye_aload rfl g0 ?_
    refine ye_getr rfl (hM.obj fa0 ⟨rfl, rfl⟩) rfl (fun cx2 ecx2 => ?_)
    have fcx2 := yAt.row fa0 ecx2
    refine ye_aload rfl g0 ?_
    refine ye_getf rfl (hM.obj fa0 ⟨rfl, rfl⟩) rfl ?_
    refine ye_iload rfl g1 ?_
    obtain ⟨j1, ej1, ij1, h⟩ := gA_some h
    obtain ⟨S1, eS1, h⟩ := sq_some h
    refine yw_ast rfl hM fcx2 yr_4_0 (by decide) ij1 ej1 eS1 (fun y1 M1 => ?_)
    refine ye_aload rfl g0 ?_
    refine ye_p rfl rfl ?_
    refine ye_getf rfl (M1.obj fa0 ⟨rfl, rfl⟩) rfl ?_
    refine ye_p rfl rfl ?_
    refine ye_p rfl rfl ?_
    obtain ⟨S2, eS2, h⟩ := sq_some h
    refine yw_putI rfl M1 fa0 rfl ⟨rfl, rfl⟩ (Nat.le_of_ble_eq_true rfl) rfl rfl (ys_4_1 ev T _ ((S1.1 7 1) + 1)) (fun q => absurd q (by decide)) eS2 (fun y2 M2 => ?_)
    exact w_X4_write_32 (prim := prim) (d := d) N S2 y2 lv M2 h
def f_X4_write (N : Nat) (S : yS) (xl1 : Int32) : Option (Int32 × yS) := f_X4_write_0 N S xl1
theorem m_X4_write {F : xH} {ev : xEv} {prim : xRel} {d : Nat} {T : yT} {v : Int32} {S' : yS} (N : Nat) (S : yS) (xl1 : Int32) (a0 : Nat) (fa0 : yAt T 4 7 0 a0) (h : f_X4_write N S xl1 = some (v, S')) : ykQ [0, 1, 2, 3, 4, 5, 6, 7] F ev prim (d + 1) 60 T S [.ref a0, .int xl1] (none) S' :=
  ykQ.of (pg_60 ev) mi_60 (Nat.le_of_ble_eq_true rfl) (fun hp sz hM => w_X4_write_0 (prim := prim) (d := d) N S xl1 hp _ a0 fa0 rfl rfl hM h)

def f_X4_isDigit_17 (N : Nat) (S : yS) (t0 : Int32) : Option Int32 := gP (t0 = 0 ∨ t0 = 1) (some t0)
set_option maxHeartbeats 4000000 in
set_option maxRecDepth 40000 in
theorem w_X4_isDigit_17 {F : xH} {ev : xEv} {prim : xRel} {d sz : Nat} {T : yT} {v : Int32} {hp : xH} (N : Nat) (S : yS) (t0 : Int32) (lv : xLv) (hM : cR [0, 1, 2, 3, 4, 5, 6, 7] F ev T S hp) (h : f_X4_isDigit_17 N S t0 = some v) : yWE ev.2.1 (xstr ev) (xCalls ev xmi (xprog ev) prim (d + 0)) (pX4_isDigit ev) (17, lv, [.int t0], hp, sz, 0) (ypP hp sz (.int v)) := by
  unfold f_X4_isDigit_17 at h
  obtain ⟨i1, h⟩ := gP_some h
  exact ye_ret rfl (if_pos (zb_nar i1)) (rP h)

def f_X4_isDigit_16 (N : Nat) (S : yS) : Option Int32 := f_X4_isDigit_17 N S 0
set_option maxHeartbeats 4000000 in
set_option maxRecDepth 40000 in
theorem w_X4_isDigit_16 {F : xH} {ev : xEv} {prim : xRel} {d sz : Nat} {T : yT} {v : Int32} {hp : xH} (N : Nat) (S : yS) (lv : xLv) (hM : cR [0, 1, 2, 3, 4, 5, 6, 7] F ev T S hp) (h : f_X4_isDigit_16 N S = some v) : yWE ev.2.1 (xstr ev) (xCalls ev xmi (xprog ev) prim (d + 0)) (pX4_isDigit ev) (16, lv, [], hp, sz, 0) (ypP hp sz (.int v)) := by
  unfold f_X4_isDigit_16 at h
  refine ye_p rfl rfl ?_
  exact w_X4_isDigit_17 (prim := prim) (d := d) N S 0 lv hM h

def f_X4_isDigit_0 (N : Nat) (S : yS) (l0 : Int32) : Option Int32 := if l0 < 48 then f_X4_isDigit_16 N S else if 57 < l0 then f_X4_isDigit_16 N S else f_X4_isDigit_17 N S 1
set_option maxHeartbeats 4000000 in
set_option maxRecDepth 40000 in
theorem w_X4_isDigit_0 {F : xH} {ev : xEv} {prim : xRel} {d sz : Nat} {T : yT} {v : Int32} {hp : xH} (N : Nat) (S : yS) (l0 : Int32) (lv : xLv) (g0 : xG lv 0 = some (.int l0)) (hM : cR [0, 1, 2, 3, 4, 5, 6, 7] F ev T S hp) (h : f_X4_isDigit_0 N S l0 = some v) : yWE ev.2.1 (xstr ev) (xCalls ev xmi (xprog ev) prim (d + 0)) (pX4_isDigit ev) (0, lv, [], hp, sz, 0) (ypP hp sz (.int v)) := by
  unfold f_X4_isDigit_0 at h
  refine ye_iload rfl g0 ?_
  refine ye_p rfl rfl ?_
  refine ye_icmp_lt rfl (fun h1 => ?_) (fun h1 => ?_)
  · replace h := yiT h1 h
    exact w_X4_isDigit_16 (prim := prim) (d := d) N S lv hM h
  · replace h := yiN h1 h
    refine ye_iload rfl g0 ?_
    refine ye_p rfl rfl ?_
    refine ye_icmp_gt rfl (fun h2 => ?_) (fun h2 => ?_)
    · replace h := yiT h2 h
      exact w_X4_isDigit_16 (prim := prim) (d := d) N S lv hM h
    · replace h := yiN h2 h
      refine ye_p rfl rfl ?_
      refine ye_p rfl rfl ?_
      exact w_X4_isDigit_17 (prim := prim) (d := d) N S 1 lv hM h
def f_X4_isDigit (N : Nat) (S : yS) (xl0 : Int32) : Option Int32 := f_X4_isDigit_0 N S xl0
theorem m_X4_isDigit {F : xH} {ev : xEv} {prim : xRel} {d : Nat} {T : yT} {v : Int32} (N : Nat) (S : yS) (xl0 : Int32) (h : f_X4_isDigit N S xl0 = some v) : ykP [0, 1, 2, 3, 4, 5, 6, 7] F ev prim (d + 1) 61 T S [.int xl0] (.int v) :=
  ykP.of (pg_61 ev) mi_61 (Nat.le_of_ble_eq_true rfl) (fun hp sz hM => w_X4_isDigit_0 (prim := prim) (d := d) N S xl0 _ rfl hM h)

def f_X4_strengthOf_0 (N : Nat) (S : yS) (l0 : Int32) : Option Int32 := if l0 = 33 then some 6 else if l0 = 38 then some 2 else if l0 = 42 then some 5 else if l0 = 43 then some 4 else if l0 = 45 then some 4 else if l0 = 60 then some 3 else if l0 = 61 then some 3 else if l0 = 62 then some 3 else if l0 = 124 then some 1 else if l0 = 126 then some 6 else some 0
set_option maxHeartbeats 4000000 in
set_option maxRecDepth 40000 in
theorem w_X4_strengthOf_0 {F : xH} {ev : xEv} {prim : xRel} {d sz : Nat} {T : yT} {v : Int32} {hp : xH} (N : Nat) (S : yS) (l0 : Int32) (lv : xLv) (g0 : xG lv 0 = some (.int l0)) (hM : cR [0, 1, 2, 3, 4, 5, 6, 7] F ev T S hp) (h : f_X4_strengthOf_0 N S l0 = some v) : yWE ev.2.1 (xstr ev) (xCalls ev xmi (xprog ev) prim (d + 0)) (pX4_strengthOf ev) (0, lv, [], hp, sz, 0) (ypP hp sz (.int v)) := by
  unfold f_X4_strengthOf_0 at h
  refine ye_iload rfl g0 ?_
  by_cases h1 : l0 = 33
  · replace h := yiT h1 h
    refine ye_sw rfl (show _ = 102 from by rw [h1]; rfl) ?_
    refine ye_p rfl rfl ?_
    exact ye_ret rfl rfl (rP h)
  · replace h := yiN h1 h
    by_cases h2 : l0 = 38
    · replace h := yiT h2 h
      refine ye_sw rfl (show _ = 94 from by rw [h2]; rfl) ?_
      refine ye_p rfl rfl ?_
      exact ye_ret rfl rfl (rP h)
    · replace h := yiN h2 h
      by_cases h3 : l0 = 42
      · replace h := yiT h3 h
        refine ye_sw rfl (show _ = 100 from by rw [h3]; rfl) ?_
        refine ye_p rfl rfl ?_
        exact ye_ret rfl rfl (rP h)
      · replace h := yiN h3 h
        by_cases h4 : l0 = 43
        · replace h := yiT h4 h
          refine ye_sw rfl (show _ = 98 from by rw [h4]; rfl) ?_
          refine ye_p rfl rfl ?_
          exact ye_ret rfl rfl (rP h)
        · replace h := yiN h4 h
          by_cases h5 : l0 = 45
          · replace h := yiT h5 h
            refine ye_sw rfl (show _ = 98 from by rw [h5]; rfl) ?_
            refine ye_p rfl rfl ?_
            exact ye_ret rfl rfl (rP h)
          · replace h := yiN h5 h
            by_cases h6 : l0 = 60
            · replace h := yiT h6 h
              refine ye_sw rfl (show _ = 96 from by rw [h6]; rfl) ?_
              refine ye_p rfl rfl ?_
              exact ye_ret rfl rfl (rP h)
            · replace h := yiN h6 h
              by_cases h7 : l0 = 61
              · replace h := yiT h7 h
                refine ye_sw rfl (show _ = 96 from by rw [h7]; rfl) ?_
                refine ye_p rfl rfl ?_
                exact ye_ret rfl rfl (rP h)
              · replace h := yiN h7 h
                by_cases h8 : l0 = 62
                · replace h := yiT h8 h
                  refine ye_sw rfl (show _ = 96 from by rw [h8]; rfl) ?_
                  refine ye_p rfl rfl ?_
                  exact ye_ret rfl rfl (rP h)
                · replace h := yiN h8 h
                  by_cases h9 : l0 = 124
                  · replace h := yiT h9 h
                    refine ye_sw rfl (show _ = 92 from by rw [h9]; rfl) ?_
                    refine ye_p rfl rfl ?_
                    exact ye_ret rfl rfl (rP h)
                  · replace h := yiN h9 h
                    by_cases h10 : l0 = 126
                    · replace h := yiT h10 h
                      refine ye_sw rfl (show _ = 102 from by rw [h10]; rfl) ?_
                      refine ye_p rfl rfl ?_
                      exact ye_ret rfl rfl (rP h)
                    · replace h := yiN h10 h
                      refine ye_sw rfl (show _ = 105 from xlsw_neg h1 (by decide) (xlsw_neg h2 (by decide) (xlsw_neg h3 (by decide) (xlsw_neg h4 (by decide) (xlsw_neg h5 (by decide) (xlsw_neg h6 (by decide) (xlsw_neg h7 (by decide) (xlsw_neg h8 (by decide) (xlsw_neg h9 (by decide) (xlsw_neg h10 (by decide) (rfl))))))))))) ?_
                      refine ye_p rfl rfl ?_
                      exact ye_ret rfl rfl (rP h)
def f_X4_strengthOf (N : Nat) (S : yS) (xl0 : Int32) : Option Int32 := f_X4_strengthOf_0 N S xl0
theorem m_X4_strengthOf {F : xH} {ev : xEv} {prim : xRel} {d : Nat} {T : yT} {v : Int32} (N : Nat) (S : yS) (xl0 : Int32) (h : f_X4_strengthOf N S xl0 = some v) : ykP [0, 1, 2, 3, 4, 5, 6, 7] F ev prim (d + 1) 62 T S [.int xl0] (.int v) :=
  ykP.of (pg_62 ev) mi_62 (Nat.le_of_ble_eq_true rfl) (fun hp sz hM => w_X4_strengthOf_0 (prim := prim) (d := d) N S xl0 _ rfl hM h)
