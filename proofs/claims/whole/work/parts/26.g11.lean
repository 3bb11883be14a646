
def f_X11_mayTry_31 (N : Nat) (S : yS) (t0 : Int32) : Option Int32 := gP (t0 = 0 ∨ t0 = 1) (some t0)
set_option maxHeartbeats 4000000 in
set_option maxRecDepth 40000 in
theorem w_X11_mayTry_31 {F : xH} {ev : xEv} {prim : xRel} {d sz : Nat} {T : yT} {v : Int32} {hp : xH} (N : Nat) (S : yS) (t0 : Int32) (lv : xLv) (hM : cR [0, 1, 2, 3, 4, 5, 6, 7] F ev T S hp) (h : f_X11_mayTry_31 N S t0 = some v) : yWE ev.2.1 (xstr ev) (xCalls ev xmi (xprog ev) prim (d + 1)) (pX11_mayTry ev) (31, lv, [.int t0], hp, sz, 0) (ypP hp sz (.int v)) := by
  unfold f_X11_mayTry_31 at h
  obtain ⟨i1, h⟩ := gP_some h
  exact ye_ret rfl (if_pos (zb_nar i1)) (rP h)

def f_X11_mayTry_30 (N : Nat) (S : yS) : Option Int32 := f_X11_mayTry_31 N S 0
set_option maxHeartbeats 4000000 in
set_option maxRecDepth 40000 in
theorem w_X11_mayTry_30 {F : xH} {ev : xEv} {prim : xRel} {d sz : Nat} {T : yT} {v : Int32} {hp : xH} (N : Nat) (S : yS) (lv : xLv) (hM : cR [0, 1, 2, 3, 4, 5, 6, 7] F ev T S hp) (h : f_X11_mayTry_30 N S = some v) : yWE ev.2.1 (xstr ev) (xCalls ev xmi (xprog ev) prim (d + 1)) (pX11_mayTry ev) (30, lv, [], hp, sz, 0) (ypP hp sz (.int v)) := by
  unfold f_X11_mayTry_30 at h
  refine ye_p rfl rfl ?_
  exact w_X11_mayTry_31 (prim := prim) (d := d) N S 0 lv hM h

def f_X11_mayTry_0 (N : Nat) (S : yS) (l1 : Int32) : Option Int32 := bV (f_X11_within N S l1 0 200) fun w1 => if w1 = 0 then f_X11_mayTry_30 N S else if 3000 < ((S.1 2 13) + l1) then f_X11_mayTry_30 N S else f_X11_mayTry_31 N S 1
set_option maxHeartbeats 4000000 in
set_option maxRecDepth 40000 in
theorem w_X11_mayTry_0 {F : xH} {ev : xEv} {prim : xRel} {d sz : Nat} {T : yT} {v : Int32} {hp : xH} (N : Nat) (S : yS) (l1 : Int32) (lv : xLv) (a0 : Nat) (fa0 : yAt T 11 0 0 a0) (g0 : xG lv 0 = some (.ref a0)) (g1 : xG lv 1 = some (.int l1)) (hM : cR [0, 1, 2, 3, 4, 5, 6, 7] F ev T S hp) (h : f_X11_mayTry_0 N S l1 = some v) : yWE ev.2.1 (xstr ev) (xCalls ev xmi (xprog ev) prim (d + 1)) (pX11_mayTry ev) (0, lv, [], hp, sz, 0) (ypP hp sz (.int v)) := by
  unfold f_X11_mayTry_0 at h
  refine ye_iload rfl g1 ?_
  refine ye_p rfl rfl ?_
  refine ye_p rfl rfl ?_
  obtain ⟨w1, hw1, h⟩ := bV_some h
  refine ye_callS (As := [.int l1, .int 0, .int 200]) (rest := []) 1 (Or.inl rfl) rfl rfl rfl (Nat.le_of_ble_eq_true rfl) ((m_X11_within (d := d + 0) (T := T) N S l1 0 200 hw1) hp sz hM) ?_
  refine ye_if_eq rfl (fun h1 => ?_) (fun h1 => ?_)
  · replace h := yiT h1 h
    exact w_X11_mayTry_30 (prim := prim) (d := d) N S lv hM h
  · replace h := yiN h1 h
    refine ye_aload rfl g0 ?_
    refine ye_getr rfl (hM.obj fa0 ⟨rfl, rfl⟩) rfl (fun cx1 ecx1 => ?_)
    have fcx1 := hM.root 10 0 (by decide) rfl ecx1
    refine ye_getf rfl (hM.obj fcx1 ⟨rfl, rfl⟩) rfl ?_
    refine ye_iload rfl g1 ?_
    refine ye_p rfl rfl ?_
    refine ye_p rfl rfl ?_
    refine ye_icmp_gt rfl (fun h2 => ?_) (fun h2 => ?_)
    · replace h := yiT h2 h
      exact w_X11_mayTry_30 (prim := prim) (d := d) N S lv hM h
    · replace h := yiN h2 h
      refine ye_p rfl rfl ?_
      refine ye_p rfl rfl ?_
      exact w_X11_mayTry_31 (prim := prim) (d := d) N S 1 lv hM h
def f_X11_mayTry (N : Nat) (S : yS) (xl1 : Int32) : Option Int32 := f_X11_mayTry_0 N S xl1
theorem m_X11_mayTry {F : xH} {ev : xEv} {prim : xRel} {d : Nat} {T : yT} {v : Int32} (N : Nat) (S : yS) (xl1 : Int32) (a0 : Nat) (fa0 : yAt T 11 0 0 a0) (h : f_X11_mayTry N S xl1 = some v) : ykP [0, 1, 2, 3, 4, 5, 6, 7] F ev prim (d + 2) 172 T S [.ref a0, .int xl1] (.int v) :=
  ykP.of (pg_172 ev) mi_172 (Nat.le_of_ble_eq_true rfl) (fun hp sz hM => w_X11_mayTry_0 (prim := prim) (d := d) N S xl1 _ a0 fa0 rfl rfl hM h)

def f_X11_isField_0 (N : Nat) (S : yS) (l1 : Int32) : Option Int32 := bV (f_X11_within N S l1 0 ((S.1 1 3) - 1)) fun w1 => gP (w1 = 0 ∨ w1 = 1) (some w1)
set_option maxHeartbeats 4000000 in
set_option maxRecDepth 40000 in
theorem w_X11_isField_0 {F : xH} {ev : xEv} {prim : xRel} {d sz : Nat} {T : yT} {v : Int32} {hp : xH} (N : Nat) (S : yS) (l1 : Int32) (lv : xLv) (a0 : Nat) (fa0 : yAt T 11 0 0 a0) (g0 : xG lv 0 = some (.ref a0)) (g1 : xG lv 1 = some (.int l1)) (hM : cR [0, 1, 2, 3, 4, 5, 6, 7] F ev T S hp) (h : f_X11_isField_0 N S l1 = some v) : yWE ev.2.1 (xstr ev) (xCalls ev xmi (xprog ev) prim (d + 1)) (pX11_isField ev) (0, lv, [], hp, sz, 0) (ypP hp sz (.int v)) := by
  unfold f_X11_isField_0 at h
  refine ye_iload rfl g1 ?_
  refine ye_p rfl rfl ?_
  refine ye_aload rfl g0 ?_
  refine ye_getr rfl (hM.obj fa0 ⟨rfl, rfl⟩) rfl (fun cx1 ecx1 => ?_)
  have fcx1 := hM.root 2 0 (by decide) rfl ecx1
  refine ye_getf rfl (hM.obj fcx1 ⟨rfl, rfl⟩) rfl ?_
  refine ye_p rfl rfl ?_
  refine ye_p rfl rfl ?_
  obtain ⟨w1, hw1, h⟩ := bV_some h
  refine ye_callS (As := [.int l1, .int 0, .int ((S.1 1 3) - 1)]) (rest := []) 1 (Or.inl rfl) rfl rfl rfl (Nat.le_of_ble_eq_true rfl) ((m_X11_within (d := d + 0) (T := T) N S l1 0 ((S.1 1 3) - 1) hw1) hp sz hM) ?_
  obtain ⟨i1, h⟩ := gP_some h
  exact ye_ret rfl (if_pos (zb_nar i1)) (rP h)
def f_X11_isField (N : Nat) (S : yS) (xl1 : Int32) : Option Int32 := f_X11_isField_0 N S xl1
theorem m_X11_isField {F : xH} {ev : xEv} {prim : xRel} {d : Nat} {T : yT} {v : Int32} (N : Nat) (S : yS) (xl1 : Int32) (a0 : Nat) (fa0 : yAt T 11 0 0 a0) (h : f_X11_isField N S xl1 = some v) : ykP [0, 1, 2, 3, 4, 5, 6, 7] F ev prim (d + 2) 173 T S [.ref a0, .int xl1] (.int v) :=
  ykP.of (pg_173 ev) mi_173 (Nat.le_of_ble_eq_true rfl) (fun hp sz hM => w_X11_isField_0 (prim := prim) (d := d) N S xl1 _ a0 fa0 rfl rfl hM h)

def f_X11_isLeg_0 (N : Nat) (S : yS) (l1 : Int32) : Option Int32 := bV (f_X11_within N S l1 0 ((S.1 1 5) - 1)) fun w1 => gP (w1 = 0 ∨ w1 = 1) (some w1)
set_option maxHeartbeats 4000000 in
set_option maxRecDepth 40000 in
theorem w_X11_isLeg_0 {F : xH} {ev : xEv} {prim : xRel} {d sz : Nat} {T : yT} {v : Int32} {hp : xH} (N : Nat) (S : yS) (l1 : Int32) (lv : xLv) (a0 : Nat) (fa0 : yAt T 11 0 0 a0) (g0 : xG lv 0 = some (.ref a0)) (g1 : xG lv 1 = some (.int l1)) (hM : cR [0, 1, 2, 3, 4, 5, 6, 7] F ev T S hp) (h : f_X11_isLeg_0 N S l1 = some v) : yWE ev.2.1 (xstr ev) (xCalls ev xmi (xprog ev) prim (d + 1)) (pX11_isLeg ev) (0, lv, [], hp, sz, 0) (ypP hp sz (.int v)) := by
  unfold f_X11_isLeg_0 at h
  refine ye_iload rfl g1 ?_
  refine ye_p rfl rfl ?_
  refine ye_aload rfl g0 ?_
  refine ye_getr rfl (hM.obj fa0 ⟨rfl, rfl⟩) rfl (fun cx1 ecx1 => ?_)
  have fcx1 := hM.root 2 0 (by decide) rfl ecx1
  refine ye_getf rfl (hM.obj fcx1 ⟨rfl, rfl⟩) rfl ?_
  refine ye_p rfl rfl ?_
  refine ye_p rfl rfl ?_
  obtain ⟨w1, hw1, h⟩ := bV_some h
  refine ye_callS (As := [.int l1, .int 0, .int ((S.1 1 5) - 1)]) (rest := []) 1 (Or.inl rfl) rfl rfl rfl (Nat.le_of_ble_eq_true rfl) ((m_X11_within (d := d + 0) (T := T) N S l1 0 ((S.1 1 5) - 1) hw1) hp sz hM) ?_
  obtain ⟨i1, h⟩ := gP_some h
  exact ye_ret rfl (if_pos (zb_nar i1)) (rP h)
def f_X11_isLeg (N : Nat) (S : yS) (xl1 : Int32) : Option Int32 := f_X11_isLeg_0 N S xl1
theorem m_X11_isLeg {F : xH} {ev : xEv} {prim : xRel} {d : Nat} {T : yT} {v : Int32} (N : Nat) (S : yS) (xl1 : Int32) (a0 : Nat) (fa0 : yAt T 11 0 0 a0) (h : f_X11_isLeg N S xl1 = some v) : ykP [0, 1, 2, 3, 4, 5, 6, 7] F ev prim (d + 2) 174 T S [.ref a0, .int xl1] (.int v) :=
  ykP.of (pg_174 ev) mi_174 (Nat.le_of_ble_eq_true rfl) (fun hp sz hM => w_X11_isLeg_0 (prim := prim) (d := d) N S xl1 _ a0 fa0 rfl rfl hM h)

def f_X11_isPlane_0 (N : Nat) (S : yS) (l1 : Int32) : Option Int32 := bV (f_X11_within N S l1 0 ((S.1 2 5) - 1)) fun w1 => gP (w1 = 0 ∨ w1 = 1) (some w1)
set_option maxHeartbeats 4000000 in
set_option maxRecDepth 40000 in
theorem w_X11_isPlane_0 {F : xH} {ev : xEv} {prim : xRel} {d sz : Nat} {T : yT} {v : Int32} {hp : xH} (N : Nat) (S : yS) (l1 : Int32) (lv : xLv) (a0 : Nat) (fa0 : yAt T 11 0 0 a0) (g0 : xG lv 0 = some (.ref a0)) (g1 : xG lv 1 = some (.int l1)) (hM : cR [0, 1, 2, 3, 4, 5, 6, 7] F ev T S hp) (h : f_X11_isPlane_0 N S l1 = some v) : yWE ev.2.1 (xstr ev) (xCalls ev xmi (xprog ev) prim (d + 1)) (pX11_isPlane ev) (0, lv, [], hp, sz, 0) (ypP hp sz (.int v)) := by
  unfold f_X11_isPlane_0 at h
  refine ye_iload rfl g1 ?_
  refine ye_p rfl rfl ?_
  refine ye_aload rfl g0 ?_
  refine ye_getr rfl (hM.obj fa0 ⟨rfl, rfl⟩) rfl (fun cx1 ecx1 => ?_)
  have fcx1 := hM.root 10 0 (by decide) rfl ecx1
  refine ye_getf rfl (hM.obj fcx1 ⟨rfl, rfl⟩) rfl ?_
  refine ye_p rfl rfl ?_
  refine ye_p rfl rfl ?_
  obtain ⟨w1, hw1, h⟩ := bV_some h
  refine ye_callS (As := [.int l1, .int 0, .int ((S.1 2 5) - 1)]) (rest := []) 1 (Or.inl rfl) rfl rfl rfl (Nat.le_of_ble_eq_true rfl) ((m_X11_within (d := d + 0) (T := T) N S l1 0 ((S.1 2 5) - 1) hw1) hp sz hM) ?_
  obtain ⟨i1, h⟩ := gP_some h
  exact ye_ret rfl (if_pos (zb_nar i1)) (rP h)
def f_X11_isPlane (N : Nat) (S : yS) (xl1 : Int32) : Option Int32 := f_X11_isPlane_0 N S xl1
theorem m_X11_isPlane {F : xH} {ev : xEv} {prim : xRel} {d : Nat} {T : yT} {v : Int32} (N : Nat) (S : yS) (xl1 : Int32) (a0 : Nat) (fa0 : yAt T 11 0 0 a0) (h : f_X11_isPlane N S xl1 = some v) : ykP [0, 1, 2, 3, 4, 5, 6, 7] F ev prim (d + 2) 175 T S [.ref a0, .int xl1] (.int v) :=
  ykP.of (pg_175 ev) mi_175 (Nat.le_of_ble_eq_true rfl) (fun hp sz hM => w_X11_isPlane_0 (prim := prim) (d := d) N S xl1 _ a0 fa0 rfl rfl hM h)

def f_X11_isPilot_0 (N : Nat) (S : yS) (l1 : Int32) : Option Int32 := bV (f_X11_within N S l1 0 ((S.1 2 7) - 1)) fun w1 => gP (w1 = 0 ∨ w1 = 1) (some w1)
set_option maxHeartbeats 4000000 in
set_option maxRecDepth 40000 in
theorem w_X11_isPilot_0 {F : xH} {ev : xEv} {prim : xRel} {d sz : Nat} {T : yT} {v : Int32} {hp : xH} (N : Nat) (S : yS) (l1 : Int32) (lv : xLv) (a0 : Nat) (fa0 : yAt T 11 0 0 a0) (g0 : xG lv 0 = some (.ref a0)) (g1 : xG lv 1 = some (.int l1)) (hM : cR [0, 1, 2, 3, 4, 5, 6, 7] F ev T S hp) (h : f_X11_isPilot_0 N S l1 = some v) : yWE ev.2.1 (xstr ev) (xCalls ev xmi (xprog ev) prim (d + 1)) (pX11_isPilot ev) (0, lv, [], hp, sz, 0) (ypP hp sz (.int v)) := by
  unfold f_X11_isPilot_0 at h
  refine ye_iload rfl g1 ?_
  refine ye_p rfl rfl ?_
  refine ye_aload rfl g0 ?_
  refine ye_getr rfl (hM.obj fa0 ⟨rfl, rfl⟩) rfl (fun cx1 ecx1 => ?_)
  have fcx1 := hM.root 10 0 (by decide) rfl ecx1
  refine ye_getf rfl (hM.obj fcx1 ⟨rfl, rfl⟩) rfl ?_
  refine ye_p rfl rfl ?_
  refine ye_p rfl rfl ?_
  obtain ⟨w1, hw1, h⟩ := bV_some h
  refine ye_callS (As := [.int l1, .int 0, .int ((S.1 2 7) - 1)]) (rest := []) 1 (Or.inl rfl) rfl rfl rfl (Nat.le_of_ble_eq_true rfl) ((m_X11_within (d := d + 0) (T := T) N S l1 0 ((S.1 2 7) - 1) hw1) hp sz hM) ?_
  obtain ⟨i1, h⟩ := gP_some h
  exact ye_ret rfl (if_pos (zb_nar i1)) (rP h)
def f_X11_isPilot (N : Nat) (S : yS) (xl1 : Int32) : Option Int32 := f_X11_isPilot_0 N S xl1
theorem m_X11_isPilot {F : xH} {ev : xEv} {prim : xRel} {d : Nat} {T : yT} {v : Int32} (N : Nat) (S : yS) (xl1 : Int32) (a0 : Nat) (fa0 : yAt T 11 0 0 a0) (h : f_X11_isPilot N S xl1 = some v) : ykP [0, 1, 2, 3, 4, 5, 6, 7] F ev prim (d + 2) 176 T S [.ref a0, .int xl1] (.int v) :=
  ykP.of (pg_176 ev) mi_176 (Nat.le_of_ble_eq_true rfl) (fun hp sz hM => w_X11_isPilot_0 (prim := prim) (d := d) N S xl1 _ a0 fa0 rfl rfl hM h)

def f_X11_isBag_0 (N : Nat) (S : yS) (l1 : Int32) : Option Int32 := bV (f_X11_within N S l1 0 ((S.1 2 9) - 1)) fun w1 => gP (w1 = 0 ∨ w1 = 1) (some w1)
set_option maxHeartbeats 4000000 in
set_option maxRecDepth 40000 in
theorem w_X11_isBag_0 {F : xH} {ev : xEv} {prim : xRel} {d sz : Nat} {T : yT} {v : Int32} {hp : xH} (N : Nat) (S : yS) (l1 : Int32) (lv : xLv) (a0 : Nat) (fa0 : yAt T 11 0 0 a0) (g0 : xG lv 0 = some (.ref a0)) (g1 : xG lv 1 = some (.int l1)) (hM : cR [0, 1, 2, 3, 4, 5, 6, 7] F ev T S hp) (h : f_X11_isBag_0 N S l1 = some v) : yWE ev.2.1 (xstr ev) (xCalls ev xmi (xprog ev) prim (d + 1)) (pX11_isBag ev) (0, lv, [], hp, sz, 0) (ypP hp sz (.int v)) := by
  unfold f_X11_isBag_0 at h
  refine ye_iload rfl g1 ?_
  refine ye_p rfl rfl ?_
  refine ye_aload rfl g0 ?_
  refine ye_getr rfl (hM.obj fa0 ⟨rfl, rfl⟩) rfl (fun cx1 ecx1 => ?_)
  have fcx1 := hM.root 10 0 (by decide) rfl ecx1
  refine ye_getf rfl (hM.obj fcx1 ⟨rfl, rfl⟩) rfl ?_
  refine ye_p rfl rfl ?_
  refine ye_p rfl rfl ?_
  obtain ⟨w1, hw1, h⟩ := bV_some h
  refine ye_callS (As := [.int l1, .int 0, .int ((S.1 2 9) - 1)]) (rest := []) 1 (Or.inl rfl) rfl rfl rfl (Nat.le_of_ble_eq_true rfl) ((m_X11_within (d := d + 0) (T := T) N S l1 0 ((S.1 2 9) - 1) hw1) hp sz hM) ?_
  obtain ⟨i1, h⟩ := gP_some h
  exact ye_ret rfl (if_pos (zb_nar i1)) (rP h)
def f_X11_isBag (N : Nat) (S : yS) (xl1 : Int32) : Option Int32 := f_X11_isBag_0 N S xl1
theorem m_X11_isBag {F : xH} {ev : xEv} {prim : xRel} {d : Nat} {T : yT} {v : Int32} (N : Nat) (S : yS) (xl1 : Int32) (a0 : Nat) (fa0 : yAt T 11 0 0 a0) (h : f_X11_isBag N S xl1 = some v) : ykP [0, 1, 2, 3, 4, 5, 6, 7] F ev prim (d + 2) 177 T S [.ref a0, .int xl1] (.int v) :=
  ykP.of (pg_177 ev) mi_177 (Nat.le_of_ble_eq_true rfl) (fun hp sz hM => w_X11_isBag_0 (prim := prim) (d := d) N S xl1 _ a0 fa0 rfl rfl hM h)

def f_X11_isFlight_0 (N : Nat) (S : yS) (l1 : Int32) : Option Int32 := bV (f_X11_within N S l1 0 ((S.1 2 12) - 1)) fun w1 => gP (w1 = 0 ∨ w1 = 1) (some w1)
set_option maxHeartbeats 4000000 in
set_option maxRecDepth 40000 in
theorem w_X11_isFlight_0 {F : xH} {ev : xEv} {prim : xRel} {d sz : Nat} {T : yT} {v : Int32} {hp : xH} (N : Nat) (S : yS) (l1 : Int32) (lv : xLv) (a0 : Nat) (fa0 : yAt T 11 0 0 a0) (g0 : xG lv 0 = some (.ref a0)) (g1 : xG lv 1 = some (.int l1)) (hM : cR [0, 1, 2, 3, 4, 5, 6, 7] F ev T S hp) (h : f_X11_isFlight_0 N S l1 = some v) : yWE ev.2.1 (xstr ev) (xCalls ev xmi (xprog ev) prim (d + 1)) (pX11_isFlight ev) (0, lv, [], hp, sz, 0) (ypP hp sz (.int v)) := by
  unfold f_X11_isFlight_0 at h
  refine ye_iload rfl g1 ?_
  refine ye_p rfl rfl ?_
  refine ye_aload rfl g0 ?_
  refine ye_getr rfl (hM.obj fa0 ⟨rfl, rfl⟩) rfl (fun cx1 ecx1 => ?_)
  have fcx1 := hM.root 10 0 (by decide) rfl ecx1
  refine ye_getf rfl (hM.obj fcx1 ⟨rfl, rfl⟩) rfl ?_
  refine ye_p rfl rfl ?_
  refine ye_p rfl rfl ?_
  obtain ⟨w1, hw1, h⟩ := bV_some h
  refine ye_callS (As := [.int l1, .int 0, .int ((S.1 2 12) - 1)]) (rest := []) 1 (Or.inl rfl) rfl rfl rfl (Nat.le_of_ble_eq_true rfl) ((m_X11_within (d := d + 0) (T := T) N S l1 0 ((S.1 2 12) - 1) hw1) hp sz hM) ?_
  obtain ⟨i1, h⟩ := gP_some h
  exact ye_ret rfl (if_pos (zb_nar i1)) (rP h)
def f_X11_isFlight (N : Nat) (S : yS) (xl1 : Int32) : Option Int32 := f_X11_isFlight_0 N S xl1
theorem m_X11_isFlight {F : xH} {ev : xEv} {prim : xRel} {d : Nat} {T : yT} {v : Int32} (N : Nat) (S : yS) (xl1 : Int32) (a0 : Nat) (fa0 : yAt T 11 0 0 a0) (h : f_X11_isFlight N S xl1 = some v) : ykP [0, 1, 2, 3, 4, 5, 6, 7] F ev prim (d + 2) 178 T S [.ref a0, .int xl1] (.int v) :=
  ykP.of (pg_178 ev) mi_178 (Nat.le_of_ble_eq_true rfl) (fun hp sz hM => w_X11_isFlight_0 (prim := prim) (d := d) N S xl1 _ a0 fa0 rfl rfl hM h)

def f_X11_isDown_28 (N : Nat) (S : yS) (t0 : Int32) : Option Int32 := gP (t0 = 0 ∨ t0 = 1) (some t0)
set_option maxHeartbeats 4000000 in
set_option maxRecDepth 40000 in
theorem w_X11_isDown_28 {F : xH} {ev : xEv} {prim : xRel} {d sz : Nat} {T : yT} {v : Int32} {hp : xH} (N : Nat) (S : yS) (t0 : Int32) (lv : xLv) (hM : cR [0, 1, 2, 3, 4, 5, 6, 7] F ev T S hp) (h : f_X11_isDown_28 N S t0 = some v) : yWE ev.2.1 (xstr ev) (xCalls ev xmi (xprog ev) prim (d + 2)) (pX11_isDown ev) (28, lv, [.int t0], hp, sz, 0) (ypP hp sz (.int v)) := by
  unfold f_X11_isDown_28 at h
  obtain ⟨i1, h⟩ := gP_some h
  exact ye_ret rfl (if_pos (zb_nar i1)) (rP h)

def f_X11_isDown_27 (N : Nat) (S : yS) : Option Int32 := f_X11_isDown_28 N S 0
set_option maxHeartbeats 4000000 in
set_option maxRecDepth 40000 in
theorem w_X11_isDown_27 {F : xH} {ev : xEv} {prim : xRel} {d sz : Nat} {T : yT} {v : Int32} {hp : xH} (N : Nat) (S : yS) (lv : xLv) (hM : cR [0, 1, 2, 3, 4, 5, 6, 7] F ev T S hp) (h : f_X11_isDown_27 N S = some v) : yWE ev.2.1 (xstr ev) (xCalls ev xmi (xprog ev) prim (d + 2)) (pX11_isDown ev) (27, lv, [], hp, sz, 0) (ypP hp sz (.int v)) := by
  unfold f_X11_isDown_27 at h
  refine ye_p rfl rfl ?_
  exact w_X11_isDown_28 (prim := prim) (d := d) N S 0 lv hM h

def f_X11_isDown_0 (N : Nat) (S : yS) (l1 : Int32) : Option Int32 := bV (f_X11_isPlane N S l1) fun w1 => if w1 = 0 then f_X11_isDown_27 N S else gR (S.2.1 2 4) 8 l1 fun j1 => if (S.1 ((128 + j1)) 12) = 0 then f_X11_isDown_27 N S else f_X11_isDown_28 N S 1
set_option maxHeartbeats 4000000 in
set_option maxRecDepth 40000 in
theorem w_X11_isDown_0 {F : xH} {ev : xEv} {prim : xRel} {d sz : Nat} {T : yT} {v : Int32} {hp : xH} (N : Nat) (S : yS) (l1 : Int32) (lv : xLv) (a0 : Nat) (fa0 : yAt T 11 0 0 a0) (g0 : xG lv 0 = some (.ref a0)) (g1 : xG lv 1 = some (.int l1)) (hM : cR [0, 1, 2, 3, 4, 5, 6, 7] F ev T S hp) (h : f_X11_isDown_0 N S l1 = some v) : yWE ev.2.1 (xstr ev) (xCalls ev xmi (xprog ev) prim (d + 2)) (pX11_isDown ev) (0, lv, [], hp, sz, 0) (ypP hp sz (.int v)) := by
  unfold f_X11_isDown_0 at h
  refine ye_aload rfl g0 ?_
  refine ye_iload rfl g1 ?_
  obtain ⟨w1, hw1, h⟩ := bV_some h
  refine ye_callV (As := [.int l1]) (rest := []) 0 (Or.inl rfl) rfl rfl rfl (Nat.le_of_ble_eq_true rfl) (hM.obj fa0 ⟨rfl, rfl⟩) ((m_X11_isPlane (d := d + 0) (T := T) N S l1 a0 fa0 hw1) hp sz hM) ?_
  refine ye_if_eq rfl (fun h1 => ?_) (fun h1 => ?_)
  · replace h := yiT h1 h
    exact w_X11_isDown_27 (prim := prim) (d := d) N S lv hM h
  · replace h := yiN h1 h
    refine ye_aload rfl g0 ?_
    refine ye_getr rfl (hM.obj fa0 ⟨rfl, rfl⟩) rfl (fun cx1 ecx1 => ?_)
    have fcx1 := hM.root 10 0 (by decide) rfl ecx1
    refine ye_getr rfl (hM.obj fcx1 ⟨rfl, rfl⟩) rfl (fun cx2 ecx2 => ?_)
    have fcx2 := yAt.row fcx1 ecx2
    refine ye_iload rfl g1 ?_
    obtain ⟨j1, ej1, ij1, rj1, h⟩ := gR_some h
    refine ye_aaldR (t := 5) rfl (hM.arr fcx2 yr_10_4) ij1 ej1 rj1 (fun cx3 ecx3 => ?_)
    have fcx3 : yAt T 6 (128 + j1) 0 cx3 := ⟨hM.refd fcx2 yr_10_4 (by decide) rj1, oc_128 (by have := vp_lt ij1; omega), ecx3⟩
    refine ye_getf rfl (hM.obj fcx3 ⟨rfl, rfl⟩) rfl ?_
    refine ye_if_eq rfl (fun h2 => ?_) (fun h2 => ?_)
    · replace h := yiT h2 h
      exact w_X11_isDown_27 (prim := prim) (d := d) N S lv hM h
    · replace h := yiN h2 h
      refine ye_p rfl rfl ?_
      refine ye_p rfl rfl ?_
      exact w_X11_isDown_28 (prim := prim) (d := d) N S 1 lv hM h
def f_X11_isDown (N : Nat) (S : yS) (xl1 : Int32) : Option Int32 := f_X11_isDown_0 N S xl1
theorem m_X11_isDown {F : xH} {ev : xEv} {prim : xRel} {d : Nat} {T : yT} {v : Int32} (N : Nat) (S : yS) (xl1 : Int32) (a0 : Nat) (fa0 : yAt T 11 0 0 a0) (h : f_X11_isDown N S xl1 = some v) : ykP [0, 1, 2, 3, 4, 5, 6, 7] F ev prim (d + 3) 179 T S [.ref a0, .int xl1] (.int v) :=
  ykP.of (pg_179 ev) mi_179 (Nat.le_of_ble_eq_true rfl) (fun hp sz hM => w_X11_isDown_0 (prim := prim) (d := d) N S xl1 _ a0 fa0 rfl rfl hM h)

def f_X11_isCell_46 (N : Nat) (S : yS) (t0 : Int32) : Option Int32 := gP (t0 = 0 ∨ t0 = 1) (some t0)
set_option maxHeartbeats 4000000 in
set_option maxRecDepth 40000 in
theorem w_X11_isCell_46 {F : xH} {ev : xEv} {prim : xRel} {d sz : Nat} {T : yT} {v : Int32} {hp : xH} (N : Nat) (S : yS) (t0 : Int32) (lv : xLv) (hM : cR [0, 1, 2, 3, 4, 5, 6, 7] F ev T S hp) (h : f_X11_isCell_46 N S t0 = some v) : yWE ev.2.1 (xstr ev) (xCalls ev xmi (xprog ev) prim (d + 3)) (pX11_isCell ev) (46, lv, [.int t0], hp, sz, 0) (ypP hp sz (.int v)) := by
  unfold f_X11_isCell_46 at h
  obtain ⟨i1, h⟩ := gP_some h
  exact ye_ret rfl (if_pos (zb_nar i1)) (rP h)

def f_X11_isCell_45 (N : Nat) (S : yS) : Option Int32 := f_X11_isCell_46 N S 0
set_option maxHeartbeats 4000000 in
set_option maxRecDepth 40000 in
theorem w_X11_isCell_45 {F : xH} {ev : xEv} {prim : xRel} {d sz : Nat} {T : yT} {v : Int32} {hp : xH} (N : Nat) (S : yS) (lv : xLv) (hM : cR [0, 1, 2, 3, 4, 5, 6, 7] F ev T S hp) (h : f_X11_isCell_45 N S = some v) : yWE ev.2.1 (xstr ev) (xCalls ev xmi (xprog ev) prim (d + 3)) (pX11_isCell ev) (45, lv, [], hp, sz, 0) (ypP hp sz (.int v)) := by
  unfold f_X11_isCell_45 at h
  refine ye_p rfl rfl ?_
  exact w_X11_isCell_46 (prim := prim) (d := d) N S 0 lv hM h

def f_X11_isCell_0 (N : Nat) (S : yS) (l1 : Int32) (l2 : Int32) : Option Int32 := bV (f_X11_isDown N S l1) fun w1 => if w1 = 0 then f_X11_isCell_45 N S else gR (S.2.1 2 4) 8 l1 fun j1 => gR (S.2.1 1 4) 12 (S.1 ((128 + j1)) 9) fun j2 => bV (f_X3_cellCount N S ((64 + j2))) fun w2 => bV (f_X11_within N S l2 0 (w2 - 1)) fun w3 => if w3 = 0 then f_X11_isCell_45 N S else f_X11_isCell_46 N S 1
set_option maxHeartbeats 4000000 in
set_option maxRecDepth 40000 in
theorem w_X11_isCell_0 {F : xH} {ev : xEv} {prim : xRel} {d sz : Nat} {T : yT} {v : Int32} {hp : xH} (N : Nat) (S : yS) (l1 : Int32) (l2 : Int32) (lv : xLv) (a0 : Nat) (fa0 : yAt T 11 0 0 a0) (g0 : xG lv 0 = some (.ref a0)) (g1 : xG lv 1 = some (.int l1)) (g2 : xG lv 2 = some (.int l2)) (hM : cR [0, 1, 2, 3, 4, 5, 6, 7] F ev T S hp) (h : f_X11_isCell_0 N S l1 l2 = some v) : yWE ev.2.1 (xstr ev) (xCalls ev xmi (xprog ev) prim (d + 3)) (pX11_isCell ev) (0, lv, [], hp, sz, 0) (ypP hp sz (.int v)) := by
  unfold f_X11_isCell_0 at h
  refine ye_aload rfl g0 ?_
  refine ye_iload rfl g1 ?_
  obtain ⟨w1, hw1, h⟩ := bV_some h
  refine ye_callV (As := [.int l1]) (rest := []) 0 (Or.inl rfl) rfl rfl rfl (Nat.le_of_ble_eq_true rfl) (hM.obj fa0 ⟨rfl, rfl⟩) ((m_X11_isDown (d := d + 0) (T := T) N S l1 a0 fa0 hw1) hp sz hM) ?_
  refine ye_if_eq rfl (fun h1 => ?_) (fun h1 => ?_)
  · replace h := yiT h1 h
    exact w_X11_isCell_45 (prim := prim) (d := d) N S lv hM h
  · replace h := yiN h1 h
    refine ye_iload rfl g2 ?_
    refine ye_p rfl rfl ?_
    refine ye_aload rfl g0 ?_
    refine ye_getr rfl (hM.obj fa0 ⟨rfl, rfl⟩) rfl (fun cx1 ecx1 => ?_)
    have fcx1 := hM.root 2 0 (by decide) rfl ecx1
    refine ye_getr rfl (hM.obj fcx1 ⟨rfl, rfl⟩) rfl (fun cx2 ecx2 => ?_)
    have fcx2 := yAt.row fcx1 ecx2
    refine ye_aload rfl g0 ?_
    refine ye_getr rfl (hM.obj fa0 ⟨rfl, rfl⟩) rfl (fun cx3 ecx3 => ?_)
    have fcx3 := hM.root 10 0 (by decide) rfl ecx3
    refine ye_getr rfl (hM.obj fcx3 ⟨rfl, rfl⟩) rfl (fun cx4 ecx4 => ?_)
    have fcx4 := yAt.row fcx3 ecx4
    refine ye_iload rfl g1 ?_
    obtain ⟨j1, ej1, ij1, rj1, h⟩ := gR_some h
    refine ye_aaldR (t := 5) rfl (hM.arr fcx4 yr_10_4) ij1 ej1 rj1 (fun cx5 ecx5 => ?_)
    have fcx5 : yAt T 6 (128 + j1) 0 cx5 := ⟨hM.refd fcx4 yr_10_4 (by decide) rj1, oc_128 (by have := vp_lt ij1; omega), ecx5⟩
    refine ye_getf rfl (hM.obj fcx5 ⟨rfl, rfl⟩) rfl ?_
    obtain ⟨j2, ej2, ij2, rj2, h⟩ := gR_some h
    refine ye_aaldR (t := 4) rfl (hM.arr fcx2 yr_2_4) ij2 ej2 rj2 (fun cx6 ecx6 => ?_)
    have fcx6 : yAt T 3 (64 + j2) 0 cx6 := ⟨hM.refd fcx2 yr_2_4 (by decide) rj2, oc_64 (by have := vp_lt ij2; omega), ecx6⟩
    obtain ⟨w2, hw2, h⟩ := bV_some h
    refine ye_callV (As := []) (rest := [.int 0, .int l2]) 0 (Or.inl rfl) rfl rfl rfl (Nat.le_of_ble_eq_true rfl) (hM.obj fcx6 ⟨rfl, rfl⟩) ((m_X3_cellCount (d := d + 2) (T := T) N S ((64 + j2)) cx6 fcx6 hw2) hp sz hM) ?_
    refine ye_p rfl rfl ?_
    refine ye_p rfl rfl ?_
    obtain ⟨w3, hw3, h⟩ := bV_some h
    refine ye_callS (As := [.int l2, .int 0, .int (w2 - 1)]) (rest := []) 1 (Or.inl rfl) rfl rfl rfl (Nat.le_of_ble_eq_true rfl) ((m_X11_within (d := d + 2) (T := T) N S l2 0 (w2 - 1) hw3) hp sz hM) ?_
    refine ye_if_eq rfl (fun h2 => ?_) (fun h2 => ?_)
    · replace h := yiT h2 h
      exact w_X11_isCell_45 (prim := prim) (d := d) N S lv hM h
    · replace h := yiN h2 h
      refine ye_p rfl rfl ?_
      refine ye_p rfl rfl ?_
      exact w_X11_isCell_46 (prim := prim) (d := d) N S 1 lv hM h
def f_X11_isCell (N : Nat) (S : yS) (xl1 : Int32) (xl2 : Int32) : Option Int32 := f_X11_isCell_0 N S xl1 xl2
theorem m_X11_isCell {F : xH} {ev : xEv} {prim : xRel} {d : Nat} {T : yT} {v : Int32} (N : Nat) (S : yS) (xl1 : Int32) (xl2 : Int32) (a0 : Nat) (fa0 : yAt T 11 0 0 a0) (h : f_X11_isCell N S xl1 xl2 = some v) : ykP [0, 1, 2, 3, 4, 5, 6, 7] F ev prim (d + 4) 180 T S [.ref a0, .int xl1, .int xl2] (.int v) :=
  ykP.of (pg_180 ev) mi_180 (Nat.le_of_ble_eq_true rfl) (fun hp sz hM => w_X11_isCell_0 (prim := prim) (d := d) N S xl1 xl2 _ a0 fa0 rfl rfl rfl hM h)

def f_X11_isQuarter_0 (N : Nat) (S : yS) (l0 : Int32) : Option Int32 := bV (f_X11_within N S l0 0 3000) fun w1 => gP (w1 = 0 ∨ w1 = 1) (some w1)
set_option maxHeartbeats 4000000 in
set_option maxRecDepth 40000 in
theorem w_X11_isQuarter_0 {F : xH} {ev : xEv} {prim : xRel} {d sz : Nat} {T : yT} {v : Int32} {hp : xH} (N : Nat) (S : yS) (l0 : Int32) (lv : xLv) (g0 : xG lv 0 = some (.int l0)) (hM : cR [0, 1, 2, 3, 4, 5, 6, 7] F ev T S hp) (h : f_X11_isQuarter_0 N S l0 = some v) : yWE ev.2.1 (xstr ev) (xCalls ev xmi (xprog ev) prim (d + 1)) (pX11_isQuarter ev) (0, lv, [], hp, sz, 0) (ypP hp sz (.int v)) := by
  unfold f_X11_isQuarter_0 at h
  refine ye_iload rfl g0 ?_
  refine ye_p rfl rfl ?_
  refine ye_p rfl rfl ?_
  obtain ⟨w1, hw1, h⟩ := bV_some h
  refine ye_callS (As := [.int l0, .int 0, .int 3000]) (rest := []) 1 (Or.inl rfl) rfl rfl rfl (Nat.le_of_ble_eq_true rfl) ((m_X11_within (d := d + 0) (T := T) N S l0 0 3000 hw1) hp sz hM) ?_
  obtain ⟨i1, h⟩ := gP_some h
  exact ye_ret rfl (if_pos (zb_nar i1)) (rP h)
def f_X11_isQuarter (N : Nat) (S : yS) (xl0 : Int32) : Option Int32 := f_X11_isQuarter_0 N S xl0
theorem m_X11_isQuarter {F : xH} {ev : xEv} {prim : xRel} {d : Nat} {T : yT} {v : Int32} (N : Nat) (S : yS) (xl0 : Int32) (h : f_X11_isQuarter N S xl0 = some v) : ykP [0, 1, 2, 3, 4, 5, 6, 7] F ev prim (d + 2) 181 T S [.int xl0] (.int v) :=
  ykP.of (pg_181 ev) mi_181 (Nat.le_of_ble_eq_true rfl) (fun hp sz hM => w_X11_isQuarter_0 (prim := prim) (d := d) N S xl0 _ rfl hM h)

def f_X11_isWeather_27 (N : Nat) (S : yS) (t0 : Int32) : Option Int32 := gP (t0 = 0 ∨ t0 = 1) (some t0)
set_option maxHeartbeats 4000000 in
set_option maxRecDepth 40000 in
theorem w_X11_isWeather_27 {F : xH} {ev : xEv} {prim : xRel} {d sz : Nat} {T : yT} {v : Int32} {hp : xH} (N : Nat) (S : yS) (t0 : Int32) (lv : xLv) (hM : cR [0, 1, 2, 3, 4, 5, 6, 7] F ev T S hp) (h : f_X11_isWeather_27 N S t0 = some v) : yWE ev.2.1 (xstr ev) (xCalls ev xmi (xprog ev) prim (d + 1)) (pX11_isWeather ev) (27, lv, [.int t0], hp, sz, 0) (ypP hp sz (.int v)) := by
  unfold f_X11_isWeather_27 at h
  obtain ⟨i1, h⟩ := gP_some h
  exact ye_ret rfl (if_pos (zb_nar i1)) (rP h)

def f_X11_isWeather_26 (N : Nat) (S : yS) : Option Int32 := f_X11_isWeather_27 N S 0
set_option maxHeartbeats 4000000 in
set_option maxRecDepth 40000 in
theorem w_X11_isWeather_26 {F : xH} {ev : xEv} {prim : xRel} {d sz : Nat} {T : yT} {v : Int32} {hp : xH} (N : Nat) (S : yS) (lv : xLv) (hM : cR [0, 1, 2, 3, 4, 5, 6, 7] F ev T S hp) (h : f_X11_isWeather_26 N S = some v) : yWE ev.2.1 (xstr ev) (xCalls ev xmi (xprog ev) prim (d + 1)) (pX11_isWeather ev) (26, lv, [], hp, sz, 0) (ypP hp sz (.int v)) := by
  unfold f_X11_isWeather_26 at h
  refine ye_p rfl rfl ?_
  exact w_X11_isWeather_27 (prim := prim) (d := d) N S 0 lv hM h

def f_X11_isWeather_0 (N : Nat) (S : yS) (l0 : Int32) (l1 : Int32) : Option Int32 := bV (f_X11_within N S l0 0 200) fun w1 => if w1 = 0 then f_X11_isWeather_26 N S else bV (f_X11_within N S l1 ((-9)) 9) fun w2 => if w2 = 0 then f_X11_isWeather_26 N S else f_X11_isWeather_27 N S 1
set_option maxHeartbeats 4000000 in
set_option maxRecDepth 40000 in
theorem w_X11_isWeather_0 {F : xH} {ev : xEv} {prim : xRel} {d sz : Nat} {T : yT} {v : Int32} {hp : xH} (N : Nat) (S : yS) (l0 : Int32) (l1 : Int32) (lv : xLv) (g0 : xG lv 0 = some (.int l0)) (g1 : xG lv 1 = some (.int l1)) (hM : cR [0, 1, 2, 3, 4, 5, 6, 7] F ev T S hp) (h : f_X11_isWeather_0 N S l0 l1 = some v) : yWE ev.2.1 (xstr ev) (xCalls ev xmi (xprog ev) prim (d + 1)) (pX11_isWeather ev) (0, lv, [], hp, sz, 0) (ypP hp sz (.int v)) := by
  unfold f_X11_isWeather_0 at h
  refine ye_iload rfl g0 ?_
  refine ye_p rfl rfl ?_
  refine ye_p rfl rfl ?_
  obtain ⟨w1, hw1, h⟩ := bV_some h
  refine ye_callS (As := [.int l0, .int 0, .int 200]) (rest := []) 1 (Or.inl rfl) rfl rfl rfl (Nat.le_of_ble_eq_true rfl) ((m_X11_within (d := d + 0) (T := T) N S l0 0 200 hw1) hp sz hM) ?_
  refine ye_if_eq rfl (fun h1 => ?_) (fun h1 => ?_)
  · replace h := yiT h1 h
    exact w_X11_isWeather_26 (prim := prim) (d := d) N S lv hM h
  · replace h := yiN h1 h
    refine ye_iload rfl g1 ?_
    refine ye_p rfl rfl ?_
    refine ye_p rfl rfl ?_
    obtain ⟨w2, hw2, h⟩ := bV_some h
    refine ye_callS (As := [.int l1, .int ((-9)), .int 9]) (rest := []) 1 (Or.inl rfl) rfl rfl rfl (Nat.le_of_ble_eq_true rfl) ((m_X11_within (d := d + 0) (T := T) N S l1 ((-9)) 9 hw2) hp sz hM) ?_
    refine ye_if_eq rfl (fun h2 => ?_) (fun h2 => ?_)
    · replace h := yiT h2 h
      exact w_X11_isWeather_26 (prim := prim) (d := d) N S lv hM h
    · replace h := yiN h2 h
      refine ye_p rfl rfl ?_
      refine ye_p rfl rfl ?_
      exact w_X11_isWeather_27 (prim := prim) (d := d) N S 1 lv hM h
def f_X11_isWeather (N : Nat) (S : yS) (xl0 : Int32) (xl1 : Int32) : Option Int32 := f_X11_isWeather_0 N S xl0 xl1
theorem m_X11_isWeather {F : xH} {ev : xEv} {prim : xRel} {d : Nat} {T : yT} {v : Int32} (N : Nat) (S : yS) (xl0 : Int32) (xl1 : Int32) (h : f_X11_isWeather N S xl0 xl1 = some v) : ykP [0, 1, 2, 3, 4, 5, 6, 7] F ev prim (d + 2) 182 T S [.int xl0, .int xl1] (.int v) :=
  ykP.of (pg_182 ev) mi_182 (Nat.le_of_ble_eq_true rfl) (fun hp sz hM => w_X11_isWeather_0 (prim := prim) (d := d) N S xl0 xl1 _ rfl rfl hM h)

def f_X12_lines_87 (N : Nat) (S : yS) : Option (Int32 × yS) := bS (f_X12_isWrong N S) fun w1 S1 => some (w1, S1)
set_option maxHeartbeats 4000000 in
set_option maxRecDepth 40000 in
theorem w_X12_lines_87 {F : xH} {ev : xEv} {prim : xRel} {d sz : Nat} {T : yT} {v : Int32} {S' : yS} (N : Nat) (S : yS) (hp : xH) (lv : xLv) (a0 : Nat) (fa0 : yAt T 12 8 0 a0) (g0 : xG lv 0 = some (.ref a0)) (hM : cR [8] F ev T S hp) (h : f_X12_lines_87 N S = some (v, S')) : yWE ev.2.1 (xstr ev) (xCalls ev xmi (xprog ev) prim (d + 404)) (pX12_lines ev) (87, lv, [], hp, sz, 0) (ypQ [8] F ev T sz (some (.int v)) S') := by
  unfold f_X12_lines_87 at h
  refine ye_aload rfl g0 ?_
  obtain ⟨w1, S1, hw1, h⟩ := bS_some h
  obtain ⟨y1, cy1, M1⟩ := (m_X12_isWrong (d := d + 403) (T := T) N S a0 fa0 hw1) hp sz hM
  refine ye_callV (As := []) (rest := []) 0 (Or.inl rfl) rfl rfl rfl (Nat.le_of_ble_eq_true rfl) (hM.obj fa0 ⟨rfl, rfl⟩) cy1 ?_
  exact ye_ret rfl rfl (rQ h M1)

def f_X12_lines_138 (N : Nat) (S : yS) (l2 : Int32) : Option (Int32 × yS) := some (l2, S)
set_option maxHeartbeats 4000000 in
set_option maxRecDepth 40000 in
theorem w_X12_lines_138 {F : xH} {ev : xEv} {prim : xRel} {d sz : Nat} {T : yT} {v : Int32} {S' : yS} (N : Nat) (S : yS) (l2 : Int32) (hp : xH) (lv : xLv) (g2 : xG lv 2 = some (.int l2)) (hM : cR [8] F ev T S hp) (h : f_X12_lines_138 N S l2 = some (v, S')) : yWE ev.2.1 (xstr ev) (xCalls ev xmi (xprog ev) prim (d + 404)) (pX12_lines ev) (138, lv, [], hp, sz, 0) (ypQ [8] F ev T sz (some (.int v)) S') := by
  unfold f_X12_lines_138 at h
  refine ye_iload rfl g2 ?_
  exact ye_ret rfl rfl (rQ h hM)

def f_X12_lines_120 (N : Nat) (k9 : yS → Nat → Int32 → Int32 → Option (Int32 × yS)) (S : yS) (m1 : Nat) (l2 : Int32) (l3 : Int32) : Option (Int32 × yS) := bS (f_X12_comes N S 59) fun w1 S1 => if ¬ w1 = 0 then k9 S1 m1 l2 (l3 + 1) else f_X12_lines_138 N S1 l2
set_option maxHeartbeats 4000000 in
set_option maxRecDepth 40000 in
theorem w_X12_lines_120 {F : xH} {ev : xEv} {prim : xRel} {d sz : Nat} {T : yT} {v : Int32} {S' : yS} (N : Nat) (k9 : yS → Nat → Int32 → Int32 → Option (Int32 × yS)) (u9 : ∀ (S : yS) (m1 : Nat) (l2 : Int32) (l3 : Int32) (hp : xH) (lv : xLv) (a0 : Nat) (fa0 : yAt T 12 8 0 a0) (g0 : xG lv 0 = some (.ref a0)) (g1 : xG lv 1 = some (.ref (ev.2.1 m1))) (g2 : xG lv 2 = some (.int l2)) (g3 : xG lv 3 = some (.int l3)) (hM : cR [8] F ev T S hp) (h : k9 S m1 l2 l3 = some (v, S')), yWE ev.2.1 (xstr ev) (xCalls ev xmi (xprog ev) prim (d + 404)) (pX12_lines ev) (9, lv, [], hp, sz, 0) (ypQ [8] F ev T sz (some (.int v)) S')) (S : yS) (m1 : Nat) (l2 : Int32) (l3 : Int32) (hp : xH) (lv : xLv) (a0 : Nat) (fa0 : yAt T 12 8 0 a0) (g0 : xG lv 0 = some (.ref a0)) (g1 : xG lv 1 = some (.ref (ev.2.1 m1))) (g2 : xG lv 2 = some (.int l2)) (g3 : xG lv 3 = some (.int l3)) (hM : cR [8] F ev T S hp) (h : f_X12_lines_120 N k9 S m1 l2 l3 = some (v, S')) : yWE ev.2.1 (xstr ev) (xCalls ev xmi (xprog ev) prim (d + 404)) (pX12_lines ev) (120, lv, [], hp, sz, 0) (ypQ [8] F ev T sz (some (.int v)) S') := by
  unfold f_X12_lines_120 at h
  refine ye_aload rfl g0 ?_
  refine ye_p rfl rfl ?_
  obtain ⟨w1, S1, hw1, h⟩ := bS_some h
  obtain ⟨y1, cy1, M1⟩ := (m_X12_comes (d := d + 402) (T := T) N S 59 a0 fa0 hw1) hp sz hM
  refine ye_callV (As := [.int 59]) (rest := []) 0 (Or.inl rfl) rfl rfl rfl (Nat.le_of_ble_eq_true rfl) (hM.obj fa0 ⟨rfl, rfl⟩) cy1 ?_
  refine ye_if_ne rfl (fun h1 => ?_) (fun h1 => ?_)
  · replace h := yiT h1 h
    refine ye_iinc rfl g3 ?_
    have g0_z1 := xG_o1 (i := 3) (v := .int (l3 + 1)) g0 rfl
    have g1_z1 := xG_o1 (i := 3) (v := .int (l3 + 1)) g1 rfl
    have g2_z1 := xG_o1 (i := 3) (v := .int (l3 + 1)) g2 rfl
    have g3_z1 := xG_same lv 3 (.int (l3 + 1))
    generalize xSt1 lv 3 (.int (l3 + 1)) = lvz1 at g0_z1 g1_z1 g2_z1 g3_z1 ⊢
    refine ye_p rfl rfl ?_
    exact u9 S1 m1 l2 (l3 + 1) y1 lvz1 a0 fa0 g0_z1 g1_z1 g2_z1 g3_z1 M1 h
  · replace h := yiN h1 h
    refine ye_p rfl rfl ?_
    exact w_X12_lines_138 (prim := prim) (d := d) N S1 l2 y1 lv g2 M1 h

def f_X12_lines_38 (N : Nat) (k9 : yS → Nat → Int32 → Int32 → Option (Int32 × yS)) (S : yS) (m1 : Nat) (l2 : Int32) (l3 : Int32) (t0 : Int32) : Option (Int32 × yS) := if (S.1 8 54) = ((-1)) then bS (f_X12_comes N S 58) fun w1 S1 => if ¬ w1 = 0 then bV (f_X12_here N S1) fun w2 => if w2 = ((-1)) then f_X12_lines_87 N S1 else gP (m1 < 4) (if 0 ≤ (sIdx m1 ((w2.toUInt32 % 65536).toInt32)) then sq (yI S1 8 53 ((S1.1 8 53) + 1)) fun S2 => if t0 = 0 then f_X12_lines_120 N k9 S2 m1 l2 l3 else if ¬ l2 = ((-1)) then f_X12_lines_120 N k9 S2 m1 l2 l3 else sq (yI S2 8 57 l3) fun S3 => f_X12_lines_120 N k9 S3 m1 w2 l3 else f_X12_lines_87 N S1) else bS (f_X12_isWrong N S1) fun w4 S4 => some (w4, S4) else f_X12_lines_138 N S l2
set_option maxHeartbeats 4000000 in
set_option maxRecDepth 40000 in
theorem w_X12_lines_38 {F : xH} {ev : xEv} {prim : xRel} {d sz : Nat} {T : yT} {v : Int32} {S' : yS} (N : Nat) (k9 : yS → Nat → Int32 → Int32 → Option (Int32 × yS)) (u9 : ∀ (S : yS) (m1 : Nat) (l2 : Int32) (l3 : Int32) (hp : xH) (lv : xLv) (a0 : Nat) (fa0 : yAt T 12 8 0 a0) (g0 : xG lv 0 = some (.ref a0)) (g1 : xG lv 1 = some (.ref (ev.2.1 m1))) (g2 : xG lv 2 = some (.int l2)) (g3 : xG lv 3 = some (.int l3)) (hM : cR [8] F ev T S hp) (h : k9 S m1 l2 l3 = some (v, S')), yWE ev.2.1 (xstr ev) (xCalls ev xmi (xprog ev) prim (d + 404)) (pX12_lines ev) (9, lv, [], hp, sz, 0) (ypQ [8] F ev T sz (some (.int v)) S')) (S : yS) (m1 : Nat) (l2 : Int32) (l3 : Int32) (t0 : Int32) (hp : xH) (lv : xLv) (a0 : Nat) (fa0 : yAt T 12 8 0 a0) (g0 : xG lv 0 = some (.ref a0)) (g1 : xG lv 1 = some (.ref (ev.2.1 m1))) (g2 : xG lv 2 = some (.int l2)) (g3 : xG lv 3 = some (.int l3)) (hM : cR [8] F ev T S hp) (h : f_X12_lines_38 N k9 S m1 l2 l3 t0 = some (v, S')) : yWE ev.2.1 (xstr ev) (xCalls ev xmi (xprog ev) prim (d + 404)) (pX12_lines ev) (38, lv, [.int t0], hp, sz, 0) (ypQ [8] F ev T sz (some (.int v)) S') := by
  unfold f_X12_lines_38 at h
  refine ye_p rfl rfl ?_
  have g0_z1 := xG_o1 (i := 4) (v := .int t0) g0 rfl
  have g1_z1 := xG_o1 (i := 4) (v := .int t0) g1 rfl
  have g2_z1 := xG_o1 (i := 4) (v := .int t0) g2 rfl
  have g3_z1 := xG_o1 (i := 4) (v := .int t0) g3 rfl
  have g4_z1 := xG_same lv 4 (.int t0)
  generalize xSt1 lv 4 (.int t0) = lvz1 at g0_z1 g1_z1 g2_z1 g3_z1 g4_z1 ⊢
  refine ye_aload rfl g0_z1 ?_
  refine ye_getf rfl (hM.obj fa0 ⟨rfl, rfl⟩) rfl ?_
  refine ye_p rfl rfl ?_
  refine ye_icmp_eq rfl (fun h1 => ?_) (fun h1 => ?_)
  · replace h := yiT h1 h
    refine ye_aload rfl g0_z1 ?_
    refine ye_p rfl rfl ?_
    obtain ⟨w1, S1, hw1, h⟩ := bS_some h
    obtain ⟨y1, cy1, M1⟩ := (m_X12_comes (d := d + 402) (T := T) N S 58 a0 fa0 hw1) hp sz hM
    refine ye_callV (As := [.int 58]) (rest := []) 0 (Or.inl rfl) rfl rfl rfl (Nat.le_of_ble_eq_true rfl) (hM.obj fa0 ⟨rfl, rfl⟩) cy1 ?_
    refine ye_if_ne rfl (fun h2 => ?_) (fun h2 => ?_)
    · replace h := yiT h2 h
      refine ye_aload rfl g0_z1 ?_
      obtain ⟨w2, hw2, h⟩ := bV_some h
      refine ye_callV (As := []) (rest := []) 0 (Or.inl rfl) rfl rfl rfl (Nat.le_of_ble_eq_true rfl) (M1.obj fa0 ⟨rfl, rfl⟩) ((m_X12_here (d := d + 403) (T := T) N S1 a0 fa0 hw2) y1 sz M1) ?_
      refine ye_p rfl rfl ?_
      have g0_z2 := xG_o1 (i := 5) (v := .int w2) g0_z1 rfl
      have g1_z2 := xG_o1 (i := 5) (v := .int w2) g1_z1 rfl
      have g2_z2 := xG_o1 (i := 5) (v := .int w2) g2_z1 rfl
      have g3_z2 := xG_o1 (i := 5) (v := .int w2) g3_z1 rfl
      have g4_z2 := xG_o1 (i := 5) (v := .int w2) g4_z1 rfl
      have g5_z2 := xG_same lvz1 5 (.int w2)
      generalize xSt1 lvz1 5 (.int w2) = lvz2 at g0_z2 g1_z2 g2_z2 g3_z2 g4_z2 g5_z2 ⊢
      refine ye_iload rfl g5_z2 ?_
      refine ye_p rfl rfl ?_
      refine ye_icmp_eq rfl (fun h3 => ?_) (fun h3 => ?_)
      · replace h := yiT h3 h
        exact w_X12_lines_87 (prim := prim) (d := d) N S1 y1 lvz2 a0 fa0 g0_z2 M1 h
      · replace h := yiN h3 h
        refine ye_aload rfl g1_z2 ?_
        refine ye_iload rfl g5_z2 ?_
        refine ye_p rfl rfl ?_
        obtain ⟨i1, h⟩ := gP_some h
        refine ye_callT (i := m1) (As := [.int ((w2.toUInt32 % 65536).toInt32)]) (rest := []) rfl i1 rfl rfl (Nat.le_of_ble_eq_true rfl) (y_indexOf (d := d + 400) m1 ((w2.toUInt32 % 65536).toInt32) i1 y1 sz) ?_
        refine ye_if_ge rfl (fun h4 => ?_) (fun h4 => ?_)
        · replace h := yiT h4 h
          refine ye_aload rfl g0_z2 ?_
          refine ye_p rfl rfl ?_
          refine ye_getf rfl (M1.obj fa0 ⟨rfl, rfl⟩) rfl ?_
          refine ye_p rfl rfl ?_
          refine ye_p rfl rfl ?_
          obtain ⟨S2, eS2, h⟩ := sq_some h
          refine yw_putI rfl M1 fa0 rfl ⟨rfl, rfl⟩ (Nat.le_of_ble_eq_true rfl) rfl rfl (ys_12_53 ev T _ ((S1.1 8 53) + 1)) (fun q => absurd q (by decide)) eS2 (fun y2 M2 => ?_)
          refine ye_iload rfl g4_z2 ?_
          refine ye_if_eq rfl (fun h5 => ?_) (fun h5 => ?_)
          · replace h := yiT h5 h
            exact w_X12_lines_120 (prim := prim) (d := d) N k9 u9 S2 m1 l2 l3 y2 lvz2 a0 fa0 g0_z2 g1_z2 g2_z2 g3_z2 M2 h
          · replace h := yiN h5 h
            refine ye_iload rfl g2_z2 ?_
            refine ye_p rfl rfl ?_
            refine ye_icmp_ne rfl (fun h6 => ?_) (fun h6 => ?_)
            · replace h := yiT h6 h
              exact w_X12_lines_120 (prim := prim) (d := d) N k9 u9 S2 m1 l2 l3 y2 lvz2 a0 fa0 g0_z2 g1_z2 g2_z2 g3_z2 M2 h
            · replace h := yiN h6 h
              refine ye_iload rfl g5_z2 ?_
              refine ye_p rfl rfl ?_
              have g0_z3 := xG_o1 (i := 2) (v := .int w2) g0_z2 rfl
              have g1_z3 := xG_o1 (i := 2) (v := .int w2) g1_z2 rfl
              have g3_z3 := xG_o1 (i := 2) (v := .int w2) g3_z2 rfl
              have g2_z3 := xG_same lvz2 2 (.int w2)
              generalize xSt1 lvz2 2 (.int w2) = lvz3 at g0_z3 g1_z3 g3_z3 g2_z3 ⊢
              refine ye_aload rfl g0_z3 ?_
              refine ye_iload rfl g3_z3 ?_
              obtain ⟨S3, eS3, h⟩ := sq_some h
              refine yw_putI rfl M2 fa0 rfl ⟨rfl, rfl⟩ (Nat.le_of_ble_eq_true rfl) rfl rfl (ys_12_57 ev T _ l3) (fun q => absurd q (by decide)) eS3 (fun y3 M3 => ?_)
              exact w_X12_lines_120 (prim := prim) (d := d) N k9 u9 S3 m1 w2 l3 y3 lvz3 a0 fa0 g0_z3 g1_z3 g2_z3 g3_z3 M3 h
        · replace h := yiN h4 h
          exact w_X12_lines_87 (prim := prim) (d := d) N S1 y1 lvz2 a0 fa0 g0_z2 M1 h
    · replace h := yiN h2 h
      refine ye_aload rfl g0_z1 ?_
      obtain ⟨w4, S4, hw4, h⟩ := bS_some h
      obtain ⟨y4, cy4, M4⟩ := (m_X12_isWrong (d := d + 403) (T := T) N S1 a0 fa0 hw4) y1 sz M1
      refine ye_callV (As := []) (rest := []) 0 (Or.inl rfl) rfl rfl rfl (Nat.le_of_ble_eq_true rfl) (M1.obj fa0 ⟨rfl, rfl⟩) cy4 ?_
      exact ye_ret rfl rfl (rQ h M4)
  · replace h := yiN h1 h
    refine ye_p rfl rfl ?_
    exact w_X12_lines_138 (prim := prim) (d := d) N S l2 hp lvz1 g2_z1 hM h

def f_X12_lines_33 (N : Nat) (k9 : yS → Nat → Int32 → Int32 → Option (Int32 × yS)) (S : yS) (m1 : Nat) (l2 : Int32) (l3 : Int32) : Option (Int32 × yS) := f_X12_lines_38 N k9 S m1 l2 l3 1
set_option maxHeartbeats 4000000 in
set_option maxRecDepth 40000 in
theorem w_X12_lines_33 {F : xH} {ev : xEv} {prim : xRel} {d sz : Nat} {T : yT} {v : Int32} {S' : yS} (N : Nat) (k9 : yS → Nat → Int32 → Int32 → Option (Int32 × yS)) (u9 : ∀ (S : yS) (m1 : Nat) (l2 : Int32) (l3 : Int32) (hp : xH) (lv : xLv) (a0 : Nat) (fa0 : yAt T 12 8 0 a0) (g0 : xG lv 0 = some (.ref a0)) (g1 : xG lv 1 = some (.ref (ev.2.1 m1))) (g2 : xG lv 2 = some (.int l2)) (g3 : xG lv 3 = some (.int l3)) (hM : cR [8] F ev T S hp) (h : k9 S m1 l2 l3 = some (v, S')), yWE ev.2.1 (xstr ev) (xCalls ev xmi (xprog ev) prim (d + 404)) (pX12_lines ev) (9, lv, [], hp, sz, 0) (ypQ [8] F ev T sz (some (.int v)) S')) (S : yS) (m1 : Nat) (l2 : Int32) (l3 : Int32) (hp : xH) (lv : xLv) (a0 : Nat) (fa0 : yAt T 12 8 0 a0) (g0 : xG lv 0 = some (.ref a0)) (g1 : xG lv 1 = some (.ref (ev.2.1 m1))) (g2 : xG lv 2 = some (.int l2)) (g3 : xG lv 3 = some (.int l3)) (hM : cR [8] F ev T S hp) (h : f_X12_lines_33 N k9 S m1 l2 l3 = some (v, S')) : yWE ev.2.1 (xstr ev) (xCalls ev xmi (xprog ev) prim (d + 404)) (pX12_lines ev) (33, lv, [], hp, sz, 0) (ypQ [8] F ev T sz (some (.int v)) S') := by
  unfold f_X12_lines_33 at h
  refine ye_p rfl rfl ?_
  refine ye_p rfl rfl ?_
  exact w_X12_lines_38 (prim := prim) (d := d) N k9 u9 S m1 l2 l3 1 hp lv a0 fa0 g0 g1 g2 g3 hM h

def f_X12_lines_9 : Nat → Nat → yS → Nat → Int32 → Int32 → Option (Int32 × yS)
  | 0, _, _, _, _, _ => none
  | n + 1, N, S, m1, l2, l3 => if ¬ (S.1 8 54) = ((-1)) then f_X12_lines_138 N S l2 else bV (f_X12_here N S) fun w1 => if w1 = 58 then f_X12_lines_33 N (fun S m1 l2 l3 => f_X12_lines_9 n N S m1 l2 l3) S m1 l2 l3 else bS (f_X12_anyT N S) fun w2 S1 => if w2 = 0 then f_X12_lines_38 N (fun S m1 l2 l3 => f_X12_lines_9 n N S m1 l2 l3) S1 m1 l2 l3 0 else f_X12_lines_33 N (fun S m1 l2 l3 => f_X12_lines_9 n N S m1 l2 l3) S1 m1 l2 l3
set_option maxHeartbeats 4000000 in
set_option maxRecDepth 40000 in
theorem w_X12_lines_9 {F : xH} {ev : xEv} {prim : xRel} {d sz : Nat} {T : yT} {v : Int32} {S' : yS} (N : Nat) (n : Nat) : ∀ (S : yS) (m1 : Nat) (l2 : Int32) (l3 : Int32) (hp : xH) (lv : xLv) (a0 : Nat) (fa0 : yAt T 12 8 0 a0) (g0 : xG lv 0 = some (.ref a0)) (g1 : xG lv 1 = some (.ref (ev.2.1 m1))) (g2 : xG lv 2 = some (.int l2)) (g3 : xG lv 3 = some (.int l3)) (hM : cR [8] F ev T S hp) (h : f_X12_lines_9 n N S m1 l2 l3 = some (v, S')), yWE ev.2.1 (xstr ev) (xCalls ev xmi (xprog ev) prim (d + 404)) (pX12_lines ev) (9, lv, [], hp, sz, 0) (ypQ [8] F ev T sz (some (.int v)) S') := by
  induction n with
  | zero => intro S m1 l2 l3 hp lv a0 fa0 g0 g1 g2 g3 hM h; exact n_some h
  | succ n ih =>
    intro S m1 l2 l3 hp lv a0 fa0 g0 g1 g2 g3 hM h
    unfold f_X12_lines_9 at h
    refine ye_aload rfl g0 ?_
    refine ye_getf rfl (hM.obj fa0 ⟨rfl, rfl⟩) rfl ?_
    refine ye_p rfl rfl ?_
    refine ye_icmp_ne rfl (fun h1 => ?_) (fun h1 => ?_)
    · replace h := yiT h1 h
      exact w_X12_lines_138 (prim := prim) (d := d) N S l2 hp lv g2 hM h
    · replace h := yiN h1 h
      refine ye_aload rfl g0 ?_
      obtain ⟨w1, hw1, h⟩ := bV_some h
      refine ye_callV (As := []) (rest := []) 0 (Or.inl rfl) rfl rfl rfl (Nat.le_of_ble_eq_true rfl) (hM.obj fa0 ⟨rfl, rfl⟩) ((m_X12_here (d := d + 403) (T := T) N S a0 fa0 hw1) hp sz hM) ?_
      refine ye_p rfl rfl ?_
      refine ye_icmp_eq rfl (fun h2 => ?_) (fun h2 => ?_)
      · replace h := yiT h2 h
        exact w_X12_lines_33 (prim := prim) (d := d) N (fun S m1 l2 l3 => f_X12_lines_9 n N S m1 l2 l3) ih S m1 l2 l3 hp lv a0 fa0 g0 g1 g2 g3 hM h
      · replace h := yiN h2 h
        refine ye_aload rfl g0 ?_
        obtain ⟨w2, S1, hw2, h⟩ := bS_some h
        obtain ⟨y1, cy1, M1⟩ := (m_X12_anyT (d := d + 0) (T := T) N S a0 fa0 hw2) hp sz hM
        refine ye_callV (As := []) (rest := []) 0 (Or.inl rfl) rfl rfl rfl (Nat.le_of_ble_eq_true rfl) (hM.obj fa0 ⟨rfl, rfl⟩) cy1 ?_
        refine ye_if_eq rfl (fun h3 => ?_) (fun h3 => ?_)
        · replace h := yiT h3 h
          refine ye_p rfl rfl ?_
          exact w_X12_lines_38 (prim := prim) (d := d) N (fun S m1 l2 l3 => f_X12_lines_9 n N S m1 l2 l3) ih S1 m1 l2 l3 0 y1 lv a0 fa0 g0 g1 g2 g3 M1 h
        · replace h := yiN h3 h
          exact w_X12_lines_33 (prim := prim) (d := d) N (fun S m1 l2 l3 => f_X12_lines_9 n N S m1 l2 l3) ih S1 m1 l2 l3 y1 lv a0 fa0 g0 g1 g2 g3 M1 h

def f_X12_lines_0 (N : Nat) (S : yS) (m1 : Nat) : Option (Int32 × yS) := sq (yI S 8 57 ((-1))) fun S1 => f_X12_lines_9 N N S1 m1 ((-1)) 0
set_option maxHeartbeats 4000000 in
set_option maxRecDepth 40000 in
theorem w_X12_lines_0 {F : xH} {ev : xEv} {prim : xRel} {d sz : Nat} {T : yT} {v : Int32} {S' : yS} (N : Nat) (S : yS) (m1 : Nat) (hp : xH) (lv : xLv) (a0 : Nat) (fa0 : yAt T 12 8 0 a0) (g0 : xG lv 0 = some (.ref a0)) (g1 : xG lv 1 = some (.ref (ev.2.1 m1))) (hM : cR [8] F ev T S hp) (h : f_X12_lines_0 N S m1 = some (v, S')) : yWE ev.2.1 (xstr ev) (xCalls ev xmi (xprog ev) prim (d + 404)) (pX12_lines ev) (0, lv, [], hp, sz, 0) (ypQ [8] F ev T sz (some (.int v)) S') := by
  unfold f_X12_lines_0 at h
  refine ye_p rfl rfl ?_
  refine ye_p rfl rfl ?_
  have g0_z1 := xG_o1 (i := 2) (v := .int ((-1))) g0 rfl
  have g1_z1 := xG_o1 (i := 2) (v := .int ((-1))) g1 rfl
  have g2_z1 := xG_same lv 2 (.int ((-1)))
  generalize xSt1 lv 2 (.int ((-1))) = lvz1 at g0_z1 g1_z1 g2_z1 ⊢
  refine ye_aload rfl g0_z1 ?_
  refine ye_p rfl rfl ?_
  obtain ⟨S1, eS1, h⟩ := sq_some h
  refine yw_putI rfl hM fa0 rfl ⟨rfl, rfl⟩ (Nat.le_of_ble_eq_true rfl) rfl rfl (ys_12_57 ev T _ ((-1))) (fun q => absurd q (by decide)) eS1 (fun y1 M1 => ?_)
  refine ye_p rfl rfl ?_
  refine ye_p rfl rfl ?_
  have g0_z2 := xG_o1 (i := 3) (v := .int 0) g0_z1 rfl
  have g1_z2 := xG_o1 (i := 3) (v := .int 0) g1_z1 rfl
  have g2_z2 := xG_o1 (i := 3) (v := .int 0) g2_z1 rfl
  have g3_z2 := xG_same lvz1 3 (.int 0)
  generalize xSt1 lvz1 3 (.int 0) = lvz2 at g0_z2 g1_z2 g2_z2 g3_z2 ⊢
  exact w_X12_lines_9 (prim := prim) (d := d) N N S1 m1 ((-1)) 0 y1 lvz2 a0 fa0 g0_z2 g1_z2 g2_z2 g3_z2 M1 h
def f_X12_lines (N : Nat) (S : yS) (xm1 : Nat) : Option (Int32 × yS) := f_X12_lines_0 N S xm1
theorem m_X12_lines {F : xH} {ev : xEv} {prim : xRel} {d : Nat} {T : yT} {v : Int32} {S' : yS} (N : Nat) (S : yS) (xm1 : Nat) (a0 : Nat) (fa0 : yAt T 12 8 0 a0) (h : f_X12_lines N S xm1 = some (v, S')) : ykQ [8] F ev prim (d + 405) 242 T S [.ref a0, .ref (ev.2.1 xm1)] (some (.int v)) S' :=
  ykQ.of (pg_242 ev) mi_242 (Nat.le_of_ble_eq_true rfl) (fun hp sz hM => w_X12_lines_0 (prim := prim) (d := d) N S xm1 hp _ a0 fa0 rfl rfl hM h)

def f_X12_force_71 (N : Nat) (S : yS) : Option (Int32 × yS) := some ((-100), S)
set_option maxHeartbeats 4000000 in
set_option maxRecDepth 40000 in
theorem w_X12_force_71 {F : xH} {ev : xEv} {prim : xRel} {d sz : Nat} {T : yT} {v : Int32} {S' : yS} (N : Nat) (S : yS) (hp : xH) (lv : xLv) (hM : cR [8] F ev T S hp) (h : f_X12_force_71 N S = some (v, S')) : yWE ev.2.1 (xstr ev) (xCalls ev xmi (xprog ev) prim (d + 405)) (pX12_force ev) (71, lv, [], hp, sz, 0) (ypQ [8] F ev T sz (some (.int v)) S') := by
  unfold f_X12_force_71 at h
  refine ye_p rfl rfl ?_
  exact ye_ret rfl rfl (rQ h hM)

def f_X12_force_280 (N : Nat) (S : yS) (t0 : Int32) : Option (Int32 × yS) := some (t0, S)
set_option maxHeartbeats 4000000 in
set_option maxRecDepth 40000 in
theorem w_X12_force_280 {F : xH} {ev : xEv} {prim : xRel} {d sz : Nat} {T : yT} {v : Int32} {S' : yS} (N : Nat) (S : yS) (t0 : Int32) (hp : xH) (lv : xLv) (hM : cR [8] F ev T S hp) (h : f_X12_force_280 N S t0 = some (v, S')) : yWE ev.2.1 (xstr ev) (xCalls ev xmi (xprog ev) prim (d + 405)) (pX12_force ev) (280, lv, [.int t0], hp, sz, 0) (ypQ [8] F ev T sz (some (.int v)) S') := by
  unfold f_X12_force_280 at h
  exact ye_ret rfl rfl (rQ h hM)

def f_X12_force_264 (N : Nat) (S : yS) (l1 : Int32) : Option (Int32 × yS) := if ¬ l1 = 2 then f_X12_force_280 N S (S.1 8 41) else f_X12_force_280 N S (S.1 8 42)
set_option maxHeartbeats 4000000 in
set_option maxRecDepth 40000 in
theorem w_X12_force_264 {F : xH} {ev : xEv} {prim : xRel} {d sz : Nat} {T : yT} {v : Int32} {S' : yS} (N : Nat) (S : yS) (l1 : Int32) (hp : xH) (lv : xLv) (a0 : Nat) (fa0 : yAt T 12 8 0 a0) (g0 : xG lv 0 = some (.ref a0)) (g1 : xG lv 1 = some (.int l1)) (hM : cR [8] F ev T S hp) (h : f_X12_force_264 N S l1 = some (v, S')) : yWE ev.2.1 (xstr ev) (xCalls ev xmi (xprog ev) prim (d + 405)) (pX12_force ev) (264, lv, [], hp, sz, 0) (ypQ [8] F ev T sz (some (.int v)) S') := by
  unfold f_X12_force_264 at h
  refine ye_iload rfl g1 ?_
  refine ye_p rfl rfl ?_
  refine ye_icmp_ne rfl (fun h1 => ?_) (fun h1 => ?_)
  · replace h := yiT h1 h
    refine ye_aload rfl g0 ?_
    refine ye_getf rfl (hM.obj fa0 ⟨rfl, rfl⟩) rfl ?_
    exact w_X12_force_280 (prim := prim) (d := d) N S (S.1 8 41) hp lv hM h
  · replace h := yiN h1 h
    refine ye_aload rfl g0 ?_
    refine ye_getf rfl (hM.obj fa0 ⟨rfl, rfl⟩) rfl ?_
    refine ye_p rfl rfl ?_
    exact w_X12_force_280 (prim := prim) (d := d) N S (S.1 8 42) hp lv hM h

def f_X12_force_180 : Nat → Nat → yS → Int32 → Int32 → Int32 → Int32 → Int32 → Option (Int32 × yS)
  | 0, _, _, _, _, _, _, _ => none
  | n + 1, N, S, l1, l2, l3, l4, l5 => if l3 ≤ l5 then gA 32 l4 fun j1 => sq (yA S 8 38 (upd (S.2.1 8 38) j1 l3)) fun S1 => gA 32 l4 fun j2 => sq (yA S1 8 39 (upd (S1.2.1 8 39) j2 l1)) fun S2 => gA 32 l4 fun j3 => sq (yA S2 8 40 (upd (S2.2.1 8 40) j3 l2)) fun S3 => if ¬ l1 = 2 then sq (yI S3 8 41 ((S3.1 8 41) + 1)) fun S4 => f_X12_force_264 N S4 l1 else sq (yI S3 8 42 ((S3.1 8 42) + 1)) fun S5 => f_X12_force_264 N S5 l1 else gA 100 l5 fun j4 => gA 1920 ((60 * l4) + l5) fun j5 => sq (yA S 8 37 (upd (S.2.1 8 37) j5 (vp_nar .byte (S.2.1 8 43 j4)))) fun S6 => f_X12_force_180 n N S6 l1 l2 l3 l4 (l5 + 1)
set_option maxHeartbeats 4000000 in
set_option maxRecDepth 40000 in
theorem w_X12_force_180 {F : xH} {ev : xEv} {prim : xRel} {d sz : Nat} {T : yT} {v : Int32} {S' : yS} (N : Nat) (n : Nat) : ∀ (S : yS) (l1 : Int32) (l2 : Int32) (l3 : Int32) (l4 : Int32) (l5 : Int32) (hp : xH) (lv : xLv) (a0 : Nat) (fa0 : yAt T 12 8 0 a0) (g0 : xG lv 0 = some (.ref a0)) (g1 : xG lv 1 = some (.int l1)) (g2 : xG lv 2 = some (.int l2)) (g3 : xG lv 3 = some (.int l3)) (g4 : xG lv 4 = some (.int l4)) (g5 : xG lv 5 = some (.int l5)) (hM : cR [8] F ev T S hp) (h : f_X12_force_180 n N S l1 l2 l3 l4 l5 = some (v, S')), yWE ev.2.1 (xstr ev) (xCalls ev xmi (xprog ev) prim (d + 405)) (pX12_force ev) (180, lv, [], hp, sz, 0) (ypQ [8] F ev T sz (some (.int v)) S') := by
  induction n with
  | zero => intro S l1 l2 l3 l4 l5 hp lv a0 fa0 g0 g1 g2 g3 g4 g5 hM h; exact n_some h
  | succ n ih =>
    intro S l1 l2 l3 l4 l5 hp lv a0 fa0 g0 g1 g2 g3 g4 g5 hM h
    unfold f_X12_force_180 at h
    refine ye_iload rfl g5 ?_
    refine ye_iload rfl g3 ?_
    refine ye_icmp_ge rfl (fun h1 => ?_) (fun h1 => ?_)
    · replace h := yiT h1 h
      refine ye_aload rfl g0 ?_
      refine ye_getr rfl (hM.obj fa0 ⟨rfl, rfl⟩) rfl (fun cx1 ecx1 => ?_)
      have fcx1 := yAt.row fa0 ecx1
      refine ye_iload rfl g4 ?_
      refine ye_iload rfl g3 ?_
      obtain ⟨j1, ej1, ij1, h⟩ := gA_some h
      obtain ⟨S1, eS1, h⟩ := sq_some h
      refine yw_ast rfl hM fcx1 yr_12_38 (by decide) ij1 ej1 eS1 (fun y1 M1 => ?_)
      refine ye_aload rfl g0 ?_
      refine ye_getr rfl (M1.obj fa0 ⟨rfl, rfl⟩) rfl (fun cx2 ecx2 => ?_)
      have fcx2 := yAt.row fa0 ecx2
      refine ye_iload rfl g4 ?_
      refine ye_iload rfl g1 ?_
      obtain ⟨j2, ej2, ij2, h⟩ := gA_some h
      obtain ⟨S2, eS2, h⟩ := sq_some h
      refine yw_ast rfl M1 fcx2 yr_12_39 (by decide) ij2 ej2 eS2 (fun y2 M2 => ?_)
      refine ye_aload rfl g0 ?_
      refine ye_getr rfl (M2.obj fa0 ⟨rfl, rfl⟩) rfl (fun cx3 ecx3 => ?_)
      have fcx3 := yAt.row fa0 ecx3
      refine ye_iload rfl g4 ?_
      refine ye_iload rfl g2 ?_
      obtain ⟨j3, ej3, ij3, h⟩ := gA_some h
      obtain ⟨S3, eS3, h⟩ := sq_some h
      refine yw_ast rfl M2 fcx3 yr_12_40 (by decide) ij3 ej3 eS3 (fun y3 M3 => ?_)
      refine ye_iload rfl g1 ?_
      refine ye_p rfl rfl ?_
      refine ye_icmp_ne rfl (fun h2 => ?_) (fun h2 => ?_)
      · replace h := yiT h2 h
        refine ye_aload rfl g0 ?_
        refine ye_p rfl rfl ?_
        refine ye_getf rfl (M3.obj fa0 ⟨rfl, rfl⟩) rfl ?_
        refine ye_p rfl rfl ?_
        refine ye_p rfl rfl ?_
        obtain ⟨S4, eS4, h⟩ := sq_some h
        refine yw_putI rfl M3 fa0 rfl ⟨rfl, rfl⟩ (Nat.le_of_ble_eq_true rfl) rfl rfl (ys_12_41 ev T _ ((S3.1 8 41) + 1)) (fun q => absurd q (by decide)) eS4 (fun y4 M4 => ?_)
        exact w_X12_force_264 (prim := prim) (d := d) N S4 l1 y4 lv a0 fa0 g0 g1 M4 h
      · replace h := yiN h2 h
        refine ye_aload rfl g0 ?_
        refine ye_p rfl rfl ?_
        refine ye_getf rfl (M3.obj fa0 ⟨rfl, rfl⟩) rfl ?_
        refine ye_p rfl rfl ?_
        refine ye_p rfl rfl ?_
        obtain ⟨S5, eS5, h⟩ := sq_some h
        refine yw_putI rfl M3 fa0 rfl ⟨rfl, rfl⟩ (Nat.le_of_ble_eq_true rfl) rfl rfl (ys_12_42 ev T _ ((S3.1 8 42) + 1)) (fun q => absurd q (by decide)) eS5 (fun y5 M5 => ?_)
        refine ye_p rfl rfl ?_
        exact w_X12_force_264 (prim := prim) (d := d) N S5 l1 y5 lv a0 fa0 g0 g1 M5 h
    · replace h := yiN h1 h
      refine ye_aload rfl g0 ?_
      refine ye_getr rfl (hM.obj fa0 ⟨rfl, rfl⟩) rfl (fun cx4 ecx4 => ?_)
      have fcx4 := yAt.row fa0 ecx4
      refine ye_p rfl rfl ?_
      refine ye_iload rfl g4 ?_
      refine ye_p rfl rfl ?_
      refine ye_iload rfl g5 ?_
      refine ye_p rfl rfl ?_
      refine ye_aload rfl g0 ?_
      refine ye_getr rfl (hM.obj fa0 ⟨rfl, rfl⟩) rfl (fun cx5 ecx5 => ?_)
      have fcx5 := yAt.row fa0 ecx5
      refine ye_iload rfl g5 ?_
      obtain ⟨j4, ej4, ij4, h⟩ := gA_some h
      refine yj_ald rfl (hM.arr fcx5 yr_12_43) ij4 ej4 ?_
      obtain ⟨j5, ej5, ij5, h⟩ := gA_some h
      obtain ⟨S6, eS6, h⟩ := sq_some h
      refine yw_ast rfl hM fcx4 yr_12_37 (by decide) ij5 ej5 eS6 (fun y6 M6 => ?_)
      refine ye_iinc rfl g5 ?_
      have g0_z1 := xG_o1 (i := 5) (v := .int (l5 + 1)) g0 rfl
      have g1_z1 := xG_o1 (i := 5) (v := .int (l5 + 1)) g1 rfl
      have g2_z1 := xG_o1 (i := 5) (v := .int (l5 + 1)) g2 rfl
      have g3_z1 := xG_o1 (i := 5) (v := .int (l5 + 1)) g3 rfl
      have g4_z1 := xG_o1 (i := 5) (v := .int (l5 + 1)) g4 rfl
      have g5_z1 := xG_same lv 5 (.int (l5 + 1))
      generalize xSt1 lv 5 (.int (l5 + 1)) = lvz1 at g0_z1 g1_z1 g2_z1 g3_z1 g4_z1 g5_z1 ⊢
      refine ye_p rfl rfl ?_
      exact ih S6 l1 l2 l3 l4 (l5 + 1) y6 lvz1 a0 fa0 g0_z1 g1_z1 g2_z1 g3_z1 g4_z1 g5_z1 M6 h

def f_X12_force_175 (N : Nat) (S : yS) (l1 : Int32) (l2 : Int32) (l3 : Int32) (t0 : Int32) : Option (Int32 × yS) := f_X12_force_180 N N S l1 l2 l3 t0 0
set_option maxHeartbeats 4000000 in
set_option maxRecDepth 40000 in
theorem w_X12_force_175 {F : xH} {ev : xEv} {prim : xRel} {d sz : Nat} {T : yT} {v : Int32} {S' : yS} (N : Nat) (S : yS) (l1 : Int32) (l2 : Int32) (l3 : Int32) (t0 : Int32) (hp : xH) (lv : xLv) (a0 : Nat) (fa0 : yAt T 12 8 0 a0) (g0 : xG lv 0 = some (.ref a0)) (g1 : xG lv 1 = some (.int l1)) (g2 : xG lv 2 = some (.int l2)) (g3 : xG lv 3 = some (.int l3)) (hM : cR [8] F ev T S hp) (h : f_X12_force_175 N S l1 l2 l3 t0 = some (v, S')) : yWE ev.2.1 (xstr ev) (xCalls ev xmi (xprog ev) prim (d + 405)) (pX12_force ev) (175, lv, [.int t0], hp, sz, 0) (ypQ [8] F ev T sz (some (.int v)) S') := by
  unfold f_X12_force_175 at h
  refine ye_p rfl rfl ?_
  have g0_z1 := xG_o1 (i := 4) (v := .int t0) g0 rfl
  have g1_z1 := xG_o1 (i := 4) (v := .int t0) g1 rfl
  have g2_z1 := xG_o1 (i := 4) (v := .int t0) g2 rfl
  have g3_z1 := xG_o1 (i := 4) (v := .int t0) g3 rfl
  have g4_z1 := xG_same lv 4 (.int t0)
  generalize xSt1 lv 4 (.int t0) = lvz1 at g0_z1 g1_z1 g2_z1 g3_z1 g4_z1 ⊢
  refine ye_p rfl rfl ?_
  refine ye_p rfl rfl ?_
  have g0_z2 := xG_o1 (i := 5) (v := .int 0) g0_z1 rfl
  have g1_z2 := xG_o1 (i := 5) (v := .int 0) g1_z1 rfl
  have g2_z2 := xG_o1 (i := 5) (v := .int 0) g2_z1 rfl
  have g3_z2 := xG_o1 (i := 5) (v := .int 0) g3_z1 rfl
  have g4_z2 := xG_o1 (i := 5) (v := .int 0) g4_z1 rfl
  have g5_z2 := xG_same lvz1 5 (.int 0)
  generalize xSt1 lvz1 5 (.int 0) = lvz2 at g0_z2 g1_z2 g2_z2 g3_z2 g4_z2 g5_z2 ⊢
  exact w_X12_force_180 (prim := prim) (d := d) N N S l1 l2 l3 t0 0 hp lvz2 a0 fa0 g0_z2 g1_z2 g2_z2 g3_z2 g4_z2 g5_z2 hM h

def f_X12_force_141 (N : Nat) (S : yS) (l1 : Int32) (l2 : Int32) (l3 : Int32) : Option (Int32 × yS) := if (S.1 8 54) = ((-1)) then if ¬ l1 = 2 then f_X12_force_175 N S l1 l2 l3 (S.1 8 41) else f_X12_force_175 N S l1 l2 l3 (20 + (S.1 8 42)) else some (((-1)) - (S.1 8 54), S)
set_option maxHeartbeats 4000000 in
set_option maxRecDepth 40000 in
theorem w_X12_force_141 {F : xH} {ev : xEv} {prim : xRel} {d sz : Nat} {T : yT} {v : Int32} {S' : yS} (N : Nat) (S : yS) (l1 : Int32) (l2 : Int32) (l3 : Int32) (hp : xH) (lv : xLv) (a0 : Nat) (fa0 : yAt T 12 8 0 a0) (g0 : xG lv 0 = some (.ref a0)) (g1 : xG lv 1 = some (.int l1)) (g2 : xG lv 2 = some (.int l2)) (g3 : xG lv 3 = some (.int l3)) (hM : cR [8] F ev T S hp) (h : f_X12_force_141 N S l1 l2 l3 = some (v, S')) : yWE ev.2.1 (xstr ev) (xCalls ev xmi (xprog ev) prim (d + 405)) (pX12_force ev) (141, lv, [], hp, sz, 0) (ypQ [8] F ev T sz (some (.int v)) S') := by
  unfold f_X12_force_141 at h
  refine ye_aload rfl g0 ?_
  refine ye_getf rfl (hM.obj fa0 ⟨rfl, rfl⟩) rfl ?_
  refine ye_p rfl rfl ?_
  refine ye_icmp_eq rfl (fun h1 => ?_) (fun h1 => ?_)
  · replace h := yiT h1 h
    refine ye_iload rfl g1 ?_
    refine ye_p rfl rfl ?_
    refine ye_icmp_ne rfl (fun h2 => ?_) (fun h2 => ?_)
    · replace h := yiT h2 h
      refine ye_aload rfl g0 ?_
      refine ye_getf rfl (hM.obj fa0 ⟨rfl, rfl⟩) rfl ?_
      exact w_X12_force_175 (prim := prim) (d := d) N S l1 l2 l3 (S.1 8 41) hp lv a0 fa0 g0 g1 g2 g3 hM h
    · replace h := yiN h2 h
      refine ye_p rfl rfl ?_
      refine ye_aload rfl g0 ?_
      refine ye_getf rfl (hM.obj fa0 ⟨rfl, rfl⟩) rfl ?_
      refine ye_p rfl rfl ?_
      refine ye_p rfl rfl ?_
      exact w_X12_force_175 (prim := prim) (d := d) N S l1 l2 l3 (20 + (S.1 8 42)) hp lv a0 fa0 g0 g1 g2 g3 hM h
  · replace h := yiN h1 h
    refine ye_p rfl rfl ?_
    refine ye_aload rfl g0 ?_
    refine ye_getf rfl (hM.obj fa0 ⟨rfl, rfl⟩) rfl ?_
    refine ye_p rfl rfl ?_
    exact ye_ret rfl rfl (rQ h hM)

def f_X12_force_120 (N : Nat) (S : yS) (l1 : Int32) (l2 : Int32) (l3 : Int32) : Option (Int32 × yS) := if ¬ (S.1 8 54) = ((-1)) then f_X12_force_141 N S l1 l2 l3 else if l3 ≤ (S.1 8 53) then f_X12_force_141 N S l1 l2 l3 else bS (f_X12_isWrong N S) fun w1 S1 => f_X12_force_141 N S1 l1 l2 l3
set_option maxHeartbeats 4000000 in
set_option maxRecDepth 40000 in
theorem w_X12_force_120 {F : xH} {ev : xEv} {prim : xRel} {d sz : Nat} {T : yT} {v : Int32} {S' : yS} (N : Nat) (S : yS) (l1 : Int32) (l2 : Int32) (l3 : Int32) (hp : xH) (lv : xLv) (a0 : Nat) (fa0 : yAt T 12 8 0 a0) (g0 : xG lv 0 = some (.ref a0)) (g1 : xG lv 1 = some (.int l1)) (g2 : xG lv 2 = some (.int l2)) (g3 : xG lv 3 = some (.int l3)) (hM : cR [8] F ev T S hp) (h : f_X12_force_120 N S l1 l2 l3 = some (v, S')) : yWE ev.2.1 (xstr ev) (xCalls ev xmi (xprog ev) prim (d + 405)) (pX12_force ev) (120, lv, [], hp, sz, 0) (ypQ [8] F ev T sz (some (.int v)) S') := by
  unfold f_X12_force_120 at h
  refine ye_aload rfl g0 ?_
  refine ye_getf rfl (hM.obj fa0 ⟨rfl, rfl⟩) rfl ?_
  refine ye_p rfl rfl ?_
  refine ye_icmp_ne rfl (fun h1 => ?_) (fun h1 => ?_)
  · replace h := yiT h1 h
    exact w_X12_force_141 (prim := prim) (d := d) N S l1 l2 l3 hp lv a0 fa0 g0 g1 g2 g3 hM h
  · replace h := yiN h1 h
    refine ye_aload rfl g0 ?_
    refine ye_getf rfl (hM.obj fa0 ⟨rfl, rfl⟩) rfl ?_
    refine ye_iload rfl g3 ?_
    refine ye_icmp_ge rfl (fun h2 => ?_) (fun h2 => ?_)
    · replace h := yiT h2 h
      exact w_X12_force_141 (prim := prim) (d := d) N S l1 l2 l3 hp lv a0 fa0 g0 g1 g2 g3 hM h
    · replace h := yiN h2 h
      refine ye_aload rfl g0 ?_
      obtain ⟨w1, S1, hw1, h⟩ := bS_some h
      obtain ⟨y1, cy1, M1⟩ := (m_X12_isWrong (d := d + 404) (T := T) N S a0 fa0 hw1) hp sz hM
      refine ye_callV (As := []) (rest := []) 0 (Or.inl rfl) rfl rfl rfl (Nat.le_of_ble_eq_true rfl) (hM.obj fa0 ⟨rfl, rfl⟩) cy1 ?_
      refine ye_p rfl rfl ?_
      exact w_X12_force_141 (prim := prim) (d := d) N S1 l1 l2 l3 y1 lv a0 fa0 g0 g1 g2 g3 M1 h

def f_X12_force_95 (N : Nat) (S : yS) (l1 : Int32) (l2 : Int32) (l3 : Int32) (t2 : Int32) (t3 : Int32) (n4 : Nat) : Option (Int32 × yS) := bS (f_X12_open N S 1 t2 t3 n4) fun w1 S1 => if ¬ l1 = 2 then bV (f_X12_actsOf N S1 l1) fun w2 => bS (f_X12_lines N S1 w2) fun w3 S2 => f_X12_force_120 N S2 l1 l2 l3 else bS (f_X12_choiceT N S1) fun w4 S3 => f_X12_force_120 N S3 l1 l2 l3
set_option maxHeartbeats 4000000 in
set_option maxRecDepth 40000 in
theorem w_X12_force_95 {F : xH} {ev : xEv} {prim : xRel} {d sz : Nat} {T : yT} {v : Int32} {S' : yS} (N : Nat) (S : yS) (l1 : Int32) (l2 : Int32) (l3 : Int32) (t2 : Int32) (t3 : Int32) (n4 : Nat) (hp : xH) (lv : xLv) (a0 : Nat) (b0 : Nat) (b1 : Nat) (fa0 : yAt T 12 8 0 a0) (fb0 : yAt T 12 8 0 b0) (fb1 : yAt T 12 8 44 b1) (g0 : xG lv 0 = some (.ref a0)) (g1 : xG lv 1 = some (.int l1)) (g2 : xG lv 2 = some (.int l2)) (g3 : xG lv 3 = some (.int l3)) (hM : cR [8] F ev T S hp) (h : f_X12_force_95 N S l1 l2 l3 t2 t3 n4 = some (v, S')) : yWE ev.2.1 (xstr ev) (xCalls ev xmi (xprog ev) prim (d + 405)) (pX12_force ev) (95, lv, [.ref (ev.2.1 n4), .int t3, .int t2, .ref b1, .ref b0], hp, sz, 0) (ypQ [8] F ev T sz (some (.int v)) S') := by
  unfold f_X12_force_95 at h
  obtain ⟨w1, S1, hw1, h⟩ := bS_some h
  obtain ⟨y1, cy1, M1⟩ := (m_X12_open (d := d + 404) (T := T) N S 1 t2 t3 n4 b0 b1 fb0 (yB_1 fb1) hw1) hp sz hM
  refine ye_callV (As := [.ref b1, .int t2, .int t3, .ref (ev.2.1 n4)]) (rest := []) 0 (Or.inl rfl) rfl rfl rfl (Nat.le_of_ble_eq_true rfl) (hM.obj fb0 ⟨rfl, rfl⟩) cy1 ?_
  refine ye_iload rfl g1 ?_
  refine ye_p rfl rfl ?_
  refine ye_icmp_ne rfl (fun h1 => ?_) (fun h1 => ?_)
  · replace h := yiT h1 h
    refine ye_aload rfl g0 ?_
    refine ye_iload rfl g1 ?_
    obtain ⟨w2, hw2, h⟩ := bV_some h
    refine ye_callS (As := [.int l1]) (rest := [.ref a0]) 1 (Or.inl rfl) rfl rfl rfl (Nat.le_of_ble_eq_true rfl) ((m_X12_actsOf (d := d + 404) (T := T) N S1 l1 hw2) y1 sz M1) ?_
    obtain ⟨w3, S2, hw3, h⟩ := bS_some h
    obtain ⟨y2, cy2, M2⟩ := (m_X12_lines (d := d + 0) (T := T) N S1 w2 a0 fa0 hw3) y1 sz M1
    refine ye_callV (As := [.ref (ev.2.1 w2)]) (rest := []) 0 (Or.inl rfl) rfl rfl rfl (Nat.le_of_ble_eq_true rfl) (M1.obj fa0 ⟨rfl, rfl⟩) cy2 ?_
    refine ye_p rfl rfl ?_
    exact w_X12_force_120 (prim := prim) (d := d) N S2 l1 l2 l3 y2 lv a0 fa0 g0 g1 g2 g3 M2 h
  · replace h := yiN h1 h
    refine ye_aload rfl g0 ?_
    obtain ⟨w4, S3, hw4, h⟩ := bS_some h
    obtain ⟨y3, cy3, M3⟩ := (m_X12_choiceT (d := d + 1) (T := T) N S1 a0 fa0 hw4) y1 sz M1
    refine ye_callV (As := []) (rest := []) 0 (Or.inl rfl) rfl rfl rfl (Nat.le_of_ble_eq_true rfl) (M1.obj fa0 ⟨rfl, rfl⟩) cy3 ?_
    refine ye_p rfl rfl ?_
    refine ye_p rfl rfl ?_
    exact w_X12_force_120 (prim := prim) (d := d) N S3 l1 l2 l3 y3 lv a0 fa0 g0 g1 g2 g3 M3 h

def f_X12_force_74 (N : Nat) (S : yS) (l1 : Int32) (l2 : Int32) (l3 : Int32) : Option (Int32 × yS) := if ¬ l1 = 2 then f_X12_force_95 N S l1 l2 l3 0 l3 1 else f_X12_force_95 N S l1 l2 l3 0 l3 0
set_option maxHeartbeats 4000000 in
set_option maxRecDepth 40000 in
theorem w_X12_force_74 {F : xH} {ev : xEv} {prim : xRel} {d sz : Nat} {T : yT} {v : Int32} {S' : yS} (N : Nat) (S : yS) (l1 : Int32) (l2 : Int32) (l3 : Int32) (hp : xH) (lv : xLv) (a0 : Nat) (fa0 : yAt T 12 8 0 a0) (g0 : xG lv 0 = some (.ref a0)) (g1 : xG lv 1 = some (.int l1)) (g2 : xG lv 2 = some (.int l2)) (g3 : xG lv 3 = some (.int l3)) (hM : cR [8] F ev T S hp) (h : f_X12_force_74 N S l1 l2 l3 = some (v, S')) : yWE ev.2.1 (xstr ev) (xCalls ev xmi (xprog ev) prim (d + 405)) (pX12_force ev) (74, lv, [], hp, sz, 0) (ypQ [8] F ev T sz (some (.int v)) S') := by
  unfold f_X12_force_74 at h
  refine ye_aload rfl g0 ?_
  refine ye_aload rfl g0 ?_
  refine ye_getr rfl (hM.obj fa0 ⟨rfl, rfl⟩) rfl (fun cx1 ecx1 => ?_)
  have fcx1 := yAt.row fa0 ecx1
  refine ye_p rfl rfl ?_
  refine ye_iload rfl g3 ?_
  refine ye_iload rfl g1 ?_
  refine ye_p rfl rfl ?_
  refine ye_icmp_ne rfl (fun h1 => ?_) (fun h1 => ?_)
  · replace h := yiT h1 h
    refine ye_p rfl rfl ?_
    exact w_X12_force_95 (prim := prim) (d := d) N S l1 l2 l3 0 l3 1 hp lv a0 a0 cx1 fa0 fa0 fcx1 g0 g1 g2 g3 hM h
  · replace h := yiN h1 h
    refine ye_p rfl rfl ?_
    refine ye_p rfl rfl ?_
    exact w_X12_force_95 (prim := prim) (d := d) N S l1 l2 l3 0 l3 0 hp lv a0 a0 cx1 fa0 fa0 fcx1 g0 g1 g2 g3 hM h

def f_X12_force_39 (N : Nat) (S : yS) (l1 : Int32) (l2 : Int32) (l3 : Int32) (t0 : Int32) (t1 : Int32) (t2 : Int32) : Option (Int32 × yS) := bV (f_X12_in N S t0 t1 t2) fun w1 => if w1 = 0 then f_X12_force_71 N S else if ¬ l1 = 2 then if ¬ (S.1 8 41) = 20 then f_X12_force_74 N S l1 l2 l3 else f_X12_force_71 N S else if ¬ (S.1 8 42) = 12 then f_X12_force_74 N S l1 l2 l3 else f_X12_force_71 N S
set_option maxHeartbeats 4000000 in
set_option maxRecDepth 40000 in
theorem w_X12_force_39 {F : xH} {ev : xEv} {prim : xRel} {d sz : Nat} {T : yT} {v : Int32} {S' : yS} (N : Nat) (S : yS) (l1 : Int32) (l2 : Int32) (l3 : Int32) (t0 : Int32) (t1 : Int32) (t2 : Int32) (hp : xH) (lv : xLv) (a0 : Nat) (fa0 : yAt T 12 8 0 a0) (g0 : xG lv 0 = some (.ref a0)) (g1 : xG lv 1 = some (.int l1)) (g2 : xG lv 2 = some (.int l2)) (g3 : xG lv 3 = some (.int l3)) (hM : cR [8] F ev T S hp) (h : f_X12_force_39 N S l1 l2 l3 t0 t1 t2 = some (v, S')) : yWE ev.2.1 (xstr ev) (xCalls ev xmi (xprog ev) prim (d + 405)) (pX12_force ev) (39, lv, [.int t2, .int t1, .int t0], hp, sz, 0) (ypQ [8] F ev T sz (some (.int v)) S') := by
  unfold f_X12_force_39 at h
  obtain ⟨w1, hw1, h⟩ := bV_some h
  refine ye_callS (As := [.int t0, .int t1, .int t2]) (rest := []) 1 (Or.inl rfl) rfl rfl rfl (Nat.le_of_ble_eq_true rfl) ((m_X12_in (d := d + 404) (T := T) N S t0 t1 t2 hw1) hp sz hM) ?_
  refine ye_if_eq rfl (fun h1 => ?_) (fun h1 => ?_)
  · replace h := yiT h1 h
    exact w_X12_force_71 (prim := prim) (d := d) N S hp lv hM h
  · replace h := yiN h1 h
    refine ye_iload rfl g1 ?_
    refine ye_p rfl rfl ?_
    refine ye_icmp_ne rfl (fun h2 => ?_) (fun h2 => ?_)
    · replace h := yiT h2 h
      refine ye_aload rfl g0 ?_
      refine ye_getf rfl (hM.obj fa0 ⟨rfl, rfl⟩) rfl ?_
      refine ye_p rfl rfl ?_
      refine ye_icmp_ne rfl (fun h3 => ?_) (fun h3 => ?_)
      · replace h := yiT h3 h
        exact w_X12_force_74 (prim := prim) (d := d) N S l1 l2 l3 hp lv a0 fa0 g0 g1 g2 g3 hM h
      · replace h := yiN h3 h
        exact w_X12_force_71 (prim := prim) (d := d) N S hp lv hM h
    · replace h := yiN h2 h
      refine ye_aload rfl g0 ?_
      refine ye_getf rfl (hM.obj fa0 ⟨rfl, rfl⟩) rfl ?_
      refine ye_p rfl rfl ?_
      refine ye_icmp_ne rfl (fun h4 => ?_) (fun h4 => ?_)
      · replace h := yiT h4 h
        exact w_X12_force_74 (prim := prim) (d := d) N S l1 l2 l3 hp lv a0 fa0 g0 g1 g2 g3 hM h
      · replace h := yiN h4 h
        refine ye_p rfl rfl ?_
        exact w_X12_force_71 (prim := prim) (d := d) N S hp lv hM h

def f_X12_force_0 (N : Nat) (S : yS) (l1 : Int32) (l2 : Int32) : Option (Int32 × yS) := sq (yI S 8 47 0) fun S1 => sq (yI S1 8 44 0) fun S2 => bV (f_X12_in N S2 l1 0 2) fun w1 => if w1 = 0 then f_X12_force_71 N S2 else if ¬ l1 = 2 then f_X12_force_39 N S2 l1 l2 (S1.1 8 44) l2 0 3000 else f_X12_force_39 N S2 l1 l2 (S1.1 8 44) l2 0 99
set_option maxHeartbeats 4000000 in
set_option maxRecDepth 40000 in
theorem w_X12_force_0 {F : xH} {ev : xEv} {prim : xRel} {d sz : Nat} {T : yT} {v : Int32} {S' : yS} (N : Nat) (S : yS) (l1 : Int32) (l2 : Int32) (hp : xH) (lv : xLv) (a0 : Nat) (fa0 : yAt T 12 8 0 a0) (g0 : xG lv 0 = some (.ref a0)) (g1 : xG lv 1 = some (.int l1)) (g2 : xG lv 2 = some (.int l2)) (hM : cR [8] F ev T S hp) (h : f_X12_force_0 N S l1 l2 = some (v, S')) : yWE ev.2.1 (xstr ev) (xCalls ev xmi (xprog ev) prim (d + 405)) (pX12_force ev) (0, lv, [], hp, sz, 0) (ypQ [8] F ev T sz (some (.int v)) S') := by
  unfold f_X12_force_0 at h
  refine ye_aload rfl g0 ?_
  refine ye_p rfl rfl ?_
  obtain ⟨S1, eS1, h⟩ := sq_some h
  refine yw_putI rfl hM fa0 rfl ⟨rfl, rfl⟩ (Nat.le_of_ble_eq_true rfl) rfl rfl (ys_12_47 ev T _ 0) (fun q => absurd q (by decide)) eS1 (fun y1 M1 => ?_)
  refine ye_aload rfl g0 ?_
  refine ye_getf rfl (M1.obj fa0 ⟨rfl, rfl⟩) rfl ?_
  refine ye_p rfl rfl ?_
  have g0_z1 := xG_o1 (i := 3) (v := .int (S1.1 8 44)) g0 rfl
  have g1_z1 := xG_o1 (i := 3) (v := .int (S1.1 8 44)) g1 rfl
  have g2_z1 := xG_o1 (i := 3) (v := .int (S1.1 8 44)) g2 rfl
  have g3_z1 := xG_same lv 3 (.int (S1.1 8 44))
  generalize xSt1 lv 3 (.int (S1.1 8 44)) = lvz1 at g0_z1 g1_z1 g2_z1 g3_z1 ⊢
  refine ye_aload rfl g0_z1 ?_
  refine ye_p rfl rfl ?_
  obtain ⟨S2, eS2, h⟩ := sq_some h
  refine yw_putI rfl M1 fa0 rfl ⟨rfl, rfl⟩ (Nat.le_of_ble_eq_true rfl) rfl rfl (ys_12_44 ev T _ 0) (fun q => absurd q (by decide)) eS2 (fun y2 M2 => ?_)
  refine ye_iload rfl g1_z1 ?_
  refine ye_p rfl rfl ?_
  refine ye_p rfl rfl ?_
  obtain ⟨w1, hw1, h⟩ := bV_some h
  refine ye_callS (As := [.int l1, .int 0, .int 2]) (rest := []) 1 (Or.inl rfl) rfl rfl rfl (Nat.le_of_ble_eq_true rfl) ((m_X12_in (d := d + 404) (T := T) N S2 l1 0 2 hw1) y2 sz M2) ?_
  refine ye_if_eq rfl (fun h1 => ?_) (fun h1 => ?_)
  · replace h := yiT h1 h
    exact w_X12_force_71 (prim := prim) (d := d) N S2 y2 lvz1 M2 h
  · replace h := yiN h1 h
    refine ye_iload rfl g2_z1 ?_
    refine ye_p rfl rfl ?_
    refine ye_iload rfl g1_z1 ?_
    refine ye_p rfl rfl ?_
    refine ye_icmp_ne rfl (fun h2 => ?_) (fun h2 => ?_)
    · replace h := yiT h2 h
      refine ye_p rfl rfl ?_
      exact w_X12_force_39 (prim := prim) (d := d) N S2 l1 l2 (S1.1 8 44) l2 0 3000 y2 lvz1 a0 fa0 g0_z1 g1_z1 g2_z1 g3_z1 M2 h
    · replace h := yiN h2 h
      refine ye_p rfl rfl ?_
      refine ye_p rfl rfl ?_
      exact w_X12_force_39 (prim := prim) (d := d) N S2 l1 l2 (S1.1 8 44) l2 0 99 y2 lvz1 a0 fa0 g0_z1 g1_z1 g2_z1 g3_z1 M2 h
def f_X12_force (N : Nat) (S : yS) (xl1 : Int32) (xl2 : Int32) : Option (Int32 × yS) := f_X12_force_0 N S xl1 xl2
theorem m_X12_force {F : xH} {ev : xEv} {prim : xRel} {d : Nat} {T : yT} {v : Int32} {S' : yS} (N : Nat) (S : yS) (xl1 : Int32) (xl2 : Int32) (a0 : Nat) (fa0 : yAt T 12 8 0 a0) (h : f_X12_force N S xl1 xl2 = some (v, S')) : ykQ [8] F ev prim (d + 406) 245 T S [.ref a0, .int xl1, .int xl2] (some (.int v)) S' :=
  ykQ.of (pg_245 ev) mi_245 (Nat.le_of_ble_eq_true rfl) (fun hp sz hM => w_X12_force_0 (prim := prim) (d := d) N S xl1 xl2 hp _ a0 fa0 rfl rfl rfl hM h)

def f_X12_act_111 (N : Nat) (S : yS) (t0 : Int32) : Option (Int32 × yS) := some (t0, S)
set_option maxHeartbeats 4000000 in
set_option maxRecDepth 40000 in
theorem w_X12_act_111 {F : xH} {ev : xEv} {prim : xRel} {d sz : Nat} {T : yT} {v : Int32} {S' : yS} (N : Nat) (S : yS) (t0 : Int32) (hp : xH) (lv : xLv) (hM : cR [8] F ev T S hp) (h : f_X12_act_111 N S t0 = some (v, S')) : yWE ev.2.1 (xstr ev) (xCalls ev xmi (xprog ev) prim (d + 405)) (pX12_act ev) (111, lv, [.int t0], hp, sz, 0) (ypQ [8] F ev T sz (some (.int v)) S') := by
  unfold f_X12_act_111 at h
  exact ye_ret rfl rfl (rQ h hM)

def f_X12_act_89 (N : Nat) (S : yS) (l1 : Int32) (l5 : Int32) : Option (Int32 × yS) := if l5 = ((-1)) then if ¬ l1 = 0 then f_X12_act_111 N S 71 else f_X12_act_111 N S 87 else f_X12_act_111 N S l5
set_option maxHeartbeats 4000000 in
set_option maxRecDepth 40000 in
theorem w_X12_act_89 {F : xH} {ev : xEv} {prim : xRel} {d sz : Nat} {T : yT} {v : Int32} {S' : yS} (N : Nat) (S : yS) (l1 : Int32) (l5 : Int32) (hp : xH) (lv : xLv) (g1 : xG lv 1 = some (.int l1)) (g5 : xG lv 5 = some (.int l5)) (hM : cR [8] F ev T S hp) (h : f_X12_act_89 N S l1 l5 = some (v, S')) : yWE ev.2.1 (xstr ev) (xCalls ev xmi (xprog ev) prim (d + 405)) (pX12_act ev) (89, lv, [], hp, sz, 0) (ypQ [8] F ev T sz (some (.int v)) S') := by
  unfold f_X12_act_89 at h
  refine ye_iload rfl g5 ?_
  refine ye_p rfl rfl ?_
  refine ye_icmp_eq rfl (fun h1 => ?_) (fun h1 => ?_)
  · replace h := yiT h1 h
    refine ye_iload rfl g1 ?_
    refine ye_if_ne rfl (fun h2 => ?_) (fun h2 => ?_)
    · replace h := yiT h2 h
      refine ye_p rfl rfl ?_
      exact w_X12_act_111 (prim := prim) (d := d) N S 71 hp lv hM h
    · replace h := yiN h2 h
      refine ye_p rfl rfl ?_
      refine ye_p rfl rfl ?_
      exact w_X12_act_111 (prim := prim) (d := d) N S 87 hp lv hM h
  · replace h := yiN h1 h
    refine ye_iload rfl g5 ?_
    refine ye_p rfl rfl ?_
    exact w_X12_act_111 (prim := prim) (d := d) N S l5 hp lv hM h

def f_X12_act_86 (N : Nat) (S : yS) (l1 : Int32) (l5 : Int32) (t1 : Int32) (t2 : Int32) (t3 : Int32) : Option (Int32 × yS) := bS (f_X12_setFlight N S t1 t2 t3) fun w1 S1 => f_X12_act_89 N S1 l1 l5
set_option maxHeartbeats 4000000 in
set_option maxRecDepth 40000 in
theorem w_X12_act_86 {F : xH} {ev : xEv} {prim : xRel} {d sz : Nat} {T : yT} {v : Int32} {S' : yS} (N : Nat) (S : yS) (l1 : Int32) (l5 : Int32) (t1 : Int32) (t2 : Int32) (t3 : Int32) (hp : xH) (lv : xLv) (b0 : Nat) (fb0 : yAt T 12 8 0 b0) (g1 : xG lv 1 = some (.int l1)) (g5 : xG lv 5 = some (.int l5)) (hM : cR [8] F ev T S hp) (h : f_X12_act_86 N S l1 l5 t1 t2 t3 = some (v, S')) : yWE ev.2.1 (xstr ev) (xCalls ev xmi (xprog ev) prim (d + 405)) (pX12_act ev) (86, lv, [.int t3, .int t2, .int t1, .ref b0], hp, sz, 0) (ypQ [8] F ev T sz (some (.int v)) S') := by
  unfold f_X12_act_86 at h
  obtain ⟨w1, S1, hw1, h⟩ := bS_some h
  obtain ⟨y1, cy1, M1⟩ := (m_X12_setFlight (d := d + 404) (T := T) N S t1 t2 t3 b0 fb0 hw1) hp sz hM
  refine ye_callV (As := [.int t1, .int t2, .int t3]) (rest := []) 0 (Or.inl rfl) rfl rfl rfl (Nat.le_of_ble_eq_true rfl) (hM.obj fb0 ⟨rfl, rfl⟩) cy1 ?_
  exact w_X12_act_89 (prim := prim) (d := d) N S1 l1 l5 y1 lv g1 g5 M1 h

def f_X12_act_60 (N : Nat) (S : yS) (l1 : Int32) (l2 : Int32) (l3 : Int32) (l5 : Int32) : Option (Int32 × yS) := if l3 = 0 then f_X12_act_89 N S l1 l5 else if ¬ (S.1 8 57) = ((-1)) then f_X12_act_86 N S l1 l5 l2 (3 + l1) (S.1 8 57) else f_X12_act_86 N S l1 l5 l2 (3 + l1) ((-2))
set_option maxHeartbeats 4000000 in
set_option maxRecDepth 40000 in
theorem w_X12_act_60 {F : xH} {ev : xEv} {prim : xRel} {d sz : Nat} {T : yT} {v : Int32} {S' : yS} (N : Nat) (S : yS) (l1 : Int32) (l2 : Int32) (l3 : Int32) (l5 : Int32) (hp : xH) (lv : xLv) (a0 : Nat) (fa0 : yAt T 12 8 0 a0) (g0 : xG lv 0 = some (.ref a0)) (g1 : xG lv 1 = some (.int l1)) (g2 : xG lv 2 = some (.int l2)) (g3 : xG lv 3 = some (.int l3)) (g5 : xG lv 5 = some (.int l5)) (hM : cR [8] F ev T S hp) (h : f_X12_act_60 N S l1 l2 l3 l5 = some (v, S')) : yWE ev.2.1 (xstr ev) (xCalls ev xmi (xprog ev) prim (d + 405)) (pX12_act ev) (60, lv, [], hp, sz, 0) (ypQ [8] F ev T sz (some (.int v)) S') := by
  unfold f_X12_act_60 at h
  refine ye_iload rfl g3 ?_
  refine ye_if_eq rfl (fun h1 => ?_) (fun h1 => ?_)
  · replace h := yiT h1 h
    exact w_X12_act_89 (prim := prim) (d := d) N S l1 l5 hp lv g1 g5 hM h
  · replace h := yiN h1 h
    refine ye_aload rfl g0 ?_
    refine ye_iload rfl g2 ?_
    refine ye_p rfl rfl ?_
    refine ye_iload rfl g1 ?_
    refine ye_p rfl rfl ?_
    refine ye_aload rfl g0 ?_
    refine ye_getf rfl (hM.obj fa0 ⟨rfl, rfl⟩) rfl ?_
    refine ye_p rfl rfl ?_
    refine ye_icmp_ne rfl (fun h2 => ?_) (fun h2 => ?_)
    · replace h := yiT h2 h
      refine ye_aload rfl g0 ?_
      refine ye_getf rfl (hM.obj fa0 ⟨rfl, rfl⟩) rfl ?_
      exact w_X12_act_86 (prim := prim) (d := d) N S l1 l5 l2 (3 + l1) (S.1 8 57) hp lv a0 fa0 g1 g5 hM h
    · replace h := yiN h2 h
      refine ye_p rfl rfl ?_
      refine ye_p rfl rfl ?_
      exact w_X12_act_86 (prim := prim) (d := d) N S l1 l5 l2 (3 + l1) ((-2)) hp lv a0 fa0 g1 g5 hM h

def f_X12_act_0 (N : Nat) (S : yS) (l1 : Int32) (l2 : Int32) (l3 : Int32) : Option (Int32 × yS) := gA 2305 0 fun j1 => bV (f_X12_textOf N S l1 (S.2.1 8 48 j1)) fun w1 => sq (yI S 8 57 ((-1))) fun S1 => if w1 = ((-1)) then f_X12_act_60 N S1 l1 l2 l3 ((-1)) else gA 32 w1 fun j2 => bS (f_X12_open N S1 2 (60 * w1) (S1.2.1 8 38 j2) 1) fun w2 S2 => bV (f_X12_actsOf N S2 l1) fun w3 => bS (f_X12_lines N S2 w3) fun w4 S3 => f_X12_act_60 N S3 l1 l2 l3 w4
set_option maxHeartbeats 4000000 in
set_option maxRecDepth 40000 in
theorem w_X12_act_0 {F : xH} {ev : xEv} {prim : xRel} {d sz : Nat} {T : yT} {v : Int32} {S' : yS} (N : Nat) (S : yS) (l1 : Int32) (l2 : Int32) (l3 : Int32) (hp : xH) (lv : xLv) (a0 : Nat) (fa0 : yAt T 12 8 0 a0) (g0 : xG lv 0 = some (.ref a0)) (g1 : xG lv 1 = some (.int l1)) (g2 : xG lv 2 = some (.int l2)) (g3 : xG lv 3 = some (.int l3)) (hM : cR [8] F ev T S hp) (h : f_X12_act_0 N S l1 l2 l3 = some (v, S')) : yWE ev.2.1 (xstr ev) (xCalls ev xmi (xprog ev) prim (d + 405)) (pX12_act ev) (0, lv, [], hp, sz, 0) (ypQ [8] F ev T sz (some (.int v)) S') := by
  unfold f_X12_act_0 at h
  refine ye_aload rfl g0 ?_
  refine ye_iload rfl g1 ?_
  refine ye_aload rfl g0 ?_
  refine ye_getr rfl (hM.obj fa0 ⟨rfl, rfl⟩) rfl (fun cx1 ecx1 => ?_)
  have fcx1 := yAt.row fa0 ecx1
  refine ye_p rfl rfl ?_
  obtain ⟨j1, ej1, ij1, h⟩ := gA_some h
  refine yj_ald rfl (hM.arr fcx1 yr_12_48) ij1 ej1 ?_
  obtain ⟨w1, hw1, h⟩ := bV_some h
  refine ye_callV (As := [.int l1, .int (S.2.1 8 48 j1)]) (rest := []) 0 (Or.inl rfl) rfl rfl rfl (Nat.le_of_ble_eq_true rfl) (hM.obj fa0 ⟨rfl, rfl⟩) ((m_X12_textOf (d := d + 404) (T := T) N S l1 (S.2.1 8 48 j1) a0 fa0 hw1) hp sz hM) ?_
  refine ye_p rfl rfl ?_
  have g0_z1 := xG_o1 (i := 4) (v := .int w1) g0 rfl
  have g1_z1 := xG_o1 (i := 4) (v := .int w1) g1 rfl
  have g2_z1 := xG_o1 (i := 4) (v := .int w1) g2 rfl
  have g3_z1 := xG_o1 (i := 4) (v := .int w1) g3 rfl
  have g4_z1 := xG_same lv 4 (.int w1)
  generalize xSt1 lv 4 (.int w1) = lvz1 at g0_z1 g1_z1 g2_z1 g3_z1 g4_z1 ⊢
  refine ye_p rfl rfl ?_
  refine ye_p rfl rfl ?_
  have g0_z2 := xG_o1 (i := 5) (v := .int ((-1))) g0_z1 rfl
  have g1_z2 := xG_o1 (i := 5) (v := .int ((-1))) g1_z1 rfl
  have g2_z2 := xG_o1 (i := 5) (v := .int ((-1))) g2_z1 rfl
  have g3_z2 := xG_o1 (i := 5) (v := .int ((-1))) g3_z1 rfl
  have g4_z2 := xG_o1 (i := 5) (v := .int ((-1))) g4_z1 rfl
  have g5_z2 := xG_same lvz1 5 (.int ((-1)))
  generalize xSt1 lvz1 5 (.int ((-1))) = lvz2 at g0_z2 g1_z2 g2_z2 g3_z2 g4_z2 g5_z2 ⊢
  refine ye_aload rfl g0_z2 ?_
  refine ye_p rfl rfl ?_
  obtain ⟨S1, eS1, h⟩ := sq_some h
  refine yw_putI rfl hM fa0 rfl ⟨rfl, rfl⟩ (Nat.le_of_ble_eq_true rfl) rfl rfl (ys_12_57 ev T _ ((-1))) (fun q => absurd q (by decide)) eS1 (fun y1 M1 => ?_)
  refine ye_iload rfl g4_z2 ?_
  refine ye_p rfl rfl ?_
  refine ye_icmp_eq rfl (fun h1 => ?_) (fun h1 => ?_)
  · replace h := yiT h1 h
    exact w_X12_act_60 (prim := prim) (d := d) N S1 l1 l2 l3 ((-1)) y1 lvz2 a0 fa0 g0_z2 g1_z2 g2_z2 g3_z2 g5_z2 M1 h
  · replace h := yiN h1 h
    refine ye_aload rfl g0_z2 ?_
    refine ye_aload rfl g0_z2 ?_
    refine ye_getr rfl (M1.obj fa0 ⟨rfl, rfl⟩) rfl (fun cx2 ecx2 => ?_)
    have fcx2 := yAt.row fa0 ecx2
    refine ye_p rfl rfl ?_
    refine ye_iload rfl g4_z2 ?_
    refine ye_p rfl rfl ?_
    refine ye_aload rfl g0_z2 ?_
    refine ye_getr rfl (M1.obj fa0 ⟨rfl, rfl⟩) rfl (fun cx3 ecx3 => ?_)
    have fcx3 := yAt.row fa0 ecx3
    refine ye_iload rfl g4_z2 ?_
    obtain ⟨j2, ej2, ij2, h⟩ := gA_some h
    refine yj_ald rfl (M1.arr fcx3 yr_12_38) ij2 ej2 ?_
    refine ye_p rfl rfl ?_
    obtain ⟨w2, S2, hw2, h⟩ := bS_some h
    obtain ⟨y2, cy2, M2⟩ := (m_X12_open (d := d + 404) (T := T) N S1 2 (60 * w1) (S1.2.1 8 38 j2) 1 a0 cx2 fa0 (yB_2 fcx2) hw2) y1 sz M1
    refine ye_callV (As := [.ref cx2, .int (60 * w1), .int (S1.2.1 8 38 j2), .ref (ev.2.1 1)]) (rest := []) 0 (Or.inl rfl) rfl rfl rfl (Nat.le_of_ble_eq_true rfl) (M1.obj fa0 ⟨rfl, rfl⟩) cy2 ?_
    refine ye_aload rfl g0_z2 ?_
    refine ye_iload rfl g1_z2 ?_
    obtain ⟨w3, hw3, h⟩ := bV_some h
    refine ye_callS (As := [.int l1]) (rest := [.ref a0]) 1 (Or.inl rfl) rfl rfl rfl (Nat.le_of_ble_eq_true rfl) ((m_X12_actsOf (d := d + 404) (T := T) N S2 l1 hw3) y2 sz M2) ?_
    obtain ⟨w4, S3, hw4, h⟩ := bS_some h
    obtain ⟨y3, cy3, M3⟩ := (m_X12_lines (d := d + 0) (T := T) N S2 w3 a0 fa0 hw4) y2 sz M2
    refine ye_callV (As := [.ref (ev.2.1 w3)]) (rest := []) 0 (Or.inl rfl) rfl rfl rfl (Nat.le_of_ble_eq_true rfl) (M2.obj fa0 ⟨rfl, rfl⟩) cy3 ?_
    refine ye_p rfl rfl ?_
    have g0_z3 := xG_o1 (i := 5) (v := .int w4) g0_z2 rfl
    have g1_z3 := xG_o1 (i := 5) (v := .int w4) g1_z2 rfl
    have g2_z3 := xG_o1 (i := 5) (v := .int w4) g2_z2 rfl
    have g3_z3 := xG_o1 (i := 5) (v := .int w4) g3_z2 rfl
    have g5_z3 := xG_same lvz2 5 (.int w4)
    generalize xSt1 lvz2 5 (.int w4) = lvz3 at g0_z3 g1_z3 g2_z3 g3_z3 g5_z3 ⊢
    exact w_X12_act_60 (prim := prim) (d := d) N S3 l1 l2 l3 w4 y3 lvz3 a0 fa0 g0_z3 g1_z3 g2_z3 g3_z3 g5_z3 M3 h
def f_X12_act (N : Nat) (S : yS) (xl1 : Int32) (xl2 : Int32) (xl3 : Int32) : Option (Int32 × yS) := f_X12_act_0 N S xl1 xl2 xl3
theorem m_X12_act {F : xH} {ev : xEv} {prim : xRel} {d : Nat} {T : yT} {v : Int32} {S' : yS} (N : Nat) (S : yS) (xl1 : Int32) (xl2 : Int32) (xl3 : Int32) (a0 : Nat) (fa0 : yAt T 12 8 0 a0) (h : f_X12_act N S xl1 xl2 xl3 = some (v, S')) : ykQ [8] F ev prim (d + 406) 247 T S [.ref a0, .int xl1, .int xl2, .int xl3] (some (.int v)) S' :=
  ykQ.of (pg_247 ev) mi_247 (Nat.le_of_ble_eq_true rfl) (fun hp sz hM => w_X12_act_0 (prim := prim) (d := d) N S xl1 xl2 xl3 hp _ a0 fa0 rfl rfl rfl rfl hM h)

def f_X12_whyNot_73 (N : Nat) (S : yS) : Option (Int32 × yS) := some (1, S)
set_option maxHeartbeats 4000000 in
set_option maxRecDepth 40000 in
theorem w_X12_whyNot_73 {F : xH} {ev : xEv} {prim : xRel} {d sz : Nat} {T : yT} {v : Int32} {S' : yS} (N : Nat) (S : yS) (hp : xH) (lv : xLv) (hM : cR [8] F ev T S hp) (h : f_X12_whyNot_73 N S = some (v, S')) : yWE ev.2.1 (xstr ev) (xCalls ev xmi (xprog ev) prim (d + 406)) (pX12_whyNot ev) (73, lv, [], hp, sz, 0) (ypQ [8] F ev T sz (some (.int v)) S') := by
  unfold f_X12_whyNot_73 at h
  refine ye_p rfl rfl ?_
  exact ye_ret rfl rfl (rQ h hM)

def f_X12_whyNot_367 (N : Nat) (S : yS) (t0 : Int32) : Option (Int32 × yS) := some (t0, S)
set_option maxHeartbeats 4000000 in
set_option maxRecDepth 40000 in
theorem w_X12_whyNot_367 {F : xH} {ev : xEv} {prim : xRel} {d sz : Nat} {T : yT} {v : Int32} {S' : yS} (N : Nat) (S : yS) (t0 : Int32) (hp : xH) (lv : xLv) (hM : cR [8] F ev T S hp) (h : f_X12_whyNot_367 N S t0 = some (v, S')) : yWE ev.2.1 (xstr ev) (xCalls ev xmi (xprog ev) prim (d + 406)) (pX12_whyNot ev) (367, lv, [.int t0], hp, sz, 0) (ypQ [8] F ev T sz (some (.int v)) S') := by
  unfold f_X12_whyNot_367 at h
  exact ye_ret rfl rfl (rQ h hM)

def f_X12_whyNot_333 (N : Nat) (S : yS) (l1 : Int32) (l2 : Int32) (l3 : Int32) (l5 : Int32) (t1 : Int32) (t2 : Int32) (t3 : Int32) (t4 : Int32) : Option (Int32 × yS) := gA 8 l3 fun j1 => gA 12 l5 fun j2 => bS (f_X12_tell N S t1 t2 t3 t4 (S.2.1 8 19 j1) (S.2.1 8 4 j2)) fun w1 S1 => bS (f_X12_act N S1 0 l1 l2) fun w2 S2 => if ¬ w2 = 71 then f_X12_whyNot_367 N S2 7 else f_X12_whyNot_367 N S2 0
set_option maxHeartbeats 4000000 in
set_option maxRecDepth 40000 in
theorem w_X12_whyNot_333 {F : xH} {ev : xEv} {prim : xRel} {d sz : Nat} {T : yT} {v : Int32} {S' : yS} (N : Nat) (S : yS) (l1 : Int32) (l2 : Int32) (l3 : Int32) (l5 : Int32) (t1 : Int32) (t2 : Int32) (t3 : Int32) (t4 : Int32) (hp : xH) (lv : xLv) (a0 : Nat) (b0 : Nat) (fa0 : yAt T 12 8 0 a0) (fb0 : yAt T 12 8 0 b0) (g0 : xG lv 0 = some (.ref a0)) (g1 : xG lv 1 = some (.int l1)) (g2 : xG lv 2 = some (.int l2)) (g3 : xG lv 3 = some (.int l3)) (g5 : xG lv 5 = some (.int l5)) (hM : cR [8] F ev T S hp) (h : f_X12_whyNot_333 N S l1 l2 l3 l5 t1 t2 t3 t4 = some (v, S')) : yWE ev.2.1 (xstr ev) (xCalls ev xmi (xprog ev) prim (d + 406)) (pX12_whyNot ev) (333, lv, [.int t4, .int t3, .int t2, .int t1, .ref b0], hp, sz, 0) (ypQ [8] F ev T sz (some (.int v)) S') := by
  unfold f_X12_whyNot_333 at h
  refine ye_aload rfl g0 ?_
  refine ye_getr rfl (hM.obj fa0 ⟨rfl, rfl⟩) rfl (fun cx1 ecx1 => ?_)
  have fcx1 := yAt.row fa0 ecx1
  refine ye_iload rfl g3 ?_
  obtain ⟨j1, ej1, ij1, h⟩ := gA_some h
  refine yj_ald rfl (hM.arr fcx1 yr_12_19) ij1 ej1 ?_
  refine ye_aload rfl g0 ?_
  refine ye_getr rfl (hM.obj fa0 ⟨rfl, rfl⟩) rfl (fun cx2 ecx2 => ?_)
  have fcx2 := yAt.row fa0 ecx2
  refine ye_iload rfl g5 ?_
  obtain ⟨j2, ej2, ij2, h⟩ := gA_some h
  refine yj_ald rfl (hM.arr fcx2 yr_12_4) ij2 ej2 ?_
  obtain ⟨w1, S1, hw1, h⟩ := bS_some h
  obtain ⟨y1, cy1, M1⟩ := (m_X12_tell (d := d + 404) (T := T) N S t1 t2 t3 t4 (S.2.1 8 19 j1) (S.2.1 8 4 j2) b0 fb0 hw1) hp sz hM
  refine ye_callV (As := [.int t1, .int t2, .int t3, .int t4, .int (S.2.1 8 19 j1), .int (S.2.1 8 4 j2)]) (rest := []) 0 (Or.inl rfl) rfl rfl rfl (Nat.le_of_ble_eq_true rfl) (hM.obj fb0 ⟨rfl, rfl⟩) cy1 ?_
  refine ye_aload rfl g0 ?_
  refine ye_p rfl rfl ?_
  refine ye_iload rfl g1 ?_
  refine ye_iload rfl g2 ?_
  obtain ⟨w2, S2, hw2, h⟩ := bS_some h
  obtain ⟨y2, cy2, M2⟩ := (m_X12_act (d := d + 0) (T := T) N S1 0 l1 l2 a0 fa0 hw2) y1 sz M1
  refine ye_callV (As := [.int 0, .int l1, .int l2]) (rest := []) 0 (Or.inl rfl) rfl rfl rfl (Nat.le_of_ble_eq_true rfl) (M1.obj fa0 ⟨rfl, rfl⟩) cy2 ?_
  refine ye_p rfl rfl ?_
  refine ye_icmp_ne rfl (fun h1 => ?_) (fun h1 => ?_)
  · replace h := yiT h1 h
    refine ye_p rfl rfl ?_
    exact w_X12_whyNot_367 (prim := prim) (d := d) N S2 7 y2 lv M2 h
  · replace h := yiN h1 h
    refine ye_p rfl rfl ?_
    refine ye_p rfl rfl ?_
    exact w_X12_whyNot_367 (prim := prim) (d := d) N S2 0 y2 lv M2 h

def f_X12_whyNot_304 (N : Nat) (S : yS) (l1 : Int32) (l2 : Int32) (l3 : Int32) (l4 : Int32) (l5 : Int32) (l7 : Int32) (t1 : Int32) (t2 : Int32) : Option (Int32 × yS) := gA 10 t1 fun j1 => sq (yA S 8 56 (upd (S.2.1 8 56) j1 t2)) fun S1 => if l7 = 0 then gA 12 l5 fun j2 => f_X12_whyNot_333 N S1 l1 l2 l3 l5 l3 l4 l5 (S1.2.1 8 2 j2) else gA 12 l5 fun j3 => f_X12_whyNot_333 N S1 l1 l2 l3 l5 l3 l4 l5 (S1.2.1 8 3 j3)
set_option maxHeartbeats 4000000 in
set_option maxRecDepth 40000 in
theorem w_X12_whyNot_304 {F : xH} {ev : xEv} {prim : xRel} {d sz : Nat} {T : yT} {v : Int32} {S' : yS} (N : Nat) (S : yS) (l1 : Int32) (l2 : Int32) (l3 : Int32) (l4 : Int32) (l5 : Int32) (l7 : Int32) (t1 : Int32) (t2 : Int32) (hp : xH) (lv : xLv) (a0 : Nat) (b0 : Nat) (fa0 : yAt T 12 8 0 a0) (fb0 : yAt T 12 8 57 b0) (g0 : xG lv 0 = some (.ref a0)) (g1 : xG lv 1 = some (.int l1)) (g2 : xG lv 2 = some (.int l2)) (g3 : xG lv 3 = some (.int l3)) (g4 : xG lv 4 = some (.int l4)) (g5 : xG lv 5 = some (.int l5)) (g7 : xG lv 7 = some (.int l7)) (hM : cR [8] F ev T S hp) (h : f_X12_whyNot_304 N S l1 l2 l3 l4 l5 l7 t1 t2 = some (v, S')) : yWE ev.2.1 (xstr ev) (xCalls ev xmi (xprog ev) prim (d + 406)) (pX12_whyNot ev) (304, lv, [.int t2, .int t1, .ref b0], hp, sz, 0) (ypQ [8] F ev T sz (some (.int v)) S') := by
  unfold f_X12_whyNot_304 at h
  obtain ⟨j1, ej1, ij1, h⟩ := gA_some h
  obtain ⟨S1, eS1, h⟩ := sq_some h
  refine yw_ast rfl hM fb0 yr_12_56 (by decide) ij1 ej1 eS1 (fun y1 M1 => ?_)
  refine ye_aload rfl g0 ?_
  refine ye_iload rfl g3 ?_
  refine ye_iload rfl g4 ?_
  refine ye_iload rfl g5 ?_
  refine ye_iload rfl g7 ?_
  refine ye_if_eq rfl (fun h1 => ?_) (fun h1 => ?_)
  · replace h := yiT h1 h
    refine ye_aload rfl g0 ?_
    refine ye_getr rfl (M1.obj fa0 ⟨rfl, rfl⟩) rfl (fun cx1 ecx1 => ?_)
    have fcx1 := yAt.row fa0 ecx1
    refine ye_iload rfl g5 ?_
    obtain ⟨j2, ej2, ij2, h⟩ := gA_some h
    refine yj_ald rfl (M1.arr fcx1 yr_12_2) ij2 ej2 ?_
    exact w_X12_whyNot_333 (prim := prim) (d := d) N S1 l1 l2 l3 l5 l3 l4 l5 (S1.2.1 8 2 j2) y1 lv a0 a0 fa0 fa0 g0 g1 g2 g3 g5 M1 h
  · replace h := yiN h1 h
    refine ye_aload rfl g0 ?_
    refine ye_getr rfl (M1.obj fa0 ⟨rfl, rfl⟩) rfl (fun cx2 ecx2 => ?_)
    have fcx2 := yAt.row fa0 ecx2
    refine ye_iload rfl g5 ?_
    obtain ⟨j3, ej3, ij3, h⟩ := gA_some h
    refine yj_ald rfl (M1.arr fcx2 yr_12_3) ij3 ej3 ?_
    refine ye_p rfl rfl ?_
    exact w_X12_whyNot_333 (prim := prim) (d := d) N S1 l1 l2 l3 l5 l3 l4 l5 (S1.2.1 8 3 j3) y1 lv a0 a0 fa0 fa0 g0 g1 g2 g3 g5 M1 h

def f_X12_whyNot_270 (N : Nat) (S : yS) (l1 : Int32) (l2 : Int32) (l3 : Int32) (l4 : Int32) (l5 : Int32) (l7 : Int32) (l8 : Int32) (t1 : Int32) (t2 : Int32) : Option (Int32 × yS) := gA 10 t1 fun j1 => sq (yA S 8 56 (upd (S.2.1 8 56) j1 t2)) fun S1 => if ¬ l8 = ((-1)) then gA 2305 0 fun j2 => gA 2305 (l8 + 1) fun j3 => f_X12_whyNot_304 N S1 l1 l2 l3 l4 l5 l7 2 ((S1.2.1 8 48 j2) - (S1.2.1 8 48 j3)) else f_X12_whyNot_304 N S1 l1 l2 l3 l4 l5 l7 2 999
set_option maxHeartbeats 4000000 in
set_option maxRecDepth 40000 in
theorem w_X12_whyNot_270 {F : xH} {ev : xEv} {prim : xRel} {d sz : Nat} {T : yT} {v : Int32} {S' : yS} (N : Nat) (S : yS) (l1 : Int32) (l2 : Int32) (l3 : Int32) (l4 : Int32) (l5 : Int32) (l7 : Int32) (l8 : Int32) (t1 : Int32) (t2 : Int32) (hp : xH) (lv : xLv) (a0 : Nat) (b0 : Nat) (fa0 : yAt T 12 8 0 a0) (fb0 : yAt T 12 8 57 b0) (g0 : xG lv 0 = some (.ref a0)) (g1 : xG lv 1 = some (.int l1)) (g2 : xG lv 2 = some (.int l2)) (g3 : xG lv 3 = some (.int l3)) (g4 : xG lv 4 = some (.int l4)) (g5 : xG lv 5 = some (.int l5)) (g7 : xG lv 7 = some (.int l7)) (g8 : xG lv 8 = some (.int l8)) (hM : cR [8] F ev T S hp) (h : f_X12_whyNot_270 N S l1 l2 l3 l4 l5 l7 l8 t1 t2 = some (v, S')) : yWE ev.2.1 (xstr ev) (xCalls ev xmi (xprog ev) prim (d + 406)) (pX12_whyNot ev) (270, lv, [.int t2, .int t1, .ref b0], hp, sz, 0) (ypQ [8] F ev T sz (some (.int v)) S') := by
  unfold f_X12_whyNot_270 at h
  obtain ⟨j1, ej1, ij1, h⟩ := gA_some h
  obtain ⟨S1, eS1, h⟩ := sq_some h
  refine yw_ast rfl hM fb0 yr_12_56 (by decide) ij1 ej1 eS1 (fun y1 M1 => ?_)
  refine ye_aload rfl g0 ?_
  refine ye_getr rfl (M1.obj fa0 ⟨rfl, rfl⟩) rfl (fun cx1 ecx1 => ?_)
  have fcx1 := yAt.row fa0 ecx1
  refine ye_p rfl rfl ?_
  refine ye_iload rfl g8 ?_
  refine ye_p rfl rfl ?_
  refine ye_icmp_ne rfl (fun h1 => ?_) (fun h1 => ?_)
  · replace h := yiT h1 h
    refine ye_aload rfl g0 ?_
    refine ye_getr rfl (M1.obj fa0 ⟨rfl, rfl⟩) rfl (fun cx2 ecx2 => ?_)
    have fcx2 := yAt.row fa0 ecx2
    refine ye_p rfl rfl ?_
    obtain ⟨j2, ej2, ij2, h⟩ := gA_some h
    refine yj_ald rfl (M1.arr fcx2 yr_12_48) ij2 ej2 ?_
    refine ye_aload rfl g0 ?_
    refine ye_getr rfl (M1.obj fa0 ⟨rfl, rfl⟩) rfl (fun cx3 ecx3 => ?_)
    have fcx3 := yAt.row fa0 ecx3
    refine ye_iload rfl g8 ?_
    refine ye_p rfl rfl ?_
    refine ye_p rfl rfl ?_
    obtain ⟨j3, ej3, ij3, h⟩ := gA_some h
    refine yj_ald rfl (M1.arr fcx3 yr_12_48) ij3 ej3 ?_
    refine ye_p rfl rfl ?_
    exact w_X12_whyNot_304 (prim := prim) (d := d) N S1 l1 l2 l3 l4 l5 l7 2 ((S1.2.1 8 48 j2) - (S1.2.1 8 48 j3)) y1 lv a0 cx1 fa0 fcx1 g0 g1 g2 g3 g4 g5 g7 M1 h
  · replace h := yiN h1 h
    refine ye_p rfl rfl ?_
    refine ye_p rfl rfl ?_
    exact w_X12_whyNot_304 (prim := prim) (d := d) N S1 l1 l2 l3 l4 l5 l7 2 999 y1 lv a0 cx1 fa0 fcx1 g0 g1 g2 g3 g4 g5 g7 M1 h

def f_X12_whyNot_227 (N : Nat) (S : yS) (l1 : Int32) (l2 : Int32) (l3 : Int32) (l4 : Int32) (l5 : Int32) (l7 : Int32) (l8 : Int32) (t1 : Int32) (t2 : Int32) : Option (Int32 × yS) := gA 10 t1 fun j1 => sq (yA S 8 56 (upd (S.2.1 8 56) j1 t2)) fun S1 => if ¬ l8 = ((-1)) then if l7 = 0 then gA 2305 (l8 + 3) fun j2 => f_X12_whyNot_270 N S1 l1 l2 l3 l4 l5 l7 l8 1 (-(S1.2.1 8 48 j2)) else gA 2305 (l8 + 3) fun j3 => f_X12_whyNot_270 N S1 l1 l2 l3 l4 l5 l7 l8 1 (S1.2.1 8 48 j3) else f_X12_whyNot_270 N S1 l1 l2 l3 l4 l5 l7 l8 1 0
set_option maxHeartbeats 4000000 in
set_option maxRecDepth 40000 in
theorem w_X12_whyNot_227 {F : xH} {ev : xEv} {prim : xRel} {d sz : Nat} {T : yT} {v : Int32} {S' : yS} (N : Nat) (S : yS) (l1 : Int32) (l2 : Int32) (l3 : Int32) (l4 : Int32) (l5 : Int32) (l7 : Int32) (l8 : Int32) (t1 : Int32) (t2 : Int32) (hp : xH) (lv : xLv) (a0 : Nat) (b0 : Nat) (fa0 : yAt T 12 8 0 a0) (fb0 : yAt T 12 8 57 b0) (g0 : xG lv 0 = some (.ref a0)) (g1 : xG lv 1 = some (.int l1)) (g2 : xG lv 2 = some (.int l2)) (g3 : xG lv 3 = some (.int l3)) (g4 : xG lv 4 = some (.int l4)) (g5 : xG lv 5 = some (.int l5)) (g7 : xG lv 7 = some (.int l7)) (g8 : xG lv 8 = some (.int l8)) (hM : cR [8] F ev T S hp) (h : f_X12_whyNot_227 N S l1 l2 l3 l4 l5 l7 l8 t1 t2 = some (v, S')) : yWE ev.2.1 (xstr ev) (xCalls ev xmi (xprog ev) prim (d + 406)) (pX12_whyNot ev) (227, lv, [.int t2, .int t1, .ref b0], hp, sz, 0) (ypQ [8] F ev T sz (some (.int v)) S') := by
  unfold f_X12_whyNot_227 at h
  obtain ⟨j1, ej1, ij1, h⟩ := gA_some h
  obtain ⟨S1, eS1, h⟩ := sq_some h
  refine yw_ast rfl hM fb0 yr_12_56 (by decide) ij1 ej1 eS1 (fun y1 M1 => ?_)
  refine ye_aload rfl g0 ?_
  refine ye_getr rfl (M1.obj fa0 ⟨rfl, rfl⟩) rfl (fun cx1 ecx1 => ?_)
  have fcx1 := yAt.row fa0 ecx1
  refine ye_p rfl rfl ?_
  refine ye_iload rfl g8 ?_
  refine ye_p rfl rfl ?_
  refine ye_icmp_ne rfl (fun h1 => ?_) (fun h1 => ?_)
  · replace h := yiT h1 h
    refine ye_iload rfl g7 ?_
    refine ye_if_eq rfl (fun h2 => ?_) (fun h2 => ?_)
    · replace h := yiT h2 h
      refine ye_aload rfl g0 ?_
      refine ye_getr rfl (M1.obj fa0 ⟨rfl, rfl⟩) rfl (fun cx2 ecx2 => ?_)
      have fcx2 := yAt.row fa0 ecx2
      refine ye_iload rfl g8 ?_
      refine ye_p rfl rfl ?_
      refine ye_p rfl rfl ?_
      obtain ⟨j2, ej2, ij2, h⟩ := gA_some h
      refine yj_ald rfl (M1.arr fcx2 yr_12_48) ij2 ej2 ?_
      refine ye_p rfl rfl ?_
      exact w_X12_whyNot_270 (prim := prim) (d := d) N S1 l1 l2 l3 l4 l5 l7 l8 1 (-(S1.2.1 8 48 j2)) y1 lv a0 cx1 fa0 fcx1 g0 g1 g2 g3 g4 g5 g7 g8 M1 h
    · replace h := yiN h2 h
      refine ye_aload rfl g0 ?_
      refine ye_getr rfl (M1.obj fa0 ⟨rfl, rfl⟩) rfl (fun cx3 ecx3 => ?_)
      have fcx3 := yAt.row fa0 ecx3
      refine ye_iload rfl g8 ?_
      refine ye_p rfl rfl ?_
      refine ye_p rfl rfl ?_
      obtain ⟨j3, ej3, ij3, h⟩ := gA_some h
      refine yj_ald rfl (M1.arr fcx3 yr_12_48) ij3 ej3 ?_
      refine ye_p rfl rfl ?_
      exact w_X12_whyNot_270 (prim := prim) (d := d) N S1 l1 l2 l3 l4 l5 l7 l8 1 (S1.2.1 8 48 j3) y1 lv a0 cx1 fa0 fcx1 g0 g1 g2 g3 g4 g5 g7 g8 M1 h
  · replace h := yiN h1 h
    refine ye_p rfl rfl ?_
    refine ye_p rfl rfl ?_
    exact w_X12_whyNot_270 (prim := prim) (d := d) N S1 l1 l2 l3 l4 l5 l7 l8 1 0 y1 lv a0 cx1 fa0 fcx1 g0 g1 g2 g3 g4 g5 g7 g8 M1 h

def f_X12_whyNot_177 (N : Nat) (S : yS) (l1 : Int32) (l2 : Int32) (l3 : Int32) (l4 : Int32) (l5 : Int32) (l6 : Int32) (t0 : Int32) : Option (Int32 × yS) := gA 2305 0 fun j1 => bV (f_X12_wordAt N S l6 l5 (S.2.1 8 48 j1)) fun w1 => if ¬ w1 = ((-1)) then gA 2305 (w1 + 2) fun j2 => gA 12 l5 fun j3 => f_X12_whyNot_227 N S l1 l2 l3 l4 l5 t0 w1 0 ((S.2.1 8 48 j2) - (S.2.1 8 5 j3)) else f_X12_whyNot_227 N S l1 l2 l3 l4 l5 t0 w1 0 0
set_option maxHeartbeats 4000000 in
set_option maxRecDepth 40000 in
theorem w_X12_whyNot_177 {F : xH} {ev : xEv} {prim : xRel} {d sz : Nat} {T : yT} {v : Int32} {S' : yS} (N : Nat) (S : yS) (l1 : Int32) (l2 : Int32) (l3 : Int32) (l4 : Int32) (l5 : Int32) (l6 : Int32) (t0 : Int32) (hp : xH) (lv : xLv) (a0 : Nat) (fa0 : yAt T 12 8 0 a0) (g0 : xG lv 0 = some (.ref a0)) (g1 : xG lv 1 = some (.int l1)) (g2 : xG lv 2 = some (.int l2)) (g3 : xG lv 3 = some (.int l3)) (g4 : xG lv 4 = some (.int l4)) (g5 : xG lv 5 = some (.int l5)) (g6 : xG lv 6 = some (.int l6)) (hM : cR [8] F ev T S hp) (h : f_X12_whyNot_177 N S l1 l2 l3 l4 l5 l6 t0 = some (v, S')) : yWE ev.2.1 (xstr ev) (xCalls ev xmi (xprog ev) prim (d + 406)) (pX12_whyNot ev) (177, lv, [.int t0], hp, sz, 0) (ypQ [8] F ev T sz (some (.int v)) S') := by
  unfold f_X12_whyNot_177 at h
  refine ye_p rfl rfl ?_
  have g0_z1 := xG_o1 (i := 7) (v := .int t0) g0 rfl
  have g1_z1 := xG_o1 (i := 7) (v := .int t0) g1 rfl
  have g2_z1 := xG_o1 (i := 7) (v := .int t0) g2 rfl
  have g3_z1 := xG_o1 (i := 7) (v := .int t0) g3 rfl
  have g4_z1 := xG_o1 (i := 7) (v := .int t0) g4 rfl
  have g5_z1 := xG_o1 (i := 7) (v := .int t0) g5 rfl
  have g6_z1 := xG_o1 (i := 7) (v := .int t0) g6 rfl
  have g7_z1 := xG_same lv 7 (.int t0)
  generalize xSt1 lv 7 (.int t0) = lvz1 at g0_z1 g1_z1 g2_z1 g3_z1 g4_z1 g5_z1 g6_z1 g7_z1 ⊢
  refine ye_aload rfl g0_z1 ?_
  refine ye_iload rfl g6_z1 ?_
  refine ye_iload rfl g5_z1 ?_
  refine ye_aload rfl g0_z1 ?_
  refine ye_getr rfl (hM.obj fa0 ⟨rfl, rfl⟩) rfl (fun cx1 ecx1 => ?_)
  have fcx1 := yAt.row fa0 ecx1
  refine ye_p rfl rfl ?_
  obtain ⟨j1, ej1, ij1, h⟩ := gA_some h
  refine yj_ald rfl (hM.arr fcx1 yr_12_48) ij1 ej1 ?_
  obtain ⟨w1, hw1, h⟩ := bV_some h
  refine ye_callV (As := [.int l6, .int l5, .int (S.2.1 8 48 j1)]) (rest := []) 0 (Or.inl rfl) rfl rfl rfl (Nat.le_of_ble_eq_true rfl) (hM.obj fa0 ⟨rfl, rfl⟩) ((m_X12_wordAt (d := d + 405) (T := T) N S l6 l5 (S.2.1 8 48 j1) a0 fa0 hw1) hp sz hM) ?_
  refine ye_p rfl rfl ?_
  have g0_z2 := xG_o1 (i := 8) (v := .int w1) g0_z1 rfl
  have g1_z2 := xG_o1 (i := 8) (v := .int w1) g1_z1 rfl
  have g2_z2 := xG_o1 (i := 8) (v := .int w1) g2_z1 rfl
  have g3_z2 := xG_o1 (i := 8) (v := .int w1) g3_z1 rfl
  have g4_z2 := xG_o1 (i := 8) (v := .int w1) g4_z1 rfl
  have g5_z2 := xG_o1 (i := 8) (v := .int w1) g5_z1 rfl
  have g7_z2 := xG_o1 (i := 8) (v := .int w1) g7_z1 rfl
  have g8_z2 := xG_same lvz1 8 (.int w1)
  generalize xSt1 lvz1 8 (.int w1) = lvz2 at g0_z2 g1_z2 g2_z2 g3_z2 g4_z2 g5_z2 g7_z2 g8_z2 ⊢
  refine ye_aload rfl g0_z2 ?_
  refine ye_getr rfl (hM.obj fa0 ⟨rfl, rfl⟩) rfl (fun cx2 ecx2 => ?_)
  have fcx2 := yAt.row fa0 ecx2
  refine ye_p rfl rfl ?_
  refine ye_iload rfl g8_z2 ?_
  refine ye_p rfl rfl ?_
  refine ye_icmp_ne rfl (fun h1 => ?_) (fun h1 => ?_)
  · replace h := yiT h1 h
    refine ye_aload rfl g0_z2 ?_
    refine ye_getr rfl (hM.obj fa0 ⟨rfl, rfl⟩) rfl (fun cx3 ecx3 => ?_)
    have fcx3 := yAt.row fa0 ecx3
    refine ye_iload rfl g8_z2 ?_
    refine ye_p rfl rfl ?_
    refine ye_p rfl rfl ?_
    obtain ⟨j2, ej2, ij2, h⟩ := gA_some h
    refine yj_ald rfl (hM.arr fcx3 yr_12_48) ij2 ej2 ?_
    refine ye_aload rfl g0_z2 ?_
    refine ye_getr rfl (hM.obj fa0 ⟨rfl, rfl⟩) rfl (fun cx4 ecx4 => ?_)
    have fcx4 := yAt.row fa0 ecx4
    refine ye_iload rfl g5_z2 ?_
    obtain ⟨j3, ej3, ij3, h⟩ := gA_some h
    refine yj_ald rfl (hM.arr fcx4 yr_12_5) ij3 ej3 ?_
    refine ye_p rfl rfl ?_
    exact w_X12_whyNot_227 (prim := prim) (d := d) N S l1 l2 l3 l4 l5 t0 w1 0 ((S.2.1 8 48 j2) - (S.2.1 8 5 j3)) hp lvz2 a0 cx2 fa0 fcx2 g0_z2 g1_z2 g2_z2 g3_z2 g4_z2 g5_z2 g7_z2 g8_z2 hM h
  · replace h := yiN h1 h
    refine ye_p rfl rfl ?_
    refine ye_p rfl rfl ?_
    exact w_X12_whyNot_227 (prim := prim) (d := d) N S l1 l2 l3 l4 l5 t0 w1 0 0 hp lvz2 a0 cx2 fa0 fcx2 g0_z2 g1_z2 g2_z2 g3_z2 g4_z2 g5_z2 g7_z2 g8_z2 hM h

def f_X12_whyNot_145 (N : Nat) (S : yS) (l1 : Int32) (l2 : Int32) (l3 : Int32) (l4 : Int32) (l5 : Int32) (l6 : Int32) : Option (Int32 × yS) := bV (f_X12_carries N S l3 l5 l6) fun w1 => if 0 ≤ w1 then gA 12 l5 fun j1 => if ¬ l6 = (S.2.1 8 2 j1) then f_X12_whyNot_177 N S l1 l2 l3 l4 l5 l6 0 else f_X12_whyNot_177 N S l1 l2 l3 l4 l5 l6 1 else some (6, S)
set_option maxHeartbeats 4000000 in
set_option maxRecDepth 40000 in
theorem w_X12_whyNot_145 {F : xH} {ev : xEv} {prim : xRel} {d sz : Nat} {T : yT} {v : Int32} {S' : yS} (N : Nat) (S : yS) (l1 : Int32) (l2 : Int32) (l3 : Int32) (l4 : Int32) (l5 : Int32) (l6 : Int32) (hp : xH) (lv : xLv) (a0 : Nat) (fa0 : yAt T 12 8 0 a0) (g0 : xG lv 0 = some (.ref a0)) (g1 : xG lv 1 = some (.int l1)) (g2 : xG lv 2 = some (.int l2)) (g3 : xG lv 3 = some (.int l3)) (g4 : xG lv 4 = some (.int l4)) (g5 : xG lv 5 = some (.int l5)) (g6 : xG lv 6 = some (.int l6)) (hM : cR [8] F ev T S hp) (h : f_X12_whyNot_145 N S l1 l2 l3 l4 l5 l6 = some (v, S')) : yWE ev.2.1 (xstr ev) (xCalls ev xmi (xprog ev) prim (d + 406)) (pX12_whyNot ev) (145, lv, [], hp, sz, 0) (ypQ [8] F ev T sz (some (.int v)) S') := by
  unfold f_X12_whyNot_145 at h
  refine ye_aload rfl g0 ?_
  refine ye_iload rfl g3 ?_
  refine ye_iload rfl g5 ?_
  refine ye_iload rfl g6 ?_
  obtain ⟨w1, hw1, h⟩ := bV_some h
  refine ye_callV (As := [.int l3, .int l5, .int l6]) (rest := []) 0 (Or.inl rfl) rfl rfl rfl (Nat.le_of_ble_eq_true rfl) (hM.obj fa0 ⟨rfl, rfl⟩) ((m_X12_carries (d := d + 404) (T := T) N S l3 l5 l6 a0 fa0 hw1) hp sz hM) ?_
  refine ye_if_ge rfl (fun h1 => ?_) (fun h1 => ?_)
  · replace h := yiT h1 h
    refine ye_iload rfl g6 ?_
    refine ye_aload rfl g0 ?_
    refine ye_getr rfl (hM.obj fa0 ⟨rfl, rfl⟩) rfl (fun cx1 ecx1 => ?_)
    have fcx1 := yAt.row fa0 ecx1
    refine ye_iload rfl g5 ?_
    obtain ⟨j1, ej1, ij1, h⟩ := gA_some h
    refine yj_ald rfl (hM.arr fcx1 yr_12_2) ij1 ej1 ?_
    refine ye_icmp_ne rfl (fun h2 => ?_) (fun h2 => ?_)
    · replace h := yiT h2 h
      refine ye_p rfl rfl ?_
      exact w_X12_whyNot_177 (prim := prim) (d := d) N S l1 l2 l3 l4 l5 l6 0 hp lv a0 fa0 g0 g1 g2 g3 g4 g5 g6 hM h
    · replace h := yiN h2 h
      refine ye_p rfl rfl ?_
      refine ye_p rfl rfl ?_
      exact w_X12_whyNot_177 (prim := prim) (d := d) N S l1 l2 l3 l4 l5 l6 1 hp lv a0 fa0 g0 g1 g2 g3 g4 g5 g6 hM h
  · replace h := yiN h1 h
    refine ye_p rfl rfl ?_
    exact ye_ret rfl rfl (rQ h hM)

def f_X12_whyNot_75 (N : Nat) (S : yS) (l1 : Int32) (l2 : Int32) (l3 : Int32) (l4 : Int32) (l5 : Int32) (l6 : Int32) : Option (Int32 × yS) := bV (f_X12_plane N S l3 4) fun w1 => if w1 ≤ 0 then bV (f_X12_plane N S l3 9) fun w2 => gA 2305 0 fun j1 => if w2 ≤ (S.2.1 8 48 j1) then bV (f_X12_plane N S l3 5) fun w3 => bV (f_X12_plane N S l3 6) fun w4 => if w3 < w4 then gA 2305 0 fun j2 => bV (f_X12_isDark N S (S.2.1 8 48 j2)) fun w5 => if w5 = 0 then f_X12_whyNot_145 N S l1 l2 l3 l4 l5 l6 else gA 8 l3 fun j3 => if ¬ (S.2.1 8 20 j3) = 0 then f_X12_whyNot_145 N S l1 l2 l3 l4 l5 l6 else some (5, S) else some (4, S) else some (3, S) else some (2, S)
set_option maxHeartbeats 4000000 in
set_option maxRecDepth 40000 in
theorem w_X12_whyNot_75 {F : xH} {ev : xEv} {prim : xRel} {d sz : Nat} {T : yT} {v : Int32} {S' : yS} (N : Nat) (S : yS) (l1 : Int32) (l2 : Int32) (l3 : Int32) (l4 : Int32) (l5 : Int32) (l6 : Int32) (hp : xH) (lv : xLv) (a0 : Nat) (fa0 : yAt T 12 8 0 a0) (g0 : xG lv 0 = some (.ref a0)) (g1 : xG lv 1 = some (.int l1)) (g2 : xG lv 2 = some (.int l2)) (g3 : xG lv 3 = some (.int l3)) (g4 : xG lv 4 = some (.int l4)) (g5 : xG lv 5 = some (.int l5)) (g6 : xG lv 6 = some (.int l6)) (hM : cR [8] F ev T S hp) (h : f_X12_whyNot_75 N S l1 l2 l3 l4 l5 l6 = some (v, S')) : yWE ev.2.1 (xstr ev) (xCalls ev xmi (xprog ev) prim (d + 406)) (pX12_whyNot ev) (75, lv, [], hp, sz, 0) (ypQ [8] F ev T sz (some (.int v)) S') := by
  unfold f_X12_whyNot_75 at h
  refine ye_aload rfl g0 ?_
  refine ye_iload rfl g3 ?_
  refine ye_p rfl rfl ?_
  obtain ⟨w1, hw1, h⟩ := bV_some h
  refine ye_callV (As := [.int l3, .int 4]) (rest := []) 0 (Or.inl rfl) rfl rfl rfl (Nat.le_of_ble_eq_true rfl) (hM.obj fa0 ⟨rfl, rfl⟩) ((m_X12_plane (d := d + 405) (T := T) N S l3 4 a0 fa0 hw1) hp sz hM) ?_
  refine ye_if_le rfl (fun h1 => ?_) (fun h1 => ?_)
  · replace h := yiT h1 h
    refine ye_aload rfl g0 ?_
    refine ye_iload rfl g3 ?_
    refine ye_p rfl rfl ?_
    obtain ⟨w2, hw2, h⟩ := bV_some h
    refine ye_callV (As := [.int l3, .int 9]) (rest := []) 0 (Or.inl rfl) rfl rfl rfl (Nat.le_of_ble_eq_true rfl) (hM.obj fa0 ⟨rfl, rfl⟩) ((m_X12_plane (d := d + 405) (T := T) N S l3 9 a0 fa0 hw2) hp sz hM) ?_
    refine ye_aload rfl g0 ?_
    refine ye_getr rfl (hM.obj fa0 ⟨rfl, rfl⟩) rfl (fun cx1 ecx1 => ?_)
    have fcx1 := yAt.row fa0 ecx1
    refine ye_p rfl rfl ?_
    obtain ⟨j1, ej1, ij1, h⟩ := gA_some h
    refine yj_ald rfl (hM.arr fcx1 yr_12_48) ij1 ej1 ?_
    refine ye_icmp_le rfl (fun h2 => ?_) (fun h2 => ?_)
    · replace h := yiT h2 h
      refine ye_aload rfl g0 ?_
      refine ye_iload rfl g3 ?_
      refine ye_p rfl rfl ?_
      obtain ⟨w3, hw3, h⟩ := bV_some h
      refine ye_callV (As := [.int l3, .int 5]) (rest := []) 0 (Or.inl rfl) rfl rfl rfl (Nat.le_of_ble_eq_true rfl) (hM.obj fa0 ⟨rfl, rfl⟩) ((m_X12_plane (d := d + 405) (T := T) N S l3 5 a0 fa0 hw3) hp sz hM) ?_
      refine ye_aload rfl g0 ?_
      refine ye_iload rfl g3 ?_
      refine ye_p rfl rfl ?_
      obtain ⟨w4, hw4, h⟩ := bV_some h
      refine ye_callV (As := [.int l3, .int 6]) (rest := [.int w3]) 0 (Or.inl rfl) rfl rfl rfl (Nat.le_of_ble_eq_true rfl) (hM.obj fa0 ⟨rfl, rfl⟩) ((m_X12_plane (d := d + 405) (T := T) N S l3 6 a0 fa0 hw4) hp sz hM) ?_
      refine ye_icmp_lt rfl (fun h3 => ?_) (fun h3 => ?_)
      · replace h := yiT h3 h
        refine ye_aload rfl g0 ?_
        refine ye_getr rfl (hM.obj fa0 ⟨rfl, rfl⟩) rfl (fun cx2 ecx2 => ?_)
        have fcx2 := yAt.row fa0 ecx2
        refine ye_p rfl rfl ?_
        obtain ⟨j2, ej2, ij2, h⟩ := gA_some h
        refine yj_ald rfl (hM.arr fcx2 yr_12_48) ij2 ej2 ?_
        obtain ⟨w5, hw5, h⟩ := bV_some h
        refine ye_callS (As := [.int (S.2.1 8 48 j2)]) (rest := []) 1 (Or.inl rfl) rfl rfl rfl (Nat.le_of_ble_eq_true rfl) ((m_X12_isDark (d := d + 405) (T := T) N S (S.2.1 8 48 j2) hw5) hp sz hM) ?_
        refine ye_if_eq rfl (fun h4 => ?_) (fun h4 => ?_)
        · replace h := yiT h4 h
          exact w_X12_whyNot_145 (prim := prim) (d := d) N S l1 l2 l3 l4 l5 l6 hp lv a0 fa0 g0 g1 g2 g3 g4 g5 g6 hM h
        · replace h := yiN h4 h
          refine ye_aload rfl g0 ?_
          refine ye_getr rfl (hM.obj fa0 ⟨rfl, rfl⟩) rfl (fun cx3 ecx3 => ?_)
          have fcx3 := yAt.row fa0 ecx3
          refine ye_iload rfl g3 ?_
          obtain ⟨j3, ej3, ij3, h⟩ := gA_some h
          refine yj_ald rfl (hM.arr fcx3 yr_12_20) ij3 ej3 ?_
          refine ye_if_ne rfl (fun h5 => ?_) (fun h5 => ?_)
          · replace h := yiT h5 h
            exact w_X12_whyNot_145 (prim := prim) (d := d) N S l1 l2 l3 l4 l5 l6 hp lv a0 fa0 g0 g1 g2 g3 g4 g5 g6 hM h
          · replace h := yiN h5 h
            refine ye_p rfl rfl ?_
            exact ye_ret rfl rfl (rQ h hM)
      · replace h := yiN h3 h
        refine ye_p rfl rfl ?_
        exact ye_ret rfl rfl (rQ h hM)
    · replace h := yiN h2 h
      refine ye_p rfl rfl ?_
      exact ye_ret rfl rfl (rQ h hM)
  · replace h := yiN h1 h
    refine ye_p rfl rfl ?_
    exact ye_ret rfl rfl (rQ h hM)

def f_X12_whyNot_0 (N : Nat) (S : yS) (l1 : Int32) (l2 : Int32) : Option (Int32 × yS) := gA 24 l1 fun j1 => gA 24 l1 fun j2 => gA 24 l1 fun j3 => bV (f_X12_plane N S (S.2.1 8 29 j1) 0) fun w1 => if w1 = ((-1)) then f_X12_whyNot_73 N S else bV (f_X12_pilotOf N S (S.2.1 8 30 j2) 0) fun w2 => if ¬ w2 = w1 then f_X12_whyNot_73 N S else gA 12 (S.2.1 8 31 j3) fun j4 => if w1 = (S.2.1 8 2 j4) then f_X12_whyNot_75 N S l1 l2 (S.2.1 8 29 j1) (S.2.1 8 30 j2) (S.2.1 8 31 j3) w1 else gA 12 (S.2.1 8 31 j3) fun j5 => if w1 = (S.2.1 8 3 j5) then f_X12_whyNot_75 N S l1 l2 (S.2.1 8 29 j1) (S.2.1 8 30 j2) (S.2.1 8 31 j3) w1 else f_X12_whyNot_73 N S
set_option maxHeartbeats 4000000 in
set_option maxRecDepth 40000 in
theorem w_X12_whyNot_0 {F : xH} {ev : xEv} {prim : xRel} {d sz : Nat} {T : yT} {v : Int32} {S' : yS} (N : Nat) (S : yS) (l1 : Int32) (l2 : Int32) (hp : xH) (lv : xLv) (a0 : Nat) (fa0 : yAt T 12 8 0 a0) (g0 : xG lv 0 = some (.ref a0)) (g1 : xG lv 1 = some (.int l1)) (g2 : xG lv 2 = some (.int l2)) (hM : cR [8] F ev T S hp) (h : f_X12_whyNot_0 N S l1 l2 = some (v, S')) : yWE ev.2.1 (xstr ev) (xCalls ev xmi (xprog ev) prim (d + 406)) (pX12_whyNot ev) (0, lv, [], hp, sz, 0) (ypQ [8] F ev T sz (some (.int v)) S') := by
  unfold f_X12_whyNot_0 at h
  refine ye_aload rfl g0 ?_
  refine ye_getr rfl (hM.obj fa0 ⟨rfl, rfl⟩) rfl (fun cx1 ecx1 => ?_)
  have fcx1 := yAt.row fa0 ecx1
  refine ye_iload rfl g1 ?_
  obtain ⟨j1, ej1, ij1, h⟩ := gA_some h
  refine yj_ald rfl (hM.arr fcx1 yr_12_29) ij1 ej1 ?_
  refine ye_p rfl rfl ?_
  have g0_z1 := xG_o1 (i := 3) (v := .int (S.2.1 8 29 j1)) g0 rfl
  have g1_z1 := xG_o1 (i := 3) (v := .int (S.2.1 8 29 j1)) g1 rfl
  have g2_z1 := xG_o1 (i := 3) (v := .int (S.2.1 8 29 j1)) g2 rfl
  have g3_z1 := xG_same lv 3 (.int (S.2.1 8 29 j1))
  generalize xSt1 lv 3 (.int (S.2.1 8 29 j1)) = lvz1 at g0_z1 g1_z1 g2_z1 g3_z1 ⊢
  refine ye_aload rfl g0_z1 ?_
  refine ye_getr rfl (hM.obj fa0 ⟨rfl, rfl⟩) rfl (fun cx2 ecx2 => ?_)
  have fcx2 := yAt.row fa0 ecx2
  refine ye_iload rfl g1_z1 ?_
  obtain ⟨j2, ej2, ij2, h⟩ := gA_some h
  refine yj_ald rfl (hM.arr fcx2 yr_12_30) ij2 ej2 ?_
  refine ye_p rfl rfl ?_
  have g0_z2 := xG_o1 (i := 4) (v := .int (S.2.1 8 30 j2)) g0_z1 rfl
  have g1_z2 := xG_o1 (i := 4) (v := .int (S.2.1 8 30 j2)) g1_z1 rfl
  have g2_z2 := xG_o1 (i := 4) (v := .int (S.2.1 8 30 j2)) g2_z1 rfl
  have g3_z2 := xG_o1 (i := 4) (v := .int (S.2.1 8 30 j2)) g3_z1 rfl
  have g4_z2 := xG_same lvz1 4 (.int (S.2.1 8 30 j2))
  generalize xSt1 lvz1 4 (.int (S.2.1 8 30 j2)) = lvz2 at g0_z2 g1_z2 g2_z2 g3_z2 g4_z2 ⊢
  refine ye_aload rfl g0_z2 ?_
  refine ye_getr rfl (hM.obj fa0 ⟨rfl, rfl⟩) rfl (fun cx3 ecx3 => ?_)
  have fcx3 := yAt.row fa0 ecx3
  refine ye_iload rfl g1_z2 ?_
  obtain ⟨j3, ej3, ij3, h⟩ := gA_some h
  refine yj_ald rfl (hM.arr fcx3 yr_12_31) ij3 ej3 ?_
  refine ye_p rfl rfl ?_
  have g0_z3 := xG_o1 (i := 5) (v := .int (S.2.1 8 31 j3)) g0_z2 rfl
  have g1_z3 := xG_o1 (i := 5) (v := .int (S.2.1 8 31 j3)) g1_z2 rfl
  have g2_z3 := xG_o1 (i := 5) (v := .int (S.2.1 8 31 j3)) g2_z2 rfl
  have g3_z3 := xG_o1 (i := 5) (v := .int (S.2.1 8 31 j3)) g3_z2 rfl
  have g4_z3 := xG_o1 (i := 5) (v := .int (S.2.1 8 31 j3)) g4_z2 rfl
  have g5_z3 := xG_same lvz2 5 (.int (S.2.1 8 31 j3))
  generalize xSt1 lvz2 5 (.int (S.2.1 8 31 j3)) = lvz3 at g0_z3 g1_z3 g2_z3 g3_z3 g4_z3 g5_z3 ⊢
  refine ye_aload rfl g0_z3 ?_
  refine ye_iload rfl g3_z3 ?_
  refine ye_p rfl rfl ?_
  obtain ⟨w1, hw1, h⟩ := bV_some h
  refine ye_callV (As := [.int (S.2.1 8 29 j1), .int 0]) (rest := []) 0 (Or.inl rfl) rfl rfl rfl (Nat.le_of_ble_eq_true rfl) (hM.obj fa0 ⟨rfl, rfl⟩) ((m_X12_plane (d := d + 405) (T := T) N S (S.2.1 8 29 j1) 0 a0 fa0 hw1) hp sz hM) ?_
  refine ye_p rfl rfl ?_
  have g0_z4 := xG_o1 (i := 6) (v := .int w1) g0_z3 rfl
  have g1_z4 := xG_o1 (i := 6) (v := .int w1) g1_z3 rfl
  have g2_z4 := xG_o1 (i := 6) (v := .int w1) g2_z3 rfl
  have g3_z4 := xG_o1 (i := 6) (v := .int w1) g3_z3 rfl
  have g4_z4 := xG_o1 (i := 6) (v := .int w1) g4_z3 rfl
  have g5_z4 := xG_o1 (i := 6) (v := .int w1) g5_z3 rfl
  have g6_z4 := xG_same lvz3 6 (.int w1)
  generalize xSt1 lvz3 6 (.int w1) = lvz4 at g0_z4 g1_z4 g2_z4 g3_z4 g4_z4 g5_z4 g6_z4 ⊢
  refine ye_iload rfl g6_z4 ?_
  refine ye_p rfl rfl ?_
  refine ye_icmp_eq rfl (fun h1 => ?_) (fun h1 => ?_)
  · replace h := yiT h1 h
    exact w_X12_whyNot_73 (prim := prim) (d := d) N S hp lvz4 hM h
  · replace h := yiN h1 h
    refine ye_aload rfl g0_z4 ?_
    refine ye_iload rfl g4_z4 ?_
    refine ye_p rfl rfl ?_
    obtain ⟨w2, hw2, h⟩ := bV_some h
    refine ye_callV (As := [.int (S.2.1 8 30 j2), .int 0]) (rest := []) 0 (Or.inl rfl) rfl rfl rfl (Nat.le_of_ble_eq_true rfl) (hM.obj fa0 ⟨rfl, rfl⟩) ((m_X12_pilotOf (d := d + 405) (T := T) N S (S.2.1 8 30 j2) 0 a0 fa0 hw2) hp sz hM) ?_
    refine ye_iload rfl g6_z4 ?_
    refine ye_icmp_ne rfl (fun h2 => ?_) (fun h2 => ?_)
    · replace h := yiT h2 h
      exact w_X12_whyNot_73 (prim := prim) (d := d) N S hp lvz4 hM h
    · replace h := yiN h2 h
      refine ye_iload rfl g6_z4 ?_
      refine ye_aload rfl g0_z4 ?_
      refine ye_getr rfl (hM.obj fa0 ⟨rfl, rfl⟩) rfl (fun cx4 ecx4 => ?_)
      have fcx4 := yAt.row fa0 ecx4
      refine ye_iload rfl g5_z4 ?_
      obtain ⟨j4, ej4, ij4, h⟩ := gA_some h
      refine yj_ald rfl (hM.arr fcx4 yr_12_2) ij4 ej4 ?_
      refine ye_icmp_eq rfl (fun h3 => ?_) (fun h3 => ?_)
      · replace h := yiT h3 h
        exact w_X12_whyNot_75 (prim := prim) (d := d) N S l1 l2 (S.2.1 8 29 j1) (S.2.1 8 30 j2) (S.2.1 8 31 j3) w1 hp lvz4 a0 fa0 g0_z4 g1_z4 g2_z4 g3_z4 g4_z4 g5_z4 g6_z4 hM h
      · replace h := yiN h3 h
        refine ye_iload rfl g6_z4 ?_
        refine ye_aload rfl g0_z4 ?_
        refine ye_getr rfl (hM.obj fa0 ⟨rfl, rfl⟩) rfl (fun cx5 ecx5 => ?_)
        have fcx5 := yAt.row fa0 ecx5
        refine ye_iload rfl g5_z4 ?_
        obtain ⟨j5, ej5, ij5, h⟩ := gA_some h
        refine yj_ald rfl (hM.arr fcx5 yr_12_3) ij5 ej5 ?_
        refine ye_icmp_eq rfl (fun h4 => ?_) (fun h4 => ?_)
        · replace h := yiT h4 h
          exact w_X12_whyNot_75 (prim := prim) (d := d) N S l1 l2 (S.2.1 8 29 j1) (S.2.1 8 30 j2) (S.2.1 8 31 j3) w1 hp lvz4 a0 fa0 g0_z4 g1_z4 g2_z4 g3_z4 g4_z4 g5_z4 g6_z4 hM h
        · replace h := yiN h4 h
          exact w_X12_whyNot_73 (prim := prim) (d := d) N S hp lvz4 hM h
def f_X12_whyNot (N : Nat) (S : yS) (xl1 : Int32) (xl2 : Int32) : Option (Int32 × yS) := f_X12_whyNot_0 N S xl1 xl2
theorem m_X12_whyNot {F : xH} {ev : xEv} {prim : xRel} {d : Nat} {T : yT} {v : Int32} {S' : yS} (N : Nat) (S : yS) (xl1 : Int32) (xl2 : Int32) (a0 : Nat) (fa0 : yAt T 12 8 0 a0) (h : f_X12_whyNot N S xl1 xl2 = some (v, S')) : ykQ [8] F ev prim (d + 407) 253 T S [.ref a0, .int xl1, .int xl2] (some (.int v)) S' :=
  ykQ.of (pg_253 ev) mi_253 (Nat.le_of_ble_eq_true rfl) (fun hp sz hM => w_X12_whyNot_0 (prim := prim) (d := d) N S xl1 xl2 hp _ a0 fa0 rfl rfl rfl hM h)
