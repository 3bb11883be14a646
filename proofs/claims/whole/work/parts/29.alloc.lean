
def f_X0_keep_38 (N : Nat) (S : yS) (p0 : Nat) : Option (Int32 × yS) := gP (S.1 p0 11 = 1) (bS (f_X0_copy N S p0 ((p0 + 64))) fun w1 S1 => some (0, S1))
set_option maxHeartbeats 4000000 in
set_option maxRecDepth 40000 in
theorem w_X0_keep_38 {F : xH} {ev : xEv} {prim : xRel} {d : Nat} {T0 : yT} {v : Int32} {S' : yS} (N : Nat) (S : yS) (p0 : Nat) (T : yT) (sl : Nat) (hp : xH) (lv : xLv) (a0 : Nat) (fa0 : yAt T 0 p0 0 a0) (g0 : xG lv 0 = some (.ref a0)) (hG : yG T0 T sl 0) (hM : cR [0, 1, 2, 3, 4, 5, 6, 7] F ev T S hp) (h : f_X0_keep_38 N S p0 = some (v, S')) : yWE ev.2.1 (xstr ev) (xCalls ev xmi (xprog ev) prim (d + 1)) (pX0_keep ev) (38, lv, [], hp, T.2.2.1, sl) (ypN [0, 1, 2, 3, 4, 5, 6, 7] F ev T0 (none) S' 0) := by
  unfold f_X0_keep_38 at h
  refine ye_aload rfl g0 ?_
  refine ye_aload rfl g0 ?_
  obtain ⟨i1, h⟩ := gP_some h
  refine ye_gNu rfl (hM.obj fa0 ⟨rfl, rfl⟩) rfl i1 (fun cx1 ecx1 => ?_)
  have fcx1 : yAt T 0 (p0 + 64) 0 cx1 := ⟨(hM.kept fa0 i1).1, (hM.kept fa0 i1).2, ecx1⟩
  obtain ⟨w1, S1, hw1, h⟩ := bS_some h
  obtain ⟨y1, cy1, M1⟩ := (m_X0_copy (d := d + 0) (T := T) N S p0 ((p0 + 64)) a0 cx1 fa0 fcx1 hw1) hp _ hM
  refine ye_callS (As := [.ref a0, .ref cx1]) (rest := []) 1 (Or.inl rfl) rfl rfl rfl (Nat.le_of_ble_eq_true rfl) cy1 ?_
  exact ye_ret rfl rfl (rNV h M1 hG)

def f_X0_keep_0 (N : Nat) (S : yS) (p0 : Nat) : Option (Int32 × yS) := if S.1 p0 11 = 1 then f_X0_keep_38 N S p0 else gP ((p0 + 64) < 640 ∧ 64 ≤ (p0 + 64) ∧ oc (p0 + 64) = 0 ∧ ¬ yRf S (p0 + 64) = 1 ∧ ¬ S.1 (p0 + 64) (yKs (oc (p0 + 64))) = 1) (sq (yNw S (p0 + 64) (fun k => ([(S.1 p0 0), (S.1 p0 1), (S.1 p0 2), (S.1 p0 3), (S.1 p0 4), (S.1 p0 0), (-1), (-1), (-1), 0, 0, 0] : List Int32).getD k 0)) fun S1 => sq (yI S1 p0 11 1) fun S2 => gP (yRf S2 (p0 + 64) = 1) (f_X0_keep_38 N S2 p0))
set_option maxHeartbeats 4000000 in
set_option maxRecDepth 40000 in
theorem w_X0_keep_0 {F : xH} {ev : xEv} {prim : xRel} {d : Nat} {T0 : yT} {v : Int32} {S' : yS} (N : Nat) (S : yS) (p0 : Nat) (T : yT) (sl : Nat) (hp : xH) (lv : xLv) (a0 : Nat) (fa0 : yAt T 0 p0 0 a0) (g0 : xG lv 0 = some (.ref a0)) (hG : yG T0 T sl 0) (hM : cR [0, 1, 2, 3, 4, 5, 6, 7] F ev T S hp) (h : f_X0_keep_0 N S p0 = some (v, S')) : yWE ev.2.1 (xstr ev) (xCalls ev xmi (xprog ev) prim (d + 1)) (pX0_keep ev) (0, lv, [], hp, T.2.2.1, sl) (ypN [0, 1, 2, 3, 4, 5, 6, 7] F ev T0 (none) S' 0) := by
  unfold f_X0_keep_0 at h
  refine ye_aload rfl g0 ?_
  refine ye_getf rfl (hM.obj fa0 ⟨rfl, rfl⟩) rfl ?_
  refine ye_ifnonnull rfl (fun h1 => ?_) (fun h1 => ?_)
  · replace h := yiT h1 h
    exact w_X0_keep_38 (prim := prim) (d := d) N S p0 T sl hp lv a0 fa0 g0 hG hM h
  · replace h := yiN h1 h
    refine ye_aload rfl g0 ?_
    obtain ⟨i1, h⟩ := gP_some h
    refine yw_rawn rfl (fun y1 Ry1 Oy1 => ?_)
    have M1 := hM.fresh (hp1 := y1) (fun b hb => Oy1 b (by omega))
    refine ye_p rfl rfl ?_
    refine ye_aload rfl g0 ?_
    refine ye_getf rfl (M1.obj fa0 ⟨rfl, rfl⟩) rfl ?_
    refine ye_aload rfl g0 ?_
    refine ye_getf rfl (M1.obj fa0 ⟨rfl, rfl⟩) rfl ?_
    refine ye_aload rfl g0 ?_
    refine ye_getf rfl (M1.obj fa0 ⟨rfl, rfl⟩) rfl ?_
    refine ye_aload rfl g0 ?_
    refine ye_getf rfl (M1.obj fa0 ⟨rfl, rfl⟩) rfl ?_
    refine ye_aload rfl g0 ?_
    refine ye_getf rfl (M1.obj fa0 ⟨rfl, rfl⟩) rfl ?_
    obtain ⟨S1, eS1, h⟩ := sq_some h
    obtain ⟨y2, nz1, ss1, ad1, cy2, M2, F1, AF1, BF1, CF1, DF1⟩ := ct_0 (F := F) (ev := ev) (prim := prim) (d := d + 0) S (p0 + 64) (S.1 p0 0) (S.1 p0 1) (S.1 p0 2) (S.1 p0 3) (S.1 p0 4) i1.2.2.1 hG.2.2.2.1 i1.2.1 i1.1 i1.2.2.2.1 i1.2.2.2.2 hp y1 hM Ry1 Oy1
    rw [← eS1] at M2
    refine ye_callV (As := [.int (S.1 p0 0), .int (S.1 p0 1), .int (S.1 p0 2), .int (S.1 p0 3), .int (S.1 p0 4)]) (rest := [.ref T.2.2.1, .ref a0]) 2 (Or.inr rfl) rfl rfl rfl (Nat.le_of_ble_eq_true rfl) Ry1 cy2 ?_
    replace fa0 := fa0.tn (ad0 := ad1) (n' := nz1) F1
    have fo1 : yAt (yTn T (p0 + 64) ad1 nz1) 0 (p0 + 64) 0 T.2.2.1 := yAt.nw i1.2.2.1 AF1
    obtain ⟨S2, eS2, h⟩ := sq_some h
    obtain ⟨i2, h⟩ := gP_some h
    refine yw_putI rfl M2 fa0 rfl ⟨rfl, rfl⟩ (Nat.le_of_ble_eq_true rfl) rfl rfl (fun I => by rw [← fo1.2.2]; rfl) (fun _ => ⟨rfl, fo1.1, fo1.2.1⟩) eS2 (fun y3 M3 => ?_)
    obtain ⟨T1, eT1⟩ : ∃ x, x = yUn (yTn T (p0 + 64) ad1 nz1) := ⟨_, rfl⟩
    have M4 := M3.unp (show yRf S2 (yTn T (p0 + 64) ad1 nz1).2.2.2 = 1 from i2)
    rw [← eT1] at M4
    have G1 : yG T T1 (12 + ss1) 0 := by rw [eT1]; exact yG.born F1 i1.1 BF1 CF1 DF1
    replace fa0 := yAt.un eT1 fa0
    rw [show nz1 = T1.2.2.1 from by rw [eT1]; rfl]
    have H1 := hG.tr3 G1
    exact w_X0_keep_38 (prim := prim) (d := d) N S2 p0 T1 ((sl + 12) + ss1) y3 lv a0 fa0 g0 H1 M4 h
def f_X0_keep (N : Nat) (S : yS) (xp0 : Nat) : Option (Int32 × yS) := f_X0_keep_0 N S xp0
theorem m_X0_keep {F : xH} {ev : xEv} {prim : xRel} {d : Nat} {T : yT} {v : Int32} {S' : yS} (N : Nat) (S : yS) (xp0 : Nat) (a0 : Nat) (fa0 : yAt T 0 xp0 0 a0) (h : f_X0_keep N S xp0 = some (v, S')) : ykN [0, 1, 2, 3, 4, 5, 6, 7] F ev prim (d + 2) 7 T S [.ref a0] (none) S' 0 :=
  ykN.of (pg_7 ev) mi_7 (Nat.le_of_ble_eq_true rfl) (fun hz hp hM => w_X0_keep_0 (prim := prim) (d := d) N S xp0 T 0 hp _ a0 fa0 rfl (yG.rf hz 0) hM h)

def f_X1_keep_34 (N : Nat) (S : yS) (p0 : Nat) : Option (Int32 × yS) := gP (S.1 p0 10 = 1) (bS (f_X1_copy N S p0 ((p0 + 64))) fun w1 S1 => some (0, S1))
set_option maxHeartbeats 4000000 in
set_option maxRecDepth 40000 in
theorem w_X1_keep_34 {F : xH} {ev : xEv} {prim : xRel} {d : Nat} {T0 : yT} {v : Int32} {S' : yS} (N : Nat) (S : yS) (p0 : Nat) (T : yT) (sl : Nat) (hp : xH) (lv : xLv) (a0 : Nat) (fa0 : yAt T 1 p0 0 a0) (g0 : xG lv 0 = some (.ref a0)) (hG : yG T0 T sl 0) (hM : cR [0, 1, 2, 3, 4, 5, 6, 7] F ev T S hp) (h : f_X1_keep_34 N S p0 = some (v, S')) : yWE ev.2.1 (xstr ev) (xCalls ev xmi (xprog ev) prim (d + 1)) (pX1_keep ev) (34, lv, [], hp, T.2.2.1, sl) (ypN [0, 1, 2, 3, 4, 5, 6, 7] F ev T0 (none) S' 0) := by
  unfold f_X1_keep_34 at h
  refine ye_aload rfl g0 ?_
  refine ye_aload rfl g0 ?_
  obtain ⟨i1, h⟩ := gP_some h
  refine ye_gNu rfl (hM.obj fa0 ⟨rfl, rfl⟩) rfl i1 (fun cx1 ecx1 => ?_)
  have fcx1 : yAt T 1 (p0 + 64) 0 cx1 := ⟨(hM.kept fa0 i1).1, (hM.kept fa0 i1).2, ecx1⟩
  obtain ⟨w1, S1, hw1, h⟩ := bS_some h
  obtain ⟨y1, cy1, M1⟩ := (m_X1_copy (d := d + 0) (T := T) N S p0 ((p0 + 64)) a0 cx1 fa0 fcx1 hw1) hp _ hM
  refine ye_callS (As := [.ref a0, .ref cx1]) (rest := []) 1 (Or.inl rfl) rfl rfl rfl (Nat.le_of_ble_eq_true rfl) cy1 ?_
  exact ye_ret rfl rfl (rNV h M1 hG)

def f_X1_keep_0 (N : Nat) (S : yS) (p0 : Nat) : Option (Int32 × yS) := if S.1 p0 10 = 1 then f_X1_keep_34 N S p0 else gP ((p0 + 64) < 640 ∧ 64 ≤ (p0 + 64) ∧ oc (p0 + 64) = 1 ∧ ¬ yRf S (p0 + 64) = 1 ∧ ¬ S.1 (p0 + 64) (yKs (oc (p0 + 64))) = 1) (sq (yNw S (p0 + 64) (fun k => ([(S.1 p0 0), (S.1 p0 1), (S.1 p0 2), (S.1 p0 3), 0, (-1), (-1), (-1), (-3), (-3), 0] : List Int32).getD k 0)) fun S1 => sq (yI S1 p0 10 1) fun S2 => gP (yRf S2 (p0 + 64) = 1) (f_X1_keep_34 N S2 p0))
set_option maxHeartbeats 4000000 in
set_option maxRecDepth 40000 in
theorem w_X1_keep_0 {F : xH} {ev : xEv} {prim : xRel} {d : Nat} {T0 : yT} {v : Int32} {S' : yS} (N : Nat) (S : yS) (p0 : Nat) (T : yT) (sl : Nat) (hp : xH) (lv : xLv) (a0 : Nat) (fa0 : yAt T 1 p0 0 a0) (g0 : xG lv 0 = some (.ref a0)) (hG : yG T0 T sl 0) (hM : cR [0, 1, 2, 3, 4, 5, 6, 7] F ev T S hp) (h : f_X1_keep_0 N S p0 = some (v, S')) : yWE ev.2.1 (xstr ev) (xCalls ev xmi (xprog ev) prim (d + 1)) (pX1_keep ev) (0, lv, [], hp, T.2.2.1, sl) (ypN [0, 1, 2, 3, 4, 5, 6, 7] F ev T0 (none) S' 0) := by
  unfold f_X1_keep_0 at h
  refine ye_aload rfl g0 ?_
  refine ye_getf rfl (hM.obj fa0 ⟨rfl, rfl⟩) rfl ?_
  refine ye_ifnonnull rfl (fun h1 => ?_) (fun h1 => ?_)
  · replace h := yiT h1 h
    exact w_X1_keep_34 (prim := prim) (d := d) N S p0 T sl hp lv a0 fa0 g0 hG hM h
  · replace h := yiN h1 h
    refine ye_aload rfl g0 ?_
    obtain ⟨i1, h⟩ := gP_some h
    refine yw_rawn rfl (fun y1 Ry1 Oy1 => ?_)
    have M1 := hM.fresh (hp1 := y1) (fun b hb => Oy1 b (by omega))
    refine ye_p rfl rfl ?_
    refine ye_aload rfl g0 ?_
    refine ye_getf rfl (M1.obj fa0 ⟨rfl, rfl⟩) rfl ?_
    refine ye_aload rfl g0 ?_
    refine ye_getf rfl (M1.obj fa0 ⟨rfl, rfl⟩) rfl ?_
    refine ye_aload rfl g0 ?_
    refine ye_getf rfl (M1.obj fa0 ⟨rfl, rfl⟩) rfl ?_
    refine ye_aload rfl g0 ?_
    refine ye_getf rfl (M1.obj fa0 ⟨rfl, rfl⟩) rfl ?_
    obtain ⟨S1, eS1, h⟩ := sq_some h
    obtain ⟨y2, nz1, ss1, ad1, cy2, M2, F1, AF1, BF1, CF1, DF1⟩ := ct_1 (F := F) (ev := ev) (prim := prim) (d := d + 0) S (p0 + 64) (S.1 p0 0) (S.1 p0 1) (S.1 p0 2) (S.1 p0 3) i1.2.2.1 hG.2.2.2.1 i1.2.1 i1.1 i1.2.2.2.1 i1.2.2.2.2 hp y1 hM Ry1 Oy1
    rw [← eS1] at M2
    refine ye_callV (As := [.int (S.1 p0 0), .int (S.1 p0 1), .int (S.1 p0 2), .int (S.1 p0 3)]) (rest := [.ref T.2.2.1, .ref a0]) 2 (Or.inr rfl) rfl rfl rfl (Nat.le_of_ble_eq_true rfl) Ry1 cy2 ?_
    replace fa0 := fa0.tn (ad0 := ad1) (n' := nz1) F1
    have fo1 : yAt (yTn T (p0 + 64) ad1 nz1) 1 (p0 + 64) 0 T.2.2.1 := yAt.nw i1.2.2.1 AF1
    obtain ⟨S2, eS2, h⟩ := sq_some h
    obtain ⟨i2, h⟩ := gP_some h
    refine yw_putI rfl M2 fa0 rfl ⟨rfl, rfl⟩ (Nat.le_of_ble_eq_true rfl) rfl rfl (fun I => by rw [← fo1.2.2]; rfl) (fun _ => ⟨rfl, fo1.1, fo1.2.1⟩) eS2 (fun y3 M3 => ?_)
    obtain ⟨T1, eT1⟩ : ∃ x, x = yUn (yTn T (p0 + 64) ad1 nz1) := ⟨_, rfl⟩
    have M4 := M3.unp (show yRf S2 (yTn T (p0 + 64) ad1 nz1).2.2.2 = 1 from i2)
    rw [← eT1] at M4
    have G1 : yG T T1 (11 + ss1) 0 := by rw [eT1]; exact yG.born F1 i1.1 BF1 CF1 DF1
    replace fa0 := yAt.un eT1 fa0
    rw [show nz1 = T1.2.2.1 from by rw [eT1]; rfl]
    have H1 := hG.tr3 G1
    exact w_X1_keep_34 (prim := prim) (d := d) N S2 p0 T1 ((sl + 11) + ss1) y3 lv a0 fa0 g0 H1 M4 h
def f_X1_keep (N : Nat) (S : yS) (xp0 : Nat) : Option (Int32 × yS) := f_X1_keep_0 N S xp0
theorem m_X1_keep {F : xH} {ev : xEv} {prim : xRel} {d : Nat} {T : yT} {v : Int32} {S' : yS} (N : Nat) (S : yS) (xp0 : Nat) (a0 : Nat) (fa0 : yAt T 1 xp0 0 a0) (h : f_X1_keep N S xp0 = some (v, S')) : ykN [0, 1, 2, 3, 4, 5, 6, 7] F ev prim (d + 2) 14 T S [.ref a0] (none) S' 0 :=
  ykN.of (pg_14 ev) mi_14 (Nat.le_of_ble_eq_true rfl) (fun hz hp hM => w_X1_keep_0 (prim := prim) (d := d) N S xp0 T 0 hp _ a0 fa0 rfl (yG.rf hz 0) hM h)

def f_X2_addLeg_34 : Nat → Nat → (yS → Int32 → Int32 → Int32 → Int32 → Option (Int32 × yS)) → yS → Int32 → Int32 → Int32 → Int32 → Int32 → Option (Int32 × yS)
  | 0, _, _, _, _, _, _, _, _ => none
  | n + 1, N, k24, S, l1, l2, l3, l5, l6 => if 8 ≤ l6 then k24 S l1 l2 l3 (l5 + 1) else bV (f_X2_milesBetween N S l5 l1) fun w1 => bV (f_X2_milesBetween N S l2 l6) fun w2 => bV (f_X2_milesBetween N S l5 l2) fun w3 => bV (f_X2_milesBetween N S l1 l6) fun w4 => bV (f_X2_milesBetween N S l5 l6) fun w5 => gA 64 ((l5 * 8) + l6) fun j1 => sq (yA S 1 7 (upd (S.2.1 1 7) j1 (if (if ((w3 + l3) + w4) < ((w1 + l3) + w2) then ((w3 + l3) + w4) else ((w1 + l3) + w2)) < w5 then (if ((w3 + l3) + w4) < ((w1 + l3) + w2) then ((w3 + l3) + w4) else ((w1 + l3) + w2)) else w5))) fun S1 => f_X2_addLeg_34 n N k24 S1 l1 l2 l3 l5 (l6 + 1)
set_option maxHeartbeats 4000000 in
set_option maxRecDepth 40000 in
theorem w_X2_addLeg_34 {F : xH} {ev : xEv} {prim : xRel} {d : Nat} {T0 : yT} {v : Int32} {S' : yS} (N : Nat) (n : Nat) (k24 : yS → Int32 → Int32 → Int32 → Int32 → Option (Int32 × yS)) (u24 : ∀ (S : yS) (l1 : Int32) (l2 : Int32) (l3 : Int32) (l5 : Int32) (T : yT) (sl : Nat) (hp : xH) (lv : xLv) (a0 : Nat) (fa0 : yAt T 2 1 0 a0) (g0 : xG lv 0 = some (.ref a0)) (g1 : xG lv 1 = some (.int l1)) (g2 : xG lv 2 = some (.int l2)) (g3 : xG lv 3 = some (.int l3)) (g5 : xG lv 5 = some (.int l5)) (hG : yG T0 T sl 0) (hM : cR [0, 1, 2, 3, 4, 5, 6, 7] F ev T S hp) (h : k24 S l1 l2 l3 l5 = some (v, S')), yWE ev.2.1 (xstr ev) (xCalls ev xmi (xprog ev) prim (d + 1)) (pX2_addLeg ev) (24, lv, [], hp, T.2.2.1, sl) (ypN [0, 1, 2, 3, 4, 5, 6, 7] F ev T0 (some (.int v)) S' 0)) : ∀ (S : yS) (l1 : Int32) (l2 : Int32) (l3 : Int32) (l5 : Int32) (l6 : Int32) (T : yT) (sl : Nat) (hp : xH) (lv : xLv) (a0 : Nat) (fa0 : yAt T 2 1 0 a0) (g0 : xG lv 0 = some (.ref a0)) (g1 : xG lv 1 = some (.int l1)) (g2 : xG lv 2 = some (.int l2)) (g3 : xG lv 3 = some (.int l3)) (g5 : xG lv 5 = some (.int l5)) (g6 : xG lv 6 = some (.int l6)) (hG : yG T0 T sl 0) (hM : cR [0, 1, 2, 3, 4, 5, 6, 7] F ev T S hp) (h : f_X2_addLeg_34 n N k24 S l1 l2 l3 l5 l6 = some (v, S')), yWE ev.2.1 (xstr ev) (xCalls ev xmi (xprog ev) prim (d + 1)) (pX2_addLeg ev) (34, lv, [], hp, T.2.2.1, sl) (ypN [0, 1, 2, 3, 4, 5, 6, 7] F ev T0 (some (.int v)) S' 0) := by
  induction n with
  | zero => intro S l1 l2 l3 l5 l6 T sl hp lv a0 fa0 g0 g1 g2 g3 g5 g6 hG hM h; exact n_some h
  | succ n ih =>
    intro S l1 l2 l3 l5 l6 T sl hp lv a0 fa0 g0 g1 g2 g3 g5 g6 hG hM h
    unfold f_X2_addLeg_34 at h
    refine ye_iload rfl g6 ?_
    refine ye_p rfl rfl ?_
    refine ye_icmp_ge rfl (fun h1 => ?_) (fun h1 => ?_)
    · replace h := yiT h1 h
      refine ye_iinc rfl g5 ?_
      have g0_z1 := xG_o1 (i := 5) (v := .int (l5 + 1)) g0 rfl
      have g1_z1 := xG_o1 (i := 5) (v := .int (l5 + 1)) g1 rfl
      have g2_z1 := xG_o1 (i := 5) (v := .int (l5 + 1)) g2 rfl
      have g3_z1 := xG_o1 (i := 5) (v := .int (l5 + 1)) g3 rfl
      have g5_z1 := xG_same lv 5 (.int (l5 + 1))
      generalize xSt1 lv 5 (.int (l5 + 1)) = lvz1 at g0_z1 g1_z1 g2_z1 g3_z1 g5_z1 ⊢
      refine ye_p rfl rfl ?_
      exact u24 S l1 l2 l3 (l5 + 1) T sl hp lvz1 a0 fa0 g0_z1 g1_z1 g2_z1 g3_z1 g5_z1 hG hM h
    · replace h := yiN h1 h
      refine ye_aload rfl g0 ?_
      refine ye_iload rfl g5 ?_
      refine ye_iload rfl g1 ?_
      obtain ⟨w1, hw1, h⟩ := bV_some h
      refine ye_callV (As := [.int l5, .int l1]) (rest := []) 0 (Or.inl rfl) rfl rfl rfl (Nat.le_of_ble_eq_true rfl) (hM.obj fa0 ⟨rfl, rfl⟩) ((m_X2_milesBetween (d := d + 0) (T := T) N S l5 l1 a0 fa0 hw1) hp _ hM) ?_
      refine ye_iload rfl g3 ?_
      refine ye_p rfl rfl ?_
      refine ye_aload rfl g0 ?_
      refine ye_iload rfl g2 ?_
      refine ye_iload rfl g6 ?_
      obtain ⟨w2, hw2, h⟩ := bV_some h
      refine ye_callV (As := [.int l2, .int l6]) (rest := [.int (w1 + l3)]) 0 (Or.inl rfl) rfl rfl rfl (Nat.le_of_ble_eq_true rfl) (hM.obj fa0 ⟨rfl, rfl⟩) ((m_X2_milesBetween (d := d + 0) (T := T) N S l2 l6 a0 fa0 hw2) hp _ hM) ?_
      refine ye_p rfl rfl ?_
      refine ye_p rfl rfl ?_
      have g0_z2 := xG_o1 (i := 7) (v := .int ((w1 + l3) + w2)) g0 rfl
      have g1_z2 := xG_o1 (i := 7) (v := .int ((w1 + l3) + w2)) g1 rfl
      have g2_z2 := xG_o1 (i := 7) (v := .int ((w1 + l3) + w2)) g2 rfl
      have g3_z2 := xG_o1 (i := 7) (v := .int ((w1 + l3) + w2)) g3 rfl
      have g5_z2 := xG_o1 (i := 7) (v := .int ((w1 + l3) + w2)) g5 rfl
      have g6_z2 := xG_o1 (i := 7) (v := .int ((w1 + l3) + w2)) g6 rfl
      have g7_z2 := xG_same lv 7 (.int ((w1 + l3) + w2))
      generalize xSt1 lv 7 (.int ((w1 + l3) + w2)) = lvz2 at g0_z2 g1_z2 g2_z2 g3_z2 g5_z2 g6_z2 g7_z2 ⊢
      refine ye_aload rfl g0_z2 ?_
      refine ye_iload rfl g5_z2 ?_
      refine ye_iload rfl g2_z2 ?_
      obtain ⟨w3, hw3, h⟩ := bV_some h
      refine ye_callV (As := [.int l5, .int l2]) (rest := []) 0 (Or.inl rfl) rfl rfl rfl (Nat.le_of_ble_eq_true rfl) (hM.obj fa0 ⟨rfl, rfl⟩) ((m_X2_milesBetween (d := d + 0) (T := T) N S l5 l2 a0 fa0 hw3) hp _ hM) ?_
      refine ye_iload rfl g3_z2 ?_
      refine ye_p rfl rfl ?_
      refine ye_aload rfl g0_z2 ?_
      refine ye_iload rfl g1_z2 ?_
      refine ye_iload rfl g6_z2 ?_
      obtain ⟨w4, hw4, h⟩ := bV_some h
      refine ye_callV (As := [.int l1, .int l6]) (rest := [.int (w3 + l3)]) 0 (Or.inl rfl) rfl rfl rfl (Nat.le_of_ble_eq_true rfl) (hM.obj fa0 ⟨rfl, rfl⟩) ((m_X2_milesBetween (d := d + 0) (T := T) N S l1 l6 a0 fa0 hw4) hp _ hM) ?_
      refine ye_p rfl rfl ?_
      refine ye_p rfl rfl ?_
      have g0_z3 := xG_o1 (i := 8) (v := .int ((w3 + l3) + w4)) g0_z2 rfl
      have g1_z3 := xG_o1 (i := 8) (v := .int ((w3 + l3) + w4)) g1_z2 rfl
      have g2_z3 := xG_o1 (i := 8) (v := .int ((w3 + l3) + w4)) g2_z2 rfl
      have g3_z3 := xG_o1 (i := 8) (v := .int ((w3 + l3) + w4)) g3_z2 rfl
      have g5_z3 := xG_o1 (i := 8) (v := .int ((w3 + l3) + w4)) g5_z2 rfl
      have g6_z3 := xG_o1 (i := 8) (v := .int ((w3 + l3) + w4)) g6_z2 rfl
      have g7_z3 := xG_o1 (i := 8) (v := .int ((w3 + l3) + w4)) g7_z2 rfl
      have g8_z3 := xG_same lvz2 8 (.int ((w3 + l3) + w4))
      generalize xSt1 lvz2 8 (.int ((w3 + l3) + w4)) = lvz3 at g0_z3 g1_z3 g2_z3 g3_z3 g5_z3 g6_z3 g7_z3 g8_z3 ⊢
      refine ye_aload rfl g0_z3 ?_
      refine ye_iload rfl g5_z3 ?_
      refine ye_iload rfl g6_z3 ?_
      obtain ⟨w5, hw5, h⟩ := bV_some h
      refine ye_callV (As := [.int l5, .int l6]) (rest := []) 0 (Or.inl rfl) rfl rfl rfl (Nat.le_of_ble_eq_true rfl) (hM.obj fa0 ⟨rfl, rfl⟩) ((m_X2_milesBetween (d := d + 0) (T := T) N S l5 l6 a0 fa0 hw5) hp _ hM) ?_
      refine ye_iload rfl g7_z3 ?_
      refine ye_iload rfl g8_z3 ?_
      refine ye_p rfl rfl ?_
      refine ye_p rfl rfl ?_
      refine ye_p rfl rfl ?_
      have g0_z4 := xG_o1 (i := 9) (v := .int (if (if ((w3 + l3) + w4) < ((w1 + l3) + w2) then ((w3 + l3) + w4) else ((w1 + l3) + w2)) < w5 then (if ((w3 + l3) + w4) < ((w1 + l3) + w2) then ((w3 + l3) + w4) else ((w1 + l3) + w2)) else w5)) g0_z3 rfl
      have g1_z4 := xG_o1 (i := 9) (v := .int (if (if ((w3 + l3) + w4) < ((w1 + l3) + w2) then ((w3 + l3) + w4) else ((w1 + l3) + w2)) < w5 then (if ((w3 + l3) + w4) < ((w1 + l3) + w2) then ((w3 + l3) + w4) else ((w1 + l3) + w2)) else w5)) g1_z3 rfl
      have g2_z4 := xG_o1 (i := 9) (v := .int (if (if ((w3 + l3) + w4) < ((w1 + l3) + w2) then ((w3 + l3) + w4) else ((w1 + l3) + w2)) < w5 then (if ((w3 + l3) + w4) < ((w1 + l3) + w2) then ((w3 + l3) + w4) else ((w1 + l3) + w2)) else w5)) g2_z3 rfl
      have g3_z4 := xG_o1 (i := 9) (v := .int (if (if ((w3 + l3) + w4) < ((w1 + l3) + w2) then ((w3 + l3) + w4) else ((w1 + l3) + w2)) < w5 then (if ((w3 + l3) + w4) < ((w1 + l3) + w2) then ((w3 + l3) + w4) else ((w1 + l3) + w2)) else w5)) g3_z3 rfl
      have g5_z4 := xG_o1 (i := 9) (v := .int (if (if ((w3 + l3) + w4) < ((w1 + l3) + w2) then ((w3 + l3) + w4) else ((w1 + l3) + w2)) < w5 then (if ((w3 + l3) + w4) < ((w1 + l3) + w2) then ((w3 + l3) + w4) else ((w1 + l3) + w2)) else w5)) g5_z3 rfl
      have g6_z4 := xG_o1 (i := 9) (v := .int (if (if ((w3 + l3) + w4) < ((w1 + l3) + w2) then ((w3 + l3) + w4) else ((w1 + l3) + w2)) < w5 then (if ((w3 + l3) + w4) < ((w1 + l3) + w2) then ((w3 + l3) + w4) else ((w1 + l3) + w2)) else w5)) g6_z3 rfl
      have g9_z4 := xG_same lvz3 9 (.int (if (if ((w3 + l3) + w4) < ((w1 + l3) + w2) then ((w3 + l3) + w4) else ((w1 + l3) + w2)) < w5 then (if ((w3 + l3) + w4) < ((w1 + l3) + w2) then ((w3 + l3) + w4) else ((w1 + l3) + w2)) else w5))
      generalize xSt1 lvz3 9 (.int (if (if ((w3 + l3) + w4) < ((w1 + l3) + w2) then ((w3 + l3) + w4) else ((w1 + l3) + w2)) < w5 then (if ((w3 + l3) + w4) < ((w1 + l3) + w2) then ((w3 + l3) + w4) else ((w1 + l3) + w2)) else w5)) = lvz4 at g0_z4 g1_z4 g2_z4 g3_z4 g5_z4 g6_z4 g9_z4 ⊢
      refine ye_aload rfl g0_z4 ?_
      refine ye_getr rfl (hM.obj fa0 ⟨rfl, rfl⟩) rfl (fun cx1 ecx1 => ?_)
      have fcx1 := yAt.row fa0 ecx1
      refine ye_iload rfl g5_z4 ?_
      refine ye_p rfl rfl ?_
      refine ye_p rfl rfl ?_
      refine ye_iload rfl g6_z4 ?_
      refine ye_p rfl rfl ?_
      refine ye_iload rfl g9_z4 ?_
      obtain ⟨j1, ej1, ij1, h⟩ := gA_some h
      obtain ⟨S1, eS1, h⟩ := sq_some h
      refine yw_ast rfl hM fcx1 yr_2_7 (by decide) ij1 ej1 eS1 (fun y1 M1 => ?_)
      refine ye_iinc rfl g6_z4 ?_
      have g0_z5 := xG_o1 (i := 6) (v := .int (l6 + 1)) g0_z4 rfl
      have g1_z5 := xG_o1 (i := 6) (v := .int (l6 + 1)) g1_z4 rfl
      have g2_z5 := xG_o1 (i := 6) (v := .int (l6 + 1)) g2_z4 rfl
      have g3_z5 := xG_o1 (i := 6) (v := .int (l6 + 1)) g3_z4 rfl
      have g5_z5 := xG_o1 (i := 6) (v := .int (l6 + 1)) g5_z4 rfl
      have g6_z5 := xG_same lvz4 6 (.int (l6 + 1))
      generalize xSt1 lvz4 6 (.int (l6 + 1)) = lvz5 at g0_z5 g1_z5 g2_z5 g3_z5 g5_z5 g6_z5 ⊢
      refine ye_p rfl rfl ?_
      exact ih S1 l1 l2 l3 l5 (l6 + 1) T sl y1 lvz5 a0 fa0 g0_z5 g1_z5 g2_z5 g3_z5 g5_z5 g6_z5 hG M1 h

def f_X2_addLeg_24 : Nat → Nat → yS → Int32 → Int32 → Int32 → Int32 → Option (Int32 × yS)
  | 0, _, _, _, _, _, _ => none
  | n + 1, N, S, l1, l2, l3, l5 => if 8 ≤ l5 then sq (yI S 1 5 ((S.1 1 5) + 1)) fun S1 => some (S.1 1 5, S1) else f_X2_addLeg_34 N N (fun S l1 l2 l3 l5 => f_X2_addLeg_24 n N S l1 l2 l3 l5) S l1 l2 l3 l5 0
set_option maxHeartbeats 4000000 in
set_option maxRecDepth 40000 in
theorem w_X2_addLeg_24 {F : xH} {ev : xEv} {prim : xRel} {d : Nat} {T0 : yT} {v : Int32} {S' : yS} (N : Nat) (n : Nat) : ∀ (S : yS) (l1 : Int32) (l2 : Int32) (l3 : Int32) (l5 : Int32) (T : yT) (sl : Nat) (hp : xH) (lv : xLv) (a0 : Nat) (fa0 : yAt T 2 1 0 a0) (g0 : xG lv 0 = some (.ref a0)) (g1 : xG lv 1 = some (.int l1)) (g2 : xG lv 2 = some (.int l2)) (g3 : xG lv 3 = some (.int l3)) (g5 : xG lv 5 = some (.int l5)) (hG : yG T0 T sl 0) (hM : cR [0, 1, 2, 3, 4, 5, 6, 7] F ev T S hp) (h : f_X2_addLeg_24 n N S l1 l2 l3 l5 = some (v, S')), yWE ev.2.1 (xstr ev) (xCalls ev xmi (xprog ev) prim (d + 1)) (pX2_addLeg ev) (24, lv, [], hp, T.2.2.1, sl) (ypN [0, 1, 2, 3, 4, 5, 6, 7] F ev T0 (some (.int v)) S' 0) := by
  induction n with
  | zero => intro S l1 l2 l3 l5 T sl hp lv a0 fa0 g0 g1 g2 g3 g5 hG hM h; exact n_some h
  | succ n ih =>
    intro S l1 l2 l3 l5 T sl hp lv a0 fa0 g0 g1 g2 g3 g5 hG hM h
    unfold f_X2_addLeg_24 at h
    refine ye_iload rfl g5 ?_
    refine ye_p rfl rfl ?_
    refine ye_icmp_ge rfl (fun h1 => ?_) (fun h1 => ?_)
    · replace h := yiT h1 h
      refine ye_aload rfl g0 ?_
      refine ye_p rfl rfl ?_
      refine ye_getf rfl (hM.obj fa0 ⟨rfl, rfl⟩) rfl ?_
      refine ye_p rfl rfl ?_
      refine ye_p rfl rfl ?_
      refine ye_p rfl rfl ?_
      obtain ⟨S1, eS1, h⟩ := sq_some h
      refine yw_putI rfl hM fa0 rfl ⟨rfl, rfl⟩ (Nat.le_of_ble_eq_true rfl) rfl rfl (ys_2_5 ev _ _ ((S.1 1 5) + 1)) (fun q => absurd q (by decide)) eS1 (fun y1 M1 => ?_)
      exact ye_ret rfl rfl (rN h M1 hG)
    · replace h := yiN h1 h
      refine ye_p rfl rfl ?_
      refine ye_p rfl rfl ?_
      have g0_z1 := xG_o1 (i := 6) (v := .int 0) g0 rfl
      have g1_z1 := xG_o1 (i := 6) (v := .int 0) g1 rfl
      have g2_z1 := xG_o1 (i := 6) (v := .int 0) g2 rfl
      have g3_z1 := xG_o1 (i := 6) (v := .int 0) g3 rfl
      have g5_z1 := xG_o1 (i := 6) (v := .int 0) g5 rfl
      have g6_z1 := xG_same lv 6 (.int 0)
      generalize xSt1 lv 6 (.int 0) = lvz1 at g0_z1 g1_z1 g2_z1 g3_z1 g5_z1 g6_z1 ⊢
      exact w_X2_addLeg_34 (prim := prim) (d := d) N N (fun S l1 l2 l3 l5 => f_X2_addLeg_24 n N S l1 l2 l3 l5) ih S l1 l2 l3 l5 0 T sl hp lvz1 a0 fa0 g0_z1 g1_z1 g2_z1 g3_z1 g5_z1 g6_z1 hG hM h

def f_X2_addLeg_0 (N : Nat) (S : yS) (l1 : Int32) (l2 : Int32) (l3 : Int32) (l4 : Int32) : Option (Int32 × yS) := gP ((64 + (S.1 1 5).toNatClampNeg) < 640 ∧ 64 ≤ (64 + (S.1 1 5).toNatClampNeg) ∧ oc (64 + (S.1 1 5).toNatClampNeg) = 3 ∧ ¬ yRf S (64 + (S.1 1 5).toNatClampNeg) = 1 ∧ ¬ S.1 (64 + (S.1 1 5).toNatClampNeg) (yKs (oc (64 + (S.1 1 5).toNatClampNeg))) = 1) (sq (yNw S (64 + (S.1 1 5).toNatClampNeg) (fun k => ([l1, l2, l3, l4, 0, 0, 0] : List Int32).getD k 0)) fun S1 => gA 12 (S.1 1 5) fun j1 => gP ((64 + (S.1 1 5).toNatClampNeg) = 64 + j1) (sq (yA S1 1 4 (upd (S1.2.1 1 4) j1 1)) fun S2 => gP (yRf S2 (64 + (S.1 1 5).toNatClampNeg) = 1) (f_X2_addLeg_24 N N S2 l1 l2 l3 0)))
set_option maxHeartbeats 4000000 in
set_option maxRecDepth 40000 in
theorem w_X2_addLeg_0 {F : xH} {ev : xEv} {prim : xRel} {d : Nat} {T0 : yT} {v : Int32} {S' : yS} (N : Nat) (S : yS) (l1 : Int32) (l2 : Int32) (l3 : Int32) (l4 : Int32) (T : yT) (sl : Nat) (hp : xH) (lv : xLv) (a0 : Nat) (fa0 : yAt T 2 1 0 a0) (g0 : xG lv 0 = some (.ref a0)) (g1 : xG lv 1 = some (.int l1)) (g2 : xG lv 2 = some (.int l2)) (g3 : xG lv 3 = some (.int l3)) (g4 : xG lv 4 = some (.int l4)) (hG : yG T0 T sl 0) (hM : cR [0, 1, 2, 3, 4, 5, 6, 7] F ev T S hp) (h : f_X2_addLeg_0 N S l1 l2 l3 l4 = some (v, S')) : yWE ev.2.1 (xstr ev) (xCalls ev xmi (xprog ev) prim (d + 1)) (pX2_addLeg ev) (0, lv, [], hp, T.2.2.1, sl) (ypN [0, 1, 2, 3, 4, 5, 6, 7] F ev T0 (some (.int v)) S' 0) := by
  unfold f_X2_addLeg_0 at h
  refine ye_aload rfl g0 ?_
  refine ye_getr rfl (hM.obj fa0 ⟨rfl, rfl⟩) rfl (fun cx1 ecx1 => ?_)
  have fcx1 := yAt.row fa0 ecx1
  refine ye_aload rfl g0 ?_
  refine ye_getf rfl (hM.obj fa0 ⟨rfl, rfl⟩) rfl ?_
  obtain ⟨i1, h⟩ := gP_some h
  refine yw_rawn rfl (fun y1 Ry1 Oy1 => ?_)
  have M1 := hM.fresh (hp1 := y1) (fun b hb => Oy1 b (by omega))
  refine ye_p rfl rfl ?_
  refine ye_iload rfl g1 ?_
  refine ye_iload rfl g2 ?_
  refine ye_iload rfl g3 ?_
  refine ye_iload rfl g4 ?_
  obtain ⟨S1, eS1, h⟩ := sq_some h
  obtain ⟨y2, nz1, ss1, ad1, cy2, M2, F1, AF1, BF1, CF1, DF1⟩ := ct_3 (F := F) (ev := ev) (prim := prim) (d := d + 0) S (64 + (S.1 1 5).toNatClampNeg) l1 l2 l3 l4 i1.2.2.1 hG.2.2.2.1 i1.2.1 i1.1 i1.2.2.2.1 i1.2.2.2.2 hp y1 hM Ry1 Oy1
  rw [← eS1] at M2
  refine ye_callV (As := [.int l1, .int l2, .int l3, .int l4]) (rest := [.ref T.2.2.1, .int (S.1 1 5), .ref cx1]) 2 (Or.inr rfl) rfl rfl rfl (Nat.le_of_ble_eq_true rfl) Ry1 cy2 ?_
  replace fa0 := fa0.tn (ad0 := ad1) (n' := nz1) F1
  replace fcx1 := fcx1.tn (ad0 := ad1) (n' := nz1) F1
  have fo1 : yAt (yTn T (64 + (S.1 1 5).toNatClampNeg) ad1 nz1) 3 (64 + (S.1 1 5).toNatClampNeg) 0 T.2.2.1 := yAt.nw i1.2.2.1 AF1
  obtain ⟨j1, ej1, ij1, h⟩ := gA_some h
  obtain ⟨i2, h⟩ := gP_some h
  obtain ⟨S2, eS2, h⟩ := sq_some h
  refine yw_aast rfl M2 fcx1 yr_2_4 (by decide) (yAt.eqv i2 fo1) rfl ⟨rfl, rfl⟩ ij1 ej1 eS2 (fun y3 M3 => ?_)
  obtain ⟨i3, h⟩ := gP_some h
  obtain ⟨T1, eT1⟩ : ∃ x, x = yUn (yTn T (64 + (S.1 1 5).toNatClampNeg) ad1 nz1) := ⟨_, rfl⟩
  have M4 := M3.unp (show yRf S2 (yTn T (64 + (S.1 1 5).toNatClampNeg) ad1 nz1).2.2.2 = 1 from i3)
  rw [← eT1] at M4
  have G1 : yG T T1 (7 + ss1) 0 := by rw [eT1]; exact yG.born F1 i1.1 BF1 CF1 DF1
  replace fa0 := yAt.un eT1 fa0
  rw [show nz1 = T1.2.2.1 from by rw [eT1]; rfl]
  have H1 := hG.tr3 G1
  refine ye_p rfl rfl ?_
  refine ye_p rfl rfl ?_
  have g0_z1 := xG_o1 (i := 5) (v := .int 0) g0 rfl
  have g1_z1 := xG_o1 (i := 5) (v := .int 0) g1 rfl
  have g2_z1 := xG_o1 (i := 5) (v := .int 0) g2 rfl
  have g3_z1 := xG_o1 (i := 5) (v := .int 0) g3 rfl
  have g5_z1 := xG_same lv 5 (.int 0)
  generalize xSt1 lv 5 (.int 0) = lvz1 at g0_z1 g1_z1 g2_z1 g3_z1 g5_z1 ⊢
  exact w_X2_addLeg_24 (prim := prim) (d := d) N N S2 l1 l2 l3 0 T1 ((sl + 7) + ss1) y3 lvz1 a0 fa0 g0_z1 g1_z1 g2_z1 g3_z1 g5_z1 H1 M4 h
def f_X2_addLeg (N : Nat) (S : yS) (xl1 : Int32) (xl2 : Int32) (xl3 : Int32) (xl4 : Int32) : Option (Int32 × yS) := f_X2_addLeg_0 N S xl1 xl2 xl3 xl4
theorem m_X2_addLeg {F : xH} {ev : xEv} {prim : xRel} {d : Nat} {T : yT} {v : Int32} {S' : yS} (N : Nat) (S : yS) (xl1 : Int32) (xl2 : Int32) (xl3 : Int32) (xl4 : Int32) (a0 : Nat) (fa0 : yAt T 2 1 0 a0) (h : f_X2_addLeg N S xl1 xl2 xl3 xl4 = some (v, S')) : ykN [0, 1, 2, 3, 4, 5, 6, 7] F ev prim (d + 2) 19 T S [.ref a0, .int xl1, .int xl2, .int xl3, .int xl4] (some (.int v)) S' 0 :=
  ykN.of (pg_19 ev) mi_19 (Nat.le_of_ble_eq_true rfl) (fun hz hp hM => w_X2_addLeg_0 (prim := prim) (d := d) N S xl1 xl2 xl3 xl4 T 0 hp _ a0 fa0 rfl rfl rfl rfl rfl (yG.rf hz 0) hM h)

def f_X5_keep_26 (N : Nat) (S : yS) (p0 : Nat) : Option (Int32 × yS) := gP (S.1 p0 4 = 1) (bS (f_X5_copy N S p0 ((p0 + 64))) fun w1 S1 => some (0, S1))
set_option maxHeartbeats 4000000 in
set_option maxRecDepth 40000 in
theorem w_X5_keep_26 {F : xH} {ev : xEv} {prim : xRel} {d : Nat} {T0 : yT} {v : Int32} {S' : yS} (N : Nat) (S : yS) (p0 : Nat) (T : yT) (sl : Nat) (hp : xH) (lv : xLv) (a0 : Nat) (fa0 : yAt T 5 p0 0 a0) (g0 : xG lv 0 = some (.ref a0)) (hG : yG T0 T sl 0) (hM : cR [0, 1, 2, 3, 4, 5, 6, 7] F ev T S hp) (h : f_X5_keep_26 N S p0 = some (v, S')) : yWE ev.2.1 (xstr ev) (xCalls ev xmi (xprog ev) prim (d + 1)) (pX5_keep ev) (26, lv, [], hp, T.2.2.1, sl) (ypN [0, 1, 2, 3, 4, 5, 6, 7] F ev T0 (none) S' 0) := by
  unfold f_X5_keep_26 at h
  refine ye_aload rfl g0 ?_
  refine ye_aload rfl g0 ?_
  obtain ⟨i1, h⟩ := gP_some h
  refine ye_gNu rfl (hM.obj fa0 ⟨rfl, rfl⟩) rfl i1 (fun cx1 ecx1 => ?_)
  have fcx1 : yAt T 5 (p0 + 64) 0 cx1 := ⟨(hM.kept fa0 i1).1, (hM.kept fa0 i1).2, ecx1⟩
  obtain ⟨w1, S1, hw1, h⟩ := bS_some h
  obtain ⟨y1, cy1, M1⟩ := (m_X5_copy (d := d + 0) (T := T) N S p0 ((p0 + 64)) a0 cx1 fa0 fcx1 hw1) hp _ hM
  refine ye_callS (As := [.ref a0, .ref cx1]) (rest := []) 1 (Or.inl rfl) rfl rfl rfl (Nat.le_of_ble_eq_true rfl) cy1 ?_
  exact ye_ret rfl rfl (rNV h M1 hG)

def f_X5_keep_0 (N : Nat) (S : yS) (p0 : Nat) : Option (Int32 × yS) := if S.1 p0 4 = 1 then f_X5_keep_26 N S p0 else gP ((p0 + 64) < 640 ∧ 64 ≤ (p0 + 64) ∧ oc (p0 + 64) = 5 ∧ ¬ yRf S (p0 + 64) = 1 ∧ ¬ S.1 (p0 + 64) (yKs (oc (p0 + 64))) = 1) (sq (yNw S (p0 + 64) (fun k => ([(S.1 p0 0), (-1), 0, (S.1 p0 3), 0] : List Int32).getD k 0)) fun S1 => sq (yI S1 p0 4 1) fun S2 => gP (yRf S2 (p0 + 64) = 1) (f_X5_keep_26 N S2 p0))
set_option maxHeartbeats 4000000 in
set_option maxRecDepth 40000 in
theorem w_X5_keep_0 {F : xH} {ev : xEv} {prim : xRel} {d : Nat} {T0 : yT} {v : Int32} {S' : yS} (N : Nat) (S : yS) (p0 : Nat) (T : yT) (sl : Nat) (hp : xH) (lv : xLv) (a0 : Nat) (fa0 : yAt T 5 p0 0 a0) (g0 : xG lv 0 = some (.ref a0)) (hG : yG T0 T sl 0) (hM : cR [0, 1, 2, 3, 4, 5, 6, 7] F ev T S hp) (h : f_X5_keep_0 N S p0 = some (v, S')) : yWE ev.2.1 (xstr ev) (xCalls ev xmi (xprog ev) prim (d + 1)) (pX5_keep ev) (0, lv, [], hp, T.2.2.1, sl) (ypN [0, 1, 2, 3, 4, 5, 6, 7] F ev T0 (none) S' 0) := by
  unfold f_X5_keep_0 at h
  refine ye_aload rfl g0 ?_
  refine ye_getf rfl (hM.obj fa0 ⟨rfl, rfl⟩) rfl ?_
  refine ye_ifnonnull rfl (fun h1 => ?_) (fun h1 => ?_)
  · replace h := yiT h1 h
    exact w_X5_keep_26 (prim := prim) (d := d) N S p0 T sl hp lv a0 fa0 g0 hG hM h
  · replace h := yiN h1 h
    refine ye_aload rfl g0 ?_
    obtain ⟨i1, h⟩ := gP_some h
    refine yw_rawn rfl (fun y1 Ry1 Oy1 => ?_)
    have M1 := hM.fresh (hp1 := y1) (fun b hb => Oy1 b (by omega))
    refine ye_p rfl rfl ?_
    refine ye_aload rfl g0 ?_
    refine ye_getf rfl (M1.obj fa0 ⟨rfl, rfl⟩) rfl ?_
    refine ye_aload rfl g0 ?_
    refine ye_getf rfl (M1.obj fa0 ⟨rfl, rfl⟩) rfl ?_
    obtain ⟨S1, eS1, h⟩ := sq_some h
    obtain ⟨y2, nz1, ss1, ad1, cy2, M2, F1, AF1, BF1, CF1, DF1⟩ := ct_5 (F := F) (ev := ev) (prim := prim) (d := d + 0) S (p0 + 64) (S.1 p0 0) (S.1 p0 3) i1.2.2.1 hG.2.2.2.1 i1.2.1 i1.1 i1.2.2.2.1 i1.2.2.2.2 hp y1 hM Ry1 Oy1
    rw [← eS1] at M2
    refine ye_callV (As := [.int (S.1 p0 0), .int (S.1 p0 3)]) (rest := [.ref T.2.2.1, .ref a0]) 2 (Or.inr rfl) rfl rfl rfl (Nat.le_of_ble_eq_true rfl) Ry1 cy2 ?_
    replace fa0 := fa0.tn (ad0 := ad1) (n' := nz1) F1
    have fo1 : yAt (yTn T (p0 + 64) ad1 nz1) 5 (p0 + 64) 0 T.2.2.1 := yAt.nw i1.2.2.1 AF1
    obtain ⟨S2, eS2, h⟩ := sq_some h
    obtain ⟨i2, h⟩ := gP_some h
    refine yw_putI rfl M2 fa0 rfl ⟨rfl, rfl⟩ (Nat.le_of_ble_eq_true rfl) rfl rfl (fun I => by rw [← fo1.2.2]; rfl) (fun _ => ⟨rfl, fo1.1, fo1.2.1⟩) eS2 (fun y3 M3 => ?_)
    obtain ⟨T1, eT1⟩ : ∃ x, x = yUn (yTn T (p0 + 64) ad1 nz1) := ⟨_, rfl⟩
    have M4 := M3.unp (show yRf S2 (yTn T (p0 + 64) ad1 nz1).2.2.2 = 1 from i2)
    rw [← eT1] at M4
    have G1 : yG T T1 (5 + ss1) 0 := by rw [eT1]; exact yG.born F1 i1.1 BF1 CF1 DF1
    replace fa0 := yAt.un eT1 fa0
    rw [show nz1 = T1.2.2.1 from by rw [eT1]; rfl]
    have H1 := hG.tr3 G1
    exact w_X5_keep_26 (prim := prim) (d := d) N S2 p0 T1 ((sl + 5) + ss1) y3 lv a0 fa0 g0 H1 M4 h
def f_X5_keep (N : Nat) (S : yS) (xp0 : Nat) : Option (Int32 × yS) := f_X5_keep_0 N S xp0
theorem m_X5_keep {F : xH} {ev : xEv} {prim : xRel} {d : Nat} {T : yT} {v : Int32} {S' : yS} (N : Nat) (S : yS) (xp0 : Nat) (a0 : Nat) (fa0 : yAt T 5 xp0 0 a0) (h : f_X5_keep N S xp0 = some (v, S')) : ykN [0, 1, 2, 3, 4, 5, 6, 7] F ev prim (d + 2) 65 T S [.ref a0] (none) S' 0 :=
  ykN.of (pg_65 ev) mi_65 (Nat.le_of_ble_eq_true rfl) (fun hz hp hM => w_X5_keep_0 (prim := prim) (d := d) N S xp0 T 0 hp _ a0 fa0 rfl (yG.rf hz 0) hM h)

def f_X6_keep_42 (N : Nat) (S : yS) (p0 : Nat) : Option (Int32 × yS) := gP (S.1 p0 20 = 1) (bS (f_X6_copy N S p0 ((p0 + 64))) fun w1 S1 => some (0, S1))
set_option maxHeartbeats 4000000 in
set_option maxRecDepth 40000 in
theorem w_X6_keep_42 {F : xH} {ev : xEv} {prim : xRel} {d : Nat} {T0 : yT} {v : Int32} {S' : yS} (N : Nat) (S : yS) (p0 : Nat) (T : yT) (sl : Nat) (hp : xH) (lv : xLv) (a0 : Nat) (fa0 : yAt T 6 p0 0 a0) (g0 : xG lv 0 = some (.ref a0)) (hG : yG T0 T sl 0) (hM : cR [0, 1, 2, 3, 4, 5, 6, 7] F ev T S hp) (h : f_X6_keep_42 N S p0 = some (v, S')) : yWE ev.2.1 (xstr ev) (xCalls ev xmi (xprog ev) prim (d + 1)) (pX6_keep ev) (42, lv, [], hp, T.2.2.1, sl) (ypN [0, 1, 2, 3, 4, 5, 6, 7] F ev T0 (none) S' 0) := by
  unfold f_X6_keep_42 at h
  refine ye_aload rfl g0 ?_
  refine ye_aload rfl g0 ?_
  obtain ⟨i1, h⟩ := gP_some h
  refine ye_gNu rfl (hM.obj fa0 ⟨rfl, rfl⟩) rfl i1 (fun cx1 ecx1 => ?_)
  have fcx1 : yAt T 6 (p0 + 64) 0 cx1 := ⟨(hM.kept fa0 i1).1, (hM.kept fa0 i1).2, ecx1⟩
  obtain ⟨w1, S1, hw1, h⟩ := bS_some h
  obtain ⟨y1, cy1, M1⟩ := (m_X6_copy (d := d + 0) (T := T) N S p0 ((p0 + 64)) a0 cx1 fa0 fcx1 hw1) hp _ hM
  refine ye_callS (As := [.ref a0, .ref cx1]) (rest := []) 1 (Or.inl rfl) rfl rfl rfl (Nat.le_of_ble_eq_true rfl) cy1 ?_
  exact ye_ret rfl rfl (rNV h M1 hG)

def f_X6_keep_0 (N : Nat) (S : yS) (p0 : Nat) : Option (Int32 × yS) := if S.1 p0 20 = 1 then f_X6_keep_42 N S p0 else gP ((p0 + 64) < 640 ∧ 64 ≤ (p0 + 64) ∧ oc (p0 + 64) = 6 ∧ ¬ yRf S (p0 + 64) = 1 ∧ ¬ S.1 (p0 + 64) (yKs (oc (p0 + 64))) = 1) (gP ((S.1 p0 4) = 0 ∨ (S.1 p0 4) = 1) (sq (yNw S (p0 + 64) (fun k => ([(S.1 p0 0), (S.1 p0 1), (S.1 p0 2), (S.1 p0 3), (S.1 p0 4), 0, 400, 0, (S.1 p0 8), (-1), (-1), 0, 0, 0, 0, 0, (-1), (-1), 0, 0, 0] : List Int32).getD k 0)) fun S1 => sq (yI S1 p0 20 1) fun S2 => gP (yRf S2 (p0 + 64) = 1) (f_X6_keep_42 N S2 p0)))
set_option maxHeartbeats 4000000 in
set_option maxRecDepth 40000 in
theorem w_X6_keep_0 {F : xH} {ev : xEv} {prim : xRel} {d : Nat} {T0 : yT} {v : Int32} {S' : yS} (N : Nat) (S : yS) (p0 : Nat) (T : yT) (sl : Nat) (hp : xH) (lv : xLv) (a0 : Nat) (fa0 : yAt T 6 p0 0 a0) (g0 : xG lv 0 = some (.ref a0)) (hG : yG T0 T sl 0) (hM : cR [0, 1, 2, 3, 4, 5, 6, 7] F ev T S hp) (h : f_X6_keep_0 N S p0 = some (v, S')) : yWE ev.2.1 (xstr ev) (xCalls ev xmi (xprog ev) prim (d + 1)) (pX6_keep ev) (0, lv, [], hp, T.2.2.1, sl) (ypN [0, 1, 2, 3, 4, 5, 6, 7] F ev T0 (none) S' 0) := by
  unfold f_X6_keep_0 at h
  refine ye_aload rfl g0 ?_
  refine ye_getf rfl (hM.obj fa0 ⟨rfl, rfl⟩) rfl ?_
  refine ye_ifnonnull rfl (fun h1 => ?_) (fun h1 => ?_)
  · replace h := yiT h1 h
    exact w_X6_keep_42 (prim := prim) (d := d) N S p0 T sl hp lv a0 fa0 g0 hG hM h
  · replace h := yiN h1 h
    refine ye_aload rfl g0 ?_
    obtain ⟨i1, h⟩ := gP_some h
    refine yw_rawn rfl (fun y1 Ry1 Oy1 => ?_)
    have M1 := hM.fresh (hp1 := y1) (fun b hb => Oy1 b (by omega))
    refine ye_p rfl rfl ?_
    refine ye_aload rfl g0 ?_
    refine ye_getf rfl (M1.obj fa0 ⟨rfl, rfl⟩) rfl ?_
    refine ye_aload rfl g0 ?_
    refine ye_getf rfl (M1.obj fa0 ⟨rfl, rfl⟩) rfl ?_
    refine ye_aload rfl g0 ?_
    refine ye_getf rfl (M1.obj fa0 ⟨rfl, rfl⟩) rfl ?_
    refine ye_aload rfl g0 ?_
    refine ye_getf rfl (M1.obj fa0 ⟨rfl, rfl⟩) rfl ?_
    refine ye_aload rfl g0 ?_
    refine ye_getf rfl (M1.obj fa0 ⟨rfl, rfl⟩) rfl ?_
    refine ye_aload rfl g0 ?_
    refine ye_getf rfl (M1.obj fa0 ⟨rfl, rfl⟩) rfl ?_
    obtain ⟨i2, h⟩ := gP_some h
    obtain ⟨S1, eS1, h⟩ := sq_some h
    obtain ⟨y2, nz1, ss1, ad1, cy2, M2, F1, AF1, BF1, CF1, DF1⟩ := ct_6 (F := F) (ev := ev) (prim := prim) (d := d + 0) S (p0 + 64) (S.1 p0 8) (S.1 p0 0) (S.1 p0 1) (S.1 p0 2) (S.1 p0 3) (S.1 p0 4) i1.2.2.1 i2 hG.2.2.2.1 i1.2.1 i1.1 i1.2.2.2.1 i1.2.2.2.2 hp y1 hM Ry1 Oy1
    rw [← eS1] at M2
    refine ye_callV (As := [.int (S.1 p0 8), .int (S.1 p0 0), .int (S.1 p0 1), .int (S.1 p0 2), .int (S.1 p0 3), .int (S.1 p0 4)]) (rest := [.ref T.2.2.1, .ref a0]) 2 (Or.inr rfl) rfl rfl rfl (Nat.le_of_ble_eq_true rfl) Ry1 cy2 ?_
    replace fa0 := fa0.tn (ad0 := ad1) (n' := nz1) F1
    have fo1 : yAt (yTn T (p0 + 64) ad1 nz1) 6 (p0 + 64) 0 T.2.2.1 := yAt.nw i1.2.2.1 AF1
    obtain ⟨S2, eS2, h⟩ := sq_some h
    obtain ⟨i3, h⟩ := gP_some h
    refine yw_putI rfl M2 fa0 rfl ⟨rfl, rfl⟩ (Nat.le_of_ble_eq_true rfl) rfl rfl (fun I => by rw [← fo1.2.2]; rfl) (fun _ => ⟨rfl, fo1.1, fo1.2.1⟩) eS2 (fun y3 M3 => ?_)
    obtain ⟨T1, eT1⟩ : ∃ x, x = yUn (yTn T (p0 + 64) ad1 nz1) := ⟨_, rfl⟩
    have M4 := M3.unp (show yRf S2 (yTn T (p0 + 64) ad1 nz1).2.2.2 = 1 from i3)
    rw [← eT1] at M4
    have G1 : yG T T1 (21 + ss1) 0 := by rw [eT1]; exact yG.born F1 i1.1 BF1 CF1 DF1
    replace fa0 := yAt.un eT1 fa0
    rw [show nz1 = T1.2.2.1 from by rw [eT1]; rfl]
    have H1 := hG.tr3 G1
    exact w_X6_keep_42 (prim := prim) (d := d) N S2 p0 T1 ((sl + 21) + ss1) y3 lv a0 fa0 g0 H1 M4 h
def f_X6_keep (N : Nat) (S : yS) (xp0 : Nat) : Option (Int32 × yS) := f_X6_keep_0 N S xp0
theorem m_X6_keep {F : xH} {ev : xEv} {prim : xRel} {d : Nat} {T : yT} {v : Int32} {S' : yS} (N : Nat) (S : yS) (xp0 : Nat) (a0 : Nat) (fa0 : yAt T 6 xp0 0 a0) (h : f_X6_keep N S xp0 = some (v, S')) : ykN [0, 1, 2, 3, 4, 5, 6, 7] F ev prim (d + 2) 74 T S [.ref a0] (none) S' 0 :=
  ykN.of (pg_74 ev) mi_74 (Nat.le_of_ble_eq_true rfl) (fun hz hp hM => w_X6_keep_0 (prim := prim) (d := d) N S xp0 T 0 hp _ a0 fa0 rfl (yG.rf hz 0) hM h)

def f_X10_keep_104 : Nat → Nat → yS → Int32 → Option (Int32 × yS)
  | 0, _, _, _ => none
  | n + 1, N, S, l1 => if (S.1 2 12) ≤ l1 then some (0, S) else gR (S.2.1 2 11) 24 l1 fun j1 => bS (f_X1_keep N S ((512 + j1))) fun w1 S1 => f_X10_keep_104 n N S1 (l1 + 1)
set_option maxHeartbeats 4000000 in
set_option maxRecDepth 40000 in
theorem w_X10_keep_104 {F : xH} {ev : xEv} {prim : xRel} {d : Nat} {T0 : yT} {v : Int32} {S' : yS} (N : Nat) (n : Nat) : ∀ (S : yS) (l1 : Int32) (T : yT) (sl : Nat) (hp : xH) (lv : xLv) (a0 : Nat) (fa0 : yAt T 10 2 0 a0) (g0 : xG lv 0 = some (.ref a0)) (g1 : xG lv 1 = some (.int l1)) (hG : yG T0 T sl 0) (hM : cR [0, 1, 2, 3, 4, 5, 6, 7] F ev T S hp) (h : f_X10_keep_104 n N S l1 = some (v, S')), yWE ev.2.1 (xstr ev) (xCalls ev xmi (xprog ev) prim (d + 2)) (pX10_keep ev) (104, lv, [], hp, T.2.2.1, sl) (ypN [0, 1, 2, 3, 4, 5, 6, 7] F ev T0 (none) S' 0) := by
  induction n with
  | zero => intro S l1 T sl hp lv a0 fa0 g0 g1 hG hM h; exact n_some h
  | succ n ih =>
    intro S l1 T sl hp lv a0 fa0 g0 g1 hG hM h
    unfold f_X10_keep_104 at h
    refine ye_iload rfl g1 ?_
    refine ye_aload rfl g0 ?_
    refine ye_getf rfl (hM.obj fa0 ⟨rfl, rfl⟩) rfl ?_
    refine ye_icmp_ge rfl (fun h1 => ?_) (fun h1 => ?_)
    · replace h := yiT h1 h
      exact ye_ret rfl rfl (rNV h hM hG)
    · replace h := yiN h1 h
      refine ye_aload rfl g0 ?_
      refine ye_getr rfl (hM.obj fa0 ⟨rfl, rfl⟩) rfl (fun cx1 ecx1 => ?_)
      have fcx1 := yAt.row fa0 ecx1
      refine ye_iload rfl g1 ?_
      obtain ⟨j1, ej1, ij1, rj1, h⟩ := gR_some h
      refine ye_aaldR (t := 8) rfl (hM.arr fcx1 yr_10_11) ij1 ej1 rj1 (fun cx2 ecx2 => ?_)
      have fcx2 : yAt T 1 (512 + j1) 0 cx2 := ⟨hM.refd fcx1 yr_10_11 (by decide) rj1, oc_512 (by have := vp_lt ij1; omega), ecx2⟩
      obtain ⟨w1, S1, hw1, h⟩ := bS_some h
      obtain ⟨y1, T1, ss1, cy1, M1, G1⟩ := (m_X1_keep (d := d + 0) (T := T) N S ((512 + j1)) cx2 fcx2 hw1) hG.2.2.2.1 hp hM
      refine ye_callV (As := []) (rest := []) 0 (Or.inl rfl) rfl rfl rfl (Nat.le_of_ble_eq_true rfl) (hM.obj fcx2 ⟨rfl, rfl⟩) cy1 ?_
      have H1 := hG.tr G1
      replace fa0 := G1.at fa0
      refine ye_iinc rfl g1 ?_
      have g0_z1 := xG_o1 (i := 1) (v := .int (l1 + 1)) g0 rfl
      have g1_z1 := xG_same lv 1 (.int (l1 + 1))
      generalize xSt1 lv 1 (.int (l1 + 1)) = lvz1 at g0_z1 g1_z1 ⊢
      refine ye_p rfl rfl ?_
      exact ih S1 (l1 + 1) T1 (sl + ss1) y1 lvz1 a0 fa0 g0_z1 g1_z1 H1 M1 h

def f_X10_keep_79 : Nat → Nat → yS → Int32 → Option (Int32 × yS)
  | 0, _, _, _ => none
  | n + 1, N, S, l1 => if (S.1 2 9) ≤ l1 then f_X10_keep_104 N N S 0 else gR (S.2.1 2 8) 30 l1 fun j1 => bS (f_X0_keep N S ((384 + j1))) fun w1 S1 => f_X10_keep_79 n N S1 (l1 + 1)
set_option maxHeartbeats 4000000 in
set_option maxRecDepth 40000 in
theorem w_X10_keep_79 {F : xH} {ev : xEv} {prim : xRel} {d : Nat} {T0 : yT} {v : Int32} {S' : yS} (N : Nat) (n : Nat) : ∀ (S : yS) (l1 : Int32) (T : yT) (sl : Nat) (hp : xH) (lv : xLv) (a0 : Nat) (fa0 : yAt T 10 2 0 a0) (g0 : xG lv 0 = some (.ref a0)) (g1 : xG lv 1 = some (.int l1)) (hG : yG T0 T sl 0) (hM : cR [0, 1, 2, 3, 4, 5, 6, 7] F ev T S hp) (h : f_X10_keep_79 n N S l1 = some (v, S')), yWE ev.2.1 (xstr ev) (xCalls ev xmi (xprog ev) prim (d + 2)) (pX10_keep ev) (79, lv, [], hp, T.2.2.1, sl) (ypN [0, 1, 2, 3, 4, 5, 6, 7] F ev T0 (none) S' 0) := by
  induction n with
  | zero => intro S l1 T sl hp lv a0 fa0 g0 g1 hG hM h; exact n_some h
  | succ n ih =>
    intro S l1 T sl hp lv a0 fa0 g0 g1 hG hM h
    unfold f_X10_keep_79 at h
    refine ye_iload rfl g1 ?_
    refine ye_aload rfl g0 ?_
    refine ye_getf rfl (hM.obj fa0 ⟨rfl, rfl⟩) rfl ?_
    refine ye_icmp_ge rfl (fun h1 => ?_) (fun h1 => ?_)
    · replace h := yiT h1 h
      refine ye_p rfl rfl ?_
      refine ye_p rfl rfl ?_
      have g0_z1 := xG_o1 (i := 1) (v := .int 0) g0 rfl
      have g1_z1 := xG_same lv 1 (.int 0)
      generalize xSt1 lv 1 (.int 0) = lvz1 at g0_z1 g1_z1 ⊢
      exact w_X10_keep_104 (prim := prim) (d := d) N N S 0 T sl hp lvz1 a0 fa0 g0_z1 g1_z1 hG hM h
    · replace h := yiN h1 h
      refine ye_aload rfl g0 ?_
      refine ye_getr rfl (hM.obj fa0 ⟨rfl, rfl⟩) rfl (fun cx1 ecx1 => ?_)
      have fcx1 := yAt.row fa0 ecx1
      refine ye_iload rfl g1 ?_
      obtain ⟨j1, ej1, ij1, rj1, h⟩ := gR_some h
      refine ye_aaldR (t := 7) rfl (hM.arr fcx1 yr_10_8) ij1 ej1 rj1 (fun cx2 ecx2 => ?_)
      have fcx2 : yAt T 0 (384 + j1) 0 cx2 := ⟨hM.refd fcx1 yr_10_8 (by decide) rj1, oc_384 (by have := vp_lt ij1; omega), ecx2⟩
      obtain ⟨w1, S1, hw1, h⟩ := bS_some h
      obtain ⟨y1, T1, ss1, cy1, M1, G1⟩ := (m_X0_keep (d := d + 0) (T := T) N S ((384 + j1)) cx2 fcx2 hw1) hG.2.2.2.1 hp hM
      refine ye_callV (As := []) (rest := []) 0 (Or.inl rfl) rfl rfl rfl (Nat.le_of_ble_eq_true rfl) (hM.obj fcx2 ⟨rfl, rfl⟩) cy1 ?_
      have H1 := hG.tr G1
      replace fa0 := G1.at fa0
      refine ye_iinc rfl g1 ?_
      have g0_z2 := xG_o1 (i := 1) (v := .int (l1 + 1)) g0 rfl
      have g1_z2 := xG_same lv 1 (.int (l1 + 1))
      generalize xSt1 lv 1 (.int (l1 + 1)) = lvz2 at g0_z2 g1_z2 ⊢
      refine ye_p rfl rfl ?_
      exact ih S1 (l1 + 1) T1 (sl + ss1) y1 lvz2 a0 fa0 g0_z2 g1_z2 H1 M1 h

def f_X10_keep_54 : Nat → Nat → yS → Int32 → Option (Int32 × yS)
  | 0, _, _, _ => none
  | n + 1, N, S, l1 => if (S.1 2 7) ≤ l1 then f_X10_keep_79 N N S 0 else gR (S.2.1 2 6) 8 l1 fun j1 => bS (f_X5_keep N S ((256 + j1))) fun w1 S1 => f_X10_keep_54 n N S1 (l1 + 1)
set_option maxHeartbeats 4000000 in
set_option maxRecDepth 40000 in
theorem w_X10_keep_54 {F : xH} {ev : xEv} {prim : xRel} {d : Nat} {T0 : yT} {v : Int32} {S' : yS} (N : Nat) (n : Nat) : ∀ (S : yS) (l1 : Int32) (T : yT) (sl : Nat) (hp : xH) (lv : xLv) (a0 : Nat) (fa0 : yAt T 10 2 0 a0) (g0 : xG lv 0 = some (.ref a0)) (g1 : xG lv 1 = some (.int l1)) (hG : yG T0 T sl 0) (hM : cR [0, 1, 2, 3, 4, 5, 6, 7] F ev T S hp) (h : f_X10_keep_54 n N S l1 = some (v, S')), yWE ev.2.1 (xstr ev) (xCalls ev xmi (xprog ev) prim (d + 2)) (pX10_keep ev) (54, lv, [], hp, T.2.2.1, sl) (ypN [0, 1, 2, 3, 4, 5, 6, 7] F ev T0 (none) S' 0) := by
  induction n with
  | zero => intro S l1 T sl hp lv a0 fa0 g0 g1 hG hM h; exact n_some h
  | succ n ih =>
    intro S l1 T sl hp lv a0 fa0 g0 g1 hG hM h
    unfold f_X10_keep_54 at h
    refine ye_iload rfl g1 ?_
    refine ye_aload rfl g0 ?_
    refine ye_getf rfl (hM.obj fa0 ⟨rfl, rfl⟩) rfl ?_
    refine ye_icmp_ge rfl (fun h1 => ?_) (fun h1 => ?_)
    · replace h := yiT h1 h
      refine ye_p rfl rfl ?_
      refine ye_p rfl rfl ?_
      have g0_z1 := xG_o1 (i := 1) (v := .int 0) g0 rfl
      have g1_z1 := xG_same lv 1 (.int 0)
      generalize xSt1 lv 1 (.int 0) = lvz1 at g0_z1 g1_z1 ⊢
      exact w_X10_keep_79 (prim := prim) (d := d) N N S 0 T sl hp lvz1 a0 fa0 g0_z1 g1_z1 hG hM h
    · replace h := yiN h1 h
      refine ye_aload rfl g0 ?_
      refine ye_getr rfl (hM.obj fa0 ⟨rfl, rfl⟩) rfl (fun cx1 ecx1 => ?_)
      have fcx1 := yAt.row fa0 ecx1
      refine ye_iload rfl g1 ?_
      obtain ⟨j1, ej1, ij1, rj1, h⟩ := gR_some h
      refine ye_aaldR (t := 6) rfl (hM.arr fcx1 yr_10_6) ij1 ej1 rj1 (fun cx2 ecx2 => ?_)
      have fcx2 : yAt T 5 (256 + j1) 0 cx2 := ⟨hM.refd fcx1 yr_10_6 (by decide) rj1, oc_256 (by have := vp_lt ij1; omega), ecx2⟩
      obtain ⟨w1, S1, hw1, h⟩ := bS_some h
      obtain ⟨y1, T1, ss1, cy1, M1, G1⟩ := (m_X5_keep (d := d + 0) (T := T) N S ((256 + j1)) cx2 fcx2 hw1) hG.2.2.2.1 hp hM
      refine ye_callV (As := []) (rest := []) 0 (Or.inl rfl) rfl rfl rfl (Nat.le_of_ble_eq_true rfl) (hM.obj fcx2 ⟨rfl, rfl⟩) cy1 ?_
      have H1 := hG.tr G1
      replace fa0 := G1.at fa0
      refine ye_iinc rfl g1 ?_
      have g0_z2 := xG_o1 (i := 1) (v := .int (l1 + 1)) g0 rfl
      have g1_z2 := xG_same lv 1 (.int (l1 + 1))
      generalize xSt1 lv 1 (.int (l1 + 1)) = lvz2 at g0_z2 g1_z2 ⊢
      refine ye_p rfl rfl ?_
      exact ih S1 (l1 + 1) T1 (sl + ss1) y1 lvz2 a0 fa0 g0_z2 g1_z2 H1 M1 h

def f_X10_keep_29 : Nat → Nat → yS → Int32 → Option (Int32 × yS)
  | 0, _, _, _ => none
  | n + 1, N, S, l1 => if (S.1 2 5) ≤ l1 then f_X10_keep_54 N N S 0 else gR (S.2.1 2 4) 8 l1 fun j1 => bS (f_X6_keep N S ((128 + j1))) fun w1 S1 => f_X10_keep_29 n N S1 (l1 + 1)
set_option maxHeartbeats 4000000 in
set_option maxRecDepth 40000 in
theorem w_X10_keep_29 {F : xH} {ev : xEv} {prim : xRel} {d : Nat} {T0 : yT} {v : Int32} {S' : yS} (N : Nat) (n : Nat) : ∀ (S : yS) (l1 : Int32) (T : yT) (sl : Nat) (hp : xH) (lv : xLv) (a0 : Nat) (fa0 : yAt T 10 2 0 a0) (g0 : xG lv 0 = some (.ref a0)) (g1 : xG lv 1 = some (.int l1)) (hG : yG T0 T sl 0) (hM : cR [0, 1, 2, 3, 4, 5, 6, 7] F ev T S hp) (h : f_X10_keep_29 n N S l1 = some (v, S')), yWE ev.2.1 (xstr ev) (xCalls ev xmi (xprog ev) prim (d + 2)) (pX10_keep ev) (29, lv, [], hp, T.2.2.1, sl) (ypN [0, 1, 2, 3, 4, 5, 6, 7] F ev T0 (none) S' 0) := by
  induction n with
  | zero => intro S l1 T sl hp lv a0 fa0 g0 g1 hG hM h; exact n_some h
  | succ n ih =>
    intro S l1 T sl hp lv a0 fa0 g0 g1 hG hM h
    unfold f_X10_keep_29 at h
    refine ye_iload rfl g1 ?_
    refine ye_aload rfl g0 ?_
    refine ye_getf rfl (hM.obj fa0 ⟨rfl, rfl⟩) rfl ?_
    refine ye_icmp_ge rfl (fun h1 => ?_) (fun h1 => ?_)
    · replace h := yiT h1 h
      refine ye_p rfl rfl ?_
      refine ye_p rfl rfl ?_
      have g0_z1 := xG_o1 (i := 1) (v := .int 0) g0 rfl
      have g1_z1 := xG_same lv 1 (.int 0)
      generalize xSt1 lv 1 (.int 0) = lvz1 at g0_z1 g1_z1 ⊢
      exact w_X10_keep_54 (prim := prim) (d := d) N N S 0 T sl hp lvz1 a0 fa0 g0_z1 g1_z1 hG hM h
    · replace h := yiN h1 h
      refine ye_aload rfl g0 ?_
      refine ye_getr rfl (hM.obj fa0 ⟨rfl, rfl⟩) rfl (fun cx1 ecx1 => ?_)
      have fcx1 := yAt.row fa0 ecx1
      refine ye_iload rfl g1 ?_
      obtain ⟨j1, ej1, ij1, rj1, h⟩ := gR_some h
      refine ye_aaldR (t := 5) rfl (hM.arr fcx1 yr_10_4) ij1 ej1 rj1 (fun cx2 ecx2 => ?_)
      have fcx2 : yAt T 6 (128 + j1) 0 cx2 := ⟨hM.refd fcx1 yr_10_4 (by decide) rj1, oc_128 (by have := vp_lt ij1; omega), ecx2⟩
      obtain ⟨w1, S1, hw1, h⟩ := bS_some h
      obtain ⟨y1, T1, ss1, cy1, M1, G1⟩ := (m_X6_keep (d := d + 0) (T := T) N S ((128 + j1)) cx2 fcx2 hw1) hG.2.2.2.1 hp hM
      refine ye_callV (As := []) (rest := []) 0 (Or.inl rfl) rfl rfl rfl (Nat.le_of_ble_eq_true rfl) (hM.obj fcx2 ⟨rfl, rfl⟩) cy1 ?_
      have H1 := hG.tr G1
      replace fa0 := G1.at fa0
      refine ye_iinc rfl g1 ?_
      have g0_z2 := xG_o1 (i := 1) (v := .int (l1 + 1)) g0 rfl
      have g1_z2 := xG_same lv 1 (.int (l1 + 1))
      generalize xSt1 lv 1 (.int (l1 + 1)) = lvz2 at g0_z2 g1_z2 ⊢
      refine ye_p rfl rfl ?_
      exact ih S1 (l1 + 1) T1 (sl + ss1) y1 lvz2 a0 fa0 g0_z2 g1_z2 H1 M1 h

def f_X10_keep_0 (N : Nat) (S : yS) : Option (Int32 × yS) := sq (yI S 2 17 (S.1 2 13)) fun S1 => sq (yI S1 2 18 (S1.1 2 14)) fun S2 => sq (yI S2 2 19 (S2.1 3 1)) fun S3 => f_X10_keep_29 N N S3 0
set_option maxHeartbeats 4000000 in
set_option maxRecDepth 40000 in
theorem w_X10_keep_0 {F : xH} {ev : xEv} {prim : xRel} {d : Nat} {T0 : yT} {v : Int32} {S' : yS} (N : Nat) (S : yS) (T : yT) (sl : Nat) (hp : xH) (lv : xLv) (a0 : Nat) (fa0 : yAt T 10 2 0 a0) (g0 : xG lv 0 = some (.ref a0)) (hG : yG T0 T sl 0) (hM : cR [0, 1, 2, 3, 4, 5, 6, 7] F ev T S hp) (h : f_X10_keep_0 N S = some (v, S')) : yWE ev.2.1 (xstr ev) (xCalls ev xmi (xprog ev) prim (d + 2)) (pX10_keep ev) (0, lv, [], hp, T.2.2.1, sl) (ypN [0, 1, 2, 3, 4, 5, 6, 7] F ev T0 (none) S' 0) := by
  unfold f_X10_keep_0 at h
  refine ye_aload rfl g0 ?_
  refine ye_aload rfl g0 ?_
  refine ye_getf rfl (hM.obj fa0 ⟨rfl, rfl⟩) rfl ?_
  obtain ⟨S1, eS1, h⟩ := sq_some h
  refine yw_putI rfl hM fa0 rfl ⟨rfl, rfl⟩ (Nat.le_of_ble_eq_true rfl) rfl rfl (ys_10_17 ev _ _ (S.1 2 13)) (fun q => absurd q (by decide)) eS1 (fun y1 M1 => ?_)
  refine ye_aload rfl g0 ?_
  refine ye_aload rfl g0 ?_
  refine ye_getf rfl (M1.obj fa0 ⟨rfl, rfl⟩) rfl ?_
  obtain ⟨S2, eS2, h⟩ := sq_some h
  refine yw_putI rfl M1 fa0 rfl ⟨rfl, rfl⟩ (Nat.le_of_ble_eq_true rfl) rfl rfl (ys_10_18 ev _ _ (S1.1 2 14)) (fun q => absurd q (by decide)) eS2 (fun y2 M2 => ?_)
  refine ye_aload rfl g0 ?_
  refine ye_aload rfl g0 ?_
  refine ye_getr rfl (M2.obj fa0 ⟨rfl, rfl⟩) rfl (fun cx1 ecx1 => ?_)
  have fcx1 := M2.root 9 0 (by decide) rfl ecx1
  refine ye_getf rfl (M2.obj fcx1 ⟨rfl, rfl⟩) rfl ?_
  obtain ⟨S3, eS3, h⟩ := sq_some h
  refine yw_putI rfl M2 fa0 rfl ⟨rfl, rfl⟩ (Nat.le_of_ble_eq_true rfl) rfl rfl (ys_10_19 ev _ _ (S2.1 3 1)) (fun q => absurd q (by decide)) eS3 (fun y3 M3 => ?_)
  refine ye_p rfl rfl ?_
  refine ye_p rfl rfl ?_
  have g0_z1 := xG_o1 (i := 1) (v := .int 0) g0 rfl
  have g1_z1 := xG_same lv 1 (.int 0)
  generalize xSt1 lv 1 (.int 0) = lvz1 at g0_z1 g1_z1 ⊢
  exact w_X10_keep_29 (prim := prim) (d := d) N N S3 0 T sl y3 lvz1 a0 fa0 g0_z1 g1_z1 hG M3 h
def f_X10_keep (N : Nat) (S : yS) : Option (Int32 × yS) := f_X10_keep_0 N S
theorem m_X10_keep {F : xH} {ev : xEv} {prim : xRel} {d : Nat} {T : yT} {v : Int32} {S' : yS} (N : Nat) (S : yS) (a0 : Nat) (fa0 : yAt T 10 2 0 a0) (h : f_X10_keep N S = some (v, S')) : ykN [0, 1, 2, 3, 4, 5, 6, 7] F ev prim (d + 3) 125 T S [.ref a0] (none) S' 0 :=
  ykN.of (pg_125 ev) mi_125 (Nat.le_of_ble_eq_true rfl) (fun hz hp hM => w_X10_keep_0 (prim := prim) (d := d) N S T 0 hp _ a0 fa0 rfl (yG.rf hz 0) hM h)

def f_X12_plan_57 (N : Nat) (k25 : yS → Int32 → Int32 → Int32 → Option (Int32 × yS)) (S : yS) (l1 : Int32) (l3 : Int32) (l4 : Int32) : Option (Int32 × yS) := k25 S l1 l3 (l4 + 1)
set_option maxHeartbeats 4000000 in
set_option maxRecDepth 40000 in
theorem w_X12_plan_57 {F : xH} {ev : xEv} {prim : xRel} {d : Nat} {T0 : yT} {v : Int32} {S' : yS} (N : Nat) (k25 : yS → Int32 → Int32 → Int32 → Option (Int32 × yS)) (u25 : ∀ (S : yS) (l1 : Int32) (l3 : Int32) (l4 : Int32) (T : yT) (sl : Nat) (hp : xH) (lv : xLv) (a0 : Nat) (a2 : Nat) (fa0 : yAt T 12 8 0 a0) (fa2 : yAt T 13 10 1 a2) (g0 : xG lv 0 = some (.ref a0)) (g1 : xG lv 1 = some (.int l1)) (g2 : xG lv 2 = some (.ref a2)) (g3 : xG lv 3 = some (.int l3)) (g4 : xG lv 4 = some (.int l4)) (hG : yG T0 T sl 1) (hM : cR [8] F ev T S hp) (h : k25 S l1 l3 l4 = some (v, S')), yWE ev.2.1 (xstr ev) (xCalls ev xmi (xprog ev) prim (d + 409)) (pX12_plan ev) (25, lv, [], hp, T.2.2.1, sl) (ypN [8] F ev T0 (some (.int v)) S' 1)) (S : yS) (l1 : Int32) (l3 : Int32) (l4 : Int32) (T : yT) (sl : Nat) (hp : xH) (lv : xLv) (a0 : Nat) (a2 : Nat) (fa0 : yAt T 12 8 0 a0) (fa2 : yAt T 13 10 1 a2) (g0 : xG lv 0 = some (.ref a0)) (g1 : xG lv 1 = some (.int l1)) (g2 : xG lv 2 = some (.ref a2)) (g3 : xG lv 3 = some (.int l3)) (g4 : xG lv 4 = some (.int l4)) (hG : yG T0 T sl 1) (hM : cR [8] F ev T S hp) (h : f_X12_plan_57 N k25 S l1 l3 l4 = some (v, S')) : yWE ev.2.1 (xstr ev) (xCalls ev xmi (xprog ev) prim (d + 409)) (pX12_plan ev) (57, lv, [], hp, T.2.2.1, sl) (ypN [8] F ev T0 (some (.int v)) S' 1) := by
  unfold f_X12_plan_57 at h
  refine ye_iinc rfl g4 ?_
  have g0_z1 := xG_o1 (i := 4) (v := .int (l4 + 1)) g0 rfl
  have g1_z1 := xG_o1 (i := 4) (v := .int (l4 + 1)) g1 rfl
  have g2_z1 := xG_o1 (i := 4) (v := .int (l4 + 1)) g2 rfl
  have g3_z1 := xG_o1 (i := 4) (v := .int (l4 + 1)) g3 rfl
  have g4_z1 := xG_same lv 4 (.int (l4 + 1))
  generalize xSt1 lv 4 (.int (l4 + 1)) = lvz1 at g0_z1 g1_z1 g2_z1 g3_z1 g4_z1 ⊢
  refine ye_p rfl rfl ?_
  exact u25 S l1 l3 (l4 + 1) T sl hp lvz1 a0 a2 fa0 fa2 g0_z1 g1_z1 g2_z1 g3_z1 g4_z1 hG hM h

def f_X12_plan_112 (N : Nat) (k76 : yS → Int32 → Int32 → Int32 → Int32 → Int32 → Option (Int32 × yS)) (k87 : yS → Int32 → Int32 → Int32 → Int32 → Int32 → Int32 → Option (Int32 × yS)) (S : yS) (l1 : Int32) (l3 : Int32) (l4 : Int32) (l5 : Int32) (l6 : Int32) (l7 : Int32) : Option (Int32 × yS) := k87 S l1 l3 l4 l5 l6 (l7 + 1)
set_option maxHeartbeats 4000000 in
set_option maxRecDepth 40000 in
theorem w_X12_plan_112 {F : xH} {ev : xEv} {prim : xRel} {d : Nat} {T0 : yT} {v : Int32} {S' : yS} (N : Nat) (k76 : yS → Int32 → Int32 → Int32 → Int32 → Int32 → Option (Int32 × yS)) (k87 : yS → Int32 → Int32 → Int32 → Int32 → Int32 → Int32 → Option (Int32 × yS)) (u76 : ∀ (S : yS) (l1 : Int32) (l3 : Int32) (l4 : Int32) (l5 : Int32) (l6 : Int32) (T : yT) (sl : Nat) (hp : xH) (lv : xLv) (a0 : Nat) (a2 : Nat) (fa0 : yAt T 12 8 0 a0) (fa2 : yAt T 13 10 1 a2) (g0 : xG lv 0 = some (.ref a0)) (g1 : xG lv 1 = some (.int l1)) (g2 : xG lv 2 = some (.ref a2)) (g3 : xG lv 3 = some (.int l3)) (g4 : xG lv 4 = some (.int l4)) (g5 : xG lv 5 = some (.int l5)) (g6 : xG lv 6 = some (.int l6)) (hG : yG T0 T sl 1) (hM : cR [8] F ev T S hp) (h : k76 S l1 l3 l4 l5 l6 = some (v, S')), yWE ev.2.1 (xstr ev) (xCalls ev xmi (xprog ev) prim (d + 409)) (pX12_plan ev) (76, lv, [], hp, T.2.2.1, sl) (ypN [8] F ev T0 (some (.int v)) S' 1)) (u87 : ∀ (S : yS) (l1 : Int32) (l3 : Int32) (l4 : Int32) (l5 : Int32) (l6 : Int32) (l7 : Int32) (T : yT) (sl : Nat) (hp : xH) (lv : xLv) (a0 : Nat) (a2 : Nat) (fa0 : yAt T 12 8 0 a0) (fa2 : yAt T 13 10 1 a2) (g0 : xG lv 0 = some (.ref a0)) (g1 : xG lv 1 = some (.int l1)) (g2 : xG lv 2 = some (.ref a2)) (g3 : xG lv 3 = some (.int l3)) (g4 : xG lv 4 = some (.int l4)) (g5 : xG lv 5 = some (.int l5)) (g6 : xG lv 6 = some (.int l6)) (g7 : xG lv 7 = some (.int l7)) (hG : yG T0 T sl 1) (hM : cR [8] F ev T S hp) (h : k87 S l1 l3 l4 l5 l6 l7 = some (v, S')), yWE ev.2.1 (xstr ev) (xCalls ev xmi (xprog ev) prim (d + 409)) (pX12_plan ev) (87, lv, [], hp, T.2.2.1, sl) (ypN [8] F ev T0 (some (.int v)) S' 1)) (S : yS) (l1 : Int32) (l3 : Int32) (l4 : Int32) (l5 : Int32) (l6 : Int32) (l7 : Int32) (T : yT) (sl : Nat) (hp : xH) (lv : xLv) (a0 : Nat) (a2 : Nat) (fa0 : yAt T 12 8 0 a0) (fa2 : yAt T 13 10 1 a2) (g0 : xG lv 0 = some (.ref a0)) (g1 : xG lv 1 = some (.int l1)) (g2 : xG lv 2 = some (.ref a2)) (g3 : xG lv 3 = some (.int l3)) (g4 : xG lv 4 = some (.int l4)) (g5 : xG lv 5 = some (.int l5)) (g6 : xG lv 6 = some (.int l6)) (g7 : xG lv 7 = some (.int l7)) (hG : yG T0 T sl 1) (hM : cR [8] F ev T S hp) (h : f_X12_plan_112 N k76 k87 S l1 l3 l4 l5 l6 l7 = some (v, S')) : yWE ev.2.1 (xstr ev) (xCalls ev xmi (xprog ev) prim (d + 409)) (pX12_plan ev) (112, lv, [], hp, T.2.2.1, sl) (ypN [8] F ev T0 (some (.int v)) S' 1) := by
  unfold f_X12_plan_112 at h
  refine ye_iinc rfl g7 ?_
  have g0_z1 := xG_o1 (i := 7) (v := .int (l7 + 1)) g0 rfl
  have g1_z1 := xG_o1 (i := 7) (v := .int (l7 + 1)) g1 rfl
  have g2_z1 := xG_o1 (i := 7) (v := .int (l7 + 1)) g2 rfl
  have g3_z1 := xG_o1 (i := 7) (v := .int (l7 + 1)) g3 rfl
  have g4_z1 := xG_o1 (i := 7) (v := .int (l7 + 1)) g4 rfl
  have g5_z1 := xG_o1 (i := 7) (v := .int (l7 + 1)) g5 rfl
  have g6_z1 := xG_o1 (i := 7) (v := .int (l7 + 1)) g6 rfl
  have g7_z1 := xG_same lv 7 (.int (l7 + 1))
  generalize xSt1 lv 7 (.int (l7 + 1)) = lvz1 at g0_z1 g1_z1 g2_z1 g3_z1 g4_z1 g5_z1 g6_z1 g7_z1 ⊢
  refine ye_p rfl rfl ?_
  exact u87 S l1 l3 l4 l5 l6 (l7 + 1) T sl hp lvz1 a0 a2 fa0 fa2 g0_z1 g1_z1 g2_z1 g3_z1 g4_z1 g5_z1 g6_z1 g7_z1 hG hM h

def f_X12_plan_189 (N : Nat) (k76 : yS → Int32 → Int32 → Int32 → Int32 → Int32 → Option (Int32 × yS)) (S : yS) (l1 : Int32) (l3 : Int32) (l4 : Int32) (l5 : Int32) (l6 : Int32) : Option (Int32 × yS) := k76 S l1 l3 l4 l5 (l6 + 1)
set_option maxHeartbeats 4000000 in
set_option maxRecDepth 40000 in
theorem w_X12_plan_189 {F : xH} {ev : xEv} {prim : xRel} {d : Nat} {T0 : yT} {v : Int32} {S' : yS} (N : Nat) (k76 : yS → Int32 → Int32 → Int32 → Int32 → Int32 → Option (Int32 × yS)) (u76 : ∀ (S : yS) (l1 : Int32) (l3 : Int32) (l4 : Int32) (l5 : Int32) (l6 : Int32) (T : yT) (sl : Nat) (hp : xH) (lv : xLv) (a0 : Nat) (a2 : Nat) (fa0 : yAt T 12 8 0 a0) (fa2 : yAt T 13 10 1 a2) (g0 : xG lv 0 = some (.ref a0)) (g1 : xG lv 1 = some (.int l1)) (g2 : xG lv 2 = some (.ref a2)) (g3 : xG lv 3 = some (.int l3)) (g4 : xG lv 4 = some (.int l4)) (g5 : xG lv 5 = some (.int l5)) (g6 : xG lv 6 = some (.int l6)) (hG : yG T0 T sl 1) (hM : cR [8] F ev T S hp) (h : k76 S l1 l3 l4 l5 l6 = some (v, S')), yWE ev.2.1 (xstr ev) (xCalls ev xmi (xprog ev) prim (d + 409)) (pX12_plan ev) (76, lv, [], hp, T.2.2.1, sl) (ypN [8] F ev T0 (some (.int v)) S' 1)) (S : yS) (l1 : Int32) (l3 : Int32) (l4 : Int32) (l5 : Int32) (l6 : Int32) (T : yT) (sl : Nat) (hp : xH) (lv : xLv) (a0 : Nat) (a2 : Nat) (fa0 : yAt T 12 8 0 a0) (fa2 : yAt T 13 10 1 a2) (g0 : xG lv 0 = some (.ref a0)) (g1 : xG lv 1 = some (.int l1)) (g2 : xG lv 2 = some (.ref a2)) (g3 : xG lv 3 = some (.int l3)) (g4 : xG lv 4 = some (.int l4)) (g5 : xG lv 5 = some (.int l5)) (g6 : xG lv 6 = some (.int l6)) (hG : yG T0 T sl 1) (hM : cR [8] F ev T S hp) (h : f_X12_plan_189 N k76 S l1 l3 l4 l5 l6 = some (v, S')) : yWE ev.2.1 (xstr ev) (xCalls ev xmi (xprog ev) prim (d + 409)) (pX12_plan ev) (189, lv, [], hp, T.2.2.1, sl) (ypN [8] F ev T0 (some (.int v)) S' 1) := by
  unfold f_X12_plan_189 at h
  refine ye_iinc rfl g6 ?_
  have g0_z1 := xG_o1 (i := 6) (v := .int (l6 + 1)) g0 rfl
  have g1_z1 := xG_o1 (i := 6) (v := .int (l6 + 1)) g1 rfl
  have g2_z1 := xG_o1 (i := 6) (v := .int (l6 + 1)) g2 rfl
  have g3_z1 := xG_o1 (i := 6) (v := .int (l6 + 1)) g3 rfl
  have g4_z1 := xG_o1 (i := 6) (v := .int (l6 + 1)) g4 rfl
  have g5_z1 := xG_o1 (i := 6) (v := .int (l6 + 1)) g5 rfl
  have g6_z1 := xG_same lv 6 (.int (l6 + 1))
  generalize xSt1 lv 6 (.int (l6 + 1)) = lvz1 at g0_z1 g1_z1 g2_z1 g3_z1 g4_z1 g5_z1 g6_z1 ⊢
  refine ye_p rfl rfl ?_
  exact u76 S l1 l3 l4 l5 (l6 + 1) T sl hp lvz1 a0 a2 fa0 fa2 g0_z1 g1_z1 g2_z1 g3_z1 g4_z1 g5_z1 g6_z1 hG hM h

def f_X12_plan_171 (N : Nat) (k76 : yS → Int32 → Int32 → Int32 → Int32 → Int32 → Option (Int32 × yS)) (S : yS) (l1 : Int32) (l3 : Int32) (l4 : Int32) (l5 : Int32) (l6 : Int32) (l7 : Int32) (t0 : Int32) : Option (Int32 × yS) := if ¬ t0 = 0 then f_X12_plan_189 N k76 S l1 l3 l6 l7 l6 else f_X12_plan_189 N k76 S l1 l3 l4 l5 l6
set_option maxHeartbeats 4000000 in
set_option maxRecDepth 40000 in
theorem w_X12_plan_171 {F : xH} {ev : xEv} {prim : xRel} {d : Nat} {T0 : yT} {v : Int32} {S' : yS} (N : Nat) (k76 : yS → Int32 → Int32 → Int32 → Int32 → Int32 → Option (Int32 × yS)) (u76 : ∀ (S : yS) (l1 : Int32) (l3 : Int32) (l4 : Int32) (l5 : Int32) (l6 : Int32) (T : yT) (sl : Nat) (hp : xH) (lv : xLv) (a0 : Nat) (a2 : Nat) (fa0 : yAt T 12 8 0 a0) (fa2 : yAt T 13 10 1 a2) (g0 : xG lv 0 = some (.ref a0)) (g1 : xG lv 1 = some (.int l1)) (g2 : xG lv 2 = some (.ref a2)) (g3 : xG lv 3 = some (.int l3)) (g4 : xG lv 4 = some (.int l4)) (g5 : xG lv 5 = some (.int l5)) (g6 : xG lv 6 = some (.int l6)) (hG : yG T0 T sl 1) (hM : cR [8] F ev T S hp) (h : k76 S l1 l3 l4 l5 l6 = some (v, S')), yWE ev.2.1 (xstr ev) (xCalls ev xmi (xprog ev) prim (d + 409)) (pX12_plan ev) (76, lv, [], hp, T.2.2.1, sl) (ypN [8] F ev T0 (some (.int v)) S' 1)) (S : yS) (l1 : Int32) (l3 : Int32) (l4 : Int32) (l5 : Int32) (l6 : Int32) (l7 : Int32) (t0 : Int32) (T : yT) (sl : Nat) (hp : xH) (lv : xLv) (a0 : Nat) (a2 : Nat) (fa0 : yAt T 12 8 0 a0) (fa2 : yAt T 13 10 1 a2) (g0 : xG lv 0 = some (.ref a0)) (g1 : xG lv 1 = some (.int l1)) (g2 : xG lv 2 = some (.ref a2)) (g3 : xG lv 3 = some (.int l3)) (g4 : xG lv 4 = some (.int l4)) (g5 : xG lv 5 = some (.int l5)) (g6 : xG lv 6 = some (.int l6)) (g7 : xG lv 7 = some (.int l7)) (hG : yG T0 T sl 1) (hM : cR [8] F ev T S hp) (h : f_X12_plan_171 N k76 S l1 l3 l4 l5 l6 l7 t0 = some (v, S')) : yWE ev.2.1 (xstr ev) (xCalls ev xmi (xprog ev) prim (d + 409)) (pX12_plan ev) (171, lv, [.int t0], hp, T.2.2.1, sl) (ypN [8] F ev T0 (some (.int v)) S' 1) := by
  unfold f_X12_plan_171 at h
  refine ye_p rfl rfl ?_
  have g0_z1 := xG_o1 (i := 8) (v := .int t0) g0 rfl
  have g1_z1 := xG_o1 (i := 8) (v := .int t0) g1 rfl
  have g2_z1 := xG_o1 (i := 8) (v := .int t0) g2 rfl
  have g3_z1 := xG_o1 (i := 8) (v := .int t0) g3 rfl
  have g4_z1 := xG_o1 (i := 8) (v := .int t0) g4 rfl
  have g5_z1 := xG_o1 (i := 8) (v := .int t0) g5 rfl
  have g6_z1 := xG_o1 (i := 8) (v := .int t0) g6 rfl
  have g7_z1 := xG_o1 (i := 8) (v := .int t0) g7 rfl
  have g8_z1 := xG_same lv 8 (.int t0)
  generalize xSt1 lv 8 (.int t0) = lvz1 at g0_z1 g1_z1 g2_z1 g3_z1 g4_z1 g5_z1 g6_z1 g7_z1 g8_z1 ⊢
  refine ye_iload rfl g8_z1 ?_
  refine ye_if_ne rfl (fun h1 => ?_) (fun h1 => ?_)
  · replace h := yiT h1 h
    refine ye_iload rfl g6_z1 ?_
    refine ye_p rfl rfl ?_
    have g0_z2 := xG_o1 (i := 4) (v := .int l6) g0_z1 rfl
    have g1_z2 := xG_o1 (i := 4) (v := .int l6) g1_z1 rfl
    have g2_z2 := xG_o1 (i := 4) (v := .int l6) g2_z1 rfl
    have g3_z2 := xG_o1 (i := 4) (v := .int l6) g3_z1 rfl
    have g6_z2 := xG_o1 (i := 4) (v := .int l6) g6_z1 rfl
    have g7_z2 := xG_o1 (i := 4) (v := .int l6) g7_z1 rfl
    have g4_z2 := xG_same lvz1 4 (.int l6)
    generalize xSt1 lvz1 4 (.int l6) = lvz2 at g0_z2 g1_z2 g2_z2 g3_z2 g6_z2 g7_z2 g4_z2 ⊢
    refine ye_iload rfl g7_z2 ?_
    refine ye_p rfl rfl ?_
    have g0_z3 := xG_o1 (i := 5) (v := .int l7) g0_z2 rfl
    have g1_z3 := xG_o1 (i := 5) (v := .int l7) g1_z2 rfl
    have g2_z3 := xG_o1 (i := 5) (v := .int l7) g2_z2 rfl
    have g3_z3 := xG_o1 (i := 5) (v := .int l7) g3_z2 rfl
    have g4_z3 := xG_o1 (i := 5) (v := .int l7) g4_z2 rfl
    have g6_z3 := xG_o1 (i := 5) (v := .int l7) g6_z2 rfl
    have g5_z3 := xG_same lvz2 5 (.int l7)
    generalize xSt1 lvz2 5 (.int l7) = lvz3 at g0_z3 g1_z3 g2_z3 g3_z3 g4_z3 g6_z3 g5_z3 ⊢
    exact w_X12_plan_189 (prim := prim) (d := d) N k76 u76 S l1 l3 l6 l7 l6 T sl hp lvz3 a0 a2 fa0 fa2 g0_z3 g1_z3 g2_z3 g3_z3 g4_z3 g5_z3 g6_z3 hG hM h
  · replace h := yiN h1 h
    refine ye_p rfl rfl ?_
    exact w_X12_plan_189 (prim := prim) (d := d) N k76 u76 S l1 l3 l4 l5 l6 T sl hp lvz1 a0 a2 fa0 fa2 g0_z1 g1_z1 g2_z1 g3_z1 g4_z1 g5_z1 g6_z1 hG hM h

def f_X12_plan_166 (N : Nat) (k76 : yS → Int32 → Int32 → Int32 → Int32 → Int32 → Option (Int32 × yS)) (S : yS) (l1 : Int32) (l3 : Int32) (l4 : Int32) (l5 : Int32) (l6 : Int32) (l7 : Int32) : Option (Int32 × yS) := f_X12_plan_171 N k76 S l1 l3 l4 l5 l6 l7 1
set_option maxHeartbeats 4000000 in
set_option maxRecDepth 40000 in
theorem w_X12_plan_166 {F : xH} {ev : xEv} {prim : xRel} {d : Nat} {T0 : yT} {v : Int32} {S' : yS} (N : Nat) (k76 : yS → Int32 → Int32 → Int32 → Int32 → Int32 → Option (Int32 × yS)) (u76 : ∀ (S : yS) (l1 : Int32) (l3 : Int32) (l4 : Int32) (l5 : Int32) (l6 : Int32) (T : yT) (sl : Nat) (hp : xH) (lv : xLv) (a0 : Nat) (a2 : Nat) (fa0 : yAt T 12 8 0 a0) (fa2 : yAt T 13 10 1 a2) (g0 : xG lv 0 = some (.ref a0)) (g1 : xG lv 1 = some (.int l1)) (g2 : xG lv 2 = some (.ref a2)) (g3 : xG lv 3 = some (.int l3)) (g4 : xG lv 4 = some (.int l4)) (g5 : xG lv 5 = some (.int l5)) (g6 : xG lv 6 = some (.int l6)) (hG : yG T0 T sl 1) (hM : cR [8] F ev T S hp) (h : k76 S l1 l3 l4 l5 l6 = some (v, S')), yWE ev.2.1 (xstr ev) (xCalls ev xmi (xprog ev) prim (d + 409)) (pX12_plan ev) (76, lv, [], hp, T.2.2.1, sl) (ypN [8] F ev T0 (some (.int v)) S' 1)) (S : yS) (l1 : Int32) (l3 : Int32) (l4 : Int32) (l5 : Int32) (l6 : Int32) (l7 : Int32) (T : yT) (sl : Nat) (hp : xH) (lv : xLv) (a0 : Nat) (a2 : Nat) (fa0 : yAt T 12 8 0 a0) (fa2 : yAt T 13 10 1 a2) (g0 : xG lv 0 = some (.ref a0)) (g1 : xG lv 1 = some (.int l1)) (g2 : xG lv 2 = some (.ref a2)) (g3 : xG lv 3 = some (.int l3)) (g4 : xG lv 4 = some (.int l4)) (g5 : xG lv 5 = some (.int l5)) (g6 : xG lv 6 = some (.int l6)) (g7 : xG lv 7 = some (.int l7)) (hG : yG T0 T sl 1) (hM : cR [8] F ev T S hp) (h : f_X12_plan_166 N k76 S l1 l3 l4 l5 l6 l7 = some (v, S')) : yWE ev.2.1 (xstr ev) (xCalls ev xmi (xprog ev) prim (d + 409)) (pX12_plan ev) (166, lv, [], hp, T.2.2.1, sl) (ypN [8] F ev T0 (some (.int v)) S' 1) := by
  unfold f_X12_plan_166 at h
  refine ye_p rfl rfl ?_
  refine ye_p rfl rfl ?_
  exact w_X12_plan_171 (prim := prim) (d := d) N k76 u76 S l1 l3 l4 l5 l6 l7 1 T sl hp lv a0 a2 fa0 fa2 g0 g1 g2 g3 g4 g5 g6 g7 hG hM h

def f_X12_plan_170 (N : Nat) (k76 : yS → Int32 → Int32 → Int32 → Int32 → Int32 → Option (Int32 × yS)) (S : yS) (l1 : Int32) (l3 : Int32) (l4 : Int32) (l5 : Int32) (l6 : Int32) (l7 : Int32) : Option (Int32 × yS) := f_X12_plan_171 N k76 S l1 l3 l4 l5 l6 l7 0
set_option maxHeartbeats 4000000 in
set_option maxRecDepth 40000 in
theorem w_X12_plan_170 {F : xH} {ev : xEv} {prim : xRel} {d : Nat} {T0 : yT} {v : Int32} {S' : yS} (N : Nat) (k76 : yS → Int32 → Int32 → Int32 → Int32 → Int32 → Option (Int32 × yS)) (u76 : ∀ (S : yS) (l1 : Int32) (l3 : Int32) (l4 : Int32) (l5 : Int32) (l6 : Int32) (T : yT) (sl : Nat) (hp : xH) (lv : xLv) (a0 : Nat) (a2 : Nat) (fa0 : yAt T 12 8 0 a0) (fa2 : yAt T 13 10 1 a2) (g0 : xG lv 0 = some (.ref a0)) (g1 : xG lv 1 = some (.int l1)) (g2 : xG lv 2 = some (.ref a2)) (g3 : xG lv 3 = some (.int l3)) (g4 : xG lv 4 = some (.int l4)) (g5 : xG lv 5 = some (.int l5)) (g6 : xG lv 6 = some (.int l6)) (hG : yG T0 T sl 1) (hM : cR [8] F ev T S hp) (h : k76 S l1 l3 l4 l5 l6 = some (v, S')), yWE ev.2.1 (xstr ev) (xCalls ev xmi (xprog ev) prim (d + 409)) (pX12_plan ev) (76, lv, [], hp, T.2.2.1, sl) (ypN [8] F ev T0 (some (.int v)) S' 1)) (S : yS) (l1 : Int32) (l3 : Int32) (l4 : Int32) (l5 : Int32) (l6 : Int32) (l7 : Int32) (T : yT) (sl : Nat) (hp : xH) (lv : xLv) (a0 : Nat) (a2 : Nat) (fa0 : yAt T 12 8 0 a0) (fa2 : yAt T 13 10 1 a2) (g0 : xG lv 0 = some (.ref a0)) (g1 : xG lv 1 = some (.int l1)) (g2 : xG lv 2 = some (.ref a2)) (g3 : xG lv 3 = some (.int l3)) (g4 : xG lv 4 = some (.int l4)) (g5 : xG lv 5 = some (.int l5)) (g6 : xG lv 6 = some (.int l6)) (g7 : xG lv 7 = some (.int l7)) (hG : yG T0 T sl 1) (hM : cR [8] F ev T S hp) (h : f_X12_plan_170 N k76 S l1 l3 l4 l5 l6 l7 = some (v, S')) : yWE ev.2.1 (xstr ev) (xCalls ev xmi (xprog ev) prim (d + 409)) (pX12_plan ev) (170, lv, [], hp, T.2.2.1, sl) (ypN [8] F ev T0 (some (.int v)) S' 1) := by
  unfold f_X12_plan_170 at h
  refine ye_p rfl rfl ?_
  exact w_X12_plan_171 (prim := prim) (d := d) N k76 u76 S l1 l3 l4 l5 l6 l7 0 T sl hp lv a0 a2 fa0 fa2 g0 g1 g2 g3 g4 g5 g6 g7 hG hM h

def f_X12_plan_87 : Nat → Nat → (yS → Int32 → Int32 → Int32 → Int32 → Int32 → Option (Int32 × yS)) → yS → Int32 → Int32 → Int32 → Int32 → Int32 → Int32 → Option (Int32 × yS)
  | 0, _, _, _, _, _, _, _, _, _ => none
  | n + 1, N, k76, S, l1, l3, l4, l5, l6, l7 => if l3 ≤ l7 then bS (f_X12_go N S l1) fun w1 S1 => bS (f_X12_coinNow N S1) fun w2 S2 => bS (f_X12_putBack N S2) fun w3 S3 => if l4 = ((-1)) then f_X12_plan_166 N k76 S3 l1 l3 l4 l5 l6 w2 else if l5 < w2 then f_X12_plan_166 N k76 S3 l1 l3 l4 l5 l6 w2 else if ¬ w2 = l5 then f_X12_plan_170 N k76 S3 l1 l3 l4 l5 l6 w2 else bV (f_J6_bitCount_0f7a4 N S3 l6) fun w4 => bV (f_J6_bitCount_0f7a4 N S3 l4) fun w5 => if w5 ≤ w4 then f_X12_plan_170 N k76 S3 l1 l3 l4 l5 l6 w2 else f_X12_plan_166 N k76 S3 l1 l3 l4 l5 l6 w2 else if ¬ ((l6 >>> (l7 &&& 31)) &&& 1) = 0 then f_X12_plan_112 N k76 (fun S l1 l3 l4 l5 l6 l7 => f_X12_plan_87 n N k76 S l1 l3 l4 l5 l6 l7) S l1 l3 l4 l5 l6 l7 else gA 6 l7 fun j1 => bS (f_X12_endFlight N S (S.2.1 10 0 j1) 3) fun w6 S4 => f_X12_plan_112 N k76 (fun S l1 l3 l4 l5 l6 l7 => f_X12_plan_87 n N k76 S l1 l3 l4 l5 l6 l7) S4 l1 l3 l4 l5 l6 l7
set_option maxHeartbeats 4000000 in
set_option maxRecDepth 40000 in
theorem w_X12_plan_87 {F : xH} {ev : xEv} {prim : xRel} {d : Nat} {T0 : yT} {v : Int32} {S' : yS} (N : Nat) (n : Nat) (k76 : yS → Int32 → Int32 → Int32 → Int32 → Int32 → Option (Int32 × yS)) (u76 : ∀ (S : yS) (l1 : Int32) (l3 : Int32) (l4 : Int32) (l5 : Int32) (l6 : Int32) (T : yT) (sl : Nat) (hp : xH) (lv : xLv) (a0 : Nat) (a2 : Nat) (fa0 : yAt T 12 8 0 a0) (fa2 : yAt T 13 10 1 a2) (g0 : xG lv 0 = some (.ref a0)) (g1 : xG lv 1 = some (.int l1)) (g2 : xG lv 2 = some (.ref a2)) (g3 : xG lv 3 = some (.int l3)) (g4 : xG lv 4 = some (.int l4)) (g5 : xG lv 5 = some (.int l5)) (g6 : xG lv 6 = some (.int l6)) (hG : yG T0 T sl 1) (hM : cR [8] F ev T S hp) (h : k76 S l1 l3 l4 l5 l6 = some (v, S')), yWE ev.2.1 (xstr ev) (xCalls ev xmi (xprog ev) prim (d + 409)) (pX12_plan ev) (76, lv, [], hp, T.2.2.1, sl) (ypN [8] F ev T0 (some (.int v)) S' 1)) : ∀ (S : yS) (l1 : Int32) (l3 : Int32) (l4 : Int32) (l5 : Int32) (l6 : Int32) (l7 : Int32) (T : yT) (sl : Nat) (hp : xH) (lv : xLv) (a0 : Nat) (a2 : Nat) (fa0 : yAt T 12 8 0 a0) (fa2 : yAt T 13 10 1 a2) (g0 : xG lv 0 = some (.ref a0)) (g1 : xG lv 1 = some (.int l1)) (g2 : xG lv 2 = some (.ref a2)) (g3 : xG lv 3 = some (.int l3)) (g4 : xG lv 4 = some (.int l4)) (g5 : xG lv 5 = some (.int l5)) (g6 : xG lv 6 = some (.int l6)) (g7 : xG lv 7 = some (.int l7)) (hG : yG T0 T sl 1) (hM : cR [8] F ev T S hp) (h : f_X12_plan_87 n N k76 S l1 l3 l4 l5 l6 l7 = some (v, S')), yWE ev.2.1 (xstr ev) (xCalls ev xmi (xprog ev) prim (d + 409)) (pX12_plan ev) (87, lv, [], hp, T.2.2.1, sl) (ypN [8] F ev T0 (some (.int v)) S' 1) := by
  induction n with
  | zero => intro S l1 l3 l4 l5 l6 l7 T sl hp lv a0 a2 fa0 fa2 g0 g1 g2 g3 g4 g5 g6 g7 hG hM h; exact n_some h
  | succ n ih =>
    intro S l1 l3 l4 l5 l6 l7 T sl hp lv a0 a2 fa0 fa2 g0 g1 g2 g3 g4 g5 g6 g7 hG hM h
    unfold f_X12_plan_87 at h
    refine ye_iload rfl g7 ?_
    refine ye_iload rfl g3 ?_
    refine ye_icmp_ge rfl (fun h1 => ?_) (fun h1 => ?_)
    · replace h := yiT h1 h
      refine ye_aload rfl g0 ?_
      refine ye_iload rfl g1 ?_
      obtain ⟨w1, S1, hw1, h⟩ := bS_some h
      obtain ⟨y1, cy1, M1⟩ := (m_X12_go (d := d + 0) (T := T) N S l1 a0 fa0 hw1) hp _ hM
      refine ye_callV (As := [.int l1]) (rest := []) 0 (Or.inl rfl) rfl rfl rfl (Nat.le_of_ble_eq_true rfl) (hM.obj fa0 ⟨rfl, rfl⟩) cy1 ?_
      refine ye_aload rfl g0 ?_
      obtain ⟨w2, S2, hw2, h⟩ := bS_some h
      obtain ⟨y2, cy2, M2⟩ := (m_X12_coinNow (d := d + 2) (T := T) N S1 a0 fa0 hw2) y1 _ M1
      refine ye_callV (As := []) (rest := []) 0 (Or.inl rfl) rfl rfl rfl (Nat.le_of_ble_eq_true rfl) (M1.obj fa0 ⟨rfl, rfl⟩) cy2 ?_
      refine ye_p rfl rfl ?_
      have g0_z1 := xG_o1 (i := 7) (v := .int w2) g0 rfl
      have g1_z1 := xG_o1 (i := 7) (v := .int w2) g1 rfl
      have g2_z1 := xG_o1 (i := 7) (v := .int w2) g2 rfl
      have g3_z1 := xG_o1 (i := 7) (v := .int w2) g3 rfl
      have g4_z1 := xG_o1 (i := 7) (v := .int w2) g4 rfl
      have g5_z1 := xG_o1 (i := 7) (v := .int w2) g5 rfl
      have g6_z1 := xG_o1 (i := 7) (v := .int w2) g6 rfl
      have g7_z1 := xG_same lv 7 (.int w2)
      generalize xSt1 lv 7 (.int w2) = lvz1 at g0_z1 g1_z1 g2_z1 g3_z1 g4_z1 g5_z1 g6_z1 g7_z1 ⊢
      refine ye_aload rfl g0_z1 ?_
      obtain ⟨w3, S3, hw3, h⟩ := bS_some h
      obtain ⟨y3, cy3, M3⟩ := (m_X12_putBack (d := d + 408) (T := T) N S2 a0 fa0 hw3) y2 _ M2
      refine ye_callV (As := []) (rest := []) 0 (Or.inl rfl) rfl rfl rfl (Nat.le_of_ble_eq_true rfl) (M2.obj fa0 ⟨rfl, rfl⟩) cy3 ?_
      refine ye_iload rfl g4_z1 ?_
      refine ye_p rfl rfl ?_
      refine ye_icmp_eq rfl (fun h2 => ?_) (fun h2 => ?_)
      · replace h := yiT h2 h
        exact w_X12_plan_166 (prim := prim) (d := d) N k76 u76 S3 l1 l3 l4 l5 l6 w2 T sl y3 lvz1 a0 a2 fa0 fa2 g0_z1 g1_z1 g2_z1 g3_z1 g4_z1 g5_z1 g6_z1 g7_z1 hG M3 h
      · replace h := yiN h2 h
        refine ye_iload rfl g7_z1 ?_
        refine ye_iload rfl g5_z1 ?_
        refine ye_icmp_gt rfl (fun h3 => ?_) (fun h3 => ?_)
        · replace h := yiT h3 h
          exact w_X12_plan_166 (prim := prim) (d := d) N k76 u76 S3 l1 l3 l4 l5 l6 w2 T sl y3 lvz1 a0 a2 fa0 fa2 g0_z1 g1_z1 g2_z1 g3_z1 g4_z1 g5_z1 g6_z1 g7_z1 hG M3 h
        · replace h := yiN h3 h
          refine ye_iload rfl g7_z1 ?_
          refine ye_iload rfl g5_z1 ?_
          refine ye_icmp_ne rfl (fun h4 => ?_) (fun h4 => ?_)
          · replace h := yiT h4 h
            exact w_X12_plan_170 (prim := prim) (d := d) N k76 u76 S3 l1 l3 l4 l5 l6 w2 T sl y3 lvz1 a0 a2 fa0 fa2 g0_z1 g1_z1 g2_z1 g3_z1 g4_z1 g5_z1 g6_z1 g7_z1 hG M3 h
          · replace h := yiN h4 h
            refine ye_iload rfl g6_z1 ?_
            obtain ⟨w4, hw4, h⟩ := bV_some h
            refine ye_callS (As := [.int l6]) (rest := []) 1 (Or.inl rfl) rfl rfl rfl (Nat.le_of_ble_eq_true rfl) ((m_J6_bitCount_0f7a4 (d := d + 408) (T := T) N S3 l6 hw4) y3 _ M3) ?_
            refine ye_iload rfl g4_z1 ?_
            obtain ⟨w5, hw5, h⟩ := bV_some h
            refine ye_callS (As := [.int l4]) (rest := [.int w4]) 1 (Or.inl rfl) rfl rfl rfl (Nat.le_of_ble_eq_true rfl) ((m_J6_bitCount_0f7a4 (d := d + 408) (T := T) N S3 l4 hw5) y3 _ M3) ?_
            refine ye_icmp_ge rfl (fun h5 => ?_) (fun h5 => ?_)
            · replace h := yiT h5 h
              exact w_X12_plan_170 (prim := prim) (d := d) N k76 u76 S3 l1 l3 l4 l5 l6 w2 T sl y3 lvz1 a0 a2 fa0 fa2 g0_z1 g1_z1 g2_z1 g3_z1 g4_z1 g5_z1 g6_z1 g7_z1 hG M3 h
            · replace h := yiN h5 h
              exact w_X12_plan_166 (prim := prim) (d := d) N k76 u76 S3 l1 l3 l4 l5 l6 w2 T sl y3 lvz1 a0 a2 fa0 fa2 g0_z1 g1_z1 g2_z1 g3_z1 g4_z1 g5_z1 g6_z1 g7_z1 hG M3 h
    · replace h := yiN h1 h
      refine ye_iload rfl g6 ?_
      refine ye_iload rfl g7 ?_
      refine ye_p rfl rfl ?_
      refine ye_p rfl rfl ?_
      refine ye_p rfl rfl ?_
      refine ye_if_ne rfl (fun h6 => ?_) (fun h6 => ?_)
      · replace h := yiT h6 h
        exact w_X12_plan_112 (prim := prim) (d := d) N k76 (fun S l1 l3 l4 l5 l6 l7 => f_X12_plan_87 n N k76 S l1 l3 l4 l5 l6 l7) u76 ih S l1 l3 l4 l5 l6 l7 T sl hp lv a0 a2 fa0 fa2 g0 g1 g2 g3 g4 g5 g6 g7 hG hM h
      · replace h := yiN h6 h
        refine ye_aload rfl g0 ?_
        refine ye_aload rfl g2 ?_
        refine ye_iload rfl g7 ?_
        obtain ⟨j1, ej1, ij1, h⟩ := gA_some h
        refine yj_ald rfl (hM.arr fa2 yr_13_0) ij1 ej1 ?_
        refine ye_p rfl rfl ?_
        obtain ⟨w6, S4, hw6, h⟩ := bS_some h
        obtain ⟨y4, cy4, M4⟩ := (m_X12_endFlight (d := d + 407) (T := T) N S (S.2.1 10 0 j1) 3 a0 fa0 hw6) hp _ hM
        refine ye_callV (As := [.int (S.2.1 10 0 j1), .int 3]) (rest := []) 0 (Or.inl rfl) rfl rfl rfl (Nat.le_of_ble_eq_true rfl) (hM.obj fa0 ⟨rfl, rfl⟩) cy4 ?_
        exact w_X12_plan_112 (prim := prim) (d := d) N k76 (fun S l1 l3 l4 l5 l6 l7 => f_X12_plan_87 n N k76 S l1 l3 l4 l5 l6 l7) u76 ih S4 l1 l3 l4 l5 l6 l7 T sl y4 lv a0 a2 fa0 fa2 g0 g1 g2 g3 g4 g5 g6 g7 hG M4 h

def f_X12_plan_76 : Nat → Nat → yS → Int32 → Int32 → Int32 → Int32 → Int32 → Option (Int32 × yS)
  | 0, _, _, _, _, _, _, _ => none
  | n + 1, N, S, l1, l3, l4, l5, l6 => if (1 <<< (l3 &&& 31)) ≤ l6 then gA 64 0 fun j1 => sq (yA S 8 45 (upd (S.2.1 8 45) j1 l4)) fun S1 => sq (yI S1 8 46 1) fun S2 => some (l5, S2) else f_X12_plan_87 N N (fun S l1 l3 l4 l5 l6 => f_X12_plan_76 n N S l1 l3 l4 l5 l6) S l1 l3 l4 l5 l6 0
set_option maxHeartbeats 4000000 in
set_option maxRecDepth 40000 in
theorem w_X12_plan_76 {F : xH} {ev : xEv} {prim : xRel} {d : Nat} {T0 : yT} {v : Int32} {S' : yS} (N : Nat) (n : Nat) : ∀ (S : yS) (l1 : Int32) (l3 : Int32) (l4 : Int32) (l5 : Int32) (l6 : Int32) (T : yT) (sl : Nat) (hp : xH) (lv : xLv) (a0 : Nat) (a2 : Nat) (fa0 : yAt T 12 8 0 a0) (fa2 : yAt T 13 10 1 a2) (g0 : xG lv 0 = some (.ref a0)) (g1 : xG lv 1 = some (.int l1)) (g2 : xG lv 2 = some (.ref a2)) (g3 : xG lv 3 = some (.int l3)) (g4 : xG lv 4 = some (.int l4)) (g5 : xG lv 5 = some (.int l5)) (g6 : xG lv 6 = some (.int l6)) (hG : yG T0 T sl 1) (hM : cR [8] F ev T S hp) (h : f_X12_plan_76 n N S l1 l3 l4 l5 l6 = some (v, S')), yWE ev.2.1 (xstr ev) (xCalls ev xmi (xprog ev) prim (d + 409)) (pX12_plan ev) (76, lv, [], hp, T.2.2.1, sl) (ypN [8] F ev T0 (some (.int v)) S' 1) := by
  induction n with
  | zero => intro S l1 l3 l4 l5 l6 T sl hp lv a0 a2 fa0 fa2 g0 g1 g2 g3 g4 g5 g6 hG hM h; exact n_some h
  | succ n ih =>
    intro S l1 l3 l4 l5 l6 T sl hp lv a0 a2 fa0 fa2 g0 g1 g2 g3 g4 g5 g6 hG hM h
    unfold f_X12_plan_76 at h
    refine ye_iload rfl g6 ?_
    refine ye_p rfl rfl ?_
    refine ye_iload rfl g3 ?_
    refine ye_p rfl rfl ?_
    refine ye_icmp_ge rfl (fun h1 => ?_) (fun h1 => ?_)
    · replace h := yiT h1 h
      refine ye_aload rfl g0 ?_
      refine ye_getr rfl (hM.obj fa0 ⟨rfl, rfl⟩) rfl (fun cx1 ecx1 => ?_)
      have fcx1 := yAt.row fa0 ecx1
      refine ye_p rfl rfl ?_
      refine ye_iload rfl g4 ?_
      obtain ⟨j1, ej1, ij1, h⟩ := gA_some h
      obtain ⟨S1, eS1, h⟩ := sq_some h
      refine yw_ast rfl hM fcx1 yr_12_45 (by decide) ij1 ej1 eS1 (fun y1 M1 => ?_)
      refine ye_aload rfl g0 ?_
      refine ye_p rfl rfl ?_
      obtain ⟨S2, eS2, h⟩ := sq_some h
      refine yw_putI rfl M1 fa0 rfl ⟨rfl, rfl⟩ (Nat.le_of_ble_eq_true rfl) rfl rfl (ys_12_46 ev _ _ 1) (fun q => absurd q (by decide)) eS2 (fun y2 M2 => ?_)
      refine ye_iload rfl g5 ?_
      exact ye_ret rfl rfl (rN h M2 hG)
    · replace h := yiN h1 h
      refine ye_p rfl rfl ?_
      refine ye_p rfl rfl ?_
      have g0_z1 := xG_o1 (i := 7) (v := .int 0) g0 rfl
      have g1_z1 := xG_o1 (i := 7) (v := .int 0) g1 rfl
      have g2_z1 := xG_o1 (i := 7) (v := .int 0) g2 rfl
      have g3_z1 := xG_o1 (i := 7) (v := .int 0) g3 rfl
      have g4_z1 := xG_o1 (i := 7) (v := .int 0) g4 rfl
      have g5_z1 := xG_o1 (i := 7) (v := .int 0) g5 rfl
      have g6_z1 := xG_o1 (i := 7) (v := .int 0) g6 rfl
      have g7_z1 := xG_same lv 7 (.int 0)
      generalize xSt1 lv 7 (.int 0) = lvz1 at g0_z1 g1_z1 g2_z1 g3_z1 g4_z1 g5_z1 g6_z1 g7_z1 ⊢
      exact w_X12_plan_87 (prim := prim) (d := d) N N (fun S l1 l3 l4 l5 l6 => f_X12_plan_76 n N S l1 l3 l4 l5 l6) ih S l1 l3 l4 l5 l6 0 T sl hp lvz1 a0 a2 fa0 fa2 g0_z1 g1_z1 g2_z1 g3_z1 g4_z1 g5_z1 g6_z1 g7_z1 hG hM h

def f_X12_plan_63 (N : Nat) (S : yS) (l1 : Int32) (l3 : Int32) : Option (Int32 × yS) := bS (f_X12_putAside N S) fun w1 S1 => f_X12_plan_76 N N S1 l1 l3 ((-1)) 0 0
set_option maxHeartbeats 4000000 in
set_option maxRecDepth 40000 in
theorem w_X12_plan_63 {F : xH} {ev : xEv} {prim : xRel} {d : Nat} {T0 : yT} {v : Int32} {S' : yS} (N : Nat) (S : yS) (l1 : Int32) (l3 : Int32) (T : yT) (sl : Nat) (hp : xH) (lv : xLv) (a0 : Nat) (a2 : Nat) (fa0 : yAt T 12 8 0 a0) (fa2 : yAt T 13 10 1 a2) (g0 : xG lv 0 = some (.ref a0)) (g1 : xG lv 1 = some (.int l1)) (g2 : xG lv 2 = some (.ref a2)) (g3 : xG lv 3 = some (.int l3)) (hG : yG T0 T sl 1) (hM : cR [8] F ev T S hp) (h : f_X12_plan_63 N S l1 l3 = some (v, S')) : yWE ev.2.1 (xstr ev) (xCalls ev xmi (xprog ev) prim (d + 409)) (pX12_plan ev) (63, lv, [], hp, T.2.2.1, sl) (ypN [8] F ev T0 (some (.int v)) S' 1) := by
  unfold f_X12_plan_63 at h
  refine ye_aload rfl g0 ?_
  obtain ⟨w1, S1, hw1, h⟩ := bS_some h
  obtain ⟨y1, cy1, M1⟩ := (m_X12_putAside (d := d + 408) (T := T) N S a0 fa0 hw1) hp _ hM
  refine ye_callV (As := []) (rest := []) 0 (Or.inl rfl) rfl rfl rfl (Nat.le_of_ble_eq_true rfl) (hM.obj fa0 ⟨rfl, rfl⟩) cy1 ?_
  refine ye_p rfl rfl ?_
  refine ye_p rfl rfl ?_
  have g0_z1 := xG_o1 (i := 4) (v := .int ((-1))) g0 rfl
  have g1_z1 := xG_o1 (i := 4) (v := .int ((-1))) g1 rfl
  have g2_z1 := xG_o1 (i := 4) (v := .int ((-1))) g2 rfl
  have g3_z1 := xG_o1 (i := 4) (v := .int ((-1))) g3 rfl
  have g4_z1 := xG_same lv 4 (.int ((-1)))
  generalize xSt1 lv 4 (.int ((-1))) = lvz1 at g0_z1 g1_z1 g2_z1 g3_z1 g4_z1 ⊢
  refine ye_p rfl rfl ?_
  refine ye_p rfl rfl ?_
  have g0_z2 := xG_o1 (i := 5) (v := .int 0) g0_z1 rfl
  have g1_z2 := xG_o1 (i := 5) (v := .int 0) g1_z1 rfl
  have g2_z2 := xG_o1 (i := 5) (v := .int 0) g2_z1 rfl
  have g3_z2 := xG_o1 (i := 5) (v := .int 0) g3_z1 rfl
  have g4_z2 := xG_o1 (i := 5) (v := .int 0) g4_z1 rfl
  have g5_z2 := xG_same lvz1 5 (.int 0)
  generalize xSt1 lvz1 5 (.int 0) = lvz2 at g0_z2 g1_z2 g2_z2 g3_z2 g4_z2 g5_z2 ⊢
  refine ye_p rfl rfl ?_
  refine ye_p rfl rfl ?_
  have g0_z3 := xG_o1 (i := 6) (v := .int 0) g0_z2 rfl
  have g1_z3 := xG_o1 (i := 6) (v := .int 0) g1_z2 rfl
  have g2_z3 := xG_o1 (i := 6) (v := .int 0) g2_z2 rfl
  have g3_z3 := xG_o1 (i := 6) (v := .int 0) g3_z2 rfl
  have g4_z3 := xG_o1 (i := 6) (v := .int 0) g4_z2 rfl
  have g5_z3 := xG_o1 (i := 6) (v := .int 0) g5_z2 rfl
  have g6_z3 := xG_same lvz2 6 (.int 0)
  generalize xSt1 lvz2 6 (.int 0) = lvz3 at g0_z3 g1_z3 g2_z3 g3_z3 g4_z3 g5_z3 g6_z3 ⊢
  exact w_X12_plan_76 (prim := prim) (d := d) N N S1 l1 l3 ((-1)) 0 0 T sl y1 lvz3 a0 a2 fa0 fa2 g0_z3 g1_z3 g2_z3 g3_z3 g4_z3 g5_z3 g6_z3 hG M1 h

def f_X12_plan_25 : Nat → Nat → yS → Int32 → Int32 → Int32 → Option (Int32 × yS)
  | 0, _, _, _, _, _ => none
  | n + 1, N, S, l1, l3, l4 => if (S.1 8 33) ≤ l4 then f_X12_plan_63 N S l1 l3 else if 6 ≤ l3 then f_X12_plan_63 N S l1 l3 else bV (f_X12_waits N S l4) fun w1 => if w1 = 0 then f_X12_plan_57 N (fun S l1 l3 l4 => f_X12_plan_25 n N S l1 l3 l4) S l1 l3 l4 else gA 6 l3 fun j1 => sq (yA S 10 0 (upd (S.2.1 10 0) j1 l4)) fun S1 => f_X12_plan_57 N (fun S l1 l3 l4 => f_X12_plan_25 n N S l1 l3 l4) S1 l1 (l3 + 1) l4
set_option maxHeartbeats 4000000 in
set_option maxRecDepth 40000 in
theorem w_X12_plan_25 {F : xH} {ev : xEv} {prim : xRel} {d : Nat} {T0 : yT} {v : Int32} {S' : yS} (N : Nat) (n : Nat) : ∀ (S : yS) (l1 : Int32) (l3 : Int32) (l4 : Int32) (T : yT) (sl : Nat) (hp : xH) (lv : xLv) (a0 : Nat) (a2 : Nat) (fa0 : yAt T 12 8 0 a0) (fa2 : yAt T 13 10 1 a2) (g0 : xG lv 0 = some (.ref a0)) (g1 : xG lv 1 = some (.int l1)) (g2 : xG lv 2 = some (.ref a2)) (g3 : xG lv 3 = some (.int l3)) (g4 : xG lv 4 = some (.int l4)) (hG : yG T0 T sl 1) (hM : cR [8] F ev T S hp) (h : f_X12_plan_25 n N S l1 l3 l4 = some (v, S')), yWE ev.2.1 (xstr ev) (xCalls ev xmi (xprog ev) prim (d + 409)) (pX12_plan ev) (25, lv, [], hp, T.2.2.1, sl) (ypN [8] F ev T0 (some (.int v)) S' 1) := by
  induction n with
  | zero => intro S l1 l3 l4 T sl hp lv a0 a2 fa0 fa2 g0 g1 g2 g3 g4 hG hM h; exact n_some h
  | succ n ih =>
    intro S l1 l3 l4 T sl hp lv a0 a2 fa0 fa2 g0 g1 g2 g3 g4 hG hM h
    unfold f_X12_plan_25 at h
    refine ye_iload rfl g4 ?_
    refine ye_aload rfl g0 ?_
    refine ye_getf rfl (hM.obj fa0 ⟨rfl, rfl⟩) rfl ?_
    refine ye_icmp_ge rfl (fun h1 => ?_) (fun h1 => ?_)
    · replace h := yiT h1 h
      exact w_X12_plan_63 (prim := prim) (d := d) N S l1 l3 T sl hp lv a0 a2 fa0 fa2 g0 g1 g2 g3 hG hM h
    · replace h := yiN h1 h
      refine ye_iload rfl g3 ?_
      refine ye_p rfl rfl ?_
      refine ye_icmp_ge rfl (fun h2 => ?_) (fun h2 => ?_)
      · replace h := yiT h2 h
        exact w_X12_plan_63 (prim := prim) (d := d) N S l1 l3 T sl hp lv a0 a2 fa0 fa2 g0 g1 g2 g3 hG hM h
      · replace h := yiN h2 h
        refine ye_aload rfl g0 ?_
        refine ye_iload rfl g4 ?_
        obtain ⟨w1, hw1, h⟩ := bV_some h
        refine ye_callV (As := [.int l4]) (rest := []) 0 (Or.inl rfl) rfl rfl rfl (Nat.le_of_ble_eq_true rfl) (hM.obj fa0 ⟨rfl, rfl⟩) ((m_X12_waits (d := d + 407) (T := T) N S l4 a0 fa0 hw1) hp _ hM) ?_
        refine ye_if_eq rfl (fun h3 => ?_) (fun h3 => ?_)
        · replace h := yiT h3 h
          exact w_X12_plan_57 (prim := prim) (d := d) N (fun S l1 l3 l4 => f_X12_plan_25 n N S l1 l3 l4) ih S l1 l3 l4 T sl hp lv a0 a2 fa0 fa2 g0 g1 g2 g3 g4 hG hM h
        · replace h := yiN h3 h
          refine ye_aload rfl g2 ?_
          refine ye_iload rfl g3 ?_
          refine ye_iinc rfl g3 ?_
          have g0_z1 := xG_o1 (i := 3) (v := .int (l3 + 1)) g0 rfl
          have g1_z1 := xG_o1 (i := 3) (v := .int (l3 + 1)) g1 rfl
          have g2_z1 := xG_o1 (i := 3) (v := .int (l3 + 1)) g2 rfl
          have g4_z1 := xG_o1 (i := 3) (v := .int (l3 + 1)) g4 rfl
          have g3_z1 := xG_same lv 3 (.int (l3 + 1))
          generalize xSt1 lv 3 (.int (l3 + 1)) = lvz1 at g0_z1 g1_z1 g2_z1 g4_z1 g3_z1 ⊢
          refine ye_iload rfl g4_z1 ?_
          obtain ⟨j1, ej1, ij1, h⟩ := gA_some h
          obtain ⟨S1, eS1, h⟩ := sq_some h
          refine yw_ast rfl hM fa2 yr_13_0 (by decide) ij1 ej1 eS1 (fun y1 M1 => ?_)
          exact w_X12_plan_57 (prim := prim) (d := d) N (fun S l1 l3 l4 => f_X12_plan_25 n N S l1 l3 l4) ih S1 l1 (l3 + 1) l4 T sl y1 lvz1 a0 a2 fa0 fa2 g0_z1 g1_z1 g2_z1 g3_z1 g4_z1 hG M1 h

def f_X12_plan_0 (N : Nat) (S : yS) (l1 : Int32) : Option (Int32 × yS) := sq (yI S 8 47 0) fun S1 => bV (f_X12_canTry N S1 l1) fun w1 => if ¬ w1 = 0 then sq (yNw S1 10 (fun _ => 0)) fun S2 => f_X12_plan_25 N N S2 l1 0 0 else some ((-1), S1)
set_option maxHeartbeats 4000000 in
set_option maxRecDepth 40000 in
theorem w_X12_plan_0 {F : xH} {ev : xEv} {prim : xRel} {d : Nat} {T0 : yT} {v : Int32} {S' : yS} (N : Nat) (S : yS) (l1 : Int32) (T : yT) (sl : Nat) (hp : xH) (lv : xLv) (a0 : Nat) (fa0 : yAt T 12 8 0 a0) (g0 : xG lv 0 = some (.ref a0)) (g1 : xG lv 1 = some (.int l1)) (hG : yG T0 T sl 0) (hM : cR [8] F ev T S hp) (h : f_X12_plan_0 N S l1 = some (v, S')) : yWE ev.2.1 (xstr ev) (xCalls ev xmi (xprog ev) prim (d + 409)) (pX12_plan ev) (0, lv, [], hp, T.2.2.1, sl) (ypN [8] F ev T0 (some (.int v)) S' 1) := by
  unfold f_X12_plan_0 at h
  refine ye_aload rfl g0 ?_
  refine ye_p rfl rfl ?_
  obtain ⟨S1, eS1, h⟩ := sq_some h
  refine yw_putI rfl hM fa0 rfl ⟨rfl, rfl⟩ (Nat.le_of_ble_eq_true rfl) rfl rfl (ys_12_47 ev _ _ 0) (fun q => absurd q (by decide)) eS1 (fun y1 M1 => ?_)
  refine ye_aload rfl g0 ?_
  refine ye_iload rfl g1 ?_
  obtain ⟨w1, hw1, h⟩ := bV_some h
  refine ye_callV (As := [.int l1]) (rest := []) 0 (Or.inl rfl) rfl rfl rfl (Nat.le_of_ble_eq_true rfl) (M1.obj fa0 ⟨rfl, rfl⟩) ((m_X12_canTry (d := d + 407) (T := T) N S1 l1 a0 fa0 hw1) y1 _ M1) ?_
  refine ye_if_ne rfl (fun h1 => ?_) (fun h1 => ?_)
  · replace h := yiT h1 h
    refine ye_p rfl rfl ?_
    obtain ⟨S2, eS2, h⟩ := sq_some h
    refine yw_newa (id := 10) rfl M1 hG.2.2.2.1 (by decide) (by decide) eS2 (fun y2 T1 cx1 M2 G1 fcx1 tT1 => ?_)
    have H1 := hG.tr1 G1
    replace fa0 := tT1 _ _ _ _ (by decide) fa0
    refine ye_p rfl rfl ?_
    have g0_z1 := xG_o1 (i := 2) (v := .ref cx1) g0 rfl
    have g1_z1 := xG_o1 (i := 2) (v := .ref cx1) g1 rfl
    have g2_z1 := xG_same lv 2 (.ref cx1)
    generalize xSt1 lv 2 (.ref cx1) = lvz1 at g0_z1 g1_z1 g2_z1 ⊢
    refine ye_p rfl rfl ?_
    refine ye_p rfl rfl ?_
    have g0_z2 := xG_o1 (i := 3) (v := .int 0) g0_z1 rfl
    have g1_z2 := xG_o1 (i := 3) (v := .int 0) g1_z1 rfl
    have g2_z2 := xG_o1 (i := 3) (v := .int 0) g2_z1 rfl
    have g3_z2 := xG_same lvz1 3 (.int 0)
    generalize xSt1 lvz1 3 (.int 0) = lvz2 at g0_z2 g1_z2 g2_z2 g3_z2 ⊢
    refine ye_p rfl rfl ?_
    refine ye_p rfl rfl ?_
    have g0_z3 := xG_o1 (i := 4) (v := .int 0) g0_z2 rfl
    have g1_z3 := xG_o1 (i := 4) (v := .int 0) g1_z2 rfl
    have g2_z3 := xG_o1 (i := 4) (v := .int 0) g2_z2 rfl
    have g3_z3 := xG_o1 (i := 4) (v := .int 0) g3_z2 rfl
    have g4_z3 := xG_same lvz2 4 (.int 0)
    generalize xSt1 lvz2 4 (.int 0) = lvz3 at g0_z3 g1_z3 g2_z3 g3_z3 g4_z3 ⊢
    exact w_X12_plan_25 (prim := prim) (d := d) N N S2 l1 0 0 T1 (sl + 6) y2 lvz3 a0 cx1 fa0 fcx1 g0_z3 g1_z3 g2_z3 g3_z3 g4_z3 H1 M2 h
  · replace h := yiN h1 h
    refine ye_p rfl rfl ?_
    exact ye_ret rfl rfl (rN h M1 hG.wk)
def f_X12_plan (N : Nat) (S : yS) (xl1 : Int32) : Option (Int32 × yS) := f_X12_plan_0 N S xl1
theorem m_X12_plan {F : xH} {ev : xEv} {prim : xRel} {d : Nat} {T : yT} {v : Int32} {S' : yS} (N : Nat) (S : yS) (xl1 : Int32) (a0 : Nat) (fa0 : yAt T 12 8 0 a0) (h : f_X12_plan N S xl1 = some (v, S')) : ykN [8] F ev prim (d + 410) 295 T S [.ref a0, .int xl1] (some (.int v)) S' 1 :=
  ykN.of (pg_295 ev) mi_295 (Nat.le_of_ble_eq_true rfl) (fun hz hp hM => w_X12_plan_0 (prim := prim) (d := d) N S xl1 T 0 hp _ a0 fa0 rfl rfl (yG.rf hz 0) hM h)

def f_X11_leg_33 (N : Nat) (S : yS) : Option (Int32 × yS) := some ((-1), S)
set_option maxHeartbeats 4000000 in
set_option maxRecDepth 40000 in
theorem w_X11_leg_33 {F : xH} {ev : xEv} {prim : xRel} {d : Nat} {T0 : yT} {v : Int32} {S' : yS} (N : Nat) (S : yS) (T : yT) (sl : Nat) (hp : xH) (lv : xLv) (hG : yG T0 T sl 0) (hM : cR [0, 1, 2, 3, 4, 5, 6, 7] F ev T S hp) (h : f_X11_leg_33 N S = some (v, S')) : yWE ev.2.1 (xstr ev) (xCalls ev xmi (xprog ev) prim (d + 2)) (pX11_leg ev) (33, lv, [], hp, T.2.2.1, sl) (ypN [0, 1, 2, 3, 4, 5, 6, 7] F ev T0 (some (.int v)) S' 0) := by
  unfold f_X11_leg_33 at h
  refine ye_p rfl rfl ?_
  exact ye_ret rfl rfl (rN h hM hG)

def f_X11_leg_59 (N : Nat) (S : yS) : Option (Int32 × yS) := some ((-1), S)
set_option maxHeartbeats 4000000 in
set_option maxRecDepth 40000 in
theorem w_X11_leg_59 {F : xH} {ev : xEv} {prim : xRel} {d : Nat} {T0 : yT} {v : Int32} {S' : yS} (N : Nat) (S : yS) (T : yT) (sl : Nat) (hp : xH) (lv : xLv) (hG : yG T0 T sl 0) (hM : cR [0, 1, 2, 3, 4, 5, 6, 7] F ev T S hp) (h : f_X11_leg_59 N S = some (v, S')) : yWE ev.2.1 (xstr ev) (xCalls ev xmi (xprog ev) prim (d + 2)) (pX11_leg ev) (59, lv, [], hp, T.2.2.1, sl) (ypN [0, 1, 2, 3, 4, 5, 6, 7] F ev T0 (some (.int v)) S' 0) := by
  unfold f_X11_leg_59 at h
  refine ye_p rfl rfl ?_
  exact ye_ret rfl rfl (rN h hM hG)

def f_X11_leg_0 (N : Nat) (S : yS) (l1 : Int32) (l2 : Int32) (l3 : Int32) (l4 : Int32) : Option (Int32 × yS) := bV (f_X11_isField N S l1) fun w1 => if w1 = 0 then f_X11_leg_33 N S else bV (f_X11_isField N S l2) fun w2 => if w2 = 0 then f_X11_leg_33 N S else if l1 = l2 then f_X11_leg_33 N S else if (S.1 1 5) < 12 then bV (f_X11_within N S l3 10 400) fun w3 => if w3 = 0 then f_X11_leg_59 N S else bV (f_X11_within N S l4 0 150) fun w4 => if ¬ w4 = 0 then bS (f_X2_addLeg N S l1 l2 l3 l4) fun w5 S1 => some (w5, S1) else f_X11_leg_59 N S else f_X11_leg_33 N S
set_option maxHeartbeats 4000000 in
set_option maxRecDepth 40000 in
theorem w_X11_leg_0 {F : xH} {ev : xEv} {prim : xRel} {d : Nat} {T0 : yT} {v : Int32} {S' : yS} (N : Nat) (S : yS) (l1 : Int32) (l2 : Int32) (l3 : Int32) (l4 : Int32) (T : yT) (sl : Nat) (hp : xH) (lv : xLv) (a0 : Nat) (fa0 : yAt T 11 0 0 a0) (g0 : xG lv 0 = some (.ref a0)) (g1 : xG lv 1 = some (.int l1)) (g2 : xG lv 2 = some (.int l2)) (g3 : xG lv 3 = some (.int l3)) (g4 : xG lv 4 = some (.int l4)) (hG : yG T0 T sl 0) (hM : cR [0, 1, 2, 3, 4, 5, 6, 7] F ev T S hp) (h : f_X11_leg_0 N S l1 l2 l3 l4 = some (v, S')) : yWE ev.2.1 (xstr ev) (xCalls ev xmi (xprog ev) prim (d + 2)) (pX11_leg ev) (0, lv, [], hp, T.2.2.1, sl) (ypN [0, 1, 2, 3, 4, 5, 6, 7] F ev T0 (some (.int v)) S' 0) := by
  unfold f_X11_leg_0 at h
  refine ye_aload rfl g0 ?_
  refine ye_iload rfl g1 ?_
  obtain ⟨w1, hw1, h⟩ := bV_some h
  refine ye_callV (As := [.int l1]) (rest := []) 0 (Or.inl rfl) rfl rfl rfl (Nat.le_of_ble_eq_true rfl) (hM.obj fa0 ⟨rfl, rfl⟩) ((m_X11_isField (d := d + 0) (T := T) N S l1 a0 fa0 hw1) hp _ hM) ?_
  refine ye_if_eq rfl (fun h1 => ?_) (fun h1 => ?_)
  · replace h := yiT h1 h
    exact w_X11_leg_33 (prim := prim) (d := d) N S T sl hp lv hG hM h
  · replace h := yiN h1 h
    refine ye_aload rfl g0 ?_
    refine ye_iload rfl g2 ?_
    obtain ⟨w2, hw2, h⟩ := bV_some h
    refine ye_callV (As := [.int l2]) (rest := []) 0 (Or.inl rfl) rfl rfl rfl (Nat.le_of_ble_eq_true rfl) (hM.obj fa0 ⟨rfl, rfl⟩) ((m_X11_isField (d := d + 0) (T := T) N S l2 a0 fa0 hw2) hp _ hM) ?_
    refine ye_if_eq rfl (fun h2 => ?_) (fun h2 => ?_)
    · replace h := yiT h2 h
      exact w_X11_leg_33 (prim := prim) (d := d) N S T sl hp lv hG hM h
    · replace h := yiN h2 h
      refine ye_iload rfl g1 ?_
      refine ye_iload rfl g2 ?_
      refine ye_icmp_eq rfl (fun h3 => ?_) (fun h3 => ?_)
      · replace h := yiT h3 h
        exact w_X11_leg_33 (prim := prim) (d := d) N S T sl hp lv hG hM h
      · replace h := yiN h3 h
        refine ye_aload rfl g0 ?_
        refine ye_getr rfl (hM.obj fa0 ⟨rfl, rfl⟩) rfl (fun cx1 ecx1 => ?_)
        have fcx1 := hM.root 2 0 (by decide) rfl ecx1
        refine ye_getf rfl (hM.obj fcx1 ⟨rfl, rfl⟩) rfl ?_
        refine ye_p rfl rfl ?_
        refine ye_icmp_lt rfl (fun h4 => ?_) (fun h4 => ?_)
        · replace h := yiT h4 h
          refine ye_iload rfl g3 ?_
          refine ye_p rfl rfl ?_
          refine ye_p rfl rfl ?_
          obtain ⟨w3, hw3, h⟩ := bV_some h
          refine ye_callS (As := [.int l3, .int 10, .int 400]) (rest := []) 1 (Or.inl rfl) rfl rfl rfl (Nat.le_of_ble_eq_true rfl) ((m_X11_within (d := d + 1) (T := T) N S l3 10 400 hw3) hp _ hM) ?_
          refine ye_if_eq rfl (fun h5 => ?_) (fun h5 => ?_)
          · replace h := yiT h5 h
            exact w_X11_leg_59 (prim := prim) (d := d) N S T sl hp lv hG hM h
          · replace h := yiN h5 h
            refine ye_iload rfl g4 ?_
            refine ye_p rfl rfl ?_
            refine ye_p rfl rfl ?_
            obtain ⟨w4, hw4, h⟩ := bV_some h
            refine ye_callS (As := [.int l4, .int 0, .int 150]) (rest := []) 1 (Or.inl rfl) rfl rfl rfl (Nat.le_of_ble_eq_true rfl) ((m_X11_within (d := d + 1) (T := T) N S l4 0 150 hw4) hp _ hM) ?_
            refine ye_if_ne rfl (fun h6 => ?_) (fun h6 => ?_)
            · replace h := yiT h6 h
              refine ye_aload rfl g0 ?_
              refine ye_getr rfl (hM.obj fa0 ⟨rfl, rfl⟩) rfl (fun cx2 ecx2 => ?_)
              have fcx2 := hM.root 2 0 (by decide) rfl ecx2
              refine ye_iload rfl g1 ?_
              refine ye_iload rfl g2 ?_
              refine ye_iload rfl g3 ?_
              refine ye_iload rfl g4 ?_
              obtain ⟨w5, S1, hw5, h⟩ := bS_some h
              obtain ⟨y1, T1, ss1, cy1, M1, G1⟩ := (m_X2_addLeg (d := d + 0) (T := T) N S l1 l2 l3 l4 cx2 fcx2 hw5) hG.2.2.2.1 hp hM
              refine ye_callV (As := [.int l1, .int l2, .int l3, .int l4]) (rest := []) 0 (Or.inl rfl) rfl rfl rfl (Nat.le_of_ble_eq_true rfl) (hM.obj fcx2 ⟨rfl, rfl⟩) cy1 ?_
              have H1 := hG.tr G1
              exact ye_ret rfl rfl (rN h M1 H1)
            · replace h := yiN h6 h
              exact w_X11_leg_59 (prim := prim) (d := d) N S T sl hp lv hG hM h
        · replace h := yiN h4 h
          exact w_X11_leg_33 (prim := prim) (d := d) N S T sl hp lv hG hM h
def f_X11_leg (N : Nat) (S : yS) (xl1 : Int32) (xl2 : Int32) (xl3 : Int32) (xl4 : Int32) : Option (Int32 × yS) := f_X11_leg_0 N S xl1 xl2 xl3 xl4
theorem m_X11_leg {F : xH} {ev : xEv} {prim : xRel} {d : Nat} {T : yT} {v : Int32} {S' : yS} (N : Nat) (S : yS) (xl1 : Int32) (xl2 : Int32) (xl3 : Int32) (xl4 : Int32) (a0 : Nat) (fa0 : yAt T 11 0 0 a0) (h : f_X11_leg N S xl1 xl2 xl3 xl4 = some (v, S')) : ykN [0, 1, 2, 3, 4, 5, 6, 7] F ev prim (d + 3) 130 T S [.ref a0, .int xl1, .int xl2, .int xl3, .int xl4] (some (.int v)) S' 0 :=
  ykN.of (pg_130 ev) mi_130 (Nat.le_of_ble_eq_true rfl) (fun hz hp hM => w_X11_leg_0 (prim := prim) (d := d) N S xl1 xl2 xl3 xl4 T 0 hp _ a0 fa0 rfl rfl rfl rfl rfl (yG.rf hz 0) hM h)

def f_X11_plane_30 (N : Nat) (S : yS) : Option (Int32 × yS) := some ((-1), S)
set_option maxHeartbeats 4000000 in
set_option maxRecDepth 40000 in
theorem w_X11_plane_30 {F : xH} {ev : xEv} {prim : xRel} {d : Nat} {T0 : yT} {v : Int32} {S' : yS} (N : Nat) (S : yS) (T : yT) (sl : Nat) (hp : xH) (lv : xLv) (hG : yG T0 T sl 0) (hM : cR [0, 1, 2, 3, 4, 5, 6, 7] F ev T S hp) (h : f_X11_plane_30 N S = some (v, S')) : yWE ev.2.1 (xstr ev) (xCalls ev xmi (xprog ev) prim (d + 2)) (pX11_plane ev) (30, lv, [], hp, T.2.2.1, sl) (ypN [0, 1, 2, 3, 4, 5, 6, 7] F ev T0 (some (.int v)) S' 0) := by
  unfold f_X11_plane_30 at h
  refine ye_p rfl rfl ?_
  exact ye_ret rfl rfl (rN h hM hG)

def f_X11_plane_68 (N : Nat) (S : yS) : Option (Int32 × yS) := some ((-1), S)
set_option maxHeartbeats 4000000 in
set_option maxRecDepth 40000 in
theorem w_X11_plane_68 {F : xH} {ev : xEv} {prim : xRel} {d : Nat} {T0 : yT} {v : Int32} {S' : yS} (N : Nat) (S : yS) (T : yT) (sl : Nat) (hp : xH) (lv : xLv) (hG : yG T0 T sl 0) (hM : cR [0, 1, 2, 3, 4, 5, 6, 7] F ev T S hp) (h : f_X11_plane_68 N S = some (v, S')) : yWE ev.2.1 (xstr ev) (xCalls ev xmi (xprog ev) prim (d + 2)) (pX11_plane ev) (68, lv, [], hp, T.2.2.1, sl) (ypN [0, 1, 2, 3, 4, 5, 6, 7] F ev T0 (some (.int v)) S' 0) := by
  unfold f_X11_plane_68 at h
  refine ye_p rfl rfl ?_
  exact ye_ret rfl rfl (rN h hM hG)

def f_X11_plane_0 (N : Nat) (S : yS) (l1 : Int32) (l2 : Int32) (l3 : Int32) (l4 : Int32) (l5 : Int32) (l6 : Int32) : Option (Int32 × yS) := bV (f_X11_isField N S l1) fun w1 => if w1 = 0 then f_X11_plane_30 N S else bV (f_X11_within N S l2 5 60) fun w2 => if w2 = 0 then f_X11_plane_30 N S else bV (f_X11_within N S l3 50 3000) fun w3 => if ¬ w3 = 0 then bV (f_X11_within N S l4 20 250) fun w4 => if w4 = 0 then f_X11_plane_68 N S else bV (f_X11_within N S l5 1 60) fun w5 => if w5 = 0 then f_X11_plane_68 N S else if (S.1 2 5) < 8 then gP ((128 + (S.1 2 5).toNatClampNeg) < 640 ∧ 64 ≤ (128 + (S.1 2 5).toNatClampNeg) ∧ oc (128 + (S.1 2 5).toNatClampNeg) = 6 ∧ ¬ yRf S (128 + (S.1 2 5).toNatClampNeg) = 1 ∧ ¬ S.1 (128 + (S.1 2 5).toNatClampNeg) (yKs (oc (128 + (S.1 2 5).toNatClampNeg))) = 1) (gP (l6 = 0 ∨ l6 = 1) (sq (yNw S (128 + (S.1 2 5).toNatClampNeg) (fun k => ([l2, l3, l4, l5, l6, 0, 400, 0, l1, (-1), (-1), 0, 0, 0, 0, 0, (-1), (-1), 0, 0, 0] : List Int32).getD k 0)) fun S1 => gA 8 (S.1 2 5) fun j1 => gP ((128 + (S.1 2 5).toNatClampNeg) = 128 + j1) (sq (yA S1 2 4 (upd (S1.2.1 2 4) j1 1)) fun S2 => gP (yRf S2 (128 + (S.1 2 5).toNatClampNeg) = 1) (sq (yI S2 2 5 ((S2.1 2 5) + 1)) fun S3 => some (S2.1 2 5, S3))))) else f_X11_plane_68 N S else f_X11_plane_30 N S
set_option maxHeartbeats 4000000 in
set_option maxRecDepth 40000 in
theorem w_X11_plane_0 {F : xH} {ev : xEv} {prim : xRel} {d : Nat} {T0 : yT} {v : Int32} {S' : yS} (N : Nat) (S : yS) (l1 : Int32) (l2 : Int32) (l3 : Int32) (l4 : Int32) (l5 : Int32) (l6 : Int32) (T : yT) (sl : Nat) (hp : xH) (lv : xLv) (a0 : Nat) (fa0 : yAt T 11 0 0 a0) (g0 : xG lv 0 = some (.ref a0)) (g1 : xG lv 1 = some (.int l1)) (g2 : xG lv 2 = some (.int l2)) (g3 : xG lv 3 = some (.int l3)) (g4 : xG lv 4 = some (.int l4)) (g5 : xG lv 5 = some (.int l5)) (g6 : xG lv 6 = some (.int l6)) (hG : yG T0 T sl 0) (hM : cR [0, 1, 2, 3, 4, 5, 6, 7] F ev T S hp) (h : f_X11_plane_0 N S l1 l2 l3 l4 l5 l6 = some (v, S')) : yWE ev.2.1 (xstr ev) (xCalls ev xmi (xprog ev) prim (d + 2)) (pX11_plane ev) (0, lv, [], hp, T.2.2.1, sl) (ypN [0, 1, 2, 3, 4, 5, 6, 7] F ev T0 (some (.int v)) S' 0) := by
  unfold f_X11_plane_0 at h
  refine ye_aload rfl g0 ?_
  refine ye_iload rfl g1 ?_
  obtain ⟨w1, hw1, h⟩ := bV_some h
  refine ye_callV (As := [.int l1]) (rest := []) 0 (Or.inl rfl) rfl rfl rfl (Nat.le_of_ble_eq_true rfl) (hM.obj fa0 ⟨rfl, rfl⟩) ((m_X11_isField (d := d + 0) (T := T) N S l1 a0 fa0 hw1) hp _ hM) ?_
  refine ye_if_eq rfl (fun h1 => ?_) (fun h1 => ?_)
  · replace h := yiT h1 h
    exact w_X11_plane_30 (prim := prim) (d := d) N S T sl hp lv hG hM h
  · replace h := yiN h1 h
    refine ye_iload rfl g2 ?_
    refine ye_p rfl rfl ?_
    refine ye_p rfl rfl ?_
    obtain ⟨w2, hw2, h⟩ := bV_some h
    refine ye_callS (As := [.int l2, .int 5, .int 60]) (rest := []) 1 (Or.inl rfl) rfl rfl rfl (Nat.le_of_ble_eq_true rfl) ((m_X11_within (d := d + 1) (T := T) N S l2 5 60 hw2) hp _ hM) ?_
    refine ye_if_eq rfl (fun h2 => ?_) (fun h2 => ?_)
    · replace h := yiT h2 h
      exact w_X11_plane_30 (prim := prim) (d := d) N S T sl hp lv hG hM h
    · replace h := yiN h2 h
      refine ye_iload rfl g3 ?_
      refine ye_p rfl rfl ?_
      refine ye_p rfl rfl ?_
      obtain ⟨w3, hw3, h⟩ := bV_some h
      refine ye_callS (As := [.int l3, .int 50, .int 3000]) (rest := []) 1 (Or.inl rfl) rfl rfl rfl (Nat.le_of_ble_eq_true rfl) ((m_X11_within (d := d + 1) (T := T) N S l3 50 3000 hw3) hp _ hM) ?_
      refine ye_if_ne rfl (fun h3 => ?_) (fun h3 => ?_)
      · replace h := yiT h3 h
        refine ye_iload rfl g4 ?_
        refine ye_p rfl rfl ?_
        refine ye_p rfl rfl ?_
        obtain ⟨w4, hw4, h⟩ := bV_some h
        refine ye_callS (As := [.int l4, .int 20, .int 250]) (rest := []) 1 (Or.inl rfl) rfl rfl rfl (Nat.le_of_ble_eq_true rfl) ((m_X11_within (d := d + 1) (T := T) N S l4 20 250 hw4) hp _ hM) ?_
        refine ye_if_eq rfl (fun h4 => ?_) (fun h4 => ?_)
        · replace h := yiT h4 h
          exact w_X11_plane_68 (prim := prim) (d := d) N S T sl hp lv hG hM h
        · replace h := yiN h4 h
          refine ye_iload rfl g5 ?_
          refine ye_p rfl rfl ?_
          refine ye_p rfl rfl ?_
          obtain ⟨w5, hw5, h⟩ := bV_some h
          refine ye_callS (As := [.int l5, .int 1, .int 60]) (rest := []) 1 (Or.inl rfl) rfl rfl rfl (Nat.le_of_ble_eq_true rfl) ((m_X11_within (d := d + 1) (T := T) N S l5 1 60 hw5) hp _ hM) ?_
          refine ye_if_eq rfl (fun h5 => ?_) (fun h5 => ?_)
          · replace h := yiT h5 h
            exact w_X11_plane_68 (prim := prim) (d := d) N S T sl hp lv hG hM h
          · replace h := yiN h5 h
            refine ye_aload rfl g0 ?_
            refine ye_getr rfl (hM.obj fa0 ⟨rfl, rfl⟩) rfl (fun cx1 ecx1 => ?_)
            have fcx1 := hM.root 10 0 (by decide) rfl ecx1
            refine ye_getf rfl (hM.obj fcx1 ⟨rfl, rfl⟩) rfl ?_
            refine ye_p rfl rfl ?_
            refine ye_icmp_lt rfl (fun h6 => ?_) (fun h6 => ?_)
            · replace h := yiT h6 h
              refine ye_aload rfl g0 ?_
              refine ye_getr rfl (hM.obj fa0 ⟨rfl, rfl⟩) rfl (fun cx2 ecx2 => ?_)
              have fcx2 := hM.root 10 0 (by decide) rfl ecx2
              refine ye_getr rfl (hM.obj fcx2 ⟨rfl, rfl⟩) rfl (fun cx3 ecx3 => ?_)
              have fcx3 := yAt.row fcx2 ecx3
              refine ye_aload rfl g0 ?_
              refine ye_getr rfl (hM.obj fa0 ⟨rfl, rfl⟩) rfl (fun cx4 ecx4 => ?_)
              have fcx4 := hM.root 10 0 (by decide) rfl ecx4
              refine ye_getf rfl (hM.obj fcx4 ⟨rfl, rfl⟩) rfl ?_
              obtain ⟨i1, h⟩ := gP_some h
              refine yw_rawn rfl (fun y1 Ry1 Oy1 => ?_)
              have M1 := hM.fresh (hp1 := y1) (fun b hb => Oy1 b (by omega))
              refine ye_p rfl rfl ?_
              refine ye_iload rfl g1 ?_
              refine ye_iload rfl g2 ?_
              refine ye_iload rfl g3 ?_
              refine ye_iload rfl g4 ?_
              refine ye_iload rfl g5 ?_
              refine ye_iload rfl g6 ?_
              obtain ⟨i2, h⟩ := gP_some h
              obtain ⟨S1, eS1, h⟩ := sq_some h
              obtain ⟨y2, nz1, ss1, ad1, cy2, M2, F1, AF1, BF1, CF1, DF1⟩ := ct_6 (F := F) (ev := ev) (prim := prim) (d := d + 1) S (128 + (S.1 2 5).toNatClampNeg) l1 l2 l3 l4 l5 l6 i1.2.2.1 i2 hG.2.2.2.1 i1.2.1 i1.1 i1.2.2.2.1 i1.2.2.2.2 hp y1 hM Ry1 Oy1
              rw [← eS1] at M2
              refine ye_callV (As := [.int l1, .int l2, .int l3, .int l4, .int l5, .int l6]) (rest := [.ref T.2.2.1, .int (S.1 2 5), .ref cx3]) 2 (Or.inr rfl) rfl rfl rfl (Nat.le_of_ble_eq_true rfl) Ry1 cy2 ?_
              replace fa0 := fa0.tn (ad0 := ad1) (n' := nz1) F1
              replace fcx3 := fcx3.tn (ad0 := ad1) (n' := nz1) F1
              have fo1 : yAt (yTn T (128 + (S.1 2 5).toNatClampNeg) ad1 nz1) 6 (128 + (S.1 2 5).toNatClampNeg) 0 T.2.2.1 := yAt.nw i1.2.2.1 AF1
              obtain ⟨j1, ej1, ij1, h⟩ := gA_some h
              obtain ⟨i3, h⟩ := gP_some h
              obtain ⟨S2, eS2, h⟩ := sq_some h
              refine yw_aast rfl M2 fcx3 yr_10_4 (by decide) (yAt.eqv i3 fo1) rfl ⟨rfl, rfl⟩ ij1 ej1 eS2 (fun y3 M3 => ?_)
              obtain ⟨i4, h⟩ := gP_some h
              obtain ⟨T1, eT1⟩ : ∃ x, x = yUn (yTn T (128 + (S.1 2 5).toNatClampNeg) ad1 nz1) := ⟨_, rfl⟩
              have M4 := M3.unp (show yRf S2 (yTn T (128 + (S.1 2 5).toNatClampNeg) ad1 nz1).2.2.2 = 1 from i4)
              rw [← eT1] at M4
              have G1 : yG T T1 (21 + ss1) 0 := by rw [eT1]; exact yG.born F1 i1.1 BF1 CF1 DF1
              replace fa0 := yAt.un eT1 fa0
              rw [show nz1 = T1.2.2.1 from by rw [eT1]; rfl]
              have H1 := hG.tr3 G1
              refine ye_aload rfl g0 ?_
              refine ye_getr rfl (M4.obj fa0 ⟨rfl, rfl⟩) rfl (fun cx5 ecx5 => ?_)
              have fcx5 := M4.root 10 0 (by decide) rfl ecx5
              refine ye_p rfl rfl ?_
              refine ye_getf rfl (M4.obj fcx5 ⟨rfl, rfl⟩) rfl ?_
              refine ye_p rfl rfl ?_
              refine ye_p rfl rfl ?_
              refine ye_p rfl rfl ?_
              obtain ⟨S3, eS3, h⟩ := sq_some h
              refine yw_putI rfl M4 fcx5 rfl ⟨rfl, rfl⟩ (Nat.le_of_ble_eq_true rfl) rfl rfl (ys_10_5 ev _ _ ((S2.1 2 5) + 1)) (fun q => absurd q (by decide)) eS3 (fun y4 M5 => ?_)
              exact ye_ret rfl rfl (rN h M5 H1)
            · replace h := yiN h6 h
              exact w_X11_plane_68 (prim := prim) (d := d) N S T sl hp lv hG hM h
      · replace h := yiN h3 h
        exact w_X11_plane_30 (prim := prim) (d := d) N S T sl hp lv hG hM h
def f_X11_plane (N : Nat) (S : yS) (xl1 : Int32) (xl2 : Int32) (xl3 : Int32) (xl4 : Int32) (xl5 : Int32) (xl6 : Int32) : Option (Int32 × yS) := f_X11_plane_0 N S xl1 xl2 xl3 xl4 xl5 xl6
theorem m_X11_plane {F : xH} {ev : xEv} {prim : xRel} {d : Nat} {T : yT} {v : Int32} {S' : yS} (N : Nat) (S : yS) (xl1 : Int32) (xl2 : Int32) (xl3 : Int32) (xl4 : Int32) (xl5 : Int32) (xl6 : Int32) (a0 : Nat) (fa0 : yAt T 11 0 0 a0) (h : f_X11_plane N S xl1 xl2 xl3 xl4 xl5 xl6 = some (v, S')) : ykN [0, 1, 2, 3, 4, 5, 6, 7] F ev prim (d + 3) 137 T S [.ref a0, .int xl1, .int xl2, .int xl3, .int xl4, .int xl5, .int xl6] (some (.int v)) S' 0 :=
  ykN.of (pg_137 ev) mi_137 (Nat.le_of_ble_eq_true rfl) (fun hz hp hM => w_X11_plane_0 (prim := prim) (d := d) N S xl1 xl2 xl3 xl4 xl5 xl6 T 0 hp _ a0 fa0 rfl rfl rfl rfl rfl rfl rfl (yG.rf hz 0) hM h)

def f_X11_pilot_41 (N : Nat) (S : yS) : Option (Int32 × yS) := some ((-1), S)
set_option maxHeartbeats 4000000 in
set_option maxRecDepth 40000 in
theorem w_X11_pilot_41 {F : xH} {ev : xEv} {prim : xRel} {d : Nat} {T0 : yT} {v : Int32} {S' : yS} (N : Nat) (S : yS) (T : yT) (sl : Nat) (hp : xH) (lv : xLv) (hG : yG T0 T sl 0) (hM : cR [0, 1, 2, 3, 4, 5, 6, 7] F ev T S hp) (h : f_X11_pilot_41 N S = some (v, S')) : yWE ev.2.1 (xstr ev) (xCalls ev xmi (xprog ev) prim (d + 2)) (pX11_pilot ev) (41, lv, [], hp, T.2.2.1, sl) (ypN [0, 1, 2, 3, 4, 5, 6, 7] F ev T0 (some (.int v)) S' 0) := by
  unfold f_X11_pilot_41 at h
  refine ye_p rfl rfl ?_
  exact ye_ret rfl rfl (rN h hM hG)

def f_X11_pilot_0 (N : Nat) (S : yS) (l1 : Int32) (l2 : Int32) : Option (Int32 × yS) := bV (f_X11_isField N S l1) fun w1 => if w1 = 0 then f_X11_pilot_41 N S else bV (f_X11_within N S l2 0 ((1 <<< ((S.1 1 5) &&& 31)) - 1)) fun w2 => if w2 = 0 then f_X11_pilot_41 N S else if (S.1 2 7) < 8 then gP ((256 + (S.1 2 7).toNatClampNeg) < 640 ∧ 64 ≤ (256 + (S.1 2 7).toNatClampNeg) ∧ oc (256 + (S.1 2 7).toNatClampNeg) = 5 ∧ ¬ yRf S (256 + (S.1 2 7).toNatClampNeg) = 1 ∧ ¬ S.1 (256 + (S.1 2 7).toNatClampNeg) (yKs (oc (256 + (S.1 2 7).toNatClampNeg))) = 1) (sq (yNw S (256 + (S.1 2 7).toNatClampNeg) (fun k => ([l1, (-1), 0, l2, 0] : List Int32).getD k 0)) fun S1 => gA 8 (S.1 2 7) fun j1 => gP ((256 + (S.1 2 7).toNatClampNeg) = 256 + j1) (sq (yA S1 2 6 (upd (S1.2.1 2 6) j1 1)) fun S2 => gP (yRf S2 (256 + (S.1 2 7).toNatClampNeg) = 1) (sq (yI S2 2 7 ((S2.1 2 7) + 1)) fun S3 => some (S2.1 2 7, S3)))) else f_X11_pilot_41 N S
set_option maxHeartbeats 4000000 in
set_option maxRecDepth 40000 in
theorem w_X11_pilot_0 {F : xH} {ev : xEv} {prim : xRel} {d : Nat} {T0 : yT} {v : Int32} {S' : yS} (N : Nat) (S : yS) (l1 : Int32) (l2 : Int32) (T : yT) (sl : Nat) (hp : xH) (lv : xLv) (a0 : Nat) (fa0 : yAt T 11 0 0 a0) (g0 : xG lv 0 = some (.ref a0)) (g1 : xG lv 1 = some (.int l1)) (g2 : xG lv 2 = some (.int l2)) (hG : yG T0 T sl 0) (hM : cR [0, 1, 2, 3, 4, 5, 6, 7] F ev T S hp) (h : f_X11_pilot_0 N S l1 l2 = some (v, S')) : yWE ev.2.1 (xstr ev) (xCalls ev xmi (xprog ev) prim (d + 2)) (pX11_pilot ev) (0, lv, [], hp, T.2.2.1, sl) (ypN [0, 1, 2, 3, 4, 5, 6, 7] F ev T0 (some (.int v)) S' 0) := by
  unfold f_X11_pilot_0 at h
  refine ye_p rfl rfl ?_
  refine ye_aload rfl g0 ?_
  refine ye_getr rfl (hM.obj fa0 ⟨rfl, rfl⟩) rfl (fun cx1 ecx1 => ?_)
  have fcx1 := hM.root 2 0 (by decide) rfl ecx1
  refine ye_getf rfl (hM.obj fcx1 ⟨rfl, rfl⟩) rfl ?_
  refine ye_p rfl rfl ?_
  refine ye_p rfl rfl ?_
  refine ye_p rfl rfl ?_
  refine ye_p rfl rfl ?_
  have g0_z1 := xG_o1 (i := 3) (v := .int ((1 <<< ((S.1 1 5) &&& 31)) - 1)) g0 rfl
  have g1_z1 := xG_o1 (i := 3) (v := .int ((1 <<< ((S.1 1 5) &&& 31)) - 1)) g1 rfl
  have g2_z1 := xG_o1 (i := 3) (v := .int ((1 <<< ((S.1 1 5) &&& 31)) - 1)) g2 rfl
  have g3_z1 := xG_same lv 3 (.int ((1 <<< ((S.1 1 5) &&& 31)) - 1))
  generalize xSt1 lv 3 (.int ((1 <<< ((S.1 1 5) &&& 31)) - 1)) = lvz1 at g0_z1 g1_z1 g2_z1 g3_z1 ⊢
  refine ye_aload rfl g0_z1 ?_
  refine ye_iload rfl g1_z1 ?_
  obtain ⟨w1, hw1, h⟩ := bV_some h
  refine ye_callV (As := [.int l1]) (rest := []) 0 (Or.inl rfl) rfl rfl rfl (Nat.le_of_ble_eq_true rfl) (hM.obj fa0 ⟨rfl, rfl⟩) ((m_X11_isField (d := d + 0) (T := T) N S l1 a0 fa0 hw1) hp _ hM) ?_
  refine ye_if_eq rfl (fun h1 => ?_) (fun h1 => ?_)
  · replace h := yiT h1 h
    exact w_X11_pilot_41 (prim := prim) (d := d) N S T sl hp lvz1 hG hM h
  · replace h := yiN h1 h
    refine ye_iload rfl g2_z1 ?_
    refine ye_p rfl rfl ?_
    refine ye_iload rfl g3_z1 ?_
    obtain ⟨w2, hw2, h⟩ := bV_some h
    refine ye_callS (As := [.int l2, .int 0, .int ((1 <<< ((S.1 1 5) &&& 31)) - 1)]) (rest := []) 1 (Or.inl rfl) rfl rfl rfl (Nat.le_of_ble_eq_true rfl) ((m_X11_within (d := d + 1) (T := T) N S l2 0 ((1 <<< ((S.1 1 5) &&& 31)) - 1) hw2) hp _ hM) ?_
    refine ye_if_eq rfl (fun h2 => ?_) (fun h2 => ?_)
    · replace h := yiT h2 h
      exact w_X11_pilot_41 (prim := prim) (d := d) N S T sl hp lvz1 hG hM h
    · replace h := yiN h2 h
      refine ye_aload rfl g0_z1 ?_
      refine ye_getr rfl (hM.obj fa0 ⟨rfl, rfl⟩) rfl (fun cx2 ecx2 => ?_)
      have fcx2 := hM.root 10 0 (by decide) rfl ecx2
      refine ye_getf rfl (hM.obj fcx2 ⟨rfl, rfl⟩) rfl ?_
      refine ye_p rfl rfl ?_
      refine ye_icmp_lt rfl (fun h3 => ?_) (fun h3 => ?_)
      · replace h := yiT h3 h
        refine ye_aload rfl g0_z1 ?_
        refine ye_getr rfl (hM.obj fa0 ⟨rfl, rfl⟩) rfl (fun cx3 ecx3 => ?_)
        have fcx3 := hM.root 10 0 (by decide) rfl ecx3
        refine ye_getr rfl (hM.obj fcx3 ⟨rfl, rfl⟩) rfl (fun cx4 ecx4 => ?_)
        have fcx4 := yAt.row fcx3 ecx4
        refine ye_aload rfl g0_z1 ?_
        refine ye_getr rfl (hM.obj fa0 ⟨rfl, rfl⟩) rfl (fun cx5 ecx5 => ?_)
        have fcx5 := hM.root 10 0 (by decide) rfl ecx5
        refine ye_getf rfl (hM.obj fcx5 ⟨rfl, rfl⟩) rfl ?_
        obtain ⟨i1, h⟩ := gP_some h
        refine yw_rawn rfl (fun y1 Ry1 Oy1 => ?_)
        have M1 := hM.fresh (hp1 := y1) (fun b hb => Oy1 b (by omega))
        refine ye_p rfl rfl ?_
        refine ye_iload rfl g1_z1 ?_
        refine ye_iload rfl g2_z1 ?_
        obtain ⟨S1, eS1, h⟩ := sq_some h
        obtain ⟨y2, nz1, ss1, ad1, cy2, M2, F1, AF1, BF1, CF1, DF1⟩ := ct_5 (F := F) (ev := ev) (prim := prim) (d := d + 1) S (256 + (S.1 2 7).toNatClampNeg) l1 l2 i1.2.2.1 hG.2.2.2.1 i1.2.1 i1.1 i1.2.2.2.1 i1.2.2.2.2 hp y1 hM Ry1 Oy1
        rw [← eS1] at M2
        refine ye_callV (As := [.int l1, .int l2]) (rest := [.ref T.2.2.1, .int (S.1 2 7), .ref cx4]) 2 (Or.inr rfl) rfl rfl rfl (Nat.le_of_ble_eq_true rfl) Ry1 cy2 ?_
        replace fa0 := fa0.tn (ad0 := ad1) (n' := nz1) F1
        replace fcx4 := fcx4.tn (ad0 := ad1) (n' := nz1) F1
        have fo1 : yAt (yTn T (256 + (S.1 2 7).toNatClampNeg) ad1 nz1) 5 (256 + (S.1 2 7).toNatClampNeg) 0 T.2.2.1 := yAt.nw i1.2.2.1 AF1
        obtain ⟨j1, ej1, ij1, h⟩ := gA_some h
        obtain ⟨i2, h⟩ := gP_some h
        obtain ⟨S2, eS2, h⟩ := sq_some h
        refine yw_aast rfl M2 fcx4 yr_10_6 (by decide) (yAt.eqv i2 fo1) rfl ⟨rfl, rfl⟩ ij1 ej1 eS2 (fun y3 M3 => ?_)
        obtain ⟨i3, h⟩ := gP_some h
        obtain ⟨T1, eT1⟩ : ∃ x, x = yUn (yTn T (256 + (S.1 2 7).toNatClampNeg) ad1 nz1) := ⟨_, rfl⟩
        have M4 := M3.unp (show yRf S2 (yTn T (256 + (S.1 2 7).toNatClampNeg) ad1 nz1).2.2.2 = 1 from i3)
        rw [← eT1] at M4
        have G1 : yG T T1 (5 + ss1) 0 := by rw [eT1]; exact yG.born F1 i1.1 BF1 CF1 DF1
        replace fa0 := yAt.un eT1 fa0
        rw [show nz1 = T1.2.2.1 from by rw [eT1]; rfl]
        have H1 := hG.tr3 G1
        refine ye_aload rfl g0_z1 ?_
        refine ye_getr rfl (M4.obj fa0 ⟨rfl, rfl⟩) rfl (fun cx6 ecx6 => ?_)
        have fcx6 := M4.root 10 0 (by decide) rfl ecx6
        refine ye_p rfl rfl ?_
        refine ye_getf rfl (M4.obj fcx6 ⟨rfl, rfl⟩) rfl ?_
        refine ye_p rfl rfl ?_
        refine ye_p rfl rfl ?_
        refine ye_p rfl rfl ?_
        obtain ⟨S3, eS3, h⟩ := sq_some h
        refine yw_putI rfl M4 fcx6 rfl ⟨rfl, rfl⟩ (Nat.le_of_ble_eq_true rfl) rfl rfl (ys_10_7 ev _ _ ((S2.1 2 7) + 1)) (fun q => absurd q (by decide)) eS3 (fun y4 M5 => ?_)
        exact ye_ret rfl rfl (rN h M5 H1)
      · replace h := yiN h3 h
        exact w_X11_pilot_41 (prim := prim) (d := d) N S T sl hp lvz1 hG hM h
def f_X11_pilot (N : Nat) (S : yS) (xl1 : Int32) (xl2 : Int32) : Option (Int32 × yS) := f_X11_pilot_0 N S xl1 xl2
theorem m_X11_pilot {F : xH} {ev : xEv} {prim : xRel} {d : Nat} {T : yT} {v : Int32} {S' : yS} (N : Nat) (S : yS) (xl1 : Int32) (xl2 : Int32) (a0 : Nat) (fa0 : yAt T 11 0 0 a0) (h : f_X11_pilot N S xl1 xl2 = some (v, S')) : ykN [0, 1, 2, 3, 4, 5, 6, 7] F ev prim (d + 3) 139 T S [.ref a0, .int xl1, .int xl2] (some (.int v)) S' 0 :=
  ykN.of (pg_139 ev) mi_139 (Nat.le_of_ble_eq_true rfl) (fun hz hp hM => w_X11_pilot_0 (prim := prim) (d := d) N S xl1 xl2 T 0 hp _ a0 fa0 rfl rfl rfl (yG.rf hz 0) hM h)

def f_X11_bag_32 (N : Nat) (S : yS) : Option (Int32 × yS) := some ((-1), S)
set_option maxHeartbeats 4000000 in
set_option maxRecDepth 40000 in
theorem w_X11_bag_32 {F : xH} {ev : xEv} {prim : xRel} {d : Nat} {T0 : yT} {v : Int32} {S' : yS} (N : Nat) (S : yS) (T : yT) (sl : Nat) (hp : xH) (lv : xLv) (hG : yG T0 T sl 0) (hM : cR [0, 1, 2, 3, 4, 5, 6, 7] F ev T S hp) (h : f_X11_bag_32 N S = some (v, S')) : yWE ev.2.1 (xstr ev) (xCalls ev xmi (xprog ev) prim (d + 2)) (pX11_bag ev) (32, lv, [], hp, T.2.2.1, sl) (ypN [0, 1, 2, 3, 4, 5, 6, 7] F ev T0 (some (.int v)) S' 0) := by
  unfold f_X11_bag_32 at h
  refine ye_p rfl rfl ?_
  exact ye_ret rfl rfl (rN h hM hG)

def f_X11_bag_65 (N : Nat) (S : yS) : Option (Int32 × yS) := some ((-1), S)
set_option maxHeartbeats 4000000 in
set_option maxRecDepth 40000 in
theorem w_X11_bag_65 {F : xH} {ev : xEv} {prim : xRel} {d : Nat} {T0 : yT} {v : Int32} {S' : yS} (N : Nat) (S : yS) (T : yT) (sl : Nat) (hp : xH) (lv : xLv) (hG : yG T0 T sl 0) (hM : cR [0, 1, 2, 3, 4, 5, 6, 7] F ev T S hp) (h : f_X11_bag_65 N S = some (v, S')) : yWE ev.2.1 (xstr ev) (xCalls ev xmi (xprog ev) prim (d + 2)) (pX11_bag ev) (65, lv, [], hp, T.2.2.1, sl) (ypN [0, 1, 2, 3, 4, 5, 6, 7] F ev T0 (some (.int v)) S' 0) := by
  unfold f_X11_bag_65 at h
  refine ye_p rfl rfl ?_
  exact ye_ret rfl rfl (rN h hM hG)

def f_X11_bag_0 (N : Nat) (S : yS) (l1 : Int32) (l2 : Int32) (l3 : Int32) (l4 : Int32) (l5 : Int32) : Option (Int32 × yS) := bV (f_X11_isField N S l1) fun w1 => if w1 = 0 then f_X11_bag_32 N S else bV (f_X11_isField N S l2) fun w2 => if w2 = 0 then f_X11_bag_32 N S else if l1 = l2 then f_X11_bag_32 N S else bV (f_X11_within N S l3 1 500) fun w3 => if ¬ w3 = 0 then bV (f_X11_within N S l4 0 9) fun w4 => if w4 = 0 then f_X11_bag_65 N S else bV (f_X11_isQuarter N S l5) fun w5 => if w5 = 0 then f_X11_bag_65 N S else if (S.1 2 9) < 30 then bV (f_X2_milesBetween N S l1 l2) fun w6 => if w6 < 1000000 then gP ((384 + (S.1 2 9).toNatClampNeg) < 640 ∧ 64 ≤ (384 + (S.1 2 9).toNatClampNeg) ∧ oc (384 + (S.1 2 9).toNatClampNeg) = 0 ∧ ¬ yRf S (384 + (S.1 2 9).toNatClampNeg) = 1 ∧ ¬ S.1 (384 + (S.1 2 9).toNatClampNeg) (yKs (oc (384 + (S.1 2 9).toNatClampNeg))) = 1) (sq (yNw S (384 + (S.1 2 9).toNatClampNeg) (fun k => ([l1, l2, l3, l4, l5, l1, (-1), (-1), (-1), 0, 0, 0] : List Int32).getD k 0)) fun S1 => bS (f_X10_addBag N S1 ((384 + (S.1 2 9).toNatClampNeg))) fun w7 S2 => gP (yRf S2 (384 + (S.1 2 9).toNatClampNeg) = 1) (some (w7, S2))) else some ((-1), S) else f_X11_bag_65 N S else f_X11_bag_32 N S
set_option maxHeartbeats 4000000 in
set_option maxRecDepth 40000 in
theorem w_X11_bag_0 {F : xH} {ev : xEv} {prim : xRel} {d : Nat} {T0 : yT} {v : Int32} {S' : yS} (N : Nat) (S : yS) (l1 : Int32) (l2 : Int32) (l3 : Int32) (l4 : Int32) (l5 : Int32) (T : yT) (sl : Nat) (hp : xH) (lv : xLv) (a0 : Nat) (fa0 : yAt T 11 0 0 a0) (g0 : xG lv 0 = some (.ref a0)) (g1 : xG lv 1 = some (.int l1)) (g2 : xG lv 2 = some (.int l2)) (g3 : xG lv 3 = some (.int l3)) (g4 : xG lv 4 = some (.int l4)) (g5 : xG lv 5 = some (.int l5)) (hG : yG T0 T sl 0) (hM : cR [0, 1, 2, 3, 4, 5, 6, 7] F ev T S hp) (h : f_X11_bag_0 N S l1 l2 l3 l4 l5 = some (v, S')) : yWE ev.2.1 (xstr ev) (xCalls ev xmi (xprog ev) prim (d + 2)) (pX11_bag ev) (0, lv, [], hp, T.2.2.1, sl) (ypN [0, 1, 2, 3, 4, 5, 6, 7] F ev T0 (some (.int v)) S' 0) := by
  unfold f_X11_bag_0 at h
  refine ye_aload rfl g0 ?_
  refine ye_iload rfl g1 ?_
  obtain ⟨w1, hw1, h⟩ := bV_some h
  refine ye_callV (As := [.int l1]) (rest := []) 0 (Or.inl rfl) rfl rfl rfl (Nat.le_of_ble_eq_true rfl) (hM.obj fa0 ⟨rfl, rfl⟩) ((m_X11_isField (d := d + 0) (T := T) N S l1 a0 fa0 hw1) hp _ hM) ?_
  refine ye_if_eq rfl (fun h1 => ?_) (fun h1 => ?_)
  · replace h := yiT h1 h
    exact w_X11_bag_32 (prim := prim) (d := d) N S T sl hp lv hG hM h
  · replace h := yiN h1 h
    refine ye_aload rfl g0 ?_
    refine ye_iload rfl g2 ?_
    obtain ⟨w2, hw2, h⟩ := bV_some h
    refine ye_callV (As := [.int l2]) (rest := []) 0 (Or.inl rfl) rfl rfl rfl (Nat.le_of_ble_eq_true rfl) (hM.obj fa0 ⟨rfl, rfl⟩) ((m_X11_isField (d := d + 0) (T := T) N S l2 a0 fa0 hw2) hp _ hM) ?_
    refine ye_if_eq rfl (fun h2 => ?_) (fun h2 => ?_)
    · replace h := yiT h2 h
      exact w_X11_bag_32 (prim := prim) (d := d) N S T sl hp lv hG hM h
    · replace h := yiN h2 h
      refine ye_iload rfl g1 ?_
      refine ye_iload rfl g2 ?_
      refine ye_icmp_eq rfl (fun h3 => ?_) (fun h3 => ?_)
      · replace h := yiT h3 h
        exact w_X11_bag_32 (prim := prim) (d := d) N S T sl hp lv hG hM h
      · replace h := yiN h3 h
        refine ye_iload rfl g3 ?_
        refine ye_p rfl rfl ?_
        refine ye_p rfl rfl ?_
        obtain ⟨w3, hw3, h⟩ := bV_some h
        refine ye_callS (As := [.int l3, .int 1, .int 500]) (rest := []) 1 (Or.inl rfl) rfl rfl rfl (Nat.le_of_ble_eq_true rfl) ((m_X11_within (d := d + 1) (T := T) N S l3 1 500 hw3) hp _ hM) ?_
        refine ye_if_ne rfl (fun h4 => ?_) (fun h4 => ?_)
        · replace h := yiT h4 h
          refine ye_iload rfl g4 ?_
          refine ye_p rfl rfl ?_
          refine ye_p rfl rfl ?_
          obtain ⟨w4, hw4, h⟩ := bV_some h
          refine ye_callS (As := [.int l4, .int 0, .int 9]) (rest := []) 1 (Or.inl rfl) rfl rfl rfl (Nat.le_of_ble_eq_true rfl) ((m_X11_within (d := d + 1) (T := T) N S l4 0 9 hw4) hp _ hM) ?_
          refine ye_if_eq rfl (fun h5 => ?_) (fun h5 => ?_)
          · replace h := yiT h5 h
            exact w_X11_bag_65 (prim := prim) (d := d) N S T sl hp lv hG hM h
          · replace h := yiN h5 h
            refine ye_iload rfl g5 ?_
            obtain ⟨w5, hw5, h⟩ := bV_some h
            refine ye_callS (As := [.int l5]) (rest := []) 1 (Or.inl rfl) rfl rfl rfl (Nat.le_of_ble_eq_true rfl) ((m_X11_isQuarter (d := d + 0) (T := T) N S l5 hw5) hp _ hM) ?_
            refine ye_if_eq rfl (fun h6 => ?_) (fun h6 => ?_)
            · replace h := yiT h6 h
              exact w_X11_bag_65 (prim := prim) (d := d) N S T sl hp lv hG hM h
            · replace h := yiN h6 h
              refine ye_aload rfl g0 ?_
              refine ye_getr rfl (hM.obj fa0 ⟨rfl, rfl⟩) rfl (fun cx1 ecx1 => ?_)
              have fcx1 := hM.root 10 0 (by decide) rfl ecx1
              refine ye_getf rfl (hM.obj fcx1 ⟨rfl, rfl⟩) rfl ?_
              refine ye_p rfl rfl ?_
              refine ye_icmp_lt rfl (fun h7 => ?_) (fun h7 => ?_)
              · replace h := yiT h7 h
                refine ye_aload rfl g0 ?_
                refine ye_getr rfl (hM.obj fa0 ⟨rfl, rfl⟩) rfl (fun cx2 ecx2 => ?_)
                have fcx2 := hM.root 2 0 (by decide) rfl ecx2
                refine ye_iload rfl g1 ?_
                refine ye_iload rfl g2 ?_
                obtain ⟨w6, hw6, h⟩ := bV_some h
                refine ye_callV (As := [.int l1, .int l2]) (rest := []) 0 (Or.inl rfl) rfl rfl rfl (Nat.le_of_ble_eq_true rfl) (hM.obj fcx2 ⟨rfl, rfl⟩) ((m_X2_milesBetween (d := d + 1) (T := T) N S l1 l2 cx2 fcx2 hw6) hp _ hM) ?_
                refine ye_p rfl rfl ?_
                refine ye_icmp_lt rfl (fun h8 => ?_) (fun h8 => ?_)
                · replace h := yiT h8 h
                  refine ye_aload rfl g0 ?_
                  refine ye_getr rfl (hM.obj fa0 ⟨rfl, rfl⟩) rfl (fun cx3 ecx3 => ?_)
                  have fcx3 := hM.root 10 0 (by decide) rfl ecx3
                  obtain ⟨i1, h⟩ := gP_some h
                  refine yw_rawn rfl (fun y1 Ry1 Oy1 => ?_)
                  have M1 := hM.fresh (hp1 := y1) (fun b hb => Oy1 b (by omega))
                  refine ye_p rfl rfl ?_
                  refine ye_iload rfl g1 ?_
                  refine ye_iload rfl g2 ?_
                  refine ye_iload rfl g3 ?_
                  refine ye_iload rfl g4 ?_
                  refine ye_iload rfl g5 ?_
                  obtain ⟨S1, eS1, h⟩ := sq_some h
                  obtain ⟨y2, nz1, ss1, ad1, cy2, M2, F1, AF1, BF1, CF1, DF1⟩ := ct_0 (F := F) (ev := ev) (prim := prim) (d := d + 1) S (384 + (S.1 2 9).toNatClampNeg) l1 l2 l3 l4 l5 i1.2.2.1 hG.2.2.2.1 i1.2.1 i1.1 i1.2.2.2.1 i1.2.2.2.2 hp y1 hM Ry1 Oy1
                  rw [← eS1] at M2
                  refine ye_callV (As := [.int l1, .int l2, .int l3, .int l4, .int l5]) (rest := [.ref T.2.2.1, .ref cx3]) 2 (Or.inr rfl) rfl rfl rfl (Nat.le_of_ble_eq_true rfl) Ry1 cy2 ?_
                  replace fcx3 := fcx3.tn (ad0 := ad1) (n' := nz1) F1
                  have fo1 : yAt (yTn T (384 + (S.1 2 9).toNatClampNeg) ad1 nz1) 0 (384 + (S.1 2 9).toNatClampNeg) 0 T.2.2.1 := yAt.nw i1.2.2.1 AF1
                  obtain ⟨w7, S2, hw7, h⟩ := bS_some h
                  obtain ⟨y3, cy3, M3⟩ := (m_X10_addBag (d := d + 0) (T := (yTn T (384 + (S.1 2 9).toNatClampNeg) ad1 nz1)) N S1 ((384 + (S.1 2 9).toNatClampNeg)) cx3 T.2.2.1 fcx3 fo1 hw7) y2 _ M2
                  refine ye_callV (As := [.ref T.2.2.1]) (rest := []) 0 (Or.inl rfl) rfl rfl rfl (Nat.le_of_ble_eq_true rfl) (M2.obj fcx3 ⟨rfl, rfl⟩) cy3 ?_
                  obtain ⟨i2, h⟩ := gP_some h
                  obtain ⟨T1, eT1⟩ : ∃ x, x = yUn (yTn T (384 + (S.1 2 9).toNatClampNeg) ad1 nz1) := ⟨_, rfl⟩
                  have M4 := M3.unp (show yRf S2 (yTn T (384 + (S.1 2 9).toNatClampNeg) ad1 nz1).2.2.2 = 1 from i2)
                  rw [← eT1] at M4
                  have G1 : yG T T1 (12 + ss1) 0 := by rw [eT1]; exact yG.born F1 i1.1 BF1 CF1 DF1
                  rw [show nz1 = T1.2.2.1 from by rw [eT1]; rfl]
                  have H1 := hG.tr3 G1
                  exact ye_ret rfl rfl (rN h M4 H1)
                · replace h := yiN h8 h
                  refine ye_p rfl rfl ?_
                  exact ye_ret rfl rfl (rN h hM hG)
              · replace h := yiN h7 h
                exact w_X11_bag_65 (prim := prim) (d := d) N S T sl hp lv hG hM h
        · replace h := yiN h4 h
          exact w_X11_bag_32 (prim := prim) (d := d) N S T sl hp lv hG hM h
def f_X11_bag (N : Nat) (S : yS) (xl1 : Int32) (xl2 : Int32) (xl3 : Int32) (xl4 : Int32) (xl5 : Int32) : Option (Int32 × yS) := f_X11_bag_0 N S xl1 xl2 xl3 xl4 xl5
theorem m_X11_bag {F : xH} {ev : xEv} {prim : xRel} {d : Nat} {T : yT} {v : Int32} {S' : yS} (N : Nat) (S : yS) (xl1 : Int32) (xl2 : Int32) (xl3 : Int32) (xl4 : Int32) (xl5 : Int32) (a0 : Nat) (fa0 : yAt T 11 0 0 a0) (h : f_X11_bag N S xl1 xl2 xl3 xl4 xl5 = some (v, S')) : ykN [0, 1, 2, 3, 4, 5, 6, 7] F ev prim (d + 3) 141 T S [.ref a0, .int xl1, .int xl2, .int xl3, .int xl4, .int xl5] (some (.int v)) S' 0 :=
  ykN.of (pg_141 ev) mi_141 (Nat.le_of_ble_eq_true rfl) (fun hz hp hM => w_X11_bag_0 (prim := prim) (d := d) N S xl1 xl2 xl3 xl4 xl5 T 0 hp _ a0 fa0 rfl rfl rfl rfl rfl rfl (yG.rf hz 0) hM h)

def f_X11_flight_24 (N : Nat) (S : yS) : Option (Int32 × yS) := some ((-1), S)
set_option maxHeartbeats 4000000 in
set_option maxRecDepth 40000 in
theorem w_X11_flight_24 {F : xH} {ev : xEv} {prim : xRel} {d : Nat} {T0 : yT} {v : Int32} {S' : yS} (N : Nat) (S : yS) (T : yT) (sl : Nat) (hp : xH) (lv : xLv) (hG : yG T0 T sl 0) (hM : cR [0, 1, 2, 3, 4, 5, 6, 7] F ev T S hp) (h : f_X11_flight_24 N S = some (v, S')) : yWE ev.2.1 (xstr ev) (xCalls ev xmi (xprog ev) prim (d + 2)) (pX11_flight ev) (24, lv, [], hp, T.2.2.1, sl) (ypN [0, 1, 2, 3, 4, 5, 6, 7] F ev T0 (some (.int v)) S' 0) := by
  unfold f_X11_flight_24 at h
  refine ye_p rfl rfl ?_
  exact ye_ret rfl rfl (rN h hM hG)

def f_X11_flight_56 (N : Nat) (S : yS) : Option (Int32 × yS) := some ((-1), S)
set_option maxHeartbeats 4000000 in
set_option maxRecDepth 40000 in
theorem w_X11_flight_56 {F : xH} {ev : xEv} {prim : xRel} {d : Nat} {T0 : yT} {v : Int32} {S' : yS} (N : Nat) (S : yS) (T : yT) (sl : Nat) (hp : xH) (lv : xLv) (hG : yG T0 T sl 0) (hM : cR [0, 1, 2, 3, 4, 5, 6, 7] F ev T S hp) (h : f_X11_flight_56 N S = some (v, S')) : yWE ev.2.1 (xstr ev) (xCalls ev xmi (xprog ev) prim (d + 2)) (pX11_flight ev) (56, lv, [], hp, T.2.2.1, sl) (ypN [0, 1, 2, 3, 4, 5, 6, 7] F ev T0 (some (.int v)) S' 0) := by
  unfold f_X11_flight_56 at h
  refine ye_p rfl rfl ?_
  exact ye_ret rfl rfl (rN h hM hG)

def f_X11_flight_0 (N : Nat) (S : yS) (l1 : Int32) (l2 : Int32) (l3 : Int32) (l4 : Int32) : Option (Int32 × yS) := bV (f_X11_isPlane N S l1) fun w1 => if w1 = 0 then f_X11_flight_24 N S else bV (f_X11_isPilot N S l2) fun w2 => if w2 = 0 then f_X11_flight_24 N S else bV (f_X11_isLeg N S l3) fun w3 => if ¬ w3 = 0 then bV (f_X11_within N S l4 (S.1 2 13) 3000) fun w4 => if w4 = 0 then f_X11_flight_56 N S else if (S.1 2 12) < 24 then gP ((512 + (S.1 2 12).toNatClampNeg) < 640 ∧ 64 ≤ (512 + (S.1 2 12).toNatClampNeg) ∧ oc (512 + (S.1 2 12).toNatClampNeg) = 1 ∧ ¬ yRf S (512 + (S.1 2 12).toNatClampNeg) = 1 ∧ ¬ S.1 (512 + (S.1 2 12).toNatClampNeg) (yKs (oc (512 + (S.1 2 12).toNatClampNeg))) = 1) (sq (yNw S (512 + (S.1 2 12).toNatClampNeg) (fun k => ([l1, l2, l3, l4, 0, (-1), (-1), (-1), (-3), (-3), 0] : List Int32).getD k 0)) fun S1 => gA 24 (S.1 2 12) fun j1 => gP ((512 + (S.1 2 12).toNatClampNeg) = 512 + j1) (sq (yA S1 2 11 (upd (S1.2.1 2 11) j1 1)) fun S2 => gP (yRf S2 (512 + (S.1 2 12).toNatClampNeg) = 1) (sq (yI S2 2 12 ((S2.1 2 12) + 1)) fun S3 => some (S2.1 2 12, S3)))) else f_X11_flight_56 N S else f_X11_flight_24 N S
set_option maxHeartbeats 4000000 in
set_option maxRecDepth 40000 in
theorem w_X11_flight_0 {F : xH} {ev : xEv} {prim : xRel} {d : Nat} {T0 : yT} {v : Int32} {S' : yS} (N : Nat) (S : yS) (l1 : Int32) (l2 : Int32) (l3 : Int32) (l4 : Int32) (T : yT) (sl : Nat) (hp : xH) (lv : xLv) (a0 : Nat) (fa0 : yAt T 11 0 0 a0) (g0 : xG lv 0 = some (.ref a0)) (g1 : xG lv 1 = some (.int l1)) (g2 : xG lv 2 = some (.int l2)) (g3 : xG lv 3 = some (.int l3)) (g4 : xG lv 4 = some (.int l4)) (hG : yG T0 T sl 0) (hM : cR [0, 1, 2, 3, 4, 5, 6, 7] F ev T S hp) (h : f_X11_flight_0 N S l1 l2 l3 l4 = some (v, S')) : yWE ev.2.1 (xstr ev) (xCalls ev xmi (xprog ev) prim (d + 2)) (pX11_flight ev) (0, lv, [], hp, T.2.2.1, sl) (ypN [0, 1, 2, 3, 4, 5, 6, 7] F ev T0 (some (.int v)) S' 0) := by
  unfold f_X11_flight_0 at h
  refine ye_aload rfl g0 ?_
  refine ye_iload rfl g1 ?_
  obtain ⟨w1, hw1, h⟩ := bV_some h
  refine ye_callV (As := [.int l1]) (rest := []) 0 (Or.inl rfl) rfl rfl rfl (Nat.le_of_ble_eq_true rfl) (hM.obj fa0 ⟨rfl, rfl⟩) ((m_X11_isPlane (d := d + 0) (T := T) N S l1 a0 fa0 hw1) hp _ hM) ?_
  refine ye_if_eq rfl (fun h1 => ?_) (fun h1 => ?_)
  · replace h := yiT h1 h
    exact w_X11_flight_24 (prim := prim) (d := d) N S T sl hp lv hG hM h
  · replace h := yiN h1 h
    refine ye_aload rfl g0 ?_
    refine ye_iload rfl g2 ?_
    obtain ⟨w2, hw2, h⟩ := bV_some h
    refine ye_callV (As := [.int l2]) (rest := []) 0 (Or.inl rfl) rfl rfl rfl (Nat.le_of_ble_eq_true rfl) (hM.obj fa0 ⟨rfl, rfl⟩) ((m_X11_isPilot (d := d + 0) (T := T) N S l2 a0 fa0 hw2) hp _ hM) ?_
    refine ye_if_eq rfl (fun h2 => ?_) (fun h2 => ?_)
    · replace h := yiT h2 h
      exact w_X11_flight_24 (prim := prim) (d := d) N S T sl hp lv hG hM h
    · replace h := yiN h2 h
      refine ye_aload rfl g0 ?_
      refine ye_iload rfl g3 ?_
      obtain ⟨w3, hw3, h⟩ := bV_some h
      refine ye_callV (As := [.int l3]) (rest := []) 0 (Or.inl rfl) rfl rfl rfl (Nat.le_of_ble_eq_true rfl) (hM.obj fa0 ⟨rfl, rfl⟩) ((m_X11_isLeg (d := d + 0) (T := T) N S l3 a0 fa0 hw3) hp _ hM) ?_
      refine ye_if_ne rfl (fun h3 => ?_) (fun h3 => ?_)
      · replace h := yiT h3 h
        refine ye_iload rfl g4 ?_
        refine ye_aload rfl g0 ?_
        refine ye_getr rfl (hM.obj fa0 ⟨rfl, rfl⟩) rfl (fun cx1 ecx1 => ?_)
        have fcx1 := hM.root 10 0 (by decide) rfl ecx1
        refine ye_getf rfl (hM.obj fcx1 ⟨rfl, rfl⟩) rfl ?_
        refine ye_p rfl rfl ?_
        obtain ⟨w4, hw4, h⟩ := bV_some h
        refine ye_callS (As := [.int l4, .int (S.1 2 13), .int 3000]) (rest := []) 1 (Or.inl rfl) rfl rfl rfl (Nat.le_of_ble_eq_true rfl) ((m_X11_within (d := d + 1) (T := T) N S l4 (S.1 2 13) 3000 hw4) hp _ hM) ?_
        refine ye_if_eq rfl (fun h4 => ?_) (fun h4 => ?_)
        · replace h := yiT h4 h
          exact w_X11_flight_56 (prim := prim) (d := d) N S T sl hp lv hG hM h
        · replace h := yiN h4 h
          refine ye_aload rfl g0 ?_
          refine ye_getr rfl (hM.obj fa0 ⟨rfl, rfl⟩) rfl (fun cx2 ecx2 => ?_)
          have fcx2 := hM.root 10 0 (by decide) rfl ecx2
          refine ye_getf rfl (hM.obj fcx2 ⟨rfl, rfl⟩) rfl ?_
          refine ye_p rfl rfl ?_
          refine ye_icmp_lt rfl (fun h5 => ?_) (fun h5 => ?_)
          · replace h := yiT h5 h
            refine ye_aload rfl g0 ?_
            refine ye_getr rfl (hM.obj fa0 ⟨rfl, rfl⟩) rfl (fun cx3 ecx3 => ?_)
            have fcx3 := hM.root 10 0 (by decide) rfl ecx3
            refine ye_getr rfl (hM.obj fcx3 ⟨rfl, rfl⟩) rfl (fun cx4 ecx4 => ?_)
            have fcx4 := yAt.row fcx3 ecx4
            refine ye_aload rfl g0 ?_
            refine ye_getr rfl (hM.obj fa0 ⟨rfl, rfl⟩) rfl (fun cx5 ecx5 => ?_)
            have fcx5 := hM.root 10 0 (by decide) rfl ecx5
            refine ye_getf rfl (hM.obj fcx5 ⟨rfl, rfl⟩) rfl ?_
            obtain ⟨i1, h⟩ := gP_some h
            refine yw_rawn rfl (fun y1 Ry1 Oy1 => ?_)
            have M1 := hM.fresh (hp1 := y1) (fun b hb => Oy1 b (by omega))
            refine ye_p rfl rfl ?_
            refine ye_iload rfl g1 ?_
            refine ye_iload rfl g2 ?_
            refine ye_iload rfl g3 ?_
            refine ye_iload rfl g4 ?_
            obtain ⟨S1, eS1, h⟩ := sq_some h
            obtain ⟨y2, nz1, ss1, ad1, cy2, M2, F1, AF1, BF1, CF1, DF1⟩ := ct_1 (F := F) (ev := ev) (prim := prim) (d := d + 1) S (512 + (S.1 2 12).toNatClampNeg) l1 l2 l3 l4 i1.2.2.1 hG.2.2.2.1 i1.2.1 i1.1 i1.2.2.2.1 i1.2.2.2.2 hp y1 hM Ry1 Oy1
            rw [← eS1] at M2
            refine ye_callV (As := [.int l1, .int l2, .int l3, .int l4]) (rest := [.ref T.2.2.1, .int (S.1 2 12), .ref cx4]) 2 (Or.inr rfl) rfl rfl rfl (Nat.le_of_ble_eq_true rfl) Ry1 cy2 ?_
            replace fa0 := fa0.tn (ad0 := ad1) (n' := nz1) F1
            replace fcx4 := fcx4.tn (ad0 := ad1) (n' := nz1) F1
            have fo1 : yAt (yTn T (512 + (S.1 2 12).toNatClampNeg) ad1 nz1) 1 (512 + (S.1 2 12).toNatClampNeg) 0 T.2.2.1 := yAt.nw i1.2.2.1 AF1
            obtain ⟨j1, ej1, ij1, h⟩ := gA_some h
            obtain ⟨i2, h⟩ := gP_some h
            obtain ⟨S2, eS2, h⟩ := sq_some h
            refine yw_aast rfl M2 fcx4 yr_10_11 (by decide) (yAt.eqv i2 fo1) rfl ⟨rfl, rfl⟩ ij1 ej1 eS2 (fun y3 M3 => ?_)
            obtain ⟨i3, h⟩ := gP_some h
            obtain ⟨T1, eT1⟩ : ∃ x, x = yUn (yTn T (512 + (S.1 2 12).toNatClampNeg) ad1 nz1) := ⟨_, rfl⟩
            have M4 := M3.unp (show yRf S2 (yTn T (512 + (S.1 2 12).toNatClampNeg) ad1 nz1).2.2.2 = 1 from i3)
            rw [← eT1] at M4
            have G1 : yG T T1 (11 + ss1) 0 := by rw [eT1]; exact yG.born F1 i1.1 BF1 CF1 DF1
            replace fa0 := yAt.un eT1 fa0
            rw [show nz1 = T1.2.2.1 from by rw [eT1]; rfl]
            have H1 := hG.tr3 G1
            refine ye_aload rfl g0 ?_
            refine ye_getr rfl (M4.obj fa0 ⟨rfl, rfl⟩) rfl (fun cx6 ecx6 => ?_)
            have fcx6 := M4.root 10 0 (by decide) rfl ecx6
            refine ye_p rfl rfl ?_
            refine ye_getf rfl (M4.obj fcx6 ⟨rfl, rfl⟩) rfl ?_
            refine ye_p rfl rfl ?_
            refine ye_p rfl rfl ?_
            refine ye_p rfl rfl ?_
            obtain ⟨S3, eS3, h⟩ := sq_some h
            refine yw_putI rfl M4 fcx6 rfl ⟨rfl, rfl⟩ (Nat.le_of_ble_eq_true rfl) rfl rfl (ys_10_12 ev _ _ ((S2.1 2 12) + 1)) (fun q => absurd q (by decide)) eS3 (fun y4 M5 => ?_)
            exact ye_ret rfl rfl (rN h M5 H1)
          · replace h := yiN h5 h
            exact w_X11_flight_56 (prim := prim) (d := d) N S T sl hp lv hG hM h
      · replace h := yiN h3 h
        exact w_X11_flight_24 (prim := prim) (d := d) N S T sl hp lv hG hM h
def f_X11_flight (N : Nat) (S : yS) (xl1 : Int32) (xl2 : Int32) (xl3 : Int32) (xl4 : Int32) : Option (Int32 × yS) := f_X11_flight_0 N S xl1 xl2 xl3 xl4
theorem m_X11_flight {F : xH} {ev : xEv} {prim : xRel} {d : Nat} {T : yT} {v : Int32} {S' : yS} (N : Nat) (S : yS) (xl1 : Int32) (xl2 : Int32) (xl3 : Int32) (xl4 : Int32) (a0 : Nat) (fa0 : yAt T 11 0 0 a0) (h : f_X11_flight N S xl1 xl2 xl3 xl4 = some (v, S')) : ykN [0, 1, 2, 3, 4, 5, 6, 7] F ev prim (d + 3) 148 T S [.ref a0, .int xl1, .int xl2, .int xl3, .int xl4] (some (.int v)) S' 0 :=
  ykN.of (pg_148 ev) mi_148 (Nat.le_of_ble_eq_true rfl) (fun hz hp hM => w_X11_flight_0 (prim := prim) (d := d) N S xl1 xl2 xl3 xl4 T 0 hp _ a0 fa0 rfl rfl rfl rfl rfl (yG.rf hz 0) hM h)

def f_X11_plan_135 (N : Nat) (k40 : yS → Int32 → Int32 → Int32 → Int32 → Int32 → Option (Int32 × yS)) (S : yS) (l1 : Int32) (l3 : Int32) (l4 : Int32) (l5 : Int32) (l6 : Int32) : Option (Int32 × yS) := k40 S l1 l3 l4 l5 (l6 + 1)
set_option maxHeartbeats 4000000 in
set_option maxRecDepth 40000 in
theorem w_X11_plan_135 {F : xH} {ev : xEv} {prim : xRel} {d : Nat} {T0 : yT} {v : Int32} {S' : yS} (N : Nat) (k40 : yS → Int32 → Int32 → Int32 → Int32 → Int32 → Option (Int32 × yS)) (u40 : ∀ (S : yS) (l1 : Int32) (l3 : Int32) (l4 : Int32) (l5 : Int32) (l6 : Int32) (T : yT) (sl : Nat) (hp : xH) (lv : xLv) (a0 : Nat) (a2 : Nat) (fa0 : yAt T 11 0 0 a0) (fa2 : yAt T 13 9 1 a2) (g0 : xG lv 0 = some (.ref a0)) (g1 : xG lv 1 = some (.int l1)) (g2 : xG lv 2 = some (.ref a2)) (g3 : xG lv 3 = some (.int l3)) (g4 : xG lv 4 = some (.int l4)) (g5 : xG lv 5 = some (.int l5)) (g6 : xG lv 6 = some (.int l6)) (hG : yG T0 T sl 1) (hM : cR [0, 1, 2, 3, 4, 5, 6, 7] F ev T S hp) (h : k40 S l1 l3 l4 l5 l6 = some (v, S')), yWE ev.2.1 (xstr ev) (xCalls ev xmi (xprog ev) prim (d + 6)) (pX11_plan ev) (40, lv, [], hp, T.2.2.1, sl) (ypN [0, 1, 2, 3, 4, 5, 6, 7] F ev T0 (some (.int v)) S' 1)) (S : yS) (l1 : Int32) (l3 : Int32) (l4 : Int32) (l5 : Int32) (l6 : Int32) (T : yT) (sl : Nat) (hp : xH) (lv : xLv) (a0 : Nat) (a2 : Nat) (fa0 : yAt T 11 0 0 a0) (fa2 : yAt T 13 9 1 a2) (g0 : xG lv 0 = some (.ref a0)) (g1 : xG lv 1 = some (.int l1)) (g2 : xG lv 2 = some (.ref a2)) (g3 : xG lv 3 = some (.int l3)) (g4 : xG lv 4 = some (.int l4)) (g5 : xG lv 5 = some (.int l5)) (g6 : xG lv 6 = some (.int l6)) (hG : yG T0 T sl 1) (hM : cR [0, 1, 2, 3, 4, 5, 6, 7] F ev T S hp) (h : f_X11_plan_135 N k40 S l1 l3 l4 l5 l6 = some (v, S')) : yWE ev.2.1 (xstr ev) (xCalls ev xmi (xprog ev) prim (d + 6)) (pX11_plan ev) (135, lv, [], hp, T.2.2.1, sl) (ypN [0, 1, 2, 3, 4, 5, 6, 7] F ev T0 (some (.int v)) S' 1) := by
  unfold f_X11_plan_135 at h
  refine ye_iinc rfl g6 ?_
  have g0_z1 := xG_o1 (i := 6) (v := .int (l6 + 1)) g0 rfl
  have g1_z1 := xG_o1 (i := 6) (v := .int (l6 + 1)) g1 rfl
  have g2_z1 := xG_o1 (i := 6) (v := .int (l6 + 1)) g2 rfl
  have g3_z1 := xG_o1 (i := 6) (v := .int (l6 + 1)) g3 rfl
  have g4_z1 := xG_o1 (i := 6) (v := .int (l6 + 1)) g4 rfl
  have g5_z1 := xG_o1 (i := 6) (v := .int (l6 + 1)) g5 rfl
  have g6_z1 := xG_same lv 6 (.int (l6 + 1))
  generalize xSt1 lv 6 (.int (l6 + 1)) = lvz1 at g0_z1 g1_z1 g2_z1 g3_z1 g4_z1 g5_z1 g6_z1 ⊢
  refine ye_p rfl rfl ?_
  exact u40 S l1 l3 l4 l5 (l6 + 1) T sl hp lvz1 a0 a2 fa0 fa2 g0_z1 g1_z1 g2_z1 g3_z1 g4_z1 g5_z1 g6_z1 hG hM h

def f_X11_plan_127 (N : Nat) (k40 : yS → Int32 → Int32 → Int32 → Int32 → Int32 → Option (Int32 × yS)) (S : yS) (l1 : Int32) (l3 : Int32) (l6 : Int32) (l7 : Int32) : Option (Int32 × yS) := f_X11_plan_135 N k40 S l1 l3 l6 l7 l6
set_option maxHeartbeats 4000000 in
set_option maxRecDepth 40000 in
theorem w_X11_plan_127 {F : xH} {ev : xEv} {prim : xRel} {d : Nat} {T0 : yT} {v : Int32} {S' : yS} (N : Nat) (k40 : yS → Int32 → Int32 → Int32 → Int32 → Int32 → Option (Int32 × yS)) (u40 : ∀ (S : yS) (l1 : Int32) (l3 : Int32) (l4 : Int32) (l5 : Int32) (l6 : Int32) (T : yT) (sl : Nat) (hp : xH) (lv : xLv) (a0 : Nat) (a2 : Nat) (fa0 : yAt T 11 0 0 a0) (fa2 : yAt T 13 9 1 a2) (g0 : xG lv 0 = some (.ref a0)) (g1 : xG lv 1 = some (.int l1)) (g2 : xG lv 2 = some (.ref a2)) (g3 : xG lv 3 = some (.int l3)) (g4 : xG lv 4 = some (.int l4)) (g5 : xG lv 5 = some (.int l5)) (g6 : xG lv 6 = some (.int l6)) (hG : yG T0 T sl 1) (hM : cR [0, 1, 2, 3, 4, 5, 6, 7] F ev T S hp) (h : k40 S l1 l3 l4 l5 l6 = some (v, S')), yWE ev.2.1 (xstr ev) (xCalls ev xmi (xprog ev) prim (d + 6)) (pX11_plan ev) (40, lv, [], hp, T.2.2.1, sl) (ypN [0, 1, 2, 3, 4, 5, 6, 7] F ev T0 (some (.int v)) S' 1)) (S : yS) (l1 : Int32) (l3 : Int32) (l6 : Int32) (l7 : Int32) (T : yT) (sl : Nat) (hp : xH) (lv : xLv) (a0 : Nat) (a2 : Nat) (fa0 : yAt T 11 0 0 a0) (fa2 : yAt T 13 9 1 a2) (g0 : xG lv 0 = some (.ref a0)) (g1 : xG lv 1 = some (.int l1)) (g2 : xG lv 2 = some (.ref a2)) (g3 : xG lv 3 = some (.int l3)) (g6 : xG lv 6 = some (.int l6)) (g7 : xG lv 7 = some (.int l7)) (hG : yG T0 T sl 1) (hM : cR [0, 1, 2, 3, 4, 5, 6, 7] F ev T S hp) (h : f_X11_plan_127 N k40 S l1 l3 l6 l7 = some (v, S')) : yWE ev.2.1 (xstr ev) (xCalls ev xmi (xprog ev) prim (d + 6)) (pX11_plan ev) (127, lv, [], hp, T.2.2.1, sl) (ypN [0, 1, 2, 3, 4, 5, 6, 7] F ev T0 (some (.int v)) S' 1) := by
  unfold f_X11_plan_127 at h
  refine ye_iload rfl g6 ?_
  refine ye_p rfl rfl ?_
  have g0_z1 := xG_o1 (i := 4) (v := .int l6) g0 rfl
  have g1_z1 := xG_o1 (i := 4) (v := .int l6) g1 rfl
  have g2_z1 := xG_o1 (i := 4) (v := .int l6) g2 rfl
  have g3_z1 := xG_o1 (i := 4) (v := .int l6) g3 rfl
  have g6_z1 := xG_o1 (i := 4) (v := .int l6) g6 rfl
  have g7_z1 := xG_o1 (i := 4) (v := .int l6) g7 rfl
  have g4_z1 := xG_same lv 4 (.int l6)
  generalize xSt1 lv 4 (.int l6) = lvz1 at g0_z1 g1_z1 g2_z1 g3_z1 g6_z1 g7_z1 g4_z1 ⊢
  refine ye_iload rfl g7_z1 ?_
  refine ye_p rfl rfl ?_
  have g0_z2 := xG_o1 (i := 5) (v := .int l7) g0_z1 rfl
  have g1_z2 := xG_o1 (i := 5) (v := .int l7) g1_z1 rfl
  have g2_z2 := xG_o1 (i := 5) (v := .int l7) g2_z1 rfl
  have g3_z2 := xG_o1 (i := 5) (v := .int l7) g3_z1 rfl
  have g4_z2 := xG_o1 (i := 5) (v := .int l7) g4_z1 rfl
  have g6_z2 := xG_o1 (i := 5) (v := .int l7) g6_z1 rfl
  have g5_z2 := xG_same lvz1 5 (.int l7)
  generalize xSt1 lvz1 5 (.int l7) = lvz2 at g0_z2 g1_z2 g2_z2 g3_z2 g4_z2 g6_z2 g5_z2 ⊢
  exact w_X11_plan_135 (prim := prim) (d := d) N k40 u40 S l1 l3 l6 l7 l6 T sl hp lvz2 a0 a2 fa0 fa2 g0_z2 g1_z2 g2_z2 g3_z2 g4_z2 g5_z2 g6_z2 hG hM h

def f_X11_plan_108 (N : Nat) (k40 : yS → Int32 → Int32 → Int32 → Int32 → Int32 → Option (Int32 × yS)) (S : yS) (l1 : Int32) (l3 : Int32) (l4 : Int32) (l5 : Int32) (l6 : Int32) (l7 : Int32) (t0 : Int32) : Option (Int32 × yS) := if l6 = 0 then f_X11_plan_127 N k40 S l1 l3 l6 l7 else if l5 < l7 then f_X11_plan_127 N k40 S l1 l3 l6 l7 else if t0 = 0 then f_X11_plan_135 N k40 S l1 l3 l4 l5 l6 else f_X11_plan_127 N k40 S l1 l3 l6 l7
set_option maxHeartbeats 4000000 in
set_option maxRecDepth 40000 in
theorem w_X11_plan_108 {F : xH} {ev : xEv} {prim : xRel} {d : Nat} {T0 : yT} {v : Int32} {S' : yS} (N : Nat) (k40 : yS → Int32 → Int32 → Int32 → Int32 → Int32 → Option (Int32 × yS)) (u40 : ∀ (S : yS) (l1 : Int32) (l3 : Int32) (l4 : Int32) (l5 : Int32) (l6 : Int32) (T : yT) (sl : Nat) (hp : xH) (lv : xLv) (a0 : Nat) (a2 : Nat) (fa0 : yAt T 11 0 0 a0) (fa2 : yAt T 13 9 1 a2) (g0 : xG lv 0 = some (.ref a0)) (g1 : xG lv 1 = some (.int l1)) (g2 : xG lv 2 = some (.ref a2)) (g3 : xG lv 3 = some (.int l3)) (g4 : xG lv 4 = some (.int l4)) (g5 : xG lv 5 = some (.int l5)) (g6 : xG lv 6 = some (.int l6)) (hG : yG T0 T sl 1) (hM : cR [0, 1, 2, 3, 4, 5, 6, 7] F ev T S hp) (h : k40 S l1 l3 l4 l5 l6 = some (v, S')), yWE ev.2.1 (xstr ev) (xCalls ev xmi (xprog ev) prim (d + 6)) (pX11_plan ev) (40, lv, [], hp, T.2.2.1, sl) (ypN [0, 1, 2, 3, 4, 5, 6, 7] F ev T0 (some (.int v)) S' 1)) (S : yS) (l1 : Int32) (l3 : Int32) (l4 : Int32) (l5 : Int32) (l6 : Int32) (l7 : Int32) (t0 : Int32) (T : yT) (sl : Nat) (hp : xH) (lv : xLv) (a0 : Nat) (a2 : Nat) (fa0 : yAt T 11 0 0 a0) (fa2 : yAt T 13 9 1 a2) (g0 : xG lv 0 = some (.ref a0)) (g1 : xG lv 1 = some (.int l1)) (g2 : xG lv 2 = some (.ref a2)) (g3 : xG lv 3 = some (.int l3)) (g4 : xG lv 4 = some (.int l4)) (g5 : xG lv 5 = some (.int l5)) (g6 : xG lv 6 = some (.int l6)) (g7 : xG lv 7 = some (.int l7)) (hG : yG T0 T sl 1) (hM : cR [0, 1, 2, 3, 4, 5, 6, 7] F ev T S hp) (h : f_X11_plan_108 N k40 S l1 l3 l4 l5 l6 l7 t0 = some (v, S')) : yWE ev.2.1 (xstr ev) (xCalls ev xmi (xprog ev) prim (d + 6)) (pX11_plan ev) (108, lv, [.int t0], hp, T.2.2.1, sl) (ypN [0, 1, 2, 3, 4, 5, 6, 7] F ev T0 (some (.int v)) S' 1) := by
  unfold f_X11_plan_108 at h
  refine ye_p rfl rfl ?_
  have g0_z1 := xG_o1 (i := 8) (v := .int t0) g0 rfl
  have g1_z1 := xG_o1 (i := 8) (v := .int t0) g1 rfl
  have g2_z1 := xG_o1 (i := 8) (v := .int t0) g2 rfl
  have g3_z1 := xG_o1 (i := 8) (v := .int t0) g3 rfl
  have g4_z1 := xG_o1 (i := 8) (v := .int t0) g4 rfl
  have g5_z1 := xG_o1 (i := 8) (v := .int t0) g5 rfl
  have g6_z1 := xG_o1 (i := 8) (v := .int t0) g6 rfl
  have g7_z1 := xG_o1 (i := 8) (v := .int t0) g7 rfl
  have g8_z1 := xG_same lv 8 (.int t0)
  generalize xSt1 lv 8 (.int t0) = lvz1 at g0_z1 g1_z1 g2_z1 g3_z1 g4_z1 g5_z1 g6_z1 g7_z1 g8_z1 ⊢
  refine ye_iload rfl g6_z1 ?_
  refine ye_if_eq rfl (fun h1 => ?_) (fun h1 => ?_)
  · replace h := yiT h1 h
    exact w_X11_plan_127 (prim := prim) (d := d) N k40 u40 S l1 l3 l6 l7 T sl hp lvz1 a0 a2 fa0 fa2 g0_z1 g1_z1 g2_z1 g3_z1 g6_z1 g7_z1 hG hM h
  · replace h := yiN h1 h
    refine ye_iload rfl g7_z1 ?_
    refine ye_iload rfl g5_z1 ?_
    refine ye_icmp_gt rfl (fun h2 => ?_) (fun h2 => ?_)
    · replace h := yiT h2 h
      exact w_X11_plan_127 (prim := prim) (d := d) N k40 u40 S l1 l3 l6 l7 T sl hp lvz1 a0 a2 fa0 fa2 g0_z1 g1_z1 g2_z1 g3_z1 g6_z1 g7_z1 hG hM h
    · replace h := yiN h2 h
      refine ye_iload rfl g8_z1 ?_
      refine ye_if_eq rfl (fun h3 => ?_) (fun h3 => ?_)
      · replace h := yiT h3 h
        exact w_X11_plan_135 (prim := prim) (d := d) N k40 u40 S l1 l3 l4 l5 l6 T sl hp lvz1 a0 a2 fa0 fa2 g0_z1 g1_z1 g2_z1 g3_z1 g4_z1 g5_z1 g6_z1 hG hM h
      · replace h := yiN h3 h
        exact w_X11_plan_127 (prim := prim) (d := d) N k40 u40 S l1 l3 l6 l7 T sl hp lvz1 a0 a2 fa0 fa2 g0_z1 g1_z1 g2_z1 g3_z1 g6_z1 g7_z1 hG hM h

def f_X11_plan_107 (N : Nat) (k40 : yS → Int32 → Int32 → Int32 → Int32 → Int32 → Option (Int32 × yS)) (S : yS) (l1 : Int32) (l3 : Int32) (l4 : Int32) (l5 : Int32) (l6 : Int32) (l7 : Int32) : Option (Int32 × yS) := f_X11_plan_108 N k40 S l1 l3 l4 l5 l6 l7 0
set_option maxHeartbeats 4000000 in
set_option maxRecDepth 40000 in
theorem w_X11_plan_107 {F : xH} {ev : xEv} {prim : xRel} {d : Nat} {T0 : yT} {v : Int32} {S' : yS} (N : Nat) (k40 : yS → Int32 → Int32 → Int32 → Int32 → Int32 → Option (Int32 × yS)) (u40 : ∀ (S : yS) (l1 : Int32) (l3 : Int32) (l4 : Int32) (l5 : Int32) (l6 : Int32) (T : yT) (sl : Nat) (hp : xH) (lv : xLv) (a0 : Nat) (a2 : Nat) (fa0 : yAt T 11 0 0 a0) (fa2 : yAt T 13 9 1 a2) (g0 : xG lv 0 = some (.ref a0)) (g1 : xG lv 1 = some (.int l1)) (g2 : xG lv 2 = some (.ref a2)) (g3 : xG lv 3 = some (.int l3)) (g4 : xG lv 4 = some (.int l4)) (g5 : xG lv 5 = some (.int l5)) (g6 : xG lv 6 = some (.int l6)) (hG : yG T0 T sl 1) (hM : cR [0, 1, 2, 3, 4, 5, 6, 7] F ev T S hp) (h : k40 S l1 l3 l4 l5 l6 = some (v, S')), yWE ev.2.1 (xstr ev) (xCalls ev xmi (xprog ev) prim (d + 6)) (pX11_plan ev) (40, lv, [], hp, T.2.2.1, sl) (ypN [0, 1, 2, 3, 4, 5, 6, 7] F ev T0 (some (.int v)) S' 1)) (S : yS) (l1 : Int32) (l3 : Int32) (l4 : Int32) (l5 : Int32) (l6 : Int32) (l7 : Int32) (T : yT) (sl : Nat) (hp : xH) (lv : xLv) (a0 : Nat) (a2 : Nat) (fa0 : yAt T 11 0 0 a0) (fa2 : yAt T 13 9 1 a2) (g0 : xG lv 0 = some (.ref a0)) (g1 : xG lv 1 = some (.int l1)) (g2 : xG lv 2 = some (.ref a2)) (g3 : xG lv 3 = some (.int l3)) (g4 : xG lv 4 = some (.int l4)) (g5 : xG lv 5 = some (.int l5)) (g6 : xG lv 6 = some (.int l6)) (g7 : xG lv 7 = some (.int l7)) (hG : yG T0 T sl 1) (hM : cR [0, 1, 2, 3, 4, 5, 6, 7] F ev T S hp) (h : f_X11_plan_107 N k40 S l1 l3 l4 l5 l6 l7 = some (v, S')) : yWE ev.2.1 (xstr ev) (xCalls ev xmi (xprog ev) prim (d + 6)) (pX11_plan ev) (107, lv, [], hp, T.2.2.1, sl) (ypN [0, 1, 2, 3, 4, 5, 6, 7] F ev T0 (some (.int v)) S' 1) := by
  unfold f_X11_plan_107 at h
  refine ye_p rfl rfl ?_
  exact w_X11_plan_108 (prim := prim) (d := d) N k40 u40 S l1 l3 l4 l5 l6 l7 0 T sl hp lv a0 a2 fa0 fa2 g0 g1 g2 g3 g4 g5 g6 g7 hG hM h

def f_X11_plan_40 : Nat → Nat → yS → Int32 → Int32 → Int32 → Int32 → Int32 → Option (Int32 × yS)
  | 0, _, _, _, _, _, _, _ => none
  | n + 1, N, S, l1, l3, l4, l5, l6 => if (1 <<< (l3 &&& 31)) ≤ l6 then gA 32 0 fun j1 => sq (yA S 0 7 (upd (S.2.1 0 7) j1 l4)) fun S1 => sq (yI S1 0 8 1) fun S2 => some (l5, S2) else bS (f_X10_giveUpOthers N S l3 l6) fun w1 S3 => bS (f_X10_pass N S3 l1) fun w2 S4 => bS (f_X10_coinNow N S4) fun w3 S5 => bS (f_X10_giveBack N S5) fun w4 S6 => if ¬ w3 = l5 then f_X11_plan_107 N (fun S l1 l3 l4 l5 l6 => f_X11_plan_40 n N S l1 l3 l4 l5 l6) S6 l1 l3 l4 l5 l6 w3 else bV (f_J6_bitCount_0f7a4 N S6 l6) fun w5 => bV (f_J6_bitCount_0f7a4 N S6 l4) fun w6 => if w6 ≤ w5 then f_X11_plan_107 N (fun S l1 l3 l4 l5 l6 => f_X11_plan_40 n N S l1 l3 l4 l5 l6) S6 l1 l3 l4 l5 l6 w3 else f_X11_plan_108 N (fun S l1 l3 l4 l5 l6 => f_X11_plan_40 n N S l1 l3 l4 l5 l6) S6 l1 l3 l4 l5 l6 w3 1
set_option maxHeartbeats 4000000 in
set_option maxRecDepth 40000 in
theorem w_X11_plan_40 {F : xH} {ev : xEv} {prim : xRel} {d : Nat} {T0 : yT} {v : Int32} {S' : yS} (N : Nat) (n : Nat) : ∀ (S : yS) (l1 : Int32) (l3 : Int32) (l4 : Int32) (l5 : Int32) (l6 : Int32) (T : yT) (sl : Nat) (hp : xH) (lv : xLv) (a0 : Nat) (a2 : Nat) (fa0 : yAt T 11 0 0 a0) (fa2 : yAt T 13 9 1 a2) (g0 : xG lv 0 = some (.ref a0)) (g1 : xG lv 1 = some (.int l1)) (g2 : xG lv 2 = some (.ref a2)) (g3 : xG lv 3 = some (.int l3)) (g4 : xG lv 4 = some (.int l4)) (g5 : xG lv 5 = some (.int l5)) (g6 : xG lv 6 = some (.int l6)) (hG : yG T0 T sl 1) (hM : cR [0, 1, 2, 3, 4, 5, 6, 7] F ev T S hp) (h : f_X11_plan_40 n N S l1 l3 l4 l5 l6 = some (v, S')), yWE ev.2.1 (xstr ev) (xCalls ev xmi (xprog ev) prim (d + 6)) (pX11_plan ev) (40, lv, [], hp, T.2.2.1, sl) (ypN [0, 1, 2, 3, 4, 5, 6, 7] F ev T0 (some (.int v)) S' 1) := by
  induction n with
  | zero => intro S l1 l3 l4 l5 l6 T sl hp lv a0 a2 fa0 fa2 g0 g1 g2 g3 g4 g5 g6 hG hM h; exact n_some h
  | succ n ih =>
    intro S l1 l3 l4 l5 l6 T sl hp lv a0 a2 fa0 fa2 g0 g1 g2 g3 g4 g5 g6 hG hM h
    unfold f_X11_plan_40 at h
    refine ye_iload rfl g6 ?_
    refine ye_p rfl rfl ?_
    refine ye_iload rfl g3 ?_
    refine ye_p rfl rfl ?_
    refine ye_icmp_ge rfl (fun h1 => ?_) (fun h1 => ?_)
    · replace h := yiT h1 h
      refine ye_aload rfl g0 ?_
      refine ye_getr rfl (hM.obj fa0 ⟨rfl, rfl⟩) rfl (fun cx1 ecx1 => ?_)
      have fcx1 := yAt.row fa0 ecx1
      refine ye_p rfl rfl ?_
      refine ye_iload rfl g4 ?_
      obtain ⟨j1, ej1, ij1, h⟩ := gA_some h
      obtain ⟨S1, eS1, h⟩ := sq_some h
      refine yw_ast rfl hM fcx1 yr_11_7 (by decide) ij1 ej1 eS1 (fun y1 M1 => ?_)
      refine ye_aload rfl g0 ?_
      refine ye_p rfl rfl ?_
      obtain ⟨S2, eS2, h⟩ := sq_some h
      refine yw_putI rfl M1 fa0 rfl ⟨rfl, rfl⟩ (Nat.le_of_ble_eq_true rfl) rfl rfl (ys_11_8 ev _ _ 1) (fun q => absurd q (by decide)) eS2 (fun y2 M2 => ?_)
      refine ye_iload rfl g5 ?_
      exact ye_ret rfl rfl (rN h M2 hG)
    · replace h := yiN h1 h
      refine ye_aload rfl g0 ?_
      refine ye_getr rfl (hM.obj fa0 ⟨rfl, rfl⟩) rfl (fun cx2 ecx2 => ?_)
      have fcx2 := hM.root 10 0 (by decide) rfl ecx2
      refine ye_aload rfl g2 ?_
      refine ye_iload rfl g3 ?_
      refine ye_iload rfl g6 ?_
      obtain ⟨w1, S3, hw1, h⟩ := bS_some h
      obtain ⟨y3, cy3, M3⟩ := (m_X10_giveUpOthers (d := d + 4) (T := T) N S l3 l6 cx2 a2 fcx2 fa2 hw1) hp _ hM
      refine ye_callV (As := [.ref a2, .int l3, .int l6]) (rest := []) 0 (Or.inl rfl) rfl rfl rfl (Nat.le_of_ble_eq_true rfl) (hM.obj fcx2 ⟨rfl, rfl⟩) cy3 ?_
      refine ye_aload rfl g0 ?_
      refine ye_getr rfl (M3.obj fa0 ⟨rfl, rfl⟩) rfl (fun cx3 ecx3 => ?_)
      have fcx3 := M3.root 10 0 (by decide) rfl ecx3
      refine ye_iload rfl g1 ?_
      obtain ⟨w2, S4, hw2, h⟩ := bS_some h
      obtain ⟨y4, cy4, M4⟩ := (m_X10_pass (d := d + 0) (T := T) N S3 l1 cx3 fcx3 hw2) y3 _ M3
      refine ye_callV (As := [.int l1]) (rest := []) 0 (Or.inl rfl) rfl rfl rfl (Nat.le_of_ble_eq_true rfl) (M3.obj fcx3 ⟨rfl, rfl⟩) cy4 ?_
      refine ye_aload rfl g0 ?_
      refine ye_getr rfl (M4.obj fa0 ⟨rfl, rfl⟩) rfl (fun cx4 ecx4 => ?_)
      have fcx4 := M4.root 10 0 (by decide) rfl ecx4
      obtain ⟨w3, S5, hw3, h⟩ := bS_some h
      obtain ⟨y5, cy5, M5⟩ := (m_X10_coinNow (d := d + 0) (T := T) N S4 cx4 fcx4 hw3) y4 _ M4
      refine ye_callV (As := []) (rest := []) 0 (Or.inl rfl) rfl rfl rfl (Nat.le_of_ble_eq_true rfl) (M4.obj fcx4 ⟨rfl, rfl⟩) cy5 ?_
      refine ye_p rfl rfl ?_
      have g0_z1 := xG_o1 (i := 7) (v := .int w3) g0 rfl
      have g1_z1 := xG_o1 (i := 7) (v := .int w3) g1 rfl
      have g2_z1 := xG_o1 (i := 7) (v := .int w3) g2 rfl
      have g3_z1 := xG_o1 (i := 7) (v := .int w3) g3 rfl
      have g4_z1 := xG_o1 (i := 7) (v := .int w3) g4 rfl
      have g5_z1 := xG_o1 (i := 7) (v := .int w3) g5 rfl
      have g6_z1 := xG_o1 (i := 7) (v := .int w3) g6 rfl
      have g7_z1 := xG_same lv 7 (.int w3)
      generalize xSt1 lv 7 (.int w3) = lvz1 at g0_z1 g1_z1 g2_z1 g3_z1 g4_z1 g5_z1 g6_z1 g7_z1 ⊢
      refine ye_aload rfl g0_z1 ?_
      refine ye_getr rfl (M5.obj fa0 ⟨rfl, rfl⟩) rfl (fun cx5 ecx5 => ?_)
      have fcx5 := M5.root 10 0 (by decide) rfl ecx5
      obtain ⟨w4, S6, hw4, h⟩ := bS_some h
      obtain ⟨y6, cy6, M6⟩ := (m_X10_giveBack (d := d + 3) (T := T) N S5 cx5 fcx5 hw4) y5 _ M5
      refine ye_callV (As := []) (rest := []) 0 (Or.inl rfl) rfl rfl rfl (Nat.le_of_ble_eq_true rfl) (M5.obj fcx5 ⟨rfl, rfl⟩) cy6 ?_
      refine ye_iload rfl g7_z1 ?_
      refine ye_iload rfl g5_z1 ?_
      refine ye_icmp_ne rfl (fun h2 => ?_) (fun h2 => ?_)
      · replace h := yiT h2 h
        exact w_X11_plan_107 (prim := prim) (d := d) N (fun S l1 l3 l4 l5 l6 => f_X11_plan_40 n N S l1 l3 l4 l5 l6) ih S6 l1 l3 l4 l5 l6 w3 T sl y6 lvz1 a0 a2 fa0 fa2 g0_z1 g1_z1 g2_z1 g3_z1 g4_z1 g5_z1 g6_z1 g7_z1 hG M6 h
      · replace h := yiN h2 h
        refine ye_iload rfl g6_z1 ?_
        obtain ⟨w5, hw5, h⟩ := bV_some h
        refine ye_callS (As := [.int l6]) (rest := []) 1 (Or.inl rfl) rfl rfl rfl (Nat.le_of_ble_eq_true rfl) ((m_J6_bitCount_0f7a4 (d := d + 5) (T := T) N S6 l6 hw5) y6 _ M6) ?_
        refine ye_iload rfl g4_z1 ?_
        obtain ⟨w6, hw6, h⟩ := bV_some h
        refine ye_callS (As := [.int l4]) (rest := [.int w5]) 1 (Or.inl rfl) rfl rfl rfl (Nat.le_of_ble_eq_true rfl) ((m_J6_bitCount_0f7a4 (d := d + 5) (T := T) N S6 l4 hw6) y6 _ M6) ?_
        refine ye_icmp_ge rfl (fun h3 => ?_) (fun h3 => ?_)
        · replace h := yiT h3 h
          exact w_X11_plan_107 (prim := prim) (d := d) N (fun S l1 l3 l4 l5 l6 => f_X11_plan_40 n N S l1 l3 l4 l5 l6) ih S6 l1 l3 l4 l5 l6 w3 T sl y6 lvz1 a0 a2 fa0 fa2 g0_z1 g1_z1 g2_z1 g3_z1 g4_z1 g5_z1 g6_z1 g7_z1 hG M6 h
        · replace h := yiN h3 h
          refine ye_p rfl rfl ?_
          refine ye_p rfl rfl ?_
          exact w_X11_plan_108 (prim := prim) (d := d) N (fun S l1 l3 l4 l5 l6 => f_X11_plan_40 n N S l1 l3 l4 l5 l6) ih S6 l1 l3 l4 l5 l6 w3 1 T sl y6 lvz1 a0 a2 fa0 fa2 g0_z1 g1_z1 g2_z1 g3_z1 g4_z1 g5_z1 g6_z1 g7_z1 hG M6 h

def f_X11_plan_0 (N : Nat) (S : yS) (l1 : Int32) : Option (Int32 × yS) := bV (f_X11_mayTry N S l1) fun w1 => if ¬ w1 = 0 then sq (yNw S 9 (fun _ => 0)) fun S1 => bS (f_X10_listWaiting N S1) fun w2 S2 => bS (f_X10_keep N S2) fun w3 S3 => f_X11_plan_40 N N S3 l1 w2 0 0 0 else some ((-1), S)
set_option maxHeartbeats 4000000 in
set_option maxRecDepth 40000 in
theorem w_X11_plan_0 {F : xH} {ev : xEv} {prim : xRel} {d : Nat} {T0 : yT} {v : Int32} {S' : yS} (N : Nat) (S : yS) (l1 : Int32) (T : yT) (sl : Nat) (hp : xH) (lv : xLv) (a0 : Nat) (fa0 : yAt T 11 0 0 a0) (g0 : xG lv 0 = some (.ref a0)) (g1 : xG lv 1 = some (.int l1)) (hG : yG T0 T sl 0) (hM : cR [0, 1, 2, 3, 4, 5, 6, 7] F ev T S hp) (h : f_X11_plan_0 N S l1 = some (v, S')) : yWE ev.2.1 (xstr ev) (xCalls ev xmi (xprog ev) prim (d + 6)) (pX11_plan ev) (0, lv, [], hp, T.2.2.1, sl) (ypN [0, 1, 2, 3, 4, 5, 6, 7] F ev T0 (some (.int v)) S' 1) := by
  unfold f_X11_plan_0 at h
  refine ye_aload rfl g0 ?_
  refine ye_iload rfl g1 ?_
  obtain ⟨w1, hw1, h⟩ := bV_some h
  refine ye_callV (As := [.int l1]) (rest := []) 0 (Or.inl rfl) rfl rfl rfl (Nat.le_of_ble_eq_true rfl) (hM.obj fa0 ⟨rfl, rfl⟩) ((m_X11_mayTry (d := d + 4) (T := T) N S l1 a0 fa0 hw1) hp _ hM) ?_
  refine ye_if_ne rfl (fun h1 => ?_) (fun h1 => ?_)
  · replace h := yiT h1 h
    refine ye_p rfl rfl ?_
    obtain ⟨S1, eS1, h⟩ := sq_some h
    refine yw_newa (id := 9) rfl hM hG.2.2.2.1 (by decide) (by decide) eS1 (fun y1 T1 cx1 M1 G1 fcx1 tT1 => ?_)
    have H1 := hG.tr1 G1
    replace fa0 := tT1 _ _ _ _ (by decide) fa0
    refine ye_p rfl rfl ?_
    have g0_z1 := xG_o1 (i := 2) (v := .ref cx1) g0 rfl
    have g1_z1 := xG_o1 (i := 2) (v := .ref cx1) g1 rfl
    have g2_z1 := xG_same lv 2 (.ref cx1)
    generalize xSt1 lv 2 (.ref cx1) = lvz1 at g0_z1 g1_z1 g2_z1 ⊢
    refine ye_aload rfl g0_z1 ?_
    refine ye_getr rfl (M1.obj fa0 ⟨rfl, rfl⟩) rfl (fun cx2 ecx2 => ?_)
    have fcx2 := M1.root 10 0 (by decide) rfl ecx2
    refine ye_aload rfl g2_z1 ?_
    obtain ⟨w2, S2, hw2, h⟩ := bS_some h
    obtain ⟨y2, cy2, M2⟩ := (m_X10_listWaiting (d := d + 4) (T := T1) N S1 cx2 cx1 fcx2 fcx1 hw2) y1 _ M1
    refine ye_callV (As := [.ref cx1]) (rest := []) 0 (Or.inl rfl) rfl rfl rfl (Nat.le_of_ble_eq_true rfl) (M1.obj fcx2 ⟨rfl, rfl⟩) cy2 ?_
    refine ye_p rfl rfl ?_
    have g0_z2 := xG_o1 (i := 3) (v := .int w2) g0_z1 rfl
    have g1_z2 := xG_o1 (i := 3) (v := .int w2) g1_z1 rfl
    have g2_z2 := xG_o1 (i := 3) (v := .int w2) g2_z1 rfl
    have g3_z2 := xG_same lvz1 3 (.int w2)
    generalize xSt1 lvz1 3 (.int w2) = lvz2 at g0_z2 g1_z2 g2_z2 g3_z2 ⊢
    refine ye_p rfl rfl ?_
    refine ye_p rfl rfl ?_
    have g0_z3 := xG_o1 (i := 4) (v := .int 0) g0_z2 rfl
    have g1_z3 := xG_o1 (i := 4) (v := .int 0) g1_z2 rfl
    have g2_z3 := xG_o1 (i := 4) (v := .int 0) g2_z2 rfl
    have g3_z3 := xG_o1 (i := 4) (v := .int 0) g3_z2 rfl
    have g4_z3 := xG_same lvz2 4 (.int 0)
    generalize xSt1 lvz2 4 (.int 0) = lvz3 at g0_z3 g1_z3 g2_z3 g3_z3 g4_z3 ⊢
    refine ye_p rfl rfl ?_
    refine ye_p rfl rfl ?_
    have g0_z4 := xG_o1 (i := 5) (v := .int 0) g0_z3 rfl
    have g1_z4 := xG_o1 (i := 5) (v := .int 0) g1_z3 rfl
    have g2_z4 := xG_o1 (i := 5) (v := .int 0) g2_z3 rfl
    have g3_z4 := xG_o1 (i := 5) (v := .int 0) g3_z3 rfl
    have g4_z4 := xG_o1 (i := 5) (v := .int 0) g4_z3 rfl
    have g5_z4 := xG_same lvz3 5 (.int 0)
    generalize xSt1 lvz3 5 (.int 0) = lvz4 at g0_z4 g1_z4 g2_z4 g3_z4 g4_z4 g5_z4 ⊢
    refine ye_aload rfl g0_z4 ?_
    refine ye_getr rfl (M2.obj fa0 ⟨rfl, rfl⟩) rfl (fun cx3 ecx3 => ?_)
    have fcx3 := M2.root 10 0 (by decide) rfl ecx3
    obtain ⟨w3, S3, hw3, h⟩ := bS_some h
    obtain ⟨y3, T2, ss1, cy3, M3, G2⟩ := (m_X10_keep (d := d + 3) (T := T1) N S2 cx3 fcx3 hw3) H1.2.2.2.1 y2 M2
    refine ye_callV (As := []) (rest := []) 0 (Or.inl rfl) rfl rfl rfl (Nat.le_of_ble_eq_true rfl) (M2.obj fcx3 ⟨rfl, rfl⟩) cy3 ?_
    have H2 := H1.tr G2
    replace fa0 := G2.at fa0
    replace fcx1 := G2.at fcx1
    refine ye_p rfl rfl ?_
    refine ye_p rfl rfl ?_
    have g0_z5 := xG_o1 (i := 6) (v := .int 0) g0_z4 rfl
    have g1_z5 := xG_o1 (i := 6) (v := .int 0) g1_z4 rfl
    have g2_z5 := xG_o1 (i := 6) (v := .int 0) g2_z4 rfl
    have g3_z5 := xG_o1 (i := 6) (v := .int 0) g3_z4 rfl
    have g4_z5 := xG_o1 (i := 6) (v := .int 0) g4_z4 rfl
    have g5_z5 := xG_o1 (i := 6) (v := .int 0) g5_z4 rfl
    have g6_z5 := xG_same lvz4 6 (.int 0)
    generalize xSt1 lvz4 6 (.int 0) = lvz5 at g0_z5 g1_z5 g2_z5 g3_z5 g4_z5 g5_z5 g6_z5 ⊢
    exact w_X11_plan_40 (prim := prim) (d := d) N N S3 l1 w2 0 0 0 T2 ((sl + 6) + ss1) y3 lvz5 a0 cx1 fa0 fcx1 g0_z5 g1_z5 g2_z5 g3_z5 g4_z5 g5_z5 g6_z5 H2 M3 h
  · replace h := yiN h1 h
    refine ye_p rfl rfl ?_
    exact ye_ret rfl rfl (rN h hM hG.wk)
def f_X11_plan (N : Nat) (S : yS) (xl1 : Int32) : Option (Int32 × yS) := f_X11_plan_0 N S xl1
theorem m_X11_plan {F : xH} {ev : xEv} {prim : xRel} {d : Nat} {T : yT} {v : Int32} {S' : yS} (N : Nat) (S : yS) (xl1 : Int32) (a0 : Nat) (fa0 : yAt T 11 0 0 a0) (h : f_X11_plan N S xl1 = some (v, S')) : ykN [0, 1, 2, 3, 4, 5, 6, 7] F ev prim (d + 7) 168 T S [.ref a0, .int xl1] (some (.int v)) S' 1 :=
  ykN.of (pg_168 ev) mi_168 (Nat.le_of_ble_eq_true rfl) (fun hz hp hM => w_X11_plan_0 (prim := prim) (d := d) N S xl1 T 0 hp _ a0 fa0 rfl rfl (yG.rf hz 0) hM h)

def f_X11_lamps_33 (N : Nat) (S : yS) : Option (Int32 × yS) := some ((-1), S)
set_option maxHeartbeats 4000000 in
set_option maxRecDepth 40000 in
theorem w_X11_lamps_33 {F : xH} {ev : xEv} {prim : xRel} {d : Nat} {T0 : yT} {v : Int32} {S' : yS} (N : Nat) (S : yS) (T : yT) (sl : Nat) (hp : xH) (lv : xLv) (hG : yG T0 T sl 0) (hM : cR [0, 1, 2, 3, 4, 5, 6, 7] F ev T S hp) (h : f_X11_lamps_33 N S = some (v, S')) : yWE ev.2.1 (xstr ev) (xCalls ev xmi (xprog ev) prim (d + 6)) (pX11_lamps ev) (33, lv, [], hp, T.2.2.1, sl) (ypN [0, 1, 2, 3, 4, 5, 6, 7] F ev T0 (some (.int v)) S' 0) := by
  unfold f_X11_lamps_33 at h
  refine ye_p rfl rfl ?_
  exact ye_ret rfl rfl (rN h hM hG)

def f_X11_lamps_166 (N : Nat) (k56 : yS → Int32 → Int32 → Int32 → Int32 → Int32 → Int32 → Int32 → Option (Int32 × yS)) (S : yS) (l1 : Int32) (l2 : Int32) (l3 : Int32) (l4 : Int32) (l5 : Int32) (l6 : Int32) (l7 : Int32) : Option (Int32 × yS) := k56 S l1 l2 l3 l4 l5 l6 (l7 + (-1))
set_option maxHeartbeats 4000000 in
set_option maxRecDepth 40000 in
theorem w_X11_lamps_166 {F : xH} {ev : xEv} {prim : xRel} {d : Nat} {T0 : yT} {v : Int32} {S' : yS} (N : Nat) (k56 : yS → Int32 → Int32 → Int32 → Int32 → Int32 → Int32 → Int32 → Option (Int32 × yS)) (u56 : ∀ (S : yS) (l1 : Int32) (l2 : Int32) (l3 : Int32) (l4 : Int32) (l5 : Int32) (l6 : Int32) (l7 : Int32) (T : yT) (sl : Nat) (hp : xH) (lv : xLv) (a0 : Nat) (fa0 : yAt T 11 0 0 a0) (g0 : xG lv 0 = some (.ref a0)) (g1 : xG lv 1 = some (.int l1)) (g2 : xG lv 2 = some (.int l2)) (g3 : xG lv 3 = some (.int l3)) (g4 : xG lv 4 = some (.int l4)) (g5 : xG lv 5 = some (.int l5)) (g6 : xG lv 6 = some (.int l6)) (g7 : xG lv 7 = some (.int l7)) (hG : yG T0 T sl 0) (hM : cR [0, 1, 2, 3, 4, 5, 6, 7] F ev T S hp) (h : k56 S l1 l2 l3 l4 l5 l6 l7 = some (v, S')), yWE ev.2.1 (xstr ev) (xCalls ev xmi (xprog ev) prim (d + 6)) (pX11_lamps ev) (56, lv, [], hp, T.2.2.1, sl) (ypN [0, 1, 2, 3, 4, 5, 6, 7] F ev T0 (some (.int v)) S' 0)) (S : yS) (l1 : Int32) (l2 : Int32) (l3 : Int32) (l4 : Int32) (l5 : Int32) (l6 : Int32) (l7 : Int32) (T : yT) (sl : Nat) (hp : xH) (lv : xLv) (a0 : Nat) (fa0 : yAt T 11 0 0 a0) (g0 : xG lv 0 = some (.ref a0)) (g1 : xG lv 1 = some (.int l1)) (g2 : xG lv 2 = some (.int l2)) (g3 : xG lv 3 = some (.int l3)) (g4 : xG lv 4 = some (.int l4)) (g5 : xG lv 5 = some (.int l5)) (g6 : xG lv 6 = some (.int l6)) (g7 : xG lv 7 = some (.int l7)) (hG : yG T0 T sl 0) (hM : cR [0, 1, 2, 3, 4, 5, 6, 7] F ev T S hp) (h : f_X11_lamps_166 N k56 S l1 l2 l3 l4 l5 l6 l7 = some (v, S')) : yWE ev.2.1 (xstr ev) (xCalls ev xmi (xprog ev) prim (d + 6)) (pX11_lamps ev) (166, lv, [], hp, T.2.2.1, sl) (ypN [0, 1, 2, 3, 4, 5, 6, 7] F ev T0 (some (.int v)) S' 0) := by
  unfold f_X11_lamps_166 at h
  refine ye_iinc rfl g7 ?_
  have g0_z1 := xG_o1 (i := 7) (v := .int (l7 + (-1))) g0 rfl
  have g1_z1 := xG_o1 (i := 7) (v := .int (l7 + (-1))) g1 rfl
  have g2_z1 := xG_o1 (i := 7) (v := .int (l7 + (-1))) g2 rfl
  have g3_z1 := xG_o1 (i := 7) (v := .int (l7 + (-1))) g3 rfl
  have g4_z1 := xG_o1 (i := 7) (v := .int (l7 + (-1))) g4 rfl
  have g5_z1 := xG_o1 (i := 7) (v := .int (l7 + (-1))) g5 rfl
  have g6_z1 := xG_o1 (i := 7) (v := .int (l7 + (-1))) g6 rfl
  have g7_z1 := xG_same lv 7 (.int (l7 + (-1)))
  generalize xSt1 lv 7 (.int (l7 + (-1))) = lvz1 at g0_z1 g1_z1 g2_z1 g3_z1 g4_z1 g5_z1 g6_z1 g7_z1 ⊢
  refine ye_p rfl rfl ?_
  exact u56 S l1 l2 l3 l4 l5 l6 (l7 + (-1)) T sl hp lvz1 a0 fa0 g0_z1 g1_z1 g2_z1 g3_z1 g4_z1 g5_z1 g6_z1 g7_z1 hG hM h

def f_X11_lamps_154 (N : Nat) (k56 : yS → Int32 → Int32 → Int32 → Int32 → Int32 → Int32 → Int32 → Option (Int32 × yS)) (S : yS) (l1 : Int32) (l2 : Int32) (l3 : Int32) (l7 : Int32) (l8 : Int32) (l9 : Int32) : Option (Int32 × yS) := f_X11_lamps_166 N k56 S l1 l2 l3 l7 l8 l9 l7
set_option maxHeartbeats 4000000 in
set_option maxRecDepth 40000 in
theorem w_X11_lamps_154 {F : xH} {ev : xEv} {prim : xRel} {d : Nat} {T0 : yT} {v : Int32} {S' : yS} (N : Nat) (k56 : yS → Int32 → Int32 → Int32 → Int32 → Int32 → Int32 → Int32 → Option (Int32 × yS)) (u56 : ∀ (S : yS) (l1 : Int32) (l2 : Int32) (l3 : Int32) (l4 : Int32) (l5 : Int32) (l6 : Int32) (l7 : Int32) (T : yT) (sl : Nat) (hp : xH) (lv : xLv) (a0 : Nat) (fa0 : yAt T 11 0 0 a0) (g0 : xG lv 0 = some (.ref a0)) (g1 : xG lv 1 = some (.int l1)) (g2 : xG lv 2 = some (.int l2)) (g3 : xG lv 3 = some (.int l3)) (g4 : xG lv 4 = some (.int l4)) (g5 : xG lv 5 = some (.int l5)) (g6 : xG lv 6 = some (.int l6)) (g7 : xG lv 7 = some (.int l7)) (hG : yG T0 T sl 0) (hM : cR [0, 1, 2, 3, 4, 5, 6, 7] F ev T S hp) (h : k56 S l1 l2 l3 l4 l5 l6 l7 = some (v, S')), yWE ev.2.1 (xstr ev) (xCalls ev xmi (xprog ev) prim (d + 6)) (pX11_lamps ev) (56, lv, [], hp, T.2.2.1, sl) (ypN [0, 1, 2, 3, 4, 5, 6, 7] F ev T0 (some (.int v)) S' 0)) (S : yS) (l1 : Int32) (l2 : Int32) (l3 : Int32) (l7 : Int32) (l8 : Int32) (l9 : Int32) (T : yT) (sl : Nat) (hp : xH) (lv : xLv) (a0 : Nat) (fa0 : yAt T 11 0 0 a0) (g0 : xG lv 0 = some (.ref a0)) (g1 : xG lv 1 = some (.int l1)) (g2 : xG lv 2 = some (.int l2)) (g3 : xG lv 3 = some (.int l3)) (g7 : xG lv 7 = some (.int l7)) (g8 : xG lv 8 = some (.int l8)) (g9 : xG lv 9 = some (.int l9)) (hG : yG T0 T sl 0) (hM : cR [0, 1, 2, 3, 4, 5, 6, 7] F ev T S hp) (h : f_X11_lamps_154 N k56 S l1 l2 l3 l7 l8 l9 = some (v, S')) : yWE ev.2.1 (xstr ev) (xCalls ev xmi (xprog ev) prim (d + 6)) (pX11_lamps ev) (154, lv, [], hp, T.2.2.1, sl) (ypN [0, 1, 2, 3, 4, 5, 6, 7] F ev T0 (some (.int v)) S' 0) := by
  unfold f_X11_lamps_154 at h
  refine ye_iload rfl g7 ?_
  refine ye_p rfl rfl ?_
  have g0_z1 := xG_o1 (i := 4) (v := .int l7) g0 rfl
  have g1_z1 := xG_o1 (i := 4) (v := .int l7) g1 rfl
  have g2_z1 := xG_o1 (i := 4) (v := .int l7) g2 rfl
  have g3_z1 := xG_o1 (i := 4) (v := .int l7) g3 rfl
  have g7_z1 := xG_o1 (i := 4) (v := .int l7) g7 rfl
  have g8_z1 := xG_o1 (i := 4) (v := .int l7) g8 rfl
  have g9_z1 := xG_o1 (i := 4) (v := .int l7) g9 rfl
  have g4_z1 := xG_same lv 4 (.int l7)
  generalize xSt1 lv 4 (.int l7) = lvz1 at g0_z1 g1_z1 g2_z1 g3_z1 g7_z1 g8_z1 g9_z1 g4_z1 ⊢
  refine ye_iload rfl g8_z1 ?_
  refine ye_p rfl rfl ?_
  have g0_z2 := xG_o1 (i := 5) (v := .int l8) g0_z1 rfl
  have g1_z2 := xG_o1 (i := 5) (v := .int l8) g1_z1 rfl
  have g2_z2 := xG_o1 (i := 5) (v := .int l8) g2_z1 rfl
  have g3_z2 := xG_o1 (i := 5) (v := .int l8) g3_z1 rfl
  have g4_z2 := xG_o1 (i := 5) (v := .int l8) g4_z1 rfl
  have g7_z2 := xG_o1 (i := 5) (v := .int l8) g7_z1 rfl
  have g9_z2 := xG_o1 (i := 5) (v := .int l8) g9_z1 rfl
  have g5_z2 := xG_same lvz1 5 (.int l8)
  generalize xSt1 lvz1 5 (.int l8) = lvz2 at g0_z2 g1_z2 g2_z2 g3_z2 g4_z2 g7_z2 g9_z2 g5_z2 ⊢
  refine ye_iload rfl g9_z2 ?_
  refine ye_p rfl rfl ?_
  have g0_z3 := xG_o1 (i := 6) (v := .int l9) g0_z2 rfl
  have g1_z3 := xG_o1 (i := 6) (v := .int l9) g1_z2 rfl
  have g2_z3 := xG_o1 (i := 6) (v := .int l9) g2_z2 rfl
  have g3_z3 := xG_o1 (i := 6) (v := .int l9) g3_z2 rfl
  have g4_z3 := xG_o1 (i := 6) (v := .int l9) g4_z2 rfl
  have g5_z3 := xG_o1 (i := 6) (v := .int l9) g5_z2 rfl
  have g7_z3 := xG_o1 (i := 6) (v := .int l9) g7_z2 rfl
  have g6_z3 := xG_same lvz2 6 (.int l9)
  generalize xSt1 lvz2 6 (.int l9) = lvz3 at g0_z3 g1_z3 g2_z3 g3_z3 g4_z3 g5_z3 g7_z3 g6_z3 ⊢
  exact w_X11_lamps_166 (prim := prim) (d := d) N k56 u56 S l1 l2 l3 l7 l8 l9 l7 T sl hp lvz3 a0 fa0 g0_z3 g1_z3 g2_z3 g3_z3 g4_z3 g5_z3 g6_z3 g7_z3 hG hM h

def f_X11_lamps_56 : Nat → Nat → yS → Int32 → Int32 → Int32 → Int32 → Int32 → Int32 → Int32 → Option (Int32 × yS)
  | 0, _, _, _, _, _, _, _, _, _ => none
  | n + 1, N, S, l1, l2, l3, l4, l5, l6, l7 => if l7 < 0 then bS (f_X2_listFields N S l4) fun w1 S1 => sq (yI S1 0 8 w1) fun S2 => some (l5, S2) else bV (f_J6_bitCount_0f7a4 N S l7) fun w2 => if ¬ w2 = l1 then f_X11_lamps_166 N (fun S l1 l2 l3 l4 l5 l6 l7 => f_X11_lamps_56 n N S l1 l2 l3 l4 l5 l6 l7) S l1 l2 l3 l4 l5 l6 l7 else if ¬ (l7 &&& l3) = l7 then f_X11_lamps_166 N (fun S l1 l2 l3 l4 l5 l6 l7 => f_X11_lamps_56 n N S l1 l2 l3 l4 l5 l6 l7) S l1 l2 l3 l4 l5 l6 l7 else bS (f_X2_light N S l7 1) fun w3 S3 => bS (f_X10_pass N S3 l2) fun w4 S4 => bV (f_X10_bagsGiven N S4 1) fun w5 => bS (f_X10_coinNow N S4) fun w6 S5 => bS (f_X10_giveBack N S5) fun w7 S6 => bS (f_X2_light N S6 l7 0) fun w8 S7 => if l5 < w5 then f_X11_lamps_154 N (fun S l1 l2 l3 l4 l5 l6 l7 => f_X11_lamps_56 n N S l1 l2 l3 l4 l5 l6 l7) S7 l1 l2 l3 l7 w5 w6 else if ¬ w5 = l5 then f_X11_lamps_166 N (fun S l1 l2 l3 l4 l5 l6 l7 => f_X11_lamps_56 n N S l1 l2 l3 l4 l5 l6 l7) S7 l1 l2 l3 l4 l5 l6 l7 else if w6 ≤ l6 then f_X11_lamps_166 N (fun S l1 l2 l3 l4 l5 l6 l7 => f_X11_lamps_56 n N S l1 l2 l3 l4 l5 l6 l7) S7 l1 l2 l3 l4 l5 l6 l7 else f_X11_lamps_154 N (fun S l1 l2 l3 l4 l5 l6 l7 => f_X11_lamps_56 n N S l1 l2 l3 l4 l5 l6 l7) S7 l1 l2 l3 l7 w5 w6
set_option maxHeartbeats 4000000 in
set_option maxRecDepth 40000 in
theorem w_X11_lamps_56 {F : xH} {ev : xEv} {prim : xRel} {d : Nat} {T0 : yT} {v : Int32} {S' : yS} (N : Nat) (n : Nat) : ∀ (S : yS) (l1 : Int32) (l2 : Int32) (l3 : Int32) (l4 : Int32) (l5 : Int32) (l6 : Int32) (l7 : Int32) (T : yT) (sl : Nat) (hp : xH) (lv : xLv) (a0 : Nat) (fa0 : yAt T 11 0 0 a0) (g0 : xG lv 0 = some (.ref a0)) (g1 : xG lv 1 = some (.int l1)) (g2 : xG lv 2 = some (.int l2)) (g3 : xG lv 3 = some (.int l3)) (g4 : xG lv 4 = some (.int l4)) (g5 : xG lv 5 = some (.int l5)) (g6 : xG lv 6 = some (.int l6)) (g7 : xG lv 7 = some (.int l7)) (hG : yG T0 T sl 0) (hM : cR [0, 1, 2, 3, 4, 5, 6, 7] F ev T S hp) (h : f_X11_lamps_56 n N S l1 l2 l3 l4 l5 l6 l7 = some (v, S')), yWE ev.2.1 (xstr ev) (xCalls ev xmi (xprog ev) prim (d + 6)) (pX11_lamps ev) (56, lv, [], hp, T.2.2.1, sl) (ypN [0, 1, 2, 3, 4, 5, 6, 7] F ev T0 (some (.int v)) S' 0) := by
  induction n with
  | zero => intro S l1 l2 l3 l4 l5 l6 l7 T sl hp lv a0 fa0 g0 g1 g2 g3 g4 g5 g6 g7 hG hM h; exact n_some h
  | succ n ih =>
    intro S l1 l2 l3 l4 l5 l6 l7 T sl hp lv a0 fa0 g0 g1 g2 g3 g4 g5 g6 g7 hG hM h
    unfold f_X11_lamps_56 at h
    refine ye_iload rfl g7 ?_
    refine ye_if_lt rfl (fun h1 => ?_) (fun h1 => ?_)
    · replace h := yiT h1 h
      refine ye_aload rfl g0 ?_
      refine ye_aload rfl g0 ?_
      refine ye_getr rfl (hM.obj fa0 ⟨rfl, rfl⟩) rfl (fun cx1 ecx1 => ?_)
      have fcx1 := hM.root 2 0 (by decide) rfl ecx1
      refine ye_iload rfl g4 ?_
      refine ye_aload rfl g0 ?_
      refine ye_getr rfl (hM.obj fa0 ⟨rfl, rfl⟩) rfl (fun cx2 ecx2 => ?_)
      have fcx2 := yAt.row fa0 ecx2
      obtain ⟨w1, S1, hw1, h⟩ := bS_some h
      obtain ⟨y1, cy1, M1⟩ := (m_X2_listFields (d := d + 4) (T := T) N S l4 cx1 cx2 fcx1 fcx2 hw1) hp _ hM
      refine ye_callV (As := [.int l4, .ref cx2]) (rest := [.ref a0]) 0 (Or.inl rfl) rfl rfl rfl (Nat.le_of_ble_eq_true rfl) (hM.obj fcx1 ⟨rfl, rfl⟩) cy1 ?_
      obtain ⟨S2, eS2, h⟩ := sq_some h
      refine yw_putI rfl M1 fa0 rfl ⟨rfl, rfl⟩ (Nat.le_of_ble_eq_true rfl) rfl rfl (ys_11_8 ev _ _ w1) (fun q => absurd q (by decide)) eS2 (fun y2 M2 => ?_)
      refine ye_iload rfl g5 ?_
      exact ye_ret rfl rfl (rN h M2 hG)
    · replace h := yiN h1 h
      refine ye_iload rfl g7 ?_
      obtain ⟨w2, hw2, h⟩ := bV_some h
      refine ye_callS (As := [.int l7]) (rest := []) 1 (Or.inl rfl) rfl rfl rfl (Nat.le_of_ble_eq_true rfl) ((m_J6_bitCount_0f7a4 (d := d + 5) (T := T) N S l7 hw2) hp _ hM) ?_
      refine ye_iload rfl g1 ?_
      refine ye_icmp_ne rfl (fun h2 => ?_) (fun h2 => ?_)
      · replace h := yiT h2 h
        exact w_X11_lamps_166 (prim := prim) (d := d) N (fun S l1 l2 l3 l4 l5 l6 l7 => f_X11_lamps_56 n N S l1 l2 l3 l4 l5 l6 l7) ih S l1 l2 l3 l4 l5 l6 l7 T sl hp lv a0 fa0 g0 g1 g2 g3 g4 g5 g6 g7 hG hM h
      · replace h := yiN h2 h
        refine ye_iload rfl g7 ?_
        refine ye_iload rfl g3 ?_
        refine ye_p rfl rfl ?_
        refine ye_iload rfl g7 ?_
        refine ye_icmp_ne rfl (fun h3 => ?_) (fun h3 => ?_)
        · replace h := yiT h3 h
          exact w_X11_lamps_166 (prim := prim) (d := d) N (fun S l1 l2 l3 l4 l5 l6 l7 => f_X11_lamps_56 n N S l1 l2 l3 l4 l5 l6 l7) ih S l1 l2 l3 l4 l5 l6 l7 T sl hp lv a0 fa0 g0 g1 g2 g3 g4 g5 g6 g7 hG hM h
        · replace h := yiN h3 h
          refine ye_aload rfl g0 ?_
          refine ye_getr rfl (hM.obj fa0 ⟨rfl, rfl⟩) rfl (fun cx3 ecx3 => ?_)
          have fcx3 := hM.root 2 0 (by decide) rfl ecx3
          refine ye_iload rfl g7 ?_
          refine ye_p rfl rfl ?_
          obtain ⟨w3, S3, hw3, h⟩ := bS_some h
          obtain ⟨y3, cy3, M3⟩ := (m_X2_light (d := d + 4) (T := T) N S l7 1 cx3 fcx3 hw3) hp _ hM
          refine ye_callV (As := [.int l7, .int 1]) (rest := []) 0 (Or.inl rfl) rfl rfl rfl (Nat.le_of_ble_eq_true rfl) (hM.obj fcx3 ⟨rfl, rfl⟩) cy3 ?_
          refine ye_aload rfl g0 ?_
          refine ye_getr rfl (M3.obj fa0 ⟨rfl, rfl⟩) rfl (fun cx4 ecx4 => ?_)
          have fcx4 := M3.root 10 0 (by decide) rfl ecx4
          refine ye_iload rfl g2 ?_
          obtain ⟨w4, S4, hw4, h⟩ := bS_some h
          obtain ⟨y4, cy4, M4⟩ := (m_X10_pass (d := d + 0) (T := T) N S3 l2 cx4 fcx4 hw4) y3 _ M3
          refine ye_callV (As := [.int l2]) (rest := []) 0 (Or.inl rfl) rfl rfl rfl (Nat.le_of_ble_eq_true rfl) (M3.obj fcx4 ⟨rfl, rfl⟩) cy4 ?_
          refine ye_aload rfl g0 ?_
          refine ye_getr rfl (M4.obj fa0 ⟨rfl, rfl⟩) rfl (fun cx5 ecx5 => ?_)
          have fcx5 := M4.root 10 0 (by decide) rfl ecx5
          refine ye_p rfl rfl ?_
          obtain ⟨w5, hw5, h⟩ := bV_some h
          refine ye_callV (As := [.int 1]) (rest := []) 0 (Or.inl rfl) rfl rfl rfl (Nat.le_of_ble_eq_true rfl) (M4.obj fcx5 ⟨rfl, rfl⟩) ((m_X10_bagsGiven (d := d + 4) (T := T) N S4 1 cx5 fcx5 hw5) y4 _ M4) ?_
          refine ye_p rfl rfl ?_
          have g0_z1 := xG_o1 (i := 8) (v := .int w5) g0 rfl
          have g1_z1 := xG_o1 (i := 8) (v := .int w5) g1 rfl
          have g2_z1 := xG_o1 (i := 8) (v := .int w5) g2 rfl
          have g3_z1 := xG_o1 (i := 8) (v := .int w5) g3 rfl
          have g4_z1 := xG_o1 (i := 8) (v := .int w5) g4 rfl
          have g5_z1 := xG_o1 (i := 8) (v := .int w5) g5 rfl
          have g6_z1 := xG_o1 (i := 8) (v := .int w5) g6 rfl
          have g7_z1 := xG_o1 (i := 8) (v := .int w5) g7 rfl
          have g8_z1 := xG_same lv 8 (.int w5)
          generalize xSt1 lv 8 (.int w5) = lvz1 at g0_z1 g1_z1 g2_z1 g3_z1 g4_z1 g5_z1 g6_z1 g7_z1 g8_z1 ⊢
          refine ye_aload rfl g0_z1 ?_
          refine ye_getr rfl (M4.obj fa0 ⟨rfl, rfl⟩) rfl (fun cx6 ecx6 => ?_)
          have fcx6 := M4.root 10 0 (by decide) rfl ecx6
          obtain ⟨w6, S5, hw6, h⟩ := bS_some h
          obtain ⟨y5, cy5, M5⟩ := (m_X10_coinNow (d := d + 0) (T := T) N S4 cx6 fcx6 hw6) y4 _ M4
          refine ye_callV (As := []) (rest := []) 0 (Or.inl rfl) rfl rfl rfl (Nat.le_of_ble_eq_true rfl) (M4.obj fcx6 ⟨rfl, rfl⟩) cy5 ?_
          refine ye_p rfl rfl ?_
          have g0_z2 := xG_o1 (i := 9) (v := .int w6) g0_z1 rfl
          have g1_z2 := xG_o1 (i := 9) (v := .int w6) g1_z1 rfl
          have g2_z2 := xG_o1 (i := 9) (v := .int w6) g2_z1 rfl
          have g3_z2 := xG_o1 (i := 9) (v := .int w6) g3_z1 rfl
          have g4_z2 := xG_o1 (i := 9) (v := .int w6) g4_z1 rfl
          have g5_z2 := xG_o1 (i := 9) (v := .int w6) g5_z1 rfl
          have g6_z2 := xG_o1 (i := 9) (v := .int w6) g6_z1 rfl
          have g7_z2 := xG_o1 (i := 9) (v := .int w6) g7_z1 rfl
          have g8_z2 := xG_o1 (i := 9) (v := .int w6) g8_z1 rfl
          have g9_z2 := xG_same lvz1 9 (.int w6)
          generalize xSt1 lvz1 9 (.int w6) = lvz2 at g0_z2 g1_z2 g2_z2 g3_z2 g4_z2 g5_z2 g6_z2 g7_z2 g8_z2 g9_z2 ⊢
          refine ye_aload rfl g0_z2 ?_
          refine ye_getr rfl (M5.obj fa0 ⟨rfl, rfl⟩) rfl (fun cx7 ecx7 => ?_)
          have fcx7 := M5.root 10 0 (by decide) rfl ecx7
          obtain ⟨w7, S6, hw7, h⟩ := bS_some h
          obtain ⟨y6, cy6, M6⟩ := (m_X10_giveBack (d := d + 3) (T := T) N S5 cx7 fcx7 hw7) y5 _ M5
          refine ye_callV (As := []) (rest := []) 0 (Or.inl rfl) rfl rfl rfl (Nat.le_of_ble_eq_true rfl) (M5.obj fcx7 ⟨rfl, rfl⟩) cy6 ?_
          refine ye_aload rfl g0_z2 ?_
          refine ye_getr rfl (M6.obj fa0 ⟨rfl, rfl⟩) rfl (fun cx8 ecx8 => ?_)
          have fcx8 := M6.root 2 0 (by decide) rfl ecx8
          refine ye_iload rfl g7_z2 ?_
          refine ye_p rfl rfl ?_
          obtain ⟨w8, S7, hw8, h⟩ := bS_some h
          obtain ⟨y7, cy7, M7⟩ := (m_X2_light (d := d + 4) (T := T) N S6 l7 0 cx8 fcx8 hw8) y6 _ M6
          refine ye_callV (As := [.int l7, .int 0]) (rest := []) 0 (Or.inl rfl) rfl rfl rfl (Nat.le_of_ble_eq_true rfl) (M6.obj fcx8 ⟨rfl, rfl⟩) cy7 ?_
          refine ye_iload rfl g8_z2 ?_
          refine ye_iload rfl g5_z2 ?_
          refine ye_icmp_gt rfl (fun h4 => ?_) (fun h4 => ?_)
          · replace h := yiT h4 h
            exact w_X11_lamps_154 (prim := prim) (d := d) N (fun S l1 l2 l3 l4 l5 l6 l7 => f_X11_lamps_56 n N S l1 l2 l3 l4 l5 l6 l7) ih S7 l1 l2 l3 l7 w5 w6 T sl y7 lvz2 a0 fa0 g0_z2 g1_z2 g2_z2 g3_z2 g7_z2 g8_z2 g9_z2 hG M7 h
          · replace h := yiN h4 h
            refine ye_iload rfl g8_z2 ?_
            refine ye_iload rfl g5_z2 ?_
            refine ye_icmp_ne rfl (fun h5 => ?_) (fun h5 => ?_)
            · replace h := yiT h5 h
              exact w_X11_lamps_166 (prim := prim) (d := d) N (fun S l1 l2 l3 l4 l5 l6 l7 => f_X11_lamps_56 n N S l1 l2 l3 l4 l5 l6 l7) ih S7 l1 l2 l3 l4 l5 l6 l7 T sl y7 lvz2 a0 fa0 g0_z2 g1_z2 g2_z2 g3_z2 g4_z2 g5_z2 g6_z2 g7_z2 hG M7 h
            · replace h := yiN h5 h
              refine ye_iload rfl g9_z2 ?_
              refine ye_iload rfl g6_z2 ?_
              refine ye_icmp_le rfl (fun h6 => ?_) (fun h6 => ?_)
              · replace h := yiT h6 h
                exact w_X11_lamps_166 (prim := prim) (d := d) N (fun S l1 l2 l3 l4 l5 l6 l7 => f_X11_lamps_56 n N S l1 l2 l3 l4 l5 l6 l7) ih S7 l1 l2 l3 l4 l5 l6 l7 T sl y7 lvz2 a0 fa0 g0_z2 g1_z2 g2_z2 g3_z2 g4_z2 g5_z2 g6_z2 g7_z2 hG M7 h
              · replace h := yiN h6 h
                exact w_X11_lamps_154 (prim := prim) (d := d) N (fun S l1 l2 l3 l4 l5 l6 l7 => f_X11_lamps_56 n N S l1 l2 l3 l4 l5 l6 l7) ih S7 l1 l2 l3 l7 w5 w6 T sl y7 lvz2 a0 fa0 g0_z2 g1_z2 g2_z2 g3_z2 g7_z2 g8_z2 g9_z2 hG M7 h

def f_X11_lamps_0 (N : Nat) (S : yS) (l1 : Int32) (l2 : Int32) : Option (Int32 × yS) := bV (f_X2_darkFields N S) fun w1 => bV (f_X11_mayTry N S l2) fun w2 => if w2 = 0 then f_X11_lamps_33 N S else bV (f_X11_within N S l1 0 2) fun w3 => if w3 = 0 then f_X11_lamps_33 N S else bV (f_J6_bitCount_0f7a4 N S w1) fun w4 => if l1 ≤ w4 then bS (f_X10_keep N S) fun w5 S1 => f_X11_lamps_56 N N S1 l1 l2 w1 0 ((-1)) 0 255 else f_X11_lamps_33 N S
set_option maxHeartbeats 4000000 in
set_option maxRecDepth 40000 in
theorem w_X11_lamps_0 {F : xH} {ev : xEv} {prim : xRel} {d : Nat} {T0 : yT} {v : Int32} {S' : yS} (N : Nat) (S : yS) (l1 : Int32) (l2 : Int32) (T : yT) (sl : Nat) (hp : xH) (lv : xLv) (a0 : Nat) (fa0 : yAt T 11 0 0 a0) (g0 : xG lv 0 = some (.ref a0)) (g1 : xG lv 1 = some (.int l1)) (g2 : xG lv 2 = some (.int l2)) (hG : yG T0 T sl 0) (hM : cR [0, 1, 2, 3, 4, 5, 6, 7] F ev T S hp) (h : f_X11_lamps_0 N S l1 l2 = some (v, S')) : yWE ev.2.1 (xstr ev) (xCalls ev xmi (xprog ev) prim (d + 6)) (pX11_lamps ev) (0, lv, [], hp, T.2.2.1, sl) (ypN [0, 1, 2, 3, 4, 5, 6, 7] F ev T0 (some (.int v)) S' 0) := by
  unfold f_X11_lamps_0 at h
  refine ye_aload rfl g0 ?_
  refine ye_getr rfl (hM.obj fa0 ⟨rfl, rfl⟩) rfl (fun cx1 ecx1 => ?_)
  have fcx1 := hM.root 2 0 (by decide) rfl ecx1
  obtain ⟨w1, hw1, h⟩ := bV_some h
  refine ye_callV (As := []) (rest := []) 0 (Or.inl rfl) rfl rfl rfl (Nat.le_of_ble_eq_true rfl) (hM.obj fcx1 ⟨rfl, rfl⟩) ((m_X2_darkFields (d := d + 4) (T := T) N S cx1 fcx1 hw1) hp _ hM) ?_
  refine ye_p rfl rfl ?_
  have g0_z1 := xG_o1 (i := 3) (v := .int w1) g0 rfl
  have g1_z1 := xG_o1 (i := 3) (v := .int w1) g1 rfl
  have g2_z1 := xG_o1 (i := 3) (v := .int w1) g2 rfl
  have g3_z1 := xG_same lv 3 (.int w1)
  generalize xSt1 lv 3 (.int w1) = lvz1 at g0_z1 g1_z1 g2_z1 g3_z1 ⊢
  refine ye_aload rfl g0_z1 ?_
  refine ye_iload rfl g2_z1 ?_
  obtain ⟨w2, hw2, h⟩ := bV_some h
  refine ye_callV (As := [.int l2]) (rest := []) 0 (Or.inl rfl) rfl rfl rfl (Nat.le_of_ble_eq_true rfl) (hM.obj fa0 ⟨rfl, rfl⟩) ((m_X11_mayTry (d := d + 4) (T := T) N S l2 a0 fa0 hw2) hp _ hM) ?_
  refine ye_if_eq rfl (fun h1 => ?_) (fun h1 => ?_)
  · replace h := yiT h1 h
    exact w_X11_lamps_33 (prim := prim) (d := d) N S T sl hp lvz1 hG hM h
  · replace h := yiN h1 h
    refine ye_iload rfl g1_z1 ?_
    refine ye_p rfl rfl ?_
    refine ye_p rfl rfl ?_
    obtain ⟨w3, hw3, h⟩ := bV_some h
    refine ye_callS (As := [.int l1, .int 0, .int 2]) (rest := []) 1 (Or.inl rfl) rfl rfl rfl (Nat.le_of_ble_eq_true rfl) ((m_X11_within (d := d + 5) (T := T) N S l1 0 2 hw3) hp _ hM) ?_
    refine ye_if_eq rfl (fun h2 => ?_) (fun h2 => ?_)
    · replace h := yiT h2 h
      exact w_X11_lamps_33 (prim := prim) (d := d) N S T sl hp lvz1 hG hM h
    · replace h := yiN h2 h
      refine ye_iload rfl g3_z1 ?_
      obtain ⟨w4, hw4, h⟩ := bV_some h
      refine ye_callS (As := [.int w1]) (rest := []) 1 (Or.inl rfl) rfl rfl rfl (Nat.le_of_ble_eq_true rfl) ((m_J6_bitCount_0f7a4 (d := d + 5) (T := T) N S w1 hw4) hp _ hM) ?_
      refine ye_iload rfl g1_z1 ?_
      refine ye_icmp_ge rfl (fun h3 => ?_) (fun h3 => ?_)
      · replace h := yiT h3 h
        refine ye_p rfl rfl ?_
        refine ye_p rfl rfl ?_
        have g0_z2 := xG_o1 (i := 4) (v := .int 0) g0_z1 rfl
        have g1_z2 := xG_o1 (i := 4) (v := .int 0) g1_z1 rfl
        have g2_z2 := xG_o1 (i := 4) (v := .int 0) g2_z1 rfl
        have g3_z2 := xG_o1 (i := 4) (v := .int 0) g3_z1 rfl
        have g4_z2 := xG_same lvz1 4 (.int 0)
        generalize xSt1 lvz1 4 (.int 0) = lvz2 at g0_z2 g1_z2 g2_z2 g3_z2 g4_z2 ⊢
        refine ye_p rfl rfl ?_
        refine ye_p rfl rfl ?_
        have g0_z3 := xG_o1 (i := 5) (v := .int ((-1))) g0_z2 rfl
        have g1_z3 := xG_o1 (i := 5) (v := .int ((-1))) g1_z2 rfl
        have g2_z3 := xG_o1 (i := 5) (v := .int ((-1))) g2_z2 rfl
        have g3_z3 := xG_o1 (i := 5) (v := .int ((-1))) g3_z2 rfl
        have g4_z3 := xG_o1 (i := 5) (v := .int ((-1))) g4_z2 rfl
        have g5_z3 := xG_same lvz2 5 (.int ((-1)))
        generalize xSt1 lvz2 5 (.int ((-1))) = lvz3 at g0_z3 g1_z3 g2_z3 g3_z3 g4_z3 g5_z3 ⊢
        refine ye_p rfl rfl ?_
        refine ye_p rfl rfl ?_
        have g0_z4 := xG_o1 (i := 6) (v := .int 0) g0_z3 rfl
        have g1_z4 := xG_o1 (i := 6) (v := .int 0) g1_z3 rfl
        have g2_z4 := xG_o1 (i := 6) (v := .int 0) g2_z3 rfl
        have g3_z4 := xG_o1 (i := 6) (v := .int 0) g3_z3 rfl
        have g4_z4 := xG_o1 (i := 6) (v := .int 0) g4_z3 rfl
        have g5_z4 := xG_o1 (i := 6) (v := .int 0) g5_z3 rfl
        have g6_z4 := xG_same lvz3 6 (.int 0)
        generalize xSt1 lvz3 6 (.int 0) = lvz4 at g0_z4 g1_z4 g2_z4 g3_z4 g4_z4 g5_z4 g6_z4 ⊢
        refine ye_aload rfl g0_z4 ?_
        refine ye_getr rfl (hM.obj fa0 ⟨rfl, rfl⟩) rfl (fun cx2 ecx2 => ?_)
        have fcx2 := hM.root 10 0 (by decide) rfl ecx2
        obtain ⟨w5, S1, hw5, h⟩ := bS_some h
        obtain ⟨y1, T1, ss1, cy1, M1, G1⟩ := (m_X10_keep (d := d + 3) (T := T) N S cx2 fcx2 hw5) hG.2.2.2.1 hp hM
        refine ye_callV (As := []) (rest := []) 0 (Or.inl rfl) rfl rfl rfl (Nat.le_of_ble_eq_true rfl) (hM.obj fcx2 ⟨rfl, rfl⟩) cy1 ?_
        have H1 := hG.tr G1
        replace fa0 := G1.at fa0
        refine ye_p rfl rfl ?_
        refine ye_p rfl rfl ?_
        have g0_z5 := xG_o1 (i := 7) (v := .int 255) g0_z4 rfl
        have g1_z5 := xG_o1 (i := 7) (v := .int 255) g1_z4 rfl
        have g2_z5 := xG_o1 (i := 7) (v := .int 255) g2_z4 rfl
        have g3_z5 := xG_o1 (i := 7) (v := .int 255) g3_z4 rfl
        have g4_z5 := xG_o1 (i := 7) (v := .int 255) g4_z4 rfl
        have g5_z5 := xG_o1 (i := 7) (v := .int 255) g5_z4 rfl
        have g6_z5 := xG_o1 (i := 7) (v := .int 255) g6_z4 rfl
        have g7_z5 := xG_same lvz4 7 (.int 255)
        generalize xSt1 lvz4 7 (.int 255) = lvz5 at g0_z5 g1_z5 g2_z5 g3_z5 g4_z5 g5_z5 g6_z5 g7_z5 ⊢
        exact w_X11_lamps_56 (prim := prim) (d := d) N N S1 l1 l2 w1 0 ((-1)) 0 255 T1 (sl + ss1) y1 lvz5 a0 fa0 g0_z5 g1_z5 g2_z5 g3_z5 g4_z5 g5_z5 g6_z5 g7_z5 H1 M1 h
      · replace h := yiN h3 h
        exact w_X11_lamps_33 (prim := prim) (d := d) N S T sl hp lvz1 hG hM h
def f_X11_lamps (N : Nat) (S : yS) (xl1 : Int32) (xl2 : Int32) : Option (Int32 × yS) := f_X11_lamps_0 N S xl1 xl2
theorem m_X11_lamps {F : xH} {ev : xEv} {prim : xRel} {d : Nat} {T : yT} {v : Int32} {S' : yS} (N : Nat) (S : yS) (xl1 : Int32) (xl2 : Int32) (a0 : Nat) (fa0 : yAt T 11 0 0 a0) (h : f_X11_lamps N S xl1 xl2 = some (v, S')) : ykN [0, 1, 2, 3, 4, 5, 6, 7] F ev prim (d + 7) 169 T S [.ref a0, .int xl1, .int xl2] (some (.int v)) S' 0 :=
  ykN.of (pg_169 ev) mi_169 (Nat.le_of_ble_eq_true rfl) (fun hz hp hM => w_X11_lamps_0 (prim := prim) (d := d) N S xl1 xl2 T 0 hp _ a0 fa0 rfl rfl rfl (yG.rf hz 0) hM h)

def f_X11_tried_0 (N : Nat) (S : yS) (l1 : Int32) : Option (Int32 × yS) := bV (f_X11_mayTry N S l1) fun w1 => if ¬ w1 = 0 then bS (f_X10_keep N S) fun w2 S1 => bS (f_X10_pass N S1 l1) fun w3 S2 => bS (f_X10_coinNow N S2) fun w4 S3 => bS (f_X10_giveBack N S3) fun w5 S4 => some (w4, S4) else some ((-1), S)
set_option maxHeartbeats 4000000 in
set_option maxRecDepth 40000 in
theorem w_X11_tried_0 {F : xH} {ev : xEv} {prim : xRel} {d : Nat} {T0 : yT} {v : Int32} {S' : yS} (N : Nat) (S : yS) (l1 : Int32) (T : yT) (sl : Nat) (hp : xH) (lv : xLv) (a0 : Nat) (fa0 : yAt T 11 0 0 a0) (g0 : xG lv 0 = some (.ref a0)) (g1 : xG lv 1 = some (.int l1)) (hG : yG T0 T sl 0) (hM : cR [0, 1, 2, 3, 4, 5, 6, 7] F ev T S hp) (h : f_X11_tried_0 N S l1 = some (v, S')) : yWE ev.2.1 (xstr ev) (xCalls ev xmi (xprog ev) prim (d + 6)) (pX11_tried ev) (0, lv, [], hp, T.2.2.1, sl) (ypN [0, 1, 2, 3, 4, 5, 6, 7] F ev T0 (some (.int v)) S' 0) := by
  unfold f_X11_tried_0 at h
  refine ye_aload rfl g0 ?_
  refine ye_iload rfl g1 ?_
  obtain ⟨w1, hw1, h⟩ := bV_some h
  refine ye_callV (As := [.int l1]) (rest := []) 0 (Or.inl rfl) rfl rfl rfl (Nat.le_of_ble_eq_true rfl) (hM.obj fa0 ⟨rfl, rfl⟩) ((m_X11_mayTry (d := d + 4) (T := T) N S l1 a0 fa0 hw1) hp _ hM) ?_
  refine ye_if_ne rfl (fun h1 => ?_) (fun h1 => ?_)
  · replace h := yiT h1 h
    refine ye_aload rfl g0 ?_
    refine ye_getr rfl (hM.obj fa0 ⟨rfl, rfl⟩) rfl (fun cx1 ecx1 => ?_)
    have fcx1 := hM.root 10 0 (by decide) rfl ecx1
    obtain ⟨w2, S1, hw2, h⟩ := bS_some h
    obtain ⟨y1, T1, ss1, cy1, M1, G1⟩ := (m_X10_keep (d := d + 3) (T := T) N S cx1 fcx1 hw2) hG.2.2.2.1 hp hM
    refine ye_callV (As := []) (rest := []) 0 (Or.inl rfl) rfl rfl rfl (Nat.le_of_ble_eq_true rfl) (hM.obj fcx1 ⟨rfl, rfl⟩) cy1 ?_
    have H1 := hG.tr G1
    replace fa0 := G1.at fa0
    refine ye_aload rfl g0 ?_
    refine ye_getr rfl (M1.obj fa0 ⟨rfl, rfl⟩) rfl (fun cx2 ecx2 => ?_)
    have fcx2 := M1.root 10 0 (by decide) rfl ecx2
    refine ye_iload rfl g1 ?_
    obtain ⟨w3, S2, hw3, h⟩ := bS_some h
    obtain ⟨y2, cy2, M2⟩ := (m_X10_pass (d := d + 0) (T := T1) N S1 l1 cx2 fcx2 hw3) y1 _ M1
    refine ye_callV (As := [.int l1]) (rest := []) 0 (Or.inl rfl) rfl rfl rfl (Nat.le_of_ble_eq_true rfl) (M1.obj fcx2 ⟨rfl, rfl⟩) cy2 ?_
    refine ye_aload rfl g0 ?_
    refine ye_getr rfl (M2.obj fa0 ⟨rfl, rfl⟩) rfl (fun cx3 ecx3 => ?_)
    have fcx3 := M2.root 10 0 (by decide) rfl ecx3
    obtain ⟨w4, S3, hw4, h⟩ := bS_some h
    obtain ⟨y3, cy3, M3⟩ := (m_X10_coinNow (d := d + 0) (T := T1) N S2 cx3 fcx3 hw4) y2 _ M2
    refine ye_callV (As := []) (rest := []) 0 (Or.inl rfl) rfl rfl rfl (Nat.le_of_ble_eq_true rfl) (M2.obj fcx3 ⟨rfl, rfl⟩) cy3 ?_
    refine ye_p rfl rfl ?_
    have g0_z1 := xG_o1 (i := 2) (v := .int w4) g0 rfl
    have g2_z1 := xG_same lv 2 (.int w4)
    generalize xSt1 lv 2 (.int w4) = lvz1 at g0_z1 g2_z1 ⊢
    refine ye_aload rfl g0_z1 ?_
    refine ye_getr rfl (M3.obj fa0 ⟨rfl, rfl⟩) rfl (fun cx4 ecx4 => ?_)
    have fcx4 := M3.root 10 0 (by decide) rfl ecx4
    obtain ⟨w5, S4, hw5, h⟩ := bS_some h
    obtain ⟨y4, cy4, M4⟩ := (m_X10_giveBack (d := d + 3) (T := T1) N S3 cx4 fcx4 hw5) y3 _ M3
    refine ye_callV (As := []) (rest := []) 0 (Or.inl rfl) rfl rfl rfl (Nat.le_of_ble_eq_true rfl) (M3.obj fcx4 ⟨rfl, rfl⟩) cy4 ?_
    refine ye_iload rfl g2_z1 ?_
    exact ye_ret rfl rfl (rN h M4 H1)
  · replace h := yiN h1 h
    refine ye_p rfl rfl ?_
    exact ye_ret rfl rfl (rN h hM hG)
def f_X11_tried (N : Nat) (S : yS) (xl1 : Int32) : Option (Int32 × yS) := f_X11_tried_0 N S xl1
theorem m_X11_tried {F : xH} {ev : xEv} {prim : xRel} {d : Nat} {T : yT} {v : Int32} {S' : yS} (N : Nat) (S : yS) (xl1 : Int32) (a0 : Nat) (fa0 : yAt T 11 0 0 a0) (h : f_X11_tried N S xl1 = some (v, S')) : ykN [0, 1, 2, 3, 4, 5, 6, 7] F ev prim (d + 7) 170 T S [.ref a0, .int xl1] (some (.int v)) S' 0 :=
  ykN.of (pg_170 ev) mi_170 (Nat.le_of_ble_eq_true rfl) (fun hz hp hM => w_X11_tried_0 (prim := prim) (d := d) N S xl1 T 0 hp _ a0 fa0 rfl rfl (yG.rf hz 0) hM h)
