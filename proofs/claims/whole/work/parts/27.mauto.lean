def f_mthrown_0 (N : Nat) (S : mS) : Int32 × mS := (S.2.1 47, S)
def c_mthrown_0 (N : Nat) (S : mS) : Prop := True
set_option maxHeartbeats 4000000 in
theorem w_mthrown_0 {ev : xEv} {prim : xRel} {d b sz : Nat} {hp0 : xH} (N : Nat) (S : mS) (hp : xH) (lv : xLv) (g0 : xG lv 0 = some (.ref b)) (hok : c_mthrown_0 N S) (hM : mR ev b S hp) (hO : mO b hp0 hp) : xE ev.2.1 (xstr ev) (xCalls ev xmi (xprog ev) prim (d + 0)) (pX12_thrown ev) (0, lv, [], hp, sz, 0) (mPost ev b hp0 sz (mI (f_mthrown_0 N S))) := by
  unfold f_mthrown_0
  unfold c_mthrown_0 at hok
  refine xe_aload rfl g0 ?_
  refine xe_getf rfl hM.1 rfl ?_
  exact xe_ret rfl rfl ⟨rfl, rfl, hM, hO⟩
def f_mthrown (N : Nat) (S : mS) : Int32 × mS := f_mthrown_0 N S
def c_mthrown (N : Nat) (S : mS) : Prop := c_mthrown_0 N S
theorem m_mthrown {ev : xEv} {prim : xRel} {d b : Nat} (N : Nat) (S : mS) (hok : c_mthrown N S) : mC ev prim (d + 1) 187 b [] S (mI (f_mthrown N S)) :=
  mC.of (pg_187 ev) mi_187 (Nat.le_of_ble_eq_true rfl) (fun hp sz hM hO => w_mthrown_0 (prim := prim) (d := d) N S hp _ rfl hok hM hO)
def f_mlost_5 (N : Nat) (S : mS) : Int32 × mS := (0, S)
def c_mlost_5 (N : Nat) (S : mS) : Prop := True
set_option maxHeartbeats 4000000 in
theorem w_mlost_5 {ev : xEv} {prim : xRel} {d b sz : Nat} {hp0 : xH} (N : Nat) (S : mS) (hp : xH) (lv : xLv) (hok : c_mlost_5 N S) (hM : mR ev b S hp) (hO : mO b hp0 hp) : xE ev.2.1 (xstr ev) (xCalls ev xmi (xprog ev) prim (d + 0)) (pX12_lost ev) (5, lv, [], hp, sz, 0) (mPost ev b hp0 sz (mI (f_mlost_5 N S))) := by
  unfold f_mlost_5
  unfold c_mlost_5 at hok
  refine xe_p rfl rfl ?_
  exact xe_ret rfl rfl ⟨rfl, rfl, hM, hO⟩
def f_mlost_0 (N : Nat) (S : mS) : Int32 × mS := f_mlost_5 N (mN S 47 1)
def c_mlost_0 (N : Nat) (S : mS) : Prop := c_mlost_5 N (mN S 47 1)
set_option maxHeartbeats 4000000 in
theorem w_mlost_0 {ev : xEv} {prim : xRel} {d b sz : Nat} {hp0 : xH} (N : Nat) (S : mS) (hp : xH) (lv : xLv) (g0 : xG lv 0 = some (.ref b)) (hok : c_mlost_0 N S) (hM : mR ev b S hp) (hO : mO b hp0 hp) : xE ev.2.1 (xstr ev) (xCalls ev xmi (xprog ev) prim (d + 0)) (pX12_lost ev) (0, lv, [], hp, sz, 0) (mPost ev b hp0 sz (mI (f_mlost_0 N S))) := by
  unfold f_mlost_0
  unfold c_mlost_0 at hok
  refine xe_aload rfl g0 ?_
  refine xe_p rfl rfl ?_
  refine xe_putf rfl hM.1 (Nat.le_of_ble_eq_true rfl) rfl rfl ?_
  exact w_mlost_5 (prim := prim) (d := d) N  (mN S 47 1)  _ lv  hok (hM.putN (S' := mN S 47 1) rfl).1 (hO.tr (hM.putN (S' := mN S 47 1) rfl).2)
def f_mlost (N : Nat) (S : mS) : Int32 × mS := f_mlost_0 N S
def c_mlost (N : Nat) (S : mS) : Prop := c_mlost_0 N S
theorem m_mlost {ev : xEv} {prim : xRel} {d b : Nat} (N : Nat) (S : mS) (hok : c_mlost N S) : mC ev prim (d + 1) 189 b [] S (mI (f_mlost N S)) :=
  mC.of (pg_189 ev) mi_189 (Nat.le_of_ble_eq_true rfl) (fun hp sz hM hO => w_mlost_0 (prim := prim) (d := d) N S hp _ rfl hok hM hO)
def f_mhasLamp_21 (N : Nat) (S : mS) (t0 : Int32) : Int32 × mS := (t0, S)
def c_mhasLamp_21 (N : Nat) (S : mS) (t0 : Int32) : Prop := narrow .boolean (.int t0) = .int t0 ∧ True
set_option maxHeartbeats 4000000 in
theorem w_mhasLamp_21 {ev : xEv} {prim : xRel} {d b sz : Nat} {hp0 : xH} (N : Nat) (S : mS) (t0 : Int32) (hp : xH) (lv : xLv) (hok : c_mhasLamp_21 N S t0) (hM : mR ev b S hp) (hO : mO b hp0 hp) : xE ev.2.1 (xstr ev) (xCalls ev xmi (xprog ev) prim (d + 0)) (pX12_hasLamp ev) (21, lv, [.int t0], hp, sz, 0) (mPost ev b hp0 sz (mI (f_mhasLamp_21 N S t0))) := by
  unfold f_mhasLamp_21
  unfold c_mhasLamp_21 at hok
  exact xe_ret rfl (if_pos hok.1) ⟨rfl, rfl, hM, hO⟩
def f_mhasLamp_0 (N : Nat) (S : mS) (l1 : Int32) : Int32 × mS := if ¬ (S.1 48 ((3 + (2 * l1)) + 0).toNatClampNeg) = 1 then f_mhasLamp_21 N S 0 else f_mhasLamp_21 N S 1
def c_mhasLamp_0 (N : Nat) (S : mS) (l1 : Int32) : Prop := vp_in ((3 + (2 * l1)) + 0) 2305 ∧ ((¬ (S.1 48 ((3 + (2 * l1)) + 0).toNatClampNeg) = 1 → (c_mhasLamp_21 N S 0)) ∧ (¬ (¬ (S.1 48 ((3 + (2 * l1)) + 0).toNatClampNeg) = 1) → (c_mhasLamp_21 N S 1)))
set_option maxHeartbeats 4000000 in
theorem w_mhasLamp_0 {ev : xEv} {prim : xRel} {d b sz : Nat} {hp0 : xH} (N : Nat) (S : mS) (l1 : Int32) (hp : xH) (lv : xLv) (g0 : xG lv 0 = some (.ref b)) (g1 : xG lv 1 = some (.int l1)) (hok : c_mhasLamp_0 N S l1) (hM : mR ev b S hp) (hO : mO b hp0 hp) : xE ev.2.1 (xstr ev) (xCalls ev xmi (xprog ev) prim (d + 0)) (pX12_hasLamp ev) (0, lv, [], hp, sz, 0) (mPost ev b hp0 sz (mI (f_mhasLamp_0 N S l1))) := by
  unfold f_mhasLamp_0
  unfold c_mhasLamp_0 at hok
  refine xe_aload rfl g0 ?_
  refine xe_getf rfl hM.1 rfl ?_
  refine xe_p rfl rfl ?_
  refine xe_p rfl rfl ?_
  refine xe_iload rfl g1 ?_
  refine xe_p rfl rfl ?_
  refine xe_p rfl rfl ?_
  refine xe_p rfl rfl ?_
  refine xe_p rfl rfl ?_
  refine xe_ald rfl (mR_48 hM) hok.1 ?_
  refine xe_p rfl rfl ?_
  refine xe_icmp_ne rfl (fun h1 => ?_) (fun h1 => ?_)
  · rw [if_pos h1]
    refine xe_p rfl rfl ?_
    exact w_mhasLamp_21 (prim := prim) (d := d) N  S 0 hp lv  (hok.2.1 h1) hM hO
  · rw [if_neg h1]
    refine xe_p rfl rfl ?_
    refine xe_p rfl rfl ?_
    exact w_mhasLamp_21 (prim := prim) (d := d) N  S 1 hp lv  (hok.2.2 h1) hM hO
def f_mhasLamp (N : Nat) (S : mS) (x0 : Int32) : Int32 × mS := f_mhasLamp_0 N S x0
def c_mhasLamp (N : Nat) (S : mS) (x0 : Int32) : Prop := c_mhasLamp_0 N S x0
theorem m_mhasLamp {ev : xEv} {prim : xRel} {d b : Nat} (N : Nat) (S : mS) (x0 : Int32) (hok : c_mhasLamp N S x0) : mC ev prim (d + 1) 203 b [.int x0] S (mI (f_mhasLamp N S x0)) :=
  mC.of (pg_203 ev) mi_203 (Nat.le_of_ble_eq_true rfl) (fun hp sz hM hO => w_mhasLamp_0 (prim := prim) (d := d) N S x0 hp _ rfl rfl hok hM hO)
def f_mfield_34 (N : Nat) (S : mS) : Int32 × mS := ((-1), S)
def c_mfield_34 (N : Nat) (S : mS) : Prop := True
set_option maxHeartbeats 4000000 in
theorem w_mfield_34 {ev : xEv} {prim : xRel} {d b sz : Nat} {hp0 : xH} (N : Nat) (S : mS) (hp : xH) (lv : xLv) (hok : c_mfield_34 N S) (hM : mR ev b S hp) (hO : mO b hp0 hp) : xE ev.2.1 (xstr ev) (xCalls ev xmi (xprog ev) prim (d + 1)) (pX12_field ev) (34, lv, [], hp, sz, 0) (mPost ev b hp0 sz (mI (f_mfield_34 N S))) := by
  unfold f_mfield_34
  unfold c_mfield_34 at hok
  refine xe_p rfl rfl ?_
  exact xe_ret rfl rfl ⟨rfl, rfl, hM, hO⟩
def f_mfield_96 (N : Nat) (S : mS) : Int32 × mS := ((S.2.1 1) - 1, S)
def c_mfield_96 (N : Nat) (S : mS) : Prop := True
set_option maxHeartbeats 4000000 in
theorem w_mfield_96 {ev : xEv} {prim : xRel} {d b sz : Nat} {hp0 : xH} (N : Nat) (S : mS) (hp : xH) (lv : xLv) (g0 : xG lv 0 = some (.ref b)) (hok : c_mfield_96 N S) (hM : mR ev b S hp) (hO : mO b hp0 hp) : xE ev.2.1 (xstr ev) (xCalls ev xmi (xprog ev) prim (d + 1)) (pX12_field ev) (96, lv, [], hp, sz, 0) (mPost ev b hp0 sz (mI (f_mfield_96 N S))) := by
  unfold f_mfield_96
  unfold c_mfield_96 at hok
  refine xe_aload rfl g0 ?_
  refine xe_getf rfl hM.1 rfl ?_
  refine xe_p rfl rfl ?_
  refine xe_p rfl rfl ?_
  exact xe_ret rfl rfl ⟨rfl, rfl, hM, hO⟩
def f_mfield_86 (N : Nat) (S : mS) : Int32 × mS := f_mfield_96 N (mN S 1 ((S.2.1 1) + 1))
def c_mfield_86 (N : Nat) (S : mS) : Prop := c_mfield_96 N (mN S 1 ((S.2.1 1) + 1))
set_option maxHeartbeats 4000000 in
theorem w_mfield_86 {ev : xEv} {prim : xRel} {d b sz : Nat} {hp0 : xH} (N : Nat) (S : mS) (hp : xH) (lv : xLv) (g0 : xG lv 0 = some (.ref b)) (hok : c_mfield_86 N S) (hM : mR ev b S hp) (hO : mO b hp0 hp) : xE ev.2.1 (xstr ev) (xCalls ev xmi (xprog ev) prim (d + 1)) (pX12_field ev) (86, lv, [], hp, sz, 0) (mPost ev b hp0 sz (mI (f_mfield_86 N S))) := by
  unfold f_mfield_86
  unfold c_mfield_86 at hok
  refine xe_aload rfl g0 ?_
  refine xe_p rfl rfl ?_
  refine xe_getf rfl hM.1 rfl ?_
  refine xe_p rfl rfl ?_
  refine xe_p rfl rfl ?_
  refine xe_putf rfl hM.1 (Nat.le_of_ble_eq_true rfl) rfl rfl ?_
  exact w_mfield_96 (prim := prim) (d := d) N  (mN S 1 ((S.2.1 1) + 1))  _ lv g0 hok (hM.putN (S' := mN S 1 ((S.2.1 1) + 1)) rfl).1 (hO.tr (hM.putN (S' := mN S 1 ((S.2.1 1) + 1)) rfl).2)
def f_mfield_70 (N : Nat) (S : mS) (l3 : Int32) : Int32 × mS := f_mfield_86 N (mA S 48 (upd (S.1 48) ((3 + (2 * (S.2.1 1))) + 1).toNatClampNeg l3))
def c_mfield_70 (N : Nat) (S : mS) (l3 : Int32) : Prop := vp_in ((3 + (2 * (S.2.1 1))) + 1) 2305 ∧ (c_mfield_86 N (mA S 48 (upd (S.1 48) ((3 + (2 * (S.2.1 1))) + 1).toNatClampNeg l3)))
set_option maxHeartbeats 4000000 in
theorem w_mfield_70 {ev : xEv} {prim : xRel} {d b sz : Nat} {hp0 : xH} (N : Nat) (S : mS) (l3 : Int32) (hp : xH) (lv : xLv) (g0 : xG lv 0 = some (.ref b)) (g3 : xG lv 3 = some (.int l3)) (hok : c_mfield_70 N S l3) (hM : mR ev b S hp) (hO : mO b hp0 hp) : xE ev.2.1 (xstr ev) (xCalls ev xmi (xprog ev) prim (d + 1)) (pX12_field ev) (70, lv, [], hp, sz, 0) (mPost ev b hp0 sz (mI (f_mfield_70 N S l3))) := by
  unfold f_mfield_70
  unfold c_mfield_70 at hok
  refine xe_aload rfl g0 ?_
  refine xe_getf rfl hM.1 rfl ?_
  refine xe_p rfl rfl ?_
  refine xe_p rfl rfl ?_
  refine xe_aload rfl g0 ?_
  refine xe_getf rfl hM.1 rfl ?_
  refine xe_p rfl rfl ?_
  refine xe_p rfl rfl ?_
  refine xe_p rfl rfl ?_
  refine xe_p rfl rfl ?_
  refine xe_iload rfl g3 ?_
  refine xe_ast rfl (mR_48 hM) hok.1 ?_
  exact w_mfield_86 (prim := prim) (d := d) N  (mA S 48 (upd (S.1 48) ((3 + (2 * (S.2.1 1))) + 1).toNatClampNeg l3))  _ lv g0 hok.2 (hM.putA mQ_48 (upd (S.1 48) ((3 + (2 * (S.2.1 1))) + 1).toNatClampNeg l3)).1 (hO.tr (hM.putA mQ_48 (upd (S.1 48) ((3 + (2 * (S.2.1 1))) + 1).toNatClampNeg l3)).2)
def f_mfield_69 (N : Nat) (S : mS) (l3 : Int32) (t1 : Int32) (t2 : Int32) : Int32 × mS := f_mfield_70 N (mA S 48 (upd (S.1 48) t1.toNatClampNeg t2)) l3
def c_mfield_69 (N : Nat) (S : mS) (l3 : Int32) (t1 : Int32) (t2 : Int32) : Prop := vp_in t1 2305 ∧ (c_mfield_70 N (mA S 48 (upd (S.1 48) t1.toNatClampNeg t2)) l3)
set_option maxHeartbeats 4000000 in
theorem w_mfield_69 {ev : xEv} {prim : xRel} {d b sz : Nat} {hp0 : xH} (N : Nat) (S : mS) (l3 : Int32) (t1 : Int32) (t2 : Int32) (hp : xH) (lv : xLv) (g0 : xG lv 0 = some (.ref b)) (g3 : xG lv 3 = some (.int l3)) (hok : c_mfield_69 N S l3 t1 t2) (hM : mR ev b S hp) (hO : mO b hp0 hp) : xE ev.2.1 (xstr ev) (xCalls ev xmi (xprog ev) prim (d + 1)) (pX12_field ev) (69, lv, [.int t2, .int t1, .ref (b + 34)], hp, sz, 0) (mPost ev b hp0 sz (mI (f_mfield_69 N S l3 t1 t2))) := by
  unfold f_mfield_69
  unfold c_mfield_69 at hok
  refine xe_ast rfl (mR_48 hM) hok.1 ?_
  exact w_mfield_70 (prim := prim) (d := d) N  (mA S 48 (upd (S.1 48) t1.toNatClampNeg t2)) l3 _ lv g0 g3 hok.2 (hM.putA mQ_48 (upd (S.1 48) t1.toNatClampNeg t2)).1 (hO.tr (hM.putA mQ_48 (upd (S.1 48) t1.toNatClampNeg t2)).2)
def f_mfield_46 (N : Nat) (S : mS) (l2 : Int32) (l3 : Int32) : Int32 × mS := if l2 = 0 then f_mfield_69 N S l3 ((3 + (2 * (S.2.1 1))) + 0) 0 else f_mfield_69 N S l3 ((3 + (2 * (S.2.1 1))) + 0) 1
def c_mfield_46 (N : Nat) (S : mS) (l2 : Int32) (l3 : Int32) : Prop := (l2 = 0 → (c_mfield_69 N S l3 ((3 + (2 * (S.2.1 1))) + 0) 0)) ∧ (¬ (l2 = 0) → (c_mfield_69 N S l3 ((3 + (2 * (S.2.1 1))) + 0) 1))
set_option maxHeartbeats 4000000 in
theorem w_mfield_46 {ev : xEv} {prim : xRel} {d b sz : Nat} {hp0 : xH} (N : Nat) (S : mS) (l2 : Int32) (l3 : Int32) (hp : xH) (lv : xLv) (g0 : xG lv 0 = some (.ref b)) (g2 : xG lv 2 = some (.int l2)) (g3 : xG lv 3 = some (.int l3)) (hok : c_mfield_46 N S l2 l3) (hM : mR ev b S hp) (hO : mO b hp0 hp) : xE ev.2.1 (xstr ev) (xCalls ev xmi (xprog ev) prim (d + 1)) (pX12_field ev) (46, lv, [], hp, sz, 0) (mPost ev b hp0 sz (mI (f_mfield_46 N S l2 l3))) := by
  unfold f_mfield_46
  unfold c_mfield_46 at hok
  refine xe_aload rfl g0 ?_
  refine xe_getf rfl hM.1 rfl ?_
  refine xe_p rfl rfl ?_
  refine xe_p rfl rfl ?_
  refine xe_aload rfl g0 ?_
  refine xe_getf rfl hM.1 rfl ?_
  refine xe_p rfl rfl ?_
  refine xe_p rfl rfl ?_
  refine xe_p rfl rfl ?_
  refine xe_p rfl rfl ?_
  refine xe_iload rfl g2 ?_
  refine xe_if_eq rfl (fun h1 => ?_) (fun h1 => ?_)
  · rw [if_pos h1]
    refine xe_p rfl rfl ?_
    exact w_mfield_69 (prim := prim) (d := d) N  S l3 ((3 + (2 * (S.2.1 1))) + 0) 0 hp lv g0 g3 (hok.1 h1) hM hO
  · rw [if_neg h1]
    refine xe_p rfl rfl ?_
    refine xe_p rfl rfl ?_
    exact w_mfield_69 (prim := prim) (d := d) N  S l3 ((3 + (2 * (S.2.1 1))) + 0) 1 hp lv g0 g3 (hok.2 h1) hM hO
def f_mfield_5 (N : Nat) (S : mS) (l1 : Int32) (l2 : Int32) (l3 : Int32) : Int32 × mS := if (xin l1 0 99) = 0 then f_mfield_34 N S else if (xin l3 0 9) = 0 then f_mfield_34 N S else if ¬ (S.2.1 1) = 8 then f_mfield_46 N (mA S 0 (upd (S.1 0) (S.2.1 1).toNatClampNeg l1)) l2 l3 else f_mfield_34 N S
def c_mfield_5 (N : Nat) (S : mS) (l1 : Int32) (l2 : Int32) (l3 : Int32) : Prop := ((xin l1 0 99) = 0 → (c_mfield_34 N S)) ∧ (¬ ((xin l1 0 99) = 0) → (((xin l3 0 9) = 0 → (c_mfield_34 N S)) ∧ (¬ ((xin l3 0 9) = 0) → ((¬ (S.2.1 1) = 8 → (vp_in (S.2.1 1) 8 ∧ (c_mfield_46 N (mA S 0 (upd (S.1 0) (S.2.1 1).toNatClampNeg l1)) l2 l3))) ∧ (¬ (¬ (S.2.1 1) = 8) → (c_mfield_34 N S))))))
set_option maxHeartbeats 4000000 in
theorem w_mfield_5 {ev : xEv} {prim : xRel} {d b sz : Nat} {hp0 : xH} (N : Nat) (S : mS) (l1 : Int32) (l2 : Int32) (l3 : Int32) (hp : xH) (lv : xLv) (g0 : xG lv 0 = some (.ref b)) (g1 : xG lv 1 = some (.int l1)) (g2 : xG lv 2 = some (.int l2)) (g3 : xG lv 3 = some (.int l3)) (hok : c_mfield_5 N S l1 l2 l3) (hM : mR ev b S hp) (hO : mO b hp0 hp) : xE ev.2.1 (xstr ev) (xCalls ev xmi (xprog ev) prim (d + 1)) (pX12_field ev) (5, lv, [], hp, sz, 0) (mPost ev b hp0 sz (mI (f_mfield_5 N S l1 l2 l3))) := by
  unfold f_mfield_5
  unfold c_mfield_5 at hok
  refine xe_iload rfl g1 ?_
  refine xe_p rfl rfl ?_
  refine xe_p rfl rfl ?_
  refine xe_callS (As := [.int l1, .int 0, .int 99]) (rest := []) 1 (Or.inl rfl) rfl rfl rfl (Nat.le_of_ble_eq_true rfl) (m_in (d := d + 0) hp sz l1 0 99) ?_
  refine xe_if_eq rfl (fun h1 => ?_) (fun h1 => ?_)
  · rw [if_pos h1]
    exact w_mfield_34 (prim := prim) (d := d) N  S  hp lv  (hok.1 h1) hM hO
  · rw [if_neg h1]
    refine xe_iload rfl g3 ?_
    refine xe_p rfl rfl ?_
    refine xe_p rfl rfl ?_
    refine xe_callS (As := [.int l3, .int 0, .int 9]) (rest := []) 1 (Or.inl rfl) rfl rfl rfl (Nat.le_of_ble_eq_true rfl) (m_in (d := d + 0) hp sz l3 0 9) ?_
    refine xe_if_eq rfl (fun h2 => ?_) (fun h2 => ?_)
    · rw [if_pos h2]
      exact w_mfield_34 (prim := prim) (d := d) N  S  hp lv  ((hok.2 h1).1 h2) hM hO
    · rw [if_neg h2]
      refine xe_aload rfl g0 ?_
      refine xe_getf rfl hM.1 rfl ?_
      refine xe_p rfl rfl ?_
      refine xe_icmp_ne rfl (fun h3 => ?_) (fun h3 => ?_)
      · rw [if_pos h3]
        refine xe_aload rfl g0 ?_
        refine xe_getf rfl hM.1 rfl ?_
        refine xe_aload rfl g0 ?_
        refine xe_getf rfl hM.1 rfl ?_
        refine xe_iload rfl g1 ?_
        refine xe_ast rfl (mR_0 hM) (((hok.2 h1).2 h2).1 h3).1 ?_
        exact w_mfield_46 (prim := prim) (d := d) N  (mA S 0 (upd (S.1 0) (S.2.1 1).toNatClampNeg l1)) l2 l3 _ lv g0 g2 g3 (((hok.2 h1).2 h2).1 h3).2 (hM.putA mQ_0 (upd (S.1 0) (S.2.1 1).toNatClampNeg l1)).1 (hO.tr (hM.putA mQ_0 (upd (S.1 0) (S.2.1 1).toNatClampNeg l1)).2)
      · rw [if_neg h3]
        exact w_mfield_34 (prim := prim) (d := d) N  S  hp lv  (((hok.2 h1).2 h2).2 h3) hM hO
def f_mfield_0 (N : Nat) (S : mS) (l1 : Int32) (l2 : Int32) (l3 : Int32) : Int32 × mS := f_mfield_5 N (mN S 47 0) l1 l2 l3
def c_mfield_0 (N : Nat) (S : mS) (l1 : Int32) (l2 : Int32) (l3 : Int32) : Prop := c_mfield_5 N (mN S 47 0) l1 l2 l3
set_option maxHeartbeats 4000000 in
theorem w_mfield_0 {ev : xEv} {prim : xRel} {d b sz : Nat} {hp0 : xH} (N : Nat) (S : mS) (l1 : Int32) (l2 : Int32) (l3 : Int32) (hp : xH) (lv : xLv) (g0 : xG lv 0 = some (.ref b)) (g1 : xG lv 1 = some (.int l1)) (g2 : xG lv 2 = some (.int l2)) (g3 : xG lv 3 = some (.int l3)) (hok : c_mfield_0 N S l1 l2 l3) (hM : mR ev b S hp) (hO : mO b hp0 hp) : xE ev.2.1 (xstr ev) (xCalls ev xmi (xprog ev) prim (d + 1)) (pX12_field ev) (0, lv, [], hp, sz, 0) (mPost ev b hp0 sz (mI (f_mfield_0 N S l1 l2 l3))) := by
  unfold f_mfield_0
  unfold c_mfield_0 at hok
  refine xe_aload rfl g0 ?_
  refine xe_p rfl rfl ?_
  refine xe_putf rfl hM.1 (Nat.le_of_ble_eq_true rfl) rfl rfl ?_
  exact w_mfield_5 (prim := prim) (d := d) N  (mN S 47 0) l1 l2 l3 _ lv g0 g1 g2 g3 hok (hM.putN (S' := mN S 47 0) rfl).1 (hO.tr (hM.putN (S' := mN S 47 0) rfl).2)
def f_mfield (N : Nat) (S : mS) (x0 x1 x2 : Int32) : Int32 × mS := f_mfield_0 N S x0 x1 x2
def c_mfield (N : Nat) (S : mS) (x0 x1 x2 : Int32) : Prop := c_mfield_0 N S x0 x1 x2
theorem m_mfield {ev : xEv} {prim : xRel} {d b : Nat} (N : Nat) (S : mS) (x0 x1 x2 : Int32) (hok : c_mfield N S x0 x1 x2) : mC ev prim (d + 2) 205 b [.int x0, .int x1, .int x2] S (mI (f_mfield N S x0 x1 x2)) :=
  mC.of (pg_205 ev) mi_205 (Nat.le_of_ble_eq_true rfl) (fun hp sz hM hO => w_mfield_0 (prim := prim) (d := d) N S x0 x1 x2 hp _ rfl rfl rfl rfl hok hM hO)
