theorem m_isFieldP {ev : xEv} {prim : xRel} {d b : Nat} {S : mS} (x : Int32) (hp : xH) (sz : Nat) (hM : mR ev b S hp) : xCalls ev xmi (xprog ev) prim (d + 2) 190 [.ref b, .int x] hp sz (some (.int (xin x 0 (S.2.1 1 - 1))), hp, sz, 0) := by
  refine xc_eq (pg_190 ev) mi_190 (Nat.le_of_ble_eq_true rfl) ?_
  repeat refine xe_p rfl rfl ?_
  refine xe_getf rfl hM.1 rfl ?_
  repeat refine xe_p rfl rfl ?_
  refine xe_callS (As := [.int x, .int 0, .int (S.2.1 1 - 1)]) (rest := []) 1 (Or.inl rfl) rfl rfl rfl (Nat.le_of_ble_eq_true rfl) (m_in hp sz x 0 (S.2.1 1 - 1)) ?_
  exact xe_ret rfl (if_pos (xin_nar _ _ _)) rfl
theorem m_isLegP {ev : xEv} {prim : xRel} {d b : Nat} {S : mS} (x : Int32) (hp : xH) (sz : Nat) (hM : mR ev b S hp) : xCalls ev xmi (xprog ev) prim (d + 2) 191 [.ref b, .int x] hp sz (some (.int (xin x 0 (S.2.1 9 - 1))), hp, sz, 0) := by
  refine xc_eq (pg_191 ev) mi_191 (Nat.le_of_ble_eq_true rfl) ?_
  repeat refine xe_p rfl rfl ?_
  refine xe_getf rfl hM.1 rfl ?_
  repeat refine xe_p rfl rfl ?_
  refine xe_callS (As := [.int x, .int 0, .int (S.2.1 9 - 1)]) (rest := []) 1 (Or.inl rfl) rfl rfl rfl (Nat.le_of_ble_eq_true rfl) (m_in hp sz x 0 (S.2.1 9 - 1)) ?_
  exact xe_ret rfl (if_pos (xin_nar _ _ _)) rfl
theorem m_isPlaneP {ev : xEv} {prim : xRel} {d b : Nat} {S : mS} (x : Int32) (hp : xH) (sz : Nat) (hM : mR ev b S hp) : xCalls ev xmi (xprog ev) prim (d + 2) 192 [.ref b, .int x] hp sz (some (.int (xin x 0 (S.2.1 21 - 1))), hp, sz, 0) := by
  refine xc_eq (pg_192 ev) mi_192 (Nat.le_of_ble_eq_true rfl) ?_
  repeat refine xe_p rfl rfl ?_
  refine xe_getf rfl hM.1 rfl ?_
  repeat refine xe_p rfl rfl ?_
  refine xe_callS (As := [.int x, .int 0, .int (S.2.1 21 - 1)]) (rest := []) 1 (Or.inl rfl) rfl rfl rfl (Nat.le_of_ble_eq_true rfl) (m_in hp sz x 0 (S.2.1 21 - 1)) ?_
  exact xe_ret rfl (if_pos (xin_nar _ _ _)) rfl
theorem m_isPilotP {ev : xEv} {prim : xRel} {d b : Nat} {S : mS} (x : Int32) (hp : xH) (sz : Nat) (hM : mR ev b S hp) : xCalls ev xmi (xprog ev) prim (d + 2) 193 [.ref b, .int x] hp sz (some (.int (xin x 0 (S.2.1 22 - 1))), hp, sz, 0) := by
  refine xc_eq (pg_193 ev) mi_193 (Nat.le_of_ble_eq_true rfl) ?_
  repeat refine xe_p rfl rfl ?_
  refine xe_getf rfl hM.1 rfl ?_
  repeat refine xe_p rfl rfl ?_
  refine xe_callS (As := [.int x, .int 0, .int (S.2.1 22 - 1)]) (rest := []) 1 (Or.inl rfl) rfl rfl rfl (Nat.le_of_ble_eq_true rfl) (m_in hp sz x 0 (S.2.1 22 - 1)) ?_
  exact xe_ret rfl (if_pos (xin_nar _ _ _)) rfl
theorem m_isBagP {ev : xEv} {prim : xRel} {d b : Nat} {S : mS} (x : Int32) (hp : xH) (sz : Nat) (hM : mR ev b S hp) : xCalls ev xmi (xprog ev) prim (d + 2) 194 [.ref b, .int x] hp sz (some (.int (xin x 0 (S.2.1 28 - 1))), hp, sz, 0) := by
  refine xc_eq (pg_194 ev) mi_194 (Nat.le_of_ble_eq_true rfl) ?_
  repeat refine xe_p rfl rfl ?_
  refine xe_getf rfl hM.1 rfl ?_
  repeat refine xe_p rfl rfl ?_
  refine xe_callS (As := [.int x, .int 0, .int (S.2.1 28 - 1)]) (rest := []) 1 (Or.inl rfl) rfl rfl rfl (Nat.le_of_ble_eq_true rfl) (m_in hp sz x 0 (S.2.1 28 - 1)) ?_
  exact xe_ret rfl (if_pos (xin_nar _ _ _)) rfl
theorem m_planeP {ev : xEv} {prim : xRel} {d b : Nat} {S : mS} (p q : Int32) (h : vp_in (19 + 23 * p + q) 2305) (hp : xH) (sz : Nat) (hM : mR ev b S hp) : xCalls ev xmi (xprog ev) prim (d + 1) 195 [.ref b, .int p, .int q] hp sz (some (.int (S.1 48 (19 + 23 * p + q).toNatClampNeg)), hp, sz, 0) := by
  refine xc_eq (pg_195 ev) mi_195 (Nat.le_of_ble_eq_true rfl) ?_
  repeat refine xe_p rfl rfl ?_
  refine xe_getf rfl hM.1 rfl ?_
  repeat refine xe_p rfl rfl ?_
  refine xe_ald rfl (mR_48 hM) h ?_
  exact xe_ret rfl rfl rfl
theorem m_pilotOfP {ev : xEv} {prim : xRel} {d b : Nat} {S : mS} (p q : Int32) (h : vp_in (203 + 4 * p + q) 2305) (hp : xH) (sz : Nat) (hM : mR ev b S hp) : xCalls ev xmi (xprog ev) prim (d + 1) 197 [.ref b, .int p, .int q] hp sz (some (.int (S.1 48 (203 + 4 * p + q).toNatClampNeg)), hp, sz, 0) := by
  refine xc_eq (pg_197 ev) mi_197 (Nat.le_of_ble_eq_true rfl) ?_
  repeat refine xe_p rfl rfl ?_
  refine xe_getf rfl hM.1 rfl ?_
  repeat refine xe_p rfl rfl ?_
  refine xe_ald rfl (mR_48 hM) h ?_
  exact xe_ret rfl rfl rfl
theorem m_bagOfP {ev : xEv} {prim : xRel} {d b : Nat} {S : mS} (p q : Int32) (h : vp_in (235 + 37 * p + q) 2305) (hp : xH) (sz : Nat) (hM : mR ev b S hp) : xCalls ev xmi (xprog ev) prim (d + 1) 199 [.ref b, .int p, .int q] hp sz (some (.int (S.1 48 (235 + 37 * p + q).toNatClampNeg)), hp, sz, 0) := by
  refine xc_eq (pg_199 ev) mi_199 (Nat.le_of_ble_eq_true rfl) ?_
  repeat refine xe_p rfl rfl ?_
  refine xe_getf rfl hM.1 rfl ?_
  repeat refine xe_p rfl rfl ?_
  refine xe_ald rfl (mR_48 hM) h ?_
  exact xe_ret rfl rfl rfl
theorem m_flightOfP {ev : xEv} {prim : xRel} {d b : Nat} {S : mS} (p q : Int32) (h : vp_in (1345 + 5 * p + q) 2305) (hp : xH) (sz : Nat) (hM : mR ev b S hp) : xCalls ev xmi (xprog ev) prim (d + 1) 201 [.ref b, .int p, .int q] hp sz (some (.int (S.1 48 (1345 + 5 * p + q).toNatClampNeg)), hp, sz, 0) := by
  refine xc_eq (pg_201 ev) mi_201 (Nat.le_of_ble_eq_true rfl) ?_
  repeat refine xe_p rfl rfl ?_
  refine xe_getf rfl hM.1 rfl ?_
  repeat refine xe_p rfl rfl ?_
  refine xe_ald rfl (mR_48 hM) h ?_
  exact xe_ret rfl rfl rfl
