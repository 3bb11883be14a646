/-! leaves of the reference -/
section MLEAF
variable {ev : xEv} {prim : xRel} {d b : Nat} {S : mS}
def xin (x lo hi : Int32) : Int32 := if x < lo then 0 else if hi < x then 0 else 1
theorem xin_nar (x lo hi : Int32) : narrow .boolean (.int (xin x lo hi)) = .int (xin x lo hi) := by
  unfold xin
  split
  · rfl
  · split <;> rfl
theorem m_in (hp : xH) (sz : Nat) (x lo hi : Int32) : xCalls ev xmi (xprog ev) prim (d + 1) 188 [.int x, .int lo, .int hi] hp sz (some (.int (xin x lo hi)), hp, sz, 0) := by
  refine xc_eq (pg_188 ev) mi_188 (Nat.le_of_ble_eq_true rfl) ?_
  unfold xin
  repeat refine xe_p rfl rfl ?_
  refine xe_icmp_lt rfl (fun h => ?_) (fun h => ?_)
  · rw [if_pos h]
    repeat refine xe_p rfl rfl ?_
    exact xe_ret rfl rfl rfl
  · rw [if_neg h]
    repeat refine xe_p rfl rfl ?_
    refine xe_icmp_gt rfl (fun h2 => ?_) (fun h2 => ?_)
    · rw [if_pos h2]
      repeat refine xe_p rfl rfl ?_
      exact xe_ret rfl rfl rfl
    · rw [if_neg h2]
      repeat refine xe_p rfl rfl ?_
      exact xe_ret rfl rfl rfl
theorem c_within2 (hp : xH) (sz : Nat) (x lo hi : Int32) : xCalls ev xmi (xprog ev) prim (d + 1) 183 [.int x, .int lo, .int hi] hp sz (some (.int (xin x lo hi)), hp, sz, 0) := by
  refine xc_eq (pg_183 ev) mi_183 (Nat.le_of_ble_eq_true rfl) ?_
  unfold xin
  repeat refine xe_p rfl rfl ?_
  refine xe_icmp_lt rfl (fun h => ?_) (fun h => ?_)
  · rw [if_pos h]
    repeat refine xe_p rfl rfl ?_
    exact xe_ret rfl rfl rfl
  · rw [if_neg h]
    repeat refine xe_p rfl rfl ?_
    refine xe_icmp_gt rfl (fun h2 => ?_) (fun h2 => ?_)
    · rw [if_pos h2]
      repeat refine xe_p rfl rfl ?_
      exact xe_ret rfl rfl rfl
    · rw [if_neg h2]
      repeat refine xe_p rfl rfl ?_
      exact xe_ret rfl rfl rfl
theorem m_up (hp : xH) (sz : Nat) (v k : Int32) (hk : ¬ k = 0) : xCalls ev xmi (xprog ev) prim (d + 1) 226 [.int v, .int k] hp sz (some (.int ((v + k - 1) / k)), hp, sz, 0) := by
  refine xc_eq (pg_226 ev) mi_226 (Nat.le_of_ble_eq_true rfl) ?_
  repeat refine xe_p rfl rfl ?_
  refine xe_p rfl (if_neg hk) ?_
  exact xe_ret rfl rfl rfl
def xdark (q : Int32) : Int32 := if q - q / 96 * 96 < 24 then 1 else if q - q / 96 * 96 < 72 then 0 else 1
theorem m_isDark (hp : xH) (sz : Nat) (q : Int32) : xCalls ev xmi (xprog ev) prim (d + 1) 204 [.int q] hp sz (some (.int (xdark q)), hp, sz, 0) := by
  refine xc_eq (pg_204 ev) mi_204 (Nat.le_of_ble_eq_true rfl) ?_
  unfold xdark
  repeat refine xe_p rfl rfl ?_
  refine xe_icmp_lt rfl (fun h => ?_) (fun h => ?_)
  · rw [if_pos h]
    repeat refine xe_p rfl rfl ?_
    exact xe_ret rfl rfl rfl
  · rw [if_neg h]
    repeat refine xe_p rfl rfl ?_
    refine xe_icmp_lt rfl (fun h2 => ?_) (fun h2 => ?_)
    · rw [if_pos h2]
      repeat refine xe_p rfl rfl ?_
      exact xe_ret rfl rfl rfl
    · rw [if_neg h2]
      repeat refine xe_p rfl rfl ?_
      exact xe_ret rfl rfl rfl
theorem m_thrown : mC ev prim (d + 1) 187 b [] S (some (.int (S.2.1 47)), S) := by
  refine mC.of (pg_187 ev) mi_187 (Nat.le_of_ble_eq_true rfl) (fun hp sz hM hO => ?_)
  repeat refine xe_p rfl rfl ?_
  refine xe_getf rfl hM.1 rfl ?_
  exact xe_ret rfl rfl ⟨rfl, rfl, hM, hO⟩
theorem m_lost : mC ev prim (d + 1) 189 b [] S (some (.int 0), mN S 47 1) := by
  refine mC.of (pg_189 ev) mi_189 (Nat.le_of_ble_eq_true rfl) (fun hp sz hM hO => ?_)
  repeat refine xe_p rfl rfl ?_
  refine xe_putf rfl hM.1 (Nat.le_of_ble_eq_true rfl) rfl rfl ?_
  repeat refine xe_p rfl rfl ?_
  exact xe_ret rfl rfl ⟨rfl, rfl, (hM.putN (S' := mN S 47 1) rfl).1, (hM.putN (S' := mN S 47 1) rfl).2⟩
theorem m_isField (x : Int32) : mC ev prim (d + 2) 190 b [.int x] S (some (.int (xin x 0 (S.2.1 1 - 1))), S) := by
  refine mC.of (pg_190 ev) mi_190 (Nat.le_of_ble_eq_true rfl) (fun hp sz hM hO => ?_)
  repeat refine xe_p rfl rfl ?_
  refine xe_getf rfl hM.1 rfl ?_
  repeat refine xe_p rfl rfl ?_
  refine xe_callS (As := [.int x, .int 0, .int (S.2.1 1 - 1)]) (rest := []) 1 (Or.inl rfl) rfl rfl rfl (Nat.le_of_ble_eq_true rfl) (m_in hp sz x 0 (S.2.1 1 - 1)) ?_
  exact xe_ret rfl (if_pos (xin_nar _ _ _)) ⟨rfl, rfl, hM, hO⟩
theorem m_isLeg (x : Int32) : mC ev prim (d + 2) 191 b [.int x] S (some (.int (xin x 0 (S.2.1 9 - 1))), S) := by
  refine mC.of (pg_191 ev) mi_191 (Nat.le_of_ble_eq_true rfl) (fun hp sz hM hO => ?_)
  repeat refine xe_p rfl rfl ?_
  refine xe_getf rfl hM.1 rfl ?_
  repeat refine xe_p rfl rfl ?_
  refine xe_callS (As := [.int x, .int 0, .int (S.2.1 9 - 1)]) (rest := []) 1 (Or.inl rfl) rfl rfl rfl (Nat.le_of_ble_eq_true rfl) (m_in hp sz x 0 (S.2.1 9 - 1)) ?_
  exact xe_ret rfl (if_pos (xin_nar _ _ _)) ⟨rfl, rfl, hM, hO⟩
theorem m_isPlane (x : Int32) : mC ev prim (d + 2) 192 b [.int x] S (some (.int (xin x 0 (S.2.1 21 - 1))), S) := by
  refine mC.of (pg_192 ev) mi_192 (Nat.le_of_ble_eq_true rfl) (fun hp sz hM hO => ?_)
  repeat refine xe_p rfl rfl ?_
  refine xe_getf rfl hM.1 rfl ?_
  repeat refine xe_p rfl rfl ?_
  refine xe_callS (As := [.int x, .int 0, .int (S.2.1 21 - 1)]) (rest := []) 1 (Or.inl rfl) rfl rfl rfl (Nat.le_of_ble_eq_true rfl) (m_in hp sz x 0 (S.2.1 21 - 1)) ?_
  exact xe_ret rfl (if_pos (xin_nar _ _ _)) ⟨rfl, rfl, hM, hO⟩
theorem m_isPilot (x : Int32) : mC ev prim (d + 2) 193 b [.int x] S (some (.int (xin x 0 (S.2.1 22 - 1))), S) := by
  refine mC.of (pg_193 ev) mi_193 (Nat.le_of_ble_eq_true rfl) (fun hp sz hM hO => ?_)
  repeat refine xe_p rfl rfl ?_
  refine xe_getf rfl hM.1 rfl ?_
  repeat refine xe_p rfl rfl ?_
  refine xe_callS (As := [.int x, .int 0, .int (S.2.1 22 - 1)]) (rest := []) 1 (Or.inl rfl) rfl rfl rfl (Nat.le_of_ble_eq_true rfl) (m_in hp sz x 0 (S.2.1 22 - 1)) ?_
  exact xe_ret rfl (if_pos (xin_nar _ _ _)) ⟨rfl, rfl, hM, hO⟩
theorem m_isBag (x : Int32) : mC ev prim (d + 2) 194 b [.int x] S (some (.int (xin x 0 (S.2.1 28 - 1))), S) := by
  refine mC.of (pg_194 ev) mi_194 (Nat.le_of_ble_eq_true rfl) (fun hp sz hM hO => ?_)
  repeat refine xe_p rfl rfl ?_
  refine xe_getf rfl hM.1 rfl ?_
  repeat refine xe_p rfl rfl ?_
  refine xe_callS (As := [.int x, .int 0, .int (S.2.1 28 - 1)]) (rest := []) 1 (Or.inl rfl) rfl rfl rfl (Nat.le_of_ble_eq_true rfl) (m_in hp sz x 0 (S.2.1 28 - 1)) ?_
  exact xe_ret rfl (if_pos (xin_nar _ _ _)) ⟨rfl, rfl, hM, hO⟩
theorem m_plane (p q : Int32) (h : vp_in (19 + 23 * p + q) 2305) : mC ev prim (d + 1) 195 b [.int p, .int q] S (some (.int (S.1 48 (19 + 23 * p + q).toNatClampNeg)), S) := by
  refine mC.of (pg_195 ev) mi_195 (Nat.le_of_ble_eq_true rfl) (fun hp sz hM hO => ?_)
  repeat refine xe_p rfl rfl ?_
  refine xe_getf rfl hM.1 rfl ?_
  repeat refine xe_p rfl rfl ?_
  refine xe_ald rfl (mR_48 hM) h ?_
  exact xe_ret rfl rfl ⟨rfl, rfl, hM, hO⟩
theorem m_setPlane (p q v : Int32) (h : vp_in (19 + 23 * p + q) 2305) : mC ev prim (d + 1) 196 b [.int p, .int q, .int v] S (none, mA S 48 (upd (S.1 48) (19 + 23 * p + q).toNatClampNeg v)) := by
  refine mC.of (pg_196 ev) mi_196 (Nat.le_of_ble_eq_true rfl) (fun hp sz hM hO => ?_)
  repeat refine xe_p rfl rfl ?_
  refine xe_getf rfl hM.1 rfl ?_
  repeat refine xe_p rfl rfl ?_
  refine xe_ast rfl (mR_48 hM) h ?_
  exact xe_ret rfl rfl ⟨rfl, rfl, (hM.putA mQ_48 (upd (S.1 48) (19 + 23 * p + q).toNatClampNeg v)).1, (hM.putA mQ_48 (upd (S.1 48) (19 + 23 * p + q).toNatClampNeg v)).2⟩
theorem m_pilotOf (p q : Int32) (h : vp_in (203 + 4 * p + q) 2305) : mC ev prim (d + 1) 197 b [.int p, .int q] S (some (.int (S.1 48 (203 + 4 * p + q).toNatClampNeg)), S) := by
  refine mC.of (pg_197 ev) mi_197 (Nat.le_of_ble_eq_true rfl) (fun hp sz hM hO => ?_)
  repeat refine xe_p rfl rfl ?_
  refine xe_getf rfl hM.1 rfl ?_
  repeat refine xe_p rfl rfl ?_
  refine xe_ald rfl (mR_48 hM) h ?_
  exact xe_ret rfl rfl ⟨rfl, rfl, hM, hO⟩
theorem m_setPilot (p q v : Int32) (h : vp_in (203 + 4 * p + q) 2305) : mC ev prim (d + 1) 198 b [.int p, .int q, .int v] S (none, mA S 48 (upd (S.1 48) (203 + 4 * p + q).toNatClampNeg v)) := by
  refine mC.of (pg_198 ev) mi_198 (Nat.le_of_ble_eq_true rfl) (fun hp sz hM hO => ?_)
  repeat refine xe_p rfl rfl ?_
  refine xe_getf rfl hM.1 rfl ?_
  repeat refine xe_p rfl rfl ?_
  refine xe_ast rfl (mR_48 hM) h ?_
  exact xe_ret rfl rfl ⟨rfl, rfl, (hM.putA mQ_48 (upd (S.1 48) (203 + 4 * p + q).toNatClampNeg v)).1, (hM.putA mQ_48 (upd (S.1 48) (203 + 4 * p + q).toNatClampNeg v)).2⟩
theorem m_bagOf (p q : Int32) (h : vp_in (235 + 37 * p + q) 2305) : mC ev prim (d + 1) 199 b [.int p, .int q] S (some (.int (S.1 48 (235 + 37 * p + q).toNatClampNeg)), S) := by
  refine mC.of (pg_199 ev) mi_199 (Nat.le_of_ble_eq_true rfl) (fun hp sz hM hO => ?_)
  repeat refine xe_p rfl rfl ?_
  refine xe_getf rfl hM.1 rfl ?_
  repeat refine xe_p rfl rfl ?_
  refine xe_ald rfl (mR_48 hM) h ?_
  exact xe_ret rfl rfl ⟨rfl, rfl, hM, hO⟩
theorem m_setBag (p q v : Int32) (h : vp_in (235 + 37 * p + q) 2305) : mC ev prim (d + 1) 200 b [.int p, .int q, .int v] S (none, mA S 48 (upd (S.1 48) (235 + 37 * p + q).toNatClampNeg v)) := by
  refine mC.of (pg_200 ev) mi_200 (Nat.le_of_ble_eq_true rfl) (fun hp sz hM hO => ?_)
  repeat refine xe_p rfl rfl ?_
  refine xe_getf rfl hM.1 rfl ?_
  repeat refine xe_p rfl rfl ?_
  refine xe_ast rfl (mR_48 hM) h ?_
  exact xe_ret rfl rfl ⟨rfl, rfl, (hM.putA mQ_48 (upd (S.1 48) (235 + 37 * p + q).toNatClampNeg v)).1, (hM.putA mQ_48 (upd (S.1 48) (235 + 37 * p + q).toNatClampNeg v)).2⟩
theorem m_flightOf (p q : Int32) (h : vp_in (1345 + 5 * p + q) 2305) : mC ev prim (d + 1) 201 b [.int p, .int q] S (some (.int (S.1 48 (1345 + 5 * p + q).toNatClampNeg)), S) := by
  refine mC.of (pg_201 ev) mi_201 (Nat.le_of_ble_eq_true rfl) (fun hp sz hM hO => ?_)
  repeat refine xe_p rfl rfl ?_
  refine xe_getf rfl hM.1 rfl ?_
  repeat refine xe_p rfl rfl ?_
  refine xe_ald rfl (mR_48 hM) h ?_
  exact xe_ret rfl rfl ⟨rfl, rfl, hM, hO⟩
theorem m_setFlight (p q v : Int32) (h : vp_in (1345 + 5 * p + q) 2305) : mC ev prim (d + 1) 202 b [.int p, .int q, .int v] S (none, mA S 48 (upd (S.1 48) (1345 + 5 * p + q).toNatClampNeg v)) := by
  refine mC.of (pg_202 ev) mi_202 (Nat.le_of_ble_eq_true rfl) (fun hp sz hM hO => ?_)
  repeat refine xe_p rfl rfl ?_
  refine xe_getf rfl hM.1 rfl ?_
  repeat refine xe_p rfl rfl ?_
  refine xe_ast rfl (mR_48 hM) h ?_
  exact xe_ret rfl rfl ⟨rfl, rfl, (hM.putA mQ_48 (upd (S.1 48) (1345 + 5 * p + q).toNatClampNeg v)).1, (hM.putA mQ_48 (upd (S.1 48) (1345 + 5 * p + q).toNatClampNeg v)).2⟩
end MLEAF
