section LEAF
variable {ev : xEv} {prim : xRel} {d : Nat} {hp : xH} {sz : Nat}
theorem c_within (x lo hi : Int32) : xCalls ev xmi (xprog ev) prim (d + 1) 183 [.int x, .int lo, .int hi] hp sz (some (.int (if lo ≤ x ∧ x ≤ hi then 1 else 0)), hp, sz, 0) := by
  refine xc_eq (pg_183 ev) mi_183 (Nat.le_of_ble_eq_true rfl) ?_
  refine xe_p rfl rfl ?_
  refine xe_p rfl rfl ?_
  refine xe_icmp_lt rfl (fun h => ?_) (fun h => ?_)
  · have e : (if lo ≤ x ∧ x ≤ hi then (1 : Int32) else 0) = 0 := if_neg (fun q => absurd q.1 (Int32.not_le.mpr h))
    rw [e]
    refine xe_p rfl rfl ?_
    exact xe_ret rfl rfl rfl
  · refine xe_p rfl rfl ?_
    refine xe_p rfl rfl ?_
    refine xe_icmp_gt rfl (fun h2 => ?_) (fun h2 => ?_)
    · have e : (if lo ≤ x ∧ x ≤ hi then (1 : Int32) else 0) = 0 := if_neg (fun q => absurd q.2 (Int32.not_le.mpr h2))
      rw [e]
      refine xe_p rfl rfl ?_
      exact xe_ret rfl rfl rfl
    · have e : (if lo ≤ x ∧ x ≤ hi then (1 : Int32) else 0) = 1 := if_pos ⟨Int32.not_lt.mp h, Int32.not_lt.mp h2⟩
      rw [e]
      refine xe_p rfl rfl ?_
      refine xe_p rfl rfl ?_
      exact xe_ret rfl rfl rfl
theorem c_bag_late {a : Nat} {x0 x1 x2 x3 x4 x5 x6 x7 x8 x9 x10 x11 : Value} {due given : Int32} (h : hp a = some (.inr (0, [x0, x1, x2, x3, .int due, x5, x6, x7, .int given, x9, x10, x11]))) : xCalls ev xmi (xprog ev) prim (d + 1) 2 [.ref a] hp sz (some (.int (if 0 < given - due then given - due else 0)), hp, sz, 0) := by
  refine xc_eq (pg_2 ev) mi_2 (Nat.le_of_ble_eq_true rfl) ?_
  refine xe_p rfl rfl ?_
  refine xe_p rfl rfl ?_
  refine xe_getf rfl h rfl ?_
  refine xe_p rfl rfl ?_
  refine xe_getf rfl h rfl ?_
  refine xe_p rfl rfl ?_
  refine xe_p rfl rfl ?_
  exact xe_ret rfl rfl rfl
end LEAF
