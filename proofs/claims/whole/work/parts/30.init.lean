def yLd (x : Nat) : Int32 := if Int32.ofNat x / 8 = Int32.ofNat x - Int32.ofNat x / 8 * 8 then 0 else 1000000
def yFr (x : Nat) : Int32 := if Int32.ofNat x - Int32.ofNat x / 9 * 9 = 0 then 0 else 268435456
theorem y_int1 {i : Nat} : Int32.ofNat i + 1 = Int32.ofNat (i + 1) := by rw [Int32.ofNat_add]; rfl
theorem y_upd1 (f : Nat → Int32) (i : Nat) : upd (fun x => if x < i then f x else 0) i (f i) = fun x => if x < i + 1 then f x else 0 := by
  funext x
  unfold upd
  by_cases h : x = i
  · subst h; rw [if_pos rfl, if_pos (by omega)]
  · rw [if_neg h]
    show (if x < i then f x else 0) = _
    by_cases h2 : x < i
    · rw [if_pos h2, if_pos (by omega)]
    · rw [if_neg h2, if_neg (by omega)]
theorem y_vin {i n : Nat} (h : i < n) (h2 : n < 2 ^ 31) : vp_in (Int32.ofNat i) n := by
  intro q
  rcases q with q | q
  · exact absurd (Int32.zero_le_ofNat_of_lt (a := i) (by omega)) (Int32.not_le.mpr q)
  · rw [Int32.toNatClampNeg_ofNat_of_lt (by omega)] at q; omega
theorem y_nat {i : Nat} (h : i < 2 ^ 31) : (Int32.ofNat i).toNatClampNeg = i := Int32.toNatClampNeg_ofNat_of_lt h
theorem ngA {a s k : Nat} (h : a < s) : s + k ≠ a := by omega
theorem ngA' {a s k : Nat} (h : a < s) : a ≠ s + k := by omega
theorem ngS {s i j : Nat} (h : i ≠ j) : s + i ≠ s + j := by omega
theorem ngB {b s n k : Nat} (h : b < s ∨ s + n ≤ b) (hk : k < n) : b ≠ s + k := by omega
theorem rgS {s i y n : Nat} (h : i < y ∨ y + n ≤ i) : s + i < s + y ∨ s + y + n ≤ s + i := by omega
theorem rgA {a s y n : Nat} (h : a < s) : a < s + y ∨ s + y + n ≤ a := by omega
theorem rgB {b s n y m : Nat} (h : b < s ∨ s + n ≤ b) (hk : y + m ≤ n) : b < s + y ∨ s + y + m ≤ b := by omega
section YINIT
variable {ev : xEv} {prim : xRel} {d : Nat} {sz sl : Nat}
theorem y_ldL {a u : Nat} {fl : List Value} (hfl : fl[7]? = some (.ref u)) (hau : a ≠ u) (r : xR ⊕ xS → Prop) : ∀ (m i : Nat) (hp : xH) (lv : xLv), i + m = 64 → xG lv 0 = some (.ref a) → xG lv 1 = some (.int (Int32.ofNat i)) → hp a = some (.inr (2, fl)) → hp u = some (.inl (ev.1 0, 64, .inl (fun x => if x < i then yLd x else 0))) → (∀ hp', hp' u = some (.inl (ev.1 0, 64, .inl (fun x => if x < 64 then yLd x else 0))) → (∀ b, b ≠ u → hp' b = hp b) → r (.inl (none, hp', sz, sl))) → yWE ev.2.1 (xstr ev) (xCalls ev xmi (xprog ev) prim d) (pX2_init ev) (79, lv, [], hp, sz, sl) r := by
  intro m
  induction m with
  | zero =>
    intro i hp lv hi g0 g1 ha hu h
    have e : i = 64 := by omega
    subst e
    refine ye_iload rfl g1 ?_
    refine ye_aload rfl g0 ?_
    refine ye_getf rfl ha hfl ?_
    refine ye_alen rfl hu ?_
    refine ye_icmp_ge rfl (fun _ => ?_) (fun h => absurd (Int32.le_refl _) h)
    exact ye_ret rfl rfl (h hp hu (fun _ _ => rfl))
  | succ m ih =>
    intro i hp lv hi g0 g1 ha hu h
    refine ye_iload rfl g1 ?_
    refine ye_aload rfl g0 ?_
    refine ye_getf rfl ha hfl ?_
    refine ye_alen rfl hu ?_
    refine ye_icmp_ge rfl (fun h => ?_) (fun _ => ?_)
    · have := (Int32.ofNat_le_iff_le (a := 64) (b := i) (by omega) (by omega)).mp h
      omega
    refine ye_aload rfl g0 ?_
    refine ye_getf rfl ha hfl ?_
    refine ye_iload rfl g1 ?_
    refine ye_iload rfl g1 ?_
    refine ye_p rfl rfl ?_
    refine ye_div rfl (by decide) ?_
    refine ye_iload rfl g1 ?_
    refine ye_p rfl rfl ?_
    refine ye_div rfl (by decide) ?_
    have fin : ∀ z, z = yLd i → yWE ev.2.1 (xstr ev) (xCalls ev xmi (xprog ev) prim d) (pX2_init ev) (110, lv, [.int z, .int (Int32.ofNat i), .ref u], hp, sz, sl) r := by
      intro z hz
      subst hz
      refine yj_ast rfl hu (y_vin (by omega) (by decide)) (y_nat (by omega)) ?_
      rw [y_upd1 yLd i]
      refine ye_iinc rfl g1 ?_
      rw [y_int1]
      refine ye_p rfl rfl ?_
      refine ih (i + 1) _ _ (by omega) (xG_o1 g0 rfl) (xG_same _ _ _) ?_ (xU_same _ _ _) (fun hp' h1 h2 => h hp' h1 (fun b hb => (h2 b hb).trans (xU_other _ _ hb)))
      rw [xU_other _ _ hau]
      exact ha
    refine ye_icmp_ne rfl (fun h1 => ?_) (fun h1 => ?_)
    · refine ye_p rfl rfl ?_
      exact fin _ (by unfold yLd; rw [if_neg h1])
    · refine ye_p rfl rfl ?_
      refine ye_p rfl rfl ?_
      exact fin _ (by unfold yLd; rw [if_pos (Decidable.of_not_not h1)])
set_option maxRecDepth 40000 in
theorem y_frL {a u : Nat} {fl : List Value} (hfl : fl[10]? = some (.ref u)) (hau : a ≠ u) (r : xR ⊕ xS → Prop) : ∀ (m i : Nat) (hp : xH) (lv : xLv), i + m = 64 → xG lv 0 = some (.ref a) → xG lv 1 = some (.int (Int32.ofNat i)) → hp a = some (.inr (12, fl)) → hp u = some (.inl (ev.1 0, 64, .inl (fun x => if x < i then yFr x else 0))) → (∀ hp', hp' u = some (.inl (ev.1 0, 64, .inl (fun x => if x < 64 then yFr x else 0))) → (∀ b, b ≠ u → hp' b = hp b) → r (.inl (none, hp', sz, sl))) → yWE ev.2.1 (xstr ev) (xCalls ev xmi (xprog ev) prim d) (pX12_init ev) (337, lv, [], hp, sz, sl) r := by
  intro m
  induction m with
  | zero =>
    intro i hp lv hi g0 g1 ha hu h
    have e : i = 64 := by omega
    subst e
    refine ye_iload rfl g1 ?_
    refine ye_p rfl rfl ?_
    refine ye_icmp_ge rfl (fun _ => ?_) (fun h => absurd (Int32.le_refl _) h)
    exact ye_ret rfl rfl (h hp hu (fun _ _ => rfl))
  | succ m ih =>
    intro i hp lv hi g0 g1 ha hu h
    refine ye_iload rfl g1 ?_
    refine ye_p rfl rfl ?_
    refine ye_icmp_ge rfl (fun h => ?_) (fun _ => ?_)
    · have := (Int32.ofNat_le_iff_le (a := 64) (b := i) (by omega) (by omega)).mp h
      omega
    refine ye_aload rfl g0 ?_
    refine ye_getf rfl ha hfl ?_
    refine ye_iload rfl g1 ?_
    refine ye_iload rfl g1 ?_
    refine ye_p rfl rfl ?_
    refine ye_div rfl (by decide) ?_
    have fin : ∀ z, z = yFr i → yWE ev.2.1 (xstr ev) (xCalls ev xmi (xprog ev) prim d) (pX12_init ev) (361, lv, [.int z, .int (Int32.ofNat i), .ref u], hp, sz, sl) r := by
      intro z hz
      subst hz
      refine yj_ast rfl hu (y_vin (by omega) (by decide)) (y_nat (by omega)) ?_
      rw [y_upd1 yFr i]
      refine ye_iinc rfl g1 ?_
      rw [y_int1]
      refine ye_p rfl rfl ?_
      refine ih (i + 1) _ _ (by omega) (xG_o1 g0 rfl) (xG_same _ _ _) ?_ (xU_same _ _ _) (fun hp' h1 h2 => h hp' h1 (fun b hb => (h2 b hb).trans (xU_other _ _ hb)))
      rw [xU_other _ _ hau]
      exact ha
    refine ye_if_ne rfl (fun h1 => ?_) (fun h1 => ?_)
    · refine ye_p rfl rfl ?_
      exact fin _ (by unfold yFr; rw [if_neg h1])
    · refine ye_p rfl rfl ?_
      refine ye_p rfl rfl ?_
      exact fin _ (by unfold yFr; rw [if_pos (Decidable.of_not_not h1)])

theorem yw_grp {code : List (Nat × xEn)} {pc : Nat} {lv : xLv} {hp hp0 : xH} {r : xR ⊕ xS → Prop} {rest : List Value} {call : xRel} {ci k a s n t m : Nat} {ty : FieldType} {x : Int32} {z : (Nat → Int32) ⊕ (Nat → Int64) ⊕ (Nat → UInt32) ⊕ (Nat → UInt64) ⊕ (Nat → Option Nat)} {fl : List Value} {L : List (Nat × va_E)} (hm1 : xfind code pc = some (.inl (xo_newa (ev.1 t) z))) (hm2 : xfind code (pc + 2) = some (.inl (xo_putf ci k ty))) (hn : x.toNatClampNeg = m) (h0 : ¬ (x < 0 ∨ 60000 < m)) (hk : Nat.succ k ≤ fl.length) (hf : fits ty (.ref (s + n)) = true) (hr : narrow ty (.ref (s + n)) = .ref (s + n)) (has : a < s) (ha : hp a = some (.inr (ci, fl))) (hC : ∀ p ∈ L, hp (s + p.1) = some p.2 ∧ p.1 < n) (hB : ∀ b, b ≠ a → (b < s ∨ s + n ≤ b) → hp b = hp0 b) (h : ∀ hp2, hp2 a = some (.inr (ci, fl.set k (.ref (s + n)))) → (∀ p ∈ ((n, .inl (ev.1 t, m, z)) : Nat × va_E) :: L, hp2 (s + p.1) = some p.2 ∧ p.1 < n + 1) → (∀ b, b ≠ a → (b < s ∨ s + (n + 1) ≤ b) → hp2 b = hp0 b) → yWE ev.2.1 (xstr ev) call code (pc + 2 + 3, lv, rest, hp2, s + (n + 1), sl + m) r) : yWE ev.2.1 (xstr ev) call code (pc, lv, .int x :: .ref a :: rest, hp, s + n, sl) r := by
  refine yw_rawa hm1 hn h0 (fun y1 A O => ?_)
  refine yw_rawp hm2 ((O a (ngA' has)).trans ha) hk hf hr (fun y2 R O2 => ?_)
  refine h y2 R (fun p hp1 => ?_) (fun b hb hb2 => ?_)
  · rcases List.mem_cons.mp hp1 with rfl | hp1
    · exact ⟨(O2 _ (ngA has)).trans A, by simp⟩
    · obtain ⟨c1, c2⟩ := hC p hp1
      exact ⟨(O2 _ (ngA has)).trans ((O _ (by omega)).trans c1), by omega⟩
  · exact (O2 b hb).trans ((O b (by omega)).trans (hB b hb (by omega)))
theorem yw_grpI {code : List (Nat × xEn)} {pc : Nat} {lv : xLv} {hp hp0 : xH} {r : xR ⊕ xS → Prop} {rest : List Value} {call : xRel} {ci k a s n : Nat} {v : Int32} {fl : List Value} {L : List (Nat × va_E)} (hm2 : xfind code pc = some (.inl (xo_putf ci k .int))) (hk : Nat.succ k ≤ fl.length) (has : a < s) (ha : hp a = some (.inr (ci, fl))) (hC : ∀ p ∈ L, hp (s + p.1) = some p.2 ∧ p.1 < n) (hB : ∀ b, b ≠ a → (b < s ∨ s + n ≤ b) → hp b = hp0 b) (h : ∀ hp2, hp2 a = some (.inr (ci, fl.set k (.int v))) → (∀ p ∈ L, hp2 (s + p.1) = some p.2 ∧ p.1 < n) → (∀ b, b ≠ a → (b < s ∨ s + n ≤ b) → hp2 b = hp0 b) → yWE ev.2.1 (xstr ev) call code (pc + 3, lv, rest, hp2, s + n, sl) r) : yWE ev.2.1 (xstr ev) call code (pc, lv, .int v :: .ref a :: rest, hp, s + n, sl) r := by
  refine yw_rawp hm2 ha hk rfl rfl (fun y2 R O2 => ?_)
  exact h y2 R (fun p hp1 => ⟨(O2 _ (ngA has)).trans (hC p hp1).1, (hC p hp1).2⟩) (fun b hb hb2 => (O2 b hb).trans (hB b hb hb2))
set_option maxRecDepth 20000 in
set_option maxHeartbeats 4000000 in
theorem rc_17 (hp0 : xH) (a s : Nat) (h0 : hp0 a = some (.inr (2, [.null, .null, .null, .int 0, .null, .int 0, .int 0, .null, .null, .null, .null, .null]))) (ha : a < s) : ∃ hp', xCalls ev xmi (xprog ev) prim (d + 1) 17 [.ref a] hp0 s (none, hp', s + 9, 340) ∧ hp' a = some (.inr (2, [.ref (s + 0), .ref (s + 1), .ref (s + 2), .int 0, .ref (s + 3), .int 0, .int 0, .ref (s + 4), .ref (s + 5), .ref (s + 6), .ref (s + 7), .ref (s + 8)])) ∧ hp' (s + 0) = some (.inl (ev.1 0, 8, .inl (fun _ => 0))) ∧ hp' (s + 1) = some (.inl (ev.1 2, 8, .inl (fun _ => 0))) ∧ hp' (s + 2) = some (.inl (ev.1 0, 8, .inl (fun _ => 0))) ∧ hp' (s + 3) = some (.inl (ev.1 4, 12, .inr (.inr (.inr (.inr (fun _ => none)))))) ∧ hp' (s + 4) = some (.inl (ev.1 0, 64, .inl (fun x => if x < 64 then yLd x else 0))) ∧ hp' (s + 5) = some (.inl (ev.1 0, 60, .inl (fun _ => 0))) ∧ hp' (s + 6) = some (.inl (ev.1 0, 60, .inl (fun _ => 0))) ∧ hp' (s + 7) = some (.inl (ev.1 0, 60, .inl (fun _ => 0))) ∧ hp' (s + 8) = some (.inl (ev.1 0, 60, .inl (fun _ => 0))) ∧ (∀ b, b ≠ a → (b < s ∨ s + 9 ≤ b) → hp' b = hp0 b) := by
  refine Exists.elim (yc_of (ev := ev) (prim := prim) (d := d + 0) (j := 17) (av := [.ref a]) (hp := hp0) (sz := s) (r := fun q => ∃ hp', q = .inl (none, hp', s + 9, 340) ∧ hp' a = some (.inr (2, [.ref (s + 0), .ref (s + 1), .ref (s + 2), .int 0, .ref (s + 3), .int 0, .int 0, .ref (s + 4), .ref (s + 5), .ref (s + 6), .ref (s + 7), .ref (s + 8)])) ∧ hp' (s + 0) = some (.inl (ev.1 0, 8, .inl (fun _ => 0))) ∧ hp' (s + 1) = some (.inl (ev.1 2, 8, .inl (fun _ => 0))) ∧ hp' (s + 2) = some (.inl (ev.1 0, 8, .inl (fun _ => 0))) ∧ hp' (s + 3) = some (.inl (ev.1 4, 12, .inr (.inr (.inr (.inr (fun _ => none)))))) ∧ hp' (s + 4) = some (.inl (ev.1 0, 64, .inl (fun x => if x < 64 then yLd x else 0))) ∧ hp' (s + 5) = some (.inl (ev.1 0, 60, .inl (fun _ => 0))) ∧ hp' (s + 6) = some (.inl (ev.1 0, 60, .inl (fun _ => 0))) ∧ hp' (s + 7) = some (.inl (ev.1 0, 60, .inl (fun _ => 0))) ∧ hp' (s + 8) = some (.inl (ev.1 0, 60, .inl (fun _ => 0))) ∧ (∀ b, b ≠ a → (b < s ∨ s + 9 ≤ b) → hp' b = hp0 b)) (pg_17 ev) mi_17 (Nat.le_of_ble_eq_true rfl) (fun s hs => by obtain ⟨_, h, _⟩ := hs; cases h) ?_) (fun q hq0 => ?_)
  rotate_left 1
  · obtain ⟨hc, hp', e, k1, k2⟩ := hq0
    rw [Sum.inl.inj e] at hc
    exact ⟨hp', hc, k1, k2⟩
  refine ye_aload rfl rfl ?_
  refine ye_p rfl rfl ?_
  refine ye_aload rfl rfl ?_
  refine ye_p rfl rfl ?_
  refine yw_rawa (m := 8) rfl rfl (by decide) (fun y1 A0 Oy1 => ?_)
  have Ry1 := (Oy1 a (ngA' (k := 0) ha)).trans h0
  refine yw_rawp rfl Ry1 (Nat.le_of_ble_eq_true rfl) rfl rfl (fun y2 Ry2 Oy2 => ?_)
  show yWE _ _ _ _ (12, _, _, _, _, _) _
  refine ye_aload rfl rfl ?_
  refine ye_p rfl rfl ?_
  refine yw_rawa (m := 8) rfl rfl (by decide) (fun y3 A1 Oy3 => ?_)
  have Ry3 := (Oy3 a (ngA' (k := 1) ha)).trans Ry2
  refine yw_rawp rfl Ry3 (Nat.le_of_ble_eq_true rfl) rfl rfl (fun y4 Ry4 Oy4 => ?_)
  show yWE _ _ _ _ (20, _, _, _, _, _) _
  refine ye_aload rfl rfl ?_
  refine ye_p rfl rfl ?_
  refine yw_rawa (m := 8) rfl rfl (by decide) (fun y5 A2 Oy5 => ?_)
  have Ry5 := (Oy5 a (ngA' (k := 2) ha)).trans Ry4
  refine yw_rawp rfl Ry5 (Nat.le_of_ble_eq_true rfl) rfl rfl (fun y6 Ry6 Oy6 => ?_)
  show yWE _ _ _ _ (28, _, _, _, _, _) _
  refine ye_aload rfl rfl ?_
  refine ye_p rfl rfl ?_
  refine yw_rawr (m := 12) rfl rfl (by decide) (fun y7 A3 Oy7 => ?_)
  have Ry7 := (Oy7 a (ngA' (k := 3) ha)).trans Ry6
  refine yw_rawp rfl Ry7 (Nat.le_of_ble_eq_true rfl) rfl rfl (fun y8 Ry8 Oy8 => ?_)
  show yWE _ _ _ _ (37, _, _, _, _, _) _
  refine ye_aload rfl rfl ?_
  refine ye_p rfl rfl ?_
  refine yw_rawa (m := 64) rfl rfl (by decide) (fun y9 A4 Oy9 => ?_)
  have Ry9 := (Oy9 a (ngA' (k := 4) ha)).trans Ry8
  refine yw_rawp rfl Ry9 (Nat.le_of_ble_eq_true rfl) rfl rfl (fun y10 Ry10 Oy10 => ?_)
  show yWE _ _ _ _ (45, _, _, _, _, _) _
  refine ye_aload rfl rfl ?_
  refine ye_p rfl rfl ?_
  refine yw_rawa (m := 60) rfl rfl (by decide) (fun y11 A5 Oy11 => ?_)
  have Ry11 := (Oy11 a (ngA' (k := 5) ha)).trans Ry10
  refine yw_rawp rfl Ry11 (Nat.le_of_ble_eq_true rfl) rfl rfl (fun y12 Ry12 Oy12 => ?_)
  show yWE _ _ _ _ (53, _, _, _, _, _) _
  refine ye_aload rfl rfl ?_
  refine ye_p rfl rfl ?_
  refine yw_rawa (m := 60) rfl rfl (by decide) (fun y13 A6 Oy13 => ?_)
  have Ry13 := (Oy13 a (ngA' (k := 6) ha)).trans Ry12
  refine yw_rawp rfl Ry13 (Nat.le_of_ble_eq_true rfl) rfl rfl (fun y14 Ry14 Oy14 => ?_)
  show yWE _ _ _ _ (61, _, _, _, _, _) _
  refine ye_aload rfl rfl ?_
  refine ye_p rfl rfl ?_
  refine yw_rawa (m := 60) rfl rfl (by decide) (fun y15 A7 Oy15 => ?_)
  have Ry15 := (Oy15 a (ngA' (k := 7) ha)).trans Ry14
  refine yw_rawp rfl Ry15 (Nat.le_of_ble_eq_true rfl) rfl rfl (fun y16 Ry16 Oy16 => ?_)
  show yWE _ _ _ _ (69, _, _, _, _, _) _
  refine ye_aload rfl rfl ?_
  refine ye_p rfl rfl ?_
  refine yw_rawa (m := 60) rfl rfl (by decide) (fun y17 A8 Oy17 => ?_)
  have Ry17 := (Oy17 a (ngA' (k := 8) ha)).trans Ry16
  refine yw_rawp rfl Ry17 (Nat.le_of_ble_eq_true rfl) rfl rfl (fun y18 Ry18 Oy18 => ?_)
  refine ye_p rfl rfl ?_
  refine ye_p rfl rfl ?_
  have Z0 : y18 (s + 0) = some (.inl (ev.1 0, 8, .inl (fun _ => 0))) := (Oy18 (s + 0) (ngA ha)).trans ((Oy17 (s + 0) (ngS (j := 8) (by decide))).trans ((Oy16 (s + 0) (ngA ha)).trans ((Oy15 (s + 0) (ngS (j := 7) (by decide))).trans ((Oy14 (s + 0) (ngA ha)).trans ((Oy13 (s + 0) (ngS (j := 6) (by decide))).trans ((Oy12 (s + 0) (ngA ha)).trans ((Oy11 (s + 0) (ngS (j := 5) (by decide))).trans ((Oy10 (s + 0) (ngA ha)).trans ((Oy9 (s + 0) (ngS (j := 4) (by decide))).trans ((Oy8 (s + 0) (ngA ha)).trans ((Oy7 (s + 0) (ngS (j := 3) (by decide))).trans ((Oy6 (s + 0) (ngA ha)).trans ((Oy5 (s + 0) (ngS (j := 2) (by decide))).trans ((Oy4 (s + 0) (ngA ha)).trans ((Oy3 (s + 0) (ngS (j := 1) (by decide))).trans ((Oy2 (s + 0) (ngA ha)).trans (A0)))))))))))))))))
  have Z1 : y18 (s + 1) = some (.inl (ev.1 2, 8, .inl (fun _ => 0))) := (Oy18 (s + 1) (ngA ha)).trans ((Oy17 (s + 1) (ngS (j := 8) (by decide))).trans ((Oy16 (s + 1) (ngA ha)).trans ((Oy15 (s + 1) (ngS (j := 7) (by decide))).trans ((Oy14 (s + 1) (ngA ha)).trans ((Oy13 (s + 1) (ngS (j := 6) (by decide))).trans ((Oy12 (s + 1) (ngA ha)).trans ((Oy11 (s + 1) (ngS (j := 5) (by decide))).trans ((Oy10 (s + 1) (ngA ha)).trans ((Oy9 (s + 1) (ngS (j := 4) (by decide))).trans ((Oy8 (s + 1) (ngA ha)).trans ((Oy7 (s + 1) (ngS (j := 3) (by decide))).trans ((Oy6 (s + 1) (ngA ha)).trans ((Oy5 (s + 1) (ngS (j := 2) (by decide))).trans ((Oy4 (s + 1) (ngA ha)).trans (A1)))))))))))))))
  have Z2 : y18 (s + 2) = some (.inl (ev.1 0, 8, .inl (fun _ => 0))) := (Oy18 (s + 2) (ngA ha)).trans ((Oy17 (s + 2) (ngS (j := 8) (by decide))).trans ((Oy16 (s + 2) (ngA ha)).trans ((Oy15 (s + 2) (ngS (j := 7) (by decide))).trans ((Oy14 (s + 2) (ngA ha)).trans ((Oy13 (s + 2) (ngS (j := 6) (by decide))).trans ((Oy12 (s + 2) (ngA ha)).trans ((Oy11 (s + 2) (ngS (j := 5) (by decide))).trans ((Oy10 (s + 2) (ngA ha)).trans ((Oy9 (s + 2) (ngS (j := 4) (by decide))).trans ((Oy8 (s + 2) (ngA ha)).trans ((Oy7 (s + 2) (ngS (j := 3) (by decide))).trans ((Oy6 (s + 2) (ngA ha)).trans (A2)))))))))))))
  have Z3 : y18 (s + 3) = some (.inl (ev.1 4, 12, .inr (.inr (.inr (.inr (fun _ => none)))))) := (Oy18 (s + 3) (ngA ha)).trans ((Oy17 (s + 3) (ngS (j := 8) (by decide))).trans ((Oy16 (s + 3) (ngA ha)).trans ((Oy15 (s + 3) (ngS (j := 7) (by decide))).trans ((Oy14 (s + 3) (ngA ha)).trans ((Oy13 (s + 3) (ngS (j := 6) (by decide))).trans ((Oy12 (s + 3) (ngA ha)).trans ((Oy11 (s + 3) (ngS (j := 5) (by decide))).trans ((Oy10 (s + 3) (ngA ha)).trans ((Oy9 (s + 3) (ngS (j := 4) (by decide))).trans ((Oy8 (s + 3) (ngA ha)).trans (A3)))))))))))
  have Z4 : y18 (s + 4) = some (.inl (ev.1 0, 64, .inl (fun _ => 0))) := (Oy18 (s + 4) (ngA ha)).trans ((Oy17 (s + 4) (ngS (j := 8) (by decide))).trans ((Oy16 (s + 4) (ngA ha)).trans ((Oy15 (s + 4) (ngS (j := 7) (by decide))).trans ((Oy14 (s + 4) (ngA ha)).trans ((Oy13 (s + 4) (ngS (j := 6) (by decide))).trans ((Oy12 (s + 4) (ngA ha)).trans ((Oy11 (s + 4) (ngS (j := 5) (by decide))).trans ((Oy10 (s + 4) (ngA ha)).trans (A4)))))))))
  have Z5 : y18 (s + 5) = some (.inl (ev.1 0, 60, .inl (fun _ => 0))) := (Oy18 (s + 5) (ngA ha)).trans ((Oy17 (s + 5) (ngS (j := 8) (by decide))).trans ((Oy16 (s + 5) (ngA ha)).trans ((Oy15 (s + 5) (ngS (j := 7) (by decide))).trans ((Oy14 (s + 5) (ngA ha)).trans ((Oy13 (s + 5) (ngS (j := 6) (by decide))).trans ((Oy12 (s + 5) (ngA ha)).trans (A5)))))))
  have Z6 : y18 (s + 6) = some (.inl (ev.1 0, 60, .inl (fun _ => 0))) := (Oy18 (s + 6) (ngA ha)).trans ((Oy17 (s + 6) (ngS (j := 8) (by decide))).trans ((Oy16 (s + 6) (ngA ha)).trans ((Oy15 (s + 6) (ngS (j := 7) (by decide))).trans ((Oy14 (s + 6) (ngA ha)).trans (A6)))))
  have Z7 : y18 (s + 7) = some (.inl (ev.1 0, 60, .inl (fun _ => 0))) := (Oy18 (s + 7) (ngA ha)).trans ((Oy17 (s + 7) (ngS (j := 8) (by decide))).trans ((Oy16 (s + 7) (ngA ha)).trans (A7)))
  have Z8 : y18 (s + 8) = some (.inl (ev.1 0, 60, .inl (fun _ => 0))) := (Oy18 (s + 8) (ngA ha)).trans (A8)
  have Z : ∀ b, b ≠ a → (b < s ∨ s + 9 ≤ b) → y18 b = hp0 b := fun b hb hb2 => (Oy18 b hb).trans ((Oy17 b (ngB (k := 8) hb2 (by decide))).trans ((Oy16 b hb).trans ((Oy15 b (ngB (k := 7) hb2 (by decide))).trans ((Oy14 b hb).trans ((Oy13 b (ngB (k := 6) hb2 (by decide))).trans ((Oy12 b hb).trans ((Oy11 b (ngB (k := 5) hb2 (by decide))).trans ((Oy10 b hb).trans ((Oy9 b (ngB (k := 4) hb2 (by decide))).trans ((Oy8 b hb).trans ((Oy7 b (ngB (k := 3) hb2 (by decide))).trans ((Oy6 b hb).trans ((Oy5 b (ngB (k := 2) hb2 (by decide))).trans ((Oy4 b hb).trans ((Oy3 b (ngB (k := 1) hb2 (by decide))).trans ((Oy2 b hb).trans ((Oy1 b (ngB (k := 0) hb2 (by decide))))))))))))))))))))
  refine y_ldL (a := a) (u := s + 4) rfl (by omega) _ 64 0 y18 _ rfl rfl rfl Ry18 Z4 (fun hp' L1 L2 => ?_)
  exact ⟨hp', rfl, (L2 a (ngA' ha)).trans Ry18, (L2 _ (ngS (by decide))).trans Z0, (L2 _ (ngS (by decide))).trans Z1, (L2 _ (ngS (by decide))).trans Z2, (L2 _ (ngS (by decide))).trans Z3, L1, (L2 _ (ngS (by decide))).trans Z5, (L2 _ (ngS (by decide))).trans Z6, (L2 _ (ngS (by decide))).trans Z7, (L2 _ (ngS (by decide))).trans Z8, (fun b hb hb2 => (L2 b (ngB hb2 (by decide))).trans (Z b hb hb2))⟩
set_option maxRecDepth 20000 in
set_option maxHeartbeats 4000000 in
theorem rc_92 (hp0 : xH) (a s : Nat) (h0 : hp0 a = some (.inr (9, [.int 0, .int 0, .null, .null, .null, .null, .null, .null, .null]))) (ha : a < s) : ∃ hp', xCalls ev xmi (xprog ev) prim (d + 1) 92 [.ref a] hp0 s (none, hp', s + 7, 840) ∧ hp' a = some (.inr (9, [.int 4, .int 0, .ref (s + 0), .ref (s + 1), .ref (s + 2), .ref (s + 3), .ref (s + 4), .ref (s + 5), .ref (s + 6)])) ∧ hp' (s + 0) = some (.inl (ev.1 0, 120, .inl (fun _ => 0))) ∧ hp' (s + 1) = some (.inl (ev.1 0, 120, .inl (fun _ => 0))) ∧ hp' (s + 2) = some (.inl (ev.1 0, 120, .inl (fun _ => 0))) ∧ hp' (s + 3) = some (.inl (ev.1 0, 120, .inl (fun _ => 0))) ∧ hp' (s + 4) = some (.inl (ev.1 0, 120, .inl (fun _ => 0))) ∧ hp' (s + 5) = some (.inl (ev.1 0, 120, .inl (fun _ => 0))) ∧ hp' (s + 6) = some (.inl (ev.1 0, 120, .inl (fun _ => 0))) ∧ (∀ b, b ≠ a → (b < s ∨ s + 7 ≤ b) → hp' b = hp0 b) := by
  refine Exists.elim (yc_of (ev := ev) (prim := prim) (d := d + 0) (j := 92) (av := [.ref a]) (hp := hp0) (sz := s) (r := fun q => ∃ hp', q = .inl (none, hp', s + 7, 840) ∧ hp' a = some (.inr (9, [.int 4, .int 0, .ref (s + 0), .ref (s + 1), .ref (s + 2), .ref (s + 3), .ref (s + 4), .ref (s + 5), .ref (s + 6)])) ∧ hp' (s + 0) = some (.inl (ev.1 0, 120, .inl (fun _ => 0))) ∧ hp' (s + 1) = some (.inl (ev.1 0, 120, .inl (fun _ => 0))) ∧ hp' (s + 2) = some (.inl (ev.1 0, 120, .inl (fun _ => 0))) ∧ hp' (s + 3) = some (.inl (ev.1 0, 120, .inl (fun _ => 0))) ∧ hp' (s + 4) = some (.inl (ev.1 0, 120, .inl (fun _ => 0))) ∧ hp' (s + 5) = some (.inl (ev.1 0, 120, .inl (fun _ => 0))) ∧ hp' (s + 6) = some (.inl (ev.1 0, 120, .inl (fun _ => 0))) ∧ (∀ b, b ≠ a → (b < s ∨ s + 7 ≤ b) → hp' b = hp0 b)) (pg_92 ev) mi_92 (Nat.le_of_ble_eq_true rfl) (fun s hs => by obtain ⟨_, h, _⟩ := hs; cases h) ?_) (fun q hq0 => ?_)
  rotate_left 1
  · obtain ⟨hc, hp', e, k1, k2⟩ := hq0
    rw [Sum.inl.inj e] at hc
    exact ⟨hp', hc, k1, k2⟩
  refine ye_aload rfl rfl ?_
  refine ye_p rfl rfl ?_
  refine ye_aload rfl rfl ?_
  refine ye_p rfl rfl ?_
  refine yw_rawp rfl h0 (Nat.le_of_ble_eq_true rfl) rfl rfl (fun y1 Ry1 Oy1 => ?_)
  show yWE _ _ _ _ (9, _, _, _, _, _) _
  refine ye_aload rfl rfl ?_
  refine ye_p rfl rfl ?_
  refine yw_rawa (m := 120) rfl rfl (by decide) (fun y2 A0 Oy2 => ?_)
  have Ry2 := (Oy2 a (ngA' (k := 0) ha)).trans Ry1
  refine yw_rawp rfl Ry2 (Nat.le_of_ble_eq_true rfl) rfl rfl (fun y3 Ry3 Oy3 => ?_)
  show yWE _ _ _ _ (17, _, _, _, _, _) _
  refine ye_aload rfl rfl ?_
  refine ye_p rfl rfl ?_
  refine yw_rawa (m := 120) rfl rfl (by decide) (fun y4 A1 Oy4 => ?_)
  have Ry4 := (Oy4 a (ngA' (k := 1) ha)).trans Ry3
  refine yw_rawp rfl Ry4 (Nat.le_of_ble_eq_true rfl) rfl rfl (fun y5 Ry5 Oy5 => ?_)
  show yWE _ _ _ _ (25, _, _, _, _, _) _
  refine ye_aload rfl rfl ?_
  refine ye_p rfl rfl ?_
  refine yw_rawa (m := 120) rfl rfl (by decide) (fun y6 A2 Oy6 => ?_)
  have Ry6 := (Oy6 a (ngA' (k := 2) ha)).trans Ry5
  refine yw_rawp rfl Ry6 (Nat.le_of_ble_eq_true rfl) rfl rfl (fun y7 Ry7 Oy7 => ?_)
  show yWE _ _ _ _ (33, _, _, _, _, _) _
  refine ye_aload rfl rfl ?_
  refine ye_p rfl rfl ?_
  refine yw_rawa (m := 120) rfl rfl (by decide) (fun y8 A3 Oy8 => ?_)
  have Ry8 := (Oy8 a (ngA' (k := 3) ha)).trans Ry7
  refine yw_rawp rfl Ry8 (Nat.le_of_ble_eq_true rfl) rfl rfl (fun y9 Ry9 Oy9 => ?_)
  show yWE _ _ _ _ (41, _, _, _, _, _) _
  refine ye_aload rfl rfl ?_
  refine ye_p rfl rfl ?_
  refine yw_rawa (m := 120) rfl rfl (by decide) (fun y10 A4 Oy10 => ?_)
  have Ry10 := (Oy10 a (ngA' (k := 4) ha)).trans Ry9
  refine yw_rawp rfl Ry10 (Nat.le_of_ble_eq_true rfl) rfl rfl (fun y11 Ry11 Oy11 => ?_)
  show yWE _ _ _ _ (49, _, _, _, _, _) _
  refine ye_aload rfl rfl ?_
  refine ye_p rfl rfl ?_
  refine yw_rawa (m := 120) rfl rfl (by decide) (fun y12 A5 Oy12 => ?_)
  have Ry12 := (Oy12 a (ngA' (k := 5) ha)).trans Ry11
  refine yw_rawp rfl Ry12 (Nat.le_of_ble_eq_true rfl) rfl rfl (fun y13 Ry13 Oy13 => ?_)
  show yWE _ _ _ _ (57, _, _, _, _, _) _
  refine ye_aload rfl rfl ?_
  refine ye_p rfl rfl ?_
  refine yw_rawa (m := 120) rfl rfl (by decide) (fun y14 A6 Oy14 => ?_)
  have Ry14 := (Oy14 a (ngA' (k := 6) ha)).trans Ry13
  refine yw_rawp rfl Ry14 (Nat.le_of_ble_eq_true rfl) rfl rfl (fun y15 Ry15 Oy15 => ?_)
  have Z0 : y15 (s + 0) = some (.inl (ev.1 0, 120, .inl (fun _ => 0))) := (Oy15 (s + 0) (ngA ha)).trans ((Oy14 (s + 0) (ngS (j := 6) (by decide))).trans ((Oy13 (s + 0) (ngA ha)).trans ((Oy12 (s + 0) (ngS (j := 5) (by decide))).trans ((Oy11 (s + 0) (ngA ha)).trans ((Oy10 (s + 0) (ngS (j := 4) (by decide))).trans ((Oy9 (s + 0) (ngA ha)).trans ((Oy8 (s + 0) (ngS (j := 3) (by decide))).trans ((Oy7 (s + 0) (ngA ha)).trans ((Oy6 (s + 0) (ngS (j := 2) (by decide))).trans ((Oy5 (s + 0) (ngA ha)).trans ((Oy4 (s + 0) (ngS (j := 1) (by decide))).trans ((Oy3 (s + 0) (ngA ha)).trans (A0)))))))))))))
  have Z1 : y15 (s + 1) = some (.inl (ev.1 0, 120, .inl (fun _ => 0))) := (Oy15 (s + 1) (ngA ha)).trans ((Oy14 (s + 1) (ngS (j := 6) (by decide))).trans ((Oy13 (s + 1) (ngA ha)).trans ((Oy12 (s + 1) (ngS (j := 5) (by decide))).trans ((Oy11 (s + 1) (ngA ha)).trans ((Oy10 (s + 1) (ngS (j := 4) (by decide))).trans ((Oy9 (s + 1) (ngA ha)).trans ((Oy8 (s + 1) (ngS (j := 3) (by decide))).trans ((Oy7 (s + 1) (ngA ha)).trans ((Oy6 (s + 1) (ngS (j := 2) (by decide))).trans ((Oy5 (s + 1) (ngA ha)).trans (A1)))))))))))
  have Z2 : y15 (s + 2) = some (.inl (ev.1 0, 120, .inl (fun _ => 0))) := (Oy15 (s + 2) (ngA ha)).trans ((Oy14 (s + 2) (ngS (j := 6) (by decide))).trans ((Oy13 (s + 2) (ngA ha)).trans ((Oy12 (s + 2) (ngS (j := 5) (by decide))).trans ((Oy11 (s + 2) (ngA ha)).trans ((Oy10 (s + 2) (ngS (j := 4) (by decide))).trans ((Oy9 (s + 2) (ngA ha)).trans ((Oy8 (s + 2) (ngS (j := 3) (by decide))).trans ((Oy7 (s + 2) (ngA ha)).trans (A2)))))))))
  have Z3 : y15 (s + 3) = some (.inl (ev.1 0, 120, .inl (fun _ => 0))) := (Oy15 (s + 3) (ngA ha)).trans ((Oy14 (s + 3) (ngS (j := 6) (by decide))).trans ((Oy13 (s + 3) (ngA ha)).trans ((Oy12 (s + 3) (ngS (j := 5) (by decide))).trans ((Oy11 (s + 3) (ngA ha)).trans ((Oy10 (s + 3) (ngS (j := 4) (by decide))).trans ((Oy9 (s + 3) (ngA ha)).trans (A3)))))))
  have Z4 : y15 (s + 4) = some (.inl (ev.1 0, 120, .inl (fun _ => 0))) := (Oy15 (s + 4) (ngA ha)).trans ((Oy14 (s + 4) (ngS (j := 6) (by decide))).trans ((Oy13 (s + 4) (ngA ha)).trans ((Oy12 (s + 4) (ngS (j := 5) (by decide))).trans ((Oy11 (s + 4) (ngA ha)).trans (A4)))))
  have Z5 : y15 (s + 5) = some (.inl (ev.1 0, 120, .inl (fun _ => 0))) := (Oy15 (s + 5) (ngA ha)).trans ((Oy14 (s + 5) (ngS (j := 6) (by decide))).trans ((Oy13 (s + 5) (ngA ha)).trans (A5)))
  have Z6 : y15 (s + 6) = some (.inl (ev.1 0, 120, .inl (fun _ => 0))) := (Oy15 (s + 6) (ngA ha)).trans (A6)
  have Z : ∀ b, b ≠ a → (b < s ∨ s + 7 ≤ b) → y15 b = hp0 b := fun b hb hb2 => (Oy15 b hb).trans ((Oy14 b (ngB (k := 6) hb2 (by decide))).trans ((Oy13 b hb).trans ((Oy12 b (ngB (k := 5) hb2 (by decide))).trans ((Oy11 b hb).trans ((Oy10 b (ngB (k := 4) hb2 (by decide))).trans ((Oy9 b hb).trans ((Oy8 b (ngB (k := 3) hb2 (by decide))).trans ((Oy7 b hb).trans ((Oy6 b (ngB (k := 2) hb2 (by decide))).trans ((Oy5 b hb).trans ((Oy4 b (ngB (k := 1) hb2 (by decide))).trans ((Oy3 b hb).trans ((Oy2 b (ngB (k := 0) hb2 (by decide))).trans ((Oy1 b hb)))))))))))))))
  exact ye_ret rfl rfl ⟨y15, rfl, Ry15, Z0, Z1, Z2, Z3, Z4, Z5, Z6, Z⟩
set_option maxRecDepth 20000 in
set_option maxHeartbeats 4000000 in
theorem rc_84_20 (hp0 : xH) (a s : Nat) (h0 : hp0 a = some (.inr (8, [.int 0, .int 0, .null, .null, .null, .null, .null, .null]))) (ha : a < s) : ∃ hp', xCalls ev xmi (xprog ev) prim (d + 1) 84 [.ref a, .int 20] hp0 s (none, hp', s + 6, 1346) ∧ hp' a = some (.inr (8, [.int 0, .int (-2), .ref (s + 0), .ref (s + 2), .ref (s + 3), .ref (s + 4), .ref (s + 5), .ref (s + 1)])) ∧ hp' (s + 0) = some (.inl (ev.1 0, 26, .inl (fun _ => 0))) ∧ hp' (s + 1) = some (.inl (ev.1 0, 60, .inl (fun _ => 0))) ∧ hp' (s + 2) = some (.inl (ev.1 0, 20, .inl (fun _ => 0))) ∧ hp' (s + 3) = some (.inl (ev.1 0, 20, .inl (fun _ => 0))) ∧ hp' (s + 4) = some (.inl (ev.1 0, 20, .inl (fun _ => 0))) ∧ hp' (s + 5) = some (.inl (ev.1 0, 1200, .inl (fun _ => 0))) ∧ (∀ b, b ≠ a → (b < s ∨ s + 6 ≤ b) → hp' b = hp0 b) := by
  refine Exists.elim (yc_of (ev := ev) (prim := prim) (d := d + 0) (j := 84) (av := [.ref a, .int 20]) (hp := hp0) (sz := s) (r := fun q => ∃ hp', q = .inl (none, hp', s + 6, 1346) ∧ hp' a = some (.inr (8, [.int 0, .int (-2), .ref (s + 0), .ref (s + 2), .ref (s + 3), .ref (s + 4), .ref (s + 5), .ref (s + 1)])) ∧ hp' (s + 0) = some (.inl (ev.1 0, 26, .inl (fun _ => 0))) ∧ hp' (s + 1) = some (.inl (ev.1 0, 60, .inl (fun _ => 0))) ∧ hp' (s + 2) = some (.inl (ev.1 0, 20, .inl (fun _ => 0))) ∧ hp' (s + 3) = some (.inl (ev.1 0, 20, .inl (fun _ => 0))) ∧ hp' (s + 4) = some (.inl (ev.1 0, 20, .inl (fun _ => 0))) ∧ hp' (s + 5) = some (.inl (ev.1 0, 1200, .inl (fun _ => 0))) ∧ (∀ b, b ≠ a → (b < s ∨ s + 6 ≤ b) → hp' b = hp0 b)) (pg_84 ev) mi_84 (Nat.le_of_ble_eq_true rfl) (fun s hs => by obtain ⟨_, h, _⟩ := hs; cases h) ?_) (fun q hq0 => ?_)
  rotate_left 1
  · obtain ⟨hc, hp', e, k1, k2⟩ := hq0
    rw [Sum.inl.inj e] at hc
    exact ⟨hp', hc, k1, k2⟩
  refine ye_aload rfl rfl ?_
  refine ye_p rfl rfl ?_
  refine ye_aload rfl rfl ?_
  refine ye_p rfl rfl ?_
  refine yw_rawp rfl h0 (Nat.le_of_ble_eq_true rfl) rfl rfl (fun y1 Ry1 Oy1 => ?_)
  show yWE _ _ _ _ (10, _, _, _, _, _) _
  refine ye_aload rfl rfl ?_
  refine ye_p rfl rfl ?_
  refine yw_rawa (m := 26) rfl rfl (by decide) (fun y2 A0 Oy2 => ?_)
  have Ry2 := (Oy2 a (ngA' (k := 0) ha)).trans Ry1
  refine yw_rawp rfl Ry2 (Nat.le_of_ble_eq_true rfl) rfl rfl (fun y3 Ry3 Oy3 => ?_)
  show yWE _ _ _ _ (18, _, _, _, _, _) _
  refine ye_aload rfl rfl ?_
  refine ye_p rfl rfl ?_
  refine yw_rawa (m := 60) rfl rfl (by decide) (fun y4 A1 Oy4 => ?_)
  have Ry4 := (Oy4 a (ngA' (k := 1) ha)).trans Ry3
  refine yw_rawp rfl Ry4 (Nat.le_of_ble_eq_true rfl) rfl rfl (fun y5 Ry5 Oy5 => ?_)
  show yWE _ _ _ _ (26, _, _, _, _, _) _
  refine ye_aload rfl rfl ?_
  refine ye_iload rfl rfl ?_
  refine yw_rawa (m := 20) rfl rfl (by decide) (fun y6 A2 Oy6 => ?_)
  have Ry6 := (Oy6 a (ngA' (k := 2) ha)).trans Ry5
  refine yw_rawp rfl Ry6 (Nat.le_of_ble_eq_true rfl) rfl rfl (fun y7 Ry7 Oy7 => ?_)
  show yWE _ _ _ _ (33, _, _, _, _, _) _
  refine ye_aload rfl rfl ?_
  refine ye_iload rfl rfl ?_
  refine yw_rawa (m := 20) rfl rfl (by decide) (fun y8 A3 Oy8 => ?_)
  have Ry8 := (Oy8 a (ngA' (k := 3) ha)).trans Ry7
  refine yw_rawp rfl Ry8 (Nat.le_of_ble_eq_true rfl) rfl rfl (fun y9 Ry9 Oy9 => ?_)
  show yWE _ _ _ _ (40, _, _, _, _, _) _
  refine ye_aload rfl rfl ?_
  refine ye_iload rfl rfl ?_
  refine yw_rawa (m := 20) rfl rfl (by decide) (fun y10 A4 Oy10 => ?_)
  have Ry10 := (Oy10 a (ngA' (k := 4) ha)).trans Ry9
  refine yw_rawp rfl Ry10 (Nat.le_of_ble_eq_true rfl) rfl rfl (fun y11 Ry11 Oy11 => ?_)
  show yWE _ _ _ _ (47, _, _, _, _, _) _
  refine ye_aload rfl rfl ?_
  refine ye_iload rfl rfl ?_
  refine ye_p rfl rfl ?_
  refine ye_p rfl rfl ?_
  refine yw_rawa (m := 1200) rfl rfl (by decide) (fun y12 A5 Oy12 => ?_)
  have Ry12 := (Oy12 a (ngA' (k := 5) ha)).trans Ry11
  refine yw_rawp rfl Ry12 (Nat.le_of_ble_eq_true rfl) rfl rfl (fun y13 Ry13 Oy13 => ?_)
  have Z0 : y13 (s + 0) = some (.inl (ev.1 0, 26, .inl (fun _ => 0))) := (Oy13 (s + 0) (ngA ha)).trans ((Oy12 (s + 0) (ngS (j := 5) (by decide))).trans ((Oy11 (s + 0) (ngA ha)).trans ((Oy10 (s + 0) (ngS (j := 4) (by decide))).trans ((Oy9 (s + 0) (ngA ha)).trans ((Oy8 (s + 0) (ngS (j := 3) (by decide))).trans ((Oy7 (s + 0) (ngA ha)).trans ((Oy6 (s + 0) (ngS (j := 2) (by decide))).trans ((Oy5 (s + 0) (ngA ha)).trans ((Oy4 (s + 0) (ngS (j := 1) (by decide))).trans ((Oy3 (s + 0) (ngA ha)).trans (A0)))))))))))
  have Z1 : y13 (s + 1) = some (.inl (ev.1 0, 60, .inl (fun _ => 0))) := (Oy13 (s + 1) (ngA ha)).trans ((Oy12 (s + 1) (ngS (j := 5) (by decide))).trans ((Oy11 (s + 1) (ngA ha)).trans ((Oy10 (s + 1) (ngS (j := 4) (by decide))).trans ((Oy9 (s + 1) (ngA ha)).trans ((Oy8 (s + 1) (ngS (j := 3) (by decide))).trans ((Oy7 (s + 1) (ngA ha)).trans ((Oy6 (s + 1) (ngS (j := 2) (by decide))).trans ((Oy5 (s + 1) (ngA ha)).trans (A1)))))))))
  have Z2 : y13 (s + 2) = some (.inl (ev.1 0, 20, .inl (fun _ => 0))) := (Oy13 (s + 2) (ngA ha)).trans ((Oy12 (s + 2) (ngS (j := 5) (by decide))).trans ((Oy11 (s + 2) (ngA ha)).trans ((Oy10 (s + 2) (ngS (j := 4) (by decide))).trans ((Oy9 (s + 2) (ngA ha)).trans ((Oy8 (s + 2) (ngS (j := 3) (by decide))).trans ((Oy7 (s + 2) (ngA ha)).trans (A2)))))))
  have Z3 : y13 (s + 3) = some (.inl (ev.1 0, 20, .inl (fun _ => 0))) := (Oy13 (s + 3) (ngA ha)).trans ((Oy12 (s + 3) (ngS (j := 5) (by decide))).trans ((Oy11 (s + 3) (ngA ha)).trans ((Oy10 (s + 3) (ngS (j := 4) (by decide))).trans ((Oy9 (s + 3) (ngA ha)).trans (A3)))))
  have Z4 : y13 (s + 4) = some (.inl (ev.1 0, 20, .inl (fun _ => 0))) := (Oy13 (s + 4) (ngA ha)).trans ((Oy12 (s + 4) (ngS (j := 5) (by decide))).trans ((Oy11 (s + 4) (ngA ha)).trans (A4)))
  have Z5 : y13 (s + 5) = some (.inl (ev.1 0, 1200, .inl (fun _ => 0))) := (Oy13 (s + 5) (ngA ha)).trans (A5)
  have Z : ∀ b, b ≠ a → (b < s ∨ s + 6 ≤ b) → y13 b = hp0 b := fun b hb hb2 => (Oy13 b hb).trans ((Oy12 b (ngB (k := 5) hb2 (by decide))).trans ((Oy11 b hb).trans ((Oy10 b (ngB (k := 4) hb2 (by decide))).trans ((Oy9 b hb).trans ((Oy8 b (ngB (k := 3) hb2 (by decide))).trans ((Oy7 b hb).trans ((Oy6 b (ngB (k := 2) hb2 (by decide))).trans ((Oy5 b hb).trans ((Oy4 b (ngB (k := 1) hb2 (by decide))).trans ((Oy3 b hb).trans ((Oy2 b (ngB (k := 0) hb2 (by decide))).trans ((Oy1 b hb)))))))))))))
  exact ye_ret rfl rfl ⟨y13, rfl, Ry13, Z0, Z1, Z2, Z3, Z4, Z5, Z⟩
set_option maxRecDepth 20000 in
set_option maxHeartbeats 4000000 in
theorem rc_84_12 (hp0 : xH) (a s : Nat) (h0 : hp0 a = some (.inr (8, [.int 0, .int 0, .null, .null, .null, .null, .null, .null]))) (ha : a < s) : ∃ hp', xCalls ev xmi (xprog ev) prim (d + 1) 84 [.ref a, .int 12] hp0 s (none, hp', s + 6, 842) ∧ hp' a = some (.inr (8, [.int 0, .int (-2), .ref (s + 0), .ref (s + 2), .ref (s + 3), .ref (s + 4), .ref (s + 5), .ref (s + 1)])) ∧ hp' (s + 0) = some (.inl (ev.1 0, 26, .inl (fun _ => 0))) ∧ hp' (s + 1) = some (.inl (ev.1 0, 60, .inl (fun _ => 0))) ∧ hp' (s + 2) = some (.inl (ev.1 0, 12, .inl (fun _ => 0))) ∧ hp' (s + 3) = some (.inl (ev.1 0, 12, .inl (fun _ => 0))) ∧ hp' (s + 4) = some (.inl (ev.1 0, 12, .inl (fun _ => 0))) ∧ hp' (s + 5) = some (.inl (ev.1 0, 720, .inl (fun _ => 0))) ∧ (∀ b, b ≠ a → (b < s ∨ s + 6 ≤ b) → hp' b = hp0 b) := by
  refine Exists.elim (yc_of (ev := ev) (prim := prim) (d := d + 0) (j := 84) (av := [.ref a, .int 12]) (hp := hp0) (sz := s) (r := fun q => ∃ hp', q = .inl (none, hp', s + 6, 842) ∧ hp' a = some (.inr (8, [.int 0, .int (-2), .ref (s + 0), .ref (s + 2), .ref (s + 3), .ref (s + 4), .ref (s + 5), .ref (s + 1)])) ∧ hp' (s + 0) = some (.inl (ev.1 0, 26, .inl (fun _ => 0))) ∧ hp' (s + 1) = some (.inl (ev.1 0, 60, .inl (fun _ => 0))) ∧ hp' (s + 2) = some (.inl (ev.1 0, 12, .inl (fun _ => 0))) ∧ hp' (s + 3) = some (.inl (ev.1 0, 12, .inl (fun _ => 0))) ∧ hp' (s + 4) = some (.inl (ev.1 0, 12, .inl (fun _ => 0))) ∧ hp' (s + 5) = some (.inl (ev.1 0, 720, .inl (fun _ => 0))) ∧ (∀ b, b ≠ a → (b < s ∨ s + 6 ≤ b) → hp' b = hp0 b)) (pg_84 ev) mi_84 (Nat.le_of_ble_eq_true rfl) (fun s hs => by obtain ⟨_, h, _⟩ := hs; cases h) ?_) (fun q hq0 => ?_)
  rotate_left 1
  · obtain ⟨hc, hp', e, k1, k2⟩ := hq0
    rw [Sum.inl.inj e] at hc
    exact ⟨hp', hc, k1, k2⟩
  refine ye_aload rfl rfl ?_
  refine ye_p rfl rfl ?_
  refine ye_aload rfl rfl ?_
  refine ye_p rfl rfl ?_
  refine yw_rawp rfl h0 (Nat.le_of_ble_eq_true rfl) rfl rfl (fun y1 Ry1 Oy1 => ?_)
  show yWE _ _ _ _ (10, _, _, _, _, _) _
  refine ye_aload rfl rfl ?_
  refine ye_p rfl rfl ?_
  refine yw_rawa (m := 26) rfl rfl (by decide) (fun y2 A0 Oy2 => ?_)
  have Ry2 := (Oy2 a (ngA' (k := 0) ha)).trans Ry1
  refine yw_rawp rfl Ry2 (Nat.le_of_ble_eq_true rfl) rfl rfl (fun y3 Ry3 Oy3 => ?_)
  show yWE _ _ _ _ (18, _, _, _, _, _) _
  refine ye_aload rfl rfl ?_
  refine ye_p rfl rfl ?_
  refine yw_rawa (m := 60) rfl rfl (by decide) (fun y4 A1 Oy4 => ?_)
  have Ry4 := (Oy4 a (ngA' (k := 1) ha)).trans Ry3
  refine yw_rawp rfl Ry4 (Nat.le_of_ble_eq_true rfl) rfl rfl (fun y5 Ry5 Oy5 => ?_)
  show yWE _ _ _ _ (26, _, _, _, _, _) _
  refine ye_aload rfl rfl ?_
  refine ye_iload rfl rfl ?_
  refine yw_rawa (m := 12) rfl rfl (by decide) (fun y6 A2 Oy6 => ?_)
  have Ry6 := (Oy6 a (ngA' (k := 2) ha)).trans Ry5
  refine yw_rawp rfl Ry6 (Nat.le_of_ble_eq_true rfl) rfl rfl (fun y7 Ry7 Oy7 => ?_)
  show yWE _ _ _ _ (33, _, _, _, _, _) _
  refine ye_aload rfl rfl ?_
  refine ye_iload rfl rfl ?_
  refine yw_rawa (m := 12) rfl rfl (by decide) (fun y8 A3 Oy8 => ?_)
  have Ry8 := (Oy8 a (ngA' (k := 3) ha)).trans Ry7
  refine yw_rawp rfl Ry8 (Nat.le_of_ble_eq_true rfl) rfl rfl (fun y9 Ry9 Oy9 => ?_)
  show yWE _ _ _ _ (40, _, _, _, _, _) _
  refine ye_aload rfl rfl ?_
  refine ye_iload rfl rfl ?_
  refine yw_rawa (m := 12) rfl rfl (by decide) (fun y10 A4 Oy10 => ?_)
  have Ry10 := (Oy10 a (ngA' (k := 4) ha)).trans Ry9
  refine yw_rawp rfl Ry10 (Nat.le_of_ble_eq_true rfl) rfl rfl (fun y11 Ry11 Oy11 => ?_)
  show yWE _ _ _ _ (47, _, _, _, _, _) _
  refine ye_aload rfl rfl ?_
  refine ye_iload rfl rfl ?_
  refine ye_p rfl rfl ?_
  refine ye_p rfl rfl ?_
  refine yw_rawa (m := 720) rfl rfl (by decide) (fun y12 A5 Oy12 => ?_)
  have Ry12 := (Oy12 a (ngA' (k := 5) ha)).trans Ry11
  refine yw_rawp rfl Ry12 (Nat.le_of_ble_eq_true rfl) rfl rfl (fun y13 Ry13 Oy13 => ?_)
  have Z0 : y13 (s + 0) = some (.inl (ev.1 0, 26, .inl (fun _ => 0))) := (Oy13 (s + 0) (ngA ha)).trans ((Oy12 (s + 0) (ngS (j := 5) (by decide))).trans ((Oy11 (s + 0) (ngA ha)).trans ((Oy10 (s + 0) (ngS (j := 4) (by decide))).trans ((Oy9 (s + 0) (ngA ha)).trans ((Oy8 (s + 0) (ngS (j := 3) (by decide))).trans ((Oy7 (s + 0) (ngA ha)).trans ((Oy6 (s + 0) (ngS (j := 2) (by decide))).trans ((Oy5 (s + 0) (ngA ha)).trans ((Oy4 (s + 0) (ngS (j := 1) (by decide))).trans ((Oy3 (s + 0) (ngA ha)).trans (A0)))))))))))
  have Z1 : y13 (s + 1) = some (.inl (ev.1 0, 60, .inl (fun _ => 0))) := (Oy13 (s + 1) (ngA ha)).trans ((Oy12 (s + 1) (ngS (j := 5) (by decide))).trans ((Oy11 (s + 1) (ngA ha)).trans ((Oy10 (s + 1) (ngS (j := 4) (by decide))).trans ((Oy9 (s + 1) (ngA ha)).trans ((Oy8 (s + 1) (ngS (j := 3) (by decide))).trans ((Oy7 (s + 1) (ngA ha)).trans ((Oy6 (s + 1) (ngS (j := 2) (by decide))).trans ((Oy5 (s + 1) (ngA ha)).trans (A1)))))))))
  have Z2 : y13 (s + 2) = some (.inl (ev.1 0, 12, .inl (fun _ => 0))) := (Oy13 (s + 2) (ngA ha)).trans ((Oy12 (s + 2) (ngS (j := 5) (by decide))).trans ((Oy11 (s + 2) (ngA ha)).trans ((Oy10 (s + 2) (ngS (j := 4) (by decide))).trans ((Oy9 (s + 2) (ngA ha)).trans ((Oy8 (s + 2) (ngS (j := 3) (by decide))).trans ((Oy7 (s + 2) (ngA ha)).trans (A2)))))))
  have Z3 : y13 (s + 3) = some (.inl (ev.1 0, 12, .inl (fun _ => 0))) := (Oy13 (s + 3) (ngA ha)).trans ((Oy12 (s + 3) (ngS (j := 5) (by decide))).trans ((Oy11 (s + 3) (ngA ha)).trans ((Oy10 (s + 3) (ngS (j := 4) (by decide))).trans ((Oy9 (s + 3) (ngA ha)).trans (A3)))))
  have Z4 : y13 (s + 4) = some (.inl (ev.1 0, 12, .inl (fun _ => 0))) := (Oy13 (s + 4) (ngA ha)).trans ((Oy12 (s + 4) (ngS (j := 5) (by decide))).trans ((Oy11 (s + 4) (ngA ha)).trans (A4)))
  have Z5 : y13 (s + 5) = some (.inl (ev.1 0, 720, .inl (fun _ => 0))) := (Oy13 (s + 5) (ngA ha)).trans (A5)
  have Z : ∀ b, b ≠ a → (b < s ∨ s + 6 ≤ b) → y13 b = hp0 b := fun b hb hb2 => (Oy13 b hb).trans ((Oy12 b (ngB (k := 5) hb2 (by decide))).trans ((Oy11 b hb).trans ((Oy10 b (ngB (k := 4) hb2 (by decide))).trans ((Oy9 b hb).trans ((Oy8 b (ngB (k := 3) hb2 (by decide))).trans ((Oy7 b hb).trans ((Oy6 b (ngB (k := 2) hb2 (by decide))).trans ((Oy5 b hb).trans ((Oy4 b (ngB (k := 1) hb2 (by decide))).trans ((Oy3 b hb).trans ((Oy2 b (ngB (k := 0) hb2 (by decide))).trans ((Oy1 b hb)))))))))))))
  exact ye_ret rfl rfl ⟨y13, rfl, Ry13, Z0, Z1, Z2, Z3, Z4, Z5, Z⟩
set_option maxRecDepth 20000 in
set_option maxHeartbeats 4000000 in
theorem rc_95 (u : Nat) (hp0 : xH) (a s : Nat) (h0 : hp0 a = some (.inr (10, [.null, .null, .null, .null, .null, .int 0, .null, .int 0, .null, .int 0, .null, .null, .int 0, .int 0, .int 0, .int 0, .int 0, .int 0, .int 0, .int 0]))) (ha : a < s) : ∃ hp', xCalls ev xmi (xprog ev) prim (d + 2) 95 [.ref a, .ref u] hp0 s (none, hp', s + 27, 3153) ∧ hp' a = some (.inr (10, [.ref u, .ref (s + 0), .ref (s + 8), .ref (s + 15), .ref (s + 22), .int 0, .ref (s + 23), .int 0, .ref (s + 24), .int 0, .ref (s + 25), .ref (s + 26), .int 0, .int 0, .int 0, .int 6, .int 1, .int 0, .int 0, .int 0])) ∧ hp' (s + 0) = some (.inr (9, [.int 4, .int 0, .ref (s + 1), .ref (s + 2), .ref (s + 3), .ref (s + 4), .ref (s + 5), .ref (s + 6), .ref (s + 7)])) ∧ hp' (s + 1) = some (.inl (ev.1 0, 120, .inl (fun _ => 0))) ∧ hp' (s + 2) = some (.inl (ev.1 0, 120, .inl (fun _ => 0))) ∧ hp' (s + 3) = some (.inl (ev.1 0, 120, .inl (fun _ => 0))) ∧ hp' (s + 4) = some (.inl (ev.1 0, 120, .inl (fun _ => 0))) ∧ hp' (s + 5) = some (.inl (ev.1 0, 120, .inl (fun _ => 0))) ∧ hp' (s + 6) = some (.inl (ev.1 0, 120, .inl (fun _ => 0))) ∧ hp' (s + 7) = some (.inl (ev.1 0, 120, .inl (fun _ => 0))) ∧ hp' (s + 8) = some (.inr (8, [.int 0, .int (-2), .ref (s + 9), .ref (s + 11), .ref (s + 12), .ref (s + 13), .ref (s + 14), .ref (s + 10)])) ∧ hp' (s + 9) = some (.inl (ev.1 0, 26, .inl (fun _ => 0))) ∧ hp' (s + 10) = some (.inl (ev.1 0, 60, .inl (fun _ => 0))) ∧ hp' (s + 11) = some (.inl (ev.1 0, 20, .inl (fun _ => 0))) ∧ hp' (s + 12) = some (.inl (ev.1 0, 20, .inl (fun _ => 0))) ∧ hp' (s + 13) = some (.inl (ev.1 0, 20, .inl (fun _ => 0))) ∧ hp' (s + 14) = some (.inl (ev.1 0, 1200, .inl (fun _ => 0))) ∧ hp' (s + 15) = some (.inr (8, [.int 0, .int (-2), .ref (s + 16), .ref (s + 18), .ref (s + 19), .ref (s + 20), .ref (s + 21), .ref (s + 17)])) ∧ hp' (s + 16) = some (.inl (ev.1 0, 26, .inl (fun _ => 0))) ∧ hp' (s + 17) = some (.inl (ev.1 0, 60, .inl (fun _ => 0))) ∧ hp' (s + 18) = some (.inl (ev.1 0, 12, .inl (fun _ => 0))) ∧ hp' (s + 19) = some (.inl (ev.1 0, 12, .inl (fun _ => 0))) ∧ hp' (s + 20) = some (.inl (ev.1 0, 12, .inl (fun _ => 0))) ∧ hp' (s + 21) = some (.inl (ev.1 0, 720, .inl (fun _ => 0))) ∧ hp' (s + 22) = some (.inl (ev.1 5, 8, .inr (.inr (.inr (.inr (fun _ => none)))))) ∧ hp' (s + 23) = some (.inl (ev.1 6, 8, .inr (.inr (.inr (.inr (fun _ => none)))))) ∧ hp' (s + 24) = some (.inl (ev.1 7, 30, .inr (.inr (.inr (.inr (fun _ => none)))))) ∧ hp' (s + 25) = some (.inl (ev.1 0, 30, .inl (fun _ => 0))) ∧ hp' (s + 26) = some (.inl (ev.1 8, 24, .inr (.inr (.inr (.inr (fun _ => none)))))) ∧ (∀ b, b ≠ a → (b < s ∨ s + 27 ≤ b) → hp' b = hp0 b) := by
  refine Exists.elim (yc_of (ev := ev) (prim := prim) (d := d + 1) (j := 95) (av := [.ref a, .ref u]) (hp := hp0) (sz := s) (r := fun q => ∃ hp', q = .inl (none, hp', s + 27, 3153) ∧ hp' a = some (.inr (10, [.ref u, .ref (s + 0), .ref (s + 8), .ref (s + 15), .ref (s + 22), .int 0, .ref (s + 23), .int 0, .ref (s + 24), .int 0, .ref (s + 25), .ref (s + 26), .int 0, .int 0, .int 0, .int 6, .int 1, .int 0, .int 0, .int 0])) ∧ hp' (s + 0) = some (.inr (9, [.int 4, .int 0, .ref (s + 1), .ref (s + 2), .ref (s + 3), .ref (s + 4), .ref (s + 5), .ref (s + 6), .ref (s + 7)])) ∧ hp' (s + 1) = some (.inl (ev.1 0, 120, .inl (fun _ => 0))) ∧ hp' (s + 2) = some (.inl (ev.1 0, 120, .inl (fun _ => 0))) ∧ hp' (s + 3) = some (.inl (ev.1 0, 120, .inl (fun _ => 0))) ∧ hp' (s + 4) = some (.inl (ev.1 0, 120, .inl (fun _ => 0))) ∧ hp' (s + 5) = some (.inl (ev.1 0, 120, .inl (fun _ => 0))) ∧ hp' (s + 6) = some (.inl (ev.1 0, 120, .inl (fun _ => 0))) ∧ hp' (s + 7) = some (.inl (ev.1 0, 120, .inl (fun _ => 0))) ∧ hp' (s + 8) = some (.inr (8, [.int 0, .int (-2), .ref (s + 9), .ref (s + 11), .ref (s + 12), .ref (s + 13), .ref (s + 14), .ref (s + 10)])) ∧ hp' (s + 9) = some (.inl (ev.1 0, 26, .inl (fun _ => 0))) ∧ hp' (s + 10) = some (.inl (ev.1 0, 60, .inl (fun _ => 0))) ∧ hp' (s + 11) = some (.inl (ev.1 0, 20, .inl (fun _ => 0))) ∧ hp' (s + 12) = some (.inl (ev.1 0, 20, .inl (fun _ => 0))) ∧ hp' (s + 13) = some (.inl (ev.1 0, 20, .inl (fun _ => 0))) ∧ hp' (s + 14) = some (.inl (ev.1 0, 1200, .inl (fun _ => 0))) ∧ hp' (s + 15) = some (.inr (8, [.int 0, .int (-2), .ref (s + 16), .ref (s + 18), .ref (s + 19), .ref (s + 20), .ref (s + 21), .ref (s + 17)])) ∧ hp' (s + 16) = some (.inl (ev.1 0, 26, .inl (fun _ => 0))) ∧ hp' (s + 17) = some (.inl (ev.1 0, 60, .inl (fun _ => 0))) ∧ hp' (s + 18) = some (.inl (ev.1 0, 12, .inl (fun _ => 0))) ∧ hp' (s + 19) = some (.inl (ev.1 0, 12, .inl (fun _ => 0))) ∧ hp' (s + 20) = some (.inl (ev.1 0, 12, .inl (fun _ => 0))) ∧ hp' (s + 21) = some (.inl (ev.1 0, 720, .inl (fun _ => 0))) ∧ hp' (s + 22) = some (.inl (ev.1 5, 8, .inr (.inr (.inr (.inr (fun _ => none)))))) ∧ hp' (s + 23) = some (.inl (ev.1 6, 8, .inr (.inr (.inr (.inr (fun _ => none)))))) ∧ hp' (s + 24) = some (.inl (ev.1 7, 30, .inr (.inr (.inr (.inr (fun _ => none)))))) ∧ hp' (s + 25) = some (.inl (ev.1 0, 30, .inl (fun _ => 0))) ∧ hp' (s + 26) = some (.inl (ev.1 8, 24, .inr (.inr (.inr (.inr (fun _ => none)))))) ∧ (∀ b, b ≠ a → (b < s ∨ s + 27 ≤ b) → hp' b = hp0 b)) (pg_95 ev) mi_95 (Nat.le_of_ble_eq_true rfl) (fun s hs => by obtain ⟨_, h, _⟩ := hs; cases h) ?_) (fun q hq0 => ?_)
  rotate_left 1
  · obtain ⟨hc, hp', e, k1, k2⟩ := hq0
    rw [Sum.inl.inj e] at hc
    exact ⟨hp', hc, k1, k2⟩
  refine ye_aload rfl rfl ?_
  refine ye_p rfl rfl ?_
  refine ye_aload rfl rfl ?_
  refine yw_rawn rfl (fun y1 Ny1 Oy1 => ?_)
  have Ry1 := (Oy1 a (ngA' (k := 0) ha)).trans h0
  refine ye_p rfl rfl ?_
  obtain ⟨y2, cy2, Ky2, Ey2_0, Ey2_1, Ey2_2, Ey2_3, Ey2_4, Ey2_5, Ey2_6, Oy2⟩ := rc_92 (prim := prim) (d := d + 0) y1 (s + 0) (s + 1) Ny1 (by omega)
  refine ye_callV (As := []) (rest := [.ref (s + 0), .ref a]) 2 (Or.inr rfl) rfl rfl rfl (Nat.le_of_ble_eq_true rfl) Ny1 (by exact cy2) ?_
  have Ry2 := (Oy2 a (ngA' ha) (rgA ha)).trans Ry1
  refine yw_rawp rfl Ry2 (Nat.le_of_ble_eq_true rfl) rfl rfl (fun y3 Ry3 Oy3 => ?_)
  show yWE _ _ _ _ (15, _, _, _, _, _) _
  refine ye_aload rfl rfl ?_
  refine yw_rawn rfl (fun y4 Ny4 Oy4 => ?_)
  have Ry4 := (Oy4 a (ngA' (k := 8) ha)).trans Ry3
  refine ye_p rfl rfl ?_
  refine ye_p rfl rfl ?_
  obtain ⟨y5, cy5, Ky5, Ey5_0, Ey5_1, Ey5_2, Ey5_3, Ey5_4, Ey5_5, Oy5⟩ := rc_84_20 (prim := prim) (d := d + 0) y4 (s + 8) (s + 9) Ny4 (by omega)
  refine ye_callV (As := [.int 20]) (rest := [.ref (s + 8), .ref a]) 2 (Or.inr rfl) rfl rfl rfl (Nat.le_of_ble_eq_true rfl) Ny4 (by exact cy5) ?_
  have Ry5 := (Oy5 a (ngA' ha) (rgA ha)).trans Ry4
  refine yw_rawp rfl Ry5 (Nat.le_of_ble_eq_true rfl) rfl rfl (fun y6 Ry6 Oy6 => ?_)
  show yWE _ _ _ _ (28, _, _, _, _, _) _
  refine ye_aload rfl rfl ?_
  refine yw_rawn rfl (fun y7 Ny7 Oy7 => ?_)
  have Ry7 := (Oy7 a (ngA' (k := 15) ha)).trans Ry6
  refine ye_p rfl rfl ?_
  refine ye_p rfl rfl ?_
  obtain ⟨y8, cy8, Ky8, Ey8_0, Ey8_1, Ey8_2, Ey8_3, Ey8_4, Ey8_5, Oy8⟩ := rc_84_12 (prim := prim) (d := d + 0) y7 (s + 15) (s + 16) Ny7 (by omega)
  refine ye_callV (As := [.int 12]) (rest := [.ref (s + 15), .ref a]) 2 (Or.inr rfl) rfl rfl rfl (Nat.le_of_ble_eq_true rfl) Ny7 (by exact cy8) ?_
  have Ry8 := (Oy8 a (ngA' ha) (rgA ha)).trans Ry7
  refine yw_rawp rfl Ry8 (Nat.le_of_ble_eq_true rfl) rfl rfl (fun y9 Ry9 Oy9 => ?_)
  show yWE _ _ _ _ (41, _, _, _, _, _) _
  refine ye_aload rfl rfl ?_
  refine ye_p rfl rfl ?_
  refine yw_rawr (m := 8) rfl rfl (by decide) (fun y10 A22 Oy10 => ?_)
  have Ry10 := (Oy10 a (ngA' (k := 22) ha)).trans Ry9
  refine yw_rawp rfl Ry10 (Nat.le_of_ble_eq_true rfl) rfl rfl (fun y11 Ry11 Oy11 => ?_)
  show yWE _ _ _ _ (50, _, _, _, _, _) _
  refine ye_aload rfl rfl ?_
  refine ye_p rfl rfl ?_
  refine yw_rawr (m := 8) rfl rfl (by decide) (fun y12 A23 Oy12 => ?_)
  have Ry12 := (Oy12 a (ngA' (k := 23) ha)).trans Ry11
  refine yw_rawp rfl Ry12 (Nat.le_of_ble_eq_true rfl) rfl rfl (fun y13 Ry13 Oy13 => ?_)
  show yWE _ _ _ _ (59, _, _, _, _, _) _
  refine ye_aload rfl rfl ?_
  refine ye_p rfl rfl ?_
  refine yw_rawr (m := 30) rfl rfl (by decide) (fun y14 A24 Oy14 => ?_)
  have Ry14 := (Oy14 a (ngA' (k := 24) ha)).trans Ry13
  refine yw_rawp rfl Ry14 (Nat.le_of_ble_eq_true rfl) rfl rfl (fun y15 Ry15 Oy15 => ?_)
  show yWE _ _ _ _ (68, _, _, _, _, _) _
  refine ye_aload rfl rfl ?_
  refine ye_p rfl rfl ?_
  refine yw_rawa (m := 30) rfl rfl (by decide) (fun y16 A25 Oy16 => ?_)
  have Ry16 := (Oy16 a (ngA' (k := 25) ha)).trans Ry15
  refine yw_rawp rfl Ry16 (Nat.le_of_ble_eq_true rfl) rfl rfl (fun y17 Ry17 Oy17 => ?_)
  show yWE _ _ _ _ (76, _, _, _, _, _) _
  refine ye_aload rfl rfl ?_
  refine ye_p rfl rfl ?_
  refine yw_rawr (m := 24) rfl rfl (by decide) (fun y18 A26 Oy18 => ?_)
  have Ry18 := (Oy18 a (ngA' (k := 26) ha)).trans Ry17
  refine yw_rawp rfl Ry18 (Nat.le_of_ble_eq_true rfl) rfl rfl (fun y19 Ry19 Oy19 => ?_)
  show yWE _ _ _ _ (85, _, _, _, _, _) _
  refine ye_aload rfl rfl ?_
  refine ye_p rfl rfl ?_
  refine yw_rawp rfl Ry19 (Nat.le_of_ble_eq_true rfl) rfl rfl (fun y20 Ry20 Oy20 => ?_)
  show yWE _ _ _ _ (91, _, _, _, _, _) _
  refine ye_aload rfl rfl ?_
  refine ye_p rfl rfl ?_
  refine yw_rawp rfl Ry20 (Nat.le_of_ble_eq_true rfl) rfl rfl (fun y21 Ry21 Oy21 => ?_)
  show yWE _ _ _ _ (96, _, _, _, _, _) _
  refine ye_aload rfl rfl ?_
  show yWE _ _ _ _ (97, _, _, _, _, _) _
  refine ye_aload rfl rfl ?_
  refine yw_rawp rfl Ry21 (Nat.le_of_ble_eq_true rfl) rfl rfl (fun y22 Ry22 Oy22 => ?_)
  have Z0 : y22 (s + 0) = some (.inr (9, [.int 4, .int 0, .ref (s + 1), .ref (s + 2), .ref (s + 3), .ref (s + 4), .ref (s + 5), .ref (s + 6), .ref (s + 7)])) := (Oy22 (s + 0) (ngA ha)).trans ((Oy21 (s + 0) (ngA ha)).trans ((Oy20 (s + 0) (ngA ha)).trans ((Oy19 (s + 0) (ngA ha)).trans ((Oy18 (s + 0) (ngS (j := 26) (by decide))).trans ((Oy17 (s + 0) (ngA ha)).trans ((Oy16 (s + 0) (ngS (j := 25) (by decide))).trans ((Oy15 (s + 0) (ngA ha)).trans ((Oy14 (s + 0) (ngS (j := 24) (by decide))).trans ((Oy13 (s + 0) (ngA ha)).trans ((Oy12 (s + 0) (ngS (j := 23) (by decide))).trans ((Oy11 (s + 0) (ngA ha)).trans ((Oy10 (s + 0) (ngS (j := 22) (by decide))).trans ((Oy9 (s + 0) (ngA ha)).trans ((Oy8 (s + 0) (ngS (by decide)) (rgS (by decide))).trans ((Oy7 (s + 0) (ngS (j := 15) (by decide))).trans ((Oy6 (s + 0) (ngA ha)).trans ((Oy5 (s + 0) (ngS (by decide)) (rgS (by decide))).trans ((Oy4 (s + 0) (ngS (j := 8) (by decide))).trans ((Oy3 (s + 0) (ngA ha)).trans (Ky2))))))))))))))))))))
  have Z1 : y22 (s + 1) = some (.inl (ev.1 0, 120, .inl (fun _ => 0))) := (Oy22 (s + 1) (ngA ha)).trans ((Oy21 (s + 1) (ngA ha)).trans ((Oy20 (s + 1) (ngA ha)).trans ((Oy19 (s + 1) (ngA ha)).trans ((Oy18 (s + 1) (ngS (j := 26) (by decide))).trans ((Oy17 (s + 1) (ngA ha)).trans ((Oy16 (s + 1) (ngS (j := 25) (by decide))).trans ((Oy15 (s + 1) (ngA ha)).trans ((Oy14 (s + 1) (ngS (j := 24) (by decide))).trans ((Oy13 (s + 1) (ngA ha)).trans ((Oy12 (s + 1) (ngS (j := 23) (by decide))).trans ((Oy11 (s + 1) (ngA ha)).trans ((Oy10 (s + 1) (ngS (j := 22) (by decide))).trans ((Oy9 (s + 1) (ngA ha)).trans ((Oy8 (s + 1) (ngS (by decide)) (rgS (by decide))).trans ((Oy7 (s + 1) (ngS (j := 15) (by decide))).trans ((Oy6 (s + 1) (ngA ha)).trans ((Oy5 (s + 1) (ngS (by decide)) (rgS (by decide))).trans ((Oy4 (s + 1) (ngS (j := 8) (by decide))).trans ((Oy3 (s + 1) (ngA ha)).trans (Ey2_0))))))))))))))))))))
  have Z2 : y22 (s + 2) = some (.inl (ev.1 0, 120, .inl (fun _ => 0))) := (Oy22 (s + 2) (ngA ha)).trans ((Oy21 (s + 2) (ngA ha)).trans ((Oy20 (s + 2) (ngA ha)).trans ((Oy19 (s + 2) (ngA ha)).trans ((Oy18 (s + 2) (ngS (j := 26) (by decide))).trans ((Oy17 (s + 2) (ngA ha)).trans ((Oy16 (s + 2) (ngS (j := 25) (by decide))).trans ((Oy15 (s + 2) (ngA ha)).trans ((Oy14 (s + 2) (ngS (j := 24) (by decide))).trans ((Oy13 (s + 2) (ngA ha)).trans ((Oy12 (s + 2) (ngS (j := 23) (by decide))).trans ((Oy11 (s + 2) (ngA ha)).trans ((Oy10 (s + 2) (ngS (j := 22) (by decide))).trans ((Oy9 (s + 2) (ngA ha)).trans ((Oy8 (s + 2) (ngS (by decide)) (rgS (by decide))).trans ((Oy7 (s + 2) (ngS (j := 15) (by decide))).trans ((Oy6 (s + 2) (ngA ha)).trans ((Oy5 (s + 2) (ngS (by decide)) (rgS (by decide))).trans ((Oy4 (s + 2) (ngS (j := 8) (by decide))).trans ((Oy3 (s + 2) (ngA ha)).trans (Ey2_1))))))))))))))))))))
  have Z3 : y22 (s + 3) = some (.inl (ev.1 0, 120, .inl (fun _ => 0))) := (Oy22 (s + 3) (ngA ha)).trans ((Oy21 (s + 3) (ngA ha)).trans ((Oy20 (s + 3) (ngA ha)).trans ((Oy19 (s + 3) (ngA ha)).trans ((Oy18 (s + 3) (ngS (j := 26) (by decide))).trans ((Oy17 (s + 3) (ngA ha)).trans ((Oy16 (s + 3) (ngS (j := 25) (by decide))).trans ((Oy15 (s + 3) (ngA ha)).trans ((Oy14 (s + 3) (ngS (j := 24) (by decide))).trans ((Oy13 (s + 3) (ngA ha)).trans ((Oy12 (s + 3) (ngS (j := 23) (by decide))).trans ((Oy11 (s + 3) (ngA ha)).trans ((Oy10 (s + 3) (ngS (j := 22) (by decide))).trans ((Oy9 (s + 3) (ngA ha)).trans ((Oy8 (s + 3) (ngS (by decide)) (rgS (by decide))).trans ((Oy7 (s + 3) (ngS (j := 15) (by decide))).trans ((Oy6 (s + 3) (ngA ha)).trans ((Oy5 (s + 3) (ngS (by decide)) (rgS (by decide))).trans ((Oy4 (s + 3) (ngS (j := 8) (by decide))).trans ((Oy3 (s + 3) (ngA ha)).trans (Ey2_2))))))))))))))))))))
  have Z4 : y22 (s + 4) = some (.inl (ev.1 0, 120, .inl (fun _ => 0))) := (Oy22 (s + 4) (ngA ha)).trans ((Oy21 (s + 4) (ngA ha)).trans ((Oy20 (s + 4) (ngA ha)).trans ((Oy19 (s + 4) (ngA ha)).trans ((Oy18 (s + 4) (ngS (j := 26) (by decide))).trans ((Oy17 (s + 4) (ngA ha)).trans ((Oy16 (s + 4) (ngS (j := 25) (by decide))).trans ((Oy15 (s + 4) (ngA ha)).trans ((Oy14 (s + 4) (ngS (j := 24) (by decide))).trans ((Oy13 (s + 4) (ngA ha)).trans ((Oy12 (s + 4) (ngS (j := 23) (by decide))).trans ((Oy11 (s + 4) (ngA ha)).trans ((Oy10 (s + 4) (ngS (j := 22) (by decide))).trans ((Oy9 (s + 4) (ngA ha)).trans ((Oy8 (s + 4) (ngS (by decide)) (rgS (by decide))).trans ((Oy7 (s + 4) (ngS (j := 15) (by decide))).trans ((Oy6 (s + 4) (ngA ha)).trans ((Oy5 (s + 4) (ngS (by decide)) (rgS (by decide))).trans ((Oy4 (s + 4) (ngS (j := 8) (by decide))).trans ((Oy3 (s + 4) (ngA ha)).trans (Ey2_3))))))))))))))))))))
  have Z5 : y22 (s + 5) = some (.inl (ev.1 0, 120, .inl (fun _ => 0))) := (Oy22 (s + 5) (ngA ha)).trans ((Oy21 (s + 5) (ngA ha)).trans ((Oy20 (s + 5) (ngA ha)).trans ((Oy19 (s + 5) (ngA ha)).trans ((Oy18 (s + 5) (ngS (j := 26) (by decide))).trans ((Oy17 (s + 5) (ngA ha)).trans ((Oy16 (s + 5) (ngS (j := 25) (by decide))).trans ((Oy15 (s + 5) (ngA ha)).trans ((Oy14 (s + 5) (ngS (j := 24) (by decide))).trans ((Oy13 (s + 5) (ngA ha)).trans ((Oy12 (s + 5) (ngS (j := 23) (by decide))).trans ((Oy11 (s + 5) (ngA ha)).trans ((Oy10 (s + 5) (ngS (j := 22) (by decide))).trans ((Oy9 (s + 5) (ngA ha)).trans ((Oy8 (s + 5) (ngS (by decide)) (rgS (by decide))).trans ((Oy7 (s + 5) (ngS (j := 15) (by decide))).trans ((Oy6 (s + 5) (ngA ha)).trans ((Oy5 (s + 5) (ngS (by decide)) (rgS (by decide))).trans ((Oy4 (s + 5) (ngS (j := 8) (by decide))).trans ((Oy3 (s + 5) (ngA ha)).trans (Ey2_4))))))))))))))))))))
  have Z6 : y22 (s + 6) = some (.inl (ev.1 0, 120, .inl (fun _ => 0))) := (Oy22 (s + 6) (ngA ha)).trans ((Oy21 (s + 6) (ngA ha)).trans ((Oy20 (s + 6) (ngA ha)).trans ((Oy19 (s + 6) (ngA ha)).trans ((Oy18 (s + 6) (ngS (j := 26) (by decide))).trans ((Oy17 (s + 6) (ngA ha)).trans ((Oy16 (s + 6) (ngS (j := 25) (by decide))).trans ((Oy15 (s + 6) (ngA ha)).trans ((Oy14 (s + 6) (ngS (j := 24) (by decide))).trans ((Oy13 (s + 6) (ngA ha)).trans ((Oy12 (s + 6) (ngS (j := 23) (by decide))).trans ((Oy11 (s + 6) (ngA ha)).trans ((Oy10 (s + 6) (ngS (j := 22) (by decide))).trans ((Oy9 (s + 6) (ngA ha)).trans ((Oy8 (s + 6) (ngS (by decide)) (rgS (by decide))).trans ((Oy7 (s + 6) (ngS (j := 15) (by decide))).trans ((Oy6 (s + 6) (ngA ha)).trans ((Oy5 (s + 6) (ngS (by decide)) (rgS (by decide))).trans ((Oy4 (s + 6) (ngS (j := 8) (by decide))).trans ((Oy3 (s + 6) (ngA ha)).trans (Ey2_5))))))))))))))))))))
  have Z7 : y22 (s + 7) = some (.inl (ev.1 0, 120, .inl (fun _ => 0))) := (Oy22 (s + 7) (ngA ha)).trans ((Oy21 (s + 7) (ngA ha)).trans ((Oy20 (s + 7) (ngA ha)).trans ((Oy19 (s + 7) (ngA ha)).trans ((Oy18 (s + 7) (ngS (j := 26) (by decide))).trans ((Oy17 (s + 7) (ngA ha)).trans ((Oy16 (s + 7) (ngS (j := 25) (by decide))).trans ((Oy15 (s + 7) (ngA ha)).trans ((Oy14 (s + 7) (ngS (j := 24) (by decide))).trans ((Oy13 (s + 7) (ngA ha)).trans ((Oy12 (s + 7) (ngS (j := 23) (by decide))).trans ((Oy11 (s + 7) (ngA ha)).trans ((Oy10 (s + 7) (ngS (j := 22) (by decide))).trans ((Oy9 (s + 7) (ngA ha)).trans ((Oy8 (s + 7) (ngS (by decide)) (rgS (by decide))).trans ((Oy7 (s + 7) (ngS (j := 15) (by decide))).trans ((Oy6 (s + 7) (ngA ha)).trans ((Oy5 (s + 7) (ngS (by decide)) (rgS (by decide))).trans ((Oy4 (s + 7) (ngS (j := 8) (by decide))).trans ((Oy3 (s + 7) (ngA ha)).trans (Ey2_6))))))))))))))))))))
  have Z8 : y22 (s + 8) = some (.inr (8, [.int 0, .int (-2), .ref (s + 9), .ref (s + 11), .ref (s + 12), .ref (s + 13), .ref (s + 14), .ref (s + 10)])) := (Oy22 (s + 8) (ngA ha)).trans ((Oy21 (s + 8) (ngA ha)).trans ((Oy20 (s + 8) (ngA ha)).trans ((Oy19 (s + 8) (ngA ha)).trans ((Oy18 (s + 8) (ngS (j := 26) (by decide))).trans ((Oy17 (s + 8) (ngA ha)).trans ((Oy16 (s + 8) (ngS (j := 25) (by decide))).trans ((Oy15 (s + 8) (ngA ha)).trans ((Oy14 (s + 8) (ngS (j := 24) (by decide))).trans ((Oy13 (s + 8) (ngA ha)).trans ((Oy12 (s + 8) (ngS (j := 23) (by decide))).trans ((Oy11 (s + 8) (ngA ha)).trans ((Oy10 (s + 8) (ngS (j := 22) (by decide))).trans ((Oy9 (s + 8) (ngA ha)).trans ((Oy8 (s + 8) (ngS (by decide)) (rgS (by decide))).trans ((Oy7 (s + 8) (ngS (j := 15) (by decide))).trans ((Oy6 (s + 8) (ngA ha)).trans (Ky5)))))))))))))))))
  have Z9 : y22 (s + 9) = some (.inl (ev.1 0, 26, .inl (fun _ => 0))) := (Oy22 (s + 9) (ngA ha)).trans ((Oy21 (s + 9) (ngA ha)).trans ((Oy20 (s + 9) (ngA ha)).trans ((Oy19 (s + 9) (ngA ha)).trans ((Oy18 (s + 9) (ngS (j := 26) (by decide))).trans ((Oy17 (s + 9) (ngA ha)).trans ((Oy16 (s + 9) (ngS (j := 25) (by decide))).trans ((Oy15 (s + 9) (ngA ha)).trans ((Oy14 (s + 9) (ngS (j := 24) (by decide))).trans ((Oy13 (s + 9) (ngA ha)).trans ((Oy12 (s + 9) (ngS (j := 23) (by decide))).trans ((Oy11 (s + 9) (ngA ha)).trans ((Oy10 (s + 9) (ngS (j := 22) (by decide))).trans ((Oy9 (s + 9) (ngA ha)).trans ((Oy8 (s + 9) (ngS (by decide)) (rgS (by decide))).trans ((Oy7 (s + 9) (ngS (j := 15) (by decide))).trans ((Oy6 (s + 9) (ngA ha)).trans (Ey5_0)))))))))))))))))
  have Z10 : y22 (s + 10) = some (.inl (ev.1 0, 60, .inl (fun _ => 0))) := (Oy22 (s + 10) (ngA ha)).trans ((Oy21 (s + 10) (ngA ha)).trans ((Oy20 (s + 10) (ngA ha)).trans ((Oy19 (s + 10) (ngA ha)).trans ((Oy18 (s + 10) (ngS (j := 26) (by decide))).trans ((Oy17 (s + 10) (ngA ha)).trans ((Oy16 (s + 10) (ngS (j := 25) (by decide))).trans ((Oy15 (s + 10) (ngA ha)).trans ((Oy14 (s + 10) (ngS (j := 24) (by decide))).trans ((Oy13 (s + 10) (ngA ha)).trans ((Oy12 (s + 10) (ngS (j := 23) (by decide))).trans ((Oy11 (s + 10) (ngA ha)).trans ((Oy10 (s + 10) (ngS (j := 22) (by decide))).trans ((Oy9 (s + 10) (ngA ha)).trans ((Oy8 (s + 10) (ngS (by decide)) (rgS (by decide))).trans ((Oy7 (s + 10) (ngS (j := 15) (by decide))).trans ((Oy6 (s + 10) (ngA ha)).trans (Ey5_1)))))))))))))))))
  have Z11 : y22 (s + 11) = some (.inl (ev.1 0, 20, .inl (fun _ => 0))) := (Oy22 (s + 11) (ngA ha)).trans ((Oy21 (s + 11) (ngA ha)).trans ((Oy20 (s + 11) (ngA ha)).trans ((Oy19 (s + 11) (ngA ha)).trans ((Oy18 (s + 11) (ngS (j := 26) (by decide))).trans ((Oy17 (s + 11) (ngA ha)).trans ((Oy16 (s + 11) (ngS (j := 25) (by decide))).trans ((Oy15 (s + 11) (ngA ha)).trans ((Oy14 (s + 11) (ngS (j := 24) (by decide))).trans ((Oy13 (s + 11) (ngA ha)).trans ((Oy12 (s + 11) (ngS (j := 23) (by decide))).trans ((Oy11 (s + 11) (ngA ha)).trans ((Oy10 (s + 11) (ngS (j := 22) (by decide))).trans ((Oy9 (s + 11) (ngA ha)).trans ((Oy8 (s + 11) (ngS (by decide)) (rgS (by decide))).trans ((Oy7 (s + 11) (ngS (j := 15) (by decide))).trans ((Oy6 (s + 11) (ngA ha)).trans (Ey5_2)))))))))))))))))
  have Z12 : y22 (s + 12) = some (.inl (ev.1 0, 20, .inl (fun _ => 0))) := (Oy22 (s + 12) (ngA ha)).trans ((Oy21 (s + 12) (ngA ha)).trans ((Oy20 (s + 12) (ngA ha)).trans ((Oy19 (s + 12) (ngA ha)).trans ((Oy18 (s + 12) (ngS (j := 26) (by decide))).trans ((Oy17 (s + 12) (ngA ha)).trans ((Oy16 (s + 12) (ngS (j := 25) (by decide))).trans ((Oy15 (s + 12) (ngA ha)).trans ((Oy14 (s + 12) (ngS (j := 24) (by decide))).trans ((Oy13 (s + 12) (ngA ha)).trans ((Oy12 (s + 12) (ngS (j := 23) (by decide))).trans ((Oy11 (s + 12) (ngA ha)).trans ((Oy10 (s + 12) (ngS (j := 22) (by decide))).trans ((Oy9 (s + 12) (ngA ha)).trans ((Oy8 (s + 12) (ngS (by decide)) (rgS (by decide))).trans ((Oy7 (s + 12) (ngS (j := 15) (by decide))).trans ((Oy6 (s + 12) (ngA ha)).trans (Ey5_3)))))))))))))))))
  have Z13 : y22 (s + 13) = some (.inl (ev.1 0, 20, .inl (fun _ => 0))) := (Oy22 (s + 13) (ngA ha)).trans ((Oy21 (s + 13) (ngA ha)).trans ((Oy20 (s + 13) (ngA ha)).trans ((Oy19 (s + 13) (ngA ha)).trans ((Oy18 (s + 13) (ngS (j := 26) (by decide))).trans ((Oy17 (s + 13) (ngA ha)).trans ((Oy16 (s + 13) (ngS (j := 25) (by decide))).trans ((Oy15 (s + 13) (ngA ha)).trans ((Oy14 (s + 13) (ngS (j := 24) (by decide))).trans ((Oy13 (s + 13) (ngA ha)).trans ((Oy12 (s + 13) (ngS (j := 23) (by decide))).trans ((Oy11 (s + 13) (ngA ha)).trans ((Oy10 (s + 13) (ngS (j := 22) (by decide))).trans ((Oy9 (s + 13) (ngA ha)).trans ((Oy8 (s + 13) (ngS (by decide)) (rgS (by decide))).trans ((Oy7 (s + 13) (ngS (j := 15) (by decide))).trans ((Oy6 (s + 13) (ngA ha)).trans (Ey5_4)))))))))))))))))
  have Z14 : y22 (s + 14) = some (.inl (ev.1 0, 1200, .inl (fun _ => 0))) := (Oy22 (s + 14) (ngA ha)).trans ((Oy21 (s + 14) (ngA ha)).trans ((Oy20 (s + 14) (ngA ha)).trans ((Oy19 (s + 14) (ngA ha)).trans ((Oy18 (s + 14) (ngS (j := 26) (by decide))).trans ((Oy17 (s + 14) (ngA ha)).trans ((Oy16 (s + 14) (ngS (j := 25) (by decide))).trans ((Oy15 (s + 14) (ngA ha)).trans ((Oy14 (s + 14) (ngS (j := 24) (by decide))).trans ((Oy13 (s + 14) (ngA ha)).trans ((Oy12 (s + 14) (ngS (j := 23) (by decide))).trans ((Oy11 (s + 14) (ngA ha)).trans ((Oy10 (s + 14) (ngS (j := 22) (by decide))).trans ((Oy9 (s + 14) (ngA ha)).trans ((Oy8 (s + 14) (ngS (by decide)) (rgS (by decide))).trans ((Oy7 (s + 14) (ngS (j := 15) (by decide))).trans ((Oy6 (s + 14) (ngA ha)).trans (Ey5_5)))))))))))))))))
  have Z15 : y22 (s + 15) = some (.inr (8, [.int 0, .int (-2), .ref (s + 16), .ref (s + 18), .ref (s + 19), .ref (s + 20), .ref (s + 21), .ref (s + 17)])) := (Oy22 (s + 15) (ngA ha)).trans ((Oy21 (s + 15) (ngA ha)).trans ((Oy20 (s + 15) (ngA ha)).trans ((Oy19 (s + 15) (ngA ha)).trans ((Oy18 (s + 15) (ngS (j := 26) (by decide))).trans ((Oy17 (s + 15) (ngA ha)).trans ((Oy16 (s + 15) (ngS (j := 25) (by decide))).trans ((Oy15 (s + 15) (ngA ha)).trans ((Oy14 (s + 15) (ngS (j := 24) (by decide))).trans ((Oy13 (s + 15) (ngA ha)).trans ((Oy12 (s + 15) (ngS (j := 23) (by decide))).trans ((Oy11 (s + 15) (ngA ha)).trans ((Oy10 (s + 15) (ngS (j := 22) (by decide))).trans ((Oy9 (s + 15) (ngA ha)).trans (Ky8))))))))))))))
  have Z16 : y22 (s + 16) = some (.inl (ev.1 0, 26, .inl (fun _ => 0))) := (Oy22 (s + 16) (ngA ha)).trans ((Oy21 (s + 16) (ngA ha)).trans ((Oy20 (s + 16) (ngA ha)).trans ((Oy19 (s + 16) (ngA ha)).trans ((Oy18 (s + 16) (ngS (j := 26) (by decide))).trans ((Oy17 (s + 16) (ngA ha)).trans ((Oy16 (s + 16) (ngS (j := 25) (by decide))).trans ((Oy15 (s + 16) (ngA ha)).trans ((Oy14 (s + 16) (ngS (j := 24) (by decide))).trans ((Oy13 (s + 16) (ngA ha)).trans ((Oy12 (s + 16) (ngS (j := 23) (by decide))).trans ((Oy11 (s + 16) (ngA ha)).trans ((Oy10 (s + 16) (ngS (j := 22) (by decide))).trans ((Oy9 (s + 16) (ngA ha)).trans (Ey8_0))))))))))))))
  have Z17 : y22 (s + 17) = some (.inl (ev.1 0, 60, .inl (fun _ => 0))) := (Oy22 (s + 17) (ngA ha)).trans ((Oy21 (s + 17) (ngA ha)).trans ((Oy20 (s + 17) (ngA ha)).trans ((Oy19 (s + 17) (ngA ha)).trans ((Oy18 (s + 17) (ngS (j := 26) (by decide))).trans ((Oy17 (s + 17) (ngA ha)).trans ((Oy16 (s + 17) (ngS (j := 25) (by decide))).trans ((Oy15 (s + 17) (ngA ha)).trans ((Oy14 (s + 17) (ngS (j := 24) (by decide))).trans ((Oy13 (s + 17) (ngA ha)).trans ((Oy12 (s + 17) (ngS (j := 23) (by decide))).trans ((Oy11 (s + 17) (ngA ha)).trans ((Oy10 (s + 17) (ngS (j := 22) (by decide))).trans ((Oy9 (s + 17) (ngA ha)).trans (Ey8_1))))))))))))))
  have Z18 : y22 (s + 18) = some (.inl (ev.1 0, 12, .inl (fun _ => 0))) := (Oy22 (s + 18) (ngA ha)).trans ((Oy21 (s + 18) (ngA ha)).trans ((Oy20 (s + 18) (ngA ha)).trans ((Oy19 (s + 18) (ngA ha)).trans ((Oy18 (s + 18) (ngS (j := 26) (by decide))).trans ((Oy17 (s + 18) (ngA ha)).trans ((Oy16 (s + 18) (ngS (j := 25) (by decide))).trans ((Oy15 (s + 18) (ngA ha)).trans ((Oy14 (s + 18) (ngS (j := 24) (by decide))).trans ((Oy13 (s + 18) (ngA ha)).trans ((Oy12 (s + 18) (ngS (j := 23) (by decide))).trans ((Oy11 (s + 18) (ngA ha)).trans ((Oy10 (s + 18) (ngS (j := 22) (by decide))).trans ((Oy9 (s + 18) (ngA ha)).trans (Ey8_2))))))))))))))
  have Z19 : y22 (s + 19) = some (.inl (ev.1 0, 12, .inl (fun _ => 0))) := (Oy22 (s + 19) (ngA ha)).trans ((Oy21 (s + 19) (ngA ha)).trans ((Oy20 (s + 19) (ngA ha)).trans ((Oy19 (s + 19) (ngA ha)).trans ((Oy18 (s + 19) (ngS (j := 26) (by decide))).trans ((Oy17 (s + 19) (ngA ha)).trans ((Oy16 (s + 19) (ngS (j := 25) (by decide))).trans ((Oy15 (s + 19) (ngA ha)).trans ((Oy14 (s + 19) (ngS (j := 24) (by decide))).trans ((Oy13 (s + 19) (ngA ha)).trans ((Oy12 (s + 19) (ngS (j := 23) (by decide))).trans ((Oy11 (s + 19) (ngA ha)).trans ((Oy10 (s + 19) (ngS (j := 22) (by decide))).trans ((Oy9 (s + 19) (ngA ha)).trans (Ey8_3))))))))))))))
  have Z20 : y22 (s + 20) = some (.inl (ev.1 0, 12, .inl (fun _ => 0))) := (Oy22 (s + 20) (ngA ha)).trans ((Oy21 (s + 20) (ngA ha)).trans ((Oy20 (s + 20) (ngA ha)).trans ((Oy19 (s + 20) (ngA ha)).trans ((Oy18 (s + 20) (ngS (j := 26) (by decide))).trans ((Oy17 (s + 20) (ngA ha)).trans ((Oy16 (s + 20) (ngS (j := 25) (by decide))).trans ((Oy15 (s + 20) (ngA ha)).trans ((Oy14 (s + 20) (ngS (j := 24) (by decide))).trans ((Oy13 (s + 20) (ngA ha)).trans ((Oy12 (s + 20) (ngS (j := 23) (by decide))).trans ((Oy11 (s + 20) (ngA ha)).trans ((Oy10 (s + 20) (ngS (j := 22) (by decide))).trans ((Oy9 (s + 20) (ngA ha)).trans (Ey8_4))))))))))))))
  have Z21 : y22 (s + 21) = some (.inl (ev.1 0, 720, .inl (fun _ => 0))) := (Oy22 (s + 21) (ngA ha)).trans ((Oy21 (s + 21) (ngA ha)).trans ((Oy20 (s + 21) (ngA ha)).trans ((Oy19 (s + 21) (ngA ha)).trans ((Oy18 (s + 21) (ngS (j := 26) (by decide))).trans ((Oy17 (s + 21) (ngA ha)).trans ((Oy16 (s + 21) (ngS (j := 25) (by decide))).trans ((Oy15 (s + 21) (ngA ha)).trans ((Oy14 (s + 21) (ngS (j := 24) (by decide))).trans ((Oy13 (s + 21) (ngA ha)).trans ((Oy12 (s + 21) (ngS (j := 23) (by decide))).trans ((Oy11 (s + 21) (ngA ha)).trans ((Oy10 (s + 21) (ngS (j := 22) (by decide))).trans ((Oy9 (s + 21) (ngA ha)).trans (Ey8_5))))))))))))))
  have Z22 : y22 (s + 22) = some (.inl (ev.1 5, 8, .inr (.inr (.inr (.inr (fun _ => none)))))) := (Oy22 (s + 22) (ngA ha)).trans ((Oy21 (s + 22) (ngA ha)).trans ((Oy20 (s + 22) (ngA ha)).trans ((Oy19 (s + 22) (ngA ha)).trans ((Oy18 (s + 22) (ngS (j := 26) (by decide))).trans ((Oy17 (s + 22) (ngA ha)).trans ((Oy16 (s + 22) (ngS (j := 25) (by decide))).trans ((Oy15 (s + 22) (ngA ha)).trans ((Oy14 (s + 22) (ngS (j := 24) (by decide))).trans ((Oy13 (s + 22) (ngA ha)).trans ((Oy12 (s + 22) (ngS (j := 23) (by decide))).trans ((Oy11 (s + 22) (ngA ha)).trans (A22))))))))))))
  have Z23 : y22 (s + 23) = some (.inl (ev.1 6, 8, .inr (.inr (.inr (.inr (fun _ => none)))))) := (Oy22 (s + 23) (ngA ha)).trans ((Oy21 (s + 23) (ngA ha)).trans ((Oy20 (s + 23) (ngA ha)).trans ((Oy19 (s + 23) (ngA ha)).trans ((Oy18 (s + 23) (ngS (j := 26) (by decide))).trans ((Oy17 (s + 23) (ngA ha)).trans ((Oy16 (s + 23) (ngS (j := 25) (by decide))).trans ((Oy15 (s + 23) (ngA ha)).trans ((Oy14 (s + 23) (ngS (j := 24) (by decide))).trans ((Oy13 (s + 23) (ngA ha)).trans (A23))))))))))
  have Z24 : y22 (s + 24) = some (.inl (ev.1 7, 30, .inr (.inr (.inr (.inr (fun _ => none)))))) := (Oy22 (s + 24) (ngA ha)).trans ((Oy21 (s + 24) (ngA ha)).trans ((Oy20 (s + 24) (ngA ha)).trans ((Oy19 (s + 24) (ngA ha)).trans ((Oy18 (s + 24) (ngS (j := 26) (by decide))).trans ((Oy17 (s + 24) (ngA ha)).trans ((Oy16 (s + 24) (ngS (j := 25) (by decide))).trans ((Oy15 (s + 24) (ngA ha)).trans (A24))))))))
  have Z25 : y22 (s + 25) = some (.inl (ev.1 0, 30, .inl (fun _ => 0))) := (Oy22 (s + 25) (ngA ha)).trans ((Oy21 (s + 25) (ngA ha)).trans ((Oy20 (s + 25) (ngA ha)).trans ((Oy19 (s + 25) (ngA ha)).trans ((Oy18 (s + 25) (ngS (j := 26) (by decide))).trans ((Oy17 (s + 25) (ngA ha)).trans (A25))))))
  have Z26 : y22 (s + 26) = some (.inl (ev.1 8, 24, .inr (.inr (.inr (.inr (fun _ => none)))))) := (Oy22 (s + 26) (ngA ha)).trans ((Oy21 (s + 26) (ngA ha)).trans ((Oy20 (s + 26) (ngA ha)).trans ((Oy19 (s + 26) (ngA ha)).trans (A26))))
  have Z : ∀ b, b ≠ a → (b < s ∨ s + 27 ≤ b) → y22 b = hp0 b := fun b hb hb2 => (Oy22 b hb).trans ((Oy21 b hb).trans ((Oy20 b hb).trans ((Oy19 b hb).trans ((Oy18 b (ngB (k := 26) hb2 (by decide))).trans ((Oy17 b hb).trans ((Oy16 b (ngB (k := 25) hb2 (by decide))).trans ((Oy15 b hb).trans ((Oy14 b (ngB (k := 24) hb2 (by decide))).trans ((Oy13 b hb).trans ((Oy12 b (ngB (k := 23) hb2 (by decide))).trans ((Oy11 b hb).trans ((Oy10 b (ngB (k := 22) hb2 (by decide))).trans ((Oy9 b hb).trans ((Oy8 b (ngB (k := 15) hb2 (by decide)) (rgB hb2 (by decide))).trans ((Oy7 b (ngB (k := 15) hb2 (by decide))).trans ((Oy6 b hb).trans ((Oy5 b (ngB (k := 8) hb2 (by decide)) (rgB hb2 (by decide))).trans ((Oy4 b (ngB (k := 8) hb2 (by decide))).trans ((Oy3 b hb).trans ((Oy2 b (ngB (k := 0) hb2 (by decide)) (rgB hb2 (by decide))).trans ((Oy1 b (ngB (k := 0) hb2 (by decide))))))))))))))))))))))))
  exact ye_ret rfl rfl ⟨y22, rfl, Ry22, Z0, Z1, Z2, Z3, Z4, Z5, Z6, Z7, Z8, Z9, Z10, Z11, Z12, Z13, Z14, Z15, Z16, Z17, Z18, Z19, Z20, Z21, Z22, Z23, Z24, Z25, Z26, Z⟩
set_option maxRecDepth 20000 in
set_option maxHeartbeats 4000000 in
theorem rc_77 (hp0 : xH) (a s : Nat) (h0 : hp0 a = some (.inr (7, [.null, .null, .int 0, .null, .null]))) (ha : a < s) : ∃ hp', xCalls ev xmi (xprog ev) prim (d + 1) 77 [.ref a] hp0 s (none, hp', s + 4, 280) ∧ hp' a = some (.inr (7, [.ref (s + 0), .ref (s + 1), .int 0, .ref (s + 2), .ref (s + 3)])) ∧ hp' (s + 0) = some (.inl (ev.1 0, 8, .inl (fun _ => 0))) ∧ hp' (s + 1) = some (.inl (ev.1 0, 8, .inl (fun _ => 0))) ∧ hp' (s + 2) = some (.inl (ev.1 1, 8, .inr (.inl (fun _ => 0)))) ∧ hp' (s + 3) = some (.inl (ev.1 1, 256, .inr (.inl (fun _ => 0)))) ∧ (∀ b, b ≠ a → (b < s ∨ s + 4 ≤ b) → hp' b = hp0 b) := by
  refine Exists.elim (yc_of (ev := ev) (prim := prim) (d := d + 0) (j := 77) (av := [.ref a]) (hp := hp0) (sz := s) (r := fun q => ∃ hp', q = .inl (none, hp', s + 4, 280) ∧ hp' a = some (.inr (7, [.ref (s + 0), .ref (s + 1), .int 0, .ref (s + 2), .ref (s + 3)])) ∧ hp' (s + 0) = some (.inl (ev.1 0, 8, .inl (fun _ => 0))) ∧ hp' (s + 1) = some (.inl (ev.1 0, 8, .inl (fun _ => 0))) ∧ hp' (s + 2) = some (.inl (ev.1 1, 8, .inr (.inl (fun _ => 0)))) ∧ hp' (s + 3) = some (.inl (ev.1 1, 256, .inr (.inl (fun _ => 0)))) ∧ (∀ b, b ≠ a → (b < s ∨ s + 4 ≤ b) → hp' b = hp0 b)) (pg_77 ev) mi_77 (Nat.le_of_ble_eq_true rfl) (fun s hs => by obtain ⟨_, h, _⟩ := hs; cases h) ?_) (fun q hq0 => ?_)
  rotate_left 1
  · obtain ⟨hc, hp', e, k1, k2⟩ := hq0
    rw [Sum.inl.inj e] at hc
    exact ⟨hp', hc, k1, k2⟩
  refine ye_aload rfl rfl ?_
  refine ye_p rfl rfl ?_
  refine ye_aload rfl rfl ?_
  refine ye_p rfl rfl ?_
  refine yw_rawa (m := 8) rfl rfl (by decide) (fun y1 A0 Oy1 => ?_)
  have Ry1 := (Oy1 a (ngA' (k := 0) ha)).trans h0
  refine yw_rawp rfl Ry1 (Nat.le_of_ble_eq_true rfl) rfl rfl (fun y2 Ry2 Oy2 => ?_)
  show yWE _ _ _ _ (12, _, _, _, _, _) _
  refine ye_aload rfl rfl ?_
  refine ye_p rfl rfl ?_
  refine yw_rawa (m := 8) rfl rfl (by decide) (fun y3 A1 Oy3 => ?_)
  have Ry3 := (Oy3 a (ngA' (k := 1) ha)).trans Ry2
  refine yw_rawp rfl Ry3 (Nat.le_of_ble_eq_true rfl) rfl rfl (fun y4 Ry4 Oy4 => ?_)
  show yWE _ _ _ _ (20, _, _, _, _, _) _
  refine ye_aload rfl rfl ?_
  refine ye_p rfl rfl ?_
  refine yw_rawa (m := 8) rfl rfl (by decide) (fun y5 A2 Oy5 => ?_)
  have Ry5 := (Oy5 a (ngA' (k := 2) ha)).trans Ry4
  refine yw_rawp rfl Ry5 (Nat.le_of_ble_eq_true rfl) rfl rfl (fun y6 Ry6 Oy6 => ?_)
  show yWE _ _ _ _ (28, _, _, _, _, _) _
  refine ye_aload rfl rfl ?_
  refine ye_p rfl rfl ?_
  refine yw_rawa (m := 256) rfl rfl (by decide) (fun y7 A3 Oy7 => ?_)
  have Ry7 := (Oy7 a (ngA' (k := 3) ha)).trans Ry6
  refine yw_rawp rfl Ry7 (Nat.le_of_ble_eq_true rfl) rfl rfl (fun y8 Ry8 Oy8 => ?_)
  have Z0 : y8 (s + 0) = some (.inl (ev.1 0, 8, .inl (fun _ => 0))) := (Oy8 (s + 0) (ngA ha)).trans ((Oy7 (s + 0) (ngS (j := 3) (by decide))).trans ((Oy6 (s + 0) (ngA ha)).trans ((Oy5 (s + 0) (ngS (j := 2) (by decide))).trans ((Oy4 (s + 0) (ngA ha)).trans ((Oy3 (s + 0) (ngS (j := 1) (by decide))).trans ((Oy2 (s + 0) (ngA ha)).trans (A0)))))))
  have Z1 : y8 (s + 1) = some (.inl (ev.1 0, 8, .inl (fun _ => 0))) := (Oy8 (s + 1) (ngA ha)).trans ((Oy7 (s + 1) (ngS (j := 3) (by decide))).trans ((Oy6 (s + 1) (ngA ha)).trans ((Oy5 (s + 1) (ngS (j := 2) (by decide))).trans ((Oy4 (s + 1) (ngA ha)).trans (A1)))))
  have Z2 : y8 (s + 2) = some (.inl (ev.1 1, 8, .inr (.inl (fun _ => 0)))) := (Oy8 (s + 2) (ngA ha)).trans ((Oy7 (s + 2) (ngS (j := 3) (by decide))).trans ((Oy6 (s + 2) (ngA ha)).trans (A2)))
  have Z3 : y8 (s + 3) = some (.inl (ev.1 1, 256, .inr (.inl (fun _ => 0)))) := (Oy8 (s + 3) (ngA ha)).trans (A3)
  have Z : ∀ b, b ≠ a → (b < s ∨ s + 4 ≤ b) → y8 b = hp0 b := fun b hb hb2 => (Oy8 b hb).trans ((Oy7 b (ngB (k := 3) hb2 (by decide))).trans ((Oy6 b hb).trans ((Oy5 b (ngB (k := 2) hb2 (by decide))).trans ((Oy4 b hb).trans ((Oy3 b (ngB (k := 1) hb2 (by decide))).trans ((Oy2 b hb).trans ((Oy1 b (ngB (k := 0) hb2 (by decide))))))))))
  exact ye_ret rfl rfl ⟨y8, rfl, Ry8, Z0, Z1, Z2, Z3, Z⟩
set_option maxRecDepth 20000 in
set_option maxHeartbeats 4000000 in
theorem rc_41 (hp0 : xH) (a s : Nat) (h0 : hp0 a = some (.inr (4, [.null, .int 0, .null, .int 0, .null, .int 0, .int 0, .int 0, .int 0, .int 0]))) (ha : a < s) : ∃ hp', xCalls ev xmi (xprog ev) prim (d + 1) 41 [.ref a] hp0 s (none, hp', s + 3, 181) ∧ hp' a = some (.inr (4, [.ref (s + 0), .int 0, .ref (s + 1), .int 0, .ref (s + 2), .int 0, .int 0, .int 0, .int 0, .int 0])) ∧ hp' (s + 0) = some (.inl (ev.1 0, 60, .inl (fun _ => 0))) ∧ hp' (s + 1) = some (.inl (ev.1 0, 60, .inl (fun _ => 0))) ∧ hp' (s + 2) = some (.inl (ev.1 2, 61, .inl (fun _ => 0))) ∧ (∀ b, b ≠ a → (b < s ∨ s + 3 ≤ b) → hp' b = hp0 b) := by
  refine Exists.elim (yc_of (ev := ev) (prim := prim) (d := d + 0) (j := 41) (av := [.ref a]) (hp := hp0) (sz := s) (r := fun q => ∃ hp', q = .inl (none, hp', s + 3, 181) ∧ hp' a = some (.inr (4, [.ref (s + 0), .int 0, .ref (s + 1), .int 0, .ref (s + 2), .int 0, .int 0, .int 0, .int 0, .int 0])) ∧ hp' (s + 0) = some (.inl (ev.1 0, 60, .inl (fun _ => 0))) ∧ hp' (s + 1) = some (.inl (ev.1 0, 60, .inl (fun _ => 0))) ∧ hp' (s + 2) = some (.inl (ev.1 2, 61, .inl (fun _ => 0))) ∧ (∀ b, b ≠ a → (b < s ∨ s + 3 ≤ b) → hp' b = hp0 b)) (pg_41 ev) mi_41 (Nat.le_of_ble_eq_true rfl) (fun s hs => by obtain ⟨_, h, _⟩ := hs; cases h) ?_) (fun q hq0 => ?_)
  rotate_left 1
  · obtain ⟨hc, hp', e, k1, k2⟩ := hq0
    rw [Sum.inl.inj e] at hc
    exact ⟨hp', hc, k1, k2⟩
  refine ye_aload rfl rfl ?_
  refine ye_p rfl rfl ?_
  refine ye_aload rfl rfl ?_
  refine ye_p rfl rfl ?_
  refine yw_rawa (m := 60) rfl rfl (by decide) (fun y1 A0 Oy1 => ?_)
  have Ry1 := (Oy1 a (ngA' (k := 0) ha)).trans h0
  refine yw_rawp rfl Ry1 (Nat.le_of_ble_eq_true rfl) rfl rfl (fun y2 Ry2 Oy2 => ?_)
  show yWE _ _ _ _ (12, _, _, _, _, _) _
  refine ye_aload rfl rfl ?_
  refine ye_p rfl rfl ?_
  refine yw_rawa (m := 60) rfl rfl (by decide) (fun y3 A1 Oy3 => ?_)
  have Ry3 := (Oy3 a (ngA' (k := 1) ha)).trans Ry2
  refine yw_rawp rfl Ry3 (Nat.le_of_ble_eq_true rfl) rfl rfl (fun y4 Ry4 Oy4 => ?_)
  show yWE _ _ _ _ (20, _, _, _, _, _) _
  refine ye_aload rfl rfl ?_
  refine ye_p rfl rfl ?_
  refine yw_rawa (m := 61) rfl rfl (by decide) (fun y5 A2 Oy5 => ?_)
  have Ry5 := (Oy5 a (ngA' (k := 2) ha)).trans Ry4
  refine yw_rawp rfl Ry5 (Nat.le_of_ble_eq_true rfl) rfl rfl (fun y6 Ry6 Oy6 => ?_)
  have Z0 : y6 (s + 0) = some (.inl (ev.1 0, 60, .inl (fun _ => 0))) := (Oy6 (s + 0) (ngA ha)).trans ((Oy5 (s + 0) (ngS (j := 2) (by decide))).trans ((Oy4 (s + 0) (ngA ha)).trans ((Oy3 (s + 0) (ngS (j := 1) (by decide))).trans ((Oy2 (s + 0) (ngA ha)).trans (A0)))))
  have Z1 : y6 (s + 1) = some (.inl (ev.1 0, 60, .inl (fun _ => 0))) := (Oy6 (s + 1) (ngA ha)).trans ((Oy5 (s + 1) (ngS (j := 2) (by decide))).trans ((Oy4 (s + 1) (ngA ha)).trans (A1)))
  have Z2 : y6 (s + 2) = some (.inl (ev.1 2, 61, .inl (fun _ => 0))) := (Oy6 (s + 2) (ngA ha)).trans (A2)
  have Z : ∀ b, b ≠ a → (b < s ∨ s + 3 ≤ b) → y6 b = hp0 b := fun b hb hb2 => (Oy6 b hb).trans ((Oy5 b (ngB (k := 2) hb2 (by decide))).trans ((Oy4 b hb).trans ((Oy3 b (ngB (k := 1) hb2 (by decide))).trans ((Oy2 b hb).trans ((Oy1 b (ngB (k := 0) hb2 (by decide))))))))
  exact ye_ret rfl rfl ⟨y6, rfl, Ry6, Z0, Z1, Z2, Z⟩
set_option maxRecDepth 20000 in
set_option maxHeartbeats 4000000 in
theorem rc_127 (hp0 : xH) (a s : Nat) (h0 : hp0 a = some (.inr (11, [.null, .null, .null, .null, .null, .null, .int 0, .null, .int 0]))) (ha : a < s) : ∃ hp', xCalls ev xmi (xprog ev) prim (d + 3) 127 [.ref a] hp0 s (none, hp', s + 50, 4174) ∧ hp' a = some (.inr (11, [.ref (s + 0), .ref (s + 10), .ref (s + 38), .ref (s + 43), .ref (s + 47), .ref (s + 48), .int 0, .ref (s + 49), .int 0])) ∧ hp' (s + 0) = some (.inr (2, [.ref (s + 1), .ref (s + 2), .ref (s + 3), .int 0, .ref (s + 4), .int 0, .int 0, .ref (s + 5), .ref (s + 6), .ref (s + 7), .ref (s + 8), .ref (s + 9)])) ∧ hp' (s + 1) = some (.inl (ev.1 0, 8, .inl (fun _ => 0))) ∧ hp' (s + 2) = some (.inl (ev.1 2, 8, .inl (fun _ => 0))) ∧ hp' (s + 3) = some (.inl (ev.1 0, 8, .inl (fun _ => 0))) ∧ hp' (s + 4) = some (.inl (ev.1 4, 12, .inr (.inr (.inr (.inr (fun _ => none)))))) ∧ hp' (s + 5) = some (.inl (ev.1 0, 64, .inl (fun x => if x < 64 then yLd x else 0))) ∧ hp' (s + 6) = some (.inl (ev.1 0, 60, .inl (fun _ => 0))) ∧ hp' (s + 7) = some (.inl (ev.1 0, 60, .inl (fun _ => 0))) ∧ hp' (s + 8) = some (.inl (ev.1 0, 60, .inl (fun _ => 0))) ∧ hp' (s + 9) = some (.inl (ev.1 0, 60, .inl (fun _ => 0))) ∧ hp' (s + 10) = some (.inr (10, [.ref (s + 0), .ref (s + 11), .ref (s + 19), .ref (s + 26), .ref (s + 33), .int 0, .ref (s + 34), .int 0, .ref (s + 35), .int 0, .ref (s + 36), .ref (s + 37), .int 0, .int 0, .int 0, .int 6, .int 1, .int 0, .int 0, .int 0])) ∧ hp' (s + 11) = some (.inr (9, [.int 4, .int 0, .ref (s + 12), .ref (s + 13), .ref (s + 14), .ref (s + 15), .ref (s + 16), .ref (s + 17), .ref (s + 18)])) ∧ hp' (s + 12) = some (.inl (ev.1 0, 120, .inl (fun _ => 0))) ∧ hp' (s + 13) = some (.inl (ev.1 0, 120, .inl (fun _ => 0))) ∧ hp' (s + 14) = some (.inl (ev.1 0, 120, .inl (fun _ => 0))) ∧ hp' (s + 15) = some (.inl (ev.1 0, 120, .inl (fun _ => 0))) ∧ hp' (s + 16) = some (.inl (ev.1 0, 120, .inl (fun _ => 0))) ∧ hp' (s + 17) = some (.inl (ev.1 0, 120, .inl (fun _ => 0))) ∧ hp' (s + 18) = some (.inl (ev.1 0, 120, .inl (fun _ => 0))) ∧ hp' (s + 19) = some (.inr (8, [.int 0, .int (-2), .ref (s + 20), .ref (s + 22), .ref (s + 23), .ref (s + 24), .ref (s + 25), .ref (s + 21)])) ∧ hp' (s + 20) = some (.inl (ev.1 0, 26, .inl (fun _ => 0))) ∧ hp' (s + 21) = some (.inl (ev.1 0, 60, .inl (fun _ => 0))) ∧ hp' (s + 22) = some (.inl (ev.1 0, 20, .inl (fun _ => 0))) ∧ hp' (s + 23) = some (.inl (ev.1 0, 20, .inl (fun _ => 0))) ∧ hp' (s + 24) = some (.inl (ev.1 0, 20, .inl (fun _ => 0))) ∧ hp' (s + 25) = some (.inl (ev.1 0, 1200, .inl (fun _ => 0))) ∧ hp' (s + 26) = some (.inr (8, [.int 0, .int (-2), .ref (s + 27), .ref (s + 29), .ref (s + 30), .ref (s + 31), .ref (s + 32), .ref (s + 28)])) ∧ hp' (s + 27) = some (.inl (ev.1 0, 26, .inl (fun _ => 0))) ∧ hp' (s + 28) = some (.inl (ev.1 0, 60, .inl (fun _ => 0))) ∧ hp' (s + 29) = some (.inl (ev.1 0, 12, .inl (fun _ => 0))) ∧ hp' (s + 30) = some (.inl (ev.1 0, 12, .inl (fun _ => 0))) ∧ hp' (s + 31) = some (.inl (ev.1 0, 12, .inl (fun _ => 0))) ∧ hp' (s + 32) = some (.inl (ev.1 0, 720, .inl (fun _ => 0))) ∧ hp' (s + 33) = some (.inl (ev.1 5, 8, .inr (.inr (.inr (.inr (fun _ => none)))))) ∧ hp' (s + 34) = some (.inl (ev.1 6, 8, .inr (.inr (.inr (.inr (fun _ => none)))))) ∧ hp' (s + 35) = some (.inl (ev.1 7, 30, .inr (.inr (.inr (.inr (fun _ => none)))))) ∧ hp' (s + 36) = some (.inl (ev.1 0, 30, .inl (fun _ => 0))) ∧ hp' (s + 37) = some (.inl (ev.1 8, 24, .inr (.inr (.inr (.inr (fun _ => none)))))) ∧ hp' (s + 38) = some (.inr (7, [.ref (s + 39), .ref (s + 40), .int 0, .ref (s + 41), .ref (s + 42)])) ∧ hp' (s + 39) = some (.inl (ev.1 0, 8, .inl (fun _ => 0))) ∧ hp' (s + 40) = some (.inl (ev.1 0, 8, .inl (fun _ => 0))) ∧ hp' (s + 41) = some (.inl (ev.1 1, 8, .inr (.inl (fun _ => 0)))) ∧ hp' (s + 42) = some (.inl (ev.1 1, 256, .inr (.inl (fun _ => 0)))) ∧ hp' (s + 43) = some (.inr (4, [.ref (s + 44), .int 0, .ref (s + 45), .int 0, .ref (s + 46), .int 0, .int 0, .int 0, .int 0, .int 0])) ∧ hp' (s + 44) = some (.inl (ev.1 0, 60, .inl (fun _ => 0))) ∧ hp' (s + 45) = some (.inl (ev.1 0, 60, .inl (fun _ => 0))) ∧ hp' (s + 46) = some (.inl (ev.1 2, 61, .inl (fun _ => 0))) ∧ hp' (s + 47) = some (.inl (ev.1 1, 41, .inr (.inl (fun _ => 0)))) ∧ hp' (s + 48) = some (.inl (ev.1 0, 100, .inl (fun _ => 0))) ∧ hp' (s + 49) = some (.inl (ev.1 0, 32, .inl (fun _ => 0))) ∧ (∀ b, b ≠ a → (b < s ∨ s + 50 ≤ b) → hp' b = hp0 b) := by
  refine Exists.elim (yc_of (ev := ev) (prim := prim) (d := d + 2) (j := 127) (av := [.ref a]) (hp := hp0) (sz := s) (r := fun q => ∃ hp', q = .inl (none, hp', s + 50, 4174) ∧ hp' a = some (.inr (11, [.ref (s + 0), .ref (s + 10), .ref (s + 38), .ref (s + 43), .ref (s + 47), .ref (s + 48), .int 0, .ref (s + 49), .int 0])) ∧ hp' (s + 0) = some (.inr (2, [.ref (s + 1), .ref (s + 2), .ref (s + 3), .int 0, .ref (s + 4), .int 0, .int 0, .ref (s + 5), .ref (s + 6), .ref (s + 7), .ref (s + 8), .ref (s + 9)])) ∧ hp' (s + 1) = some (.inl (ev.1 0, 8, .inl (fun _ => 0))) ∧ hp' (s + 2) = some (.inl (ev.1 2, 8, .inl (fun _ => 0))) ∧ hp' (s + 3) = some (.inl (ev.1 0, 8, .inl (fun _ => 0))) ∧ hp' (s + 4) = some (.inl (ev.1 4, 12, .inr (.inr (.inr (.inr (fun _ => none)))))) ∧ hp' (s + 5) = some (.inl (ev.1 0, 64, .inl (fun x => if x < 64 then yLd x else 0))) ∧ hp' (s + 6) = some (.inl (ev.1 0, 60, .inl (fun _ => 0))) ∧ hp' (s + 7) = some (.inl (ev.1 0, 60, .inl (fun _ => 0))) ∧ hp' (s + 8) = some (.inl (ev.1 0, 60, .inl (fun _ => 0))) ∧ hp' (s + 9) = some (.inl (ev.1 0, 60, .inl (fun _ => 0))) ∧ hp' (s + 10) = some (.inr (10, [.ref (s + 0), .ref (s + 11), .ref (s + 19), .ref (s + 26), .ref (s + 33), .int 0, .ref (s + 34), .int 0, .ref (s + 35), .int 0, .ref (s + 36), .ref (s + 37), .int 0, .int 0, .int 0, .int 6, .int 1, .int 0, .int 0, .int 0])) ∧ hp' (s + 11) = some (.inr (9, [.int 4, .int 0, .ref (s + 12), .ref (s + 13), .ref (s + 14), .ref (s + 15), .ref (s + 16), .ref (s + 17), .ref (s + 18)])) ∧ hp' (s + 12) = some (.inl (ev.1 0, 120, .inl (fun _ => 0))) ∧ hp' (s + 13) = some (.inl (ev.1 0, 120, .inl (fun _ => 0))) ∧ hp' (s + 14) = some (.inl (ev.1 0, 120, .inl (fun _ => 0))) ∧ hp' (s + 15) = some (.inl (ev.1 0, 120, .inl (fun _ => 0))) ∧ hp' (s + 16) = some (.inl (ev.1 0, 120, .inl (fun _ => 0))) ∧ hp' (s + 17) = some (.inl (ev.1 0, 120, .inl (fun _ => 0))) ∧ hp' (s + 18) = some (.inl (ev.1 0, 120, .inl (fun _ => 0))) ∧ hp' (s + 19) = some (.inr (8, [.int 0, .int (-2), .ref (s + 20), .ref (s + 22), .ref (s + 23), .ref (s + 24), .ref (s + 25), .ref (s + 21)])) ∧ hp' (s + 20) = some (.inl (ev.1 0, 26, .inl (fun _ => 0))) ∧ hp' (s + 21) = some (.inl (ev.1 0, 60, .inl (fun _ => 0))) ∧ hp' (s + 22) = some (.inl (ev.1 0, 20, .inl (fun _ => 0))) ∧ hp' (s + 23) = some (.inl (ev.1 0, 20, .inl (fun _ => 0))) ∧ hp' (s + 24) = some (.inl (ev.1 0, 20, .inl (fun _ => 0))) ∧ hp' (s + 25) = some (.inl (ev.1 0, 1200, .inl (fun _ => 0))) ∧ hp' (s + 26) = some (.inr (8, [.int 0, .int (-2), .ref (s + 27), .ref (s + 29), .ref (s + 30), .ref (s + 31), .ref (s + 32), .ref (s + 28)])) ∧ hp' (s + 27) = some (.inl (ev.1 0, 26, .inl (fun _ => 0))) ∧ hp' (s + 28) = some (.inl (ev.1 0, 60, .inl (fun _ => 0))) ∧ hp' (s + 29) = some (.inl (ev.1 0, 12, .inl (fun _ => 0))) ∧ hp' (s + 30) = some (.inl (ev.1 0, 12, .inl (fun _ => 0))) ∧ hp' (s + 31) = some (.inl (ev.1 0, 12, .inl (fun _ => 0))) ∧ hp' (s + 32) = some (.inl (ev.1 0, 720, .inl (fun _ => 0))) ∧ hp' (s + 33) = some (.inl (ev.1 5, 8, .inr (.inr (.inr (.inr (fun _ => none)))))) ∧ hp' (s + 34) = some (.inl (ev.1 6, 8, .inr (.inr (.inr (.inr (fun _ => none)))))) ∧ hp' (s + 35) = some (.inl (ev.1 7, 30, .inr (.inr (.inr (.inr (fun _ => none)))))) ∧ hp' (s + 36) = some (.inl (ev.1 0, 30, .inl (fun _ => 0))) ∧ hp' (s + 37) = some (.inl (ev.1 8, 24, .inr (.inr (.inr (.inr (fun _ => none)))))) ∧ hp' (s + 38) = some (.inr (7, [.ref (s + 39), .ref (s + 40), .int 0, .ref (s + 41), .ref (s + 42)])) ∧ hp' (s + 39) = some (.inl (ev.1 0, 8, .inl (fun _ => 0))) ∧ hp' (s + 40) = some (.inl (ev.1 0, 8, .inl (fun _ => 0))) ∧ hp' (s + 41) = some (.inl (ev.1 1, 8, .inr (.inl (fun _ => 0)))) ∧ hp' (s + 42) = some (.inl (ev.1 1, 256, .inr (.inl (fun _ => 0)))) ∧ hp' (s + 43) = some (.inr (4, [.ref (s + 44), .int 0, .ref (s + 45), .int 0, .ref (s + 46), .int 0, .int 0, .int 0, .int 0, .int 0])) ∧ hp' (s + 44) = some (.inl (ev.1 0, 60, .inl (fun _ => 0))) ∧ hp' (s + 45) = some (.inl (ev.1 0, 60, .inl (fun _ => 0))) ∧ hp' (s + 46) = some (.inl (ev.1 2, 61, .inl (fun _ => 0))) ∧ hp' (s + 47) = some (.inl (ev.1 1, 41, .inr (.inl (fun _ => 0)))) ∧ hp' (s + 48) = some (.inl (ev.1 0, 100, .inl (fun _ => 0))) ∧ hp' (s + 49) = some (.inl (ev.1 0, 32, .inl (fun _ => 0))) ∧ (∀ b, b ≠ a → (b < s ∨ s + 50 ≤ b) → hp' b = hp0 b)) (pg_127 ev) mi_127 (Nat.le_of_ble_eq_true rfl) (fun s hs => by obtain ⟨_, h, _⟩ := hs; cases h) ?_) (fun q hq0 => ?_)
  rotate_left 1
  · obtain ⟨hc, hp', e, k1, k2⟩ := hq0
    rw [Sum.inl.inj e] at hc
    exact ⟨hp', hc, k1, k2⟩
  refine ye_aload rfl rfl ?_
  refine ye_p rfl rfl ?_
  refine ye_aload rfl rfl ?_
  refine yw_rawn rfl (fun y1 Ny1 Oy1 => ?_)
  have Ry1 := (Oy1 a (ngA' (k := 0) ha)).trans h0
  refine ye_p rfl rfl ?_
  obtain ⟨y2, cy2, Ky2, Ey2_0, Ey2_1, Ey2_2, Ey2_3, Ey2_4, Ey2_5, Ey2_6, Ey2_7, Ey2_8, Oy2⟩ := rc_17 (prim := prim) (d := d + 1) y1 (s + 0) (s + 1) Ny1 (by omega)
  refine ye_callV (As := []) (rest := [.ref (s + 0), .ref a]) 2 (Or.inr rfl) rfl rfl rfl (Nat.le_of_ble_eq_true rfl) Ny1 (by exact cy2) ?_
  have Ry2 := (Oy2 a (ngA' ha) (rgA ha)).trans Ry1
  refine yw_rawp rfl Ry2 (Nat.le_of_ble_eq_true rfl) rfl rfl (fun y3 Ry3 Oy3 => ?_)
  show yWE _ _ _ _ (15, _, _, _, _, _) _
  refine ye_aload rfl rfl ?_
  refine yw_rawn rfl (fun y4 Ny4 Oy4 => ?_)
  have Ry4 := (Oy4 a (ngA' (k := 10) ha)).trans Ry3
  refine ye_p rfl rfl ?_
  show yWE _ _ _ _ (20, _, _, _, _, _) _
  refine ye_aload rfl rfl ?_
  refine ye_getf rfl Ry4 rfl ?_
  obtain ⟨y5, cy5, Ky5, Ey5_0, Ey5_1, Ey5_2, Ey5_3, Ey5_4, Ey5_5, Ey5_6, Ey5_7, Ey5_8, Ey5_9, Ey5_10, Ey5_11, Ey5_12, Ey5_13, Ey5_14, Ey5_15, Ey5_16, Ey5_17, Ey5_18, Ey5_19, Ey5_20, Ey5_21, Ey5_22, Ey5_23, Ey5_24, Ey5_25, Ey5_26, Oy5⟩ := rc_95 (prim := prim) (d := d + 0) (s + 0) y4 (s + 10) (s + 11) Ny4 (by omega)
  refine ye_callV (As := [.ref (s + 0)]) (rest := [.ref (s + 10), .ref a]) 2 (Or.inr rfl) rfl rfl rfl (Nat.le_of_ble_eq_true rfl) Ny4 (by exact cy5) ?_
  have Ry5 := (Oy5 a (ngA' ha) (rgA ha)).trans Ry4
  refine yw_rawp rfl Ry5 (Nat.le_of_ble_eq_true rfl) rfl rfl (fun y6 Ry6 Oy6 => ?_)
  show yWE _ _ _ _ (30, _, _, _, _, _) _
  refine ye_aload rfl rfl ?_
  refine yw_rawn rfl (fun y7 Ny7 Oy7 => ?_)
  have Ry7 := (Oy7 a (ngA' (k := 38) ha)).trans Ry6
  refine ye_p rfl rfl ?_
  obtain ⟨y8, cy8, Ky8, Ey8_0, Ey8_1, Ey8_2, Ey8_3, Oy8⟩ := rc_77 (prim := prim) (d := d + 1) y7 (s + 38) (s + 39) Ny7 (by omega)
  refine ye_callV (As := []) (rest := [.ref (s + 38), .ref a]) 2 (Or.inr rfl) rfl rfl rfl (Nat.le_of_ble_eq_true rfl) Ny7 (by exact cy8) ?_
  have Ry8 := (Oy8 a (ngA' ha) (rgA ha)).trans Ry7
  refine yw_rawp rfl Ry8 (Nat.le_of_ble_eq_true rfl) rfl rfl (fun y9 Ry9 Oy9 => ?_)
  show yWE _ _ _ _ (41, _, _, _, _, _) _
  refine ye_aload rfl rfl ?_
  refine yw_rawn rfl (fun y10 Ny10 Oy10 => ?_)
  have Ry10 := (Oy10 a (ngA' (k := 43) ha)).trans Ry9
  refine ye_p rfl rfl ?_
  obtain ⟨y11, cy11, Ky11, Ey11_0, Ey11_1, Ey11_2, Oy11⟩ := rc_41 (prim := prim) (d := d + 1) y10 (s + 43) (s + 44) Ny10 (by omega)
  refine ye_callV (As := []) (rest := [.ref (s + 43), .ref a]) 2 (Or.inr rfl) rfl rfl rfl (Nat.le_of_ble_eq_true rfl) Ny10 (by exact cy11) ?_
  have Ry11 := (Oy11 a (ngA' ha) (rgA ha)).trans Ry10
  refine yw_rawp rfl Ry11 (Nat.le_of_ble_eq_true rfl) rfl rfl (fun y12 Ry12 Oy12 => ?_)
  show yWE _ _ _ _ (52, _, _, _, _, _) _
  refine ye_aload rfl rfl ?_
  refine ye_p rfl rfl ?_
  refine yw_rawa (m := 41) rfl rfl (by decide) (fun y13 A47 Oy13 => ?_)
  have Ry13 := (Oy13 a (ngA' (k := 47) ha)).trans Ry12
  refine yw_rawp rfl Ry13 (Nat.le_of_ble_eq_true rfl) rfl rfl (fun y14 Ry14 Oy14 => ?_)
  show yWE _ _ _ _ (60, _, _, _, _, _) _
  refine ye_aload rfl rfl ?_
  refine ye_p rfl rfl ?_
  refine yw_rawa (m := 100) rfl rfl (by decide) (fun y15 A48 Oy15 => ?_)
  have Ry15 := (Oy15 a (ngA' (k := 48) ha)).trans Ry14
  refine yw_rawp rfl Ry15 (Nat.le_of_ble_eq_true rfl) rfl rfl (fun y16 Ry16 Oy16 => ?_)
  show yWE _ _ _ _ (68, _, _, _, _, _) _
  refine ye_aload rfl rfl ?_
  refine ye_p rfl rfl ?_
  refine yw_rawa (m := 32) rfl rfl (by decide) (fun y17 A49 Oy17 => ?_)
  have Ry17 := (Oy17 a (ngA' (k := 49) ha)).trans Ry16
  refine yw_rawp rfl Ry17 (Nat.le_of_ble_eq_true rfl) rfl rfl (fun y18 Ry18 Oy18 => ?_)
  have Z0 : y18 (s + 0) = some (.inr (2, [.ref (s + 1), .ref (s + 2), .ref (s + 3), .int 0, .ref (s + 4), .int 0, .int 0, .ref (s + 5), .ref (s + 6), .ref (s + 7), .ref (s + 8), .ref (s + 9)])) := (Oy18 (s + 0) (ngA ha)).trans ((Oy17 (s + 0) (ngS (j := 49) (by decide))).trans ((Oy16 (s + 0) (ngA ha)).trans ((Oy15 (s + 0) (ngS (j := 48) (by decide))).trans ((Oy14 (s + 0) (ngA ha)).trans ((Oy13 (s + 0) (ngS (j := 47) (by decide))).trans ((Oy12 (s + 0) (ngA ha)).trans ((Oy11 (s + 0) (ngS (by decide)) (rgS (by decide))).trans ((Oy10 (s + 0) (ngS (j := 43) (by decide))).trans ((Oy9 (s + 0) (ngA ha)).trans ((Oy8 (s + 0) (ngS (by decide)) (rgS (by decide))).trans ((Oy7 (s + 0) (ngS (j := 38) (by decide))).trans ((Oy6 (s + 0) (ngA ha)).trans ((Oy5 (s + 0) (ngS (by decide)) (rgS (by decide))).trans ((Oy4 (s + 0) (ngS (j := 10) (by decide))).trans ((Oy3 (s + 0) (ngA ha)).trans (Ky2))))))))))))))))
  have Z1 : y18 (s + 1) = some (.inl (ev.1 0, 8, .inl (fun _ => 0))) := (Oy18 (s + 1) (ngA ha)).trans ((Oy17 (s + 1) (ngS (j := 49) (by decide))).trans ((Oy16 (s + 1) (ngA ha)).trans ((Oy15 (s + 1) (ngS (j := 48) (by decide))).trans ((Oy14 (s + 1) (ngA ha)).trans ((Oy13 (s + 1) (ngS (j := 47) (by decide))).trans ((Oy12 (s + 1) (ngA ha)).trans ((Oy11 (s + 1) (ngS (by decide)) (rgS (by decide))).trans ((Oy10 (s + 1) (ngS (j := 43) (by decide))).trans ((Oy9 (s + 1) (ngA ha)).trans ((Oy8 (s + 1) (ngS (by decide)) (rgS (by decide))).trans ((Oy7 (s + 1) (ngS (j := 38) (by decide))).trans ((Oy6 (s + 1) (ngA ha)).trans ((Oy5 (s + 1) (ngS (by decide)) (rgS (by decide))).trans ((Oy4 (s + 1) (ngS (j := 10) (by decide))).trans ((Oy3 (s + 1) (ngA ha)).trans (Ey2_0))))))))))))))))
  have Z2 : y18 (s + 2) = some (.inl (ev.1 2, 8, .inl (fun _ => 0))) := (Oy18 (s + 2) (ngA ha)).trans ((Oy17 (s + 2) (ngS (j := 49) (by decide))).trans ((Oy16 (s + 2) (ngA ha)).trans ((Oy15 (s + 2) (ngS (j := 48) (by decide))).trans ((Oy14 (s + 2) (ngA ha)).trans ((Oy13 (s + 2) (ngS (j := 47) (by decide))).trans ((Oy12 (s + 2) (ngA ha)).trans ((Oy11 (s + 2) (ngS (by decide)) (rgS (by decide))).trans ((Oy10 (s + 2) (ngS (j := 43) (by decide))).trans ((Oy9 (s + 2) (ngA ha)).trans ((Oy8 (s + 2) (ngS (by decide)) (rgS (by decide))).trans ((Oy7 (s + 2) (ngS (j := 38) (by decide))).trans ((Oy6 (s + 2) (ngA ha)).trans ((Oy5 (s + 2) (ngS (by decide)) (rgS (by decide))).trans ((Oy4 (s + 2) (ngS (j := 10) (by decide))).trans ((Oy3 (s + 2) (ngA ha)).trans (Ey2_1))))))))))))))))
  have Z3 : y18 (s + 3) = some (.inl (ev.1 0, 8, .inl (fun _ => 0))) := (Oy18 (s + 3) (ngA ha)).trans ((Oy17 (s + 3) (ngS (j := 49) (by decide))).trans ((Oy16 (s + 3) (ngA ha)).trans ((Oy15 (s + 3) (ngS (j := 48) (by decide))).trans ((Oy14 (s + 3) (ngA ha)).trans ((Oy13 (s + 3) (ngS (j := 47) (by decide))).trans ((Oy12 (s + 3) (ngA ha)).trans ((Oy11 (s + 3) (ngS (by decide)) (rgS (by decide))).trans ((Oy10 (s + 3) (ngS (j := 43) (by decide))).trans ((Oy9 (s + 3) (ngA ha)).trans ((Oy8 (s + 3) (ngS (by decide)) (rgS (by decide))).trans ((Oy7 (s + 3) (ngS (j := 38) (by decide))).trans ((Oy6 (s + 3) (ngA ha)).trans ((Oy5 (s + 3) (ngS (by decide)) (rgS (by decide))).trans ((Oy4 (s + 3) (ngS (j := 10) (by decide))).trans ((Oy3 (s + 3) (ngA ha)).trans (Ey2_2))))))))))))))))
  have Z4 : y18 (s + 4) = some (.inl (ev.1 4, 12, .inr (.inr (.inr (.inr (fun _ => none)))))) := (Oy18 (s + 4) (ngA ha)).trans ((Oy17 (s + 4) (ngS (j := 49) (by decide))).trans ((Oy16 (s + 4) (ngA ha)).trans ((Oy15 (s + 4) (ngS (j := 48) (by decide))).trans ((Oy14 (s + 4) (ngA ha)).trans ((Oy13 (s + 4) (ngS (j := 47) (by decide))).trans ((Oy12 (s + 4) (ngA ha)).trans ((Oy11 (s + 4) (ngS (by decide)) (rgS (by decide))).trans ((Oy10 (s + 4) (ngS (j := 43) (by decide))).trans ((Oy9 (s + 4) (ngA ha)).trans ((Oy8 (s + 4) (ngS (by decide)) (rgS (by decide))).trans ((Oy7 (s + 4) (ngS (j := 38) (by decide))).trans ((Oy6 (s + 4) (ngA ha)).trans ((Oy5 (s + 4) (ngS (by decide)) (rgS (by decide))).trans ((Oy4 (s + 4) (ngS (j := 10) (by decide))).trans ((Oy3 (s + 4) (ngA ha)).trans (Ey2_3))))))))))))))))
  have Z5 : y18 (s + 5) = some (.inl (ev.1 0, 64, .inl (fun x => if x < 64 then yLd x else 0))) := (Oy18 (s + 5) (ngA ha)).trans ((Oy17 (s + 5) (ngS (j := 49) (by decide))).trans ((Oy16 (s + 5) (ngA ha)).trans ((Oy15 (s + 5) (ngS (j := 48) (by decide))).trans ((Oy14 (s + 5) (ngA ha)).trans ((Oy13 (s + 5) (ngS (j := 47) (by decide))).trans ((Oy12 (s + 5) (ngA ha)).trans ((Oy11 (s + 5) (ngS (by decide)) (rgS (by decide))).trans ((Oy10 (s + 5) (ngS (j := 43) (by decide))).trans ((Oy9 (s + 5) (ngA ha)).trans ((Oy8 (s + 5) (ngS (by decide)) (rgS (by decide))).trans ((Oy7 (s + 5) (ngS (j := 38) (by decide))).trans ((Oy6 (s + 5) (ngA ha)).trans ((Oy5 (s + 5) (ngS (by decide)) (rgS (by decide))).trans ((Oy4 (s + 5) (ngS (j := 10) (by decide))).trans ((Oy3 (s + 5) (ngA ha)).trans (Ey2_4))))))))))))))))
  have Z6 : y18 (s + 6) = some (.inl (ev.1 0, 60, .inl (fun _ => 0))) := (Oy18 (s + 6) (ngA ha)).trans ((Oy17 (s + 6) (ngS (j := 49) (by decide))).trans ((Oy16 (s + 6) (ngA ha)).trans ((Oy15 (s + 6) (ngS (j := 48) (by decide))).trans ((Oy14 (s + 6) (ngA ha)).trans ((Oy13 (s + 6) (ngS (j := 47) (by decide))).trans ((Oy12 (s + 6) (ngA ha)).trans ((Oy11 (s + 6) (ngS (by decide)) (rgS (by decide))).trans ((Oy10 (s + 6) (ngS (j := 43) (by decide))).trans ((Oy9 (s + 6) (ngA ha)).trans ((Oy8 (s + 6) (ngS (by decide)) (rgS (by decide))).trans ((Oy7 (s + 6) (ngS (j := 38) (by decide))).trans ((Oy6 (s + 6) (ngA ha)).trans ((Oy5 (s + 6) (ngS (by decide)) (rgS (by decide))).trans ((Oy4 (s + 6) (ngS (j := 10) (by decide))).trans ((Oy3 (s + 6) (ngA ha)).trans (Ey2_5))))))))))))))))
  have Z7 : y18 (s + 7) = some (.inl (ev.1 0, 60, .inl (fun _ => 0))) := (Oy18 (s + 7) (ngA ha)).trans ((Oy17 (s + 7) (ngS (j := 49) (by decide))).trans ((Oy16 (s + 7) (ngA ha)).trans ((Oy15 (s + 7) (ngS (j := 48) (by decide))).trans ((Oy14 (s + 7) (ngA ha)).trans ((Oy13 (s + 7) (ngS (j := 47) (by decide))).trans ((Oy12 (s + 7) (ngA ha)).trans ((Oy11 (s + 7) (ngS (by decide)) (rgS (by decide))).trans ((Oy10 (s + 7) (ngS (j := 43) (by decide))).trans ((Oy9 (s + 7) (ngA ha)).trans ((Oy8 (s + 7) (ngS (by decide)) (rgS (by decide))).trans ((Oy7 (s + 7) (ngS (j := 38) (by decide))).trans ((Oy6 (s + 7) (ngA ha)).trans ((Oy5 (s + 7) (ngS (by decide)) (rgS (by decide))).trans ((Oy4 (s + 7) (ngS (j := 10) (by decide))).trans ((Oy3 (s + 7) (ngA ha)).trans (Ey2_6))))))))))))))))
  have Z8 : y18 (s + 8) = some (.inl (ev.1 0, 60, .inl (fun _ => 0))) := (Oy18 (s + 8) (ngA ha)).trans ((Oy17 (s + 8) (ngS (j := 49) (by decide))).trans ((Oy16 (s + 8) (ngA ha)).trans ((Oy15 (s + 8) (ngS (j := 48) (by decide))).trans ((Oy14 (s + 8) (ngA ha)).trans ((Oy13 (s + 8) (ngS (j := 47) (by decide))).trans ((Oy12 (s + 8) (ngA ha)).trans ((Oy11 (s + 8) (ngS (by decide)) (rgS (by decide))).trans ((Oy10 (s + 8) (ngS (j := 43) (by decide))).trans ((Oy9 (s + 8) (ngA ha)).trans ((Oy8 (s + 8) (ngS (by decide)) (rgS (by decide))).trans ((Oy7 (s + 8) (ngS (j := 38) (by decide))).trans ((Oy6 (s + 8) (ngA ha)).trans ((Oy5 (s + 8) (ngS (by decide)) (rgS (by decide))).trans ((Oy4 (s + 8) (ngS (j := 10) (by decide))).trans ((Oy3 (s + 8) (ngA ha)).trans (Ey2_7))))))))))))))))
  have Z9 : y18 (s + 9) = some (.inl (ev.1 0, 60, .inl (fun _ => 0))) := (Oy18 (s + 9) (ngA ha)).trans ((Oy17 (s + 9) (ngS (j := 49) (by decide))).trans ((Oy16 (s + 9) (ngA ha)).trans ((Oy15 (s + 9) (ngS (j := 48) (by decide))).trans ((Oy14 (s + 9) (ngA ha)).trans ((Oy13 (s + 9) (ngS (j := 47) (by decide))).trans ((Oy12 (s + 9) (ngA ha)).trans ((Oy11 (s + 9) (ngS (by decide)) (rgS (by decide))).trans ((Oy10 (s + 9) (ngS (j := 43) (by decide))).trans ((Oy9 (s + 9) (ngA ha)).trans ((Oy8 (s + 9) (ngS (by decide)) (rgS (by decide))).trans ((Oy7 (s + 9) (ngS (j := 38) (by decide))).trans ((Oy6 (s + 9) (ngA ha)).trans ((Oy5 (s + 9) (ngS (by decide)) (rgS (by decide))).trans ((Oy4 (s + 9) (ngS (j := 10) (by decide))).trans ((Oy3 (s + 9) (ngA ha)).trans (Ey2_8))))))))))))))))
  have Z10 : y18 (s + 10) = some (.inr (10, [.ref (s + 0), .ref (s + 11), .ref (s + 19), .ref (s + 26), .ref (s + 33), .int 0, .ref (s + 34), .int 0, .ref (s + 35), .int 0, .ref (s + 36), .ref (s + 37), .int 0, .int 0, .int 0, .int 6, .int 1, .int 0, .int 0, .int 0])) := (Oy18 (s + 10) (ngA ha)).trans ((Oy17 (s + 10) (ngS (j := 49) (by decide))).trans ((Oy16 (s + 10) (ngA ha)).trans ((Oy15 (s + 10) (ngS (j := 48) (by decide))).trans ((Oy14 (s + 10) (ngA ha)).trans ((Oy13 (s + 10) (ngS (j := 47) (by decide))).trans ((Oy12 (s + 10) (ngA ha)).trans ((Oy11 (s + 10) (ngS (by decide)) (rgS (by decide))).trans ((Oy10 (s + 10) (ngS (j := 43) (by decide))).trans ((Oy9 (s + 10) (ngA ha)).trans ((Oy8 (s + 10) (ngS (by decide)) (rgS (by decide))).trans ((Oy7 (s + 10) (ngS (j := 38) (by decide))).trans ((Oy6 (s + 10) (ngA ha)).trans (Ky5)))))))))))))
  have Z11 : y18 (s + 11) = some (.inr (9, [.int 4, .int 0, .ref (s + 12), .ref (s + 13), .ref (s + 14), .ref (s + 15), .ref (s + 16), .ref (s + 17), .ref (s + 18)])) := (Oy18 (s + 11) (ngA ha)).trans ((Oy17 (s + 11) (ngS (j := 49) (by decide))).trans ((Oy16 (s + 11) (ngA ha)).trans ((Oy15 (s + 11) (ngS (j := 48) (by decide))).trans ((Oy14 (s + 11) (ngA ha)).trans ((Oy13 (s + 11) (ngS (j := 47) (by decide))).trans ((Oy12 (s + 11) (ngA ha)).trans ((Oy11 (s + 11) (ngS (by decide)) (rgS (by decide))).trans ((Oy10 (s + 11) (ngS (j := 43) (by decide))).trans ((Oy9 (s + 11) (ngA ha)).trans ((Oy8 (s + 11) (ngS (by decide)) (rgS (by decide))).trans ((Oy7 (s + 11) (ngS (j := 38) (by decide))).trans ((Oy6 (s + 11) (ngA ha)).trans (Ey5_0)))))))))))))
  have Z12 : y18 (s + 12) = some (.inl (ev.1 0, 120, .inl (fun _ => 0))) := (Oy18 (s + 12) (ngA ha)).trans ((Oy17 (s + 12) (ngS (j := 49) (by decide))).trans ((Oy16 (s + 12) (ngA ha)).trans ((Oy15 (s + 12) (ngS (j := 48) (by decide))).trans ((Oy14 (s + 12) (ngA ha)).trans ((Oy13 (s + 12) (ngS (j := 47) (by decide))).trans ((Oy12 (s + 12) (ngA ha)).trans ((Oy11 (s + 12) (ngS (by decide)) (rgS (by decide))).trans ((Oy10 (s + 12) (ngS (j := 43) (by decide))).trans ((Oy9 (s + 12) (ngA ha)).trans ((Oy8 (s + 12) (ngS (by decide)) (rgS (by decide))).trans ((Oy7 (s + 12) (ngS (j := 38) (by decide))).trans ((Oy6 (s + 12) (ngA ha)).trans (Ey5_1)))))))))))))
  have Z13 : y18 (s + 13) = some (.inl (ev.1 0, 120, .inl (fun _ => 0))) := (Oy18 (s + 13) (ngA ha)).trans ((Oy17 (s + 13) (ngS (j := 49) (by decide))).trans ((Oy16 (s + 13) (ngA ha)).trans ((Oy15 (s + 13) (ngS (j := 48) (by decide))).trans ((Oy14 (s + 13) (ngA ha)).trans ((Oy13 (s + 13) (ngS (j := 47) (by decide))).trans ((Oy12 (s + 13) (ngA ha)).trans ((Oy11 (s + 13) (ngS (by decide)) (rgS (by decide))).trans ((Oy10 (s + 13) (ngS (j := 43) (by decide))).trans ((Oy9 (s + 13) (ngA ha)).trans ((Oy8 (s + 13) (ngS (by decide)) (rgS (by decide))).trans ((Oy7 (s + 13) (ngS (j := 38) (by decide))).trans ((Oy6 (s + 13) (ngA ha)).trans (Ey5_2)))))))))))))
  have Z14 : y18 (s + 14) = some (.inl (ev.1 0, 120, .inl (fun _ => 0))) := (Oy18 (s + 14) (ngA ha)).trans ((Oy17 (s + 14) (ngS (j := 49) (by decide))).trans ((Oy16 (s + 14) (ngA ha)).trans ((Oy15 (s + 14) (ngS (j := 48) (by decide))).trans ((Oy14 (s + 14) (ngA ha)).trans ((Oy13 (s + 14) (ngS (j := 47) (by decide))).trans ((Oy12 (s + 14) (ngA ha)).trans ((Oy11 (s + 14) (ngS (by decide)) (rgS (by decide))).trans ((Oy10 (s + 14) (ngS (j := 43) (by decide))).trans ((Oy9 (s + 14) (ngA ha)).trans ((Oy8 (s + 14) (ngS (by decide)) (rgS (by decide))).trans ((Oy7 (s + 14) (ngS (j := 38) (by decide))).trans ((Oy6 (s + 14) (ngA ha)).trans (Ey5_3)))))))))))))
  have Z15 : y18 (s + 15) = some (.inl (ev.1 0, 120, .inl (fun _ => 0))) := (Oy18 (s + 15) (ngA ha)).trans ((Oy17 (s + 15) (ngS (j := 49) (by decide))).trans ((Oy16 (s + 15) (ngA ha)).trans ((Oy15 (s + 15) (ngS (j := 48) (by decide))).trans ((Oy14 (s + 15) (ngA ha)).trans ((Oy13 (s + 15) (ngS (j := 47) (by decide))).trans ((Oy12 (s + 15) (ngA ha)).trans ((Oy11 (s + 15) (ngS (by decide)) (rgS (by decide))).trans ((Oy10 (s + 15) (ngS (j := 43) (by decide))).trans ((Oy9 (s + 15) (ngA ha)).trans ((Oy8 (s + 15) (ngS (by decide)) (rgS (by decide))).trans ((Oy7 (s + 15) (ngS (j := 38) (by decide))).trans ((Oy6 (s + 15) (ngA ha)).trans (Ey5_4)))))))))))))
  have Z16 : y18 (s + 16) = some (.inl (ev.1 0, 120, .inl (fun _ => 0))) := (Oy18 (s + 16) (ngA ha)).trans ((Oy17 (s + 16) (ngS (j := 49) (by decide))).trans ((Oy16 (s + 16) (ngA ha)).trans ((Oy15 (s + 16) (ngS (j := 48) (by decide))).trans ((Oy14 (s + 16) (ngA ha)).trans ((Oy13 (s + 16) (ngS (j := 47) (by decide))).trans ((Oy12 (s + 16) (ngA ha)).trans ((Oy11 (s + 16) (ngS (by decide)) (rgS (by decide))).trans ((Oy10 (s + 16) (ngS (j := 43) (by decide))).trans ((Oy9 (s + 16) (ngA ha)).trans ((Oy8 (s + 16) (ngS (by decide)) (rgS (by decide))).trans ((Oy7 (s + 16) (ngS (j := 38) (by decide))).trans ((Oy6 (s + 16) (ngA ha)).trans (Ey5_5)))))))))))))
  have Z17 : y18 (s + 17) = some (.inl (ev.1 0, 120, .inl (fun _ => 0))) := (Oy18 (s + 17) (ngA ha)).trans ((Oy17 (s + 17) (ngS (j := 49) (by decide))).trans ((Oy16 (s + 17) (ngA ha)).trans ((Oy15 (s + 17) (ngS (j := 48) (by decide))).trans ((Oy14 (s + 17) (ngA ha)).trans ((Oy13 (s + 17) (ngS (j := 47) (by decide))).trans ((Oy12 (s + 17) (ngA ha)).trans ((Oy11 (s + 17) (ngS (by decide)) (rgS (by decide))).trans ((Oy10 (s + 17) (ngS (j := 43) (by decide))).trans ((Oy9 (s + 17) (ngA ha)).trans ((Oy8 (s + 17) (ngS (by decide)) (rgS (by decide))).trans ((Oy7 (s + 17) (ngS (j := 38) (by decide))).trans ((Oy6 (s + 17) (ngA ha)).trans (Ey5_6)))))))))))))
  have Z18 : y18 (s + 18) = some (.inl (ev.1 0, 120, .inl (fun _ => 0))) := (Oy18 (s + 18) (ngA ha)).trans ((Oy17 (s + 18) (ngS (j := 49) (by decide))).trans ((Oy16 (s + 18) (ngA ha)).trans ((Oy15 (s + 18) (ngS (j := 48) (by decide))).trans ((Oy14 (s + 18) (ngA ha)).trans ((Oy13 (s + 18) (ngS (j := 47) (by decide))).trans ((Oy12 (s + 18) (ngA ha)).trans ((Oy11 (s + 18) (ngS (by decide)) (rgS (by decide))).trans ((Oy10 (s + 18) (ngS (j := 43) (by decide))).trans ((Oy9 (s + 18) (ngA ha)).trans ((Oy8 (s + 18) (ngS (by decide)) (rgS (by decide))).trans ((Oy7 (s + 18) (ngS (j := 38) (by decide))).trans ((Oy6 (s + 18) (ngA ha)).trans (Ey5_7)))))))))))))
  have Z19 : y18 (s + 19) = some (.inr (8, [.int 0, .int (-2), .ref (s + 20), .ref (s + 22), .ref (s + 23), .ref (s + 24), .ref (s + 25), .ref (s + 21)])) := (Oy18 (s + 19) (ngA ha)).trans ((Oy17 (s + 19) (ngS (j := 49) (by decide))).trans ((Oy16 (s + 19) (ngA ha)).trans ((Oy15 (s + 19) (ngS (j := 48) (by decide))).trans ((Oy14 (s + 19) (ngA ha)).trans ((Oy13 (s + 19) (ngS (j := 47) (by decide))).trans ((Oy12 (s + 19) (ngA ha)).trans ((Oy11 (s + 19) (ngS (by decide)) (rgS (by decide))).trans ((Oy10 (s + 19) (ngS (j := 43) (by decide))).trans ((Oy9 (s + 19) (ngA ha)).trans ((Oy8 (s + 19) (ngS (by decide)) (rgS (by decide))).trans ((Oy7 (s + 19) (ngS (j := 38) (by decide))).trans ((Oy6 (s + 19) (ngA ha)).trans (Ey5_8)))))))))))))
  have Z20 : y18 (s + 20) = some (.inl (ev.1 0, 26, .inl (fun _ => 0))) := (Oy18 (s + 20) (ngA ha)).trans ((Oy17 (s + 20) (ngS (j := 49) (by decide))).trans ((Oy16 (s + 20) (ngA ha)).trans ((Oy15 (s + 20) (ngS (j := 48) (by decide))).trans ((Oy14 (s + 20) (ngA ha)).trans ((Oy13 (s + 20) (ngS (j := 47) (by decide))).trans ((Oy12 (s + 20) (ngA ha)).trans ((Oy11 (s + 20) (ngS (by decide)) (rgS (by decide))).trans ((Oy10 (s + 20) (ngS (j := 43) (by decide))).trans ((Oy9 (s + 20) (ngA ha)).trans ((Oy8 (s + 20) (ngS (by decide)) (rgS (by decide))).trans ((Oy7 (s + 20) (ngS (j := 38) (by decide))).trans ((Oy6 (s + 20) (ngA ha)).trans (Ey5_9)))))))))))))
  have Z21 : y18 (s + 21) = some (.inl (ev.1 0, 60, .inl (fun _ => 0))) := (Oy18 (s + 21) (ngA ha)).trans ((Oy17 (s + 21) (ngS (j := 49) (by decide))).trans ((Oy16 (s + 21) (ngA ha)).trans ((Oy15 (s + 21) (ngS (j := 48) (by decide))).trans ((Oy14 (s + 21) (ngA ha)).trans ((Oy13 (s + 21) (ngS (j := 47) (by decide))).trans ((Oy12 (s + 21) (ngA ha)).trans ((Oy11 (s + 21) (ngS (by decide)) (rgS (by decide))).trans ((Oy10 (s + 21) (ngS (j := 43) (by decide))).trans ((Oy9 (s + 21) (ngA ha)).trans ((Oy8 (s + 21) (ngS (by decide)) (rgS (by decide))).trans ((Oy7 (s + 21) (ngS (j := 38) (by decide))).trans ((Oy6 (s + 21) (ngA ha)).trans (Ey5_10)))))))))))))
  have Z22 : y18 (s + 22) = some (.inl (ev.1 0, 20, .inl (fun _ => 0))) := (Oy18 (s + 22) (ngA ha)).trans ((Oy17 (s + 22) (ngS (j := 49) (by decide))).trans ((Oy16 (s + 22) (ngA ha)).trans ((Oy15 (s + 22) (ngS (j := 48) (by decide))).trans ((Oy14 (s + 22) (ngA ha)).trans ((Oy13 (s + 22) (ngS (j := 47) (by decide))).trans ((Oy12 (s + 22) (ngA ha)).trans ((Oy11 (s + 22) (ngS (by decide)) (rgS (by decide))).trans ((Oy10 (s + 22) (ngS (j := 43) (by decide))).trans ((Oy9 (s + 22) (ngA ha)).trans ((Oy8 (s + 22) (ngS (by decide)) (rgS (by decide))).trans ((Oy7 (s + 22) (ngS (j := 38) (by decide))).trans ((Oy6 (s + 22) (ngA ha)).trans (Ey5_11)))))))))))))
  have Z23 : y18 (s + 23) = some (.inl (ev.1 0, 20, .inl (fun _ => 0))) := (Oy18 (s + 23) (ngA ha)).trans ((Oy17 (s + 23) (ngS (j := 49) (by decide))).trans ((Oy16 (s + 23) (ngA ha)).trans ((Oy15 (s + 23) (ngS (j := 48) (by decide))).trans ((Oy14 (s + 23) (ngA ha)).trans ((Oy13 (s + 23) (ngS (j := 47) (by decide))).trans ((Oy12 (s + 23) (ngA ha)).trans ((Oy11 (s + 23) (ngS (by decide)) (rgS (by decide))).trans ((Oy10 (s + 23) (ngS (j := 43) (by decide))).trans ((Oy9 (s + 23) (ngA ha)).trans ((Oy8 (s + 23) (ngS (by decide)) (rgS (by decide))).trans ((Oy7 (s + 23) (ngS (j := 38) (by decide))).trans ((Oy6 (s + 23) (ngA ha)).trans (Ey5_12)))))))))))))
  have Z24 : y18 (s + 24) = some (.inl (ev.1 0, 20, .inl (fun _ => 0))) := (Oy18 (s + 24) (ngA ha)).trans ((Oy17 (s + 24) (ngS (j := 49) (by decide))).trans ((Oy16 (s + 24) (ngA ha)).trans ((Oy15 (s + 24) (ngS (j := 48) (by decide))).trans ((Oy14 (s + 24) (ngA ha)).trans ((Oy13 (s + 24) (ngS (j := 47) (by decide))).trans ((Oy12 (s + 24) (ngA ha)).trans ((Oy11 (s + 24) (ngS (by decide)) (rgS (by decide))).trans ((Oy10 (s + 24) (ngS (j := 43) (by decide))).trans ((Oy9 (s + 24) (ngA ha)).trans ((Oy8 (s + 24) (ngS (by decide)) (rgS (by decide))).trans ((Oy7 (s + 24) (ngS (j := 38) (by decide))).trans ((Oy6 (s + 24) (ngA ha)).trans (Ey5_13)))))))))))))
  have Z25 : y18 (s + 25) = some (.inl (ev.1 0, 1200, .inl (fun _ => 0))) := (Oy18 (s + 25) (ngA ha)).trans ((Oy17 (s + 25) (ngS (j := 49) (by decide))).trans ((Oy16 (s + 25) (ngA ha)).trans ((Oy15 (s + 25) (ngS (j := 48) (by decide))).trans ((Oy14 (s + 25) (ngA ha)).trans ((Oy13 (s + 25) (ngS (j := 47) (by decide))).trans ((Oy12 (s + 25) (ngA ha)).trans ((Oy11 (s + 25) (ngS (by decide)) (rgS (by decide))).trans ((Oy10 (s + 25) (ngS (j := 43) (by decide))).trans ((Oy9 (s + 25) (ngA ha)).trans ((Oy8 (s + 25) (ngS (by decide)) (rgS (by decide))).trans ((Oy7 (s + 25) (ngS (j := 38) (by decide))).trans ((Oy6 (s + 25) (ngA ha)).trans (Ey5_14)))))))))))))
  have Z26 : y18 (s + 26) = some (.inr (8, [.int 0, .int (-2), .ref (s + 27), .ref (s + 29), .ref (s + 30), .ref (s + 31), .ref (s + 32), .ref (s + 28)])) := (Oy18 (s + 26) (ngA ha)).trans ((Oy17 (s + 26) (ngS (j := 49) (by decide))).trans ((Oy16 (s + 26) (ngA ha)).trans ((Oy15 (s + 26) (ngS (j := 48) (by decide))).trans ((Oy14 (s + 26) (ngA ha)).trans ((Oy13 (s + 26) (ngS (j := 47) (by decide))).trans ((Oy12 (s + 26) (ngA ha)).trans ((Oy11 (s + 26) (ngS (by decide)) (rgS (by decide))).trans ((Oy10 (s + 26) (ngS (j := 43) (by decide))).trans ((Oy9 (s + 26) (ngA ha)).trans ((Oy8 (s + 26) (ngS (by decide)) (rgS (by decide))).trans ((Oy7 (s + 26) (ngS (j := 38) (by decide))).trans ((Oy6 (s + 26) (ngA ha)).trans (Ey5_15)))))))))))))
  have Z27 : y18 (s + 27) = some (.inl (ev.1 0, 26, .inl (fun _ => 0))) := (Oy18 (s + 27) (ngA ha)).trans ((Oy17 (s + 27) (ngS (j := 49) (by decide))).trans ((Oy16 (s + 27) (ngA ha)).trans ((Oy15 (s + 27) (ngS (j := 48) (by decide))).trans ((Oy14 (s + 27) (ngA ha)).trans ((Oy13 (s + 27) (ngS (j := 47) (by decide))).trans ((Oy12 (s + 27) (ngA ha)).trans ((Oy11 (s + 27) (ngS (by decide)) (rgS (by decide))).trans ((Oy10 (s + 27) (ngS (j := 43) (by decide))).trans ((Oy9 (s + 27) (ngA ha)).trans ((Oy8 (s + 27) (ngS (by decide)) (rgS (by decide))).trans ((Oy7 (s + 27) (ngS (j := 38) (by decide))).trans ((Oy6 (s + 27) (ngA ha)).trans (Ey5_16)))))))))))))
  have Z28 : y18 (s + 28) = some (.inl (ev.1 0, 60, .inl (fun _ => 0))) := (Oy18 (s + 28) (ngA ha)).trans ((Oy17 (s + 28) (ngS (j := 49) (by decide))).trans ((Oy16 (s + 28) (ngA ha)).trans ((Oy15 (s + 28) (ngS (j := 48) (by decide))).trans ((Oy14 (s + 28) (ngA ha)).trans ((Oy13 (s + 28) (ngS (j := 47) (by decide))).trans ((Oy12 (s + 28) (ngA ha)).trans ((Oy11 (s + 28) (ngS (by decide)) (rgS (by decide))).trans ((Oy10 (s + 28) (ngS (j := 43) (by decide))).trans ((Oy9 (s + 28) (ngA ha)).trans ((Oy8 (s + 28) (ngS (by decide)) (rgS (by decide))).trans ((Oy7 (s + 28) (ngS (j := 38) (by decide))).trans ((Oy6 (s + 28) (ngA ha)).trans (Ey5_17)))))))))))))
  have Z29 : y18 (s + 29) = some (.inl (ev.1 0, 12, .inl (fun _ => 0))) := (Oy18 (s + 29) (ngA ha)).trans ((Oy17 (s + 29) (ngS (j := 49) (by decide))).trans ((Oy16 (s + 29) (ngA ha)).trans ((Oy15 (s + 29) (ngS (j := 48) (by decide))).trans ((Oy14 (s + 29) (ngA ha)).trans ((Oy13 (s + 29) (ngS (j := 47) (by decide))).trans ((Oy12 (s + 29) (ngA ha)).trans ((Oy11 (s + 29) (ngS (by decide)) (rgS (by decide))).trans ((Oy10 (s + 29) (ngS (j := 43) (by decide))).trans ((Oy9 (s + 29) (ngA ha)).trans ((Oy8 (s + 29) (ngS (by decide)) (rgS (by decide))).trans ((Oy7 (s + 29) (ngS (j := 38) (by decide))).trans ((Oy6 (s + 29) (ngA ha)).trans (Ey5_18)))))))))))))
  have Z30 : y18 (s + 30) = some (.inl (ev.1 0, 12, .inl (fun _ => 0))) := (Oy18 (s + 30) (ngA ha)).trans ((Oy17 (s + 30) (ngS (j := 49) (by decide))).trans ((Oy16 (s + 30) (ngA ha)).trans ((Oy15 (s + 30) (ngS (j := 48) (by decide))).trans ((Oy14 (s + 30) (ngA ha)).trans ((Oy13 (s + 30) (ngS (j := 47) (by decide))).trans ((Oy12 (s + 30) (ngA ha)).trans ((Oy11 (s + 30) (ngS (by decide)) (rgS (by decide))).trans ((Oy10 (s + 30) (ngS (j := 43) (by decide))).trans ((Oy9 (s + 30) (ngA ha)).trans ((Oy8 (s + 30) (ngS (by decide)) (rgS (by decide))).trans ((Oy7 (s + 30) (ngS (j := 38) (by decide))).trans ((Oy6 (s + 30) (ngA ha)).trans (Ey5_19)))))))))))))
  have Z31 : y18 (s + 31) = some (.inl (ev.1 0, 12, .inl (fun _ => 0))) := (Oy18 (s + 31) (ngA ha)).trans ((Oy17 (s + 31) (ngS (j := 49) (by decide))).trans ((Oy16 (s + 31) (ngA ha)).trans ((Oy15 (s + 31) (ngS (j := 48) (by decide))).trans ((Oy14 (s + 31) (ngA ha)).trans ((Oy13 (s + 31) (ngS (j := 47) (by decide))).trans ((Oy12 (s + 31) (ngA ha)).trans ((Oy11 (s + 31) (ngS (by decide)) (rgS (by decide))).trans ((Oy10 (s + 31) (ngS (j := 43) (by decide))).trans ((Oy9 (s + 31) (ngA ha)).trans ((Oy8 (s + 31) (ngS (by decide)) (rgS (by decide))).trans ((Oy7 (s + 31) (ngS (j := 38) (by decide))).trans ((Oy6 (s + 31) (ngA ha)).trans (Ey5_20)))))))))))))
  have Z32 : y18 (s + 32) = some (.inl (ev.1 0, 720, .inl (fun _ => 0))) := (Oy18 (s + 32) (ngA ha)).trans ((Oy17 (s + 32) (ngS (j := 49) (by decide))).trans ((Oy16 (s + 32) (ngA ha)).trans ((Oy15 (s + 32) (ngS (j := 48) (by decide))).trans ((Oy14 (s + 32) (ngA ha)).trans ((Oy13 (s + 32) (ngS (j := 47) (by decide))).trans ((Oy12 (s + 32) (ngA ha)).trans ((Oy11 (s + 32) (ngS (by decide)) (rgS (by decide))).trans ((Oy10 (s + 32) (ngS (j := 43) (by decide))).trans ((Oy9 (s + 32) (ngA ha)).trans ((Oy8 (s + 32) (ngS (by decide)) (rgS (by decide))).trans ((Oy7 (s + 32) (ngS (j := 38) (by decide))).trans ((Oy6 (s + 32) (ngA ha)).trans (Ey5_21)))))))))))))
  have Z33 : y18 (s + 33) = some (.inl (ev.1 5, 8, .inr (.inr (.inr (.inr (fun _ => none)))))) := (Oy18 (s + 33) (ngA ha)).trans ((Oy17 (s + 33) (ngS (j := 49) (by decide))).trans ((Oy16 (s + 33) (ngA ha)).trans ((Oy15 (s + 33) (ngS (j := 48) (by decide))).trans ((Oy14 (s + 33) (ngA ha)).trans ((Oy13 (s + 33) (ngS (j := 47) (by decide))).trans ((Oy12 (s + 33) (ngA ha)).trans ((Oy11 (s + 33) (ngS (by decide)) (rgS (by decide))).trans ((Oy10 (s + 33) (ngS (j := 43) (by decide))).trans ((Oy9 (s + 33) (ngA ha)).trans ((Oy8 (s + 33) (ngS (by decide)) (rgS (by decide))).trans ((Oy7 (s + 33) (ngS (j := 38) (by decide))).trans ((Oy6 (s + 33) (ngA ha)).trans (Ey5_22)))))))))))))
  have Z34 : y18 (s + 34) = some (.inl (ev.1 6, 8, .inr (.inr (.inr (.inr (fun _ => none)))))) := (Oy18 (s + 34) (ngA ha)).trans ((Oy17 (s + 34) (ngS (j := 49) (by decide))).trans ((Oy16 (s + 34) (ngA ha)).trans ((Oy15 (s + 34) (ngS (j := 48) (by decide))).trans ((Oy14 (s + 34) (ngA ha)).trans ((Oy13 (s + 34) (ngS (j := 47) (by decide))).trans ((Oy12 (s + 34) (ngA ha)).trans ((Oy11 (s + 34) (ngS (by decide)) (rgS (by decide))).trans ((Oy10 (s + 34) (ngS (j := 43) (by decide))).trans ((Oy9 (s + 34) (ngA ha)).trans ((Oy8 (s + 34) (ngS (by decide)) (rgS (by decide))).trans ((Oy7 (s + 34) (ngS (j := 38) (by decide))).trans ((Oy6 (s + 34) (ngA ha)).trans (Ey5_23)))))))))))))
  have Z35 : y18 (s + 35) = some (.inl (ev.1 7, 30, .inr (.inr (.inr (.inr (fun _ => none)))))) := (Oy18 (s + 35) (ngA ha)).trans ((Oy17 (s + 35) (ngS (j := 49) (by decide))).trans ((Oy16 (s + 35) (ngA ha)).trans ((Oy15 (s + 35) (ngS (j := 48) (by decide))).trans ((Oy14 (s + 35) (ngA ha)).trans ((Oy13 (s + 35) (ngS (j := 47) (by decide))).trans ((Oy12 (s + 35) (ngA ha)).trans ((Oy11 (s + 35) (ngS (by decide)) (rgS (by decide))).trans ((Oy10 (s + 35) (ngS (j := 43) (by decide))).trans ((Oy9 (s + 35) (ngA ha)).trans ((Oy8 (s + 35) (ngS (by decide)) (rgS (by decide))).trans ((Oy7 (s + 35) (ngS (j := 38) (by decide))).trans ((Oy6 (s + 35) (ngA ha)).trans (Ey5_24)))))))))))))
  have Z36 : y18 (s + 36) = some (.inl (ev.1 0, 30, .inl (fun _ => 0))) := (Oy18 (s + 36) (ngA ha)).trans ((Oy17 (s + 36) (ngS (j := 49) (by decide))).trans ((Oy16 (s + 36) (ngA ha)).trans ((Oy15 (s + 36) (ngS (j := 48) (by decide))).trans ((Oy14 (s + 36) (ngA ha)).trans ((Oy13 (s + 36) (ngS (j := 47) (by decide))).trans ((Oy12 (s + 36) (ngA ha)).trans ((Oy11 (s + 36) (ngS (by decide)) (rgS (by decide))).trans ((Oy10 (s + 36) (ngS (j := 43) (by decide))).trans ((Oy9 (s + 36) (ngA ha)).trans ((Oy8 (s + 36) (ngS (by decide)) (rgS (by decide))).trans ((Oy7 (s + 36) (ngS (j := 38) (by decide))).trans ((Oy6 (s + 36) (ngA ha)).trans (Ey5_25)))))))))))))
  have Z37 : y18 (s + 37) = some (.inl (ev.1 8, 24, .inr (.inr (.inr (.inr (fun _ => none)))))) := (Oy18 (s + 37) (ngA ha)).trans ((Oy17 (s + 37) (ngS (j := 49) (by decide))).trans ((Oy16 (s + 37) (ngA ha)).trans ((Oy15 (s + 37) (ngS (j := 48) (by decide))).trans ((Oy14 (s + 37) (ngA ha)).trans ((Oy13 (s + 37) (ngS (j := 47) (by decide))).trans ((Oy12 (s + 37) (ngA ha)).trans ((Oy11 (s + 37) (ngS (by decide)) (rgS (by decide))).trans ((Oy10 (s + 37) (ngS (j := 43) (by decide))).trans ((Oy9 (s + 37) (ngA ha)).trans ((Oy8 (s + 37) (ngS (by decide)) (rgS (by decide))).trans ((Oy7 (s + 37) (ngS (j := 38) (by decide))).trans ((Oy6 (s + 37) (ngA ha)).trans (Ey5_26)))))))))))))
  have Z38 : y18 (s + 38) = some (.inr (7, [.ref (s + 39), .ref (s + 40), .int 0, .ref (s + 41), .ref (s + 42)])) := (Oy18 (s + 38) (ngA ha)).trans ((Oy17 (s + 38) (ngS (j := 49) (by decide))).trans ((Oy16 (s + 38) (ngA ha)).trans ((Oy15 (s + 38) (ngS (j := 48) (by decide))).trans ((Oy14 (s + 38) (ngA ha)).trans ((Oy13 (s + 38) (ngS (j := 47) (by decide))).trans ((Oy12 (s + 38) (ngA ha)).trans ((Oy11 (s + 38) (ngS (by decide)) (rgS (by decide))).trans ((Oy10 (s + 38) (ngS (j := 43) (by decide))).trans ((Oy9 (s + 38) (ngA ha)).trans (Ky8))))))))))
  have Z39 : y18 (s + 39) = some (.inl (ev.1 0, 8, .inl (fun _ => 0))) := (Oy18 (s + 39) (ngA ha)).trans ((Oy17 (s + 39) (ngS (j := 49) (by decide))).trans ((Oy16 (s + 39) (ngA ha)).trans ((Oy15 (s + 39) (ngS (j := 48) (by decide))).trans ((Oy14 (s + 39) (ngA ha)).trans ((Oy13 (s + 39) (ngS (j := 47) (by decide))).trans ((Oy12 (s + 39) (ngA ha)).trans ((Oy11 (s + 39) (ngS (by decide)) (rgS (by decide))).trans ((Oy10 (s + 39) (ngS (j := 43) (by decide))).trans ((Oy9 (s + 39) (ngA ha)).trans (Ey8_0))))))))))
  have Z40 : y18 (s + 40) = some (.inl (ev.1 0, 8, .inl (fun _ => 0))) := (Oy18 (s + 40) (ngA ha)).trans ((Oy17 (s + 40) (ngS (j := 49) (by decide))).trans ((Oy16 (s + 40) (ngA ha)).trans ((Oy15 (s + 40) (ngS (j := 48) (by decide))).trans ((Oy14 (s + 40) (ngA ha)).trans ((Oy13 (s + 40) (ngS (j := 47) (by decide))).trans ((Oy12 (s + 40) (ngA ha)).trans ((Oy11 (s + 40) (ngS (by decide)) (rgS (by decide))).trans ((Oy10 (s + 40) (ngS (j := 43) (by decide))).trans ((Oy9 (s + 40) (ngA ha)).trans (Ey8_1))))))))))
  have Z41 : y18 (s + 41) = some (.inl (ev.1 1, 8, .inr (.inl (fun _ => 0)))) := (Oy18 (s + 41) (ngA ha)).trans ((Oy17 (s + 41) (ngS (j := 49) (by decide))).trans ((Oy16 (s + 41) (ngA ha)).trans ((Oy15 (s + 41) (ngS (j := 48) (by decide))).trans ((Oy14 (s + 41) (ngA ha)).trans ((Oy13 (s + 41) (ngS (j := 47) (by decide))).trans ((Oy12 (s + 41) (ngA ha)).trans ((Oy11 (s + 41) (ngS (by decide)) (rgS (by decide))).trans ((Oy10 (s + 41) (ngS (j := 43) (by decide))).trans ((Oy9 (s + 41) (ngA ha)).trans (Ey8_2))))))))))
  have Z42 : y18 (s + 42) = some (.inl (ev.1 1, 256, .inr (.inl (fun _ => 0)))) := (Oy18 (s + 42) (ngA ha)).trans ((Oy17 (s + 42) (ngS (j := 49) (by decide))).trans ((Oy16 (s + 42) (ngA ha)).trans ((Oy15 (s + 42) (ngS (j := 48) (by decide))).trans ((Oy14 (s + 42) (ngA ha)).trans ((Oy13 (s + 42) (ngS (j := 47) (by decide))).trans ((Oy12 (s + 42) (ngA ha)).trans ((Oy11 (s + 42) (ngS (by decide)) (rgS (by decide))).trans ((Oy10 (s + 42) (ngS (j := 43) (by decide))).trans ((Oy9 (s + 42) (ngA ha)).trans (Ey8_3))))))))))
  have Z43 : y18 (s + 43) = some (.inr (4, [.ref (s + 44), .int 0, .ref (s + 45), .int 0, .ref (s + 46), .int 0, .int 0, .int 0, .int 0, .int 0])) := (Oy18 (s + 43) (ngA ha)).trans ((Oy17 (s + 43) (ngS (j := 49) (by decide))).trans ((Oy16 (s + 43) (ngA ha)).trans ((Oy15 (s + 43) (ngS (j := 48) (by decide))).trans ((Oy14 (s + 43) (ngA ha)).trans ((Oy13 (s + 43) (ngS (j := 47) (by decide))).trans ((Oy12 (s + 43) (ngA ha)).trans (Ky11)))))))
  have Z44 : y18 (s + 44) = some (.inl (ev.1 0, 60, .inl (fun _ => 0))) := (Oy18 (s + 44) (ngA ha)).trans ((Oy17 (s + 44) (ngS (j := 49) (by decide))).trans ((Oy16 (s + 44) (ngA ha)).trans ((Oy15 (s + 44) (ngS (j := 48) (by decide))).trans ((Oy14 (s + 44) (ngA ha)).trans ((Oy13 (s + 44) (ngS (j := 47) (by decide))).trans ((Oy12 (s + 44) (ngA ha)).trans (Ey11_0)))))))
  have Z45 : y18 (s + 45) = some (.inl (ev.1 0, 60, .inl (fun _ => 0))) := (Oy18 (s + 45) (ngA ha)).trans ((Oy17 (s + 45) (ngS (j := 49) (by decide))).trans ((Oy16 (s + 45) (ngA ha)).trans ((Oy15 (s + 45) (ngS (j := 48) (by decide))).trans ((Oy14 (s + 45) (ngA ha)).trans ((Oy13 (s + 45) (ngS (j := 47) (by decide))).trans ((Oy12 (s + 45) (ngA ha)).trans (Ey11_1)))))))
  have Z46 : y18 (s + 46) = some (.inl (ev.1 2, 61, .inl (fun _ => 0))) := (Oy18 (s + 46) (ngA ha)).trans ((Oy17 (s + 46) (ngS (j := 49) (by decide))).trans ((Oy16 (s + 46) (ngA ha)).trans ((Oy15 (s + 46) (ngS (j := 48) (by decide))).trans ((Oy14 (s + 46) (ngA ha)).trans ((Oy13 (s + 46) (ngS (j := 47) (by decide))).trans ((Oy12 (s + 46) (ngA ha)).trans (Ey11_2)))))))
  have Z47 : y18 (s + 47) = some (.inl (ev.1 1, 41, .inr (.inl (fun _ => 0)))) := (Oy18 (s + 47) (ngA ha)).trans ((Oy17 (s + 47) (ngS (j := 49) (by decide))).trans ((Oy16 (s + 47) (ngA ha)).trans ((Oy15 (s + 47) (ngS (j := 48) (by decide))).trans ((Oy14 (s + 47) (ngA ha)).trans (A47)))))
  have Z48 : y18 (s + 48) = some (.inl (ev.1 0, 100, .inl (fun _ => 0))) := (Oy18 (s + 48) (ngA ha)).trans ((Oy17 (s + 48) (ngS (j := 49) (by decide))).trans ((Oy16 (s + 48) (ngA ha)).trans (A48)))
  have Z49 : y18 (s + 49) = some (.inl (ev.1 0, 32, .inl (fun _ => 0))) := (Oy18 (s + 49) (ngA ha)).trans (A49)
  have Z : ∀ b, b ≠ a → (b < s ∨ s + 50 ≤ b) → y18 b = hp0 b := fun b hb hb2 => (Oy18 b hb).trans ((Oy17 b (ngB (k := 49) hb2 (by decide))).trans ((Oy16 b hb).trans ((Oy15 b (ngB (k := 48) hb2 (by decide))).trans ((Oy14 b hb).trans ((Oy13 b (ngB (k := 47) hb2 (by decide))).trans ((Oy12 b hb).trans ((Oy11 b (ngB (k := 43) hb2 (by decide)) (rgB hb2 (by decide))).trans ((Oy10 b (ngB (k := 43) hb2 (by decide))).trans ((Oy9 b hb).trans ((Oy8 b (ngB (k := 38) hb2 (by decide)) (rgB hb2 (by decide))).trans ((Oy7 b (ngB (k := 38) hb2 (by decide))).trans ((Oy6 b hb).trans ((Oy5 b (ngB (k := 10) hb2 (by decide)) (rgB hb2 (by decide))).trans ((Oy4 b (ngB (k := 10) hb2 (by decide))).trans ((Oy3 b hb).trans ((Oy2 b (ngB (k := 0) hb2 (by decide)) (rgB hb2 (by decide))).trans ((Oy1 b (ngB (k := 0) hb2 (by decide))))))))))))))))))))
  exact ye_ret rfl rfl ⟨y18, rfl, Ry18, Z0, Z1, Z2, Z3, Z4, Z5, Z6, Z7, Z8, Z9, Z10, Z11, Z12, Z13, Z14, Z15, Z16, Z17, Z18, Z19, Z20, Z21, Z22, Z23, Z24, Z25, Z26, Z27, Z28, Z29, Z30, Z31, Z32, Z33, Z34, Z35, Z36, Z37, Z38, Z39, Z40, Z41, Z42, Z43, Z44, Z45, Z46, Z47, Z48, Z49, Z⟩
set_option maxRecDepth 20000 in
set_option maxHeartbeats 4000000 in
theorem rc_186 (hp0 : xH) (a s : Nat) (h0 : hp0 a = some (.inr (12, [.null, .int 0, .null, .null, .null, .null, .null, .null, .null, .int 0, .null, .null, .null, .null, .null, .int 0, .null, .null, .null, .null, .null, .int 0, .int 0, .null, .null, .null, .null, .null, .int 0, .null, .null, .null, .null, .int 0, .int 0, .int 0, .int 0, .null, .null, .null, .null, .int 0, .int 0, .null, .int 0, .null, .int 0, .int 0, .null, .null, .null, .int 0, .int 0, .int 0, .int 0, .null, .null, .int 0, .null, .int 0, .null, .null, .int 0, .int 0]))) (ha : a < s) : ∃ hp', xCalls ev xmi (xprog ev) prim (d + 1) 186 [.ref a] hp0 s (none, hp', s + 39, 7578) ∧ hp' a = some (.inr (12, [.ref (s + 0), .int 0, .ref (s + 1), .ref (s + 2), .ref (s + 3), .ref (s + 4), .ref (s + 5), .ref (s + 6), .ref (s + 7), .int 0, .ref (s + 8), .ref (s + 9), .ref (s + 10), .ref (s + 11), .ref (s + 12), .int 0, .ref (s + 13), .ref (s + 14), .ref (s + 15), .ref (s + 16), .ref (s + 17), .int 0, .int 0, .ref (s + 18), .ref (s + 19), .ref (s + 20), .ref (s + 21), .ref (s + 22), .int 0, .ref (s + 23), .ref (s + 24), .ref (s + 25), .ref (s + 26), .int 0, .int 4, .int 6, .int 1, .ref (s + 27), .ref (s + 28), .ref (s + 29), .ref (s + 30), .int 0, .int 0, .ref (s + 31), .int 0, .ref (s + 32), .int 0, .int 0, .ref (s + 33), .ref (s + 34), .null, .int 0, .int 0, .int 0, .int 0, .null, .ref (s + 35), .int 0, .ref (s + 36), .int 0, .ref (s + 37), .ref (s + 38), .int 0, .int 0])) ∧ hp' (s + 0) = some (.inl (ev.1 0, 8, .inl (fun _ => 0))) ∧ hp' (s + 1) = some (.inl (ev.1 0, 12, .inl (fun _ => 0))) ∧ hp' (s + 2) = some (.inl (ev.1 0, 12, .inl (fun _ => 0))) ∧ hp' (s + 3) = some (.inl (ev.1 0, 12, .inl (fun _ => 0))) ∧ hp' (s + 4) = some (.inl (ev.1 0, 12, .inl (fun _ => 0))) ∧ hp' (s + 5) = some (.inl (ev.1 0, 48, .inl (fun _ => 0))) ∧ hp' (s + 6) = some (.inl (ev.1 0, 48, .inl (fun _ => 0))) ∧ hp' (s + 7) = some (.inl (ev.1 0, 12, .inl (fun _ => 0))) ∧ hp' (s + 8) = some (.inl (ev.1 0, 64, .inl (fun x => if x < 64 then yFr x else 0))) ∧ hp' (s + 9) = some (.inl (ev.1 0, 60, .inl (fun _ => 0))) ∧ hp' (s + 10) = some (.inl (ev.1 0, 60, .inl (fun _ => 0))) ∧ hp' (s + 11) = some (.inl (ev.1 0, 60, .inl (fun _ => 0))) ∧ hp' (s + 12) = some (.inl (ev.1 0, 60, .inl (fun _ => 0))) ∧ hp' (s + 13) = some (.inl (ev.1 0, 8, .inl (fun _ => 0))) ∧ hp' (s + 14) = some (.inl (ev.1 0, 8, .inl (fun _ => 0))) ∧ hp' (s + 15) = some (.inl (ev.1 0, 8, .inl (fun _ => 0))) ∧ hp' (s + 16) = some (.inl (ev.1 0, 8, .inl (fun _ => 0))) ∧ hp' (s + 17) = some (.inl (ev.1 2, 8, .inl (fun _ => 0))) ∧ hp' (s + 18) = some (.inl (ev.1 0, 30, .inl (fun _ => 0))) ∧ hp' (s + 19) = some (.inl (ev.1 0, 30, .inl (fun _ => 0))) ∧ hp' (s + 20) = some (.inl (ev.1 0, 30, .inl (fun _ => 0))) ∧ hp' (s + 21) = some (.inl (ev.1 0, 30, .inl (fun _ => 0))) ∧ hp' (s + 22) = some (.inl (ev.1 0, 30, .inl (fun _ => 0))) ∧ hp' (s + 23) = some (.inl (ev.1 0, 24, .inl (fun _ => 0))) ∧ hp' (s + 24) = some (.inl (ev.1 0, 24, .inl (fun _ => 0))) ∧ hp' (s + 25) = some (.inl (ev.1 0, 24, .inl (fun _ => 0))) ∧ hp' (s + 26) = some (.inl (ev.1 0, 24, .inl (fun _ => 0))) ∧ hp' (s + 27) = some (.inl (ev.1 3, 1920, .inl (fun _ => 0))) ∧ hp' (s + 28) = some (.inl (ev.1 0, 32, .inl (fun _ => 0))) ∧ hp' (s + 29) = some (.inl (ev.1 0, 32, .inl (fun _ => 0))) ∧ hp' (s + 30) = some (.inl (ev.1 0, 32, .inl (fun _ => 0))) ∧ hp' (s + 31) = some (.inl (ev.1 3, 100, .inl (fun _ => 0))) ∧ hp' (s + 32) = some (.inl (ev.1 0, 64, .inl (fun _ => 0))) ∧ hp' (s + 33) = some (.inl (ev.1 0, 2305, .inl (fun _ => 0))) ∧ hp' (s + 34) = some (.inl (ev.1 0, 2305, .inl (fun _ => 0))) ∧ hp' (s + 35) = some (.inl (ev.1 0, 10, .inl (fun _ => 0))) ∧ hp' (s + 36) = some (.inl (ev.1 0, 8, .inl (fun _ => 0))) ∧ hp' (s + 37) = some (.inl (ev.1 0, 8, .inl (fun _ => 0))) ∧ hp' (s + 38) = some (.inl (ev.1 0, 8, .inl (fun _ => 0))) ∧ (∀ b, b ≠ a → (b < s ∨ s + 39 ≤ b) → hp' b = hp0 b) := by
  refine Exists.elim (yc_of (ev := ev) (prim := prim) (d := d + 0) (j := 186) (av := [.ref a]) (hp := hp0) (sz := s) (r := fun q => ∃ hp', q = .inl (none, hp', s + 39, 7578) ∧ hp' a = some (.inr (12, [.ref (s + 0), .int 0, .ref (s + 1), .ref (s + 2), .ref (s + 3), .ref (s + 4), .ref (s + 5), .ref (s + 6), .ref (s + 7), .int 0, .ref (s + 8), .ref (s + 9), .ref (s + 10), .ref (s + 11), .ref (s + 12), .int 0, .ref (s + 13), .ref (s + 14), .ref (s + 15), .ref (s + 16), .ref (s + 17), .int 0, .int 0, .ref (s + 18), .ref (s + 19), .ref (s + 20), .ref (s + 21), .ref (s + 22), .int 0, .ref (s + 23), .ref (s + 24), .ref (s + 25), .ref (s + 26), .int 0, .int 4, .int 6, .int 1, .ref (s + 27), .ref (s + 28), .ref (s + 29), .ref (s + 30), .int 0, .int 0, .ref (s + 31), .int 0, .ref (s + 32), .int 0, .int 0, .ref (s + 33), .ref (s + 34), .null, .int 0, .int 0, .int 0, .int 0, .null, .ref (s + 35), .int 0, .ref (s + 36), .int 0, .ref (s + 37), .ref (s + 38), .int 0, .int 0])) ∧ hp' (s + 0) = some (.inl (ev.1 0, 8, .inl (fun _ => 0))) ∧ hp' (s + 1) = some (.inl (ev.1 0, 12, .inl (fun _ => 0))) ∧ hp' (s + 2) = some (.inl (ev.1 0, 12, .inl (fun _ => 0))) ∧ hp' (s + 3) = some (.inl (ev.1 0, 12, .inl (fun _ => 0))) ∧ hp' (s + 4) = some (.inl (ev.1 0, 12, .inl (fun _ => 0))) ∧ hp' (s + 5) = some (.inl (ev.1 0, 48, .inl (fun _ => 0))) ∧ hp' (s + 6) = some (.inl (ev.1 0, 48, .inl (fun _ => 0))) ∧ hp' (s + 7) = some (.inl (ev.1 0, 12, .inl (fun _ => 0))) ∧ hp' (s + 8) = some (.inl (ev.1 0, 64, .inl (fun x => if x < 64 then yFr x else 0))) ∧ hp' (s + 9) = some (.inl (ev.1 0, 60, .inl (fun _ => 0))) ∧ hp' (s + 10) = some (.inl (ev.1 0, 60, .inl (fun _ => 0))) ∧ hp' (s + 11) = some (.inl (ev.1 0, 60, .inl (fun _ => 0))) ∧ hp' (s + 12) = some (.inl (ev.1 0, 60, .inl (fun _ => 0))) ∧ hp' (s + 13) = some (.inl (ev.1 0, 8, .inl (fun _ => 0))) ∧ hp' (s + 14) = some (.inl (ev.1 0, 8, .inl (fun _ => 0))) ∧ hp' (s + 15) = some (.inl (ev.1 0, 8, .inl (fun _ => 0))) ∧ hp' (s + 16) = some (.inl (ev.1 0, 8, .inl (fun _ => 0))) ∧ hp' (s + 17) = some (.inl (ev.1 2, 8, .inl (fun _ => 0))) ∧ hp' (s + 18) = some (.inl (ev.1 0, 30, .inl (fun _ => 0))) ∧ hp' (s + 19) = some (.inl (ev.1 0, 30, .inl (fun _ => 0))) ∧ hp' (s + 20) = some (.inl (ev.1 0, 30, .inl (fun _ => 0))) ∧ hp' (s + 21) = some (.inl (ev.1 0, 30, .inl (fun _ => 0))) ∧ hp' (s + 22) = some (.inl (ev.1 0, 30, .inl (fun _ => 0))) ∧ hp' (s + 23) = some (.inl (ev.1 0, 24, .inl (fun _ => 0))) ∧ hp' (s + 24) = some (.inl (ev.1 0, 24, .inl (fun _ => 0))) ∧ hp' (s + 25) = some (.inl (ev.1 0, 24, .inl (fun _ => 0))) ∧ hp' (s + 26) = some (.inl (ev.1 0, 24, .inl (fun _ => 0))) ∧ hp' (s + 27) = some (.inl (ev.1 3, 1920, .inl (fun _ => 0))) ∧ hp' (s + 28) = some (.inl (ev.1 0, 32, .inl (fun _ => 0))) ∧ hp' (s + 29) = some (.inl (ev.1 0, 32, .inl (fun _ => 0))) ∧ hp' (s + 30) = some (.inl (ev.1 0, 32, .inl (fun _ => 0))) ∧ hp' (s + 31) = some (.inl (ev.1 3, 100, .inl (fun _ => 0))) ∧ hp' (s + 32) = some (.inl (ev.1 0, 64, .inl (fun _ => 0))) ∧ hp' (s + 33) = some (.inl (ev.1 0, 2305, .inl (fun _ => 0))) ∧ hp' (s + 34) = some (.inl (ev.1 0, 2305, .inl (fun _ => 0))) ∧ hp' (s + 35) = some (.inl (ev.1 0, 10, .inl (fun _ => 0))) ∧ hp' (s + 36) = some (.inl (ev.1 0, 8, .inl (fun _ => 0))) ∧ hp' (s + 37) = some (.inl (ev.1 0, 8, .inl (fun _ => 0))) ∧ hp' (s + 38) = some (.inl (ev.1 0, 8, .inl (fun _ => 0))) ∧ (∀ b, b ≠ a → (b < s ∨ s + 39 ≤ b) → hp' b = hp0 b)) (pg_186 ev) mi_186 (Nat.le_of_ble_eq_true rfl) (fun s hs => by obtain ⟨_, h, _⟩ := hs; cases h) ?_) (fun q hq0 => ?_)
  rotate_left 1
  · obtain ⟨hc, hp', e, k1, k2⟩ := hq0
    rw [Sum.inl.inj e] at hc
    exact ⟨hp', hc, k1, k2⟩
  refine ye_aload rfl rfl ?_
  refine ye_p rfl rfl ?_
  refine ye_aload rfl rfl ?_
  refine ye_p rfl rfl ?_
  refine yw_grp (n := 0) (m := 8) rfl rfl rfl (by decide) (Nat.le_of_ble_eq_true rfl) rfl rfl ha h0 (fun p hp1 => absurd hp1 List.not_mem_nil) (fun b hb hb2 => rfl) (fun y1 Ry1 Cy1 By1 => ?_)
  replace Ry1 : y1 a = some (.inr (12, [.ref (s + 0), .int 0, .null, .null, .null, .null, .null, .null, .null, .int 0, .null, .null, .null, .null, .null, .int 0, .null, .null, .null, .null, .null, .int 0, .int 0, .null, .null, .null, .null, .null, .int 0, .null, .null, .null, .null, .int 0, .int 0, .int 0, .int 0, .null, .null, .null, .null, .int 0, .int 0, .null, .int 0, .null, .int 0, .int 0, .null, .null, .null, .int 0, .int 0, .int 0, .int 0, .null, .null, .int 0, .null, .int 0, .null, .null, .int 0, .int 0])) := Ry1
  show yWE _ _ _ _ (12, _, _, _, _, _) _
  refine ye_aload rfl rfl ?_
  refine ye_p rfl rfl ?_
  refine yw_grp (n := 1) (m := 12) rfl rfl rfl (by decide) (Nat.le_of_ble_eq_true rfl) rfl rfl ha Ry1 Cy1 By1 (fun y2 Ry2 Cy2 By2 => ?_)
  replace Ry2 : y2 a = some (.inr (12, [.ref (s + 0), .int 0, .ref (s + 1), .null, .null, .null, .null, .null, .null, .int 0, .null, .null, .null, .null, .null, .int 0, .null, .null, .null, .null, .null, .int 0, .int 0, .null, .null, .null, .null, .null, .int 0, .null, .null, .null, .null, .int 0, .int 0, .int 0, .int 0, .null, .null, .null, .null, .int 0, .int 0, .null, .int 0, .null, .int 0, .int 0, .null, .null, .null, .int 0, .int 0, .int 0, .int 0, .null, .null, .int 0, .null, .int 0, .null, .null, .int 0, .int 0])) := Ry2
  show yWE _ _ _ _ (20, _, _, _, _, _) _
  refine ye_aload rfl rfl ?_
  refine ye_p rfl rfl ?_
  refine yw_grp (n := 2) (m := 12) rfl rfl rfl (by decide) (Nat.le_of_ble_eq_true rfl) rfl rfl ha Ry2 Cy2 By2 (fun y3 Ry3 Cy3 By3 => ?_)
  replace Ry3 : y3 a = some (.inr (12, [.ref (s + 0), .int 0, .ref (s + 1), .ref (s + 2), .null, .null, .null, .null, .null, .int 0, .null, .null, .null, .null, .null, .int 0, .null, .null, .null, .null, .null, .int 0, .int 0, .null, .null, .null, .null, .null, .int 0, .null, .null, .null, .null, .int 0, .int 0, .int 0, .int 0, .null, .null, .null, .null, .int 0, .int 0, .null, .int 0, .null, .int 0, .int 0, .null, .null, .null, .int 0, .int 0, .int 0, .int 0, .null, .null, .int 0, .null, .int 0, .null, .null, .int 0, .int 0])) := Ry3
  show yWE _ _ _ _ (28, _, _, _, _, _) _
  refine ye_aload rfl rfl ?_
  refine ye_p rfl rfl ?_
  refine yw_grp (n := 3) (m := 12) rfl rfl rfl (by decide) (Nat.le_of_ble_eq_true rfl) rfl rfl ha Ry3 Cy3 By3 (fun y4 Ry4 Cy4 By4 => ?_)
  replace Ry4 : y4 a = some (.inr (12, [.ref (s + 0), .int 0, .ref (s + 1), .ref (s + 2), .ref (s + 3), .null, .null, .null, .null, .int 0, .null, .null, .null, .null, .null, .int 0, .null, .null, .null, .null, .null, .int 0, .int 0, .null, .null, .null, .null, .null, .int 0, .null, .null, .null, .null, .int 0, .int 0, .int 0, .int 0, .null, .null, .null, .null, .int 0, .int 0, .null, .int 0, .null, .int 0, .int 0, .null, .null, .null, .int 0, .int 0, .int 0, .int 0, .null, .null, .int 0, .null, .int 0, .null, .null, .int 0, .int 0])) := Ry4
  show yWE _ _ _ _ (36, _, _, _, _, _) _
  refine ye_aload rfl rfl ?_
  refine ye_p rfl rfl ?_
  refine yw_grp (n := 4) (m := 12) rfl rfl rfl (by decide) (Nat.le_of_ble_eq_true rfl) rfl rfl ha Ry4 Cy4 By4 (fun y5 Ry5 Cy5 By5 => ?_)
  replace Ry5 : y5 a = some (.inr (12, [.ref (s + 0), .int 0, .ref (s + 1), .ref (s + 2), .ref (s + 3), .ref (s + 4), .null, .null, .null, .int 0, .null, .null, .null, .null, .null, .int 0, .null, .null, .null, .null, .null, .int 0, .int 0, .null, .null, .null, .null, .null, .int 0, .null, .null, .null, .null, .int 0, .int 0, .int 0, .int 0, .null, .null, .null, .null, .int 0, .int 0, .null, .int 0, .null, .int 0, .int 0, .null, .null, .null, .int 0, .int 0, .int 0, .int 0, .null, .null, .int 0, .null, .int 0, .null, .null, .int 0, .int 0])) := Ry5
  show yWE _ _ _ _ (44, _, _, _, _, _) _
  refine ye_aload rfl rfl ?_
  refine ye_p rfl rfl ?_
  refine yw_grp (n := 5) (m := 48) rfl rfl rfl (by decide) (Nat.le_of_ble_eq_true rfl) rfl rfl ha Ry5 Cy5 By5 (fun y6 Ry6 Cy6 By6 => ?_)
  replace Ry6 : y6 a = some (.inr (12, [.ref (s + 0), .int 0, .ref (s + 1), .ref (s + 2), .ref (s + 3), .ref (s + 4), .ref (s + 5), .null, .null, .int 0, .null, .null, .null, .null, .null, .int 0, .null, .null, .null, .null, .null, .int 0, .int 0, .null, .null, .null, .null, .null, .int 0, .null, .null, .null, .null, .int 0, .int 0, .int 0, .int 0, .null, .null, .null, .null, .int 0, .int 0, .null, .int 0, .null, .int 0, .int 0, .null, .null, .null, .int 0, .int 0, .int 0, .int 0, .null, .null, .int 0, .null, .int 0, .null, .null, .int 0, .int 0])) := Ry6
  show yWE _ _ _ _ (52, _, _, _, _, _) _
  refine ye_aload rfl rfl ?_
  refine ye_p rfl rfl ?_
  refine yw_grp (n := 6) (m := 48) rfl rfl rfl (by decide) (Nat.le_of_ble_eq_true rfl) rfl rfl ha Ry6 Cy6 By6 (fun y7 Ry7 Cy7 By7 => ?_)
  replace Ry7 : y7 a = some (.inr (12, [.ref (s + 0), .int 0, .ref (s + 1), .ref (s + 2), .ref (s + 3), .ref (s + 4), .ref (s + 5), .ref (s + 6), .null, .int 0, .null, .null, .null, .null, .null, .int 0, .null, .null, .null, .null, .null, .int 0, .int 0, .null, .null, .null, .null, .null, .int 0, .null, .null, .null, .null, .int 0, .int 0, .int 0, .int 0, .null, .null, .null, .null, .int 0, .int 0, .null, .int 0, .null, .int 0, .int 0, .null, .null, .null, .int 0, .int 0, .int 0, .int 0, .null, .null, .int 0, .null, .int 0, .null, .null, .int 0, .int 0])) := Ry7
  show yWE _ _ _ _ (60, _, _, _, _, _) _
  refine ye_aload rfl rfl ?_
  refine ye_p rfl rfl ?_
  refine yw_grp (n := 7) (m := 12) rfl rfl rfl (by decide) (Nat.le_of_ble_eq_true rfl) rfl rfl ha Ry7 Cy7 By7 (fun y8 Ry8 Cy8 By8 => ?_)
  replace Ry8 : y8 a = some (.inr (12, [.ref (s + 0), .int 0, .ref (s + 1), .ref (s + 2), .ref (s + 3), .ref (s + 4), .ref (s + 5), .ref (s + 6), .ref (s + 7), .int 0, .null, .null, .null, .null, .null, .int 0, .null, .null, .null, .null, .null, .int 0, .int 0, .null, .null, .null, .null, .null, .int 0, .null, .null, .null, .null, .int 0, .int 0, .int 0, .int 0, .null, .null, .null, .null, .int 0, .int 0, .null, .int 0, .null, .int 0, .int 0, .null, .null, .null, .int 0, .int 0, .int 0, .int 0, .null, .null, .int 0, .null, .int 0, .null, .null, .int 0, .int 0])) := Ry8
  show yWE _ _ _ _ (68, _, _, _, _, _) _
  refine ye_aload rfl rfl ?_
  refine ye_p rfl rfl ?_
  refine yw_grp (n := 8) (m := 64) rfl rfl rfl (by decide) (Nat.le_of_ble_eq_true rfl) rfl rfl ha Ry8 Cy8 By8 (fun y9 Ry9 Cy9 By9 => ?_)
  replace Ry9 : y9 a = some (.inr (12, [.ref (s + 0), .int 0, .ref (s + 1), .ref (s + 2), .ref (s + 3), .ref (s + 4), .ref (s + 5), .ref (s + 6), .ref (s + 7), .int 0, .ref (s + 8), .null, .null, .null, .null, .int 0, .null, .null, .null, .null, .null, .int 0, .int 0, .null, .null, .null, .null, .null, .int 0, .null, .null, .null, .null, .int 0, .int 0, .int 0, .int 0, .null, .null, .null, .null, .int 0, .int 0, .null, .int 0, .null, .int 0, .int 0, .null, .null, .null, .int 0, .int 0, .int 0, .int 0, .null, .null, .int 0, .null, .int 0, .null, .null, .int 0, .int 0])) := Ry9
  show yWE _ _ _ _ (76, _, _, _, _, _) _
  refine ye_aload rfl rfl ?_
  refine ye_p rfl rfl ?_
  refine yw_grp (n := 9) (m := 60) rfl rfl rfl (by decide) (Nat.le_of_ble_eq_true rfl) rfl rfl ha Ry9 Cy9 By9 (fun y10 Ry10 Cy10 By10 => ?_)
  replace Ry10 : y10 a = some (.inr (12, [.ref (s + 0), .int 0, .ref (s + 1), .ref (s + 2), .ref (s + 3), .ref (s + 4), .ref (s + 5), .ref (s + 6), .ref (s + 7), .int 0, .ref (s + 8), .ref (s + 9), .null, .null, .null, .int 0, .null, .null, .null, .null, .null, .int 0, .int 0, .null, .null, .null, .null, .null, .int 0, .null, .null, .null, .null, .int 0, .int 0, .int 0, .int 0, .null, .null, .null, .null, .int 0, .int 0, .null, .int 0, .null, .int 0, .int 0, .null, .null, .null, .int 0, .int 0, .int 0, .int 0, .null, .null, .int 0, .null, .int 0, .null, .null, .int 0, .int 0])) := Ry10
  show yWE _ _ _ _ (84, _, _, _, _, _) _
  refine ye_aload rfl rfl ?_
  refine ye_p rfl rfl ?_
  refine yw_grp (n := 10) (m := 60) rfl rfl rfl (by decide) (Nat.le_of_ble_eq_true rfl) rfl rfl ha Ry10 Cy10 By10 (fun y11 Ry11 Cy11 By11 => ?_)
  replace Ry11 : y11 a = some (.inr (12, [.ref (s + 0), .int 0, .ref (s + 1), .ref (s + 2), .ref (s + 3), .ref (s + 4), .ref (s + 5), .ref (s + 6), .ref (s + 7), .int 0, .ref (s + 8), .ref (s + 9), .ref (s + 10), .null, .null, .int 0, .null, .null, .null, .null, .null, .int 0, .int 0, .null, .null, .null, .null, .null, .int 0, .null, .null, .null, .null, .int 0, .int 0, .int 0, .int 0, .null, .null, .null, .null, .int 0, .int 0, .null, .int 0, .null, .int 0, .int 0, .null, .null, .null, .int 0, .int 0, .int 0, .int 0, .null, .null, .int 0, .null, .int 0, .null, .null, .int 0, .int 0])) := Ry11
  show yWE _ _ _ _ (92, _, _, _, _, _) _
  refine ye_aload rfl rfl ?_
  refine ye_p rfl rfl ?_
  refine yw_grp (n := 11) (m := 60) rfl rfl rfl (by decide) (Nat.le_of_ble_eq_true rfl) rfl rfl ha Ry11 Cy11 By11 (fun y12 Ry12 Cy12 By12 => ?_)
  replace Ry12 : y12 a = some (.inr (12, [.ref (s + 0), .int 0, .ref (s + 1), .ref (s + 2), .ref (s + 3), .ref (s + 4), .ref (s + 5), .ref (s + 6), .ref (s + 7), .int 0, .ref (s + 8), .ref (s + 9), .ref (s + 10), .ref (s + 11), .null, .int 0, .null, .null, .null, .null, .null, .int 0, .int 0, .null, .null, .null, .null, .null, .int 0, .null, .null, .null, .null, .int 0, .int 0, .int 0, .int 0, .null, .null, .null, .null, .int 0, .int 0, .null, .int 0, .null, .int 0, .int 0, .null, .null, .null, .int 0, .int 0, .int 0, .int 0, .null, .null, .int 0, .null, .int 0, .null, .null, .int 0, .int 0])) := Ry12
  show yWE _ _ _ _ (100, _, _, _, _, _) _
  refine ye_aload rfl rfl ?_
  refine ye_p rfl rfl ?_
  refine yw_grp (n := 12) (m := 60) rfl rfl rfl (by decide) (Nat.le_of_ble_eq_true rfl) rfl rfl ha Ry12 Cy12 By12 (fun y13 Ry13 Cy13 By13 => ?_)
  replace Ry13 : y13 a = some (.inr (12, [.ref (s + 0), .int 0, .ref (s + 1), .ref (s + 2), .ref (s + 3), .ref (s + 4), .ref (s + 5), .ref (s + 6), .ref (s + 7), .int 0, .ref (s + 8), .ref (s + 9), .ref (s + 10), .ref (s + 11), .ref (s + 12), .int 0, .null, .null, .null, .null, .null, .int 0, .int 0, .null, .null, .null, .null, .null, .int 0, .null, .null, .null, .null, .int 0, .int 0, .int 0, .int 0, .null, .null, .null, .null, .int 0, .int 0, .null, .int 0, .null, .int 0, .int 0, .null, .null, .null, .int 0, .int 0, .int 0, .int 0, .null, .null, .int 0, .null, .int 0, .null, .null, .int 0, .int 0])) := Ry13
  show yWE _ _ _ _ (108, _, _, _, _, _) _
  refine ye_aload rfl rfl ?_
  refine ye_p rfl rfl ?_
  refine yw_grp (n := 13) (m := 8) rfl rfl rfl (by decide) (Nat.le_of_ble_eq_true rfl) rfl rfl ha Ry13 Cy13 By13 (fun y14 Ry14 Cy14 By14 => ?_)
  replace Ry14 : y14 a = some (.inr (12, [.ref (s + 0), .int 0, .ref (s + 1), .ref (s + 2), .ref (s + 3), .ref (s + 4), .ref (s + 5), .ref (s + 6), .ref (s + 7), .int 0, .ref (s + 8), .ref (s + 9), .ref (s + 10), .ref (s + 11), .ref (s + 12), .int 0, .ref (s + 13), .null, .null, .null, .null, .int 0, .int 0, .null, .null, .null, .null, .null, .int 0, .null, .null, .null, .null, .int 0, .int 0, .int 0, .int 0, .null, .null, .null, .null, .int 0, .int 0, .null, .int 0, .null, .int 0, .int 0, .null, .null, .null, .int 0, .int 0, .int 0, .int 0, .null, .null, .int 0, .null, .int 0, .null, .null, .int 0, .int 0])) := Ry14
  show yWE _ _ _ _ (116, _, _, _, _, _) _
  refine ye_aload rfl rfl ?_
  refine ye_p rfl rfl ?_
  refine yw_grp (n := 14) (m := 8) rfl rfl rfl (by decide) (Nat.le_of_ble_eq_true rfl) rfl rfl ha Ry14 Cy14 By14 (fun y15 Ry15 Cy15 By15 => ?_)
  replace Ry15 : y15 a = some (.inr (12, [.ref (s + 0), .int 0, .ref (s + 1), .ref (s + 2), .ref (s + 3), .ref (s + 4), .ref (s + 5), .ref (s + 6), .ref (s + 7), .int 0, .ref (s + 8), .ref (s + 9), .ref (s + 10), .ref (s + 11), .ref (s + 12), .int 0, .ref (s + 13), .ref (s + 14), .null, .null, .null, .int 0, .int 0, .null, .null, .null, .null, .null, .int 0, .null, .null, .null, .null, .int 0, .int 0, .int 0, .int 0, .null, .null, .null, .null, .int 0, .int 0, .null, .int 0, .null, .int 0, .int 0, .null, .null, .null, .int 0, .int 0, .int 0, .int 0, .null, .null, .int 0, .null, .int 0, .null, .null, .int 0, .int 0])) := Ry15
  show yWE _ _ _ _ (124, _, _, _, _, _) _
  refine ye_aload rfl rfl ?_
  refine ye_p rfl rfl ?_
  refine yw_grp (n := 15) (m := 8) rfl rfl rfl (by decide) (Nat.le_of_ble_eq_true rfl) rfl rfl ha Ry15 Cy15 By15 (fun y16 Ry16 Cy16 By16 => ?_)
  replace Ry16 : y16 a = some (.inr (12, [.ref (s + 0), .int 0, .ref (s + 1), .ref (s + 2), .ref (s + 3), .ref (s + 4), .ref (s + 5), .ref (s + 6), .ref (s + 7), .int 0, .ref (s + 8), .ref (s + 9), .ref (s + 10), .ref (s + 11), .ref (s + 12), .int 0, .ref (s + 13), .ref (s + 14), .ref (s + 15), .null, .null, .int 0, .int 0, .null, .null, .null, .null, .null, .int 0, .null, .null, .null, .null, .int 0, .int 0, .int 0, .int 0, .null, .null, .null, .null, .int 0, .int 0, .null, .int 0, .null, .int 0, .int 0, .null, .null, .null, .int 0, .int 0, .int 0, .int 0, .null, .null, .int 0, .null, .int 0, .null, .null, .int 0, .int 0])) := Ry16
  show yWE _ _ _ _ (132, _, _, _, _, _) _
  refine ye_aload rfl rfl ?_
  refine ye_p rfl rfl ?_
  refine yw_grp (n := 16) (m := 8) rfl rfl rfl (by decide) (Nat.le_of_ble_eq_true rfl) rfl rfl ha Ry16 Cy16 By16 (fun y17 Ry17 Cy17 By17 => ?_)
  replace Ry17 : y17 a = some (.inr (12, [.ref (s + 0), .int 0, .ref (s + 1), .ref (s + 2), .ref (s + 3), .ref (s + 4), .ref (s + 5), .ref (s + 6), .ref (s + 7), .int 0, .ref (s + 8), .ref (s + 9), .ref (s + 10), .ref (s + 11), .ref (s + 12), .int 0, .ref (s + 13), .ref (s + 14), .ref (s + 15), .ref (s + 16), .null, .int 0, .int 0, .null, .null, .null, .null, .null, .int 0, .null, .null, .null, .null, .int 0, .int 0, .int 0, .int 0, .null, .null, .null, .null, .int 0, .int 0, .null, .int 0, .null, .int 0, .int 0, .null, .null, .null, .int 0, .int 0, .int 0, .int 0, .null, .null, .int 0, .null, .int 0, .null, .null, .int 0, .int 0])) := Ry17
  show yWE _ _ _ _ (140, _, _, _, _, _) _
  refine ye_aload rfl rfl ?_
  refine ye_p rfl rfl ?_
  refine yw_grp (n := 17) (m := 8) rfl rfl rfl (by decide) (Nat.le_of_ble_eq_true rfl) rfl rfl ha Ry17 Cy17 By17 (fun y18 Ry18 Cy18 By18 => ?_)
  replace Ry18 : y18 a = some (.inr (12, [.ref (s + 0), .int 0, .ref (s + 1), .ref (s + 2), .ref (s + 3), .ref (s + 4), .ref (s + 5), .ref (s + 6), .ref (s + 7), .int 0, .ref (s + 8), .ref (s + 9), .ref (s + 10), .ref (s + 11), .ref (s + 12), .int 0, .ref (s + 13), .ref (s + 14), .ref (s + 15), .ref (s + 16), .ref (s + 17), .int 0, .int 0, .null, .null, .null, .null, .null, .int 0, .null, .null, .null, .null, .int 0, .int 0, .int 0, .int 0, .null, .null, .null, .null, .int 0, .int 0, .null, .int 0, .null, .int 0, .int 0, .null, .null, .null, .int 0, .int 0, .int 0, .int 0, .null, .null, .int 0, .null, .int 0, .null, .null, .int 0, .int 0])) := Ry18
  show yWE _ _ _ _ (148, _, _, _, _, _) _
  refine ye_aload rfl rfl ?_
  refine ye_p rfl rfl ?_
  refine yw_grp (n := 18) (m := 30) rfl rfl rfl (by decide) (Nat.le_of_ble_eq_true rfl) rfl rfl ha Ry18 Cy18 By18 (fun y19 Ry19 Cy19 By19 => ?_)
  replace Ry19 : y19 a = some (.inr (12, [.ref (s + 0), .int 0, .ref (s + 1), .ref (s + 2), .ref (s + 3), .ref (s + 4), .ref (s + 5), .ref (s + 6), .ref (s + 7), .int 0, .ref (s + 8), .ref (s + 9), .ref (s + 10), .ref (s + 11), .ref (s + 12), .int 0, .ref (s + 13), .ref (s + 14), .ref (s + 15), .ref (s + 16), .ref (s + 17), .int 0, .int 0, .ref (s + 18), .null, .null, .null, .null, .int 0, .null, .null, .null, .null, .int 0, .int 0, .int 0, .int 0, .null, .null, .null, .null, .int 0, .int 0, .null, .int 0, .null, .int 0, .int 0, .null, .null, .null, .int 0, .int 0, .int 0, .int 0, .null, .null, .int 0, .null, .int 0, .null, .null, .int 0, .int 0])) := Ry19
  show yWE _ _ _ _ (156, _, _, _, _, _) _
  refine ye_aload rfl rfl ?_
  refine ye_p rfl rfl ?_
  refine yw_grp (n := 19) (m := 30) rfl rfl rfl (by decide) (Nat.le_of_ble_eq_true rfl) rfl rfl ha Ry19 Cy19 By19 (fun y20 Ry20 Cy20 By20 => ?_)
  replace Ry20 : y20 a = some (.inr (12, [.ref (s + 0), .int 0, .ref (s + 1), .ref (s + 2), .ref (s + 3), .ref (s + 4), .ref (s + 5), .ref (s + 6), .ref (s + 7), .int 0, .ref (s + 8), .ref (s + 9), .ref (s + 10), .ref (s + 11), .ref (s + 12), .int 0, .ref (s + 13), .ref (s + 14), .ref (s + 15), .ref (s + 16), .ref (s + 17), .int 0, .int 0, .ref (s + 18), .ref (s + 19), .null, .null, .null, .int 0, .null, .null, .null, .null, .int 0, .int 0, .int 0, .int 0, .null, .null, .null, .null, .int 0, .int 0, .null, .int 0, .null, .int 0, .int 0, .null, .null, .null, .int 0, .int 0, .int 0, .int 0, .null, .null, .int 0, .null, .int 0, .null, .null, .int 0, .int 0])) := Ry20
  show yWE _ _ _ _ (164, _, _, _, _, _) _
  refine ye_aload rfl rfl ?_
  refine ye_p rfl rfl ?_
  refine yw_grp (n := 20) (m := 30) rfl rfl rfl (by decide) (Nat.le_of_ble_eq_true rfl) rfl rfl ha Ry20 Cy20 By20 (fun y21 Ry21 Cy21 By21 => ?_)
  replace Ry21 : y21 a = some (.inr (12, [.ref (s + 0), .int 0, .ref (s + 1), .ref (s + 2), .ref (s + 3), .ref (s + 4), .ref (s + 5), .ref (s + 6), .ref (s + 7), .int 0, .ref (s + 8), .ref (s + 9), .ref (s + 10), .ref (s + 11), .ref (s + 12), .int 0, .ref (s + 13), .ref (s + 14), .ref (s + 15), .ref (s + 16), .ref (s + 17), .int 0, .int 0, .ref (s + 18), .ref (s + 19), .ref (s + 20), .null, .null, .int 0, .null, .null, .null, .null, .int 0, .int 0, .int 0, .int 0, .null, .null, .null, .null, .int 0, .int 0, .null, .int 0, .null, .int 0, .int 0, .null, .null, .null, .int 0, .int 0, .int 0, .int 0, .null, .null, .int 0, .null, .int 0, .null, .null, .int 0, .int 0])) := Ry21
  show yWE _ _ _ _ (172, _, _, _, _, _) _
  refine ye_aload rfl rfl ?_
  refine ye_p rfl rfl ?_
  refine yw_grp (n := 21) (m := 30) rfl rfl rfl (by decide) (Nat.le_of_ble_eq_true rfl) rfl rfl ha Ry21 Cy21 By21 (fun y22 Ry22 Cy22 By22 => ?_)
  replace Ry22 : y22 a = some (.inr (12, [.ref (s + 0), .int 0, .ref (s + 1), .ref (s + 2), .ref (s + 3), .ref (s + 4), .ref (s + 5), .ref (s + 6), .ref (s + 7), .int 0, .ref (s + 8), .ref (s + 9), .ref (s + 10), .ref (s + 11), .ref (s + 12), .int 0, .ref (s + 13), .ref (s + 14), .ref (s + 15), .ref (s + 16), .ref (s + 17), .int 0, .int 0, .ref (s + 18), .ref (s + 19), .ref (s + 20), .ref (s + 21), .null, .int 0, .null, .null, .null, .null, .int 0, .int 0, .int 0, .int 0, .null, .null, .null, .null, .int 0, .int 0, .null, .int 0, .null, .int 0, .int 0, .null, .null, .null, .int 0, .int 0, .int 0, .int 0, .null, .null, .int 0, .null, .int 0, .null, .null, .int 0, .int 0])) := Ry22
  show yWE _ _ _ _ (180, _, _, _, _, _) _
  refine ye_aload rfl rfl ?_
  refine ye_p rfl rfl ?_
  refine yw_grp (n := 22) (m := 30) rfl rfl rfl (by decide) (Nat.le_of_ble_eq_true rfl) rfl rfl ha Ry22 Cy22 By22 (fun y23 Ry23 Cy23 By23 => ?_)
  replace Ry23 : y23 a = some (.inr (12, [.ref (s + 0), .int 0, .ref (s + 1), .ref (s + 2), .ref (s + 3), .ref (s + 4), .ref (s + 5), .ref (s + 6), .ref (s + 7), .int 0, .ref (s + 8), .ref (s + 9), .ref (s + 10), .ref (s + 11), .ref (s + 12), .int 0, .ref (s + 13), .ref (s + 14), .ref (s + 15), .ref (s + 16), .ref (s + 17), .int 0, .int 0, .ref (s + 18), .ref (s + 19), .ref (s + 20), .ref (s + 21), .ref (s + 22), .int 0, .null, .null, .null, .null, .int 0, .int 0, .int 0, .int 0, .null, .null, .null, .null, .int 0, .int 0, .null, .int 0, .null, .int 0, .int 0, .null, .null, .null, .int 0, .int 0, .int 0, .int 0, .null, .null, .int 0, .null, .int 0, .null, .null, .int 0, .int 0])) := Ry23
  show yWE _ _ _ _ (188, _, _, _, _, _) _
  refine ye_aload rfl rfl ?_
  refine ye_p rfl rfl ?_
  refine yw_grp (n := 23) (m := 24) rfl rfl rfl (by decide) (Nat.le_of_ble_eq_true rfl) rfl rfl ha Ry23 Cy23 By23 (fun y24 Ry24 Cy24 By24 => ?_)
  replace Ry24 : y24 a = some (.inr (12, [.ref (s + 0), .int 0, .ref (s + 1), .ref (s + 2), .ref (s + 3), .ref (s + 4), .ref (s + 5), .ref (s + 6), .ref (s + 7), .int 0, .ref (s + 8), .ref (s + 9), .ref (s + 10), .ref (s + 11), .ref (s + 12), .int 0, .ref (s + 13), .ref (s + 14), .ref (s + 15), .ref (s + 16), .ref (s + 17), .int 0, .int 0, .ref (s + 18), .ref (s + 19), .ref (s + 20), .ref (s + 21), .ref (s + 22), .int 0, .ref (s + 23), .null, .null, .null, .int 0, .int 0, .int 0, .int 0, .null, .null, .null, .null, .int 0, .int 0, .null, .int 0, .null, .int 0, .int 0, .null, .null, .null, .int 0, .int 0, .int 0, .int 0, .null, .null, .int 0, .null, .int 0, .null, .null, .int 0, .int 0])) := Ry24
  show yWE _ _ _ _ (196, _, _, _, _, _) _
  refine ye_aload rfl rfl ?_
  refine ye_p rfl rfl ?_
  refine yw_grp (n := 24) (m := 24) rfl rfl rfl (by decide) (Nat.le_of_ble_eq_true rfl) rfl rfl ha Ry24 Cy24 By24 (fun y25 Ry25 Cy25 By25 => ?_)
  replace Ry25 : y25 a = some (.inr (12, [.ref (s + 0), .int 0, .ref (s + 1), .ref (s + 2), .ref (s + 3), .ref (s + 4), .ref (s + 5), .ref (s + 6), .ref (s + 7), .int 0, .ref (s + 8), .ref (s + 9), .ref (s + 10), .ref (s + 11), .ref (s + 12), .int 0, .ref (s + 13), .ref (s + 14), .ref (s + 15), .ref (s + 16), .ref (s + 17), .int 0, .int 0, .ref (s + 18), .ref (s + 19), .ref (s + 20), .ref (s + 21), .ref (s + 22), .int 0, .ref (s + 23), .ref (s + 24), .null, .null, .int 0, .int 0, .int 0, .int 0, .null, .null, .null, .null, .int 0, .int 0, .null, .int 0, .null, .int 0, .int 0, .null, .null, .null, .int 0, .int 0, .int 0, .int 0, .null, .null, .int 0, .null, .int 0, .null, .null, .int 0, .int 0])) := Ry25
  show yWE _ _ _ _ (204, _, _, _, _, _) _
  refine ye_aload rfl rfl ?_
  refine ye_p rfl rfl ?_
  refine yw_grp (n := 25) (m := 24) rfl rfl rfl (by decide) (Nat.le_of_ble_eq_true rfl) rfl rfl ha Ry25 Cy25 By25 (fun y26 Ry26 Cy26 By26 => ?_)
  replace Ry26 : y26 a = some (.inr (12, [.ref (s + 0), .int 0, .ref (s + 1), .ref (s + 2), .ref (s + 3), .ref (s + 4), .ref (s + 5), .ref (s + 6), .ref (s + 7), .int 0, .ref (s + 8), .ref (s + 9), .ref (s + 10), .ref (s + 11), .ref (s + 12), .int 0, .ref (s + 13), .ref (s + 14), .ref (s + 15), .ref (s + 16), .ref (s + 17), .int 0, .int 0, .ref (s + 18), .ref (s + 19), .ref (s + 20), .ref (s + 21), .ref (s + 22), .int 0, .ref (s + 23), .ref (s + 24), .ref (s + 25), .null, .int 0, .int 0, .int 0, .int 0, .null, .null, .null, .null, .int 0, .int 0, .null, .int 0, .null, .int 0, .int 0, .null, .null, .null, .int 0, .int 0, .int 0, .int 0, .null, .null, .int 0, .null, .int 0, .null, .null, .int 0, .int 0])) := Ry26
  show yWE _ _ _ _ (212, _, _, _, _, _) _
  refine ye_aload rfl rfl ?_
  refine ye_p rfl rfl ?_
  refine yw_grp (n := 26) (m := 24) rfl rfl rfl (by decide) (Nat.le_of_ble_eq_true rfl) rfl rfl ha Ry26 Cy26 By26 (fun y27 Ry27 Cy27 By27 => ?_)
  replace Ry27 : y27 a = some (.inr (12, [.ref (s + 0), .int 0, .ref (s + 1), .ref (s + 2), .ref (s + 3), .ref (s + 4), .ref (s + 5), .ref (s + 6), .ref (s + 7), .int 0, .ref (s + 8), .ref (s + 9), .ref (s + 10), .ref (s + 11), .ref (s + 12), .int 0, .ref (s + 13), .ref (s + 14), .ref (s + 15), .ref (s + 16), .ref (s + 17), .int 0, .int 0, .ref (s + 18), .ref (s + 19), .ref (s + 20), .ref (s + 21), .ref (s + 22), .int 0, .ref (s + 23), .ref (s + 24), .ref (s + 25), .ref (s + 26), .int 0, .int 0, .int 0, .int 0, .null, .null, .null, .null, .int 0, .int 0, .null, .int 0, .null, .int 0, .int 0, .null, .null, .null, .int 0, .int 0, .int 0, .int 0, .null, .null, .int 0, .null, .int 0, .null, .null, .int 0, .int 0])) := Ry27
  show yWE _ _ _ _ (220, _, _, _, _, _) _
  refine ye_aload rfl rfl ?_
  refine ye_p rfl rfl ?_
  refine yw_grpI (n := 27) rfl (Nat.le_of_ble_eq_true rfl) ha Ry27 Cy27 By27 (fun y28 Ry28 Cy28 By28 => ?_)
  replace Ry28 : y28 a = some (.inr (12, [.ref (s + 0), .int 0, .ref (s + 1), .ref (s + 2), .ref (s + 3), .ref (s + 4), .ref (s + 5), .ref (s + 6), .ref (s + 7), .int 0, .ref (s + 8), .ref (s + 9), .ref (s + 10), .ref (s + 11), .ref (s + 12), .int 0, .ref (s + 13), .ref (s + 14), .ref (s + 15), .ref (s + 16), .ref (s + 17), .int 0, .int 0, .ref (s + 18), .ref (s + 19), .ref (s + 20), .ref (s + 21), .ref (s + 22), .int 0, .ref (s + 23), .ref (s + 24), .ref (s + 25), .ref (s + 26), .int 0, .int 4, .int 0, .int 0, .null, .null, .null, .null, .int 0, .int 0, .null, .int 0, .null, .int 0, .int 0, .null, .null, .null, .int 0, .int 0, .int 0, .int 0, .null, .null, .int 0, .null, .int 0, .null, .null, .int 0, .int 0])) := Ry28
  show yWE _ _ _ _ (225, _, _, _, _, _) _
  refine ye_aload rfl rfl ?_
  refine ye_p rfl rfl ?_
  refine yw_grpI (n := 27) rfl (Nat.le_of_ble_eq_true rfl) ha Ry28 Cy28 By28 (fun y29 Ry29 Cy29 By29 => ?_)
  replace Ry29 : y29 a = some (.inr (12, [.ref (s + 0), .int 0, .ref (s + 1), .ref (s + 2), .ref (s + 3), .ref (s + 4), .ref (s + 5), .ref (s + 6), .ref (s + 7), .int 0, .ref (s + 8), .ref (s + 9), .ref (s + 10), .ref (s + 11), .ref (s + 12), .int 0, .ref (s + 13), .ref (s + 14), .ref (s + 15), .ref (s + 16), .ref (s + 17), .int 0, .int 0, .ref (s + 18), .ref (s + 19), .ref (s + 20), .ref (s + 21), .ref (s + 22), .int 0, .ref (s + 23), .ref (s + 24), .ref (s + 25), .ref (s + 26), .int 0, .int 4, .int 6, .int 0, .null, .null, .null, .null, .int 0, .int 0, .null, .int 0, .null, .int 0, .int 0, .null, .null, .null, .int 0, .int 0, .int 0, .int 0, .null, .null, .int 0, .null, .int 0, .null, .null, .int 0, .int 0])) := Ry29
  show yWE _ _ _ _ (231, _, _, _, _, _) _
  refine ye_aload rfl rfl ?_
  refine ye_p rfl rfl ?_
  refine yw_grpI (n := 27) rfl (Nat.le_of_ble_eq_true rfl) ha Ry29 Cy29 By29 (fun y30 Ry30 Cy30 By30 => ?_)
  replace Ry30 : y30 a = some (.inr (12, [.ref (s + 0), .int 0, .ref (s + 1), .ref (s + 2), .ref (s + 3), .ref (s + 4), .ref (s + 5), .ref (s + 6), .ref (s + 7), .int 0, .ref (s + 8), .ref (s + 9), .ref (s + 10), .ref (s + 11), .ref (s + 12), .int 0, .ref (s + 13), .ref (s + 14), .ref (s + 15), .ref (s + 16), .ref (s + 17), .int 0, .int 0, .ref (s + 18), .ref (s + 19), .ref (s + 20), .ref (s + 21), .ref (s + 22), .int 0, .ref (s + 23), .ref (s + 24), .ref (s + 25), .ref (s + 26), .int 0, .int 4, .int 6, .int 1, .null, .null, .null, .null, .int 0, .int 0, .null, .int 0, .null, .int 0, .int 0, .null, .null, .null, .int 0, .int 0, .int 0, .int 0, .null, .null, .int 0, .null, .int 0, .null, .null, .int 0, .int 0])) := Ry30
  show yWE _ _ _ _ (236, _, _, _, _, _) _
  refine ye_aload rfl rfl ?_
  refine ye_p rfl rfl ?_
  refine yw_grp (n := 27) (m := 1920) rfl rfl rfl (by decide) (Nat.le_of_ble_eq_true rfl) rfl rfl ha Ry30 Cy30 By30 (fun y31 Ry31 Cy31 By31 => ?_)
  replace Ry31 : y31 a = some (.inr (12, [.ref (s + 0), .int 0, .ref (s + 1), .ref (s + 2), .ref (s + 3), .ref (s + 4), .ref (s + 5), .ref (s + 6), .ref (s + 7), .int 0, .ref (s + 8), .ref (s + 9), .ref (s + 10), .ref (s + 11), .ref (s + 12), .int 0, .ref (s + 13), .ref (s + 14), .ref (s + 15), .ref (s + 16), .ref (s + 17), .int 0, .int 0, .ref (s + 18), .ref (s + 19), .ref (s + 20), .ref (s + 21), .ref (s + 22), .int 0, .ref (s + 23), .ref (s + 24), .ref (s + 25), .ref (s + 26), .int 0, .int 4, .int 6, .int 1, .ref (s + 27), .null, .null, .null, .int 0, .int 0, .null, .int 0, .null, .int 0, .int 0, .null, .null, .null, .int 0, .int 0, .int 0, .int 0, .null, .null, .int 0, .null, .int 0, .null, .null, .int 0, .int 0])) := Ry31
  show yWE _ _ _ _ (245, _, _, _, _, _) _
  refine ye_aload rfl rfl ?_
  refine ye_p rfl rfl ?_
  refine yw_grp (n := 28) (m := 32) rfl rfl rfl (by decide) (Nat.le_of_ble_eq_true rfl) rfl rfl ha Ry31 Cy31 By31 (fun y32 Ry32 Cy32 By32 => ?_)
  replace Ry32 : y32 a = some (.inr (12, [.ref (s + 0), .int 0, .ref (s + 1), .ref (s + 2), .ref (s + 3), .ref (s + 4), .ref (s + 5), .ref (s + 6), .ref (s + 7), .int 0, .ref (s + 8), .ref (s + 9), .ref (s + 10), .ref (s + 11), .ref (s + 12), .int 0, .ref (s + 13), .ref (s + 14), .ref (s + 15), .ref (s + 16), .ref (s + 17), .int 0, .int 0, .ref (s + 18), .ref (s + 19), .ref (s + 20), .ref (s + 21), .ref (s + 22), .int 0, .ref (s + 23), .ref (s + 24), .ref (s + 25), .ref (s + 26), .int 0, .int 4, .int 6, .int 1, .ref (s + 27), .ref (s + 28), .null, .null, .int 0, .int 0, .null, .int 0, .null, .int 0, .int 0, .null, .null, .null, .int 0, .int 0, .int 0, .int 0, .null, .null, .int 0, .null, .int 0, .null, .null, .int 0, .int 0])) := Ry32
  show yWE _ _ _ _ (253, _, _, _, _, _) _
  refine ye_aload rfl rfl ?_
  refine ye_p rfl rfl ?_
  refine yw_grp (n := 29) (m := 32) rfl rfl rfl (by decide) (Nat.le_of_ble_eq_true rfl) rfl rfl ha Ry32 Cy32 By32 (fun y33 Ry33 Cy33 By33 => ?_)
  replace Ry33 : y33 a = some (.inr (12, [.ref (s + 0), .int 0, .ref (s + 1), .ref (s + 2), .ref (s + 3), .ref (s + 4), .ref (s + 5), .ref (s + 6), .ref (s + 7), .int 0, .ref (s + 8), .ref (s + 9), .ref (s + 10), .ref (s + 11), .ref (s + 12), .int 0, .ref (s + 13), .ref (s + 14), .ref (s + 15), .ref (s + 16), .ref (s + 17), .int 0, .int 0, .ref (s + 18), .ref (s + 19), .ref (s + 20), .ref (s + 21), .ref (s + 22), .int 0, .ref (s + 23), .ref (s + 24), .ref (s + 25), .ref (s + 26), .int 0, .int 4, .int 6, .int 1, .ref (s + 27), .ref (s + 28), .ref (s + 29), .null, .int 0, .int 0, .null, .int 0, .null, .int 0, .int 0, .null, .null, .null, .int 0, .int 0, .int 0, .int 0, .null, .null, .int 0, .null, .int 0, .null, .null, .int 0, .int 0])) := Ry33
  show yWE _ _ _ _ (261, _, _, _, _, _) _
  refine ye_aload rfl rfl ?_
  refine ye_p rfl rfl ?_
  refine yw_grp (n := 30) (m := 32) rfl rfl rfl (by decide) (Nat.le_of_ble_eq_true rfl) rfl rfl ha Ry33 Cy33 By33 (fun y34 Ry34 Cy34 By34 => ?_)
  replace Ry34 : y34 a = some (.inr (12, [.ref (s + 0), .int 0, .ref (s + 1), .ref (s + 2), .ref (s + 3), .ref (s + 4), .ref (s + 5), .ref (s + 6), .ref (s + 7), .int 0, .ref (s + 8), .ref (s + 9), .ref (s + 10), .ref (s + 11), .ref (s + 12), .int 0, .ref (s + 13), .ref (s + 14), .ref (s + 15), .ref (s + 16), .ref (s + 17), .int 0, .int 0, .ref (s + 18), .ref (s + 19), .ref (s + 20), .ref (s + 21), .ref (s + 22), .int 0, .ref (s + 23), .ref (s + 24), .ref (s + 25), .ref (s + 26), .int 0, .int 4, .int 6, .int 1, .ref (s + 27), .ref (s + 28), .ref (s + 29), .ref (s + 30), .int 0, .int 0, .null, .int 0, .null, .int 0, .int 0, .null, .null, .null, .int 0, .int 0, .int 0, .int 0, .null, .null, .int 0, .null, .int 0, .null, .null, .int 0, .int 0])) := Ry34
  show yWE _ _ _ _ (269, _, _, _, _, _) _
  refine ye_aload rfl rfl ?_
  refine ye_p rfl rfl ?_
  refine yw_grp (n := 31) (m := 100) rfl rfl rfl (by decide) (Nat.le_of_ble_eq_true rfl) rfl rfl ha Ry34 Cy34 By34 (fun y35 Ry35 Cy35 By35 => ?_)
  replace Ry35 : y35 a = some (.inr (12, [.ref (s + 0), .int 0, .ref (s + 1), .ref (s + 2), .ref (s + 3), .ref (s + 4), .ref (s + 5), .ref (s + 6), .ref (s + 7), .int 0, .ref (s + 8), .ref (s + 9), .ref (s + 10), .ref (s + 11), .ref (s + 12), .int 0, .ref (s + 13), .ref (s + 14), .ref (s + 15), .ref (s + 16), .ref (s + 17), .int 0, .int 0, .ref (s + 18), .ref (s + 19), .ref (s + 20), .ref (s + 21), .ref (s + 22), .int 0, .ref (s + 23), .ref (s + 24), .ref (s + 25), .ref (s + 26), .int 0, .int 4, .int 6, .int 1, .ref (s + 27), .ref (s + 28), .ref (s + 29), .ref (s + 30), .int 0, .int 0, .ref (s + 31), .int 0, .null, .int 0, .int 0, .null, .null, .null, .int 0, .int 0, .int 0, .int 0, .null, .null, .int 0, .null, .int 0, .null, .null, .int 0, .int 0])) := Ry35
  show yWE _ _ _ _ (277, _, _, _, _, _) _
  refine ye_aload rfl rfl ?_
  refine ye_p rfl rfl ?_
  refine yw_grp (n := 32) (m := 64) rfl rfl rfl (by decide) (Nat.le_of_ble_eq_true rfl) rfl rfl ha Ry35 Cy35 By35 (fun y36 Ry36 Cy36 By36 => ?_)
  replace Ry36 : y36 a = some (.inr (12, [.ref (s + 0), .int 0, .ref (s + 1), .ref (s + 2), .ref (s + 3), .ref (s + 4), .ref (s + 5), .ref (s + 6), .ref (s + 7), .int 0, .ref (s + 8), .ref (s + 9), .ref (s + 10), .ref (s + 11), .ref (s + 12), .int 0, .ref (s + 13), .ref (s + 14), .ref (s + 15), .ref (s + 16), .ref (s + 17), .int 0, .int 0, .ref (s + 18), .ref (s + 19), .ref (s + 20), .ref (s + 21), .ref (s + 22), .int 0, .ref (s + 23), .ref (s + 24), .ref (s + 25), .ref (s + 26), .int 0, .int 4, .int 6, .int 1, .ref (s + 27), .ref (s + 28), .ref (s + 29), .ref (s + 30), .int 0, .int 0, .ref (s + 31), .int 0, .ref (s + 32), .int 0, .int 0, .null, .null, .null, .int 0, .int 0, .int 0, .int 0, .null, .null, .int 0, .null, .int 0, .null, .null, .int 0, .int 0])) := Ry36
  show yWE _ _ _ _ (285, _, _, _, _, _) _
  refine ye_aload rfl rfl ?_
  refine ye_p rfl rfl ?_
  refine yw_grp (n := 33) (m := 2305) rfl rfl rfl (by decide) (Nat.le_of_ble_eq_true rfl) rfl rfl ha Ry36 Cy36 By36 (fun y37 Ry37 Cy37 By37 => ?_)
  replace Ry37 : y37 a = some (.inr (12, [.ref (s + 0), .int 0, .ref (s + 1), .ref (s + 2), .ref (s + 3), .ref (s + 4), .ref (s + 5), .ref (s + 6), .ref (s + 7), .int 0, .ref (s + 8), .ref (s + 9), .ref (s + 10), .ref (s + 11), .ref (s + 12), .int 0, .ref (s + 13), .ref (s + 14), .ref (s + 15), .ref (s + 16), .ref (s + 17), .int 0, .int 0, .ref (s + 18), .ref (s + 19), .ref (s + 20), .ref (s + 21), .ref (s + 22), .int 0, .ref (s + 23), .ref (s + 24), .ref (s + 25), .ref (s + 26), .int 0, .int 4, .int 6, .int 1, .ref (s + 27), .ref (s + 28), .ref (s + 29), .ref (s + 30), .int 0, .int 0, .ref (s + 31), .int 0, .ref (s + 32), .int 0, .int 0, .ref (s + 33), .null, .null, .int 0, .int 0, .int 0, .int 0, .null, .null, .int 0, .null, .int 0, .null, .null, .int 0, .int 0])) := Ry37
  show yWE _ _ _ _ (294, _, _, _, _, _) _
  refine ye_aload rfl rfl ?_
  refine ye_p rfl rfl ?_
  refine yw_grp (n := 34) (m := 2305) rfl rfl rfl (by decide) (Nat.le_of_ble_eq_true rfl) rfl rfl ha Ry37 Cy37 By37 (fun y38 Ry38 Cy38 By38 => ?_)
  replace Ry38 : y38 a = some (.inr (12, [.ref (s + 0), .int 0, .ref (s + 1), .ref (s + 2), .ref (s + 3), .ref (s + 4), .ref (s + 5), .ref (s + 6), .ref (s + 7), .int 0, .ref (s + 8), .ref (s + 9), .ref (s + 10), .ref (s + 11), .ref (s + 12), .int 0, .ref (s + 13), .ref (s + 14), .ref (s + 15), .ref (s + 16), .ref (s + 17), .int 0, .int 0, .ref (s + 18), .ref (s + 19), .ref (s + 20), .ref (s + 21), .ref (s + 22), .int 0, .ref (s + 23), .ref (s + 24), .ref (s + 25), .ref (s + 26), .int 0, .int 4, .int 6, .int 1, .ref (s + 27), .ref (s + 28), .ref (s + 29), .ref (s + 30), .int 0, .int 0, .ref (s + 31), .int 0, .ref (s + 32), .int 0, .int 0, .ref (s + 33), .ref (s + 34), .null, .int 0, .int 0, .int 0, .int 0, .null, .null, .int 0, .null, .int 0, .null, .null, .int 0, .int 0])) := Ry38
  show yWE _ _ _ _ (303, _, _, _, _, _) _
  refine ye_aload rfl rfl ?_
  refine ye_p rfl rfl ?_
  refine yw_grp (n := 35) (m := 10) rfl rfl rfl (by decide) (Nat.le_of_ble_eq_true rfl) rfl rfl ha Ry38 Cy38 By38 (fun y39 Ry39 Cy39 By39 => ?_)
  replace Ry39 : y39 a = some (.inr (12, [.ref (s + 0), .int 0, .ref (s + 1), .ref (s + 2), .ref (s + 3), .ref (s + 4), .ref (s + 5), .ref (s + 6), .ref (s + 7), .int 0, .ref (s + 8), .ref (s + 9), .ref (s + 10), .ref (s + 11), .ref (s + 12), .int 0, .ref (s + 13), .ref (s + 14), .ref (s + 15), .ref (s + 16), .ref (s + 17), .int 0, .int 0, .ref (s + 18), .ref (s + 19), .ref (s + 20), .ref (s + 21), .ref (s + 22), .int 0, .ref (s + 23), .ref (s + 24), .ref (s + 25), .ref (s + 26), .int 0, .int 4, .int 6, .int 1, .ref (s + 27), .ref (s + 28), .ref (s + 29), .ref (s + 30), .int 0, .int 0, .ref (s + 31), .int 0, .ref (s + 32), .int 0, .int 0, .ref (s + 33), .ref (s + 34), .null, .int 0, .int 0, .int 0, .int 0, .null, .ref (s + 35), .int 0, .null, .int 0, .null, .null, .int 0, .int 0])) := Ry39
  show yWE _ _ _ _ (311, _, _, _, _, _) _
  refine ye_aload rfl rfl ?_
  refine ye_p rfl rfl ?_
  refine yw_grp (n := 36) (m := 8) rfl rfl rfl (by decide) (Nat.le_of_ble_eq_true rfl) rfl rfl ha Ry39 Cy39 By39 (fun y40 Ry40 Cy40 By40 => ?_)
  replace Ry40 : y40 a = some (.inr (12, [.ref (s + 0), .int 0, .ref (s + 1), .ref (s + 2), .ref (s + 3), .ref (s + 4), .ref (s + 5), .ref (s + 6), .ref (s + 7), .int 0, .ref (s + 8), .ref (s + 9), .ref (s + 10), .ref (s + 11), .ref (s + 12), .int 0, .ref (s + 13), .ref (s + 14), .ref (s + 15), .ref (s + 16), .ref (s + 17), .int 0, .int 0, .ref (s + 18), .ref (s + 19), .ref (s + 20), .ref (s + 21), .ref (s + 22), .int 0, .ref (s + 23), .ref (s + 24), .ref (s + 25), .ref (s + 26), .int 0, .int 4, .int 6, .int 1, .ref (s + 27), .ref (s + 28), .ref (s + 29), .ref (s + 30), .int 0, .int 0, .ref (s + 31), .int 0, .ref (s + 32), .int 0, .int 0, .ref (s + 33), .ref (s + 34), .null, .int 0, .int 0, .int 0, .int 0, .null, .ref (s + 35), .int 0, .ref (s + 36), .int 0, .null, .null, .int 0, .int 0])) := Ry40
  show yWE _ _ _ _ (319, _, _, _, _, _) _
  refine ye_aload rfl rfl ?_
  refine ye_p rfl rfl ?_
  refine yw_grp (n := 37) (m := 8) rfl rfl rfl (by decide) (Nat.le_of_ble_eq_true rfl) rfl rfl ha Ry40 Cy40 By40 (fun y41 Ry41 Cy41 By41 => ?_)
  replace Ry41 : y41 a = some (.inr (12, [.ref (s + 0), .int 0, .ref (s + 1), .ref (s + 2), .ref (s + 3), .ref (s + 4), .ref (s + 5), .ref (s + 6), .ref (s + 7), .int 0, .ref (s + 8), .ref (s + 9), .ref (s + 10), .ref (s + 11), .ref (s + 12), .int 0, .ref (s + 13), .ref (s + 14), .ref (s + 15), .ref (s + 16), .ref (s + 17), .int 0, .int 0, .ref (s + 18), .ref (s + 19), .ref (s + 20), .ref (s + 21), .ref (s + 22), .int 0, .ref (s + 23), .ref (s + 24), .ref (s + 25), .ref (s + 26), .int 0, .int 4, .int 6, .int 1, .ref (s + 27), .ref (s + 28), .ref (s + 29), .ref (s + 30), .int 0, .int 0, .ref (s + 31), .int 0, .ref (s + 32), .int 0, .int 0, .ref (s + 33), .ref (s + 34), .null, .int 0, .int 0, .int 0, .int 0, .null, .ref (s + 35), .int 0, .ref (s + 36), .int 0, .ref (s + 37), .null, .int 0, .int 0])) := Ry41
  show yWE _ _ _ _ (327, _, _, _, _, _) _
  refine ye_aload rfl rfl ?_
  refine ye_p rfl rfl ?_
  refine yw_grp (n := 38) (m := 8) rfl rfl rfl (by decide) (Nat.le_of_ble_eq_true rfl) rfl rfl ha Ry41 Cy41 By41 (fun y42 Ry42 Cy42 By42 => ?_)
  replace Ry42 : y42 a = some (.inr (12, [.ref (s + 0), .int 0, .ref (s + 1), .ref (s + 2), .ref (s + 3), .ref (s + 4), .ref (s + 5), .ref (s + 6), .ref (s + 7), .int 0, .ref (s + 8), .ref (s + 9), .ref (s + 10), .ref (s + 11), .ref (s + 12), .int 0, .ref (s + 13), .ref (s + 14), .ref (s + 15), .ref (s + 16), .ref (s + 17), .int 0, .int 0, .ref (s + 18), .ref (s + 19), .ref (s + 20), .ref (s + 21), .ref (s + 22), .int 0, .ref (s + 23), .ref (s + 24), .ref (s + 25), .ref (s + 26), .int 0, .int 4, .int 6, .int 1, .ref (s + 27), .ref (s + 28), .ref (s + 29), .ref (s + 30), .int 0, .int 0, .ref (s + 31), .int 0, .ref (s + 32), .int 0, .int 0, .ref (s + 33), .ref (s + 34), .null, .int 0, .int 0, .int 0, .int 0, .null, .ref (s + 35), .int 0, .ref (s + 36), .int 0, .ref (s + 37), .ref (s + 38), .int 0, .int 0])) := Ry42
  refine ye_p rfl rfl ?_
  refine ye_p rfl rfl ?_
  have Z0 : y42 (s + 0) = some (.inl (ev.1 0, 8, .inl (fun _ => 0))) := (Cy42 (0, .inl (ev.1 0, 8, .inl (fun _ => 0))) (List.mem_of_getElem? (i := 38) rfl)).1
  have Z1 : y42 (s + 1) = some (.inl (ev.1 0, 12, .inl (fun _ => 0))) := (Cy42 (1, .inl (ev.1 0, 12, .inl (fun _ => 0))) (List.mem_of_getElem? (i := 37) rfl)).1
  have Z2 : y42 (s + 2) = some (.inl (ev.1 0, 12, .inl (fun _ => 0))) := (Cy42 (2, .inl (ev.1 0, 12, .inl (fun _ => 0))) (List.mem_of_getElem? (i := 36) rfl)).1
  have Z3 : y42 (s + 3) = some (.inl (ev.1 0, 12, .inl (fun _ => 0))) := (Cy42 (3, .inl (ev.1 0, 12, .inl (fun _ => 0))) (List.mem_of_getElem? (i := 35) rfl)).1
  have Z4 : y42 (s + 4) = some (.inl (ev.1 0, 12, .inl (fun _ => 0))) := (Cy42 (4, .inl (ev.1 0, 12, .inl (fun _ => 0))) (List.mem_of_getElem? (i := 34) rfl)).1
  have Z5 : y42 (s + 5) = some (.inl (ev.1 0, 48, .inl (fun _ => 0))) := (Cy42 (5, .inl (ev.1 0, 48, .inl (fun _ => 0))) (List.mem_of_getElem? (i := 33) rfl)).1
  have Z6 : y42 (s + 6) = some (.inl (ev.1 0, 48, .inl (fun _ => 0))) := (Cy42 (6, .inl (ev.1 0, 48, .inl (fun _ => 0))) (List.mem_of_getElem? (i := 32) rfl)).1
  have Z7 : y42 (s + 7) = some (.inl (ev.1 0, 12, .inl (fun _ => 0))) := (Cy42 (7, .inl (ev.1 0, 12, .inl (fun _ => 0))) (List.mem_of_getElem? (i := 31) rfl)).1
  have Z8 : y42 (s + 8) = some (.inl (ev.1 0, 64, .inl (fun _ => 0))) := (Cy42 (8, .inl (ev.1 0, 64, .inl (fun _ => 0))) (List.mem_of_getElem? (i := 30) rfl)).1
  have Z9 : y42 (s + 9) = some (.inl (ev.1 0, 60, .inl (fun _ => 0))) := (Cy42 (9, .inl (ev.1 0, 60, .inl (fun _ => 0))) (List.mem_of_getElem? (i := 29) rfl)).1
  have Z10 : y42 (s + 10) = some (.inl (ev.1 0, 60, .inl (fun _ => 0))) := (Cy42 (10, .inl (ev.1 0, 60, .inl (fun _ => 0))) (List.mem_of_getElem? (i := 28) rfl)).1
  have Z11 : y42 (s + 11) = some (.inl (ev.1 0, 60, .inl (fun _ => 0))) := (Cy42 (11, .inl (ev.1 0, 60, .inl (fun _ => 0))) (List.mem_of_getElem? (i := 27) rfl)).1
  have Z12 : y42 (s + 12) = some (.inl (ev.1 0, 60, .inl (fun _ => 0))) := (Cy42 (12, .inl (ev.1 0, 60, .inl (fun _ => 0))) (List.mem_of_getElem? (i := 26) rfl)).1
  have Z13 : y42 (s + 13) = some (.inl (ev.1 0, 8, .inl (fun _ => 0))) := (Cy42 (13, .inl (ev.1 0, 8, .inl (fun _ => 0))) (List.mem_of_getElem? (i := 25) rfl)).1
  have Z14 : y42 (s + 14) = some (.inl (ev.1 0, 8, .inl (fun _ => 0))) := (Cy42 (14, .inl (ev.1 0, 8, .inl (fun _ => 0))) (List.mem_of_getElem? (i := 24) rfl)).1
  have Z15 : y42 (s + 15) = some (.inl (ev.1 0, 8, .inl (fun _ => 0))) := (Cy42 (15, .inl (ev.1 0, 8, .inl (fun _ => 0))) (List.mem_of_getElem? (i := 23) rfl)).1
  have Z16 : y42 (s + 16) = some (.inl (ev.1 0, 8, .inl (fun _ => 0))) := (Cy42 (16, .inl (ev.1 0, 8, .inl (fun _ => 0))) (List.mem_of_getElem? (i := 22) rfl)).1
  have Z17 : y42 (s + 17) = some (.inl (ev.1 2, 8, .inl (fun _ => 0))) := (Cy42 (17, .inl (ev.1 2, 8, .inl (fun _ => 0))) (List.mem_of_getElem? (i := 21) rfl)).1
  have Z18 : y42 (s + 18) = some (.inl (ev.1 0, 30, .inl (fun _ => 0))) := (Cy42 (18, .inl (ev.1 0, 30, .inl (fun _ => 0))) (List.mem_of_getElem? (i := 20) rfl)).1
  have Z19 : y42 (s + 19) = some (.inl (ev.1 0, 30, .inl (fun _ => 0))) := (Cy42 (19, .inl (ev.1 0, 30, .inl (fun _ => 0))) (List.mem_of_getElem? (i := 19) rfl)).1
  have Z20 : y42 (s + 20) = some (.inl (ev.1 0, 30, .inl (fun _ => 0))) := (Cy42 (20, .inl (ev.1 0, 30, .inl (fun _ => 0))) (List.mem_of_getElem? (i := 18) rfl)).1
  have Z21 : y42 (s + 21) = some (.inl (ev.1 0, 30, .inl (fun _ => 0))) := (Cy42 (21, .inl (ev.1 0, 30, .inl (fun _ => 0))) (List.mem_of_getElem? (i := 17) rfl)).1
  have Z22 : y42 (s + 22) = some (.inl (ev.1 0, 30, .inl (fun _ => 0))) := (Cy42 (22, .inl (ev.1 0, 30, .inl (fun _ => 0))) (List.mem_of_getElem? (i := 16) rfl)).1
  have Z23 : y42 (s + 23) = some (.inl (ev.1 0, 24, .inl (fun _ => 0))) := (Cy42 (23, .inl (ev.1 0, 24, .inl (fun _ => 0))) (List.mem_of_getElem? (i := 15) rfl)).1
  have Z24 : y42 (s + 24) = some (.inl (ev.1 0, 24, .inl (fun _ => 0))) := (Cy42 (24, .inl (ev.1 0, 24, .inl (fun _ => 0))) (List.mem_of_getElem? (i := 14) rfl)).1
  have Z25 : y42 (s + 25) = some (.inl (ev.1 0, 24, .inl (fun _ => 0))) := (Cy42 (25, .inl (ev.1 0, 24, .inl (fun _ => 0))) (List.mem_of_getElem? (i := 13) rfl)).1
  have Z26 : y42 (s + 26) = some (.inl (ev.1 0, 24, .inl (fun _ => 0))) := (Cy42 (26, .inl (ev.1 0, 24, .inl (fun _ => 0))) (List.mem_of_getElem? (i := 12) rfl)).1
  have Z27 : y42 (s + 27) = some (.inl (ev.1 3, 1920, .inl (fun _ => 0))) := (Cy42 (27, .inl (ev.1 3, 1920, .inl (fun _ => 0))) (List.mem_of_getElem? (i := 11) rfl)).1
  have Z28 : y42 (s + 28) = some (.inl (ev.1 0, 32, .inl (fun _ => 0))) := (Cy42 (28, .inl (ev.1 0, 32, .inl (fun _ => 0))) (List.mem_of_getElem? (i := 10) rfl)).1
  have Z29 : y42 (s + 29) = some (.inl (ev.1 0, 32, .inl (fun _ => 0))) := (Cy42 (29, .inl (ev.1 0, 32, .inl (fun _ => 0))) (List.mem_of_getElem? (i := 9) rfl)).1
  have Z30 : y42 (s + 30) = some (.inl (ev.1 0, 32, .inl (fun _ => 0))) := (Cy42 (30, .inl (ev.1 0, 32, .inl (fun _ => 0))) (List.mem_of_getElem? (i := 8) rfl)).1
  have Z31 : y42 (s + 31) = some (.inl (ev.1 3, 100, .inl (fun _ => 0))) := (Cy42 (31, .inl (ev.1 3, 100, .inl (fun _ => 0))) (List.mem_of_getElem? (i := 7) rfl)).1
  have Z32 : y42 (s + 32) = some (.inl (ev.1 0, 64, .inl (fun _ => 0))) := (Cy42 (32, .inl (ev.1 0, 64, .inl (fun _ => 0))) (List.mem_of_getElem? (i := 6) rfl)).1
  have Z33 : y42 (s + 33) = some (.inl (ev.1 0, 2305, .inl (fun _ => 0))) := (Cy42 (33, .inl (ev.1 0, 2305, .inl (fun _ => 0))) (List.mem_of_getElem? (i := 5) rfl)).1
  have Z34 : y42 (s + 34) = some (.inl (ev.1 0, 2305, .inl (fun _ => 0))) := (Cy42 (34, .inl (ev.1 0, 2305, .inl (fun _ => 0))) (List.mem_of_getElem? (i := 4) rfl)).1
  have Z35 : y42 (s + 35) = some (.inl (ev.1 0, 10, .inl (fun _ => 0))) := (Cy42 (35, .inl (ev.1 0, 10, .inl (fun _ => 0))) (List.mem_of_getElem? (i := 3) rfl)).1
  have Z36 : y42 (s + 36) = some (.inl (ev.1 0, 8, .inl (fun _ => 0))) := (Cy42 (36, .inl (ev.1 0, 8, .inl (fun _ => 0))) (List.mem_of_getElem? (i := 2) rfl)).1
  have Z37 : y42 (s + 37) = some (.inl (ev.1 0, 8, .inl (fun _ => 0))) := (Cy42 (37, .inl (ev.1 0, 8, .inl (fun _ => 0))) (List.mem_of_getElem? (i := 1) rfl)).1
  have Z38 : y42 (s + 38) = some (.inl (ev.1 0, 8, .inl (fun _ => 0))) := (Cy42 (38, .inl (ev.1 0, 8, .inl (fun _ => 0))) (List.mem_of_getElem? (i := 0) rfl)).1
  have Z := By42
  refine y_frL (a := a) (u := s + 8) rfl (by omega) _ 64 0 y42 _ rfl rfl rfl Ry42 Z8 (fun hp' L1 L2 => ?_)
  exact ⟨hp', rfl, (L2 a (ngA' ha)).trans Ry42, (L2 _ (ngS (by decide))).trans Z0, (L2 _ (ngS (by decide))).trans Z1, (L2 _ (ngS (by decide))).trans Z2, (L2 _ (ngS (by decide))).trans Z3, (L2 _ (ngS (by decide))).trans Z4, (L2 _ (ngS (by decide))).trans Z5, (L2 _ (ngS (by decide))).trans Z6, (L2 _ (ngS (by decide))).trans Z7, L1, (L2 _ (ngS (by decide))).trans Z9, (L2 _ (ngS (by decide))).trans Z10, (L2 _ (ngS (by decide))).trans Z11, (L2 _ (ngS (by decide))).trans Z12, (L2 _ (ngS (by decide))).trans Z13, (L2 _ (ngS (by decide))).trans Z14, (L2 _ (ngS (by decide))).trans Z15, (L2 _ (ngS (by decide))).trans Z16, (L2 _ (ngS (by decide))).trans Z17, (L2 _ (ngS (by decide))).trans Z18, (L2 _ (ngS (by decide))).trans Z19, (L2 _ (ngS (by decide))).trans Z20, (L2 _ (ngS (by decide))).trans Z21, (L2 _ (ngS (by decide))).trans Z22, (L2 _ (ngS (by decide))).trans Z23, (L2 _ (ngS (by decide))).trans Z24, (L2 _ (ngS (by decide))).trans Z25, (L2 _ (ngS (by decide))).trans Z26, (L2 _ (ngS (by decide))).trans Z27, (L2 _ (ngS (by decide))).trans Z28, (L2 _ (ngS (by decide))).trans Z29, (L2 _ (ngS (by decide))).trans Z30, (L2 _ (ngS (by decide))).trans Z31, (L2 _ (ngS (by decide))).trans Z32, (L2 _ (ngS (by decide))).trans Z33, (L2 _ (ngS (by decide))).trans Z34, (L2 _ (ngS (by decide))).trans Z35, (L2 _ (ngS (by decide))).trans Z36, (L2 _ (ngS (by decide))).trans Z37, (L2 _ (ngS (by decide))).trans Z38, (fun b hb hb2 => (L2 b (ngB hb2 (by decide))).trans (Z b hb hb2))⟩
end YINIT
