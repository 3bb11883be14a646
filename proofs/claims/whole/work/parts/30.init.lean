def yLd (x : Nat) : Int32 := if Int32.ofNat x / 8 = Int32.ofNat x - Int32.ofNat x / 8 * 8 then 0 else 1000000
def yFr (x : Nat) : Int32 := if Int32.ofNat x - Int32.ofNat x / 9 * 9 = 0 then 0 else 268435456
theorem y_int1 {i : Nat} : Int32.ofNat i + 1 = Int32.ofNat (i + 1) := by rw [Int32.ofNat_add]; rfl
theorem y_upd1 (f : Nat → Int32) (i : Nat) : upd (fun x => if x < i then f x else 0) i (f i) = fun x => if x < i + 1 then f x else 0 := by
  funext x
  unfold upd
  by_cases h : x = i
  · subst h; rw [if_pos rfl, if_pos (by omega)]
  · rw [if_neg h]
    by_cases h2 : x < i
    · rw [if_pos h2, if_pos (by omega)]
    · rw [if_neg h2, if_neg (by omega)]
theorem y_vin {i n : Nat} (h : i < n) (h2 : n < 2 ^ 31) : vp_in (Int32.ofNat i) n := by
  intro q
  rcases q with q | q
  · exact absurd (Int32.zero_le_ofNat_of_lt (a := i) (by omega)) (Int32.not_le.mpr q)
  · rw [Int32.toNatClampNeg_ofNat_of_lt (by omega)] at q; omega
theorem y_nat {i : Nat} (h : i < 2 ^ 31) : (Int32.ofNat i).toNatClampNeg = i := Int32.toNatClampNeg_ofNat_of_lt h
section YINIT
variable {ev : xEv} {prim : xRel} {d : Nat} {sz sl : Nat}
theorem y_ldL {a u : Nat} {fl : List Value} (hfl : fl[7]? = some (.ref u)) (hau : a ≠ u) (r : xR ⊕ xS → Prop) : ∀ (m i : Nat) (hp : xH) (lv : xLv), i + m = 64 → xG lv 0 = some (.ref a) → xG lv 1 = some (.int (Int32.ofNat i)) → hp a = some (.inr (2, fl)) → hp u = some (.inl (ev.1 0, 64, .inl (fun x => if x < i then yLd x else 0))) → (∀ hp', hp' u = some (.inl (ev.1 0, 64, .inl (fun x => if x < 64 then yLd x else 0))) → (∀ b, b ≠ u → hp' b = hp b) → r (.inl (none, hp', sz, sl))) → yWE ev.2.1 (xstr ev) (xCalls ev xmi (xprog ev) prim d) (pX2_init ev) (79, lv, [], hp, sz, sl) r := by
  intro m
  induction m with
  | zero =>
    intro i hp lv hi g0 g1 ha hu h
    have e : i = 64 := by omega
    subst e
    refine ye_iload rfl g1 ?_
    refine ye_aload rfl g0 ?_
    refine ye_getf rfl ha hfl ?_
    refine ye_alen rfl hu ?_
    refine ye_icmp_ge rfl (fun _ => ?_) (fun h => absurd (Int32.le_refl _) h)
    exact ye_ret rfl rfl (h hp hu (fun _ _ => rfl))
  | succ m ih =>
    intro i hp lv hi g0 g1 ha hu h
    refine ye_iload rfl g1 ?_
    refine ye_aload rfl g0 ?_
    refine ye_getf rfl ha hfl ?_
    refine ye_alen rfl hu ?_
    refine ye_icmp_ge rfl (fun h => ?_) (fun _ => ?_)
    · have := (Int32.ofNat_le_iff_le (a := 64) (b := i) (by omega) (by omega)).mp h
      omega
    refine ye_aload rfl g0 ?_
    refine ye_getf rfl ha hfl ?_
    refine ye_iload rfl g1 ?_
    refine ye_iload rfl g1 ?_
    refine ye_p rfl rfl ?_
    refine ye_div rfl (by decide) ?_
    refine ye_iload rfl g1 ?_
    refine ye_p rfl rfl ?_
    refine ye_div rfl (by decide) ?_
    have fin : ∀ z, z = yLd i → yWE ev.2.1 (xstr ev) (xCalls ev xmi (xprog ev) prim d) (pX2_init ev) (110, lv, [.int z, .int (Int32.ofNat i), .ref u], hp, sz, sl) r := by
      intro z hz
      subst hz
      refine yj_ast rfl hu (y_vin (by omega) (by decide)) (y_nat (by omega)) ?_
      rw [y_upd1 yLd i]
      refine ye_iinc rfl g1 ?_
      rw [y_int1]
      refine ye_p rfl rfl ?_
      refine ih (i + 1) _ _ (by omega) (xG_o1 g0 rfl) (xG_same _ _ _) ?_ (xU_same _ _ _) (fun hp' h1 h2 => h hp' h1 (fun b hb => (h2 b hb).trans (xU_other _ _ hb)))
      rw [xU_other _ _ hau]
      exact ha
    refine ye_icmp_ne rfl (fun h1 => ?_) (fun h1 => ?_)
    · refine ye_p rfl rfl ?_
      exact fin _ (by unfold yLd; rw [if_neg h1])
    · refine ye_p rfl rfl ?_
      refine ye_p rfl rfl ?_
      exact fin _ (by unfold yLd; rw [if_pos (Decidable.of_not_not h1)])
theorem y_frL {a u : Nat} {fl : List Value} (hfl : fl[10]? = some (.ref u)) (hau : a ≠ u) (r : xR ⊕ xS → Prop) : ∀ (m i : Nat) (hp : xH) (lv : xLv), i + m = 64 → xG lv 0 = some (.ref a) → xG lv 1 = some (.int (Int32.ofNat i)) → hp a = some (.inr (12, fl)) → hp u = some (.inl (ev.1 0, 64, .inl (fun x => if x < i then yFr x else 0))) → (∀ hp', hp' u = some (.inl (ev.1 0, 64, .inl (fun x => if x < 64 then yFr x else 0))) → (∀ b, b ≠ u → hp' b = hp b) → r (.inl (none, hp', sz, sl))) → yWE ev.2.1 (xstr ev) (xCalls ev xmi (xprog ev) prim d) (pX12_init ev) (337, lv, [], hp, sz, sl) r := by
  intro m
  induction m with
  | zero =>
    intro i hp lv hi g0 g1 ha hu h
    have e : i = 64 := by omega
    subst e
    refine ye_iload rfl g1 ?_
    refine ye_p rfl rfl ?_
    refine ye_icmp_ge rfl (fun _ => ?_) (fun h => absurd (Int32.le_refl _) h)
    exact ye_ret rfl rfl (h hp hu (fun _ _ => rfl))
  | succ m ih =>
    intro i hp lv hi g0 g1 ha hu h
    refine ye_iload rfl g1 ?_
    refine ye_p rfl rfl ?_
    refine ye_icmp_ge rfl (fun h => ?_) (fun _ => ?_)
    · have := (Int32.ofNat_le_iff_le (a := 64) (b := i) (by omega) (by omega)).mp h
      omega
    refine ye_aload rfl g0 ?_
    refine ye_getf rfl ha hfl ?_
    refine ye_iload rfl g1 ?_
    refine ye_iload rfl g1 ?_
    refine ye_p rfl rfl ?_
    refine ye_div rfl (by decide) ?_
    have fin : ∀ z, z = yFr i → yWE ev.2.1 (xstr ev) (xCalls ev xmi (xprog ev) prim d) (pX12_init ev) (361, lv, [.int z, .int (Int32.ofNat i), .ref u], hp, sz, sl) r := by
      intro z hz
      subst hz
      refine yj_ast rfl hu (y_vin (by omega) (by decide)) (y_nat (by omega)) ?_
      rw [y_upd1 yFr i]
      refine ye_iinc rfl g1 ?_
      rw [y_int1]
      refine ye_p rfl rfl ?_
      refine ih (i + 1) _ _ (by omega) (xG_o1 g0 rfl) (xG_same _ _ _) ?_ (xU_same _ _ _) (fun hp' h1 h2 => h hp' h1 (fun b hb => (h2 b hb).trans (xU_other _ _ hb)))
      rw [xU_other _ _ hau]
      exact ha
    refine ye_if_ne rfl (fun h1 => ?_) (fun h1 => ?_)
    · refine ye_p rfl rfl ?_
      exact fin _ (by unfold yFr; rw [if_neg h1])
    · refine ye_p rfl rfl ?_
      refine ye_p rfl rfl ?_
      exact fin _ (by unfold yFr; rw [if_pos (Decidable.of_not_not h1)])

