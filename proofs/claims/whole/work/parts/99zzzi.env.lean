/-! THE WORLD AT THE LAW'S ENTRY: what the runs ask of it (gen_zzi.py) -/
def envG : List Cond := flatC (Jvm.Cond.and given_1 narrow_1)
def sTm (i : Nat) : Term := match i with
  | 0 => .string "AirMail$Parser" 85
  | 1 => .string "AirMail$Parser" 87
  | 2 => .string "AirMail$Parser" 125
  | _ => .string "AirMail$Parser" 127
def sMs (i : Nat) : Nat := [117, 144, 150, 334, 372, 374, 383, 442, 518].getD i 0
abbrev tPl : Term := .static "AirMail$Spares" "PLACES" "[J"
set_option maxRecDepth 40000 in
theorem en_ex : ∀ i, i < 4 → Cond.exactly (sTm i) "java/lang/String" ∈ envG := by decide +kernel
set_option maxRecDepth 40000 in
theorem en_co : ∀ i, i < 4 → Cond.eq (.field (sTm i) "java/lang/String" "coder" "B") (.int 0) ∈ envG := by decide +kernel
set_option maxRecDepth 40000 in
theorem en_ar : ∀ i, i < 4 → Cond.arrayOf (.field (sTm i) "java/lang/String" "value" "[B") .byte ∈ envG := by decide +kernel
set_option maxRecDepth 40000 in
theorem en_le : ∀ i, i < 4 → Cond.eq (.length (.field (sTm i) "java/lang/String" "value" "[B")) (.int (Int32.ofNat (xsLen.getD i 0))) ∈ envG := by decide +kernel
set_option maxRecDepth 40000 in
theorem en_el : ∀ i, i < 4 → ∀ j, j < xsLen.getD i 0 → Cond.eq (.elem (.field (sTm i) "java/lang/String" "value" "[B") (.int (Int32.ofNat j))) (.int ((xsByt.getD i []).getD j 0)) ∈ envG := by decide +kernel
set_option maxRecDepth 40000 in
theorem en_ne : ∀ i, i < 4 → ∀ j, j < 4 → i ≠ j → Cond.not (Cond.eq (sTm i) (sTm j)) ∈ envG ∨ Cond.not (Cond.eq (sTm j) (sTm i)) ∈ envG := by decide +kernel
set_option maxRecDepth 40000 in
theorem en_ms : ∀ i, i < 9 → Cond.exactly (.string "AirMail" (sMs i)) "java/lang/String" ∈ envG := by decide +kernel
set_option maxRecDepth 40000 in
theorem en_same : Cond.eq (.string "AirMail$Parser" 85) (.string "AirMailModel" 310) ∈ envG ∧ Cond.eq (.string "AirMail$Parser" 87) (.string "AirMailModel" 312) ∈ envG ∧ Cond.eq (.string "AirMail$Parser" 125) (.string "AirMailModel" 300) ∈ envG ∧ Cond.eq (.string "AirMail$Parser" 127) (.string "AirMailModel" 302) ∈ envG := by decide +kernel
set_option maxRecDepth 40000 in
theorem en_pl : Cond.arrayOf tPl .long ∈ envG ∧ Cond.eq (.length tPl) (.int (Int32.ofNat 8)) ∈ envG := by decide +kernel
set_option maxRecDepth 40000 in
theorem en_pe : ∀ j, j < 8 → Cond.eq (.elem tPl (.int (Int32.ofNat j))) (.long (xPl j)) ∈ envG := by decide +kernel
set_option maxRecDepth 40000 in
theorem en_st : Cond.eq (.static "java/lang/String" "COMPACT_STRINGS" "Z") (.int 1) ∈ envG ∧ Cond.isRef (.static Bundle.tN "UNASSIGNED_STACK" Bundle.steD) ∈ envG ∧ Cond.isRef (.static Bundle.tN "SUPPRESSED_SENTINEL" Bundle.listD) ∈ envG := by decide +kernel
set_option maxRecDepth 40000 in
theorem en_la : Cond.laysStatic "AirMail$Spares" "PLACES" "[J" ∈ lw_tbl ∧ Cond.initialized "AirMail$Spares" ∈ lw_tbl ∧ Cond.laysStatic "java/lang/String" "COMPACT_STRINGS" "Z" ∈ lw_tbl ∧ Cond.initialized "java/lang/String" ∈ lw_tbl ∧ Cond.laysStatic Bundle.tN "UNASSIGNED_STACK" Bundle.steD ∈ lw_tbl ∧ Cond.laysStatic Bundle.tN "SUPPRESSED_SENTINEL" Bundle.listD ∈ lw_tbl ∧ Cond.initialized Bundle.tN ∈ lw_tbl := by decide +kernel
set_option maxRecDepth 40000 in
theorem en_sr : ∀ q ∈ xStrs, Cond.stringRef q.1 q.2.1 q.2.2.1 ∈ lw_tbl := by decide +kernel
set_option maxRecDepth 40000 in
theorem en_ac : Cond.arrayClass .int ∈ lw_tbl ∧ Cond.arrayClass .long ∈ lw_tbl ∧ Cond.arrayClass .boolean ∈ lw_tbl ∧ Cond.arrayClass .byte ∈ lw_tbl ∧ Cond.arrayOver (.object "AirMail$Leg") ∈ lw_tbl ∧ Cond.arrayOver (.object "AirMail$Plane") ∈ lw_tbl ∧ Cond.arrayOver (.object "AirMail$Pilot") ∈ lw_tbl ∧ Cond.arrayOver (.object "AirMail$Bag") ∈ lw_tbl ∧ Cond.arrayOver (.object "AirMail$Flight") ∈ lw_tbl := by decide +kernel
set_option maxRecDepth 40000 in
theorem en_in : ∀ k, k < 13 → Cond.instantiable (vwCl.getD k (RX0, TX0, 12)).1 (vwCl.getD k (RX0, TX0, 12)).2.2 ∈ lw_tbl := by decide +kernel
set_option maxRecDepth 40000 in
theorem en_nw : ∀ w ∈ (vx_atS "AirMail" 119 "java/util/NoSuchElementException" ["java/lang/RuntimeException", "java/lang/Exception"]).filter (fun w => !goodWord w), w ∈ lw_tbl := by decide +kernel
theorem en_eq {args : Array Value} {s : State} {a b : Term} {q : Nat} (h : (Cond.eq a b).before args s = true) (ha : a.eval args s none [] s = some (.ref q)) : b.eval args s none [] s = some (.ref q) := by
  have h' : (Cond.eq a b).holds args s none s [] = true := h
  simp only [Cond.holds, Cond.value, ha] at h'
  cases hb : b.eval args s none [] s with
  | none => simp [hb] at h'
  | some y => cases y <;> simp_all
theorem ty_p {args : Array Value} {s : State} {ty : FieldType} (hr : refKind ty = false) (h : (Cond.arrayClass ty).before args s = true) : ∃ cA : ClassId, ArrOfT s cA ty ∧ va_RA s cA ty := by
  obtain ⟨cA, kA, comp, h1, h2, h3⟩ := Cond.arrayClass_spec h
  refine ⟨cA, fun n z => ⟨fun k h => (by cases h), kA, h2, comp, h3⟩, ?_⟩
  cases ty <;> first | exact h1 | cases hr
theorem ty_o {args : Array Value} {s : State} {C : String} (h : (Cond.arrayOver (.object C)).before args s = true) : ∃ cA : ClassId, ArrOfT s cA (.object C) ∧ va_RA s cA (.object C) := by
  obtain ⟨comp, cA, kA, h1, -, h2, h3, h4⟩ := Cond.arrayOver_spec h
  exact ⟨cA, fun n z => ⟨fun k h => (by cases h), kA, h2, comp, h3⟩, kA, comp, h2, h3, h1, h4⟩
theorem env_K {args : Array Value} {s : State} (hts : ∀ w ∈ lw_tbl, w.before args s = true) : ∃ (D : va_G) (cy : Nat → ClassId), va_K D vwCl (xTys cy) s := by
  have hx : ∀ w ∈ xT, w.before args s = true := fun w hw => hts w (List.mem_filter.mp hw).1
  obtain ⟨c0, i0, k0⟩ := u_known hx xu_0 (hts _ (en_in 0 (by decide)))
  obtain ⟨c1, i1, k1⟩ := u_known hx xu_1 (hts _ (en_in 1 (by decide)))
  obtain ⟨c2, i2, k2⟩ := u_known hx xu_2 (hts _ (en_in 2 (by decide)))
  obtain ⟨c3, i3, k3⟩ := u_known hx xu_3 (hts _ (en_in 3 (by decide)))
  obtain ⟨c4, i4, k4⟩ := u_known hx xu_4 (hts _ (en_in 4 (by decide)))
  obtain ⟨c5, i5, k5⟩ := u_known hx xu_5 (hts _ (en_in 5 (by decide)))
  obtain ⟨c6, i6, k6⟩ := u_known hx xu_6 (hts _ (en_in 6 (by decide)))
  obtain ⟨c7, i7, k7⟩ := u_known hx xu_7 (hts _ (en_in 7 (by decide)))
  obtain ⟨c8, i8, k8⟩ := u_known hx xu_8 (hts _ (en_in 8 (by decide)))
  obtain ⟨c9, i9, k9⟩ := u_known hx xu_9 (hts _ (en_in 9 (by decide)))
  obtain ⟨c10, i10, k10⟩ := u_known hx xu_10 (hts _ (en_in 10 (by decide)))
  obtain ⟨c11, i11, k11⟩ := u_known hx xu_11 (hts _ (en_in 11 (by decide)))
  obtain ⟨c12, i12, k12⟩ := u_known hx xu_12 (hts _ (en_in 12 (by decide)))
  obtain ⟨t0, a0⟩ := ty_p rfl (hts _ en_ac.1)
  obtain ⟨t1, a1⟩ := ty_p rfl (hts _ en_ac.2.1)
  obtain ⟨t2, a2⟩ := ty_p rfl (hts _ en_ac.2.2.1)
  obtain ⟨t3, a3⟩ := ty_p rfl (hts _ en_ac.2.2.2.1)
  obtain ⟨t4, a4⟩ := ty_o (hts _ en_ac.2.2.2.2.1)
  obtain ⟨t5, a5⟩ := ty_o (hts _ en_ac.2.2.2.2.2.1)
  obtain ⟨t6, a6⟩ := ty_o (hts _ en_ac.2.2.2.2.2.2.1)
  obtain ⟨t7, a7⟩ := ty_o (hts _ en_ac.2.2.2.2.2.2.2.1)
  obtain ⟨t8, a8⟩ := ty_o (hts _ en_ac.2.2.2.2.2.2.2.2)
  refine ⟨(fun k => [c0, c1, c2, c3, c4, c5, c6, c7, c8, c9, c10, c11, c12].getD k c0, fun k => [i0, i1, i2, i3, i4, i5, i6, i7, i8, i9, i10, i11, i12].getD k i0), fun k => [t0, t1, t2, t3, t4, t5, t6, t7, t8].getD k t0, ?_, ?_⟩
  · intro k q hq
    match k, hq with
    | 0, hq => cases hq; exact k0
    | 1, hq => cases hq; exact k1
    | 2, hq => cases hq; exact k2
    | 3, hq => cases hq; exact k3
    | 4, hq => cases hq; exact k4
    | 5, hq => cases hq; exact k5
    | 6, hq => cases hq; exact k6
    | 7, hq => cases hq; exact k7
    | 8, hq => cases hq; exact k8
    | 9, hq => cases hq; exact k9
    | 10, hq => cases hq; exact k10
    | 11, hq => cases hq; exact k11
    | 12, hq => cases hq; exact k12
    | k + 13, hq => simp [vwCl] at hq
  · intro k q hq
    match k, hq with
    | 0, hq => cases hq; exact a0
    | 1, hq => cases hq; exact a1
    | 2, hq => cases hq; exact a2
    | 3, hq => cases hq; exact a3
    | 4, hq => cases hq; exact a4
    | 5, hq => cases hq; exact a5
    | 6, hq => cases hq; exact a6
    | 7, hq => cases hq; exact a7
    | 8, hq => cases hq; exact a8
    | k + 9, hq => simp [xTys] at hq
theorem env_Nw {args : Array Value} {s : State} (hts : ∀ w ∈ lw_tbl, w.before args s = true) : ∀ w ∈ xNw, va_Nw w s := fun w hw => by
  have hin : w ∈ lw_tbl := by
    rcases List.mem_append.mp hw with h | h
    · exact (List.mem_filter.mp h).1
    · exact en_nw w h
  have h := hts w hin
  rcases xNw_is hw with ⟨a, i, x, h', rfl⟩ | ⟨C, rfl⟩ | ⟨x, rfl⟩ | ⟨a, b, rfl⟩
  · exact va_Nw.of rfl h
  · exact va_AO.of h
  · exact va_Nw.of rfl h
  · exact va_Nw.of rfl h
theorem env_Z {s : State} {b L : Nat} {xs : Nat → Int32} (cy : Nat → ClassId) (hts : ∀ w ∈ lw_tbl, w.before #[Value.ref b] s = true) (hX : va_X b L xs s s.heap) (hbl : b < s.heap.size) (hgv : (Jvm.Cond.and given_1 narrow_1).before #[Value.ref b] s = true) : ∃ (st : Nat → Nat) (bt : Nat → Nat) (pl : Nat), xZ (cy, st, bt, pl, b, L, xs) (fun q => s.heap.size ≤ q) s s.heap := by
  have hg : ∀ w ∈ envG, w.before #[Value.ref b] s = true := flat_of_before _ hgv
  have hA : ∀ a : Nat, a < s.heap.size → ¬ (fun q => s.heap.size ≤ q) a := fun a h => Nat.not_le.mpr h
  obtain ⟨adK, adV, hS, hE⟩ := vk_Sof (N := 4) (tm := sTm) (len := xsLen) (byt := xsByt) (A := fun q => s.heap.size ≤ q) (by decide) (fun i hi => hg _ (en_ex i hi)) (fun i hi => hg _ (en_co i hi)) (fun i hi => hg _ (en_ar i hi)) (fun i hi => hg _ (en_le i hi)) (fun i hi j hj => hg _ (en_el i hi j hj)) (fun i j hi hj hij => (en_ne i hi j hj hij).imp (fun h => hg _ h) (fun h => hg _ h)) hA
  have hm0 : ∀ i : Nat, ∃ a : Nat, i < 9 → (Term.string "AirMail" (sMs i)).eval #[Value.ref b] s none [] s = some (.ref a) := fun i => by
    by_cases hi : i < 9
    · obtain ⟨a, c, cA, kA, q1, -⟩ := Cond.exactly_spec (args := #[Value.ref b]) (first := s) (o := none) (s := s) (idx := []) (t := .string "AirMail" (sMs i)) (cls := "java/lang/String") (hg _ (en_ms i hi))
      exact ⟨a, fun _ => q1⟩
    · exact ⟨0, fun h => absurd h hi⟩
  obtain ⟨adM, hM⟩ := Classical.axiomOfChoice hm0
  obtain ⟨pl, hpl, hT⟩ := va_Tof (tm := tPl) (ty := .long) (N := 8) (f := fun j => .long (xPl j)) (A := fun q => s.heap.size ≤ q) (by decide) (hg _ en_pl.1) (va_eqt (hg _ en_pl.2)) (fun j hj => va_eqtl (hg _ (en_pe j hj))) hA
  refine ⟨fun i => if i < 4 then adK i else adM (i - 4), adV, pl, ?_, ⟨fun i hi => ?_, fun i j hi hj e => ?_⟩, va_Zof (hts _ en_la.1) (hts _ en_la.2.1) hpl hA, hT, va_Zof (hts _ en_la.2.2.1) (hts _ en_la.2.2.2.1) (va_eqt (hg _ en_st.1)) hA, ?_, vx_Zqof (hts _ en_la.2.2.2.2.1) (hts _ en_la.2.2.2.2.2.2) (hg _ en_st.2.1) hA, vx_Zqof (hts _ en_la.2.2.2.2.2.1) (hts _ en_la.2.2.2.2.2.2) (hg _ en_st.2.2) hA⟩
  · have E : ∀ i, i < 4 → (sTm i).eval #[Value.ref b] s none [] s = some (.ref (adK i)) := hE
    have M : ∀ (i : Nat) (t : Term), i < 4 → Cond.eq (sTm i) t ∈ envG → t.eval #[Value.ref b] s none [] s = some (.ref (adK i)) := fun i t hi hin => en_eq (hg _ hin) (E i hi)
    have R : ∀ q ∈ xStrs, (Term.string q.1 q.2.1).eval #[Value.ref b] s none [] s = some (.ref (if q.2.2.2 < 4 then adK q.2.2.2 else adM (q.2.2.2 - 4))) := by
      show ∀ q ∈ [("AirMail$Parser", 85, "wmstd", 0), ("AirMail$Parser", 87, "cwanlkhfgu", 1), ("AirMail$Parser", 125, "GW", 2), ("AirMail$Parser", 127, "GTL", 3), ("AirMail", 117, "no such leg, quarter or what", 4), ("AirMail", 144, "no such field, leg, quarter or what", 5), ("AirMail", 150, "no word has come", 6), ("AirMail", 334, "no such plane", 7), ("AirMail", 372, "no such what", 8), ("AirMail", 374, "no such pilot", 9), ("AirMail", 383, "no such bag", 10), ("AirMail", 442, "not down, or no such cell or what", 11), ("AirMail", 518, "no such number of the row", 12), ("AirMailModel", 310, "wmstd", 0), ("AirMailModel", 312, "cwanlkhfgu", 1), ("AirMailModel", 300, "GW", 2), ("AirMailModel", 302, "GTL", 3)], _
      exact List.forall_mem_cons.mpr ⟨E 0 (by decide), List.forall_mem_cons.mpr ⟨E 1 (by decide), List.forall_mem_cons.mpr ⟨E 2 (by decide), List.forall_mem_cons.mpr ⟨E 3 (by decide), List.forall_mem_cons.mpr ⟨hM 0 (by decide), List.forall_mem_cons.mpr ⟨hM 1 (by decide), List.forall_mem_cons.mpr ⟨hM 2 (by decide), List.forall_mem_cons.mpr ⟨hM 3 (by decide), List.forall_mem_cons.mpr ⟨hM 4 (by decide), List.forall_mem_cons.mpr ⟨hM 5 (by decide), List.forall_mem_cons.mpr ⟨hM 6 (by decide), List.forall_mem_cons.mpr ⟨hM 7 (by decide), List.forall_mem_cons.mpr ⟨hM 8 (by decide), List.forall_mem_cons.mpr ⟨M 0 _ (by decide) en_same.1, List.forall_mem_cons.mpr ⟨M 1 _ (by decide) en_same.2.1, List.forall_mem_cons.mpr ⟨M 2 _ (by decide) en_same.2.2.1, List.forall_mem_cons.mpr ⟨M 3 _ (by decide) en_same.2.2.2, (fun _ h => absurd h List.not_mem_nil)⟩⟩⟩⟩⟩⟩⟩⟩⟩⟩⟩⟩⟩⟩⟩⟩⟩
    exact fun q hq => vk_R.of (hts _ (en_sr q hq)) (R q hq)
  · have e : (if i < 4 then adK i else adM (i - 4)) = adK i := if_pos hi
    show va_O "java/lang/String" (if i < 4 then adK i else adM (i - 4)) _ _ _ ∧ va_OF "java/lang/String" "coder" "B" (.int 0) (if i < 4 then adK i else adM (i - 4)) _ _ _ ∧ va_OF "java/lang/String" "value" "[B" (.ref (adV i)) (if i < 4 then adK i else adM (i - 4)) _ _ _ ∧ _
    rw [e]
    exact hS.1 i hi
  · have e' : (if i < 4 then adK i else adM (i - 4)) = (if j < 4 then adK j else adM (j - 4)) := e
    rw [if_pos hi, if_pos hj] at e'
    exact hS.2 i j hi hj e'
  · obtain ⟨scr, h1, h2, h3, h4, h5⟩ := hX
    exact ⟨scr, h1, h2, h3, Nat.le_of_eq h4.symm, by rw [h4], h5, Nat.not_le.mpr hbl⟩
