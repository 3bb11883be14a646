/-! OPERATIONS: what an instruction does to (pc, locals, stack, map, size, slots), and that the machine does so (xOK). -/
def xT : List Cond := lw_tbl.filter goodWord
def xTys (cy : Nat → ClassId) : List (ClassId × FieldType) := [(cy 0, .int), (cy 1, .long), (cy 2, .boolean), (cy 3, .byte), (cy 4, .object "AirMail$Leg"), (cy 5, .object "AirMail$Plane"), (cy 6, .object "AirMail$Pilot"), (cy 7, .object "AirMail$Bag"), (cy 8, .object "AirMail$Flight")]
/-- links of nest mates: no words of the tables that keep, so they are carried -/
def xNw : List Cond := lw_tbl.filter (fun w => match w with | .methodLinkNest _ _ _ _ => true | .arrayOver _ => true | _ => false) ++ (vx_atS "AirMail" 119 "java/util/NoSuchElementException" ["java/lang/RuntimeException", "java/lang/Exception"]).filter (fun w => !goodWord w)
/-- what is fixed for a run: the array classes; the String constants (objects, their bytes); the cell of the row PLACES; the script's cell, its length, its ints -/
abbrev xEv : Type := (Nat → ClassId) × (Nat → Nat) × (Nat → Nat) × Nat × Nat × Nat × (Nat → Int32)
def xStrs : List (String × Nat × String × Nat) := [("AirMail$Parser", 85, "wmstd", 0), ("AirMail$Parser", 87, "cwanlkhfgu", 1), ("AirMail$Parser", 125, "GW", 2), ("AirMail$Parser", 127, "GTL", 3), ("AirMail", 117, "no such leg, quarter or what", 4), ("AirMail", 144, "no such field, leg, quarter or what", 5), ("AirMail", 150, "no word has come", 6), ("AirMail", 334, "no such plane", 7), ("AirMail", 372, "no such what", 8), ("AirMail", 374, "no such pilot", 9), ("AirMail", 383, "no such bag", 10), ("AirMail", 442, "not down, or no such cell or what", 11), ("AirMail", 518, "no such number of the row", 12), ("AirMailModel", 310, "wmstd", 0), ("AirMailModel", 312, "cwanlkhfgu", 1), ("AirMailModel", 300, "GW", 2), ("AirMailModel", 302, "GTL", 3)]
def xsLen : List Nat := [5, 10, 2, 3]
def xsByt : List (List Int32) := [[119, 109, 115, 116, 100], [99, 119, 97, 110, 108, 107, 104, 102, 103, 117], [71, 87], [71, 84, 76]]
def xPl (j : Nat) : Int64 := [4782969, 531441, 59049, 6561, 729, 81, 9, 1].getD j 0
/-- what lies outside the map, is only read, and stays -/
def xZ (ev : xEv) (A : Nat → Prop) (U : State) (H : Heap) : Prop := (∀ q ∈ xStrs, vk_R q.1 q.2.1 q.2.2.1 (ev.2.1 q.2.2.2) U) ∧ vk_S 4 xsLen xsByt ev.2.1 ev.2.2.1 A U H ∧ va_Z "AirMail$Spares" "PLACES" "[J" (.ref ev.2.2.2.1) A U H ∧ va_T .long ev.2.2.2.1 8 (fun j => .long (xPl j)) A U H ∧ va_Z "java/lang/String" "COMPACT_STRINGS" "Z" (.int 1) A U H ∧ va_T .int ev.2.2.2.2.1 ev.2.2.2.2.2.1 (fun j => .int (ev.2.2.2.2.2.2 j)) A U H ∧ vx_Zq Bundle.tN "UNASSIGNED_STACK" Bundle.steD A U H ∧ vx_Zq Bundle.tN "SUPPRESSED_SENTINEL" Bundle.listD A U H
theorem xZ.step {ev : xEv} {A B : Nat → Prop} {s U : State} {H0 H : Heap} (hW : s.WarmedH U.vm) (h : xZ ev A s H0) (hq : ∀ a : Nat, a < H0.size → ¬ A a → H[a]? = H0[a]?) (hAB : ∀ q, B q → A q) : xZ ev B U H :=
  ⟨fun q hm => vk_R.warm hW (h.1 q hm), ((h.2.1.kept hq).narrow hAB).moved hW.alike, ((h.2.2.1.kept hq).narrow hAB).moved hW.alike, ((h.2.2.2.1.kept hq).narrow hAB).moved hW.alike, ((h.2.2.2.2.1.kept hq).narrow hAB).moved hW.alike, ((h.2.2.2.2.2.1.kept hq).narrow hAB).moved hW.alike, ((h.2.2.2.2.2.2.1.kept hq).narrow hAB).moved hW.alike, ((h.2.2.2.2.2.2.2.kept hq).narrow hAB).moved hW.alike⟩
theorem xZ.blind {ev : xEv} {A : Nat → Prop} {U V : State} {H : Heap} (hv : V.vm = U.vm) (h : xZ ev A U H) : xZ ev A V H := by
  have hA : U.vm.Alike V.vm := by rw [hv]; exact Vm.Alike.refl _
  exact ⟨fun q hm => vk_R.same hv (h.1 q hm), h.2.1.moved hA, h.2.2.1.moved hA, h.2.2.2.1.moved hA, h.2.2.2.2.1.moved hA, h.2.2.2.2.2.1.moved hA, h.2.2.2.2.2.2.1.moved hA, h.2.2.2.2.2.2.2.moved hA⟩
abbrev xLv : Type := List (Nat × Value)
abbrev xS : Type := Nat × xLv × List Value × xH × Nat × Nat
abbrev xF : Type := Nat → xLv → List Value → xH → Option (Nat × xLv × List Value)
/-- an operation that leaves the map alone -/
def xop (f : xF) : xS → Option xS := fun σ => match f σ.1 σ.2.1 σ.2.2.1 σ.2.2.2.1 with
  | some r => some (r.1, r.2.1, r.2.2, σ.2.2.2.1, σ.2.2.2.2.1, σ.2.2.2.2.2)
  | none => none
def xC (p : Program) (s : State) (m : MethodId) (args : Array Value) (meth : Method) (c : Code) (cc : ByteArray) (own nm : String) (nL : Nat) (D : va_G) (ev : xEv) (A : Nat → Prop) (H0 : Heap) : Prop :=
  p.tables.exec = Jvm.exec ∧ c.code = cc ∧ c.maxLocals = nL ∧ s.vm.findClass own = some m.cls ∧ (∀ w ∈ xT, w.before args s = true) ∧ va_K D vwCl (xTys ev.1) s ∧ (∀ q, H0.size ≤ q → A q) ∧ meth.name = nm ∧ (∀ w ∈ xNw, va_Nw w s) ∧ xZ ev A s s.heap ∧ H0 = s.heap
def xOKp (ev : xEv) (cc : ByteArray) (own nm : String) (nL pc : Nat) (f : xF) : Prop :=
  ∀ (lv : xLv) (st : List Value) (hp : xH) (pc' : Nat) (lv' : xLv) (st' : List Value), f pc lv st hp = some (pc', lv', st') →
  ∀ (p : Program) (l : Launch) (e : Env) (R : Room) (s : State) (m : MethodId) (args : Array Value) (below : List Frame) (meth : Method) (c : Code) (D : va_G) (A : Nat → Prop) (H0 H : Heap) (Q : State → Prop) (cells slots sz : Nat) (locs : List Loc) (ls : Array Slot),
  xC p s m args meth c cc own nm nL D ev A H0 → 1 ≤ R.frames → 40 ≤ R.locals → cells ≤ R.cells → slots ≤ R.slots → xP D vwCl A hp sz H → va_S A H0 H locs → lv_has ls nL lv →
  (∀ ls' : Array Slot, lv_has ls' nL lv' → W p l e R s m args below meth c H locs cells slots Q (F0 m pc' ls' st')) → W p l e R s m args below meth c H locs cells slots Q (F0 m pc ls st)
def xOK (ev : xEv) (cc : ByteArray) (own nm : String) (nL pc : Nat) (op : xS → Option xS) : Prop :=
  ∀ (lv : xLv) (st : List Value) (hp : xH) (sz sl : Nat) (pc' : Nat) (lv' : xLv) (st' : List Value) (hp' : xH) (sz' sl' : Nat), op (pc, lv, st, hp, sz, sl) = some (pc', lv', st', hp', sz', sl') →
  (sz ≤ sz' ∧ sl ≤ sl') ∧ ∀ (p : Program) (l : Launch) (e : Env) (R : Room) (s : State) (m : MethodId) (args : Array Value) (below : List Frame) (meth : Method) (c : Code) (D : va_G) (A : Nat → Prop) (H0 H : Heap) (Q : State → Prop) (z0 : Nat) (locs : List Loc) (ls : Array Slot),
  xC p s m args meth c cc own nm nL D ev A H0 → 1 ≤ R.frames → 40 ≤ R.locals → z0 ≤ sz → sz' - z0 ≤ R.cells → sl' ≤ R.slots → xP D vwCl A hp sz H → va_S A H0 H locs → lv_has ls nL lv →
  (∀ (H' : Heap) (locs' : List Loc) (ls' : Array Slot), xP D vwCl A hp' sz' H' → va_S A H0 H' locs' → lv_has ls' nL lv' → W p l e R s m args below meth c H' locs' (sz' - z0) sl' Q (F0 m pc' ls' st')) →
  W p l e R s m args below meth c H locs (sz - z0) sl Q (F0 m pc ls st)
/-- the same of a relation: steps that are proved otherwise -/
def xOKr (fq lq : Nat) (ev : xEv) (cc : ByteArray) (own nm : String) (nL pc : Nat) (rel : xS → xS → Prop) : Prop :=
  ∀ (lv : xLv) (st : List Value) (hp : xH) (sz sl : Nat) (pc' : Nat) (lv' : xLv) (st' : List Value) (hp' : xH) (sz' sl' : Nat), rel (pc, lv, st, hp, sz, sl) (pc', lv', st', hp', sz', sl') →
  (sz ≤ sz' ∧ sl ≤ sl') ∧ ∀ (p : Program) (l : Launch) (e : Env) (R : Room) (s : State) (m : MethodId) (args : Array Value) (below : List Frame) (meth : Method) (c : Code) (D : va_G) (A : Nat → Prop) (H0 H : Heap) (Q : State → Prop) (z0 : Nat) (locs : List Loc) (ls : Array Slot),
  xC p s m args meth c cc own nm nL D ev A H0 → fq ≤ R.frames → lq ≤ R.locals → z0 ≤ sz → sz' - z0 ≤ R.cells → sl' ≤ R.slots → xP D vwCl A hp sz H → va_S A H0 H locs → lv_has ls nL lv →
  (∀ (H' : Heap) (locs' : List Loc) (ls' : Array Slot), xP D vwCl A hp' sz' H' → va_S A H0 H' locs' → lv_has ls' nL lv' → W p l e R s m args below meth c H' locs' (sz' - z0) sl' Q (F0 m pc' ls' st')) →
  W p l e R s m args below meth c H locs (sz - z0) sl Q (F0 m pc ls st)
theorem xOK_pure {ev : xEv} {cc : ByteArray} {own nm : String} {nL pc : Nat} {f : xF} (h : xOKp ev cc own nm nL pc f) : xOK ev cc own nm nL pc (xop f) := by
  intro lv st hp sz sl pc' lv' st' hp' sz' sl' he
  unfold xop at he
  dsimp only at he
  split at he
  · next r hr =>
    cases he
    refine ⟨⟨Nat.le_refl _, Nat.le_refl _⟩, ?_⟩
    intro p l e R s m args below meth c D A H0 H Q z0 locs ls hC h1 h2 h3 h4 h5 hP hS hl kk
    exact h lv st hp r.1 r.2.1 r.2.2 hr p l e R s m args below meth c D A H0 H Q (sz - z0) sl sz locs ls hC h1 h2 h4 h5 hP hS hl (fun ls' hl' => kk H locs ls' hP hS hl')
  · cases he
/-- a local by its number -/
def xG (lv : xLv) (i : Nat) : Option Value := match lv.find? (fun q => q.1 == i) with
  | some q => some q.2
  | none => none
theorem xG_has {ls : Array Slot} {nL : Nat} {lv : xLv} (h : lv_has ls nL lv) {i : Nat} {v : Value} (hg : xG lv i = some v) : ls[i]? = some (.val v) := by
  unfold xG at hg
  split at hg
  · next q hq =>
    cases hg
    have h1 := List.mem_of_find?_eq_some hq
    have h2 := List.find?_some hq
    have h3 : q.1 = i := by simpa using h2
    rw [← h3]
    exact h.2.2 q h1
  · cases hg
def xSt1 (lv : xLv) (i : Nat) (v : Value) : xLv := (i, v) :: lv.filter (fun q => !(q.1 == i) && !(q.1 + 1 == i && q.2.category == 2))
def xSt2 (lv : xLv) (i : Nat) (v : Value) : xLv := (i, v) :: lv.filter (fun q => !(q.1 == i) && (!(q.1 == i + 1) && !(q.1 + 1 == i && q.2.category == 2)))

def xf_push (v : Value) (len : Nat) : xF := fun pc lv st _ => some (pc + len, lv, v :: st)
theorem xs_iconst {ev : xEv} {cc : ByteArray} {own nm : String} {nL pc : Nat} {n : Int} {v : Int32} (hd : decode cc pc = .ok (.iconst n, 1)) (hv : Int32.ofInt n = v) : xOKp ev cc own nm nL pc (xf_push (.int v) 1) := by
  intro lv st hp pc' lv' st' he p l e R s m args below meth c D A H0 H Q cells slots sz locs ls hC hfr hlo hcR hsR hP hS hl kk
  obtain ⟨hx, hb, hml, hown, hts, hK, hA, hnm, hNw, hZ, hH0⟩ := hC
  cases he
  exact lv_iconst hx hb hd hv (kk ls hl)
theorem xs_bipush {ev : xEv} {cc : ByteArray} {own nm : String} {nL pc : Nat} {n : Int} {v : Int32} (hd : decode cc pc = .ok (.bipush n, 2)) (hv : (Int8.ofInt n).toInt32 = v) : xOKp ev cc own nm nL pc (xf_push (.int v) 2) := by
  intro lv st hp pc' lv' st' he p l e R s m args below meth c D A H0 H Q cells slots sz locs ls hC hfr hlo hcR hsR hP hS hl kk
  obtain ⟨hx, hb, hml, hown, hts, hK, hA, hnm, hNw, hZ, hH0⟩ := hC
  cases he
  exact lv_bipush hx hb hd hv (kk ls hl)
theorem xs_sipush {ev : xEv} {cc : ByteArray} {own nm : String} {nL pc : Nat} {n : Int} {v : Int32} (hd : decode cc pc = .ok (.sipush n, 3)) (hv : (Int16.ofInt n).toInt32 = v) : xOKp ev cc own nm nL pc (xf_push (.int v) 3) := by
  intro lv st hp pc' lv' st' he p l e R s m args below meth c D A H0 H Q cells slots sz locs ls hC hfr hlo hcR hsR hP hS hl kk
  obtain ⟨hx, hb, hml, hown, hts, hK, hA, hnm, hNw, hZ, hH0⟩ := hC
  cases he
  exact lv_sipush hx hb hd hv (kk ls hl)
theorem xs_lconst {ev : xEv} {cc : ByteArray} {own nm : String} {nL pc : Nat} {n : Fin 2} {v : Int64} (hd : decode cc pc = .ok (.lconst n, 1)) (hv : Int64.ofNat (n : Nat) = v) : xOKp ev cc own nm nL pc (xf_push (.long v) 1) := by
  intro lv st hp pc' lv' st' he p l e R s m args below meth c D A H0 H Q cells slots sz locs ls hC hfr hlo hcR hsR hP hS hl kk
  obtain ⟨hx, hb, hml, hown, hts, hK, hA, hnm, hNw, hZ, hH0⟩ := hC
  cases he
  exact lv_lconst hx hb hd hv (kk ls hl)
theorem xs_ldc {ev : xEv} {cc : ByteArray} {own nm : String} {nL pc : Nat} {k : Nat} {v : Int32} (hd : decode cc pc = .ok (.ldc k, 2)) (hw : Cond.constant own k v ∈ xT) : xOKp ev cc own nm nL pc (xf_push (.int v) 2) := by
  intro lv st hp pc' lv' st' he p l e R s m args below meth c D A H0 H Q cells slots sz locs ls hC hfr hlo hcR hsR hP hS hl kk
  obtain ⟨hx, hb, hml, hown, hts, hK, hA, hnm, hNw, hZ, hH0⟩ := hC
  cases he
  exact lv_ldc hx hb hown (hts _ hw) hd (kk ls hl)
theorem xs_ldcw {ev : xEv} {cc : ByteArray} {own nm : String} {nL pc : Nat} {k : Nat} {v : Int32} (hd : decode cc pc = .ok (.ldc_w k, 3)) (hw : Cond.constant own k v ∈ xT) : xOKp ev cc own nm nL pc (xf_push (.int v) 3) := by
  intro lv st hp pc' lv' st' he p l e R s m args below meth c D A H0 H Q cells slots sz locs ls hC hfr hlo hcR hsR hP hS hl kk
  obtain ⟨hx, hb, hml, hown, hts, hK, hA, hnm, hNw, hZ, hH0⟩ := hC
  cases he
  exact lv_ldcw hx hb hown (hts _ hw) hd (kk ls hl)
theorem xs_ldc2 {ev : xEv} {cc : ByteArray} {own nm : String} {nL pc : Nat} {k : Nat} {v : Int64} (hd : decode cc pc = .ok (.ldc2_w k, 3)) (hw : Cond.constantLong own k v ∈ xT) : xOKp ev cc own nm nL pc (xf_push (.long v) 3) := by
  intro lv st hp pc' lv' st' he p l e R s m args below meth c D A H0 H Q cells slots sz locs ls hC hfr hlo hcR hsR hP hS hl kk
  obtain ⟨hx, hb, hml, hown, hts, hK, hA, hnm, hNw, hZ, hH0⟩ := hC
  cases he
  exact lv_ldc2 hx hb hown (hts _ hw) hd (kk ls hl)
def xf_iload (i len : Nat) : xF := fun pc lv st _ => match xG lv i with
  | some (.int x) => some (pc + len, lv, .int x :: st)
  | _ => none
theorem xs_iload_n {ev : xEv} {cc : ByteArray} {own nm : String} {nL pc : Nat} {k : Fin 4} {i : Nat} (hi : (k : Nat) = i) (hd : decode cc pc = .ok (.iload_n k, 1)) : xOKp ev cc own nm nL pc (xf_iload i 1) := by
  intro lv st hp pc' lv' st' he p l e R s m args below meth c D A H0 H Q cells slots sz locs ls hC hfr hlo hcR hsR hP hS hl kk
  obtain ⟨hx, hb, hml, hown, hts, hK, hA, hnm, hNw, hZ, hH0⟩ := hC
  unfold xf_iload at he
  split at he
  · next x hg =>
    cases he
    exact lv_iload_n hx hb hd hi (xG_has hl hg) (kk ls hl)
  · cases he
theorem xs_iload {ev : xEv} {cc : ByteArray} {own nm : String} {nL pc : Nat} {i : Nat} (hd : decode cc pc = .ok (.iload i, 2)) : xOKp ev cc own nm nL pc (xf_iload i 2) := by
  intro lv st hp pc' lv' st' he p l e R s m args below meth c D A H0 H Q cells slots sz locs ls hC hfr hlo hcR hsR hP hS hl kk
  obtain ⟨hx, hb, hml, hown, hts, hK, hA, hnm, hNw, hZ, hH0⟩ := hC
  unfold xf_iload at he
  split at he
  · next x hg =>
    cases he
    exact lv_iload hx hb hd (xG_has hl hg) (kk ls hl)
  · cases he
def xf_lload (i len : Nat) : xF := fun pc lv st _ => match xG lv i with
  | some (.long x) => some (pc + len, lv, .long x :: st)
  | _ => none
theorem xs_lload_n {ev : xEv} {cc : ByteArray} {own nm : String} {nL pc : Nat} {k : Fin 4} {i : Nat} (hi : (k : Nat) = i) (hd : decode cc pc = .ok (.lload_n k, 1)) : xOKp ev cc own nm nL pc (xf_lload i 1) := by
  intro lv st hp pc' lv' st' he p l e R s m args below meth c D A H0 H Q cells slots sz locs ls hC hfr hlo hcR hsR hP hS hl kk
  obtain ⟨hx, hb, hml, hown, hts, hK, hA, hnm, hNw, hZ, hH0⟩ := hC
  unfold xf_lload at he
  split at he
  · next x hg =>
    cases he
    exact lv_lload_n hx hb hd hi (xG_has hl hg) (kk ls hl)
  · cases he
theorem xs_lload {ev : xEv} {cc : ByteArray} {own nm : String} {nL pc : Nat} {i : Nat} (hd : decode cc pc = .ok (.lload i, 2)) : xOKp ev cc own nm nL pc (xf_lload i 2) := by
  intro lv st hp pc' lv' st' he p l e R s m args below meth c D A H0 H Q cells slots sz locs ls hC hfr hlo hcR hsR hP hS hl kk
  obtain ⟨hx, hb, hml, hown, hts, hK, hA, hnm, hNw, hZ, hH0⟩ := hC
  unfold xf_lload at he
  split at he
  · next x hg =>
    cases he
    exact lv_lload hx hb hd (xG_has hl hg) (kk ls hl)
  · cases he
def xf_aload (i len : Nat) : xF := fun pc lv st _ => match xG lv i with
  | some (.ref x) => some (pc + len, lv, .ref x :: st)
  | some .null => some (pc + len, lv, .null :: st)
  | _ => none
theorem xs_aload_n {ev : xEv} {cc : ByteArray} {own nm : String} {nL pc : Nat} {k : Fin 4} {i : Nat} (hi : (k : Nat) = i) (hd : decode cc pc = .ok (.aload_n k, 1)) : xOKp ev cc own nm nL pc (xf_aload i 1) := by
  intro lv st hp pc' lv' st' he p l e R s m args below meth c D A H0 H Q cells slots sz locs ls hC hfr hlo hcR hsR hP hS hl kk
  obtain ⟨hx, hb, hml, hown, hts, hK, hA, hnm, hNw, hZ, hH0⟩ := hC
  unfold xf_aload at he
  split at he
  · next x hg =>
    cases he
    exact lv_aload_n hx hb hd hi (xG_has hl hg) (kk ls hl)
  · next hg =>
    cases he
    exact lv_aload_nN hx hb hd hi (xG_has hl hg) (kk ls hl)
  · cases he
theorem xs_aload {ev : xEv} {cc : ByteArray} {own nm : String} {nL pc : Nat} {i : Nat} (hd : decode cc pc = .ok (.aload i, 2)) : xOKp ev cc own nm nL pc (xf_aload i 2) := by
  intro lv st hp pc' lv' st' he p l e R s m args below meth c D A H0 H Q cells slots sz locs ls hC hfr hlo hcR hsR hP hS hl kk
  obtain ⟨hx, hb, hml, hown, hts, hK, hA, hnm, hNw, hZ, hH0⟩ := hC
  unfold xf_aload at he
  split at he
  · next x hg =>
    cases he
    exact lv_aload hx hb hd (xG_has hl hg) (kk ls hl)
  · next hg =>
    cases he
    exact lv_aloadN hx hb hd (xG_has hl hg) (kk ls hl)
  · cases he
def xf_istore (i len : Nat) : xF := fun pc lv st _ => match st with
  | .int x :: r => some (pc + len, xSt1 lv i (.int x), r)
  | _ => none
def xf_lstore (i len : Nat) : xF := fun pc lv st _ => match st with
  | .long x :: r => some (pc + len, xSt2 lv i (.long x), r)
  | _ => none
def xf_astore (i len : Nat) : xF := fun pc lv st _ => match st with
  | .ref x :: r => some (pc + len, xSt1 lv i (.ref x), r)
  | .null :: r => some (pc + len, xSt1 lv i .null, r)
  | _ => none
theorem xs_istore_n {ev : xEv} {cc : ByteArray} {own nm : String} {nL pc : Nat} {k : Fin 4} {i : Nat} (hi : (k : Nat) = i) (hd : decode cc pc = .ok (.istore_n k, 1)) (hn : i < nL) : xOKp ev cc own nm nL pc (xf_istore i 1) := by
  intro lv st hp pc' lv' st' he p l e R s m args below meth c D A H0 H Q cells slots sz locs ls hC hfr hlo hcR hsR hP hS hl kk
  obtain ⟨hx, hb, hml, hown, hts, hK, hA, hnm, hNw, hZ, hH0⟩ := hC
  unfold xf_istore at he
  split at he
  · cases he
    exact lv_istore_n hx hb hd hi hl hn rfl (fun ls' hl' => kk ls' hl')
  · cases he
theorem xs_istore {ev : xEv} {cc : ByteArray} {own nm : String} {nL pc : Nat} {i : Nat} (hd : decode cc pc = .ok (.istore i, 2)) (hn : i < nL) : xOKp ev cc own nm nL pc (xf_istore i 2) := by
  intro lv st hp pc' lv' st' he p l e R s m args below meth c D A H0 H Q cells slots sz locs ls hC hfr hlo hcR hsR hP hS hl kk
  obtain ⟨hx, hb, hml, hown, hts, hK, hA, hnm, hNw, hZ, hH0⟩ := hC
  unfold xf_istore at he
  split at he
  · cases he
    exact lv_istore hx hb hd hl hn rfl (fun ls' hl' => kk ls' hl')
  · cases he
theorem xs_lstore_n {ev : xEv} {cc : ByteArray} {own nm : String} {nL pc : Nat} {k : Fin 4} {i : Nat} (hi : (k : Nat) = i) (hd : decode cc pc = .ok (.lstore_n k, 1)) (hn : i + 1 < nL) : xOKp ev cc own nm nL pc (xf_lstore i 1) := by
  intro lv st hp pc' lv' st' he p l e R s m args below meth c D A H0 H Q cells slots sz locs ls hC hfr hlo hcR hsR hP hS hl kk
  obtain ⟨hx, hb, hml, hown, hts, hK, hA, hnm, hNw, hZ, hH0⟩ := hC
  unfold xf_lstore at he
  split at he
  · cases he
    exact lv_lstore_n hx hb hd hi hl hn rfl (fun ls' hl' => kk ls' hl')
  · cases he
theorem xs_lstore {ev : xEv} {cc : ByteArray} {own nm : String} {nL pc : Nat} {i : Nat} (hd : decode cc pc = .ok (.lstore i, 2)) (hn : i + 1 < nL) : xOKp ev cc own nm nL pc (xf_lstore i 2) := by
  intro lv st hp pc' lv' st' he p l e R s m args below meth c D A H0 H Q cells slots sz locs ls hC hfr hlo hcR hsR hP hS hl kk
  obtain ⟨hx, hb, hml, hown, hts, hK, hA, hnm, hNw, hZ, hH0⟩ := hC
  unfold xf_lstore at he
  split at he
  · cases he
    exact lv_lstore hx hb hd hl hn rfl (fun ls' hl' => kk ls' hl')
  · cases he
theorem xs_astore_n {ev : xEv} {cc : ByteArray} {own nm : String} {nL pc : Nat} {k : Fin 4} {i : Nat} (hi : (k : Nat) = i) (hd : decode cc pc = .ok (.astore_n k, 1)) (hn : i < nL) : xOKp ev cc own nm nL pc (xf_astore i 1) := by
  intro lv st hp pc' lv' st' he p l e R s m args below meth c D A H0 H Q cells slots sz locs ls hC hfr hlo hcR hsR hP hS hl kk
  obtain ⟨hx, hb, hml, hown, hts, hK, hA, hnm, hNw, hZ, hH0⟩ := hC
  unfold xf_astore at he
  split at he
  · cases he
    exact lv_astore_n hx hb hd hi hl hn rfl (fun ls' hl' => kk ls' hl')
  · cases he
    exact lv_astore_nN hx hb hd hi hl hn rfl (fun ls' hl' => kk ls' hl')
  · cases he
theorem xs_astore {ev : xEv} {cc : ByteArray} {own nm : String} {nL pc : Nat} {i : Nat} (hd : decode cc pc = .ok (.astore i, 2)) (hn : i < nL) : xOKp ev cc own nm nL pc (xf_astore i 2) := by
  intro lv st hp pc' lv' st' he p l e R s m args below meth c D A H0 H Q cells slots sz locs ls hC hfr hlo hcR hsR hP hS hl kk
  obtain ⟨hx, hb, hml, hown, hts, hK, hA, hnm, hNw, hZ, hH0⟩ := hC
  unfold xf_astore at he
  split at he
  · cases he
    exact lv_astore hx hb hd hl hn rfl (fun ls' hl' => kk ls' hl')
  · cases he
    exact lv_astoreN hx hb hd hl hn rfl (fun ls' hl' => kk ls' hl')
  · cases he
def xf_iinc (i : Nat) (v : Int32) : xF := fun pc lv st _ => match xG lv i with
  | some (.int x) => some (pc + 3, xSt1 lv i (.int (x + v)), st)
  | _ => none
theorem xs_iinc {ev : xEv} {cc : ByteArray} {own nm : String} {nL pc : Nat} {i : Nat} {n : Int} {v : Int32} (hd : decode cc pc = .ok (.iinc i n, 3)) (hv : Int32.ofInt n = v) (hn : i < nL) : xOKp ev cc own nm nL pc (xf_iinc i v) := by
  intro lv st hp pc' lv' st' he p l e R s m args below meth c D A H0 H Q cells slots sz locs ls hC hfr hlo hcR hsR hP hS hl kk
  obtain ⟨hx, hb, hml, hown, hts, hK, hA, hnm, hNw, hZ, hH0⟩ := hC
  subst hv
  unfold xf_iinc at he
  split at he
  · next x hg =>
    cases he
    unfold xG at hg
    split at hg
    · next q hq =>
      have h1 := List.mem_of_find?_eq_some hq
      have h2 := List.find?_some hq
      have h3 : q.1 = i := by simpa using h2
      obtain ⟨k, hk⟩ := List.getElem?_of_mem h1
      have hg2 : q.2 = .int x := Option.some.inj hg
      have hk' : lv[k]? = some (i, .int x) := by
        rw [hk, ← h3, ← hg2]
      exact lv_iinc hx hb hd hl hk' rfl hn rfl (fun ls' hl' => kk ls' hl')
    · cases hg
  · cases he
def xf_bin (f : Int32 → Int32 → Int32) : xF := fun pc lv st _ => match st with
  | .int y :: .int x :: r => some (pc + 1, lv, .int (f x y) :: r)
  | _ => none
theorem xs_iadd {ev : xEv} {cc : ByteArray} {own nm : String} {nL pc : Nat} (hd : decode cc pc = .ok (.iadd, 1)) : xOKp ev cc own nm nL pc (xf_bin (fun x y => x + y)) := by
  intro lv st hp pc' lv' st' he p l e R s m args below meth c D A H0 H Q cells slots sz locs ls hC hfr hlo hcR hsR hP hS hl kk
  obtain ⟨hx, hb, hml, hown, hts, hK, hA, hnm, hNw, hZ, hH0⟩ := hC
  unfold xf_bin at he
  split at he
  · cases he
    exact lv_iadd hx hb hd (kk ls hl)
  · cases he
theorem xs_isub {ev : xEv} {cc : ByteArray} {own nm : String} {nL pc : Nat} (hd : decode cc pc = .ok (.isub, 1)) : xOKp ev cc own nm nL pc (xf_bin (fun x y => x - y)) := by
  intro lv st hp pc' lv' st' he p l e R s m args below meth c D A H0 H Q cells slots sz locs ls hC hfr hlo hcR hsR hP hS hl kk
  obtain ⟨hx, hb, hml, hown, hts, hK, hA, hnm, hNw, hZ, hH0⟩ := hC
  unfold xf_bin at he
  split at he
  · cases he
    exact lv_isub hx hb hd (kk ls hl)
  · cases he
theorem xs_imul {ev : xEv} {cc : ByteArray} {own nm : String} {nL pc : Nat} (hd : decode cc pc = .ok (.imul, 1)) : xOKp ev cc own nm nL pc (xf_bin (fun x y => x * y)) := by
  intro lv st hp pc' lv' st' he p l e R s m args below meth c D A H0 H Q cells slots sz locs ls hC hfr hlo hcR hsR hP hS hl kk
  obtain ⟨hx, hb, hml, hown, hts, hK, hA, hnm, hNw, hZ, hH0⟩ := hC
  unfold xf_bin at he
  split at he
  · cases he
    exact lv_imul hx hb hd (kk ls hl)
  · cases he
theorem xs_iand {ev : xEv} {cc : ByteArray} {own nm : String} {nL pc : Nat} (hd : decode cc pc = .ok (.iand, 1)) : xOKp ev cc own nm nL pc (xf_bin (fun x y => x &&& y)) := by
  intro lv st hp pc' lv' st' he p l e R s m args below meth c D A H0 H Q cells slots sz locs ls hC hfr hlo hcR hsR hP hS hl kk
  obtain ⟨hx, hb, hml, hown, hts, hK, hA, hnm, hNw, hZ, hH0⟩ := hC
  unfold xf_bin at he
  split at he
  · cases he
    exact lv_iand hx hb hd (kk ls hl)
  · cases he
theorem xs_ior {ev : xEv} {cc : ByteArray} {own nm : String} {nL pc : Nat} (hd : decode cc pc = .ok (.ior, 1)) : xOKp ev cc own nm nL pc (xf_bin (fun x y => x ||| y)) := by
  intro lv st hp pc' lv' st' he p l e R s m args below meth c D A H0 H Q cells slots sz locs ls hC hfr hlo hcR hsR hP hS hl kk
  obtain ⟨hx, hb, hml, hown, hts, hK, hA, hnm, hNw, hZ, hH0⟩ := hC
  unfold xf_bin at he
  split at he
  · cases he
    exact lv_ior hx hb hd (kk ls hl)
  · cases he
theorem xs_ishl {ev : xEv} {cc : ByteArray} {own nm : String} {nL pc : Nat} (hd : decode cc pc = .ok (.ishl, 1)) : xOKp ev cc own nm nL pc (xf_bin (fun x y => x <<< (y &&& 31))) := by
  intro lv st hp pc' lv' st' he p l e R s m args below meth c D A H0 H Q cells slots sz locs ls hC hfr hlo hcR hsR hP hS hl kk
  obtain ⟨hx, hb, hml, hown, hts, hK, hA, hnm, hNw, hZ, hH0⟩ := hC
  unfold xf_bin at he
  split at he
  · cases he
    exact lv_ishl hx hb hd (kk ls hl)
  · cases he
theorem xs_ishr {ev : xEv} {cc : ByteArray} {own nm : String} {nL pc : Nat} (hd : decode cc pc = .ok (.ishr, 1)) : xOKp ev cc own nm nL pc (xf_bin (fun x y => x >>> (y &&& 31))) := by
  intro lv st hp pc' lv' st' he p l e R s m args below meth c D A H0 H Q cells slots sz locs ls hC hfr hlo hcR hsR hP hS hl kk
  obtain ⟨hx, hb, hml, hown, hts, hK, hA, hnm, hNw, hZ, hH0⟩ := hC
  unfold xf_bin at he
  split at he
  · cases he
    exact lv_ishr hx hb hd (kk ls hl)
  · cases he
theorem xs_iushr {ev : xEv} {cc : ByteArray} {own nm : String} {nL pc : Nat} (hd : decode cc pc = .ok (.iushr, 1)) : xOKp ev cc own nm nL pc (xf_bin (fun x y => (x.toUInt32 >>> (y.toUInt32 &&& Int32.toUInt32 31)).toInt32)) := by
  intro lv st hp pc' lv' st' he p l e R s m args below meth c D A H0 H Q cells slots sz locs ls hC hfr hlo hcR hsR hP hS hl kk
  obtain ⟨hx, hb, hml, hown, hts, hK, hA, hnm, hNw, hZ, hH0⟩ := hC
  unfold xf_bin at he
  split at he
  · cases he
    exact lv_iushr hx hb hd rfl (kk ls hl)
  · cases he
def xf_div (f : Int32 → Int32 → Int32) : xF := fun pc lv st _ => match st with
  | .int y :: .int x :: r => if y = 0 then none else some (pc + 1, lv, .int (f x y) :: r)
  | _ => none
theorem xs_idiv {ev : xEv} {cc : ByteArray} {own nm : String} {nL pc : Nat} (hd : decode cc pc = .ok (.idiv, 1)) : xOKp ev cc own nm nL pc (xf_div (fun x y => x / y)) := by
  intro lv st hp pc' lv' st' he p l e R s m args below meth c D A H0 H Q cells slots sz locs ls hC hfr hlo hcR hsR hP hS hl kk
  obtain ⟨hx, hb, hml, hown, hts, hK, hA, hnm, hNw, hZ, hH0⟩ := hC
  unfold xf_div at he
  split at he
  · split at he
    · cases he
    · next hne =>
      cases he
      exact lv_idiv hx hb hd hne (kk ls hl)
  · cases he
theorem xs_irem {ev : xEv} {cc : ByteArray} {own nm : String} {nL pc : Nat} (hd : decode cc pc = .ok (.irem, 1)) : xOKp ev cc own nm nL pc (xf_div (fun x y => x - x / y * y)) := by
  intro lv st hp pc' lv' st' he p l e R s m args below meth c D A H0 H Q cells slots sz locs ls hC hfr hlo hcR hsR hP hS hl kk
  obtain ⟨hx, hb, hml, hown, hts, hK, hA, hnm, hNw, hZ, hH0⟩ := hC
  unfold xf_div at he
  split at he
  · split at he
    · cases he
    · next hne =>
      cases he
      exact lv_irem hx hb hd hne (kk ls hl)
  · cases he
def xf_un (f : Int32 → Int32) : xF := fun pc lv st _ => match st with
  | .int x :: r => some (pc + 1, lv, .int (f x) :: r)
  | _ => none
theorem xs_ineg {ev : xEv} {cc : ByteArray} {own nm : String} {nL pc : Nat} (hd : decode cc pc = .ok (.ineg, 1)) : xOKp ev cc own nm nL pc (xf_un (fun x => -x)) := by
  intro lv st hp pc' lv' st' he p l e R s m args below meth c D A H0 H Q cells slots sz locs ls hC hfr hlo hcR hsR hP hS hl kk
  obtain ⟨hx, hb, hml, hown, hts, hK, hA, hnm, hNw, hZ, hH0⟩ := hC
  unfold xf_un at he
  split at he
  · cases he
    exact lv_ineg hx hb hd (kk ls hl)
  · cases he
theorem xs_i2c {ev : xEv} {cc : ByteArray} {own nm : String} {nL pc : Nat} (hd : decode cc pc = .ok (.i2c, 1)) : xOKp ev cc own nm nL pc (xf_un (fun x => (x.toUInt32 % 65536).toInt32)) := by
  intro lv st hp pc' lv' st' he p l e R s m args below meth c D A H0 H Q cells slots sz locs ls hC hfr hlo hcR hsR hP hS hl kk
  obtain ⟨hx, hb, hml, hown, hts, hK, hA, hnm, hNw, hZ, hH0⟩ := hC
  unfold xf_un at he
  split at he
  · cases he
    exact lv_i2c hx hb hd rfl (kk ls hl)
  · cases he
theorem xs_i2b {ev : xEv} {cc : ByteArray} {own nm : String} {nL pc : Nat} (hd : decode cc pc = .ok (.i2b, 1)) : xOKp ev cc own nm nL pc (xf_un (fun x => x.toInt8.toInt32)) := by
  intro lv st hp pc' lv' st' he p l e R s m args below meth c D A H0 H Q cells slots sz locs ls hC hfr hlo hcR hsR hP hS hl kk
  obtain ⟨hx, hb, hml, hown, hts, hK, hA, hnm, hNw, hZ, hH0⟩ := hC
  unfold xf_un at he
  split at he
  · cases he
    exact lv_i2b hx hb hd rfl (kk ls hl)
  · cases he
def xf_lbin (f : Int64 → Int64 → Int64) : xF := fun pc lv st _ => match st with
  | .long y :: .long x :: r => some (pc + 1, lv, .long (f x y) :: r)
  | _ => none
theorem xs_ladd {ev : xEv} {cc : ByteArray} {own nm : String} {nL pc : Nat} (hd : decode cc pc = .ok (.ladd, 1)) : xOKp ev cc own nm nL pc (xf_lbin (fun x y => x + y)) := by
  intro lv st hp pc' lv' st' he p l e R s m args below meth c D A H0 H Q cells slots sz locs ls hC hfr hlo hcR hsR hP hS hl kk
  obtain ⟨hx, hb, hml, hown, hts, hK, hA, hnm, hNw, hZ, hH0⟩ := hC
  unfold xf_lbin at he
  split at he
  · cases he
    exact lv_ladd hx hb hd (kk ls hl)
  · cases he
theorem xs_lsub {ev : xEv} {cc : ByteArray} {own nm : String} {nL pc : Nat} (hd : decode cc pc = .ok (.lsub, 1)) : xOKp ev cc own nm nL pc (xf_lbin (fun x y => x - y)) := by
  intro lv st hp pc' lv' st' he p l e R s m args below meth c D A H0 H Q cells slots sz locs ls hC hfr hlo hcR hsR hP hS hl kk
  obtain ⟨hx, hb, hml, hown, hts, hK, hA, hnm, hNw, hZ, hH0⟩ := hC
  unfold xf_lbin at he
  split at he
  · cases he
    exact lv_lsub hx hb hd (kk ls hl)
  · cases he
theorem xs_lmul {ev : xEv} {cc : ByteArray} {own nm : String} {nL pc : Nat} (hd : decode cc pc = .ok (.lmul, 1)) : xOKp ev cc own nm nL pc (xf_lbin (fun x y => x * y)) := by
  intro lv st hp pc' lv' st' he p l e R s m args below meth c D A H0 H Q cells slots sz locs ls hC hfr hlo hcR hsR hP hS hl kk
  obtain ⟨hx, hb, hml, hown, hts, hK, hA, hnm, hNw, hZ, hH0⟩ := hC
  unfold xf_lbin at he
  split at he
  · cases he
    exact lv_lmul hx hb hd (kk ls hl)
  · cases he
def xf_ldiv (f : Int64 → Int64 → Int64) : xF := fun pc lv st _ => match st with
  | .long y :: .long x :: r => if y = 0 then none else some (pc + 1, lv, .long (f x y) :: r)
  | _ => none
theorem xs_ldiv {ev : xEv} {cc : ByteArray} {own nm : String} {nL pc : Nat} (hd : decode cc pc = .ok (.ldiv, 1)) : xOKp ev cc own nm nL pc (xf_ldiv (fun x y => x / y)) := by
  intro lv st hp pc' lv' st' he p l e R s m args below meth c D A H0 H Q cells slots sz locs ls hC hfr hlo hcR hsR hP hS hl kk
  obtain ⟨hx, hb, hml, hown, hts, hK, hA, hnm, hNw, hZ, hH0⟩ := hC
  unfold xf_ldiv at he
  split at he
  · split at he
    · cases he
    · next hne =>
      cases he
      exact lv_ldiv hx hb hd hne (kk ls hl)
  · cases he
theorem xs_lrem {ev : xEv} {cc : ByteArray} {own nm : String} {nL pc : Nat} (hd : decode cc pc = .ok (.lrem, 1)) : xOKp ev cc own nm nL pc (xf_ldiv (fun x y => x - x / y * y)) := by
  intro lv st hp pc' lv' st' he p l e R s m args below meth c D A H0 H Q cells slots sz locs ls hC hfr hlo hcR hsR hP hS hl kk
  obtain ⟨hx, hb, hml, hown, hts, hK, hA, hnm, hNw, hZ, hH0⟩ := hC
  unfold xf_ldiv at he
  split at he
  · split at he
    · cases he
    · next hne =>
      cases he
      exact lv_lrem hx hb hd hne (kk ls hl)
  · cases he
def xf_lcmp : xF := fun pc lv st _ => match st with
  | .long y :: .long x :: r => some (pc + 1, lv, .int (lg_cmp x y) :: r)
  | _ => none
theorem xs_lcmp {ev : xEv} {cc : ByteArray} {own nm : String} {nL pc : Nat} (hd : decode cc pc = .ok (.lcmp, 1)) : xOKp ev cc own nm nL pc xf_lcmp := by
  intro lv st hp pc' lv' st' he p l e R s m args below meth c D A H0 H Q cells slots sz locs ls hC hfr hlo hcR hsR hP hS hl kk
  obtain ⟨hx, hb, hml, hown, hts, hK, hA, hnm, hNw, hZ, hH0⟩ := hC
  unfold xf_lcmp at he
  split at he
  · cases he
    exact W.lcmp hx hb hd (kk ls hl)
  · cases he
def xf_i2l : xF := fun pc lv st _ => match st with
  | .int x :: r => some (pc + 1, lv, .long x.toInt64 :: r)
  | _ => none
def xf_l2i : xF := fun pc lv st _ => match st with
  | .long x :: r => some (pc + 1, lv, .int x.toInt32 :: r)
  | _ => none
theorem xs_i2l {ev : xEv} {cc : ByteArray} {own nm : String} {nL pc : Nat} (hd : decode cc pc = .ok (.i2l, 1)) : xOKp ev cc own nm nL pc xf_i2l := by
  intro lv st hp pc' lv' st' he p l e R s m args below meth c D A H0 H Q cells slots sz locs ls hC hfr hlo hcR hsR hP hS hl kk
  obtain ⟨hx, hb, hml, hown, hts, hK, hA, hnm, hNw, hZ, hH0⟩ := hC
  unfold xf_i2l at he
  split at he
  · cases he
    exact lv_i2l hx hb hd rfl (kk ls hl)
  · cases he
theorem xs_l2i {ev : xEv} {cc : ByteArray} {own nm : String} {nL pc : Nat} (hd : decode cc pc = .ok (.l2i, 1)) : xOKp ev cc own nm nL pc xf_l2i := by
  intro lv st hp pc' lv' st' he p l e R s m args below meth c D A H0 H Q cells slots sz locs ls hC hfr hlo hcR hsR hP hS hl kk
  obtain ⟨hx, hb, hml, hown, hts, hK, hA, hnm, hNw, hZ, hH0⟩ := hC
  unfold xf_l2i at he
  split at he
  · cases he
    exact lv_l2i hx hb hd rfl (kk ls hl)
  · cases he
def xf_dup : xF := fun pc lv st _ => match st with
  | a :: r => if a.category = 1 then some (pc + 1, lv, a :: a :: r) else none
  | _ => none
def xf_pop : xF := fun pc lv st _ => match st with
  | a :: r => if a.category = 1 then some (pc + 1, lv, r) else none
  | _ => none
def xf_dupx1 : xF := fun pc lv st _ => match st with
  | a :: b :: r => if a.category = 1 ∧ b.category = 1 then some (pc + 1, lv, a :: b :: a :: r) else none
  | _ => none
def xf_dup2 : xF := fun pc lv st _ => match st with
  | a :: b :: r => if a.category = 1 ∧ b.category = 1 then some (pc + 1, lv, a :: b :: a :: b :: r) else none
  | _ => none
theorem xs_dup {ev : xEv} {cc : ByteArray} {own nm : String} {nL pc : Nat} (hd : decode cc pc = .ok (.dup, 1)) : xOKp ev cc own nm nL pc xf_dup := by
  intro lv st hp pc' lv' st' he p l e R s m args below meth c D A H0 H Q cells slots sz locs ls hC hfr hlo hcR hsR hP hS hl kk
  obtain ⟨hx, hb, hml, hown, hts, hK, hA, hnm, hNw, hZ, hH0⟩ := hC
  unfold xf_dup at he
  split at he
  · split at he
    · next hh =>
      cases he
      exact lv_dup hx hb hd hh (kk ls hl)
    · cases he
  · cases he
theorem xs_pop {ev : xEv} {cc : ByteArray} {own nm : String} {nL pc : Nat} (hd : decode cc pc = .ok (.pop, 1)) : xOKp ev cc own nm nL pc xf_pop := by
  intro lv st hp pc' lv' st' he p l e R s m args below meth c D A H0 H Q cells slots sz locs ls hC hfr hlo hcR hsR hP hS hl kk
  obtain ⟨hx, hb, hml, hown, hts, hK, hA, hnm, hNw, hZ, hH0⟩ := hC
  unfold xf_pop at he
  split at he
  · split at he
    · next hh =>
      cases he
      exact lv_pop hx hb hd hh (kk ls hl)
    · cases he
  · cases he
theorem xs_dupx1 {ev : xEv} {cc : ByteArray} {own nm : String} {nL pc : Nat} (hd : decode cc pc = .ok (.dup_x1, 1)) : xOKp ev cc own nm nL pc xf_dupx1 := by
  intro lv st hp pc' lv' st' he p l e R s m args below meth c D A H0 H Q cells slots sz locs ls hC hfr hlo hcR hsR hP hS hl kk
  obtain ⟨hx, hb, hml, hown, hts, hK, hA, hnm, hNw, hZ, hH0⟩ := hC
  unfold xf_dupx1 at he
  split at he
  · split at he
    · next hh =>
      cases he
      exact lv_dup_x1 hx hb hd hh.1 hh.2 (kk ls hl)
    · cases he
  · cases he
theorem xs_dup2 {ev : xEv} {cc : ByteArray} {own nm : String} {nL pc : Nat} (hd : decode cc pc = .ok (.dup2, 1)) : xOKp ev cc own nm nL pc xf_dup2 := by
  intro lv st hp pc' lv' st' he p l e R s m args below meth c D A H0 H Q cells slots sz locs ls hC hfr hlo hcR hsR hP hS hl kk
  obtain ⟨hx, hb, hml, hown, hts, hK, hA, hnm, hNw, hZ, hH0⟩ := hC
  unfold xf_dup2 at he
  split at he
  · split at he
    · next hh =>
      cases he
      exact lv_dup2_11 hx hb hd hh.1 hh.2 (kk ls hl)
    · cases he
  · cases he
def xf_if_eq (tgt : Nat) : xF := fun pc lv st _ => match st with
  | .int x :: r => if x = 0 then some (tgt, lv, r) else some (pc + 3, lv, r)
  | _ => none
theorem xs_if_eq {ev : xEv} {cc : ByteArray} {own nm : String} {nL pc : Nat} {off : Int} {tgt : Nat} (hd : decode cc pc = .ok (.ifCond .eq off, 3)) (ht : (pc : Int) + off = (tgt : Int)) : xOKp ev cc own nm nL pc (xf_if_eq tgt) := by
  intro lv st hp pc' lv' st' he p l e R s m args below meth c D A H0 H Q cells slots sz locs ls hC hfr hlo hcR hsR hP hS hl kk
  obtain ⟨hx, hb, hml, hown, hts, hK, hA, hnm, hNw, hZ, hH0⟩ := hC
  unfold xf_if_eq at he
  split at he
  · split at he
    · next hh =>
      cases he
      exact lv_if_eq hx hb hd ht (fun _ => kk ls hl) (fun z => absurd hh z)
    · next hh =>
      cases he
      exact lv_if_eq hx hb hd ht (fun z => absurd z hh) (fun _ => kk ls hl)
  · cases he
def xf_icmp_eq (tgt : Nat) : xF := fun pc lv st _ => match st with
  | .int y :: .int x :: r => if x = y then some (tgt, lv, r) else some (pc + 3, lv, r)
  | _ => none
theorem xs_icmp_eq {ev : xEv} {cc : ByteArray} {own nm : String} {nL pc : Nat} {off : Int} {tgt : Nat} (hd : decode cc pc = .ok (.if_icmp .eq off, 3)) (ht : (pc : Int) + off = (tgt : Int)) : xOKp ev cc own nm nL pc (xf_icmp_eq tgt) := by
  intro lv st hp pc' lv' st' he p l e R s m args below meth c D A H0 H Q cells slots sz locs ls hC hfr hlo hcR hsR hP hS hl kk
  obtain ⟨hx, hb, hml, hown, hts, hK, hA, hnm, hNw, hZ, hH0⟩ := hC
  unfold xf_icmp_eq at he
  split at he
  · split at he
    · next hh =>
      cases he
      exact lv_icmp_eq hx hb hd ht (fun _ => kk ls hl) (fun z => absurd hh z)
    · next hh =>
      cases he
      exact lv_icmp_eq hx hb hd ht (fun z => absurd z hh) (fun _ => kk ls hl)
  · cases he
def xf_if_ne (tgt : Nat) : xF := fun pc lv st _ => match st with
  | .int x :: r => if ¬ x = 0 then some (tgt, lv, r) else some (pc + 3, lv, r)
  | _ => none
theorem xs_if_ne {ev : xEv} {cc : ByteArray} {own nm : String} {nL pc : Nat} {off : Int} {tgt : Nat} (hd : decode cc pc = .ok (.ifCond .ne off, 3)) (ht : (pc : Int) + off = (tgt : Int)) : xOKp ev cc own nm nL pc (xf_if_ne tgt) := by
  intro lv st hp pc' lv' st' he p l e R s m args below meth c D A H0 H Q cells slots sz locs ls hC hfr hlo hcR hsR hP hS hl kk
  obtain ⟨hx, hb, hml, hown, hts, hK, hA, hnm, hNw, hZ, hH0⟩ := hC
  unfold xf_if_ne at he
  split at he
  · split at he
    · next hh =>
      cases he
      exact lv_if_ne hx hb hd ht (fun _ => kk ls hl) (fun z => absurd z hh)
    · next hh =>
      cases he
      exact lv_if_ne hx hb hd ht (fun z => absurd z hh) (fun _ => kk ls hl)
  · cases he
def xf_icmp_ne (tgt : Nat) : xF := fun pc lv st _ => match st with
  | .int y :: .int x :: r => if ¬ x = y then some (tgt, lv, r) else some (pc + 3, lv, r)
  | _ => none
theorem xs_icmp_ne {ev : xEv} {cc : ByteArray} {own nm : String} {nL pc : Nat} {off : Int} {tgt : Nat} (hd : decode cc pc = .ok (.if_icmp .ne off, 3)) (ht : (pc : Int) + off = (tgt : Int)) : xOKp ev cc own nm nL pc (xf_icmp_ne tgt) := by
  intro lv st hp pc' lv' st' he p l e R s m args below meth c D A H0 H Q cells slots sz locs ls hC hfr hlo hcR hsR hP hS hl kk
  obtain ⟨hx, hb, hml, hown, hts, hK, hA, hnm, hNw, hZ, hH0⟩ := hC
  unfold xf_icmp_ne at he
  split at he
  · split at he
    · next hh =>
      cases he
      exact lv_icmp_ne hx hb hd ht (fun _ => kk ls hl) (fun z => absurd z hh)
    · next hh =>
      cases he
      exact lv_icmp_ne hx hb hd ht (fun z => absurd z hh) (fun _ => kk ls hl)
  · cases he
def xf_if_lt (tgt : Nat) : xF := fun pc lv st _ => match st with
  | .int x :: r => if x < 0 then some (tgt, lv, r) else some (pc + 3, lv, r)
  | _ => none
theorem xs_if_lt {ev : xEv} {cc : ByteArray} {own nm : String} {nL pc : Nat} {off : Int} {tgt : Nat} (hd : decode cc pc = .ok (.ifCond .lt off, 3)) (ht : (pc : Int) + off = (tgt : Int)) : xOKp ev cc own nm nL pc (xf_if_lt tgt) := by
  intro lv st hp pc' lv' st' he p l e R s m args below meth c D A H0 H Q cells slots sz locs ls hC hfr hlo hcR hsR hP hS hl kk
  obtain ⟨hx, hb, hml, hown, hts, hK, hA, hnm, hNw, hZ, hH0⟩ := hC
  unfold xf_if_lt at he
  split at he
  · split at he
    · next hh =>
      cases he
      exact lv_if_lt hx hb hd ht (fun _ => kk ls hl) (fun z => absurd hh z)
    · next hh =>
      cases he
      exact lv_if_lt hx hb hd ht (fun z => absurd z hh) (fun _ => kk ls hl)
  · cases he
def xf_icmp_lt (tgt : Nat) : xF := fun pc lv st _ => match st with
  | .int y :: .int x :: r => if x < y then some (tgt, lv, r) else some (pc + 3, lv, r)
  | _ => none
theorem xs_icmp_lt {ev : xEv} {cc : ByteArray} {own nm : String} {nL pc : Nat} {off : Int} {tgt : Nat} (hd : decode cc pc = .ok (.if_icmp .lt off, 3)) (ht : (pc : Int) + off = (tgt : Int)) : xOKp ev cc own nm nL pc (xf_icmp_lt tgt) := by
  intro lv st hp pc' lv' st' he p l e R s m args below meth c D A H0 H Q cells slots sz locs ls hC hfr hlo hcR hsR hP hS hl kk
  obtain ⟨hx, hb, hml, hown, hts, hK, hA, hnm, hNw, hZ, hH0⟩ := hC
  unfold xf_icmp_lt at he
  split at he
  · split at he
    · next hh =>
      cases he
      exact lv_icmp_lt hx hb hd ht (fun _ => kk ls hl) (fun z => absurd hh z)
    · next hh =>
      cases he
      exact lv_icmp_lt hx hb hd ht (fun z => absurd z hh) (fun _ => kk ls hl)
  · cases he
def xf_if_ge (tgt : Nat) : xF := fun pc lv st _ => match st with
  | .int x :: r => if 0 ≤ x then some (tgt, lv, r) else some (pc + 3, lv, r)
  | _ => none
theorem xs_if_ge {ev : xEv} {cc : ByteArray} {own nm : String} {nL pc : Nat} {off : Int} {tgt : Nat} (hd : decode cc pc = .ok (.ifCond .ge off, 3)) (ht : (pc : Int) + off = (tgt : Int)) : xOKp ev cc own nm nL pc (xf_if_ge tgt) := by
  intro lv st hp pc' lv' st' he p l e R s m args below meth c D A H0 H Q cells slots sz locs ls hC hfr hlo hcR hsR hP hS hl kk
  obtain ⟨hx, hb, hml, hown, hts, hK, hA, hnm, hNw, hZ, hH0⟩ := hC
  unfold xf_if_ge at he
  split at he
  · split at he
    · next hh =>
      cases he
      exact lv_if_ge hx hb hd ht (fun _ => kk ls hl) (fun z => absurd hh z)
    · next hh =>
      cases he
      exact lv_if_ge hx hb hd ht (fun z => absurd z hh) (fun _ => kk ls hl)
  · cases he
def xf_icmp_ge (tgt : Nat) : xF := fun pc lv st _ => match st with
  | .int y :: .int x :: r => if y ≤ x then some (tgt, lv, r) else some (pc + 3, lv, r)
  | _ => none
theorem xs_icmp_ge {ev : xEv} {cc : ByteArray} {own nm : String} {nL pc : Nat} {off : Int} {tgt : Nat} (hd : decode cc pc = .ok (.if_icmp .ge off, 3)) (ht : (pc : Int) + off = (tgt : Int)) : xOKp ev cc own nm nL pc (xf_icmp_ge tgt) := by
  intro lv st hp pc' lv' st' he p l e R s m args below meth c D A H0 H Q cells slots sz locs ls hC hfr hlo hcR hsR hP hS hl kk
  obtain ⟨hx, hb, hml, hown, hts, hK, hA, hnm, hNw, hZ, hH0⟩ := hC
  unfold xf_icmp_ge at he
  split at he
  · split at he
    · next hh =>
      cases he
      exact lv_icmp_ge hx hb hd ht (fun _ => kk ls hl) (fun z => absurd hh z)
    · next hh =>
      cases he
      exact lv_icmp_ge hx hb hd ht (fun z => absurd z hh) (fun _ => kk ls hl)
  · cases he
def xf_if_gt (tgt : Nat) : xF := fun pc lv st _ => match st with
  | .int x :: r => if 0 < x then some (tgt, lv, r) else some (pc + 3, lv, r)
  | _ => none
theorem xs_if_gt {ev : xEv} {cc : ByteArray} {own nm : String} {nL pc : Nat} {off : Int} {tgt : Nat} (hd : decode cc pc = .ok (.ifCond .gt off, 3)) (ht : (pc : Int) + off = (tgt : Int)) : xOKp ev cc own nm nL pc (xf_if_gt tgt) := by
  intro lv st hp pc' lv' st' he p l e R s m args below meth c D A H0 H Q cells slots sz locs ls hC hfr hlo hcR hsR hP hS hl kk
  obtain ⟨hx, hb, hml, hown, hts, hK, hA, hnm, hNw, hZ, hH0⟩ := hC
  unfold xf_if_gt at he
  split at he
  · split at he
    · next hh =>
      cases he
      exact lv_if_gt hx hb hd ht (fun _ => kk ls hl) (fun z => absurd hh z)
    · next hh =>
      cases he
      exact lv_if_gt hx hb hd ht (fun z => absurd z hh) (fun _ => kk ls hl)
  · cases he
def xf_icmp_gt (tgt : Nat) : xF := fun pc lv st _ => match st with
  | .int y :: .int x :: r => if y < x then some (tgt, lv, r) else some (pc + 3, lv, r)
  | _ => none
theorem xs_icmp_gt {ev : xEv} {cc : ByteArray} {own nm : String} {nL pc : Nat} {off : Int} {tgt : Nat} (hd : decode cc pc = .ok (.if_icmp .gt off, 3)) (ht : (pc : Int) + off = (tgt : Int)) : xOKp ev cc own nm nL pc (xf_icmp_gt tgt) := by
  intro lv st hp pc' lv' st' he p l e R s m args below meth c D A H0 H Q cells slots sz locs ls hC hfr hlo hcR hsR hP hS hl kk
  obtain ⟨hx, hb, hml, hown, hts, hK, hA, hnm, hNw, hZ, hH0⟩ := hC
  unfold xf_icmp_gt at he
  split at he
  · split at he
    · next hh =>
      cases he
      exact lv_icmp_gt hx hb hd ht (fun _ => kk ls hl) (fun z => absurd hh z)
    · next hh =>
      cases he
      exact lv_icmp_gt hx hb hd ht (fun z => absurd z hh) (fun _ => kk ls hl)
  · cases he
def xf_if_le (tgt : Nat) : xF := fun pc lv st _ => match st with
  | .int x :: r => if x ≤ 0 then some (tgt, lv, r) else some (pc + 3, lv, r)
  | _ => none
theorem xs_if_le {ev : xEv} {cc : ByteArray} {own nm : String} {nL pc : Nat} {off : Int} {tgt : Nat} (hd : decode cc pc = .ok (.ifCond .le off, 3)) (ht : (pc : Int) + off = (tgt : Int)) : xOKp ev cc own nm nL pc (xf_if_le tgt) := by
  intro lv st hp pc' lv' st' he p l e R s m args below meth c D A H0 H Q cells slots sz locs ls hC hfr hlo hcR hsR hP hS hl kk
  obtain ⟨hx, hb, hml, hown, hts, hK, hA, hnm, hNw, hZ, hH0⟩ := hC
  unfold xf_if_le at he
  split at he
  · split at he
    · next hh =>
      cases he
      exact lv_if_le hx hb hd ht (fun _ => kk ls hl) (fun z => absurd hh z)
    · next hh =>
      cases he
      exact lv_if_le hx hb hd ht (fun z => absurd z hh) (fun _ => kk ls hl)
  · cases he
def xf_icmp_le (tgt : Nat) : xF := fun pc lv st _ => match st with
  | .int y :: .int x :: r => if x ≤ y then some (tgt, lv, r) else some (pc + 3, lv, r)
  | _ => none
theorem xs_icmp_le {ev : xEv} {cc : ByteArray} {own nm : String} {nL pc : Nat} {off : Int} {tgt : Nat} (hd : decode cc pc = .ok (.if_icmp .le off, 3)) (ht : (pc : Int) + off = (tgt : Int)) : xOKp ev cc own nm nL pc (xf_icmp_le tgt) := by
  intro lv st hp pc' lv' st' he p l e R s m args below meth c D A H0 H Q cells slots sz locs ls hC hfr hlo hcR hsR hP hS hl kk
  obtain ⟨hx, hb, hml, hown, hts, hK, hA, hnm, hNw, hZ, hH0⟩ := hC
  unfold xf_icmp_le at he
  split at he
  · split at he
    · next hh =>
      cases he
      exact lv_icmp_le hx hb hd ht (fun _ => kk ls hl) (fun z => absurd hh z)
    · next hh =>
      cases he
      exact lv_icmp_le hx hb hd ht (fun z => absurd z hh) (fun _ => kk ls hl)
  · cases he
def xf_goto (tgt : Nat) : xF := fun _ lv st _ => some (tgt, lv, st)
theorem xs_goto {ev : xEv} {cc : ByteArray} {own nm : String} {nL pc : Nat} {off : Int} {tgt : Nat} (hd : decode cc pc = .ok (.goto off, 3)) (ht : (pc : Int) + off = (tgt : Int)) : xOKp ev cc own nm nL pc (xf_goto tgt) := by
  intro lv st hp pc' lv' st' he p l e R s m args below meth c D A H0 H Q cells slots sz locs ls hC hfr hlo hcR hsR hP hS hl kk
  obtain ⟨hx, hb, hml, hown, hts, hK, hA, hnm, hNw, hZ, hH0⟩ := hC
  unfold xf_goto at he
  cases he
  exact lv_goto hx hb hd ht (kk ls hl)
def xf_ifnull (tgt : Nat) : xF := fun pc lv st _ => match st with
  | .ref _ :: r => some (pc + 3, lv, r)
  | .null :: r => some (tgt, lv, r)
  | _ => none
theorem xs_ifnull {ev : xEv} {cc : ByteArray} {own nm : String} {nL pc : Nat} {off : Int} {tgt : Nat} (hd : decode cc pc = .ok (.ifnull off, 3)) (ht : (pc : Int) + off = (tgt : Int)) : xOKp ev cc own nm nL pc (xf_ifnull tgt) := by
  intro lv st hp pc' lv' st' he p l e R s m args below meth c D A H0 H Q cells slots sz locs ls hC hfr hlo hcR hsR hP hS hl kk
  obtain ⟨hx, hb, hml, hown, hts, hK, hA, hnm, hNw, hZ, hH0⟩ := hC
  unfold xf_ifnull at he
  split at he
  · cases he
    exact lv_ifnull hx hb hd (kk ls hl)
  · cases he
    exact lv_ifnullN hx hb hd ht (kk ls hl)
  · cases he
def xf_ifnonnull (tgt : Nat) : xF := fun pc lv st _ => match st with
  | .ref _ :: r => some (tgt, lv, r)
  | .null :: r => some (pc + 3, lv, r)
  | _ => none
theorem xs_ifnonnull {ev : xEv} {cc : ByteArray} {own nm : String} {nL pc : Nat} {off : Int} {tgt : Nat} (hd : decode cc pc = .ok (.ifnonnull off, 3)) (ht : (pc : Int) + off = (tgt : Int)) : xOKp ev cc own nm nL pc (xf_ifnonnull tgt) := by
  intro lv st hp pc' lv' st' he p l e R s m args below meth c D A H0 H Q cells slots sz locs ls hC hfr hlo hcR hsR hP hS hl kk
  obtain ⟨hx, hb, hml, hown, hts, hK, hA, hnm, hNw, hZ, hH0⟩ := hC
  unfold xf_ifnonnull at he
  split at he
  · cases he
    exact lv_ifnonnull hx hb hd ht (kk ls hl)
  · cases he
    exact lv_ifnonnullN hx hb hd (kk ls hl)
  · cases he
/-- steps on String constants and their bytes: coder, value, the bytes' length, a byte -/
def xstr (ev : xEv) (j : Nat) (σ σ' : xS) : Prop := match j with
  | 0 => ∃ (i pc : Nat) (lv : xLv) (r : List Value) (hp : xH) (sz sl : Nat), i < 4 ∧ σ = (pc, lv, .ref (ev.2.1 i) :: r, hp, sz, sl) ∧ σ' = (pc + 3, lv, .int 0 :: r, hp, sz, sl)
  | 1 => ∃ (i pc : Nat) (lv : xLv) (r : List Value) (hp : xH) (sz sl : Nat), i < 4 ∧ σ = (pc, lv, .ref (ev.2.1 i) :: r, hp, sz, sl) ∧ σ' = (pc + 3, lv, .ref (ev.2.2.1 i) :: r, hp, sz, sl)
  | 2 => ∃ (i pc : Nat) (lv : xLv) (r : List Value) (hp : xH) (sz sl : Nat), i < 4 ∧ σ = (pc, lv, .ref (ev.2.2.1 i) :: r, hp, sz, sl) ∧ σ' = (pc + 1, lv, .int (Int32.ofNat (xsLen.getD i 0)) :: r, hp, sz, sl)
  | 3 => ∃ (i pc : Nat) (lv : xLv) (r : List Value) (hp : xH) (sz sl : Nat) (k : Int32), i < 4 ∧ ¬ (k < 0 ∨ xsLen.getD i 0 ≤ k.toNatClampNeg) ∧ σ = (pc, lv, .int k :: .ref (ev.2.2.1 i) :: r, hp, sz, sl) ∧ σ' = (pc + 1, lv, .int ((xsByt.getD i []).getD k.toNatClampNeg 0) :: r, hp, sz, sl)
  | _ => False
theorem xs_strC {ev : xEv} {cc : ByteArray} {own nm : String} {nL pc : Nat} {k : Nat} (hd : decode cc pc = .ok (.getfield k, 3)) (hw : Cond.fieldLink own k "java/lang/String" "coder" "B" ∈ xT) : xOKr 1 40 ev cc own nm nL pc (xstr ev 0) := by
  intro lv st hp sz sl pc' lv' st' hp' sz' sl' he
  obtain ⟨i, pc0, lv0, r, hp0, sz0, sl0, hi, e1, e2⟩ := he
  cases e1
  cases e2
  refine ⟨⟨Nat.le_refl _, Nat.le_refl _⟩, ?_⟩
  intro p l e R s m args below meth c D A H0 H Q z0 locs ls hC hfr hlo hz0 hcs hss hP hS hl kk
  obtain ⟨hx, hb, hml, hown, hts, hK, hA, hnm, hNw, hZ, hH0⟩ := hC
  subst hH0
  exact vk_getf hx hb (hZ.2.1.1 i hi).2.1 hS hown (hts _ hw) (fun _ h => h) hd (kk H locs ls hP hS hl)
theorem xs_strV {ev : xEv} {cc : ByteArray} {own nm : String} {nL pc : Nat} {k : Nat} (hd : decode cc pc = .ok (.getfield k, 3)) (hw : Cond.fieldLink own k "java/lang/String" "value" "[B" ∈ xT) : xOKr 1 40 ev cc own nm nL pc (xstr ev 1) := by
  intro lv st hp sz sl pc' lv' st' hp' sz' sl' he
  obtain ⟨i, pc0, lv0, r, hp0, sz0, sl0, hi, e1, e2⟩ := he
  cases e1
  cases e2
  refine ⟨⟨Nat.le_refl _, Nat.le_refl _⟩, ?_⟩
  intro p l e R s m args below meth c D A H0 H Q z0 locs ls hC hfr hlo hz0 hcs hss hP hS hl kk
  obtain ⟨hx, hb, hml, hown, hts, hK, hA, hnm, hNw, hZ, hH0⟩ := hC
  subst hH0
  exact vk_getf hx hb (hZ.2.1.1 i hi).2.2.1 hS hown (hts _ hw) (fun _ h => h) hd (kk H locs ls hP hS hl)
theorem xs_strL {ev : xEv} {cc : ByteArray} {own nm : String} {nL pc : Nat} (hd : decode cc pc = .ok (.arraylength, 1)) : xOKr 1 40 ev cc own nm nL pc (xstr ev 2) := by
  intro lv st hp sz sl pc' lv' st' hp' sz' sl' he
  obtain ⟨i, pc0, lv0, r, hp0, sz0, sl0, hi, e1, e2⟩ := he
  cases e1
  cases e2
  refine ⟨⟨Nat.le_refl _, Nat.le_refl _⟩, ?_⟩
  intro p l e R s m args below meth c D A H0 H Q z0 locs ls hC hfr hlo hz0 hcs hss hP hS hl kk
  obtain ⟨hx, hb, hml, hown, hts, hK, hA, hnm, hNw, hZ, hH0⟩ := hC
  subst hH0
  exact va_tlen hx hb (hZ.2.1.1 i hi).2.2.2 hS rfl hd (kk H locs ls hP hS hl)
theorem xs_strB {ev : xEv} {cc : ByteArray} {own nm : String} {nL pc : Nat} (hd : decode cc pc = .ok (.baload, 1)) : xOKr 1 40 ev cc own nm nL pc (xstr ev 3) := by
  intro lv st hp sz sl pc' lv' st' hp' sz' sl' he
  obtain ⟨i, pc0, lv0, r, hp0, sz0, sl0, k, hi, hin, e1, e2⟩ := he
  cases e1
  cases e2
  refine ⟨⟨Nat.le_refl _, Nat.le_refl _⟩, ?_⟩
  intro p l e R s m args below meth c D A H0 H Q z0 locs ls hC hfr hlo hz0 hcs hss hP hS hl kk
  obtain ⟨hx, hb, hml, hown, hts, hK, hA, hnm, hNw, hZ, hH0⟩ := hC
  subst hH0
  exact va_tb hx hb (hZ.2.1.1 i hi).2.2.2 hS hin rfl hd (kk H locs ls hP hS hl)
theorem xs_compact {ev : xEv} {cc : ByteArray} {own nm : String} {nL pc : Nat} {k : Nat} (hd : decode cc pc = .ok (.getstatic k, 3)) (hw : Cond.fieldLink own k "java/lang/String" "COMPACT_STRINGS" "Z" ∈ xT) : xOKp ev cc own nm nL pc (xf_push (.int 1) 3) := by
  intro lv st hp pc' lv' st' he p l e R s m args below meth c D A H0 H Q cells slots sz locs ls hC hfr hlo hcR hsR hP hS hl kk
  obtain ⟨hx, hb, hml, hown, hts, hK, hA, hnm, hNw, hZ, hH0⟩ := hC
  cases he
  subst hH0
  exact va_gets hx hb hZ.2.2.2.2.1 hS hown (hts _ hw) (fun _ h => h) hd (kk ls hl)
theorem x_ldcSW {p : Program} {l : Launch} {e : Env} {R : Room} {s : State} {m : MethodId} {args : Array Value} {below : List Frame} {meth : Method} {c : Code} {H : Heap} {locs : List Loc} {cells slots : Nat} {Q : State → Prop} {cc : ByteArray} {pc : Nat} {ls : Array Slot} {rest : List Value} (hexec : p.tables.exec = Jvm.exec) (hb : c.code = cc) {own tx : String} {index q : Nat} (hown : s.vm.findClass own = some m.cls) (hZ : vk_R own index tx q s) (hdg : decode cc pc = .ok (.ldc_w index, 3))
    (k : W p l e R s m args below meth c H locs cells slots Q (F0 m (pc + 3) ls (.ref q :: rest))) : W p l e R s m args below meth c H locs cells slots Q (F0 m pc ls rest) := by
  intro T hT X
  obtain ⟨t, a1, b1⟩ := k T hT X
  exact ⟨t, X.ldcStringW hexec hown (text := tx) (a := q) hZ.1 hZ.2 (g := F0 m pc ls rest) rfl (by rw [hb]; exact hdg) t a1, b1⟩
theorem xs_ldcS {ev : xEv} {cc : ByteArray} {own nm : String} {nL pc : Nat} {k i : Nat} {tx : String} (hd : decode cc pc = .ok (.ldc k, 2)) (hq : (own, k, tx, i) ∈ xStrs) : xOKp ev cc own nm nL pc (xf_push (.ref (ev.2.1 i)) 2) := by
  intro lv st hp pc' lv' st' he p l e R s m args below meth c D A H0 H Q cells slots sz locs ls hC hfr hlo hcR hsR hP hS hl kk
  obtain ⟨hx, hb, hml, hown, hts, hK, hA, hnm, hNw, hZ, hH0⟩ := hC
  cases he
  exact va_ldcS hx hb hown (hZ.1 _ hq) hd (kk ls hl)
theorem xs_ldcSW {ev : xEv} {cc : ByteArray} {own nm : String} {nL pc : Nat} {k i : Nat} {tx : String} (hd : decode cc pc = .ok (.ldc_w k, 3)) (hq : (own, k, tx, i) ∈ xStrs) : xOKp ev cc own nm nL pc (xf_push (.ref (ev.2.1 i)) 3) := by
  intro lv st hp pc' lv' st' he p l e R s m args below meth c D A H0 H Q cells slots sz locs ls hC hfr hlo hcR hsR hP hS hl kk
  obtain ⟨hx, hb, hml, hown, hts, hK, hA, hnm, hNw, hZ, hH0⟩ := hC
  cases he
  exact x_ldcSW hx hb hown (hZ.1 _ hq) hd (kk ls hl)
theorem xs_places {ev : xEv} {cc : ByteArray} {own nm : String} {nL pc : Nat} {k : Nat} (hd : decode cc pc = .ok (.getstatic k, 3)) (hw : Cond.fieldLink own k "AirMail$Spares" "PLACES" "[J" ∈ xT) : xOKp ev cc own nm nL pc (xf_push (.ref ev.2.2.2.1) 3) := by
  intro lv st hp pc' lv' st' he p l e R s m args below meth c D A H0 H Q cells slots sz locs ls hC hfr hlo hcR hsR hP hS hl kk
  obtain ⟨hx, hb, hml, hown, hts, hK, hA, hnm, hNw, hZ, hH0⟩ := hC
  cases he
  subst hH0
  exact va_gets hx hb hZ.2.2.1 hS hown (hts _ hw) (fun _ h => h) hd (kk ls hl)
def xf_aldT (a0 L : Nat) (xs : Nat → Int32) : xF := fun pc lv st _ => match st with
  | .int i :: .ref a :: r => if a = a0 then if i < 0 ∨ L ≤ i.toNatClampNeg then none else some (pc + 1, lv, .int (xs i.toNatClampNeg) :: r) else none
  | _ => none
theorem xs_aldT {ev : xEv} {cc : ByteArray} {own nm : String} {nL pc : Nat} (hd : decode cc pc = .ok (.iaload, 1)) : xOKp ev cc own nm nL pc (xf_aldT ev.2.2.2.2.1 ev.2.2.2.2.2.1 ev.2.2.2.2.2.2) := by
  intro lv st hp pc' lv' st' he p l e R s m args below meth c D A H0 H Q cells slots sz locs ls hC hfr hlo hcR hsR hP hS hl kk
  obtain ⟨hx, hb, hml, hown, hts, hK, hA, hnm, hNw, hZ, hH0⟩ := hC
  unfold xf_aldT at he
  split at he
  · next i a r =>
    split at he
    · next e1 =>
      subst e1
      split at he
      · cases he
      · next hin =>
        cases he
        subst hH0
        exact va_ti hx hb hZ.2.2.2.2.2.1 hS hin rfl hd (kk ls hl)
    · cases he
  · cases he
def xf_alenT (a0 L : Nat) : xF := fun pc lv st _ => match st with
  | .ref a :: r => if a = a0 then some (pc + 1, lv, .int (Int32.ofNat L) :: r) else none
  | _ => none
theorem xs_alenT {ev : xEv} {cc : ByteArray} {own nm : String} {nL pc : Nat} (hd : decode cc pc = .ok (.arraylength, 1)) : xOKp ev cc own nm nL pc (xf_alenT ev.2.2.2.2.1 ev.2.2.2.2.2.1) := by
  intro lv st hp pc' lv' st' he p l e R s m args below meth c D A H0 H Q cells slots sz locs ls hC hfr hlo hcR hsR hP hS hl kk
  obtain ⟨hx, hb, hml, hown, hts, hK, hA, hnm, hNw, hZ, hH0⟩ := hC
  unfold xf_alenT at he
  split at he
  · next a r =>
    split at he
    · next e1 =>
      subst e1
      cases he
      subst hH0
      exact va_tlen hx hb hZ.2.2.2.2.2.1 hS rfl hd (kk ls hl)
    · cases he
  · cases he
def xf_laldP (a0 : Nat) : xF := fun pc lv st _ => match st with
  | .int i :: .ref a :: r => if a = a0 then if i < 0 ∨ 8 ≤ i.toNatClampNeg then none else some (pc + 1, lv, .long (xPl i.toNatClampNeg) :: r) else none
  | _ => none
theorem xs_laldP {ev : xEv} {cc : ByteArray} {own nm : String} {nL pc : Nat} (hd : decode cc pc = .ok (.laload, 1)) : xOKp ev cc own nm nL pc (xf_laldP ev.2.2.2.1) := by
  intro lv st hp pc' lv' st' he p l e R s m args below meth c D A H0 H Q cells slots sz locs ls hC hfr hlo hcR hsR hP hS hl kk
  obtain ⟨hx, hb, hml, hown, hts, hK, hA, hnm, hNw, hZ, hH0⟩ := hC
  unfold xf_laldP at he
  split at he
  · next i a r =>
    split at he
    · next e1 =>
      subst e1
      split at he
      · cases he
      · next hin =>
        cases he
        subst hH0
        exact va_tl hx hb hZ.2.2.2.1 hS hin rfl hd (kk ls hl)
    · cases he
  · cases he
