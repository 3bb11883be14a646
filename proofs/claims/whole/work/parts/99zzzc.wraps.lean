/-! METHODS WITH A TABLE OF HANDLERS, by runs; steps that hold of launches without stack traces -/
theorem nx_ofWH {l : Launch} {y : MethodName} {ws ws' : List Cond} {rm : Room} {Pc : Array Value → State → Prop} {Qc : Array Value → State → Outcome → State → Prop} {mc ms : Nat} {free : Addr → Prop} {cc : ByteArray} {maxL : Nat} {ret : Option FieldType} {hh : List (Nat × Nat × Nat × Nat)}
    (hy : plainName y.cls = true) (hw : ws = Cond.codeWith y cc maxL ret hh :: ws')
    (body : ∀ p e s m args below meth c s₁, BodyLoose p l y (headSpec ws rm) cc maxL ret e s m args below meth c s₁ → c.maxLocals = maxL → Pc args s →
      W p l e (headSpec ws rm).room s m args below meth c s.heap [] 0 0 (MQ below Qc args s mc ms free) (entryFrame m args maxL)) : Met l y ws rm Pc Qc mc ms free := by
  refine MetFree.of_bodyS (code := cc) (maxLocals := maxL) (ret := ret) hy ?_ ?_
  · intro args s m h hn
    obtain ⟨m9, meth, c, hn9, h1, h2, h3, h4, -, h5, h6, -⟩ := Cond.codeWith_spec (atoms_spec (ws := ws) h _ (by rw [hw]; exact List.mem_cons_self))
    cases hn.symm.trans hn9
    exact ⟨meth, c, h1, h2, h3, h4, h5, h6⟩
  · intro p e s m args below meth c s₁ B hml hP _
    have hh0 : s₁.heap = s.heap := by rw [B.state]; rfl
    obtain ⟨t, a1, o, b1, b2, b3⟩ := body p e s m args below meth c s₁ B hml hP s₁ hh0 (Stand.of_body B)
    exact ⟨t, o, a1, b1, b2, ⟨b3.1, b3.2⟩⟩
/-- the contracts of what the table's methods do at depth d -/
def xAllM (ev : xEv) (prim : xRel) (d : Nat) : Prop := ∀ j av hp sz rv hp' sz' sl, xCalls ev xmi (xprog ev) prim d j av hp sz (rv, hp', sz', sl) → sz ≤ sz' ∧ ∀ (l : Launch) (D : va_G), xM l D vwCl (xK D ev) (xmi j).1 (xWs xmi j) d (40 * d) av hp sz rv hp' sz' sl
/-- a wrapper of the law that runs to its end -/
theorem wr_norm {ev : xEv} {prim : xRel} {d n : Nat} {y : MethodName} {cc : ByteArray} {maxL : Nat} {hh : List (Nat × Nat × Nat × Nat)} {code : List (Nat × xEn)} {av : List Value} {hp : xH} {sz : Nat} {rv : Option Value} {hp' : xH} {sz' sl : Nat}
    (hcall : xAllM ev prim d) (hy : plainName y.cls = true) (hok : ∀ q ∈ code, xEnOK ev xmi y.cls y.name cc maxL (some .int) q) (hlen : (lg_sl av).length ≤ maxL)
    (hrun : xrun ev.2.1 (xstr ev) (xCalls ev xmi (xprog ev) prim d) code n (0, lv_args 0 av, [], hp, sz, 0) (rv, hp', sz', sl)) :
    sz ≤ sz' ∧ ∀ (l : Launch) (D : va_G), Met l y (Cond.codeWith y cc maxL (some .int) hh :: xT) { frames := d + 12, cells := sz' - sz, slots := sl, locals := 40 * d + 400 } (va_Pc av (xPre D vwCl (xK D ev) hp sz)) (xQ D vwCl (xK D ev) rv hp' sz' (xD hp sz)) (sz' - sz) sl (xD hp sz) := by
  obtain ⟨⟨m1, -⟩, hs⟩ := x_sound (fs := xstr ev) (ret := some .int) (own := y.cls) (nm := y.name) (nL := maxL) (cc := cc) (fr := d) (lo := 40 * d) (fun pc op hm => hok _ hm) (fun pc j' k ci hm => ⟨1, 40, Nat.le_add_left 1 d, Nat.le_add_right 40 _, by
    rcases (hok _ hm : _ ∨ _) with h | h
    · exact h.2
    · rcases h.2.2.2.2 with ⟨h, -⟩ | ⟨h, -⟩ | ⟨h, -⟩ | ⟨h, -⟩ | ⟨h, -⟩ <;> exact absurd (show (5 : Nat) = _ from h) (by decide)⟩) (fun pc kind j' k ci hm => (hok _ hm : _ ∨ _).imp (fun h => h.1) (fun h => h)) (fun pc k hm => hok _ hm) hcall n 0 (lv_args 0 av) [] hp sz 0 rv hp' sz' sl hrun
  refine ⟨m1, fun l D => ?_⟩
  refine nx_ofWH (cc := cc) (maxL := maxL) (ret := some .int) (hh := hh) hy rfl ?_
  intro p e s m args below meth c s₁ B hml hv
  obtain ⟨rfl, hP, hK⟩ := hv
  have hts0 := atoms_spec (ws := Cond.codeWith y cc maxL (some .int) hh :: xT) B.pre
  have hts : ∀ w ∈ xT, w.before av.toArray s = true := fun w hw => hts0 w (List.mem_cons_of_mem _ hw)
  have hown : s.vm.findClass y.cls = some m.cls := findClass_of_methodNamed B.named
  have hin : meth.name = y.name := (name_of_methodNamed B.named B.method).1
  have hP' := hP.own
  have hA : ∀ q, s.heap.size ≤ q → xD hp sz q := fun q hq => Or.inr (by rw [← hP.1]; exact hq)
  have hl := lv_entry av (n := maxL) hlen
  rw [lg_entry_eq]
  generalize (lg_sl av ++ List.replicate (maxL - (lg_sl av).length) Slot.unset).toArray = ls at hl ⊢
  have hW := hs p l e (headSpec (Cond.codeWith y cc maxL (some .int) hh :: xT) { frames := d + 12, cells := sz' - sz, slots := sl, locals := 40 * d + 400 }).room s m av.toArray below meth c D (xD hp sz) s.heap s.heap sz [] ls (xQ D vwCl (xK D ev) rv hp' sz' (xD hp sz)) (xD hp sz) ⟨B.exec, B.bytes, hml, hown, hts, hK.1, hA, hin, hK.2.1, hK.2.2, rfl⟩ B.notSynchronized B.returns (show d + 1 ≤ d + 12 by omega) (show 40 + 40 * d ≤ 40 * d + 400 by omega) (Nat.le_refl _) (Nat.le_refl _) (Nat.le_refl _) hP' va_S.rf hl (fun _ h => h) (fun H' locs' t hP1 hS1 ht hWt => ⟨⟨rfl, by rw [ht]; exact hP1, va_K.moved hWt.alike hK.1, xNw.warm hWt hK.2.1, by
    rw [ht]
    exact xZ.step hWt hK.2.2 hS1.2.1 (fun q hq => hq.elim (fun ⟨z, hz⟩ => (hP1.2 q z hz).2) (fun h => Or.inr (Nat.le_trans m1 h)))⟩, hS1.F ht⟩)
  rw [Nat.sub_self] at hW
  exact hW
/-- a wrapper of the law whose call throws: its one handler takes it -/
theorem wr_thr {ev : xEv} {prim : xRel} {d dj n j k b eh ph : Nat} {y : MethodName} {cc : ByteArray} {maxL : Nat} {code : List (Nat × xEn)} {av As rest : List Value} {hp : xH} {sz pcC : Nat} {lvC : xLv} {hpT : xH} {szT slT : Nat} {fl : List Value} {rv : Option Value}
    (hdj : dj ≤ d) (hmj : (xmi j).2.2.1 ≤ 21) (hcall : xAllM ev prim d) (hy : plainName y.cls = true) (hok : ∀ q ∈ code, xEnOK ev xmi y.cls y.name cc maxL (some .int) q) (hlen : (lg_sl av).length ≤ maxL)
    (hrun : xrch ev.2.1 (xstr ev) (xCalls ev xmi (xprog ev) prim d) code n (0, lv_args 0 av, [], hp, sz, 0) (pcC, lvC, As.reverse ++ .ref b :: rest, hp, sz, 0))
    (hC : (pcC, Sum.inr (Sum.inl (0, j, k, 11))) ∈ code) (hAs : As.length = k) (hsum : (rest.map fun v => v.category).sum ≤ 8) (hb0 : hp b = some (.inr (11, fl)))
    (hthr : sz ≤ szT ∧ ∀ (l : Launch) (D : va_G), l.stackTraces = false → vx_Met l (xmi j).1 (xWs xmi j) { frames := dj + 10, cells := szT - sz + 1, slots := slT + 6, locals := 40 * dj + 200 } (va_Pc (.ref b :: As) (xPre D vwCl (xK D ev) hp sz)) (fun _ _ _ _ => False) (xX D ev hp sz hpT szT) (szT - sz + 1) (slT + 6) (xD hp sz))
    (hcov : pcC < eh) (hw13 : Cond.classLink y.cls 13 nseN ∈ xT)
    (htail : ∀ q : Nat, ∃ n2, xrun ev.2.1 (xstr ev) (xCalls ev xmi (xprog ev) prim d) code n2 (ph, lvC, [.ref q], hpT, szT + 1, slT + 6) (rv, hpT, szT + 1, slT + 6)) :
    sz ≤ szT + 1 ∧ ∀ (l : Launch) (D : va_G), l.stackTraces = false → Met l y (Cond.codeWith y cc maxL (some .int) [(0, eh, ph, 13)] :: xT) { frames := d + 12, cells := szT + 1 - sz, slots := slT + 6, locals := 40 * d + 400 } (va_Pc av (xPre D vwCl (xK D ev) hp sz)) (xQ D vwCl (xK D ev) rv hpT (szT + 1) (xD hp sz)) (szT + 1 - sz) (slT + 6) (xD hp sz) := by
  obtain ⟨m1, hM⟩ := hthr
  have hfsok : ∀ pc j' k ci, (pc, Sum.inr (Sum.inl (5, j', k, ci))) ∈ code → ∃ fq lq, fq ≤ d + 1 ∧ lq ≤ 40 + 40 * d ∧ xOKr fq lq ev cc y.cls y.name maxL pc (xstr ev j') := fun pc j' k ci hm => ⟨1, 40, Nat.le_add_left 1 d, Nat.le_add_right 40 _, by
    rcases (hok _ hm : _ ∨ _) with h | h
    · exact h.2
    · rcases h.2.2.2.2 with ⟨h, -⟩ | ⟨h, -⟩ | ⟨h, -⟩ | ⟨h, -⟩ | ⟨h, -⟩ <;> exact absurd (show (5 : Nat) = _ from h) (by decide)⟩
  have hcaok : ∀ pc kind j' k ci, (pc, Sum.inr (Sum.inl (kind, j', k, ci))) ∈ code → kind = 5 ∨ xCallOK y.cls cc pc kind k ci (xmi j').1 (xmi j').2.1 (xmi j').2.2.1 (xmi j').2.2.2 := fun pc kind j' k ci hm => (hok _ hm : _ ∨ _).imp (fun h => h.1) (fun h => h)
  obtain ⟨-, hs⟩ := x_reach (fs := xstr ev) (own := y.cls) (nm := y.name) (nL := maxL) (cc := cc) (fr := d) (lo := 40 * d) (fun pc op hm => hok _ hm) hfsok hcaok hcall n 0 (lv_args 0 av) [] hp sz 0 pcC lvC (As.reverse ++ .ref b :: rest) hp sz 0 hrun
  refine ⟨by omega, fun l D hl => ?_⟩
  refine nx_ofWH (cc := cc) (maxL := maxL) (ret := some .int) (hh := [(0, eh, ph, 13)]) hy rfl ?_
  intro p e s m args below meth c s₁ B hml hv
  obtain ⟨rfl, hP, hK⟩ := hv
  have hts0 := atoms_spec (ws := Cond.codeWith y cc maxL (some .int) [(0, eh, ph, 13)] :: xT) B.pre
  have hts : ∀ w ∈ xT, w.before av.toArray s = true := fun w hw => hts0 w (List.mem_cons_of_mem _ hw)
  have hown : s.vm.findClass y.cls = some m.cls := findClass_of_methodNamed B.named
  have hin : meth.name = y.name := (name_of_methodNamed B.named B.method).1
  have htb : c.exceptionTable.toList = tableOf [(0, eh, ph, 13)]   := vx_table (x := y) B (hts0 _ List.mem_cons_self)
  have hP' := hP.own
  have hA : ∀ q, s.heap.size ≤ q → xD hp sz q := fun q hq => Or.inr (by rw [← hP.1]; exact hq)
  have hl0 := lv_entry av (n := maxL) hlen
  rw [lg_entry_eq]
  generalize (lg_sl av ++ List.replicate (maxL - (lg_sl av).length) Slot.unset).toArray = ls at hl0 ⊢
  have hCx : xC p s m av.toArray meth c cc y.cls y.name maxL D ev (xD hp sz) s.heap := ⟨B.exec, B.bytes, hml, hown, hts, hK.1, hA, hin, hK.2.1, hK.2.2, rfl⟩
  have hW := hs p l e (headSpec (Cond.codeWith y cc maxL (some .int) [(0, eh, ph, 13)] :: xT) { frames := d + 12, cells := szT + 1 - sz, slots := slT + 6, locals := 40 * d + 400 }).room s m av.toArray below meth c D (xD hp sz) s.heap s.heap sz [] ls (MQ below (xQ D vwCl (xK D ev) rv hpT (szT + 1) (xD hp sz)) av.toArray s (szT + 1 - sz) (slT + 6) (xD hp sz)) hCx (show d + 1 ≤ d + 12 by omega) (show 40 + 40 * d ≤ 40 * d + 400 by omega) (Nat.le_refl _) (show sz - sz ≤ szT + 1 - sz by omega) (Nat.zero_le _) hP' va_S.rf hl0 (fun H' locs' ls' hP1 hS1 hl1 => by
    obtain ⟨⟨d1, d2, d3⟩, hL, hwc, hwi, hkinds⟩ := (hcaok pcC 0 j k 11 hC).resolve_left (by decide)
    have hlenk : ∀ sig, parseMethodDescriptor (xmi j).1.desc = some sig → k = sig.parameters.length := fun sig h => by rw [h] at d3; exact (Option.some.inj d3).symm
    have hws : ∀ w ∈ xWs xmi j, ∀ (a' : Array Value) (U : State), s.WarmedH U.vm → w.before a' U = true := fun w hw => by
      rcases List.mem_cons.mp hw with rfl | hw
      · exact xpay hts hwc
      · exact xpay hts hw
    have hbl : FrameBlind (va_Pc (.ref b :: As) (xPre D vwCl (xK D ev) hp sz)) := fun a U g mk q => ⟨q.1, q.2.1, xK.blind g mk a q.2.2⟩
    have hpre : ∀ U : State, U.heap = H' → s.WarmedH U.vm → va_Pc (.ref b :: As) (xPre D vwCl (xK D ev) hp sz) (Value.ref b :: As).toArray U := fun U hU hW => ⟨rfl, by rw [hU]; exact hP1.weaken (fun _ _ => trivial), va_K.moved hW.alike hK.1, xNw.warm hW hK.2.1, by rw [hU]; exact xZ.step hW hK.2.2 hS1.2.1 (fun _ h => h)⟩
    rcases hkinds with ⟨-, index, C, T, N, k1, k2, k3, k4, k5⟩ | ⟨h, -⟩ | ⟨h, -⟩ | ⟨h, -⟩ | ⟨h, -⟩
    · have hrm : 8 + ((xmi j).2.2.1 + 11) + (40 * dj + 200) ≤ 40 * d + 400 := by omega
      have hR := vx_runV (p := p) (e := e) (below := below) (meth := meth) (As := As) (rest := rest) (b := b) (C := C) (n := k) (bytes := (xmi j).2.1) (maxL := (xmi j).2.2.1) (ret := (xmi j).2.2.2) (cells := sz - sz) (slots := 0) (locs := locs') (H := H') (g := F0 m pcC ls' (As.reverse ++ .ref b :: rest)) (R := (headSpec (Cond.codeWith y cc maxL (some .int) [(0, eh, ph, 13)] :: xT) { frames := d + 12, cells := szT + 1 - sz, slots := slT + 6, locals := 40 * d + 400 }).room) ⟨B.exec, B.bytes, hml, hown, hts⟩ (hM l D hl) ⟨⟨rfl, rfl, (show dj + 10 + 1 ≤ d + 12 by omega), hrm, hws, List.mem_cons_self, hts _ hwc, hts _ hwi, ⟨d1, d2⟩, hlenk, hts _ k2⟩, hts _ k3, hts _ k4⟩ ⟨hbl, va_recv hK.1 (hP1.one hb0) (ci := 11) (q0 := 0) k5 rfl, hpre⟩ rfl hAs hl1.1 rfl (lv_room hsum) k1 ⟨(show sz - sz + (szT - sz + 1) ≤ szT + 1 - sz by omega), (show 0 + (slT + 6) ≤ slT + 6 by omega)⟩
      intro T hT X
      rcases hR T hT X with ⟨v, st₀, t, T', L, h0, X', hL', e1, e2, hq, st⟩ | ⟨q, st₀, t, T', L, E, ce, h0, X', hL', e1, e2, hXC, hce, hcv, hcl, st⟩
      · exact hq.elim
      · obtain ⟨rfl, hPT, hKT, hFT⟩ := hXC
        obtain ⟨f1, f2, f3⟩ := vx_keep (A0 := xD hp sz) (H0 := s.heap) h0 e1 hS1 (fun q _ h => h) (fun _ h => h) hL' hFT
        have hz : sz - sz + (szT - sz + 1) = szT + 1 - sz := by omega
        rw [hz, Nat.zero_add] at X'
        have hcast : (Cond.castable nseN nseN).before av.toArray s = true := va_Nw.use rfl (hK.2.1 _ (List.mem_append_right _ (by decide +kernel)))
        obtain ⟨n2, htl⟩ := htail q
        obtain ⟨-, hs2⟩ := x_sound (fs := xstr ev) (ret := some .int) (own := y.cls) (nm := y.name) (nL := maxL) (cc := cc) (fr := d) (lo := 40 * d) (fun pc op hm => hok _ hm) hfsok hcaok (fun pc k hm => hok _ hm) hcall n2 ph lvC [.ref q] hpT (szT + 1) (slT + 6) rv hpT (szT + 1) (slT + 6) htl
        have hW2 := hs2 p l e (headSpec (Cond.codeWith y cc maxL (some .int) [(0, eh, ph, 13)] :: xT) { frames := d + 12, cells := szT + 1 - sz, slots := slT + 6, locals := 40 * d + 400 }).room s m av.toArray below meth c D (xD hp sz) s.heap T'.heap sz (locs' ++ L) ls' (xQ D vwCl (xK D ev) rv hpT (szT + 1) (xD hp sz)) (xD hp sz) hCx B.notSynchronized B.returns (show d + 1 ≤ d + 12 by omega) (show 40 + 40 * d ≤ 40 * d + 400 by omega) (show sz ≤ szT + 1 by omega) (Nat.le_refl _) (Nat.le_refl _) (by rw [e1]; exact hPT) f3 hl1 (fun _ h => h) (fun H2 locs2 t2 hP2 hS2 ht2 hWt => ⟨⟨rfl, by rw [ht2]; exact hP2, va_K.moved hWt.alike hK.1, xNw.warm hWt hK.2.1, by
          rw [ht2]
          exact xZ.step hWt hK.2.2 hS2.2.1 (fun q hq => hq.elim (fun ⟨z, hz⟩ => (hP2.2 q z hz).2) (fun h => Or.inr (by omega)))⟩, hS2.F ht2⟩)
        have hcat := vx_catch (rest := rest) (pc := pcC) (E := nseN) (name := nseN) (q := q) (ce := ce) hown [] ⟨0, eh, ph, 13⟩ [] htb (fun z hz => nomatch hz) (by simp [covers, hcov]) (show (13 : Nat) ≠ 0 by decide) (hts _ hw13) hcast (by rw [e1]; exact hce) hcv hcl hW2
        obtain ⟨t2, a1, b1⟩ := hcat T' rfl X'
        exact ⟨t2, st.trans a1, b1⟩
    · exact absurd h (by decide)
    · exact absurd h (by decide)
    · exact absurd h (by decide)
    · exact absurd h (by decide))
  rw [Nat.sub_self] at hW
  exact hW
/-- the soundness of a step, of launches without stack traces -/
def xOKs (fq lq : Nat) (ev : xEv) (cc : ByteArray) (own nm : String) (nL pc : Nat) (rel : xS → xS → Prop) : Prop :=
  ∀ (lv : xLv) (st : List Value) (hp : xH) (sz sl : Nat) (pc' : Nat) (lv' : xLv) (st' : List Value) (hp' : xH) (sz' sl' : Nat), rel (pc, lv, st, hp, sz, sl) (pc', lv', st', hp', sz', sl') →
  (sz ≤ sz' ∧ sl ≤ sl') ∧ ∀ (p : Program) (l : Launch) (e : Env) (R : Room) (s : State) (m : MethodId) (args : Array Value) (below : List Frame) (meth : Method) (c : Code) (D : va_G) (A : Nat → Prop) (H0 H : Heap) (Q : State → Prop) (z0 : Nat) (locs : List Loc) (ls : Array Slot), l.stackTraces = false →
  xC p s m args meth c cc own nm nL D ev A H0 → fq ≤ R.frames → lq ≤ R.locals → z0 ≤ sz → sz' - z0 ≤ R.cells → sl' ≤ R.slots → xP D vwCl A hp sz H → va_S A H0 H locs → lv_has ls nL lv →
  (∀ (H' : Heap) (locs' : List Loc) (ls' : Array Slot), xP D vwCl A hp' sz' H' → va_S A H0 H' locs' → lv_has ls' nL lv' → W p l e R s m args below meth c H' locs' (sz' - z0) sl' Q (F0 m pc' ls' st')) →
  W p l e R s m args below meth c H locs (sz - z0) sl Q (F0 m pc ls st)
/-- a wrapper's contract, as a relation -/
def wCon (ev : xEv) (d : Nat) (y : MethodName) (cc : ByteArray) (maxL : Nat) (hh : List (Nat × Nat × Nat × Nat)) (av : List Value) (hp : xH) (sz : Nat) (rv : Option Value) (hp' : xH) (sz' sl : Nat) : Prop := sz ≤ sz' ∧ ∀ (l : Launch) (D : va_G), l.stackTraces = false → Met l y (Cond.codeWith y cc maxL (some .int) hh :: xT) { frames := d + 12, cells := sz' - sz, slots := sl, locals := 40 * d + 400 } (va_Pc av (xPre D vwCl (xK D ev) hp sz)) (xQ D vwCl (xK D ev) rv hp' sz' (xD hp sz)) (sz' - sz) sl (xD hp sz)
def wRel (ev : xEv) (d : Nat) (y : MethodName) (cc : ByteArray) (maxL : Nat) (hh : List (Nat × Nat × Nat × Nat)) (k : Nat) : xS → xS → Prop := fun σ τ => ∃ pc lv av rest hp sz sl rv hp' sz' sl', σ = (pc, lv, av.reverse ++ rest, hp, sz, sl) ∧ τ = (pc + 3, lv, rv.toList ++ rest, hp', sz', sl + sl') ∧ av.length = k ∧ (rest.map fun v => v.category).sum ≤ 8 ∧ wCon ev d y cc maxL hh av hp sz rv hp' sz' sl'
set_option maxRecDepth 10000 in
theorem nx_room {a d R : Nat} (h : a ≤ 21) (g : 40 * d + 440 ≤ R) : 8 + (a + 11) + (40 * d + 400) ≤ R := by omega
theorem xs_wrap {ev : xEv} {ccL : ByteArray} {own nm : String} {nL pc index d k maxL : Nat} {y : MethodName} {cc : ByteArray} {hh : List (Nat × Nat × Nat × Nat)} (hd : decode ccL pc = .ok (.invokestatic index, 3)) (hy : y.cls ≠ "java/lang/invoke/MethodHandle" ∧ y.cls ≠ "java/lang/invoke/VarHandle" ∧ (parseMethodDescriptor y.desc).map (fun d => d.parameters.length) = some k) (hmx : maxL ≤ 21)
    (w1 : Cond.methodLink own index y ∈ xT) (w2 : Cond.static y ∈ xT) (w3 : Cond.initialized y.cls ∈ xT) (w4 : Cond.codeWith y cc maxL (some .int) hh ∈ xT) : xOKs (d + 13) (40 * d + 440) ev ccL own nm nL pc (wRel ev d y cc maxL hh k) := by
  intro lv st hp sz sl pc' lv' st' hp' sz' sl' hrel
  obtain ⟨pc0, lv0, av, rest, hp0, sz0, sl0, rv, hp1, sz1, sl1, e1, e2, hav, hsum, m1, hM⟩ := hrel
  cases e1
  cases e2
  refine ⟨⟨m1, Nat.le_add_right _ _⟩, ?_⟩
  intro p l e R s m args below meth c D A H0 H Q z0 locs ls hflag hC hfr hlo hz hcs hss hP hS hl kk
  obtain ⟨hx, hb, hml, hown, hts, hK, hA, hnm, hNw, hZ, hH0⟩ := id hC
  have hD1 : ∀ q, xD hp sz q → A q := fun q hq => hq.elim (fun ⟨z, hz⟩ => (hP.2 q z hz).2) (fun h => hA q (Nat.le_trans hS.1 (by rw [hP.1]; exact h)))
  have hcc : sz - z0 + (sz' - sz) = sz' - z0 := by omega
  have hfit : (sz - z0) + (sz' - sz) ≤ R.cells ∧ sl + sl1 ≤ R.slots := ⟨by rw [hcc]; exact hcs, hss⟩
  have hlen : ∀ sig, parseMethodDescriptor y.desc = some sig → k = sig.parameters.length := fun sig h => by
    have h3 := hy.2.2
    rw [h] at h3; exact (Option.some.inj h3).symm
  have hws : ∀ w ∈ Cond.codeWith y cc maxL (some .int) hh :: xT, ∀ (a' : Array Value) (U : State), s.WarmedH U.vm → w.before a' U = true := fun w hw => by
    rcases List.mem_cons.mp hw with rfl | hw
    · exact xpay hts w4
    · exact xpay hts hw
  have hbl : FrameBlind (va_Pc av (xPre D vwCl (xK D ev) hp sz)) := fun a U g mk q => ⟨q.1, q.2.1, xK.blind g mk a q.2.2⟩
  have hpre : ∀ U : State, U.heap = H → s.WarmedH U.vm → va_Pc av (xPre D vwCl (xK D ev) hp sz) av.toArray U := fun U hU hW => ⟨rfl, by rw [hU]; exact hP.weaken (fun _ _ => trivial), va_K.moved hW.alike hK, xNw.warm hW hNw, by rw [hU]; exact xZ.step hW hZ (fun a h1 h2 => hS.2.1 a (by rw [hH0]; exact h1) h2 |>.trans (by rw [hH0])) hD1⟩
  have hrm : 8 + (maxL + 11) + (40 * d + 400) ≤ R.locals := nx_room hmx hlo
  refine x_call (vx_runSW (As := av) (rest := rest) (n := k) (bytes := cc) (maxL := maxL) (ret := some .int) (hh := hh) ⟨hx, hb, hml, hown, hts⟩ (hM l D hflag) ⟨⟨rfl, rfl, hfr, hrm, hws, List.mem_cons_self⟩, hts _ w4, hts _ w3, ⟨hy.1, hy.2.1⟩, hlen, hts _ w1, hts _ w2⟩ ⟨hbl, hpre⟩ rfl hav hl.1 rfl (lv_room hsum) hd hfit) hS hD1 hD1 (fun H1 locs1 hP1 hS1 => by
    rw [hcc]
    exact kk H1 locs1 ls hP1 hS1 hl)
set_option maxHeartbeats 4000000 in
theorem x_reachS {fs : Nat → xS → xS → Prop} {call : xRel} {code : List (Nat × xEn)} {ev : xEv} {cc : ByteArray} {own nm : String} {nL : Nat} {fr lo : Nat} {mi : xMi}
    (hop : ∀ pc op, (pc, Sum.inl op) ∈ code → xOK ev cc own nm nL pc op)
    (hfs : ∀ pc j k ci, (pc, Sum.inr (Sum.inl (5, j, k, ci))) ∈ code → ∃ fq lq, fq ≤ fr + 1 ∧ lq ≤ 40 + lo ∧ xOKs fq lq ev cc own nm nL pc (fs j))
    (hca : ∀ pc kind j k ci, (pc, Sum.inr (Sum.inl (kind, j, k, ci))) ∈ code → kind = 5 ∨ xCallOK own cc pc kind k ci (mi j).1 (mi j).2.1 (mi j).2.2.1 (mi j).2.2.2)
    (hcall : ∀ j av hp sz rv hp' sz' sl, call j av hp sz (rv, hp', sz', sl) → sz ≤ sz' ∧ ∀ (l : Launch) (D : va_G), xM l D vwCl (xK D ev) (mi j).1 (xWs mi j) fr lo av hp sz rv hp' sz' sl) :
    ∀ (n pc : Nat) (lv : xLv) (st : List Value) (hp : xH) (sz sl : Nat) (pcE : Nat) (lvE : xLv) (stE : List Value) (hpE : xH) (szE slE : Nat), xrch ev.2.1 fs call code n (pc, lv, st, hp, sz, sl) (pcE, lvE, stE, hpE, szE, slE) →
    (sz ≤ szE ∧ sl ≤ slE) ∧ ∀ (p : Program) (l : Launch) (e : Env) (R : Room) (s : State) (m : MethodId) (args : Array Value) (below : List Frame) (meth : Method) (c : Code) (D : va_G) (A : Nat → Prop) (H0 H : Heap) (z0 : Nat) (locs : List Loc) (ls : Array Slot) (Q : State → Prop),
    l.stackTraces = false → xC p s m args meth c cc own nm nL D ev A H0 → fr + 1 ≤ R.frames → 40 + lo ≤ R.locals → z0 ≤ sz → szE - z0 ≤ R.cells → slE ≤ R.slots → xP D vwCl A hp sz H → va_S A H0 H locs → lv_has ls nL lv →
    (∀ (H' : Heap) (locs' : List Loc) (ls' : Array Slot), xP D vwCl A hpE szE H' → va_S A H0 H' locs' → lv_has ls' nL lvE → W p l e R s m args below meth c H' locs' (szE - z0) slE Q (F0 m pcE ls' stE)) →
    W p l e R s m args below meth c H locs (sz - z0) sl Q (F0 m pc ls st) := by
  intro n
  induction n with
  | zero =>
    intro pc lv st hp sz sl pcE lvE stE hpE szE slE h
    cases h
    refine ⟨⟨Nat.le_refl _, Nat.le_refl _⟩, ?_⟩
    intro p l e R s m args below meth c D A H0 H z0 locs ls Q hflag hC hfr hlo hz hcs hss hP hS hl hend
    exact hend H locs ls hP hS hl
  | succ n ih =>
    intro pc lv st hp sz sl pcE lvE stE hpE szE slE h
    rcases h with ⟨op, σ', hm, ho, hr⟩ | ⟨kind, j, k, ci, b, As, rest, fl, rv1, hp1, sz1, sl1, hm, hk, hAs, hst, hsum, hb0, hcl, hr⟩ | ⟨kind, j, k, ci, As, rest, rv1, hp1, sz1, sl1, hm, hk, hAs, hst, hsum, hcl, hr⟩ | ⟨j, k, ci, σ', hm, ho, hr⟩
    · obtain ⟨pc1, lv1, st1, hp1, sz1, sl1⟩ := σ'
      obtain ⟨⟨m1, m2⟩, hs⟩ := hop pc op hm lv st hp sz sl pc1 lv1 st1 hp1 sz1 sl1 ho
      obtain ⟨⟨n1, n2⟩, hi⟩ := ih pc1 lv1 st1 hp1 sz1 sl1 pcE lvE stE hpE szE slE hr
      refine ⟨⟨Nat.le_trans m1 n1, Nat.le_trans m2 n2⟩, ?_⟩
      intro p l e R s m args below meth c D A H0 H z0 locs ls Q hflag hC hfr hlo hz hcs hss hP hS hl hend
      refine hs p l e R s m args below meth c D A H0 H _ z0 locs ls hC (Nat.le_trans (Nat.le_add_left 1 fr) hfr) (Nat.le_trans (Nat.le_add_right 40 lo) hlo) hz (Nat.le_trans (Nat.sub_le_sub_right n1 z0) hcs) (Nat.le_trans n2 hss) hP hS hl ?_
      intro H' locs' ls' hP' hS' hl'
      exact hi p l e R s m args below meth c D A H0 H' z0 locs' ls' Q hflag hC hfr hlo (Nat.le_trans hz m1) hcs hss hP' hS' hl' hend
    · obtain ⟨m1, hM⟩ := hcall j _ hp sz rv1 hp1 sz1 sl1 hcl
      obtain ⟨⟨n1, n2⟩, hi⟩ := ih (pc + 3) lv (rv1.toList ++ rest) hp1 sz1 (sl + sl1) pcE lvE stE hpE szE slE hr
      refine ⟨⟨Nat.le_trans m1 n1, Nat.le_trans (Nat.le_add_right _ _) n2⟩, ?_⟩
      intro p l e R s m args below meth c D A H0 H z0 locs ls Q hflag hC hfr hlo hz hcs hss hP hS hl hend
      obtain ⟨hx, hb, hml, hown, hts, hK, hA, hnm, hNw, hZ, hH0⟩ := id hC
      subst hst
      have hD1 : ∀ q, xD hp sz q → A q := fun q hq => hq.elim (fun ⟨z, hz⟩ => (hP.2 q z hz).2) (fun h => hA q (Nat.le_trans hS.1 (by rw [hP.1]; exact h)))
      have hcc : sz - z0 + (sz1 - sz) = sz1 - z0 := by omega
      have hfit : (sz - z0) + (sz1 - sz) ≤ R.cells ∧ sl + sl1 ≤ R.slots := ⟨by rw [hcc]; exact Nat.le_trans (Nat.sub_le_sub_right n1 z0) hcs, Nat.le_trans n2 hss⟩
      obtain ⟨⟨d1, d2, d3⟩, hL, hwc, hwi, hkinds⟩ := (hca pc kind j k ci hm).resolve_left (fun h => by subst h; exact absurd hk (by decide))
      have hlen : ∀ sig, parseMethodDescriptor (mi j).1.desc = some sig → k = sig.parameters.length := fun sig h => by rw [h] at d3; exact (Option.some.inj d3).symm
      have hroom : 8 + ((mi j).2.2.1 + 11) + lo ≤ R.locals := by omega
      have hws : ∀ w ∈ xWs mi j, ∀ (a' : Array Value) (U : State), s.WarmedH U.vm → w.before a' U = true := fun w hw => by
        rcases List.mem_cons.mp hw with rfl | hw
        · exact xpay hts hwc
        · exact xpay hts hw
      have hbl : FrameBlind (va_Pc (.ref b :: As) (xPre D vwCl (xK D ev) hp sz)) := fun a U g mk q => ⟨q.1, q.2.1, xK.blind g mk a q.2.2⟩
      have hpre : ∀ U : State, U.heap = H → s.WarmedH U.vm → va_Pc (.ref b :: As) (xPre D vwCl (xK D ev) hp sz) (Value.ref b :: As).toArray U := fun U hU hW => ⟨rfl, by rw [hU]; exact hP.weaken (fun _ _ => trivial), va_K.moved hW.alike hK, xNw.warm hW hNw, by rw [hU]; exact xZ.step hW hZ (fun a h1 h2 => hS.2.1 a (by rw [hH0]; exact h1) h2 |>.trans (by rw [hH0])) hD1⟩
      have hgo : ∀ (H1 : Heap) (locs1 : List Loc), xP D vwCl A hp1 sz1 H1 → va_S A H0 H1 locs1 → W p l e R s m args below meth c H1 locs1 ((sz - z0) + (sz1 - sz)) (sl + sl1) Q (F0 m (pc + 3) ls (rv1.toList ++ rest)) := fun H1 locs1 hP1 hS1 => by
        rw [hcc]
        exact hi p l e R s m args below meth c D A H0 H1 z0 locs1 ls Q hflag hC hfr hlo (Nat.le_trans hz m1) hcs hss hP1 hS1 hl hend
      rcases hkinds with ⟨rfl, index, C, T, N, k1, k2, k3, k4, k5⟩ | ⟨rfl, -⟩ | ⟨rfl, index, k1, k2, k3, k4, k5⟩ | ⟨rfl, -⟩ | ⟨rfl, index, k1, k2, k3, k4⟩
      · have hb1 : hp b = some (.inr (ci, fl)) := by
          rcases hb0 with ⟨-, h⟩ | ⟨h, -⟩
          · exact h
          · exact absurd h (by decide)
        refine x_call (va_runV (As := As) (rest := rest) (b := b) (C := C) (n := k) (bytes := (mi j).2.1) (maxL := (mi j).2.2.1) (ret := (mi j).2.2.2) ⟨hx, hb, hml, hown, hts⟩ (hM l D) ⟨⟨rfl, rfl, hfr, hroom, hws, List.mem_cons_self, hts _ hwc, hts _ hwi, ⟨d1, d2⟩, hlen, hts _ k2⟩, hts _ k3, hts _ k4⟩ ⟨hbl, va_recv hK (hP.one hb1) (ci := ci) (q0 := 0) k5 rfl, hpre⟩ rfl hAs hl.1 rfl (lv_room hsum) k1 hfit) hS hD1 hD1 hgo
      · exact absurd hk (by decide)
      · refine x_call (va_runI (As := As) (rest := rest) (b := b) (n := k) (bytes := (mi j).2.1) (maxL := (mi j).2.2.1) ⟨hx, hb, hml, hown, hts⟩ (hM l D) ⟨⟨rfl, rfl, hfr, hroom, hws, by rw [← k5]; exact List.mem_cons_self, by rw [← k5]; exact hts _ hwc, hts _ hwi, ⟨d1, d2⟩, hlen, hts _ k3⟩, k2, hts _ k4⟩ ⟨hbl, hpre⟩ rfl hAs hl.1 rfl (lv_room hsum) k1 hfit) hS hD1 hD1 hgo
      · exact absurd hk (by decide)
      · have hb1 : ∃ i, i < 4 ∧ b = ev.2.1 i := by
          rcases hb0 with ⟨h, -⟩ | ⟨-, h⟩
          · exact absurd rfl h
          · exact h
        obtain ⟨i, hi4, hbi⟩ := hb1
        have hS' : va_S A s.heap H locs := by rw [← hH0]; exact hS
        refine x_call (va_runV (As := As) (rest := rest) (b := b) (C := "java/lang/String") (n := k) (bytes := (mi j).2.1) (maxL := (mi j).2.2.1) (ret := (mi j).2.2.2) ⟨hx, hb, hml, hown, hts⟩ (hM l D) ⟨⟨rfl, rfl, hfr, hroom, hws, List.mem_cons_self, hts _ hwc, hts _ hwi, ⟨d1, d2⟩, hlen, hts _ k2⟩, hts _ k3, hts _ k4⟩ ⟨hbl, by rw [hbi]; exact vk_recv hZ.2.1 hi4 hS', hpre⟩ rfl hAs hl.1 rfl (lv_room hsum) k1 hfit) hS hD1 hD1 hgo
    · obtain ⟨m1, hM⟩ := hcall j _ hp sz rv1 hp1 sz1 sl1 hcl
      obtain ⟨⟨n1, n2⟩, hi⟩ := ih (pc + 3) lv (rv1.toList ++ rest) hp1 sz1 (sl + sl1) pcE lvE stE hpE szE slE hr
      refine ⟨⟨Nat.le_trans m1 n1, Nat.le_trans (Nat.le_add_right _ _) n2⟩, ?_⟩
      intro p l e R s m args below meth c D A H0 H z0 locs ls Q hflag hC hfr hlo hz hcs hss hP hS hl hend
      obtain ⟨hx, hb, hml, hown, hts, hK, hA, hnm, hNw, hZ, hH0⟩ := id hC
      subst hst
      have hD1 : ∀ q, xD hp sz q → A q := fun q hq => hq.elim (fun ⟨z, hz⟩ => (hP.2 q z hz).2) (fun h => hA q (Nat.le_trans hS.1 (by rw [hP.1]; exact h)))
      have hcc : sz - z0 + (sz1 - sz) = sz1 - z0 := by omega
      have hfit : (sz - z0) + (sz1 - sz) ≤ R.cells ∧ sl + sl1 ≤ R.slots := ⟨by rw [hcc]; exact Nat.le_trans (Nat.sub_le_sub_right n1 z0) hcs, Nat.le_trans n2 hss⟩
      obtain ⟨⟨d1, d2, d3⟩, hL, hwc, hwi, hkinds⟩ := (hca pc kind j k ci hm).resolve_left (fun h => by subst h; exact absurd hk (by decide))
      have hlen : ∀ sig, parseMethodDescriptor (mi j).1.desc = some sig → k = sig.parameters.length := fun sig h => by rw [h] at d3; exact (Option.some.inj d3).symm
      have hroom : 8 + ((mi j).2.2.1 + 11) + lo ≤ R.locals := by omega
      have hws : ∀ w ∈ xWs mi j, ∀ (a' : Array Value) (U : State), s.WarmedH U.vm → w.before a' U = true := fun w hw => by
        rcases List.mem_cons.mp hw with rfl | hw
        · exact xpay hts hwc
        · exact xpay hts hw
      have hbl : FrameBlind (va_Pc As (xPre D vwCl (xK D ev) hp sz)) := fun a U g mk q => ⟨q.1, q.2.1, xK.blind g mk a q.2.2⟩
      have hpre : ∀ U : State, U.heap = H → s.WarmedH U.vm → va_Pc As (xPre D vwCl (xK D ev) hp sz) As.toArray U := fun U hU hW => ⟨rfl, by rw [hU]; exact hP.weaken (fun _ _ => trivial), va_K.moved hW.alike hK, xNw.warm hW hNw, by rw [hU]; exact xZ.step hW hZ (fun a h1 h2 => hS.2.1 a (by rw [hH0]; exact h1) h2 |>.trans (by rw [hH0])) hD1⟩
      have hgo : ∀ (H1 : Heap) (locs1 : List Loc), xP D vwCl A hp1 sz1 H1 → va_S A H0 H1 locs1 → W p l e R s m args below meth c H1 locs1 ((sz - z0) + (sz1 - sz)) (sl + sl1) Q (F0 m (pc + 3) ls (rv1.toList ++ rest)) := fun H1 locs1 hP1 hS1 => by
        rw [hcc]
        exact hi p l e R s m args below meth c D A H0 H1 z0 locs1 ls Q hflag hC hfr hlo (Nat.le_trans hz m1) hcs hss hP1 hS1 hl hend
      rcases hkinds with ⟨rfl, -⟩ | ⟨rfl, index, k1, k2, k3⟩ | ⟨rfl, -⟩ | ⟨rfl, index, host, k1, k2, k3⟩ | ⟨rfl, -⟩
      · exact absurd hk (by decide)
      · refine x_call (va_runS (As := As) (rest := rest) (n := k) (bytes := (mi j).2.1) (maxL := (mi j).2.2.1) (ret := (mi j).2.2.2) ⟨hx, hb, hml, hown, hts⟩ (hM l D) ⟨⟨rfl, rfl, hfr, hroom, hws, List.mem_cons_self, hts _ hwc, hts _ hwi, ⟨d1, d2⟩, hlen, hts _ k2⟩, hts _ k3⟩ ⟨hbl, hpre⟩ rfl hAs hl.1 rfl (lv_room hsum) k1 hfit) hS hD1 hD1 hgo
      · exact absurd hk (by decide)
      · refine x_call (va_runSN (As := As) (rest := rest) (n := k) (bytes := (mi j).2.1) (maxL := (mi j).2.2.1) (ret := (mi j).2.2.2) (host := host) ⟨hx, hb, hml, hown, hts⟩ (hM l D) ⟨⟨⟨rfl, rfl, hfr, hroom, hws, List.mem_cons_self⟩, hts _ hwc, hts _ hwi, ⟨d1, d2⟩, hlen, va_Nw.use rfl (hNw _ k2)⟩, hts _ k3, trivial⟩ ⟨hbl, hpre⟩ rfl hAs hl.1 rfl (lv_room hsum) k1 hfit) hS hD1 hD1 hgo
      · exact absurd hk (by decide)
    · obtain ⟨pc1, lv1, st1, hp1, sz1, sl1⟩ := σ'
      obtain ⟨fq, lq, hf1, hf2, hok⟩ := hfs pc j k ci hm
      · obtain ⟨⟨m1, m2⟩, hs⟩ := hok lv st hp sz sl pc1 lv1 st1 hp1 sz1 sl1 ho
        obtain ⟨⟨n1, n2⟩, hi⟩ := ih pc1 lv1 st1 hp1 sz1 sl1 pcE lvE stE hpE szE slE hr
        refine ⟨⟨Nat.le_trans m1 n1, Nat.le_trans m2 n2⟩, ?_⟩
        intro p l e R s m args below meth c D A H0 H z0 locs ls Q hflag hC hfr hlo hz hcs hss hP hS hl hend
        refine hs p l e R s m args below meth c D A H0 H _ z0 locs ls hflag hC (Nat.le_trans hf1 hfr) (Nat.le_trans hf2 hlo) hz (Nat.le_trans (Nat.sub_le_sub_right n1 z0) hcs) (Nat.le_trans n2 hss) hP hS hl ?_
        intro H' locs' ls' hP' hS' hl'
        exact hi p l e R s m args below meth c D A H0 H' z0 locs' ls' Q hflag hC hfr hlo (Nat.le_trans hz m1) hcs hss hP' hS' hl' hend
