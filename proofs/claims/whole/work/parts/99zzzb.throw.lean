def nx_at (own : String) (ic : Nat) (X : String) (ix : Nat) (rx : ByteArray) (names : List String) : List Cond := (nx_atoms own ic X ix rx names).filter vx_no
theorem nx_push (T : State) (c : Cell) : (T.pushCell c).heap.size = T.heap.size + 1 := Array.size_push ..
section NXE
variable {p : Program} {l : Launch} {e : Env} {R : Room} {s : State} {m : MethodId} {args : Array Value} {below : List Frame} {meth : Method} {c : Code} {H : Heap} {locs : List Loc} {cells slots : Nat} {Q : State → Prop}
variable {mc ms : Nat} {free : Addr → Prop} {A0 A1 : Nat → Prop} {H0 : Heap} {a : Array Value} {ls : Array Slot} {st0 rest : List Value}
variable {Qc : Array Value → State → Outcome → State → Prop} {XC : String → State → State → Prop}
/-- 'throw new E("text")': new; dup; ldc; invokespecial; athrow -/
theorem nx_throwS {cc : ByteArray} {pc : Nat} (hexec : p.tables.exec = Jvm.exec) (hb : c.code = cc) (hl : l.stackTraces = false) {own cls text : String} {names : List String} {ik is ic mc ms sa : Nat} {A : Nat → Prop}
    {ix : Nat} {rx : ByteArray} (x0 : decode rx 0 = .ok (.aload_n 0, 1)) (x1 : decode rx 1 = .ok (.aload_n 1, 1)) (x2 : decode rx 2 = .ok (.invokespecial ix, 3)) (x5 : decode rx 5 = .ok (.return_, 1))
    (hown : s.vm.findClass own = some m.cls) (hcls : Bundle.fit cls = true) (hnames : ∀ n ∈ names, Bundle.fit n = true)
    (hk : (Cond.classLink own ik cls).before args s = true) (hini : (Cond.initialized cls).before args s = true) (hstr : vk_R own is text sa s) (hat : ∀ w ∈ nx_at own ic cls ix rx names, w.before args s = true)
    (hgood : ∀ w ∈ Cond.classLink own ik cls :: Cond.initialized cls :: nx_at own ic cls ix rx names, vx_ot w = true)
    (hU : vx_Zq Bundle.tN "UNASSIGNED_STACK" Bundle.steD A s s.heap) (hN : vx_Zq Bundle.tN "SUPPRESSED_SENTINEL" Bundle.listD A s s.heap) (hS : va_S A s.heap H locs) (hsize : ls.size = c.maxLocals)
    (d0 : decode cc pc = .ok (.new ik, 3)) (d3 : decode cc (pc + 3) = .ok (.dup, 1)) (d4 : decode cc (pc + 4) = .ok (.ldc is, 2)) (d6 : decode cc (pc + 6) = .ok (.invokespecial ic, 3)) (d9 : decode cc (pc + 9) = .ok (.athrow, 1))
    (hout : ∀ x ∈ c.exceptionTable.toList, covers x (pc + 9) = false)
    (hRframes : names.length + 3 < R.frames) (hRlocals : (rest.map fun v => v.category).sum + (13 * (names.length + 1) + 43) ≤ R.locals) (hRcells : cells + 1 ≤ R.cells) (hRslots : slots + 6 ≤ R.slots) (hlocks : meth.locks = false)
    (hx : ∀ t : State, s.WarmedH t.vm → t.heap.size = H.size + 1 → (∀ q : Nat, q < H.size → t.heap[q]? = H[q]?) → XC cls s t)
    (hf : ∀ z ∈ locs, free z.base) (hc : cells + 1 ≤ mc) (hs : slots + 6 ≤ ms) :
    W p l e R s m args below meth c H locs cells slots (vx_MQ below Qc XC args s mc ms free) (F0 m pc ls rest) := by
  intro T hT X
  have htr : e.platform.stackTraces = false := (show e.platform.stackTraces = l.stackTraces by rw [X.admits.platform]).trans hl
  have Y := vx_rebase X (R' := { frames := R.frames, locals := R.locals, cells := 1, slots := 6 }) (Nat.le_refl _) (Nat.le_refl _) hRcells hRslots
  obtain ⟨s', hA⟩ : ∃ z, z = (T.setVm s.vm).setFrames (.invoking m args :: below) := ⟨_, rfl⟩
  rw [← hA] at Y
  have hvm : s'.vm = s.vm := by rw [hA]; rfl
  have hhp : s'.heap = H := by rw [hA]; exact hT
  have hW0 : s.WarmedH s'.vm := by rw [hvm]; exact State.WarmedH.refl s
  have hat' : ∀ w ∈ nx_at own ic cls ix rx names, w.before args s' = true := fun w hw => vx_ot_at hW0 hvm.symm (hgood w (List.mem_cons_of_mem _ (List.mem_cons_of_mem _ hw))) (hat w hw)
  have hk' : (Cond.classLink own ik cls).before args s' = true := vx_ot_at hW0 hvm.symm (hgood _ List.mem_cons_self) hk
  have hini' : (Cond.initialized cls).before args s' = true := vx_ot_at hW0 hvm.symm (hgood _ (List.mem_cons_of_mem _ List.mem_cons_self)) hini
  have hU' : vx_Zq Bundle.tN "UNASSIGNED_STACK" Bundle.steD A s' s'.heap := by rw [hhp]; exact vx_Zq.moved hW0.alike (hU.kept hS.2.1)
  have hN' : vx_Zq Bundle.tN "SUPPRESSED_SENTINEL" Bundle.listD A s' s'.heap := by rw [hhp]; exact vx_Zq.moved hW0.alike (hN.kept hS.2.1)
  have h : ∀ w ∈ nx_atoms own ic cls ix rx names, w.before args s' = true := vx_own hat' (vx_isRefq hU'.1) (vx_isRefq hN'.1) hU'.2.word hN'.2.word
  have hown' : s'.vm.findClass own = some m.cls := by rw [hvm]; exact hown
  have hins : (Cond.instantiable cls 6).before args s' = true := h _ (by simp [nx_atoms])
  obtain ⟨vm₁, cX, kX, hfX, hkX, -, -, X₁, st1⟩ := Y.newCold hexec (own := own) (C := cls) (index := ik) (n := 6) hown' hk' hins hini'
    (g := F0 m pc ls rest) rfl (by rw [hb]; exact d0) (Nat.le_refl _) (Nat.le_refl _)
  generalize hT1 : (T.setVm vm₁).pushCell { cls := cX, slots := kX.instanceTypes.map defaultValue, vm := .none } = T1 at X₁ st1
  have hcat : (Value.ref T.heap.size).category = 1 := rfl
  have hcellA : T1.heap[T.heap.size]? = some (freshCell cX kX) := by rw [← hT1]; exact State.heap_pushCell_size _ _
  have d3' : decode c.code (pc + 3) = .ok (.dup, 1) := by rw [hb]; exact d3
  have d4' : decode c.code (pc + 4) = .ok (.ldc is, 2) := by rw [hb]; exact d4
  have hstr' : vk_R own is text sa s' := vk_R.warm hW0 hstr
  obtain ⟨U, hsteps, hrun, hend, hW, hsame, ce, hce, hOv, hOc⟩ := nx_ctor X₁ hexec htr (own := own) (cls := cls) (names := names) (ic := ic) x0 x1 x2 x5 hown' hcls hnames h (fun x hx => nomatch hx) hfX hkX hcellA (by rw [hhp, hT]; exact Nat.le_refl _) (msg := .ref sa) rfl
    (g := { method := m, pc := pc + 6, locals := ls, stack := .ref sa :: .ref T.heap.size :: .ref T.heap.size :: rest, locked := none }) rfl hsize rfl rfl (rest := rest) rfl
    (by rw [hb]; exact d6) (by rw [hb]; exact d9) hout hRframes (by simp only [List.map_cons, List.sum_cons, hcat]; omega) hlocks
  obtain ⟨f1, f2⟩ := vx_frame hsame
  rw [hhp] at f1 f2
  have hWs : s.WarmedH U.vm := State.WarmedH.trans hW0 hW
  have hcl : s.vm.findClass cls = some ce.cls := by
    have h9 := hOc
    rw [hvm] at h9
    exact h9
  have fz : U.heap.size = H.size + 1 := by
    have z1 := hsame.2.2.1
    rw [hhp] at z1
    have z2 := hsteps.heap_le
    have z3 : T1.heap.size = H.size + 1 := by rw [← hT1, ← hT]; exact nx_push _ _
    have z4 : H.size + 1 ≤ U.heap.size := by rw [← z3]; exact z2
    have z5 : U.heap.size ≤ H.size + (0 + 1) := z1
    omega
  have hall : s.sameButNew ({ U with vm := s.vm } : State) locs mc ms := by
    subst hA
    obtain ⟨e1, e2⟩ := hsame
    rw [State.setFrames_setFrames] at e1
    have h2 : (T.setVm s.vm).sameButNew ({ U with vm := s.vm } : State) [] (0 + 1) (0 + 6) := ⟨e1, e2⟩
    have h3 := X.same.trans h2
    rw [List.append_nil] at h3
    exact h3.mono hc hs
  refine ⟨U, ?_, .threw T.heap.size, hrun, hend, Or.inr ⟨T.heap.size, rfl, cls, ce, locs, hx U hWs fz (fun q hq => f2 q hq (fun z hz => nomatch hz)), hce, hOv, hcl, hWs, hall, hf⟩⟩
  refine st1 _ ?_
  show Steps p.tables e below (T1.setTop { method := m, pc := pc + 3, locals := ls, stack := .ref T.heap.size :: rest, locked := none }) _
  jvm_step X₁.here [X₁.here.top, hexec, d3', Value.category]
  exact X₁.ldcString hexec (own := own) (text := text) (index := is) (a := sa) hown' hstr'.1 hstr'.2
    (g := { method := m, pc := pc + 4, locals := ls, stack := .ref T.heap.size :: .ref T.heap.size :: rest, locked := none }) rfl d4' _ hsteps
/-- 'throw new E("text")', the text by a wide index -/
theorem nx_throwSW {cc : ByteArray} {pc : Nat} (hexec : p.tables.exec = Jvm.exec) (hb : c.code = cc) (hl : l.stackTraces = false) {own cls text : String} {names : List String} {ik is ic mc ms sa : Nat} {A : Nat → Prop}
    {ix : Nat} {rx : ByteArray} (x0 : decode rx 0 = .ok (.aload_n 0, 1)) (x1 : decode rx 1 = .ok (.aload_n 1, 1)) (x2 : decode rx 2 = .ok (.invokespecial ix, 3)) (x5 : decode rx 5 = .ok (.return_, 1))
    (hown : s.vm.findClass own = some m.cls) (hcls : Bundle.fit cls = true) (hnames : ∀ n ∈ names, Bundle.fit n = true)
    (hk : (Cond.classLink own ik cls).before args s = true) (hini : (Cond.initialized cls).before args s = true) (hstr : vk_R own is text sa s) (hat : ∀ w ∈ nx_at own ic cls ix rx names, w.before args s = true)
    (hgood : ∀ w ∈ Cond.classLink own ik cls :: Cond.initialized cls :: nx_at own ic cls ix rx names, vx_ot w = true)
    (hU : vx_Zq Bundle.tN "UNASSIGNED_STACK" Bundle.steD A s s.heap) (hN : vx_Zq Bundle.tN "SUPPRESSED_SENTINEL" Bundle.listD A s s.heap) (hS : va_S A s.heap H locs) (hsize : ls.size = c.maxLocals)
    (d0 : decode cc pc = .ok (.new ik, 3)) (d3 : decode cc (pc + 3) = .ok (.dup, 1)) (d4 : decode cc (pc + 4) = .ok (.ldc_w is, 3)) (d7 : decode cc (pc + 7) = .ok (.invokespecial ic, 3)) (d10 : decode cc (pc + 10) = .ok (.athrow, 1))
    (hout : ∀ x ∈ c.exceptionTable.toList, covers x (pc + 10) = false)
    (hRframes : names.length + 3 < R.frames) (hRlocals : (rest.map fun v => v.category).sum + (13 * (names.length + 1) + 43) ≤ R.locals) (hRcells : cells + 1 ≤ R.cells) (hRslots : slots + 6 ≤ R.slots) (hlocks : meth.locks = false)
    (hx : ∀ t : State, s.WarmedH t.vm → t.heap.size = H.size + 1 → (∀ q : Nat, q < H.size → t.heap[q]? = H[q]?) → XC cls s t)
    (hf : ∀ z ∈ locs, free z.base) (hc : cells + 1 ≤ mc) (hs : slots + 6 ≤ ms) :
    W p l e R s m args below meth c H locs cells slots (vx_MQ below Qc XC args s mc ms free) (F0 m pc ls rest) := by
  intro T hT X
  have htr : e.platform.stackTraces = false := (show e.platform.stackTraces = l.stackTraces by rw [X.admits.platform]).trans hl
  have Y := vx_rebase X (R' := { frames := R.frames, locals := R.locals, cells := 1, slots := 6 }) (Nat.le_refl _) (Nat.le_refl _) hRcells hRslots
  obtain ⟨s', hA⟩ : ∃ z, z = (T.setVm s.vm).setFrames (.invoking m args :: below) := ⟨_, rfl⟩
  rw [← hA] at Y
  have hvm : s'.vm = s.vm := by rw [hA]; rfl
  have hhp : s'.heap = H := by rw [hA]; exact hT
  have hW0 : s.WarmedH s'.vm := by rw [hvm]; exact State.WarmedH.refl s
  have hat' : ∀ w ∈ nx_at own ic cls ix rx names, w.before args s' = true := fun w hw => vx_ot_at hW0 hvm.symm (hgood w (List.mem_cons_of_mem _ (List.mem_cons_of_mem _ hw))) (hat w hw)
  have hk' : (Cond.classLink own ik cls).before args s' = true := vx_ot_at hW0 hvm.symm (hgood _ List.mem_cons_self) hk
  have hini' : (Cond.initialized cls).before args s' = true := vx_ot_at hW0 hvm.symm (hgood _ (List.mem_cons_of_mem _ List.mem_cons_self)) hini
  have hU' : vx_Zq Bundle.tN "UNASSIGNED_STACK" Bundle.steD A s' s'.heap := by rw [hhp]; exact vx_Zq.moved hW0.alike (hU.kept hS.2.1)
  have hN' : vx_Zq Bundle.tN "SUPPRESSED_SENTINEL" Bundle.listD A s' s'.heap := by rw [hhp]; exact vx_Zq.moved hW0.alike (hN.kept hS.2.1)
  have h : ∀ w ∈ nx_atoms own ic cls ix rx names, w.before args s' = true := vx_own hat' (vx_isRefq hU'.1) (vx_isRefq hN'.1) hU'.2.word hN'.2.word
  have hown' : s'.vm.findClass own = some m.cls := by rw [hvm]; exact hown
  have hins : (Cond.instantiable cls 6).before args s' = true := h _ (by simp [nx_atoms])
  obtain ⟨vm₁, cX, kX, hfX, hkX, -, -, X₁, st1⟩ := Y.newCold hexec (own := own) (C := cls) (index := ik) (n := 6) hown' hk' hins hini'
    (g := F0 m pc ls rest) rfl (by rw [hb]; exact d0) (Nat.le_refl _) (Nat.le_refl _)
  generalize hT1 : (T.setVm vm₁).pushCell { cls := cX, slots := kX.instanceTypes.map defaultValue, vm := .none } = T1 at X₁ st1
  have hcat : (Value.ref T.heap.size).category = 1 := rfl
  have hcellA : T1.heap[T.heap.size]? = some (freshCell cX kX) := by rw [← hT1]; exact State.heap_pushCell_size _ _
  have d3' : decode c.code (pc + 3) = .ok (.dup, 1) := by rw [hb]; exact d3
  have d4' : decode c.code (pc + 4) = .ok (.ldc_w is, 3) := by rw [hb]; exact d4
  have hstr' : vk_R own is text sa s' := vk_R.warm hW0 hstr
  obtain ⟨U, hsteps, hrun, hend, hW, hsame, ce, hce, hOv, hOc⟩ := nx_ctor X₁ hexec htr (own := own) (cls := cls) (names := names) (ic := ic) x0 x1 x2 x5 hown' hcls hnames h (fun x hx => nomatch hx) hfX hkX hcellA (by rw [hhp, hT]; exact Nat.le_refl _) (msg := .ref sa) rfl
    (g := { method := m, pc := pc + 7, locals := ls, stack := .ref sa :: .ref T.heap.size :: .ref T.heap.size :: rest, locked := none }) rfl hsize rfl rfl (rest := rest) rfl
    (by rw [hb]; exact d7) (by rw [hb]; exact d10) hout hRframes (by simp only [List.map_cons, List.sum_cons, hcat]; omega) hlocks
  obtain ⟨f1, f2⟩ := vx_frame hsame
  rw [hhp] at f1 f2
  have hWs : s.WarmedH U.vm := State.WarmedH.trans hW0 hW
  have hcl : s.vm.findClass cls = some ce.cls := by
    have h9 := hOc
    rw [hvm] at h9
    exact h9
  have fz : U.heap.size = H.size + 1 := by
    have z1 := hsame.2.2.1
    rw [hhp] at z1
    have z2 := hsteps.heap_le
    have z3 : T1.heap.size = H.size + 1 := by rw [← hT1, ← hT]; exact nx_push _ _
    have z4 : H.size + 1 ≤ U.heap.size := by rw [← z3]; exact z2
    have z5 : U.heap.size ≤ H.size + (0 + 1) := z1
    omega
  have hall : s.sameButNew ({ U with vm := s.vm } : State) locs mc ms := by
    subst hA
    obtain ⟨e1, e2⟩ := hsame
    rw [State.setFrames_setFrames] at e1
    have h2 : (T.setVm s.vm).sameButNew ({ U with vm := s.vm } : State) [] (0 + 1) (0 + 6) := ⟨e1, e2⟩
    have h3 := X.same.trans h2
    rw [List.append_nil] at h3
    exact h3.mono hc hs
  refine ⟨U, ?_, .threw T.heap.size, hrun, hend, Or.inr ⟨T.heap.size, rfl, cls, ce, locs, hx U hWs fz (fun q hq => f2 q hq (fun z hz => nomatch hz)), hce, hOv, hcl, hWs, hall, hf⟩⟩
  refine st1 _ ?_
  show Steps p.tables e below (T1.setTop { method := m, pc := pc + 3, locals := ls, stack := .ref T.heap.size :: rest, locked := none }) _
  jvm_step X₁.here [X₁.here.top, hexec, d3', Value.category]
  exact X₁.ldcStringW hexec (own := own) (text := text) (index := is) (a := sa) hown' hstr'.1 hstr'.2
    (g := { method := m, pc := pc + 4, locals := ls, stack := .ref T.heap.size :: .ref T.heap.size :: rest, locked := none }) rfl d4' _ hsteps
end NXE
/-! RUNS THAT THROW: 'throw new NoSuchElementException("..")' in a method of AirMail, behind a run that reaches it -/
abbrev nseN : String := "java/util/NoSuchElementException"
abbrev nseL : List String := ["java/lang/RuntimeException", "java/lang/Exception"]
abbrev nseB : ByteArray := ⟨#[0x2a, 0x2b, 0xb7, 0x00, 0x0d, 0xb1]⟩
theorem nse_b0 : decode nseB 0 = .ok (.aload_n 0, 1) := by decide +kernel
theorem nse_b1 : decode nseB 1 = .ok (.aload_n 1, 1) := by decide +kernel
theorem nse_b2 : decode nseB 2 = .ok (.invokespecial 13, 3) := by decide +kernel
theorem nse_b5 : decode nseB 5 = .ok (.return_, 1) := by decide +kernel
set_option maxRecDepth 20000 in
theorem nse_good : ∀ w ∈ (nx_at "AirMail" 119 nseN 13 nseB nseL).filter goodWord, w ∈ lw_tbl := by decide +kernel
set_option maxRecDepth 20000 in
theorem nse_bad : ∀ w ∈ (nx_at "AirMail" 119 nseN 13 nseB nseL).filter (fun w => !goodWord w), w ∈ (vx_atS "AirMail" 119 nseN nseL).filter (fun w => !goodWord w) := by decide +kernel
set_option maxRecDepth 20000 in
theorem nse_ot : ∀ w ∈ Cond.classLink "AirMail" 115 nseN :: Cond.initialized nseN :: nx_at "AirMail" 119 nseN 13 nseB nseL, vx_ot w = true := by decide +kernel
theorem nse_k : Cond.classLink "AirMail" 115 nseN ∈ lw_tbl := by decide +kernel
theorem nse_i : Cond.initialized nseN ∈ lw_tbl := by decide +kernel
/-- every word of a throw -/
theorem nse_hat {args : Array Value} {s : State} (hts : ∀ w ∈ xT, w.before args s = true) (hNw : ∀ w ∈ xNw, va_Nw w s) : ∀ w ∈ nx_at "AirMail" 119 nseN 13 nseB nseL, w.before args s = true := by
  refine vx_hat (B := xNw) (fun w hw => hts w (xwm' (nse_good w hw) (List.mem_filter.mp hw).2)) (fun w hw => List.mem_append_right _ (nse_bad w hw)) (fun w hw => ?_)
  have h2 := hNw w hw
  rcases xNw_is hw with ⟨a, i, x, h, rfl⟩ | ⟨C, rfl⟩ | ⟨x, rfl⟩ | ⟨a, b, rfl⟩
  · exact va_Nw.use rfl h2
  · exact va_AO.use h2
  · exact va_Nw.use rfl h2
  · exact va_Nw.use rfl h2
/-- what holds behind the throw -/
def xX (D : va_G) (ev : xEv) (hp : xH) (sz : Nat) (hpT : xH) (szT : Nat) : String → State → State → Prop := fun E st t => E = nseN ∧ xP D vwCl (xD hp sz) hpT (szT + 1) t.heap ∧ xK D ev hpT (szT + 1) t ∧ va_F (xD hp sz) st t
theorem xP.later {D : va_G} {cl : List vw_C} {A : Nat → Prop} {hp : xH} {sz : Nat} {H H1 : Heap} (h : xP D cl A hp sz H) (hz : H1.size = H.size + 1) (ho : ∀ q : Nat, q < H.size → H1[q]? = H[q]?) : xP D cl A hp (sz + 1) H1 := ⟨by rw [hz, h.1], fun a z ha => ⟨(h.2 a z ha).1.kept (ho a (h.2 a z ha).1.lt), (h.2 a z ha).2⟩⟩
theorem x_throws {ev : xEv} {prim : xRel} {d j n : Nat} {av : List Value} {hp : xH} {sz pcT : Nat} {lvT : xLv} {hpT : xH} {szT slT : Nat} {code : List (Nat × xEn)} {nm : String}
    (hcalls : ∀ j av hp sz rv hp' sz' sl, xCalls ev xmi (xprog ev) prim d j av hp sz (rv, hp', sz', sl) → sz ≤ sz' ∧ ∀ (l : Launch) (D : va_G), xM l D vwCl (xK D ev) (xmi j).1 (xWs xmi j) d (40 * d) av hp sz rv hp' sz' sl)
    (hok : xMethOK ev xmi "AirMail" nm j code) (hlen : (lg_sl av).length ≤ (xmi j).2.2.1)
    (hr : xrch ev.2.1 (xstr ev) (xCalls ev xmi (xprog ev) prim d) code n (0, lv_args 0 av, [], hp, sz, 0) (pcT, lvT, [], hpT, szT, slT))
    {is i : Nat} {tx : String} (hq : ("AirMail", is, tx, i) ∈ xStrs) (hd : decode (xmi j).2.1 pcT = .ok (.new 115, 3) ∧ decode (xmi j).2.1 (pcT + 3) = .ok (.dup, 1) ∧
      ((decode (xmi j).2.1 (pcT + 4) = .ok (.ldc is, 2) ∧ decode (xmi j).2.1 (pcT + 6) = .ok (.invokespecial 119, 3) ∧ decode (xmi j).2.1 (pcT + 9) = .ok (.athrow, 1)) ∨
       (decode (xmi j).2.1 (pcT + 4) = .ok (.ldc_w is, 3) ∧ decode (xmi j).2.1 (pcT + 7) = .ok (.invokespecial 119, 3) ∧ decode (xmi j).2.1 (pcT + 10) = .ok (.athrow, 1)))) :
    sz ≤ szT ∧ ∀ (l : Launch) (D : va_G), l.stackTraces = false → vx_Met l (xmi j).1 (xWs xmi j) { frames := d + 10, cells := szT - sz + 1, slots := slT + 6, locals := 40 * d + 200 } (va_Pc av (xPre D vwCl (xK D ev) hp sz)) (fun _ _ _ _ => False) (xX D ev hp sz hpT szT) (szT - sz + 1) (slT + 6) (xD hp sz) := by
  obtain ⟨h1, h2, h3, hop, hca, hre⟩ := hok
  obtain ⟨⟨m1, -⟩, hs⟩ := x_reach (fs := xstr ev) (fr := d) (lo := 40 * d) hop (fun pc j' k ci hm => ⟨1, 40, Nat.le_add_left 1 d, Nat.le_add_right 40 _, by
    rcases hca pc 5 j' k ci hm with h | h
    · exact h.2
    · rcases h.2.2.2.2 with ⟨h, -⟩ | ⟨h, -⟩ | ⟨h, -⟩ | ⟨h, -⟩ | ⟨h, -⟩ <;> exact absurd h (by decide)⟩) (fun pc kind j' k ci hm => (hca pc kind j' k ci hm).imp (fun h => h.1) (fun h => h)) hcalls n 0 (lv_args 0 av) [] hp sz 0 pcT lvT [] hpT szT slT hr
  refine ⟨m1, fun l D hl => ?_⟩
  refine vx_ofW (cc := (xmi j).2.1) (maxL := (xmi j).2.2.1) (ret := (xmi j).2.2.2) h3 rfl ?_
  intro p e s m args below meth c s₁ B hml ht hv
  obtain ⟨rfl, hP, hK⟩ := hv
  have hts0 := atoms_spec (ws := xWs xmi j) B.pre
  have hts : ∀ w ∈ xT, w.before av.toArray s = true := fun w hw => hts0 w (List.mem_cons_of_mem _ hw)
  have hown : s.vm.findClass "AirMail" = some m.cls := by rw [h1]; exact findClass_of_methodNamed B.named
  have hin : meth.name = nm := by rw [h2]; exact (name_of_methodNamed B.named B.method).1
  have hP' := hP.own
  have hA : ∀ q, s.heap.size ≤ q → xD hp sz q := fun q hq => Or.inr (by rw [← hP.1]; exact hq)
  have hl0 := lv_entry av (n := (xmi j).2.2.1) hlen
  rw [lg_entry_eq]
  generalize (lg_sl av ++ List.replicate ((xmi j).2.2.1 - (lg_sl av).length) Slot.unset).toArray = ls at hl0 ⊢
  have hC : xC p s m av.toArray meth c (xmi j).2.1 "AirMail" nm (xmi j).2.2.1 D ev (xD hp sz) s.heap := ⟨B.exec, B.bytes, hml, hown, hts, hK.1, hA, hin, hK.2.1, hK.2.2, rfl⟩
  have hW := hs p l e (headSpec (xWs xmi j) { frames := d + 10, cells := szT - sz + 1, slots := slT + 6, locals := 40 * d + 200 }).room s m av.toArray below meth c D (xD hp sz) s.heap s.heap sz [] ls (vx_MQ below (fun _ _ _ _ => False) (xX D ev hp sz hpT szT) av.toArray s (szT - sz + 1) (slT + 6) (xD hp sz)) hC (show d + 1 ≤ d + 10 by omega) (show 40 + 40 * d ≤ 40 * d + 200 by omega) (Nat.le_refl _) (show szT - sz ≤ szT - sz + 1 by omega) (show slT ≤ slT + 6 by omega) hP' va_S.rf hl0 (fun H' locs' ls' hP1 hS1 hl1 => by
    have hx : ∀ t : State, s.WarmedH t.vm → t.heap.size = H'.size + 1 → (∀ q : Nat, q < H'.size → t.heap[q]? = H'[q]?) → xX D ev hp sz hpT szT nseN s t := fun t hWt hz ho => by
      have hk : ∀ q : Nat, q < s.heap.size → ¬ xD hp sz q → t.heap[q]? = s.heap[q]? := fun q g1 g2 => (ho q (Nat.lt_of_lt_of_le g1 hS1.1)).trans (hS1.2.1 q g1 g2)
      refine ⟨rfl, hP1.later hz ho, ⟨va_K.moved hWt.alike hK.1, xNw.warm hWt hK.2.1, xZ.step hWt hK.2.2 hk (fun q hq => hq.elim (fun ⟨z, hz⟩ => (hP1.2 q z hz).2) (fun h => Or.inr (by omega)))⟩, ⟨by rw [hz]; exact Nat.le_succ_of_le hS1.1, hk⟩⟩
    have hf : ∀ z ∈ locs', xD hp sz z.base := hS1.2.2
    have hstr := hK.2.2.1 _ hq
    rcases hd with ⟨d0, d3, ⟨d4, d6, d9⟩ | ⟨d4, d6, d9⟩⟩
    · exact nx_throwS (names := nseL) (A := xD hp sz) B.exec B.bytes hl nse_b0 nse_b1 nse_b2 nse_b5 hown (by decide +kernel) (by decide +kernel) (hts _ (xwm' nse_k (by decide +kernel))) (hts _ (xwm' nse_i (by decide +kernel))) hstr (nse_hat hts hK.2.1) nse_ot hK.2.2.2.2.2.2.2.2.1 hK.2.2.2.2.2.2.2.2.2 hS1 (hl1.1.trans hml.symm) d0 d3 d4 d6 d9 (fun x hx => (ht x hx).elim) (show 2 + 3 < d + 10 by omega) (show 0 + (13 * (2 + 1) + 43) ≤ 40 * d + 200 by omega) (Nat.le_refl _) (Nat.le_refl _) B.notSynchronized hx hf (Nat.le_refl _) (Nat.le_refl _)
    · exact nx_throwSW (names := nseL) (A := xD hp sz) B.exec B.bytes hl nse_b0 nse_b1 nse_b2 nse_b5 hown (by decide +kernel) (by decide +kernel) (hts _ (xwm' nse_k (by decide +kernel))) (hts _ (xwm' nse_i (by decide +kernel))) hstr (nse_hat hts hK.2.1) nse_ot hK.2.2.2.2.2.2.2.2.1 hK.2.2.2.2.2.2.2.2.2 hS1 (hl1.1.trans hml.symm) d0 d3 d4 d6 d9 (fun x hx => (ht x hx).elim) (show 2 + 3 < d + 10 by omega) (show 0 + (13 * (2 + 1) + 43) ≤ 40 * d + 200 by omega) (Nat.le_refl _) (Nat.le_refl _) B.notSynchronized hx hf (Nat.le_refl _) (Nat.le_refl _))
  rw [Nat.sub_self] at hW
  exact hW
