/-! RUNS: a method's code as a list of operations, calls and returns; a run of it; that the machine runs so. -/
def xK (D : va_G) (ev : xEv) (hp : xH) (sz : Nat) (U : State) : Prop := va_K D vwCl (xTys ev.1) U ∧ (∀ w ∈ xNw, va_Nw w U) ∧ xZ ev (xD hp sz) U U.heap
/-- what the carried words are: they are kept when classes warm up -/
def xNw_k (w : Cond) : Bool := match w with
  | .methodLinkNest _ _ _ _ => true
  | .arrayOver (.object _) => true
  | .declares _ => true
  | .castable _ _ => true
  | _ => false
theorem xNw_all : ∀ w ∈ xNw, xNw_k w = true := by decide +kernel
theorem xNw_is {w : Cond} (hw : w ∈ xNw) : (∃ a i x h, w = .methodLinkNest a i x h) ∨ (∃ C, w = .arrayOver (.object C)) ∨ (∃ x, w = .declares x) ∨ ∃ a b, w = .castable a b := by
  have h3 := xNw_all w hw
  unfold xNw_k at h3
  split at h3
  · exact Or.inl ⟨_, _, _, _, rfl⟩
  · exact Or.inr (Or.inl ⟨_, rfl⟩)
  · exact Or.inr (Or.inr (Or.inl ⟨_, rfl⟩))
  · exact Or.inr (Or.inr (Or.inr ⟨_, _, rfl⟩))
  · cases h3
theorem xNw.warm {s U : State} (hW : s.WarmedH U.vm) (h : ∀ w ∈ xNw, va_Nw w s) : ∀ w ∈ xNw, va_Nw w U := fun w hw => by
  have h2 := h w hw
  rcases xNw_is hw with ⟨a, i, x, h, rfl⟩ | ⟨C, rfl⟩ | ⟨x, rfl⟩ | ⟨a, b, rfl⟩
  · exact va_Nw.warmM hW h2
  · exact va_AO.moved hW.alike h2
  · exact va_Nw.warmD hW h2
  · exact va_Nw.warmC hW h2
theorem xK.blind {D : va_G} {ev : xEv} {hp : xH} {sz : Nat} {U : State} (g : JFrame) (mk : MethodId) (a : Array Value) (h : xK D ev hp sz U) : xK D ev hp sz (U.calling g mk a) := ⟨va_K.moved (u := U) (U := U.calling g mk a) (Vm.Alike.refl U.vm) h.1, fun w hw => by
  have h2 := h.2.1 w hw
  rcases xNw_is hw with ⟨a, i, x, h, rfl⟩ | ⟨C, rfl⟩ | ⟨x, rfl⟩ | ⟨a, b, rfl⟩
  · exact va_Nw.same rfl rfl h2
  · exact va_AO.moved (u := U) (Vm.Alike.refl U.vm) h2
  · exact va_Nw.same rfl rfl h2
  · exact va_Nw.same rfl rfl h2, xZ.blind (U := U) rfl h.2.2⟩
theorem xpay {args : Array Value} {s : State} (hts : ∀ w ∈ xT, w.before args s = true) {w : Cond} (hw : w ∈ xT) (a' : Array Value) (U : State) (hW : s.WarmedH U.vm) : w.before a' U = true := word_at hW (good_of_word (List.mem_filter.mp hw).2) (hts w hw)
/-- an entry: an operation; a call (kind, number, arguments, receiver's class); a return -/
abbrev xEn : Type := (xS → Option xS) ⊕ (Nat × Nat × Nat × Nat) ⊕ Nat
abbrev xR : Type := Option Value × xH × Nat × Nat
abbrev xRel : Type := Nat → List Value → xH → Nat → xR → Prop
def xretv (k : Nat) (st : List Value) : Option (Option Value) := match k, st with
  | 0, [] => some none
  | 1, [.int v] => some (some (.int v))
  | 2, [.long v] => some (some (.long v))
  | 3, [.ref a] => some (some (.ref a))
  | 4, [.int v] => if narrow .boolean (.int v) = .int v then some (some (.int v)) else none
  | 5, [.int v] => if narrow .byte (.int v) = .int v then some (some (.int v)) else none
  | _, _ => none
def xrun (str : Nat → Nat) (fs : Nat → xS → xS → Prop) (call : xRel) (code : List (Nat × xEn)) : Nat → xS → xR → Prop
  | 0, _, _ => False
  | n + 1, (pc, lv, st, hp, sz, sl), r =>
    (∃ (op : xS → Option xS) (σ' : xS), (pc, Sum.inl op) ∈ code ∧ op (pc, lv, st, hp, sz, sl) = some σ' ∧ xrun str fs call code n σ' r) ∨
    (∃ (kind j k ci b : Nat) (As rest fl : List Value) (rv : Option Value) (hp' : xH) (sz' sl' : Nat), (pc, Sum.inr (Sum.inl (kind, j, k, ci))) ∈ code ∧ (kind = 0 ∨ kind = 2 ∨ kind = 4) ∧ As.length = k ∧ st = As.reverse ++ .ref b :: rest ∧ (rest.map fun v => v.category).sum ≤ 8 ∧ ((kind ≠ 4 ∧ hp b = some (.inr (ci, fl))) ∨ (kind = 4 ∧ ∃ i, i < 4 ∧ b = str i)) ∧ call j (.ref b :: As) hp sz (rv, hp', sz', sl') ∧ xrun str fs call code n (pc + 3, lv, rv.toList ++ rest, hp', sz', sl + sl') r) ∨
    (∃ (kind j k ci : Nat) (As rest : List Value) (rv : Option Value) (hp' : xH) (sz' sl' : Nat), (pc, Sum.inr (Sum.inl (kind, j, k, ci))) ∈ code ∧ (kind = 1 ∨ kind = 3) ∧ As.length = k ∧ st = As.reverse ++ rest ∧ (rest.map fun v => v.category).sum ≤ 8 ∧ call j As hp sz (rv, hp', sz', sl') ∧ xrun str fs call code n (pc + 3, lv, rv.toList ++ rest, hp', sz', sl + sl') r) ∨
    (∃ (k : Nat) (rv : Option Value), (pc, Sum.inr (Sum.inr k)) ∈ code ∧ xretv k st = some rv ∧ r = (rv, hp, sz, sl)) ∨
    (∃ (j k ci : Nat) (σ' : xS), (pc, Sum.inr (Sum.inl (5, j, k, ci))) ∈ code ∧ fs j (pc, lv, st, hp, sz, sl) σ' ∧ xrun str fs call code n σ' r)
def xCallOK (own : String) (cc : ByteArray) (pc kind k ci : Nat) (y : MethodName) (bytes : ByteArray) (maxL : Nat) (ret : Option FieldType) : Prop :=
  (y.cls ≠ "java/lang/invoke/MethodHandle" ∧ y.cls ≠ "java/lang/invoke/VarHandle" ∧ (parseMethodDescriptor y.desc).map (fun d => d.parameters.length) = some k) ∧ maxL ≤ 21 ∧ Cond.code y bytes maxL ret ∈ xT ∧ Cond.initialized y.cls ∈ xT ∧
  ((kind = 0 ∧ ∃ (index : Nat) (C : String) (T : u_T) (N : Nat), decode cc pc = .ok (.invokevirtual index, 3) ∧ Cond.methodLink own index y ∈ xT ∧ Cond.instanceMethod y ∈ xT ∧ Cond.selects C y y ∈ xT ∧ vwCl[ci]? = some (C, T, N)) ∨
   (kind = 1 ∧ ∃ index : Nat, decode cc pc = .ok (.invokestatic index, 3) ∧ Cond.methodLink own index y ∈ xT ∧ Cond.static y ∈ xT) ∨
   (kind = 2 ∧ ∃ index : Nat, decode cc pc = .ok (.invokespecial index, 3) ∧ y.name = "<init>" ∧ Cond.methodLink own index y ∈ xT ∧ Cond.instanceMethod y ∈ xT ∧ ret = none) ∨
   (kind = 3 ∧ ∃ (index : Nat) (host : String), decode cc pc = .ok (.invokestatic index, 3) ∧ Cond.methodLinkNest own index y host ∈ xNw ∧ Cond.static y ∈ xT) ∨
   (kind = 4 ∧ ∃ index : Nat, decode cc pc = .ok (.invokevirtual index, 3) ∧ Cond.methodLink own index y ∈ xT ∧ Cond.instanceMethod y ∈ xT ∧ Cond.selects "java/lang/String" y y ∈ xT))
def xRetOK (cc : ByteArray) (pc : Nat) (ret : Option FieldType) (k : Nat) : Prop :=
  (k = 0 ∧ decode cc pc = .ok (.return_, 1) ∧ ret = none) ∨ (k = 1 ∧ decode cc pc = .ok (.ireturn, 1) ∧ ret = some .int) ∨ (k = 2 ∧ decode cc pc = .ok (.lreturn, 1) ∧ ret = some .long) ∨ (k = 3 ∧ decode cc pc = .ok (.areturn, 1) ∧ ∃ n, ret = some (.object n)) ∨ (k = 4 ∧ decode cc pc = .ok (.ireturn, 1) ∧ ret = some .boolean) ∨ (k = 5 ∧ decode cc pc = .ok (.ireturn, 1) ∧ ret = some .byte)
abbrev xMi : Type := Nat → MethodName × ByteArray × Nat × Option FieldType
abbrev xWs (mi : xMi) (j : Nat) : List Cond := Cond.code (mi j).1 (mi j).2.1 (mi j).2.2.1 (mi j).2.2.2 :: xT
set_option maxHeartbeats 4000000 in
theorem x_sound {fs : Nat → xS → xS → Prop} {call : xRel} {code : List (Nat × xEn)} {ev : xEv} {cc : ByteArray} {own nm : String} {nL : Nat} {ret : Option FieldType} {fr lo : Nat} {mi : xMi}
    (hop : ∀ pc op, (pc, Sum.inl op) ∈ code → xOK ev cc own nm nL pc op)
    (hfs : ∀ pc j k ci, (pc, Sum.inr (Sum.inl (5, j, k, ci))) ∈ code → ∃ fq lq, fq ≤ fr + 1 ∧ lq ≤ 40 + lo ∧ xOKr fq lq ev cc own nm nL pc (fs j))
    (hca : ∀ pc kind j k ci, (pc, Sum.inr (Sum.inl (kind, j, k, ci))) ∈ code → kind = 5 ∨ xCallOK own cc pc kind k ci (mi j).1 (mi j).2.1 (mi j).2.2.1 (mi j).2.2.2)
    (hre : ∀ pc k, (pc, Sum.inr (Sum.inr k)) ∈ code → xRetOK cc pc ret k)
    (hcall : ∀ j av hp sz rv hp' sz' sl, call j av hp sz (rv, hp', sz', sl) → sz ≤ sz' ∧ ∀ (l : Launch) (D : va_G), xM l D vwCl (xK D ev) (mi j).1 (xWs mi j) fr lo av hp sz rv hp' sz' sl) :
    ∀ (n pc : Nat) (lv : xLv) (st : List Value) (hp : xH) (sz sl : Nat) (rv : Option Value) (hpE : xH) (szE slE : Nat), xrun ev.2.1 fs call code n (pc, lv, st, hp, sz, sl) (rv, hpE, szE, slE) →
    (sz ≤ szE ∧ sl ≤ slE) ∧ ∀ (p : Program) (l : Launch) (e : Env) (R : Room) (s : State) (m : MethodId) (args : Array Value) (below : List Frame) (meth : Method) (c : Code) (D : va_G) (A : Nat → Prop) (H0 H : Heap) (z0 : Nat) (locs : List Loc) (ls : Array Slot) (Qc : Array Value → State → Outcome → State → Prop) (free : Addr → Prop),
    xC p s m args meth c cc own nm nL D ev A H0 → meth.locks = false → meth.sig.returnType = ret → fr + 1 ≤ R.frames → 40 + lo ≤ R.locals → z0 ≤ sz → szE - z0 ≤ R.cells → slE ≤ R.slots → xP D vwCl A hp sz H → va_S A H0 H locs → lv_has ls nL lv → (∀ q, A q → free q) →
    (∀ (H' : Heap) (locs' : List Loc) (t : State), xP D vwCl A hpE szE H' → va_S A H0 H' locs' → t.heap = H' → s.WarmedH t.vm → Qc args s (.returned rv) t) →
    W p l e R s m args below meth c H locs (sz - z0) sl (MQ below Qc args s (szE - z0) slE free) (F0 m pc ls st) := by
  intro n
  induction n with
  | zero => intro pc lv st hp sz sl rv hpE szE slE h; exact h.elim
  | succ n ih =>
    intro pc lv st hp sz sl rv hpE szE slE h
    rcases h with ⟨op, σ', hm, ho, hr⟩ | ⟨kind, j, k, ci, b, As, rest, fl, rv1, hp1, sz1, sl1, hm, hk, hAs, hst, hsum, hb0, hcl, hr⟩ | ⟨kind, j, k, ci, As, rest, rv1, hp1, sz1, sl1, hm, hk, hAs, hst, hsum, hcl, hr⟩ | ⟨k, rv1, hm, hv, hr⟩ | ⟨j, k, ci, σ', hm, ho, hr⟩
    · obtain ⟨pc1, lv1, st1, hp1, sz1, sl1⟩ := σ'
      obtain ⟨⟨m1, m2⟩, hs⟩ := hop pc op hm lv st hp sz sl pc1 lv1 st1 hp1 sz1 sl1 ho
      obtain ⟨⟨n1, n2⟩, hi⟩ := ih pc1 lv1 st1 hp1 sz1 sl1 rv hpE szE slE hr
      refine ⟨⟨Nat.le_trans m1 n1, Nat.le_trans m2 n2⟩, ?_⟩
      intro p l e R s m args below meth c D A H0 H z0 locs ls Qc free hC hlk hrt hfr hlo hz hcs hss hP hS hl hAf hend
      refine hs p l e R s m args below meth c D A H0 H _ z0 locs ls hC (Nat.le_trans (Nat.le_add_left 1 fr) hfr) (Nat.le_trans (Nat.le_add_right 40 lo) hlo) hz (Nat.le_trans (Nat.sub_le_sub_right n1 z0) hcs) (Nat.le_trans n2 hss) hP hS hl ?_
      intro H' locs' ls' hP' hS' hl'
      exact hi p l e R s m args below meth c D A H0 H' z0 locs' ls' Qc free hC hlk hrt hfr hlo (Nat.le_trans hz m1) hcs hss hP' hS' hl' hAf hend
    · obtain ⟨m1, hM⟩ := hcall j _ hp sz rv1 hp1 sz1 sl1 hcl
      obtain ⟨⟨n1, n2⟩, hi⟩ := ih (pc + 3) lv (rv1.toList ++ rest) hp1 sz1 (sl + sl1) rv hpE szE slE hr
      refine ⟨⟨Nat.le_trans m1 n1, Nat.le_trans (Nat.le_add_right _ _) n2⟩, ?_⟩
      intro p l e R s m args below meth c D A H0 H z0 locs ls Qc free hC hlk hrt hfr hlo hz hcs hss hP hS hl hAf hend
      obtain ⟨hx, hb, hml, hown, hts, hK, hA, hnm, hNw, hZ, hH0⟩ := id hC
      subst hst
      have hD1 : ∀ q, xD hp sz q → A q := fun q hq => hq.elim (fun ⟨z, hz⟩ => (hP.2 q z hz).2) (fun h => hA q (Nat.le_trans hS.1 (by rw [hP.1]; exact h)))
      have hcc : sz - z0 + (sz1 - sz) = sz1 - z0 := by omega
      have hfit : (sz - z0) + (sz1 - sz) ≤ R.cells ∧ sl + sl1 ≤ R.slots := ⟨by rw [hcc]; exact Nat.le_trans (Nat.sub_le_sub_right n1 z0) hcs, Nat.le_trans n2 hss⟩
      obtain ⟨⟨d1, d2, d3⟩, hL, hwc, hwi, hkinds⟩ := (hca pc kind j k ci hm).resolve_left (fun h => by subst h; exact absurd hk (by decide))
      have hlen : ∀ sig, parseMethodDescriptor (mi j).1.desc = some sig → k = sig.parameters.length := fun sig h => by rw [h] at d3; exact (Option.some.inj d3).symm
      have hroom : 8 + ((mi j).2.2.1 + 11) + lo ≤ R.locals := by omega
      have hws : ∀ w ∈ xWs mi j, ∀ (a' : Array Value) (U : State), s.WarmedH U.vm → w.before a' U = true := fun w hw => by
        rcases List.mem_cons.mp hw with rfl | hw
        · exact xpay hts hwc
        · exact xpay hts hw
      have hbl : FrameBlind (va_Pc (.ref b :: As) (xPre D vwCl (xK D ev) hp sz)) := fun a U g mk q => ⟨q.1, q.2.1, xK.blind g mk a q.2.2⟩
      have hpre : ∀ U : State, U.heap = H → s.WarmedH U.vm → va_Pc (.ref b :: As) (xPre D vwCl (xK D ev) hp sz) (Value.ref b :: As).toArray U := fun U hU hW => ⟨rfl, by rw [hU]; exact hP.weaken (fun _ _ => trivial), va_K.moved hW.alike hK, xNw.warm hW hNw, by rw [hU]; exact xZ.step hW hZ (fun a h1 h2 => hS.2.1 a (by rw [hH0]; exact h1) h2 |>.trans (by rw [hH0])) hD1⟩
      have hgo : ∀ (H1 : Heap) (locs1 : List Loc), xP D vwCl A hp1 sz1 H1 → va_S A H0 H1 locs1 → W p l e R s m args below meth c H1 locs1 ((sz - z0) + (sz1 - sz)) (sl + sl1) (MQ below Qc args s (szE - z0) slE free) (F0 m (pc + 3) ls (rv1.toList ++ rest)) := fun H1 locs1 hP1 hS1 => by
        rw [hcc]
        exact hi p l e R s m args below meth c D A H0 H1 z0 locs1 ls Qc free hC hlk hrt hfr hlo (Nat.le_trans hz m1) hcs hss hP1 hS1 hl hAf hend
      rcases hkinds with ⟨rfl, index, C, T, N, k1, k2, k3, k4, k5⟩ | ⟨rfl, -⟩ | ⟨rfl, index, k1, k2, k3, k4, k5⟩ | ⟨rfl, -⟩ | ⟨rfl, index, k1, k2, k3, k4⟩
      · have hb1 : hp b = some (.inr (ci, fl)) := by
          rcases hb0 with ⟨-, h⟩ | ⟨h, -⟩
          · exact h
          · exact absurd h (by decide)
        refine x_call (va_runV (As := As) (rest := rest) (b := b) (C := C) (n := k) (bytes := (mi j).2.1) (maxL := (mi j).2.2.1) (ret := (mi j).2.2.2) ⟨hx, hb, hml, hown, hts⟩ (hM l D) ⟨⟨rfl, rfl, hfr, hroom, hws, List.mem_cons_self, hts _ hwc, hts _ hwi, ⟨d1, d2⟩, hlen, hts _ k2⟩, hts _ k3, hts _ k4⟩ ⟨hbl, va_recv hK (hP.one hb1) (ci := ci) (q0 := 0) k5 rfl, hpre⟩ rfl hAs hl.1 rfl (lv_room hsum) k1 hfit) hS hD1 hD1 hgo
      · exact absurd hk (by decide)
      · refine x_call (va_runI (As := As) (rest := rest) (b := b) (n := k) (bytes := (mi j).2.1) (maxL := (mi j).2.2.1) ⟨hx, hb, hml, hown, hts⟩ (hM l D) ⟨⟨rfl, rfl, hfr, hroom, hws, by rw [← k5]; exact List.mem_cons_self, by rw [← k5]; exact hts _ hwc, hts _ hwi, ⟨d1, d2⟩, hlen, hts _ k3⟩, k2, hts _ k4⟩ ⟨hbl, hpre⟩ rfl hAs hl.1 rfl (lv_room hsum) k1 hfit) hS hD1 hD1 hgo
      · exact absurd hk (by decide)
      · have hb1 : ∃ i, i < 4 ∧ b = ev.2.1 i := by
          rcases hb0 with ⟨h, -⟩ | ⟨-, h⟩
          · exact absurd rfl h
          · exact h
        obtain ⟨i, hi4, hbi⟩ := hb1
        have hS' : va_S A s.heap H locs := by rw [← hH0]; exact hS
        refine x_call (va_runV (As := As) (rest := rest) (b := b) (C := "java/lang/String") (n := k) (bytes := (mi j).2.1) (maxL := (mi j).2.2.1) (ret := (mi j).2.2.2) ⟨hx, hb, hml, hown, hts⟩ (hM l D) ⟨⟨rfl, rfl, hfr, hroom, hws, List.mem_cons_self, hts _ hwc, hts _ hwi, ⟨d1, d2⟩, hlen, hts _ k2⟩, hts _ k3, hts _ k4⟩ ⟨hbl, by rw [hbi]; exact vk_recv hZ.2.1 hi4 hS', hpre⟩ rfl hAs hl.1 rfl (lv_room hsum) k1 hfit) hS hD1 hD1 hgo
    · obtain ⟨m1, hM⟩ := hcall j _ hp sz rv1 hp1 sz1 sl1 hcl
      obtain ⟨⟨n1, n2⟩, hi⟩ := ih (pc + 3) lv (rv1.toList ++ rest) hp1 sz1 (sl + sl1) rv hpE szE slE hr
      refine ⟨⟨Nat.le_trans m1 n1, Nat.le_trans (Nat.le_add_right _ _) n2⟩, ?_⟩
      intro p l e R s m args below meth c D A H0 H z0 locs ls Qc free hC hlk hrt hfr hlo hz hcs hss hP hS hl hAf hend
      obtain ⟨hx, hb, hml, hown, hts, hK, hA, hnm, hNw, hZ, hH0⟩ := id hC
      subst hst
      have hD1 : ∀ q, xD hp sz q → A q := fun q hq => hq.elim (fun ⟨z, hz⟩ => (hP.2 q z hz).2) (fun h => hA q (Nat.le_trans hS.1 (by rw [hP.1]; exact h)))
      have hcc : sz - z0 + (sz1 - sz) = sz1 - z0 := by omega
      have hfit : (sz - z0) + (sz1 - sz) ≤ R.cells ∧ sl + sl1 ≤ R.slots := ⟨by rw [hcc]; exact Nat.le_trans (Nat.sub_le_sub_right n1 z0) hcs, Nat.le_trans n2 hss⟩
      obtain ⟨⟨d1, d2, d3⟩, hL, hwc, hwi, hkinds⟩ := (hca pc kind j k ci hm).resolve_left (fun h => by subst h; exact absurd hk (by decide))
      have hlen : ∀ sig, parseMethodDescriptor (mi j).1.desc = some sig → k = sig.parameters.length := fun sig h => by rw [h] at d3; exact (Option.some.inj d3).symm
      have hroom : 8 + ((mi j).2.2.1 + 11) + lo ≤ R.locals := by omega
      have hws : ∀ w ∈ xWs mi j, ∀ (a' : Array Value) (U : State), s.WarmedH U.vm → w.before a' U = true := fun w hw => by
        rcases List.mem_cons.mp hw with rfl | hw
        · exact xpay hts hwc
        · exact xpay hts hw
      have hbl : FrameBlind (va_Pc As (xPre D vwCl (xK D ev) hp sz)) := fun a U g mk q => ⟨q.1, q.2.1, xK.blind g mk a q.2.2⟩
      have hpre : ∀ U : State, U.heap = H → s.WarmedH U.vm → va_Pc As (xPre D vwCl (xK D ev) hp sz) As.toArray U := fun U hU hW => ⟨rfl, by rw [hU]; exact hP.weaken (fun _ _ => trivial), va_K.moved hW.alike hK, xNw.warm hW hNw, by rw [hU]; exact xZ.step hW hZ (fun a h1 h2 => hS.2.1 a (by rw [hH0]; exact h1) h2 |>.trans (by rw [hH0])) hD1⟩
      have hgo : ∀ (H1 : Heap) (locs1 : List Loc), xP D vwCl A hp1 sz1 H1 → va_S A H0 H1 locs1 → W p l e R s m args below meth c H1 locs1 ((sz - z0) + (sz1 - sz)) (sl + sl1) (MQ below Qc args s (szE - z0) slE free) (F0 m (pc + 3) ls (rv1.toList ++ rest)) := fun H1 locs1 hP1 hS1 => by
        rw [hcc]
        exact hi p l e R s m args below meth c D A H0 H1 z0 locs1 ls Qc free hC hlk hrt hfr hlo (Nat.le_trans hz m1) hcs hss hP1 hS1 hl hAf hend
      rcases hkinds with ⟨rfl, -⟩ | ⟨rfl, index, k1, k2, k3⟩ | ⟨rfl, -⟩ | ⟨rfl, index, host, k1, k2, k3⟩ | ⟨rfl, -⟩
      · exact absurd hk (by decide)
      · refine x_call (va_runS (As := As) (rest := rest) (n := k) (bytes := (mi j).2.1) (maxL := (mi j).2.2.1) (ret := (mi j).2.2.2) ⟨hx, hb, hml, hown, hts⟩ (hM l D) ⟨⟨rfl, rfl, hfr, hroom, hws, List.mem_cons_self, hts _ hwc, hts _ hwi, ⟨d1, d2⟩, hlen, hts _ k2⟩, hts _ k3⟩ ⟨hbl, hpre⟩ rfl hAs hl.1 rfl (lv_room hsum) k1 hfit) hS hD1 hD1 hgo
      · exact absurd hk (by decide)
      · refine x_call (va_runSN (As := As) (rest := rest) (n := k) (bytes := (mi j).2.1) (maxL := (mi j).2.2.1) (ret := (mi j).2.2.2) (host := host) ⟨hx, hb, hml, hown, hts⟩ (hM l D) ⟨⟨⟨rfl, rfl, hfr, hroom, hws, List.mem_cons_self⟩, hts _ hwc, hts _ hwi, ⟨d1, d2⟩, hlen, va_Nw.use rfl (hNw _ k2)⟩, hts _ k3, trivial⟩ ⟨hbl, hpre⟩ rfl hAs hl.1 rfl (lv_room hsum) k1 hfit) hS hD1 hD1 hgo
      · exact absurd hk (by decide)
    · cases hr
      refine ⟨⟨Nat.le_refl _, Nat.le_refl _⟩, ?_⟩
      intro p l e R s m args below meth c D A H0 H z0 locs ls Qc free hC hlk hrt hfr hlo hz hcs hss hP hS hl hAf hend
      obtain ⟨hx, hb, hml, hown, hts, hK, hA, hnm, hNw, hZ, hH0⟩ := id hC
      have hq : ∀ t : State, t.heap = H → s.WarmedH t.vm → Qc args s (.returned rv) t := fun t ht hW => hend H locs t hP hS ht hW
      have hf : ∀ q ∈ locs, free q.base := fun q hq => hAf _ (hS.2.2 q hq)
      unfold xretv at hv
      split at hv
      · cases hv
        rcases hre pc 0 hm with ⟨-, k1, k2⟩ | ⟨h, -⟩ | ⟨h, -⟩ | ⟨h, -⟩ | ⟨h, -⟩ | ⟨h, -⟩
        · exact W.vret hx hb (hrt.trans k2) hq hf k1 hlk
        all_goals exact absurd h (by decide)
      · cases hv
        rcases hre pc 1 hm with ⟨h, -⟩ | ⟨-, k1, k2⟩ | ⟨h, -⟩ | ⟨h, -⟩ | ⟨h, -⟩ | ⟨h, -⟩
        · exact absurd h (by decide)
        · exact W.iret hx hb (hrt.trans k2) hq hf k1 hlk
        all_goals exact absurd h (by decide)
      · cases hv
        rcases hre pc 2 hm with ⟨h, -⟩ | ⟨h, -⟩ | ⟨-, k1, k2⟩ | ⟨h, -⟩ | ⟨h, -⟩ | ⟨h, -⟩
        · exact absurd h (by decide)
        · exact absurd h (by decide)
        · exact W.lret hx hb (hrt.trans k2) hq hf k1 hlk
        all_goals exact absurd h (by decide)
      · cases hv
        rcases hre pc 3 hm with ⟨h, -⟩ | ⟨h, -⟩ | ⟨h, -⟩ | ⟨-, k1, n, k2⟩ | ⟨h, -⟩ | ⟨h, -⟩
        · exact absurd h (by decide)
        · exact absurd h (by decide)
        · exact absurd h (by decide)
        · exact W.aret hx hb (hrt.trans k2) (Or.inl ⟨n, rfl⟩) (Or.inr ⟨_, rfl⟩) hq hf k1 hlk
        · exact absurd h (by decide)
        · exact absurd h (by decide)
      · split at hv
        · next hnar =>
          cases hv
          rcases hre pc 4 hm with ⟨h, -⟩ | ⟨h, -⟩ | ⟨h, -⟩ | ⟨h, -⟩ | ⟨-, k1, k2⟩ | ⟨h, -⟩
          · exact absurd h (by decide)
          · exact absurd h (by decide)
          · exact absurd h (by decide)
          · exact absurd h (by decide)
          · exact W.zret hx hb (hrt.trans k2) hnar hq hf k1 hlk
          · exact absurd h (by decide)
        · cases hv
      · split at hv
        · next hnar =>
          cases hv
          rcases hre pc 5 hm with ⟨h, -⟩ | ⟨h, -⟩ | ⟨h, -⟩ | ⟨h, -⟩ | ⟨h, -⟩ | ⟨-, k1, k2⟩
          · exact absurd h (by decide)
          · exact absurd h (by decide)
          · exact absurd h (by decide)
          · exact absurd h (by decide)
          · exact absurd h (by decide)
          · exact W.zret hx hb (hrt.trans k2) hnar hq hf k1 hlk
        · cases hv
      · cases hv
    · obtain ⟨pc1, lv1, st1, hp1, sz1, sl1⟩ := σ'
      obtain ⟨fq, lq, hf1, hf2, hok⟩ := hfs pc j k ci hm
      · obtain ⟨⟨m1, m2⟩, hs⟩ := hok lv st hp sz sl pc1 lv1 st1 hp1 sz1 sl1 ho
        obtain ⟨⟨n1, n2⟩, hi⟩ := ih pc1 lv1 st1 hp1 sz1 sl1 rv hpE szE slE hr
        refine ⟨⟨Nat.le_trans m1 n1, Nat.le_trans m2 n2⟩, ?_⟩
        intro p l e R s m args below meth c D A H0 H z0 locs ls Qc free hC hlk hrt hfr hlo hz hcs hss hP hS hl hAf hend
        refine hs p l e R s m args below meth c D A H0 H _ z0 locs ls hC (Nat.le_trans hf1 hfr) (Nat.le_trans hf2 hlo) hz (Nat.le_trans (Nat.sub_le_sub_right n1 z0) hcs) (Nat.le_trans n2 hss) hP hS hl ?_
        intro H' locs' ls' hP' hS' hl'
        exact hi p l e R s m args below meth c D A H0 H' z0 locs' ls' Qc free hC hlk hrt hfr hlo (Nat.le_trans hz m1) hcs hss hP' hS' hl' hAf hend
/-- a state is reached from another -/
def xrch (str : Nat → Nat) (fs : Nat → xS → xS → Prop) (call : xRel) (code : List (Nat × xEn)) : Nat → xS → xS → Prop
  | 0, σ, τ => σ = τ
  | n + 1, (pc, lv, st, hp, sz, sl), r =>
    (∃ (op : xS → Option xS) (σ' : xS), (pc, Sum.inl op) ∈ code ∧ op (pc, lv, st, hp, sz, sl) = some σ' ∧ xrch str fs call code n σ' r) ∨
    (∃ (kind j k ci b : Nat) (As rest fl : List Value) (rv : Option Value) (hp' : xH) (sz' sl' : Nat), (pc, Sum.inr (Sum.inl (kind, j, k, ci))) ∈ code ∧ (kind = 0 ∨ kind = 2 ∨ kind = 4) ∧ As.length = k ∧ st = As.reverse ++ .ref b :: rest ∧ (rest.map fun v => v.category).sum ≤ 8 ∧ ((kind ≠ 4 ∧ hp b = some (.inr (ci, fl))) ∨ (kind = 4 ∧ ∃ i, i < 4 ∧ b = str i)) ∧ call j (.ref b :: As) hp sz (rv, hp', sz', sl') ∧ xrch str fs call code n (pc + 3, lv, rv.toList ++ rest, hp', sz', sl + sl') r) ∨
    (∃ (kind j k ci : Nat) (As rest : List Value) (rv : Option Value) (hp' : xH) (sz' sl' : Nat), (pc, Sum.inr (Sum.inl (kind, j, k, ci))) ∈ code ∧ (kind = 1 ∨ kind = 3) ∧ As.length = k ∧ st = As.reverse ++ rest ∧ (rest.map fun v => v.category).sum ≤ 8 ∧ call j As hp sz (rv, hp', sz', sl') ∧ xrch str fs call code n (pc + 3, lv, rv.toList ++ rest, hp', sz', sl + sl') r) ∨
    (∃ (j k ci : Nat) (σ' : xS), (pc, Sum.inr (Sum.inl (5, j, k, ci))) ∈ code ∧ fs j (pc, lv, st, hp, sz, sl) σ' ∧ xrch str fs call code n σ' r)
set_option maxHeartbeats 4000000 in
theorem x_reach {fs : Nat → xS → xS → Prop} {call : xRel} {code : List (Nat × xEn)} {ev : xEv} {cc : ByteArray} {own nm : String} {nL : Nat} {fr lo : Nat} {mi : xMi}
    (hop : ∀ pc op, (pc, Sum.inl op) ∈ code → xOK ev cc own nm nL pc op)
    (hfs : ∀ pc j k ci, (pc, Sum.inr (Sum.inl (5, j, k, ci))) ∈ code → ∃ fq lq, fq ≤ fr + 1 ∧ lq ≤ 40 + lo ∧ xOKr fq lq ev cc own nm nL pc (fs j))
    (hca : ∀ pc kind j k ci, (pc, Sum.inr (Sum.inl (kind, j, k, ci))) ∈ code → kind = 5 ∨ xCallOK own cc pc kind k ci (mi j).1 (mi j).2.1 (mi j).2.2.1 (mi j).2.2.2)
    (hcall : ∀ j av hp sz rv hp' sz' sl, call j av hp sz (rv, hp', sz', sl) → sz ≤ sz' ∧ ∀ (l : Launch) (D : va_G), xM l D vwCl (xK D ev) (mi j).1 (xWs mi j) fr lo av hp sz rv hp' sz' sl) :
    ∀ (n pc : Nat) (lv : xLv) (st : List Value) (hp : xH) (sz sl : Nat) (pcE : Nat) (lvE : xLv) (stE : List Value) (hpE : xH) (szE slE : Nat), xrch ev.2.1 fs call code n (pc, lv, st, hp, sz, sl) (pcE, lvE, stE, hpE, szE, slE) →
    (sz ≤ szE ∧ sl ≤ slE) ∧ ∀ (p : Program) (l : Launch) (e : Env) (R : Room) (s : State) (m : MethodId) (args : Array Value) (below : List Frame) (meth : Method) (c : Code) (D : va_G) (A : Nat → Prop) (H0 H : Heap) (z0 : Nat) (locs : List Loc) (ls : Array Slot) (Q : State → Prop),
    xC p s m args meth c cc own nm nL D ev A H0 → fr + 1 ≤ R.frames → 40 + lo ≤ R.locals → z0 ≤ sz → szE - z0 ≤ R.cells → slE ≤ R.slots → xP D vwCl A hp sz H → va_S A H0 H locs → lv_has ls nL lv →
    (∀ (H' : Heap) (locs' : List Loc) (ls' : Array Slot), xP D vwCl A hpE szE H' → va_S A H0 H' locs' → lv_has ls' nL lvE → W p l e R s m args below meth c H' locs' (szE - z0) slE Q (F0 m pcE ls' stE)) →
    W p l e R s m args below meth c H locs (sz - z0) sl Q (F0 m pc ls st) := by
  intro n
  induction n with
  | zero =>
    intro pc lv st hp sz sl pcE lvE stE hpE szE slE h
    cases h
    refine ⟨⟨Nat.le_refl _, Nat.le_refl _⟩, ?_⟩
    intro p l e R s m args below meth c D A H0 H z0 locs ls Q hC hfr hlo hz hcs hss hP hS hl hend
    exact hend H locs ls hP hS hl
  | succ n ih =>
    intro pc lv st hp sz sl pcE lvE stE hpE szE slE h
    rcases h with ⟨op, σ', hm, ho, hr⟩ | ⟨kind, j, k, ci, b, As, rest, fl, rv1, hp1, sz1, sl1, hm, hk, hAs, hst, hsum, hb0, hcl, hr⟩ | ⟨kind, j, k, ci, As, rest, rv1, hp1, sz1, sl1, hm, hk, hAs, hst, hsum, hcl, hr⟩ | ⟨j, k, ci, σ', hm, ho, hr⟩
    · obtain ⟨pc1, lv1, st1, hp1, sz1, sl1⟩ := σ'
      obtain ⟨⟨m1, m2⟩, hs⟩ := hop pc op hm lv st hp sz sl pc1 lv1 st1 hp1 sz1 sl1 ho
      obtain ⟨⟨n1, n2⟩, hi⟩ := ih pc1 lv1 st1 hp1 sz1 sl1 pcE lvE stE hpE szE slE hr
      refine ⟨⟨Nat.le_trans m1 n1, Nat.le_trans m2 n2⟩, ?_⟩
      intro p l e R s m args below meth c D A H0 H z0 locs ls Q hC hfr hlo hz hcs hss hP hS hl hend
      refine hs p l e R s m args below meth c D A H0 H _ z0 locs ls hC (Nat.le_trans (Nat.le_add_left 1 fr) hfr) (Nat.le_trans (Nat.le_add_right 40 lo) hlo) hz (Nat.le_trans (Nat.sub_le_sub_right n1 z0) hcs) (Nat.le_trans n2 hss) hP hS hl ?_
      intro H' locs' ls' hP' hS' hl'
      exact hi p l e R s m args below meth c D A H0 H' z0 locs' ls' Q hC hfr hlo (Nat.le_trans hz m1) hcs hss hP' hS' hl' hend
    · obtain ⟨m1, hM⟩ := hcall j _ hp sz rv1 hp1 sz1 sl1 hcl
      obtain ⟨⟨n1, n2⟩, hi⟩ := ih (pc + 3) lv (rv1.toList ++ rest) hp1 sz1 (sl + sl1) pcE lvE stE hpE szE slE hr
      refine ⟨⟨Nat.le_trans m1 n1, Nat.le_trans (Nat.le_add_right _ _) n2⟩, ?_⟩
      intro p l e R s m args below meth c D A H0 H z0 locs ls Q hC hfr hlo hz hcs hss hP hS hl hend
      obtain ⟨hx, hb, hml, hown, hts, hK, hA, hnm, hNw, hZ, hH0⟩ := id hC
      subst hst
      have hD1 : ∀ q, xD hp sz q → A q := fun q hq => hq.elim (fun ⟨z, hz⟩ => (hP.2 q z hz).2) (fun h => hA q (Nat.le_trans hS.1 (by rw [hP.1]; exact h)))
      have hcc : sz - z0 + (sz1 - sz) = sz1 - z0 := by omega
      have hfit : (sz - z0) + (sz1 - sz) ≤ R.cells ∧ sl + sl1 ≤ R.slots := ⟨by rw [hcc]; exact Nat.le_trans (Nat.sub_le_sub_right n1 z0) hcs, Nat.le_trans n2 hss⟩
      obtain ⟨⟨d1, d2, d3⟩, hL, hwc, hwi, hkinds⟩ := (hca pc kind j k ci hm).resolve_left (fun h => by subst h; exact absurd hk (by decide))
      have hlen : ∀ sig, parseMethodDescriptor (mi j).1.desc = some sig → k = sig.parameters.length := fun sig h => by rw [h] at d3; exact (Option.some.inj d3).symm
      have hroom : 8 + ((mi j).2.2.1 + 11) + lo ≤ R.locals := by omega
      have hws : ∀ w ∈ xWs mi j, ∀ (a' : Array Value) (U : State), s.WarmedH U.vm → w.before a' U = true := fun w hw => by
        rcases List.mem_cons.mp hw with rfl | hw
        · exact xpay hts hwc
        · exact xpay hts hw
      have hbl : FrameBlind (va_Pc (.ref b :: As) (xPre D vwCl (xK D ev) hp sz)) := fun a U g mk q => ⟨q.1, q.2.1, xK.blind g mk a q.2.2⟩
      have hpre : ∀ U : State, U.heap = H → s.WarmedH U.vm → va_Pc (.ref b :: As) (xPre D vwCl (xK D ev) hp sz) (Value.ref b :: As).toArray U := fun U hU hW => ⟨rfl, by rw [hU]; exact hP.weaken (fun _ _ => trivial), va_K.moved hW.alike hK, xNw.warm hW hNw, by rw [hU]; exact xZ.step hW hZ (fun a h1 h2 => hS.2.1 a (by rw [hH0]; exact h1) h2 |>.trans (by rw [hH0])) hD1⟩
      have hgo : ∀ (H1 : Heap) (locs1 : List Loc), xP D vwCl A hp1 sz1 H1 → va_S A H0 H1 locs1 → W p l e R s m args below meth c H1 locs1 ((sz - z0) + (sz1 - sz)) (sl + sl1) Q (F0 m (pc + 3) ls (rv1.toList ++ rest)) := fun H1 locs1 hP1 hS1 => by
        rw [hcc]
        exact hi p l e R s m args below meth c D A H0 H1 z0 locs1 ls Q hC hfr hlo (Nat.le_trans hz m1) hcs hss hP1 hS1 hl hend
      rcases hkinds with ⟨rfl, index, C, T, N, k1, k2, k3, k4, k5⟩ | ⟨rfl, -⟩ | ⟨rfl, index, k1, k2, k3, k4, k5⟩ | ⟨rfl, -⟩ | ⟨rfl, index, k1, k2, k3, k4⟩
      · have hb1 : hp b = some (.inr (ci, fl)) := by
          rcases hb0 with ⟨-, h⟩ | ⟨h, -⟩
          · exact h
          · exact absurd h (by decide)
        refine x_call (va_runV (As := As) (rest := rest) (b := b) (C := C) (n := k) (bytes := (mi j).2.1) (maxL := (mi j).2.2.1) (ret := (mi j).2.2.2) ⟨hx, hb, hml, hown, hts⟩ (hM l D) ⟨⟨rfl, rfl, hfr, hroom, hws, List.mem_cons_self, hts _ hwc, hts _ hwi, ⟨d1, d2⟩, hlen, hts _ k2⟩, hts _ k3, hts _ k4⟩ ⟨hbl, va_recv hK (hP.one hb1) (ci := ci) (q0 := 0) k5 rfl, hpre⟩ rfl hAs hl.1 rfl (lv_room hsum) k1 hfit) hS hD1 hD1 hgo
      · exact absurd hk (by decide)
      · refine x_call (va_runI (As := As) (rest := rest) (b := b) (n := k) (bytes := (mi j).2.1) (maxL := (mi j).2.2.1) ⟨hx, hb, hml, hown, hts⟩ (hM l D) ⟨⟨rfl, rfl, hfr, hroom, hws, by rw [← k5]; exact List.mem_cons_self, by rw [← k5]; exact hts _ hwc, hts _ hwi, ⟨d1, d2⟩, hlen, hts _ k3⟩, k2, hts _ k4⟩ ⟨hbl, hpre⟩ rfl hAs hl.1 rfl (lv_room hsum) k1 hfit) hS hD1 hD1 hgo
      · exact absurd hk (by decide)
      · have hb1 : ∃ i, i < 4 ∧ b = ev.2.1 i := by
          rcases hb0 with ⟨h, -⟩ | ⟨-, h⟩
          · exact absurd rfl h
          · exact h
        obtain ⟨i, hi4, hbi⟩ := hb1
        have hS' : va_S A s.heap H locs := by rw [← hH0]; exact hS
        refine x_call (va_runV (As := As) (rest := rest) (b := b) (C := "java/lang/String") (n := k) (bytes := (mi j).2.1) (maxL := (mi j).2.2.1) (ret := (mi j).2.2.2) ⟨hx, hb, hml, hown, hts⟩ (hM l D) ⟨⟨rfl, rfl, hfr, hroom, hws, List.mem_cons_self, hts _ hwc, hts _ hwi, ⟨d1, d2⟩, hlen, hts _ k2⟩, hts _ k3, hts _ k4⟩ ⟨hbl, by rw [hbi]; exact vk_recv hZ.2.1 hi4 hS', hpre⟩ rfl hAs hl.1 rfl (lv_room hsum) k1 hfit) hS hD1 hD1 hgo
    · obtain ⟨m1, hM⟩ := hcall j _ hp sz rv1 hp1 sz1 sl1 hcl
      obtain ⟨⟨n1, n2⟩, hi⟩ := ih (pc + 3) lv (rv1.toList ++ rest) hp1 sz1 (sl + sl1) pcE lvE stE hpE szE slE hr
      refine ⟨⟨Nat.le_trans m1 n1, Nat.le_trans (Nat.le_add_right _ _) n2⟩, ?_⟩
      intro p l e R s m args below meth c D A H0 H z0 locs ls Q hC hfr hlo hz hcs hss hP hS hl hend
      obtain ⟨hx, hb, hml, hown, hts, hK, hA, hnm, hNw, hZ, hH0⟩ := id hC
      subst hst
      have hD1 : ∀ q, xD hp sz q → A q := fun q hq => hq.elim (fun ⟨z, hz⟩ => (hP.2 q z hz).2) (fun h => hA q (Nat.le_trans hS.1 (by rw [hP.1]; exact h)))
      have hcc : sz - z0 + (sz1 - sz) = sz1 - z0 := by omega
      have hfit : (sz - z0) + (sz1 - sz) ≤ R.cells ∧ sl + sl1 ≤ R.slots := ⟨by rw [hcc]; exact Nat.le_trans (Nat.sub_le_sub_right n1 z0) hcs, Nat.le_trans n2 hss⟩
      obtain ⟨⟨d1, d2, d3⟩, hL, hwc, hwi, hkinds⟩ := (hca pc kind j k ci hm).resolve_left (fun h => by subst h; exact absurd hk (by decide))
      have hlen : ∀ sig, parseMethodDescriptor (mi j).1.desc = some sig → k = sig.parameters.length := fun sig h => by rw [h] at d3; exact (Option.some.inj d3).symm
      have hroom : 8 + ((mi j).2.2.1 + 11) + lo ≤ R.locals := by omega
      have hws : ∀ w ∈ xWs mi j, ∀ (a' : Array Value) (U : State), s.WarmedH U.vm → w.before a' U = true := fun w hw => by
        rcases List.mem_cons.mp hw with rfl | hw
        · exact xpay hts hwc
        · exact xpay hts hw
      have hbl : FrameBlind (va_Pc As (xPre D vwCl (xK D ev) hp sz)) := fun a U g mk q => ⟨q.1, q.2.1, xK.blind g mk a q.2.2⟩
      have hpre : ∀ U : State, U.heap = H → s.WarmedH U.vm → va_Pc As (xPre D vwCl (xK D ev) hp sz) As.toArray U := fun U hU hW => ⟨rfl, by rw [hU]; exact hP.weaken (fun _ _ => trivial), va_K.moved hW.alike hK, xNw.warm hW hNw, by rw [hU]; exact xZ.step hW hZ (fun a h1 h2 => hS.2.1 a (by rw [hH0]; exact h1) h2 |>.trans (by rw [hH0])) hD1⟩
      have hgo : ∀ (H1 : Heap) (locs1 : List Loc), xP D vwCl A hp1 sz1 H1 → va_S A H0 H1 locs1 → W p l e R s m args below meth c H1 locs1 ((sz - z0) + (sz1 - sz)) (sl + sl1) Q (F0 m (pc + 3) ls (rv1.toList ++ rest)) := fun H1 locs1 hP1 hS1 => by
        rw [hcc]
        exact hi p l e R s m args below meth c D A H0 H1 z0 locs1 ls Q hC hfr hlo (Nat.le_trans hz m1) hcs hss hP1 hS1 hl hend
      rcases hkinds with ⟨rfl, -⟩ | ⟨rfl, index, k1, k2, k3⟩ | ⟨rfl, -⟩ | ⟨rfl, index, host, k1, k2, k3⟩ | ⟨rfl, -⟩
      · exact absurd hk (by decide)
      · refine x_call (va_runS (As := As) (rest := rest) (n := k) (bytes := (mi j).2.1) (maxL := (mi j).2.2.1) (ret := (mi j).2.2.2) ⟨hx, hb, hml, hown, hts⟩ (hM l D) ⟨⟨rfl, rfl, hfr, hroom, hws, List.mem_cons_self, hts _ hwc, hts _ hwi, ⟨d1, d2⟩, hlen, hts _ k2⟩, hts _ k3⟩ ⟨hbl, hpre⟩ rfl hAs hl.1 rfl (lv_room hsum) k1 hfit) hS hD1 hD1 hgo
      · exact absurd hk (by decide)
      · refine x_call (va_runSN (As := As) (rest := rest) (n := k) (bytes := (mi j).2.1) (maxL := (mi j).2.2.1) (ret := (mi j).2.2.2) (host := host) ⟨hx, hb, hml, hown, hts⟩ (hM l D) ⟨⟨⟨rfl, rfl, hfr, hroom, hws, List.mem_cons_self⟩, hts _ hwc, hts _ hwi, ⟨d1, d2⟩, hlen, va_Nw.use rfl (hNw _ k2)⟩, hts _ k3, trivial⟩ ⟨hbl, hpre⟩ rfl hAs hl.1 rfl (lv_room hsum) k1 hfit) hS hD1 hD1 hgo
      · exact absurd hk (by decide)
    · obtain ⟨pc1, lv1, st1, hp1, sz1, sl1⟩ := σ'
      obtain ⟨fq, lq, hf1, hf2, hok⟩ := hfs pc j k ci hm
      · obtain ⟨⟨m1, m2⟩, hs⟩ := hok lv st hp sz sl pc1 lv1 st1 hp1 sz1 sl1 ho
        obtain ⟨⟨n1, n2⟩, hi⟩ := ih pc1 lv1 st1 hp1 sz1 sl1 pcE lvE stE hpE szE slE hr
        refine ⟨⟨Nat.le_trans m1 n1, Nat.le_trans m2 n2⟩, ?_⟩
        intro p l e R s m args below meth c D A H0 H z0 locs ls Q hC hfr hlo hz hcs hss hP hS hl hend
        refine hs p l e R s m args below meth c D A H0 H _ z0 locs ls hC (Nat.le_trans hf1 hfr) (Nat.le_trans hf2 hlo) hz (Nat.le_trans (Nat.sub_le_sub_right n1 z0) hcs) (Nat.le_trans n2 hss) hP hS hl ?_
        intro H' locs' ls' hP' hS' hl'
        exact hi p l e R s m args below meth c D A H0 H' z0 locs' ls' Q hC hfr hlo (Nat.le_trans hz m1) hcs hss hP' hS' hl' hend
/-- a method of the table: its entries hold of its bytes -/
def xMethOK (ev : xEv) (mi : xMi) (own nm : String) (j : Nat) (code : List (Nat × xEn)) : Prop :=
  own = (mi j).1.cls ∧ nm = (mi j).1.name ∧ plainName (mi j).1.cls = true ∧
  (∀ pc op, (pc, Sum.inl op) ∈ code → xOK ev (mi j).2.1 own nm (mi j).2.2.1 pc op) ∧
  (∀ pc kind j' k ci, (pc, Sum.inr (Sum.inl (kind, j', k, ci))) ∈ code → (kind = 5 ∧ xOKr 1 40 ev (mi j).2.1 own nm (mi j).2.2.1 pc (xstr ev j')) ∨ xCallOK own (mi j).2.1 pc kind k ci (mi j').1 (mi j').2.1 (mi j').2.2.1 (mi j').2.2.2) ∧
  (∀ pc k, (pc, Sum.inr (Sum.inr k)) ∈ code → xRetOK (mi j).2.1 pc (mi j).2.2.2 k)
theorem x_method {call : xRel} {code : List (Nat × xEn)} {ev : xEv} {own nm : String} {j fr lo : Nat} {mi : xMi} (hok : xMethOK ev mi own nm j code)
    (hcall : ∀ j av hp sz rv hp' sz' sl, call j av hp sz (rv, hp', sz', sl) → sz ≤ sz' ∧ ∀ (l : Launch) (D : va_G), xM l D vwCl (xK D ev) (mi j).1 (xWs mi j) fr lo av hp sz rv hp' sz' sl)
    {n : Nat} {av : List Value} {hp : xH} {sz : Nat} {rv : Option Value} {hp' : xH} {sz' sl : Nat} (hlen : (lg_sl av).length ≤ (mi j).2.2.1) (hrun : xrun ev.2.1 (xstr ev) call code n (0, lv_args 0 av, [], hp, sz, 0) (rv, hp', sz', sl)) :
    sz ≤ sz' ∧ ∀ (l : Launch) (D : va_G), xM l D vwCl (xK D ev) (mi j).1 (xWs mi j) (fr + 1) (40 + lo) av hp sz rv hp' sz' sl := by
  obtain ⟨h1, h2, h3, hop, hca, hre⟩ := hok
  obtain ⟨⟨m1, -⟩, hs⟩ := x_sound (fs := xstr ev) hop (fun pc j' k ci hm => ⟨1, 40, Nat.le_add_left 1 fr, Nat.le_add_right 40 lo, by
    rcases hca pc 5 j' k ci hm with h | h
    · exact h.2
    · rcases h.2.2.2.2 with ⟨h, -⟩ | ⟨h, -⟩ | ⟨h, -⟩ | ⟨h, -⟩ | ⟨h, -⟩ <;> exact absurd h (by decide)⟩) (fun pc kind j' k ci hm => (hca pc kind j' k ci hm).imp (fun h => h.1) (fun h => h)) hre hcall n 0 (lv_args 0 av) [] hp sz 0 rv hp' sz' sl hrun
  refine ⟨m1, fun l D => ?_⟩
  refine Met.ofW (cc := (mi j).2.1) (maxL := (mi j).2.2.1) (ret := (mi j).2.2.2) h3 rfl ?_
  intro p e s m args below meth c s₁ B hml hv
  obtain ⟨rfl, hP, hK⟩ := hv
  have hts0 := atoms_spec (ws := xWs mi j) B.pre
  have hts : ∀ w ∈ xT, w.before av.toArray s = true := fun w hw => hts0 w (List.mem_cons_of_mem _ hw)
  have hown : s.vm.findClass own = some m.cls := by rw [h1]; exact findClass_of_methodNamed B.named
  have hin : meth.name = nm := by rw [h2]; exact (name_of_methodNamed B.named B.method).1
  have hP' := hP.own
  have hA : ∀ q, s.heap.size ≤ q → xD hp sz q := fun q hq => Or.inr (by rw [← hP.1]; exact hq)
  have hl := lv_entry av (n := (mi j).2.2.1) hlen
  rw [lg_entry_eq]
  generalize (lg_sl av ++ List.replicate ((mi j).2.2.1 - (lg_sl av).length) Slot.unset).toArray = ls at hl ⊢
  have hW := hs p l e (headSpec (xWs mi j) { frames := fr + 1, cells := sz' - sz, slots := sl, locals := 40 + lo }).room s m av.toArray below meth c D (xD hp sz) s.heap s.heap sz [] ls (xQ D vwCl (xK D ev) rv hp' sz' (xD hp sz)) (xD hp sz) ⟨B.exec, B.bytes, hml, hown, hts, hK.1, hA, hin, hK.2.1, hK.2.2, rfl⟩ B.notSynchronized B.returns (Nat.le_refl _) (Nat.le_refl _) (Nat.le_refl _) (Nat.le_refl _) (Nat.le_refl _) hP' va_S.rf hl (fun _ h => h) (fun H' locs' t hP1 hS1 ht hWt => ⟨⟨rfl, by rw [ht]; exact hP1, va_K.moved hWt.alike hK.1, xNw.warm hWt hK.2.1, by
    rw [ht]
    exact xZ.step hWt hK.2.2 hS1.2.1 (fun q hq => hq.elim (fun ⟨z, hz⟩ => (hP1.2 q z hz).2) (fun h => Or.inr (Nat.le_trans m1 h)))⟩, hS1.F ht⟩)
  rw [Nat.sub_self] at hW
  exact hW
/-- runs of the table's methods, calls at most d deep; from depth 8 on also what is proved otherwise (prim) -/
def xCalls (ev : xEv) (mi : xMi) (prog : Nat → List (Nat × xEn)) (prim : xRel) : Nat → xRel
  | 0 => fun _ _ _ _ _ => False
  | d + 1 => fun j av hp sz r => ((lg_sl av).length ≤ (mi j).2.2.1 ∧ ∃ n, xrun ev.2.1 (xstr ev) (xCalls ev mi prog prim d) (prog j) n (0, lv_args 0 av, [], hp, sz, 0) r) ∨ (8 ≤ d + 1 ∧ prim j av hp sz r)
/-- THE MACHINE RUNS SO -/
theorem x_calls {ev : xEv} {mi : xMi} {prog : Nat → List (Nat × xEn)} {prim : xRel} (hok : ∀ j, prog j ≠ [] → ∃ own nm, xMethOK ev mi own nm j (prog j))
    (hprim : ∀ (d : Nat), 8 ≤ d → ∀ (j : Nat) (av : List Value) (hp : xH) (sz : Nat) (rv : Option Value) (hp' : xH) (sz' sl : Nat), prim j av hp sz (rv, hp', sz', sl) → sz ≤ sz' ∧ ∀ (l : Launch) (D : va_G), xM l D vwCl (xK D ev) (mi j).1 (xWs mi j) d (40 * d) av hp sz rv hp' sz' sl) :
    ∀ (d j : Nat) (av : List Value) (hp : xH) (sz : Nat) (rv : Option Value) (hp' : xH) (sz' sl : Nat), xCalls ev mi prog prim d j av hp sz (rv, hp', sz', sl) →
    sz ≤ sz' ∧ ∀ (l : Launch) (D : va_G), xM l D vwCl (xK D ev) (mi j).1 (xWs mi j) d (40 * d) av hp sz rv hp' sz' sl := by
  intro d
  induction d with
  | zero => intro j av hp sz rv hp' sz' sl h; exact h.elim
  | succ d ih =>
    intro j av hp sz rv hp' sz' sl h
    rcases h with ⟨hlen, n, hrun⟩ | ⟨h8, hpr⟩
    · have hne : prog j ≠ [] := fun h0 => by
        rw [h0] at hrun
        cases n with
        | zero => exact hrun
        | succ n =>
          rcases hrun with ⟨_, _, hm, _⟩ | ⟨_, _, _, _, _, _, _, _, _, _, _, _, hm, _⟩ | ⟨_, _, _, _, _, _, _, _, _, _, hm, _⟩ | ⟨_, _, hm, _⟩ | ⟨_, _, _, _, hm, _⟩ <;> simp at hm
      obtain ⟨own, nm, hm⟩ := hok j hne
      have h1 := x_method hm (fr := d) (lo := 40 * d) (call := xCalls ev mi prog prim d) ih hlen hrun
      rw [show 40 + 40 * d = 40 * (d + 1) by omega] at h1
      exact h1
    · exact hprim (d + 1) h8 j av hp sz rv hp' sz' sl hpr
