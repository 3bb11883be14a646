/-! RUNS THAT THROW: 'throw new NoSuchElementException("..")' in a method of AirMail, behind a run that reaches it -/
abbrev nseN : String := "java/util/NoSuchElementException"
abbrev nseL : List String := ["java/lang/RuntimeException", "java/lang/Exception"]
set_option maxRecDepth 20000 in
theorem nse_good : ∀ w ∈ (vx_atS "AirMail" 119 nseN nseL).filter goodWord, w ∈ lw_tbl := by decide +kernel
set_option maxRecDepth 20000 in
theorem nse_ot : ∀ w ∈ Cond.classLink "AirMail" 115 nseN :: Cond.initialized nseN :: vx_atS "AirMail" 119 nseN nseL, vx_ot w = true := by decide +kernel
theorem nse_k : Cond.classLink "AirMail" 115 nseN ∈ lw_tbl := by decide +kernel
theorem nse_i : Cond.initialized nseN ∈ lw_tbl := by decide +kernel
/-- every word of a throw -/
theorem nse_hat {args : Array Value} {s : State} (hts : ∀ w ∈ xT, w.before args s = true) (hNw : ∀ w ∈ xNw, va_Nw w s) : ∀ w ∈ vx_atS "AirMail" 119 nseN nseL, w.before args s = true := by
  refine vx_hat (B := xNw) (fun w hw => hts w (xwm' (nse_good w hw) (List.mem_filter.mp hw).2)) (fun w hw => List.mem_append_right _ hw) (fun w hw => ?_)
  have h2 := hNw w hw
  rcases xNw_is hw with ⟨a, i, x, h, rfl⟩ | ⟨C, rfl⟩ | ⟨x, rfl⟩ | ⟨a, b, rfl⟩
  · exact va_Nw.use rfl h2
  · exact va_AO.use h2
  · exact va_Nw.use rfl h2
  · exact va_Nw.use rfl h2
/-- what holds behind the throw -/
def xX (D : va_G) (hp : xH) (sz : Nat) (hpT : xH) (szT : Nat) : String → State → State → Prop := fun E st t => E = nseN ∧ (∃ szE, szT ≤ szE ∧ xP D vwCl (xD hp sz) hpT szE t.heap) ∧ va_F (xD hp sz) st t
theorem xP.later {D : va_G} {cl : List vw_C} {A : Nat → Prop} {hp : xH} {sz : Nat} {H H1 : Heap} (h : xP D cl A hp sz H) (hz : H.size ≤ H1.size) (ho : ∀ q : Nat, q < H.size → H1[q]? = H[q]?) : xP D cl A hp H1.size H1 := ⟨rfl, fun a z ha => ⟨(h.2 a z ha).1.kept (ho a (h.2 a z ha).1.lt), (h.2 a z ha).2⟩⟩
theorem x_throws {ev : xEv} {prim : xRel} {d j n : Nat} {av : List Value} {hp : xH} {sz pcT : Nat} {lvT : xLv} {hpT : xH} {szT slT : Nat} {code : List (Nat × xEn)} {nm : String}
    (hcalls : ∀ j av hp sz rv hp' sz' sl, xCalls ev xmi (xprog ev) prim d j av hp sz (rv, hp', sz', sl) → sz ≤ sz' ∧ ∀ (l : Launch) (D : va_G), xM l D vwCl (xK D ev) (xmi j).1 (xWs xmi j) d (40 * d) av hp sz rv hp' sz' sl)
    (hok : xMethOK ev xmi "AirMail" nm j code) (hlen : (lg_sl av).length ≤ (xmi j).2.2.1)
    (hr : xrch ev.2.1 (xstr ev) (xCalls ev xmi (xprog ev) prim d) code n (0, lv_args 0 av, [], hp, sz, 0) (pcT, lvT, [], hpT, szT, slT))
    {is i : Nat} {tx : String} (hq : ("AirMail", is, tx, i) ∈ xStrs) (hd : decode (xmi j).2.1 pcT = .ok (.new 115, 3) ∧ decode (xmi j).2.1 (pcT + 3) = .ok (.dup, 1) ∧
      ((decode (xmi j).2.1 (pcT + 4) = .ok (.ldc is, 2) ∧ decode (xmi j).2.1 (pcT + 6) = .ok (.invokespecial 119, 3) ∧ decode (xmi j).2.1 (pcT + 9) = .ok (.athrow, 1)) ∨
       (decode (xmi j).2.1 (pcT + 4) = .ok (.ldc_w is, 3) ∧ decode (xmi j).2.1 (pcT + 7) = .ok (.invokespecial 119, 3) ∧ decode (xmi j).2.1 (pcT + 10) = .ok (.athrow, 1)))) :
    sz ≤ szT ∧ ∀ (l : Launch) (D : va_G), l.stackTraces = false → vx_Met l (xmi j).1 (xWs xmi j) { frames := d + 10, cells := szT - sz + 1, slots := slT + 6, locals := 40 * d + 200 } (va_Pc av (xPre D vwCl (xK D ev) hp sz)) (fun _ _ _ _ => False) (xX D hp sz hpT szT) (szT - sz + 1) (slT + 6) (xD hp sz) := by
  obtain ⟨h1, h2, h3, hop, hca, hre⟩ := hok
  obtain ⟨⟨m1, -⟩, hs⟩ := x_reach (fs := xstr ev) (fr := d) (lo := 40 * d) hop (fun pc j' k ci hm => ⟨1, 40, Nat.le_add_left 1 d, Nat.le_add_right 40 _, by
    rcases hca pc 5 j' k ci hm with h | h
    · exact h.2
    · rcases h.2.2.2.2 with ⟨h, -⟩ | ⟨h, -⟩ | ⟨h, -⟩ | ⟨h, -⟩ | ⟨h, -⟩ <;> exact absurd h (by decide)⟩) (fun pc kind j' k ci hm => (hca pc kind j' k ci hm).imp (fun h => h.1) (fun h => h)) hcalls n 0 (lv_args 0 av) [] hp sz 0 pcT lvT [] hpT szT slT hr
  refine ⟨m1, fun l D hl => ?_⟩
  refine vx_ofW (cc := (xmi j).2.1) (maxL := (xmi j).2.2.1) (ret := (xmi j).2.2.2) h3 rfl ?_
  intro p e s m args below meth c s₁ B hml ht hv
  obtain ⟨rfl, hP, hK⟩ := hv
  have hts0 := atoms_spec (ws := xWs xmi j) B.pre
  have hts : ∀ w ∈ xT, w.before av.toArray s = true := fun w hw => hts0 w (List.mem_cons_of_mem _ hw)
  have hown : s.vm.findClass "AirMail" = some m.cls := by rw [h1]; exact findClass_of_methodNamed B.named
  have hin : meth.name = nm := by rw [h2]; exact (name_of_methodNamed B.named B.method).1
  have hP' := hP.own
  have hA : ∀ q, s.heap.size ≤ q → xD hp sz q := fun q hq => Or.inr (by rw [← hP.1]; exact hq)
  have hl0 := lv_entry av (n := (xmi j).2.2.1) hlen
  rw [lg_entry_eq]
  generalize (lg_sl av ++ List.replicate ((xmi j).2.2.1 - (lg_sl av).length) Slot.unset).toArray = ls at hl0 ⊢
  have hC : xC p s m av.toArray meth c (xmi j).2.1 "AirMail" nm (xmi j).2.2.1 D ev (xD hp sz) s.heap := ⟨B.exec, B.bytes, hml, hown, hts, hK.1, hA, hin, hK.2.1, hK.2.2, rfl⟩
  have hW := hs p l e (headSpec (xWs xmi j) { frames := d + 10, cells := szT - sz + 1, slots := slT + 6, locals := 40 * d + 200 }).room s m av.toArray below meth c D (xD hp sz) s.heap s.heap sz [] ls (vx_MQ below (fun _ _ _ _ => False) (xX D hp sz hpT szT) av.toArray s (szT - sz + 1) (slT + 6) (xD hp sz)) hC (show d + 1 ≤ d + 10 by omega) (show 40 + 40 * d ≤ 40 * d + 200 by omega) (Nat.le_refl _) (show szT - sz ≤ szT - sz + 1 by omega) (show slT ≤ slT + 6 by omega) hP' va_S.rf hl0 (fun H' locs' ls' hP1 hS1 hl1 => by
    have hx : ∀ t : State, s.vm.Alike t.vm → H'.size ≤ t.heap.size → (∀ q : Nat, q < H'.size → t.heap[q]? = H'[q]?) → xX D hp sz hpT szT nseN s t := fun t _ hz ho => ⟨rfl, ⟨t.heap.size, by rw [← hP1.1]; exact hz, hP1.later hz ho⟩, Nat.le_trans hS1.1 hz, fun q g1 g2 => (ho q (Nat.lt_of_lt_of_le g1 hS1.1)).trans (hS1.2.1 q g1 g2)⟩
    have hf : ∀ z ∈ locs', xD hp sz z.base := hS1.2.2
    have hstr := hK.2.2.1 _ hq
    rcases hd with ⟨d0, d3, ⟨d4, d6, d9⟩ | ⟨d4, d6, d9⟩⟩
    · exact vx_throwS (names := nseL) (A := xD hp sz) B.exec B.bytes hl hown (by decide +kernel) (by decide +kernel) (hts _ (xwm' nse_k (by decide +kernel))) (hts _ (xwm' nse_i (by decide +kernel))) hstr (nse_hat hts hK.2.1) nse_ot hK.2.2.2.2.2.2.2.1 hK.2.2.2.2.2.2.2.2 hS1 (hl1.1.trans hml.symm) d0 d3 d4 d6 d9 (fun x hx => (ht x hx).elim) (show 2 + 3 < d + 10 by omega) (show 0 + (13 * (2 + 1) + 43) ≤ 40 * d + 200 by omega) (Nat.le_refl _) (Nat.le_refl _) B.notSynchronized hx hf (Nat.le_refl _) (Nat.le_refl _)
    · exact vx_throwSW (names := nseL) (A := xD hp sz) B.exec B.bytes hl hown (by decide +kernel) (by decide +kernel) (hts _ (xwm' nse_k (by decide +kernel))) (hts _ (xwm' nse_i (by decide +kernel))) hstr (nse_hat hts hK.2.1) nse_ot hK.2.2.2.2.2.2.2.1 hK.2.2.2.2.2.2.2.2 hS1 (hl1.1.trans hml.symm) d0 d3 d4 d6 d9 (fun x hx => (ht x hx).elim) (show 2 + 3 < d + 10 by omega) (show 0 + (13 * (2 + 1) + 43) ≤ 40 * d + 200 by omega) (Nat.le_refl _) (Nat.le_refl _) B.notSynchronized hx hf (Nat.le_refl _) (Nat.le_refl _))
  rw [Nat.sub_self] at hW
  exact hW
