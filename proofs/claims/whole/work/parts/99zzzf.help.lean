/-! WALKING THE LAW: locals, the script's ints, what a round of its loop keeps -/
theorem xfi_f {p f : Nat × Value → Bool} {a : Nat × Value} : ∀ {l : List (Nat × Value)}, l.find? p = some a → f a = true → (l.filter f).find? p = some a
  | [], h, _ => by cases h
  | q :: r, h, hf => by
    by_cases c : p q = true
    · rw [List.find?_cons_of_pos c] at h
      cases h
      rw [List.filter_cons_of_pos hf, List.find?_cons_of_pos c]
    · rw [List.find?_cons_of_neg c] at h
      by_cases d : f q = true
      · rw [List.filter_cons_of_pos d, List.find?_cons_of_neg c]; exact xfi_f h hf
      · rw [List.filter_cons_of_neg d]; exact xfi_f h hf
theorem xG_at {lv : xLv} {i : Nat} {v : Value} (h : xG lv i = some v) : lv.find? (fun q => q.1 == i) = some (i, v) := by
  unfold xG at h
  split at h
  · next q hq =>
    cases h
    have h2 := List.find?_some hq
    have h3 : q.1 = i := by simpa using h2
    rw [hq, ← h3]
  · cases h
theorem xG_st1 {lv : xLv} {i j : Nat} {v w : Value} (h : xG lv i = some v) (hij : i ≠ j) (hc : ¬ v.category = 2) : xG (xSt1 lv j w) i = some v := by
  have e : (xSt1 lv j w).find? (fun q => q.1 == i) = some (i, v) := by
    unfold xSt1
    rw [List.find?_cons_of_neg (by simp [Ne.symm hij])]
    exact xfi_f (xG_at h) (by simp [hij, hc])
  unfold xG
  rw [e]
theorem xG_st2 {lv : xLv} {i j : Nat} {v w : Value} (h : xG lv i = some v) (hij : i ≠ j) (hij2 : i ≠ j + 1) (hc : ¬ v.category = 2) : xG (xSt2 lv j w) i = some v := by
  have e : (xSt2 lv j w).find? (fun q => q.1 == i) = some (i, v) := by
    unfold xSt2
    rw [List.find?_cons_of_neg (by simp [Ne.symm hij])]
    exact xfi_f (xG_at h) (by simp [hij, hij2, hc])
  unfold xG
  rw [e]
theorem xG_new1 (lv : xLv) (j : Nat) (w : Value) : xG (xSt1 lv j w) j = some w := by
  have e : (xSt1 lv j w).find? (fun q => q.1 == j) = some (j, w) := by
    unfold xSt1
    rw [List.find?_cons_of_pos (by simp)]
  unfold xG
  rw [e]
theorem xG_new2 (lv : xLv) (j : Nat) (w : Value) : xG (xSt2 lv j w) j = some w := by
  have e : (xSt2 lv j w).find? (fun q => q.1 == j) = some (j, w) := by
    unfold xSt2
    rw [List.find?_cons_of_pos (by simp)]
  unfold xG
  rw [e]
theorem nc_r (q : Nat) : ¬ (Value.ref q).category = 2 := by show ¬ (1 = 2); decide
theorem nc_i (q : Int32) : ¬ (Value.int q).category = 2 := by show ¬ (1 = 2); decide
/-- the law's locals at its loop -/
def LV (ev : xEv) (aC aM oA : Nat) (i : Int32) (lv : xLv) : Prop := xG lv 0 = some (.ref ev.2.2.2.2.1) ∧ xG lv 1 = some (.ref aC) ∧ xG lv 2 = some (.ref aM) ∧ xG lv 3 = some (.ref oA) ∧ xG lv 4 = some (.int i)
theorem LV_st1 {ev : xEv} {aC aM oA : Nat} {i : Int32} {lv : xLv} (h : LV ev aC aM oA i lv) {j : Nat} (hj : 5 ≤ j) (w : Value) : LV ev aC aM oA i (xSt1 lv j w) :=
  ⟨xG_st1 h.1 (by omega) (nc_r _), xG_st1 h.2.1 (by omega) (nc_r _), xG_st1 h.2.2.1 (by omega) (nc_r _), xG_st1 h.2.2.2.1 (by omega) (nc_r _), xG_st1 h.2.2.2.2 (by omega) (nc_i _)⟩
theorem LV_st2 {ev : xEv} {aC aM oA : Nat} {i : Int32} {lv : xLv} (h : LV ev aC aM oA i lv) {j : Nat} (hj : 5 ≤ j) (w : Value) : LV ev aC aM oA i (xSt2 lv j w) :=
  ⟨xG_st2 h.1 (by omega) (by omega) (nc_r _), xG_st2 h.2.1 (by omega) (by omega) (nc_r _), xG_st2 h.2.2.1 (by omega) (by omega) (nc_r _), xG_st2 h.2.2.2.1 (by omega) (by omega) (nc_r _), xG_st2 h.2.2.2.2 (by omega) (by omega) (nc_i _)⟩
theorem LV_inc {ev : xEv} {aC aM oA : Nat} {i x : Int32} {lv : xLv} (h : LV ev aC aM oA i lv) : LV ev aC aM oA x (xSt1 lv 4 (.int x)) :=
  ⟨xG_st1 h.1 (by decide) (nc_r _), xG_st1 h.2.1 (by decide) (nc_r _), xG_st1 h.2.2.1 (by decide) (nc_r _), xG_st1 h.2.2.2.1 (by decide) (nc_r _), xG_new1 lv 4 _⟩
/-- a number of the script, behind place i -/
def ag (ev : xEv) (i c : Int32) : Int32 := ev.2.2.2.2.2.2 (i + c).toNatClampNeg
def Si (ev : xEv) (i : Int32) : Prop := ∀ c : Int32, 0 ≤ c → c < 7 → ¬ (i + c < 0 ∨ ev.2.2.2.2.2.1 ≤ (i + c).toNatClampNeg)
def zb (x : Int32) : Int32 := if x = 0 then 0 else 1
theorem zb_01 (x : Int32) : zb x = 0 ∨ zb x = 1 := by
  unfold zb
  by_cases h : x = 0
  · rw [if_pos h]; exact Or.inl rfl
  · rw [if_neg h]; exact Or.inr rfl
theorem lg_cmp_self (x : Int64) : lg_cmp x x = 0 := by
  unfold lg_cmp
  rw [if_neg (by simp), if_pos rfl]
section LW
variable {str : Nat → Nat} {fs : Nat → xS → xS → Prop} {call : xRel} {code : List (Nat × xEn)} {pc : Nat} {lv : xLv} {st : List Value} {hp : xH} {sz sl : Nat} {r : xR ⊕ xS → Prop}
theorem ye_end {σ : xS} : yWE str fs call code σ (fun q => q = .inr σ) := Or.inr ⟨0, σ, rfl, rfl⟩
theorem ye_ld {ev : xEv} {aC aM oA : Nat} {i : Int32} {c : Int32} {ln : Nat} (hl : LV ev aC aM oA i lv) (hs : Si ev i) (h0 : 0 ≤ c) (h7 : c < 7) (m0 : xfind code pc = some (.inl (xop (xf_aload 0 1)))) (m1 : xfind code (pc + 1) = some (.inl (xop (xf_iload 4 2)))) (m2 : xfind code (pc + 3) = some (.inl (xop (xf_push (.int c) ln)))) (m3 : xfind code (pc + 3 + ln) = some (.inl (xop (xf_bin (fun x y => x + y)))))
    (m4 : xfind code (pc + 3 + ln + 1) = some (.inl (xop (xf_aldT ev.2.2.2.2.1 ev.2.2.2.2.2.1 ev.2.2.2.2.2.2)))) (h : yWE str fs call code (pc + 3 + ln + 2, lv, .int (ag ev i c) :: st, hp, sz, sl) r) : yWE str fs call code (pc, lv, st, hp, sz, sl) r := by
  refine ye_aload m0 hl.1 ?_
  refine ye_iload m1 hl.2.2.2.2 ?_
  refine ye_p (f := xf_push (.int c) ln) m2 rfl ?_
  refine ye_p (f := xf_bin (fun x y => x + y)) m3 rfl ?_
  refine ye_p (f := xf_aldT ev.2.2.2.2.1 ev.2.2.2.2.2.1 ev.2.2.2.2.2.2) m4 ?_ h
  simp only [xf_aldT]
  rw [if_pos trivial, if_neg (hs c h0 h7)]
  rfl
theorem ye_zb {x : Int32} (m0 : xfind code pc = some (.inl (xop (xf_if_eq (pc + 7))))) (m1 : xfind code (pc + 3) = some (.inl (xop (xf_push (.int 1) 1)))) (m2 : xfind code (pc + 4) = some (.inl (xop (xf_goto (pc + 8))))) (m3 : xfind code (pc + 7) = some (.inl (xop (xf_push (.int 0) 1)))) (h : yWE str fs call code (pc + 8, lv, .int (zb x) :: st, hp, sz, sl) r) : yWE str fs call code (pc, lv, .int x :: st, hp, sz, sl) r := by
  refine ye_if_eq m0 (fun e => ?_) (fun e => ?_)
  · refine ye_p (f := xf_push (.int 0) 1) m3 rfl ?_
    have e2 : zb x = 0 := by unfold zb; rw [if_pos e]
    rw [e2] at h
    exact h
  · refine ye_p (f := xf_push (.int 1) 1) m1 rfl ?_
    refine ye_p (f := xf_goto (pc + 8)) m2 rfl ?_
    have e2 : zb x = 1 := by unfold zb; rw [if_neg e]
    rw [e2] at h
    exact h
theorem ye_run {v : xR} (h : yWE str fs call code (pc, lv, st, hp, sz, sl) (fun q => q = .inl v)) : ∃ n, xrun str fs call code n (pc, lv, st, hp, sz, sl) v := by
  rcases h with ⟨n, q, h1, h2⟩ | ⟨n, q, h1, h2⟩
  · cases h2; exact ⟨n, h1⟩
  · cases h2
theorem ye_rch {σ : xS} (h : yWE str fs call code (pc, lv, st, hp, sz, sl) (fun q => q = .inr σ)) : ∃ n, xrch str fs call code n (pc, lv, st, hp, sz, sl) σ := by
  rcases h with ⟨n, q, h1, h2⟩ | ⟨n, q, h1, h2⟩
  · cases h2
  · cases h2; exact ⟨n, h1⟩
end LW
/-! what holds at the loop's head -/
def Inv (ev : xEv) (aC aM oA : Nat) (X : xH) (i : Int32) (lv : xLv) (TC : yT) (SC : yS) (TM : yT) (SM : yS) (hp : xH) : Prop := LV ev aC aM oA i lv ∧ J2 ev X TC SC TM SM hp ∧ RAe SC SM ∧ yAt TC 11 0 0 aC ∧ yAt TM 12 8 0 aM ∧ ∃ g, X oA = some (.inl (ev.1 1, 1, .inr (.inl g)))
def ArmTo (ev : xEv) (prim : xRel) (code : List (Nat × xEn)) (pc pcE : Nat) (aC aM oA : Nat) (i : Int32) (lv : xLv) (TC TM : yT) (hp : xH) (sl : Nat) : Prop := ∃ X' lv' TC' SC' TM' SM' hp' sl' n, xrch ev.2.1 (wS ev) (xCalls ev xmi (xprog ev) prim 600) code n (pc, lv, [], hp, TC.2.2.1, sl) (pcE, lv', [], hp', TC'.2.2.1, sl') ∧ Inv ev aC aM oA X' i lv' TC' SC' TM' SM' hp' ∧ TC'.2.2.1 + 3 * (yfr TC'.1 640 + yfr TM'.1 640) ≤ TC.2.2.1 + 3 * (yfr TC.1 640 + yfr TM.1 640) + 4 ∧ sl' + 45 * (yfr TC'.1 640 + yfr TM'.1 640) ≤ sl + 45 * (yfr TC.1 640 + yfr TM.1 640) + 40
theorem yAt_G {T T' : yT} {c o a sl e : Nat} (h : yAt T c o 0 a) (g : yG T T' sl e) (ho : o ≠ 9 ∧ o ≠ 10) : yAt T' c o 0 a := by
  obtain ⟨h1, h2, h3⟩ := h
  obtain ⟨g1, g2⟩ := g.1 o 0 h1 (Or.inr ho)
  exact ⟨g1, h2, g2.trans h3⟩
theorem arm_of {ev : xEv} {prim : xRel} {code : List (Nat × xEn)} {pc : Nat} {aC aM oA : Nat} {X : xH} {i : Int32} {lv : xLv} {TC TM : yT} {SC SM : yS} {hp : xH} {jC jM eC eM : Nat} {avC avM : List Value} (sl : Nat) (I : Inv ev aC aM oA X i lv TC SC TM SM hp) (D : D2 ev prim X hp TC TM jC avC jM avM eC eM) (hC : eC ≤ 1) (hM : eM ≤ 1)
    (k : ∀ v hp1 n1 sl1 hp2 n2 sl2, xCalls ev xmi (xprog ev) prim 600 jC avC hp TC.2.2.1 (some (.int v), hp1, n1, sl1) → xCalls ev xmi (xprog ev) prim 600 jM avM hp1 n1 (some (.int v), hp2, n2, sl2) → (∃ fl, hp aC = some (.inr (11, fl))) → (∃ fl, hp1 aM = some (.inr (12, fl))) → yWE ev.2.1 (wS ev) (xCalls ev xmi (xprog ev) prim 600) code (pc, lv, [], hp, TC.2.2.1, sl) (fun q => q = .inr (2128, lv, [], hp2, n2, sl + sl1 + sl2))) : ArmTo ev prim code pc 2128 aC aM oA i lv TC TM hp sl := by
  obtain ⟨hl, J, r, fC, fM, g, hX⟩ := I
  obtain ⟨v, SC', SM', hp1, TC1, sl1, hp2, TM2, sl2, c1, c2, J', r', g1, g2, oM⟩ := D
  have oC := J.1.obj fC ⟨rfl, rfl⟩
  obtain ⟨n, hn⟩ := ye_rch (k v hp1 TC1.2.2.1 sl1 hp2 TM2.2.2.1 sl2 c1 c2 ⟨_, oC⟩ (oM aM fM))
  have f1 : yAt TC1 11 0 0 aC := yAt_G fC g1 ⟨by decide, by decide⟩
  refine ⟨X, lv, reT TC1 TM2.2.2.1, SC', TM2, SM', hp2, sl + sl1 + sl2, n, hn, ⟨hl, J', r', ⟨f1.1, f1.2.1, f1.2.2⟩, yAt_G (T := reT TM TC1.2.2.1) fM g2 ⟨by decide, by decide⟩, g, hX⟩, ?_, ?_⟩
  · have a1 := g1.2.1
    have a2 : TM2.2.2.1 + 3 * yfr TM2.1 640 ≤ TC1.2.2.1 + 3 * yfr TM.1 640 + eM := g2.2.1
    show TM2.2.2.1 + 3 * (yfr TC1.1 640 + yfr TM2.1 640) ≤ _
    omega
  · have a1 := g1.2.2.1
    have a2 : sl2 + 45 * yfr TM2.1 640 ≤ 45 * yfr TM.1 640 + 6 * eM := g2.2.2.1
    show sl + sl1 + sl2 + 45 * (yfr TC1.1 640 + yfr TM2.1 640) ≤ _
    omega
/-! the seven calls that may throw -/
theorem cR_grow {rt : List Nat} {F : xH} {ev : xEv} {T : yT} {S : yS} {hp : xH} (h : cR rt F ev T S hp) {n : Nat} (hn : T.2.2.1 ≤ n) : cR rt F ev (reT T n) S hp := by
  obtain ⟨h1, h2, h3, h4, h5, h6, h7, h8, h9⟩ := h
  exact ⟨h1, h2, h3, fun o j a b => ⟨(h4 o j a b).1, Nat.lt_of_lt_of_le (h4 o j a b).2 hn⟩, fun a z e => ⟨(h5 a z e).1, Nat.lt_of_lt_of_le (h5 a z e).2 hn⟩, h6, h7, h8, h9⟩
theorem J2_grow {ev : xEv} {X hp : xH} {TC TM : yT} {SC SM : yS} (h : J2 ev X TC SC TM SM hp) {n : Nat} (hn : TC.2.2.1 ≤ n) : J2 ev X (reT TC n) SC (reT TM n) SM hp := by
  obtain ⟨h1, h2, h3, h4, h5⟩ := h
  exact ⟨cR_grow h1 hn, cR_grow h2 (by rw [← h3]; exact hn), rfl, h4, h5⟩
/-- what a wrapper's call comes to, and the reference's answer to it -/
def WF {β : Type} (ev : xEv) (con : Option Value → xH → Nat → Nat → Prop) (oA : Nat) (X : xH) (TC TM : yT) (SM : yS) (cv : β → Int64) (fm : Option (β × yS)) : Prop := ∃ k v X1 g1 SC' SM' TC1 hp1 sl1, con (some (.int k)) hp1 TC1.2.2.1 sl1 ∧ J2 ev X1 TC1 SC' (reT TM TC1.2.2.1) SM hp1 ∧ X1 oA = some (.inl (ev.1 1, 1, .inr (.inl g1))) ∧ fm = some (v, SM') ∧ RAe SC' SM' ∧ SM'.1 8 47 = k ∧ (k = 0 → g1 0 = cv v) ∧ TC1.1 = TC.1 ∧ TC1.2.1 = TC.2.1 ∧ TC1.2.2.1 ≤ TC.2.2.1 + 1 ∧ sl1 ≤ 6
theorem WF_of {β : Type} {ev : xEv} {prim : xRel} {con : Option Value → xH → Nat → Nat → Prop} {oA j nL : Nat} {X hp : xH} {TC TM : yT} {SC SM : yS} {val : β → Value} {cv : β → Int64} {fc : Option (Option β × yS)} {fm : Option (β × yS)} {codej : List (Nat × xEn)} {avj : List Value} {w : List Nat} {y : MethodName} {cc : ByteArray} {ret : Option FieldType}
    (hC : (∃ v Sc' Sm', fc = some (some v, Sc') ∧ fm = some (v, Sm') ∧ Sm'.1 8 47 = 0 ∧ RAe Sc' Sm') ∨ ∃ v Sc' Sm', fc = some (none, Sc') ∧ fm = some (v, Sm') ∧ Sm'.1 8 47 = 1 ∧ RAe Sc' Sm') (J : J2 ev X TC SC TM SM hp) (hX : ∃ g, X oA = some (.inl (ev.1 1, 1, .inr (.inl g))))
    (hj : xprog ev j = codej) (hn : xmi j = (y, cc, nL, ret)) (hlen : (lg_sl avj).length ≤ nL)
    (hb : ∀ v S', fc = some (v, S') → ∀ F, cR rtC F ev TC SC hp → yWE ev.2.1 (xstr ev) (xCalls ev xmi (xprog ev) prim 579) codej (0, lv_args 0 avj, [], hp, TC.2.2.1, 0) (ypT rtC F ev TC TC.2.2.1 w (v.map val) S'))
    (hc : ∀ v hp1 g, xCalls ev xmi (xprog ev) prim 580 j avj hp TC.2.2.1 (some (val v), hp1, TC.2.2.1, 0) → hp1 oA = some (.inl (ev.1 1, 1, .inr (.inl g))) → con (some (.int 0)) (xU hp1 oA (.inl (ev.1 1, 1, .inr (.inl (vp_updL g 0 (cv v)))))) TC.2.2.1 0)
    (hd : ∀ n pc lv hp1, pc ∈ w → xrch ev.2.1 (xstr ev) (xCalls ev xmi (xprog ev) prim 579) codej n (0, lv_args 0 avj, [], hp, TC.2.2.1, 0) (pc, lv, [], hp1, TC.2.2.1, 0) → con (some (.int 1)) hp1 (TC.2.2.1 + 1) 6) : WF ev con oA X TC TM SM cv fm := by
  obtain ⟨g, hX⟩ := hX
  have J0 := J
  obtain ⟨h1, h2, h3, h4, h5⟩ := J
  rcases hC with ⟨v, Sc', Sm', e1, e2, e3, e4⟩ | ⟨v, Sc', Sm', e1, e2, e3, e4⟩
  · rcases hb _ _ e1 _ h1 with ⟨n, q, r1, hp1, r2, ⟨x, r3, r4⟩ | ⟨r3, -⟩⟩ | ⟨n, q, r1, hp1, r2, ⟨x, r3, r4⟩ | ⟨r3, -⟩⟩
    · have ex : x = val v := (Option.some.inj r3).symm
      subst ex
      have r5 : q = (some (val v), hp1, TC.2.2.1, 0) := Sum.inl.inj r4
      subst r5
      have hcall : xCalls ev xmi (xprog ev) prim 580 j avj hp TC.2.2.1 (some (val v), hp1, TC.2.2.1, 0) := Or.inl ⟨by rw [hn]; exact hlen, n, by rw [hj]; exact r1⟩
      obtain ⟨b1, b2⟩ := two_step h2 r2 (Nat.le_of_eq h3.symm)
      have J1 : J2 ev X TC Sc' (reT TM TC.2.2.1) SM hp1 := ⟨b1, b2, rfl, h4, h5⟩
      have ho := (J2_free J1 hX).2.2.1
      exact ⟨0, v, _, vp_updL g 0 (cv v), Sc', Sm', TC, _, 0, hc v hp1 g hcall ho, J2_out J1 hX, xU_same _ _ _, e2, e4, e3, fun _ => by simp [vp_updL], rfl, rfl, Nat.le_succ _, by decide⟩
    · cases r3
    · cases r4
    · cases r3
  · rcases hb _ _ e1 _ h1 with ⟨n, q, r1, hp1, r2, ⟨x, r3, r4⟩ | ⟨r3, pc, lv, r4, r5⟩⟩ | ⟨n, q, r1, hp1, r2, ⟨x, r3, r4⟩ | ⟨r3, pc, lv, r4, r5⟩⟩
    · cases r3
    · cases r5
    · cases r3
    · have r6 : q = (pc, lv, [], hp1, TC.2.2.1, 0) := Sum.inr.inj r5
      subst r6
      obtain ⟨b1, b2⟩ := two_step h2 r2 (Nat.le_of_eq h3.symm)
      have J1 : J2 ev X TC Sc' (reT TM TC.2.2.1) SM hp1 := ⟨b1, b2, rfl, h4, h5⟩
      have J3 := J2_grow J1 (Nat.le_succ TC.2.2.1)
      exact ⟨1, v, X, g, Sc', Sm', reT TC (TC.2.2.1 + 1), hp1, 6, hd n pc lv hp1 r4 r1, J3, hX, e2, e4, e3, fun h => absurd h (by decide), rfl, rfl, Nat.le_refl _, Nat.le_refl _⟩
theorem arm_thr {ev : xEv} {prim : xRel} {code : List (Nat × xEn)} {pc : Nat} {aC aM oA : Nat} {X : xH} {i : Int32} {lv : xLv} {TC TM : yT} {SC SM : yS} {hp : xH} {β : Type} {con : Option Value → xH → Nat → Nat → Prop} {cv : β → Int64} {fm : Option (β × yS)} {val : β → Value} {jM : Nat} {avM : List Value} (sl : Nat) (I : Inv ev aC aM oA X i lv TC SC TM SM hp) (A : WF ev con oA X TC TM SM cv fm)
    (hM : ∀ v S' n, fm = some (v, S') → ∀ F, ykN [8] F ev prim 600 jM (reT TM n) SM avM (some (val v)) S' 0)
    (k : ∀ k v g1 hp1 n1 sl1 hp2 n2 sl2, con (some (.int k)) hp1 n1 sl1 → (∃ fl, hp1 aM = some (.inr (12, fl))) → (∃ fl, hp2 aM = some (.inr (12, fl))) → xCalls ev xmi (xprog ev) prim 600 jM avM hp1 n1 (some (val v), hp2, n2, sl2) → xCalls ev xmi (xprog ev) prim 600 187 [.ref aM] hp2 n2 (some (.int k), hp2, n2, 0) → hp2 oA = some (.inl (ev.1 1, 1, .inr (.inl g1))) → (k = 0 → g1 0 = cv v) → ∃ lv', LV ev aC aM oA i lv' ∧ yWE ev.2.1 (wS ev) (xCalls ev xmi (xprog ev) prim 600) code (pc, lv, [], hp, TC.2.2.1, sl) (fun q => q = .inr (2128, lv', [], hp2, n2, sl + sl1 + sl2 + 0))) : ArmTo ev prim code pc 2128 aC aM oA i lv TC TM hp sl := by
  obtain ⟨hl, J, r, fC, fM, g, hX⟩ := I
  obtain ⟨kk, v, X1, g1, SC', SM', TC1, hp1, sl1, hc, J1, hX1, e2, r', hk, hg, t1, t2, t3, t4⟩ := A
  obtain ⟨hp2, TM2, sl2, c2, J3, G2⟩ := right_N (TM := reT TM TC1.2.2.1) J1 (fun F => hM v SM' TC1.2.2.1 e2 F)
  have fM2 : yAt TM2 12 8 0 aM := yAt_G (T := reT TM TC1.2.2.1) fM G2 ⟨by decide, by decide⟩
  have ct := D_thrown (prim := prim) J3 fM2
  rw [hk] at ct
  obtain ⟨lv', hl', hw⟩ := k kk v g1 hp1 TC1.2.2.1 sl1 hp2 TM2.2.2.1 sl2 hc ⟨_, J1.2.1.obj (T := reT TM TC1.2.2.1) fM ⟨rfl, rfl⟩⟩ ⟨_, J3.2.1.obj fM2 ⟨rfl, rfl⟩⟩ c2 ct (J2_free J3 hX1).2.2.1 hg
  obtain ⟨n, hn⟩ := ye_rch hw
  refine ⟨X1, lv', reT TC1 TM2.2.2.1, SC', TM2, SM', hp2, sl + sl1 + sl2 + 0, n, hn, ⟨hl', J3, r', ⟨by show TC1.1 0 = true; rw [t1]; exact fC.1, fC.2.1, by show TC1.2.1 0 0 = aC; rw [t2]; exact fC.2.2⟩, fM2, g1, hX1⟩, ?_, ?_⟩
  · have a2 : TM2.2.2.1 + 3 * yfr TM2.1 640 ≤ TC1.2.2.1 + 3 * yfr TM.1 640 + 0 := G2.2.1
    show TM2.2.2.1 + 3 * (yfr TC1.1 640 + yfr TM2.1 640) ≤ _
    rw [t1]
    omega
  · have a2 : sl2 + 45 * yfr TM2.1 640 ≤ 45 * yfr TM.1 640 + 6 * 0 := G2.2.2.1
    show sl + sl1 + sl2 + 0 + 45 * (yfr TC1.1 640 + yfr TM2.1 640) ≤ _
    rw [t1]
    omega
