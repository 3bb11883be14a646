/-! ONE CALL OF THE LAW: the class, then the reference -/
abbrev rtC : List Nat := [0, 1, 2, 3, 4, 5, 6, 7]
/-- a shape at another size of the heap -/
def reT (T : yT) (n : Nat) : yT := (T.1, T.2.1, n, T.2.2.2)
theorem reT_f (T : yT) (n : Nat) (hp X : xH) : fOf (reT T n) hp X = fOf T hp X := rfl
def J2 (ev : xEv) (X : xH) (TC : yT) (SC : yS) (TM : yT) (SM : yS) (hp : xH) : Prop := cR rtC (fOf TM hp X) ev TC SC hp ∧ cR [8] (fOf TC hp X) ev TM SM hp ∧ TC.2.2.1 = TM.2.2.1 ∧ TC.2.2.2 = 0 ∧ TM.2.2.2 = 0
/-- a call that makes nothing, as one that may -/
theorem Q_N {rt : List Nat} {F : xH} {ev : xEv} {prim : xRel} {d j : Nat} {T : yT} {S : yS} {av : List Value} {v : Option Value} {S' : yS} (h : ykQ rt F ev prim d j T S av v S') : ykN rt F ev prim d j T S av v S' 0 := fun h0 hp hR => by
  obtain ⟨hp', h1, h2⟩ := h hp T.2.2.1 hR
  exact ⟨hp', T, 0, h1, h2, fun o j a _ => ⟨a, rfl⟩, by omega, by omega, h0, Nat.le_refl _⟩
theorem P_N {rt : List Nat} {F : xH} {ev : xEv} {prim : xRel} {d j : Nat} {T : yT} {S : yS} {av : List Value} {v : Value} (h : ykP rt F ev prim d j T S av v) : ykN rt F ev prim d j T S av (some v) S 0 := Q_N (fun hp sz hR => ⟨hp, h hp sz hR, hR⟩)
theorem pair_N {ev : xEv} {prim : xRel} {X hp : xH} {TC TM : yT} {SC SM SC' SM' : yS} {dC jC dM jM eC eM : Nat} {avC avM : List Value} {vC vM : Option Value} (h : J2 ev X TC SC TM SM hp) (fc : ∀ F, ykN rtC F ev prim dC jC TC SC avC vC SC' eC) (fm : ∀ F n, ykN [8] F ev prim dM jM (reT TM n) SM avM vM SM' eM) : ∃ hp1 TC1 sl1 hp2 TM2 sl2, xCalls ev xmi (xprog ev) prim dC jC avC hp TC.2.2.1 (vC, hp1, TC1.2.2.1, sl1) ∧ xCalls ev xmi (xprog ev) prim dM jM avM hp1 TC1.2.2.1 (vM, hp2, TM2.2.2.1, sl2) ∧ J2 ev X (reT TC1 TM2.2.2.1) SC' TM2 SM' hp2 ∧ yG TC TC1 sl1 eC ∧ yG (reT TM TC1.2.2.1) TM2 sl2 eM ∧ ∀ a, yAt TM 12 8 0 a → ∃ fl, hp1 a = some (.inr (12, fl)) := by
  obtain ⟨h1, h2, h3, h4, h5⟩ := h
  obtain ⟨hp1, TC1, sl1, a1, a2, a3⟩ := fc _ h4 hp h1
  obtain ⟨b1, b2⟩ := two_step h2 a2 (by have := a3.2.2.2.2; omega)
  obtain ⟨hp2, TM2, sl2, c1, c2, c3⟩ := fm _ TC1.2.2.1 h5 hp1 b2
  obtain ⟨d1, d2⟩ := two_step (T1 := reT TM TC1.2.2.1) b1 c2 c3.2.2.2.2
  exact ⟨hp1, TC1, sl1, hp2, TM2, sl2, a1, c1, ⟨d2, d1, rfl, a3.2.2.2.1, c3.2.2.2.1⟩, a3, c3, fun a ha => ⟨_, b2.obj (T := reT TM TC1.2.2.1) (c := 12) (o := 8) ha ⟨rfl, rfl⟩⟩⟩
