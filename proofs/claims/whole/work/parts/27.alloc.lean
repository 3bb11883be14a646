def yTn (T : yT) (id : Nat) (ad0 : Nat → Nat) (n' : Nat) : yT := (fun o => if o = id then true else T.1 o, fun o j => if o = id then ad0 j else T.2.1 o j, n', id)
def yUn (T : yT) : yT := (T.1, T.2.1, T.2.2.1, 0)
def yNw (S : yS) (id : Nat) (I0 : Nat → Int32) : yS := (fun o => if o = id then I0 else S.1 o, fun o => if o = id then fun _ _ => 0 else S.2.1 o, fun o => if o = id then fun _ _ => 0 else S.2.2 o)
def yfr (al : Nat → Bool) : Nat → Nat
  | 0 => 0
  | k + 1 => yfr al k + (if al k = true then 0 else 1)
theorem yfr_same {al al' : Nat → Bool} : ∀ (k : Nat), (∀ o, o < k → al' o = al o) → yfr al' k = yfr al k
  | 0, _ => rfl
  | k + 1, h => by
    unfold yfr
    rw [yfr_same k (fun o ho => h o (by omega)), h k (by omega)]
theorem yfr_one {al al' : Nat → Bool} {id : Nat} (h : al id = false) (h1 : al' id = true) (h2 : ∀ o, o ≠ id → al' o = al o) : ∀ (k : Nat), id < k → yfr al' k + 1 = yfr al k
  | 0, hk => absurd hk (by omega)
  | k + 1, hk => by
    unfold yfr
    by_cases e : id = k
    · subst e
      rw [yfr_same id (fun o ho => h2 o (by omega)), if_pos h1, if_neg (by rw [h]; decide)]
    · have := yfr_one h h1 h2 k (by omega)
      rw [h2 k (fun q => e q.symm)]
      omega
theorem yfr_le {al al' : Nat → Bool} : ∀ (k : Nat), (∀ o, al o = true → al' o = true) → yfr al' k ≤ yfr al k
  | 0, _ => Nat.le_refl _
  | k + 1, h => by
    unfold yfr
    have := yfr_le (al := al) (al' := al') k h
    by_cases e : al k = true
    · rw [if_pos e, if_pos (h k e)]; omega
    · rw [if_neg e]
      split <;> omega
def yG (T T' : yT) (sl e : Nat) : Prop := (∀ o j, T.1 o = true → (e = 0 ∨ (o ≠ 9 ∧ o ≠ 10)) → T'.1 o = true ∧ T'.2.1 o j = T.2.1 o j) ∧ T'.2.2.1 + 3 * yfr T'.1 640 ≤ T.2.2.1 + 3 * yfr T.1 640 + e ∧ sl + 45 * yfr T'.1 640 ≤ 45 * yfr T.1 640 + 6 * e ∧ T'.2.2.2 = 0 ∧ T.2.2.1 ≤ T'.2.2.1
theorem yG.rf {T : yT} (h : T.2.2.2 = 0) (e : Nat) : yG T T 0 e := ⟨fun _ _ h _ => ⟨h, rfl⟩, by omega, by omega, h, Nat.le_refl _⟩
theorem yG.tr {T T1 T2 : yT} {sl sl2 e : Nat} (h1 : yG T T1 sl e) (h2 : yG T1 T2 sl2 0) : yG T T2 (sl + sl2) e := by
  obtain ⟨a1, a2, a3, a4, a5⟩ := h1
  obtain ⟨b1, b2, b3, b4, b5⟩ := h2
  refine ⟨fun o j h he => ?_, by omega, by omega, b4, by omega⟩
  obtain ⟨c1, c2⟩ := a1 o j h he
  obtain ⟨d1, d2⟩ := b1 o j c1 (Or.inl rfl)
  exact ⟨d1, d2.trans c2⟩
theorem yG.tr3 {T T1 T2 : yT} {sl n sl2 e : Nat} (h1 : yG T T1 sl e) (h2 : yG T1 T2 (n + sl2) 0) : yG T T2 (sl + n + sl2) e := by
  rw [Nat.add_assoc]
  exact h1.tr h2
theorem yG.tr1 {T T1 T2 : yT} {sl sl2 : Nat} (h1 : yG T T1 sl 0) (h2 : yG T1 T2 sl2 1) : yG T T2 (sl + sl2) 1 := by
  obtain ⟨a1, a2, a3, a4, a5⟩ := h1
  obtain ⟨b1, b2, b3, b4, b5⟩ := h2
  refine ⟨fun o j h he => ?_, by omega, by omega, b4, by omega⟩
  obtain ⟨c1, c2⟩ := a1 o j h (Or.inl rfl)
  obtain ⟨d1, d2⟩ := b1 o j c1 he
  exact ⟨d1, d2.trans c2⟩
theorem yG.at {T T' : yT} {sl c o j a : Nat} (h : yG T T' sl 0) (f : yAt T c o j a) : yAt T' c o j a := ⟨(h.1 o j f.1 (Or.inl rfl)).1, f.2.1, (h.1 o j f.1 (Or.inl rfl)).2.trans f.2.2⟩
theorem yG.at1 {T T' : yT} {sl e c o j a : Nat} (h : yG T T' sl e) (h9 : o ≠ 9 ∧ o ≠ 10) (f : yAt T c o j a) : yAt T' c o j a := ⟨(h.1 o j f.1 (Or.inr h9)).1, f.2.1, (h.1 o j f.1 (Or.inr h9)).2.trans f.2.2⟩
def ykN (rt : List Nat) (F : xH) (ev : xEv) (prim : xRel) (d j : Nat) (T : yT) (S : yS) (av : List Value) (v : Option Value) (S' : yS) (e : Nat) : Prop := T.2.2.2 = 0 → ∀ (hp : xH), cR rt F ev T S hp → ∃ hp' T' sl, xCalls ev xmi (xprog ev) prim d j av hp T.2.2.1 (v, hp', T'.2.2.1, sl) ∧ cR rt F ev T' S' hp' ∧ yG T T' sl e
def ypN (rt : List Nat) (F : xH) (ev : xEv) (T0 : yT) (v : Option Value) (S' : yS) (E : Nat) : xR ⊕ xS → Prop := fun q => ∃ hp' T' sl, q = .inl (v, hp', T'.2.2.1, sl) ∧ cR rt F ev T' S' hp' ∧ yG T0 T' sl E
theorem rN {rt : List Nat} {F : xH} {ev : xEv} {T0 T : yT} {S S' : yS} {hp : xH} {sl E : Nat} {e v : Int32} (h : some (e, S) = some (v, S')) (hM : cR rt F ev T S hp) (hG : yG T0 T sl E) : ypN rt F ev T0 (some (.int v)) S' E (.inl (some (.int e), hp, T.2.2.1, sl)) := by cases h; exact ⟨hp, T, sl, rfl, hM, hG⟩
theorem rNV {rt : List Nat} {F : xH} {ev : xEv} {T0 T : yT} {S S' : yS} {hp : xH} {sl E : Nat} {e v : Int32} (h : some (e, S) = some (v, S')) (hM : cR rt F ev T S hp) (hG : yG T0 T sl E) : ypN rt F ev T0 none S' E (.inl (none, hp, T.2.2.1, sl)) := by cases h; exact ⟨hp, T, sl, rfl, hM, hG⟩
theorem ykN.of {rt : List Nat} {F : xH} {ev : xEv} {prim : xRel} {d j E : Nat} {T : yT} {S S' : yS} {av : List Value} {v : Option Value} {code : List (Nat × xEn)} {y : MethodName} {cc : ByteArray} {nL : Nat} {ret : Option FieldType} (hj : xprog ev j = code) (hn : xmi j = (y, cc, nL, ret)) (hlen : (lg_sl av).length ≤ nL) (h : T.2.2.2 = 0 → ∀ (hp : xH), cR rt F ev T S hp → yWE ev.2.1 (xstr ev) (xCalls ev xmi (xprog ev) prim d) code (0, lv_args 0 av, [], hp, T.2.2.1, 0) (ypN rt F ev T v S' E)) : ykN rt F ev prim (d + 1) j T S av v S' E := by
  intro hz hp hM
  obtain ⟨q, h1, hp', T', sl, h2, h3, h4⟩ := yc_of hj hn hlen (fun s hs => by obtain ⟨_, _, _, h, _⟩ := hs; cases h) (h hz hp hM)
  have h5 : q = (v, hp', T'.2.2.1, sl) := Sum.inl.inj h2
  rw [h5] at h1
  exact ⟨hp', T', sl, h1, h3, h4⟩
theorem cR.fresh {rt : List Nat} {F : xH} {ev : xEv} {T : yT} {S : yS} {hp : xH} (h : cR rt F ev T S hp) {hp1 : xH} (ho : ∀ b, b < T.2.2.1 → hp1 b = hp b) : cR rt F ev T S hp1 := by
  obtain ⟨g1, g2, g3, g4, g5, g6, g7, g8, g9⟩ := h
  exact ⟨g1, fun o j z h1 h2 => (ho _ (g4 o j h1 (yHas_of h2)).2).trans (g2 o j z h1 h2), g3, g4, fun a z h1 => ⟨(ho a (g5 a z h1).2).trans (g5 a z h1).1, (g5 a z h1).2⟩, g6, g7, g8, g9⟩
theorem cR.unp {rt : List Nat} {F : xH} {ev : xEv} {T : yT} {S : yS} {hp : xH} (h : cR rt F ev T S hp) (hr : yRf S T.2.2.2 = 1) : cR rt F ev (yUn T) S hp := by
  obtain ⟨g1, g2, g3, g4, g5, g6, g7, g8, g9⟩ := h
  refine ⟨g1, g2, g3, g4, g5, g6, g7, fun o h1 h2 => ?_, g9⟩
  rcases g8 o h1 h2 with e | e
  · exact Or.inl e
  · subst e
    exact Or.inl hr
theorem yTab_le : ∀ c, ∀ q ∈ yTab c, q.2.1 ≤ 8 := by
  intro c
  unfold yTab
  split <;> decide
theorem yRow_le {c k : Nat} {q : Nat × Nat} (h : yRow c k = some q) : q.1 ≤ 8 := by
  unfold yRow at h
  split at h
  · next p hp =>
    cases h
    exact yTab_le c _ (List.mem_of_find?_eq_some hp)
  · cases h
theorem yBase_ge {t : Nat} (h4 : 4 ≤ t) (h8 : t ≤ 8) : 64 ≤ yBase t := by
  have : t = 4 ∨ t = 5 ∨ t = 6 ∨ t = 7 ∨ t = 8 := by omega
  rcases this with rfl | rfl | rfl | rfl | rfl <;> decide
theorem yFl_T {ev : xEv} {T T' : yT} {I : Nat → Int32} {o c : Nat} (h1 : ∀ x j, x < 9 → T'.2.1 x j = T.2.1 x j) (h2 : ∀ j, T'.2.1 o j = T.2.1 o j) (h3 : I (yKs c) = 1 → T'.2.1 (o + 64) 0 = T.2.1 (o + 64) 0) : yFl ev T' I o c = yFl ev T I o c := by
  have hN : ∀ s, yKs c = s → yNu T' (I s) (o + 64) = yNu T (I s) (o + 64) := fun s hs => by
    unfold yNu
    split
    · next h => rw [h3 (by rw [hs]; exact h)]
    · rfl
  have hB : ∀ t, yByt T' t = yByt T t := fun t => by
    unfold yByt
    rw [h1 8 44 (by decide), h1 8 38 (by decide)]
  have e10 := h1 1 0 (by decide)
  have e20 := h1 2 0 (by decide)
  have e30 := h1 3 0 (by decide)
  have e40 := h1 4 0 (by decide)
  have e50 := h1 5 0 (by decide)
  have e60 := h1 6 0 (by decide)
  have e70 := h1 7 0 (by decide)
  by_cases c0 : c = 0
  · subst c0; simp only [yFl, h2, hN 11 rfl]
  by_cases c0 : c = 1
  · subst c0; simp only [yFl, h2, hN 10 rfl]
  by_cases c0 : c = 2
  · subst c0; simp only [yFl, h2]
  by_cases c0 : c = 3
  · subst c0; simp only [yFl, h2]
  by_cases c0 : c = 4
  · subst c0; simp only [yFl, h2]
  by_cases c0 : c = 5
  · subst c0; simp only [yFl, hN 4 rfl]
  by_cases c0 : c = 6
  · subst c0; simp only [yFl, h2, hN 20 rfl]
  by_cases c0 : c = 7
  · subst c0; simp only [yFl, h2]
  by_cases c0 : c = 8
  · subst c0; simp only [yFl, h2]
  by_cases c0 : c = 9
  · subst c0; simp only [yFl, h2]
  by_cases c0 : c = 10
  · subst c0; simp only [yFl, h2, e10, e30, e40, e50]
  by_cases c0 : c = 11
  · subst c0; simp only [yFl, h2, e10, e20, e60, e70]
  by_cases c0 : c = 12
  · subst c0; simp only [yFl, h2, hB]
  unfold yFl
  split <;> first | rfl | contradiction
theorem yKs_occ (c : Nat) : yKs (occ c) = yKs c := by
  unfold occ
  split
  · next h => subst h; rfl
  · rfl
theorem cR.grow {rt : List Nat} {F : xH} {ev : xEv} {T T' : yT} {S S' : yS} {hp hp' : xH} {id : Nat} (h : cR rt F ev T S hp)
    (hal : ∀ o, o ≠ id → T'.1 o = T.1 o) (had : ∀ o j, o ≠ id → T'.2.1 o j = T.2.1 o j) (hid : T'.1 id = true) (h0 : 9 ≤ id) (h9 : id < 640) (hrt : ∀ o ∈ rt, o ≠ id)
    (hS : ∀ o, o ≠ id → S'.1 o = S.1 o ∧ S'.2.1 o = S.2.1 o ∧ S'.2.2 o = S.2.2 o)
    (hn1 : ∀ o k q i, T.1 o = true → o ≠ id → yRow (oc o) k = some q → 4 ≤ q.1 → S.2.1 o k i = 1 → yBase q.1 + i ≠ id)
    (hn2 : ∀ o, T.1 o = true → o ≠ id → S.1 o (yKs (oc o)) = 1 → o + 64 ≠ id)
    (hlt : ∀ b, b < T.2.2.1 → hp' b = hp b) (hn : T.2.2.1 ≤ T'.2.2.1)
    (hnew : ∀ j, yHas id j → T.2.2.1 ≤ T'.2.1 id j ∧ T'.2.1 id j < T'.2.2.1)
    (hinj : ∀ j j', yHas id j → yHas id j' → T'.2.1 id j = T'.2.1 id j' → j = j')
    (hc : ∀ j z, yCell ev T' S' id j = some z → hp' (T'.2.1 id j) = some z)
    (h6 : ∀ k q i, yRow (oc id) k = some q → 4 ≤ q.1 → ¬ S'.2.1 id k i = 1) (h7 : ¬ S'.1 id (yKs (oc id)) = 1)
    (h8 : ∀ o, T'.1 o = true → 64 ≤ o → yRf S' o = 1 ∨ o = T'.2.2.2) : cR rt F ev T' S' hp' := by
  obtain ⟨g1, g2, g3, g4, g5, g6, g7, g8, g9⟩ := h
  have hcell : ∀ o j, T.1 o = true → o ≠ id → yCell ev T' S' o j = yCell ev T S o j := by
    intro o j ho he
    obtain ⟨s1, s2, s3⟩ := hS o he
    cases j with
    | zero =>
      simp only [yCell, s1]
      rw [yFl_T (T := T) (T' := T') (fun x j hx => had x j (by omega)) (fun j => had o j he) (fun h1 => ?_)]
      rw [yKs_occ] at h1
      exact had _ _ (hn2 o ho he h1)
    | succ k =>
      simp only [yCell, s2, s3]
      cases hq : yRow (oc o) k with
      | none => rfl
      | some q =>
        dsimp only
        have e3 : yCon T' q.1 (S.2.1 o k) (S.2.2 o k) = yCon T q.1 (S.2.1 o k) (S.2.2 o k) := by
          unfold yCon
          split
          · rfl
          · split
            · rfl
            · next h1 h2 =>
              congr 4
              funext i
              by_cases hi : S.2.1 o k i = 1
              · rw [if_pos hi, if_pos hi, had _ _ (hn1 o k q i ho he hq (by omega) hi)]
              · rw [if_neg hi, if_neg hi]
        rw [e3]
  have hald : ∀ o, o ≠ id → T'.1 o = true → T.1 o = true := fun o he h1 => by rw [← hal o he]; exact h1
  refine ⟨fun o ho => by rw [hal o (hrt o ho)]; exact g1 o ho, fun o j z h1 h2 => ?_, fun o j o' j' h1 h2 h3 h4 h5 => ?_, fun o j h1 h2 => ?_, fun a z h1 => ?_, fun o k q i h1 h2 h3 h4 => ?_, fun o h1 h2 => ?_, h8, fun o h1 => ?_⟩
  · by_cases e : o = id
    · subst e; exact hc j z h2
    · have h3 := hald o e h1
      rw [hcell o j h3 e] at h2
      rw [had o j e, hlt _ (g4 o j h3 (yHas_of h2)).2]
      exact g2 o j z h3 h2
  · by_cases e : o = id
    · by_cases e' : o' = id
      · subst e; subst e'
        exact ⟨rfl, hinj j j' h3 h4 h5⟩
      · subst e
        have := hnew j h3
        have h6' := (g4 o' j' (hald o' e' h2) h4).2
        rw [had o' j' e'] at h5
        omega
    · by_cases e' : o' = id
      · subst e'
        have := hnew j' h4
        have h6' := (g4 o j (hald o e h1) h3).2
        rw [had o j e] at h5
        omega
      · rw [had o j e, had o' j' e'] at h5
        exact g3 o j o' j' (hald o e h1) (hald o' e' h2) h3 h4 h5
  · by_cases e : o = id
    · subst e
      obtain ⟨a1, a2⟩ := hnew j h2
      refine ⟨?_, a2⟩
      cases hF : F (T'.2.1 o j) with
      | none => rfl
      | some z =>
        have := (g5 _ z hF).2
        omega
    · rw [had o j e]
      obtain ⟨a1, a2⟩ := g4 o j (hald o e h1) h2
      exact ⟨a1, by omega⟩
  · obtain ⟨a1, a2⟩ := g5 a z h1
    exact ⟨(hlt a a2).trans a1, by omega⟩
  · by_cases e : o = id
    · subst e; exact absurd h4 (h6 k q i h2 h3)
    · have h5 := hald o e h1
      rw [(hS o e).2.1] at h4
      have h6' := g6 o k q i h5 h2 h3 h4
      rw [hal _ (hn1 o k q i h5 e h2 h3 h4)]
      exact h6'
  · by_cases e : o = id
    · subst e; exact absurd h2 h7
    · have h5 := hald o e h1
      rw [(hS o e).1] at h2
      have h6' := g7 o h5 h2
      exact ⟨by rw [hal _ (hn2 o h5 e h2)]; exact h6'.1, h6'.2⟩
  · by_cases e : o = id
    · rw [e]; exact h9
    · exact g9 o (hald o e h1)
theorem cR.born {rt : List Nat} {F : xH} {ev : xEv} {T : yT} {S : yS} {hp hp' : xH} {id n' : Nat} {I0 : Nat → Int32} {ad0 : Nat → Nat} (h : cR rt F ev T S hp) (hz : T.2.2.2 = 0) (h64 : 64 ≤ id) (h640 : id < 640) (hrf : ¬ yRf S id = 1) (hrf2 : ¬ S.1 id (yKs (oc id)) = 1) (hrt : ∀ o ∈ rt, o < 64)
    (hlt : ∀ b, b < T.2.2.1 → hp' b = hp b) (hn : T.2.2.1 ≤ n')
    (hnew : ∀ j, yHas id j → T.2.2.1 ≤ ad0 j ∧ ad0 j < n')
    (hinj : ∀ j j', yHas id j → yHas id j' → ad0 j = ad0 j' → j = j')
    (hc : ∀ j z, yCell ev (yTn T id ad0 n') (yNw S id I0) id j = some z → hp' (ad0 j) = some z)
    (h7 : ¬ I0 (yKs (oc id)) = 1) : cR rt F ev (yTn T id ad0 n') (yNw S id I0) hp' ∧ T.1 id = false := by
  have h0 := h
  obtain ⟨g1, g2, g3, g4, g5, g6, g7, g8, g9⟩ := h
  have hf : T.1 id = false := by
    cases hb : T.1 id with
    | false => rfl
    | true =>
      rcases g8 id hb h64 with e | e
      · exact absurd e hrf
      · omega
  refine ⟨?_, hf⟩
  have e2 : ∀ j, (yTn T id ad0 n').2.1 id j = ad0 j := fun j => by simp only [yTn, if_true]
  refine h0.grow (id := id) (fun o ho => by simp only [yTn, if_neg ho]) (fun o j ho => by simp only [yTn, if_neg ho]) (by simp only [yTn, if_true]) (by omega) h640 (fun o ho => by have := hrt o ho; omega) (fun o ho => by simp only [yNw, if_neg ho]; exact ⟨trivial, trivial, trivial⟩) (fun o k q i h1 h2 h3 h4 h5 e => ?_) (fun o h1 h2 h3 e => ?_) hlt hn (fun j hj => by rw [e2]; exact hnew j hj) (fun j j' h1 h2 h3 => by rw [e2, e2] at h3; exact hinj j j' h1 h2 h3) (fun j z h1 => by rw [e2]; exact hc j z h1) (fun k q i h1 h2 => by simp only [yNw, if_true]; decide) (by simp only [yNw, if_true]; exact h7) (fun o h1 h2 => ?_)
  · have := g6 o k q i h1 h3 h4 h5
    rw [e, hf] at this
    cases this
  · have := (g7 o h1 h3).1
    rw [e, hf] at this
    cases this
  · by_cases e : o = id
    · right; exact e
    · have h3 : T.1 o = true := by
        simp only [yTn, if_neg e] at h1
        exact h1
      left
      rcases g8 o h3 h2 with h4 | h4
      · have hx : ∀ x k i, x < 64 → (yNw S id I0).2.1 x k i = S.2.1 x k i := fun x k i hx => by simp only [yNw]; rw [if_neg (by omega)]
        have key : ∀ (x y s : Nat), (∀ i, i < 64 → oc (y + i) = x) → yKs x = s → y ≤ o - 64 → o - 64 < y + 64 → S.1 (o - 64) s = 1 → (yNw S id I0).1 (o - 64) s = 1 := by
          intro x y s hx hs h5 h6 h7
          by_cases hid : o - 64 = id
          · exfalso
            have h8 := hx (o - 64 - y) (by omega)
            rw [show y + (o - 64 - y) = o - 64 by omega] at h8
            apply hrf2
            rw [← hid, h8, hs]
            exact h7
          · simp only [yNw, if_neg hid]
            exact h7
        unfold yRf at h4 ⊢
        simp only [hx 1 _ _ (by decide), hx 2 _ _ (by decide)]
        by_cases c1 : o / 64 = 1
        · simp only [if_pos c1] at h4 ⊢; exact h4
        by_cases c2 : o / 64 = 2
        · simp only [if_neg c1, if_pos c2] at h4 ⊢; exact h4
        by_cases c3 : o / 64 = 3
        · simp only [if_neg c1, if_neg c2, if_pos c3] at h4 ⊢; exact key 6 128 20 (fun i hi => oc_128 hi) rfl (by omega) (by omega) h4
        by_cases c4 : o / 64 = 4
        · simp only [if_neg c1, if_neg c2, if_neg c3, if_pos c4] at h4 ⊢; exact h4
        by_cases c5 : o / 64 = 5
        · simp only [if_neg c1, if_neg c2, if_neg c3, if_neg c4, if_pos c5] at h4 ⊢; exact key 5 256 4 (fun i hi => oc_256 hi) rfl (by omega) (by omega) h4
        by_cases c6 : o / 64 = 6
        · simp only [if_neg c1, if_neg c2, if_neg c3, if_neg c4, if_neg c5, if_pos c6] at h4 ⊢; exact h4
        by_cases c7 : o / 64 = 7
        · simp only [if_neg c1, if_neg c2, if_neg c3, if_neg c4, if_neg c5, if_neg c6, if_pos c7] at h4 ⊢; exact key 0 384 11 (fun i hi => oc_384 hi) rfl (by omega) (by omega) h4
        by_cases c8 : o / 64 = 8
        · simp only [if_neg c1, if_neg c2, if_neg c3, if_neg c4, if_neg c5, if_neg c6, if_neg c7, if_pos c8] at h4 ⊢; exact h4
        by_cases c9 : o / 64 = 9
        · simp only [if_neg c1, if_neg c2, if_neg c3, if_neg c4, if_neg c5, if_neg c6, if_neg c7, if_neg c8, if_pos c9] at h4 ⊢; exact key 1 512 10 (fun i hi => oc_512 hi) rfl (by omega) (by omega) h4
        simp only [if_neg c1, if_neg c2, if_neg c3, if_neg c4, if_neg c5, if_neg c6, if_neg c7, if_neg c8, if_neg c9] at h4
        cases h4
      · omega
theorem yRf_nw (S : yS) (I0 : Nat → Int32) {id o : Nat} (hid : 9 ≤ id ∧ id < 64) : yRf (yNw S id I0) o = yRf S o := by
  have hx : ∀ x k i, x < 9 → (yNw S id I0).2.1 x k i = S.2.1 x k i := fun x k i hx => by simp only [yNw]; rw [if_neg (by omega)]
  have hy : ∀ x k, 64 ≤ x → (yNw S id I0).1 x k = S.1 x k := fun x k hx => by simp only [yNw]; rw [if_neg (by omega)]
  unfold yRf
  simp only [hx 1 _ _ (by decide), hx 2 _ _ (by decide)]
  by_cases c3 : o / 64 = 3
  · simp only [c3, hy (o - 64) _ (by omega)]
  by_cases c5 : o / 64 = 5
  · simp only [c5, hy (o - 64) _ (by omega)]
  by_cases c7 : o / 64 = 7
  · simp only [c7, hy (o - 64) _ (by omega)]
  by_cases c9 : o / 64 = 9
  · simp only [c9, hy (o - 64) _ (by omega)]
  simp only [if_neg c3, if_neg c5, if_neg c7, if_neg c9]
theorem yG.born {T : yT} {id n' sl : Nat} {ad0 : Nat → Nat} (hf : T.1 id = false) (h640 : id < 640) (hn : T.2.2.1 ≤ n') (hn3 : n' ≤ T.2.2.1 + 3) (hs : sl ≤ 45) : yG T (yUn (yTn T id ad0 n')) sl 0 := by
  have e := yfr_one (al := T.1) (al' := (yUn (yTn T id ad0 n')).1) (id := id) hf (by simp only [yUn, yTn, if_true]) (fun o ho => by simp only [yUn, yTn, if_neg ho]) 640 h640
  refine ⟨fun o j h1 _ => ?_, ?_, ?_, rfl, hn⟩
  · have ho : o ≠ id := fun e => by rw [e, hf] at h1; cases h1
    simp only [yUn, yTn, if_neg ho]
    exact ⟨h1, trivial⟩
  · show n' + 3 * yfr (yUn (yTn T id ad0 n')).1 640 ≤ _
    omega
  · omega
theorem yAt.tn {T : yT} {id n' c o j a : Nat} {ad0 : Nat → Nat} (f : yAt T c o j a) (hf : T.1 id = false) : yAt (yTn T id ad0 n') c o j a := by
  have ho : o ≠ id := fun e => by have := f.1; rw [e, hf] at this; cases this
  refine ⟨?_, f.2.1, ?_⟩
  · simp only [yTn, if_neg ho]; exact f.1
  · simp only [yTn, if_neg ho]; exact f.2.2
/-- a row of six ints made by plan -/
theorem cR.newa {rt : List Nat} {F : xH} {ev : xEv} {T : yT} {S : yS} {hp : xH} {id : Nat} (h : cR rt F ev T S hp) (hz : T.2.2.2 = 0) (hid : id = 9 ∨ id = 10) (hrt : ∀ o ∈ rt, o < 9) : ∃ T', cR rt F ev T' (yNw S id (fun _ => 0)) (xU hp T.2.2.1 (.inl (ev.1 0, 6, .inl (fun _ => 0)))) ∧ yG T T' 6 1 ∧ yAt T' 13 id 1 T.2.2.1 ∧ T'.2.2.1 = T.2.2.1 + 1 ∧ (∀ c o j a, o < 9 → yAt T c o j a → yAt T' c o j a) := by
  have hoc : oc id = 13 := by rcases hid with rfl | rfl <;> rfl
  refine ⟨(fun o => if o = id then true else T.1 o, fun o j => if o = id then T.2.2.1 else T.2.1 o j, T.2.2.1 + 1, 0), ?_, ?_, ?_, rfl, ?_⟩
  · refine h.grow (id := id) (fun o ho => by simp only [if_neg ho]) (fun o j ho => by simp only [if_neg ho]) (by simp only [if_true]) (by omega) (by omega) (fun o ho => by have := hrt o ho; omega) (fun o ho => ?_) (fun o k q i h1 h2 h3 h4 h5 e => ?_) (fun o h1 h2 h3 e => by omega) (fun b hb => xU_other _ _ (by omega)) (by simp only []; omega) (fun j hj => by simp only [if_true]; omega) (fun j j' h1 h2 _ => ?_) (fun j z h1 => ?_) (fun k q i h1 h2 => ?_) ?_ (fun o h1 h2 => ?_)
    · simp only [yNw, if_neg ho]; exact ⟨trivial, trivial, trivial⟩
    · have := yBase_ge h4 (yRow_le h3)
      omega
    · have hh : ∀ j, yHas id j → j = 1 := by
        intro j hj
        cases j with
        | zero => exact absurd (Or.inl hoc) hj
        | succ k =>
          simp only [yHas, hoc] at hj
          cases k with
          | zero => rfl
          | succ k => exact absurd hj (by simp [yRow, yTab, List.find?])
      rw [hh j h1, hh j' h2]
    · simp only [if_true]
      rw [xU_same]
      cases j with
      | zero => simp only [yCell, hoc] at h1; cases h1
      | succ k =>
        simp only [yCell, hoc] at h1
        cases k with
        | zero =>
          rw [← h1]
          have e : (yNw S id (fun _ => 0)).2.1 id 0 = fun _ => 0 := by simp only [yNw, if_true]
          rw [e]
          rfl
        | succ k => simp [yRow, yTab, List.find?] at h1
    · rw [hoc] at h1
      cases k with
      | zero => cases h1; exact absurd h2 (by decide)
      | succ k => simp [yRow, yTab, List.find?] at h1
    · simp only [yNw, if_true]; decide
    · by_cases e : o = id
      · omega
      · simp only [if_neg e] at h1
        rw [yRf_nw S (fun _ => 0) (by omega)]
        rcases h.2.2.2.2.2.2.2.1 o h1 h2 with h3 | h3
        · exact Or.inl h3
        · omega
  · refine ⟨fun o j h1 he => ?_, ?_, ?_, rfl, by simp only []; omega⟩
    · have ho : o ≠ id := by rcases he with he | he <;> omega
      simp only [if_neg ho]
      exact ⟨h1, trivial⟩
    · have := yfr_le (al := T.1) (al' := fun o => if o = id then true else T.1 o) 640 (fun o ho => by show (if o = id then true else T.1 o) = true; split <;> first | rfl | exact ho)
      simp only []
      omega
    · have := yfr_le (al := T.1) (al' := fun o => if o = id then true else T.1 o) 640 (fun o ho => by show (if o = id then true else T.1 o) = true; split <;> first | rfl | exact ho)
      simp only []
      omega
  · exact ⟨by simp only [if_true], hoc, by simp only [if_true]⟩
  · intro c o j a h9 f
    have ho : o ≠ id := by omega
    refine ⟨?_, f.2.1, ?_⟩
    · simp only [if_neg ho]; exact f.1
    · simp only [if_neg ho]; exact f.2.2
theorem yAt.nw {T : yT} {id n' c a : Nat} {ad0 : Nat → Nat} (hc : oc id = c) (h : ad0 0 = a) : yAt (yTn T id ad0 n') c id 0 a := ⟨by simp only [yTn, if_true], hc, by simp only [yTn, if_true]; exact h⟩
theorem yAt.un {T T3 : yT} {c o j a : Nat} (e : T3 = yUn T) (f : yAt T c o j a) : yAt T3 c o j a := by rw [e]; exact f
theorem yG.wk {T T' : yT} {sl : Nat} (h : yG T T' sl 0) : yG T T' sl 1 := ⟨fun o j h1 _ => h.1 o j h1 (Or.inl rfl), by have := h.2.1; omega, by have := h.2.2.1; omega, h.2.2.2.1, h.2.2.2.2⟩
theorem yw_newa {str : Nat → Nat} {fs : Nat → xS → xS → Prop} {call : xRel} {code : List (Nat × xEn)} {pc : Nat} {lv : xLv} {hp : xH} {sl : Nat} {r : xR ⊕ xS → Prop} {rest : List Value} {rt : List Nat} {F : xH} {ev : xEv} {T : yT} {S S1 : yS} {id : Nat} (hm : xfind code pc = some (.inl (xo_newa (ev.1 0) (.inl (fun _ => 0))))) (hM : cR rt F ev T S hp) (hz : T.2.2.2 = 0) (hid : id = 9 ∨ id = 10) (hrt : ∀ o ∈ rt, o < 9) (e : S1 = yNw S id (fun _ => 0)) (h : ∀ hp2 T2 a, cR rt F ev T2 S1 hp2 → yG T T2 6 1 → yAt T2 13 id 1 a → (∀ c o j a, o < 9 → yAt T c o j a → yAt T2 c o j a) → yWE str fs call code (pc + 2, lv, .ref a :: rest, hp2, T2.2.2.1, sl + 6) r) : yWE str fs call code (pc, lv, .int 6 :: rest, hp, T.2.2.1, sl) r := by
  obtain ⟨T2, M2, G2, f2, z2, t2⟩ := hM.newa hz hid hrt
  refine ye_op hm (σ' := (pc + 2, lv, .ref T.2.2.1 :: rest, xU hp T.2.2.1 (.inl (ev.1 0, 6, .inl (fun _ => 0))), T.2.2.1 + 1, sl + 6)) rfl ?_
  rw [← z2]
  subst e
  exact h _ T2 _ M2 G2 f2 t2
theorem yAt.eqv {T : yT} {c o o2 j a : Nat} (e : o = o2) (f : yAt T c o j a) : yAt T c o2 j a := by subst e; exact f
