/-! THE READER AND THE PARSER: an automaton between them -/
def zS (s : Nat) : Nat := if s = 33 then 6 else if s = 38 then 2 else if s = 42 then 5 else if s = 43 then 4 else if s = 45 then 4 else if s = 60 then 3 else if s = 61 then 3 else if s = 62 then 3 else if s = 124 then 1 else if s = 126 then 6 else 0
/-- state, codes (the last first), held (the top first), compared (the deepest first), digits, choices that still want their second part -/
abbrev zP : Type := Nat × List Nat × List Nat × List Bool × Nat × Nat
def zRel : List Nat → List Nat → List Nat
  | [], c => c
  | p :: h, c => zRel h ((2000 + p) :: c)
def zRls (t : Nat) : List Nat → List Nat → List Nat × List Nat
  | [], c => ([], c)
  | p :: h, c => if zS p < t then (p :: h, c) else zRls t h ((2000 + p) :: c)
def zCls : List Nat → List Nat → List Nat × List Nat
  | [], c => ([], c)
  | p :: h, c => if p = 58 then zCls h (2063 :: c) else (p :: h, c)
def zL (k s : Nat) : Bool := decide (0 ≤ sIdx (if k = 2 then 0 else 1) (Int32.ofNat s))
def zAc (k s : Nat) : Bool := decide (0 ≤ sIdx (if k = 0 then 2 else 3) (Int32.ofNat s))
def zThing (k : Nat) (c h : List Nat) (cm : List Bool) (dg oc s : Nat) : Option zP :=
  if 48 ≤ s ∧ s ≤ 57 then some (2, (s - 48) :: c, h, cm, 1, oc)
  else if zL k s = true then some (2, (903 + s) :: c, h, cm, 3, oc)
  else if s = 33 then some (1, c, 33 :: h, cm, dg, oc)
  else if s = 45 then some (1, c, 126 :: h, cm, dg, oc)
  else if s = 40 ∧ cm.length ≤ 60 then some (1, c, 40 :: h, false :: cm, dg, oc)
  else none
def zNum (c h : List Nat) (cm : List Bool) (dg oc s : Nat) : Option zP := match c with
  | [] => none
  | x :: c => some (2, (x * 10 + (s - 48)) :: c, h, cm, dg + 1, oc)
def zCho (c h : List Nat) (dg oc s : Nat) : Option zP :=
  if s = 63 then some (1, (zRls 1 h c).2, 63 :: (zRls 1 h c).1, [false], dg, oc + 1)
  else if oc = 0 then none
  else some (1, (zCls (zRls 1 h c).1 (zRls 1 h c).2).2, 58 :: (zCls (zRls 1 h c).1 (zRls 1 h c).2).1.tail, [false], dg, oc - 1)
def zOp (c h : List Nat) (cm : List Bool) (dg oc s : Nat) : Option zP :=
  if zS s = 0 ∨ 5 < zS s ∨ (zS s = 3 ∧ cm.headD false = true) then none
  else some (1, (zRls (zS s) h c).2, s :: (zRls (zS s) h c).1, if zS s ≤ 3 then decide (zS s = 3) :: cm.tail else cm, dg, oc)
def zBeh (k : Nat) (c h : List Nat) (cm : List Bool) (dg oc s : Nat) : Option zP :=
  if 48 ≤ s ∧ s ≤ 57 then (if 3 ≤ dg then none else zNum c h cm dg oc s)
  else if s = 41 then (if cm.length ≤ 1 then none else some (2, (zRls 1 h c).2, (zRls 1 h c).1.tail, cm.tail, 3, oc))
  else if s = 58 ∨ s = 63 then (if ¬ cm.length ≤ 1 then none
    else if k = 2 then zCho c h dg oc s
    else if s = 58 then some (3, (zRls 1 h c).2, (zRls 1 h c).1, [false], dg, oc) else none)
  else zOp c h cm dg oc s
def zT (k : Nat) (P : zP) (s : Nat) : Option zP :=
  if P.1 = 0 then (if s = 58 then some (3, 1 :: P.2.1, P.2.2.1, P.2.2.2.1, P.2.2.2.2.1, P.2.2.2.2.2) else zThing k P.2.1 P.2.2.1 P.2.2.2.1 P.2.2.2.2.1 P.2.2.2.2.2 s)
  else if P.1 = 1 then zThing k P.2.1 P.2.2.1 P.2.2.2.1 P.2.2.2.2.1 P.2.2.2.2.2 s
  else if P.1 = 2 then zBeh k P.2.1 P.2.2.1 P.2.2.2.1 P.2.2.2.2.1 P.2.2.2.2.2 s
  else if P.1 = 3 then (if zAc k s = true then some (4, (3000 + s) :: P.2.1, P.2.2.1, P.2.2.2.1, P.2.2.2.2.1, P.2.2.2.2.2) else none)
  else if s = 59 then some (0, P.2) else none
/-- may the text end here -/
def zEnd (k : Nat) (P : zP) : Prop := if k = 2 then P.1 = 2 ∧ P.2.2.2.1.length ≤ 1 ∧ P.2.2.2.2.2 = 0 else P.1 = 4
def zR (k : Nat) (s : Nat → Nat) : Nat → Nat → zP → Option zP
  | 0, _, P => some P
  | n + 1, i, P => (zT k P (s i)).bind (zR k s n (i + 1))
def zG (k : Nat) (s : Nat → Nat) (i : Nat) (P : zP) (j : Nat) (Q : zP) : Prop := ∃ n, j = i + n ∧ zR k s n i P = some Q
theorem zG_refl {k : Nat} {s : Nat → Nat} {i : Nat} {P : zP} : zG k s i P i P := ⟨0, rfl, rfl⟩
theorem zR_add (k : Nat) (s : Nat → Nat) (m n i : Nat) (P : zP) : zR k s (m + n) i P = (zR k s m i P).bind (zR k s n (i + m)) := by
  induction m generalizing i P with
  | zero => simp [zR]
  | succ m ih =>
    rw [show m + 1 + n = (m + n) + 1 by omega]
    show (zT k P (s i)).bind (zR k s (m + n) (i + 1)) = ((zT k P (s i)).bind (zR k s m (i + 1))).bind _
    cases zT k P (s i) with
    | none => rfl
    | some Q =>
      show zR k s (m + n) (i + 1) Q = (zR k s m (i + 1) Q).bind _
      rw [ih, show i + 1 + m = i + (m + 1) by omega]
theorem zG_trans {k : Nat} {s : Nat → Nat} {i j l : Nat} {P Q R : zP} (h1 : zG k s i P j Q) (h2 : zG k s j Q l R) : zG k s i P l R := by
  obtain ⟨m, e1, g1⟩ := h1
  obtain ⟨n, e2, g2⟩ := h2
  refine ⟨m + n, by omega, ?_⟩
  rw [zR_add, g1, ← e1]
  exact g2
theorem zG_step {k : Nat} {s : Nat → Nat} {i : Nat} {P Q : zP} (h : zT k P (s i) = some Q) : zG k s i P (i + 1) Q := by
  refine ⟨1, rfl, ?_⟩
  show (zT k P (s i)).bind (zR k s 0 (i + 1)) = some Q
  rw [h]
  rfl
theorem zG_uniq {k : Nat} {s : Nat → Nat} {i j : Nat} {P Q Q' : zP} (h1 : zG k s i P j Q) (h2 : zG k s i P j Q') : Q = Q' := by
  obtain ⟨m, e1, g1⟩ := h1
  obtain ⟨n, e2, g2⟩ := h2
  have : m = n := by omega
  subst this
  rw [g1] at g2
  exact Option.some.inj g2
theorem zRel_app (a b c : List Nat) : zRel (a ++ b) c = zRel b (zRel a c) := by
  induction a generalizing c with
  | nil => rfl
  | cons p a ih => exact ih _
theorem zRls_app {t : Nat} {a b : List Nat} (c : List Nat) (ha : ∀ p ∈ a, t ≤ zS p) (hb : b = [] ∨ ∃ p b', b = p :: b' ∧ zS p < t) : zRls t (a ++ b) c = (b, zRel a c) := by
  induction a generalizing c with
  | nil =>
    rcases hb with rfl | ⟨p, b', rfl, hp⟩
    · rfl
    · show (if zS p < t then _ else _) = _
      rw [if_pos hp]
      rfl
  | cons p a ih =>
    have hp := ha p (List.mem_cons_self ..)
    show (if zS p < t then _ else _) = _
    rw [if_neg (by omega)]
    exact ih _ (fun q hq => ha q (List.mem_cons_of_mem _ hq))
theorem zCls_rep (m : Nat) (b c : List Nat) (hb : b = [] ∨ ∃ p b', b = p :: b' ∧ p ≠ 58) : zCls (List.replicate m 58 ++ b) c = (b, List.replicate m 2063 ++ c) := by
  induction m generalizing c with
  | zero =>
    rcases hb with rfl | ⟨p, b', rfl, hp⟩
    · rfl
    · show (if p = 58 then _ else _) = _
      rw [if_neg hp]
      rfl
  | succ m ih =>
    show zCls (List.replicate m 58 ++ b) (2063 :: c) = _
    rw [ih]
    congr 1
    show List.replicate m 2063 ++ (2063 :: c) = 2063 :: (List.replicate m 2063 ++ c)
    clear ih hb
    induction m with
    | zero => rfl
    | succ m ih2 => exact congrArg (List.cons 2063) ih2
/-! what codes do on a stack (the top first) -/
def zJ (s : Nat) (a b : Int32) : Int32 := if s = 38 then b01 (¬ a = 0 ∧ ¬ b = 0) else if s = 43 then a + b else if s = 45 then a - b else if s = 60 then b01 (a < b) else if s = 61 then b01 (a = b) else if s = 62 then b01 (b < a) else if s = 124 then b01 (¬ a = 0 ∨ ¬ b = 0) else a * b
def zW1 (g : Int32 → Int32) : List Int32 → Option (List Int32)
  | a :: t => some (g a :: t)
  | [] => none
def zW2 (g : Int32 → Int32 → Int32) : List Int32 → Option (List Int32)
  | b :: a :: t => some (g a b :: t)
  | _ => none
def zW3 : List Int32 → Option (List Int32)
  | c :: b :: a :: t => some ((if a = 0 then c else b) :: t)
  | _ => none
def zW (L : Nat → Int32) (x : Nat) (σ : List Int32) : Option (List Int32) :=
  if x < 1000 then some (Int32.ofNat x :: σ) else if x < 2000 then some (L (x - 1000) :: σ)
  else if x = 2033 then zW1 (fun a => b01 (a = 0)) σ
  else if x = 2126 then zW1 (fun a => -a) σ
  else if x = 2063 then zW3 σ
  else zW2 (zJ (x - 2000)) σ
def zX (L : Nat → Int32) : List Nat → List Int32 → Option (List Int32)
  | [], σ => some σ
  | x :: d, σ => (zX L d σ).bind (zW L x)
theorem zX_app (L : Nat → Int32) (d e : List Nat) (σ : List Int32) : zX L (d ++ e) σ = (zX L e σ).bind (zX L d) := by
  induction d with
  | nil =>
    show zX L e σ = (zX L e σ).bind (zX L [])
    cases zX L e σ <;> rfl
  | cons x d ih =>
    show (zX L (d ++ e) σ).bind (zW L x) = _
    rw [ih]
    cases zX L e σ <;> rfl
theorem zX_two {L : Nat → Int32} {d2 d : List Nat} {v v2 : Int32} (h : ∀ σ, zX L d σ = some (v :: σ)) (h2 : ∀ σ, zX L d2 σ = some (v2 :: σ)) (σ : List Int32) : zX L (d2 ++ d) σ = some (v2 :: v :: σ) := by
  rw [zX_app, h]
  exact h2 _
/-- forward: codes in the order in which they stand -/
def zF (L : Nat → Int32) : List Nat → List Int32 → Option (List Int32)
  | [], σ => some σ
  | x :: d, σ => (zW L x σ).bind (zF L d)
theorem zF_app (L : Nat → Int32) (d e : List Nat) (σ : List Int32) : zF L (d ++ e) σ = (zF L d σ).bind (zF L e) := by
  induction d generalizing σ with
  | nil => rfl
  | cons x d ih =>
    show (zW L x σ).bind (zF L (d ++ e)) = ((zW L x σ).bind (zF L d)).bind _
    cases zW L x σ with
    | none => rfl
    | some τ => exact ih τ
theorem zF_rev (L : Nat → Int32) (d : List Nat) (σ : List Int32) : zF L d.reverse σ = zX L d σ := by
  induction d with
  | nil => rfl
  | cons x d ih =>
    rw [List.reverse_cons, zF_app, ih]
    show (zX L d σ).bind (zF L [x]) = (zX L d σ).bind (zW L x)
    congr 1
    funext τ
    show (zW L x τ).bind (zF L []) = zW L x τ
    cases zW L x τ <;> rfl
/-- a rule's lines: act and line, if one tells; none where the stack is not as it should be -/
def zN (L : Nat → Int32) : List Nat → List Int32 → Nat → Option (Option (Nat × Nat))
  | [], [], _ => some none
  | [], _ :: _, _ => none
  | x :: d, σ, k => if x < 3000 then (match zW L x σ with
      | some τ => zN L d τ k
      | none => none)
    else (match σ with
      | a :: _ => if a = 0 then zN L d [] (k + 1) else some (some (x - 3000, k))
      | [] => zN L d [] (k + 1))
theorem zN_seg (L : Nat → Int32) (d e : List Nat) (σ τ : List Int32) (k : Nat) (hd : ∀ x ∈ d, x < 3000) (h : zF L d σ = some τ) : zN L (d ++ e) σ k = zN L e τ k := by
  induction d generalizing σ with
  | nil =>
    cases h
    rfl
  | cons x d ih =>
    have hx := hd x (List.mem_cons_self ..)
    show (if x < 3000 then _ else _) = _
    rw [if_pos hx]
    have h' : (zW L x σ).bind (zF L d) = some τ := h
    cases hw : zW L x σ with
    | none => rw [hw] at h'; cases h'
    | some ρ =>
      rw [hw] at h'
      exact ih ρ (fun q hq => hd q (List.mem_cons_of_mem _ hq)) h'
