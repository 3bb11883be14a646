abbrev yS : Type := (Nat → Nat → Int32) × (Nat → Nat → Nat → Int32) × (Nat → Nat → Nat → Int64)
abbrev yT : Type := (Nat → Bool) × (Nat → Nat → Nat) × Nat × Nat
def oc (o : Nat) : Nat := if o < 64 then [11, 2, 10, 9, 14, 8, 7, 4, 12, 13, 13].getD o 15 else [15, 3, 6, 6, 5, 5, 0, 0, 1, 1].getD (o / 64) 15
def occ (c : Nat) : Nat := if c = 14 then 8 else c
theorem oc_64 {i : Nat} (h : i < 64) : oc (64 + i) = 3 := by
  unfold oc
  rw [if_neg (by omega), show (64 + i) / 64 = 1 by omega]
  rfl
theorem oc_128 {i : Nat} (h : i < 64) : oc (128 + i) = 6 := by
  unfold oc
  rw [if_neg (by omega), show (128 + i) / 64 = 2 by omega]
  rfl
theorem oc_192 {i : Nat} (h : i < 64) : oc (128 + i + 64) = 6 := by
  unfold oc
  rw [if_neg (by omega), show (128 + i + 64) / 64 = 3 by omega]
  rfl
theorem oc_256 {i : Nat} (h : i < 64) : oc (256 + i) = 5 := by
  unfold oc
  rw [if_neg (by omega), show (256 + i) / 64 = 4 by omega]
  rfl
theorem oc_320 {i : Nat} (h : i < 64) : oc (256 + i + 64) = 5 := by
  unfold oc
  rw [if_neg (by omega), show (256 + i + 64) / 64 = 5 by omega]
  rfl
theorem oc_384 {i : Nat} (h : i < 64) : oc (384 + i) = 0 := by
  unfold oc
  rw [if_neg (by omega), show (384 + i) / 64 = 6 by omega]
  rfl
theorem oc_448 {i : Nat} (h : i < 64) : oc (384 + i + 64) = 0 := by
  unfold oc
  rw [if_neg (by omega), show (384 + i + 64) / 64 = 7 by omega]
  rfl
theorem oc_512 {i : Nat} (h : i < 64) : oc (512 + i) = 1 := by
  unfold oc
  rw [if_neg (by omega), show (512 + i) / 64 = 8 by omega]
  rfl
theorem oc_576 {i : Nat} (h : i < 64) : oc (512 + i + 64) = 1 := by
  unfold oc
  rw [if_neg (by omega), show (512 + i + 64) / 64 = 9 by omega]
  rfl
def yTab : Nat → List (Nat × Nat × Nat)
  | 0 => [(9, 0, 32)]
  | 2 => [(0, 0, 8), (1, 2, 8), (2, 0, 8), (4, 4, 12), (7, 0, 64), (8, 0, 60), (9, 0, 60), (10, 0, 60), (11, 0, 60)]
  | 3 => [(5, 0, 4), (6, 0, 4)]
  | 4 => [(0, 0, 60), (2, 0, 60), (4, 2, 61)]
  | 6 => [(19, 0, 8)]
  | 7 => [(0, 0, 8), (1, 0, 8), (3, 1, 8), (4, 1, 256)]
  | 8 => [(2, 0, 26), (3, 0, 12), (4, 0, 12), (5, 0, 12), (6, 0, 720), (7, 0, 60)]
  | 9 => [(2, 0, 120), (3, 0, 120), (4, 0, 120), (5, 0, 120), (6, 0, 120), (7, 0, 120), (8, 0, 120)]
  | 10 => [(4, 5, 8), (6, 6, 8), (8, 7, 30), (10, 0, 30), (11, 8, 24)]
  | 11 => [(4, 1, 41), (5, 0, 100), (7, 0, 32)]
  | 12 => [(0, 0, 8), (2, 0, 12), (3, 0, 12), (4, 0, 12), (5, 0, 12), (6, 0, 48), (7, 0, 48), (8, 0, 12), (10, 0, 64), (11, 0, 60), (12, 0, 60), (13, 0, 60), (14, 0, 60), (16, 0, 8), (17, 0, 8), (18, 0, 8), (19, 0, 8), (20, 2, 8), (23, 0, 30), (24, 0, 30), (25, 0, 30), (26, 0, 30), (27, 0, 30), (29, 0, 24), (30, 0, 24), (31, 0, 24), (32, 0, 24), (37, 3, 1920), (38, 0, 32), (39, 0, 32), (40, 0, 32), (43, 3, 100), (45, 0, 64), (48, 0, 2305), (49, 0, 2305), (56, 0, 10), (58, 0, 8), (60, 0, 8), (61, 0, 8)]
  | 13 => [(0, 0, 6)]
  | 14 => [(2, 0, 26), (3, 0, 20), (4, 0, 20), (5, 0, 20), (6, 0, 1200), (7, 0, 60)]
  | _ => []
def yRow (c k : Nat) : Option (Nat × Nat) := match (yTab c).find? (fun q => q.1 == k) with
  | some q => some q.2
  | none => none
def yBase (t : Nat) : Nat := [0, 0, 0, 0, 64, 128, 256, 384, 512].getD t 0
def yNu (T : yT) (f : Int32) (id : Nat) : Value := if f = 1 then .ref (T.2.1 id 0) else .null
def yStr (ev : xEv) (t : Int32) : Value := if t = 1 then .ref (ev.2.1 0) else if t = 2 then .ref (ev.2.1 1) else .null
def yByt (T : yT) (t : Int32) : Value := if t = 1 then .ref (T.2.1 8 44) else if t = 2 then .ref (T.2.1 8 38) else .null
def yFl (ev : xEv) (T : yT) (I : Nat → Int32) (o : Nat) : Nat → List Value
  | 0 => [.int (I 0), .int (I 1), .int (I 2), .int (I 3), .int (I 4), .int (I 5), .int (I 6), .int (I 7), .int (I 8), .ref (T.2.1 o 10), .int (I 10), yNu T (I 11) (o + 64)]
  | 1 => [.int (I 0), .int (I 1), .int (I 2), .int (I 3), .int (I 4), .int (I 5), .int (I 6), .int (I 7), .int (I 8), .int (I 9), yNu T (I 10) (o + 64)]
  | 2 => [.ref (T.2.1 o 1), .ref (T.2.1 o 2), .ref (T.2.1 o 3), .int (I 3), .ref (T.2.1 o 5), .int (I 5), .int (I 6), .ref (T.2.1 o 8), .ref (T.2.1 o 9), .ref (T.2.1 o 10), .ref (T.2.1 o 11), .ref (T.2.1 o 12)]
  | 3 => [.int (I 0), .int (I 1), .int (I 2), .int (I 3), .int (I 4), .ref (T.2.1 o 6), .ref (T.2.1 o 7)]
  | 4 => [.ref (T.2.1 o 1), .int (I 1), .ref (T.2.1 o 3), .int (I 3), .ref (T.2.1 o 5), .int (I 5), .int (I 6), .int (I 7), .int (I 8), .int (I 9)]
  | 5 => [.int (I 0), .int (I 1), .int (I 2), .int (I 3), yNu T (I 4) (o + 64)]
  | 6 => [.int (I 0), .int (I 1), .int (I 2), .int (I 3), .int (I 4), .int (I 5), .int (I 6), .int (I 7), .int (I 8), .int (I 9), .int (I 10), .int (I 11), .int (I 12), .int (I 13), .int (I 14), .int (I 15), .int (I 16), .int (I 17), .int (I 18), .ref (T.2.1 o 20), yNu T (I 20) (o + 64)]
  | 7 => [.ref (T.2.1 o 1), .ref (T.2.1 o 2), .int (I 2), .ref (T.2.1 o 4), .ref (T.2.1 o 5)]
  | 8 => [.int (I 0), .int (I 1), .ref (T.2.1 o 3), .ref (T.2.1 o 4), .ref (T.2.1 o 5), .ref (T.2.1 o 6), .ref (T.2.1 o 7), .ref (T.2.1 o 8)]
  | 9 => [.int (I 0), .int (I 1), .ref (T.2.1 o 3), .ref (T.2.1 o 4), .ref (T.2.1 o 5), .ref (T.2.1 o 6), .ref (T.2.1 o 7), .ref (T.2.1 o 8), .ref (T.2.1 o 9)]
  | 10 => [.ref (T.2.1 1 0), .ref (T.2.1 3 0), .ref (T.2.1 4 0), .ref (T.2.1 5 0), .ref (T.2.1 o 5), .int (I 5), .ref (T.2.1 o 7), .int (I 7), .ref (T.2.1 o 9), .int (I 9), .ref (T.2.1 o 11), .ref (T.2.1 o 12), .int (I 12), .int (I 13), .int (I 14), .int (I 15), .int (I 16), .int (I 17), .int (I 18), .int (I 19)]
  | 11 => [.ref (T.2.1 1 0), .ref (T.2.1 2 0), .ref (T.2.1 6 0), .ref (T.2.1 7 0), .ref (T.2.1 o 5), .ref (T.2.1 o 6), .int (I 6), .ref (T.2.1 o 8), .int (I 8)]
  | 12 => [.ref (T.2.1 o 1), .int (I 1), .ref (T.2.1 o 3), .ref (T.2.1 o 4), .ref (T.2.1 o 5), .ref (T.2.1 o 6), .ref (T.2.1 o 7), .ref (T.2.1 o 8), .ref (T.2.1 o 9), .int (I 9), .ref (T.2.1 o 11), .ref (T.2.1 o 12), .ref (T.2.1 o 13), .ref (T.2.1 o 14), .ref (T.2.1 o 15), .int (I 15), .ref (T.2.1 o 17), .ref (T.2.1 o 18), .ref (T.2.1 o 19), .ref (T.2.1 o 20), .ref (T.2.1 o 21), .int (I 21), .int (I 22), .ref (T.2.1 o 24), .ref (T.2.1 o 25), .ref (T.2.1 o 26), .ref (T.2.1 o 27), .ref (T.2.1 o 28), .int (I 28), .ref (T.2.1 o 30), .ref (T.2.1 o 31), .ref (T.2.1 o 32), .ref (T.2.1 o 33), .int (I 33), .int (I 34), .int (I 35), .int (I 36), .ref (T.2.1 o 38), .ref (T.2.1 o 39), .ref (T.2.1 o 40), .ref (T.2.1 o 41), .int (I 41), .int (I 42), .ref (T.2.1 o 44), .int (I 44), .ref (T.2.1 o 46), .int (I 46), .int (I 47), .ref (T.2.1 o 49), .ref (T.2.1 o 50), yByt T (I 50), .int (I 51), .int (I 52), .int (I 53), .int (I 54), yStr ev (I 55), .ref (T.2.1 o 57), .int (I 57), .ref (T.2.1 o 59), .int (I 59), .ref (T.2.1 o 61), .ref (T.2.1 o 62), .int (I 62), .int (I 63)]
  | _ => []
def yCon (T : yT) (t : Nat) (A : Nat → Int32) (L : Nat → Int64) : (Nat → Int32) ⊕ (Nat → Int64) ⊕ (Nat → UInt32) ⊕ (Nat → UInt64) ⊕ (Nat → Option Nat) := if t = 1 then .inr (.inl L) else if t < 4 then .inl A else .inr (.inr (.inr (.inr (fun i => if A i = 1 then some (T.2.1 (yBase t + i) 0) else none))))
def yCell (ev : xEv) (T : yT) (S : yS) (o : Nat) : Nat → Option va_E
  | 0 => if oc o = 13 ∨ oc o = 15 then none else some (.inr (occ (oc o), yFl ev T (S.1 o) o (occ (oc o))))
  | k + 1 => match yRow (oc o) k with
    | some q => some (.inl (ev.1 q.1, q.2, yCon T q.1 (S.2.1 o k) (S.2.2 o k)))
    | none => none
def yHas (o : Nat) : Nat → Prop
  | 0 => ¬ (oc o = 13 ∨ oc o = 15)
  | k + 1 => (yRow (oc o) k).isSome = true
theorem yHas_of {ev : xEv} {T : yT} {S : yS} {o j : Nat} {z : va_E} (h : yCell ev T S o j = some z) : yHas o j := by
  cases j with
  | zero =>
    intro hc
    simp only [yCell, if_pos hc] at h
    cases h
  | succ k =>
    simp only [yCell] at h
    simp only [yHas]
    split at h
    · next q hq => rw [hq]; rfl
    · cases h
def yKs : Nat → Nat
  | 0 => 11
  | 1 => 10
  | 5 => 4
  | 6 => 20
  | _ => 99
def yAt (T : yT) (c o j a : Nat) : Prop := T.1 o = true ∧ oc o = c ∧ T.2.1 o j = a
def yRf (S : yS) (o : Nat) : Int32 := if o / 64 = 1 then S.2.1 1 4 (o - 64) else if o / 64 = 2 then S.2.1 2 4 (o - 128) else if o / 64 = 3 then S.1 (o - 64) 20 else if o / 64 = 4 then S.2.1 2 6 (o - 256) else if o / 64 = 5 then S.1 (o - 64) 4 else if o / 64 = 6 then S.2.1 2 8 (o - 384) else if o / 64 = 7 then S.1 (o - 64) 11 else if o / 64 = 8 then S.2.1 2 11 (o - 512) else if o / 64 = 9 then S.1 (o - 64) 10 else 0
def cR (rt : List Nat) (F : xH) (ev : xEv) (T : yT) (S : yS) (hp : xH) : Prop :=
  (∀ o ∈ rt, T.1 o = true) ∧
  (∀ o j z, T.1 o = true → yCell ev T S o j = some z → hp (T.2.1 o j) = some z) ∧
  (∀ o j o' j', T.1 o = true → T.1 o' = true → yHas o j → yHas o' j' → T.2.1 o j = T.2.1 o' j' → o = o' ∧ j = j') ∧
  (∀ o j, T.1 o = true → yHas o j → F (T.2.1 o j) = none ∧ T.2.1 o j < T.2.2.1) ∧
  (∀ a z, F a = some z → hp a = some z ∧ a < T.2.2.1) ∧
  (∀ o k q i, T.1 o = true → yRow (oc o) k = some q → 4 ≤ q.1 → S.2.1 o k i = 1 → T.1 (yBase q.1 + i) = true) ∧
  (∀ o, T.1 o = true → S.1 o (yKs (oc o)) = 1 → T.1 (o + 64) = true ∧ oc (o + 64) = oc o) ∧
  (∀ o, T.1 o = true → 64 ≤ o → yRf S o = 1 ∨ o = T.2.2.2) ∧
  (∀ o, T.1 o = true → o < 640)
section CR
variable {rt : List Nat} {F : xH} {ev : xEv} {T : yT} {S : yS} {hp : xH} {c o j a k : Nat}
theorem cR.root (h : cR rt F ev T S hp) (c : Nat) {o : Nat} (j : Nat) {a : Nat} (ho : o ∈ rt) (hc : oc o = c) (ha : T.2.1 o j = a) : yAt T c o j a := ⟨h.1 o ho, hc, ha⟩
theorem yAt.row (h : yAt T c o j a) {j' a' : Nat} (ha : T.2.1 o j' = a') : yAt T c o j' a' := ⟨h.1, h.2.1, ha⟩
theorem cR.obj (h : cR rt F ev T S hp) (ha : yAt T c o 0 a) (hc : Nat.beq c 13 = false ∧ Nat.beq c 15 = false) : hp a = some (.inr (occ c, yFl ev T (S.1 o) o (occ c))) := by
  obtain ⟨h1, h2, h3⟩ := ha
  rw [← h3]
  refine h.2.1 o 0 _ h1 ?_
  simp only [yCell, h2]
  rw [if_neg]
  intro q
  rcases q with q | q <;> subst q
  · exact absurd hc.1 (by decide)
  · exact absurd hc.2 (by decide)
theorem cR.arr (h : cR rt F ev T S hp) (ha : yAt T c o (k + 1) a) {q : Nat × Nat} (hq : yRow c k = some q) : hp a = some (.inl (ev.1 q.1, q.2, yCon T q.1 (S.2.1 o k) (S.2.2 o k))) := by
  obtain ⟨h1, h2, h3⟩ := ha
  rw [← h3]
  refine h.2.1 o (k + 1) _ h1 ?_
  simp only [yCell, h2, hq]
theorem cR.refd (h : cR rt F ev T S hp) (ha : yAt T c o (k + 1) a) {q : Nat × Nat} (hq : yRow c k = some q) (h4 : 4 ≤ q.1) {i : Nat} (hi : S.2.1 o k i = 1) : T.1 (yBase q.1 + i) = true := h.2.2.2.2.2.1 o k q i ha.1 (by rw [ha.2.1]; exact hq) h4 hi
theorem cR.kept (h : cR rt F ev T S hp) (ha : yAt T c o j a) (hi : S.1 o (yKs c) = 1) : T.1 (o + 64) = true ∧ oc (o + 64) = c := by
  have := h.2.2.2.2.2.2.1 o ha.1 (by rw [ha.2.1]; exact hi)
  rw [ha.2.1] at this
  exact this
theorem cR.put (h : cR rt F ev T S hp) {S' : yS} {z : va_E} (ha : yAt T c o j a) (hz : yCell ev T S' o j = some z)
    (ho : ∀ o' j', T.1 o' = true → (o' ≠ o ∨ j' ≠ j) → yCell ev T S' o' j' = yCell ev T S o' j')
    (h6 : ∀ o k q i, T.1 o = true → yRow (oc o) k = some q → 4 ≤ q.1 → S'.2.1 o k i = 1 → T.1 (yBase q.1 + i) = true)
    (h7 : ∀ o, T.1 o = true → S'.1 o (yKs (oc o)) = 1 → T.1 (o + 64) = true ∧ oc (o + 64) = oc o) (h8 : ∀ o, T.1 o = true → 64 ≤ o → yRf S' o = 1 ∨ o = T.2.2.2) : cR rt F ev T S' (xU hp a z) := by
  obtain ⟨g1, g2, g3, g4, g5, g6, g7, g8, g9⟩ := h
  obtain ⟨a1, a2, a3⟩ := ha
  refine ⟨g1, fun o' j' z' h1 h2 => ?_, g3, g4, fun a' z' h1 => ?_, h6, h7, h8, g9⟩
  · by_cases e : o' = o ∧ j' = j
    · obtain ⟨rfl, rfl⟩ := e
      rw [hz] at h2
      cases h2
      rw [a3, xU_same]
    · have e2 : o' ≠ o ∨ j' ≠ j := by
        by_cases e3 : o' = o
        · exact Or.inr (fun e4 => e ⟨e3, e4⟩)
        · exact Or.inl e3
      rw [ho o' j' h1 e2] at h2
      rw [xU_other _ _ (fun e5 => e (g3 o' j' o j h1 a1 (yHas_of h2) (yHas_of hz) (e5.trans a3.symm)))]
      exact g2 o' j' z' h1 h2
  · have h3 := (g4 o j a1 (yHas_of hz)).1
    rw [xU_other]
    · exact g5 a' z' h1
    · intro e
      rw [e, ← a3, h3] at h1
      cases h1
end CR
def yI (S : yS) (o k : Nat) (v : Int32) : yS := (fun o' k' => if o' = o ∧ k' = k then v else S.1 o' k', S.2)
def yA (S : yS) (o k : Nat) (f : Nat → Int32) : yS := (S.1, fun o' k' => if o' = o ∧ k' = k then f else S.2.1 o' k', S.2.2)
def yJ (S : yS) (o k : Nat) (f : Nat → Int64) : yS := (S.1, S.2.1, fun o' k' => if o' = o ∧ k' = k then f else S.2.2 o' k')
def yUp (I : Nat → Int32) (k : Nat) (v : Int32) : Nat → Int32 := fun k' => if k' = k then v else I k'
theorem yI_same (S : yS) (o k : Nat) (v : Int32) : (yI S o k v).1 o = yUp (S.1 o) k v := by
  funext k'
  by_cases h : k' = k <;> simp [yI, yUp, h]
theorem yI_other (S : yS) {o o' : Nat} (k : Nat) (v : Int32) (h : o' ≠ o) : (yI S o k v).1 o' = S.1 o' := by
  funext k'
  simp [yI, h]
theorem yA_same (S : yS) (o k : Nat) (f : Nat → Int32) : (yA S o k f).2.1 o k = f := by simp [yA]
theorem yJ_same (S : yS) (o k : Nat) (f : Nat → Int64) : (yJ S o k f).2.2 o k = f := by simp [yJ]
theorem yRf_I (S : yS) (o k : Nat) (v : Int32) (o' : Nat) (h64 : 64 ≤ o') : yRf (yI S o k v) o' = yRf S o' ∨ (k = yKs (oc o) ∧ yRf (yI S o k v) o' = v) := by
  have key : ∀ (x y : Nat), (∀ i, i < 64 → oc (y + i) = x) → ∀ s, yKs x = s → y ≤ o' - 64 → o' - 64 < y + 64 → (yI S o k v).1 (o' - 64) s = S.1 (o' - 64) s ∨ (k = yKs (oc o) ∧ (yI S o k v).1 (o' - 64) s = v) := by
    intro x y hx s hs h1 h2
    by_cases e : o' - 64 = o ∧ s = k
    · right
      refine ⟨?_, by simp only [yI, if_pos e]⟩
      have h3 := hx (o' - 64 - y) (by omega)
      rw [show y + (o' - 64 - y) = o' - 64 by omega] at h3
      rw [← e.2, ← e.1, h3, hs]
    · left
      simp only [yI, if_neg e]
  unfold yRf
  by_cases c1 : o' / 64 = 1
  · simp only [if_pos c1]; exact Or.inl rfl
  by_cases c2 : o' / 64 = 2
  · simp only [if_neg c1, if_pos c2]; exact Or.inl rfl
  by_cases c3 : o' / 64 = 3
  · simp only [if_neg c1, if_neg c2, if_pos c3]; exact key 6 128 (fun i hi => oc_128 hi) 20 rfl (by omega) (by omega)
  by_cases c4 : o' / 64 = 4
  · simp only [if_neg c1, if_neg c2, if_neg c3, if_pos c4]; exact Or.inl rfl
  by_cases c5 : o' / 64 = 5
  · simp only [if_neg c1, if_neg c2, if_neg c3, if_neg c4, if_pos c5]; exact key 5 256 (fun i hi => oc_256 hi) 4 rfl (by omega) (by omega)
  by_cases c6 : o' / 64 = 6
  · simp only [if_neg c1, if_neg c2, if_neg c3, if_neg c4, if_neg c5, if_pos c6]; exact Or.inl rfl
  by_cases c7 : o' / 64 = 7
  · simp only [if_neg c1, if_neg c2, if_neg c3, if_neg c4, if_neg c5, if_neg c6, if_pos c7]; exact key 0 384 (fun i hi => oc_384 hi) 11 rfl (by omega) (by omega)
  by_cases c8 : o' / 64 = 8
  · simp only [if_neg c1, if_neg c2, if_neg c3, if_neg c4, if_neg c5, if_neg c6, if_neg c7, if_pos c8]; exact Or.inl rfl
  by_cases c9 : o' / 64 = 9
  · simp only [if_neg c1, if_neg c2, if_neg c3, if_neg c4, if_neg c5, if_neg c6, if_neg c7, if_neg c8, if_pos c9]; exact key 1 512 (fun i hi => oc_512 hi) 10 rfl (by omega) (by omega)
  simp only [if_neg c1, if_neg c2, if_neg c3, if_neg c4, if_neg c5, if_neg c6, if_neg c7, if_neg c8, if_neg c9]
  exact Or.inl (by first | rfl | trivial)
theorem yRf_A {S : yS} {o k : Nat} {f : Nat → Int32} {o' : Nat} (h : ∀ q, yRow (oc o) k = some q → ¬ 4 ≤ q.1) : yRf (yA S o k f) o' = yRf S o' := by
  have key : ∀ (x s i : Nat) (q : Nat × Nat), yRow (oc x) s = some q → 4 ≤ q.1 → (yA S o k f).2.1 x s i = S.2.1 x s i := by
    intro x s i q h1 h2
    have e : ¬ (x = o ∧ s = k) := fun e => by
      obtain ⟨rfl, rfl⟩ := e
      exact h q h1 h2
    simp only [yA, if_neg e]
  unfold yRf
  rw [key 1 4 _ (4, 12) rfl (by decide), key 2 4 _ (5, 8) rfl (by decide), key 2 6 _ (6, 8) rfl (by decide), key 2 8 _ (7, 30) rfl (by decide), key 2 11 _ (8, 24) rfl (by decide)]
  rfl
theorem yRf_up (S : yS) (o k i o' : Nat) (h : yRf S o' = 1) : yRf (yA S o k (upd (S.2.1 o k) i 1)) o' = 1 := by
  have key : ∀ (x s j : Nat), S.2.1 x s j = 1 → (yA S o k (upd (S.2.1 o k) i 1)).2.1 x s j = 1 := by
    intro x s j h1
    simp only [yA]
    split
    · next e =>
      obtain ⟨rfl, rfl⟩ := e
      unfold upd
      split
      · rfl
      · exact h1
    · exact h1
  have key2 : ∀ (x s : Nat), (yA S o k (upd (S.2.1 o k) i 1)).1 x s = S.1 x s := fun _ _ => rfl
  unfold yRf at h ⊢
  repeat' split
  all_goals simp_all
section CR2
variable {rt : List Nat} {F : xH} {ev : xEv} {T : yT} {S : yS} {hp : xH} {c o j a k : Nat}
theorem cR.putI (h : cR rt F ev T S hp) (ha : yAt T c o 0 a) {k : Nat} {v : Int32} {w : Value} (hc : Nat.beq c 13 = false ∧ Nat.beq c 15 = false) (hs : ∀ I, yFl ev T (yUp I k v) o (occ c) = (yFl ev T I o (occ c)).set k w) (hk : k = yKs c → v = 1 ∧ T.1 (o + 64) = true ∧ oc (o + 64) = c) : cR rt F ev T (yI S o k v) (xU hp a (.inr (occ c, (yFl ev T (S.1 o) o (occ c)).set k w))) := by
  have h0 := h
  obtain ⟨g1, g2, g3, g4, g5, g6, g7, g8, g9⟩ := h
  have ha0 := ha
  obtain ⟨a1, a2, a3⟩ := ha
  refine h0.put ha0 ?_ ?_ g6 ?_ (fun o' h1 h2 => ?_)
  · simp only [yCell, a2]
    rw [if_neg, yI_same, hs]
    intro q
    rcases q with q | q <;> subst q
    · exact absurd hc.1 (by decide)
    · exact absurd hc.2 (by decide)
  · intro o' j' h1 h2
    by_cases e : o' = o
    · subst e
      cases j' with
      | zero => exact absurd rfl (h2.resolve_left (fun q => q rfl))
      | succ n => rfl
    · cases j' with
      | zero => simp only [yCell, yI_other S k v e]
      | succ n => rfl
  · intro o' h1 h2
    by_cases e : o' = o
    · subst e
      rw [yI_same] at h2
      unfold yUp at h2
      split at h2
      · next e2 => rw [a2]; exact (hk (by rw [← e2, a2])).2
      · exact g7 o' h1 h2
    · rw [yI_other S k v e] at h2
      exact g7 o' h1 h2
  · rcases yRf_I S o k v o' h2 with e | ⟨e1, e2⟩
    · rw [e]; exact g8 o' h1 h2
    · left
      rw [e2]
      exact (hk (by rw [e1, a2])).1
theorem cR.putA (h : cR rt F ev T S hp) (ha : yAt T c o (k + 1) a) {t n : Nat} (hq : yRow c k = some (t, n)) (ht : t = 0 ∨ t = 2 ∨ t = 3) (f : Nat → Int32) : cR rt F ev T (yA S o k f) (xU hp a (.inl (ev.1 t, n, .inl f))) := by
  have h0 := h
  obtain ⟨g1, g2, g3, g4, g5, g6, g7, g8, g9⟩ := h
  have ha0 := ha
  obtain ⟨a1, a2, a3⟩ := ha
  refine h0.put ha0 ?_ ?_ ?_ g7 (fun o' h1 h2 => by
    rw [yRf_A]
    · exact g8 o' h1 h2
    · rw [a2, hq]
      intro q hq2 h4
      cases hq2
      rcases ht with rfl | rfl | rfl <;> exact absurd h4 (by simp))
  · simp only [yCell, a2, hq, yA_same]
    rcases ht with rfl | rfl | rfl <;> rfl
  · intro o' j' h1 h2
    cases j' with
    | zero => rfl
    | succ n =>
      have e : ¬ (o' = o ∧ n = k) := fun e => by
        obtain ⟨rfl, rfl⟩ := e
        rcases h2 with h2 | h2 <;> exact h2 rfl
      simp only [yCell, yA, if_neg e]
  · intro o' k' q i h1 h2 h3 h4
    by_cases e : o' = o ∧ k' = k
    · obtain ⟨rfl, rfl⟩ := e
      rw [a2, hq] at h2
      cases h2
      rcases ht with rfl | rfl | rfl <;> exact absurd h3 (by simp)
    · simp only [yA, if_neg e] at h4
      exact g6 o' k' q i h1 h2 h3 h4
theorem cR.putJ (h : cR rt F ev T S hp) (ha : yAt T c o (k + 1) a) {n : Nat} (hq : yRow c k = some (1, n)) (f : Nat → Int64) : cR rt F ev T (yJ S o k f) (xU hp a (.inl (ev.1 1, n, .inr (.inl f)))) := by
  have h0 := h
  obtain ⟨g1, g2, g3, g4, g5, g6, g7, g8, g9⟩ := h
  have ha0 := ha
  obtain ⟨a1, a2, a3⟩ := ha
  refine h0.put ha0 ?_ ?_ ?_ g7 (fun o' h1 h2 => g8 o' h1 h2)
  · simp only [yCell, a2, hq, yJ_same]
    rfl
  · intro o' j' h1 h2
    cases j' with
    | zero => rfl
    | succ n =>
      have e : ¬ (o' = o ∧ n = k) := fun e => by
        obtain ⟨rfl, rfl⟩ := e
        rcases h2 with h2 | h2 <;> exact h2 rfl
      simp only [yCell, yJ, if_neg e]
  · exact g6
theorem cR.putR (h : cR rt F ev T S hp) (ha : yAt T c o (k + 1) a) {t n : Nat} (hq : yRow c k = some (t, n)) (ht : 4 ≤ t) {i v c2 : Nat} (hv : yAt T c2 (yBase t + i) 0 v) : cR rt F ev T (yA S o k (upd (S.2.1 o k) i 1)) (xU hp a (.inl (ev.1 t, n, .inr (.inr (.inr (.inr (va_up (fun i => if S.2.1 o k i = 1 then some (T.2.1 (yBase t + i) 0) else none) i (some v)))))))) := by
  have h0 := h
  obtain ⟨g1, g2, g3, g4, g5, g6, g7, g8, g9⟩ := h
  have ha0 := ha
  obtain ⟨a1, a2, a3⟩ := ha
  refine h0.put ha0 ?_ ?_ ?_ g7 (fun o' h1 h2 => (g8 o' h1 h2).imp (yRf_up S o k i o') (fun e => e))
  · simp only [yCell, a2, hq, yA_same, yCon]
    rw [if_neg (by omega), if_neg (by omega)]
    have e : (fun i_1 => if upd (S.2.1 o k) i 1 i_1 = 1 then some (T.2.1 (yBase t + i_1) 0) else none) = va_up (fun i => if S.2.1 o k i = 1 then some (T.2.1 (yBase t + i) 0) else none) i (some v) := by
      funext x
      unfold upd va_up
      by_cases hx : x = i
      · subst hx
        simp only [if_true]
        rw [hv.2.2]
      · simp only [if_neg hx]
    rw [e]
  · intro o' j' h1 h2
    cases j' with
    | zero => rfl
    | succ n =>
      have e : ¬ (o' = o ∧ n = k) := fun e => by
        obtain ⟨rfl, rfl⟩ := e
        rcases h2 with h2 | h2 <;> exact h2 rfl
      simp only [yCell, yA, if_neg e]
  · intro o' k' q i' h1 h2 h3 h4
    by_cases e : o' = o ∧ k' = k
    · obtain ⟨rfl, rfl⟩ := e
      rw [a2, hq] at h2
      cases h2
      rw [yA_same] at h4
      unfold upd at h4
      split at h4
      · next e2 => rw [e2]; exact hv.1
      · exact g6 o' k' _ i' h1 (by rw [a2]; exact hq) h3 h4
    · simp only [yA, if_neg e] at h4
      exact g6 o' k' q i' h1 h2 h3 h4
end CR2
def yWE (str : Nat → Nat) (fs : Nat → xS → xS → Prop) (call : xRel) (code : List (Nat × xEn)) (σ : xS) (r : xR ⊕ xS → Prop) : Prop := (∃ n q, xrun str fs call code n σ q ∧ r (.inl q)) ∨ ∃ n q, xrch str fs call code n σ q ∧ r (.inr q)
section YE
variable {str : Nat → Nat} {fs : Nat → xS → xS → Prop} {call : xRel} {code : List (Nat × xEn)} {pc : Nat} {lv : xLv} {st : List Value} {hp : xH} {sz sl : Nat} {r : xR ⊕ xS → Prop}
theorem ye_op {op : xS → Option xS} {σ' : xS} (hm : xfind code pc = some (.inl op)) (ho : op (pc, lv, st, hp, sz, sl) = some σ') (h : yWE str fs call code σ' r) : yWE str fs call code (pc, lv, st, hp, sz, sl) r := by
  rcases h with ⟨n, q, hn, hr⟩ | ⟨n, q, hn, hr⟩
  · exact Or.inl ⟨n + 1, q, Or.inl ⟨op, σ', xfind_mem hm, ho, hn⟩, hr⟩
  · exact Or.inr ⟨n + 1, q, Or.inl ⟨op, σ', xfind_mem hm, ho, hn⟩, hr⟩
theorem ye_p {f : xF} {pc' : Nat} {lv' : xLv} {st' : List Value} (hm : xfind code pc = some (.inl (xop f))) (ho : f pc lv st hp = some (pc', lv', st')) (h : yWE str fs call code (pc', lv', st', hp, sz, sl) r) : yWE str fs call code (pc, lv, st, hp, sz, sl) r :=
  ye_op hm (by simp only [xop, ho]) h
theorem ye_callV {j k ci b : Nat} {As rest fl : List Value} {rv : Option Value} {hp' : xH} {sz' sl' : Nat} (kind : Nat) (hk : kind = 0 ∨ kind = 2) (hm : xfind code pc = some (.inr (.inl (kind, j, k, ci)))) (hA : As.length = k) (hst : st = As.reverse ++ .ref b :: rest) (hs : (rest.map fun v => v.category).sum ≤ 8) (hb : hp b = some (.inr (ci, fl))) (hc : call j (.ref b :: As) hp sz (rv, hp', sz', sl')) (h : yWE str fs call code (pc + 3, lv, rv.toList ++ rest, hp', sz', sl + sl') r) : yWE str fs call code (pc, lv, st, hp, sz, sl) r := by
  have hk4 : kind ≠ 4 := by rcases hk with h | h <;> rw [h] <;> decide
  rcases h with ⟨n, q, hn, hr⟩ | ⟨n, q, hn, hr⟩
  · exact Or.inl ⟨n + 1, q, Or.inr (Or.inl ⟨kind, j, k, ci, b, As, rest, fl, rv, hp', sz', sl', xfind_mem hm, hk.imp (fun h => h) Or.inl, hA, hst, hs, Or.inl ⟨hk4, hb⟩, hc, hn⟩), hr⟩
  · exact Or.inr ⟨n + 1, q, Or.inr (Or.inl ⟨kind, j, k, ci, b, As, rest, fl, rv, hp', sz', sl', xfind_mem hm, hk.imp (fun h => h) Or.inl, hA, hst, hs, Or.inl ⟨hk4, hb⟩, hc, hn⟩), hr⟩
theorem ye_callT {j k i : Nat} {As rest : List Value} {rv : Option Value} {hp' : xH} {sz' sl' : Nat} (hm : xfind code pc = some (.inr (.inl (4, j, k, 99)))) (hi : i < 4) (hA : As.length = k) (hst : st = As.reverse ++ .ref (str i) :: rest) (hs : (rest.map fun v => v.category).sum ≤ 8) (hc : call j (.ref (str i) :: As) hp sz (rv, hp', sz', sl')) (h : yWE str fs call code (pc + 3, lv, rv.toList ++ rest, hp', sz', sl + sl') r) : yWE str fs call code (pc, lv, st, hp, sz, sl) r := by
  rcases h with ⟨n, q, hn, hr⟩ | ⟨n, q, hn, hr⟩
  · exact Or.inl ⟨n + 1, q, Or.inr (Or.inl ⟨4, j, k, 99, str i, As, rest, [], rv, hp', sz', sl', xfind_mem hm, Or.inr (Or.inr rfl), hA, hst, hs, Or.inr ⟨rfl, i, hi, rfl⟩, hc, hn⟩), hr⟩
  · exact Or.inr ⟨n + 1, q, Or.inr (Or.inl ⟨4, j, k, 99, str i, As, rest, [], rv, hp', sz', sl', xfind_mem hm, Or.inr (Or.inr rfl), hA, hst, hs, Or.inr ⟨rfl, i, hi, rfl⟩, hc, hn⟩), hr⟩
theorem ye_callS {j k ci : Nat} {As rest : List Value} {rv : Option Value} {hp' : xH} {sz' sl' : Nat} (kind : Nat) (hk : kind = 1 ∨ kind = 3) (hm : xfind code pc = some (.inr (.inl (kind, j, k, ci)))) (hA : As.length = k) (hst : st = As.reverse ++ rest) (hs : (rest.map fun v => v.category).sum ≤ 8) (hc : call j As hp sz (rv, hp', sz', sl')) (h : yWE str fs call code (pc + 3, lv, rv.toList ++ rest, hp', sz', sl + sl') r) : yWE str fs call code (pc, lv, st, hp, sz, sl) r := by
  rcases h with ⟨n, q, hn, hr⟩ | ⟨n, q, hn, hr⟩
  · exact Or.inl ⟨n + 1, q, Or.inr (Or.inr (Or.inl ⟨kind, j, k, ci, As, rest, rv, hp', sz', sl', xfind_mem hm, hk, hA, hst, hs, hc, hn⟩)), hr⟩
  · exact Or.inr ⟨n + 1, q, Or.inr (Or.inr (Or.inl ⟨kind, j, k, ci, As, rest, rv, hp', sz', sl', xfind_mem hm, hk, hA, hst, hs, hc, hn⟩)), hr⟩
theorem ye_fs {j k ci : Nat} {σ' : xS} (hm : xfind code pc = some (.inr (.inl (5, j, k, ci)))) (ho : fs j (pc, lv, st, hp, sz, sl) σ') (h : yWE str fs call code σ' r) : yWE str fs call code (pc, lv, st, hp, sz, sl) r := by
  rcases h with ⟨n, q, hn, hr⟩ | ⟨n, q, hn, hr⟩
  · exact Or.inl ⟨n + 1, q, Or.inr (Or.inr (Or.inr (Or.inr ⟨j, k, ci, σ', xfind_mem hm, ho, hn⟩))), hr⟩
  · exact Or.inr ⟨n + 1, q, Or.inr (Or.inr (Or.inr ⟨j, k, ci, σ', xfind_mem hm, ho, hn⟩)), hr⟩
theorem ye_ret {k : Nat} {rv : Option Value} (hm : xfind code pc = some (.inr (.inr k))) (hv : xretv k st = some rv) (h : r (.inl (rv, hp, sz, sl))) : yWE str fs call code (pc, lv, st, hp, sz, sl) r :=
  Or.inl ⟨1, (rv, hp, sz, sl), Or.inr (Or.inr (Or.inr (Or.inl ⟨k, rv, xfind_mem hm, hv, rfl⟩))), h⟩
theorem ye_getf {ci k a : Nat} {v : Value} {fl rest : List Value} (hm : xfind code pc = some (.inl (xop (xf_getf ci k)))) (ha : hp a = some (.inr (ci, fl))) (hv : fl[k]? = some v) (h : yWE str fs call code (pc + 3, lv, v :: rest, hp, sz, sl) r) : yWE str fs call code (pc, lv, .ref a :: rest, hp, sz, sl) r :=
  ye_op hm (by simp only [xop, xf_getf, ha, hv, if_true]) h
theorem ye_ald {cA : ClassId} {a n : Nat} {f : Nat → Int32} {i : Int32} {rest : List Value} (hm : xfind code pc = some (.inl (xop (xf_ald cA)))) (ha : hp a = some (.inl (cA, n, .inl f))) (hi : vp_in i n) (h : yWE str fs call code (pc + 1, lv, .int (f i.toNatClampNeg) :: rest, hp, sz, sl) r) : yWE str fs call code (pc, lv, .int i :: .ref a :: rest, hp, sz, sl) r :=
  ye_op hm (by
    have hi' : ¬ (i < 0 ∨ n ≤ i.toNatClampNeg) := hi
    simp only [xop, xf_ald, ha, if_true, if_neg hi']) h
theorem ye_lald {cA : ClassId} {a n : Nat} {f : Nat → Int64} {i : Int32} {rest : List Value} (hm : xfind code pc = some (.inl (xop (xf_lald cA)))) (ha : hp a = some (.inl (cA, n, .inr (.inl f)))) (hi : vp_in i n) (h : yWE str fs call code (pc + 1, lv, .long (f i.toNatClampNeg) :: rest, hp, sz, sl) r) : yWE str fs call code (pc, lv, .int i :: .ref a :: rest, hp, sz, sl) r :=
  ye_op hm (by
    have hi' : ¬ (i < 0 ∨ n ≤ i.toNatClampNeg) := hi
    simp only [xop, xf_lald, ha, if_true, if_neg hi']) h
theorem ye_aald {cA : ClassId} {a n : Nat} {f : Nat → Option Nat} {i : Int32} {rest : List Value} (hm : xfind code pc = some (.inl (xop (xf_aald cA)))) (ha : hp a = some (.inl (cA, n, .inr (.inr (.inr (.inr f)))))) (hi : vp_in i n) (h : yWE str fs call code (pc + 1, lv, va_rf (f i.toNatClampNeg) :: rest, hp, sz, sl) r) : yWE str fs call code (pc, lv, .int i :: .ref a :: rest, hp, sz, sl) r :=
  ye_op hm (by
    have hi' : ¬ (i < 0 ∨ n ≤ i.toNatClampNeg) := hi
    simp only [xop, xf_aald, ha, if_true, if_neg hi']) h
theorem ye_putf {ci k a : Nat} {ty : FieldType} {v : Value} {fl rest : List Value} (hm : xfind code pc = some (.inl (xo_putf ci k ty))) (ha : hp a = some (.inr (ci, fl))) (hk : k < fl.length) (hf : fits ty v = true) (hn : narrow ty v = v) (h : yWE str fs call code (pc + 3, lv, rest, xU hp a (.inr (ci, fl.set k v)), sz, sl) r) : yWE str fs call code (pc, lv, v :: .ref a :: rest, hp, sz, sl) r :=
  ye_op hm (by simp only [xo_putf, ha, hk, hf, hn, and_self, if_true]) h
theorem ye_ast {cA : ClassId} {g : Int32 → Int32} {a n : Nat} {f : Nat → Int32} {i x : Int32} {rest : List Value} (hm : xfind code pc = some (.inl (xo_ast cA g))) (ha : hp a = some (.inl (cA, n, .inl f))) (hi : vp_in i n) (h : yWE str fs call code (pc + 1, lv, rest, xU hp a (.inl (cA, n, .inl (upd f i.toNatClampNeg (g x)))), sz, sl) r) : yWE str fs call code (pc, lv, .int x :: .int i :: .ref a :: rest, hp, sz, sl) r :=
  ye_op hm (by
    have hi' : ¬ (i < 0 ∨ n ≤ i.toNatClampNeg) := hi
    simp only [xo_ast, ha, if_true, if_neg hi']) h
theorem ye_last {cA : ClassId} {a n : Nat} {f : Nat → Int64} {i : Int32} {x : Int64} {rest : List Value} (hm : xfind code pc = some (.inl (xo_last cA))) (ha : hp a = some (.inl (cA, n, .inr (.inl f)))) (hi : vp_in i n) (h : yWE str fs call code (pc + 1, lv, rest, xU hp a (.inl (cA, n, .inr (.inl (vp_updL f i.toNatClampNeg x)))), sz, sl) r) : yWE str fs call code (pc, lv, .long x :: .int i :: .ref a :: rest, hp, sz, sl) r :=
  ye_op hm (by
    have hi' : ¬ (i < 0 ∨ n ≤ i.toNatClampNeg) := hi
    simp only [xo_last, ha, if_true, if_neg hi']) h
theorem ye_if {c : Prop} (f : xF) (t e : Nat × xLv × List Value) (hm : xfind code pc = some (.inl (xop f))) (ht : c → f pc lv st hp = some t) (he : ¬ c → f pc lv st hp = some e) (h1 : c → yWE str fs call code (t.1, t.2.1, t.2.2, hp, sz, sl) r) (h2 : ¬ c → yWE str fs call code (e.1, e.2.1, e.2.2, hp, sz, sl) r) : yWE str fs call code (pc, lv, st, hp, sz, sl) r := by
  by_cases h : c
  · exact ye_op hm (by simp only [xop, ht h]) (h1 h)
  · exact ye_op hm (by simp only [xop, he h]) (h2 h)
theorem ye_stop (h : r (.inr (pc, lv, st, hp, sz, sl))) : yWE str fs call code (pc, lv, st, hp, sz, sl) r := Or.inr ⟨0, _, rfl, h⟩
theorem ye_getr {ci k a x : Nat} {fl rest : List Value} (hm : xfind code pc = some (.inl (xop (xf_getf ci k)))) (ha : hp a = some (.inr (ci, fl))) (hv : fl[k]? = some (.ref x)) (h : ∀ y, x = y → yWE str fs call code (pc + 3, lv, .ref y :: rest, hp, sz, sl) r) : yWE str fs call code (pc, lv, .ref a :: rest, hp, sz, sl) r :=
  ye_getf hm ha hv (h x rfl)
theorem ye_gNu {ci k a id : Nat} {T : yT} {x : Int32} {fl rest : List Value} (hm : xfind code pc = some (.inl (xop (xf_getf ci k)))) (ha : hp a = some (.inr (ci, fl))) (hv : fl[k]? = some (yNu T x id)) (hx : x = 1) (h : ∀ y, T.2.1 id 0 = y → yWE str fs call code (pc + 3, lv, .ref y :: rest, hp, sz, sl) r) : yWE str fs call code (pc, lv, .ref a :: rest, hp, sz, sl) r :=
  ye_getf hm ha (hv.trans (by rw [yNu, if_pos hx])) (h _ rfl)
theorem ye_ifnull {id tgt : Nat} {T : yT} {x : Int32} {rest : List Value} (hm : xfind code pc = some (.inl (xop (xf_ifnull tgt)))) (h1 : x = 1 → yWE str fs call code (pc + 3, lv, rest, hp, sz, sl) r) (h2 : ¬ x = 1 → yWE str fs call code (tgt, lv, rest, hp, sz, sl) r) : yWE str fs call code (pc, lv, yNu T x id :: rest, hp, sz, sl) r := by
  unfold yNu
  by_cases h : x = 1
  · rw [if_pos h]; exact ye_p hm rfl (h1 h)
  · rw [if_neg h]; exact ye_p hm rfl (h2 h)
theorem ye_ifnonnull {id tgt : Nat} {T : yT} {x : Int32} {rest : List Value} (hm : xfind code pc = some (.inl (xop (xf_ifnonnull tgt)))) (h1 : x = 1 → yWE str fs call code (tgt, lv, rest, hp, sz, sl) r) (h2 : ¬ x = 1 → yWE str fs call code (pc + 3, lv, rest, hp, sz, sl) r) : yWE str fs call code (pc, lv, yNu T x id :: rest, hp, sz, sl) r := by
  unfold yNu
  by_cases h : x = 1
  · rw [if_pos h]; exact ye_p hm rfl (h1 h)
  · rw [if_neg h]; exact ye_p hm rfl (h2 h)
theorem ye_aaldR {cA : ClassId} {a n t : Nat} {T : yT} {A : Nat → Int32} {i : Int32} {rest : List Value} (hm : xfind code pc = some (.inl (xop (xf_aald cA)))) (ha : hp a = some (.inl (cA, n, .inr (.inr (.inr (.inr (fun i => if A i = 1 then some (T.2.1 (yBase t + i) 0) else none))))))) (hi : vp_in i n) {j : Nat} (hj : i.toNatClampNeg = j) (hf : A j = 1) (h : ∀ y, T.2.1 (yBase t + j) 0 = y → yWE str fs call code (pc + 1, lv, .ref y :: rest, hp, sz, sl) r) : yWE str fs call code (pc, lv, .int i :: .ref a :: rest, hp, sz, sl) r :=
  ye_aald hm ha hi (by subst hj; rw [if_pos hf]; exact h _ rfl)
theorem ye_alen {cA : ClassId} {a n : Nat} {z : (Nat → Int32) ⊕ (Nat → Int64) ⊕ (Nat → UInt32) ⊕ (Nat → UInt64) ⊕ (Nat → Option Nat)} {rest : List Value} (hm : xfind code pc = some (.inl (xop (xf_alen cA)))) (ha : hp a = some (.inl (cA, n, z))) (h : yWE str fs call code (pc + 1, lv, .int (Int32.ofNat n) :: rest, hp, sz, sl) r) : yWE str fs call code (pc, lv, .ref a :: rest, hp, sz, sl) r :=
  ye_op hm (by simp only [xop, xf_alen, ha, if_true]) h
theorem ye_copy {cA : ClassId} {a b na nb : Nat} {f g : Nat → Int32} {sp dp n : Int32} {rest : List Value} (hm : xfind code pc = some (.inl (xo_copy cA))) (ha : hp a = some (.inl (cA, na, .inl f))) (hb : hp b = some (.inl (cA, nb, .inl g))) (hi : ¬ sp < 0 ∧ ¬ dp < 0 ∧ ¬ n < 0 ∧ sp.toNatClampNeg + n.toNatClampNeg ≤ na ∧ dp.toNatClampNeg + n.toNatClampNeg ≤ nb) (hs : (rest.map fun v => v.category).sum ≤ 8) (h : yWE str fs call code (pc + 3, lv, rest, xU hp b (.inl (cA, nb, .inl (va_cpy f g sp.toNatClampNeg dp.toNatClampNeg n.toNatClampNeg))), sz, sl) r) : yWE str fs call code (pc, lv, .int n :: .int dp :: .ref b :: .int sp :: .ref a :: rest, hp, sz, sl) r :=
  ye_op hm (by
    obtain ⟨i1, i2, i3, i4, i5⟩ := hi
    simp only [xo_copy, ha, hb]
    rw [if_pos ⟨trivial, trivial, i1, i2, i3, i4, i5, hs⟩]) h
theorem ye_laldP {a0 : Nat} {i : Int32} {rest : List Value} (hm : xfind code pc = some (.inl (xop (xf_laldP a0)))) (hi : vp_in i 8) {j : Nat} (hj : i.toNatClampNeg = j) (h : yWE str fs call code (pc + 1, lv, .long (xPl j) :: rest, hp, sz, sl) r) : yWE str fs call code (pc, lv, .int i :: .ref a0 :: rest, hp, sz, sl) r :=
  ye_op hm (by
    have hi' : ¬ (i < 0 ∨ 8 ≤ i.toNatClampNeg) := hi
    simp only [xop, xf_laldP, if_true, if_neg hi']
    rw [hj]) h
theorem yj_ald {cA : ClassId} {a n : Nat} {f : Nat → Int32} {i : Int32} {rest : List Value} (hm : xfind code pc = some (.inl (xop (xf_ald cA)))) (ha : hp a = some (.inl (cA, n, .inl f))) (hi : vp_in i n) {j : Nat} (hj : i.toNatClampNeg = j) (h : yWE str fs call code (pc + 1, lv, .int (f j) :: rest, hp, sz, sl) r) : yWE str fs call code (pc, lv, .int i :: .ref a :: rest, hp, sz, sl) r := ye_ald hm ha hi (by rw [hj]; exact h)
theorem yj_lald {cA : ClassId} {a n : Nat} {f : Nat → Int64} {i : Int32} {rest : List Value} (hm : xfind code pc = some (.inl (xop (xf_lald cA)))) (ha : hp a = some (.inl (cA, n, .inr (.inl f)))) (hi : vp_in i n) {j : Nat} (hj : i.toNatClampNeg = j) (h : yWE str fs call code (pc + 1, lv, .long (f j) :: rest, hp, sz, sl) r) : yWE str fs call code (pc, lv, .int i :: .ref a :: rest, hp, sz, sl) r := ye_lald hm ha hi (by rw [hj]; exact h)
theorem yj_ast {cA : ClassId} {g : Int32 → Int32} {a n : Nat} {f : Nat → Int32} {i x : Int32} {rest : List Value} (hm : xfind code pc = some (.inl (xo_ast cA g))) (ha : hp a = some (.inl (cA, n, .inl f))) (hi : vp_in i n) {j : Nat} (hj : i.toNatClampNeg = j) (h : yWE str fs call code (pc + 1, lv, rest, xU hp a (.inl (cA, n, .inl (upd f j (g x)))), sz, sl) r) : yWE str fs call code (pc, lv, .int x :: .int i :: .ref a :: rest, hp, sz, sl) r := ye_ast hm ha hi (by rw [hj]; exact h)
theorem yj_last {cA : ClassId} {a n : Nat} {f : Nat → Int64} {i : Int32} {x : Int64} {rest : List Value} (hm : xfind code pc = some (.inl (xo_last cA))) (ha : hp a = some (.inl (cA, n, .inr (.inl f)))) (hi : vp_in i n) {j : Nat} (hj : i.toNatClampNeg = j) (h : yWE str fs call code (pc + 1, lv, rest, xU hp a (.inl (cA, n, .inr (.inl (vp_updL f j x)))), sz, sl) r) : yWE str fs call code (pc, lv, .long x :: .int i :: .ref a :: rest, hp, sz, sl) r := ye_last hm ha hi (by rw [hj]; exact h)
theorem ye_aast {cA : ClassId} {ci a n v : Nat} {f : Nat → Option Nat} {fl : List Value} {i : Int32} {rest : List Value} (hm : xfind code pc = some (.inl (xo_aast cA ci))) (ha : hp a = some (.inl (cA, n, .inr (.inr (.inr (.inr f)))))) (hv : hp v = some (.inr (ci, fl))) (hi : vp_in i n) {j : Nat} (hj : i.toNatClampNeg = j) (h : yWE str fs call code (pc + 1, lv, rest, xU hp a (.inl (cA, n, .inr (.inr (.inr (.inr (va_up f j (some v))))))), sz, sl) r) : yWE str fs call code (pc, lv, .ref v :: .int i :: .ref a :: rest, hp, sz, sl) r :=
  ye_op hm (by
    have hi' : ¬ (i < 0 ∨ n ≤ i.toNatClampNeg) := hi
    simp only [xo_aast, ha, hv, and_self, if_true, if_neg hi']
    rw [hj]) h
theorem ye_sw {g : Int → Nat} {x : Int32} {t : Nat} {rest : List Value} (hm : xfind code pc = some (.inl (xop (xf_sw g)))) (hg : g x.toInt = t) (h : yWE str fs call code (t, lv, rest, hp, sz, sl) r) : yWE str fs call code (pc, lv, .int x :: rest, hp, sz, sl) r :=
  ye_p hm (by simp only [xf_sw, hg]) h
theorem ye_iload {i len : Nat} {x : Int32} (hm : xfind code pc = some (.inl (xop (xf_iload i len)))) (hg : xG lv i = some (.int x)) (h : yWE str fs call code (pc + len, lv, .int x :: st, hp, sz, sl) r) : yWE str fs call code (pc, lv, st, hp, sz, sl) r :=
  ye_p hm (by simp only [xf_iload, hg]) h
theorem ye_lload {i len : Nat} {x : Int64} (hm : xfind code pc = some (.inl (xop (xf_lload i len)))) (hg : xG lv i = some (.long x)) (h : yWE str fs call code (pc + len, lv, .long x :: st, hp, sz, sl) r) : yWE str fs call code (pc, lv, st, hp, sz, sl) r :=
  ye_p hm (by simp only [xf_lload, hg]) h
theorem ye_aload {i len : Nat} {x : Nat} (hm : xfind code pc = some (.inl (xop (xf_aload i len)))) (hg : xG lv i = some (.ref x)) (h : yWE str fs call code (pc + len, lv, .ref x :: st, hp, sz, sl) r) : yWE str fs call code (pc, lv, st, hp, sz, sl) r :=
  ye_p hm (by simp only [xf_aload, hg]) h
theorem ye_iinc {i : Nat} {v x : Int32} (hm : xfind code pc = some (.inl (xop (xf_iinc i v)))) (hg : xG lv i = some (.int x)) (h : yWE str fs call code (pc + 3, xSt1 lv i (.int (x + v)), st, hp, sz, sl) r) : yWE str fs call code (pc, lv, st, hp, sz, sl) r :=
  ye_p hm (by simp only [xf_iinc, hg]) h
end YE

theorem ye_if_eq {str : Nat → Nat} {fs : Nat → xS → xS → Prop} {call : xRel} {code : List (Nat × xEn)} {pc tgt : Nat} {lv : xLv} {hp : xH} {sz sl : Nat} {r : xR ⊕ xS → Prop} {x : Int32} {rest : List Value} (hm : xfind code pc = some (.inl (xop (xf_if_eq tgt)))) (h1 : x = 0 → yWE str fs call code (tgt, lv, rest, hp, sz, sl) r) (h2 : ¬ (x = 0) → yWE str fs call code (pc + 3, lv, rest, hp, sz, sl) r) : yWE str fs call code (pc, lv, .int x :: rest, hp, sz, sl) r :=
  ye_if _ (tgt, lv, rest) (pc + 3, lv, rest) hm (fun h => by simp only [xf_if_eq, if_pos h]) (fun h => by simp only [xf_if_eq, if_neg h]) h1 h2
theorem ye_if_ne {str : Nat → Nat} {fs : Nat → xS → xS → Prop} {call : xRel} {code : List (Nat × xEn)} {pc tgt : Nat} {lv : xLv} {hp : xH} {sz sl : Nat} {r : xR ⊕ xS → Prop} {x : Int32} {rest : List Value} (hm : xfind code pc = some (.inl (xop (xf_if_ne tgt)))) (h1 : ¬ x = 0 → yWE str fs call code (tgt, lv, rest, hp, sz, sl) r) (h2 : ¬ (¬ x = 0) → yWE str fs call code (pc + 3, lv, rest, hp, sz, sl) r) : yWE str fs call code (pc, lv, .int x :: rest, hp, sz, sl) r :=
  ye_if _ (tgt, lv, rest) (pc + 3, lv, rest) hm (fun h => by simp only [xf_if_ne, if_pos h]) (fun h => by simp only [xf_if_ne, if_neg h]) h1 h2
theorem ye_if_lt {str : Nat → Nat} {fs : Nat → xS → xS → Prop} {call : xRel} {code : List (Nat × xEn)} {pc tgt : Nat} {lv : xLv} {hp : xH} {sz sl : Nat} {r : xR ⊕ xS → Prop} {x : Int32} {rest : List Value} (hm : xfind code pc = some (.inl (xop (xf_if_lt tgt)))) (h1 : x < 0 → yWE str fs call code (tgt, lv, rest, hp, sz, sl) r) (h2 : ¬ (x < 0) → yWE str fs call code (pc + 3, lv, rest, hp, sz, sl) r) : yWE str fs call code (pc, lv, .int x :: rest, hp, sz, sl) r :=
  ye_if _ (tgt, lv, rest) (pc + 3, lv, rest) hm (fun h => by simp only [xf_if_lt, if_pos h]) (fun h => by simp only [xf_if_lt, if_neg h]) h1 h2
theorem ye_if_ge {str : Nat → Nat} {fs : Nat → xS → xS → Prop} {call : xRel} {code : List (Nat × xEn)} {pc tgt : Nat} {lv : xLv} {hp : xH} {sz sl : Nat} {r : xR ⊕ xS → Prop} {x : Int32} {rest : List Value} (hm : xfind code pc = some (.inl (xop (xf_if_ge tgt)))) (h1 : 0 ≤ x → yWE str fs call code (tgt, lv, rest, hp, sz, sl) r) (h2 : ¬ (0 ≤ x) → yWE str fs call code (pc + 3, lv, rest, hp, sz, sl) r) : yWE str fs call code (pc, lv, .int x :: rest, hp, sz, sl) r :=
  ye_if _ (tgt, lv, rest) (pc + 3, lv, rest) hm (fun h => by simp only [xf_if_ge, if_pos h]) (fun h => by simp only [xf_if_ge, if_neg h]) h1 h2
theorem ye_if_gt {str : Nat → Nat} {fs : Nat → xS → xS → Prop} {call : xRel} {code : List (Nat × xEn)} {pc tgt : Nat} {lv : xLv} {hp : xH} {sz sl : Nat} {r : xR ⊕ xS → Prop} {x : Int32} {rest : List Value} (hm : xfind code pc = some (.inl (xop (xf_if_gt tgt)))) (h1 : 0 < x → yWE str fs call code (tgt, lv, rest, hp, sz, sl) r) (h2 : ¬ (0 < x) → yWE str fs call code (pc + 3, lv, rest, hp, sz, sl) r) : yWE str fs call code (pc, lv, .int x :: rest, hp, sz, sl) r :=
  ye_if _ (tgt, lv, rest) (pc + 3, lv, rest) hm (fun h => by simp only [xf_if_gt, if_pos h]) (fun h => by simp only [xf_if_gt, if_neg h]) h1 h2
theorem ye_if_le {str : Nat → Nat} {fs : Nat → xS → xS → Prop} {call : xRel} {code : List (Nat × xEn)} {pc tgt : Nat} {lv : xLv} {hp : xH} {sz sl : Nat} {r : xR ⊕ xS → Prop} {x : Int32} {rest : List Value} (hm : xfind code pc = some (.inl (xop (xf_if_le tgt)))) (h1 : x ≤ 0 → yWE str fs call code (tgt, lv, rest, hp, sz, sl) r) (h2 : ¬ (x ≤ 0) → yWE str fs call code (pc + 3, lv, rest, hp, sz, sl) r) : yWE str fs call code (pc, lv, .int x :: rest, hp, sz, sl) r :=
  ye_if _ (tgt, lv, rest) (pc + 3, lv, rest) hm (fun h => by simp only [xf_if_le, if_pos h]) (fun h => by simp only [xf_if_le, if_neg h]) h1 h2
theorem ye_icmp_eq {str : Nat → Nat} {fs : Nat → xS → xS → Prop} {call : xRel} {code : List (Nat × xEn)} {pc tgt : Nat} {lv : xLv} {hp : xH} {sz sl : Nat} {r : xR ⊕ xS → Prop} {x y : Int32} {rest : List Value} (hm : xfind code pc = some (.inl (xop (xf_icmp_eq tgt)))) (h1 : x = y → yWE str fs call code (tgt, lv, rest, hp, sz, sl) r) (h2 : ¬ (x = y) → yWE str fs call code (pc + 3, lv, rest, hp, sz, sl) r) : yWE str fs call code (pc, lv, .int y :: .int x :: rest, hp, sz, sl) r :=
  ye_if _ (tgt, lv, rest) (pc + 3, lv, rest) hm (fun h => by simp only [xf_icmp_eq, if_pos h]) (fun h => by simp only [xf_icmp_eq, if_neg h]) h1 h2
theorem ye_icmp_ne {str : Nat → Nat} {fs : Nat → xS → xS → Prop} {call : xRel} {code : List (Nat × xEn)} {pc tgt : Nat} {lv : xLv} {hp : xH} {sz sl : Nat} {r : xR ⊕ xS → Prop} {x y : Int32} {rest : List Value} (hm : xfind code pc = some (.inl (xop (xf_icmp_ne tgt)))) (h1 : ¬ x = y → yWE str fs call code (tgt, lv, rest, hp, sz, sl) r) (h2 : ¬ (¬ x = y) → yWE str fs call code (pc + 3, lv, rest, hp, sz, sl) r) : yWE str fs call code (pc, lv, .int y :: .int x :: rest, hp, sz, sl) r :=
  ye_if _ (tgt, lv, rest) (pc + 3, lv, rest) hm (fun h => by simp only [xf_icmp_ne, if_pos h]) (fun h => by simp only [xf_icmp_ne, if_neg h]) h1 h2
theorem ye_icmp_lt {str : Nat → Nat} {fs : Nat → xS → xS → Prop} {call : xRel} {code : List (Nat × xEn)} {pc tgt : Nat} {lv : xLv} {hp : xH} {sz sl : Nat} {r : xR ⊕ xS → Prop} {x y : Int32} {rest : List Value} (hm : xfind code pc = some (.inl (xop (xf_icmp_lt tgt)))) (h1 : x < y → yWE str fs call code (tgt, lv, rest, hp, sz, sl) r) (h2 : ¬ (x < y) → yWE str fs call code (pc + 3, lv, rest, hp, sz, sl) r) : yWE str fs call code (pc, lv, .int y :: .int x :: rest, hp, sz, sl) r :=
  ye_if _ (tgt, lv, rest) (pc + 3, lv, rest) hm (fun h => by simp only [xf_icmp_lt, if_pos h]) (fun h => by simp only [xf_icmp_lt, if_neg h]) h1 h2
theorem ye_icmp_ge {str : Nat → Nat} {fs : Nat → xS → xS → Prop} {call : xRel} {code : List (Nat × xEn)} {pc tgt : Nat} {lv : xLv} {hp : xH} {sz sl : Nat} {r : xR ⊕ xS → Prop} {x y : Int32} {rest : List Value} (hm : xfind code pc = some (.inl (xop (xf_icmp_ge tgt)))) (h1 : y ≤ x → yWE str fs call code (tgt, lv, rest, hp, sz, sl) r) (h2 : ¬ (y ≤ x) → yWE str fs call code (pc + 3, lv, rest, hp, sz, sl) r) : yWE str fs call code (pc, lv, .int y :: .int x :: rest, hp, sz, sl) r :=
  ye_if _ (tgt, lv, rest) (pc + 3, lv, rest) hm (fun h => by simp only [xf_icmp_ge, if_pos h]) (fun h => by simp only [xf_icmp_ge, if_neg h]) h1 h2
theorem ye_icmp_gt {str : Nat → Nat} {fs : Nat → xS → xS → Prop} {call : xRel} {code : List (Nat × xEn)} {pc tgt : Nat} {lv : xLv} {hp : xH} {sz sl : Nat} {r : xR ⊕ xS → Prop} {x y : Int32} {rest : List Value} (hm : xfind code pc = some (.inl (xop (xf_icmp_gt tgt)))) (h1 : y < x → yWE str fs call code (tgt, lv, rest, hp, sz, sl) r) (h2 : ¬ (y < x) → yWE str fs call code (pc + 3, lv, rest, hp, sz, sl) r) : yWE str fs call code (pc, lv, .int y :: .int x :: rest, hp, sz, sl) r :=
  ye_if _ (tgt, lv, rest) (pc + 3, lv, rest) hm (fun h => by simp only [xf_icmp_gt, if_pos h]) (fun h => by simp only [xf_icmp_gt, if_neg h]) h1 h2
theorem ye_icmp_le {str : Nat → Nat} {fs : Nat → xS → xS → Prop} {call : xRel} {code : List (Nat × xEn)} {pc tgt : Nat} {lv : xLv} {hp : xH} {sz sl : Nat} {r : xR ⊕ xS → Prop} {x y : Int32} {rest : List Value} (hm : xfind code pc = some (.inl (xop (xf_icmp_le tgt)))) (h1 : x ≤ y → yWE str fs call code (tgt, lv, rest, hp, sz, sl) r) (h2 : ¬ (x ≤ y) → yWE str fs call code (pc + 3, lv, rest, hp, sz, sl) r) : yWE str fs call code (pc, lv, .int y :: .int x :: rest, hp, sz, sl) r :=
  ye_if _ (tgt, lv, rest) (pc + 3, lv, rest) hm (fun h => by simp only [xf_icmp_le, if_pos h]) (fun h => by simp only [xf_icmp_le, if_neg h]) h1 h2
theorem xG_same (lv : xLv) (i : Nat) (v : Value) : xG (xSt1 lv i v) i = some v := by
  simp [xG, xSt1, List.find?_cons]
theorem xG_other {lv : xLv} {i j : Nat} {v w : Value} (h : xG lv j = some w) (hc : w.category = 1) (hn : j ≠ i) : xG (xSt1 lv i v) j = some w := by
  have key : ∀ l : xLv, xG l j = some w → xG (l.filter (fun q => !(q.1 == i) && !(q.1 + 1 == i && q.2.category == 2))) j = some w := by
    intro l
    induction l with
    | nil => intro h; cases h
    | cons q l ih =>
      intro h
      unfold xG at h
      rw [List.find?_cons] at h
      cases hq : (q.1 == j) with
      | true =>
        rw [hq] at h
        have e1 : q.1 = j := by simpa using hq
        have e2 : q.2 = w := Option.some.inj h
        have hk : (!(q.1 == i) && !(q.1 + 1 == i && q.2.category == 2)) = true := by
          rw [e1, e2, hc]
          simp [hn]
        rw [List.filter_cons, if_pos hk]
        unfold xG
        rw [List.find?_cons, hq]
        exact h
      | false =>
        rw [hq] at h
        have h2 := ih (by unfold xG; exact h)
        by_cases hk : (!(q.1 == i) && !(q.1 + 1 == i && q.2.category == 2)) = true
        · rw [List.filter_cons, if_pos hk]
          unfold xG at h2 ⊢
          rw [List.find?_cons, hq]
          exact h2
        · rw [List.filter_cons, if_neg hk]
          exact h2
  have h1 := key lv h
  unfold xSt1
  unfold xG at h1 ⊢
  have hne : (i == j) = false := by simp [Ne.symm hn]
  rw [List.find?_cons, hne]
  exact h1
theorem xG_same2 (lv : xLv) (i : Nat) (v : Value) : xG (xSt2 lv i v) i = some v := by
  simp [xG, xSt2, List.find?_cons]
theorem xG_fil {lv : xLv} {j : Nat} {w : Value} (P : Nat × Value → Bool) (h : xG lv j = some w) (hP : P (j, w) = true) : xG (lv.filter P) j = some w := by
  induction lv with
  | nil => cases h
  | cons q l ih =>
    unfold xG at h
    rw [List.find?_cons] at h
    cases hq : (q.1 == j) with
    | true =>
      rw [hq] at h
      have e1 : q.1 = j := by simpa using hq
      have e2 : q.2 = w := Option.some.inj h
      have hk : P q = true := by rw [← hP, ← e1, ← e2]
      rw [List.filter_cons, if_pos hk]
      unfold xG
      rw [List.find?_cons, hq]
      exact h
    | false =>
      rw [hq] at h
      have h2 := ih (by unfold xG; exact h)
      by_cases hk : P q = true
      · rw [List.filter_cons, if_pos hk]
        unfold xG at h2 ⊢
        rw [List.find?_cons, hq]
        exact h2
      · rw [List.filter_cons, if_neg hk]
        exact h2
theorem ynbq (a b : Nat) : (a == b) = Nat.beq a b := by
  cases h : Nat.beq a b with
  | true => simp [Nat.eq_of_beq_eq_true h]
  | false => simp [Nat.ne_of_beq_eq_false h]
theorem xG_o1 {lv : xLv} {i j : Nat} {v w : Value} (h : xG lv j = some w) (hn : (Nat.beq j i || (Nat.beq (j + 1) i && w.category == 2)) = false) : xG (xSt1 lv i v) j = some w := by
  have hn1 : Nat.beq j i = false := by cases hb : Nat.beq j i <;> simp [hb] at hn ⊢
  have hne : j ≠ i := Nat.ne_of_beq_eq_false hn1
  have h2 := xG_fil (fun q => !(q.1 == i) && !(q.1 + 1 == i && q.2.category == 2)) h (by
    have e1 : (j == i) = false := by simp [hne]
    have e2 : (j + 1 == i && w.category == 2) = false := by
      rw [hn1, Bool.false_or] at hn
      rw [ynbq]
      exact hn
    simp only [e1, e2]
    rfl)
  unfold xSt1
  unfold xG at h2 ⊢
  rw [List.find?_cons, show (i == j) = false by simp [Ne.symm hne]]
  exact h2
theorem xG_o2 {lv : xLv} {i j : Nat} {v w : Value} (h : xG lv j = some w) (hn : (Nat.beq j i || (Nat.beq j (i + 1) || (Nat.beq (j + 1) i && w.category == 2))) = false) : xG (xSt2 lv i v) j = some w := by
  have hn1 : Nat.beq j i = false := by cases hb : Nat.beq j i <;> simp [hb] at hn ⊢
  have hn2 : Nat.beq j (i + 1) = false := by
    rw [hn1] at hn
    cases hb : Nat.beq j (i + 1) <;> simp [hb] at hn ⊢
  have hne : j ≠ i := Nat.ne_of_beq_eq_false hn1
  have hne2 : j ≠ i + 1 := Nat.ne_of_beq_eq_false hn2
  have h2 := xG_fil (fun q => !(q.1 == i) && (!(q.1 == i + 1) && !(q.1 + 1 == i && q.2.category == 2))) h (by
    have e1 : (j == i) = false := by simp [hne]
    have e3 : (j == i + 1) = false := by simp [hne2]
    have e2 : (j + 1 == i && w.category == 2) = false := by
      rw [hn1, hn2, Bool.false_or, Bool.false_or] at hn
      rw [ynbq]
      exact hn
    simp only [e1, e2, e3]
    rfl)
  unfold xSt2
  unfold xG at h2 ⊢
  rw [List.find?_cons, show (i == j) = false by simp [Ne.symm hne]]
  exact h2
def gA {α : Type} (n : Nat) (i : Int32) (k : Nat → Option α) : Option α := if i < 0 ∨ n ≤ i.toNatClampNeg then none else k i.toNatClampNeg
theorem gA_some {α : Type} {n : Nat} {i : Int32} {k : Nat → Option α} {q : α} (h : gA n i k = some q) : ∃ j, i.toNatClampNeg = j ∧ vp_in i n ∧ k j = some q := by
  unfold gA at h
  split at h
  · cases h
  · next hc => exact ⟨_, rfl, hc, h⟩
def gP {α : Type} (c : Prop) [Decidable c] (k : Option α) : Option α := if c then k else none
theorem gP_some {α : Type} {c : Prop} [Decidable c] {k : Option α} {q : α} (h : gP c k = some q) : c ∧ k = some q := by
  unfold gP at h
  split at h
  · next hc => exact ⟨hc, h⟩
  · cases h
def gR {α : Type} (A : Nat → Int32) (n : Nat) (i : Int32) (k : Nat → Option α) : Option α := if i < 0 ∨ n ≤ i.toNatClampNeg then none else if A i.toNatClampNeg = 1 then k i.toNatClampNeg else none
theorem gR_some {α : Type} {A : Nat → Int32} {n : Nat} {i : Int32} {k : Nat → Option α} {q : α} (h : gR A n i k = some q) : ∃ j, i.toNatClampNeg = j ∧ vp_in i n ∧ A j = 1 ∧ k j = some q := by
  unfold gR at h
  split at h
  · cases h
  · next hc =>
    split at h
    · next h2 => exact ⟨_, rfl, hc, h2, h⟩
    · cases h
def sq {α : Type} (S : yS) (k : yS → Option α) : Option α := k S
theorem sq_some {α : Type} {S : yS} {k : yS → Option α} {q : α} (h : sq S k = some q) : ∃ S', S' = S ∧ k S' = some q := ⟨S, rfl, h⟩
def bV {α β : Type} (x : Option α) (k : α → Option β) : Option β := match x with
  | some q => k q
  | none => none
theorem bV_some {α β : Type} {x : Option α} {k : α → Option β} {q : β} (h : bV x k = some q) : ∃ t, x = some t ∧ k t = some q := by
  cases x with
  | none => cases h
  | some t => exact ⟨t, rfl, h⟩
def bS {α β : Type} (x : Option (α × yS)) (k : α → yS → Option β) : Option β := match x with
  | some q => k q.1 q.2
  | none => none
theorem bS_some {α β : Type} {x : Option (α × yS)} {k : α → yS → Option β} {q : β} (h : bS x k = some q) : ∃ t S', x = some (t, S') ∧ k t S' = some q := by
  cases x with
  | none => cases h
  | some t => exact ⟨t.1, t.2, rfl, h⟩
theorem yiT {α : Type} {c : Prop} {dc : Decidable c} {a b q : α} (hc : c) (h : @ite α c dc a b = q) : a = q := by rw [if_pos hc] at h; exact h
theorem yiN {α : Type} {c : Prop} {dc : Decidable c} {a b q : α} (hc : ¬ c) (h : @ite α c dc a b = q) : b = q := by rw [if_neg hc] at h; exact h
theorem n_some {α : Type} {q : α} {P : Prop} (h : (none : Option α) = some q) : P := nomatch h
def ypP (hp : xH) (sz : Nat) (v : Value) : xR ⊕ xS → Prop := fun q => q = .inl (some v, hp, sz, 0)
def ypQ (rt : List Nat) (F : xH) (ev : xEv) (T : yT) (sz : Nat) (v : Option Value) (S' : yS) : xR ⊕ xS → Prop := fun q => ∃ hp', q = .inl (v, hp', sz, 0) ∧ cR rt F ev T S' hp'
theorem rP {hp : xH} {sz : Nat} {e v : Int32} (h : some e = some v) : ypP hp sz (.int v) (.inl (some (.int e), hp, sz, 0)) := by cases h; rfl
theorem rPJ {hp : xH} {sz : Nat} {e v : Int64} (h : some e = some v) : ypP hp sz (.long v) (.inl (some (.long e), hp, sz, 0)) := by cases h; rfl
theorem rPS {hp : xH} {sz : Nat} {ev : xEv} {e v : Nat} (h : some e = some v) : ypP hp sz (.ref (ev.2.1 v)) (.inl (some (.ref (ev.2.1 e)), hp, sz, 0)) := by cases h; rfl
theorem rQ {rt : List Nat} {F : xH} {ev : xEv} {T : yT} {S S' : yS} {hp : xH} {sz : Nat} {e v : Int32} (h : some (e, S) = some (v, S')) (hM : cR rt F ev T S hp) : ypQ rt F ev T sz (some (.int v)) S' (.inl (some (.int e), hp, sz, 0)) := by cases h; exact ⟨hp, rfl, hM⟩
theorem rQJ {rt : List Nat} {F : xH} {ev : xEv} {T : yT} {S S' : yS} {hp : xH} {sz : Nat} {e v : Int64} (h : some (e, S) = some (v, S')) (hM : cR rt F ev T S hp) : ypQ rt F ev T sz (some (.long v)) S' (.inl (some (.long e), hp, sz, 0)) := by cases h; exact ⟨hp, rfl, hM⟩
theorem rQV {rt : List Nat} {F : xH} {ev : xEv} {T : yT} {S S' : yS} {hp : xH} {sz : Nat} {e v : Int32} (h : some (e, S) = some (v, S')) (hM : cR rt F ev T S hp) : ypQ rt F ev T sz none S' (.inl (none, hp, sz, 0)) := by cases h; exact ⟨hp, rfl, hM⟩
def ypT (rt : List Nat) (F : xH) (ev : xEv) (T : yT) (sz : Nat) (w : List Nat) (v : Option Value) (S' : yS) : xR ⊕ xS → Prop := fun q => ∃ hp', cR rt F ev T S' hp' ∧ ((∃ x, v = some x ∧ q = .inl (some x, hp', sz, 0)) ∨ (v = none ∧ ∃ pc lv, pc ∈ w ∧ q = .inr (pc, lv, [], hp', sz, 0)))
def vI (v : Option Int32) : Option Value := v.map .int
def vJ (v : Option Int64) : Option Value := v.map .long
theorem rT {rt : List Nat} {F : xH} {ev : xEv} {T : yT} {S S' : yS} {hp : xH} {sz : Nat} {w : List Nat} {e : Int32} {v : Option Int32} (h : some (some e, S) = some (v, S')) (hM : cR rt F ev T S hp) : ypT rt F ev T sz w (vI v) S' (.inl (some (.int e), hp, sz, 0)) := by cases h; exact ⟨hp, hM, Or.inl ⟨_, rfl, rfl⟩⟩
theorem rTJ {rt : List Nat} {F : xH} {ev : xEv} {T : yT} {S S' : yS} {hp : xH} {sz : Nat} {w : List Nat} {e : Int64} {v : Option Int64} (h : some (some e, S) = some (v, S')) (hM : cR rt F ev T S hp) : ypT rt F ev T sz w (vJ v) S' (.inl (some (.long e), hp, sz, 0)) := by cases h; exact ⟨hp, hM, Or.inl ⟨_, rfl, rfl⟩⟩
theorem rX {rt : List Nat} {F : xH} {ev : xEv} {T : yT} {S S' : yS} {hp : xH} {sz : Nat} {w : List Nat} {v : Option Int32} {pc : Nat} {lv : xLv} (h : some ((none : Option Int32), S) = some (v, S')) (hw : pc ∈ w) (hM : cR rt F ev T S hp) : ypT rt F ev T sz w (vI v) S' (.inr (pc, lv, [], hp, sz, 0)) := by cases h; exact ⟨hp, hM, Or.inr ⟨rfl, _, _, hw, rfl⟩⟩
theorem rXJ {rt : List Nat} {F : xH} {ev : xEv} {T : yT} {S S' : yS} {hp : xH} {sz : Nat} {w : List Nat} {v : Option Int64} {pc : Nat} {lv : xLv} (h : some ((none : Option Int64), S) = some (v, S')) (hw : pc ∈ w) (hM : cR rt F ev T S hp) : ypT rt F ev T sz w (vJ v) S' (.inr (pc, lv, [], hp, sz, 0)) := by cases h; exact ⟨hp, hM, Or.inr ⟨rfl, _, _, hw, rfl⟩⟩
def gS {α : Type} (t : Int32) (k : Nat → Option α) : Option α := if t = 1 then k 0 else if t = 2 then k 1 else none
theorem gS_some {α : Type} {t : Int32} {k : Nat → Option α} {q : α} (h : gS t k = some q) : ∃ m, (m < 4 ∧ ∀ ev, yStr ev t = .ref (ev.2.1 m)) ∧ k m = some q := by
  unfold gS at h
  split at h
  · next h1 => exact ⟨0, ⟨by decide, fun ev => by rw [yStr, if_pos h1]⟩, h⟩
  · next h1 =>
    split at h
    · next h2 => exact ⟨1, ⟨by decide, fun ev => by rw [yStr, if_neg h1, if_pos h2]⟩, h⟩
    · cases h
theorem yByt_ref {T : yT} {t : Int32} (h : t = 1 ∨ t = 2) : ∃ a, yByt T t = .ref a := by
  rcases h with rfl | rfl
  · exact ⟨_, rfl⟩
  · exact ⟨_, rfl⟩
theorem yB_1 {T : yT} {a : Nat} (h : yAt T 12 8 44 a) : yByt T 1 = .ref a := by rw [← h.2.2]; rfl
theorem yB_2 {T : yT} {a : Nat} (h : yAt T 12 8 38 a) : yByt T 2 = .ref a := by rw [← h.2.2]; rfl
def gB {α : Type} (S : yS) (t i : Int32) (k : Int32 → Option α) : Option α := if t = 1 then (if i < 0 ∨ 100 ≤ i.toNatClampNeg then none else k (S.2.1 8 43 i.toNatClampNeg)) else if t = 2 then (if i < 0 ∨ 1920 ≤ i.toNatClampNeg then none else k (S.2.1 8 37 i.toNatClampNeg)) else none
def yBat (S : yS) (t i v : Int32) : Prop := (t = 1 ∧ vp_in i 100 ∧ v = S.2.1 8 43 i.toNatClampNeg) ∨ (t = 2 ∧ vp_in i 1920 ∧ v = S.2.1 8 37 i.toNatClampNeg)
theorem gB_some {α : Type} {S : yS} {t i : Int32} {k : Int32 → Option α} {q : α} (h : gB S t i k = some q) : ∃ v, yBat S t i v ∧ k v = some q := by
  unfold gB at h
  split at h
  · next h1 =>
    split at h
    · cases h
    · next h2 => exact ⟨_, Or.inl ⟨h1, h2, rfl⟩, h⟩
  · split at h
    · next h1 =>
      split at h
      · cases h
      · next h2 => exact ⟨_, Or.inr ⟨h1, h2, rfl⟩, h⟩
    · cases h
theorem ye_aldB {str : Nat → Nat} {fs : Nat → xS → xS → Prop} {call : xRel} {code : List (Nat × xEn)} {pc : Nat} {lv : xLv} {hp : xH} {sz sl : Nat} {r : xR ⊕ xS → Prop} {F : xH} {ev : xEv} {T : yT} {S : yS} {t i v : Int32} {a : Nat} {rest : List Value} (hm : xfind code pc = some (.inl (xop (xf_ald (ev.1 3))))) (hM : cR [8] F ev T S hp) (ha : yByt T t = .ref a) (hb : yBat S t i v) (h : yWE str fs call code (pc + 1, lv, .int v :: rest, hp, sz, sl) r) : yWE str fs call code (pc, lv, .int i :: .ref a :: rest, hp, sz, sl) r := by
  have h8 := hM.1 8 (by decide)
  rcases hb with ⟨rfl, hi, rfl⟩ | ⟨rfl, hi, rfl⟩
  · have e : a = T.2.1 8 44 := (Value.ref.inj ha).symm
    have h9 : yAt T 12 8 (43 + 1) a := ⟨h8, rfl, e.symm⟩
    exact ye_ald hm (hM.arr h9 (show yRow 12 43 = some (3, 100) from rfl)) hi h
  · have e : a = T.2.1 8 38 := (Value.ref.inj ha).symm
    have h9 : yAt T 12 8 (37 + 1) a := ⟨h8, rfl, e.symm⟩
    exact ye_ald hm (hM.arr h9 (show yRow 12 37 = some (3, 1920) from rfl)) hi h
theorem ys_sg {ev : xEv} {T : yT} {t : Int32} {a o : Nat} (h : yByt T t = .ref a) : ∀ I, yFl ev T (yUp I 50 t) o (occ 12) = (yFl ev T I o (occ 12)).set 50 (.ref a) := fun I => by rw [← h]; rfl
theorem ys_nm {ev : xEv} {T : yT} {m o : Nat} (h : m = 0 ∨ m = 1) : ∀ I, yFl ev T (yUp I 55 (Int32.ofNat (m + 1))) o (occ 12) = (yFl ev T I o (occ 12)).set 55 (.ref (ev.2.1 m)) := by
  rcases h with rfl | rfl
  · intro I; rfl
  · intro I; rfl
theorem yi32_ne {x k : Int32} (h : ¬ x = k) : ¬ x.toInt = k.toInt := fun e => h (Int32.toInt_inj.mp e)
theorem xtsw_nil {lo : Int} {D : Nat} {z : Int} : xtsw lo [] D z = D := by
  unfold xtsw
  split
  · rfl
  · next hc => exact absurd (by simp; omega) hc
theorem xtsw_cons {lo : Int} {t : Nat} {tg : List Nat} {D : Nat} {z : Int} (h : ¬ z = lo) : xtsw lo (t :: tg) D z = xtsw (lo + 1) tg D z := by
  unfold xtsw
  by_cases c : z < lo ∨ lo + (t :: tg).length ≤ z
  · rw [if_pos c, if_pos (by simp only [List.length_cons] at c; omega)]
  · rw [if_neg c, if_neg (by simp only [List.length_cons] at c; omega)]
    rw [show (z - lo).toNat = (z - (lo + 1)).toNat + 1 by omega]
    rfl
theorem xtsw_neg {x k : Int32} {lo : Int} {t : Nat} {tg : List Nat} {D : Nat} (h : ¬ x = k) (hk : k.toInt = lo) (h2 : xtsw (lo + 1) tg D x.toInt = D) : xtsw lo (t :: tg) D x.toInt = D := by
  rw [xtsw_cons (by rw [← hk]; exact yi32_ne h), h2]
theorem xlsw_neg {x k : Int32} {q : Int × Nat} {r : List (Int × Nat)} {D : Nat} (h : ¬ x = k) (hk : k.toInt = q.1) (h2 : xlsw r D x.toInt = D) : xlsw (q :: r) D x.toInt = D := by
  unfold xlsw
  rw [if_neg (by rw [← hk]; exact yi32_ne h)]
  exact h2
theorem vp_lt {i : Int32} {n : Nat} (h : vp_in i n) : i.toNatClampNeg < n := by
  by_cases h2 : n ≤ i.toNatClampNeg
  · exact absurd (Or.inr h2) h
  · omega
theorem zb_fit {x : Int32} (h : x = 0 ∨ x = 1) : fits .boolean (.int x) = true := by
  rcases h with rfl | rfl <;> rfl
theorem zb_nar {x : Int32} (h : x = 0 ∨ x = 1) : narrow .boolean (.int x) = .int x := by
  rcases h with rfl | rfl <;> rfl
section YW0
variable {str : Nat → Nat} {fs : Nat → xS → xS → Prop} {call : xRel} {code : List (Nat × xEn)} {pc : Nat} {lv : xLv} {hp : xH} {sz sl : Nat} {r : xR ⊕ xS → Prop} {rest : List Value}
theorem ye_div {g : Int32 → Int32 → Int32} {x y : Int32} (hm : xfind code pc = some (.inl (xop (xf_div g)))) (hy : ¬ y = 0) (h : yWE str fs call code (pc + 1, lv, .int (g x y) :: rest, hp, sz, sl) r) : yWE str fs call code (pc, lv, .int y :: .int x :: rest, hp, sz, sl) r :=
  ye_p hm (by simp only [xf_div, if_neg hy]) h
theorem ye_ldiv {g : Int64 → Int64 → Int64} {x y : Int64} (hm : xfind code pc = some (.inl (xop (xf_ldiv g)))) (hy : ¬ y = 0) (h : yWE str fs call code (pc + 1, lv, .long (g x y) :: rest, hp, sz, sl) r) : yWE str fs call code (pc, lv, .long y :: .long x :: rest, hp, sz, sl) r :=
  ye_p hm (by simp only [xf_ldiv, if_neg hy]) h
end YW0
section YW
variable {str : Nat → Nat} {fs : Nat → xS → xS → Prop} {call : xRel} {code : List (Nat × xEn)} {pc : Nat} {lv : xLv} {hp : xH} {sz sl : Nat} {r : xR ⊕ xS → Prop} {rt : List Nat} {F : xH} {ev : xEv} {T : yT} {S S1 : yS} {c o k a : Nat} {rest : List Value}
theorem yw_putI {ci : Nat} {ty : FieldType} {v : Int32} {w : Value} (hm : xfind code pc = some (.inl (xo_putf ci k ty))) (hM : cR rt F ev T S hp) (ha : yAt T c o 0 a) (hci : occ c = ci) (hc : Nat.beq c 13 = false ∧ Nat.beq c 15 = false) (hl : Nat.succ k ≤ (yFl ev T (S.1 o) o (occ c)).length) (hf : fits ty w = true) (hn : narrow ty w = w) (hs : ∀ I, yFl ev T (yUp I k v) o (occ c) = (yFl ev T I o (occ c)).set k w) (hk : k = yKs c → v = 1 ∧ T.1 (o + 64) = true ∧ oc (o + 64) = c) (e : S1 = yI S o k v) (h : ∀ hp1, cR rt F ev T S1 hp1 → yWE str fs call code (pc + 3, lv, rest, hp1, sz, sl) r) : yWE str fs call code (pc, lv, w :: .ref a :: rest, hp, sz, sl) r := by
  subst hci
  subst e
  exact ye_putf hm (hM.obj ha hc) hl hf hn (h _ (hM.putI ha hc hs hk))
theorem yw_ast {g : Int32 → Int32} {t n : Nat} {i x : Int32} {j : Nat} (hm : xfind code pc = some (.inl (xo_ast (ev.1 t) g))) (hM : cR rt F ev T S hp) (ha : yAt T c o (k + 1) a) (hq : yRow c k = some (t, n)) (ht : t = 0 ∨ t = 2 ∨ t = 3) (hi : vp_in i n) (hj : i.toNatClampNeg = j) (e : S1 = yA S o k (upd (S.2.1 o k) j (g x))) (h : ∀ hp1, cR rt F ev T S1 hp1 → yWE str fs call code (pc + 1, lv, rest, hp1, sz, sl) r) : yWE str fs call code (pc, lv, .int x :: .int i :: .ref a :: rest, hp, sz, sl) r := by
  subst e
  have h1 := hM.arr ha hq
  have e2 : yCon T t (S.2.1 o k) (S.2.2 o k) = .inl (S.2.1 o k) := by rcases ht with rfl | rfl | rfl <;> rfl
  dsimp only at h1
  rw [e2] at h1
  exact yj_ast hm h1 hi hj (h _ (hM.putA ha hq ht _))
theorem yw_last {n : Nat} {i : Int32} {x : Int64} {j : Nat} (hm : xfind code pc = some (.inl (xo_last (ev.1 1)))) (hM : cR rt F ev T S hp) (ha : yAt T c o (k + 1) a) (hq : yRow c k = some (1, n)) (hi : vp_in i n) (hj : i.toNatClampNeg = j) (e : S1 = yJ S o k (vp_updL (S.2.2 o k) j x)) (h : ∀ hp1, cR rt F ev T S1 hp1 → yWE str fs call code (pc + 1, lv, rest, hp1, sz, sl) r) : yWE str fs call code (pc, lv, .long x :: .int i :: .ref a :: rest, hp, sz, sl) r := by
  subst e
  exact yj_last hm (hM.arr ha hq) hi hj (h _ (hM.putJ ha hq _))
theorem yw_aast {t n ci c2 v : Nat} {i : Int32} {j : Nat} (hm : xfind code pc = some (.inl (xo_aast (ev.1 t) ci))) (hM : cR rt F ev T S hp) (ha : yAt T c o (k + 1) a) (hq : yRow c k = some (t, n)) (ht : 4 ≤ t) (hv : yAt T c2 (yBase t + j) 0 v) (hci : occ c2 = ci) (hc : Nat.beq c2 13 = false ∧ Nat.beq c2 15 = false) (hi : vp_in i n) (hj : i.toNatClampNeg = j) (e : S1 = yA S o k (upd (S.2.1 o k) j 1)) (h : ∀ hp1, cR rt F ev T S1 hp1 → yWE str fs call code (pc + 1, lv, rest, hp1, sz, sl) r) : yWE str fs call code (pc, lv, .ref v :: .int i :: .ref a :: rest, hp, sz, sl) r := by
  subst e
  subst hci
  have h1 := hM.arr ha hq
  have e2 : yCon T t (S.2.1 o k) (S.2.2 o k) = .inr (.inr (.inr (.inr (fun i => if S.2.1 o k i = 1 then some (T.2.1 (yBase t + i) 0) else none)))) := by unfold yCon; rw [if_neg (by omega), if_neg (by omega)]
  dsimp only at h1
  rw [e2] at h1
  exact ye_aast hm h1 (hM.obj hv hc) hi hj (h _ (hM.putR ha hq ht hv))
theorem yw_copy {c2 o2 k2 b na nb : Nat} {sp dp n : Int32} (hm : xfind code pc = some (.inl (xo_copy (ev.1 0)))) (hM : cR rt F ev T S hp) (ha : yAt T c o (k + 1) a) (hq : yRow c k = some (0, na)) (hb : yAt T c2 o2 (k2 + 1) b) (hq2 : yRow c2 k2 = some (0, nb)) (hi : ¬ sp < 0 ∧ ¬ dp < 0 ∧ ¬ n < 0 ∧ sp.toNatClampNeg + n.toNatClampNeg ≤ na ∧ dp.toNatClampNeg + n.toNatClampNeg ≤ nb) (hs : (rest.map fun v => v.category).sum ≤ 8) (e : S1 = yA S o2 k2 (va_cpy (S.2.1 o k) (S.2.1 o2 k2) sp.toNatClampNeg dp.toNatClampNeg n.toNatClampNeg)) (h : ∀ hp1, cR rt F ev T S1 hp1 → yWE str fs call code (pc + 3, lv, rest, hp1, sz, sl) r) : yWE str fs call code (pc, lv, .int n :: .int dp :: .ref b :: .int sp :: .ref a :: rest, hp, sz, sl) r := by
  subst e
  exact ye_copy hm (hM.arr ha hq) (hM.arr hb hq2) hi hs (h _ (hM.putA hb hq2 (Or.inl rfl) _))
end YW
def ykP (rt : List Nat) (F : xH) (ev : xEv) (prim : xRel) (d j : Nat) (T : yT) (S : yS) (av : List Value) (v : Value) : Prop := ∀ (hp : xH) (sz : Nat), cR rt F ev T S hp → xCalls ev xmi (xprog ev) prim d j av hp sz (some v, hp, sz, 0)
def ykQ (rt : List Nat) (F : xH) (ev : xEv) (prim : xRel) (d j : Nat) (T : yT) (S : yS) (av : List Value) (v : Option Value) (S' : yS) : Prop := ∀ (hp : xH) (sz : Nat), cR rt F ev T S hp → ∃ hp', xCalls ev xmi (xprog ev) prim d j av hp sz (v, hp', sz, 0) ∧ cR rt F ev T S' hp'
theorem yc_of {ev : xEv} {prim : xRel} {d j : Nat} {av : List Value} {hp : xH} {sz : Nat} {r : xR ⊕ xS → Prop} {code : List (Nat × xEn)} {y : MethodName} {cc : ByteArray} {nL : Nat} {ret : Option FieldType} (hj : xprog ev j = code) (hn : xmi j = (y, cc, nL, ret)) (hlen : (lg_sl av).length ≤ nL) (hr : ∀ s, ¬ r (.inr s)) (h : yWE ev.2.1 (xstr ev) (xCalls ev xmi (xprog ev) prim d) code (0, lv_args 0 av, [], hp, sz, 0) r) : ∃ q, xCalls ev xmi (xprog ev) prim (d + 1) j av hp sz q ∧ r (.inl q) := by
  rcases h with ⟨n, q, h1, h2⟩ | ⟨n, q, h1, h2⟩
  · refine ⟨q, Or.inl ⟨by rw [hn]; exact hlen, n, ?_⟩, h2⟩
    rw [hj]
    exact h1
  · exact absurd h2 (hr q)
theorem ykP.of {rt : List Nat} {F : xH} {ev : xEv} {prim : xRel} {d j : Nat} {T : yT} {S : yS} {av : List Value} {v : Value} {code : List (Nat × xEn)} {y : MethodName} {cc : ByteArray} {nL : Nat} {ret : Option FieldType} (hj : xprog ev j = code) (hn : xmi j = (y, cc, nL, ret)) (hlen : (lg_sl av).length ≤ nL) (h : ∀ (hp : xH) (sz : Nat), cR rt F ev T S hp → yWE ev.2.1 (xstr ev) (xCalls ev xmi (xprog ev) prim d) code (0, lv_args 0 av, [], hp, sz, 0) (ypP hp sz v)) : ykP rt F ev prim (d + 1) j T S av v := by
  intro hp sz hM
  obtain ⟨q, h1, h2⟩ := yc_of hj hn hlen (fun s hs => by cases hs) (h hp sz hM)
  have h3 : q = (some v, hp, sz, 0) := Sum.inl.inj h2
  rw [← h3]
  exact h1
theorem ykQ.of {rt : List Nat} {F : xH} {ev : xEv} {prim : xRel} {d j : Nat} {T : yT} {S S' : yS} {av : List Value} {v : Option Value} {code : List (Nat × xEn)} {y : MethodName} {cc : ByteArray} {nL : Nat} {ret : Option FieldType} (hj : xprog ev j = code) (hn : xmi j = (y, cc, nL, ret)) (hlen : (lg_sl av).length ≤ nL) (h : ∀ (hp : xH) (sz : Nat), cR rt F ev T S hp → yWE ev.2.1 (xstr ev) (xCalls ev xmi (xprog ev) prim d) code (0, lv_args 0 av, [], hp, sz, 0) (ypQ rt F ev T sz v S')) : ykQ rt F ev prim (d + 1) j T S av v S' := by
  intro hp sz hM
  obtain ⟨q, h1, hp', h2, h3⟩ := yc_of hj hn hlen (fun s hs => by obtain ⟨_, h, _⟩ := hs; cases h) (h hp sz hM)
  have h4 : q = (v, hp', sz, 0) := Sum.inl.inj h2
  rw [h4] at h1
  exact ⟨hp', h1, h3⟩
theorem yr_0_9 : yRow 0 9 = some (0, 32) := rfl
theorem yr_2_0 : yRow 2 0 = some (0, 8) := rfl
theorem yr_2_1 : yRow 2 1 = some (2, 8) := rfl
theorem yr_2_2 : yRow 2 2 = some (0, 8) := rfl
theorem yr_2_4 : yRow 2 4 = some (4, 12) := rfl
theorem yr_2_7 : yRow 2 7 = some (0, 64) := rfl
theorem yr_2_8 : yRow 2 8 = some (0, 60) := rfl
theorem yr_2_9 : yRow 2 9 = some (0, 60) := rfl
theorem yr_2_10 : yRow 2 10 = some (0, 60) := rfl
theorem yr_2_11 : yRow 2 11 = some (0, 60) := rfl
theorem yr_3_5 : yRow 3 5 = some (0, 4) := rfl
theorem yr_3_6 : yRow 3 6 = some (0, 4) := rfl
theorem yr_4_0 : yRow 4 0 = some (0, 60) := rfl
theorem yr_4_2 : yRow 4 2 = some (0, 60) := rfl
theorem yr_4_4 : yRow 4 4 = some (2, 61) := rfl
theorem yr_6_19 : yRow 6 19 = some (0, 8) := rfl
theorem yr_7_0 : yRow 7 0 = some (0, 8) := rfl
theorem yr_7_1 : yRow 7 1 = some (0, 8) := rfl
theorem yr_7_3 : yRow 7 3 = some (1, 8) := rfl
theorem yr_7_4 : yRow 7 4 = some (1, 256) := rfl
theorem yr_8_2 : yRow 8 2 = some (0, 26) := rfl
theorem yr_8_3 : yRow 8 3 = some (0, 12) := rfl
theorem yr_8_4 : yRow 8 4 = some (0, 12) := rfl
theorem yr_8_5 : yRow 8 5 = some (0, 12) := rfl
theorem yr_8_6 : yRow 8 6 = some (0, 720) := rfl
theorem yr_8_7 : yRow 8 7 = some (0, 60) := rfl
theorem yr_9_2 : yRow 9 2 = some (0, 120) := rfl
theorem yr_9_3 : yRow 9 3 = some (0, 120) := rfl
theorem yr_9_4 : yRow 9 4 = some (0, 120) := rfl
theorem yr_9_5 : yRow 9 5 = some (0, 120) := rfl
theorem yr_9_6 : yRow 9 6 = some (0, 120) := rfl
theorem yr_9_7 : yRow 9 7 = some (0, 120) := rfl
theorem yr_9_8 : yRow 9 8 = some (0, 120) := rfl
theorem yr_10_4 : yRow 10 4 = some (5, 8) := rfl
theorem yr_10_6 : yRow 10 6 = some (6, 8) := rfl
theorem yr_10_8 : yRow 10 8 = some (7, 30) := rfl
theorem yr_10_10 : yRow 10 10 = some (0, 30) := rfl
theorem yr_10_11 : yRow 10 11 = some (8, 24) := rfl
theorem yr_11_4 : yRow 11 4 = some (1, 41) := rfl
theorem yr_11_5 : yRow 11 5 = some (0, 100) := rfl
theorem yr_11_7 : yRow 11 7 = some (0, 32) := rfl
theorem yr_12_0 : yRow 12 0 = some (0, 8) := rfl
theorem yr_12_2 : yRow 12 2 = some (0, 12) := rfl
theorem yr_12_3 : yRow 12 3 = some (0, 12) := rfl
theorem yr_12_4 : yRow 12 4 = some (0, 12) := rfl
theorem yr_12_5 : yRow 12 5 = some (0, 12) := rfl
theorem yr_12_6 : yRow 12 6 = some (0, 48) := rfl
theorem yr_12_7 : yRow 12 7 = some (0, 48) := rfl
theorem yr_12_8 : yRow 12 8 = some (0, 12) := rfl
theorem yr_12_10 : yRow 12 10 = some (0, 64) := rfl
theorem yr_12_11 : yRow 12 11 = some (0, 60) := rfl
theorem yr_12_12 : yRow 12 12 = some (0, 60) := rfl
theorem yr_12_13 : yRow 12 13 = some (0, 60) := rfl
theorem yr_12_14 : yRow 12 14 = some (0, 60) := rfl
theorem yr_12_16 : yRow 12 16 = some (0, 8) := rfl
theorem yr_12_17 : yRow 12 17 = some (0, 8) := rfl
theorem yr_12_18 : yRow 12 18 = some (0, 8) := rfl
theorem yr_12_19 : yRow 12 19 = some (0, 8) := rfl
theorem yr_12_20 : yRow 12 20 = some (2, 8) := rfl
theorem yr_12_23 : yRow 12 23 = some (0, 30) := rfl
theorem yr_12_24 : yRow 12 24 = some (0, 30) := rfl
theorem yr_12_25 : yRow 12 25 = some (0, 30) := rfl
theorem yr_12_26 : yRow 12 26 = some (0, 30) := rfl
theorem yr_12_27 : yRow 12 27 = some (0, 30) := rfl
theorem yr_12_29 : yRow 12 29 = some (0, 24) := rfl
theorem yr_12_30 : yRow 12 30 = some (0, 24) := rfl
theorem yr_12_31 : yRow 12 31 = some (0, 24) := rfl
theorem yr_12_32 : yRow 12 32 = some (0, 24) := rfl
theorem yr_12_37 : yRow 12 37 = some (3, 1920) := rfl
theorem yr_12_38 : yRow 12 38 = some (0, 32) := rfl
theorem yr_12_39 : yRow 12 39 = some (0, 32) := rfl
theorem yr_12_40 : yRow 12 40 = some (0, 32) := rfl
theorem yr_12_43 : yRow 12 43 = some (3, 100) := rfl
theorem yr_12_45 : yRow 12 45 = some (0, 64) := rfl
theorem yr_12_48 : yRow 12 48 = some (0, 2305) := rfl
theorem yr_12_49 : yRow 12 49 = some (0, 2305) := rfl
theorem yr_12_56 : yRow 12 56 = some (0, 10) := rfl
theorem yr_12_58 : yRow 12 58 = some (0, 8) := rfl
theorem yr_12_60 : yRow 12 60 = some (0, 8) := rfl
theorem yr_12_61 : yRow 12 61 = some (0, 8) := rfl
theorem yr_13_0 : yRow 13 0 = some (0, 6) := rfl
theorem yr_14_2 : yRow 14 2 = some (0, 26) := rfl
theorem yr_14_3 : yRow 14 3 = some (0, 20) := rfl
theorem yr_14_4 : yRow 14 4 = some (0, 20) := rfl
theorem yr_14_5 : yRow 14 5 = some (0, 20) := rfl
theorem yr_14_6 : yRow 14 6 = some (0, 1200) := rfl
theorem yr_14_7 : yRow 14 7 = some (0, 60) := rfl
theorem ys_0_0 (ev : xEv) (T : yT) (o : Nat) (v : Int32) : ∀ I, yFl ev T (yUp I 0 v) o (occ 0) = (yFl ev T I o (occ 0)).set 0 (.int v) := fun _ => rfl
theorem ys_0_1 (ev : xEv) (T : yT) (o : Nat) (v : Int32) : ∀ I, yFl ev T (yUp I 1 v) o (occ 0) = (yFl ev T I o (occ 0)).set 1 (.int v) := fun _ => rfl
theorem ys_0_2 (ev : xEv) (T : yT) (o : Nat) (v : Int32) : ∀ I, yFl ev T (yUp I 2 v) o (occ 0) = (yFl ev T I o (occ 0)).set 2 (.int v) := fun _ => rfl
theorem ys_0_3 (ev : xEv) (T : yT) (o : Nat) (v : Int32) : ∀ I, yFl ev T (yUp I 3 v) o (occ 0) = (yFl ev T I o (occ 0)).set 3 (.int v) := fun _ => rfl
theorem ys_0_4 (ev : xEv) (T : yT) (o : Nat) (v : Int32) : ∀ I, yFl ev T (yUp I 4 v) o (occ 0) = (yFl ev T I o (occ 0)).set 4 (.int v) := fun _ => rfl
theorem ys_0_5 (ev : xEv) (T : yT) (o : Nat) (v : Int32) : ∀ I, yFl ev T (yUp I 5 v) o (occ 0) = (yFl ev T I o (occ 0)).set 5 (.int v) := fun _ => rfl
theorem ys_0_6 (ev : xEv) (T : yT) (o : Nat) (v : Int32) : ∀ I, yFl ev T (yUp I 6 v) o (occ 0) = (yFl ev T I o (occ 0)).set 6 (.int v) := fun _ => rfl
theorem ys_0_7 (ev : xEv) (T : yT) (o : Nat) (v : Int32) : ∀ I, yFl ev T (yUp I 7 v) o (occ 0) = (yFl ev T I o (occ 0)).set 7 (.int v) := fun _ => rfl
theorem ys_0_8 (ev : xEv) (T : yT) (o : Nat) (v : Int32) : ∀ I, yFl ev T (yUp I 8 v) o (occ 0) = (yFl ev T I o (occ 0)).set 8 (.int v) := fun _ => rfl
theorem ys_0_10 (ev : xEv) (T : yT) (o : Nat) (v : Int32) : ∀ I, yFl ev T (yUp I 10 v) o (occ 0) = (yFl ev T I o (occ 0)).set 10 (.int v) := fun _ => rfl
theorem ys_1_0 (ev : xEv) (T : yT) (o : Nat) (v : Int32) : ∀ I, yFl ev T (yUp I 0 v) o (occ 1) = (yFl ev T I o (occ 1)).set 0 (.int v) := fun _ => rfl
theorem ys_1_1 (ev : xEv) (T : yT) (o : Nat) (v : Int32) : ∀ I, yFl ev T (yUp I 1 v) o (occ 1) = (yFl ev T I o (occ 1)).set 1 (.int v) := fun _ => rfl
theorem ys_1_2 (ev : xEv) (T : yT) (o : Nat) (v : Int32) : ∀ I, yFl ev T (yUp I 2 v) o (occ 1) = (yFl ev T I o (occ 1)).set 2 (.int v) := fun _ => rfl
theorem ys_1_3 (ev : xEv) (T : yT) (o : Nat) (v : Int32) : ∀ I, yFl ev T (yUp I 3 v) o (occ 1) = (yFl ev T I o (occ 1)).set 3 (.int v) := fun _ => rfl
theorem ys_1_4 (ev : xEv) (T : yT) (o : Nat) (v : Int32) : ∀ I, yFl ev T (yUp I 4 v) o (occ 1) = (yFl ev T I o (occ 1)).set 4 (.int v) := fun _ => rfl
theorem ys_1_5 (ev : xEv) (T : yT) (o : Nat) (v : Int32) : ∀ I, yFl ev T (yUp I 5 v) o (occ 1) = (yFl ev T I o (occ 1)).set 5 (.int v) := fun _ => rfl
theorem ys_1_6 (ev : xEv) (T : yT) (o : Nat) (v : Int32) : ∀ I, yFl ev T (yUp I 6 v) o (occ 1) = (yFl ev T I o (occ 1)).set 6 (.int v) := fun _ => rfl
theorem ys_1_7 (ev : xEv) (T : yT) (o : Nat) (v : Int32) : ∀ I, yFl ev T (yUp I 7 v) o (occ 1) = (yFl ev T I o (occ 1)).set 7 (.int v) := fun _ => rfl
theorem ys_1_8 (ev : xEv) (T : yT) (o : Nat) (v : Int32) : ∀ I, yFl ev T (yUp I 8 v) o (occ 1) = (yFl ev T I o (occ 1)).set 8 (.int v) := fun _ => rfl
theorem ys_1_9 (ev : xEv) (T : yT) (o : Nat) (v : Int32) : ∀ I, yFl ev T (yUp I 9 v) o (occ 1) = (yFl ev T I o (occ 1)).set 9 (.int v) := fun _ => rfl
theorem ys_2_3 (ev : xEv) (T : yT) (o : Nat) (v : Int32) : ∀ I, yFl ev T (yUp I 3 v) o (occ 2) = (yFl ev T I o (occ 2)).set 3 (.int v) := fun _ => rfl
theorem ys_2_5 (ev : xEv) (T : yT) (o : Nat) (v : Int32) : ∀ I, yFl ev T (yUp I 5 v) o (occ 2) = (yFl ev T I o (occ 2)).set 5 (.int v) := fun _ => rfl
theorem ys_2_6 (ev : xEv) (T : yT) (o : Nat) (v : Int32) : ∀ I, yFl ev T (yUp I 6 v) o (occ 2) = (yFl ev T I o (occ 2)).set 6 (.int v) := fun _ => rfl
theorem ys_3_0 (ev : xEv) (T : yT) (o : Nat) (v : Int32) : ∀ I, yFl ev T (yUp I 0 v) o (occ 3) = (yFl ev T I o (occ 3)).set 0 (.int v) := fun _ => rfl
theorem ys_3_1 (ev : xEv) (T : yT) (o : Nat) (v : Int32) : ∀ I, yFl ev T (yUp I 1 v) o (occ 3) = (yFl ev T I o (occ 3)).set 1 (.int v) := fun _ => rfl
theorem ys_3_2 (ev : xEv) (T : yT) (o : Nat) (v : Int32) : ∀ I, yFl ev T (yUp I 2 v) o (occ 3) = (yFl ev T I o (occ 3)).set 2 (.int v) := fun _ => rfl
theorem ys_3_3 (ev : xEv) (T : yT) (o : Nat) (v : Int32) : ∀ I, yFl ev T (yUp I 3 v) o (occ 3) = (yFl ev T I o (occ 3)).set 3 (.int v) := fun _ => rfl
theorem ys_3_4 (ev : xEv) (T : yT) (o : Nat) (v : Int32) : ∀ I, yFl ev T (yUp I 4 v) o (occ 3) = (yFl ev T I o (occ 3)).set 4 (.int v) := fun _ => rfl
theorem ys_4_1 (ev : xEv) (T : yT) (o : Nat) (v : Int32) : ∀ I, yFl ev T (yUp I 1 v) o (occ 4) = (yFl ev T I o (occ 4)).set 1 (.int v) := fun _ => rfl
theorem ys_4_3 (ev : xEv) (T : yT) (o : Nat) (v : Int32) : ∀ I, yFl ev T (yUp I 3 v) o (occ 4) = (yFl ev T I o (occ 4)).set 3 (.int v) := fun _ => rfl
theorem ys_4_5 (ev : xEv) (T : yT) (o : Nat) (v : Int32) : ∀ I, yFl ev T (yUp I 5 v) o (occ 4) = (yFl ev T I o (occ 4)).set 5 (.int v) := fun _ => rfl
theorem ys_4_6 (ev : xEv) (T : yT) (o : Nat) (v : Int32) : ∀ I, yFl ev T (yUp I 6 v) o (occ 4) = (yFl ev T I o (occ 4)).set 6 (.int v) := fun _ => rfl
theorem ys_4_7 (ev : xEv) (T : yT) (o : Nat) (v : Int32) : ∀ I, yFl ev T (yUp I 7 v) o (occ 4) = (yFl ev T I o (occ 4)).set 7 (.int v) := fun _ => rfl
theorem ys_4_8 (ev : xEv) (T : yT) (o : Nat) (v : Int32) : ∀ I, yFl ev T (yUp I 8 v) o (occ 4) = (yFl ev T I o (occ 4)).set 8 (.int v) := fun _ => rfl
theorem ys_4_9 (ev : xEv) (T : yT) (o : Nat) (v : Int32) : ∀ I, yFl ev T (yUp I 9 v) o (occ 4) = (yFl ev T I o (occ 4)).set 9 (.int v) := fun _ => rfl
theorem ys_5_0 (ev : xEv) (T : yT) (o : Nat) (v : Int32) : ∀ I, yFl ev T (yUp I 0 v) o (occ 5) = (yFl ev T I o (occ 5)).set 0 (.int v) := fun _ => rfl
theorem ys_5_1 (ev : xEv) (T : yT) (o : Nat) (v : Int32) : ∀ I, yFl ev T (yUp I 1 v) o (occ 5) = (yFl ev T I o (occ 5)).set 1 (.int v) := fun _ => rfl
theorem ys_5_2 (ev : xEv) (T : yT) (o : Nat) (v : Int32) : ∀ I, yFl ev T (yUp I 2 v) o (occ 5) = (yFl ev T I o (occ 5)).set 2 (.int v) := fun _ => rfl
theorem ys_5_3 (ev : xEv) (T : yT) (o : Nat) (v : Int32) : ∀ I, yFl ev T (yUp I 3 v) o (occ 5) = (yFl ev T I o (occ 5)).set 3 (.int v) := fun _ => rfl
theorem ys_6_0 (ev : xEv) (T : yT) (o : Nat) (v : Int32) : ∀ I, yFl ev T (yUp I 0 v) o (occ 6) = (yFl ev T I o (occ 6)).set 0 (.int v) := fun _ => rfl
theorem ys_6_1 (ev : xEv) (T : yT) (o : Nat) (v : Int32) : ∀ I, yFl ev T (yUp I 1 v) o (occ 6) = (yFl ev T I o (occ 6)).set 1 (.int v) := fun _ => rfl
theorem ys_6_2 (ev : xEv) (T : yT) (o : Nat) (v : Int32) : ∀ I, yFl ev T (yUp I 2 v) o (occ 6) = (yFl ev T I o (occ 6)).set 2 (.int v) := fun _ => rfl
theorem ys_6_3 (ev : xEv) (T : yT) (o : Nat) (v : Int32) : ∀ I, yFl ev T (yUp I 3 v) o (occ 6) = (yFl ev T I o (occ 6)).set 3 (.int v) := fun _ => rfl
theorem ys_6_4 (ev : xEv) (T : yT) (o : Nat) (v : Int32) : ∀ I, yFl ev T (yUp I 4 v) o (occ 6) = (yFl ev T I o (occ 6)).set 4 (.int v) := fun _ => rfl
theorem ys_6_5 (ev : xEv) (T : yT) (o : Nat) (v : Int32) : ∀ I, yFl ev T (yUp I 5 v) o (occ 6) = (yFl ev T I o (occ 6)).set 5 (.int v) := fun _ => rfl
theorem ys_6_6 (ev : xEv) (T : yT) (o : Nat) (v : Int32) : ∀ I, yFl ev T (yUp I 6 v) o (occ 6) = (yFl ev T I o (occ 6)).set 6 (.int v) := fun _ => rfl
theorem ys_6_7 (ev : xEv) (T : yT) (o : Nat) (v : Int32) : ∀ I, yFl ev T (yUp I 7 v) o (occ 6) = (yFl ev T I o (occ 6)).set 7 (.int v) := fun _ => rfl
theorem ys_6_8 (ev : xEv) (T : yT) (o : Nat) (v : Int32) : ∀ I, yFl ev T (yUp I 8 v) o (occ 6) = (yFl ev T I o (occ 6)).set 8 (.int v) := fun _ => rfl
theorem ys_6_9 (ev : xEv) (T : yT) (o : Nat) (v : Int32) : ∀ I, yFl ev T (yUp I 9 v) o (occ 6) = (yFl ev T I o (occ 6)).set 9 (.int v) := fun _ => rfl
theorem ys_6_10 (ev : xEv) (T : yT) (o : Nat) (v : Int32) : ∀ I, yFl ev T (yUp I 10 v) o (occ 6) = (yFl ev T I o (occ 6)).set 10 (.int v) := fun _ => rfl
theorem ys_6_11 (ev : xEv) (T : yT) (o : Nat) (v : Int32) : ∀ I, yFl ev T (yUp I 11 v) o (occ 6) = (yFl ev T I o (occ 6)).set 11 (.int v) := fun _ => rfl
theorem ys_6_12 (ev : xEv) (T : yT) (o : Nat) (v : Int32) : ∀ I, yFl ev T (yUp I 12 v) o (occ 6) = (yFl ev T I o (occ 6)).set 12 (.int v) := fun _ => rfl
theorem ys_6_13 (ev : xEv) (T : yT) (o : Nat) (v : Int32) : ∀ I, yFl ev T (yUp I 13 v) o (occ 6) = (yFl ev T I o (occ 6)).set 13 (.int v) := fun _ => rfl
theorem ys_6_14 (ev : xEv) (T : yT) (o : Nat) (v : Int32) : ∀ I, yFl ev T (yUp I 14 v) o (occ 6) = (yFl ev T I o (occ 6)).set 14 (.int v) := fun _ => rfl
theorem ys_6_15 (ev : xEv) (T : yT) (o : Nat) (v : Int32) : ∀ I, yFl ev T (yUp I 15 v) o (occ 6) = (yFl ev T I o (occ 6)).set 15 (.int v) := fun _ => rfl
theorem ys_6_16 (ev : xEv) (T : yT) (o : Nat) (v : Int32) : ∀ I, yFl ev T (yUp I 16 v) o (occ 6) = (yFl ev T I o (occ 6)).set 16 (.int v) := fun _ => rfl
theorem ys_6_17 (ev : xEv) (T : yT) (o : Nat) (v : Int32) : ∀ I, yFl ev T (yUp I 17 v) o (occ 6) = (yFl ev T I o (occ 6)).set 17 (.int v) := fun _ => rfl
theorem ys_6_18 (ev : xEv) (T : yT) (o : Nat) (v : Int32) : ∀ I, yFl ev T (yUp I 18 v) o (occ 6) = (yFl ev T I o (occ 6)).set 18 (.int v) := fun _ => rfl
theorem ys_7_2 (ev : xEv) (T : yT) (o : Nat) (v : Int32) : ∀ I, yFl ev T (yUp I 2 v) o (occ 7) = (yFl ev T I o (occ 7)).set 2 (.int v) := fun _ => rfl
theorem ys_8_0 (ev : xEv) (T : yT) (o : Nat) (v : Int32) : ∀ I, yFl ev T (yUp I 0 v) o (occ 8) = (yFl ev T I o (occ 8)).set 0 (.int v) := fun _ => rfl
theorem ys_14_0 (ev : xEv) (T : yT) (o : Nat) (v : Int32) : ∀ I, yFl ev T (yUp I 0 v) o (occ 14) = (yFl ev T I o (occ 14)).set 0 (.int v) := fun _ => rfl
theorem ys_8_1 (ev : xEv) (T : yT) (o : Nat) (v : Int32) : ∀ I, yFl ev T (yUp I 1 v) o (occ 8) = (yFl ev T I o (occ 8)).set 1 (.int v) := fun _ => rfl
theorem ys_14_1 (ev : xEv) (T : yT) (o : Nat) (v : Int32) : ∀ I, yFl ev T (yUp I 1 v) o (occ 14) = (yFl ev T I o (occ 14)).set 1 (.int v) := fun _ => rfl
theorem ys_9_0 (ev : xEv) (T : yT) (o : Nat) (v : Int32) : ∀ I, yFl ev T (yUp I 0 v) o (occ 9) = (yFl ev T I o (occ 9)).set 0 (.int v) := fun _ => rfl
theorem ys_9_1 (ev : xEv) (T : yT) (o : Nat) (v : Int32) : ∀ I, yFl ev T (yUp I 1 v) o (occ 9) = (yFl ev T I o (occ 9)).set 1 (.int v) := fun _ => rfl
theorem ys_10_5 (ev : xEv) (T : yT) (o : Nat) (v : Int32) : ∀ I, yFl ev T (yUp I 5 v) o (occ 10) = (yFl ev T I o (occ 10)).set 5 (.int v) := fun _ => rfl
theorem ys_10_7 (ev : xEv) (T : yT) (o : Nat) (v : Int32) : ∀ I, yFl ev T (yUp I 7 v) o (occ 10) = (yFl ev T I o (occ 10)).set 7 (.int v) := fun _ => rfl
theorem ys_10_9 (ev : xEv) (T : yT) (o : Nat) (v : Int32) : ∀ I, yFl ev T (yUp I 9 v) o (occ 10) = (yFl ev T I o (occ 10)).set 9 (.int v) := fun _ => rfl
theorem ys_10_12 (ev : xEv) (T : yT) (o : Nat) (v : Int32) : ∀ I, yFl ev T (yUp I 12 v) o (occ 10) = (yFl ev T I o (occ 10)).set 12 (.int v) := fun _ => rfl
theorem ys_10_13 (ev : xEv) (T : yT) (o : Nat) (v : Int32) : ∀ I, yFl ev T (yUp I 13 v) o (occ 10) = (yFl ev T I o (occ 10)).set 13 (.int v) := fun _ => rfl
theorem ys_10_14 (ev : xEv) (T : yT) (o : Nat) (v : Int32) : ∀ I, yFl ev T (yUp I 14 v) o (occ 10) = (yFl ev T I o (occ 10)).set 14 (.int v) := fun _ => rfl
theorem ys_10_15 (ev : xEv) (T : yT) (o : Nat) (v : Int32) : ∀ I, yFl ev T (yUp I 15 v) o (occ 10) = (yFl ev T I o (occ 10)).set 15 (.int v) := fun _ => rfl
theorem ys_10_16 (ev : xEv) (T : yT) (o : Nat) (v : Int32) : ∀ I, yFl ev T (yUp I 16 v) o (occ 10) = (yFl ev T I o (occ 10)).set 16 (.int v) := fun _ => rfl
theorem ys_10_17 (ev : xEv) (T : yT) (o : Nat) (v : Int32) : ∀ I, yFl ev T (yUp I 17 v) o (occ 10) = (yFl ev T I o (occ 10)).set 17 (.int v) := fun _ => rfl
theorem ys_10_18 (ev : xEv) (T : yT) (o : Nat) (v : Int32) : ∀ I, yFl ev T (yUp I 18 v) o (occ 10) = (yFl ev T I o (occ 10)).set 18 (.int v) := fun _ => rfl
theorem ys_10_19 (ev : xEv) (T : yT) (o : Nat) (v : Int32) : ∀ I, yFl ev T (yUp I 19 v) o (occ 10) = (yFl ev T I o (occ 10)).set 19 (.int v) := fun _ => rfl
theorem ys_11_6 (ev : xEv) (T : yT) (o : Nat) (v : Int32) : ∀ I, yFl ev T (yUp I 6 v) o (occ 11) = (yFl ev T I o (occ 11)).set 6 (.int v) := fun _ => rfl
theorem ys_11_8 (ev : xEv) (T : yT) (o : Nat) (v : Int32) : ∀ I, yFl ev T (yUp I 8 v) o (occ 11) = (yFl ev T I o (occ 11)).set 8 (.int v) := fun _ => rfl
theorem ys_12_1 (ev : xEv) (T : yT) (o : Nat) (v : Int32) : ∀ I, yFl ev T (yUp I 1 v) o (occ 12) = (yFl ev T I o (occ 12)).set 1 (.int v) := fun _ => rfl
theorem ys_12_9 (ev : xEv) (T : yT) (o : Nat) (v : Int32) : ∀ I, yFl ev T (yUp I 9 v) o (occ 12) = (yFl ev T I o (occ 12)).set 9 (.int v) := fun _ => rfl
theorem ys_12_15 (ev : xEv) (T : yT) (o : Nat) (v : Int32) : ∀ I, yFl ev T (yUp I 15 v) o (occ 12) = (yFl ev T I o (occ 12)).set 15 (.int v) := fun _ => rfl
theorem ys_12_21 (ev : xEv) (T : yT) (o : Nat) (v : Int32) : ∀ I, yFl ev T (yUp I 21 v) o (occ 12) = (yFl ev T I o (occ 12)).set 21 (.int v) := fun _ => rfl
theorem ys_12_22 (ev : xEv) (T : yT) (o : Nat) (v : Int32) : ∀ I, yFl ev T (yUp I 22 v) o (occ 12) = (yFl ev T I o (occ 12)).set 22 (.int v) := fun _ => rfl
theorem ys_12_28 (ev : xEv) (T : yT) (o : Nat) (v : Int32) : ∀ I, yFl ev T (yUp I 28 v) o (occ 12) = (yFl ev T I o (occ 12)).set 28 (.int v) := fun _ => rfl
theorem ys_12_33 (ev : xEv) (T : yT) (o : Nat) (v : Int32) : ∀ I, yFl ev T (yUp I 33 v) o (occ 12) = (yFl ev T I o (occ 12)).set 33 (.int v) := fun _ => rfl
theorem ys_12_34 (ev : xEv) (T : yT) (o : Nat) (v : Int32) : ∀ I, yFl ev T (yUp I 34 v) o (occ 12) = (yFl ev T I o (occ 12)).set 34 (.int v) := fun _ => rfl
theorem ys_12_35 (ev : xEv) (T : yT) (o : Nat) (v : Int32) : ∀ I, yFl ev T (yUp I 35 v) o (occ 12) = (yFl ev T I o (occ 12)).set 35 (.int v) := fun _ => rfl
theorem ys_12_36 (ev : xEv) (T : yT) (o : Nat) (v : Int32) : ∀ I, yFl ev T (yUp I 36 v) o (occ 12) = (yFl ev T I o (occ 12)).set 36 (.int v) := fun _ => rfl
theorem ys_12_41 (ev : xEv) (T : yT) (o : Nat) (v : Int32) : ∀ I, yFl ev T (yUp I 41 v) o (occ 12) = (yFl ev T I o (occ 12)).set 41 (.int v) := fun _ => rfl
theorem ys_12_42 (ev : xEv) (T : yT) (o : Nat) (v : Int32) : ∀ I, yFl ev T (yUp I 42 v) o (occ 12) = (yFl ev T I o (occ 12)).set 42 (.int v) := fun _ => rfl
theorem ys_12_44 (ev : xEv) (T : yT) (o : Nat) (v : Int32) : ∀ I, yFl ev T (yUp I 44 v) o (occ 12) = (yFl ev T I o (occ 12)).set 44 (.int v) := fun _ => rfl
theorem ys_12_46 (ev : xEv) (T : yT) (o : Nat) (v : Int32) : ∀ I, yFl ev T (yUp I 46 v) o (occ 12) = (yFl ev T I o (occ 12)).set 46 (.int v) := fun _ => rfl
theorem ys_12_47 (ev : xEv) (T : yT) (o : Nat) (v : Int32) : ∀ I, yFl ev T (yUp I 47 v) o (occ 12) = (yFl ev T I o (occ 12)).set 47 (.int v) := fun _ => rfl
theorem ys_12_51 (ev : xEv) (T : yT) (o : Nat) (v : Int32) : ∀ I, yFl ev T (yUp I 51 v) o (occ 12) = (yFl ev T I o (occ 12)).set 51 (.int v) := fun _ => rfl
theorem ys_12_52 (ev : xEv) (T : yT) (o : Nat) (v : Int32) : ∀ I, yFl ev T (yUp I 52 v) o (occ 12) = (yFl ev T I o (occ 12)).set 52 (.int v) := fun _ => rfl
theorem ys_12_53 (ev : xEv) (T : yT) (o : Nat) (v : Int32) : ∀ I, yFl ev T (yUp I 53 v) o (occ 12) = (yFl ev T I o (occ 12)).set 53 (.int v) := fun _ => rfl
theorem ys_12_54 (ev : xEv) (T : yT) (o : Nat) (v : Int32) : ∀ I, yFl ev T (yUp I 54 v) o (occ 12) = (yFl ev T I o (occ 12)).set 54 (.int v) := fun _ => rfl
theorem ys_12_57 (ev : xEv) (T : yT) (o : Nat) (v : Int32) : ∀ I, yFl ev T (yUp I 57 v) o (occ 12) = (yFl ev T I o (occ 12)).set 57 (.int v) := fun _ => rfl
theorem ys_12_59 (ev : xEv) (T : yT) (o : Nat) (v : Int32) : ∀ I, yFl ev T (yUp I 59 v) o (occ 12) = (yFl ev T I o (occ 12)).set 59 (.int v) := fun _ => rfl
theorem ys_12_62 (ev : xEv) (T : yT) (o : Nat) (v : Int32) : ∀ I, yFl ev T (yUp I 62 v) o (occ 12) = (yFl ev T I o (occ 12)).set 62 (.int v) := fun _ => rfl
theorem ys_12_63 (ev : xEv) (T : yT) (o : Nat) (v : Int32) : ∀ I, yFl ev T (yUp I 63 v) o (occ 12) = (yFl ev T I o (occ 12)).set 63 (.int v) := fun _ => rfl
