/-! locals by their numbers; the shapes of results -/
section XR
variable {str : Nat → Nat} {fs : Nat → xS → xS → Prop} {call : xRel} {code : List (Nat × xEn)} {pc : Nat} {lv : xLv} {st : List Value} {hp : xH} {sz sl : Nat} {r : xR → Prop}
theorem xe_iload {i len : Nat} {x : Int32} (hm : xfind code pc = some (.inl (xop (xf_iload i len)))) (hg : xG lv i = some (.int x)) (h : xE str fs call code (pc + len, lv, .int x :: st, hp, sz, sl) r) : xE str fs call code (pc, lv, st, hp, sz, sl) r :=
  xe_p hm (by simp only [xf_iload, hg]) h
theorem xe_aload {i len : Nat} {x : Nat} (hm : xfind code pc = some (.inl (xop (xf_aload i len)))) (hg : xG lv i = some (.ref x)) (h : xE str fs call code (pc + len, lv, .ref x :: st, hp, sz, sl) r) : xE str fs call code (pc, lv, st, hp, sz, sl) r :=
  xe_p hm (by simp only [xf_aload, hg]) h
theorem xe_iinc {i : Nat} {v x : Int32} (hm : xfind code pc = some (.inl (xop (xf_iinc i v)))) (hg : xG lv i = some (.int x)) (h : xE str fs call code (pc + 3, xSt1 lv i (.int (x + v)), st, hp, sz, sl) r) : xE str fs call code (pc, lv, st, hp, sz, sl) r :=
  xe_p hm (by simp only [xf_iinc, hg]) h
end XR
theorem xG_same (lv : xLv) (i : Nat) (v : Value) : xG (xSt1 lv i v) i = some v := by
  simp [xG, xSt1, List.find?_cons]
theorem xG_other {lv : xLv} {i j : Nat} {v w : Value} (h : xG lv j = some w) (hc : w.category = 1) (hn : j ≠ i) : xG (xSt1 lv i v) j = some w := by
  have key : ∀ l : xLv, xG l j = some w → xG (l.filter (fun q => !(q.1 == i) && !(q.1 + 1 == i && q.2.category == 2))) j = some w := by
    intro l
    induction l with
    | nil => intro h; cases h
    | cons q l ih =>
      intro h
      unfold xG at h
      rw [List.find?_cons] at h
      cases hq : (q.1 == j) with
      | true =>
        rw [hq] at h
        have e1 : q.1 = j := by simpa using hq
        have e2 : q.2 = w := Option.some.inj h
        have hk : (!(q.1 == i) && !(q.1 + 1 == i && q.2.category == 2)) = true := by
          rw [e1, e2, hc]
          simp [hn]
        rw [List.filter_cons, if_pos hk]
        unfold xG
        rw [List.find?_cons, hq]
        exact h
      | false =>
        rw [hq] at h
        have h2 := ih (by unfold xG; exact h)
        by_cases hk : (!(q.1 == i) && !(q.1 + 1 == i && q.2.category == 2)) = true
        · rw [List.filter_cons, if_pos hk]
          unfold xG at h2 ⊢
          rw [List.find?_cons, hq]
          exact h2
        · rw [List.filter_cons, if_neg hk]
          exact h2
  have h1 := key lv h
  unfold xSt1
  unfold xG at h1 ⊢
  have hne : (i == j) = false := by simp [Ne.symm hn]
  rw [List.find?_cons, hne]
  exact h1
/-- an answer that is a number; none -/
def mI (q : Int32 × mS) : Option Value × mS := (some (.int q.1), q.2)
def mV (S : mS) : Option Value × mS := (none, S)
