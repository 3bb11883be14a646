/-! FAR: both tables -/
def cntR (c : Nat → Nat) (l : Nat) : Nat → Nat
  | 0 => 0
  | k + 1 => cntR c l k + if c k = l then 1 else 0
theorem cntR_le (c : Nat → Nat) (l : Nat) : ∀ k, cntR c l k ≤ k
  | 0 => Nat.le_refl _
  | k + 1 => by
    have := cntR_le c l k
    unfold cntR
    split <;> omega
theorem cntR_pos {c : Nat → Nat} {x : Nat} : ∀ k, x < k → 1 ≤ cntR c (c x) k
  | 0, h => absurd h (by omega)
  | k + 1, h => by
    unfold cntR
    by_cases e : x = k
    · subst e; rw [if_pos rfl]; omega
    · have := cntR_pos (c := c) k (show x < k by omega)
      omega
/-- labels joined -/
def jn (c : Nat → Nat) (a b : Nat) : Nat → Nat := fun z => if c z = c b then c a else c z
theorem cntR_jn {c : Nat → Nat} {a b : Nat} (hab : c a ≠ c b) : ∀ k, cntR (jn c a b) (c a) k = cntR c (c a) k + cntR c (c b) k
  | 0 => rfl
  | k + 1 => by
    have ih := cntR_jn hab k
    unfold cntR
    rw [ih]
    unfold jn
    by_cases e : c k = c b
    · rw [if_pos e, if_pos rfl, if_pos e, if_neg (fun q => hab (q.symm.trans e))]
      omega
    · rw [if_neg e, if_neg e]
      omega
theorem cntR_ot {c : Nat → Nat} {a b l : Nat} (h1 : l ≠ c a) (h2 : l ≠ c b) : ∀ k, cntR (jn c a b) l k = cntR c l k
  | 0 => rfl
  | k + 1 => by
    unfold cntR
    rw [cntR_ot h1 h2 k]
    congr 1
    unfold jn
    by_cases e : c k = c b
    · rw [if_pos e, if_neg (fun q => h1 q.symm), if_neg (fun q => h2 (q.symm.trans e))]
    · rw [if_neg e]
theorem cntR_ge {c : Nat → Nat} {a b x : Nat} : cntR c (c x) 8 ≤ cntR (jn c a b) (jn c a b x) 8 := by
  by_cases hab : c a = c b
  · have e : jn c a b = c := by
      funext z
      unfold jn
      split
      · next h => rw [h, hab]
      · rfl
    rw [e]
    exact Nat.le_refl _
  · unfold jn
    by_cases e : c x = c b
    · rw [if_pos e, e]
      have := cntR_jn hab 8
      unfold jn at this
      rw [this]
      omega
    · rw [if_neg e]
      by_cases e2 : c x = c a
      · rw [e2]
        have := cntR_jn hab 8
        unfold jn at this
        rw [this]
        omega
      · have := cntR_ot (c := c) (a := a) (b := b) (l := c x) e2 e 8
        unfold jn at this
        rw [this]
        exact Nat.le_refl _
theorem nn_min {a b : Int32} {m n : Nat} (ha : nn a m) (hb : nn b n) : nn (if b < a then b else a) (min m n) := by
  by_cases h : b < a
  · rw [if_pos h]
    have := (nn_lt hb ha).mp h
    rw [show min m n = n by omega]
    exact hb
  · rw [if_neg h]
    have : ¬ n < m := fun q => h ((nn_lt hb ha).mpr q)
    rw [show min m n = m by omega]
    exact ha
theorem far_path {p1 p2 q1 q2 m : Nat} (h1 : (p1 = q1 ∧ p1 ≤ 2800) ∨ (p1 = 268435456 ∧ q1 = 1000000)) (h2 : (p2 = q2 ∧ p2 ≤ 2800) ∨ (p2 = 268435456 ∧ q2 = 1000000)) : (p1 ≤ 2800 ∧ p2 ≤ 2800 ∧ p1 + p2 ≤ 5600 ∧ q1 + m + q2 = p1 + p2 + m) ∨ (¬ (p1 ≤ 2800 ∧ p2 ≤ 2800) ∧ 268435456 ≤ p1 + p2 ∧ 1000000 ≤ q1 + m + q2) := by
  rcases h1 with ⟨h1, h1'⟩ | ⟨h1, h1'⟩ <;> rcases h2 with ⟨h2, h2'⟩ | ⟨h2, h2'⟩
  · left; omega
  · right; omega
  · right; omega
  · right; omega
/-- one cell of both tables -/
theorem far_cell {p1 p2 p3 p4 p5 q1 q2 q3 q4 q5 m : Nat} (h1 : (p1 = q1 ∧ p1 ≤ 2800) ∨ (p1 = 268435456 ∧ q1 = 1000000)) (h2 : (p2 = q2 ∧ p2 ≤ 2800) ∨ (p2 = 268435456 ∧ q2 = 1000000)) (h3 : (p3 = q3 ∧ p3 ≤ 2800) ∨ (p3 = 268435456 ∧ q3 = 1000000)) (h4 : (p4 = q4 ∧ p4 ≤ 2800) ∨ (p4 = 268435456 ∧ q4 = 1000000)) (h5 : (p5 = q5 ∧ p5 ≤ 2800) ∨ (p5 = 268435456 ∧ q5 = 1000000)) (hm : m ≤ 400) :
    (p5 ≤ 2800 → min p5 (min (p1 + p2) (p3 + p4) + m) = min q5 (min (q1 + m + q2) (q3 + m + q4)) ∧ min p5 (min (p1 + p2) (p3 + p4) + m) ≤ p5) ∧
    (p1 ≤ 2800 → p2 ≤ 2800 → min p5 (min (p1 + p2) (p3 + p4) + m) = min q5 (min (q1 + m + q2) (q3 + m + q4)) ∧ min p5 (min (p1 + p2) (p3 + p4) + m) ≤ p1 + p2 + m) ∧
    (p3 ≤ 2800 → p4 ≤ 2800 → min p5 (min (p1 + p2) (p3 + p4) + m) = min q5 (min (q1 + m + q2) (q3 + m + q4)) ∧ min p5 (min (p1 + p2) (p3 + p4) + m) ≤ p3 + p4 + m) ∧
    (p5 = 268435456 → ¬ (p1 ≤ 2800 ∧ p2 ≤ 2800) → ¬ (p3 ≤ 2800 ∧ p4 ≤ 2800) → min p5 (min (p1 + p2) (p3 + p4) + m) = 268435456 ∧ min q5 (min (q1 + m + q2) (q3 + m + q4)) = 1000000) := by
  have k1 := far_path (m := m) h1 h2
  have k2 := far_path (m := m) h3 h4
  generalize hX : p1 + p2 = X at k1 ⊢
  generalize hY : p3 + p4 = Y at k2 ⊢
  generalize hX' : q1 + m + q2 = X' at k1 ⊢
  generalize hY' : q3 + m + q4 = Y' at k2 ⊢
  clear h1 h2 h3 h4 hX' hY'
  rcases k1 with ⟨a1, a2, a4, a3⟩ | ⟨a1, a2, a3⟩ <;> rcases k2 with ⟨c1, c2, c4, c3⟩ | ⟨c1, c2, c3⟩ <;> rcases h5 with ⟨d1, d2⟩ | ⟨d1, d2⟩ <;> refine ⟨fun _ => ?_, fun z1 z2 => ?_, fun z1 z2 => ?_, fun _ z1 z2 => ?_⟩ <;> omega
def FV (p q : Nat) : Prop := (p = q ∧ p ≤ 2800) ∨ (p = 268435456 ∧ q = 1000000)
theorem FV.bd {p q : Nat} (h : FV p q) : p ≤ 268435456 ∧ q ≤ 1000000 := by
  unfold FV at h
  omega
def FC (p1 p2 p3 p4 p5 m P Q : Nat) : Prop :=
    (p5 ≤ 2800 → P = Q ∧ P ≤ p5) ∧ (p1 ≤ 2800 → p2 ≤ 2800 → P = Q ∧ P ≤ p1 + p2 + m) ∧ (p3 ≤ 2800 → p4 ≤ 2800 → P = Q ∧ P ≤ p3 + p4 + m) ∧ (p5 = 268435456 → ¬ (p1 ≤ 2800 ∧ p2 ≤ 2800) → ¬ (p3 ≤ 2800 ∧ p4 ≤ 2800) → P = 268435456 ∧ Q = 1000000)
theorem FC.of {p1 p2 p3 p4 p5 q1 q2 q3 q4 q5 m : Nat} (h1 : FV p1 q1) (h2 : FV p2 q2) (h3 : FV p3 q3) (h4 : FV p4 q4) (h5 : FV p5 q5) (hm : m ≤ 400) : FC p1 p2 p3 p4 p5 m (min p5 (min (p1 + p2) (p3 + p4) + m)) (min q5 (min (q1 + m + q2) (q3 + m + q4))) := far_cell h1 h2 h3 h4 h5 hm
def RC (c : Nat → Nat) (a b : Nat) (D : Nat → Nat → Prop) (f g : Nat → Int32) : Prop := ∀ x y, x < 8 → y < 8 → ∃ p q, nn (f (8 * x + y)) p ∧ nn (g (8 * x + y)) q ∧ (c x = c y → p = q ∧ p ≤ 400 * (cntR c (c x) 8 - 1)) ∧ (c x ≠ c y → jn c a b x = jn c a b y → (p = q ∧ p ≤ 400 * (cntR (jn c a b) (jn c a b x) 8 - 1)) ∨ (p = 268435456 ∧ q = 1000000 ∧ ¬ D x y)) ∧ (jn c a b x ≠ jn c a b y → p = 268435456 ∧ q = 1000000)
def RDc (c : Nat → Nat) (f g : Nat → Int32) : Prop := ∀ x y, x < 8 → y < 8 → ∃ p q, nn (f (8 * x + y)) p ∧ nn (g (8 * x + y)) q ∧ (c x = c y → p = q ∧ p ≤ 400 * (cntR c (c x) 8 - 1)) ∧ (c x ≠ c y → p = 268435456 ∧ q = 1000000)
theorem jn_eq {c : Nat → Nat} {a b x y : Nat} (h : c x = c y) : jn c a b x = jn c a b y := by unfold jn; rw [h]
theorem RC.of {c : Nat → Nat} {f g : Nat → Int32} (h : RDc c f g) (a b : Nat) : RC c a b (fun _ _ => False) f g := by
  intro x y hx hy
  obtain ⟨p, q, h1, h2, h3, h4⟩ := h x y hx hy
  exact ⟨p, q, h1, h2, h3, fun e _ => Or.inr ⟨(h4 e).1, (h4 e).2, fun q => q⟩, fun e => h4 (fun q => e (jn_eq q))⟩
theorem RC.to {c : Nat → Nat} {f g : Nat → Int32} {a b : Nat} {D : Nat → Nat → Prop} (h : RC c a b D f g) (hD : ∀ x y, x < 8 → y < 8 → D x y) : RDc (jn c a b) f g := by
  intro x y hx hy
  obtain ⟨p, q, h1, h2, h3, h4, h5⟩ := h x y hx hy
  refine ⟨p, q, h1, h2, fun e => ?_, h5⟩
  by_cases e2 : c x = c y
  · obtain ⟨g1, g2⟩ := h3 e2
    have := cntR_ge (c := c) (a := a) (b := b) (x := x)
    exact ⟨g1, by omega⟩
  · rcases h4 e2 e with h6 | h6
    · exact h6
    · exact absurd (hD x y hx hy) h6.2.2
theorem RC.val {c : Nat → Nat} {f g : Nat → Int32} {a b : Nat} {D : Nat → Nat → Prop} (h : RC c a b D f g) {x y : Nat} (hx : x < 8) (hy : y < 8) : ∃ p q, nn (f (8 * x + y)) p ∧ nn (g (8 * x + y)) q ∧ FV p q ∧ (c x = c y → p = q ∧ p ≤ 400 * (cntR c (c x) 8 - 1)) ∧ (p ≤ 2800 → jn c a b x = jn c a b y) ∧ (c x ≠ c y → jn c a b x = jn c a b y → (p = q ∧ p ≤ 400 * (cntR (jn c a b) (jn c a b x) 8 - 1)) ∨ (p = 268435456 ∧ q = 1000000 ∧ ¬ D x y)) ∧ (jn c a b x ≠ jn c a b y → p = 268435456 ∧ q = 1000000) := by
  obtain ⟨p, q, h1, h2, h3, h4, h5⟩ := h x y hx hy
  have b1 := cntR_le c (c x) 8
  have b2 := cntR_le (jn c a b) (jn c a b x) 8
  refine ⟨p, q, h1, h2, ?_, h3, fun hp => ?_, h4, h5⟩
  · unfold FV
    by_cases e : c x = c y
    · have := h3 e; left; omega
    · by_cases e2 : jn c a b x = jn c a b y
      · rcases h4 e e2 with h6 | h6
        · left; omega
        · right; omega
      · right; exact h5 e2
  · by_cases e2 : jn c a b x = jn c a b y
    · exact e2
    · have := (h5 e2).1; omega
set_option maxHeartbeats 1000000 in
theorem RC.step {c : Nat → Nat} {f g : Nat → Int32} {a b m : Nat} {mm : Int32} {D : Nat → Nat → Prop} (h : RC c a b D f g) (ha : a < 8) (hb : b < 8) (hmm : nn mm m) (hm : m ≤ 400) {x y : Nat} (hx : x < 8) (hy : y < 8) {F G : Int32}
    (hF : F = if f (8 * x + y) ≤ (if f (8 * x + b) + f (8 * a + y) < f (8 * x + a) + f (8 * b + y) then f (8 * x + b) + f (8 * a + y) else f (8 * x + a) + f (8 * b + y)) + mm then f (8 * x + y) else (if f (8 * x + b) + f (8 * a + y) < f (8 * x + a) + f (8 * b + y) then f (8 * x + b) + f (8 * a + y) else f (8 * x + a) + f (8 * b + y)) + mm)
    (hG : G = if (if g (8 * x + b) + mm + g (8 * a + y) < g (8 * x + a) + mm + g (8 * b + y) then g (8 * x + b) + mm + g (8 * a + y) else g (8 * x + a) + mm + g (8 * b + y)) < g (8 * x + y) then (if g (8 * x + b) + mm + g (8 * a + y) < g (8 * x + a) + mm + g (8 * b + y) then g (8 * x + b) + mm + g (8 * a + y) else g (8 * x + a) + mm + g (8 * b + y)) else g (8 * x + y)) :
    RC c a b (fun x' y' => D x' y' ∨ (x' = x ∧ y' = y)) (upd f (8 * x + y) F) (upd g (8 * x + y) G) := by
  obtain ⟨p1, q1, f1, g1, v1, s1, j1, -, -⟩ := h.val hx ha
  obtain ⟨p2, q2, f2, g2, v2, s2, j2, -, -⟩ := h.val hb hy
  obtain ⟨p3, q3, f3, g3, v3, s3, j3, -, -⟩ := h.val hx hb
  obtain ⟨p4, q4, f4, g4, v4, s4, j4, -, -⟩ := h.val ha hy
  obtain ⟨p5, q5, f5, g5, v5, s5, j5, t5, u5⟩ := h.val hx hy
  have cell := FC.of v1 v2 v3 v4 v5 hm
  obtain ⟨b1, d1⟩ := v1.bd
  obtain ⟨b2, d2⟩ := v2.bd
  obtain ⟨b3, d3⟩ := v3.bd
  obtain ⟨b4, d4⟩ := v4.bd
  obtain ⟨b5, d5⟩ := v5.bd
  have hM5 := v5
  have nF : nn F (min p5 (min (p1 + p2) (p3 + p4) + m)) := by
    have e1 := nn_add (nn_min (nn_add f1 f2 (by omega)) (nn_add f3 f4 (by omega))) hmm (by omega)
    rw [hF]
    by_cases hle : f (8 * x + y) ≤ (if f (8 * x + b) + f (8 * a + y) < f (8 * x + a) + f (8 * b + y) then f (8 * x + b) + f (8 * a + y) else f (8 * x + a) + f (8 * b + y)) + mm
    · rw [if_pos hle]
      have := (nn_le f5 e1).mp hle
      rw [show min p5 (min (p1 + p2) (p3 + p4) + m) = p5 by omega]
      exact f5
    · rw [if_neg hle]
      have : ¬ p5 ≤ min (p1 + p2) (p3 + p4) + m := fun q => hle ((nn_le f5 e1).mpr q)
      rw [show min p5 (min (p1 + p2) (p3 + p4) + m) = min (p1 + p2) (p3 + p4) + m by omega]
      exact e1
  have nG : nn G (min q5 (min (q1 + m + q2) (q3 + m + q4))) := by
    rw [hG]
    exact nn_min g5 (nn_min (nn_add (nn_add g1 hmm (by omega)) g2 (by omega)) (nn_add (nn_add g3 hmm (by omega)) g4 (by omega)))
  generalize min p5 (min (p1 + p2) (p3 + p4) + m) = P at cell nF
  generalize min q5 (min (q1 + m + q2) (q3 + m + q4)) = Q at cell nG
  clear hF hG
  intro x' y' hx' hy'
  by_cases e : 8 * x' + y' = 8 * x + y
  · have ex : x' = x := by omega
    have ey : y' = y := by omega
    subst ex
    subst ey
    rw [upd_s, upd_s]
    refine ⟨_, _, nF, nG, fun e1 => ?_, fun e1 e2 => ?_, fun e1 => ?_⟩
    · have h6 := s5 e1
      have b1 := cntR_le c (c x') 8
      have := cell.1 (by omega)
      exact ⟨this.1, by omega⟩
    · left
      by_cases h6 : p5 ≤ 2800
      · rcases t5 e1 e2 with h7 | h7
        · have := cell.1 h6
          exact ⟨this.1, by omega⟩
        · omega
      · have hab : c a ≠ c b := fun hab => e1 (by
          unfold jn at e2
          by_cases k1 : c x' = c b
          · by_cases k2 : c y' = c b
            · rw [k1, k2]
            · rw [if_pos k1, if_neg k2] at e2
              rw [k1, ← hab, e2]
          · by_cases k2 : c y' = c b
            · rw [if_neg k1, if_pos k2] at e2
              rw [k2, ← hab, e2]
            · rw [if_neg k1, if_neg k2] at e2
              exact e2)
        have hj := cntR_jn hab 8
        have pa := cntR_pos (c := c) 8 ha
        have pb := cntR_pos (c := c) 8 hb
        have la := cntR_le c (c a) 8
        have lb := cntR_le c (c b) 8
        by_cases k1 : c x' = c b
        · have k2 : c y' = c a := by
            have k3 : ¬ c y' = c b := fun q => e1 (k1.trans q.symm)
            unfold jn at e2
            rw [if_pos k1, if_neg k3] at e2
            exact e2.symm
          have r3 := s3 k1
          have r4 := s4 k2.symm
          have := cell.2.2.1 (by rw [k1] at r3; omega) (by omega)
          refine ⟨this.1, ?_⟩
          have ej : jn c a b x' = c a := by unfold jn; rw [if_pos k1]
          rw [ej, hj]
          rw [k1] at r3
          omega
        · have k2 : c y' = c b := by
            unfold jn at e2
            rw [if_neg k1] at e2
            by_cases k3 : c y' = c b
            · exact k3
            · rw [if_neg k3] at e2
              exact absurd e2 e1
          have k4 : c x' = c a := by
            unfold jn at e2
            rw [if_neg k1, if_pos k2] at e2
            exact e2
          have r1 := s1 k4
          have r2 := s2 k2.symm
          have := cell.2.1 (by rw [k4] at r1; omega) (by omega)
          refine ⟨this.1, ?_⟩
          have ej : jn c a b x' = c a := by unfold jn; rw [if_neg k1]; exact k4
          rw [ej, hj]
          rw [k4] at r1
          omega
    · have ejab : jn c a b a = jn c a b b := by
        unfold jn
        rw [if_pos (rfl : c b = c b)]
        split <;> rfl
      refine cell.2.2.2 (u5 e1).1 (fun q => e1 ?_) (fun q => e1 ?_)
      · exact (j1 q.1).trans (ejab.trans (j2 q.2))
      · exact (j3 q.1).trans (ejab.symm.trans (j4 q.2))
  · rw [upd_o _ _ e, upd_o _ _ e]
    obtain ⟨p, q, h1, h2, h3, h4, h5⟩ := h x' y' hx' hy'
    refine ⟨p, q, h1, h2, h3, fun e1 e2 => (h4 e1 e2).imp id (fun z => ⟨z.1, z.2.1, fun w => ?_⟩), h5⟩
    rcases w with w | w
    · exact z.2.2 w
    · exact e (by rw [w.1, w.2])
