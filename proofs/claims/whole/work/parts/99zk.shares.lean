/-! SEND: shares of spares, on their own -/
/-- how many of the first i have field f -/
def cntS (s : Nat → Nat) (f : Nat) : Nat → Nat
  | 0 => 0
  | i + 1 => cntS s f i + if s i = f then 1 else 0
/-- what the served ones among the first i cost -/
def kstS (q : Nat → Nat → Nat) (s : Nat → Nat) : Nat → Nat
  | 0 => 0
  | i + 1 => kstS q s i + if s i = 8 then 0 else q (s i) i * 43046721 + s i * 9 ^ (7 - i)
/-- what the others cost -/
def ustS (s : Nat → Nat) : Nat → Nat
  | 0 => 0
  | i + 1 => ustS s i + if s i = 8 then 176319369216 + 8 * 9 ^ (7 - i) else 0
def unS (s : Nat → Nat) : Nat → Nat
  | 0 => 0
  | i + 1 => unS s i + if s i = 8 then 1 else 0
def quS (q : Nat → Nat → Nat) (s : Nat → Nat) : Nat → Nat
  | 0 => 0
  | i + 1 => quS q s i + if s i = 8 then 0 else q (s i) i
def dgS (s : Nat → Nat) : Nat → Nat
  | 0 => 0
  | i + 1 => dgS s i + s i * 9 ^ (7 - i)
def totS (q : Nat → Nat → Nat) (s : Nat → Nat) (n : Nat) : Nat := kstS q s n + ustS s n
theorem tot_eq (q : Nat → Nat → Nat) (s : Nat → Nat) : ∀ n, totS q s n = (unS s n * 4096 + quS q s n) * 43046721 + dgS s n := by
  intro n
  unfold totS
  induction n with
  | zero => simp only [kstS, ustS, unS, quS, dgS, Nat.zero_mul, Nat.add_zero]
  | succ n ih =>
    unfold kstS ustS unS quS dgS
    by_cases c : s n = 8
    · rw [if_pos c, if_pos c, if_pos c, if_pos c, c]; omega
    · rw [if_neg c, if_neg c, if_neg c, if_neg c]; omega
theorem dg_up {s : Nat → Nat} {n : Nat} (h : ∀ i, i < n → s i ≤ 8) (n8 : n ≤ 8) : ∀ d i, i + d = n → dgS s n + 9 ^ (8 - n) ≤ dgS s i + 9 ^ (8 - i) := by
  intro d
  induction d with
  | zero => intro i hi; rw [show i = n by omega]; exact Nat.le_refl _
  | succ d ih =>
    intro i hi
    have a := ih (i + 1) (by omega)
    have b : dgS s (i + 1) = dgS s i + s i * 9 ^ (7 - i) := rfl
    have c : 9 ^ (8 - i) = 9 * 9 ^ (7 - i) := by rw [show 8 - i = 7 - i + 1 by omega, Nat.pow_succ]; omega
    have e : s i * 9 ^ (7 - i) ≤ 8 * 9 ^ (7 - i) := Nat.mul_le_mul_right _ (h i (by omega))
    rw [show 8 - (i + 1) = 7 - i by omega] at a
    omega
theorem dg_mono (s : Nat → Nat) : ∀ d i, dgS s i ≤ dgS s (i + d) := by
  intro d
  induction d with
  | zero => intro i; exact Nat.le_refl _
  | succ d ih => intro i; exact Nat.le_trans (ih i) (Nat.le_add_right _ _)
theorem dg_lt {s : Nat → Nat} {n : Nat} (h : ∀ i, i < n → s i ≤ 8) (n8 : n ≤ 8) : dgS s n < 43046721 := by
  have := dg_up h n8 n 0 (by omega)
  have p : 0 < 9 ^ (8 - n) := Nat.pow_pos (by decide)
  have e : dgS s 0 = 0 := rfl
  rw [e, show 9 ^ (8 - 0) = 43046721 by decide] at this
  omega
theorem dg_congr {s t : Nat → Nat} : ∀ n, (∀ i, i < n → s i = t i) → dgS s n = dgS t n := by
  intro n
  induction n with
  | zero => intro _; rfl
  | succ n ih => intro h; show dgS s n + _ = dgS t n + _; rw [ih (fun i hi => h i (by omega)), h n (by omega)]
/-- earlier in the order of the fields: a smaller number -/
theorem dg_lex {s t : Nat → Nat} {n i : Nat} (h : ∀ i, i < n → s i ≤ 8) (n8 : n ≤ 8) (hi : i < n) (e : ∀ j, j < i → s j = t j) (l : s i < t i) : dgS s n < dgS t n := by
  have a := dg_up h n8 (n - (i + 1)) (i + 1) (by omega)
  have b : dgS s (i + 1) = dgS s i + s i * 9 ^ (7 - i) := rfl
  have c : dgS t (i + 1) = dgS t i + t i * 9 ^ (7 - i) := rfl
  have d := dg_congr i e
  have m := dg_mono t (n - (i + 1)) (i + 1)
  rw [show i + 1 + (n - (i + 1)) = n by omega] at m
  have p : 0 < 9 ^ (8 - n) := Nat.pow_pos (by decide)
  have f : s i * 9 ^ (7 - i) + 9 ^ (7 - i) ≤ t i * 9 ^ (7 - i) := by
    have := Nat.mul_le_mul_right (9 ^ (7 - i)) l
    rw [Nat.succ_mul] at this
    exact this
  rw [show 8 - (i + 1) = 7 - i by omega] at a
  omega
theorem dg_mul (s : Nat → Nat) : ∀ i, i ≤ 8 → ∃ A, dgS s i = A * 9 ^ (8 - i) := by
  intro i
  induction i with
  | zero => intro _; exact ⟨0, by rw [Nat.zero_mul]; rfl⟩
  | succ i ih =>
    intro h
    obtain ⟨A, hA⟩ := ih (by omega)
    refine ⟨A * 9 + s i, ?_⟩
    show dgS s i + s i * 9 ^ (7 - i) = _
    rw [hA, show 8 - i = 7 - i + 1 by omega, Nat.pow_succ, show 8 - (i + 1) = 7 - i by omega, Nat.add_mul, Nat.mul_comm (9 ^ (7 - i)) 9, ← Nat.mul_assoc]
/-- the digits out of the number -/
theorem dg_get {s : Nat → Nat} {n i : Nat} (h : ∀ i, i < n → s i ≤ 8) (n8 : n ≤ 8) (hi : i < n) (K : Nat) : (K * 43046721 + dgS s n) / 9 ^ (7 - i) % 9 = s i := by
  obtain ⟨A, hA⟩ := dg_mul s i (by omega)
  have a := dg_up h n8 (n - (i + 1)) (i + 1) (by omega)
  have b : dgS s (i + 1) = dgS s i + s i * 9 ^ (7 - i) := rfl
  have m := dg_mono s (n - (i + 1)) (i + 1)
  rw [show i + 1 + (n - (i + 1)) = n by omega] at m
  have p : 0 < 9 ^ (8 - n) := Nat.pow_pos (by decide)
  have pp : 0 < 9 ^ (7 - i) := Nat.pow_pos (by decide)
  rw [show 8 - (i + 1) = 7 - i by omega] at a
  obtain ⟨r, hr⟩ : ∃ r, dgS s n = dgS s (i + 1) + r := ⟨dgS s n - dgS s (i + 1), by omega⟩
  have rl : r < 9 ^ (7 - i) := by omega
  have e8 : 9 ^ (8 - i) = 9 * 9 ^ (7 - i) := by rw [show 8 - i = 7 - i + 1 by omega, Nat.pow_succ, Nat.mul_comm]
  have e9 : 43046721 = 9 ^ i * (9 * 9 ^ (7 - i)) := by
    rw [← e8, ← Nat.pow_add, show i + (8 - i) = 8 by omega]
  have tot : K * 43046721 + dgS s n = (9 * (K * 9 ^ i + A) + s i) * 9 ^ (7 - i) + r := by
    rw [hr, b, hA, e8, e9]
    simp only [Nat.add_mul, Nat.mul_add, Nat.mul_assoc, Nat.mul_left_comm, Nat.add_assoc]
  rw [tot, Nat.mul_comm _ (9 ^ (7 - i)), Nat.mul_add_div pp, Nat.div_eq_of_lt rl, Nat.add_zero]
  have := h i hi
  omega
/-- a share that n planes, the ways and the spares allow -/
def okS (n : Nat) (wy : Nat → Nat → Bool) (cap : Nat → Nat) (s : Nat → Nat) : Prop := (∀ i, i < n → s i ≤ 8 ∧ (s i < 8 → wy (s i) i = true)) ∧ ∀ f, f < 8 → cntS s f n ≤ cap f
theorem cnt_upd {s : Nat → Nat} {f i x : Nat} : ∀ n, n ≤ i → cntS (fun j => if j = i then x else s j) f n = cntS s f n := by
  intro n
  induction n with
  | zero => intro _; rfl
  | succ n ih =>
    intro h
    show cntS _ f n + (if (if n = i then x else s n) = f then 1 else 0) = cntS s f n + _
    rw [ih (by omega), if_neg (show ¬ n = i by omega)]
theorem cnt_upd' {s : Nat → Nat} {f i x : Nat} : ∀ n, i < n → cntS (fun j => if j = i then x else s j) f n + (if s i = f then 1 else 0) = cntS s f n + (if x = f then 1 else 0) := by
  intro n
  induction n with
  | zero => intro h; exact absurd h (Nat.not_lt_zero _)
  | succ n ih =>
    intro h
    show cntS _ f n + (if (if n = i then x else s n) = f then 1 else 0) + _ = cntS s f n + (if s n = f then 1 else 0) + _
    by_cases c : n = i
    · rw [if_pos c, c, cnt_upd i (Nat.le_refl _)]; omega
    · have := ih (by omega)
      rw [if_neg c]; omega
theorem kst_upd {q : Nat → Nat → Nat} {s : Nat → Nat} {i x : Nat} : ∀ n, n ≤ i → kstS q (fun j => if j = i then x else s j) n = kstS q s n := by
  intro n
  induction n with
  | zero => intro _; rfl
  | succ n ih =>
    intro h
    unfold kstS
    rw [ih (by omega), if_neg (show ¬ n = i by omega)]
/-- one served one less -/
theorem kst_off {q : Nat → Nat → Nat} {s : Nat → Nat} {i : Nat} (si : s i ≠ 8) : ∀ n, i < n → kstS q (fun j => if j = i then 8 else s j) n + (q (s i) i * 43046721 + s i * 9 ^ (7 - i)) = kstS q s n := by
  intro n
  induction n with
  | zero => intro h; exact absurd h (Nat.not_lt_zero _)
  | succ n ih =>
    intro h
    by_cases c : n = i
    · subst c
      unfold kstS
      rw [kst_upd n (Nat.le_refl _), if_pos rfl, if_pos rfl, if_neg si]; omega
    · have := ih (by omega)
      unfold kstS
      rw [if_neg c]; omega
/-- one served one more -/
theorem kst_on {q : Nat → Nat → Nat} {s : Nat → Nat} {i f : Nat} (si : s i = 8) (f8 : f ≠ 8) : ∀ n, i < n → kstS q (fun j => if j = i then f else s j) n = kstS q s n + (q f i * 43046721 + f * 9 ^ (7 - i)) := by
  intro n
  induction n with
  | zero => intro h; exact absurd h (Nat.not_lt_zero _)
  | succ n ih =>
    intro h
    by_cases c : n = i
    · subst c
      unfold kstS
      rw [kst_upd n (Nat.le_refl _), if_pos rfl, if_neg f8, if_pos si, Nat.add_zero]
    · have := ih (by omega)
      unfold kstS
      rw [if_neg c]; omega
theorem cnt_some {s : Nat → Nat} {f : Nat} : ∀ n, 0 < cntS s f n → ∃ i, i < n ∧ s i = f := by
  intro n
  induction n with
  | zero => intro h; exact absurd h (Nat.lt_irrefl _)
  | succ n ih =>
    intro h
    by_cases c : s n = f
    · exact ⟨n, by omega, c⟩
    · have u : cntS s f (n + 1) = cntS s f n + if s n = f then 1 else 0 := rfl
      rw [if_neg c] at u
      obtain ⟨i, a, b⟩ := ih (by omega)
      exact ⟨i, by omega, b⟩
/-- the table: L at a set is the least cost of serving just that set -/
def stS (n : Nat) (s : Nat → Nat) (m : Nat) : Prop := ∀ i, i < n → (m.testBit i = true ↔ s i ≠ 8)
def DPt (n : Nat) (q : Nat → Nat → Nat) (wy : Nat → Nat → Bool) (cap : Nat → Nat) (L : Nat → Nat) : Prop := ∀ m, m < 2 ^ n → L m ≤ 1152921504606846976 ∧ (∀ s, okS n wy cap s → stS n s m → L m ≤ kstS q s n) ∧ (L m = 1152921504606846976 ∨ ∃ s, okS n wy cap s ∧ stS n s m ∧ L m = kstS q s n)
/-- the price of field f for plane i -/
def prS (q : Nat → Nat → Nat) (wy : Nat → Nat → Bool) (f i : Nat) : Nat := if wy f i = true then q f i * 43046721 + f * 9 ^ (7 - i) else 1152921504606846976
/-- one spare more of field f -/
theorem DP_offer {n f : Nat} {q : Nat → Nat → Nat} {wy : Nat → Nat → Bool} {cap L L' : Nat → Nat} (h : DPt n q wy cap L) (f8 : f < 8) (h1 : ∀ m, m < 2 ^ n → L' m ≤ L m ∧ ∀ i, i < n → m.testBit i = true → L' m ≤ L (m - 2 ^ i) + prS q wy f i) (h2 : ∀ m, m < 2 ^ n → L' m = L m ∨ ∃ i, i < n ∧ m.testBit i = true ∧ L' m = L (m - 2 ^ i) + prS q wy f i ∧ L' m < L m) (hsub : ∀ m i, m < 2 ^ n → i < n → m.testBit i = true → m - 2 ^ i < 2 ^ n ∧ ∀ j, j < n → ((m - 2 ^ i).testBit j = true ↔ m.testBit j = true ∧ j ≠ i)) : DPt n q wy (fun g => if g = f then cap f + 1 else cap g) L' := by
  intro m hm
  obtain ⟨a1, a2, a3⟩ := h m hm
  obtain ⟨b1, b2⟩ := h1 m hm
  refine ⟨Nat.le_trans b1 a1, fun s hs hst => ?_, ?_⟩
  · by_cases c : cntS s f n ≤ cap f
    · refine Nat.le_trans b1 (a2 s ⟨hs.1, fun g hg => ?_⟩ hst)
      by_cases e : g = f
      · rw [e]; exact c
      · have := hs.2 g hg
        simp only [if_neg e] at this
        exact this
    · obtain ⟨i, i1, i2⟩ := cnt_some n (show 0 < cntS s f n by omega)
      have si : s i ≠ 8 := by omega
      have ti := (hst i i1).mpr si
      obtain ⟨d1, d2⟩ := hsub m i hm i1 ti
      have wi : wy f i = true := by
        have := (hs.1 i i1).2 (by omega)
        rw [i2] at this; exact this
      have ok' : okS n wy cap (fun j => if j = i then 8 else s j) := ⟨fun j hj => by
        by_cases e : j = i
        · simp only [if_pos e]; exact ⟨Nat.le_refl _, fun z => absurd z (by decide)⟩
        · simp only [if_neg e]; exact hs.1 j hj, fun g hg => by
        have u := cnt_upd' (s := s) (f := g) (i := i) (x := 8) n i1
        have v := hs.2 g hg
        rw [if_neg (show ¬ 8 = g by omega)] at u
        by_cases e : g = f
        · simp only [if_pos e] at v
          rw [if_pos (show s i = g by omega)] at u
          rw [e] at u v ⊢; omega
        · simp only [if_neg e] at v
          rw [if_neg (show ¬ s i = g by omega)] at u
          omega⟩
      have st' : stS n (fun j => if j = i then 8 else s j) (m - 2 ^ i) := fun j hj => by
        rw [d2 j hj, hst j hj]
        show _ ↔ (if j = i then 8 else s j) ≠ 8
        by_cases e : j = i
        · rw [if_pos e]; exact ⟨fun z => absurd e z.2, fun z => absurd rfl z⟩
        · rw [if_neg e]; exact ⟨fun z => z.1, fun z => ⟨z, e⟩⟩
      have x1 := (h _ d1).2.1 _ ok' st'
      have x2 := b2 i i1 ti
      have x3 := kst_off (q := q) si n i1
      unfold prS at x2
      rw [if_pos wi] at x2
      rw [i2] at x3
      omega
  · have capm : ∀ s, okS n wy cap s → okS n wy (fun g => if g = f then cap f + 1 else cap g) s := fun s hs => ⟨hs.1, fun g hg => by
      have := hs.2 g hg
      by_cases e : g = f
      · simp only [if_pos e]; rw [e] at this ⊢; omega
      · simp only [if_neg e]; exact this⟩
    rcases h2 m hm with e | ⟨i, i1, ti, e, lt⟩
    · rw [e]
      rcases a3 with z | ⟨s, s1, s2, s3⟩
      · exact Or.inl z
      · exact Or.inr ⟨s, capm s s1, s2, s3⟩
    · obtain ⟨d1, d2⟩ := hsub m i hm i1 ti
      obtain ⟨c1, c2, c3⟩ := h _ d1
      have wi : wy f i = true := by
        cases w : wy f i with
        | true => rfl
        | false =>
          unfold prS at e
          rw [w, if_neg (by decide)] at e
          omega
      unfold prS at e
      rw [if_pos wi] at e
      rcases c3 with z | ⟨s, s1, s2, s3⟩
      · omega
      have si : s i = 8 := by
        by_cases y : s i = 8
        · exact y
        · exact absurd rfl ((d2 i i1).mp ((s2 i i1).mpr y)).2
      refine Or.inr ⟨fun j => if j = i then f else s j, ⟨fun j hj => ?_, fun g hg => ?_⟩, fun j hj => ?_, ?_⟩
      · by_cases y : j = i
        · simp only [if_pos y]; rw [y]; exact ⟨by omega, fun _ => wi⟩
        · simp only [if_neg y]; exact s1.1 j hj
      · have u := cnt_upd' (s := s) (f := g) (i := i) (x := f) n i1
        have v := s1.2 g hg
        rw [if_neg (show ¬ s i = g by omega)] at u
        by_cases y : g = f
        · simp only [if_pos y]
          rw [if_pos y.symm] at u
          rw [y] at u v ⊢; omega
        · simp only [if_neg y]
          rw [if_neg (fun z => y z.symm)] at u
          omega
      · by_cases y : j = i
        · simp only [if_pos y]; rw [y]; exact ⟨fun _ => by omega, fun _ => ti⟩
        · simp only [if_neg y]
          rw [← s2 j hj, d2 j hj]
          exact ⟨fun z => ⟨z, y⟩, fun z => z.1⟩
      · rw [kst_on si (by omega) n i1, e, s3]
