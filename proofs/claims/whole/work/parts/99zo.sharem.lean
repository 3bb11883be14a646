/-! SEND: the reference's bound -/
def fI (x : Nat) : Int32 := if x = 8 then -1 else Int32.ofNat x
def exS (t : Nat → Nat) (i : Nat) (s : Nat → Nat) : Prop := ∀ j, j < i → s j = t j
theorem cnt_c {s t : Nat → Nat} {f : Nat} : ∀ i, (∀ j, j < i → s j = t j) → cntS s f i = cntS t f i := by
  intro i
  induction i with
  | zero => intro _; rfl
  | succ i ih => intro h; show cntS s f i + _ = cntS t f i + _; rw [ih (fun j hj => h j (by omega)), h i (by omega)]
theorem un_c {s t : Nat → Nat} : ∀ i, (∀ j, j < i → s j = t j) → unS s i = unS t i := by
  intro i
  induction i with
  | zero => intro _; rfl
  | succ i ih => intro h; show unS s i + _ = unS t i + _; rw [ih (fun j hj => h j (by omega)), h i (by omega)]
theorem qu_c {q : Nat → Nat → Nat} {s t : Nat → Nat} : ∀ i, (∀ j, j < i → s j = t j) → quS q s i = quS q t i := by
  intro i
  induction i with
  | zero => intro _; rfl
  | succ i ih => intro h; unfold quS; rw [ih (fun j hj => h j (by omega)), h i (by omega)]
theorem tot_c {q : Nat → Nat → Nat} {s t : Nat → Nat} (n : Nat) (h : ∀ j, j < n → s j = t j) : totS q s n = totS q t n := by
  rw [tot_eq, tot_eq, un_c n h, qu_c n h, dg_congr n h]
theorem cnt_mono (s : Nat → Nat) (f : Nat) : ∀ d i, cntS s f i ≤ cntS s f (i + d) := by
  intro d
  induction d with
  | zero => intro i; exact Nat.le_refl _
  | succ d ih => intro i; exact Nat.le_trans (ih i) (Nat.le_add_right _ _)
theorem cnt_ge {s : Nat → Nat} {f i j n : Nat} (a : i ≤ j) (b : j < n) (c : s j = f) : cntS s f i + 1 ≤ cntS s f n := by
  have x := cnt_mono s f (j - i) i
  rw [show i + (j - i) = j by omega] at x
  have y := cnt_mono s f (n - (j + 1)) (j + 1)
  rw [show j + 1 + (n - (j + 1)) = n by omega] at y
  have z : cntS s f (j + 1) = cntS s f j + if s j = f then 1 else 0 := rfl
  rw [if_pos c] at z
  omega
theorem cnt_le (s : Nat → Nat) (f : Nat) : ∀ i, cntS s f i ≤ i := by
  intro i
  induction i with
  | zero => exact Nat.le_refl _
  | succ i ih =>
    have z : cntS s f (i + 1) = cntS s f i + if s i = f then 1 else 0 := rfl
    by_cases c : s i = f
    · rw [if_pos c] at z; omega
    · rw [if_neg c] at z; omega
/-- fewer unserved is less -/
theorem tot_U {q : Nat → Nat → Nat} {s t : Nat → Nat} {n : Nat} (a : unS s n < unS t n) (b : quS q s n ≤ 4095) (c : dgS s n < 43046721) : totS q s n ≤ totS q t n := by
  rw [tot_eq, tot_eq]; omega
theorem tot_Q {q : Nat → Nat → Nat} {s t : Nat → Nat} {n : Nat} (a : unS s n = unS t n) (b : quS q s n < quS q t n) (c : dgS s n < 43046721) : totS q s n ≤ totS q t n := by
  rw [tot_eq, tot_eq, a]; omega
theorem tot_D {q : Nat → Nat → Nat} {s t : Nat → Nat} {n : Nat} (a : unS s n = unS t n) (b : quS q s n = quS q t n) (c : dgS s n < dgS t n) : totS q s n ≤ totS q t n := by
  rw [tot_eq, tot_eq, a, b]; omega
def PMn (n nf : Nat) (pl ta : Nat → Nat) (q : Nat → Nat → Nat) (wy : Nat → Nat → Bool) (M : yS) : Prop := nn (M.1 8 59) n ∧ n ≤ 8 ∧ nf ≤ 8 ∧ nn (M.1 8 1) nf ∧ (∀ i, i < n → nn (M.2.1 8 58 i) (pl i) ∧ pl i < 8 ∧ nn (M.2.1 8 48 (19 + 23 * pl i + 0)) (ta i) ∧ ta i < 8) ∧ ∀ f, f < nf → ∀ i, i < n → (wy f i = true → ∃ v, nn (M.2.1 8 10 (8 * f + ta i)) v ∧ v ≤ 2800 ∧ q f i = (v + 8 - 1) / 8) ∧ (wy f i = false → M.2.1 8 10 (8 * f + ta i) = 268435456)
def pSd (o k : Nat) : Prop := o = 8 ∧ (k = 48 ∨ k = 60 ∨ k = 61 ∨ k = 62 ∨ k = 63)
theorem PMn_t {n nf : Nat} {pl ta : Nat → Nat} {q : Nat → Nat → Nat} {wy : Nat → Nat → Bool} {M M' : yS} (h : PMn n nf pl ta q wy M) (F : FR pSd M M') (w : ∀ j, (∀ f, f < 8 → j ≠ 4 + 2 * f) → M'.2.1 8 48 j = M.2.1 8 48 j) : PMn n nf pl ta q wy M' := by
  obtain ⟨h1, n8, nf8, h2, h3, h4⟩ := h
  refine ⟨by rw [(F 8 59 (by unfold pSd; omega)).1]; exact h1, n8, nf8, by rw [(F 8 1 (by unfold pSd; omega)).1]; exact h2, fun i hi => ?_, fun f hf i hi => ?_⟩
  · obtain ⟨a, b, c, d⟩ := h3 i hi
    exact ⟨by rw [(F 8 58 (by unfold pSd; omega)).2]; exact a, b, by rw [w _ (fun f hf => by omega)]; exact c, d⟩
  · rw [(F 8 10 (by unfold pSd; omega)).2]; exact h4 f hf i hi
theorem qm_le {n nf : Nat} {pl ta : Nat → Nat} {q : Nat → Nat → Nat} {wy : Nat → Nat → Bool} {M : yS} (h : PMn n nf pl ta q wy M) {f i : Nat} (hf : f < nf) (hi : i < n) (w : wy f i = true) : q f i ≤ 351 := by
  obtain ⟨v, _, a, b⟩ := (h.2.2.2.2.2 f hf i hi).1 w
  omega
theorem em_quar {N n nf f i : Nat} {pl ta : Nat → Nat} {q : Nat → Nat → Nat} {wy : Nat → Nat → Bool} {M : yS} (h : PMn n nf pl ta q wy M) (hf : f < nf) (hi : i < n) : f_X12_quarters N M (Int32.ofNat f) (M.2.1 8 58 i) = some (if wy f i = true then Int32.ofNat (q f i) else -1) := by
  obtain ⟨h1, n8, nf8, h2, h3, h4⟩ := h
  obtain ⟨a, b, c, d⟩ := h3 i hi
  have nf' := nn_lit f (by omega)
  unfold f_X12_quarters f_X12_quarters_0 f_X12_plane f_X12_plane_0 f_X12_quarters_33
  have ix : nn ((19 + (23 * M.2.1 8 58 i)) + 0) (19 + 23 * pl i + 0) := nn_add (nn_add (nn_l 19 (by decide)) (nn_mul (nn_l 23 (by decide)) a (by omega)) (by omega)) (nn_l 0 (by decide)) (by omega)
  rw [gA_nn ix (by omega), bV_s, gA_nn (nn_add (nn_mul (nn_l 8 (by decide)) nf' (by omega)) c (by omega)) (by omega)]
  cases w : wy f i with
  | true =>
    obtain ⟨v, v1, v2, v3⟩ := (h4 f hf i hi).1 w
    have r := rUp_nn v1 (nn_l 8 (by decide)) (by decide) (by omega)
    rw [if_pos ((nn_lt v1 (nn_l 268435456 (by decide))).mpr (by omega)), em_upR (nn_l 8 (by decide)) (by decide), bV_s, if_pos rfl, v3]
    exact congrArg some r.1
  | false =>
    rw [(h4 f hf i hi).2 w, if_neg (show ¬ (268435456 : Int32) < 268435456 by decide), if_neg (by decide)]
/-- what stands on the way to a share: t is fixed for the planes before i -/
def MSt (n nf i : Nat) (wy : Nat → Nat → Bool) (sp t : Nat → Nat) (M0 M : yS) : Prop := FR pSd M0 M ∧ (∀ j, (∀ f, f < 8 → j ≠ 4 + 2 * f) → M.2.1 8 48 j = M0.2.1 8 48 j) ∧ (∀ f, f < nf → nn (M.2.1 8 48 (4 + 2 * f)) (sp f - cntS t f i) ∧ cntS t f i ≤ sp f ∧ sp f ≤ 9) ∧ (∀ j, j < i → M.2.1 8 60 j = fI (t j) ∧ t j ≤ 8 ∧ (t j < 8 → t j < nf ∧ wy (t j) j = true))
/-- a plane to come and a field with a way: there is a spare left -/
theorem rem_pos {n nf i j f : Nat} {wy : Nat → Nat → Bool} {sp t s : Nat → Nat} (hs : okS n wy (capF n sp nf 0) s) (e : exS t i s) (a : i ≤ j) (b : j < n) (c : s j = f) (c8 : f < 8) : f < nf ∧ wy f j = true ∧ cntS t f i < sp f := by
  have x := cnt_ge (s := s) a b c
  rw [cnt_c i e] at x
  have y := hs.2 f c8
  have z : f < nf := Decidable.byContradiction fun z => by
    unfold capF at y
    rw [if_neg z] at y
    by_cases w : f = nf
    · rw [if_pos w] at y; omega
    · rw [if_neg w] at y; omega
  unfold capF at y
  rw [if_pos z] at y
  have w := (hs.1 j b).2 (by omega)
  rw [c] at w
  exact ⟨z, w, by omega⟩
theorem min_loop {N n nf i j : Nat} {pl ta : Nat → Nat} {q : Nat → Nat → Nat} {wy : Nat → Nat → Bool} {sp t : Nat → Nat} {M0 M : yS} {rk : yS → Int32 → Int32 → Int32 → Option (Int32 × yS)} {k9 : yS → Int32 → Int32 → Int32 → Int32 → Int32 → Int32 → Option (Int32 × yS)} {l1 l2 l3 l4 l5 : Int32} (h : PMn n nf pl ta q wy M) (hM : MSt n nf i wy sp t M0 M) (hj : j < n) : ∀ (d f k : Nat) (l7 : Int32), f + d = nf → d < k → ((l7 = -1 ∧ ∀ g, g < f → wy g j = true → ¬ cntS t g i < sp g) ∨ ∃ m, nn l7 m ∧ m ≤ 351 ∧ ∀ g, g < f → wy g j = true → cntS t g i < sp g → m ≤ q g j) → (∃ c, (c = -1 ∧ ∀ g, g < nf → wy g j = true → ¬ cntS t g i < sp g) ∧ f_X12_sendFrom_24 k N rk k9 M l1 l2 l3 l4 l5 (Int32.ofNat j) l7 (Int32.ofNat f) = k9 M l1 l2 l3 l4 l5 (Int32.ofNat (j + 1)) ∧ c = (-1 : Int32)) ∨ ∃ c m, nn c m ∧ m ≤ 351 ∧ (∀ g, g < nf → wy g j = true → cntS t g i < sp g → m ≤ q g j) ∧ f_X12_sendFrom_24 k N rk k9 M l1 l2 l3 l4 l5 (Int32.ofNat j) l7 (Int32.ofNat f) = k9 M l1 l2 l3 (l4 + 1) (l5 + c) (Int32.ofNat (j + 1)) := by
  have n8 : n ≤ 8 := h.2.1
  have nf8 : nf ≤ 8 := h.2.2.1
  have h2 := h.2.2.2.1
  intro d
  induction d with
  | zero =>
    intro f k l7 hf hk hl
    obtain ⟨k, rfl⟩ : ∃ x, k = x + 1 := ⟨k - 1, by omega⟩
    have e : f = nf := by omega
    subst e
    rw [f_X12_sendFrom_24, if_pos ((nn_le h2 (nn_lit f (by omega))).mpr (Nat.le_refl _))]
    unfold f_X12_sendFrom_112
    rw [y_int1]
    rcases hl with ⟨a, b⟩ | ⟨m, a, b, c⟩
    · rw [if_neg (fun z => z a)]
      exact Or.inl ⟨-1, ⟨rfl, b⟩, rfl, rfl⟩
    · rw [if_pos (show ¬ l7 = -1 from fun z => a.nneg (by rw [z]; decide))]
      exact Or.inr ⟨l7, m, a, b, c, rfl⟩
  | succ d ih =>
    intro f k l7 hf hk hl
    obtain ⟨k, rfl⟩ : ∃ x, k = x + 1 := ⟨k - 1, by omega⟩
    have nf' := nn_lit f (by omega)
    have nj := nn_lit j (by omega)
    have ix : nn ((3 + (2 * Int32.ofNat f)) + 1) (3 + 2 * f + 1) := nn_add (nn_add (nn_l 3 (by decide)) (nn_mul (nn_l 2 (by decide)) nf' (by omega)) (by omega)) (nn_l 1 (by decide)) (by omega)
    obtain ⟨r1, r2, r3⟩ := hM.2.2.1 f (by omega)
    rw [show 4 + 2 * f = 3 + 2 * f + 1 by omega] at r1
    rw [f_X12_sendFrom_24, if_neg (fun z => by have := (nn_le h2 nf').mp z; omega), gA_nn nj (by omega), em_quar h (by omega) hj, bV_s, gA_nn ix (by omega)]
    unfold f_X12_sendFrom_83 f_X12_sendFrom_87
    rw [y_int1]
    have skip : ¬ (wy f j = true ∧ cntS t f i < sp f) → _ := fun no => ih (f + 1) k l7 (by omega) (by omega) (by
      rcases hl with ⟨a, b⟩ | ⟨m, a, b, c⟩
      · exact Or.inl ⟨a, fun g hg w => by
          by_cases e : g = f
          · rw [e] at w ⊢; exact fun z => no ⟨w, z⟩
          · exact b g (by omega) w⟩
      · exact Or.inr ⟨m, a, b, fun g hg w z => by
          by_cases e : g = f
          · rw [e] at w z; exact absurd ⟨w, z⟩ no
          · exact c g (by omega) w z⟩)
    cases w : wy f j with
    | false =>
      rw [if_neg (show ¬ false = true by decide), if_pos rfl]
      exact skip (fun z => by rw [w] at z; exact Bool.false_ne_true z.1)
    | true =>
      have q8 := qm_le h (show f < nf by omega) hj w
      have nq := nn_lit (q f j) (by omega)
      rw [if_pos rfl, if_neg (show ¬ Int32.ofNat (q f j) = -1 from fun z => nq.nneg (by rw [z]; decide))]
      by_cases c : cntS t f i < sp f
      · rw [if_neg (fun z => by have := (nn_le r1 (nn_l 0 (by decide))).mp z; omega)]
        have take : (∀ g, g < f → wy g j = true → cntS t g i < sp g → q f j ≤ q g j) → _ := fun z => ih (f + 1) k (Int32.ofNat (q f j)) (by omega) (by omega) (Or.inr ⟨q f j, nq, q8, fun g hg w' c' => by
          by_cases e : g = f
          · rw [e]; exact Nat.le_refl _
          · exact z g (by omega) w' c'⟩)
        rcases hl with ⟨a, b⟩ | ⟨m, a, b, e⟩
        · rw [if_pos a]
          exact take (fun g hg w' c' => absurd c' (b g hg w'))
        · rw [if_neg (show ¬ l7 = -1 from fun z => a.nneg (by rw [z]; decide))]
          by_cases y : m ≤ q f j
          · rw [if_pos ((nn_le a nq).mpr y)]
            exact ih (f + 1) k l7 (by omega) (by omega) (Or.inr ⟨m, a, b, fun g hg w' c' => by
              by_cases x : g = f
              · rw [x]; exact y
              · exact e g (by omega) w' c'⟩)
          · rw [if_neg (fun z => y ((nn_le a nq).mp z))]
            exact take (fun g hg w' c' => by have := e g hg w' c'; omega)
      · rw [if_pos ((nn_le r1 (nn_l 0 (by decide))).mpr (by omega))]
        exact skip (fun z => c z.2)
/-- the bound: no share that keeps t serves more, and with as many none takes fewer quarters -/
theorem bound_loop {N n nf i u : Nat} {pl ta : Nat → Nat} {q : Nat → Nat → Nat} {wy : Nat → Nat → Bool} {sp t : Nat → Nat} {M0 M : yS} {rk : yS → Int32 → Int32 → Int32 → Option (Int32 × yS)} {l1 l2 l3 : Int32} (hN : 60 < N) (h : PMn n nf pl ta q wy M) (hM : MSt n nf i wy sp t M0 M) (hu : u = i - unS t i) : ∀ (d j k c4 c5 : Nat), j + d = n → d < k → i ≤ j → c4 + i ≤ j → c5 ≤ j * 351 → (∀ s, okS n wy (capF n sp nf 0) s → exS t i s → j - unS s j ≤ u + c4 ∧ (j - unS s j = u + c4 → c5 ≤ quS q s j)) → ∃ b4 b5, f_X12_sendFrom_9 k N rk M l1 l2 l3 (Int32.ofNat c4) (Int32.ofNat c5) (Int32.ofNat j) = (if (l2 + Int32.ofNat b4) < M.1 8 62 then some (0, M) else if ¬ (l2 + Int32.ofNat b4) = M.1 8 62 then f_X12_sendFrom_150 N rk M l1 l2 l3 else if Int32.ofNat b5 < M.1 8 63 then f_X12_sendFrom_150 N rk M l1 l2 l3 else some (0, M)) ∧ b4 + i ≤ n ∧ b5 ≤ n * 351 ∧ (∀ s, okS n wy (capF n sp nf 0) s → exS t i s → n - unS s n ≤ u + b4 ∧ (n - unS s n = u + b4 → b5 ≤ quS q s n)) ∧ (j = n → b4 = c4 ∧ b5 = c5) := by
  have n8 : n ≤ 8 := h.2.1
  have h1 := h.1
  intro d
  induction d with
  | zero =>
    intro j k c4 c5 hj hk ij b4 b5 hs
    obtain ⟨k, rfl⟩ : ∃ x, k = x + 1 := ⟨k - 1, by omega⟩
    have e : j = n := by omega
    subst e
    refine ⟨c4, c5, ?_, b4, b5, hs, fun _ => ⟨rfl, rfl⟩⟩
    rw [f_X12_sendFrom_9, if_pos ((nn_le h1 (nn_lit j (by omega))).mpr (Nat.le_refl _))]
    rfl
  | succ d ih =>
    intro j k c4 c5 hj hk ij b4 b5 hs
    obtain ⟨k, rfl⟩ : ∃ x, k = x + 1 := ⟨k - 1, by omega⟩
    rw [f_X12_sendFrom_9, if_neg (fun z => by have := (nn_le h1 (nn_lit j (by omega))).mp z; omega)]
    have uj : ∀ s : Nat → Nat, unS s (j + 1) = unS s j + if s j = 8 then 1 else 0 := fun _ => rfl
    have qj : ∀ s : Nat → Nat, quS q s (j + 1) = quS q s j + if s j = 8 then 0 else q (s j) j := fun _ => rfl
    rcases min_loop (N := N) (rk := rk) (k9 := fun S l1 l2 l3 l4 l5 l6 => f_X12_sendFrom_9 k N rk S l1 l2 l3 l4 l5 l6) (l1 := l1) (l2 := l2) (l3 := l3) (l4 := Int32.ofNat c4) (l5 := Int32.ofNat c5) h hM (show j < n by omega) nf 0 N (-1) (by omega) (by have := h.2.2.1; omega) (Or.inl ⟨rfl, fun g hg => absurd hg (Nat.not_lt_zero _)⟩) with ⟨_, ⟨_, a⟩, e, _⟩ | ⟨c, m, c1, c2, c3, e⟩
    · obtain ⟨x4, x5, y1, y2, y3, y4, y5⟩ := ih (j + 1) k c4 c5 (by omega) (by omega) (by omega) (by omega) (Nat.le_trans b5 (Nat.mul_le_mul_right 351 (Nat.le_succ j))) (fun s s1 s2 => by
        have z := hs s s1 s2
        have u1 := un_le s j
        have s8 : s j = 8 := Decidable.byContradiction fun y => by
          obtain ⟨p1, p2, p3⟩ := rem_pos s1 s2 ij (show j < n by omega) rfl (by have := (s1.1 j (by omega)).1; omega)
          exact a _ p1 p2 p3
        rw [uj, qj, if_pos s8, if_pos s8]
        constructor
        · omega
        · intro y; exact z.2 (by omega))
      exact ⟨x4, x5, e.trans y1, y2, y3, y4, fun z => by omega⟩
    · obtain ⟨x4, x5, y1, y2, y3, y4, y5⟩ := ih (j + 1) k (c4 + 1) (c5 + m) (by omega) (by omega) (by omega) (by omega) (by omega) (fun s s1 s2 => by
        have z := hs s s1 s2
        have u1 := un_le s j
        rw [uj, qj]
        by_cases s8 : s j = 8
        · rw [if_pos s8, if_pos s8]
          constructor
          · omega
          · intro y; omega
        · rw [if_neg s8, if_neg s8]
          obtain ⟨p1, p2, p3⟩ := rem_pos s1 s2 ij (show j < n by omega) rfl (by have := (s1.1 j (by omega)).1; omega)
          have p4 := c3 _ p1 p2 p3
          constructor
          · omega
          · intro y
            have := z.2 (by omega)
            omega)
      refine ⟨x4, x5, ?_, y2, y3, y4, fun z => by omega⟩
      rw [y_int1, c1.1, ← Int32.ofNat_add] at e
      exact e.trans y1
