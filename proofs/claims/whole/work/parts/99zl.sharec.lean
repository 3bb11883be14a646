/-! SEND: the class's table -/
theorem pl_n (j : Nat) (h : j < 8) : ll (xPl j) (9 ^ (7 - j)) := by
  rcases (show j = 0 ∨ j = 1 ∨ j = 2 ∨ j = 3 ∨ j = 4 ∨ j = 5 ∨ j = 6 ∨ j = 7 by omega) with rfl | rfl | rfl | rfl | rfl | rfl | rfl | rfl <;> exact ⟨by decide, by decide⟩
theorem shl_8 {kI : Int32} {k : Nat} (h : nn kI k) (k8 : k ≤ 8) : nn (1 <<< (kI &&& 31)) (2 ^ k) := by
  rw [h.1]
  rcases (show k = 0 ∨ k = 1 ∨ k = 2 ∨ k = 3 ∨ k = 4 ∨ k = 5 ∨ k = 6 ∨ k = 7 ∨ k = 8 by omega) with rfl | rfl | rfl | rfl | rfl | rfl | rfl | rfl | rfl <;> exact ⟨by decide, by decide⟩
theorem sb_1 : ∀ m, m < 256 → ∀ i, i < 8 → (((Int32.ofNat m >>> (Int32.ofNat i &&& 31)) &&& 1) = 1 ↔ m.testBit i = true) := by decide +kernel
theorem sb_2 : ∀ m, m < 256 → ∀ i, i < 8 → m.testBit i = true → 2 ^ i ≤ m ∧ Int32.ofNat m - (1 <<< (Int32.ofNat i &&& 31)) = Int32.ofNat (m - 2 ^ i) := by decide +kernel
def ck3 (m i j : Nat) : Bool := if m.testBit i = true then (m - 2 ^ i).testBit j == (m.testBit j && !(j == i)) else true
theorem sb_3' : ∀ m, m < 256 → ∀ i, i < 8 → ∀ j, j < 8 → ck3 m i j = true := by decide +kernel
theorem sb_3 (m : Nat) (hm : m < 256) (i : Nat) (hi : i < 8) (c : m.testBit i = true) (j : Nat) (hj : j < 8) : (m - 2 ^ i).testBit j = true ↔ m.testBit j = true ∧ j ≠ i := by
  have := sb_3' m hm i hi j hj
  unfold ck3 at this
  rw [if_pos c, beq_iff_eq] at this
  rw [this]
  simp
def upN (T : Nat → Nat) (m x : Nat) : Nat → Nat := fun j => if j = m then x else T j
theorem upN_s (T : Nat → Nat) (m x : Nat) : upN T m x m = x := if_pos rfl
theorem upN_o (T : Nat → Nat) {m j : Nat} (x : Nat) (h : j ≠ m) : upN T m x j = T j := if_neg h
def iS (S S' : yS) : Prop := S'.1 = S.1 ∧ S'.2.1 = S.2.1
theorem iS_r (S : yS) : iS S S := ⟨rfl, rfl⟩
theorem iS_t {a b c : yS} (h : iS a b) (g : iS b c) : iS a c := ⟨g.1.trans h.1, g.2.trans h.2⟩
theorem iS_J (S : yS) (o k : Nat) (f : Nat → Int64) : iS S (yJ S o k f) := ⟨rfl, rfl⟩
def PLn (n nf : Nat) (pl ta : Nat → Nat) (q : Nat → Nat → Nat) (wy : Nat → Nat → Bool) (sp : Nat → Nat) (S : yS) : Prop := nn (S.1 6 2) n ∧ n ≤ 8 ∧ nf ≤ 8 ∧ nn (S.1 1 3) nf ∧ (∀ i, i < n → nn (S.2.1 6 0 i) (pl i) ∧ pl i < 8 ∧ S.2.1 2 4 (pl i) = 1 ∧ nn (S.1 (128 + pl i) 8) (ta i) ∧ ta i < 8) ∧ (∀ f, f < nf → ∀ i, i < n → (wy f i = true → ∃ v, nn (S.2.1 1 7 (8 * f + ta i)) v ∧ v ≤ 2800 ∧ q f i = (v + 8 - 1) / 8) ∧ (wy f i = false → S.2.1 1 7 (8 * f + ta i) = 1000000)) ∧ ∀ f, f < nf → nn (S.2.1 1 2 f) (sp f) ∧ sp f ≤ 9
theorem PLn_i {n nf : Nat} {pl ta : Nat → Nat} {q : Nat → Nat → Nat} {wy : Nat → Nat → Bool} {sp : Nat → Nat} {S S' : yS} (h : PLn n nf pl ta q wy sp S) (g : iS S S') : PLn n nf pl ta q wy sp S' := by
  unfold PLn
  rw [g.1, g.2]
  exact h
def TBl (n : Nat) (T : Nat → Nat) (S : yS) : Prop := ∀ j, j < 2 ^ n → ll (S.2.2 6 4 j) (T j)
theorem p8_le {n : Nat} (h : n ≤ 8) : 2 ^ n ≤ 256 := Nat.pow_le_pow_right (n := 2) (by decide) h
theorem q_le {n nf : Nat} {pl ta : Nat → Nat} {q : Nat → Nat → Nat} {wy : Nat → Nat → Bool} {sp : Nat → Nat} {S : yS} (h : PLn n nf pl ta q wy sp S) {f i : Nat} (hf : f < nf) (hi : i < n) (w : wy f i = true) : q f i ≤ 351 := by
  obtain ⟨v, _, a, b⟩ := (h.2.2.2.2.2.1 f hf i hi).1 w
  omega
theorem price_loop {N n nf f : Nat} {pl ta : Nat → Nat} {q : Nat → Nat → Nat} {wy : Nat → Nat → Bool} {sp : Nat → Nat} {S0 : yS} (h : PLn n nf pl ta q wy sp S0) (hf : f < nf) : ∀ (d i k : Nat) (S : yS), i + d = n → d < k → iS S0 S → (∀ j, j < i → ll (S.2.2 6 3 j) (prS q wy f j)) → ∃ S', f_X7_price_2 k N S (Int32.ofNat f) (Int32.ofNat i) = some (0, S') ∧ iS S S' ∧ S'.2.2 6 4 = S.2.2 6 4 ∧ ∀ j, j < n → ll (S'.2.2 6 3 j) (prS q wy f j) := by
  obtain ⟨h1, n8, nf8, h2, h3, h4, h5⟩ := h
  intro d
  induction d with
  | zero =>
    intro i k S hi hk hs hp
    obtain ⟨k, rfl⟩ : ∃ x, k = x + 1 := ⟨k - 1, by omega⟩
    rw [f_X7_price_2, hs.1, if_pos ((nn_le h1 (nn_lit i (by omega))).mpr (by omega))]
    exact ⟨S, rfl, iS_r S, rfl, fun j hj => hp j (by omega)⟩
  | succ d ih =>
    intro i k S hi hk hs hp
    obtain ⟨k, rfl⟩ : ∃ x, k = x + 1 := ⟨k - 1, by omega⟩
    have ni := nn_lit i (by omega)
    have nf' := nn_lit f (by omega)
    obtain ⟨a1, a2, a3, a4, a5⟩ := h3 i (by omega)
    obtain ⟨b1, b2⟩ := h4 f hf i (by omega)
    have mm : f_X2_milesBetween N S (Int32.ofNat f) (S0.1 (128 + pl i) 8) = some (S.2.1 1 7 (8 * f + ta i)) := e_miles nf' a4 (by omega) a5
    have next : ∀ x : Int64, ll x (prS q wy f i) → ∃ S', f_X7_price_2 k N (yJ S 6 3 (vp_updL (S.2.2 6 3) i x)) (Int32.ofNat f) (Int32.ofNat i + 1) = some (0, S') ∧ iS S S' ∧ S'.2.2 6 4 = S.2.2 6 4 ∧ ∀ j, j < n → ll (S'.2.2 6 3 j) (prS q wy f j) := fun x hx => by
      rw [y_int1]
      obtain ⟨S', c1, c2, c3, c4⟩ := ih (i + 1) k (yJ S 6 3 (vp_updL (S.2.2 6 3) i x)) (by omega) (by omega) (iS_t hs (iS_J _ _ _ _)) (fun j hj => by
        rw [yJ_same]
        unfold vp_updL
        by_cases e : j = i
        · rw [if_pos e, e]; exact hx
        · rw [if_neg e]; exact hp j (by omega))
      exact ⟨S', c1, iS_t (iS_J _ _ _ _) c2, c3.trans rfl, c4⟩
    rw [f_X7_price_2, hs.1, if_neg (fun z => by have := (nn_le h1 ni).mp z; omega), gA_nn ni (by omega), hs.2, gR_nn a1 a2 a3, mm, bV_s, hs.2]
    unfold f_X7_price_46 f_X7_quarters f_X7_quarters_0
    rw [mm, bV_s, hs.2, e_roundUp (nn_l 8 (by decide)) (by decide), bV_s, bV_s, bV_s]
    unfold f_X7_price_92
    cases w : wy f i with
    | true =>
      obtain ⟨v, v1, v2, v3⟩ := b1 w
      have nle : ¬ 1000000 ≤ S0.2.1 1 7 (8 * f + ta i) := fun z => by have := (nn_le (nn_l 1000000 (by decide)) v1).mp z; omega
      have r := rUp_nn v1 (nn_l 8 (by decide)) (by decide) (by omega)
      rw [← v3] at r
      rw [if_neg nle, if_neg (show ¬ (1 : Int32) = 0 by decide), gA_nn ni (by omega), gA_nn ni (by omega), sq_s]
      refine next _ ?_
      have P := pl_n i (by omega)
      have P7 : 9 ^ (7 - i) ≤ 4782969 := Nat.pow_le_pow_right (n := 9) (by decide) (show 7 - i ≤ 7 by omega)
      have fm : f * 9 ^ (7 - i) ≤ 8 * 4782969 := Nat.mul_le_mul (by omega) P7
      have q3 : q f i ≤ 351 := by omega
      unfold prS
      rw [if_pos w]
      exact ll_add (ll_mul (nn_ll r) (ll_lit 43046721 (by decide)) (by omega)) (ll_mul (nn_ll nf') P (by omega)) (by omega)
    | false =>
      rw [if_pos (show 1000000 ≤ S0.2.1 1 7 (8 * f + ta i) by rw [b2 w]; decide), if_pos rfl, gA_nn ni (by omega), sq_s]
      refine next _ ?_
      unfold prS
      rw [w, if_neg (by decide)]
      exact ll_lit 1152921504606846976 (by decide)
/-- what one set's least becomes -/
def POf (n : Nat) (q : Nat → Nat → Nat) (wy : Nat → Nat → Bool) (f : Nat) (L : Nat → Nat) (m v : Nat) : Prop := v ≤ L m ∧ (∀ i, i < n → m.testBit i = true → v ≤ L (m - 2 ^ i) + prS q wy f i) ∧ (v = L m ∨ ∃ i, i < n ∧ m.testBit i = true ∧ v = L (m - 2 ^ i) + prS q wy f i ∧ v < L m)
theorem pr_le {n nf : Nat} {pl ta : Nat → Nat} {q : Nat → Nat → Nat} {wy : Nat → Nat → Bool} {sp : Nat → Nat} {S : yS} (h : PLn n nf pl ta q wy sp S) {f i : Nat} (hf : f < nf) (hi : i < n) : prS q wy f i ≤ 1152921504606846976 := by
  unfold prS
  by_cases w : wy f i = true
  · rw [if_pos w]
    have a := q_le h hf hi w
    have P7 : 9 ^ (7 - i) ≤ 4782969 := Nat.pow_le_pow_right (n := 9) (by decide) (show 7 - i ≤ 7 by omega)
    have fm : f * 9 ^ (7 - i) ≤ 8 * 4782969 := Nat.mul_le_mul (by have := h.2.2.1; omega) P7
    omega
  · rw [if_neg w]; exact Nat.le_refl _
theorem offer_in {N n nf f m : Nat} {pl ta : Nat → Nat} {q : Nat → Nat → Nat} {wy : Nat → Nat → Bool} {sp : Nat → Nat} {S0 : yS} {L : Nat → Nat} {k9 : yS → Int32 → Option (Int32 × yS)} (h : PLn n nf pl ta q wy sp S0) (hf : f < nf) (hm : m < 2 ^ n) (hL : ∀ j, j < 2 ^ n → L j ≤ 1152921504606846976) : ∀ (d i k : Nat) (S : yS) (T : Nat → Nat), i + d = n → d < k → iS S0 S → (∀ j, j < n → ll (S.2.2 6 3 j) (prS q wy f j)) → TBl n T S → (∀ j, j < m → T j = L j) → T m ≤ L m → (∀ i', i' < i → m.testBit i' = true → T m ≤ L (m - 2 ^ i') + prS q wy f i') → (T m = L m ∨ ∃ i, i < n ∧ m.testBit i = true ∧ T m = L (m - 2 ^ i) + prS q wy f i ∧ T m < L m) → ∃ S' T', f_X7_offer_15 k N k9 S (Int32.ofNat m) (Int32.ofNat i) = k9 S' (Int32.ofNat m + -1) ∧ iS S S' ∧ S'.2.2 6 3 = S.2.2 6 3 ∧ TBl n T' S' ∧ (∀ j, j ≠ m → T' j = T j) ∧ POf n q wy f L m (T' m) := by
  have n8 : n ≤ 8 := h.2.1
  have h1 := h.1
  have p8 := p8_le n8
  intro d
  induction d with
  | zero =>
    intro i k S T hi hk hs hp hT t1 t2 t3 t4
    obtain ⟨k, rfl⟩ : ∃ x, k = x + 1 := ⟨k - 1, by omega⟩
    rw [f_X7_offer_15, hs.1, if_pos ((nn_le h1 (nn_lit i (by omega))).mpr (by omega))]
    exact ⟨S, T, rfl, iS_r S, rfl, hT, fun _ _ => rfl, t2, fun i' a b => t3 i' (by omega) b, t4⟩
  | succ d ih =>
    intro i k S T hi hk hs hp hT t1 t2 t3 t4
    obtain ⟨k, rfl⟩ : ∃ x, k = x + 1 := ⟨k - 1, by omega⟩
    have ni := nn_lit i (by omega)
    have nm := nn_lit m (by omega)
    rw [f_X7_offer_15, hs.1, if_neg (fun z => by have := (nn_le h1 ni).mp z; omega)]
    unfold f_X7_offer_64
    rw [y_int1]
    by_cases c : m.testBit i = true
    · obtain ⟨e1, e2⟩ := sb_2 m (by omega) i (by omega) c
      have p1 : 1 ≤ 2 ^ i := Nat.one_le_two_pow
      have nmi := nn_lit (m - 2 ^ i) (by omega)
      rw [if_neg (fun z => z ((sb_1 m (by omega) i (by omega)).mpr c)), e2, gA_nn nm (by omega), gA_nn nmi (by omega), gA_nn ni (by omega), gA_nn nm (by omega), sq_s]
      have x1 := hT m hm
      have x2 := hT (m - 2 ^ i) (by omega)
      rw [t1 (m - 2 ^ i) (by omega)] at x2
      have x3 := hp i (by omega)
      have x4 := hL (m - 2 ^ i) (by omega)
      have x5 := pr_le h hf (show i < n by omega)
      have x6 := ll_add x2 x3 (by omega)
      have lt := ll_lt x6 x1
      by_cases y : L (m - 2 ^ i) + prS q wy f i < T m
      · rw [if_pos (lt.mpr y)]
        obtain ⟨S', T', r1, r2, r3, r4, r5, r6⟩ := ih (i + 1) k (yJ S 6 4 (vp_updL (S.2.2 6 4) m (S.2.2 6 4 (m - 2 ^ i) + S.2.2 6 3 i))) (upN T m (L (m - 2 ^ i) + prS q wy f i)) (by omega) (by omega) (iS_t hs (iS_J _ _ _ _)) hp (fun j hj => by
          rw [yJ_same]
          unfold vp_updL
          by_cases e : j = m
          · rw [if_pos e, e, upN_s]; exact x6
          · rw [if_neg e, upN_o _ _ e]; exact hT j hj) (fun j hj => by rw [upN_o _ _ (show j ≠ m by omega)]; exact t1 j hj) (by rw [upN_s]; omega) (fun i' a b => by
          rw [upN_s]
          by_cases e : i' = i
          · rw [e]; exact Nat.le_refl _
          · have := t3 i' (by omega) b; omega) (by rw [upN_s]; exact Or.inr ⟨i, by omega, c, rfl, by omega⟩)
        exact ⟨S', T', r1, iS_t (iS_J _ _ _ _) r2, r3.trans rfl, r4, fun j hj => (r5 j hj).trans (upN_o _ _ hj), r6⟩
      · rw [if_neg (fun z => y (lt.mp z))]
        have e : vp_updL (S.2.2 6 4) m (S.2.2 6 4 m) = S.2.2 6 4 := by
          funext j
          unfold vp_updL
          by_cases e : j = m
          · rw [if_pos e, e]
          · rw [if_neg e]
        rw [e, yJ_self]
        exact ih (i + 1) k S T (by omega) (by omega) hs hp hT t1 t2 (fun i' a b => by
          by_cases e : i' = i
          · rw [e]; omega
          · exact t3 i' (by omega) b) t4
    · rw [if_pos (fun z => c ((sb_1 m (by omega) i (by omega)).mp z))]
      exact ih (i + 1) k S T (by omega) (by omega) hs hp hT t1 t2 (fun i' a b => by
        by_cases e : i' = i
        · rw [e] at b; exact absurd b c
        · exact t3 i' (by omega) b) t4
theorem offer_out {N n nf f : Nat} {pl ta : Nat → Nat} {q : Nat → Nat → Nat} {wy : Nat → Nat → Bool} {sp : Nat → Nat} {S0 : yS} {L : Nat → Nat} (hN : 60 < N) (h : PLn n nf pl ta q wy sp S0) (hf : f < nf) (hL : ∀ j, j < 2 ^ n → L j ≤ 1152921504606846976) : ∀ (m k : Nat) (S : yS) (T : Nat → Nat), m < 2 ^ n → m < k → iS S0 S → (∀ j, j < n → ll (S.2.2 6 3 j) (prS q wy f j)) → TBl n T S → (∀ j, j ≤ m → T j = L j) → ∃ S' T', f_X7_offer_9 k N S (Int32.ofNat m) = some (0, S') ∧ iS S S' ∧ S'.2.2 6 3 = S.2.2 6 3 ∧ TBl n T' S' ∧ (∀ j, m < j → T' j = T j) ∧ ∀ j, j ≤ m → POf n q wy f L j (T' j) := by
  have n8 : n ≤ 8 := h.2.1
  have p8 := p8_le n8
  intro m
  induction m with
  | zero =>
    intro k S T hm hk hs hp hT t1
    obtain ⟨k, rfl⟩ : ∃ x, k = x + 1 := ⟨k - 1, by omega⟩
    rw [f_X7_offer_9, if_pos (show Int32.ofNat 0 ≤ 0 by decide)]
    refine ⟨S, T, rfl, iS_r S, rfl, hT, fun _ _ => rfl, fun j hj => ?_⟩
    rw [show j = 0 by omega, t1 0 (Nat.le_refl _)]
    exact ⟨Nat.le_refl _, fun i _ b => absurd b (by rw [Nat.zero_testBit]; exact Bool.false_ne_true), Or.inl rfl⟩
  | succ m ih =>
    intro k S T hm hk hs hp hT t1
    obtain ⟨k, rfl⟩ : ∃ x, k = x + 1 := ⟨k - 1, by omega⟩
    rw [f_X7_offer_9, if_neg (show ¬ Int32.ofNat (m + 1) ≤ 0 from fun z => by have := (nn_le (nn_lit (m + 1) (by omega)) (nn_l 0 (by decide))).mp z; omega)]
    obtain ⟨S1, T1, a1, a2, a3, a4, a5, a6⟩ := offer_in (N := N) (k9 := fun S l1 => f_X7_offer_9 k N S l1) h hf hm hL n 0 N S T (by omega) (by omega) hs hp hT (fun j hj => t1 j (by omega)) (by rw [t1 _ (Nat.le_refl _)]; exact Nat.le_refl _) (fun i' a => absurd a (Nat.not_lt_zero _)) (Or.inl (t1 _ (Nat.le_refl _)))
    obtain ⟨S2, T2, b1, b2, b3, b4, b5, b6⟩ := ih k S1 T1 (by omega) (by omega) (iS_t hs a2) (by rw [a3]; exact hp) a4 (fun j hj => (a5 j (by omega)).trans (t1 j (by omega)))
    refine ⟨S2, T2, ?_, iS_t a2 b2, b3.trans a3, b4, fun j hj => (b5 j (by omega)).trans (a5 j (by omega)), fun j hj => ?_⟩
    · refine Eq.trans a1 ?_
      show f_X7_offer_9 k N S1 (Int32.ofNat (m + 1) + -1) = _
      rw [show Int32.ofNat (m + 1) + (-1) = Int32.ofNat m from (Int32.sub_eq_add_neg _ _).symm.trans (pos_1 m (by omega))]
      exact b1
    · by_cases e : j = m + 1
      · rw [e, b5 (m + 1) (by omega)]; exact a6
      · exact b6 j (by omega)
/-- one spare more -/
theorem offer_c {N n nf f : Nat} {pl ta : Nat → Nat} {q : Nat → Nat → Nat} {wy : Nat → Nat → Bool} {sp : Nat → Nat} {S0 S : yS} {L cap : Nat → Nat} (hN : 300 < N) (h : PLn n nf pl ta q wy sp S0) (hf : f < nf) (hs : iS S0 S) (hp : ∀ j, j < n → ll (S.2.2 6 3 j) (prS q wy f j)) (hT : TBl n L S) (hD : DPt n q wy cap L) : ∃ S' L', f_X7_offer N S = some (0, S') ∧ iS S S' ∧ S'.2.2 6 3 = S.2.2 6 3 ∧ TBl n L' S' ∧ DPt n q wy (fun g => if g = f then cap f + 1 else cap g) L' := by
  have n8 : n ≤ 8 := h.2.1
  have p8 := p8_le n8
  have p1 : 1 ≤ 2 ^ n := Nat.one_le_two_pow
  have hf8 : f < 8 := by have := h.2.2.1; omega
  obtain ⟨S', L', a1, a2, a3, a4, _, a6⟩ := offer_out (N := N) (by omega) h hf (fun j hj => (hD j hj).1) (2 ^ n - 1) N S L (by omega) (by omega) hs hp hT (fun _ _ => rfl)
  refine ⟨S', L', ?_, a2, a3, a4, DP_offer hD hf8 (fun m hm => ⟨(a6 m (by omega)).1, (a6 m (by omega)).2.1⟩) (fun m hm => (a6 m (by omega)).2.2) (fun m i hm hi hb => ⟨Nat.lt_of_le_of_lt (Nat.sub_le _ _) hm, fun j hj => sb_3 m (by omega) i (by omega) hb j (by omega)⟩)⟩
  unfold f_X7_offer f_X7_offer_0
  rw [hs.1, (nn_sub (shl_8 h.1 n8) (nn_l 1 (by decide)) p1).1]
  exact a1
