/-! SEND: the class's share -/
def capF (n : Nat) (sp : Nat → Nat) (f j : Nat) : Nat → Nat := fun g => if g < f then min (sp g) n else if g = f then j else 0
theorem capF_up (n : Nat) (sp : Nat → Nat) (f j : Nat) : (fun g => if g = f then capF n sp f j f + 1 else capF n sp f j g) = capF n sp f (j + 1) := by
  funext g
  unfold capF
  by_cases c : g = f
  · rw [if_pos c, if_neg (show ¬ f < f by omega), if_pos rfl, if_neg (show ¬ g < f by omega), if_pos c]
  · rw [if_neg c]
    by_cases d : g < f
    · rw [if_pos d, if_pos d]
    · rw [if_neg d, if_neg d, if_neg c, if_neg c]
theorem capF_next (n : Nat) (sp : Nat → Nat) (f : Nat) : capF n sp f (min (sp f) n) = capF n sp (f + 1) 0 := by
  funext g
  unfold capF
  by_cases c : g = f
  · rw [if_neg (show ¬ g < f by omega), if_pos c, if_pos (show g < f + 1 by omega), c]
  · by_cases d : g < f
    · rw [if_pos d, if_pos (show g < f + 1 by omega)]
    · rw [if_neg d, if_neg c, if_neg (show ¬ g < f + 1 by omega)]
      by_cases e : g = f + 1
      · rw [if_pos e]
      · rw [if_neg e]
theorem spare_loop {N n nf f : Nat} {pl ta : Nat → Nat} {q : Nat → Nat → Nat} {wy : Nat → Nat → Bool} {sp : Nat → Nat} {S0 : yS} {k25 : yS → Int32 → Option (Int32 × yS)} (hN : 300 < N) (h : PLn n nf pl ta q wy sp S0) (hf : f < nf) : ∀ (d j k : Nat) (S : yS) (L : Nat → Nat), j + d = min (sp f) n → d < k → iS S0 S → (∀ j, j < n → ll (S.2.2 6 3 j) (prS q wy f j)) → TBl n L S → DPt n q wy (capF n sp f j) L → ∃ S' L', f_X7_share_44 k N k25 S (Int32.ofNat f) (Int32.ofNat j) = k25 S' (Int32.ofNat (f + 1)) ∧ iS S S' ∧ TBl n L' S' ∧ DPt n q wy (capF n sp (f + 1) 0) L' := by
  obtain ⟨h1, n8, nf8, h2, h3, h4, h5⟩ := id h
  obtain ⟨s1, s2⟩ := h5 f hf
  intro d
  induction d with
  | zero =>
    intro j k S L hj hk hs hp hT hD
    obtain ⟨k, rfl⟩ : ∃ x, k = x + 1 := ⟨k - 1, by omega⟩
    have nj := nn_lit j (by omega)
    refine ⟨S, L, ?_, iS_r S, hT, by rw [← capF_next, ← hj]; exact hD⟩
    rw [f_X7_share_44, gA_nn (nn_lit f (by omega)) (by omega), hs.1, hs.2]
    unfold f_X7_share_75
    rw [y_int1]
    by_cases c : sp f ≤ j
    · rw [if_pos ((nn_le s1 nj).mpr c)]
    · rw [if_neg (fun z => c ((nn_le s1 nj).mp z)), if_pos ((nn_le h1 nj).mpr (by omega))]
  | succ d ih =>
    intro j k S L hj hk hs hp hT hD
    obtain ⟨k, rfl⟩ : ∃ x, k = x + 1 := ⟨k - 1, by omega⟩
    have nj := nn_lit j (by omega)
    obtain ⟨S1, L1, a1, a2, a3, a4, a5⟩ := offer_c hN h hf hs hp hT hD
    rw [capF_up] at a5
    obtain ⟨S2, L2, b1, b2, b3, b4⟩ := ih (j + 1) k S1 L1 (by omega) (by omega) (iS_t hs a2) (by rw [a3]; exact hp) a4 a5
    refine ⟨S2, L2, ?_, iS_t a2 b2, b3, b4⟩
    rw [f_X7_share_44, gA_nn (nn_lit f (by omega)) (by omega), hs.1, hs.2, if_neg (fun z => by have := (nn_le s1 nj).mp z; omega), if_neg (fun z => by have := (nn_le h1 nj).mp z; omega), a1, bS_s, y_int1]
    exact b1
theorem field_loop {N n nf : Nat} {pl ta : Nat → Nat} {q : Nat → Nat → Nat} {wy : Nat → Nat → Bool} {sp : Nat → Nat} {S0 : yS} (hN : 300 < N) (h : PLn n nf pl ta q wy sp S0) : ∀ (d f k : Nat) (S : yS) (L : Nat → Nat), f + d = nf → d < k → iS S0 S → TBl n L S → DPt n q wy (capF n sp f 0) L → ∃ S' L', f_X7_share_25 k N S (Int32.ofNat f) = (bV (f_X7_leastOfAll N S') fun w1 => bS (f_X7_readFields N S' w1) fun _ S1 => some ((w1 / 43046721 - w1 / 43046721 / 4096 * 4096).toInt32, S1)) ∧ iS S S' ∧ TBl n L' S' ∧ DPt n q wy (capF n sp nf 0) L' := by
  have nf8 : nf ≤ 8 := h.2.2.1
  have h2 := h.2.2.2.1
  have n8 : n ≤ 8 := h.2.1
  intro d
  induction d with
  | zero =>
    intro f k S L hf hk hs hT hD
    obtain ⟨k, rfl⟩ : ∃ x, k = x + 1 := ⟨k - 1, by omega⟩
    have e : f = nf := by omega
    subst e
    exact ⟨S, L, by rw [f_X7_share_25, hs.1, if_pos ((nn_le h2 (nn_lit f (by omega))).mpr (Nat.le_refl _))], iS_r S, hT, hD⟩
  | succ d ih =>
    intro f k S L hf hk hs hT hD
    obtain ⟨k, rfl⟩ : ∃ x, k = x + 1 := ⟨k - 1, by omega⟩
    obtain ⟨S1, a1, a2, a3, a4⟩ := price_loop (N := N) h (show f < nf by omega) n 0 N S (by omega) (by omega) hs (fun j hj => absurd hj (Nat.not_lt_zero _))
    obtain ⟨S2, L2, b1, b2, b3, b4⟩ := spare_loop (k25 := fun S l2 => f_X7_share_25 k N S l2) hN h (show f < nf by omega) (min (sp f) n) 0 N S1 L (by omega) (by omega) (iS_t hs a2) a4 (by unfold TBl; rw [a3]; exact hT) hD
    obtain ⟨S3, L3, c1, c2, c3, c4⟩ := ih (f + 1) k S2 L2 (by omega) (by omega) (iS_t hs (iS_t a2 b2)) b3 b4
    refine ⟨S3, L3, ?_, iS_t a2 (iS_t b2 c2), c3, c4⟩
    have a1' : f_X7_price N S (Int32.ofNat f) = some (0, S1) := a1
    rw [f_X7_share_25, hs.1, if_neg (fun z => by have := (nn_le h2 (nn_lit f (by omega))).mp z; omega), a1', bS_s]
    exact b1.trans c1
/-- what those not in the set cost -/
def usM (m : Nat) : Nat → Nat
  | 0 => 0
  | i + 1 => usM m i + if m.testBit i = true then 0 else 176319369216 + 8 * 9 ^ (7 - i)
theorem usM_le (m : Nat) : ∀ i, i ≤ 8 → usM m i ≤ i * 176400000000 := by
  intro i
  induction i with
  | zero => intro _; exact Nat.le_refl _
  | succ i ih =>
    intro h
    have a := ih (by omega)
    have P7 : 9 ^ (7 - i) ≤ 4782969 := Nat.pow_le_pow_right (n := 9) (by decide) (show 7 - i ≤ 7 by omega)
    have e : usM m (i + 1) = usM m i + if m.testBit i = true then 0 else 176319369216 + 8 * 9 ^ (7 - i) := rfl
    by_cases c : m.testBit i = true
    · rw [if_pos c] at e; omega
    · rw [if_neg c] at e; omega
theorem usM_st {s : Nat → Nat} {m n : Nat} (h : stS n s m) : ∀ i, i ≤ n → ustS s i = usM m i := by
  intro i
  induction i with
  | zero => intro _; rfl
  | succ i ih =>
    intro hi
    unfold ustS usM
    rw [ih (by omega)]
    by_cases c : m.testBit i = true
    · rw [if_pos c, if_neg ((h i (by omega)).mp c)]
    · rw [if_neg c, if_pos (Decidable.byContradiction fun z => c ((h i (by omega)).mpr z))]
theorem least_in {N n m : Nat} {S : yS} {k6 : yS → Int64 → Int32 → Option Int64} {l1 : Int64} (h1 : nn (S.1 6 2) n) (n8 : n ≤ 8) (hm : m < 256) {a : Nat} (ha : a ≤ 1152921504606846976) : ∀ (d i k : Nat) (l4 : Int64), i + d = n → d < k → ll l4 (a + usM m i) → ∃ l4', f_X7_leastOfAll_27 k N k6 S l1 (Int32.ofNat m) l4 (Int32.ofNat i) = k6 S (if l4' < l1 then l4' else l1) (Int32.ofNat m + 1) ∧ ll l4' (a + usM m n) := by
  intro d
  induction d with
  | zero =>
    intro i k l4 hi hk hl
    obtain ⟨k, rfl⟩ : ∃ x, k = x + 1 := ⟨k - 1, by omega⟩
    have e : i = n := by omega
    subst e
    exact ⟨l4, by rw [f_X7_leastOfAll_27, if_pos ((nn_le h1 (nn_lit i (by omega))).mpr (Nat.le_refl _))], hl⟩
  | succ d ih =>
    intro i k l4 hi hk hl
    obtain ⟨k, rfl⟩ : ∃ x, k = x + 1 := ⟨k - 1, by omega⟩
    have ni := nn_lit i (by omega)
    have u := usM_le m (i + 1) (by omega)
    have P7 : 9 ^ (7 - i) ≤ 4782969 := Nat.pow_le_pow_right (n := 9) (by decide) (show 7 - i ≤ 7 by omega)
    have e : usM m (i + 1) = usM m i + if m.testBit i = true then 0 else 176319369216 + 8 * 9 ^ (7 - i) := rfl
    rw [f_X7_leastOfAll_27, if_neg (fun z => by have := (nn_le h1 ni).mp z; omega)]
    unfold f_X7_leastOfAll_66
    rw [y_int1]
    by_cases c : m.testBit i = true
    · rw [if_neg (fun z => z ((sb_1 m hm i (by omega)).mpr c))]
      rw [if_pos c] at e
      exact ih (i + 1) k _ (by omega) (by omega) (by rw [e, ← Nat.add_assoc]; exact ll_add hl (ll_lit 0 (by decide)) (by omega))
    · rw [if_pos (fun z => c ((sb_1 m hm i (by omega)).mp z)), gA_nn ni (by omega)]
      rw [if_neg c] at e
      exact ih (i + 1) k _ (by omega) (by omega) (by
        rw [e, ← Nat.add_assoc]
        exact ll_add hl (ll_add (ll_lit 176319369216 (by decide)) (ll_mul (ll_lit 8 (by decide)) (pl_n i (by omega)) (by omega)) (by omega)) (by omega))
theorem least_out {N n : Nat} {S : yS} {L : Nat → Nat} (hN : 60 < N) (h1 : nn (S.1 6 2) n) (n8 : n ≤ 8) (hT : TBl n L S) (hL : ∀ j, j < 2 ^ n → L j ≤ 1152921504606846976) : ∀ (d m k : Nat) (l1 : Int64) (b : Nat), m + d = 2 ^ n → d < k → ll l1 b → ∃ r c, f_X7_leastOfAll_6 k N S l1 (Int32.ofNat m) = some r ∧ ll r c ∧ c ≤ b ∧ (∀ m', m ≤ m' → m' < 2 ^ n → c ≤ L m' + usM m' n) ∧ (c = b ∨ ∃ m', m' < 2 ^ n ∧ c = L m' + usM m' n) := by
  have p8 := p8_le n8
  have sh := shl_8 h1 n8
  intro d
  induction d with
  | zero =>
    intro m k l1 b hm hk hl
    obtain ⟨k, rfl⟩ : ∃ x, k = x + 1 := ⟨k - 1, by omega⟩
    exact ⟨l1, b, by rw [f_X7_leastOfAll_6, if_pos ((nn_le sh (nn_lit m (by omega))).mpr (by omega))], hl, Nat.le_refl _, fun m' a b => by omega, Or.inl rfl⟩
  | succ d ih =>
    intro m k l1 b hm hk hl
    obtain ⟨k, rfl⟩ : ∃ x, k = x + 1 := ⟨k - 1, by omega⟩
    have nm := nn_lit m (by omega)
    have lm := hL m (by omega)
    obtain ⟨x, x1, x2⟩ := least_in (N := N) (m := m) (S := S) (k6 := fun S l1 l3 => f_X7_leastOfAll_6 k N S l1 l3) (l1 := l1) h1 n8 (by omega) lm n 0 N (S.2.2 6 4 m) (by omega) (by omega) (hT m (by omega))
    rw [f_X7_leastOfAll_6, if_neg (fun z => by have := (nn_le sh nm).mp z; omega), gA_nn nm (by omega)]
    have x1' : f_X7_leastOfAll_27 N N (fun S l1 l3 => f_X7_leastOfAll_6 k N S l1 l3) S l1 (Int32.ofNat m) (S.2.2 6 4 m) 0 = f_X7_leastOfAll_6 k N S (if x < l1 then x else l1) (Int32.ofNat m + 1) := x1
    rw [x1', y_int1]
    by_cases c : L m + usM m n < b
    · rw [if_pos ((ll_lt x2 hl).mpr c)]
      obtain ⟨r, e, r1, r2, r3, r4, r5⟩ := ih (m + 1) k x _ (by omega) (by omega) x2
      refine ⟨r, e, r1, r2, by omega, fun m' a b => ?_, ?_⟩
      · by_cases z : m' = m
        · rw [z]; exact r3
        · exact r4 m' (by omega) b
      · rcases r5 with z | z
        · exact Or.inr ⟨m, by omega, z⟩
        · exact Or.inr z
    · rw [if_neg (fun z => c ((ll_lt x2 hl).mp z))]
      obtain ⟨r, e, r1, r2, r3, r4, r5⟩ := ih (m + 1) k l1 b (by omega) (by omega) hl
      refine ⟨r, e, r1, r2, r3, fun m' a b => ?_, r5⟩
      by_cases z : m' = m
      · rw [z]; omega
      · exact r4 m' (by omega) b
/-- the set of those served -/
def mkS (s : Nat → Nat) : Nat → Nat
  | 0 => 0
  | i + 1 => if s i = 8 then mkS s i else mkS s i ||| 2 ^ i
theorem mkS_lt (s : Nat → Nat) : ∀ n, mkS s n < 2 ^ n := by
  intro n
  induction n with
  | zero => exact (by decide : (0 : Nat) < 2 ^ 0)
  | succ n ih =>
    have p : 2 ^ (n + 1) = 2 ^ n + 2 ^ n := by rw [Nat.pow_succ]; omega
    have p1 : 1 ≤ 2 ^ n := Nat.one_le_two_pow
    unfold mkS
    by_cases c : s n = 8
    · rw [if_pos c]; omega
    · rw [if_neg c]; exact Nat.or_lt_two_pow (by omega) (by omega)
theorem mkS_st (s : Nat → Nat) : ∀ n, stS n s (mkS s n) := by
  intro n
  induction n with
  | zero => intro i hi; exact absurd hi (Nat.not_lt_zero _)
  | succ n ih =>
    intro i hi
    unfold mkS
    by_cases c : s n = 8
    · rw [if_pos c]
      by_cases e : i = n
      · rw [e, Nat.testBit_lt_two_pow (mkS_lt s n)]
        exact ⟨fun z => absurd z Bool.false_ne_true, fun z => absurd c z⟩
      · exact ih i (by omega)
    · rw [if_neg c, Nat.testBit_or, Nat.testBit_two_pow]
      by_cases e : i = n
      · rw [e]; simp [c]
      · have := ih i (by omega)
        rw [decide_eq_false (fun z => e z.symm), Bool.or_false]
        exact this
theorem DP_0 {n : Nat} {q : Nat → Nat → Nat} {wy : Nat → Nat → Bool} {sp : Nat → Nat} : DPt n q wy (capF n sp 0 0) (upN (fun _ => 1152921504606846976) 0 0) := by
  have cz : ∀ g, capF n sp 0 0 g = 0 := fun g => by
    unfold capF
    rw [if_neg (Nat.not_lt_zero _)]
    by_cases c : g = 0
    · rw [if_pos c]
    · rw [if_neg c]
  have c8 : ∀ f, f < 8 → ∀ n, cntS (fun _ => 8) f n = 0 := fun f hf n => by
    induction n with
    | zero => rfl
    | succ n ih => show cntS _ f n + (if 8 = f then 1 else 0) = 0; rw [ih, if_neg (by omega)]
  have k8 : ∀ n, kstS q (fun _ => 8) n = 0 := fun n => by
    induction n with
    | zero => rfl
    | succ n ih => show kstS q _ n + (if 8 = 8 then 0 else _) = 0; rw [ih, if_pos rfl]
  intro m hm
  by_cases c : m = 0
  · subst c
    rw [upN_s]
    refine ⟨by omega, fun _ _ _ => Nat.zero_le _, Or.inr ⟨fun _ => 8, ⟨fun i hi => ⟨Nat.le_refl _, fun z => absurd z (Nat.lt_irrefl 8)⟩, fun f hf => by rw [c8 f hf]; exact Nat.zero_le _⟩, fun i hi => ?_, (k8 n).symm⟩⟩
    rw [Nat.zero_testBit]
    exact ⟨fun z => absurd z Bool.false_ne_true, fun z => absurd rfl z⟩
  · rw [upN_o _ _ c]
    refine ⟨Nat.le_refl _, fun s hs hst => ?_, Or.inl rfl⟩
    exfalso
    apply c
    apply Nat.eq_of_testBit_eq
    intro i
    rw [Nat.zero_testBit]
    cases e : m.testBit i with
    | false => rfl
    | true =>
      by_cases l : i < n
      · have s8 := (hst i l).mp e
        have u := hs.2 (s i) (by have := (hs.1 i l).1; omega)
        rw [cz] at u
        have v : 0 < cntS s (s i) n := by
          have : ∀ n, i < n → 0 < cntS s (s i) n := by
            intro n
            induction n with
            | zero => intro h; omega
            | succ n ih =>
              intro h
              show 0 < cntS s (s i) n + (if s n = s i then 1 else 0)
              by_cases z : i = n
              · rw [← z, if_pos rfl]; omega
              · have := ih (by omega); omega
          exact this n l
        omega
      · rw [Nat.testBit_lt_two_pow (Nat.lt_of_lt_of_le hm (Nat.pow_le_pow_right (by decide) (by omega)))] at e
        exact e.symm
/-- the best of all shares -/
def bestS (n : Nat) (q : Nat → Nat → Nat) (wy : Nat → Nat → Bool) (cap : Nat → Nat) (s : Nat → Nat) : Prop := okS n wy cap s ∧ ∀ s', okS n wy cap s' → totS q s n ≤ totS q s' n
theorem least_c {N n : Nat} {q : Nat → Nat → Nat} {wy : Nat → Nat → Bool} {cap L : Nat → Nat} {S : yS} (hN : 300 < N) (h1 : nn (S.1 6 2) n) (n8 : n ≤ 8) (hT : TBl n L S) (hD : DPt n q wy cap L) : ∃ r s, f_X7_leastOfAll N S = some r ∧ ll r (totS q s n) ∧ bestS n q wy cap s := by
  have p8 := p8_le n8
  have p1 : 1 ≤ 2 ^ n := Nat.one_le_two_pow
  obtain ⟨r, c, r1, r2, r3, r4, r5⟩ := least_out (N := N) (by omega) h1 n8 hT (fun j hj => (hD j hj).1) (2 ^ n) 0 N 1152921504606846976 1152921504606846976 (by omega) (by omega) (ll_lit _ (by decide))
  have lb : ∀ s', okS n wy cap s' → c ≤ totS q s' n := fun s' hs => by
    have a := r4 (mkS s' n) (Nat.zero_le _) (mkS_lt s' n)
    have b := (hD _ (mkS_lt s' n)).2.1 s' hs (mkS_st s' n)
    have d := usM_st (mkS_st s' n) n (Nat.le_refl _)
    unfold totS
    omega
  have k8 : ∀ n, kstS q (fun _ => 8) n = 0 := fun n => by
    induction n with
    | zero => rfl
    | succ n ih => show kstS q _ n + (if 8 = 8 then 0 else _) = 0; rw [ih, if_pos rfl]
  have c8 : ∀ f, f < 8 → ∀ n, cntS (fun _ => 8) f n = 0 := fun f hf n => by
    induction n with
    | zero => rfl
    | succ n ih => show cntS _ f n + (if 8 = f then 1 else 0) = 0; rw [ih, if_neg (by omega)]
  have ok8 : okS n wy cap (fun _ => 8) := ⟨fun i hi => ⟨Nat.le_refl _, fun z => absurd z (Nat.lt_irrefl 8)⟩, fun f hf => by rw [c8 f hf]; exact Nat.zero_le _⟩
  have small := lb _ ok8
  unfold totS at small
  rw [k8, usM_st (mkS_st _ n) n (Nat.le_refl _)] at small
  have u := usM_le (mkS (fun _ => 8) n) n n8
  rcases r5 with z | ⟨m, m1, m2⟩
  · omega
  · rcases (hD m m1).2.2 with z | ⟨s, s1, s2, s3⟩
    · omega
    · have e : c = totS q s n := by
        unfold totS
        rw [usM_st s2 n (Nat.le_refl _)]; omega
      exact ⟨r, s, r1, by rw [← e]; exact r2, s1, fun s' hs => by rw [← e]; exact lb s' hs⟩
