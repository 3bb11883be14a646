/-! WHERE A LOST PLANE MAY BE: the weights of cells -/
def hF (s M k : Nat) (z : Prop) [Decidable z] (c : Nat) : Nat → Nat → Nat
  | 0, _ => 0
  | f + 1, q => if k < q ∨ M ≤ s * q then 0 else (if (if z then M - s * q else s * q) / 10 = c then 1 else 0) + hF s M k z c f (q + 1)
def hA (s M k : Nat) : Nat → Nat → Nat
  | 0, _ => 0
  | f + 1, q => if k < q ∨ M ≤ s * q then 0 else 1 + hA s M k f (q + 1)
theorem hF_le {s M k : Nat} {z : Prop} [Decidable z] {c : Nat} : ∀ f q, hF s M k z c f q ≤ f
  | 0, _ => Nat.le_refl _
  | f + 1, q => by
    have := hF_le (s := s) (M := M) (k := k) (z := z) (c := c) f (q + 1)
    unfold hF
    have h1 : (if (if z then M - s * q else s * q) / 10 = c then 1 else 0) ≤ 1 := by
      by_cases e : (if z then M - s * q else s * q) / 10 = c
      · rw [if_pos e]; exact Nat.le_refl _
      · rw [if_neg e]; exact Nat.zero_le _
    by_cases e : k < q ∨ M ≤ s * q
    · rw [if_pos e]; exact Nat.zero_le _
    · rw [if_neg e]; omega
theorem hA_le {s M k : Nat} : ∀ f q, hA s M k f q ≤ f
  | 0, _ => Nat.le_refl _
  | f + 1, q => by
    have := hA_le (s := s) (M := M) (k := k) f (q + 1)
    unfold hA
    split <;> omega
theorem w22 {N p l s M k : Nat} {S : yS} {l2 l4 : Int32} (hs : nn (S.1 (128 + p) 0) s) (hk : nn (S.1 (128 + p) 3) k) (hM : nn (S.1 (64 + l) 2) M) (s60 : s ≤ 60) (k60 : k ≤ 60) (M4 : M ≤ 400) : ∀ (f q n : Nat) (T : Nat → Int64) (h : Nat → Nat) (l5 : Int32), q + f = k + 1 → f < n → (∀ c, c < 41 → T c = Int64.ofNat (h c)) → ∃ T', f_X6_weigh_22 n N (yJ S 0 4 T) (128 + p) (64 + l) l2 l4 l5 (Int32.ofNat q) = f_X6_weigh_94 N (yJ S 0 4 T') (128 + p) l4 (if hA s M k f q = 0 then l5 else 1) ∧ ∀ c, c < 41 → T' c = Int64.ofNat (h c + hF s M k (l2 = 0) c f q) := by
  intro f
  induction f with
  | zero =>
    intro q n T h l5 hq hn hT
    obtain ⟨n, rfl⟩ : ∃ x, n = x + 1 := ⟨n - 1, by omega⟩
    refine ⟨T, ?_, hT⟩
    rw [f_X6_weigh_22, show (yJ S 0 4 T).1 = S.1 from rfl, if_pos ((nn_lt hk (nn_lit q (by omega))).mpr (by omega))]
    rfl
  | succ f ih =>
    intro q n T h l5 hq hn hT
    obtain ⟨n, rfl⟩ : ∃ x, n = x + 1 := ⟨n - 1, by omega⟩
    have nq := nn_lit q (by omega)
    have b1 : s * q ≤ 60 * q := Nat.mul_le_mul_right q s60
    have sq' := nn_mul hs nq (by omega)
    have hk' : ¬ S.1 (128 + p) 3 < Int32.ofNat q := fun z => by have := (nn_lt hk nq).mp z; omega
    by_cases c : M ≤ s * q
    · refine ⟨T, ?_, fun x hx => ?_⟩
      · rw [f_X6_weigh_22, show (yJ S 0 4 T).1 = S.1 from rfl, if_neg hk', if_pos ((nn_le hM sq').mpr c)]
        unfold hA
        rw [if_pos (Or.inr c), if_pos rfl]
      · unfold hF
        rw [if_pos (Or.inr c)]
        exact hT x hx
    · have cc : ¬ (k < q ∨ M ≤ s * q) := fun z => by omega
      have pos : ∀ (tI : Int32) (t : Nat), nn tI t → t < 410 → t = (if l2 = 0 then M - s * q else s * q) → ∃ T', f_X6_weigh_72 N (fun S p0 p1 l2 l4 l5 l6 => f_X6_weigh_22 n N S p0 p1 l2 l4 l5 l6) (yJ S 0 4 T) (128 + p) (64 + l) l2 l4 (Int32.ofNat q) (64 + l) tI = f_X6_weigh_94 N (yJ S 0 4 T') (128 + p) l4 (if hA s M k (f + 1) q = 0 then l5 else 1) ∧ ∀ c, c < 41 → T' c = Int64.ofNat (h c + hF s M k (l2 = 0) c (f + 1) q) := by
        intro tI t ht t4 et
        have hd := nn_div ht (nn_l 10 (by decide))
        obtain ⟨T', a1, a2⟩ := ih (q + 1) n (vp_updL T (t / 10) (T (t / 10) + 1)) (fun c => h c + if t / 10 = c then 1 else 0) 1 (by omega) (by omega) (fun c hc => by
          show (if c = t / 10 then T (t / 10) + 1 else T c) = Int64.ofNat (h c + if t / 10 = c then 1 else 0)
          by_cases e : c = t / 10
          · rw [if_pos e, if_pos e.symm, hT (t / 10) (by omega), e, Int64.ofNat_add]
            rfl
          · rw [if_neg e, if_neg (fun z => e z.symm), Nat.add_zero]
            exact hT c hc)
        refine ⟨T', ?_, fun c hc => ?_⟩
        · unfold f_X6_weigh_72 f_X3_cellAt f_X3_cellAt_0
          rw [bV_s, gA_nn hd (by omega), gA_nn hd (by omega), sq_s, yJ_same, yJ_yJ, y_int1]
          refine Eq.trans a1 ?_
          have eA : hA s M k (f + 1) q = 1 + hA s M k f (q + 1) := by
            show (if k < q ∨ M ≤ s * q then 0 else 1 + hA s M k f (q + 1)) = _
            rw [if_neg cc]
          rw [eA, if_neg (show ¬ 1 + hA s M k f (q + 1) = 0 by omega)]
          congr 1
          by_cases e0 : hA s M k f (q + 1) = 0
          · rw [if_pos e0]
          · rw [if_neg e0]
        · rw [a2 c hc]
          congr 1
          show h c + (if t / 10 = c then 1 else 0) + hF s M k (l2 = 0) c f (q + 1) = h c + (if k < q ∨ M ≤ s * q then 0 else (if (if l2 = 0 then M - s * q else s * q) / 10 = c then 1 else 0) + hF s M k (l2 = 0) c f (q + 1))
          rw [if_neg cc, ← et]
          omega
      rw [f_X6_weigh_22, show (yJ S 0 4 T).1 = S.1 from rfl, if_neg hk', if_neg (fun z => c ((nn_le hM sq').mp z))]
      by_cases e : l2 = 0
      · rw [if_pos e]
        exact pos _ _ (nn_sub hM sq' (by omega)) (by omega) (by rw [if_pos e])
      · rw [if_neg e]
        exact pos _ _ sq' (by omega) (by rw [if_neg e])
def lF (row : Nat → Int32) (cI : Int32) : Nat → Nat → Int64 → Int64
  | 0, _, acc => acc
  | d + 1, i, acc => lF row cI d (i + 1) (acc * (if row (2 * i) = cI then (100 - row (2 * i + 1)).toInt64 else 100))
theorem w122 {N p n18 : Nat} {S : yS} {k97 : yS → Nat → Int32 → Int32 → Int32 → Option (Int32 × yS)} {l4 l5 cI : Int32} {c : Nat} (h18 : nn (S.1 (128 + p) 18) n18) (h4 : n18 ≤ 4) (hc : nn cI c) (c41 : c < 41) : ∀ (d i n : Nat) (acc : Int64), i + d = n18 → d < n → f_X6_weigh_122 n N k97 S (128 + p) l4 l5 cI acc (Int32.ofNat i) = k97 (yJ S 0 4 (vp_updL (S.2.2 0 4) c (lF (S.2.1 (128 + p) 19) cI d i acc))) (128 + p) l4 l5 (cI + 1) := by
  intro d
  induction d with
  | zero =>
    intro i n acc hi hn
    obtain ⟨n, rfl⟩ : ∃ x, n = x + 1 := ⟨n - 1, by omega⟩
    rw [f_X6_weigh_122, if_pos ((nn_le h18 (nn_lit i (by omega))).mpr (by omega)), gA_nn hc c41, sq_s]
    rfl
  | succ d ih =>
    intro i n acc hi hn
    obtain ⟨n, rfl⟩ : ∃ x, n = x + 1 := ⟨n - 1, by omega⟩
    have ni := nn_lit i (by omega)
    have n2 := nn_mul (nn_l 2 (by decide)) ni (by omega)
    rw [f_X6_weigh_122, if_neg (fun z => by have := (nn_le h18 ni).mp z; omega), gA_nn n2 (by omega), gA_nn (nn_add n2 (nn_l 1 (by decide)) (by omega)) (by omega)]
    unfold f_X6_weigh_168 lF
    rw [y_int1]
    by_cases e : S.2.1 (128 + p) 19 (2 * i) = cI
    · rw [if_neg (fun z => z e), if_pos e]
      exact ih (i + 1) n _ (by omega) (by omega)
    · rw [if_pos e, if_neg e]
      exact ih (i + 1) n _ (by omega) (by omega)
theorem w97 {N p n18 C : Nat} {S : yS} {l4 l5 : Int32} (h18 : nn (S.1 (128 + p) 18) n18) (h4 : n18 ≤ 4) (hN : 10 < N) (hC : nn l4 C) (C41 : C ≤ 41) : ∀ (d c n : Nat) (T : Nat → Int64), c + d = C → d < n → ∃ T', f_X6_weigh_97 n N (yJ S 0 4 T) (128 + p) l4 l5 (Int32.ofNat c) = some (0, yJ S 0 4 T') ∧ (∀ x, x < c → T' x = T x) ∧ ∀ x, c ≤ x → x < C → T' x = lF (S.2.1 (128 + p) 19) (Int32.ofNat x) n18 0 (if l5 = 0 then 1 else T x) := by
  intro d
  induction d with
  | zero =>
    intro c n T hc hn
    obtain ⟨n, rfl⟩ : ∃ x, n = x + 1 := ⟨n - 1, by omega⟩
    refine ⟨T, ?_, fun _ _ => rfl, fun x a b => by omega⟩
    rw [f_X6_weigh_97, if_pos ((nn_le hC (nn_lit c (by omega))).mpr (by omega))]
  | succ d ih =>
    intro c n T hc hn
    obtain ⟨n, rfl⟩ : ∃ x, n = x + 1 := ⟨n - 1, by omega⟩
    have nc := nn_lit c (by omega)
    obtain ⟨T', a1, a2, a3⟩ := ih (c + 1) n (vp_updL T c (lF (S.2.1 (128 + p) 19) (Int32.ofNat c) n18 0 (if l5 = 0 then 1 else T c))) (by omega) (by omega)
    have u1 : ∀ (t : Int64) (x : Nat), vp_updL T c t x = if x = c then t else T x := fun _ _ => rfl
    refine ⟨T', ?_, fun x hx => ?_, fun x h1 h2 => ?_⟩
    · have w := fun acc => w122 (N := N) (p := p) (S := yJ S 0 4 T) (k97 := fun S p0 l4 l5 l6 => f_X6_weigh_97 n N S p0 l4 l5 l6) (l4 := l4) (l5 := l5) (cI := Int32.ofNat c) h18 h4 nc (by omega) n18 0 N acc (by omega) (by omega)
      have w' : ∀ acc, f_X6_weigh_117 N (fun S p0 l4 l5 l6 => f_X6_weigh_97 n N S p0 l4 l5 l6) (yJ S 0 4 T) (128 + p) l4 l5 (Int32.ofNat c) acc = f_X6_weigh_97 n N (yJ S 0 4 (vp_updL T c (lF (S.2.1 (128 + p) 19) (Int32.ofNat c) n18 0 acc))) (128 + p) l4 l5 (Int32.ofNat (c + 1)) := fun acc => by
        refine Eq.trans (w acc) ?_
        rw [yJ_same, yJ_yJ, y_int1]
        rfl
      rw [f_X6_weigh_97, if_neg (fun z => by have := (nn_le hC nc).mp z; omega), gA_nn nc (by omega), yJ_same, w', w']
      by_cases e : l5 = 0
      · rw [if_pos e]
        rw [if_pos e] at a1
        exact a1
      · rw [if_neg e]
        rw [if_neg e] at a1
        exact a1
    · rw [a2 x (by omega), u1, if_neg (by omega)]
    · by_cases e : x = c
      · rw [e, a2 c (by omega), u1, if_pos rfl]
      · rw [a3 x (by omega) h2, u1, if_neg e]
/-- the reference: one cell at a time -/
theorem s122 {N p n18 : Nat} {S : yS} {row : Nat → Int32} {pI cI : Int32} (hp : nn pI p) (p8 : p < 8) (h18 : nn (S.2.1 8 48 (19 + 23 * p + 14)) n18) (h4 : n18 ≤ 4) (hr : ∀ j, j < 2 * n18 → S.2.1 8 48 (19 + 23 * p + 15 + j) = row j) : ∀ (d i n : Nat) (acc : Int64), i + d = n18 → d < n → f_X12_share_122 n N S pI cI acc (Int32.ofNat i) = some (lF row cI d i acc) := by
  intro d
  induction d with
  | zero =>
    intro i n acc hi hn
    obtain ⟨n, rfl⟩ : ∃ x, n = x + 1 := ⟨n - 1, by omega⟩
    rw [f_X12_share_122, em_planeR hp p8 (nn_l 14 (by decide)) (by decide), bV_s, if_pos ((nn_le h18 (nn_lit i (by omega))).mpr (by omega))]
    rfl
  | succ d ih =>
    intro i n acc hi hn
    obtain ⟨n, rfl⟩ : ∃ x, n = x + 1 := ⟨n - 1, by omega⟩
    have ni := nn_lit i (by omega)
    have n15 := nn_add (nn_l 15 (by decide)) (nn_mul (nn_l 2 (by decide)) ni (by omega)) (by omega)
    have e1 : S.2.1 8 48 (19 + 23 * p + (15 + 2 * i)) = row (2 * i) := by rw [← hr (2 * i) (by omega), Nat.add_assoc (19 + 23 * p) 15 (2 * i)]
    have e2 : S.2.1 8 48 (19 + 23 * p + (15 + 2 * i + 1)) = row (2 * i + 1) := by rw [← hr (2 * i + 1) (by omega), Nat.add_assoc (19 + 23 * p) 15 (2 * i + 1), Nat.add_assoc 15 (2 * i) 1]
    rw [f_X12_share_122, em_planeR hp p8 (nn_l 14 (by decide)) (by decide), bV_s, if_neg (fun z => by have := (nn_le h18 ni).mp z; omega), em_planeR hp p8 n15 (by omega), bV_s, e1, em_planeR hp p8 (nn_add n15 (nn_l 1 (by decide)) (by omega)) (by omega), bV_s, e2]
    unfold f_X12_share_176 lF
    rw [y_int1]
    by_cases e : row (2 * i) = cI
    · rw [if_neg (fun z => z e), if_pos e]
      exact ih (i + 1) n _ (by omega) (by omega)
    · rw [if_pos e, if_neg e]
      exact ih (i + 1) n _ (by omega) (by omega)
theorem s16 {N p l s M k c : Nat} {S : yS} {pI cI lI from' : Int32} {z : Prop} [Decidable z] (hp : nn pI p) (p8 : p < 8) (hl : nn lI l) (l12 : l < 12) (hc : nn cI c) (hs : nn (S.2.1 8 16 p) s) (hk : nn (S.2.1 8 19 p) k) (hM : nn (S.2.1 8 4 l) M) (s60 : s ≤ 60) (k60 : k ≤ 60) (M4 : M ≤ 400) (hz : S.2.1 8 48 (19 + 23 * p + 13) = from') (hz2 : (¬ from' = S.2.1 8 2 l) ↔ z) : ∀ (f q n a h : Nat), q + f = k + 1 → f < n → f_X12_share_16 n N S pI cI lI (Int32.ofNat a) (Int32.ofNat h) (Int32.ofNat q) = f_X12_share_105 N S pI cI (Int32.ofNat (a + hA s M k f q)) (Int32.ofNat (h + hF s M k z c f q)) := by
  intro f
  induction f with
  | zero =>
    intro q n a h hq hn
    obtain ⟨n, rfl⟩ : ∃ x, n = x + 1 := ⟨n - 1, by omega⟩
    rw [f_X12_share_16, gA_nn hp p8, if_pos ((nn_lt hk (nn_lit q (by omega))).mpr (by omega))]
    rfl
  | succ f ih =>
    intro q n a h hq hn
    obtain ⟨n, rfl⟩ : ∃ x, n = x + 1 := ⟨n - 1, by omega⟩
    have nq := nn_lit q (by omega)
    have b1 : s * q ≤ 60 * q := Nat.mul_le_mul_right q s60
    have sq' := nn_mul hs nq (by omega)
    have hk' : ¬ S.2.1 8 19 p < Int32.ofNat q := fun y => by have := (nn_lt hk nq).mp y; omega
    rw [f_X12_share_16, gA_nn hp p8, if_neg hk', gA_nn hp p8, gA_nn hl l12]
    unfold hA hF
    by_cases c1 : M ≤ s * q
    · rw [if_neg (fun y => by have := (nn_lt sq' hM).mp y; omega), if_pos (Or.inr c1), if_pos (Or.inr c1)]
      rfl
    · have cc : ¬ (k < q ∨ M ≤ s * q) := fun y => by omega
      have fin : ∀ (tI : Int32) (t : Nat), nn tI t → t = (if z then M - s * q else s * q) → f_X12_share_85 N (fun S l1 l2 l3 l4 l5 l6 => f_X12_share_16 n N S l1 l2 l3 l4 l5 l6) S pI cI lI (Int32.ofNat a + 1) (Int32.ofNat h) (Int32.ofNat q) tI = f_X12_share_105 N S pI cI (Int32.ofNat (a + (1 + hA s M k f (q + 1)))) (Int32.ofNat (h + ((if (if z then M - s * q else s * q) / 10 = c then 1 else 0) + hF s M k z c f (q + 1)))) := by
        intro tI t ht et
        have hd := nn_div ht (nn_l 10 (by decide))
        unfold f_X12_share_85 f_X12_share_99
        rw [y_int1, y_int1]
        by_cases e : t / 10 = c
        · rw [if_neg (fun y => y ((nn_eq hd hc).mpr e)), y_int1]
          show f_X12_share_16 n N S pI cI lI (Int32.ofNat (a + 1)) (Int32.ofNat (h + 1)) (Int32.ofNat (q + 1)) = _
          rw [ih (q + 1) n (a + 1) (h + 1) (by omega) (by omega), ← et, if_pos e, show a + 1 + hA s M k f (q + 1) = a + (1 + hA s M k f (q + 1)) by omega, show h + 1 + hF s M k z c f (q + 1) = h + (1 + hF s M k z c f (q + 1)) by omega]
        · rw [if_pos (fun y => e ((nn_eq hd hc).mp y))]
          show f_X12_share_16 n N S pI cI lI (Int32.ofNat (a + 1)) (Int32.ofNat h) (Int32.ofNat (q + 1)) = _
          rw [ih (q + 1) n (a + 1) h (by omega) (by omega), ← et, if_neg e, show a + 1 + hA s M k f (q + 1) = a + (1 + hA s M k f (q + 1)) by omega, Nat.zero_add]
      rw [if_pos ((nn_lt sq' hM).mpr (by omega)), em_planeR hp p8 (nn_l 13 (by decide)) (by decide), bV_s, hz, gA_nn hl l12, gA_nn hl l12, if_neg cc, if_neg cc]
      by_cases e : z
      · rw [if_pos (hz2.mpr e)]
        exact fin _ _ (nn_sub hM sq' (by omega)) (by rw [if_pos e])
      · rw [if_neg (fun y => e (hz2.mp y))]
        exact fin _ _ sq' (by rw [if_neg e])
/-- the weight of a cell -/
def wV (s M k : Nat) (z : Prop) [Decidable z] (row : Nat → Int32) (n18 c : Nat) : Int64 := lF row (Int32.ofNat c) n18 0 (if hA s M k k 1 = 0 then 1 else Int64.ofNat (hF s M k z c k 1))
theorem lF_ll {row : Nat → Int32} {cI : Int32} {n : Nat} (hr : ∀ j, j < n → ∃ y, nn (row (2 * j + 1)) y ∧ 1 ≤ y ∧ y ≤ 99) : ∀ (d i : Nat) (acc : Int64) (a B : Nat), i + d = n → d ≤ 4 → ll acc a → a * 100 ^ d ≤ B → B ≤ 6000000000 → ∃ b, ll (lF row cI d i acc) b ∧ b ≤ B
  | 0, i, acc, a, B, _, _, ha, hB, _ => ⟨a, ha, by rw [Nat.pow_zero, Nat.mul_one] at hB; exact hB⟩
  | d + 1, i, acc, a, B, hi, hd, ha, hB, hB2 => by
    obtain ⟨y, y1, y2, y3⟩ := hr i (by omega)
    have p100 : 1 ≤ 100 ^ d := Nat.one_le_pow _ _ (by decide)
    have hm : ∃ t, ll (if row (2 * i) = cI then (100 - row (2 * i + 1)).toInt64 else 100) t ∧ t ≤ 100 := by
      by_cases e : row (2 * i) = cI
      · rw [if_pos e]
        exact ⟨_, nn_ll (nn_sub (nn_l 100 (by decide)) y1 (by omega)), by omega⟩
      · rw [if_neg e]
        exact ⟨100, ll_lit 100 (by decide), Nat.le_refl _⟩
    obtain ⟨t, t1, t2⟩ := hm
    have e1 : a * t ≤ a * 100 := Nat.mul_le_mul_left a t2
    have e2 : a * t * 100 ^ d ≤ a * 100 * 100 ^ d := Nat.mul_le_mul_right _ e1
    have e3 : a * 100 * 100 ^ d = a * 100 ^ (d + 1) := by rw [Nat.pow_succ, Nat.mul_assoc, Nat.mul_comm 100 (100 ^ d)]
    have e4 : a * t ≤ a * t * 100 ^ d := Nat.le_mul_of_pos_right _ (by omega)
    exact lF_ll hr d (i + 1) _ (a * t) B (by omega) (by omega) (ll_mul ha t1 (by omega)) (by omega) hB2
theorem wV_ll {s M k : Nat} {z : Prop} [Decidable z] {row : Nat → Int32} {n18 c : Nat} (k60 : k ≤ 60) (n4 : n18 ≤ 4) (hr : ∀ j, j < n18 → ∃ y, nn (row (2 * j + 1)) y ∧ 1 ≤ y ∧ y ≤ 99) : ∃ b, ll (wV s M k z row n18 c) b ∧ b ≤ 6000000000 := by
  have h := hF_le (s := s) (M := M) (k := k) (z := z) (c := c) k 1
  have pw : 100 ^ n18 ≤ 100000000 := Nat.le_trans (Nat.pow_le_pow_right (by decide) n4) (by decide)
  have key : ∀ (acc : Int64) (a : Nat), ll acc a → a ≤ 60 → ∃ b, ll (lF row (Int32.ofNat c) n18 0 acc) b ∧ b ≤ 6000000000 := fun acc a ha h60 => lF_ll hr n18 0 acc a 6000000000 (by omega) n4 ha (by
    have := Nat.mul_le_mul h60 pw
    omega) (Nat.le_refl _)
  unfold wV
  by_cases e : hA s M k k 1 = 0
  · rw [if_pos e]; exact key _ 1 (ll_lit 1 (by decide)) (by decide)
  · rw [if_neg e]; exact key _ _ (ll_lit _ (by omega)) (by omega)
/-- both weigh the same -/
theorem weigh_both {cK : Nat → Nat} {N nf nl np nq nb ng p : Nat} {Sc Sm : yS} {pI : Int32} (hN : 120 < N) (hT : ST cK nf nl np nq nb ng Sc Sm) (hD : DY cK nf nl np nq nb ng Sc Sm) (p1 : nn pI p) (p2 : p < np) (h12 : ¬ Sc.1 (128 + p) 12 = 0) : ∃ (C : Nat) (W T : Nat → Int64) (l : Nat) (CI : Int32), nn CI C ∧ 2 ≤ C ∧ C ≤ 41 ∧ f_X11_weighCells N Sc pI = some (CI, yJ Sc 0 4 T) ∧ (∀ c, c < C → T c = W c) ∧ (∀ cI c, nn cI c → c < C → f_X12_share N Sm pI cI = some (W c)) ∧ (∀ c, ∃ b, ll (W c) b ∧ b ≤ 6000000000) ∧ nn (Sc.1 (128 + p) 9) l ∧ l < nl ∧ Sc.1 (64 + l) 2 / 10 + 1 = CI ∧ f_X12_cells N Sm pI = some CI := by
  obtain ⟨t1, t2, t3, t4, t5, t6, t7, t8, t9, t10, t11, t12, t13, t14⟩ := id hT
  obtain ⟨z12, z8, l, m, M, a1, a2, a3, a4, a5, a6, a7, a8⟩ := down_has hT hD p2 h12
  have p8 : p < 8 := by have := t7.1.2.1; omega
  have l12 : l < 12 := by have := t2.2.1; omega
  obtain ⟨kk, hR⟩ := t2.2.2.2.1 l a2
  obtain ⟨r1, _, _, _, r5, r6, r7, _⟩ := hR
  obtain ⟨x0, x1, x2, x3, x4, x5, ⟨s, s1, s2, s3⟩, ⟨k, k1, k2, k3, _⟩⟩ := t8 p p2
  obtain ⟨i1, i2, i3, i4, i5, i6⟩ := hD.2.2.2.2.2.2.2.2 p p2
  obtain ⟨n18, n1, ⟨n2, nr⟩, n3, n4⟩ := i6 z12
  obtain ⟨g, g1, g2, g5⟩ : ∃ g, nn (Sc.1 (128 + p) 17) g ∧ g < ng ∧ Sm.2.1 8 48 (19 + 23 * p + 13) = Sc.1 (512 + g) 7 := by
    rcases i4 with ⟨⟨f, f1, _⟩, _⟩ | ⟨_, _, _, _, g, g1, g2, _, _, g5, _⟩
    · exact absurd f1.nneg (by rw [z8]; decide)
    · exact ⟨g, g1, g2, g5⟩
  have g24 : g < 24 := by have := t7.2.2.2.2.1; omega
  have u : ∀ j q, j < 12 → pS j = q → Sm.2.1 8 48 (19 + 23 * p + j) = Sc.1 (128 + p) q := fun j q hj hk => by rw [← hk]; exact hD.2.2.2.2.1 p p2 j hj
  have hCI := nn_add (nn_div a4 (nn_l 10 (by decide))) (nn_l 1 (by decide)) (by omega)
  have C41 : M / 10 + 1 ≤ 41 := by omega
  have C2 : 2 ≤ M / 10 + 1 := by omega
  -- the class
  have hc : ∀ l2 : Int32, (l2 = 0 ↔ ¬ Sc.1 (512 + g) 7 = Sc.1 (64 + l) 0) → ∃ T, (bS (f_X6_weigh N Sc (128 + p) (64 + l) l2) fun w1 S1 => bV (f_X3_cellCount N S1 (64 + l)) fun w2 => some (w2, S1)) = some (Sc.1 (64 + l) 2 / 10 + 1, yJ Sc 0 4 T) ∧ ∀ c, c < M / 10 + 1 → T c = wV s M k (¬ Sc.1 (512 + g) 7 = Sc.1 (64 + l) 0) (Sc.2.1 (128 + p) 19) n18 c := by
    intro l2 hl2
    obtain ⟨T1, b1, b2⟩ := w22 (N := N) (p := p) (l := l) (S := Sc) (l2 := l2) (l4 := Sc.1 (64 + l) 2 / 10 + 1) s1 k1 a4 s3 k3 (by omega) k 1 N (fun i => if i < 41 then 0 else Sc.2.2 0 4 i) (fun _ => 0) 0 (by omega) (by omega) (fun c hc => by show (if c < 41 then (0 : Int64) else _) = Int64.ofNat 0; rw [if_pos hc]; rfl)
    obtain ⟨T2, c1, c2, c3⟩ := w97 (N := N) (p := p) (S := Sc) (l5 := if hA s M k k 1 = 0 then 0 else 1) n1 n2 (by omega) hCI C41 (M / 10 + 1) 0 N T1 (by omega) (by omega)
    refine ⟨T2, ?_, fun c hc => ?_⟩
    · unfold f_X6_weigh f_X6_weigh_0 f_X3_cellCount f_X3_cellCount_0
      rw [bV_s, sq_s, if_neg (show ¬ Int32.ofNat 41 < Sc.1 (64 + l) 2 / 10 + 1 from fun z => by have := (nn_lt (nn_lit 41 (by decide)) hCI).mp z; omega)]
      have b1' : f_X6_weigh_22 N N (yJ Sc 0 4 fun i => if i < 41 then 0 else Sc.2.2 0 4 i) (128 + p) (64 + l) l2 (Sc.1 (64 + l) 2 / 10 + 1) 0 1 = f_X6_weigh_94 N (yJ Sc 0 4 T1) (128 + p) (Sc.1 (64 + l) 2 / 10 + 1) (if hA s M k k 1 = 0 then 0 else 1) := b1
      have c1' : f_X6_weigh_94 N (yJ Sc 0 4 T1) (128 + p) (Sc.1 (64 + l) 2 / 10 + 1) (if hA s M k k 1 = 0 then 0 else 1) = some (0, yJ Sc 0 4 T2) := c1
      rw [b1', c1', bS_s, bV_s]
      rfl
    · rw [c3 c (Nat.zero_le _) hc, b2 c (by omega), Nat.zero_add]
      have eh : hF s M k (l2 = 0) c k 1 = hF s M k (¬ Sc.1 (512 + g) 7 = Sc.1 (64 + l) 0) c k 1 := by
        have : ∀ f q, hF s M k (l2 = 0) c f q = hF s M k (¬ Sc.1 (512 + g) 7 = Sc.1 (64 + l) 0) c f q := by
          intro f
          induction f with
          | zero => intro q; rfl
          | succ f ih =>
            intro q
            unfold hF
            rw [ih]
            by_cases y : l2 = 0
            · rw [if_pos y, if_pos (hl2.mp y)]
            · rw [if_neg y, if_neg (fun w => y (hl2.mpr w))]
        exact this k 1
      rw [eh]
      unfold wV
      by_cases y : hA s M k k 1 = 0
      · rw [if_pos y, if_pos y, if_pos rfl]
      · rw [if_neg y, if_neg y, if_neg (show ¬ (1 : Int32) = 0 by decide)]
  refine ⟨M / 10 + 1, wV s M k (¬ Sc.1 (512 + g) 7 = Sc.1 (64 + l) 0) (Sc.2.1 (128 + p) 19) n18, ?_⟩
  have hcl : ∃ T, f_X11_weighCells N Sc pI = some (Sc.1 (64 + l) 2 / 10 + 1, yJ Sc 0 4 T) ∧ ∀ c, c < M / 10 + 1 → T c = wV s M k (¬ Sc.1 (512 + g) 7 = Sc.1 (64 + l) 0) (Sc.2.1 (128 + p) 19) n18 c := by
    unfold f_X11_weighCells f_X11_weighCells_0 f_X11_weighCells_50
    rw [gR_nn p1 p8 x0, gR_nn a1 l12 r1, gR_nn g1 g24 (t11 g g2).1]
    by_cases y : Sc.1 (512 + g) 7 = Sc.1 (64 + l) 0
    · rw [if_neg (fun w => w y)]
      exact hc 1 ⟨fun w => absurd w (by decide), fun w => absurd y w⟩
    · rw [if_pos y]
      exact hc 0 ⟨fun _ => y, fun _ => rfl⟩
  obtain ⟨T, hT1, hT2⟩ := hcl
  refine ⟨T, l, Sc.1 (64 + l) 2 / 10 + 1, hCI, C2, C41, hT1, hT2, fun cI c hcI hcC => ?_, fun c => wV_ll k3 n2 nr, a1, a2, rfl, ?_⟩
  · have e16 := s16 (N := N) (p := p) (l := l) (S := Sm) (pI := pI) (cI := cI) (lI := Sc.1 (128 + p) 9) (from' := Sc.1 (512 + g) 7) (z := ¬ Sc.1 (512 + g) 7 = Sc.1 (64 + l) 0) p1 p8 a1 l12 hcI (by rw [x1]; exact s1) (by rw [x4]; exact k1) (by rw [r7]; exact a4) s3 k3 (by omega) g5 (by rw [r5]) k 1 N 0 0 (by omega) (by omega)
    have e122 := fun acc => s122 (N := N) (p := p) (S := Sm) (row := Sc.2.1 (128 + p) 19) (pI := pI) (cI := cI) p1 p8 (by rw [n3]; exact n1) n2 n4 n18 0 N acc (by omega) (by omega)
    have e122' : ∀ acc, f_X12_share_117 N Sm pI cI acc = some (lF (Sc.2.1 (128 + p) 19) cI n18 0 acc) := e122
    unfold f_X12_share f_X12_share_0
    rw [em_planeR p1 p8 (nn_l 1 (by decide)) (by decide), bV_s, u 1 9 (by decide) rfl]
    refine Eq.trans (show _ = f_X12_share_16 N N Sm pI cI (Sc.1 (128 + p) 9) (Int32.ofNat 0) (Int32.ofNat 0) (Int32.ofNat 1) from rfl) ?_
    rw [e16]
    unfold f_X12_share_105
    rw [e122', e122', Nat.zero_add, Nat.zero_add]
    have hAl := hA_le (s := s) (M := M) (k := k) k 1
    have hFl := hF_le (s := s) (M := M) (k := k) (z := ¬ Sc.1 (512 + g) 7 = Sc.1 (64 + l) 0) (c := c) k 1
    unfold wV
    rw [hcI.1]
    by_cases y : hA s M k k 1 = 0
    · rw [if_pos y, y, if_neg (show ¬ ¬ Int32.ofNat 0 = 0 from fun w => w rfl)]
    · rw [if_neg y, if_pos (fun w => y ((nn_eq (nn_lit (hA s M k k 1) (by omega)) (nn_l 0 (by decide))).mp w)), (nn_ll (nn_lit _ (by omega))).1]
  · unfold f_X12_cells f_X12_cells_0
    rw [em_planeR p1 p8 (nn_l 1 (by decide)) (by decide), bV_s, u 1 9 (by decide) rfl, gA_nn a1 l12, r7]
