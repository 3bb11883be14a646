/-! FORCED: the same ground on both sides -/
def zAb (x : Int32) : Int32 := if 0 ≤ x then x else 0 - x
/-- ground i is better than ground t, from mile m -/
def gBt (S : yS) (o : Nat) (m : Int32) (i t : Nat) : Prop := S.2.1 o 6 i < S.2.1 o 6 t ∨ (S.2.1 o 6 i = S.2.1 o 6 t ∧ (zAb (S.2.1 o 5 i - m) < zAb (S.2.1 o 5 t - m) ∨ (zAb (S.2.1 o 5 i - m) = zAb (S.2.1 o 5 t - m) ∧ S.2.1 o 5 i < S.2.1 o 5 t)))
theorem e_better {N o i t : Nat} {S : yS} {m a b : Int32} (ha : nn a i) (hb : nn b t) (hi : i < 4) (ht : t < 4) : (gBt S o m i t → f_X3_isBetter N S o a b m = some 1) ∧ (¬ gBt S o m i t → f_X3_isBetter N S o a b m = some 0) := by
  have h91 : f_X3_isBetter_91 N S = some 1 := by unfold f_X3_isBetter_91 f_X3_isBetter_96; exact gP_t (Or.inr rfl)
  have h95 : f_X3_isBetter_95 N S = some 0 := by unfold f_X3_isBetter_95 f_X3_isBetter_96; exact gP_t (Or.inl rfl)
  have h350 : f_X3_isBetter_35 N S 0 = some 0 := by unfold f_X3_isBetter_35; exact gP_t (Or.inl rfl)
  have h351 : f_X3_isBetter_35 N S 1 = some 1 := by unfold f_X3_isBetter_35; exact gP_t (Or.inr rfl)
  unfold f_X3_isBetter f_X3_isBetter_0
  simp only [gA_nn ha hi, gA_nn hb ht, h91, h95, h350, h351]
  show (gBt S o m i t → (if S.2.1 o 6 i = S.2.1 o 6 t then if zAb (S.2.1 o 5 i - m) < zAb (S.2.1 o 5 t - m) then some 1 else if ¬ zAb (S.2.1 o 5 i - m) = zAb (S.2.1 o 5 t - m) then some 0 else if S.2.1 o 5 t ≤ S.2.1 o 5 i then some 0 else some 1 else if S.2.1 o 6 t ≤ S.2.1 o 6 i then some 0 else some (1 : Int32)) = some 1) ∧ (¬ gBt S o m i t → (if S.2.1 o 6 i = S.2.1 o 6 t then if zAb (S.2.1 o 5 i - m) < zAb (S.2.1 o 5 t - m) then some 1 else if ¬ zAb (S.2.1 o 5 i - m) = zAb (S.2.1 o 5 t - m) then some 0 else if S.2.1 o 5 t ≤ S.2.1 o 5 i then some 0 else some 1 else if S.2.1 o 6 t ≤ S.2.1 o 6 i then some 0 else some 1) = some (0 : Int32))
  unfold gBt
  by_cases c1 : S.2.1 o 6 i = S.2.1 o 6 t
  · rw [if_pos c1]
    have ir : ¬ S.2.1 o 6 i < S.2.1 o 6 t := by rw [c1]; exact fun z => Int32.lt_irrefl z
    by_cases c2 : zAb (S.2.1 o 5 i - m) < zAb (S.2.1 o 5 t - m)
    · rw [if_pos c2]
      exact ⟨fun _ => rfl, fun q => absurd (Or.inr ⟨c1, Or.inl c2⟩) q⟩
    · rw [if_neg c2]
      by_cases c3 : zAb (S.2.1 o 5 i - m) = zAb (S.2.1 o 5 t - m)
      · rw [if_neg (fun q => q c3)]
        by_cases c4 : S.2.1 o 5 t ≤ S.2.1 o 5 i
        · rw [if_pos c4]
          refine ⟨fun q => ?_, fun _ => rfl⟩
          rcases q with q | ⟨_, q | ⟨_, q⟩⟩
          · exact absurd q ir
          · exact absurd q c2
          · exact absurd c4 (Int32.not_le.mpr q)
        · rw [if_neg c4]
          exact ⟨fun _ => rfl, fun q => absurd (Or.inr ⟨c1, Or.inr ⟨c3, Int32.not_le.mp c4⟩⟩) q⟩
      · rw [if_pos c3]
        refine ⟨fun q => ?_, fun _ => rfl⟩
        rcases q with q | ⟨_, q | ⟨q, _⟩⟩
        · exact absurd q ir
        · exact absurd q c2
        · exact absurd q c3
  · rw [if_neg c1]
    by_cases c4 : S.2.1 o 6 t ≤ S.2.1 o 6 i
    · rw [if_pos c4]
      refine ⟨fun q => ?_, fun _ => rfl⟩
      rcases q with q | ⟨q, _⟩
      · exact absurd c4 (Int32.not_le.mpr q)
      · exact absurd q c1
    · rw [if_neg c4]
      exact ⟨fun _ => rfl, fun q => absurd (Or.inl (Int32.not_le.mp c4)) q⟩
/-- the two loops find the same -/
theorem ground_loop {N l k p : Nat} {Sc Sm : yS} {m gl pI lI : Int32} (hl : l < 12) (hlI : nn lI l) (hk : nn (Sc.1 (64 + l) 4) k) (hk4 : k ≤ 4) (hm8 : Sm.2.1 8 8 l = Sc.1 (64 + l) 4) (hg : ∀ j, j < k → Sc.2.1 (64 + l) 5 j = Sm.2.1 8 6 (4 * l + j) ∧ Sc.2.1 (64 + l) 6 j = Sm.2.1 8 7 (4 * l + j)) (hgl : Sm.1 8 35 = gl) : ∀ (d i n n' : Nat) (b : Option Nat), i + d = k → d < n → d < n' → (∀ j, b = some j → j < k) → ∃ b', (∀ j, b' = some j → j < k) ∧ f_X3_bestGround_5 n N Sc (64 + l) m gl (encN b) (Int32.ofNat i) = some (encN b') ∧ f_X12_forced_20 n' N Sm pI lI m (encN b) (Int32.ofNat i) = (match b' with
    | none => f_X12_forced_198 N Sm pI lI (-1) 4
    | some j => f_X12_forced_198 N Sm pI lI (Int32.ofNat j) (Sc.2.1 (64 + l) 6 j)) := by
  intro d
  induction d with
  | zero =>
    intro i n n' b hi hn hn' hb
    obtain ⟨n, rfl⟩ : ∃ x, n = x + 1 := ⟨n - 1, by omega⟩
    obtain ⟨n', rfl⟩ : ∃ x, n' = x + 1 := ⟨n' - 1, by omega⟩
    have le : Sc.1 (64 + l) 4 ≤ Int32.ofNat i := (nn_le hk (nn_lit i (by omega))).mpr (by omega)
    refine ⟨b, hb, by rw [f_X3_bestGround_5, if_pos le], ?_⟩
    rw [f_X12_forced_20, gA_nn hlI hl, hm8, if_pos le]
    cases b with
    | none => rw [if_neg (fun q => q rfl)]; rfl
    | some j =>
      have hj := hb j rfl
      have nj := nn_lit j (by omega)
      rw [if_pos (encN_ne j (by omega)), show encN (some j) = Int32.ofNat j from rfl, gA_nn (nn_add (nn_mul (nn_l 4 (by decide)) hlI (by omega)) nj (by omega)) (by omega), ← (hg j hj).2]
  | succ d ih =>
    intro i n n' b hi hn hn' hb
    obtain ⟨n, rfl⟩ : ∃ x, n = x + 1 := ⟨n - 1, by omega⟩
    obtain ⟨n', rfl⟩ : ∃ x, n' = x + 1 := ⟨n' - 1, by omega⟩
    have ni := nn_lit i (by omega)
    have nle : ¬ Sc.1 (64 + l) 4 ≤ Int32.ofNat i := fun q => by have := (nn_le hk ni).mp q; omega
    have n4 := nn_mul (nn_l 4 (by decide)) hlI (by omega)
    obtain ⟨g1, g2⟩ := hg i (by omega)
    have mi := nn_add n4 ni (by omega)
    have step : ∀ b2, (∀ j, b2 = some j → j < k) → f_X3_bestGround_5 (n + 1) N Sc (64 + l) m gl (encN b) (Int32.ofNat i) = f_X3_bestGround_5 n N Sc (64 + l) m gl (encN b2) (Int32.ofNat (i + 1)) → f_X12_forced_20 (n' + 1) N Sm pI lI m (encN b) (Int32.ofNat i) = f_X12_forced_20 n' N Sm pI lI m (encN b2) (Int32.ofNat (i + 1)) → ∃ b', (∀ j, b' = some j → j < k) ∧ f_X3_bestGround_5 (n + 1) N Sc (64 + l) m gl (encN b) (Int32.ofNat i) = some (encN b') ∧ f_X12_forced_20 (n' + 1) N Sm pI lI m (encN b) (Int32.ofNat i) = (match b' with
        | none => f_X12_forced_198 N Sm pI lI (-1) 4
        | some j => f_X12_forced_198 N Sm pI lI (Int32.ofNat j) (Sc.2.1 (64 + l) 6 j)) := by
      intro b2 hb2 e1 e2
      rw [e1, e2]
      exact ih (i + 1) n n' b2 (by omega) (by omega) (by omega) hb2
    have ec : f_X3_bestGround_5 (n + 1) N Sc (64 + l) m gl (encN b) (Int32.ofNat i) = if gl < zAb (Sc.2.1 (64 + l) 5 i - m) then f_X3_bestGround_5 n N Sc (64 + l) m gl (encN b) (Int32.ofNat (i + 1)) else if encN b = -1 then f_X3_bestGround_5 n N Sc (64 + l) m gl (Int32.ofNat i) (Int32.ofNat (i + 1)) else bV (f_X3_isBetter N Sc (64 + l) (Int32.ofNat i) (encN b) m) fun w1 => if w1 = 0 then f_X3_bestGround_5 n N Sc (64 + l) m gl (encN b) (Int32.ofNat (i + 1)) else f_X3_bestGround_5 n N Sc (64 + l) m gl (Int32.ofNat i) (Int32.ofNat (i + 1)) := by
      rw [f_X3_bestGround_5, if_neg nle, gA_nn ni (by omega)]
      unfold f_X3_bestGround_46 f_X3_bestGround_49
      rw [y_int1]
      rfl
    by_cases c : zAb (Sc.2.1 (64 + l) 5 i - m) ≤ gl
    · rw [if_neg (Int32.not_lt.mpr c)] at ec
      cases b with
      | none =>
        rw [if_pos (show encN none = -1 from rfl)] at ec
        refine step (some i) (fun j hj => by cases hj; omega) ec ?_
        rw [f_X12_forced_20, gA_nn hlI hl, hm8, if_neg nle, gA_nn mi (by omega), hgl, ← g1, if_pos (show (if 0 ≤ Sc.2.1 (64 + l) 5 i - m then Sc.2.1 (64 + l) 5 i - m else 0 - (Sc.2.1 (64 + l) 5 i - m)) ≤ gl from c), if_pos (show encN none = -1 from rfl)]
        unfold f_X12_forced_167 f_X12_forced_171
        rw [y_int1]
        rfl
      | some t =>
        have ht := hb t rfl
        have nt := nn_lit t (by omega)
        have tne := encN_ne t (by omega)
        obtain ⟨t1, t2⟩ := hg t ht
        rw [if_neg tne] at ec
        have mt := nn_add n4 nt (by omega)
        have em : f_X12_forced_20 (n' + 1) N Sm pI lI m (encN (some t)) (Int32.ofNat i) = if Sc.2.1 (64 + l) 6 i = Sc.2.1 (64 + l) 6 t then if zAb (Sc.2.1 (64 + l) 5 i - m) = zAb (Sc.2.1 (64 + l) 5 t - m) then if Sc.2.1 (64 + l) 5 i < Sc.2.1 (64 + l) 5 t then f_X12_forced_20 n' N Sm pI lI m (Int32.ofNat i) (Int32.ofNat (i + 1)) else f_X12_forced_20 n' N Sm pI lI m (encN (some t)) (Int32.ofNat (i + 1)) else if zAb (Sc.2.1 (64 + l) 5 i - m) ≤ zAb (Sc.2.1 (64 + l) 5 t - m) then f_X12_forced_20 n' N Sm pI lI m (Int32.ofNat i) (Int32.ofNat (i + 1)) else f_X12_forced_20 n' N Sm pI lI m (encN (some t)) (Int32.ofNat (i + 1)) else if Sc.2.1 (64 + l) 6 i ≤ Sc.2.1 (64 + l) 6 t then f_X12_forced_20 n' N Sm pI lI m (Int32.ofNat i) (Int32.ofNat (i + 1)) else f_X12_forced_20 n' N Sm pI lI m (encN (some t)) (Int32.ofNat (i + 1)) := by
          rw [f_X12_forced_20, gA_nn hlI hl, hm8, if_neg nle, gA_nn mi (by omega), hgl, ← g1, if_pos (show (if 0 ≤ Sc.2.1 (64 + l) 5 i - m then Sc.2.1 (64 + l) 5 i - m else 0 - (Sc.2.1 (64 + l) 5 i - m)) ≤ gl from c), if_neg tne]
          simp only [show encN (some t) = Int32.ofNat t from rfl, f_X12_forced_167, f_X12_forced_171, y_int1, gA_nn mi (show 4 * l + i < 48 by omega), gA_nn mt (show 4 * l + t < 48 by omega), ← g1, ← g2, ← t1, ← t2]
          rfl
        rw [show encN (some t) = Int32.ofNat t from rfl] at ec
        obtain ⟨b1, b2⟩ := e_better (N := N) (S := Sc) (o := 64 + l) (m := m) ni nt (by omega) (by omega)
        by_cases w : gBt Sc (64 + l) m i t
        · rw [b1 w, bV_s, if_neg i10] at ec
          refine step (some i) (fun j hj => by cases hj; omega) ec ?_
          refine em.trans ?_
          rcases w with w | ⟨w1, w | ⟨w2, w3⟩⟩
          · have ne : ¬ Sc.2.1 (64 + l) 6 i = Sc.2.1 (64 + l) 6 t := fun z => by rw [z] at w; exact Int32.lt_irrefl w
            rw [if_neg ne, if_pos (Int32.le_of_lt w)]
            rfl
          · have ne : ¬ zAb (Sc.2.1 (64 + l) 5 i - m) = zAb (Sc.2.1 (64 + l) 5 t - m) := fun z => by rw [z] at w; exact Int32.lt_irrefl w
            rw [if_pos w1, if_neg ne, if_pos (Int32.le_of_lt w)]
            rfl
          · rw [if_pos w1, if_pos w2, if_pos w3]
            rfl
        · rw [b2 w, bV_s, if_pos rfl] at ec
          refine step (some t) hb ec ?_
          refine em.trans ?_
          by_cases r1 : Sc.2.1 (64 + l) 6 i = Sc.2.1 (64 + l) 6 t
          · rw [if_pos r1]
            by_cases r2 : zAb (Sc.2.1 (64 + l) 5 i - m) = zAb (Sc.2.1 (64 + l) 5 t - m)
            · rw [if_pos r2, if_neg (fun q => w (Or.inr ⟨r1, Or.inr ⟨r2, q⟩⟩))]
            · rw [if_neg r2, if_neg (fun q => w (Or.inr ⟨r1, Or.inl (Int32.lt_of_le_of_ne q r2)⟩))]
          · rw [if_neg r1, if_neg (fun q => w (Or.inl (Int32.lt_of_le_of_ne q r1)))]
    · rw [if_pos (Int32.not_le.mp c)] at ec
      refine step b hb ec ?_
      rw [f_X12_forced_20, gA_nn hlI hl, hm8, if_neg nle, gA_nn mi (by omega), hgl, ← g1, if_neg (show ¬ (if 0 ≤ Sc.2.1 (64 + l) 5 i - m then Sc.2.1 (64 + l) 5 i - m else 0 - (Sc.2.1 (64 + l) 5 i - m)) ≤ gl from c)]
      unfold f_X12_forced_171
      rw [y_int1]
