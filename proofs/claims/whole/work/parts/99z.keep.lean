/-! A TRIAL: what is kept and given back -/
def cpL (a b : Nat) : List Nat → yS → yS
  | [], S => S
  | k :: ks, S => cpL a b ks (yI S b k (S.1 a k))
theorem cpL_1 {a b : Nat} (h : a ≠ b) : ∀ (ks : List Nat) (S : yS) (o k : Nat), (cpL a b ks S).1 o k = if o = b ∧ k ∈ ks then S.1 a k else S.1 o k
  | [], S, o, k => by
    rw [if_neg (fun z => by have := z.2; cases this)]
    rfl
  | k0 :: ks, S, o, k => by
    show (cpL a b ks (yI S b k0 (S.1 a k0))).1 o k = _
    rw [cpL_1 h ks]
    by_cases e : o = b
    · by_cases m : k ∈ ks
      · rw [if_pos ⟨e, m⟩, if_pos ⟨e, List.mem_cons_of_mem _ m⟩, yI_1n _ _ (fun z => h z.1)]
      · rw [if_neg (fun z => m z.2)]
        by_cases q : k = k0
        · rw [if_pos ⟨e, by rw [q]; exact List.mem_cons_self ..⟩, e, q, yI_1s]
        · rw [if_neg (fun z => by
            rcases List.mem_cons.mp z.2 with w | w
            · exact q w
            · exact m w), yI_1n _ _ (fun z => q z.2)]
    · rw [if_neg (fun z => e z.1), if_neg (fun z => e z.1), yI_1n _ _ (fun z => e z.1)]
theorem cpL_2 {a b : Nat} : ∀ (ks : List Nat) (S : yS), (cpL a b ks S).2 = S.2
  | [], _ => rfl
  | k0 :: ks, S => by
    show (cpL a b ks (yI S b k0 (S.1 a k0))).2 = S.2
    rw [cpL_2 ks]
    rfl
/-- object b keeps what object a has -/
def kOne (a b fl : Nat) (L : List Nat) (S S' : yS) : Prop := (∀ o k, o ≠ b → ¬ (o = a ∧ k = fl) → S'.1 o k = S.1 o k ∧ S'.2.1 o k = S.2.1 o k) ∧ (∀ k, k ≠ fl → S'.2.1 a k = S.2.1 a k) ∧ S'.2.1 a fl = S.2.1 a fl ∧ S'.1 a fl = 1 ∧ ¬ S'.1 b fl = 1 ∧ ∀ k, k ∈ L → S'.1 b k = S.1 a k
theorem kOne_old {a b fl : Nat} {L : List Nat} {S : yS} (h : a ≠ b) (hf : ¬ fl ∈ L) (h1 : S.1 a fl = 1) (h2 : ¬ S.1 b fl = 1) : kOne a b fl L S (cpL a b L S) := by
  refine ⟨fun o k h3 _ => ⟨?_, by rw [cpL_2]⟩, fun k _ => by rw [cpL_2], by rw [cpL_2], ?_, ?_, fun k hk => ?_⟩
  · rw [cpL_1 h, if_neg (fun z => h3 z.1)]
  · rw [cpL_1 h, if_neg (fun z => h z.1)]; exact h1
  · rw [cpL_1 h, if_neg (fun z => hf z.2)]; exact h2
  · rw [cpL_1 h, if_pos ⟨rfl, hk⟩]
theorem kOne_new {a b fl : Nat} {L : List Nat} {S : yS} {I0 : Nat → Int32} (h : a ≠ b) (hf : ¬ fl ∈ L) (h0 : ¬ I0 fl = 1) : kOne a b fl L S (cpL a b L (yI (yNw S b I0) a fl 1)) := by
  refine ⟨fun o k h3 h4 => ⟨?_, by rw [cpL_2, yI_2, (yNw_o h3).2]⟩, fun k _ => by rw [cpL_2, yI_2, (yNw_o h).2], by rw [cpL_2, yI_2, (yNw_o h).2], ?_, ?_, fun k hk => ?_⟩
  · rw [cpL_1 h, if_neg (fun z => h3 z.1), yI_1n _ _ h4, (yNw_o h3).1]
  · rw [cpL_1 h, if_neg (fun z => h z.1), yI_1s]
  · rw [cpL_1 h, if_neg (fun z => hf z.2), yI_1n _ _ (fun z => h z.1.symm), yNw_s]; exact h0
  · rw [cpL_1 h, if_pos ⟨rfl, hk⟩, yI_1n _ _ (fun z => hf (by rw [← z.2]; exact hk)), (yNw_o h).1]
/-- from object B + i on to n -/
def kMany (B fl : Nat) (L : List Nat) (i n : Nat) (S S' : yS) : Prop := (∀ o k, ¬ (B + 64 + i ≤ o ∧ o < B + 64 + n) → ¬ (B + i ≤ o ∧ o < B + n ∧ k = fl) → S'.1 o k = S.1 o k) ∧ (∀ o k, ¬ (B + 64 + i ≤ o ∧ o < B + 64 + n) → S'.2.1 o k = S.2.1 o k) ∧ ∀ j, i ≤ j → j < n → S'.1 (B + j) fl = 1 ∧ ¬ S'.1 (B + 64 + j) fl = 1 ∧ ∀ k, k ∈ L → S'.1 (B + 64 + j) k = S'.1 (B + j) k
theorem kMany_nil {B fl n : Nat} {L : List Nat} (S : yS) : kMany B fl L n n S S := ⟨fun _ _ _ _ => rfl, fun _ _ _ => rfl, fun j a b => by omega⟩
theorem kMany_cons {B fl i n : Nat} {L : List Nat} {S S1 S' : yS} (hf : ¬ fl ∈ L) (hi : i < n) (hn : n ≤ 64) (h : kOne (B + i) (B + i + 64) fl L S S1) (g : kMany B fl L (i + 1) n S1 S') : kMany B fl L i n S S' := by
  obtain ⟨h1, h2, h2', h3, h4, h5⟩ := h
  obtain ⟨g1, g2, g3⟩ := g
  have e : B + 64 + i = B + i + 64 := by omega
  refine ⟨fun o k a b => ?_, fun o k a => ?_, fun j a b => ?_⟩
  · rw [g1 o k (by omega) (by omega)]
    by_cases q : o = B + i
    · by_cases w : k = fl
      · omega
      · rw [q]; exact (h1 (B + i) k (by omega) (fun z => w z.2)).1
    · exact (h1 o k (by omega) (fun z => q z.1)).1
  · rw [g2 o k (by omega)]
    by_cases q : o = B + i
    · rw [q]
      by_cases w : k = fl
      · rw [w]; exact h2'
      · exact h2 k w
    · exact (h1 o k (by omega) (fun z => q z.1)).2
  · by_cases q : j = i
    · subst q
      have ea : ∀ k, S'.1 (B + j) k = S1.1 (B + j) k := fun k => g1 _ k (by omega) (by omega)
      have eb : ∀ k, S'.1 (B + 64 + j) k = S1.1 (B + j + 64) k := fun k => by rw [g1 _ k (by omega) (by omega), e]
      refine ⟨by rw [ea]; exact h3, by rw [eb]; exact h4, fun k hk => ?_⟩
      rw [eb, ea, h5 k hk, (h1 (B + j) k (by omega) (fun z => hf (by rw [← z.2]; exact hk))).1]
    · exact g3 j (by omega) b
def lst6 : List Nat := [5, 7, 8, 9, 10, 11, 12, 13, 14, 15, 16, 17]
theorem cp6 {N a b : Nat} {S : yS} (h : a ≠ b) (h11 : S.1 a 11 = 0 ∨ S.1 a 11 = 1) (h12 : S.1 a 12 = 0 ∨ S.1 a 12 = 1) : f_X6_copy N S a b = some (0, cpL a b lst6 S) := by
  unfold f_X6_copy f_X6_copy_0
  simp only [sq_s]
  rw [gP_t (by simp only [yI_1n _ _ (show ¬ (a = b ∧ (11 : Nat) = 10) from fun z => h z.1), yI_1n _ _ (show ¬ (a = b ∧ (11 : Nat) = 9) from fun z => h z.1), yI_1n _ _ (show ¬ (a = b ∧ (11 : Nat) = 8) from fun z => h z.1), yI_1n _ _ (show ¬ (a = b ∧ (11 : Nat) = 7) from fun z => h z.1), yI_1n _ _ (show ¬ (a = b ∧ (11 : Nat) = 5) from fun z => h z.1)]; exact h11), gP_t (by simp only [yI_1n _ _ (show ¬ (a = b ∧ (12 : Nat) = 11) from fun z => h z.1), yI_1n _ _ (show ¬ (a = b ∧ (12 : Nat) = 10) from fun z => h z.1), yI_1n _ _ (show ¬ (a = b ∧ (12 : Nat) = 9) from fun z => h z.1), yI_1n _ _ (show ¬ (a = b ∧ (12 : Nat) = 8) from fun z => h z.1), yI_1n _ _ (show ¬ (a = b ∧ (12 : Nat) = 7) from fun z => h z.1), yI_1n _ _ (show ¬ (a = b ∧ (12 : Nat) = 5) from fun z => h z.1)]; exact h12)]
  rfl
theorem yRfk6 {S : yS} {i : Nat} (h : i < 64) : yRf S (128 + i + 64) = S.1 (128 + i) 20 := by
  unfold yRf
  rw [if_neg (by omega), if_neg (by omega), if_pos (by omega), Nat.add_sub_cancel]
theorem keep6 {N i : Nat} {S : yS} (hi : i < 8) (hk : ¬ S.1 (128 + i + 64) 20 = 1) (h4 : S.1 (128 + i) 4 = 0 ∨ S.1 (128 + i) 4 = 1) (h11 : S.1 (128 + i) 11 = 0 ∨ S.1 (128 + i) 11 = 1) (h12 : S.1 (128 + i) 12 = 0 ∨ S.1 (128 + i) 12 = 1) : ∃ S', f_X6_keep N S (128 + i) = some (0, S') ∧ kOne (128 + i) (128 + i + 64) 20 lst6 S S' := by
  have hne : 128 + i ≠ 128 + i + 64 := by omega
  have hf : ¬ 20 ∈ lst6 := by decide
  unfold f_X6_keep f_X6_keep_0 f_X6_keep_42
  by_cases e : S.1 (128 + i) 20 = 1
  · refine ⟨_, ?_, kOne_old hne hf e hk⟩
    rw [if_pos e, gP_t e, cp6 hne h11 h12, bS_s]
  · have e1 : oc (128 + i + 64) = 6 := oc_192 (by omega)
    refine ⟨_, ?_, kOne_new (I0 := fun k => ([S.1 (128 + i) 0, S.1 (128 + i) 1, S.1 (128 + i) 2, S.1 (128 + i) 3, S.1 (128 + i) 4, 0, 400, 0, S.1 (128 + i) 8, (-1), (-1), 0, 0, 0, 0, 0, (-1), (-1), 0, 0, 0] : List Int32).getD k 0) hne hf (show ¬ (0 : Int32) = 1 by decide)⟩
    rw [if_neg e, gP_t ⟨by omega, by omega, e1, by rw [yRfk6 (by omega)]; exact e, by rw [e1]; exact hk⟩, gP_t h4, sq_s, sq_s, gP_t (by rw [yRfk6 (by omega), yI_1s]), gP_t (yI_1s _ _ _ _), cp6 hne (by rw [yI_1n _ _ (by omega), (yNw_o hne).1]; exact h11) (by rw [yI_1n _ _ (by omega), (yNw_o hne).1]; exact h12), bS_s]
theorem keepL6 {N n : Nat} (hn : n ≤ 8) : ∀ (d i m : Nat) (S : yS), i + d = n → d < m → nn (S.1 2 5) n → (∀ j, j < n → S.2.1 2 4 j = 1) → (∀ j, j < 8 → ¬ S.1 (128 + 64 + j) 20 = 1) → (∀ i, i < n → (S.1 (128 + i) 4 = 0 ∨ S.1 (128 + i) 4 = 1) ∧ (S.1 (128 + i) 11 = 0 ∨ S.1 (128 + i) 11 = 1) ∧ (S.1 (128 + i) 12 = 0 ∨ S.1 (128 + i) 12 = 1)) → ∃ S', f_X10_keep_29 m N S (Int32.ofNat i) = f_X10_keep_54 N N S' 0 ∧ kMany 128 20 lst6 i n S S' := by
  intro d
  induction d with
  | zero =>
    intro i m S hi hm hc hx hk h4
    obtain ⟨m, rfl⟩ : ∃ x, m = x + 1 := ⟨m - 1, by omega⟩
    have e : i = n := by omega
    subst e
    refine ⟨S, ?_, kMany_nil S⟩
    rw [f_X10_keep_29, if_pos ((nn_le hc (nn_lit i (by omega))).mpr (by omega))]
  | succ d ih =>
    intro i m S hi hm hc hx hk h4
    obtain ⟨m, rfl⟩ : ∃ x, m = x + 1 := ⟨m - 1, by omega⟩
    have ni := nn_lit i (by omega)
    obtain ⟨S1, a1, a2⟩ := keep6 (N := N) (i := i) (S := S) (by omega) (by rw [show 128 + i + 64 = 128 + 64 + i by omega]; exact hk i (by omega)) (h4 i (by omega)).1 (h4 i (by omega)).2.1 (h4 i (by omega)).2.2
    have c0 : ∀ o k, o ≠ 128 + i + 64 → ¬ (o = 128 + i ∧ k = 20) → S1.1 o k = S.1 o k ∧ S1.2.1 o k = S.2.1 o k := a2.1
    obtain ⟨S', b1, b2⟩ := ih (i + 1) m S1 (by omega) (by omega) (by rw [(c0 2 5 (by omega) (by omega)).1]; exact hc) (fun j hj => by rw [(c0 2 4 (by omega) (by omega)).2]; exact hx j hj) (fun j hj => by
      by_cases e : j = i
      · rw [e, show 128 + 64 + i = 128 + i + 64 by omega]; exact a2.2.2.2.2.1
      · rw [(c0 (128 + 64 + j) 20 (by omega) (by omega)).1]; exact hk j hj) (fun j hj => by rw [(c0 (128 + j) 4 (by omega) (by omega)).1, (c0 (128 + j) 11 (by omega) (by omega)).1, (c0 (128 + j) 12 (by omega) (by omega)).1]; exact h4 j hj)
    refine ⟨S', ?_, kMany_cons (by decide) (by omega) (by omega) a2 b2⟩
    rw [f_X10_keep_29, if_neg (fun z => by have := (nn_le hc ni).mp z; omega), gR_nn ni (by omega) (hx i (by omega)), a1, bS_s, y_int1]
    exact b1
theorem back6 {N i : Nat} {S : yS} (e : S.1 (128 + i) 20 = 1) (h11 : S.1 (128 + 64 + i) 11 = 0 ∨ S.1 (128 + 64 + i) 11 = 1) (h12 : S.1 (128 + 64 + i) 12 = 0 ∨ S.1 (128 + 64 + i) 12 = 1) : f_X6_giveBack N S (128 + i) = some (0, cpL (128 + 64 + i) (128 + i) lst6 S) := by
  unfold f_X6_giveBack f_X6_giveBack_0 f_X6_giveBack_15
  rw [if_pos e, gP_t e, show 128 + i + 64 = 128 + 64 + i by omega, cp6 (by omega) h11 h12, bS_s]
theorem backL6 {N n : Nat} (hn : n ≤ 8) : ∀ (d i m : Nat) (S : yS), i + d = n → d < m → nn (S.1 2 5) n → (∀ j, j < n → S.2.1 2 4 j = 1) → (∀ j, j < n → S.1 (128 + j) 20 = 1) → (∀ j, j < n → (S.1 (128 + 64 + j) 11 = 0 ∨ S.1 (128 + 64 + j) 11 = 1) ∧ (S.1 (128 + 64 + j) 12 = 0 ∨ S.1 (128 + 64 + j) 12 = 1)) → ∃ S', f_X10_giveBack_29 m N S (Int32.ofNat i) = f_X10_giveBack_54 N N S' 0 ∧ S'.2 = S.2 ∧ ∀ o k, S'.1 o k = if 128 + i ≤ o ∧ o < 128 + n ∧ k ∈ lst6 then S.1 (o + 64) k else S.1 o k := by
  intro d
  induction d with
  | zero =>
    intro i m S hi hm hc hx hk h4
    obtain ⟨m, rfl⟩ : ∃ x, m = x + 1 := ⟨m - 1, by omega⟩
    refine ⟨S, ?_, rfl, fun o k => by rw [if_neg (by omega)]⟩
    rw [f_X10_giveBack_29, if_pos ((nn_le hc (nn_lit i (by omega))).mpr (by omega))]
  | succ d ih =>
    intro i m S hi hm hc hx hk h4
    obtain ⟨m, rfl⟩ : ∃ x, m = x + 1 := ⟨m - 1, by omega⟩
    have ni := nn_lit i (by omega)
    have hne : 128 + 64 + i ≠ 128 + i := by omega
    have c1 : ∀ o k, o ≠ 128 + i → (cpL (128 + 64 + i) (128 + i) lst6 S).1 o k = S.1 o k := fun o k h => by rw [cpL_1 hne, if_neg (fun z => h z.1)]
    have cf : (cpL (128 + 64 + i) (128 + i) lst6 S).1 (128 + i) 20 = S.1 (128 + i) 20 := by rw [cpL_1 hne, if_neg (fun z => absurd z.2 (by decide))]
    have c2 := cpL_2 (a := 128 + 64 + i) (b := 128 + i) lst6 S
    obtain ⟨S', b1, b2, b3⟩ := ih (i + 1) m (cpL (128 + 64 + i) (128 + i) lst6 S) (by omega) (by omega) (by rw [c1 2 5 (by omega)]; exact hc) (fun j hj => by rw [c2]; exact hx j hj) (fun j hj => by
      by_cases e : j = i
      · rw [e, cf]; exact hk i (by omega)
      · rw [c1 _ _ (by omega)]; exact hk j hj) (fun j hj => by rw [c1 _ _ (by omega), c1 _ _ (by omega)]; exact h4 j hj)
    refine ⟨S', ?_, b2.trans c2, fun o k => ?_⟩
    · rw [f_X10_giveBack_29, if_neg (fun z => by have := (nn_le hc ni).mp z; omega), gR_nn ni (by omega) (hx i (by omega)), back6 (hk i (by omega)) (h4 i (by omega)).1 (h4 i (by omega)).2, bS_s, y_int1]
      exact b1
    · rw [b3 o k]
      by_cases q : 128 + (i + 1) ≤ o ∧ o < 128 + n ∧ k ∈ lst6
      · rw [if_pos q, if_pos ⟨by have := q.1; omega, q.2⟩, c1 _ _ (by have := q.1; omega)]
      · rw [if_neg q]
        by_cases e : o = 128 + i
        · by_cases l : k ∈ lst6
          · rw [if_pos ⟨by omega, by omega, l⟩, e, cpL_1 hne, if_pos ⟨rfl, l⟩, show 128 + 64 + i = 128 + i + 64 by omega]
          · rw [if_neg (fun z => l z.2.2), e, cpL_1 hne, if_neg (fun z => l z.2)]
        · rw [c1 _ _ e, if_neg (fun z => q ⟨by have := z.1; omega, z.2⟩)]
def lst5 : List Nat := [0, 1, 2]
theorem cp5 {N a b : Nat} {S : yS} (h : a ≠ b) : f_X5_copy N S a b = some (0, cpL a b lst5 S) := by
  unfold f_X5_copy f_X5_copy_0
  rfl
theorem yRfk5 {S : yS} {i : Nat} (h : i < 64) : yRf S (256 + i + 64) = S.1 (256 + i) 4 := by
  unfold yRf
  rw [if_neg (by omega), if_neg (by omega), if_neg (by omega), if_neg (by omega), if_pos (by omega), Nat.add_sub_cancel]
theorem keep5 {N i : Nat} {S : yS} (hi : i < 8) (hk : ¬ S.1 (256 + i + 64) 4 = 1) : ∃ S', f_X5_keep N S (256 + i) = some (0, S') ∧ kOne (256 + i) (256 + i + 64) 4 lst5 S S' := by
  have hne : 256 + i ≠ 256 + i + 64 := by omega
  have hf : ¬ 4 ∈ lst5 := by decide
  unfold f_X5_keep f_X5_keep_0 f_X5_keep_26
  by_cases e : S.1 (256 + i) 4 = 1
  · refine ⟨_, ?_, kOne_old hne hf e hk⟩
    rw [if_pos e, gP_t e, cp5 hne, bS_s]
  · have e1 : oc (256 + i + 64) = 5 := oc_320 (by omega)
    refine ⟨_, ?_, kOne_new (I0 := fun k => ([S.1 (256 + i) 0, (-1), 0, S.1 (256 + i) 3, 0] : List Int32).getD k 0) hne hf (show ¬ (0 : Int32) = 1 by decide)⟩
    rw [if_neg e, gP_t ⟨by omega, by omega, e1, by rw [yRfk5 (by omega)]; exact e, by rw [e1]; exact hk⟩, sq_s, sq_s, gP_t (by rw [yRfk5 (by omega), yI_1s]), gP_t (yI_1s _ _ _ _), cp5 hne, bS_s]
theorem keepL5 {N n : Nat} (hn : n ≤ 8) : ∀ (d i m : Nat) (S : yS), i + d = n → d < m → nn (S.1 2 7) n → (∀ j, j < n → S.2.1 2 6 j = 1) → (∀ j, j < 8 → ¬ S.1 (256 + 64 + j) 4 = 1) → ∃ S', f_X10_keep_54 m N S (Int32.ofNat i) = f_X10_keep_79 N N S' 0 ∧ kMany 256 4 lst5 i n S S' := by
  intro d
  induction d with
  | zero =>
    intro i m S hi hm hc hx hk
    obtain ⟨m, rfl⟩ : ∃ x, m = x + 1 := ⟨m - 1, by omega⟩
    have e : i = n := by omega
    subst e
    refine ⟨S, ?_, kMany_nil S⟩
    rw [f_X10_keep_54, if_pos ((nn_le hc (nn_lit i (by omega))).mpr (by omega))]
  | succ d ih =>
    intro i m S hi hm hc hx hk
    obtain ⟨m, rfl⟩ : ∃ x, m = x + 1 := ⟨m - 1, by omega⟩
    have ni := nn_lit i (by omega)
    obtain ⟨S1, a1, a2⟩ := keep5 (N := N) (i := i) (S := S) (by omega) (by rw [show 256 + i + 64 = 256 + 64 + i by omega]; exact hk i (by omega))
    have c0 : ∀ o k, o ≠ 256 + i + 64 → ¬ (o = 256 + i ∧ k = 4) → S1.1 o k = S.1 o k ∧ S1.2.1 o k = S.2.1 o k := a2.1
    obtain ⟨S', b1, b2⟩ := ih (i + 1) m S1 (by omega) (by omega) (by rw [(c0 2 7 (by omega) (by omega)).1]; exact hc) (fun j hj => by rw [(c0 2 6 (by omega) (by omega)).2]; exact hx j hj) (fun j hj => by
      by_cases e : j = i
      · rw [e, show 256 + 64 + i = 256 + i + 64 by omega]; exact a2.2.2.2.2.1
      · rw [(c0 (256 + 64 + j) 4 (by omega) (by omega)).1]; exact hk j hj)
    refine ⟨S', ?_, kMany_cons (by decide) (by omega) (by omega) a2 b2⟩
    rw [f_X10_keep_54, if_neg (fun z => by have := (nn_le hc ni).mp z; omega), gR_nn ni (by omega) (hx i (by omega)), a1, bS_s, y_int1]
    exact b1
theorem back5 {N i : Nat} {S : yS} (e : S.1 (256 + i) 4 = 1) : f_X5_giveBack N S (256 + i) = some (0, cpL (256 + 64 + i) (256 + i) lst5 S) := by
  unfold f_X5_giveBack f_X5_giveBack_0 f_X5_giveBack_15
  rw [if_pos e, gP_t e, show 256 + i + 64 = 256 + 64 + i by omega, cp5 (by omega), bS_s]
theorem backL5 {N n : Nat} (hn : n ≤ 8) : ∀ (d i m : Nat) (S : yS), i + d = n → d < m → nn (S.1 2 7) n → (∀ j, j < n → S.2.1 2 6 j = 1) → (∀ j, j < n → S.1 (256 + j) 4 = 1) → ∃ S', f_X10_giveBack_54 m N S (Int32.ofNat i) = f_X10_giveBack_79 N N S' 0 ∧ S'.2 = S.2 ∧ ∀ o k, S'.1 o k = if 256 + i ≤ o ∧ o < 256 + n ∧ k ∈ lst5 then S.1 (o + 64) k else S.1 o k := by
  intro d
  induction d with
  | zero =>
    intro i m S hi hm hc hx hk
    obtain ⟨m, rfl⟩ : ∃ x, m = x + 1 := ⟨m - 1, by omega⟩
    refine ⟨S, ?_, rfl, fun o k => by rw [if_neg (by omega)]⟩
    rw [f_X10_giveBack_54, if_pos ((nn_le hc (nn_lit i (by omega))).mpr (by omega))]
  | succ d ih =>
    intro i m S hi hm hc hx hk
    obtain ⟨m, rfl⟩ : ∃ x, m = x + 1 := ⟨m - 1, by omega⟩
    have ni := nn_lit i (by omega)
    have hne : 256 + 64 + i ≠ 256 + i := by omega
    have c1 : ∀ o k, o ≠ 256 + i → (cpL (256 + 64 + i) (256 + i) lst5 S).1 o k = S.1 o k := fun o k h => by rw [cpL_1 hne, if_neg (fun z => h z.1)]
    have cf : (cpL (256 + 64 + i) (256 + i) lst5 S).1 (256 + i) 4 = S.1 (256 + i) 4 := by rw [cpL_1 hne, if_neg (fun z => absurd z.2 (by decide))]
    have c2 := cpL_2 (a := 256 + 64 + i) (b := 256 + i) lst5 S
    obtain ⟨S', b1, b2, b3⟩ := ih (i + 1) m (cpL (256 + 64 + i) (256 + i) lst5 S) (by omega) (by omega) (by rw [c1 2 7 (by omega)]; exact hc) (fun j hj => by rw [c2]; exact hx j hj) (fun j hj => by
      by_cases e : j = i
      · rw [e, cf]; exact hk i (by omega)
      · rw [c1 _ _ (by omega)]; exact hk j hj)
    refine ⟨S', ?_, b2.trans c2, fun o k => ?_⟩
    · rw [f_X10_giveBack_54, if_neg (fun z => by have := (nn_le hc ni).mp z; omega), gR_nn ni (by omega) (hx i (by omega)), back5 (hk i (by omega)), bS_s, y_int1]
      exact b1
    · rw [b3 o k]
      by_cases q : 256 + (i + 1) ≤ o ∧ o < 256 + n ∧ k ∈ lst5
      · rw [if_pos q, if_pos ⟨by have := q.1; omega, q.2⟩, c1 _ _ (by have := q.1; omega)]
      · rw [if_neg q]
        by_cases e : o = 256 + i
        · by_cases l : k ∈ lst5
          · rw [if_pos ⟨by omega, by omega, l⟩, e, cpL_1 hne, if_pos ⟨rfl, l⟩, show 256 + 64 + i = 256 + i + 64 by omega]
          · rw [if_neg (fun z => l z.2.2), e, cpL_1 hne, if_neg (fun z => l z.2)]
        · rw [c1 _ _ e, if_neg (fun z => q ⟨by have := z.1; omega, z.2⟩)]
def lst0 : List Nat := [5, 6, 7, 8, 10]
theorem cp0 {N a b : Nat} {S : yS} (h : a ≠ b) : f_X0_copy N S a b = some (0, cpL a b lst0 S) := by
  unfold f_X0_copy f_X0_copy_0
  rfl
theorem yRfk0 {S : yS} {i : Nat} (h : i < 64) : yRf S (384 + i + 64) = S.1 (384 + i) 11 := by
  unfold yRf
  rw [if_neg (by omega), if_neg (by omega), if_neg (by omega), if_neg (by omega), if_neg (by omega), if_neg (by omega), if_pos (by omega), Nat.add_sub_cancel]
theorem keep0 {N i : Nat} {S : yS} (hi : i < 30) (hk : ¬ S.1 (384 + i + 64) 11 = 1) : ∃ S', f_X0_keep N S (384 + i) = some (0, S') ∧ kOne (384 + i) (384 + i + 64) 11 lst0 S S' := by
  have hne : 384 + i ≠ 384 + i + 64 := by omega
  have hf : ¬ 11 ∈ lst0 := by decide
  unfold f_X0_keep f_X0_keep_0 f_X0_keep_38
  by_cases e : S.1 (384 + i) 11 = 1
  · refine ⟨_, ?_, kOne_old hne hf e hk⟩
    rw [if_pos e, gP_t e, cp0 hne, bS_s]
  · have e1 : oc (384 + i + 64) = 0 := oc_448 (by omega)
    refine ⟨_, ?_, kOne_new (I0 := fun k => ([S.1 (384 + i) 0, S.1 (384 + i) 1, S.1 (384 + i) 2, S.1 (384 + i) 3, S.1 (384 + i) 4, S.1 (384 + i) 0, (-1), (-1), (-1), 0, 0, 0] : List Int32).getD k 0) hne hf (show ¬ (0 : Int32) = 1 by decide)⟩
    rw [if_neg e, gP_t ⟨by omega, by omega, e1, by rw [yRfk0 (by omega)]; exact e, by rw [e1]; exact hk⟩, sq_s, sq_s, gP_t (by rw [yRfk0 (by omega), yI_1s]), gP_t (yI_1s _ _ _ _), cp0 hne, bS_s]
theorem keepL0 {N n : Nat} (hn : n ≤ 30) : ∀ (d i m : Nat) (S : yS), i + d = n → d < m → nn (S.1 2 9) n → (∀ j, j < n → S.2.1 2 8 j = 1) → (∀ j, j < 30 → ¬ S.1 (384 + 64 + j) 11 = 1) → ∃ S', f_X10_keep_79 m N S (Int32.ofNat i) = f_X10_keep_104 N N S' 0 ∧ kMany 384 11 lst0 i n S S' := by
  intro d
  induction d with
  | zero =>
    intro i m S hi hm hc hx hk
    obtain ⟨m, rfl⟩ : ∃ x, m = x + 1 := ⟨m - 1, by omega⟩
    have e : i = n := by omega
    subst e
    refine ⟨S, ?_, kMany_nil S⟩
    rw [f_X10_keep_79, if_pos ((nn_le hc (nn_lit i (by omega))).mpr (by omega))]
  | succ d ih =>
    intro i m S hi hm hc hx hk
    obtain ⟨m, rfl⟩ : ∃ x, m = x + 1 := ⟨m - 1, by omega⟩
    have ni := nn_lit i (by omega)
    obtain ⟨S1, a1, a2⟩ := keep0 (N := N) (i := i) (S := S) (by omega) (by rw [show 384 + i + 64 = 384 + 64 + i by omega]; exact hk i (by omega))
    have c0 : ∀ o k, o ≠ 384 + i + 64 → ¬ (o = 384 + i ∧ k = 11) → S1.1 o k = S.1 o k ∧ S1.2.1 o k = S.2.1 o k := a2.1
    obtain ⟨S', b1, b2⟩ := ih (i + 1) m S1 (by omega) (by omega) (by rw [(c0 2 9 (by omega) (by omega)).1]; exact hc) (fun j hj => by rw [(c0 2 8 (by omega) (by omega)).2]; exact hx j hj) (fun j hj => by
      by_cases e : j = i
      · rw [e, show 384 + 64 + i = 384 + i + 64 by omega]; exact a2.2.2.2.2.1
      · rw [(c0 (384 + 64 + j) 11 (by omega) (by omega)).1]; exact hk j hj)
    refine ⟨S', ?_, kMany_cons (by decide) (by omega) (by omega) a2 b2⟩
    rw [f_X10_keep_79, if_neg (fun z => by have := (nn_le hc ni).mp z; omega), gR_nn ni (by omega) (hx i (by omega)), a1, bS_s, y_int1]
    exact b1
theorem back0 {N i : Nat} {S : yS} (e : S.1 (384 + i) 11 = 1) : f_X0_giveBack N S (384 + i) = some (0, cpL (384 + 64 + i) (384 + i) lst0 S) := by
  unfold f_X0_giveBack f_X0_giveBack_0 f_X0_giveBack_15
  rw [if_pos e, gP_t e, show 384 + i + 64 = 384 + 64 + i by omega, cp0 (by omega), bS_s]
theorem backL0 {N n : Nat} (hn : n ≤ 30) : ∀ (d i m : Nat) (S : yS), i + d = n → d < m → nn (S.1 2 9) n → (∀ j, j < n → S.2.1 2 8 j = 1) → (∀ j, j < n → S.1 (384 + j) 11 = 1) → ∃ S', f_X10_giveBack_79 m N S (Int32.ofNat i) = f_X10_giveBack_104 N N S' 0 ∧ S'.2 = S.2 ∧ ∀ o k, S'.1 o k = if 384 + i ≤ o ∧ o < 384 + n ∧ k ∈ lst0 then S.1 (o + 64) k else S.1 o k := by
  intro d
  induction d with
  | zero =>
    intro i m S hi hm hc hx hk
    obtain ⟨m, rfl⟩ : ∃ x, m = x + 1 := ⟨m - 1, by omega⟩
    refine ⟨S, ?_, rfl, fun o k => by rw [if_neg (by omega)]⟩
    rw [f_X10_giveBack_79, if_pos ((nn_le hc (nn_lit i (by omega))).mpr (by omega))]
  | succ d ih =>
    intro i m S hi hm hc hx hk
    obtain ⟨m, rfl⟩ : ∃ x, m = x + 1 := ⟨m - 1, by omega⟩
    have ni := nn_lit i (by omega)
    have hne : 384 + 64 + i ≠ 384 + i := by omega
    have c1 : ∀ o k, o ≠ 384 + i → (cpL (384 + 64 + i) (384 + i) lst0 S).1 o k = S.1 o k := fun o k h => by rw [cpL_1 hne, if_neg (fun z => h z.1)]
    have cf : (cpL (384 + 64 + i) (384 + i) lst0 S).1 (384 + i) 11 = S.1 (384 + i) 11 := by rw [cpL_1 hne, if_neg (fun z => absurd z.2 (by decide))]
    have c2 := cpL_2 (a := 384 + 64 + i) (b := 384 + i) lst0 S
    obtain ⟨S', b1, b2, b3⟩ := ih (i + 1) m (cpL (384 + 64 + i) (384 + i) lst0 S) (by omega) (by omega) (by rw [c1 2 9 (by omega)]; exact hc) (fun j hj => by rw [c2]; exact hx j hj) (fun j hj => by
      by_cases e : j = i
      · rw [e, cf]; exact hk i (by omega)
      · rw [c1 _ _ (by omega)]; exact hk j hj)
    refine ⟨S', ?_, b2.trans c2, fun o k => ?_⟩
    · rw [f_X10_giveBack_79, if_neg (fun z => by have := (nn_le hc ni).mp z; omega), gR_nn ni (by omega) (hx i (by omega)), back0 (hk i (by omega)), bS_s, y_int1]
      exact b1
    · rw [b3 o k]
      by_cases q : 384 + (i + 1) ≤ o ∧ o < 384 + n ∧ k ∈ lst0
      · rw [if_pos q, if_pos ⟨by have := q.1; omega, q.2⟩, c1 _ _ (by have := q.1; omega)]
      · rw [if_neg q]
        by_cases e : o = 384 + i
        · by_cases l : k ∈ lst0
          · rw [if_pos ⟨by omega, by omega, l⟩, e, cpL_1 hne, if_pos ⟨rfl, l⟩, show 384 + 64 + i = 384 + i + 64 by omega]
          · rw [if_neg (fun z => l z.2.2), e, cpL_1 hne, if_neg (fun z => l z.2)]
        · rw [c1 _ _ e, if_neg (fun z => q ⟨by have := z.1; omega, z.2⟩)]
def lst1 : List Nat := [4, 5, 6, 7, 8, 9]
theorem cp1 {N a b : Nat} {S : yS} (h : a ≠ b) : f_X1_copy N S a b = some (0, cpL a b lst1 S) := by
  unfold f_X1_copy f_X1_copy_0
  rfl
theorem yRfk1 {S : yS} {i : Nat} (h : i < 64) : yRf S (512 + i + 64) = S.1 (512 + i) 10 := by
  unfold yRf
  rw [if_neg (by omega), if_neg (by omega), if_neg (by omega), if_neg (by omega), if_neg (by omega), if_neg (by omega), if_neg (by omega), if_neg (by omega), if_pos (by omega), Nat.add_sub_cancel]
theorem keep1 {N i : Nat} {S : yS} (hi : i < 24) (hk : ¬ S.1 (512 + i + 64) 10 = 1) : ∃ S', f_X1_keep N S (512 + i) = some (0, S') ∧ kOne (512 + i) (512 + i + 64) 10 lst1 S S' := by
  have hne : 512 + i ≠ 512 + i + 64 := by omega
  have hf : ¬ 10 ∈ lst1 := by decide
  unfold f_X1_keep f_X1_keep_0 f_X1_keep_34
  by_cases e : S.1 (512 + i) 10 = 1
  · refine ⟨_, ?_, kOne_old hne hf e hk⟩
    rw [if_pos e, gP_t e, cp1 hne, bS_s]
  · have e1 : oc (512 + i + 64) = 1 := oc_576 (by omega)
    refine ⟨_, ?_, kOne_new (I0 := fun k => ([S.1 (512 + i) 0, S.1 (512 + i) 1, S.1 (512 + i) 2, S.1 (512 + i) 3, 0, (-1), (-1), (-1), (-3), (-3), 0] : List Int32).getD k 0) hne hf (show ¬ (0 : Int32) = 1 by decide)⟩
    rw [if_neg e, gP_t ⟨by omega, by omega, e1, by rw [yRfk1 (by omega)]; exact e, by rw [e1]; exact hk⟩, sq_s, sq_s, gP_t (by rw [yRfk1 (by omega), yI_1s]), gP_t (yI_1s _ _ _ _), cp1 hne, bS_s]
theorem keepL1 {N n : Nat} (hn : n ≤ 24) : ∀ (d i m : Nat) (S : yS), i + d = n → d < m → nn (S.1 2 12) n → (∀ j, j < n → S.2.1 2 11 j = 1) → (∀ j, j < 24 → ¬ S.1 (512 + 64 + j) 10 = 1) → ∃ S', f_X10_keep_104 m N S (Int32.ofNat i) = some (0, S') ∧ kMany 512 10 lst1 i n S S' := by
  intro d
  induction d with
  | zero =>
    intro i m S hi hm hc hx hk
    obtain ⟨m, rfl⟩ : ∃ x, m = x + 1 := ⟨m - 1, by omega⟩
    have e : i = n := by omega
    subst e
    refine ⟨S, ?_, kMany_nil S⟩
    rw [f_X10_keep_104, if_pos ((nn_le hc (nn_lit i (by omega))).mpr (by omega))]
  | succ d ih =>
    intro i m S hi hm hc hx hk
    obtain ⟨m, rfl⟩ : ∃ x, m = x + 1 := ⟨m - 1, by omega⟩
    have ni := nn_lit i (by omega)
    obtain ⟨S1, a1, a2⟩ := keep1 (N := N) (i := i) (S := S) (by omega) (by rw [show 512 + i + 64 = 512 + 64 + i by omega]; exact hk i (by omega))
    have c0 : ∀ o k, o ≠ 512 + i + 64 → ¬ (o = 512 + i ∧ k = 10) → S1.1 o k = S.1 o k ∧ S1.2.1 o k = S.2.1 o k := a2.1
    obtain ⟨S', b1, b2⟩ := ih (i + 1) m S1 (by omega) (by omega) (by rw [(c0 2 12 (by omega) (by omega)).1]; exact hc) (fun j hj => by rw [(c0 2 11 (by omega) (by omega)).2]; exact hx j hj) (fun j hj => by
      by_cases e : j = i
      · rw [e, show 512 + 64 + i = 512 + i + 64 by omega]; exact a2.2.2.2.2.1
      · rw [(c0 (512 + 64 + j) 10 (by omega) (by omega)).1]; exact hk j hj)
    refine ⟨S', ?_, kMany_cons (by decide) (by omega) (by omega) a2 b2⟩
    rw [f_X10_keep_104, if_neg (fun z => by have := (nn_le hc ni).mp z; omega), gR_nn ni (by omega) (hx i (by omega)), a1, bS_s, y_int1]
    exact b1
theorem back1 {N i : Nat} {S : yS} (e : S.1 (512 + i) 10 = 1) : f_X1_giveBack N S (512 + i) = some (0, cpL (512 + 64 + i) (512 + i) lst1 S) := by
  unfold f_X1_giveBack f_X1_giveBack_0 f_X1_giveBack_15
  rw [if_pos e, gP_t e, show 512 + i + 64 = 512 + 64 + i by omega, cp1 (by omega), bS_s]
theorem backL1 {N n : Nat} (hn : n ≤ 24) : ∀ (d i m : Nat) (S : yS), i + d = n → d < m → nn (S.1 2 12) n → (∀ j, j < n → S.2.1 2 11 j = 1) → (∀ j, j < n → S.1 (512 + j) 10 = 1) → ∃ S', f_X10_giveBack_104 m N S (Int32.ofNat i) = some (0, S') ∧ S'.2 = S.2 ∧ ∀ o k, S'.1 o k = if 512 + i ≤ o ∧ o < 512 + n ∧ k ∈ lst1 then S.1 (o + 64) k else S.1 o k := by
  intro d
  induction d with
  | zero =>
    intro i m S hi hm hc hx hk
    obtain ⟨m, rfl⟩ : ∃ x, m = x + 1 := ⟨m - 1, by omega⟩
    refine ⟨S, ?_, rfl, fun o k => by rw [if_neg (by omega)]⟩
    rw [f_X10_giveBack_104, if_pos ((nn_le hc (nn_lit i (by omega))).mpr (by omega))]
  | succ d ih =>
    intro i m S hi hm hc hx hk
    obtain ⟨m, rfl⟩ : ∃ x, m = x + 1 := ⟨m - 1, by omega⟩
    have ni := nn_lit i (by omega)
    have hne : 512 + 64 + i ≠ 512 + i := by omega
    have c1 : ∀ o k, o ≠ 512 + i → (cpL (512 + 64 + i) (512 + i) lst1 S).1 o k = S.1 o k := fun o k h => by rw [cpL_1 hne, if_neg (fun z => h z.1)]
    have cf : (cpL (512 + 64 + i) (512 + i) lst1 S).1 (512 + i) 10 = S.1 (512 + i) 10 := by rw [cpL_1 hne, if_neg (fun z => absurd z.2 (by decide))]
    have c2 := cpL_2 (a := 512 + 64 + i) (b := 512 + i) lst1 S
    obtain ⟨S', b1, b2, b3⟩ := ih (i + 1) m (cpL (512 + 64 + i) (512 + i) lst1 S) (by omega) (by omega) (by rw [c1 2 12 (by omega)]; exact hc) (fun j hj => by rw [c2]; exact hx j hj) (fun j hj => by
      by_cases e : j = i
      · rw [e, cf]; exact hk i (by omega)
      · rw [c1 _ _ (by omega)]; exact hk j hj)
    refine ⟨S', ?_, b2.trans c2, fun o k => ?_⟩
    · rw [f_X10_giveBack_104, if_neg (fun z => by have := (nn_le hc ni).mp z; omega), gR_nn ni (by omega) (hx i (by omega)), back1 (hk i (by omega)), bS_s, y_int1]
      exact b1
    · rw [b3 o k]
      by_cases q : 512 + (i + 1) ≤ o ∧ o < 512 + n ∧ k ∈ lst1
      · rw [if_pos q, if_pos ⟨by have := q.1; omega, q.2⟩, c1 _ _ (by have := q.1; omega)]
      · rw [if_neg q]
        by_cases e : o = 512 + i
        · by_cases l : k ∈ lst1
          · rw [if_pos ⟨by omega, by omega, l⟩, e, cpL_1 hne, if_pos ⟨rfl, l⟩, show 512 + 64 + i = 512 + i + 64 by omega]
          · rw [if_neg (fun z => l z.2.2), e, cpL_1 hne, if_neg (fun z => l z.2)]
        · rw [c1 _ _ e, if_neg (fun z => q ⟨by have := z.1; omega, z.2⟩)]
