theorem z_loop {N k n w lim : Nat} {s : Nat → Nat} {L : Nat → Int32} {S : yS} (hE : zEnv N k s lim L S) (hw : w = 0 ∨ w = 1 ∨ w = 3 ∨ w = 4) {F : Nat → yS → Int32 → Option (Int32 × yS)} (h0 : ∀ m S' v, ¬ S'.1 8 54 = -1 → F (m + 1) S' v = some (v, S')) (h1 : ∀ m j v, j ≤ lim → ¬ (j < lim ∧ zS (s j) = w + 1) → F (m + 1) (rS S j (-1)) v = some (v, rS S j (-1))) (h2 : ∀ m j v, j < lim → zS (s j) = w + 1 → F (m + 1) (rS S j (-1)) v = bS (f_par N n (w + 1) (rS S (j + 1) (-1))) fun x S' => F m S' (zJ (s j) v x)) (ih : zSim N k s lim L S n (w + 1)) {i : Nat} {c H : List Nat} {cm : Bool} {cms : List Bool} {dg oc : Nat} (hl : cms.length ≤ i) (hH : zTop (w + 1) H) (hn : 6 * (lim - i) + 6 - w ≤ n + 1) : ∀ (m j : Nat) (v : Int32), lim - j < m → zGd (w + 1) (w + 2) k s lim L i c H cm cms dg oc v j → (∃ v' j', F m (rS S j (-1)) v = some (v', rS S j' (-1)) ∧ zGd (w + 1) (w + 1) k s lim L i c H cm cms dg oc v' j') ∨ (∃ v' j', F m (rS S j (-1)) v = some (v', rS S j' (Int32.ofNat j')) ∧ zBd k s lim i (1, c, H, cm :: cms, dg, oc) j') := by
  intro m
  induction m with
  | zero => intro j v hm; omega
  | succ m ihm =>
    intro j v hm hg
    obtain ⟨c', po, d, cm', dg', g1, g2, g3, g4, g5, g6, g7, g8, g9⟩ := hg
    by_cases op : j < lim ∧ zS (s j) = w + 1
    · obtain ⟨hj, hop⟩ := op
      rw [h2 m j v hj hop]
      have x1 : 1 ≤ zS (s j) := by omega
      have x5 : zS (s j) ≤ 5 := by omega
      have x3 : ¬ zS (s j) = 3 := by omega
      have hst := zT_op (k := k) (c := c') (po := po) (H := H) (cm := cm') (cms := cms) (dg := dg') (oc := oc) x1 x5 (fun p hp => by rw [hop]; exact g4 p hp) (by rw [hop]; exact hH) (fun z => absurd z x3)
      obtain ⟨cm1, hc1, hc2, hc3⟩ : ∃ cm1, (if zS (s j) ≤ 3 then decide (zS (s j) = 3) :: cms else cm' :: cms) = cm1 :: cms ∧ (w + 1 ≤ 2 → cm1 = false) ∧ (4 ≤ w + 1 → cm1 = cm) := by
        by_cases z : zS (s j) ≤ 3
        · exact ⟨false, by rw [if_pos z, decide_eq_false x3], fun _ => rfl, fun z' => by omega⟩
        · exact ⟨cm', by rw [if_neg z], fun z' => by omega, g8⟩
      rw [hc1, g5] at hst
      rcases ih (j + 1) (d ++ c) (s j :: H) cm1 cms dg' oc (by omega) (by omega) hc2 (fun _ => Or.inr ⟨_, _, rfl, by omega⟩) (by omega) with ⟨v2, j2, e2, b2⟩ | ⟨v2, j2, e2, b2⟩
      · rw [e2, bS_s]
        have hj2 : j + 1 < j2 := by
          obtain ⟨_, _, _, _, _, z, _⟩ := b2
          exact z
        exact ihm j2 _ (by omega) (zGd_bin (p := w + 1) (q2 := w + 1 + 1) x1 x5 (by omega) g1 g3 hst g6 g7 (by omega) (fun z => ⟨by omega, hc3 z⟩) b2)
      · rw [e2, bS_s]
        obtain ⟨m', rfl⟩ : ∃ m', m = m' + 1 := ⟨m - 1, by omega⟩
        right
        have hlim := b2.2.1
        refine ⟨_, j2, h0 m' _ _ (fun z => zne (j := j2) (by have := hE.1.1; omega) z), ?_⟩
        exact zBd_tr (zG_trans g3 (zG_step hst)) (by omega) b2
    · left
      refine ⟨v, j, h1 m j v g2 op, c', po, d, cm', dg', g1, g2, g3, g4, g5, g6, g7, g8, fun hj => ?_⟩
      obtain ⟨a, b⟩ := g9 hj
      exact ⟨a, fun q1 q2 q3 => b (by have : zS (s j) ≠ w + 1 := fun z => op ⟨hj, z⟩; omega) q2 q3⟩
/-- first thing, then the loop -/
theorem z_level {N k n w lim : Nat} {s : Nat → Nat} {L : Nat → Int32} {S : yS} (hE : zEnv N k s lim L S) (hw : w = 0 ∨ w = 1 ∨ w = 3 ∨ w = 4) {F : Nat → yS → Int32 → Option (Int32 × yS)} (hf : ∀ S', f_par N (n + 1) w S' = bS (f_par N n (w + 1) S') fun x S'' => F N S'' x) (h0 : ∀ m S' v, ¬ S'.1 8 54 = -1 → F (m + 1) S' v = some (v, S')) (h1 : ∀ m j v, j ≤ lim → ¬ (j < lim ∧ zS (s j) = w + 1) → F (m + 1) (rS S j (-1)) v = some (v, rS S j (-1))) (h2 : ∀ m j v, j < lim → zS (s j) = w + 1 → F (m + 1) (rS S j (-1)) v = bS (f_par N n (w + 1) (rS S (j + 1) (-1))) fun x S' => F m S' (zJ (s j) v x)) (ih : zSim N k s lim L S n (w + 1)) : zSim N k s lim L S (n + 1) w := by
  intro i c H cm cms dg oc hi hn hcm hH hl
  have hH' := hH (by omega)
  obtain ⟨N', rfl⟩ : ∃ N', N = N' + 1 := ⟨N - 1, by have := hE.2.1; omega⟩
  rw [hf]
  have hn' : 6 * (lim - i) + 6 - (w + 1) ≤ n := by omega
  rcases ih i c H cm cms dg oc hi hn' (fun z => hcm (by omega)) (fun z => by
    rcases hH' with e | ⟨p, b, e, z'⟩
    · exact Or.inl e
    · exact Or.inr ⟨p, b, e, by omega⟩) hl with ⟨v, j, e, b⟩ | ⟨v, j, e, b⟩
  · rw [e, bS_s]
    refine z_loop hE hw h0 h1 h2 ih hl hH' hn (N' + 1) j v (by have := hE.2.1; have := hE.1.1; omega) ?_
    obtain ⟨c', po, d, cm', dg', g1, g2, g3, g4, g5, g6, g7, g8, g9⟩ := b
    exact ⟨c', po, d, cm', dg', g1, g2, g3, fun x hx => by have := g4 x hx; omega, g5, g6, g7, fun z => g8 (by omega), g9⟩
  · rw [e, bS_s]
    right
    exact ⟨v, j, h0 N' _ _ (fun z => zne (j := j) (by have := hE.1.1; have := b.2.1; omega) z), b⟩
theorem z_or (x y : Int32) : (if x = 0 then (if y = 0 then (0 : Int32) else 1) else 1) = b01 (¬ x = 0 ∨ ¬ y = 0) := by
  by_cases h1 : x = 0
  · by_cases h2 : y = 0
    · rw [if_pos h1, if_pos h2, b01_f (fun q => q.elim (fun z => z h1) (fun z => z h2))]
    · rw [if_pos h1, if_neg h2, b01_t (Or.inr h2)]
  · rw [if_neg h1, b01_t (Or.inl h1)]
theorem z_any {N k n lim : Nat} {s : Nat → Nat} {L : Nat → Int32} {S : yS} (hE : zEnv N k s lim L S) (ih : zSim N k s lim L S n 1) : zSim N k s lim L S (n + 1) 0 := by
  refine z_level (F := fun m S' v => f_X12_any_5 m N (f_par N n) S' v) hE (Or.inl rfl) (fun _ => rfl) ?_ ?_ ?_ ih
  · intro m S' v h
    show f_X12_any_5 (m + 1) N (f_par N n) S' v = _
    rw [f_X12_any_5, if_pos h]
    rfl
  · intro m j v hj h
    show f_X12_any_5 (m + 1) N (f_par N n) _ v = _
    rw [f_X12_any_5, if_neg (fun q => q rS_w), z_comes hE.1 hj (nn_l 124 (by decide)), if_neg (fun q => h ⟨q.1, by rw [q.2]; rfl⟩), bS_s, if_pos rfl]
    rfl
  · intro m j v hj h
    have h' := zS_is.1 h
    show f_X12_any_5 (m + 1) N (f_par N n) _ v = _
    rw [f_X12_any_5, if_neg (fun q => q rS_w), z_comes hE.1 (by omega) (nn_l 124 (by decide)), if_pos ⟨hj, h'⟩, bS_s, if_neg i10, h']
    show bS (f_par N n 1 (rS S (j + 1) (-1))) _ = bS (f_par N n 1 (rS S (j + 1) (-1))) _
    congr 1
    funext x S'
    show _ = f_X12_any_5 m N (f_par N n) S' (b01 (¬ v = 0 ∨ ¬ x = 0))
    simp only [f_X12_any_34, f_X12_any_43, f_X12_any_52]
    by_cases hx : x = 0
    · by_cases hv : v = 0
      · rw [if_pos hx, if_pos hv, if_pos (by decide), b01_f (fun q => q.elim (fun z => z hv) (fun z => z hx))]
      · rw [if_pos hx, if_neg hv, if_neg (by decide), b01_t (Or.inl hv)]
    · by_cases hv : v = 0
      · rw [if_neg hx, if_pos hv, if_neg (by decide), b01_t (Or.inr hx)]
      · rw [if_neg hx, if_neg hv, if_neg (by decide), b01_t (Or.inl hv)]
theorem z_both {N k n lim : Nat} {s : Nat → Nat} {L : Nat → Int32} {S : yS} (hE : zEnv N k s lim L S) (ih : zSim N k s lim L S n 2) : zSim N k s lim L S (n + 1) 1 := by
  refine z_level (F := fun m S' v => f_X12_both_5 m N (f_par N n) S' v) hE (Or.inr (Or.inl rfl)) (fun _ => rfl) ?_ ?_ ?_ ih
  · intro m S' v h
    show f_X12_both_5 (m + 1) N (f_par N n) S' v = _
    rw [f_X12_both_5, if_pos h]
    rfl
  · intro m j v hj h
    show f_X12_both_5 (m + 1) N (f_par N n) _ v = _
    rw [f_X12_both_5, if_neg (fun q => q rS_w), z_comes hE.1 hj (nn_l 38 (by decide)), if_neg (fun q => h ⟨q.1, by rw [q.2]; rfl⟩), bS_s, if_pos rfl]
    rfl
  · intro m j v hj h
    have h' := zS_is.2.1 h
    show f_X12_both_5 (m + 1) N (f_par N n) _ v = _
    rw [f_X12_both_5, if_neg (fun q => q rS_w), z_comes hE.1 (by omega) (nn_l 38 (by decide)), if_pos ⟨hj, h'⟩, bS_s, if_neg i10, h']
    show bS (f_par N n 2 (rS S (j + 1) (-1))) _ = bS (f_par N n 2 (rS S (j + 1) (-1))) _
    congr 1
    funext x S'
    show _ = f_X12_both_5 m N (f_par N n) S' (b01 (¬ v = 0 ∧ ¬ x = 0))
    simp only [f_X12_both_34, f_X12_both_43, f_X12_both_52]
    by_cases hx : x = 0
    · by_cases hv : v = 0
      · rw [if_pos hx, if_pos hv, if_pos (by decide), b01_f (fun q => q.2 hx)]
      · rw [if_pos hx, if_neg hv, if_pos (by decide), b01_f (fun q => q.2 hx)]
    · by_cases hv : v = 0
      · rw [if_neg hx, if_pos hv, if_pos (by decide), b01_f (fun q => q.1 hv)]
      · rw [if_neg hx, if_neg hv, if_neg (by decide), b01_t ⟨hv, hx⟩]
theorem z_sum {N k n lim : Nat} {s : Nat → Nat} {L : Nat → Int32} {S : yS} (hE : zEnv N k s lim L S) (ih : zSim N k s lim L S n 4) : zSim N k s lim L S (n + 1) 3 := by
  refine z_level (F := fun m S' v => f_X12_sum_5 m N (f_par N n) S' v) hE (Or.inr (Or.inr (Or.inl rfl))) (fun _ => rfl) ?_ ?_ ?_ ih
  · intro m S' v h
    show f_X12_sum_5 (m + 1) N (f_par N n) S' v = _
    rw [f_X12_sum_5, if_pos h]
    rfl
  · intro m j v hj h
    show f_X12_sum_5 (m + 1) N (f_par N n) _ v = _
    rw [f_X12_sum_5, if_neg (fun q => q rS_w), z_comes hE.1 hj (nn_l 43 (by decide)), if_neg (fun q => h ⟨q.1, by rw [q.2]; rfl⟩), bS_s, if_pos rfl, z_comes hE.1 hj (nn_l 45 (by decide)), if_neg (fun q => h ⟨q.1, by rw [q.2]; rfl⟩), bS_s, if_pos rfl]
    rfl
  · intro m j v hj h
    show f_X12_sum_5 (m + 1) N (f_par N n) _ v = _
    rcases zS_is.2.2.2.1 h with h' | h'
    · rw [f_X12_sum_5, if_neg (fun q => q rS_w), z_comes hE.1 (by omega) (nn_l 43 (by decide)), if_pos ⟨hj, h'⟩, bS_s, if_neg i10, h']
      rfl
    · rw [f_X12_sum_5, if_neg (fun q => q rS_w), z_comes hE.1 (by omega) (nn_l 43 (by decide)), if_neg (fun q => by have := q.2; omega), bS_s, if_pos rfl, z_comes hE.1 (by omega) (nn_l 45 (by decide)), if_pos ⟨hj, h'⟩, bS_s, if_neg i10, h']
      rfl
theorem z_product {N k n lim : Nat} {s : Nat → Nat} {L : Nat → Int32} {S : yS} (hE : zEnv N k s lim L S) (ih : zSim N k s lim L S n 5) : zSim N k s lim L S (n + 1) 4 := by
  refine z_level (F := fun m S' v => f_X12_product_5 m N (f_par N n) S' v) hE (Or.inr (Or.inr (Or.inr rfl))) (fun _ => rfl) ?_ ?_ ?_ ih
  · intro m S' v h
    show f_X12_product_5 (m + 1) N (f_par N n) S' v = _
    rw [f_X12_product_5, if_pos h]
    rfl
  · intro m j v hj h
    show f_X12_product_5 (m + 1) N (f_par N n) _ v = _
    rw [f_X12_product_5, if_neg (fun q => q rS_w), z_comes hE.1 hj (nn_l 42 (by decide)), if_neg (fun q => h ⟨q.1, by rw [q.2]; rfl⟩), bS_s, if_pos rfl]
    rfl
  · intro m j v hj h
    have h' := zS_is.2.2.2.2 h
    show f_X12_product_5 (m + 1) N (f_par N n) _ v = _
    rw [f_X12_product_5, if_neg (fun q => q rS_w), z_comes hE.1 (by omega) (nn_l 42 (by decide)), if_pos ⟨hj, h'⟩, bS_s, if_neg i10, h']
    rfl
/-- a comparison at most -/
theorem z_held {N k n lim : Nat} {s : Nat → Nat} {L : Nat → Int32} {S : yS} (hE : zEnv N k s lim L S) (ih : zSim N k s lim L S n 3) : zSim N k s lim L S (n + 1) 2 := by
  intro i c H cm cms dg oc hi hn hcm hH hl
  have hH' := hH (by omega)
  have hcm' := hcm (by omega)
  subst hcm'
  have h60 := hE.1.1
  have hf : ∀ S', f_par N (n + 1) 2 S' = f_X12_held_0 N (f_par N n) S' := fun _ => rfl
  rw [hf]
  unfold f_X12_held_0
  rcases ih i c H false cms dg oc hi (by omega) (fun z => rfl) (fun z => by
    rcases hH' with e | ⟨p, b, e, z'⟩
    · exact Or.inl e
    · exact Or.inr ⟨p, b, e, by omega⟩) hl with ⟨v, j, e, b⟩ | ⟨v, j, e, b⟩
  · rw [e, bS_s, if_pos rS_w]
    obtain ⟨c', po, d, cm', dg', g1, g2, g3, g4, g5, g6, g7, g8, g9⟩ := b
    have e8 := g8 (by omega)
    subst e8
    by_cases op : j < lim ∧ zS (s j) = 3
    · obtain ⟨hj, hop⟩ := op
      have x1 : 1 ≤ zS (s j) := by omega
      have x5 : zS (s j) ≤ 5 := by omega
      have hst := zT_op (k := k) (c := c') (po := po) (H := H) (cm := false) (cms := cms) (dg := dg') (oc := oc) x1 x5 (fun p hp => by have := g4 p hp; omega) (by rw [hop]; exact hH') (fun z => rfl)
      rw [if_pos (by omega), decide_eq_true hop, g5] at hst
      have rest : ∀ (K : Int32 → yS → Option (Int32 × yS)), (∀ x S', K x S' = some (zJ (s j) v x, S')) → ((∃ v' j', bS (f_par N n 3 (rS S (j + 1) (-1))) K = some (v', rS S j' (-1)) ∧ zGd (2 + 1) (2 + 1) k s lim L i c H false cms dg oc v' j') ∨ (∃ v' j', bS (f_par N n 3 (rS S (j + 1) (-1))) K = some (v', rS S j' (Int32.ofNat j')) ∧ zBd k s lim i (1, c, H, false :: cms, dg, oc) j')) := by
        intro K hK
        rcases ih (j + 1) (d ++ c) (s j :: H) true cms dg' oc (by omega) (by omega) (fun z => by omega) (fun _ => Or.inr ⟨_, _, rfl, by omega⟩) (by omega) with ⟨v2, j2, e2, b2⟩ | ⟨v2, j2, e2, b2⟩
        · left
          rw [e2, bS_s, hK]
          refine ⟨_, j2, rfl, ?_⟩
          have b3 : zGd (3 + 1) (2 + 1) k s lim L (j + 1) (d ++ c) (s j :: H) true cms dg' oc v2 j2 := by
            obtain ⟨c3, po3, d3, cm3, dg3, k1, k2, k3, k4, k5, k6, k7, k8, k9⟩ := b2
            have := k8 (by omega)
            subst this
            refine ⟨c3, po3, d3, true, dg3, k1, k2, k3, k4, k5, k6, k7, fun _ => rfl, fun hj2 => ?_⟩
            obtain ⟨a, b⟩ := k9 hj2
            refine ⟨a, fun q1 q2 q3 => ?_⟩
            by_cases z : zS (s j2) = 3
            · exact ⟨z, rfl⟩
            · exact b (by omega) q2 q3
          exact zGd_bin (p := 2 + 1) (q2 := 3 + 1) x1 x5 (by omega) g1 g3 hst g6 g7 (by omega) (fun z => by omega) b3
        · right
          rw [e2, bS_s, hK]
          exact ⟨_, j2, rfl, zBd_tr (zG_trans g3 (zG_step hst)) (by omega) b2⟩
      rcases zS_is.2.2.1 hop with h' | h' | h'
      · rw [z_comes hE.1 (by omega) (nn_l 60 (by decide)), if_pos ⟨hj, h'⟩, bS_s, if_neg i10]
        refine rest _ (fun x S' => ?_)
        rw [h']
        show (if x ≤ v then f_X12_held_37 N (f_par N n) S' 0 else f_X12_held_37 N (f_par N n) S' 1) = some (b01 (v < x), S')
        by_cases z : x ≤ v
        · rw [if_pos z, b01_f (Int32.not_lt.mpr z)]
          rfl
        · rw [if_neg z, b01_t (Int32.not_le.mp z)]
          rfl
      · rw [z_comes hE.1 (by omega) (nn_l 60 (by decide)), if_neg (fun q => by have := q.2; omega), bS_s, if_pos rfl, z_comes hE.1 (by omega) (nn_l 62 (by decide)), if_neg (fun q => by have := q.2; omega), bS_s, if_pos rfl, z_comes hE.1 (by omega) (nn_l 61 (by decide)), if_pos ⟨hj, h'⟩, bS_s, if_neg i10]
        refine rest _ (fun x S' => ?_)
        rw [h']
        show (if ¬ v = x then f_X12_held_83 N (f_par N n) S' 0 else f_X12_held_83 N (f_par N n) S' 1) = some (b01 (v = x), S')
        by_cases z : v = x
        · rw [if_neg (fun q => q z), b01_t z]
          rfl
        · rw [if_pos z, b01_f z]
          rfl
      · rw [z_comes hE.1 (by omega) (nn_l 60 (by decide)), if_neg (fun q => by have := q.2; omega), bS_s, if_pos rfl, z_comes hE.1 (by omega) (nn_l 62 (by decide)), if_pos ⟨hj, h'⟩, bS_s, if_neg i10]
        refine rest _ (fun x S' => ?_)
        rw [h']
        show (if v ≤ x then f_X12_held_60 N (f_par N n) S' 0 else f_X12_held_60 N (f_par N n) S' 1) = some (b01 (x < v), S')
        by_cases z : v ≤ x
        · rw [if_pos z, b01_f (Int32.not_lt.mpr z)]
          rfl
        · rw [if_neg z, b01_t (Int32.not_le.mp z)]
          rfl
    · left
      rw [z_comes hE.1 g2 (nn_l 60 (by decide)), if_neg (fun q => op ⟨q.1, by rw [q.2]; rfl⟩), bS_s, if_pos rfl, z_comes hE.1 g2 (nn_l 62 (by decide)), if_neg (fun q => op ⟨q.1, by rw [q.2]; rfl⟩), bS_s, if_pos rfl, z_comes hE.1 g2 (nn_l 61 (by decide)), if_neg (fun q => op ⟨q.1, by rw [q.2]; rfl⟩), bS_s, if_pos rfl]
      refine ⟨v, j, rfl, c', po, d, false, dg', g1, g2, g3, fun x hx => by have := g4 x hx; omega, g5, g6, g7, fun z => rfl, fun hj => ?_⟩
      obtain ⟨a, b⟩ := g9 hj
      exact ⟨a, fun q1 q2 q3 => b (by have : zS (s j) ≠ 3 := fun z => op ⟨hj, z⟩; omega) q2 q3⟩
  · right
    rw [e, bS_s, rS_w, if_neg (zne (j := j) (by have := b.2.1; omega))]
    exact ⟨0, j, rfl, b⟩
