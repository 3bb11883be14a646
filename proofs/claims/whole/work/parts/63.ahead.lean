set_option maxRecDepth 20000 in
theorem zIdx0 : ∀ x, x < 256 → sIdx 0 (Int32.ofNat x) < 0 ∨ (0 ≤ sIdx 0 (Int32.ofNat x) ∧ sIdx 0 (Int32.ofNat x) < 10 ∧ 97 ≤ x ∧ x ≤ 122) := by decide +kernel
set_option maxRecDepth 20000 in
theorem zIdx1 : ∀ x, x < 256 → sIdx 1 (Int32.ofNat x) < 0 ∨ (0 ≤ sIdx 1 (Int32.ofNat x) ∧ sIdx 1 (Int32.ofNat x) < 10 ∧ 97 ≤ x ∧ x ≤ 122) := by decide +kernel
set_option maxRecDepth 20000 in
theorem zIdx2 : ∀ x, x < 256 → sIdx 2 (Int32.ofNat x) < 0 ∨ (0 ≤ sIdx 2 (Int32.ofNat x) ∧ (x = 71 ∨ x = 87)) := by decide +kernel
set_option maxRecDepth 20000 in
theorem zIdx3 : ∀ x, x < 256 → sIdx 3 (Int32.ofNat x) < 0 ∨ (0 ≤ sIdx 3 (Int32.ofNat x) ∧ (x = 71 ∨ x = 84 ∨ x = 76)) := by decide +kernel
set_option maxRecDepth 20000 in
theorem zChr : ∀ x, x < 256 → ((Int32.ofNat x).toUInt32 % 65536).toInt32 = Int32.ofNat x := by decide +kernel
theorem zIdx {k x : Nat} (hx : x < 256) : (sIdx (if k = 2 then 0 else 1) (Int32.ofNat x) < 0 ∧ zL k x = false) ∨ (∃ t, t < 10 ∧ sIdx (if k = 2 then 0 else 1) (Int32.ofNat x) = Int32.ofNat t ∧ zL k x = true ∧ 97 ≤ x ∧ x ≤ 122) := by
  have key : ∀ m, (sIdx m (Int32.ofNat x) < 0 ∨ (0 ≤ sIdx m (Int32.ofNat x) ∧ sIdx m (Int32.ofNat x) < 10 ∧ 97 ≤ x ∧ x ≤ 122)) → m = (if k = 2 then 0 else 1) → (sIdx (if k = 2 then 0 else 1) (Int32.ofNat x) < 0 ∧ zL k x = false) ∨ (∃ t, t < 10 ∧ sIdx (if k = 2 then 0 else 1) (Int32.ofNat x) = Int32.ofNat t ∧ zL k x = true ∧ 97 ≤ x ∧ x ≤ 122) := by
    intro m h hm
    unfold zL
    rw [← hm]
    rcases h with h | ⟨h1, h2, h3, h4⟩
    · exact Or.inl ⟨h, decide_eq_false (Int32.not_le.mpr h)⟩
    · have n1 := nn_of h1
      exact Or.inr ⟨_, (nn_lt n1 (nn_l 10 (by decide))).mp h2, n1.1, decide_eq_true h1, h3, h4⟩
  by_cases hk : k = 2
  · exact key 0 (zIdx0 x hx) (by rw [if_pos hk])
  · exact key 1 (zIdx1 x hx) (by rw [if_neg hk])
/-- what a number's next digits make -/
theorem z_dig {N k n lim : Nat} {s : Nat → Nat} {S : yS} (h : zH S s lim) (c H : List Nat) (C : List Bool) (oc : Nat) : ∀ (r t m j v : Nat), r + t = 3 → 1 ≤ t → r < m → j ≤ lim → v < 10 ^ t → ∃ j' v' dg', j ≤ j' ∧ j' ≤ lim ∧ f_X12_ahead_86 m N (f_par N n) (rS S j (-1)) (Int32.ofNat v) (Int32.ofNat t) = some (Int32.ofNat v', rS S j' (-1)) ∧ v' < 1000 ∧ zG k s j (2, v :: c, H, C, t, oc) j' (2, v' :: c, H, C, dg', oc) ∧ (j' < lim → 48 ≤ s j' ∧ s j' ≤ 57 → 3 ≤ dg') := by
  intro r
  induction r with
  | zero =>
    intro t m j v ht h1 hm hj hv
    obtain rfl : t = 3 := by omega
    obtain ⟨m, rfl⟩ : ∃ m', m = m' + 1 := ⟨m - 1, by omega⟩
    refine ⟨j, v, 3, Nat.le_refl _, hj, ?_, hv, zG_refl, fun _ _ => Nat.le_refl _⟩
    rw [f_X12_ahead_86, if_pos (by decide)]
    rfl
  | succ r ih =>
    intro t m j v ht h1 hm hj hv
    obtain ⟨m, rfl⟩ : ∃ m', m = m' + 1 := ⟨m - 1, by omega⟩
    have hv2 : v < 100 := by
      have : 10 ^ t ≤ 10 ^ 2 := Nat.pow_le_pow_right (by decide) (by omega)
      omega
    rw [f_X12_ahead_86, if_neg (fun q => by have := (nn_le (nn_l 3 (by decide)) (nn_lit t (by omega))).mp q; omega), z_digit h hj, bV_s]
    by_cases hd : j < lim ∧ 48 ≤ s j ∧ s j ≤ 57
    · obtain ⟨hj2, d1, d2⟩ := hd
      rw [b01_t ⟨hj2, d1, d2⟩, if_neg i10, h.2.2 N j (-1) hj, if_pos hj2, bV_s, sq_s, rS_p, y_int1, rS_53, y_int1]
      have e := nn_sub (nn_add (nn_mul (nn_l 10 (by decide)) (nn_lit v (by omega)) (by omega)) (zB (h.2.1 j)) (by omega)) (nn_l 48 (by decide)) (by omega)
      rw [e.1, show 10 * v + s j - 48 = v * 10 + (s j - 48) by omega]
      obtain ⟨j', v', dg', a1, a2, a3, a4, a5, a6⟩ := ih (t + 1) m (j + 1) (v * 10 + (s j - 48)) (by omega) (by omega) (by omega) (by omega) (by rw [Nat.pow_succ]; omega)
      refine ⟨j', v', dg', by omega, a2, a3, a4, zG_trans (zG_step ?_) a5, a6⟩
      show zBeh k (v :: c) H C t oc (s j) = _
      unfold zBeh
      rw [if_pos ⟨d1, d2⟩, if_neg (by omega)]
      rfl
    · rw [b01_f hd, if_pos rfl]
      refine ⟨j, v, t, Nat.le_refl _, hj, rfl, by omega, zG_refl, fun q1 q2 => absurd ⟨q1, q2⟩ hd⟩
theorem z_ahead {N k n lim : Nat} {s : Nat → Nat} {L : Nat → Int32} {S : yS} (hE : zEnv N k s lim L S) (ih : ∀ w, w ≤ 5 → zSim N k s lim L S n w) : zSim N k s lim L S (n + 1) 5 := by
  intro i c H cm cms dg oc hi hn _ _ hl
  obtain ⟨hS, hN, hm, hL⟩ := hE
  have h60 := hS.1
  have hs := hS.2.1 i
  have hf : ∀ S', f_par N (n + 1) 5 S' = f_X12_ahead_0 N (f_par N n) S' := fun _ => rfl
  rw [hf]
  unfold f_X12_ahead_0
  have n33 : zL k 33 = false := by
    rcases zIdx (k := k) (x := 33) (by decide) with h | ⟨t, -, -, -, h, -⟩
    · exact h.2
    · omega
  have n45 : zL k 45 = false := by
    rcases zIdx (k := k) (x := 45) (by decide) with h | ⟨t, -, -, -, h, -⟩
    · exact h.2
    · omega
  have n40 : zL k 40 = false := by
    rcases zIdx (k := k) (x := 40) (by decide) with h | ⟨t, -, -, -, h, -⟩
    · exact h.2
    · omega
  by_cases c33 : i < lim ∧ s i = 33
  · have hst : zT k (1, c, H, cm :: cms, dg, oc) (s i) = some (1, c, 33 :: H, cm :: cms, dg, oc) := by
      show zThing k c H (cm :: cms) dg oc (s i) = _
      rw [c33.2]
      unfold zThing
      rw [if_neg (by decide), if_neg (by rw [n33]; decide), if_pos rfl]
    rw [z_comes hS hi (nn_l 33 (by decide)), if_pos c33, bS_s, if_neg i10]
    have hk : ∀ (v : Int32) (S' : yS), (if ¬ v = 0 then f_X12_ahead_21 N (f_par N n) S' 0 else f_X12_ahead_21 N (f_par N n) S' 1) = some (b01 (v = 0), S') := by
      intro v S'
      by_cases z : v = 0
      · rw [if_neg (fun q => q z), b01_t z]
        rfl
      · rw [if_pos z, b01_f z]
        rfl
    rcases ih 5 (by omega) (i + 1) c (33 :: H) cm cms dg oc (by omega) (by omega) (fun z => by omega) (fun z => by omega) (by omega) with ⟨v, j, e, b⟩ | ⟨v, j, e, b⟩
    · left
      rw [e, bS_s, hk]
      refine ⟨_, j, rfl, zGd_un hst (by decide) (fun σ => ?_) b⟩
      rfl
    · right
      rw [e, bS_s, hk]
      exact ⟨_, j, rfl, zBd_tr (zG_step hst) (by omega) b⟩
  rw [z_comes hS hi (nn_l 33 (by decide)), if_neg c33, bS_s, if_pos rfl]
  by_cases c45 : i < lim ∧ s i = 45
  · have hst : zT k (1, c, H, cm :: cms, dg, oc) (s i) = some (1, c, 126 :: H, cm :: cms, dg, oc) := by
      show zThing k c H (cm :: cms) dg oc (s i) = _
      rw [c45.2]
      unfold zThing
      rw [if_neg (by decide), if_neg (by rw [n45]; decide), if_neg (by decide), if_pos rfl]
    rw [z_comes hS hi (nn_l 45 (by decide)), if_pos c45, bS_s, if_neg i10]
    rcases ih 5 (by omega) (i + 1) c (126 :: H) cm cms dg oc (by omega) (by omega) (fun z => by omega) (fun z => by omega) (by omega) with ⟨v, j, e, b⟩ | ⟨v, j, e, b⟩
    · left
      rw [e, bS_s]
      refine ⟨_, j, rfl, zGd_un hst (by decide) (fun σ => ?_) b⟩
      rfl
    · right
      rw [e, bS_s]
      exact ⟨_, j, rfl, zBd_tr (zG_step hst) (by omega) b⟩
  rw [z_comes hS hi (nn_l 45 (by decide)), if_neg c45, bS_s, if_pos rfl]
  by_cases c40 : i < lim ∧ s i = 40
  · have hst : zT k (1, c, H, cm :: cms, dg, oc) (s i) = some (1, c, 40 :: H, false :: cm :: cms, dg, oc) := by
      show zThing k c H (cm :: cms) dg oc (s i) = _
      rw [c40.2]
      unfold zThing
      rw [if_neg (by decide), if_neg (by rw [n40]; decide), if_neg (by decide), if_neg (by decide), if_pos ⟨rfl, by show cms.length + 1 ≤ 60; omega⟩]
    rw [z_comes hS hi (nn_l 40 (by decide)), if_pos c40, bS_s, if_neg i10]
    rcases ih 0 (by omega) (i + 1) c (40 :: H) false (cm :: cms) dg oc (by omega) (by omega) (fun z => rfl) (fun z => Or.inr ⟨_, _, rfl, by decide⟩) (by show cms.length + 1 ≤ i + 1; omega) with ⟨v, j, e, b⟩ | ⟨v, j, e, b⟩
    · rw [e, bS_s, if_neg (fun q => q rS_w)]
      obtain ⟨c', po, d, cm', dg', g1, g2, g3, g4, g5, g6, g7, g8, g9⟩ := b
      rw [z_comes hS g2 (nn_l 41 (by decide))]
      by_cases c41 : j < lim ∧ s j = 41
      · left
        rw [if_pos c41, bS_s, if_pos i10]
        refine ⟨v, j + 1, rfl, d ++ c, [], d, cm, 3, by omega, by omega, zG_trans (zG_step hst) (zG_trans g3 (zG_step ?_)), fun x hx => (by cases hx), rfl, g6, g7, fun _ => rfl, fun hj => ⟨fun _ => Nat.le_refl _, fun q1 _ q3 => by omega⟩⟩
        show zBeh k c' (po ++ 40 :: H) (cm' :: cm :: cms) dg' oc (s j) = _
        rw [c41.2]
        unfold zBeh
        rw [if_neg (by decide), if_pos rfl, if_neg (by show ¬ (cms.length + 1 + 1 ≤ 1); omega), zRls_app c' g4 (Or.inr ⟨_, _, rfl, by decide⟩), g5]
        rfl
      · right
        rw [if_neg c41, bS_s, if_neg (fun q => q rfl), z_wrong, bS_s]
        refine ⟨v, j, rfl, by omega, g2, _, zG_trans (zG_step hst) g3, fun hj => ?_, fun _ => ?_⟩
        · exact zT_stop hj g9 (fun _ z => c41 ⟨hj, z⟩) (fun z => by cases z) (fun z => by cases z)
        · unfold zEnd
          by_cases hk : k = 2
          · rw [if_pos hk]
            intro q
            have : cms.length + 1 + 1 ≤ 1 := q.2.1
            omega
          · rw [if_neg hk]
            intro q
            have : (2 : Nat) = 4 := q
            omega
    · right
      rw [e, bS_s, rS_w, if_pos (zne (j := j) (by have := b.2.1; omega))]
      exact ⟨_, j, rfl, zBd_tr (zG_step hst) (by omega) b⟩
  rw [z_comes hS hi (nn_l 40 (by decide)), if_neg c40, bS_s, if_pos rfl, z_digit hS hi, bV_s]
  have hEnd : ¬ zEnd k (1, c, H, cm :: cms, dg, oc) := by
    unfold zEnd
    by_cases hk : k = 2
    · rw [if_pos hk]
      intro q
      have : (1 : Nat) = 2 := q.1
      omega
    · rw [if_neg hk]
      intro q
      have : (1 : Nat) = 4 := q
      omega
  by_cases cd : i < lim ∧ 48 ≤ s i ∧ s i ≤ 57
  · obtain ⟨hil, d1, d2⟩ := cd
    left
    rw [b01_t ⟨hil, d1, d2⟩, if_neg i10]
    obtain ⟨N', rfl⟩ : ∃ N', N = N' + 1 := ⟨N - 1, by omega⟩
    show ∃ v j, f_X12_ahead_86 (N' + 1) (N' + 1) (f_par (N' + 1) n) (rS S i (-1)) 0 0 = _ ∧ _
    rw [f_X12_ahead_86, if_neg (by decide), z_digit hS hi, bV_s, b01_t ⟨hil, d1, d2⟩, if_neg i10, hS.2.2 _ i (-1) hi, if_pos hil, bV_s, sq_s, rS_p, y_int1, rS_53]
    have e := nn_sub (nn_add (nn_mul (nn_l 10 (by decide)) (nn_l 0 (by decide)) (by decide)) (zB hs) (by omega)) (nn_l 48 (by decide)) (by omega)
    rw [e.1, show 10 * 0 + s i - 48 = s i - 48 by omega]
    obtain ⟨j', v', dg', a1, a2, a3, a4, a5, a6⟩ := z_dig (N := N' + 1) (k := k) (n := n) hS c H (cm :: cms) oc 2 1 N' (i + 1) (s i - 48) rfl (by decide) (by omega) (by omega) (by omega)
    refine ⟨_, j', a3, v' :: c, [], [v'], cm, dg', by omega, a2, zG_trans (zG_step ?_) a5, fun x hx => (by cases hx), rfl, fun x hx => (by rw [List.mem_singleton.mp hx]; omega), fun σ => ?_, fun _ => rfl, fun hj => ⟨a6 hj, fun q1 _ q3 => by omega⟩⟩
    · show zThing k c H (cm :: cms) dg oc (s i) = _
      unfold zThing
      rw [if_pos ⟨d1, d2⟩]
    · show zW L v' σ = _
      unfold zW
      rw [if_pos a4]
  rw [b01_f cd, if_pos rfl, hS.2.2 N i (-1) hi, bV_s]
  have bad : zL k (s i) = false ∨ lim ≤ i → (∃ v j, (bS (f_X12_isWrong N (rS S i (-1))) fun w1 S2 => some (w1, S2)) = some (v, rS S j (Int32.ofNat j)) ∧ zBd k s lim i (1, c, H, cm :: cms, dg, oc) j) := by
    intro hz
    rw [z_wrong, bS_s]
    refine ⟨0, i, rfl, Nat.le_refl _, hi, _, zG_refl, fun hil => ?_, fun _ => hEnd⟩
    show zThing k c H (cm :: cms) dg oc (s i) = none
    unfold zThing
    rw [if_neg (fun q => cd ⟨hil, q⟩), if_neg (by rw [hz.resolve_right (by omega)]; decide), if_neg (fun q => c33 ⟨hil, q⟩), if_neg (fun q => c45 ⟨hil, q⟩), if_neg (fun q => c40 ⟨hil, q.1⟩)]
  by_cases hil : i < lim
  · rw [if_pos hil, if_pos (fun q => (zB hs).nneg (by rw [q]; decide))]
    have hg : ∀ (K : Nat → Option (Int32 × yS)), gS ((rS S i (-1)).1 8 55) K = K (if k = 2 then 0 else 1) := by
      intro K
      rw [show (rS S i (-1)).1 8 55 = S.1 8 55 from rfl, hm]
      by_cases hk : k = 2
      · rw [if_pos hk, if_pos hk]
        rfl
      · rw [if_neg hk, if_neg hk]
        rfl
    rw [hg, bV_s, gP_t (by by_cases hk : k = 2 <;> simp [hk]), zChr _ hs]
    rcases zIdx (k := k) hs with ⟨z1, z2⟩ | ⟨t, z1, z2, z3, z4, z5⟩
    · right
      unfold f_X12_ahead_153
      rw [if_neg (Int32.not_le.mpr z1)]
      exact bad (Or.inl z2)
    · left
      unfold f_X12_ahead_153
      rw [z2, if_pos (Int32.not_lt.mp (nn_lit t (by omega)).nneg), sq_s, rS_p, y_int1, rS_53, gA_nn (nn_lit t (by omega)) z1]
      refine ⟨_, i + 1, rfl, (903 + s i) :: c, [], [903 + s i], cm, 3, by omega, by omega, zG_step ?_, fun x hx => (by cases hx), rfl, fun x hx => (by rw [List.mem_singleton.mp hx]; omega), fun σ => ?_, fun _ => rfl, fun hj => ⟨fun _ => Nat.le_refl _, fun q1 _ q3 => by omega⟩⟩
      · show zThing k c H (cm :: cms) dg oc (s i) = _
        unfold zThing
        rw [if_neg (fun q => cd ⟨hil, q⟩), if_pos z3]
        rfl
      · show zW L (903 + s i) σ = some (S.2.1 8 56 t :: σ)
        unfold zW
        rw [if_neg (by omega), if_pos (by omega), show 903 + s i - 1000 = s i - 97 by omega, hL _ t hs z1 z2]
  · right
    rw [if_neg hil, if_neg (fun q => q rfl)]
    unfold f_X12_ahead_153
    rw [if_neg (by decide)]
    exact bad (Or.inr (by omega))
theorem z_all {N k lim : Nat} {s : Nat → Nat} {L : Nat → Int32} {S : yS} (hE : zEnv N k s lim L S) : ∀ n w, w ≤ 5 → zSim N k s lim L S n w := by
  intro n
  induction n with
  | zero =>
    intro w hw i c H cm cms dg oc hi hn
    omega
  | succ n ih =>
    intro w hw
    rcases (show w = 0 ∨ w = 1 ∨ w = 2 ∨ w = 3 ∨ w = 4 ∨ w = 5 by omega) with rfl | rfl | rfl | rfl | rfl | rfl
    · exact z_any hE (ih 1 (by decide))
    · exact z_both hE (ih 2 (by decide))
    · exact z_held hE (ih 3 (by decide))
    · exact z_sum hE (ih 4 (by decide))
    · exact z_product hE (ih 5 (by decide))
    · exact z_ahead hE ih
