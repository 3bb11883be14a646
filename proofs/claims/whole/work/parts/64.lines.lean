theorem zTop_rep {m : Nat} {H : List Nat} (h : zTop 1 H) : zTop 1 (List.replicate m 58 ++ H) := by
  cases m with
  | zero => exact h
  | succ m => exact Or.inr ⟨58, List.replicate m 58 ++ H, rfl, by decide⟩
def zGc (s : Nat → Nat) (lim : Nat) (L : Nat → Int32) (i : Nat) (c H : List Nat) (dg oc : Nat) (v : Int32) (j : Nat) : Prop := ∃ (c' po : List Nat) (m : Nat) (d : List Nat) (cm' : Bool) (dg' : Nat), i < j ∧ j ≤ lim ∧ zG 2 s i (1, c, H, [false], dg, oc) j (2, c', po ++ (List.replicate m 58 ++ H), [cm'], dg', oc) ∧ (∀ x ∈ po, 1 ≤ zS x) ∧ List.replicate m 2063 ++ zRel po c' = d ++ c ∧ (∀ x ∈ d, x < 3000) ∧ (∀ σ, zX L d σ = some (v :: σ)) ∧ zQ 1 s lim j dg' cm' ∧ (j < lim → s j ≠ 63)
theorem zX_cho {L : Nat → Int32} {d1 d2 d3 : List Nat} {v1 v2 v3 : Int32} (h1 : ∀ σ, zX L d1 σ = some (v1 :: σ)) (h2 : ∀ σ, zX L d2 σ = some (v2 :: σ)) (h3 : ∀ σ, zX L d3 σ = some (v3 :: σ)) (σ : List Int32) : zX L (2063 :: (d3 ++ (d2 ++ d1))) σ = some ((if v1 = 0 then v3 else v2) :: σ) := by
  show (zX L (d3 ++ (d2 ++ d1)) σ).bind (zW L 2063) = _
  rw [zX_app, zX_two h1 h2]
  show (zX L d3 (v2 :: v1 :: σ)).bind (zW L 2063) = _
  rw [h3]
  rfl
theorem z_choice {N lim : Nat} {s : Nat → Nat} {L : Nat → Int32} {S : yS} (hE : zEnv N 2 s lim L S) : ∀ (n i : Nat) (c H : List Nat) (dg oc : Nat), i ≤ lim → 6 * (lim - i) + 7 ≤ n → zTop 1 H → (∃ v j, f_par N n 6 (rS S i (-1)) = some (v, rS S j (-1)) ∧ zGc s lim L i c H dg oc v j) ∨ (∃ v j, f_par N n 6 (rS S i (-1)) = some (v, rS S j (Int32.ofNat j)) ∧ zBd 2 s lim i (1, c, H, [false], dg, oc) j) := by
  have h60 := hE.1.1
  have hS := hE.1
  intro n
  induction n using Nat.strongRecOn with
  | ind n ihn =>
    intro i c H dg oc hi hn hH
    obtain ⟨n, rfl⟩ : ∃ n', n = n' + 1 := ⟨n - 1, by omega⟩
    have hf : ∀ S', f_par N (n + 1) 6 S' = f_X12_choice_0 N (f_par N n) S' := fun _ => rfl
    rw [hf]
    unfold f_X12_choice_0
    rcases z_all hE n 0 (by decide) i c H false [] dg oc hi (by omega) (fun _ => rfl) (fun _ => hH) (Nat.zero_le _) with ⟨v, j, e, b⟩ | ⟨v, j, e, b⟩
    · rw [e, bS_s, if_neg (fun q => q rS_w)]
      obtain ⟨c', po, d, cm', dg', g1, g2, g3, g4, g5, g6, g7, g8, g9⟩ := b
      rw [z_comes hS g2 (nn_l 63 (by decide))]
      by_cases c63 : j < lim ∧ s j = 63
      · obtain ⟨hj, hj2⟩ := c63
        rw [if_pos ⟨hj, hj2⟩, bS_s, if_pos i10]
        have hst : zT 2 (2, c', po ++ H, [cm'], dg', oc) (s j) = some (1, d ++ c, 63 :: H, [false], dg', oc + 1) := by
          show zBeh 2 c' (po ++ H) [cm'] dg' oc (s j) = _
          rw [hj2]
          unfold zBeh
          rw [if_neg (by decide), if_neg (by decide), if_pos (Or.inr rfl), if_neg (fun q => q (Nat.le_refl 1 : ([cm'] : List Bool).length ≤ 1)), if_pos rfl]
          unfold zCho
          rw [if_pos rfl, zRls_app c' g4 hH, g5]
        rcases ihn n (by omega) (j + 1) (d ++ c) (63 :: H) dg' (oc + 1) (by omega) (by omega) (Or.inr ⟨_, _, rfl, by decide⟩) with ⟨v2, j2, e2, b2⟩ | ⟨v2, j2, e2, b2⟩
        · rw [e2, bS_s, if_neg (fun q => q rS_w)]
          obtain ⟨c2, po2, m2, d2, cm2, dg2, k1, k2, k3, k4, k5, k6, k7, k8, k9⟩ := b2
          have G2 := zG_trans g3 (zG_trans (zG_step hst) k3)
          rw [z_comes hS k2 (nn_l 58 (by decide))]
          by_cases c58 : j2 < lim ∧ s j2 = 58
          · obtain ⟨hj3, hj4⟩ := c58
            rw [if_pos ⟨hj3, hj4⟩, bS_s, if_pos i10]
            unfold f_X12_choice_51
            rw [if_pos rS_w]
            have hst2 : zT 2 (2, c2, po2 ++ (List.replicate m2 58 ++ 63 :: H), [cm2], dg2, oc + 1) (s j2) = some (1, d2 ++ (d ++ c), 58 :: H, [false], dg2, oc) := by
              show zBeh 2 c2 (po2 ++ (List.replicate m2 58 ++ 63 :: H)) [cm2] dg2 (oc + 1) (s j2) = _
              rw [hj4]
              unfold zBeh
              rw [if_neg (by decide), if_neg (by decide), if_pos (Or.inl rfl), if_neg (fun q => q (Nat.le_refl 1 : ([cm2] : List Bool).length ≤ 1)), if_pos rfl]
              unfold zCho
              rw [if_neg (by decide), if_neg (by omega), zRls_app c2 k4 (zTop_rep (Or.inr ⟨_, _, rfl, by decide⟩))]
              show some (1, (zCls (List.replicate m2 58 ++ 63 :: H) (zRel po2 c2)).2, 58 :: (zCls (List.replicate m2 58 ++ 63 :: H) (zRel po2 c2)).1.tail, [false], dg2, oc + 1 - 1) = _
              rw [zCls_rep m2 (63 :: H) (zRel po2 c2) (Or.inr ⟨_, _, rfl, by decide⟩), k5]
              rfl
            rcases ihn n (by omega) (j2 + 1) (d2 ++ (d ++ c)) (58 :: H) dg2 oc (by omega) (by omega) (Or.inr ⟨_, _, rfl, by decide⟩) with ⟨v3, j3, e3, b3⟩ | ⟨v3, j3, e3, b3⟩
            · left
              rw [e3, bS_s]
              obtain ⟨c3, po3, m3, d3, cm3, dg3, l1, l2, l3, l4, l5, l6, l7, l8, l9⟩ := b3
              refine ⟨if v = 0 then v3 else v2, j3, ?_, c3, po3, m3 + 1, 2063 :: (d3 ++ (d2 ++ d)), cm3, dg3, by omega, l2, zG_trans G2 (zG_trans (zG_step hst2) ?_), l4, ?_, ?_, zX_cho g7 k7 l7, l8, l9⟩
              · by_cases z : v = 0
                · rw [if_pos z, if_pos z]
                  rfl
                · rw [if_neg z, if_neg z]
                  rfl
              · have er : List.replicate (m3 + 1) 58 ++ H = List.replicate m3 58 ++ 58 :: H := by
                  rw [List.replicate_succ', List.append_assoc]
                  rfl
                rw [er]
                exact l3
              · show 2063 :: (List.replicate m3 2063 ++ zRel po3 c3) = 2063 :: (d3 ++ (d2 ++ d)) ++ c
                rw [l5, List.cons_append, List.append_assoc, List.append_assoc]
              · intro x hx
                rcases List.mem_cons.mp hx with q | q
                · omega
                · rcases List.mem_append.mp q with q | q
                  · exact l6 x q
                  · rcases List.mem_append.mp q with q | q
                    · exact k6 x q
                    · exact g6 x q
            · right
              rw [e3, bS_s]
              have B := zBd_tr (zG_trans G2 (zG_step hst2)) (by omega) b3
              by_cases z : v = 0
              · rw [if_pos z]
                exact ⟨_, j3, rfl, B⟩
              · rw [if_neg z]
                exact ⟨_, j3, rfl, B⟩
          · right
            rw [if_neg c58, bS_s, if_neg (fun q => q rfl), z_wrong, bS_s]
            refine ⟨0, j2, rfl, by omega, k2, _, G2, fun hj3 => ?_, fun _ => ?_⟩
            · exact zT_stop hj3 k8 (fun z => absurd rfl z) (fun _ z => absurd rfl z) (fun _ _ => ⟨k9 hj3, fun z => absurd ⟨hj3, z⟩ c58⟩)
            · unfold zEnd
              rw [if_pos rfl]
              intro q
              have : oc + 1 = 0 := q.2.2
              omega
        · right
          rw [e2, bS_s, rS_w, if_pos (zne (j := j2) (by have := b2.2.1; omega))]
          unfold f_X12_choice_51
          rw [rS_w, if_neg (zne (j := j2) (by have := b2.2.1; omega))]
          exact ⟨0, j2, rfl, zBd_tr (zG_trans g3 (zG_step hst)) (by omega) b2⟩
      · left
        rw [if_neg c63, bS_s, if_neg (fun q => q rfl)]
        exact ⟨v, j, rfl, c', po, 0, d, cm', dg', g1, g2, g3, g4, g5, g6, g7, g9, fun hj z => c63 ⟨hj, z⟩⟩
    · right
      rw [e, bS_s, rS_w, if_pos (zne (j := j) (by have := b.2.1; omega))]
      exact ⟨v, j, rfl, b⟩
/-! LINES -/
theorem rS_57 {S : yS} {i : Nat} {w x : Int32} : yI (rS S i w) 8 57 x = rS (yI S 8 57 x) i w := by
  unfold rS
  rw [yI_cm _ _ _ (by decide), yI_cm S _ _ (by decide)]
theorem zEnv_57 {N k lim : Nat} {s : Nat → Nat} {L : Nat → Int32} {S : yS} (x : Int32) (h : zEnv N k s lim L S) : zEnv N k s lim L (yI S 8 57 x) := by
  obtain ⟨⟨a1, a2, a3⟩, h2, h3, h4⟩ := h
  exact ⟨⟨a1, a2, fun N i w hi => a3 N i w hi⟩, h2, h3, h4⟩
theorem zT_01 {k x : Nat} {X : List Nat × List Nat × List Bool × Nat × Nat} (h : x ≠ 58) : zT k (0, X) x = zT k (1, X) x := by
  unfold zT
  rw [if_pos rfl, if_neg h, if_neg (by show ¬ (1 : Nat) = 0; decide), if_pos rfl]
theorem zG_01 {k i j : Nat} {s : Nat → Nat} {X : List Nat × List Nat × List Bool × Nat × Nat} {Q : zP} (h : s i ≠ 58) (hij : i < j) (hg : zG k s i (1, X) j Q) : zG k s i (0, X) j Q := by
  obtain ⟨n, e, g⟩ := hg
  obtain ⟨n, rfl⟩ : ∃ n', n = n' + 1 := ⟨n - 1, by omega⟩
  refine ⟨n + 1, e, ?_⟩
  show (zT k (0, X) (s i)).bind _ = _
  rw [zT_01 h]
  exact g
theorem zBd_01 {k lim i j : Nat} {s : Nat → Nat} {X : List Nat × List Nat × List Bool × Nat × Nat} (h : i < lim → s i ≠ 58) (hk : k ≠ 2) (hb : zBd k s lim i (1, X) j) : zBd k s lim i (0, X) j := by
  obtain ⟨h1, h2, Q, h3, h4, h5⟩ := hb
  by_cases e : i = j
  · subst e
    have hQ := zG_uniq h3 zG_refl
    subst hQ
    refine ⟨h1, h2, _, zG_refl, fun hj => ?_, fun _ => ?_⟩
    · rw [zT_01 (h hj)]
      exact h4 hj
    · unfold zEnd
      rw [if_neg hk]
      intro q
      have : (0 : Nat) = 4 := q
      omega
  · exact ⟨h1, h2, Q, zG_01 (h (by omega)) (by omega) h3, h4, h5⟩
/-- what lines leave: act and line -/
def zLn (L : Nat → Int32) (e : List Nat) (l2 : Int32) (l3 : Nat) (B : yS) (r : Int32) (B' : yS) : Prop := (¬ l2 = -1 ∧ r = l2 ∧ B' = B) ∨ (l2 = -1 ∧ zN L e.reverse [] l3 = some none ∧ r = -1 ∧ B' = B) ∨ (l2 = -1 ∧ ∃ a ln, zN L e.reverse [] l3 = some (some (a, ln)) ∧ r = Int32.ofNat a ∧ B' = yI B 8 57 (Int32.ofNat ln))
theorem zN_line {L : Nat → Int32} {d e : List Nat} {x : Nat} {v : Int32} (l3 : Nat) (hd : ∀ y ∈ d, y < 3000) (hv : zX L d [] = some [v]) : zN L (e ++ (3000 + x) :: d).reverse [] l3 = if v = 0 then zN L e.reverse [] (l3 + 1) else some (some (x, l3)) := by
  rw [List.reverse_append, List.reverse_cons, List.append_assoc, zN_seg L d.reverse _ [] [v] l3 (fun y hy => hd y (List.mem_reverse.mp hy)) (by rw [zF_rev]; exact hv)]
  show (if 3000 + x < 3000 then _ else _) = _
  rw [if_neg (by omega)]
  show (if v = 0 then zN L e.reverse [] (l3 + 1) else some (some (3000 + x - 3000, l3))) = _
  rw [show 3000 + x - 3000 = x by omega]
theorem z_lines {N k lim : Nat} {s : Nat → Nat} {L : Nat → Int32} (hk : k ≠ 2) : ∀ (m i : Nat) (l2 : Int32) (l3 : Nat) (c : List Nat) (dg : Nat) (B : yS), zEnv N k s lim L B → i ≤ lim → lim - i < m → (∃ r B' j e dg', f_X12_lines_9 m N (rS B i (-1)) (if k = 0 then 2 else 3) l2 (Int32.ofNat l3) = some (r, rS B' j (-1)) ∧ i < j ∧ j ≤ lim ∧ zG k s i (0, c, [], [false], dg, 0) j (4, e ++ c, [], [false], dg', 0) ∧ (j < lim → s j ≠ 59) ∧ zLn L e l2 l3 B r B') ∨ (∃ r B' j, f_X12_lines_9 m N (rS B i (-1)) (if k = 0 then 2 else 3) l2 (Int32.ofNat l3) = some (r, rS B' j (Int32.ofNat j)) ∧ (B' = B ∨ ∃ x, B' = yI B 8 57 x) ∧ zBd k s lim i (0, c, [], [false], dg, 0) j) := by
  intro m
  induction m with
  | zero => intro i l2 l3 c dg B hE hi hm; omega
  | succ m ih =>
    intro i l2 l3 c dg B hE hi hm
    have hS := hE.1
    have h60 := hS.1
    have ends : ∀ (st : Nat) (X : List Nat × List Nat × List Bool × Nat × Nat), st ≠ 4 → ¬ zEnd k (st, X) := by
      intro st X hst
      unfold zEnd
      rw [if_neg hk]
      exact hst
    -- behind a condition
    have tail : ∀ (j : Nat) (d : List Nat) (dg1 : Nat) (v t0 : Int32), i ≤ j → j < lim → s j = 58 → zG k s i (0, c, [], [false], dg, 0) (j + 1) (3, d ++ c, [], [false], dg1, 0) → (∀ x ∈ d, x < 3000) → zX L d [] = some [v] → t0 = b01 (¬ v = 0) → (∃ r B' j' e dg', f_X12_lines_38 N (fun S m1 l2 l3 => f_X12_lines_9 m N S m1 l2 l3) (rS B j (-1)) (if k = 0 then 2 else 3) l2 (Int32.ofNat l3) t0 = some (r, rS B' j' (-1)) ∧ i < j' ∧ j' ≤ lim ∧ zG k s i (0, c, [], [false], dg, 0) j' (4, e ++ c, [], [false], dg', 0) ∧ (j' < lim → s j' ≠ 59) ∧ zLn L e l2 l3 B r B') ∨ (∃ r B' j', f_X12_lines_38 N (fun S m1 l2 l3 => f_X12_lines_9 m N S m1 l2 l3) (rS B j (-1)) (if k = 0 then 2 else 3) l2 (Int32.ofNat l3) t0 = some (r, rS B' j' (Int32.ofNat j')) ∧ (B' = B ∨ ∃ x, B' = yI B 8 57 x) ∧ zBd k s lim i (0, c, [], [false], dg, 0) j') := by
      intro j d dg1 v t0 hij hj h58 hG hd hv ht
      unfold f_X12_lines_38
      rw [if_pos rS_w, z_comes hS (by omega) (nn_l 58 (by decide)), if_pos ⟨hj, h58⟩, bS_s, if_pos i10, hS.2.2 N (j + 1) (-1) (by omega), bV_s]
      have wr : (j + 1 < lim → zAc k (s (j + 1)) = false) → (∃ r B' j', f_X12_lines_87 N (rS B (j + 1) (-1)) = some (r, rS B' j' (Int32.ofNat j')) ∧ (B' = B ∨ ∃ x, B' = yI B 8 57 x) ∧ zBd k s lim i (0, c, [], [false], dg, 0) j') := by
        intro hz
        unfold f_X12_lines_87
        rw [z_wrong, bS_s]
        refine ⟨0, B, j + 1, rfl, Or.inl rfl, by omega, by omega, _, hG, fun hj1 => ?_, fun _ => ends 3 _ (by decide)⟩
        show (if zAc k (s (j + 1)) = true then _ else none) = none
        rw [if_neg (by rw [hz hj1]; decide)]
      by_cases hj1 : j + 1 < lim
      · rw [if_pos hj1, if_neg (fun q => (zB (hS.2.1 (j + 1))).nneg (by rw [q]; decide)), gP_t (by by_cases z : k = 0 <;> simp [z]), zChr _ (hS.2.1 (j + 1))]
        by_cases ha : 0 ≤ sIdx (if k = 0 then 2 else 3) (Int32.ofNat (s (j + 1)))
        · rw [if_pos ha, sq_s, rS_p, y_int1, rS_53]
          have hac : zAc k (s (j + 1)) = true := decide_eq_true ha
          have G4 : zG k s i (0, c, [], [false], dg, 0) (j + 1 + 1) (4, (3000 + s (j + 1)) :: d ++ c, [], [false], dg1, 0) := by
            refine zG_trans hG (zG_step ?_)
            show (if zAc k (s (j + 1)) = true then _ else none) = _
            rw [if_pos hac]
            rfl
          -- the rest of the text
          have rest : ∀ (l2' : Int32) (B1 : yS), zEnv N k s lim L B1 → (∃ r B' j' e dg', f_X12_lines_120 N (fun S m1 l2 l3 => f_X12_lines_9 m N S m1 l2 l3) (rS B1 (j + 1 + 1) (-1)) (if k = 0 then 2 else 3) l2' (Int32.ofNat l3) = some (r, rS B' j' (-1)) ∧ i < j' ∧ j' ≤ lim ∧ zG k s i (0, c, [], [false], dg, 0) j' (4, (e ++ (3000 + s (j + 1)) :: d) ++ c, [], [false], dg', 0) ∧ (j' < lim → s j' ≠ 59) ∧ zLn L e l2' (l3 + 1) B1 r B') ∨ (∃ r B' j', f_X12_lines_120 N (fun S m1 l2 l3 => f_X12_lines_9 m N S m1 l2 l3) (rS B1 (j + 1 + 1) (-1)) (if k = 0 then 2 else 3) l2' (Int32.ofNat l3) = some (r, rS B' j' (Int32.ofNat j')) ∧ (B' = B1 ∨ ∃ x, B' = yI B1 8 57 x) ∧ zBd k s lim i (0, c, [], [false], dg, 0) j') := by
            intro l2' B1 hE1
            unfold f_X12_lines_120
            rw [z_comes hE1.1 (by omega) (nn_l 59 (by decide))]
            by_cases c59 : j + 1 + 1 < lim ∧ s (j + 1 + 1) = 59
            · rw [if_pos c59, bS_s, if_pos i10, y_int1]
              have G0 : zG k s i (0, c, [], [false], dg, 0) (j + 1 + 1 + 1) (0, (3000 + s (j + 1)) :: d ++ c, [], [false], dg1, 0) := by
                refine zG_trans G4 (zG_step ?_)
                rw [c59.2]
                rfl
              rcases ih (j + 1 + 1 + 1) l2' (l3 + 1) ((3000 + s (j + 1)) :: d ++ c) dg1 B1 hE1 (by omega) (by omega) with ⟨r, B', j', e, dg', f1, f2, f3, f4, f5, f6⟩ | ⟨r, B', j', f1, f2, f3⟩
              · left
                refine ⟨r, B', j', e, dg', f1, by omega, f3, ?_, f5, f6⟩
                rw [List.append_assoc]
                exact zG_trans G0 f4
              · right
                exact ⟨r, B', j', f1, f2, zBd_tr G0 (by omega) f3⟩
            · left
              rw [if_neg c59, bS_s, if_neg (fun q => q rfl)]
              refine ⟨l2', B1, j + 1 + 1, [], dg1, rfl, by omega, by omega, G4, fun h1 h2 => c59 ⟨h1, h2⟩, ?_⟩
              by_cases z : l2' = -1
              · exact Or.inr (Or.inl ⟨z, rfl, z, rfl⟩)
              · exact Or.inl ⟨z, rfl, rfl⟩
          have hline : ∀ e : List Nat, zN L (e ++ (3000 + s (j + 1)) :: d).reverse [] l3 = if v = 0 then zN L e.reverse [] (l3 + 1) else some (some (s (j + 1), l3)) := fun e => zN_line l3 hd hv
          by_cases hv0 : v = 0
          · rw [ht, b01_f (fun q => q hv0), if_pos rfl]
            rcases rest l2 B hE with ⟨r, B', j', e, dg', f1, f2, f3, f4, f5, f6⟩ | h
            · left
              refine ⟨r, B', j', e ++ (3000 + s (j + 1)) :: d, dg', f1, f2, f3, f4, f5, ?_⟩
              unfold zLn at f6 ⊢
              rw [hline, if_pos hv0]
              exact f6
            · exact Or.inr h
          · rw [ht, b01_t hv0, if_neg i10]
            by_cases hl2 : l2 = -1
            · rw [if_neg (fun q => q hl2), sq_s, rS_57]
              rcases rest (Int32.ofNat (s (j + 1))) (yI B 8 57 (Int32.ofNat l3)) (zEnv_57 _ hE) with ⟨r, B', j', e, dg', f1, f2, f3, f4, f5, f6⟩ | ⟨r, B', j', f1, f2, f3⟩
              · left
                refine ⟨r, B', j', e ++ (3000 + s (j + 1)) :: d, dg', f1, f2, f3, f4, f5, Or.inr (Or.inr ⟨hl2, s (j + 1), l3, ?_, ?_⟩)⟩
                · rw [hline, if_neg hv0]
                · have hne : ¬ Int32.ofNat (s (j + 1)) = -1 := fun q => (zB (hS.2.1 (j + 1))).nneg (by rw [q]; decide)
                  rcases f6 with ⟨_, q1, q2⟩ | ⟨q, _⟩ | ⟨q, _⟩
                  · exact ⟨q1, q2⟩
                  · exact absurd q hne
                  · exact absurd q hne
              · right
                refine ⟨r, B', j', f1, Or.inr ?_, f3⟩
                rcases f2 with q | ⟨x, q⟩
                · exact ⟨_, q⟩
                · exact ⟨x, by rw [q, yI_yI]⟩
            · rw [if_pos hl2]
              rcases rest l2 B hE with ⟨r, B', j', e, dg', f1, f2, f3, f4, f5, f6⟩ | h
              · left
                refine ⟨r, B', j', e ++ (3000 + s (j + 1)) :: d, dg', f1, f2, f3, f4, f5, ?_⟩
                rcases f6 with q | ⟨q, _⟩ | ⟨q, _⟩
                · exact Or.inl q
                · exact absurd q hl2
                · exact absurd q hl2
              · exact Or.inr h
        · rw [if_neg ha]
          exact Or.inr (wr (fun _ => decide_eq_false ha))
      · rw [if_neg hj1, if_pos rfl]
        exact Or.inr (wr (fun z => absurd z hj1))
    rw [f_X12_lines_9, if_neg (fun q => q rS_w), hS.2.2 N i (-1) hi, bV_s]
    by_cases c58 : i < lim ∧ s i = 58
    · rw [if_pos c58.1, if_pos ((nn_eq (zB (hS.2.1 i)) (nn_l 58 (by decide))).mpr c58.2)]
      refine tail i [1] dg 1 1 (Nat.le_refl _) c58.1 c58.2 (zG_step ?_) (fun x hx => (by rw [List.mem_singleton.mp hx]; decide)) rfl (by decide)
      rw [c58.2]
      rfl
    · have hne : ¬ (if i < lim then Int32.ofNat (s i) else -1) = 58 := by
        by_cases hil : i < lim
        · rw [if_pos hil]
          exact fun q => c58 ⟨hil, (nn_eq (zB (hS.2.1 i)) (nn_l 58 (by decide))).mp q⟩
        · rw [if_neg hil]
          decide
      rw [if_neg hne]
      have hfT : f_X12_anyT N (rS B i (-1)) = f_par N 400 0 (rS B i (-1)) := rfl
      rw [hfT]
      rcases z_all hE 400 0 (by decide) i c [] false [] dg 0 hi (by omega) (fun _ => rfl) (fun _ => Or.inl rfl) (Nat.zero_le _) with ⟨v, j, e, b⟩ | ⟨v, j, e, b⟩
      · rw [e, bS_s]
        obtain ⟨c', po, d, cm', dg', g1, g2, g3, g4, g5, g6, g7, g8, g9⟩ := b
        have g3' := zG_01 (fun z => c58 ⟨by omega, z⟩) g1 g3
        by_cases d58 : j < lim ∧ s j = 58
        · have hst : zT k (2, c', po ++ [], [cm'], dg', 0) (s j) = some (3, d ++ c, [], [false], dg', 0) := by
            show zBeh k c' (po ++ []) [cm'] dg' 0 (s j) = _
            rw [d58.2]
            unfold zBeh
            rw [if_neg (by decide), if_neg (by decide), if_pos (Or.inl rfl), if_neg (fun q => q (Nat.le_refl 1 : ([cm'] : List Bool).length ≤ 1)), if_neg hk, if_pos rfl, zRls_app c' g4 (Or.inl rfl), g5]
          have T := tail j d dg' v (b01 (¬ v = 0)) (by omega) d58.1 d58.2 (zG_trans g3' (zG_step hst)) g6 (g7 []) rfl
          by_cases z : v = 0
          · rw [if_pos z]
            rw [b01_f (fun q => q z)] at T
            exact T
          · rw [if_neg z]
            rw [b01_t z] at T
            exact T
        · right
          have hb : ∀ t0, f_X12_lines_38 N (fun S m1 l2 l3 => f_X12_lines_9 m N S m1 l2 l3) (rS B j (-1)) (if k = 0 then 2 else 3) l2 (Int32.ofNat l3) t0 = some (0, rS B j (Int32.ofNat j)) := by
            intro t0
            unfold f_X12_lines_38
            rw [if_pos rS_w, z_comes hS g2 (nn_l 58 (by decide)), if_neg d58, bS_s, if_neg (fun q => q rfl), z_wrong, bS_s]
          have B0 : zBd k s lim i (0, c, [], [false], dg, 0) j := by
            refine ⟨by omega, g2, _, g3', fun hj => ?_, fun _ => ends 2 _ (by decide)⟩
            exact zT_stop hj g9 (fun z => absurd rfl z) (fun _ _ z => d58 ⟨hj, z⟩) (fun _ z => absurd z hk)
          by_cases z : v = 0
          · rw [if_pos z, hb]
            exact ⟨_, B, j, rfl, Or.inl rfl, B0⟩
          · rw [if_neg z]
            unfold f_X12_lines_33
            rw [hb]
            exact ⟨_, B, j, rfl, Or.inl rfl, B0⟩
      · right
        rw [e, bS_s]
        have hb : ∀ t0, f_X12_lines_38 N (fun S m1 l2 l3 => f_X12_lines_9 m N S m1 l2 l3) (rS B j (Int32.ofNat j)) (if k = 0 then 2 else 3) l2 (Int32.ofNat l3) t0 = some (l2, rS B j (Int32.ofNat j)) := by
          intro t0
          unfold f_X12_lines_38
          rw [rS_w, if_neg (zne (j := j) (by have := b.2.1; omega))]
          rfl
        have B0 := zBd_01 (fun hil z => c58 ⟨hil, z⟩) hk b
        by_cases z : v = 0
        · rw [if_pos z, hb]
          exact ⟨_, B, j, rfl, Or.inl rfl, B0⟩
        · rw [if_neg z]
          unfold f_X12_lines_33
          rw [hb]
          exact ⟨_, B, j, rfl, Or.inl rfl, B0⟩
