/-! THE READER OVER A WHOLE TEXT -/
theorem zH_mk {S : yS} {s : Nat → Nat} {n fo : Nat} (h52 : nn (S.1 8 52) n) (hn : n ≤ 100) (h51 : nn (S.1 8 51) fo) (ht : (S.1 8 50 = 1 ∧ fo + min n 60 ≤ 100 ∧ ∀ i, i < min n 60 → S.2.1 8 43 (fo + i) &&& 255 = Int32.ofNat (s i)) ∨ (S.1 8 50 = 2 ∧ fo + min n 60 ≤ 1920 ∧ ∀ i, i < min n 60 → S.2.1 8 37 (fo + i) &&& 255 = Int32.ofNat (s i))) (hs : ∀ i, s i < 256) : zH S s (min n 60) := by
  refine ⟨by omega, hs, fun N i w hi => ?_⟩
  have ni := nn_lit i (by omega)
  unfold f_X12_here f_X12_here_0 f_X12_here_41 f_X12_here_42
  rw [show (rS S i w).1 8 52 = S.1 8 52 from rfl, rS_p, show (rS S i w).1 8 50 = S.1 8 50 from rfl, show (rS S i w).1 8 51 = S.1 8 51 from rfl]
  by_cases h1 : i < min n 60
  · have hix : fo + i < 1920 := by rcases ht with ⟨_, q, _⟩ | ⟨_, q, _⟩ <;> omega
    have ix := nn_add h51 ni (by omega)
    rw [if_neg (fun q => by have := (nn_le h52 ni).mp q; omega), if_neg (fun q => by have := (nn_le (nn_l 60 (by decide)) ni).mp q; omega), if_pos h1]
    rcases ht with ⟨t1, t2, t3⟩ | ⟨t1, t2, t3⟩
    · rw [gP_t (Or.inl t1)]
      unfold gB
      rw [if_pos t1, if_neg, ix.nat, show (rS S i w).2.1 8 43 = S.2.1 8 43 from rfl]
      · show some (S.2.1 8 43 (fo + i) &&& 255) = _
        rw [t3 i h1]
      · intro q
        rcases q with q | q
        · exact ix.nneg q
        · rw [ix.nat] at q; omega
    · have t1' : ¬ S.1 8 50 = 1 := by rw [t1]; decide
      rw [gP_t (Or.inr t1)]
      unfold gB
      rw [if_neg t1', if_pos t1, if_neg, ix.nat, show (rS S i w).2.1 8 37 = S.2.1 8 37 from rfl]
      · show some (S.2.1 8 37 (fo + i) &&& 255) = _
        rw [t3 i h1]
      · intro q
        rcases q with q | q
        · exact ix.nneg q
        · rw [ix.nat] at q; omega
  · rw [if_neg h1]
    by_cases h2 : n ≤ i
    · rw [if_pos ((nn_le h52 ni).mpr h2)]
    · rw [if_neg (fun q => h2 ((nn_le h52 ni).mp q)), if_pos ((nn_le (nn_l 60 (by decide)) ni).mpr (by omega))]
theorem zG_cut {k i j l : Nat} {s : Nat → Nat} {P R : zP} (h : zG k s i P l R) (h1 : i ≤ j) (h2 : j < l) : ∃ Q Q', zG k s i P j Q ∧ zT k Q (s j) = some Q' := by
  obtain ⟨n, e, g⟩ := h
  obtain ⟨a, rfl⟩ : ∃ a, j = i + a := ⟨j - i, by omega⟩
  obtain ⟨b, hb⟩ : ∃ b, n = a + (b + 1) := ⟨n - a - 1, by omega⟩
  rw [hb, zR_add] at g
  cases hq : zR k s a i P with
  | none => rw [hq] at g; cases g
  | some Q =>
    rw [hq] at g
    have g' : (zT k Q (s (i + a))).bind (zR k s b (i + a + 1)) = some R := g
    cases hq' : zT k Q (s (i + a)) with
    | none => rw [hq'] at g'; cases g'
    | some Q' => exact ⟨Q, Q', ⟨a, rfl, hq⟩, hq'⟩
theorem zFail_lt {k n i j j' : Nat} {s : Nat → Nat} {P : zP} (h : zFail k s n i P j) (h' : zFail k s n i P j') : ¬ j < j' := by
  intro hl
  obtain ⟨a1, a2, Q, a3, a4, a5⟩ := h
  obtain ⟨b1, b2, R, b3, b4, b5⟩ := h'
  obtain ⟨Q1, Q2, c1, c2⟩ := zG_cut b3 a1 hl
  rw [zG_uniq c1 a3, a4 (by omega)] at c2
  cases c2
theorem zFail_eq {k n i j j' : Nat} {s : Nat → Nat} {P : zP} (h : zFail k s n i P j) (h' : zFail k s n i P j') : j = j' := by
  have := zFail_lt h h'
  have := zFail_lt h' h
  omega
theorem zAcc_not {k n i j : Nat} {s : Nat → Nat} {P Q : zP} (h : zAcc k s n i P Q) (h' : zFail k s n i P j) : False := by
  obtain ⟨a1, a2, a3⟩ := h
  obtain ⟨b1, b2, R, b3, b4, b5⟩ := h'
  by_cases e : j = n
  · subst e
    have := zG_uniq a2 b3
    subst this
    exact b5 (by omega) ⟨a1, a3⟩
  · obtain ⟨Q1, Q2, c1, c2⟩ := zG_cut a2 b1 (by omega)
    rw [zG_uniq c1 b3, b4 (by omega)] at c2
    cases c2
theorem zAcc_uniq {k n i : Nat} {s : Nat → Nat} {P Q Q' : zP} (h : zAcc k s n i P Q) (h' : zAcc k s n i P Q') : Q = Q' := zG_uniq h.2.1 h'.2.1
/-- letters by numbers -/
theorem zLx (k : Nat) (A : Nat → Int32) : ∃ L : Nat → Int32, ∀ x t, x < 256 → t < 10 → sIdx (if k = 2 then 0 else 1) (Int32.ofNat x) = Int32.ofNat t → L (x - 97) = A t := by
  refine ⟨fun y => A (sIdx (if k = 2 then 0 else 1) (Int32.ofNat (y + 97))).toNatClampNeg, fun x t hx ht h => ?_⟩
  rcases zIdx (k := k) hx with ⟨z1, z2⟩ | ⟨t', z1, z2, z3, z4, z5⟩
  · rw [h] at z1
    exact absurd z1 (nn_lit t (by omega)).nneg
  · show A (sIdx (if k = 2 then 0 else 1) (Int32.ofNat (x - 97 + 97))).toNatClampNeg = A t
    rw [show x - 97 + 97 = x by omega, h, (nn_lit t (by omega)).nat]
/-- what the reader says of a text: wrong at j, or the automaton's last state -/
def zSay (k : Nat) (s : Nat → Nat) (n : Nat) (w : Int32) : Prop := (∃ j, w = Int32.ofNat j ∧ zFail k s n 0 (zIni k) j) ∨ (w = -1 ∧ ∃ Q, zAcc k s n 0 (zIni k) Q)
theorem zBd_fail {k n j : Nat} {s : Nat → Nat} {P : zP} (h : zBd k s (min n 60) 0 P j) : zFail k s n 0 P j := by
  obtain ⟨h1, h2, Q, h3, h4, h5⟩ := h
  exact ⟨h1, h2, Q, h3, h4, fun e q => h5 e q.2⟩
theorem zIni_r {k : Nat} (h : k ≠ 2) : zIni k = (0, [], [], [false], 0, 0) := by
  unfold zIni
  rw [if_neg h]
theorem zIni_l : zIni 2 = (1, [], [], [false], 0, 0) := rfl
/-- rules: the lines -/
theorem top_lines {N k n : Nat} {s : Nat → Nat} {L : Nat → Int32} {S : yS} (hk : k ≠ 2) (hE : zEnv N k s (min n 60) L S) (h53 : S.1 8 53 = 0) (h54 : S.1 8 54 = -1) : ∃ r B' j, (B' = yI S 8 57 (-1) ∨ ∃ x, B' = yI S 8 57 x) ∧ ((f_X12_lines N S (if k = 0 then 2 else 3) = some (r, rS B' j (Int32.ofNat j)) ∧ zFail k s n 0 (zIni k) j) ∨ (f_X12_lines N S (if k = 0 then 2 else 3) = some (r, rS B' j (-1)) ∧ j ≤ min n 60 ∧ (j < n → zFail k s n 0 (zIni k) j) ∧ (j = n → ∃ e dg', zAcc k s n 0 (zIni k) (4, e, [], [false], dg', 0) ∧ zLn L e (-1) 0 (yI S 8 57 (-1)) r B'))) := by
  have hS : rS (yI S 8 57 (-1)) 0 (-1) = yI S 8 57 (-1) := by
    unfold rS
    rw [yI_self (show (yI S 8 57 (-1)).1 8 53 = Int32.ofNat 0 from h53), yI_self (show (yI S 8 57 (-1)).1 8 54 = -1 from h54)]
  unfold f_X12_lines f_X12_lines_0
  rw [sq_s, zIni_r hk]
  have h60 := hE.2.1
  rcases z_lines (N := N) (k := k) (s := s) hk N 0 (-1) 0 [] 0 (yI S 8 57 (-1)) (zEnv_57 _ hE) (Nat.zero_le _) (by omega) with ⟨r, B', j, e, dg', f1, f2, f3, f4, f5, f6⟩ | ⟨r, B', j, f1, f2, f3⟩
  · rw [List.append_nil] at f4
    rw [hS] at f1
    refine ⟨r, B', j, ?_, Or.inr ⟨f1, f3, fun hj => ?_, fun hj => ⟨e, dg', ⟨by omega, by rw [← hj]; exact f4, ?_⟩, f6⟩⟩⟩
    · rcases f6 with ⟨q, _⟩ | ⟨_, _, _, q⟩ | ⟨_, a, ln, _, _, q⟩
      · exact absurd rfl q
      · exact Or.inl q
      · exact Or.inr ⟨_, by rw [q, yI_yI]⟩
    · refine ⟨Nat.zero_le _, f3, _, f4, fun hl => ?_, fun hl q => by omega⟩
      show (if s j = 59 then some (0, e, [], [false], dg', 0) else none) = none
      rw [if_neg (f5 hl)]
    · unfold zEnd
      rw [if_neg hk]
  · rw [hS] at f1
    refine ⟨r, B', j, ?_, Or.inl ⟨f1, zBd_fail f3⟩⟩
    rcases f2 with q | ⟨x, q⟩
    · exact Or.inl q
    · exact Or.inr ⟨x, by rw [q, yI_yI]⟩
/-- laws: the choice -/
theorem top_choice {N n : Nat} {s : Nat → Nat} {L : Nat → Int32} {S : yS} (hE : zEnv N 2 s (min n 60) L S) (h53 : S.1 8 53 = 0) (h54 : S.1 8 54 = -1) : ∃ r j, (f_X12_choiceT N S = some (r, rS S j (Int32.ofNat j)) ∧ zFail 2 s n 0 (zIni 2) j) ∨ (f_X12_choiceT N S = some (r, rS S j (-1)) ∧ j ≤ min n 60 ∧ (j < n → zFail 2 s n 0 (zIni 2) j) ∧ (j = n → ∃ Q, zAcc 2 s n 0 (zIni 2) Q ∧ zX L (zFin Q) [] = some [r] ∧ ∀ x ∈ zFin Q, x < 3000)) := by
  have hS : rS S 0 (-1) = S := by
    unfold rS
    rw [yI_self (show S.1 8 53 = Int32.ofNat 0 from h53), yI_self h54]
  have hf : ∀ X, f_X12_choiceT N X = f_par N 400 6 X := fun _ => rfl
  rw [hf, ← hS, hS, zIni_l]
  rcases z_choice hE 400 0 [] [] 0 0 (Nat.zero_le _) (by omega) (Or.inl rfl) with ⟨v, j, e, b⟩ | ⟨v, j, e, b⟩
  · rw [hS] at e
    obtain ⟨c', po, m, d, cm', dg', g1, g2, g3, g4, g5, g6, g7, g8, g9⟩ := b
    refine ⟨v, j, Or.inr ⟨e, g2, fun hj => ⟨Nat.zero_le _, g2, _, g3, fun hl => ?_, fun hl q => by omega⟩, fun hj => ⟨_, ⟨by omega, by rw [← hj]; exact g3, ?_⟩, ?_, ?_⟩⟩⟩
    · exact zT_stop hl g8 (fun z => absurd rfl z) (fun _ z => absurd rfl z) (fun _ _ => ⟨g9 hl, fun _ => rfl⟩)
    · unfold zEnd
      rw [if_pos rfl]
      exact ⟨rfl, Nat.le_refl _, rfl⟩
    all_goals
      have hfin : zFin (2, c', po ++ (List.replicate m 58 ++ []), [cm'], dg', 0) = d := by
        show (zCls (zRls 1 (po ++ (List.replicate m 58 ++ [])) c').1 (zRls 1 (po ++ (List.replicate m 58 ++ [])) c').2).2 = d
        rw [zRls_app c' g4 (zTop_rep (Or.inl rfl))]
        show (zCls (List.replicate m 58 ++ []) (zRel po c')).2 = d
        rw [zCls_rep m [] (zRel po c') (Or.inl rfl)]
        show List.replicate m 2063 ++ zRel po c' = d
        rw [g5, List.append_nil]
      rw [hfin]
    · exact g7 []
    · exact g6
  · rw [hS] at e
    exact ⟨v, j, Or.inl ⟨e, zBd_fail b⟩⟩
