theorem yI_yI (S : yS) (o k : Nat) (a b : Int32) : yI (yI S o k a) o k b = yI S o k b := by
  unfold yI
  congr 1
  funext o' k'
  by_cases h : o' = o ∧ k' = k <;> simp [h]
theorem yI_cm (S : yS) {o k o' k' : Nat} (a b : Int32) (h : ¬ (o = o' ∧ k = k')) : yI (yI S o k a) o' k' b = yI (yI S o' k' b) o k a := by
  unfold yI
  congr 1
  funext x y
  show (if x = o' ∧ y = k' then b else if x = o ∧ y = k then a else S.1 x y) = (if x = o ∧ y = k then a else if x = o' ∧ y = k' then b else S.1 x y)
  by_cases h1 : x = o ∧ y = k
  · have h2 : ¬ (x = o' ∧ y = k') := fun q => h ⟨h1.1.symm.trans q.1, h1.2.symm.trans q.2⟩
    rw [if_neg h2, if_pos h1, if_pos h1]
  · rw [if_neg h1, if_neg h1]
theorem yI_self {S : yS} {o k : Nat} {v : Int32} (h : S.1 o k = v) : yI S o k v = S := by
  have e : (fun o' k' => if o' = o ∧ k' = k then v else S.1 o' k') = S.1 := by
    funext x y
    by_cases h1 : x = o ∧ y = k
    · rw [if_pos h1, h1.1, h1.2]
      exact h.symm
    · rw [if_neg h1]
  unfold yI
  rw [e]
/-- the reader's place and fault -/
def rS (S : yS) (i : Nat) (w : Int32) : yS := yI (yI S 8 53 (Int32.ofNat i)) 8 54 w
theorem rS_53 {S : yS} {i j : Nat} {w : Int32} : yI (rS S i w) 8 53 (Int32.ofNat j) = rS S j w := by
  unfold rS
  rw [yI_cm _ _ _ (by decide), yI_yI]
theorem rS_54 {S : yS} {i : Nat} {w v : Int32} : yI (rS S i w) 8 54 v = rS S i v := yI_yI _ _ _ _ _
theorem rS_p {S : yS} {i : Nat} {w : Int32} : (rS S i w).1 8 53 = Int32.ofNat i := rfl
theorem rS_w {S : yS} {i : Nat} {w : Int32} : (rS S i w).1 8 54 = w := rfl
theorem zB {a : Nat} (h : a < 256) : nn (Int32.ofNat a) a := nn_lit a (by omega)
def zH (S : yS) (s : Nat → Nat) (lim : Nat) : Prop := lim ≤ 60 ∧ (∀ i, s i < 256) ∧ ∀ (N i : Nat) (w : Int32), i ≤ lim → f_X12_here N (rS S i w) = some (if i < lim then Int32.ofNat (s i) else -1)
theorem zne {j : Nat} (h : j ≤ 60) : ¬ Int32.ofNat j = -1 := fun e => (nn_lit j (by omega)).nneg (by rw [e]; decide)
theorem z_comes {N lim i c' : Nat} {S : yS} {s : Nat → Nat} {w c : Int32} (h : zH S s lim) (hi : i ≤ lim) (hc : nn c c') : f_X12_comes N (rS S i w) c = if i < lim ∧ s i = c' then some (1, rS S (i + 1) w) else some (0, rS S i w) := by
  simp only [f_X12_comes, f_X12_comes_0, h.2.2 N i w hi, bV_s]
  by_cases h1 : i < lim
  · rw [if_pos h1]
    by_cases h2 : s i = c'
    · rw [if_pos ((nn_eq (zB (h.2.1 i)) hc).mpr h2), if_pos ⟨h1, h2⟩, sq_s, rS_p, y_int1, rS_53]
    · rw [if_neg (fun q => h2 ((nn_eq (zB (h.2.1 i)) hc).mp q)), if_neg (fun q => h2 q.2)]
  · rw [if_neg h1, if_neg (fun q : (-1 : Int32) = c => hc.nneg (by rw [← q]; decide)), if_neg (fun q => h1 q.1)]
theorem z_wrong {N i : Nat} {S : yS} : f_X12_isWrong N (rS S i (-1)) = some (0, rS S i (Int32.ofNat i)) := by
  simp only [f_X12_isWrong, f_X12_isWrong_0, f_X12_isWrong_16]
  rw [if_neg (fun q => q rS_w), sq_s, rS_p, rS_54]
theorem z_digit {N lim i : Nat} {S : yS} {s : Nat → Nat} {w : Int32} (h : zH S s lim) (hi : i ≤ lim) : f_X12_isDigit N (rS S i w) = some (b01 (i < lim ∧ 48 ≤ s i ∧ s i ≤ 57)) := by
  simp only [f_X12_isDigit, f_X12_isDigit_0, f_X12_isDigit_22, f_X12_isDigit_23, h.2.2 N i w hi, bV_s]
  by_cases h1 : i < lim
  · rw [if_pos h1]
    by_cases h2 : s i < 48
    · rw [if_pos ((nn_lt (zB (h.2.1 i)) (nn_l 48 (by decide))).mpr h2), gP_t (Or.inl trivial), b01_f (by omega)]
    · rw [if_neg (fun q => h2 ((nn_lt (zB (h.2.1 i)) (nn_l 48 (by decide))).mp q))]
      by_cases h3 : 57 < s i
      · rw [if_pos ((nn_lt (nn_l 57 (by decide)) (zB (h.2.1 i))).mpr h3), gP_t (Or.inl trivial), b01_f (by omega)]
      · rw [if_neg (fun q => h3 ((nn_lt (nn_l 57 (by decide)) (zB (h.2.1 i))).mp q)), gP_t (Or.inr trivial), b01_t (by omega)]
  · rw [if_neg h1, if_pos (by decide), gP_t (Or.inl trivial), b01_f (fun q => h1 q.1)]
/-! strengths -/
theorem zS_out {x : Nat} (h : 1 ≤ zS x) : x ≤ 126 ∧ ¬ (48 ≤ x ∧ x ≤ 57) ∧ x ≠ 41 ∧ x ≠ 58 ∧ x ≠ 63 ∧ x ≠ 59 := by
  have key : x = 33 ∨ x = 38 ∨ x = 42 ∨ x = 43 ∨ x = 45 ∨ x = 60 ∨ x = 61 ∨ x = 62 ∨ x = 124 ∨ x = 126 := by
    unfold zS at h
    by_cases h1 : x = 33
    · omega
    by_cases h2 : x = 38
    · omega
    by_cases h3 : x = 42
    · omega
    by_cases h4 : x = 43
    · omega
    by_cases h5 : x = 45
    · omega
    by_cases h6 : x = 60
    · omega
    by_cases h7 : x = 61
    · omega
    by_cases h8 : x = 62
    · omega
    by_cases h9 : x = 124
    · omega
    by_cases h10 : x = 126
    · omega
    rw [if_neg h1, if_neg h2, if_neg h3, if_neg h4, if_neg h5, if_neg h6, if_neg h7, if_neg h8, if_neg h9, if_neg h10] at h
    omega
  omega
theorem zS_is {x : Nat} : (zS x = 1 → x = 124) ∧ (zS x = 2 → x = 38) ∧ (zS x = 3 → x = 60 ∨ x = 61 ∨ x = 62) ∧ (zS x = 4 → x = 43 ∨ x = 45) ∧ (zS x = 5 → x = 42) := by
  by_cases h0 : 1 ≤ zS x
  · have h := h0
    unfold zS at h ⊢
    by_cases h1 : x = 33
    · subst h1; decide
    by_cases h2 : x = 38
    · subst h2; decide
    by_cases h3 : x = 42
    · subst h3; decide
    by_cases h4 : x = 43
    · subst h4; decide
    by_cases h5 : x = 45
    · subst h5; decide
    by_cases h6 : x = 60
    · subst h6; decide
    by_cases h7 : x = 61
    · subst h7; decide
    by_cases h8 : x = 62
    · subst h8; decide
    by_cases h9 : x = 124
    · subst h9; decide
    by_cases h10 : x = 126
    · subst h10; decide
    rw [if_neg h1, if_neg h2, if_neg h3, if_neg h4, if_neg h5, if_neg h6, if_neg h7, if_neg h8, if_neg h9, if_neg h10] at h
    omega
  · refine ⟨fun q => ?_, fun q => ?_, fun q => ?_, fun q => ?_, fun q => ?_⟩ <;> omega
theorem zW_op {L : Nat → Int32} {x : Nat} {a b : Int32} {σ : List Int32} (h1 : 1 ≤ zS x) (h5 : zS x ≤ 5) : zW L (2000 + x) (b :: a :: σ) = some (zJ x a b :: σ) := by
  have n33 : x ≠ 33 := fun e => by subst e; revert h5; decide
  have n126 : x ≠ 126 := fun e => by subst e; revert h5; decide
  have n63 := (zS_out h1).2.2.2.2.1
  unfold zW
  rw [if_neg (by omega), if_neg (by omega), if_neg (by omega), if_neg (by omega), if_neg (by omega), show 2000 + x - 2000 = x by omega]
  rfl
def zTop (t : Nat) (H : List Nat) : Prop := H = [] ∨ ∃ p b', H = p :: b' ∧ zS p < t
theorem zT_op {k x : Nat} {c po H : List Nat} {cm : Bool} {cms : List Bool} {dg oc : Nat} (h1 : 1 ≤ zS x) (h5 : zS x ≤ 5) (ha : ∀ p ∈ po, zS x ≤ zS p) (hb : zTop (zS x) H) (h3 : zS x = 3 → cm = false) : zT k (2, c, po ++ H, cm :: cms, dg, oc) x = some (1, zRel po c, x :: H, if zS x ≤ 3 then decide (zS x = 3) :: cms else cm :: cms, dg, oc) := by
  obtain ⟨o1, o2, o3, o4, o5, o6⟩ := zS_out h1
  show zBeh k c (po ++ H) (cm :: cms) dg oc x = _
  unfold zBeh
  rw [if_neg o2, if_neg o3, if_neg (by omega)]
  unfold zOp
  rw [if_neg, zRls_app c ha hb]
  · rfl
  · intro q
    rcases q with q | q | ⟨q, q'⟩
    · omega
    · omega
    · rw [show (cm :: cms).headD false = cm from rfl, h3 q] at q'
      cases q'
/-- what comes next doesn't go on with this -/
def zQ (q : Nat) (s : Nat → Nat) (lim j dg : Nat) (cm : Bool) : Prop := j < lim → (48 ≤ s j ∧ s j ≤ 57 → 3 ≤ dg) ∧ (q ≤ zS (s j) → 1 ≤ zS (s j) → zS (s j) ≤ 5 → zS (s j) = 3 ∧ cm = true)
theorem zT_stop {k lim j : Nat} {s : Nat → Nat} {c h : List Nat} {cm : Bool} {cms : List Bool} {dg oc : Nat} (hj : j < lim) (hq : zQ 1 s lim j dg cm) (h1 : cms ≠ [] → s j ≠ 41) (h2 : cms = [] → k ≠ 2 → s j ≠ 58) (h3 : cms = [] → k = 2 → s j ≠ 63 ∧ (s j = 58 → oc = 0)) : zT k (2, c, h, cm :: cms, dg, oc) (s j) = none := by
  obtain ⟨q1, q2⟩ := hq hj
  show zBeh k c h (cm :: cms) dg oc (s j) = none
  unfold zBeh
  by_cases a1 : 48 ≤ s j ∧ s j ≤ 57
  · rw [if_pos a1, if_pos (q1 a1)]
  rw [if_neg a1]
  have len : (cm :: cms).length ≤ 1 ↔ cms = [] := by
    cases cms with
    | nil => simp
    | cons a b => simp
  by_cases a2 : s j = 41
  · rw [if_pos a2, if_pos (len.mpr (Decidable.byContradiction fun z => h1 z a2))]
  rw [if_neg a2]
  by_cases a3 : s j = 58 ∨ s j = 63
  · rw [if_pos a3]
    by_cases a4 : cms = []
    · rw [if_neg (fun z => z (len.mpr a4))]
      by_cases a5 : k = 2
      · obtain ⟨b1, b2⟩ := h3 a4 a5
        rw [if_pos a5]
        unfold zCho
        rw [if_neg b1, if_pos (b2 (a3.resolve_right b1))]
      · rw [if_neg a5, if_neg (h2 a4 a5)]
    · rw [if_pos (fun z => a4 (len.mp z))]
  rw [if_neg a3]
  unfold zOp
  rw [if_pos]
  show zS (s j) = 0 ∨ 5 < zS (s j) ∨ (zS (s j) = 3 ∧ cm = true)
  by_cases b1 : zS (s j) = 0
  · exact Or.inl b1
  by_cases b2 : 5 < zS (s j)
  · exact Or.inr (Or.inl b2)
  exact Or.inr (Or.inr (q2 (by omega) (by omega) (by omega)))
def zGd (p q k : Nat) (s : Nat → Nat) (lim : Nat) (L : Nat → Int32) (i : Nat) (c H : List Nat) (cm : Bool) (cms : List Bool) (dg oc : Nat) (v : Int32) (j : Nat) : Prop := ∃ (c' po d : List Nat) (cm' : Bool) (dg' : Nat), i < j ∧ j ≤ lim ∧ zG k s i (1, c, H, cm :: cms, dg, oc) j (2, c', po ++ H, cm' :: cms, dg', oc) ∧ (∀ x ∈ po, p ≤ zS x) ∧ zRel po c' = d ++ c ∧ (∀ x ∈ d, x < 3000) ∧ (∀ σ, zX L d σ = some (v :: σ)) ∧ (4 ≤ p → cm' = cm) ∧ zQ q s lim j dg' cm'
def zBd (k : Nat) (s : Nat → Nat) (lim i : Nat) (P : zP) (j : Nat) : Prop := i ≤ j ∧ j ≤ lim ∧ ∃ Q, zG k s i P j Q ∧ (j < lim → zT k Q (s j) = none) ∧ (j = lim → ¬ zEnd k Q)
theorem zBd_tr {k lim i i' j : Nat} {s : Nat → Nat} {P P' : zP} (h : zG k s i P i' P') (hi : i ≤ i') (hb : zBd k s lim i' P' j) : zBd k s lim i P j := by
  obtain ⟨h1, h2, Q, h3, h4, h5⟩ := hb
  exact ⟨by omega, h2, Q, zG_trans h h3, h4, h5⟩
def zEnv (N k : Nat) (s : Nat → Nat) (lim : Nat) (L : Nat → Int32) (S : yS) : Prop := zH S s lim ∧ 60 < N ∧ (S.1 8 55 = if k = 2 then 1 else 2) ∧ ∀ x t, x < 256 → t < 10 → sIdx (if k = 2 then 0 else 1) (Int32.ofNat x) = Int32.ofNat t → L (x - 97) = S.2.1 8 56 t
def zSim (N k : Nat) (s : Nat → Nat) (lim : Nat) (L : Nat → Int32) (S : yS) (n w : Nat) : Prop := ∀ (i : Nat) (c H : List Nat) (cm : Bool) (cms : List Bool) (dg oc : Nat), i ≤ lim → 6 * (lim - i) + 6 - w ≤ n → (w ≤ 2 → cm = false) → (w ≤ 4 → zTop (w + 1) H) → cms.length ≤ i → (∃ v j, f_par N n w (rS S i (-1)) = some (v, rS S j (-1)) ∧ zGd (w + 1) (w + 1) k s lim L i c H cm cms dg oc v j) ∨ (∃ v j, f_par N n w (rS S i (-1)) = some (v, rS S j (Int32.ofNat j)) ∧ zBd k s lim i (1, c, H, cm :: cms, dg, oc) j)
/-- a sign ahead of a thing -/
theorem zGd_un {k lim i j u : Nat} {s : Nat → Nat} {L : Nat → Int32} {c H : List Nat} {cm : Bool} {cms : List Bool} {dg oc : Nat} {v v' : Int32} (hst : zT k (1, c, H, cm :: cms, dg, oc) (s i) = some (1, c, u :: H, cm :: cms, dg, oc)) (hu : 6 ≤ zS u) (hw : ∀ σ, zW L (2000 + u) (v :: σ) = some (v' :: σ)) (h : zGd 6 6 k s lim L (i + 1) c (u :: H) cm cms dg oc v j) : zGd 6 6 k s lim L i c H cm cms dg oc v' j := by
  obtain ⟨c', po, d, cm', dg', h1, h2, h3, h4, h5, h6, h7, h8, h9⟩ := h
  refine ⟨c', po ++ [u], (2000 + u) :: d, cm', dg', by omega, h2, zG_trans (zG_step hst) ?_, ?_, ?_, ?_, ?_, h8, h9⟩
  · rw [List.append_assoc]
    exact h3
  · intro x hx
    rcases List.mem_append.mp hx with q | q
    · exact h4 x q
    · rw [List.mem_singleton.mp q]
      exact hu
  · rw [zRel_app, h5]
    rfl
  · intro x hx
    rcases List.mem_cons.mp hx with q | q
    · have := (zS_out (show 1 ≤ zS u by omega)).1
      omega
    · exact h6 x q
  · intro σ
    show (zX L d σ).bind (zW L (2000 + u)) = _
    rw [h7 σ]
    exact hw σ
/-- an operator and its second thing -/
theorem zGd_bin {k p i j j' lim : Nat} {s : Nat → Nat} {L : Nat → Int32} {c H : List Nat} {cm cm1 : Bool} {cms : List Bool} {dg oc : Nat} {v v2 : Int32} {c' po d : List Nat} {cm' : Bool} {dg' : Nat} (hx1 : 1 ≤ zS (s j)) (hx5 : zS (s j) ≤ 5) (hp : p ≤ zS (s j)) (hij : i < j) (hg : zG k s i (1, c, H, cm :: cms, dg, oc) j (2, c', po ++ H, cm' :: cms, dg', oc)) (hst : zT k (2, c', po ++ H, cm' :: cms, dg', oc) (s j) = some (1, d ++ c, s j :: H, cm1 :: cms, dg', oc)) (hd : ∀ x ∈ d, x < 3000) (hv : ∀ σ, zX L d σ = some (v :: σ)) {q q2 : Nat} (hq2 : p ≤ q2) (hc : 4 ≤ p → 4 ≤ q2 ∧ cm1 = cm) (h : zGd q2 q k s lim L (j + 1) (d ++ c) (s j :: H) cm1 cms dg' oc v2 j') : zGd p q k s lim L i c H cm cms dg oc (zJ (s j) v v2) j' := by
  obtain ⟨c'', po2, d2, cm'', dg'', h1, h2, h3, h4, h5, h6, h7, h8, h9⟩ := h
  refine ⟨c'', po2 ++ [s j], (2000 + s j) :: (d2 ++ d), cm'', dg'', by omega, h2, zG_trans hg (zG_trans (zG_step hst) ?_), ?_, ?_, ?_, ?_, fun z => (h8 (hc z).1).trans (hc z).2, h9⟩
  · rw [List.append_assoc]
    exact h3
  · intro x hx
    rcases List.mem_append.mp hx with z | z
    · have := h4 x z
      omega
    · rw [List.mem_singleton.mp z]
      exact hp
  · rw [zRel_app, h5]
    show (2000 + s j) :: (d2 ++ (d ++ c)) = (2000 + s j) :: (d2 ++ d ++ c)
    rw [List.append_assoc]
  · intro x hx
    rcases List.mem_cons.mp hx with z | z
    · have := (zS_out hx1).1
      omega
    · rcases List.mem_append.mp z with z | z
      · exact h6 x z
      · exact hd x z
  · intro σ
    show (zX L (d2 ++ d) σ).bind (zW L (2000 + s j)) = _
    rw [zX_two hv h7]
    exact zW_op hx1 hx5
