/-! THE PARSER'S ROWS AS LISTS -/
def pLst (A : Nat → Int32) : List Nat → Prop
  | [] => True
  | x :: c => A c.length = Int32.ofNat x ∧ pLst A c
def pBol (A : Nat → Int32) : List Bool → Prop
  | [] => True
  | x :: c => A c.length = (if x = true then 1 else 0) ∧ pBol A c
theorem pLst_upd {A : Nat → Int32} {c : List Nat} {k : Nat} (x : Int32) (hk : c.length ≤ k) (h : pLst A c) : pLst (upd A k x) c := by
  induction c with
  | nil => trivial
  | cons y c ih =>
    have hk' : c.length + 1 ≤ k := hk
    refine ⟨?_, ih (by omega) h.2⟩
    rw [upd_o _ _ (by omega)]
    exact h.1
theorem pBol_upd {A : Nat → Int32} {c : List Bool} {k : Nat} (x : Int32) (hk : c.length ≤ k) (h : pBol A c) : pBol (upd A k x) c := by
  induction c with
  | nil => trivial
  | cons y c ih =>
    have hk' : c.length + 1 ≤ k := hk
    refine ⟨?_, ih (by omega) h.2⟩
    rw [upd_o _ _ (by omega)]
    exact h.1
def pC (S : yS) (c : List Nat) : Prop := nn (S.1 7 1) c.length ∧ pLst (S.2.1 7 0) c
def pH (S : yS) (h : List Nat) : Prop := nn (S.1 7 3) h.length ∧ pLst (S.2.1 7 2) h
def pR (k : Nat) (S : yS) (st : Nat) (cm : List Bool) (dg oc : Nat) : Prop := nn (S.1 7 9) st ∧ 1 ≤ cm.length ∧ nn (S.1 7 5) (cm.length - 1) ∧ pBol (S.2.1 7 4) cm ∧ nn (S.1 7 6) dg ∧ nn (S.1 7 7) oc ∧ nn (S.1 7 8) k
/-- nothing but the parser changes -/
def pF (S S' : yS) : Prop := (∀ o, o ≠ 7 → S'.1 o = S.1 o ∧ S'.2.1 o = S.2.1 o) ∧ S'.2.2 = S.2.2
theorem pF_refl (S : yS) : pF S S := ⟨fun _ _ => ⟨rfl, rfl⟩, rfl⟩
theorem pF_trans {S S' S'' : yS} (h : pF S S') (h' : pF S' S'') : pF S S'' := ⟨fun o ho => ⟨(h'.1 o ho).1.trans (h.1 o ho).1, (h'.1 o ho).2.trans (h.1 o ho).2⟩, h'.2.trans h.2⟩
theorem pF_I (S : yS) (k : Nat) (v : Int32) : pF S (yI S 7 k v) := by
  refine ⟨fun o ho => ⟨?_, rfl⟩, rfl⟩
  funext y
  show (if o = 7 ∧ y = k then v else S.1 o y) = S.1 o y
  rw [if_neg (fun q => ho q.1)]
theorem pF_A (S : yS) (k : Nat) (f : Nat → Int32) : pF S (yA S 7 k f) := by
  refine ⟨fun o ho => ⟨rfl, ?_⟩, rfl⟩
  funext y
  show (if o = 7 ∧ y = k then f else S.2.1 o y) = S.2.1 o y
  rw [if_neg (fun q => ho q.1)]
/-- of the parser only codes and held operators change -/
def pG (S S' : yS) : Prop := pF S S' ∧ (∀ k, k ≠ 1 → k ≠ 3 → S'.1 7 k = S.1 7 k) ∧ ∀ k, k ≠ 0 → k ≠ 2 → S'.2.1 7 k = S.2.1 7 k
theorem pG_refl (S : yS) : pG S S := ⟨pF_refl S, fun _ _ _ => rfl, fun _ _ _ => rfl⟩
theorem pG_trans {S S' S'' : yS} (h : pG S S') (h' : pG S' S'') : pG S S'' := ⟨pF_trans h.1 h'.1, fun k a b => (h'.2.1 k a b).trans (h.2.1 k a b), fun k a b => (h'.2.2 k a b).trans (h.2.2 k a b)⟩
theorem pG_I (S : yS) {k : Nat} (v : Int32) (hk : k = 1 ∨ k = 3) : pG S (yI S 7 k v) := by
  refine ⟨pF_I S k v, fun y a b => ?_, fun _ _ _ => rfl⟩
  show (if 7 = 7 ∧ y = k then v else S.1 7 y) = S.1 7 y
  rw [if_neg (by omega)]
theorem pG_A (S : yS) {k : Nat} (f : Nat → Int32) (hk : k = 0 ∨ k = 2) : pG S (yA S 7 k f) := by
  refine ⟨pF_A S k f, fun _ _ _ => rfl, fun y a b => ?_⟩
  show (if 7 = 7 ∧ y = k then f else S.2.1 7 y) = S.2.1 7 y
  rw [if_neg (by omega)]
theorem pR_G {k st dg oc : Nat} {cm : List Bool} {S S' : yS} (h : pR k S st cm dg oc) (g : pG S S') : pR k S' st cm dg oc := by
  unfold pR at h ⊢
  rw [g.2.1 9 (by decide) (by decide), g.2.1 5 (by decide) (by decide), g.2.1 6 (by decide) (by decide), g.2.1 7 (by decide) (by decide), g.2.1 8 (by decide) (by decide), g.2.2 4 (by decide) (by decide)]
  exact h
theorem p_write {N : Nat} {S : yS} {c h : List Nat} {v : Int32} {x : Nat} (hC : pC S c) (hH : pH S h) (hl : c.length < 60) (hv : v = Int32.ofNat x) : ∃ S', f_X4_write N S v = some (0, S') ∧ pC S' (x :: c) ∧ pH S' h ∧ pG S S' := by
  obtain ⟨h1, h2⟩ := hC
  have e : S.1 7 1 + 1 = Int32.ofNat (c.length + 1) := by rw [h1.1]; exact y_int1
  refine ⟨yI (yA S 7 0 (upd (S.2.1 7 0) c.length v)) 7 1 (Int32.ofNat (c.length + 1)), ?_, ⟨nn_lit _ (by omega), ?_⟩, hH, pG_trans (pG_A S _ (Or.inl rfl)) (pG_I _ _ (Or.inl rfl))⟩
  · simp only [f_X4_write, f_X4_write_0, f_X4_write_32]
    rw [if_neg (fun q => by have := (nn_le (nn_lit 60 (by decide)) h1).mp q; omega), gA_nn h1 hl, sq_s, sq_s, yA_1, e]
  · refine ⟨?_, ?_⟩
    · show upd (S.2.1 7 0) c.length v c.length = _
      rw [upd_s, hv]
    · exact pLst_upd _ (Nat.le_refl _) h2
theorem p_hold {N : Nat} {S : yS} {c h : List Nat} {v : Int32} {x : Nat} (hC : pC S c) (hH : pH S h) (hl : h.length < 60) (hv : v = Int32.ofNat x) : ∃ S', f_X4_hold N S v = some (0, S') ∧ pC S' c ∧ pH S' (x :: h) ∧ pG S S' := by
  obtain ⟨h1, h2⟩ := hH
  have e : S.1 7 3 + 1 = Int32.ofNat (h.length + 1) := by rw [h1.1]; exact y_int1
  refine ⟨yI (yA S 7 2 (upd (S.2.1 7 2) h.length v)) 7 3 (Int32.ofNat (h.length + 1)), ?_, hC, ⟨nn_lit _ (by omega), ?_⟩, pG_trans (pG_A S _ (Or.inr rfl)) (pG_I _ _ (Or.inr rfl))⟩
  · simp only [f_X4_hold, f_X4_hold_0, f_X4_hold_32]
    rw [if_neg (fun q => by have := (nn_le (nn_lit 60 (by decide)) h1).mp q; omega), gA_nn h1 hl, sq_s, sq_s, yA_1, e]
  · refine ⟨?_, ?_⟩
    · show upd (S.2.1 7 2) h.length v h.length = _
      rw [upd_s, hv]
    · exact pLst_upd _ (Nat.le_refl _) h2
theorem p_drop {N : Nat} {S : yS} {c h : List Nat} (hC : pC S c) (hH : pH S h) : ∃ S', f_X4_drop N S = some (0, S') ∧ pC S' c ∧ pH S' h.tail ∧ pG S S' := by
  obtain ⟨h1, h2⟩ := hH
  simp only [f_X4_drop, f_X4_drop_0, f_X4_drop_17]
  cases h with
  | nil =>
    rw [if_pos ((nn_le h1 (nn_l 0 (by decide))).mpr (Nat.le_refl _))]
    exact ⟨S, rfl, hC, ⟨h1, h2⟩, pG_refl S⟩
  | cons p h =>
    have e := nn_sub h1 (nn_l 1 (by decide)) (Nat.succ_le_succ (Nat.zero_le _))
    rw [if_neg (fun q => by have := (nn_le h1 (nn_l 0 (by decide))).mp q; simp at this), sq_s]
    refine ⟨_, rfl, hC, ⟨e, h2.2⟩, pG_I _ _ (Or.inr rfl)⟩
set_option maxRecDepth 20000 in
theorem p_strB : ∀ x, x < 256 → f_X4_strengthOf_0 0 ((fun _ _ => 0, fun _ _ _ => 0, fun _ _ _ => 0) : yS) (Int32.ofNat x) = some (Int32.ofNat (zS x)) := by decide +kernel
theorem p_str {N x : Nat} {S : yS} (hx : x < 256) : f_X4_strengthOf N S (Int32.ofNat x) = some (Int32.ofNat (zS x)) := p_strB x hx
theorem zS_6 (x : Nat) : zS x ≤ 6 := by
  unfold zS
  repeat' split
  all_goals omega
theorem zRls_len (t : Nat) (h c : List Nat) : (zRls t h c).1.length + (zRls t h c).2.length = h.length + c.length := by
  induction h generalizing c with
  | nil => rfl
  | cons p h ih =>
    show (if zS p < t then (p :: h, c) else zRls t h ((2000 + p) :: c)).1.length + (if zS p < t then (p :: h, c) else zRls t h ((2000 + p) :: c)).2.length = _
    by_cases z : zS p < t
    · rw [if_pos z]
    · rw [if_neg z, ih]
      show h.length + (c.length + 1) = h.length + 1 + c.length
      omega
theorem zRls_mem (t : Nat) (h c : List Nat) : (∀ x ∈ (zRls t h c).1, x ∈ h) ∧ ∀ x ∈ (zRls t h c).2, x ∈ c ∨ ∃ p ∈ h, x = 2000 + p := by
  induction h generalizing c with
  | nil => exact ⟨fun x hx => hx, fun x hx => Or.inl hx⟩
  | cons p h ih =>
    show (∀ x ∈ (if zS p < t then (p :: h, c) else zRls t h ((2000 + p) :: c)).1, x ∈ p :: h) ∧ ∀ x ∈ (if zS p < t then (p :: h, c) else zRls t h ((2000 + p) :: c)).2, x ∈ c ∨ ∃ q ∈ p :: h, x = 2000 + q
    by_cases z : zS p < t
    · rw [if_pos z]
      exact ⟨fun x hx => hx, fun x hx => Or.inl hx⟩
    · rw [if_neg z]
      obtain ⟨a, b⟩ := ih ((2000 + p) :: c)
      refine ⟨fun x hx => List.mem_cons_of_mem _ (a x hx), fun x hx => ?_⟩
      rcases b x hx with q | ⟨q, q1, q2⟩
      · rcases List.mem_cons.mp q with q | q
        · exact Or.inr ⟨p, List.mem_cons_self .., q⟩
        · exact Or.inl q
      · exact Or.inr ⟨q, List.mem_cons_of_mem _ q1, q2⟩
theorem zCls_len (h c : List Nat) : (zCls h c).1.length + (zCls h c).2.length = h.length + c.length := by
  induction h generalizing c with
  | nil => rfl
  | cons p h ih =>
    show (if p = 58 then zCls h (2063 :: c) else (p :: h, c)).1.length + (if p = 58 then zCls h (2063 :: c) else (p :: h, c)).2.length = _
    by_cases z : p = 58
    · rw [if_pos z, ih]
      show h.length + (c.length + 1) = h.length + 1 + c.length
      omega
    · rw [if_neg z]
theorem zCls_mem (h c : List Nat) : (∀ x ∈ (zCls h c).1, x ∈ h) ∧ ∀ x ∈ (zCls h c).2, x ∈ c ∨ x = 2063 := by
  induction h generalizing c with
  | nil => exact ⟨fun x hx => hx, fun x hx => Or.inl hx⟩
  | cons p h ih =>
    show (∀ x ∈ (if p = 58 then zCls h (2063 :: c) else (p :: h, c)).1, x ∈ p :: h) ∧ ∀ x ∈ (if p = 58 then zCls h (2063 :: c) else (p :: h, c)).2, x ∈ c ∨ x = 2063
    by_cases z : p = 58
    · rw [if_pos z]
      obtain ⟨a, b⟩ := ih (2063 :: c)
      refine ⟨fun x hx => List.mem_cons_of_mem _ (a x hx), fun x hx => ?_⟩
      rcases b x hx with q | q
      · rcases List.mem_cons.mp q with q | q
        · exact Or.inr q
        · exact Or.inl q
      · exact Or.inr q
    · rw [if_neg z]
      exact ⟨fun x hx => hx, fun x hx => Or.inl hx⟩
theorem p_i1 (n : Nat) : Int32.ofNat (n + 1) - 1 = Int32.ofNat n := by
  rw [← y_int1]
  exact Int32.add_sub_cancel _ _
theorem p_m1 (x : Int32) : x + (-1) = x - 1 := (Int32.sub_eq_add_neg x 1).symm
theorem p_release {N t : Nat} (tt : Int32) (ht : nn tt t) : ∀ (h c : List Nat) (n : Nat) (S : yS), pC S c → pH S h → c.length + h.length ≤ 60 → (∀ p ∈ h, p < 256) → h.length < n → ∃ S', f_X4_releaseDownTo_7 n N S tt (Int32.ofNat h.length - 1) = some (0, S') ∧ pC S' (zRls t h c).2 ∧ pH S' (zRls t h c).1 ∧ pG S S' := by
  intro h
  induction h with
  | nil =>
    intro c n S hC hH hl hp hn
    obtain ⟨n, rfl⟩ : ∃ n', n = n' + 1 := ⟨n - 1, by omega⟩
    rw [f_X4_releaseDownTo_7, if_pos (by decide)]
    exact ⟨S, rfl, hC, hH, pG_refl S⟩
  | cons p h ih =>
    intro c n S hC hH hl hp hn
    have hl' : c.length + (h.length + 1) ≤ 60 := hl
    have hn' : h.length + 1 < n := hn
    obtain ⟨n, rfl⟩ : ∃ n', n = n' + 1 := ⟨n - 1, by omega⟩
    have np := hp p (List.mem_cons_self ..)
    have ni := nn_lit h.length (by omega)
    rw [show (p :: h).length = h.length + 1 from rfl, p_i1, f_X4_releaseDownTo_7, if_neg ni.nneg, gA_nn ni (by omega), hH.2.1, p_str np, bV_s]
    show ∃ S', _ ∧ pC S' (if zS p < t then (p :: h, c) else zRls t h ((2000 + p) :: c)).2 ∧ pH S' (if zS p < t then (p :: h, c) else zRls t h ((2000 + p) :: c)).1 ∧ _
    have ns := zS_6 p
    by_cases z : zS p < t
    · rw [if_pos ((nn_lt (nn_lit (zS p) (by omega)) ht).mpr z), if_pos z]
      exact ⟨S, rfl, hC, hH, pG_refl S⟩
    · rw [if_neg (fun q => z ((nn_lt (nn_lit (zS p) (by omega)) ht).mp q)), if_neg z, gA_nn ni (by omega), hH.2.1]
      have e := (nn_add (nn_l 2000 (by decide)) (zB np) (by omega)).1
      obtain ⟨S1, e1, c1, h1, g1⟩ := p_write (N := N) (x := 2000 + p) hC hH (by omega) e
      rw [e1, bS_s, sq_s, p_m1]
      have g2 := pG_I S1 (k := 3) (Int32.ofNat h.length) (Or.inr rfl)
      have h2 : pH (yI S1 7 3 (Int32.ofNat h.length)) h := ⟨ni, h1.2.2⟩
      obtain ⟨S', a1, a2, a3, a4⟩ := ih ((2000 + p) :: c) n (yI S1 7 3 (Int32.ofNat h.length)) c1 h2 (by show c.length + 1 + h.length ≤ 60; omega) (fun q hq => hp q (List.mem_cons_of_mem _ hq)) (by omega)
      exact ⟨S', a1, a2, a3, pG_trans g1 (pG_trans g2 a4)⟩
theorem p_closes {N : Nat} : ∀ (h c : List Nat) (n : Nat) (S : yS), pC S c → pH S h → c.length + h.length ≤ 60 → (∀ p ∈ h, p < 256) → h.length < n → ∃ S', f_X4_closeChoices_7 n N S (Int32.ofNat h.length - 1) = some (0, S') ∧ pC S' (zCls h c).2 ∧ pH S' (zCls h c).1 ∧ pG S S' := by
  intro h
  induction h with
  | nil =>
    intro c n S hC hH hl hp hn
    obtain ⟨n, rfl⟩ : ∃ n', n = n' + 1 := ⟨n - 1, by omega⟩
    rw [f_X4_closeChoices_7, if_pos (by decide)]
    exact ⟨S, rfl, hC, hH, pG_refl S⟩
  | cons p h ih =>
    intro c n S hC hH hl hp hn
    have hl' : c.length + (h.length + 1) ≤ 60 := hl
    have hn' : h.length + 1 < n := hn
    obtain ⟨n, rfl⟩ : ∃ n', n = n' + 1 := ⟨n - 1, by omega⟩
    have np := hp p (List.mem_cons_self ..)
    have ni := nn_lit h.length (by omega)
    rw [show (p :: h).length = h.length + 1 from rfl, p_i1, f_X4_closeChoices_7, if_neg ni.nneg, gA_nn ni (by omega), hH.2.1]
    show ∃ S', _ ∧ pC S' (if p = 58 then zCls h (2063 :: c) else (p :: h, c)).2 ∧ pH S' (if p = 58 then zCls h (2063 :: c) else (p :: h, c)).1 ∧ _
    by_cases z : p = 58
    · rw [if_neg (fun q => q ((nn_eq (zB np) (nn_l 58 (by decide))).mpr z)), if_pos z]
      obtain ⟨S1, e1, c1, h1, g1⟩ := p_write (N := N) (x := 2063) (v := 2063) hC hH (by omega) rfl
      rw [e1, bS_s, sq_s, p_m1]
      have g2 := pG_I S1 (k := 3) (Int32.ofNat h.length) (Or.inr rfl)
      have h2 : pH (yI S1 7 3 (Int32.ofNat h.length)) h := ⟨ni, h1.2.2⟩
      obtain ⟨S', a1, a2, a3, a4⟩ := ih (2063 :: c) n (yI S1 7 3 (Int32.ofNat h.length)) c1 h2 (by show c.length + 1 + h.length ≤ 60; omega) (fun q hq => hp q (List.mem_cons_of_mem _ hq)) (by omega)
      exact ⟨S', a1, a2, a3, pG_trans g1 (pG_trans g2 a4)⟩
    · rw [if_pos (fun q => z ((nn_eq (zB np) (nn_l 58 (by decide))).mp q)), if_neg z]
      exact ⟨S, rfl, hC, hH, pG_refl S⟩
theorem p_rel {N t : Nat} {tt : Int32} (ht : nn tt t) {h c : List Nat} {S : yS} (hN : 60 < N) (hC : pC S c) (hH : pH S h) (hl : c.length + h.length ≤ 60) (hp : ∀ p ∈ h, p < 256) : ∃ S', f_X4_releaseDownTo N S tt = some (0, S') ∧ pC S' (zRls t h c).2 ∧ pH S' (zRls t h c).1 ∧ pG S S' := by
  simp only [f_X4_releaseDownTo, f_X4_releaseDownTo_0]
  rw [hH.1.1]
  exact p_release tt ht h c N S hC hH hl hp (by omega)
theorem p_cls {N : Nat} {h c : List Nat} {S : yS} (hN : 60 < N) (hC : pC S c) (hH : pH S h) (hl : c.length + h.length ≤ 60) (hp : ∀ p ∈ h, p < 256) : ∃ S', f_X4_closeChoices N S = some (0, S') ∧ pC S' (zCls h c).2 ∧ pH S' (zCls h c).1 ∧ pG S S' := by
  simp only [f_X4_closeChoices, f_X4_closeChoices_0]
  rw [hH.1.1]
  exact p_closes h c N S hC hH hl hp (by omega)
