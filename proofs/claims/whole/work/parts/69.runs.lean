/-- of one Texts only its line and its stack change -/
def rF (o : Nat) (S S' : yS) : Prop := (∀ p, p ≠ o → S'.1 p = S.1 p ∧ S'.2.1 p = S.2.1 p) ∧ S'.2.2 = S.2.2 ∧ (∀ k, k ≠ 1 → S'.1 o k = S.1 o k) ∧ ∀ k, k ≠ 7 → S'.2.1 o k = S.2.1 o k
theorem rF_trans {o : Nat} {S S' S'' : yS} (h : rF o S S') (g : rF o S' S'') : rF o S S'' := ⟨fun p hp => ⟨(g.1 p hp).1.trans (h.1 p hp).1, (g.1 p hp).2.trans (h.1 p hp).2⟩, g.2.1.trans h.2.1, fun k hk => (g.2.2.1 k hk).trans (h.2.2.1 k hk), fun k hk => (g.2.2.2 k hk).trans (h.2.2.2 k hk)⟩
theorem rF_A (o : Nat) (S : yS) (A : Nat → Int32) : rF o S (yA S o 7 A) := by
  refine ⟨fun p hp => ⟨rfl, ?_⟩, rfl, fun _ _ => rfl, fun k hk => ?_⟩
  · funext y
    show (if p = o ∧ y = 7 then A else S.2.1 p y) = S.2.1 p y
    rw [if_neg (fun q => hp q.1)]
  · show (if o = o ∧ k = 7 then A else S.2.1 o k) = S.2.1 o k
    rw [if_neg (fun q => hk q.2)]
theorem rF_I (o : Nat) (S : yS) (v : Int32) : rF o S (yI S o 1 v) := by
  refine ⟨fun p hp => ⟨?_, rfl⟩, rfl, fun k hk => ?_, fun _ _ => rfl⟩
  · funext y
    show (if p = o ∧ y = 1 then v else S.1 p y) = S.1 p y
    rw [if_neg (fun q => hp q.1)]
  · show (if o = o ∧ k = 1 then v else S.1 o k) = S.1 o k
    rw [if_neg (fun q => hk q.2)]
/-- codes of a good text -/
def zCk (t : List Nat) : Prop := ∀ x ∈ t, x < 1026 ∨ (2000 ≤ x ∧ x < 2256) ∨ (3000 ≤ x ∧ x < 4000)
theorem zN_cons_w {L : Nat → Int32} {x k : Nat} {d : List Nat} {σ : List Int32} {res : Option (Nat × Nat)} (hx : x < 3000) (h : zN L (x :: d) σ k = some res) : ∃ τ, zW L x σ = some τ ∧ zN L d τ k = some res := by
  have h' : (if x < 3000 then (match zW L x σ with
      | some τ => zN L d τ k
      | none => none) else _) = some res := h
  rw [if_pos hx] at h'
  cases hw : zW L x σ with
  | none => rw [hw] at h'; cases h'
  | some τ => rw [hw] at h'; exact ⟨τ, rfl, h'⟩
theorem zN_a0 {L : Nat → Int32} {x k : Nat} {d : List Nat} (hx : ¬ x < 3000) : zN L (x :: d) [] k = zN L d [] (k + 1) := by
  show (if x < 3000 then _ else zN L d [] (k + 1)) = _
  rw [if_neg hx]
theorem zN_a1 {L : Nat → Int32} {x k : Nat} {d : List Nat} {a : Int32} {σ : List Int32} (hx : ¬ x < 3000) : zN L (x :: d) (a :: σ) k = if a = 0 then zN L d [] (k + 1) else some (some (x - 3000, k)) := by
  show (if x < 3000 then _ else (if a = 0 then zN L d [] (k + 1) else some (some (x - 3000, k)))) = _
  rw [if_neg hx]
theorem r_loop {N r : Nat} {L : Nat → Int32} {rr oth : Int32} (hr : nn rr r) (h20 : r < 20) : ∀ (t p : List Nat) (σ : List Int32) (ln m : Nat) (S : yS) (res : Option (Nat × Nat)), t.length < m → nn (S.2.1 4 5 r) (t.length + p.length) → t.length + p.length ≤ 60 → pLst (fun i => S.2.1 4 6 (r * 60 + i)) (t.reverse ++ p) → zCk t → (∀ y, y < 26 → S.2.1 4 2 y = L y) → pI (S.2.1 4 7) σ → σ.length ≤ p.length → zN L t σ ln = some res → ∃ v S', f_X8r_run_30 m N S rr oth (Int32.ofNat σ.length) (Int32.ofNat ln) (Int32.ofNat p.length) = some (v, S') ∧ rF 4 S S' ∧ ((res = none ∧ v = oth ∧ S'.1 4 1 = S.1 4 1) ∨ (∃ a l, res = some (a, l) ∧ v = Int32.ofNat a ∧ S'.1 4 1 = Int32.ofNat l)) := by
  intro t
  induction t with
  | nil =>
    intro p σ ln m S res hm hn h60 hp hc hL hI hs hz
    obtain ⟨m, rfl⟩ : ∃ m', m = m' + 1 := ⟨m - 1, by omega⟩
    match σ, hz with
    | [], hz =>
      cases hz
      have hn' : nn (S.2.1 4 5 r) p.length := by rw [show p.length = ([] : List Nat).length + p.length from (Nat.zero_add _).symm]; exact hn
      rw [f_X8r_run_30, gA_nn hr h20, if_pos ((nn_le hn' (nn_lit p.length (by have : ([] : List Nat).length + p.length ≤ 60 := h60; omega))).mpr (Nat.le_refl _)), if_pos (by decide)]
      exact ⟨oth, S, rfl, ⟨fun _ _ => ⟨rfl, rfl⟩, rfl, fun _ _ => rfl, fun _ _ => rfl⟩, Or.inl ⟨rfl, rfl, rfl⟩⟩
  | cons x t ih =>
    intro p σ ln m S res hm hn h60 hp hc hL hI hs hz
    have hm' : t.length + 1 < m := hm
    have h60' : t.length + 1 + p.length ≤ 60 := h60
    obtain ⟨m, rfl⟩ : ∃ m', m = m' + 1 := ⟨m - 1, by omega⟩
    rw [List.reverse_cons, List.append_assoc] at hp
    have hp' : pLst (fun i => S.2.1 4 6 (r * 60 + i)) (t.reverse ++ x :: p) := hp
    have hx : S.2.1 4 6 (r * 60 + p.length) = Int32.ofNat x := pLst_mid t.reverse hp'
    have np := nn_lit p.length (by omega)
    have nx : nn (Int32.ofNat x) x := nn_lit x (by have := hc x (List.mem_cons_self ..); omega)
    have ix := nn_add (nn_mul hr (nn_l 60 (by decide)) (by omega)) np (by omega)
    rw [f_X8r_run_30, gA_nn hr h20, if_neg (fun q => by have := (nn_le hn np).mp q; have h0 : (x :: t).length = t.length + 1 := rfl; omega), gA_nn ix (by omega), hx]
    have hl2 : t.length + (x :: p).length = (x :: t).length + p.length := by
      show t.length + (p.length + 1) = t.length + 1 + p.length
      omega
    have hc' : zCk t := fun y hy => hc y (List.mem_cons_of_mem _ hy)
    unfold f_X8r_run_107 f_X8r_run_102
    by_cases c3 : x < 3000
    · obtain ⟨τ, hw, hz'⟩ := zN_cons_w c3 hz
      rw [if_neg (fun q => by have := (nn_le (nn_l 3000 (by decide)) nx).mp q; omega)]
      obtain ⟨A, e1, e2⟩ := w_workr (N := N) (S := S) (by have := hc x (List.mem_cons_self ..); omega) (by have := hc x (List.mem_cons_self ..); omega) hL hI (by omega) hw
      have hlen := zW_len hw
      rw [e1, bS_s, y_int1]
      obtain ⟨v, S', a1, a2, a3⟩ := ih (x :: p) τ ln m (yA S 4 7 A) res (by omega) (by rw [hl2]; exact hn) (by rw [hl2]; exact h60) hp' hc' hL e2 (by show τ.length ≤ p.length + 1; omega) hz'
      exact ⟨v, S', a1, rF_trans (rF_A 4 S A) a2, a3⟩
    · rw [if_pos ((nn_le (nn_l 3000 (by decide)) nx).mpr (by omega))]
      unfold f_X8r_run_107
      have next : zN L t [] (ln + 1) = some res → ∃ v S', f_X8r_run_30 m N S rr oth 0 (Int32.ofNat ln + 1) (Int32.ofNat p.length + 1) = some (v, S') ∧ rF 4 S S' ∧ ((res = none ∧ v = oth ∧ S'.1 4 1 = S.1 4 1) ∨ (∃ a l, res = some (a, l) ∧ v = Int32.ofNat a ∧ S'.1 4 1 = Int32.ofNat l)) := by
        intro hz'
        rw [y_int1, y_int1]
        exact ih (x :: p) [] (ln + 1) m S res (by omega) (by rw [hl2]; exact hn) (by rw [hl2]; exact h60) hp' hc' hL trivial (Nat.zero_le _) hz'
      match σ, hz, hI, hs with
      | [], hz, hI, hs =>
        rw [zN_a0 c3] at hz
        rw [if_pos (by decide)]
        exact next hz
      | a :: σ', hz, hI, hs =>
        have hs' : σ'.length + 1 ≤ p.length := hs
        have nl : nn (Int32.ofNat (a :: σ').length) (σ'.length + 1) := nn_lit _ (by omega)
        have n1 := nn_sub nl (nn_l 1 (by decide)) (by omega)
        rw [if_neg (fun q => by have := (nn_le nl (nn_l 0 (by decide))).mp q; omega), gA_nn n1 (by omega), show S.2.1 4 7 (σ'.length + 1 - 1) = a from hI.1]
        have hz2 := hz
        rw [zN_a1 c3] at hz2
        by_cases z : a = 0
        · rw [if_pos z] at hz2
          rw [if_pos z]
          exact next hz2
        · rw [if_neg z] at hz2
          rw [if_neg z, sq_s]
          cases hz2
          refine ⟨_, _, rfl, rF_I 4 S _, Or.inr ⟨_, _, rfl, (nn_sub nx (nn_l 3000 (by decide)) (by omega)).1, ?_⟩⟩
          exact yI_1s _ _ _ _
theorem r_run {N r cnt : Nat} {L : Nat → Int32} {rr oth : Int32} {S : yS} {cF : List Nat} {res : Option (Nat × Nat)} (hN : 60 < N) (hr : nn rr r) (hcnt : nn (S.1 4 0) cnt) (hrc : r < cnt) (h20 : cnt ≤ 20) (hn : nn (S.2.1 4 5 r) cF.length) (h60 : cF.length ≤ 60) (hp : pLst (fun i => S.2.1 4 6 (r * 60 + i)) cF) (hc : zCk cF) (hL : ∀ y, y < 26 → S.2.1 4 2 y = L y) (hz : zN L cF.reverse [] 0 = some res) : ∃ v S', f_X8r_run N S rr oth = some (v, S') ∧ rF 4 S S' ∧ ((res = none ∧ v = oth ∧ S'.1 4 1 = -2) ∨ (∃ a l, res = some (a, l) ∧ v = Int32.ofNat a ∧ S'.1 4 1 = Int32.ofNat l)) := by
  unfold f_X8r_run f_X8r_run_0
  rw [sq_s, e_within, bV_s, show (yI S 4 1 (-2)).1 4 0 = S.1 4 0 from rfl, b01_t (nn_idx' hcnt hr hrc), if_pos i10]
  have hl : cF.reverse.length = cF.length := List.length_reverse
  obtain ⟨v, S', a1, a2, a3⟩ := r_loop (N := N) (oth := oth) hr (by omega) cF.reverse [] [] 0 N (yI S 4 1 (-2)) res (by omega) (by rw [hl]; exact hn) (by rw [hl]; exact h60) (by rw [List.reverse_reverse, List.append_nil]; exact hp) (fun y hy => hc y (List.mem_reverse.mp hy)) hL trivial (Nat.le_refl _) hz
  exact ⟨v, S', a1, rF_trans (rF_I 4 S _) a2, a3⟩
theorem r_run_no {N : Nat} {S : yS} {rr oth : Int32} (h : ¬ (0 ≤ rr ∧ rr ≤ S.1 4 0 - 1)) : ∃ S', f_X8r_run N S rr oth = some (oth, S') ∧ rF 4 S S' ∧ S'.1 4 1 = -2 := by
  unfold f_X8r_run f_X8r_run_0
  rw [sq_s, e_within, bV_s, show (yI S 4 1 (-2)).1 4 0 = S.1 4 0 from rfl, b01_f h, if_neg (fun q => q rfl)]
  exact ⟨_, rfl, rF_I 4 S _, yI_1s _ _ _ _⟩
theorem l_loop {N r : Nat} {L : Nat → Int32} {rr oth v : Int32} (hr : nn rr r) (h12 : r < 12) : ∀ (t p : List Nat) (σ : List Int32) (m : Nat) (S : yS), t.length < m → nn (S.2.1 5 5 r) (t.length + p.length) → t.length + p.length ≤ 60 → pLst (fun i => S.2.1 5 6 (r * 60 + i)) (t.reverse ++ p) → zCk t → (∀ x ∈ t, x < 3000) → (∀ y, y < 26 → S.2.1 5 2 y = L y) → pI (S.2.1 5 7) σ → σ.length ≤ p.length → zF L t σ = some [v] → ∃ S', f_X8l_run_30 m N S rr oth (Int32.ofNat σ.length) 0 (Int32.ofNat p.length) = some (v, S') ∧ rF 5 S S' := by
  intro t
  induction t with
  | nil =>
    intro p σ m S hm hn h60 hp hc h3 hL hI hs hz
    obtain ⟨m, rfl⟩ : ∃ m', m = m' + 1 := ⟨m - 1, by omega⟩
    cases hz
    have hn' : nn (S.2.1 5 5 r) p.length := by rw [show p.length = ([] : List Nat).length + p.length from (Nat.zero_add _).symm]; exact hn
    rw [show ([v] : List Int32).length = 1 from rfl, f_X8l_run_30, gA_nn hr h12, if_pos ((nn_le hn' (nn_lit p.length (by have : ([] : List Nat).length + p.length ≤ 60 := h60; omega))).mpr (Nat.le_refl _)), if_neg (show ¬ Int32.ofNat 1 ≤ 0 by decide), gA_nn (show nn (Int32.ofNat 1 - 1) 0 from nn_sub (nn_lit 1 (by decide)) (nn_l 1 (by decide)) (by decide)) (by decide), show S.2.1 5 7 0 = v from hI.1]
    exact ⟨S, rfl, ⟨fun _ _ => ⟨rfl, rfl⟩, rfl, fun _ _ => rfl, fun _ _ => rfl⟩⟩
  | cons x t ih =>
    intro p σ m S hm hn h60 hp hc h3 hL hI hs hz
    have hm' : t.length + 1 < m := hm
    have h60' : t.length + 1 + p.length ≤ 60 := h60
    obtain ⟨m, rfl⟩ : ∃ m', m = m' + 1 := ⟨m - 1, by omega⟩
    rw [List.reverse_cons, List.append_assoc] at hp
    have hp' : pLst (fun i => S.2.1 5 6 (r * 60 + i)) (t.reverse ++ x :: p) := hp
    have hx : S.2.1 5 6 (r * 60 + p.length) = Int32.ofNat x := pLst_mid t.reverse hp'
    have np := nn_lit p.length (by omega)
    have x3 := h3 x (List.mem_cons_self ..)
    have nx : nn (Int32.ofNat x) x := nn_lit x (by omega)
    have ix := nn_add (nn_mul hr (nn_l 60 (by decide)) (by omega)) np (by omega)
    rw [f_X8l_run_30, gA_nn hr h12, if_neg (fun q => by have := (nn_le hn np).mp q; have h0 : (x :: t).length = t.length + 1 := rfl; omega), gA_nn ix (by omega), hx, if_neg (fun q => by have := (nn_le (nn_l 3000 (by decide)) nx).mp q; omega)]
    have hl2 : t.length + (x :: p).length = (x :: t).length + p.length := by
      show t.length + (p.length + 1) = t.length + 1 + p.length
      omega
    unfold f_X8l_run_107
    have hz' : (zW L x σ).bind (zF L t) = some [v] := hz
    cases hw : zW L x σ with
    | none => rw [hw] at hz'; cases hz'
    | some τ =>
      rw [hw] at hz'
      obtain ⟨A, e1, e2⟩ := w_workl (N := N) (S := S) (by have := hc x (List.mem_cons_self ..); omega) (by have := hc x (List.mem_cons_self ..); omega) hL hI (by omega) hw
      have hlen := zW_len hw
      rw [e1, bS_s, y_int1]
      obtain ⟨S', a1, a2⟩ := ih (x :: p) τ m (yA S 5 7 A) (by omega) (by rw [hl2]; exact hn) (by rw [hl2]; exact h60) hp' (fun y hy => hc y (List.mem_cons_of_mem _ hy)) (fun y hy => h3 y (List.mem_cons_of_mem _ hy)) hL e2 (by show τ.length ≤ p.length + 1; omega) hz'
      exact ⟨S', a1, rF_trans (rF_A 5 S A) a2⟩
theorem l_run {N r cnt : Nat} {L : Nat → Int32} {rr oth v : Int32} {S : yS} {cF : List Nat} (hN : 60 < N) (hr : nn rr r) (hcnt : nn (S.1 5 0) cnt) (hrc : r < cnt) (h12 : cnt ≤ 12) (hn : nn (S.2.1 5 5 r) cF.length) (h60 : cF.length ≤ 60) (hp : pLst (fun i => S.2.1 5 6 (r * 60 + i)) cF) (hc : zCk cF) (h3 : ∀ x ∈ cF, x < 3000) (hL : ∀ y, y < 26 → S.2.1 5 2 y = L y) (hz : zX L cF [] = some [v]) : ∃ S', f_X8l_run N S rr oth = some (v, S') ∧ rF 5 S S' := by
  unfold f_X8l_run f_X8l_run_0
  rw [sq_s, e_within, bV_s, show (yI S 5 1 (-2)).1 5 0 = S.1 5 0 from rfl, b01_t (nn_idx' hcnt hr hrc), if_pos i10]
  have hl : cF.reverse.length = cF.length := List.length_reverse
  obtain ⟨S', a1, a2⟩ := l_loop (N := N) (oth := oth) hr (by omega) cF.reverse [] [] N (yI S 5 1 (-2)) (by omega) (by rw [hl]; exact hn) (by rw [hl]; exact h60) (by rw [List.reverse_reverse, List.append_nil]; exact hp) (fun y hy => hc y (List.mem_reverse.mp hy)) (fun y hy => h3 y (List.mem_reverse.mp hy)) hL trivial (Nat.le_refl _) (by rw [zF_rev]; exact hz)
  exact ⟨S', a1, rF_trans (rF_I 5 S _) a2⟩
theorem l_run_no {N : Nat} {S : yS} {rr oth : Int32} (h : ¬ (0 ≤ rr ∧ rr ≤ S.1 5 0 - 1)) : ∃ S', f_X8l_run N S rr oth = some (oth, S') ∧ rF 5 S S' := by
  unfold f_X8l_run f_X8l_run_0
  rw [sq_s, e_within, bV_s, show (yI S 5 1 (-2)).1 5 0 = S.1 5 0 from rfl, b01_f h, if_neg (fun q => q rfl)]
  exact ⟨_, rfl, rF_I 5 S _⟩
