theorem yRow_in {c k : Nat} {q : Nat × Nat} (h : yRow c k = some q) : (k, q.1, q.2) ∈ yTab c := by
  unfold yRow at h
  split at h
  · next p hp =>
    cases h
    have h1 := List.mem_of_find?_eq_some hp
    have h2 := List.find?_some hp
    have h3 : p.1 = k := by simpa using h2
    rw [← h3]
    exact h1
  · cases h
/-- addresses out of a table -/
def yAd (l : List (Nat × Nat × Nat)) (c o j : Nat) : Nat := match l.find? (fun q => q.1 == o && q.2.1 == j) with
  | some q => c + q.2.2
  | none => 0
theorem yAd_inj {l : List (Nat × Nat × Nat)} (h : ∀ p ∈ l, ∀ q ∈ l, p.2.2 = q.2.2 → p = q) {c o j o' j' n n' : Nat} (h1 : (o, j, n) ∈ l) (h2 : (o', j', n') ∈ l) (e : c + n = c + n') : o = o' ∧ j = j' := by
  have := h _ h1 _ h2 (by simp only []; omega)
  simp only [Prod.mk.injEq] at this
  exact ⟨this.1, this.2.1⟩
def yL0c : List (Nat × Nat × Nat) := [(0, 0, 0), (0, 5, 48), (0, 6, 49), (0, 8, 50), (1, 0, 1), (1, 1, 2), (1, 2, 3), (1, 3, 4), (1, 5, 5), (1, 8, 6), (1, 9, 7), (1, 10, 8), (1, 11, 9), (1, 12, 10), (2, 0, 11), (2, 5, 34), (2, 7, 35), (2, 9, 36), (2, 11, 37), (2, 12, 38), (3, 0, 12), (3, 3, 13), (3, 4, 14), (3, 5, 15), (3, 6, 16), (3, 7, 17), (3, 8, 18), (3, 9, 19), (4, 0, 20), (4, 3, 21), (4, 4, 23), (4, 5, 24), (4, 6, 25), (4, 7, 26), (4, 8, 22), (5, 0, 27), (5, 3, 28), (5, 4, 30), (5, 5, 31), (5, 6, 32), (5, 7, 33), (5, 8, 29), (6, 0, 39), (6, 1, 40), (6, 2, 41), (6, 4, 42), (6, 5, 43), (7, 0, 44), (7, 1, 45), (7, 3, 46), (7, 5, 47)]
theorem yL0c_inj : ∀ p ∈ yL0c, ∀ q ∈ yL0c, p.2.2 = q.2.2 → p = q := by decide +kernel
theorem yL0c_lt : ∀ p ∈ yL0c, p.2.2 < 51 := by decide +kernel
def yT0c (c : Nat) : yT := (fun o => decide (o < 8), yAd yL0c c, c + 51, 0)
def yS0c : yS := (fun o k => if o = 2 ∧ k = 15 then 6 else if o = 2 ∧ k = 16 then 1 else if o = 3 ∧ k = 0 then 4 else if o = 4 ∧ k = 1 then (-2) else if o = 5 ∧ k = 1 then (-2) else 0, fun o k => if o = 1 ∧ k = 7 then (fun x => if x < 64 then yLd x else 0) else fun _ => 0, fun _ _ _ => 0)
theorem yH0c {o j : Nat} (ho : o < 8) (h : yHas o j) : ∃ n, (o, j, n) ∈ yL0c := by
  have ho2 : o = 0 ∨ o = 1 ∨ o = 2 ∨ o = 3 ∨ o = 4 ∨ o = 5 ∨ o = 6 ∨ o = 7 := by omega
  rcases ho2 with rfl | rfl | rfl | rfl | rfl | rfl | rfl | rfl
  · cases j with
    | zero => exact ⟨0, by decide +kernel⟩
    | succ k =>
      obtain ⟨q, hq⟩ := Option.isSome_iff_exists.mp (show (yRow 11 k).isSome = true from h)
      have h2 := yRow_in hq
      simp only [yTab, List.mem_cons, List.not_mem_nil, or_false, Prod.mk.injEq] at h2
      rcases h2 with ⟨rfl, -, -⟩ | ⟨rfl, -, -⟩ | ⟨rfl, -, -⟩
      · exact ⟨48, by decide +kernel⟩
      · exact ⟨49, by decide +kernel⟩
      · exact ⟨50, by decide +kernel⟩
  · cases j with
    | zero => exact ⟨1, by decide +kernel⟩
    | succ k =>
      obtain ⟨q, hq⟩ := Option.isSome_iff_exists.mp (show (yRow 2 k).isSome = true from h)
      have h2 := yRow_in hq
      simp only [yTab, List.mem_cons, List.not_mem_nil, or_false, Prod.mk.injEq] at h2
      rcases h2 with ⟨rfl, -, -⟩ | ⟨rfl, -, -⟩ | ⟨rfl, -, -⟩ | ⟨rfl, -, -⟩ | ⟨rfl, -, -⟩ | ⟨rfl, -, -⟩ | ⟨rfl, -, -⟩ | ⟨rfl, -, -⟩ | ⟨rfl, -, -⟩
      · exact ⟨2, by decide +kernel⟩
      · exact ⟨3, by decide +kernel⟩
      · exact ⟨4, by decide +kernel⟩
      · exact ⟨5, by decide +kernel⟩
      · exact ⟨6, by decide +kernel⟩
      · exact ⟨7, by decide +kernel⟩
      · exact ⟨8, by decide +kernel⟩
      · exact ⟨9, by decide +kernel⟩
      · exact ⟨10, by decide +kernel⟩
  · cases j with
    | zero => exact ⟨11, by decide +kernel⟩
    | succ k =>
      obtain ⟨q, hq⟩ := Option.isSome_iff_exists.mp (show (yRow 10 k).isSome = true from h)
      have h2 := yRow_in hq
      simp only [yTab, List.mem_cons, List.not_mem_nil, or_false, Prod.mk.injEq] at h2
      rcases h2 with ⟨rfl, -, -⟩ | ⟨rfl, -, -⟩ | ⟨rfl, -, -⟩ | ⟨rfl, -, -⟩ | ⟨rfl, -, -⟩
      · exact ⟨34, by decide +kernel⟩
      · exact ⟨35, by decide +kernel⟩
      · exact ⟨36, by decide +kernel⟩
      · exact ⟨37, by decide +kernel⟩
      · exact ⟨38, by decide +kernel⟩
  · cases j with
    | zero => exact ⟨12, by decide +kernel⟩
    | succ k =>
      obtain ⟨q, hq⟩ := Option.isSome_iff_exists.mp (show (yRow 9 k).isSome = true from h)
      have h2 := yRow_in hq
      simp only [yTab, List.mem_cons, List.not_mem_nil, or_false, Prod.mk.injEq] at h2
      rcases h2 with ⟨rfl, -, -⟩ | ⟨rfl, -, -⟩ | ⟨rfl, -, -⟩ | ⟨rfl, -, -⟩ | ⟨rfl, -, -⟩ | ⟨rfl, -, -⟩ | ⟨rfl, -, -⟩
      · exact ⟨13, by decide +kernel⟩
      · exact ⟨14, by decide +kernel⟩
      · exact ⟨15, by decide +kernel⟩
      · exact ⟨16, by decide +kernel⟩
      · exact ⟨17, by decide +kernel⟩
      · exact ⟨18, by decide +kernel⟩
      · exact ⟨19, by decide +kernel⟩
  · cases j with
    | zero => exact ⟨20, by decide +kernel⟩
    | succ k =>
      obtain ⟨q, hq⟩ := Option.isSome_iff_exists.mp (show (yRow 14 k).isSome = true from h)
      have h2 := yRow_in hq
      simp only [yTab, List.mem_cons, List.not_mem_nil, or_false, Prod.mk.injEq] at h2
      rcases h2 with ⟨rfl, -, -⟩ | ⟨rfl, -, -⟩ | ⟨rfl, -, -⟩ | ⟨rfl, -, -⟩ | ⟨rfl, -, -⟩ | ⟨rfl, -, -⟩
      · exact ⟨21, by decide +kernel⟩
      · exact ⟨23, by decide +kernel⟩
      · exact ⟨24, by decide +kernel⟩
      · exact ⟨25, by decide +kernel⟩
      · exact ⟨26, by decide +kernel⟩
      · exact ⟨22, by decide +kernel⟩
  · cases j with
    | zero => exact ⟨27, by decide +kernel⟩
    | succ k =>
      obtain ⟨q, hq⟩ := Option.isSome_iff_exists.mp (show (yRow 8 k).isSome = true from h)
      have h2 := yRow_in hq
      simp only [yTab, List.mem_cons, List.not_mem_nil, or_false, Prod.mk.injEq] at h2
      rcases h2 with ⟨rfl, -, -⟩ | ⟨rfl, -, -⟩ | ⟨rfl, -, -⟩ | ⟨rfl, -, -⟩ | ⟨rfl, -, -⟩ | ⟨rfl, -, -⟩
      · exact ⟨28, by decide +kernel⟩
      · exact ⟨30, by decide +kernel⟩
      · exact ⟨31, by decide +kernel⟩
      · exact ⟨32, by decide +kernel⟩
      · exact ⟨33, by decide +kernel⟩
      · exact ⟨29, by decide +kernel⟩
  · cases j with
    | zero => exact ⟨39, by decide +kernel⟩
    | succ k =>
      obtain ⟨q, hq⟩ := Option.isSome_iff_exists.mp (show (yRow 7 k).isSome = true from h)
      have h2 := yRow_in hq
      simp only [yTab, List.mem_cons, List.not_mem_nil, or_false, Prod.mk.injEq] at h2
      rcases h2 with ⟨rfl, -, -⟩ | ⟨rfl, -, -⟩ | ⟨rfl, -, -⟩ | ⟨rfl, -, -⟩
      · exact ⟨40, by decide +kernel⟩
      · exact ⟨41, by decide +kernel⟩
      · exact ⟨42, by decide +kernel⟩
      · exact ⟨43, by decide +kernel⟩
  · cases j with
    | zero => exact ⟨44, by decide +kernel⟩
    | succ k =>
      obtain ⟨q, hq⟩ := Option.isSome_iff_exists.mp (show (yRow 4 k).isSome = true from h)
      have h2 := yRow_in hq
      simp only [yTab, List.mem_cons, List.not_mem_nil, or_false, Prod.mk.injEq] at h2
      rcases h2 with ⟨rfl, -, -⟩ | ⟨rfl, -, -⟩ | ⟨rfl, -, -⟩
      · exact ⟨45, by decide +kernel⟩
      · exact ⟨46, by decide +kernel⟩
      · exact ⟨47, by decide +kernel⟩
set_option maxHeartbeats 4000000 in
theorem c0c {F : xH} {ev : xEv} {hp : xH} {c : Nat} (hO : hp (c) = some (.inr (11, [.ref (c + 1 + 0), .ref (c + 1 + 10), .ref (c + 1 + 38), .ref (c + 1 + 43), .ref (c + 1 + 47), .ref (c + 1 + 48), .int 0, .ref (c + 1 + 49), .int 0]))) (hc0 : hp (c + 1 + 0) = some (.inr (2, [.ref (c + 1 + 1), .ref (c + 1 + 2), .ref (c + 1 + 3), .int 0, .ref (c + 1 + 4), .int 0, .int 0, .ref (c + 1 + 5), .ref (c + 1 + 6), .ref (c + 1 + 7), .ref (c + 1 + 8), .ref (c + 1 + 9)]))) (hc1 : hp (c + 1 + 1) = some (.inl (ev.1 0, 8, .inl (fun _ => 0)))) (hc2 : hp (c + 1 + 2) = some (.inl (ev.1 2, 8, .inl (fun _ => 0)))) (hc3 : hp (c + 1 + 3) = some (.inl (ev.1 0, 8, .inl (fun _ => 0)))) (hc4 : hp (c + 1 + 4) = some (.inl (ev.1 4, 12, .inr (.inr (.inr (.inr (fun _ => none))))))) (hc5 : hp (c + 1 + 5) = some (.inl (ev.1 0, 64, .inl (fun x => if x < 64 then yLd x else 0)))) (hc6 : hp (c + 1 + 6) = some (.inl (ev.1 0, 60, .inl (fun _ => 0)))) (hc7 : hp (c + 1 + 7) = some (.inl (ev.1 0, 60, .inl (fun _ => 0)))) (hc8 : hp (c + 1 + 8) = some (.inl (ev.1 0, 60, .inl (fun _ => 0)))) (hc9 : hp (c + 1 + 9) = some (.inl (ev.1 0, 60, .inl (fun _ => 0)))) (hc10 : hp (c + 1 + 10) = some (.inr (10, [.ref (c + 1 + 0), .ref (c + 1 + 11), .ref (c + 1 + 19), .ref (c + 1 + 26), .ref (c + 1 + 33), .int 0, .ref (c + 1 + 34), .int 0, .ref (c + 1 + 35), .int 0, .ref (c + 1 + 36), .ref (c + 1 + 37), .int 0, .int 0, .int 0, .int 6, .int 1, .int 0, .int 0, .int 0]))) (hc11 : hp (c + 1 + 11) = some (.inr (9, [.int 4, .int 0, .ref (c + 1 + 12), .ref (c + 1 + 13), .ref (c + 1 + 14), .ref (c + 1 + 15), .ref (c + 1 + 16), .ref (c + 1 + 17), .ref (c + 1 + 18)]))) (hc12 : hp (c + 1 + 12) = some (.inl (ev.1 0, 120, .inl (fun _ => 0)))) (hc13 : hp (c + 1 + 13) = some (.inl (ev.1 0, 120, .inl (fun _ => 0)))) (hc14 : hp (c + 1 + 14) = some (.inl (ev.1 0, 120, .inl (fun _ => 0)))) (hc15 : hp (c + 1 + 15) = some (.inl (ev.1 0, 120, .inl (fun _ => 0)))) (hc16 : hp (c + 1 + 16) = some (.inl (ev.1 0, 120, .inl (fun _ => 0)))) (hc17 : hp (c + 1 + 17) = some (.inl (ev.1 0, 120, .inl (fun _ => 0)))) (hc18 : hp (c + 1 + 18) = some (.inl (ev.1 0, 120, .inl (fun _ => 0)))) (hc19 : hp (c + 1 + 19) = some (.inr (8, [.int 0, .int (-2), .ref (c + 1 + 20), .ref (c + 1 + 22), .ref (c + 1 + 23), .ref (c + 1 + 24), .ref (c + 1 + 25), .ref (c + 1 + 21)]))) (hc20 : hp (c + 1 + 20) = some (.inl (ev.1 0, 26, .inl (fun _ => 0)))) (hc21 : hp (c + 1 + 21) = some (.inl (ev.1 0, 60, .inl (fun _ => 0)))) (hc22 : hp (c + 1 + 22) = some (.inl (ev.1 0, 20, .inl (fun _ => 0)))) (hc23 : hp (c + 1 + 23) = some (.inl (ev.1 0, 20, .inl (fun _ => 0)))) (hc24 : hp (c + 1 + 24) = some (.inl (ev.1 0, 20, .inl (fun _ => 0)))) (hc25 : hp (c + 1 + 25) = some (.inl (ev.1 0, 1200, .inl (fun _ => 0)))) (hc26 : hp (c + 1 + 26) = some (.inr (8, [.int 0, .int (-2), .ref (c + 1 + 27), .ref (c + 1 + 29), .ref (c + 1 + 30), .ref (c + 1 + 31), .ref (c + 1 + 32), .ref (c + 1 + 28)]))) (hc27 : hp (c + 1 + 27) = some (.inl (ev.1 0, 26, .inl (fun _ => 0)))) (hc28 : hp (c + 1 + 28) = some (.inl (ev.1 0, 60, .inl (fun _ => 0)))) (hc29 : hp (c + 1 + 29) = some (.inl (ev.1 0, 12, .inl (fun _ => 0)))) (hc30 : hp (c + 1 + 30) = some (.inl (ev.1 0, 12, .inl (fun _ => 0)))) (hc31 : hp (c + 1 + 31) = some (.inl (ev.1 0, 12, .inl (fun _ => 0)))) (hc32 : hp (c + 1 + 32) = some (.inl (ev.1 0, 720, .inl (fun _ => 0)))) (hc33 : hp (c + 1 + 33) = some (.inl (ev.1 5, 8, .inr (.inr (.inr (.inr (fun _ => none))))))) (hc34 : hp (c + 1 + 34) = some (.inl (ev.1 6, 8, .inr (.inr (.inr (.inr (fun _ => none))))))) (hc35 : hp (c + 1 + 35) = some (.inl (ev.1 7, 30, .inr (.inr (.inr (.inr (fun _ => none))))))) (hc36 : hp (c + 1 + 36) = some (.inl (ev.1 0, 30, .inl (fun _ => 0)))) (hc37 : hp (c + 1 + 37) = some (.inl (ev.1 8, 24, .inr (.inr (.inr (.inr (fun _ => none))))))) (hc38 : hp (c + 1 + 38) = some (.inr (7, [.ref (c + 1 + 39), .ref (c + 1 + 40), .int 0, .ref (c + 1 + 41), .ref (c + 1 + 42)]))) (hc39 : hp (c + 1 + 39) = some (.inl (ev.1 0, 8, .inl (fun _ => 0)))) (hc40 : hp (c + 1 + 40) = some (.inl (ev.1 0, 8, .inl (fun _ => 0)))) (hc41 : hp (c + 1 + 41) = some (.inl (ev.1 1, 8, .inr (.inl (fun _ => 0))))) (hc42 : hp (c + 1 + 42) = some (.inl (ev.1 1, 256, .inr (.inl (fun _ => 0))))) (hc43 : hp (c + 1 + 43) = some (.inr (4, [.ref (c + 1 + 44), .int 0, .ref (c + 1 + 45), .int 0, .ref (c + 1 + 46), .int 0, .int 0, .int 0, .int 0, .int 0]))) (hc44 : hp (c + 1 + 44) = some (.inl (ev.1 0, 60, .inl (fun _ => 0)))) (hc45 : hp (c + 1 + 45) = some (.inl (ev.1 0, 60, .inl (fun _ => 0)))) (hc46 : hp (c + 1 + 46) = some (.inl (ev.1 2, 61, .inl (fun _ => 0)))) (hc47 : hp (c + 1 + 47) = some (.inl (ev.1 1, 41, .inr (.inl (fun _ => 0))))) (hc48 : hp (c + 1 + 48) = some (.inl (ev.1 0, 100, .inl (fun _ => 0)))) (hc49 : hp (c + 1 + 49) = some (.inl (ev.1 0, 32, .inl (fun _ => 0)))) (hF : ∀ x z, F x = some z → hp x = some z ∧ x < c) : cR [0, 1, 2, 3, 4, 5, 6, 7] F ev (yT0c c) yS0c hp := by
  have hal : ∀ o, (yT0c c).1 o = true → o < 8 := fun o h => of_decide_eq_true h
  have had : ∀ o j n, (o, j, n) ∈ yL0c → (yT0c c).2.1 o j = c + n := by
    have key : ∀ p ∈ yL0c, (yL0c.find? (fun q => q.1 == p.1 && q.2.1 == p.2.1)) = some p := by decide +kernel
    intro o j n h
    show yAd yL0c c o j = c + n
    unfold yAd
    rw [key _ h]
  refine ⟨fun o ho => decide_eq_true (by simp at ho; omega), fun o j z h1 h2 => ?_, fun o j o' j' h1 h2 h3 h4 h5 => ?_, fun o j h1 h2 => ?_, fun x z h1 => ?_, fun o k q i h1 h2 h3 h4 => ?_, fun o h1 h2 => ?_, fun o h1 h2 => ?_, fun o h1 => ?_⟩
  · have ho := hal o h1
    have hs := yHas_of h2
    have ho2 : o = 0 ∨ o = 1 ∨ o = 2 ∨ o = 3 ∨ o = 4 ∨ o = 5 ∨ o = 6 ∨ o = 7 := by omega
    rcases ho2 with rfl | rfl | rfl | rfl | rfl | rfl | rfl | rfl
    · cases j with
      | zero =>
        rw [← Option.some.inj h2, show (yT0c c).2.1 0 0 = c + 0 from had 0 0 0 (by decide +kernel)]
        have e1_0 : (yT0c c).2.1 1 0 = c + 1 := had 1 0 1 (by decide +kernel)
        have e2_0 : (yT0c c).2.1 2 0 = c + 11 := had 2 0 11 (by decide +kernel)
        have e6_0 : (yT0c c).2.1 6 0 = c + 39 := had 6 0 39 (by decide +kernel)
        have e7_0 : (yT0c c).2.1 7 0 = c + 44 := had 7 0 44 (by decide +kernel)
        have e0_5 : (yT0c c).2.1 0 5 = c + 48 := had 0 5 48 (by decide +kernel)
        have e0_6 : (yT0c c).2.1 0 6 = c + 49 := had 0 6 49 (by decide +kernel)
        have e0_8 : (yT0c c).2.1 0 8 = c + 50 := had 0 8 50 (by decide +kernel)
        refine Eq.trans hO ?_
        show _ = some (Sum.inr (11, yFl ev (yT0c c) (yS0c.1 0) 0 11))
        simp only [yFl, e1_0, e2_0, e6_0, e7_0, e0_5, e0_6, e0_8]
        rfl
      | succ k =>
        obtain ⟨q, hq⟩ := Option.isSome_iff_exists.mp (show (yRow 11 k).isSome = true from hs)
        have h3 := yRow_in hq
        simp only [yTab, List.mem_cons, List.not_mem_nil, or_false, Prod.mk.injEq] at h3
        rcases h3 with ⟨rfl, hq1, hq2⟩ | ⟨rfl, hq1, hq2⟩ | ⟨rfl, hq1, hq2⟩
        · rw [← Option.some.inj h2, show (yT0c c).2.1 0 5 = c + 48 from had 0 5 48 (by decide +kernel)]
          refine Eq.trans hc47 ?_
          first | rfl | (simp [yCon, yS0c]; done)
        · rw [← Option.some.inj h2, show (yT0c c).2.1 0 6 = c + 49 from had 0 6 49 (by decide +kernel)]
          refine Eq.trans hc48 ?_
          first | rfl | (simp [yCon, yS0c]; done)
        · rw [← Option.some.inj h2, show (yT0c c).2.1 0 8 = c + 50 from had 0 8 50 (by decide +kernel)]
          refine Eq.trans hc49 ?_
          first | rfl | (simp [yCon, yS0c]; done)
    · cases j with
      | zero =>
        rw [← Option.some.inj h2, show (yT0c c).2.1 1 0 = c + 1 from had 1 0 1 (by decide +kernel)]
        have e1_1 : (yT0c c).2.1 1 1 = c + 2 := had 1 1 2 (by decide +kernel)
        have e1_2 : (yT0c c).2.1 1 2 = c + 3 := had 1 2 3 (by decide +kernel)
        have e1_3 : (yT0c c).2.1 1 3 = c + 4 := had 1 3 4 (by decide +kernel)
        have e1_5 : (yT0c c).2.1 1 5 = c + 5 := had 1 5 5 (by decide +kernel)
        have e1_8 : (yT0c c).2.1 1 8 = c + 6 := had 1 8 6 (by decide +kernel)
        have e1_9 : (yT0c c).2.1 1 9 = c + 7 := had 1 9 7 (by decide +kernel)
        have e1_10 : (yT0c c).2.1 1 10 = c + 8 := had 1 10 8 (by decide +kernel)
        have e1_11 : (yT0c c).2.1 1 11 = c + 9 := had 1 11 9 (by decide +kernel)
        have e1_12 : (yT0c c).2.1 1 12 = c + 10 := had 1 12 10 (by decide +kernel)
        refine Eq.trans hc0 ?_
        show _ = some (Sum.inr (2, yFl ev (yT0c c) (yS0c.1 1) 1 2))
        simp only [yFl, e1_1, e1_2, e1_3, e1_5, e1_8, e1_9, e1_10, e1_11, e1_12]
        rfl
      | succ k =>
        obtain ⟨q, hq⟩ := Option.isSome_iff_exists.mp (show (yRow 2 k).isSome = true from hs)
        have h3 := yRow_in hq
        simp only [yTab, List.mem_cons, List.not_mem_nil, or_false, Prod.mk.injEq] at h3
        rcases h3 with ⟨rfl, hq1, hq2⟩ | ⟨rfl, hq1, hq2⟩ | ⟨rfl, hq1, hq2⟩ | ⟨rfl, hq1, hq2⟩ | ⟨rfl, hq1, hq2⟩ | ⟨rfl, hq1, hq2⟩ | ⟨rfl, hq1, hq2⟩ | ⟨rfl, hq1, hq2⟩ | ⟨rfl, hq1, hq2⟩
        · rw [← Option.some.inj h2, show (yT0c c).2.1 1 1 = c + 2 from had 1 1 2 (by decide +kernel)]
          refine Eq.trans hc1 ?_
          first | rfl | (simp [yCon, yS0c]; done)
        · rw [← Option.some.inj h2, show (yT0c c).2.1 1 2 = c + 3 from had 1 2 3 (by decide +kernel)]
          refine Eq.trans hc2 ?_
          first | rfl | (simp [yCon, yS0c]; done)
        · rw [← Option.some.inj h2, show (yT0c c).2.1 1 3 = c + 4 from had 1 3 4 (by decide +kernel)]
          refine Eq.trans hc3 ?_
          first | rfl | (simp [yCon, yS0c]; done)
        · rw [← Option.some.inj h2, show (yT0c c).2.1 1 5 = c + 5 from had 1 5 5 (by decide +kernel)]
          refine Eq.trans hc4 ?_
          first | rfl | (simp [yCon, yS0c]; done)
        · rw [← Option.some.inj h2, show (yT0c c).2.1 1 8 = c + 6 from had 1 8 6 (by decide +kernel)]
          refine Eq.trans hc5 ?_
          first | rfl | (simp [yCon, yS0c]; done)
        · rw [← Option.some.inj h2, show (yT0c c).2.1 1 9 = c + 7 from had 1 9 7 (by decide +kernel)]
          refine Eq.trans hc6 ?_
          first | rfl | (simp [yCon, yS0c]; done)
        · rw [← Option.some.inj h2, show (yT0c c).2.1 1 10 = c + 8 from had 1 10 8 (by decide +kernel)]
          refine Eq.trans hc7 ?_
          first | rfl | (simp [yCon, yS0c]; done)
        · rw [← Option.some.inj h2, show (yT0c c).2.1 1 11 = c + 9 from had 1 11 9 (by decide +kernel)]
          refine Eq.trans hc8 ?_
          first | rfl | (simp [yCon, yS0c]; done)
        · rw [← Option.some.inj h2, show (yT0c c).2.1 1 12 = c + 10 from had 1 12 10 (by decide +kernel)]
          refine Eq.trans hc9 ?_
          first | rfl | (simp [yCon, yS0c]; done)
    · cases j with
      | zero =>
        rw [← Option.some.inj h2, show (yT0c c).2.1 2 0 = c + 11 from had 2 0 11 (by decide +kernel)]
        have e1_0 : (yT0c c).2.1 1 0 = c + 1 := had 1 0 1 (by decide +kernel)
        have e3_0 : (yT0c c).2.1 3 0 = c + 12 := had 3 0 12 (by decide +kernel)
        have e4_0 : (yT0c c).2.1 4 0 = c + 20 := had 4 0 20 (by decide +kernel)
        have e5_0 : (yT0c c).2.1 5 0 = c + 27 := had 5 0 27 (by decide +kernel)
        have e2_5 : (yT0c c).2.1 2 5 = c + 34 := had 2 5 34 (by decide +kernel)
        have e2_7 : (yT0c c).2.1 2 7 = c + 35 := had 2 7 35 (by decide +kernel)
        have e2_9 : (yT0c c).2.1 2 9 = c + 36 := had 2 9 36 (by decide +kernel)
        have e2_11 : (yT0c c).2.1 2 11 = c + 37 := had 2 11 37 (by decide +kernel)
        have e2_12 : (yT0c c).2.1 2 12 = c + 38 := had 2 12 38 (by decide +kernel)
        refine Eq.trans hc10 ?_
        show _ = some (Sum.inr (10, yFl ev (yT0c c) (yS0c.1 2) 2 10))
        simp only [yFl, e1_0, e3_0, e4_0, e5_0, e2_5, e2_7, e2_9, e2_11, e2_12]
        rfl
      | succ k =>
        obtain ⟨q, hq⟩ := Option.isSome_iff_exists.mp (show (yRow 10 k).isSome = true from hs)
        have h3 := yRow_in hq
        simp only [yTab, List.mem_cons, List.not_mem_nil, or_false, Prod.mk.injEq] at h3
        rcases h3 with ⟨rfl, hq1, hq2⟩ | ⟨rfl, hq1, hq2⟩ | ⟨rfl, hq1, hq2⟩ | ⟨rfl, hq1, hq2⟩ | ⟨rfl, hq1, hq2⟩
        · rw [← Option.some.inj h2, show (yT0c c).2.1 2 5 = c + 34 from had 2 5 34 (by decide +kernel)]
          refine Eq.trans hc33 ?_
          first | rfl | (simp [yCon, yS0c]; done)
        · rw [← Option.some.inj h2, show (yT0c c).2.1 2 7 = c + 35 from had 2 7 35 (by decide +kernel)]
          refine Eq.trans hc34 ?_
          first | rfl | (simp [yCon, yS0c]; done)
        · rw [← Option.some.inj h2, show (yT0c c).2.1 2 9 = c + 36 from had 2 9 36 (by decide +kernel)]
          refine Eq.trans hc35 ?_
          first | rfl | (simp [yCon, yS0c]; done)
        · rw [← Option.some.inj h2, show (yT0c c).2.1 2 11 = c + 37 from had 2 11 37 (by decide +kernel)]
          refine Eq.trans hc36 ?_
          first | rfl | (simp [yCon, yS0c]; done)
        · rw [← Option.some.inj h2, show (yT0c c).2.1 2 12 = c + 38 from had 2 12 38 (by decide +kernel)]
          refine Eq.trans hc37 ?_
          first | rfl | (simp [yCon, yS0c]; done)
    · cases j with
      | zero =>
        rw [← Option.some.inj h2, show (yT0c c).2.1 3 0 = c + 12 from had 3 0 12 (by decide +kernel)]
        have e3_3 : (yT0c c).2.1 3 3 = c + 13 := had 3 3 13 (by decide +kernel)
        have e3_4 : (yT0c c).2.1 3 4 = c + 14 := had 3 4 14 (by decide +kernel)
        have e3_5 : (yT0c c).2.1 3 5 = c + 15 := had 3 5 15 (by decide +kernel)
        have e3_6 : (yT0c c).2.1 3 6 = c + 16 := had 3 6 16 (by decide +kernel)
        have e3_7 : (yT0c c).2.1 3 7 = c + 17 := had 3 7 17 (by decide +kernel)
        have e3_8 : (yT0c c).2.1 3 8 = c + 18 := had 3 8 18 (by decide +kernel)
        have e3_9 : (yT0c c).2.1 3 9 = c + 19 := had 3 9 19 (by decide +kernel)
        refine Eq.trans hc11 ?_
        show _ = some (Sum.inr (9, yFl ev (yT0c c) (yS0c.1 3) 3 9))
        simp only [yFl, e3_3, e3_4, e3_5, e3_6, e3_7, e3_8, e3_9]
        rfl
      | succ k =>
        obtain ⟨q, hq⟩ := Option.isSome_iff_exists.mp (show (yRow 9 k).isSome = true from hs)
        have h3 := yRow_in hq
        simp only [yTab, List.mem_cons, List.not_mem_nil, or_false, Prod.mk.injEq] at h3
        rcases h3 with ⟨rfl, hq1, hq2⟩ | ⟨rfl, hq1, hq2⟩ | ⟨rfl, hq1, hq2⟩ | ⟨rfl, hq1, hq2⟩ | ⟨rfl, hq1, hq2⟩ | ⟨rfl, hq1, hq2⟩ | ⟨rfl, hq1, hq2⟩
        · rw [← Option.some.inj h2, show (yT0c c).2.1 3 3 = c + 13 from had 3 3 13 (by decide +kernel)]
          refine Eq.trans hc12 ?_
          first | rfl | (simp [yCon, yS0c]; done)
        · rw [← Option.some.inj h2, show (yT0c c).2.1 3 4 = c + 14 from had 3 4 14 (by decide +kernel)]
          refine Eq.trans hc13 ?_
          first | rfl | (simp [yCon, yS0c]; done)
        · rw [← Option.some.inj h2, show (yT0c c).2.1 3 5 = c + 15 from had 3 5 15 (by decide +kernel)]
          refine Eq.trans hc14 ?_
          first | rfl | (simp [yCon, yS0c]; done)
        · rw [← Option.some.inj h2, show (yT0c c).2.1 3 6 = c + 16 from had 3 6 16 (by decide +kernel)]
          refine Eq.trans hc15 ?_
          first | rfl | (simp [yCon, yS0c]; done)
        · rw [← Option.some.inj h2, show (yT0c c).2.1 3 7 = c + 17 from had 3 7 17 (by decide +kernel)]
          refine Eq.trans hc16 ?_
          first | rfl | (simp [yCon, yS0c]; done)
        · rw [← Option.some.inj h2, show (yT0c c).2.1 3 8 = c + 18 from had 3 8 18 (by decide +kernel)]
          refine Eq.trans hc17 ?_
          first | rfl | (simp [yCon, yS0c]; done)
        · rw [← Option.some.inj h2, show (yT0c c).2.1 3 9 = c + 19 from had 3 9 19 (by decide +kernel)]
          refine Eq.trans hc18 ?_
          first | rfl | (simp [yCon, yS0c]; done)
    · cases j with
      | zero =>
        rw [← Option.some.inj h2, show (yT0c c).2.1 4 0 = c + 20 from had 4 0 20 (by decide +kernel)]
        have e4_3 : (yT0c c).2.1 4 3 = c + 21 := had 4 3 21 (by decide +kernel)
        have e4_4 : (yT0c c).2.1 4 4 = c + 23 := had 4 4 23 (by decide +kernel)
        have e4_5 : (yT0c c).2.1 4 5 = c + 24 := had 4 5 24 (by decide +kernel)
        have e4_6 : (yT0c c).2.1 4 6 = c + 25 := had 4 6 25 (by decide +kernel)
        have e4_7 : (yT0c c).2.1 4 7 = c + 26 := had 4 7 26 (by decide +kernel)
        have e4_8 : (yT0c c).2.1 4 8 = c + 22 := had 4 8 22 (by decide +kernel)
        refine Eq.trans hc19 ?_
        show _ = some (Sum.inr (8, yFl ev (yT0c c) (yS0c.1 4) 4 8))
        simp only [yFl, e4_3, e4_4, e4_5, e4_6, e4_7, e4_8]
        rfl
      | succ k =>
        obtain ⟨q, hq⟩ := Option.isSome_iff_exists.mp (show (yRow 14 k).isSome = true from hs)
        have h3 := yRow_in hq
        simp only [yTab, List.mem_cons, List.not_mem_nil, or_false, Prod.mk.injEq] at h3
        rcases h3 with ⟨rfl, hq1, hq2⟩ | ⟨rfl, hq1, hq2⟩ | ⟨rfl, hq1, hq2⟩ | ⟨rfl, hq1, hq2⟩ | ⟨rfl, hq1, hq2⟩ | ⟨rfl, hq1, hq2⟩
        · rw [← Option.some.inj h2, show (yT0c c).2.1 4 3 = c + 21 from had 4 3 21 (by decide +kernel)]
          refine Eq.trans hc20 ?_
          first | rfl | (simp [yCon, yS0c]; done)
        · rw [← Option.some.inj h2, show (yT0c c).2.1 4 4 = c + 23 from had 4 4 23 (by decide +kernel)]
          refine Eq.trans hc22 ?_
          first | rfl | (simp [yCon, yS0c]; done)
        · rw [← Option.some.inj h2, show (yT0c c).2.1 4 5 = c + 24 from had 4 5 24 (by decide +kernel)]
          refine Eq.trans hc23 ?_
          first | rfl | (simp [yCon, yS0c]; done)
        · rw [← Option.some.inj h2, show (yT0c c).2.1 4 6 = c + 25 from had 4 6 25 (by decide +kernel)]
          refine Eq.trans hc24 ?_
          first | rfl | (simp [yCon, yS0c]; done)
        · rw [← Option.some.inj h2, show (yT0c c).2.1 4 7 = c + 26 from had 4 7 26 (by decide +kernel)]
          refine Eq.trans hc25 ?_
          first | rfl | (simp [yCon, yS0c]; done)
        · rw [← Option.some.inj h2, show (yT0c c).2.1 4 8 = c + 22 from had 4 8 22 (by decide +kernel)]
          refine Eq.trans hc21 ?_
          first | rfl | (simp [yCon, yS0c]; done)
    · cases j with
      | zero =>
        rw [← Option.some.inj h2, show (yT0c c).2.1 5 0 = c + 27 from had 5 0 27 (by decide +kernel)]
        have e5_3 : (yT0c c).2.1 5 3 = c + 28 := had 5 3 28 (by decide +kernel)
        have e5_4 : (yT0c c).2.1 5 4 = c + 30 := had 5 4 30 (by decide +kernel)
        have e5_5 : (yT0c c).2.1 5 5 = c + 31 := had 5 5 31 (by decide +kernel)
        have e5_6 : (yT0c c).2.1 5 6 = c + 32 := had 5 6 32 (by decide +kernel)
        have e5_7 : (yT0c c).2.1 5 7 = c + 33 := had 5 7 33 (by decide +kernel)
        have e5_8 : (yT0c c).2.1 5 8 = c + 29 := had 5 8 29 (by decide +kernel)
        refine Eq.trans hc26 ?_
        show _ = some (Sum.inr (8, yFl ev (yT0c c) (yS0c.1 5) 5 8))
        simp only [yFl, e5_3, e5_4, e5_5, e5_6, e5_7, e5_8]
        rfl
      | succ k =>
        obtain ⟨q, hq⟩ := Option.isSome_iff_exists.mp (show (yRow 8 k).isSome = true from hs)
        have h3 := yRow_in hq
        simp only [yTab, List.mem_cons, List.not_mem_nil, or_false, Prod.mk.injEq] at h3
        rcases h3 with ⟨rfl, hq1, hq2⟩ | ⟨rfl, hq1, hq2⟩ | ⟨rfl, hq1, hq2⟩ | ⟨rfl, hq1, hq2⟩ | ⟨rfl, hq1, hq2⟩ | ⟨rfl, hq1, hq2⟩
        · rw [← Option.some.inj h2, show (yT0c c).2.1 5 3 = c + 28 from had 5 3 28 (by decide +kernel)]
          refine Eq.trans hc27 ?_
          first | rfl | (simp [yCon, yS0c]; done)
        · rw [← Option.some.inj h2, show (yT0c c).2.1 5 4 = c + 30 from had 5 4 30 (by decide +kernel)]
          refine Eq.trans hc29 ?_
          first | rfl | (simp [yCon, yS0c]; done)
        · rw [← Option.some.inj h2, show (yT0c c).2.1 5 5 = c + 31 from had 5 5 31 (by decide +kernel)]
          refine Eq.trans hc30 ?_
          first | rfl | (simp [yCon, yS0c]; done)
        · rw [← Option.some.inj h2, show (yT0c c).2.1 5 6 = c + 32 from had 5 6 32 (by decide +kernel)]
          refine Eq.trans hc31 ?_
          first | rfl | (simp [yCon, yS0c]; done)
        · rw [← Option.some.inj h2, show (yT0c c).2.1 5 7 = c + 33 from had 5 7 33 (by decide +kernel)]
          refine Eq.trans hc32 ?_
          first | rfl | (simp [yCon, yS0c]; done)
        · rw [← Option.some.inj h2, show (yT0c c).2.1 5 8 = c + 29 from had 5 8 29 (by decide +kernel)]
          refine Eq.trans hc28 ?_
          first | rfl | (simp [yCon, yS0c]; done)
    · cases j with
      | zero =>
        rw [← Option.some.inj h2, show (yT0c c).2.1 6 0 = c + 39 from had 6 0 39 (by decide +kernel)]
        have e6_1 : (yT0c c).2.1 6 1 = c + 40 := had 6 1 40 (by decide +kernel)
        have e6_2 : (yT0c c).2.1 6 2 = c + 41 := had 6 2 41 (by decide +kernel)
        have e6_4 : (yT0c c).2.1 6 4 = c + 42 := had 6 4 42 (by decide +kernel)
        have e6_5 : (yT0c c).2.1 6 5 = c + 43 := had 6 5 43 (by decide +kernel)
        refine Eq.trans hc38 ?_
        show _ = some (Sum.inr (7, yFl ev (yT0c c) (yS0c.1 6) 6 7))
        simp only [yFl, e6_1, e6_2, e6_4, e6_5]
        rfl
      | succ k =>
        obtain ⟨q, hq⟩ := Option.isSome_iff_exists.mp (show (yRow 7 k).isSome = true from hs)
        have h3 := yRow_in hq
        simp only [yTab, List.mem_cons, List.not_mem_nil, or_false, Prod.mk.injEq] at h3
        rcases h3 with ⟨rfl, hq1, hq2⟩ | ⟨rfl, hq1, hq2⟩ | ⟨rfl, hq1, hq2⟩ | ⟨rfl, hq1, hq2⟩
        · rw [← Option.some.inj h2, show (yT0c c).2.1 6 1 = c + 40 from had 6 1 40 (by decide +kernel)]
          refine Eq.trans hc39 ?_
          first | rfl | (simp [yCon, yS0c]; done)
        · rw [← Option.some.inj h2, show (yT0c c).2.1 6 2 = c + 41 from had 6 2 41 (by decide +kernel)]
          refine Eq.trans hc40 ?_
          first | rfl | (simp [yCon, yS0c]; done)
        · rw [← Option.some.inj h2, show (yT0c c).2.1 6 4 = c + 42 from had 6 4 42 (by decide +kernel)]
          refine Eq.trans hc41 ?_
          first | rfl | (simp [yCon, yS0c]; done)
        · rw [← Option.some.inj h2, show (yT0c c).2.1 6 5 = c + 43 from had 6 5 43 (by decide +kernel)]
          refine Eq.trans hc42 ?_
          first | rfl | (simp [yCon, yS0c]; done)
    · cases j with
      | zero =>
        rw [← Option.some.inj h2, show (yT0c c).2.1 7 0 = c + 44 from had 7 0 44 (by decide +kernel)]
        have e7_1 : (yT0c c).2.1 7 1 = c + 45 := had 7 1 45 (by decide +kernel)
        have e7_3 : (yT0c c).2.1 7 3 = c + 46 := had 7 3 46 (by decide +kernel)
        have e7_5 : (yT0c c).2.1 7 5 = c + 47 := had 7 5 47 (by decide +kernel)
        refine Eq.trans hc43 ?_
        show _ = some (Sum.inr (4, yFl ev (yT0c c) (yS0c.1 7) 7 4))
        simp only [yFl, e7_1, e7_3, e7_5]
        rfl
      | succ k =>
        obtain ⟨q, hq⟩ := Option.isSome_iff_exists.mp (show (yRow 4 k).isSome = true from hs)
        have h3 := yRow_in hq
        simp only [yTab, List.mem_cons, List.not_mem_nil, or_false, Prod.mk.injEq] at h3
        rcases h3 with ⟨rfl, hq1, hq2⟩ | ⟨rfl, hq1, hq2⟩ | ⟨rfl, hq1, hq2⟩
        · rw [← Option.some.inj h2, show (yT0c c).2.1 7 1 = c + 45 from had 7 1 45 (by decide +kernel)]
          refine Eq.trans hc44 ?_
          first | rfl | (simp [yCon, yS0c]; done)
        · rw [← Option.some.inj h2, show (yT0c c).2.1 7 3 = c + 46 from had 7 3 46 (by decide +kernel)]
          refine Eq.trans hc45 ?_
          first | rfl | (simp [yCon, yS0c]; done)
        · rw [← Option.some.inj h2, show (yT0c c).2.1 7 5 = c + 47 from had 7 5 47 (by decide +kernel)]
          refine Eq.trans hc46 ?_
          first | rfl | (simp [yCon, yS0c]; done)
  · obtain ⟨n, hn⟩ := yH0c (hal o h1) h3
    obtain ⟨n', hn'⟩ := yH0c (hal o' h2) h4
    exact yAd_inj yL0c_inj hn hn' ((had _ _ _ hn).symm.trans (h5.trans (had _ _ _ hn')))
  · obtain ⟨n, hn⟩ := yH0c (hal o h1) h2
    have e : (yT0c c).2.1 o j = c + n := had _ _ _ hn
    have hl := yL0c_lt _ hn
    rw [e]
    refine ⟨?_, by show c + n < c + 51; simp only [] at hl; omega⟩
    cases hf : F (c + n) with
    | none => rfl
    | some z => have := (hF _ z hf).2; omega
  · obtain ⟨a1, a2⟩ := hF x z h1
    exact ⟨a1, by show x < c + 51; omega⟩
  · exfalso
    have ho := hal o h1
    simp only [yS0c] at h4
    split at h4
    · next e => obtain ⟨rfl, rfl⟩ := e; rw [show yRow (oc 1) 7 = some (0, 64) from rfl] at h2; cases h2; exact absurd h3 (by decide)
    · exact absurd (show (0 : Int32) = 1 from h4) (by decide)
  · exfalso
    have ho := hal o h1
    have ho2 : o = 0 ∨ o = 1 ∨ o = 2 ∨ o = 3 ∨ o = 4 ∨ o = 5 ∨ o = 6 ∨ o = 7 := by omega
    rcases ho2 with rfl | rfl | rfl | rfl | rfl | rfl | rfl | rfl <;> exact absurd h2 (by decide)
  · have := hal o h1; omega
  · have := hal o h1; omega
def yL0m : List (Nat × Nat × Nat) := [(8, 0, 0), (8, 1, 1), (8, 3, 2), (8, 4, 3), (8, 5, 4), (8, 6, 5), (8, 7, 6), (8, 8, 7), (8, 9, 8), (8, 11, 9), (8, 12, 10), (8, 13, 11), (8, 14, 12), (8, 15, 13), (8, 17, 14), (8, 18, 15), (8, 19, 16), (8, 20, 17), (8, 21, 18), (8, 24, 19), (8, 25, 20), (8, 26, 21), (8, 27, 22), (8, 28, 23), (8, 30, 24), (8, 31, 25), (8, 32, 26), (8, 33, 27), (8, 38, 28), (8, 39, 29), (8, 40, 30), (8, 41, 31), (8, 44, 32), (8, 46, 33), (8, 49, 34), (8, 50, 35), (8, 57, 36), (8, 59, 37), (8, 61, 38), (8, 62, 39)]
theorem yL0m_inj : ∀ p ∈ yL0m, ∀ q ∈ yL0m, p.2.2 = q.2.2 → p = q := by decide +kernel
theorem yL0m_lt : ∀ p ∈ yL0m, p.2.2 < 40 := by decide +kernel
def yT0m (c : Nat) : yT := (fun o => decide (o = 8), yAd yL0m c, c + 40, 0)
def yS0m : yS := (fun o k => if o = 8 ∧ k = 34 then 4 else if o = 8 ∧ k = 35 then 6 else if o = 8 ∧ k = 36 then 1 else 0, fun o k => if o = 8 ∧ k = 10 then (fun x => if x < 64 then yFr x else 0) else fun _ => 0, fun _ _ _ => 0)
theorem yH0m {o j : Nat} (ho : o = 8) (h : yHas o j) : ∃ n, (o, j, n) ∈ yL0m := by
  subst ho
  cases j with
    | zero => exact ⟨0, by decide +kernel⟩
    | succ k =>
      obtain ⟨q, hq⟩ := Option.isSome_iff_exists.mp (show (yRow 12 k).isSome = true from h)
      have h2 := yRow_in hq
      simp only [yTab, List.mem_cons, List.not_mem_nil, or_false, Prod.mk.injEq] at h2
      rcases h2 with ⟨rfl, -, -⟩ | ⟨rfl, -, -⟩ | ⟨rfl, -, -⟩ | ⟨rfl, -, -⟩ | ⟨rfl, -, -⟩ | ⟨rfl, -, -⟩ | ⟨rfl, -, -⟩ | ⟨rfl, -, -⟩ | ⟨rfl, -, -⟩ | ⟨rfl, -, -⟩ | ⟨rfl, -, -⟩ | ⟨rfl, -, -⟩ | ⟨rfl, -, -⟩ | ⟨rfl, -, -⟩ | ⟨rfl, -, -⟩ | ⟨rfl, -, -⟩ | ⟨rfl, -, -⟩ | ⟨rfl, -, -⟩ | ⟨rfl, -, -⟩ | ⟨rfl, -, -⟩ | ⟨rfl, -, -⟩ | ⟨rfl, -, -⟩ | ⟨rfl, -, -⟩ | ⟨rfl, -, -⟩ | ⟨rfl, -, -⟩ | ⟨rfl, -, -⟩ | ⟨rfl, -, -⟩ | ⟨rfl, -, -⟩ | ⟨rfl, -, -⟩ | ⟨rfl, -, -⟩ | ⟨rfl, -, -⟩ | ⟨rfl, -, -⟩ | ⟨rfl, -, -⟩ | ⟨rfl, -, -⟩ | ⟨rfl, -, -⟩ | ⟨rfl, -, -⟩ | ⟨rfl, -, -⟩ | ⟨rfl, -, -⟩ | ⟨rfl, -, -⟩
      · exact ⟨1, by decide +kernel⟩
      · exact ⟨2, by decide +kernel⟩
      · exact ⟨3, by decide +kernel⟩
      · exact ⟨4, by decide +kernel⟩
      · exact ⟨5, by decide +kernel⟩
      · exact ⟨6, by decide +kernel⟩
      · exact ⟨7, by decide +kernel⟩
      · exact ⟨8, by decide +kernel⟩
      · exact ⟨9, by decide +kernel⟩
      · exact ⟨10, by decide +kernel⟩
      · exact ⟨11, by decide +kernel⟩
      · exact ⟨12, by decide +kernel⟩
      · exact ⟨13, by decide +kernel⟩
      · exact ⟨14, by decide +kernel⟩
      · exact ⟨15, by decide +kernel⟩
      · exact ⟨16, by decide +kernel⟩
      · exact ⟨17, by decide +kernel⟩
      · exact ⟨18, by decide +kernel⟩
      · exact ⟨19, by decide +kernel⟩
      · exact ⟨20, by decide +kernel⟩
      · exact ⟨21, by decide +kernel⟩
      · exact ⟨22, by decide +kernel⟩
      · exact ⟨23, by decide +kernel⟩
      · exact ⟨24, by decide +kernel⟩
      · exact ⟨25, by decide +kernel⟩
      · exact ⟨26, by decide +kernel⟩
      · exact ⟨27, by decide +kernel⟩
      · exact ⟨28, by decide +kernel⟩
      · exact ⟨29, by decide +kernel⟩
      · exact ⟨30, by decide +kernel⟩
      · exact ⟨31, by decide +kernel⟩
      · exact ⟨32, by decide +kernel⟩
      · exact ⟨33, by decide +kernel⟩
      · exact ⟨34, by decide +kernel⟩
      · exact ⟨35, by decide +kernel⟩
      · exact ⟨36, by decide +kernel⟩
      · exact ⟨37, by decide +kernel⟩
      · exact ⟨38, by decide +kernel⟩
      · exact ⟨39, by decide +kernel⟩
set_option maxHeartbeats 4000000 in
theorem c0m {F : xH} {ev : xEv} {hp : xH} {c : Nat} (hO : hp (c) = some (.inr (12, [.ref (c + 1 + 0), .int 0, .ref (c + 1 + 1), .ref (c + 1 + 2), .ref (c + 1 + 3), .ref (c + 1 + 4), .ref (c + 1 + 5), .ref (c + 1 + 6), .ref (c + 1 + 7), .int 0, .ref (c + 1 + 8), .ref (c + 1 + 9), .ref (c + 1 + 10), .ref (c + 1 + 11), .ref (c + 1 + 12), .int 0, .ref (c + 1 + 13), .ref (c + 1 + 14), .ref (c + 1 + 15), .ref (c + 1 + 16), .ref (c + 1 + 17), .int 0, .int 0, .ref (c + 1 + 18), .ref (c + 1 + 19), .ref (c + 1 + 20), .ref (c + 1 + 21), .ref (c + 1 + 22), .int 0, .ref (c + 1 + 23), .ref (c + 1 + 24), .ref (c + 1 + 25), .ref (c + 1 + 26), .int 0, .int 4, .int 6, .int 1, .ref (c + 1 + 27), .ref (c + 1 + 28), .ref (c + 1 + 29), .ref (c + 1 + 30), .int 0, .int 0, .ref (c + 1 + 31), .int 0, .ref (c + 1 + 32), .int 0, .int 0, .ref (c + 1 + 33), .ref (c + 1 + 34), .null, .int 0, .int 0, .int 0, .int 0, .null, .ref (c + 1 + 35), .int 0, .ref (c + 1 + 36), .int 0, .ref (c + 1 + 37), .ref (c + 1 + 38), .int 0, .int 0]))) (hc0 : hp (c + 1 + 0) = some (.inl (ev.1 0, 8, .inl (fun _ => 0)))) (hc1 : hp (c + 1 + 1) = some (.inl (ev.1 0, 12, .inl (fun _ => 0)))) (hc2 : hp (c + 1 + 2) = some (.inl (ev.1 0, 12, .inl (fun _ => 0)))) (hc3 : hp (c + 1 + 3) = some (.inl (ev.1 0, 12, .inl (fun _ => 0)))) (hc4 : hp (c + 1 + 4) = some (.inl (ev.1 0, 12, .inl (fun _ => 0)))) (hc5 : hp (c + 1 + 5) = some (.inl (ev.1 0, 48, .inl (fun _ => 0)))) (hc6 : hp (c + 1 + 6) = some (.inl (ev.1 0, 48, .inl (fun _ => 0)))) (hc7 : hp (c + 1 + 7) = some (.inl (ev.1 0, 12, .inl (fun _ => 0)))) (hc8 : hp (c + 1 + 8) = some (.inl (ev.1 0, 64, .inl (fun x => if x < 64 then yFr x else 0)))) (hc9 : hp (c + 1 + 9) = some (.inl (ev.1 0, 60, .inl (fun _ => 0)))) (hc10 : hp (c + 1 + 10) = some (.inl (ev.1 0, 60, .inl (fun _ => 0)))) (hc11 : hp (c + 1 + 11) = some (.inl (ev.1 0, 60, .inl (fun _ => 0)))) (hc12 : hp (c + 1 + 12) = some (.inl (ev.1 0, 60, .inl (fun _ => 0)))) (hc13 : hp (c + 1 + 13) = some (.inl (ev.1 0, 8, .inl (fun _ => 0)))) (hc14 : hp (c + 1 + 14) = some (.inl (ev.1 0, 8, .inl (fun _ => 0)))) (hc15 : hp (c + 1 + 15) = some (.inl (ev.1 0, 8, .inl (fun _ => 0)))) (hc16 : hp (c + 1 + 16) = some (.inl (ev.1 0, 8, .inl (fun _ => 0)))) (hc17 : hp (c + 1 + 17) = some (.inl (ev.1 2, 8, .inl (fun _ => 0)))) (hc18 : hp (c + 1 + 18) = some (.inl (ev.1 0, 30, .inl (fun _ => 0)))) (hc19 : hp (c + 1 + 19) = some (.inl (ev.1 0, 30, .inl (fun _ => 0)))) (hc20 : hp (c + 1 + 20) = some (.inl (ev.1 0, 30, .inl (fun _ => 0)))) (hc21 : hp (c + 1 + 21) = some (.inl (ev.1 0, 30, .inl (fun _ => 0)))) (hc22 : hp (c + 1 + 22) = some (.inl (ev.1 0, 30, .inl (fun _ => 0)))) (hc23 : hp (c + 1 + 23) = some (.inl (ev.1 0, 24, .inl (fun _ => 0)))) (hc24 : hp (c + 1 + 24) = some (.inl (ev.1 0, 24, .inl (fun _ => 0)))) (hc25 : hp (c + 1 + 25) = some (.inl (ev.1 0, 24, .inl (fun _ => 0)))) (hc26 : hp (c + 1 + 26) = some (.inl (ev.1 0, 24, .inl (fun _ => 0)))) (hc27 : hp (c + 1 + 27) = some (.inl (ev.1 3, 1920, .inl (fun _ => 0)))) (hc28 : hp (c + 1 + 28) = some (.inl (ev.1 0, 32, .inl (fun _ => 0)))) (hc29 : hp (c + 1 + 29) = some (.inl (ev.1 0, 32, .inl (fun _ => 0)))) (hc30 : hp (c + 1 + 30) = some (.inl (ev.1 0, 32, .inl (fun _ => 0)))) (hc31 : hp (c + 1 + 31) = some (.inl (ev.1 3, 100, .inl (fun _ => 0)))) (hc32 : hp (c + 1 + 32) = some (.inl (ev.1 0, 64, .inl (fun _ => 0)))) (hc33 : hp (c + 1 + 33) = some (.inl (ev.1 0, 2305, .inl (fun _ => 0)))) (hc34 : hp (c + 1 + 34) = some (.inl (ev.1 0, 2305, .inl (fun _ => 0)))) (hc35 : hp (c + 1 + 35) = some (.inl (ev.1 0, 10, .inl (fun _ => 0)))) (hc36 : hp (c + 1 + 36) = some (.inl (ev.1 0, 8, .inl (fun _ => 0)))) (hc37 : hp (c + 1 + 37) = some (.inl (ev.1 0, 8, .inl (fun _ => 0)))) (hc38 : hp (c + 1 + 38) = some (.inl (ev.1 0, 8, .inl (fun _ => 0)))) (hF : ∀ x z, F x = some z → hp x = some z ∧ x < c) : cR [8] F ev (yT0m c) yS0m hp := by
  have hal : ∀ o, (yT0m c).1 o = true → o = 8 := fun o h => of_decide_eq_true h
  have had : ∀ o j n, (o, j, n) ∈ yL0m → (yT0m c).2.1 o j = c + n := by
    have key : ∀ p ∈ yL0m, (yL0m.find? (fun q => q.1 == p.1 && q.2.1 == p.2.1)) = some p := by decide +kernel
    intro o j n h
    show yAd yL0m c o j = c + n
    unfold yAd
    rw [key _ h]
  refine ⟨fun o ho => decide_eq_true (by simp at ho; omega), fun o j z h1 h2 => ?_, fun o j o' j' h1 h2 h3 h4 h5 => ?_, fun o j h1 h2 => ?_, fun x z h1 => ?_, fun o k q i h1 h2 h3 h4 => ?_, fun o h1 h2 => ?_, fun o h1 h2 => ?_, fun o h1 => ?_⟩
  · have ho := hal o h1
    have hs := yHas_of h2
    subst ho
    cases j with
      | zero =>
        rw [← Option.some.inj h2, show (yT0m c).2.1 8 0 = c + 0 from had 8 0 0 (by decide +kernel)]
        have e8_1 : (yT0m c).2.1 8 1 = c + 1 := had 8 1 1 (by decide +kernel)
        have e8_3 : (yT0m c).2.1 8 3 = c + 2 := had 8 3 2 (by decide +kernel)
        have e8_4 : (yT0m c).2.1 8 4 = c + 3 := had 8 4 3 (by decide +kernel)
        have e8_5 : (yT0m c).2.1 8 5 = c + 4 := had 8 5 4 (by decide +kernel)
        have e8_6 : (yT0m c).2.1 8 6 = c + 5 := had 8 6 5 (by decide +kernel)
        have e8_7 : (yT0m c).2.1 8 7 = c + 6 := had 8 7 6 (by decide +kernel)
        have e8_8 : (yT0m c).2.1 8 8 = c + 7 := had 8 8 7 (by decide +kernel)
        have e8_9 : (yT0m c).2.1 8 9 = c + 8 := had 8 9 8 (by decide +kernel)
        have e8_11 : (yT0m c).2.1 8 11 = c + 9 := had 8 11 9 (by decide +kernel)
        have e8_12 : (yT0m c).2.1 8 12 = c + 10 := had 8 12 10 (by decide +kernel)
        have e8_13 : (yT0m c).2.1 8 13 = c + 11 := had 8 13 11 (by decide +kernel)
        have e8_14 : (yT0m c).2.1 8 14 = c + 12 := had 8 14 12 (by decide +kernel)
        have e8_15 : (yT0m c).2.1 8 15 = c + 13 := had 8 15 13 (by decide +kernel)
        have e8_17 : (yT0m c).2.1 8 17 = c + 14 := had 8 17 14 (by decide +kernel)
        have e8_18 : (yT0m c).2.1 8 18 = c + 15 := had 8 18 15 (by decide +kernel)
        have e8_19 : (yT0m c).2.1 8 19 = c + 16 := had 8 19 16 (by decide +kernel)
        have e8_20 : (yT0m c).2.1 8 20 = c + 17 := had 8 20 17 (by decide +kernel)
        have e8_21 : (yT0m c).2.1 8 21 = c + 18 := had 8 21 18 (by decide +kernel)
        have e8_24 : (yT0m c).2.1 8 24 = c + 19 := had 8 24 19 (by decide +kernel)
        have e8_25 : (yT0m c).2.1 8 25 = c + 20 := had 8 25 20 (by decide +kernel)
        have e8_26 : (yT0m c).2.1 8 26 = c + 21 := had 8 26 21 (by decide +kernel)
        have e8_27 : (yT0m c).2.1 8 27 = c + 22 := had 8 27 22 (by decide +kernel)
        have e8_28 : (yT0m c).2.1 8 28 = c + 23 := had 8 28 23 (by decide +kernel)
        have e8_30 : (yT0m c).2.1 8 30 = c + 24 := had 8 30 24 (by decide +kernel)
        have e8_31 : (yT0m c).2.1 8 31 = c + 25 := had 8 31 25 (by decide +kernel)
        have e8_32 : (yT0m c).2.1 8 32 = c + 26 := had 8 32 26 (by decide +kernel)
        have e8_33 : (yT0m c).2.1 8 33 = c + 27 := had 8 33 27 (by decide +kernel)
        have e8_38 : (yT0m c).2.1 8 38 = c + 28 := had 8 38 28 (by decide +kernel)
        have e8_39 : (yT0m c).2.1 8 39 = c + 29 := had 8 39 29 (by decide +kernel)
        have e8_40 : (yT0m c).2.1 8 40 = c + 30 := had 8 40 30 (by decide +kernel)
        have e8_41 : (yT0m c).2.1 8 41 = c + 31 := had 8 41 31 (by decide +kernel)
        have e8_44 : (yT0m c).2.1 8 44 = c + 32 := had 8 44 32 (by decide +kernel)
        have e8_46 : (yT0m c).2.1 8 46 = c + 33 := had 8 46 33 (by decide +kernel)
        have e8_49 : (yT0m c).2.1 8 49 = c + 34 := had 8 49 34 (by decide +kernel)
        have e8_50 : (yT0m c).2.1 8 50 = c + 35 := had 8 50 35 (by decide +kernel)
        have e8_57 : (yT0m c).2.1 8 57 = c + 36 := had 8 57 36 (by decide +kernel)
        have e8_59 : (yT0m c).2.1 8 59 = c + 37 := had 8 59 37 (by decide +kernel)
        have e8_61 : (yT0m c).2.1 8 61 = c + 38 := had 8 61 38 (by decide +kernel)
        have e8_62 : (yT0m c).2.1 8 62 = c + 39 := had 8 62 39 (by decide +kernel)
        refine Eq.trans hO ?_
        show _ = some (Sum.inr (12, yFl ev (yT0m c) (yS0m.1 8) 8 12))
        simp only [yFl, e8_1, e8_3, e8_4, e8_5, e8_6, e8_7, e8_8, e8_9, e8_11, e8_12, e8_13, e8_14, e8_15, e8_17, e8_18, e8_19, e8_20, e8_21, e8_24, e8_25, e8_26, e8_27, e8_28, e8_30, e8_31, e8_32, e8_33, e8_38, e8_39, e8_40, e8_41, e8_44, e8_46, e8_49, e8_50, e8_57, e8_59, e8_61, e8_62]
        rfl
      | succ k =>
        obtain ⟨q, hq⟩ := Option.isSome_iff_exists.mp (show (yRow 12 k).isSome = true from hs)
        have h3 := yRow_in hq
        simp only [yTab, List.mem_cons, List.not_mem_nil, or_false, Prod.mk.injEq] at h3
        rcases h3 with ⟨rfl, hq1, hq2⟩ | ⟨rfl, hq1, hq2⟩ | ⟨rfl, hq1, hq2⟩ | ⟨rfl, hq1, hq2⟩ | ⟨rfl, hq1, hq2⟩ | ⟨rfl, hq1, hq2⟩ | ⟨rfl, hq1, hq2⟩ | ⟨rfl, hq1, hq2⟩ | ⟨rfl, hq1, hq2⟩ | ⟨rfl, hq1, hq2⟩ | ⟨rfl, hq1, hq2⟩ | ⟨rfl, hq1, hq2⟩ | ⟨rfl, hq1, hq2⟩ | ⟨rfl, hq1, hq2⟩ | ⟨rfl, hq1, hq2⟩ | ⟨rfl, hq1, hq2⟩ | ⟨rfl, hq1, hq2⟩ | ⟨rfl, hq1, hq2⟩ | ⟨rfl, hq1, hq2⟩ | ⟨rfl, hq1, hq2⟩ | ⟨rfl, hq1, hq2⟩ | ⟨rfl, hq1, hq2⟩ | ⟨rfl, hq1, hq2⟩ | ⟨rfl, hq1, hq2⟩ | ⟨rfl, hq1, hq2⟩ | ⟨rfl, hq1, hq2⟩ | ⟨rfl, hq1, hq2⟩ | ⟨rfl, hq1, hq2⟩ | ⟨rfl, hq1, hq2⟩ | ⟨rfl, hq1, hq2⟩ | ⟨rfl, hq1, hq2⟩ | ⟨rfl, hq1, hq2⟩ | ⟨rfl, hq1, hq2⟩ | ⟨rfl, hq1, hq2⟩ | ⟨rfl, hq1, hq2⟩ | ⟨rfl, hq1, hq2⟩ | ⟨rfl, hq1, hq2⟩ | ⟨rfl, hq1, hq2⟩ | ⟨rfl, hq1, hq2⟩
        · rw [← Option.some.inj h2, show (yT0m c).2.1 8 1 = c + 1 from had 8 1 1 (by decide +kernel)]
          refine Eq.trans hc0 ?_
          first | rfl | (simp [yCon, yS0m]; done)
        · rw [← Option.some.inj h2, show (yT0m c).2.1 8 3 = c + 2 from had 8 3 2 (by decide +kernel)]
          refine Eq.trans hc1 ?_
          first | rfl | (simp [yCon, yS0m]; done)
        · rw [← Option.some.inj h2, show (yT0m c).2.1 8 4 = c + 3 from had 8 4 3 (by decide +kernel)]
          refine Eq.trans hc2 ?_
          first | rfl | (simp [yCon, yS0m]; done)
        · rw [← Option.some.inj h2, show (yT0m c).2.1 8 5 = c + 4 from had 8 5 4 (by decide +kernel)]
          refine Eq.trans hc3 ?_
          first | rfl | (simp [yCon, yS0m]; done)
        · rw [← Option.some.inj h2, show (yT0m c).2.1 8 6 = c + 5 from had 8 6 5 (by decide +kernel)]
          refine Eq.trans hc4 ?_
          first | rfl | (simp [yCon, yS0m]; done)
        · rw [← Option.some.inj h2, show (yT0m c).2.1 8 7 = c + 6 from had 8 7 6 (by decide +kernel)]
          refine Eq.trans hc5 ?_
          first | rfl | (simp [yCon, yS0m]; done)
        · rw [← Option.some.inj h2, show (yT0m c).2.1 8 8 = c + 7 from had 8 8 7 (by decide +kernel)]
          refine Eq.trans hc6 ?_
          first | rfl | (simp [yCon, yS0m]; done)
        · rw [← Option.some.inj h2, show (yT0m c).2.1 8 9 = c + 8 from had 8 9 8 (by decide +kernel)]
          refine Eq.trans hc7 ?_
          first | rfl | (simp [yCon, yS0m]; done)
        · rw [← Option.some.inj h2, show (yT0m c).2.1 8 11 = c + 9 from had 8 11 9 (by decide +kernel)]
          refine Eq.trans hc8 ?_
          first | rfl | (simp [yCon, yS0m]; done)
        · rw [← Option.some.inj h2, show (yT0m c).2.1 8 12 = c + 10 from had 8 12 10 (by decide +kernel)]
          refine Eq.trans hc9 ?_
          first | rfl | (simp [yCon, yS0m]; done)
        · rw [← Option.some.inj h2, show (yT0m c).2.1 8 13 = c + 11 from had 8 13 11 (by decide +kernel)]
          refine Eq.trans hc10 ?_
          first | rfl | (simp [yCon, yS0m]; done)
        · rw [← Option.some.inj h2, show (yT0m c).2.1 8 14 = c + 12 from had 8 14 12 (by decide +kernel)]
          refine Eq.trans hc11 ?_
          first | rfl | (simp [yCon, yS0m]; done)
        · rw [← Option.some.inj h2, show (yT0m c).2.1 8 15 = c + 13 from had 8 15 13 (by decide +kernel)]
          refine Eq.trans hc12 ?_
          first | rfl | (simp [yCon, yS0m]; done)
        · rw [← Option.some.inj h2, show (yT0m c).2.1 8 17 = c + 14 from had 8 17 14 (by decide +kernel)]
          refine Eq.trans hc13 ?_
          first | rfl | (simp [yCon, yS0m]; done)
        · rw [← Option.some.inj h2, show (yT0m c).2.1 8 18 = c + 15 from had 8 18 15 (by decide +kernel)]
          refine Eq.trans hc14 ?_
          first | rfl | (simp [yCon, yS0m]; done)
        · rw [← Option.some.inj h2, show (yT0m c).2.1 8 19 = c + 16 from had 8 19 16 (by decide +kernel)]
          refine Eq.trans hc15 ?_
          first | rfl | (simp [yCon, yS0m]; done)
        · rw [← Option.some.inj h2, show (yT0m c).2.1 8 20 = c + 17 from had 8 20 17 (by decide +kernel)]
          refine Eq.trans hc16 ?_
          first | rfl | (simp [yCon, yS0m]; done)
        · rw [← Option.some.inj h2, show (yT0m c).2.1 8 21 = c + 18 from had 8 21 18 (by decide +kernel)]
          refine Eq.trans hc17 ?_
          first | rfl | (simp [yCon, yS0m]; done)
        · rw [← Option.some.inj h2, show (yT0m c).2.1 8 24 = c + 19 from had 8 24 19 (by decide +kernel)]
          refine Eq.trans hc18 ?_
          first | rfl | (simp [yCon, yS0m]; done)
        · rw [← Option.some.inj h2, show (yT0m c).2.1 8 25 = c + 20 from had 8 25 20 (by decide +kernel)]
          refine Eq.trans hc19 ?_
          first | rfl | (simp [yCon, yS0m]; done)
        · rw [← Option.some.inj h2, show (yT0m c).2.1 8 26 = c + 21 from had 8 26 21 (by decide +kernel)]
          refine Eq.trans hc20 ?_
          first | rfl | (simp [yCon, yS0m]; done)
        · rw [← Option.some.inj h2, show (yT0m c).2.1 8 27 = c + 22 from had 8 27 22 (by decide +kernel)]
          refine Eq.trans hc21 ?_
          first | rfl | (simp [yCon, yS0m]; done)
        · rw [← Option.some.inj h2, show (yT0m c).2.1 8 28 = c + 23 from had 8 28 23 (by decide +kernel)]
          refine Eq.trans hc22 ?_
          first | rfl | (simp [yCon, yS0m]; done)
        · rw [← Option.some.inj h2, show (yT0m c).2.1 8 30 = c + 24 from had 8 30 24 (by decide +kernel)]
          refine Eq.trans hc23 ?_
          first | rfl | (simp [yCon, yS0m]; done)
        · rw [← Option.some.inj h2, show (yT0m c).2.1 8 31 = c + 25 from had 8 31 25 (by decide +kernel)]
          refine Eq.trans hc24 ?_
          first | rfl | (simp [yCon, yS0m]; done)
        · rw [← Option.some.inj h2, show (yT0m c).2.1 8 32 = c + 26 from had 8 32 26 (by decide +kernel)]
          refine Eq.trans hc25 ?_
          first | rfl | (simp [yCon, yS0m]; done)
        · rw [← Option.some.inj h2, show (yT0m c).2.1 8 33 = c + 27 from had 8 33 27 (by decide +kernel)]
          refine Eq.trans hc26 ?_
          first | rfl | (simp [yCon, yS0m]; done)
        · rw [← Option.some.inj h2, show (yT0m c).2.1 8 38 = c + 28 from had 8 38 28 (by decide +kernel)]
          refine Eq.trans hc27 ?_
          first | rfl | (simp [yCon, yS0m]; done)
        · rw [← Option.some.inj h2, show (yT0m c).2.1 8 39 = c + 29 from had 8 39 29 (by decide +kernel)]
          refine Eq.trans hc28 ?_
          first | rfl | (simp [yCon, yS0m]; done)
        · rw [← Option.some.inj h2, show (yT0m c).2.1 8 40 = c + 30 from had 8 40 30 (by decide +kernel)]
          refine Eq.trans hc29 ?_
          first | rfl | (simp [yCon, yS0m]; done)
        · rw [← Option.some.inj h2, show (yT0m c).2.1 8 41 = c + 31 from had 8 41 31 (by decide +kernel)]
          refine Eq.trans hc30 ?_
          first | rfl | (simp [yCon, yS0m]; done)
        · rw [← Option.some.inj h2, show (yT0m c).2.1 8 44 = c + 32 from had 8 44 32 (by decide +kernel)]
          refine Eq.trans hc31 ?_
          first | rfl | (simp [yCon, yS0m]; done)
        · rw [← Option.some.inj h2, show (yT0m c).2.1 8 46 = c + 33 from had 8 46 33 (by decide +kernel)]
          refine Eq.trans hc32 ?_
          first | rfl | (simp [yCon, yS0m]; done)
        · rw [← Option.some.inj h2, show (yT0m c).2.1 8 49 = c + 34 from had 8 49 34 (by decide +kernel)]
          refine Eq.trans hc33 ?_
          first | rfl | (simp [yCon, yS0m]; done)
        · rw [← Option.some.inj h2, show (yT0m c).2.1 8 50 = c + 35 from had 8 50 35 (by decide +kernel)]
          refine Eq.trans hc34 ?_
          first | rfl | (simp [yCon, yS0m]; done)
        · rw [← Option.some.inj h2, show (yT0m c).2.1 8 57 = c + 36 from had 8 57 36 (by decide +kernel)]
          refine Eq.trans hc35 ?_
          first | rfl | (simp [yCon, yS0m]; done)
        · rw [← Option.some.inj h2, show (yT0m c).2.1 8 59 = c + 37 from had 8 59 37 (by decide +kernel)]
          refine Eq.trans hc36 ?_
          first | rfl | (simp [yCon, yS0m]; done)
        · rw [← Option.some.inj h2, show (yT0m c).2.1 8 61 = c + 38 from had 8 61 38 (by decide +kernel)]
          refine Eq.trans hc37 ?_
          first | rfl | (simp [yCon, yS0m]; done)
        · rw [← Option.some.inj h2, show (yT0m c).2.1 8 62 = c + 39 from had 8 62 39 (by decide +kernel)]
          refine Eq.trans hc38 ?_
          first | rfl | (simp [yCon, yS0m]; done)
  · obtain ⟨n, hn⟩ := yH0m (hal o h1) h3
    obtain ⟨n', hn'⟩ := yH0m (hal o' h2) h4
    exact yAd_inj yL0m_inj hn hn' ((had _ _ _ hn).symm.trans (h5.trans (had _ _ _ hn')))
  · obtain ⟨n, hn⟩ := yH0m (hal o h1) h2
    have e : (yT0m c).2.1 o j = c + n := had _ _ _ hn
    have hl := yL0m_lt _ hn
    rw [e]
    refine ⟨?_, by show c + n < c + 40; simp only [] at hl; omega⟩
    cases hf : F (c + n) with
    | none => rfl
    | some z => have := (hF _ z hf).2; omega
  · obtain ⟨a1, a2⟩ := hF x z h1
    exact ⟨a1, by show x < c + 40; omega⟩
  · exfalso
    have ho := hal o h1
    simp only [yS0m] at h4
    split at h4
    · next e => obtain ⟨rfl, rfl⟩ := e; rw [show yRow (oc 8) 10 = some (0, 64) from rfl] at h2; cases h2; exact absurd h3 (by decide)
    · exact absurd (show (0 : Int32) = 1 from h4) (by decide)
  · exfalso
    have ho := hal o h1
    subst ho
    exact absurd h2 (by decide)
  · have := hal o h1; omega
  · have := hal o h1; omega
