/-! SMALL STEPS that keep the dynamic relation -/
def pI1 (o k : Nat) : Prop := (o = 4 ∨ o = 5) ∧ (k = 1 ∨ k = 2 ∨ k = 7)
def pI2 (o k : Nat) : Prop := o = 8 ∧ (k = 47 ∨ (50 ≤ k ∧ k ≤ 57))
theorem DY_irr {cK : Nat → Nat} {nf nl np nq nb ng : Nat} {Sc Sm Sc' Sm' : yS} (h : DY cK nf nl np nq nb ng Sc Sm) (hnb : nb ≤ 30) (hc : FR pI1 Sc Sc') (hm : FR pI2 Sm Sm') : DY cK nf nl np nq nb ng Sc' Sm' := by
  have c : ∀ o k, (o < 4 ∨ 5 < o) → Sc'.1 o k = Sc.1 o k ∧ Sc'.2.1 o k = Sc.2.1 o k := fun o k z => hc o k (fun y => by have := y.1; omega)
  have w : Sm'.2.1 8 48 = Sm.2.1 8 48 := (hm 8 48 (fun y => by have := y.2; omega)).2
  obtain ⟨d1, d2, d3, ⟨kw, d4⟩, d5, d6, d7, d8, d9⟩ := h
  refine ⟨?_, ?_, ?_, ⟨kw, ?_⟩, ?_, ?_, ?_, ?_, ?_⟩
  · rw [w, (c 2 13 (by omega)).1]; exact d1
  · rw [w, (c 2 14 (by omega)).1]; exact d2
  · rw [(c 2 13 (by omega)).1]; exact d3
  · exact RWk_congr d4 (c 3 0 (by omega)).1 (c 3 1 (by omega)).1 (hm 8 34 (fun y => by have := y.2; omega)).1 (funext fun k => (c 3 k (by omega)).2) (by rw [w]) (fun i _ _ => by rw [w])
  · intro p hp j hj
    rw [w, (c _ _ (by omega)).1]; exact d5 p hp j hj
  · intro p hp j hj
    rw [w, (c _ _ (by omega)).1]; exact d6 p hp j hj
  · exact RBd_fr d7 hnb (fun b _ k => c _ k (by omega)) (fun i _ _ => by rw [w])
  · intro p hp j hj
    rw [w, (c _ _ (by omega)).1]; exact d8 p hp j hj
  · intro p hp
    exact PI_keep (d9 p hp) (fun k => (c _ k (by omega)).1) (c _ 19 (by omega)).2 (fun j _ => by rw [w]) (fun l _ => (c _ 2 (by omega)).1) (fun g _ hne => by rw [(c _ 7 (by omega)).1, (c _ 4 (by omega)).1, (c _ 1 (by omega)).1, (c _ 2 (by omega)).1]; exact ⟨rfl, hne, rfl, rfl⟩)
/-- a plane's number changes on both sides -/
theorem DY_pl {cK : Nat → Nat} {nf nl np nq nb ng p j : Nat} {Sc Sm : yS} {v : Int32} (h : DY cK nf nl np nq nb ng Sc Sm) (hc : oC np nq nb ng Sc Sm) (hl : nl ≤ 12) (hp : p < np) (hj : j < 12) (hPI : PI cK nf nl nq ng (yI Sc (128 + p) (pS j) v) (yA Sm 8 48 (upd (Sm.2.1 8 48) (19 + 23 * p + j) v)) p) : DY cK nf nl np nq nb ng (yI Sc (128 + p) (pS j) v) (yA Sm 8 48 (upd (Sm.2.1 8 48) (19 + 23 * p + j) v)) := by
  have hD := h
  have np8 : np ≤ 8 := hc.1.2.1
  have nq8 : nq ≤ 8 := hc.2.1.2.1
  have nb30 : nb ≤ 30 := hc.2.2.1.2.1
  have ng24 : ng ≤ 24 := hc.2.2.2.2.1
  obtain ⟨d1, d2, d3, ⟨kw, d4⟩, d5, d6, d7, d8, d9⟩ := h
  have c : ∀ o k, o ≠ 128 + p → (yI Sc (128 + p) (pS j) v).1 o k = Sc.1 o k := fun o k z => yI_1n _ _ (fun y => z y.1)
  have w : ∀ i, i ≠ 19 + 23 * p + j → (yA Sm 8 48 (upd (Sm.2.1 8 48) (19 + 23 * p + j) v)).2.1 8 48 i = Sm.2.1 8 48 i := fun i z => by rw [yA_same, upd_o _ _ z]
  refine DY_one (p := p) hD ?_ ?_ ?_ ⟨kw, ?_⟩ ?_ ?_ ?_ hPI ?_ ?_ ?_ ?_ ?_
  · rw [w 0 (by omega), c 2 13 (by omega)]; exact d1
  · rw [w 1 (by omega), c 2 14 (by omega)]; exact d2
  · rw [c 2 13 (by omega)]; exact d3
  · exact RWk_congr d4 (c 3 0 (by omega)) (c 3 1 (by omega)) rfl rfl (w 2 (by omega)) (fun i a b => w i (by omega))
  · intro p' hp' hne
    exact ⟨fun k => c _ k (by omega), rfl⟩
  · intro p' hp' hne j' hj'
    exact w _ (by omega)
  · intro j' hj'
    by_cases e : j' = j
    · subst e
      rw [yA_same, upd_s, yI_1s]
    · rw [w _ (by omega), yI_1n _ _ (fun y => e ?_)]
      · exact d5 p hp j' hj'
      · have key : ∀ a, a < 12 → ∀ b, b < 12 → pS a = pS b → a = b := by decide
        exact key j' hj' j hj y.2
  · intro q hq j' hj'
    rw [w _ (by omega), c _ _ (by omega)]; exact d6 q hq j' hj'
  · exact RBd_fr d7 nb30 (fun b hb k => ⟨c _ k (by omega), rfl⟩) (fun i a b => w i (by omega))
  · intro g hg j' hj'
    rw [w _ (by omega), c _ _ (by omega)]; exact d8 g hg j' hj'
  · intro l hl'
    exact c _ 2 (by omega)
  · intro g hg hne
    rw [c _ 7 (by omega), c _ 4 (by omega), c _ 1 (by omega), c _ 2 (by omega)]
    exact ⟨rfl, hne, rfl, rfl⟩
/-- other single numbers -/
theorem DY_any {cK : Nat → Nat} {nf nl np nq nb ng o k i : Nat} {Sc Sm : yS} {v : Int32} (h : DY cK nf nl np nq nb ng Sc Sm) (hc : oC np nq nb ng Sc Sm) (hl : nl ≤ 12) (hoki : (o = 2 ∧ k = 14 ∧ i = 1) ∨ (∃ q, q < nq ∧ o = 256 + q ∧ k < 4 ∧ i = 203 + 4 * q + k) ∨ (∃ g j, g < ng ∧ o = 512 + g ∧ j < 5 ∧ j ≠ 0 ∧ k = fSl j ∧ i = 1345 + 5 * g + j)) : DY cK nf nl np nq nb ng (yI Sc o k v) (yA Sm 8 48 (upd (Sm.2.1 8 48) i v)) := by
  have np8 : np ≤ 8 := hc.1.2.1
  have nq8 : nq ≤ 8 := hc.2.1.2.1
  have nb30 : nb ≤ 30 := hc.2.2.1.2.1
  have ng24 : ng ≤ 24 := hc.2.2.2.2.1
  have kf : ∀ j, j < 5 → fSl j = 4 ∨ fSl j = 5 ∨ fSl j = 6 ∨ fSl j = 8 ∨ fSl j = 9 := by decide
  have kf0 : ∀ j, j < 5 → j ≠ 0 → fSl j ≠ 4 := by decide
  have kfi : ∀ a, a < 5 → ∀ b, b < 5 → fSl a = fSl b → a = b := by decide
  obtain ⟨d1, d2, d3, ⟨kw, d4⟩, d5, d6, d7, d8, d9⟩ := h
  have ho : o = 2 ∨ (256 ≤ o ∧ o < 264) ∨ (512 ≤ o ∧ o < 536) := by
    rcases hoki with ⟨a, _, _⟩ | ⟨q, a, b, _⟩ | ⟨g, j, a, b, _⟩ <;> omega
  have hi : i = 1 ∨ (203 ≤ i ∧ i < 235) ∨ (1345 ≤ i ∧ i < 1465) := by
    rcases hoki with ⟨_, _, a⟩ | ⟨q, a, b, c, d⟩ | ⟨g, j, a, b, c, d, e, f⟩ <;> omega
  have c : ∀ o' k', (o' ≠ o ∨ k' ≠ k) → (yI Sc o k v).1 o' k' = Sc.1 o' k' := fun o' k' z => yI_1n _ _ (fun y => by have := y.1; have := y.2; omega)
  have w : ∀ i', i' ≠ i → (yA Sm 8 48 (upd (Sm.2.1 8 48) i v)).2.1 8 48 i' = Sm.2.1 8 48 i' := fun i' z => by rw [yA_same, upd_o _ _ z]
  have h13 : (yI Sc o k v).1 2 13 = Sc.1 2 13 := c 2 13 (by rcases hoki with ⟨a, b, _⟩ | ⟨q, a, b, _⟩ | ⟨g, j, a, b, _⟩ <;> omega)
  refine ⟨?_, ?_, ?_, ⟨kw, ?_⟩, ?_, ?_, ?_, ?_, ?_⟩
  · rw [w 0 (by omega), h13]; exact d1
  · rcases hoki with ⟨a, b, e⟩ | ⟨q, a, b, e, f⟩ | ⟨g, j, a, b, e, f, g', h'⟩
    · subst a; subst b; subst e
      rw [yA_same, upd_s, yI_1s]
    · rw [w 1 (by omega), c 2 14 (by omega)]; exact d2
    · rw [w 1 (by omega), c 2 14 (by omega)]; exact d2
  · rw [h13]; exact d3
  · exact RWk_congr d4 (c 3 0 (by omega)) (c 3 1 (by omega)) rfl rfl (w 2 (by omega)) (fun i' a b => w i' (by omega))
  · intro p hp j hj
    rw [w _ (by omega), c _ _ (by omega)]; exact d5 p hp j hj
  · intro q' hq' j' hj'
    rcases hoki with ⟨a, b, e⟩ | ⟨q, a, b, e, f⟩ | ⟨g, j, a, b, e, f, g', h'⟩
    · rw [w _ (by omega), c _ _ (by omega)]; exact d6 q' hq' j' hj'
    · by_cases z : q' = q ∧ j' = k
      · obtain ⟨z1, z2⟩ := z
        subst z1; subst z2
        rw [f, b, yA_same, upd_s, yI_1s]
      · rw [w _ (by omega), c _ _ (by omega)]; exact d6 q' hq' j' hj'
    · rw [w _ (by omega), c _ _ (by omega)]; exact d6 q' hq' j' hj'
  · exact RBd_fr d7 nb30 (fun b hb k' => ⟨c _ k' (by omega), rfl⟩) (fun i' a b => w i' (by omega))
  · intro g' hg' j' hj'
    rcases hoki with ⟨a, b, e⟩ | ⟨q, a, b, e, f⟩ | ⟨g, j, a, b, e, f, gg, h'⟩
    · rw [w _ (by omega), c _ _ (by omega)]; exact d8 g' hg' j' hj'
    · rw [w _ (by omega), c _ _ (by omega)]; exact d8 g' hg' j' hj'
    · by_cases z : g' = g ∧ j' = j
      · obtain ⟨z1, z2⟩ := z
        subst z1; subst z2
        rw [h', b, gg, yA_same, upd_s, yI_1s]
      · rw [w _ (by omega), c _ _ ?_]
        · exact d8 g' hg' j' hj'
        · by_cases y : g' = g
          · right
            rw [gg]
            exact fun x => z ⟨y, kfi j' hj' j e x⟩
          · left; omega
  · intro p hp
    have hk : ∀ g, g < ng → o = 512 + g → k ≠ 4 ∧ k ≠ 7 ∧ k ≠ 1 ∧ k ≠ 2 := by
      intro g hg ho'
      rcases hoki with ⟨a, b, e⟩ | ⟨q, a, b, e, f⟩ | ⟨g', j, a, b, e, f, gg, h'⟩
      · omega
      · omega
      · have := kf j e
        have := kf0 j e f
        omega
    refine PI_keep (d9 p hp) (fun k' => c _ k' (by omega)) rfl (fun j hj => w _ (by omega)) (fun l hl' => c _ 2 (by omega)) (fun g hg hne => ?_)
    by_cases y : o = 512 + g
    · obtain ⟨k1, k2, k3, k4⟩ := hk g hg y
      rw [c _ 7 (by omega), c _ 4 (by omega), c _ 1 (by omega), c _ 2 (by omega)]
      exact ⟨rfl, hne, rfl, rfl⟩
    · rw [c _ 7 (by omega), c _ 4 (by omega), c _ 1 (by omega), c _ 2 (by omega)]
      exact ⟨rfl, hne, rfl, rfl⟩
