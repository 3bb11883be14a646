/-! THE FIRST STATES -/
def cK0 (z : Nat) : Nat := if z < 8 then z else 0
theorem s0c {o k : Nat} (h : 8 ≤ o ∨ (o = 0 ∨ o = 1)) : yS0c.1 o k = 0 := by
  unfold yS0c
  show (if o = 2 ∧ k = 15 then (6 : Int32) else if o = 2 ∧ k = 16 then 1 else if o = 3 ∧ k = 0 then 4 else if o = 4 ∧ k = 1 then (-2) else if o = 5 ∧ k = 1 then (-2) else 0) = 0
  rw [if_neg (by omega), if_neg (by omega), if_neg (by omega), if_neg (by omega), if_neg (by omega)]
theorem fr0 : ∀ x, x < 8 → ∀ y, y < 8 → yFr (8 * x + y) = (if x = y then 0 else 268435456) ∧ yLd (8 * x + y) = (if x = y then 0 else 1000000) := by decide +kernel
theorem ct0 : ∀ x, x < 8 → cntR cK0 (cK0 x) 8 = 1 := by decide +kernel
theorem n00 : nn (0 : Int32) 0 := nn_l 0 (by decide)
theorem RA_first : RAe yS0c yS0m := by
  have no : ∀ {p : Nat} {P : Prop}, p < 0 → P := fun h => absurd h (Nat.not_lt_zero _)
  have n1 : ¬ (0 : Int32) = 1 := by decide
  have rdc : RDc cK0 (yS0m.2.1 8 10) (yS0c.2.1 1 7) := fun x y hx hy => by
    obtain ⟨a, b⟩ := fr0 x hx y hy
    have a' : yS0m.2.1 8 10 (8 * x + y) = yFr (8 * x + y) := if_pos (by omega)
    have b' : yS0c.2.1 1 7 (8 * x + y) = yLd (8 * x + y) := if_pos (by omega)
    have cx : cK0 x = x := if_pos hx
    have cy : cK0 y = y := if_pos hy
    by_cases e : x = y
    · rw [if_pos e] at a b
      refine ⟨0, 0, by rw [a', a]; exact n00, by rw [b', b]; exact n00, fun _ => ⟨rfl, Nat.zero_le _⟩, fun z => absurd (by rw [e]) z⟩
    · rw [if_neg e] at a b
      refine ⟨268435456, 1000000, by rw [a', a]; exact nn_l _ (by decide), by rw [b', b]; exact nn_l _ (by decide), fun z => absurd (by rw [cx, cy] at z; exact z) e, fun _ => ⟨rfl, rfl⟩⟩
  have hRF : RF 0 yS0c yS0m := ⟨n00, by decide, rfl, fun i hi => ⟨rfl, rfl, rfl, Or.inl rfl, 0, n00, by decide⟩⟩
  have hRG : RG 0 yS0c yS0m := ⟨n00, by decide, rfl, fun i hi => no hi, fun i _ _ => ⟨n1, by rw [s0c (by omega)]; exact n1⟩⟩
  have hcE : cE cK0 0 0 0 yS0c := ⟨fun l hl => no hl, fun l hl => no hl, fun p hp => by
    have : cK0 (900 + p) = 0 := if_neg (by omega)
    rw [this]
    exact ⟨fun z => absurd z (by decide), fun z => no z⟩⟩
  have hRT : RT 0 yS0c yS0m := ⟨n00, by decide, rfl, fun i hi => ⟨rfl, rfl, rfl, rfl⟩⟩
  have hRR : RR 0 0 yS0c yS0m := ⟨n00, by decide, rfl, n00, by decide, rfl, fun i hi => no hi, fun i hi => no hi⟩
  have hRS : RS yS0c yS0m := ⟨rfl, rfl, rfl⟩
  have hoC : oC 0 0 0 0 yS0c yS0m := ⟨⟨n00, by decide, rfl⟩, ⟨n00, by decide, rfl⟩, ⟨n00, by decide, rfl⟩, ⟨n00, by decide, rfl⟩⟩
  have hoR : oR 0 yS0c := ⟨fun _ => 0, fun i hi => no hi, fun i j _ hj => no hj, fun b hb => no hb⟩
  have f0 : ∀ o k, 64 ≤ o → ¬ yS0c.1 o k = 1 := fun o k h => by rw [s0c (by omega)]; exact n1
  have hoN : oN 0 0 0 0 yS0c := ⟨fun p _ _ => ⟨n1, f0 _ _ (by omega)⟩, fun p _ _ => ⟨n1, f0 _ _ (by omega)⟩, fun p _ _ => ⟨n1, f0 _ _ (by omega)⟩, fun p _ _ => ⟨n1, f0 _ _ (by omega)⟩, fun p _ => f0 _ _ (by omega), fun p _ => f0 _ _ (by omega), fun p _ => f0 _ _ (by omega), fun p _ => f0 _ _ (by omega)⟩
  have hST : ST cK0 0 0 0 0 0 0 yS0c yS0m := ⟨hRF, hRG, ⟨rdc, hcE⟩, ⟨0, hRT, fun i hi => no hi⟩, ⟨0, 0, hRR, fun r hr => no hr, fun r hr => no hr⟩, hRS, hoC, fun p hp => no hp, fun p hp => no hp, fun p hp => no hp, fun p hp => no hp, hoR, hoN, fun l hl => no hl⟩
  have hRW : RW 0 yS0c yS0m := ⟨n00, by decide, rfl, rfl, fun i hi => no hi⟩
  have k10 : cK0 1000 = 0 := rfl
  have hDY : DY cK0 0 0 0 0 0 0 yS0c yS0m := ⟨rfl, rfl, ⟨0, n00, by decide⟩, ⟨0, hRW, Nat.le_of_eq k10, fun j i _ _ h => by rw [k10] at h; exact no h⟩, fun p hp => no hp, fun p hp => no hp, fun p hp => no hp, fun p hp => no hp, fun p hp => no hp⟩
  exact ⟨cK0, 0, 0, 0, 0, 0, 0, 0, 0, hST, hDY, ⟨n00, by decide, rfl, fun i hi => no hi⟩, ⟨n00, by decide, rfl, fun i hi => no hi⟩, fun z a b => if_neg (by omega)⟩
