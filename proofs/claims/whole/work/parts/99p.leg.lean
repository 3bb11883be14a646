/-! LEG, all of it -/
theorem cntR_ext {c c' : Nat → Nat} {l : Nat} : ∀ k, (∀ x, x < k → c x = c' x) → cntR c l k = cntR c' l k
  | 0, _ => rfl
  | k + 1, h => by
    unfold cntR
    rw [cntR_ext k (fun x hx => h x (by omega)), h k (by omega)]
theorem RDc_ext {c c' : Nat → Nat} {f g : Nat → Int32} (h : RDc c f g) (e : ∀ x, x < 8 → c x = c' x) : RDc c' f g := by
  intro x y hx hy
  obtain ⟨p, q, hp, hq, h1, h2⟩ := h x y hx hy
  refine ⟨p, q, hp, hq, fun z => ?_, fun z => ?_⟩
  · rw [← e x hx, ← cntR_ext 8 e]
    exact h1 (by rw [e x hx, e y hy]; exact z)
  · exact h2 (by rw [e x hx, e y hy]; exact z)
theorem jn_cg {c : Nat → Nat} {a b x y : Nat} (h : c x = c y) : jn c a b x = jn c a b y := by
  unfold jn
  rw [h]
theorem jn_abs {c : Nat → Nat} {a b : Nat} : jn c a b a = c a ∧ jn c a b b = c a := by
  unfold jn
  refine ⟨?_, by rw [if_pos rfl]⟩
  by_cases z : c a = c b
  · rw [if_pos z]
  · rw [if_neg z]
/-- the labels after a leg -/
def cLb (c : Nat → Nat) (a b nl : Nat) : Nat → Nat := fun z => if z = 64 + nl then c a else if z < 900 then jn c a b z else c z
theorem cLb_o {c : Nat → Nat} {a b nl z : Nat} (h : z ≠ 64 + nl) (h9 : z < 900) : cLb c a b nl z = jn c a b z := by
  unfold cLb
  rw [if_neg h, if_pos h9]
theorem cLb_h {c : Nat → Nat} {a b nl z : Nat} (hn : nl < 12) (h9 : 900 ≤ z) : cLb c a b nl z = c z := by
  unfold cLb
  rw [if_neg (by omega), if_neg (by omega)]
theorem C_leg {N : Nat} {Sc Sm : yS} (h : RAe Sc Sm) (hN : 8 < N) (l1 l2 l3 l4 : Int32) : cAll (f_X11_leg N Sc l1 l2 l3 l4) (f_X12_leg N Sm l1 l2 l3 l4) := by
  have h0 := h
  obtain ⟨cK, nf, nl, np, nq, nb, ng, r, x, hA⟩ := h
  have hT := hA.1
  have hG := hT.2.1
  have hF := hT.1
  have nf8 : nf ≤ 8 := hF.2.1
  by_cases ok : okLeg nl (Sc.1 1 3) l1 l2 l3 l4
  · obtain ⟨a, b, f, g, ha, hb, a8, b8, hRD, e1, e2⟩ := leg_both hG hF hT.2.2.1.1 hN ok
    obtain ⟨o1, o2, o3, hn, ⟨o5, o6⟩, o7⟩ := ok
    have nb30 : nb ≤ 30 := hT.2.2.2.2.2.2.1.2.2.1.2.1
    have np8 : np ≤ 8 := hT.2.2.2.2.2.2.1.1.2.1
    have afn : a < nf := by obtain ⟨y, y1, y2⟩ := nn_idx hF.1 o1; rw [nn_inj ha y1]; exact y2
    have bfn : b < nf := by obtain ⟨y, y1, y2⟩ := nn_idx hF.1 o2; rw [nn_inj hb y1]; exact y2
    have hm := nn_of (Int32.le_trans (by decide) o5)
    have m1 := (nn_le (nn_l 10 (by decide)) hm).mp o5
    have m2 := (nn_le hm (nn_l 400 (by decide))).mp o6
    obtain ⟨t3a, t3l, t3b, t3f⟩ := hT.2.2.1
    have hC : FR (pcLe nl) Sc (cLeg Sc nl l1 l2 l3 l4 g) := fun o k z => by
      unfold pcLe at z
      exact ⟨cLeg_i (by omega) (by omega), cLeg_a (by omega) (by omega) (by omega)⟩
    have hM : FR pmLe Sm (mLeg Sm nl l1 l2 l3 l4 f) := FR_trans (FR_I _ _ _ _ ⟨rfl, by decide⟩) (FR_trans (FR_A _ _ _ _ ⟨rfl, by decide⟩) (FR_trans (FR_A _ _ _ _ ⟨rfl, by decide⟩) (FR_trans (FR_A _ _ _ _ ⟨rfl, by decide⟩) (FR_trans (FR_A _ _ _ _ ⟨rfl, by decide⟩) (FR_trans (FR_A _ _ _ _ ⟨rfl, by decide⟩) (FR_trans (FR_I _ _ _ _ ⟨rfl, by decide⟩) (FR_A _ _ _ _ ⟨rfl, by decide⟩)))))))
    have cL : ∀ l k, l < nl → (cLeg Sc nl l1 l2 l3 l4 g).1 (64 + l) k = Sc.1 (64 + l) k ∧ (cLeg Sc nl l1 l2 l3 l4 g).2.1 (64 + l) k = Sc.2.1 (64 + l) k := fun l k hl => hC (64 + l) k (by unfold pcLe; omega)
    have cN : ∀ k, (cLeg Sc nl l1 l2 l3 l4 g).1 (64 + nl) k = nLeg l1 l2 l3 l4 k := fun k => cLeg_n
    refine ⟨_, _, _, e1, e2, RA_of (cK' := cLb cK a b nl) (nl' := nl + 1) hA hC hM (fun k _ _ z => by unfold pcLe at z; omega) (fun k a b z => by have := z.2; omega) (fun z hz => cLb_h hn (by omega)) (ST_leg hT hA.2.1 hn hC hM ?_ (RG_leg hG hn ha a8 hb b8 hm m1 m2) ?_ ?_ ?_)⟩
    · have cu : ∀ x, cU nf nl np nb x → cLb cK a b nl x = jn cK a b x := fun x hx => by
        unfold cU at hx
        exact cLb_o (by omega) (by omega)
      exact ⟨fun x y hx hy e => by rw [cu x hx, cu y hy]; exact jn_cg e, fun x hx => cLb_h hn (by omega), fun p hp => by rw [cLb_h hn (by omega)]; exact (t3f p (by omega)).mpr hp⟩
    · have e7 : (cLeg Sc nl l1 l2 l3 l4 g).2.1 1 7 = g := cLeg_7
      have e10 : (mLeg Sm nl l1 l2 l3 l4 f).2.1 8 10 = f := by unfold mLeg; rw [yA_same]
      rw [e7, e10]
      exact RDc_ext hRD (fun x hx => (cLb_o (by omega) (by omega)).symm)
    · refine ⟨fun l hl y hy => ?_, fun b' hb' y hy => ?_, fun p hp => ?_⟩
      · rcases Nat.lt_or_ge l nl with z | z
        · rw [(cL l 0 z).1, (cL l 1 z).1] at hy
          have e := t3l l z y hy
          obtain ⟨k, hR⟩ := hG.2.2.2.1 l z
          obtain ⟨_, ⟨ya, ya1, ya2⟩, ⟨yb, yb1, yb2⟩, _⟩ := hR
          have y8 : y < 8 := by
            rcases hy with w | w
            · have := nn_inj w ya1; omega
            · have := nn_inj w yb1; omega
          rw [cLb_o (by omega) (by omega), cLb_o (by omega) (by omega)]
          exact jn_cg e
        · have el : l = nl := by omega
          subst el
          rw [cN 0, cN 1] at hy
          have e64 : cLb cK a b l (64 + l) = cK a := by unfold cLb; rw [if_pos rfl]
          rw [e64]
          rcases hy with w | w
          · have := nn_inj w ha
            rw [this, cLb_o (by omega) (by omega)]; exact jn_abs.1
          · have := nn_inj w hb
            rw [this, cLb_o (by omega) (by omega)]; exact jn_abs.2
      · have c0 : ∀ k, (cLeg Sc nl l1 l2 l3 l4 g).1 (384 + b') k = Sc.1 (384 + b') k := fun k => (hC (384 + b') k (by unfold pcLe; omega)).1
        rw [c0, c0] at hy
        have e := t3b b' hb' y hy
        obtain ⟨_, _, _, _, _, _, ⟨ya, ya1, ya2⟩, ⟨yb, yb1, yb2⟩, _⟩ := hT.2.2.2.2.2.2.2.2.2.1 b' hb'
        have y8 : y < 8 := by
          rcases hy with w | w
          · have := nn_inj w ya1; omega
          · have := nn_inj w yb1; omega
        rw [cLb_o (by omega) (by omega), cLb_o (by omega) (by omega)]
        exact jn_cg e
      · rw [cLb_h hn (by omega)]; exact t3f p hp
    · intro l hl
      rcases Nat.lt_or_ge l nl with z | z
      · obtain ⟨k, M, w1, w2, w3, w4, w5, w6⟩ := hT.2.2.2.2.2.2.2.2.2.2.2.2.2 l z
        exact ⟨k, M, by rw [(cL l 4 z).1]; exact w1, w2, by rw [(cL l 2 z).1]; exact w3, fun j hj => by rw [(cL l 5 z).2, (cL l 6 z).2]; exact w4 j hj, by rw [(cL l 0 z).1]; exact w5, by rw [(cL l 1 z).1]; exact w6⟩
      · have el : l = nl := by omega
        subst el
        exact ⟨0, _, by rw [cN 4]; exact nn_l 0 (by decide), by decide, by rw [cN 2]; exact hm, fun j hj => by omega, ⟨a, by rw [cN 0]; exact ha, afn⟩, b, by rw [cN 1]; exact hb, bfn⟩
  · rw [(e_leg (N := N) hG l1 l2 l3 l4).2 ok, (em_leg (N := N) hG hF.2.2.1 l1 l2 l3 l4).2 ok]
    exact ⟨-1, _, _, rfl, rfl, RA_clear h0⟩
