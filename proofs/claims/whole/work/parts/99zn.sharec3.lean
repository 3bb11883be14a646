/-! SEND: the class's share, its digits -/
theorem ll_nn {x : Int64} {m : Nat} (h : ll x m) (hm : m < 2147483648) : nn x.toInt32 m := by
  refine ⟨?_, hm⟩
  apply Int32.toInt_inj.mp
  rw [Int64.toInt_toInt32, h.int, (nn_lit m hm).int, Int.bmod_def]
  split <;> omega
theorem un_le (s : Nat → Nat) : ∀ n, unS s n ≤ n := by
  intro n
  induction n with
  | zero => exact Nat.le_refl _
  | succ n ih =>
    have e : unS s (n + 1) = unS s n + if s n = 8 then 1 else 0 := rfl
    by_cases c : s n = 8
    · rw [if_pos c] at e; omega
    · rw [if_neg c] at e; omega
theorem qu_le {q : Nat → Nat → Nat} {s : Nat → Nat} : ∀ n, (∀ i, i < n → s i ≠ 8 → q (s i) i ≤ 351) → quS q s n ≤ n * 351 := by
  intro n
  induction n with
  | zero => intro _; exact Nat.le_refl _
  | succ n ih =>
    intro h
    have a := ih (fun i hi => h i (by omega))
    have e : quS q s (n + 1) = quS q s n + if s n = 8 then 0 else q (s n) n := rfl
    by_cases c : s n = 8
    · rw [if_pos c] at e; omega
    · rw [if_neg c] at e
      have := h n (by omega) c
      omega
/-- the digits from the lowest place up: places behind the planes get a digit that nobody reads -/
theorem digit_loop {N n K X : Nat} {s : Nat → Nat} {S : yS} (n8 : n ≤ 8) (hs : ∀ i, i < n → s i ≤ 8) (hX : X = K * 43046721 + dgS s n) : ∀ (i k : Nat) (y : Int64) (l : Int32) (R : Nat → Int32), i ≤ 8 → i < k → ll y (X / 9 ^ (8 - i)) → (i = 0 → l < 0) → (∀ m, i = m + 1 → nn l m) → (∀ j, i ≤ j → j < n → R j = if s j = 8 then -1 else Int32.ofNat (s j)) → ∃ R', f_X7_readFields_6 k N (yA S 6 1 R) y l = some (0, yA S 6 1 R') ∧ ∀ j, j < n → R' j = if s j = 8 then -1 else Int32.ofNat (s j) := by
  intro i
  induction i with
  | zero =>
    intro k y l R _ hk _ hl _ hR
    obtain ⟨k, rfl⟩ : ∃ x, k = x + 1 := ⟨k - 1, by omega⟩
    rw [f_X7_readFields_6, if_pos (hl rfl)]
    exact ⟨R, rfl, fun j hj => hR j (Nat.zero_le _) hj⟩
  | succ i ih =>
    intro k y l R hi hk hy _ hl hR
    obtain ⟨k, rfl⟩ : ∃ x, k = x + 1 := ⟨k - 1, by omega⟩
    have li := hl i rfl
    have e7 : 8 - (i + 1) = 7 - i := by omega
    rw [e7] at hy
    have g := ll_mod hy (ll_lit 9 (by decide))
    have g2 := ll_nn g (by omega)
    have hy' := ll_div hy (ll_lit 9 (by decide))
    rw [Nat.div_div_eq_div_mul, ← Nat.pow_succ, show (7 - i).succ = 8 - i by omega] at hy'
    have dg : i < n → X / 9 ^ (7 - i) % 9 = s i := fun hi => by rw [hX]; exact dg_get hs n8 hi K
    have ls : l + (-1) = l - 1 := (Int32.sub_eq_add_neg l 1).symm
    have l0 : i = 0 → l + (-1) < 0 := fun z => by
      have := li.1
      rw [this, z]
      decide
    have l1 : ∀ m, i = m + 1 → nn (l + (-1)) m := fun m hm => by
      rw [ls, show m = i - 1 by omega]
      exact nn_sub li (nn_l 1 (by decide)) (by omega)
    rw [f_X7_readFields_6, if_neg li.nneg]
    unfold f_X7_readFields_38
    rw [gA_nn li (by omega), gA_nn li (by omega), sq_s, sq_s, yA_yA, yA_yA, yA_same]
    have fin : ∀ v : Int32, (i < n → v = if s i = 8 then -1 else Int32.ofNat (s i)) → ∃ R', f_X7_readFields_6 k N (yA S 6 1 (upd R i v)) (y / 9) (l + (-1)) = some (0, yA S 6 1 R') ∧ ∀ j, j < n → R' j = if s j = 8 then -1 else Int32.ofNat (s j) := fun v hv => ih k (y / 9) (l + (-1)) (upd R i v) (by omega) (by omega) hy' l0 l1 (fun j hj hn => by
      by_cases e : j = i
      · rw [e, upd_s]; exact hv (e ▸ hn)
      · rw [upd_o _ _ e]; exact hR j (by omega) hn)
    have e8 := nn_eq g2 (nn_l 8 (by decide))
    by_cases c : X / 9 ^ (7 - i) % 9 = 8
    · have : (y - y / 9 * 9).toInt32 = 8 := e8.mpr c
      rw [if_neg (fun z => z this)]
      exact fin (-1) (fun hi => by rw [if_pos ((dg hi).symm.trans c)])
    · rw [if_pos (show ¬ (y - y / 9 * 9).toInt32 = 8 from fun z => c (e8.mp z))]
      exact fin _ (fun hi => by rw [if_neg (fun z => c ((dg hi).trans z)), ← dg hi]; exact g2.1)
/-- the class's share, the planes listed -/
theorem share_c {N n nf : Nat} {pl ta : Nat → Nat} {q : Nat → Nat → Nat} {wy : Nat → Nat → Bool} {sp : Nat → Nat} {S0 S1 : yS} {v : Int32} (hN : 300 < N) (hl : f_X7_listNeeding N S0 = some (v, S1)) (h : PLn n nf pl ta q wy sp S1) : ∃ s S', f_X7_share N S0 = some (Int32.ofNat (quS q s n), S') ∧ bestS n q wy (capF n sp nf 0) s ∧ quS q s n ≤ 2808 ∧ S'.1 = S1.1 ∧ (∀ o k, ¬ (o = 6 ∧ k = 1) → S'.2.1 o k = S1.2.1 o k) ∧ ∀ j, j < n → S'.2.1 6 1 j = if s j = 8 then -1 else Int32.ofNat (s j) := by
  have n8 : n ≤ 8 := h.2.1
  have p8 := p8_le n8
  have hT : TBl n (upN (fun _ => 1152921504606846976) 0 0) (yJ (yJ S1 6 4 (fun i => if i < 256 then 1152921504606846976 else S1.2.2 6 4 i)) 6 4 (vp_updL ((yJ S1 6 4 (fun i => if i < 256 then 1152921504606846976 else S1.2.2 6 4 i)).2.2 6 4) 0 0)) := fun j hj => by
    rw [yJ_same, yJ_same]
    unfold vp_updL
    by_cases e : j = 0
    · rw [if_pos e, e, upN_s]; exact ll_lit 0 (by decide)
    · rw [if_neg e, upN_o _ _ e]
      show ll (if j < 256 then 1152921504606846976 else S1.2.2 6 4 j) _
      rw [if_pos (show j < 256 by omega)]; exact ll_lit 1152921504606846976 (by decide)
  obtain ⟨S2, L2, a1, a2, a3, a4⟩ := field_loop hN h nf 0 N _ _ (by omega) (by have := h.2.2.1; omega) (iS_t (iS_J S1 _ _ _) (iS_J _ _ _ _)) hT DP_0
  have h2 := PLn_i h (iS_t (iS_t (iS_J S1 _ _ _) (iS_J _ _ _ _)) a2)
  obtain ⟨r, s, r1, r2, r3⟩ := least_c hN h2.1 n8 a3 a4
  have s8 : ∀ i, i < n → s i ≤ 8 := fun i hi => (r3.1.1 i hi).1
  have cp : ∀ g, nf ≤ g → capF n sp nf 0 g = 0 := fun g hg => by
    unfold capF
    rw [if_neg (by omega)]
    by_cases c : g = nf
    · rw [if_pos c]
    · rw [if_neg c]
  have sf : ∀ i, i < n → s i ≠ 8 → s i < nf := fun i hi c => Decidable.byContradiction fun z => by
    have a := r3.1.2 (s i) (by have := s8 i hi; omega)
    rw [cp _ (by omega)] at a
    have : ∀ n, i < n → 0 < cntS s (s i) n := by
      intro n
      induction n with
      | zero => intro h; omega
      | succ n ih =>
        intro h
        show 0 < cntS s (s i) n + (if s n = s i then 1 else 0)
        by_cases z : i = n
        · rw [← z, if_pos rfl]; omega
        · have := ih (by omega); omega
    have := this n hi
    omega
  have q8 : ∀ i, i < n → s i ≠ 8 → q (s i) i ≤ 351 := fun i hi c => q_le h (sf i hi c) hi ((r3.1.1 i hi).2 (by have := s8 i hi; omega))
  have Q := qu_le n q8
  have U := un_le s n
  rw [tot_eq] at r2
  obtain ⟨R, b1, b2⟩ := digit_loop (N := N) (S := S2) n8 s8 rfl 8 N r 7 (S2.2.1 6 1) (by omega) (by omega) (by rw [Nat.sub_self, Nat.pow_zero, Nat.div_one]; exact r2) (fun z => absurd z (by decide)) (fun m hm => (show m = 7 by omega) ▸ nn_l 7 (by decide)) (fun j hj hn => absurd hn (by omega))
  rw [yA_self] at b1
  have D := dg_lt s8 n8
  have e1 : ((unS s n * 4096 + quS q s n) * 43046721 + dgS s n) / 43046721 % 4096 = quS q s n := by omega
  have t1 := ll_mod (ll_div r2 (ll_lit 43046721 (by decide))) (ll_lit 4096 (by decide))
  rw [e1] at t1
  have t2 := ll_nn t1 (by omega)
  have iS2 : iS S1 S2 := iS_t (iS_t (iS_J S1 _ _ _) (iS_J _ _ _ _)) a2
  refine ⟨s, yA S2 6 1 R, ?_, r3, by omega, iS2.1, fun o k z => by rw [yA_2n _ _ z, iS2.2], fun j hj => by rw [yA_same]; exact b2 j hj⟩
  unfold f_X7_share f_X7_share_0
  rw [hl, bS_s, sq_s, gA_nn (nn_l 0 (by decide)) (by decide), sq_s]
  refine a1.trans ?_
  rw [r1, bV_s]
  have b1' : f_X7_readFields N S2 r = some (0, yA S2 6 1 R) := b1
  rw [b1', bS_s, ← t2.1]
  rfl
