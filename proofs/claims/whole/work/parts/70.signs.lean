/-! THE TEXT: its bytes on both sides -/
theorem bp_b (x : Int32) : x.toInt8.toInt32 &&& 255 = x &&& 255 := by
  apply Int32.toBitVec_inj.mp
  rw [Int32.toBitVec_and, Int32.toBitVec_and, Int8.toBitVec_toInt32, Int32.toBitVec_toInt8]
  apply BitVec.eq_of_getLsbD_eq
  intro i hi
  rw [BitVec.getLsbD_and, BitVec.getLsbD_and]
  have hm : ∀ i < 32, 8 ≤ i → (255 : Int32).toBitVec.getLsbD i = false := by decide
  rcases Nat.lt_or_ge i 8 with z | z
  · rw [BitVec.getLsbD_signExtend, BitVec.getLsbD_signExtend, if_pos z, if_pos hi]
    simp only [z, hi, decide_true, Bool.true_and]
  · rw [hm i hi z]; simp
theorem bp_n (x : Int32) : vp_nar .byte x &&& 255 = x &&& 255 := bp_b x
theorem bp_x (v : Int32) : ∃ x, x < 256 ∧ v &&& 255 = Int32.ofNat x := by
  refine ⟨(v &&& 255).toBitVec.toNat, ?_, ?_⟩
  · rw [Int32.toBitVec_and, BitVec.toNat_and]
    have h1 : v.toBitVec.toNat &&& (255 : Int32).toBitVec.toNat ≤ (255 : Int32).toBitVec.toNat := Nat.and_le_right
    have h2 : (255 : Int32).toBitVec.toNat = 255 := by decide
    omega
  · apply Int32.toBitVec_inj.mp
    show _ = BitVec.ofNat 32 _
    rw [BitVec.ofNat_toNat, BitVec.setWidth_eq]
theorem bp_s {l a : Int32} {b : UInt32} {k : Nat} (ha : a.toBitVec.smod 32 = BitVec.ofNat 32 k) (hb : b.toNat = k) (hk : k ≤ 24) : (l >>> a) &&& 255 = ((l.toUInt32 >>> b).toInt32) &&& 255 := by
  apply Int32.toBitVec_inj.mp
  rw [Int32.toBitVec_and, Int32.toBitVec_and, Int32.toBitVec_shiftRight, ha]
  have e : (l.toUInt32 >>> b).toInt32.toBitVec = l.toBitVec >>> k := by
    apply BitVec.eq_of_toNat_eq
    show (l.toUInt32 >>> b).toNat = _
    rw [UInt32.toNat_shiftRight, hb, Nat.mod_eq_of_lt (by omega), BitVec.toNat_ushiftRight]
    rfl
  rw [e]
  apply BitVec.eq_of_getLsbD_eq
  intro i hi
  rw [BitVec.getLsbD_and, BitVec.getLsbD_and]
  have hm : ∀ i < 32, 8 ≤ i → (255 : Int32).toBitVec.getLsbD i = false := by decide
  rcases Nat.lt_or_ge i 8 with z | z
  · congr 1
    show (l.toBitVec.sshiftRight (BitVec.ofNat 32 k).toNat).getLsbD i = _
    rw [BitVec.toNat_ofNat, Nat.mod_eq_of_lt (by omega), BitVec.getLsbD_sshiftRight, BitVec.getLsbD_ushiftRight, if_pos (by omega)]
    simp [hi]
  · rw [hm i hi z]; simp
/-- slots outside p are as they were -/
def FR (p : Nat → Nat → Prop) (S S' : yS) : Prop := ∀ o k, ¬ p o k → S'.1 o k = S.1 o k ∧ S'.2.1 o k = S.2.1 o k
theorem FR_refl (p : Nat → Nat → Prop) (S : yS) : FR p S S := fun _ _ _ => ⟨rfl, rfl⟩
theorem FR_trans {p : Nat → Nat → Prop} {S S' S'' : yS} (h : FR p S S') (g : FR p S' S'') : FR p S S'' := fun o k n => ⟨(g o k n).1.trans (h o k n).1, (g o k n).2.trans (h o k n).2⟩
theorem FR_mono {p q : Nat → Nat → Prop} {S S' : yS} (h : FR p S S') (g : ∀ o k, p o k → q o k) : FR q S S' := fun o k n => h o k (fun z => n (g o k z))
theorem FR_I {p : Nat → Nat → Prop} (S : yS) (o k : Nat) (v : Int32) (h : p o k) : FR p S (yI S o k v) := by
  intro o' k' n
  refine ⟨?_, rfl⟩
  show (if o' = o ∧ k' = k then v else S.1 o' k') = S.1 o' k'
  rw [if_neg]
  intro q
  rw [q.1, q.2] at n
  exact n h
theorem FR_A {p : Nat → Nat → Prop} (S : yS) (o k : Nat) (f : Nat → Int32) (h : p o k) : FR p S (yA S o k f) := by
  intro o' k' n
  refine ⟨rfl, ?_⟩
  show (if o' = o ∧ k' = k then f else S.2.1 o' k') = S.2.1 o' k'
  rw [if_neg]
  intro q
  rw [q.1, q.2] at n
  exact n h
def RX (n : Nat) (Sc Sm : yS) : Prop := nn (Sc.1 0 6) n ∧ n ≤ 100 ∧ Sm.1 8 44 = Sc.1 0 6 ∧ ∀ i, i < n → Sm.2.1 8 43 i &&& 255 = Sc.2.1 0 5 i ∧ ∃ x, x < 256 ∧ Sc.2.1 0 5 i = Int32.ofNat x
theorem RX_congr {n : Nat} {Sc Sm Sc' Sm' : yS} (h : RX n Sc Sm) (e1 : Sc'.1 0 6 = Sc.1 0 6) (e2 : Sm'.1 8 44 = Sm.1 8 44) (e3 : Sc'.2.1 0 5 = Sc.2.1 0 5) (e4 : Sm'.2.1 8 43 = Sm.2.1 8 43) : RX n Sc' Sm' := by
  unfold RX at h ⊢
  rw [e1, e2, e3, e4]
  exact h
def pSgC (o k : Nat) : Prop := o = 0 ∧ (k = 5 ∨ k = 6)
def pSgM (o k : Nat) : Prop := o = 8 ∧ (k = 43 ∨ k = 44 ∨ k = 47)
theorem sg_step {N m n : Nat} {Sc Sm : yS} (h : RX n Sc Sm) (hn : n < 100) (l a c : Int32) {k : Nat} (ha : ¬ a < 0) (hc : ¬ c < 0) (h1 : ((8 * c) &&& 31 : Int32).toBitVec.smod 32 = BitVec.ofNat 32 k) (h2 : (a.toUInt32 &&& Int32.toUInt32 31).toNat = k) (hk : k ≤ 24) : ∃ Sc' Sm', f_X11_sign_16 (m + 1) N Sc l a = f_X11_sign_16 m N Sc' l (a + (-8)) ∧ f_X12_sign_20 (m + 1) N Sm l c = f_X12_sign_20 m N Sm' l (c + (-1)) ∧ RX (n + 1) Sc' Sm' ∧ FR pSgC Sc Sc' ∧ FR pSgM Sm Sm' := by
  obtain ⟨r1, r2, r3, r4⟩ := h
  have r1' : nn (Sm.1 8 44) n := by rw [r3]; exact r1
  have e : Sc.1 0 6 + 1 = Int32.ofNat (n + 1) := by rw [r1.1]; exact y_int1
  have e' : Sm.1 8 44 + 1 = Int32.ofNat (n + 1) := by rw [r1'.1]; exact y_int1
  refine ⟨yI (yA Sc 0 5 (upd (Sc.2.1 0 5) n (((l.toUInt32 >>> (a.toUInt32 &&& Int32.toUInt32 31)).toInt32) &&& 255))) 0 6 (Int32.ofNat (n + 1)), yA (yI Sm 8 44 (Int32.ofNat (n + 1))) 8 43 (upd (Sm.2.1 8 43) n (vp_nar .byte ((l >>> ((8 * c) &&& 31)).toInt8.toInt32))), ?_, ?_, ⟨nn_lit _ (by omega), by omega, rfl, fun i hi => ?_⟩, ?_, ?_⟩
  · rw [f_X11_sign_16, if_neg ha, gA_nn r1 hn, sq_s, sq_s, yA_1, e]
  · rw [f_X12_sign_20, if_neg hc, sq_s, gA_nn r1' hn, sq_s, yI_2, e']
  · show upd (Sm.2.1 8 43) n (vp_nar .byte ((l >>> ((8 * c) &&& 31)).toInt8.toInt32)) i &&& 255 = upd (Sc.2.1 0 5) n (((l.toUInt32 >>> (a.toUInt32 &&& Int32.toUInt32 31)).toInt32) &&& 255) i ∧ ∃ x, x < 256 ∧ upd (Sc.2.1 0 5) n (((l.toUInt32 >>> (a.toUInt32 &&& Int32.toUInt32 31)).toInt32) &&& 255) i = Int32.ofNat x
    by_cases z : i = n
    · subst z
      rw [upd_s, upd_s, bp_n, bp_b]
      exact ⟨bp_s h1 h2 hk, bp_x _⟩
    · rw [upd_o _ _ z, upd_o _ _ z]
      exact r4 i (by omega)
  · exact FR_trans (FR_A _ _ _ _ ⟨rfl, Or.inl rfl⟩) (FR_I _ _ _ _ ⟨rfl, Or.inr rfl⟩)
  · exact FR_trans (FR_I _ _ _ _ ⟨rfl, Or.inr (Or.inl rfl)⟩) (FR_A _ _ _ _ ⟨rfl, Or.inl rfl⟩)
theorem sign_both {N n : Nat} {Sc Sm : yS} (h : RX n Sc Sm) (hN : 60 < N) (l : Int32) : ∃ v Sc' Sm' n', f_X11_sign N Sc l = some (v, Sc') ∧ f_X12_sign N Sm l = some (v, Sm') ∧ RX n' Sc' Sm' ∧ FR pSgC Sc Sc' ∧ FR pSgM Sm Sm' := by
  have g0 : RX n Sc (yI Sm 8 47 0) := RX_congr h rfl rfl rfl rfl
  have F0 : FR pSgM Sm (yI Sm 8 47 0) := FR_I _ _ _ _ ⟨rfl, Or.inr (Or.inr rfl)⟩
  have e4 := nn_add h.1 (nn_l 4 (by decide)) (by have := h.2.1; omega)
  have hm : (yI Sm 8 47 0).1 8 44 = Sc.1 0 6 := h.2.2.1
  simp only [f_X11_sign, f_X11_sign_0, f_X12_sign, f_X12_sign_0, sq_s, hm]
  by_cases hl : n + 4 ≤ 100
  · rw [if_pos ((nn_le e4 (nn_l 100 (by decide))).mpr hl), if_pos ((nn_le e4 (nn_l 100 (by decide))).mpr hl)]
    obtain ⟨M, rfl⟩ : ∃ M, N = M + 1 + 1 + 1 + 1 + 1 := ⟨N - 5, by omega⟩
    obtain ⟨A1, B1, a1, b1, r1, f1, g1⟩ := sg_step (N := M + 1 + 1 + 1 + 1 + 1) (m := M + 1 + 1 + 1 + 1) g0 (by omega) l 24 3 (k := 24) (by decide) (by decide) (by decide) (by decide) (by decide)
    obtain ⟨A2, B2, a2, b2, r2, f2, g2⟩ := sg_step (N := M + 1 + 1 + 1 + 1 + 1) (m := M + 1 + 1 + 1) r1 (by omega) l (24 + (-8)) (3 + (-1)) (k := 16) (by decide) (by decide) (by decide) (by decide) (by decide)
    obtain ⟨A3, B3, a3, b3, r3, f3, g3⟩ := sg_step (N := M + 1 + 1 + 1 + 1 + 1) (m := M + 1 + 1) r2 (by omega) l (24 + (-8) + (-8)) (3 + (-1) + (-1)) (k := 8) (by decide) (by decide) (by decide) (by decide) (by decide)
    obtain ⟨A4, B4, a4, b4, r4, f4, g4⟩ := sg_step (N := M + 1 + 1 + 1 + 1 + 1) (m := M + 1) r3 (by omega) l (24 + (-8) + (-8) + (-8)) (3 + (-1) + (-1) + (-1)) (k := 0) (by decide) (by decide) (by decide) (by decide) (by decide)
    refine ⟨A4.1 0 6, A4, B4, n + 1 + 1 + 1 + 1, ?_, ?_, r4, FR_trans f1 (FR_trans f2 (FR_trans f3 f4)), FR_trans F0 (FR_trans g1 (FR_trans g2 (FR_trans g3 g4)))⟩
    · rw [a1, a2, a3, a4, f_X11_sign_16, if_pos (by decide)]
    · rw [b1, b2, b3, b4, f_X12_sign_20, if_pos (by decide), r4.2.2.1]
  · rw [if_neg (fun q => hl ((nn_le e4 (nn_l 100 (by decide))).mp q)), if_neg (fun q => hl ((nn_le e4 (nn_l 100 (by decide))).mp q))]
    exact ⟨_, _, _, n, rfl, rfl, g0, FR_refl _ _, F0⟩
theorem end_both {N n : Nat} {Sc Sm : yS} (h : RX n Sc Sm) (l : Int32) : ∃ v Sc' Sm' n', f_X11_end N Sc l = some (v, Sc') ∧ f_X12_end N Sm l = some (v, Sm') ∧ RX n' Sc' Sm' ∧ FR pSgC Sc Sc' ∧ FR pSgM Sm Sm' := by
  have g0 : RX n Sc (yI Sm 8 47 0) := RX_congr h rfl rfl rfl rfl
  have F0 : FR pSgM Sm (yI Sm 8 47 0) := FR_I _ _ _ _ ⟨rfl, Or.inr (Or.inr rfl)⟩
  have hm : (yI Sm 8 47 0).1 8 44 = Sc.1 0 6 := h.2.2.1
  simp only [f_X11_end, f_X11_end_0, f_X12_end, f_X12_end_0, sq_s, hm, e_within, e_in, bV_s]
  by_cases hl : 0 ≤ l ∧ l ≤ Sc.1 0 6
  · rw [b01_t hl, if_pos i10, if_pos i10]
    obtain ⟨r1, r2, r3, r4⟩ := h
    obtain ⟨j, hj, _, hj2⟩ := nn_btw (nn_l 0 (by decide)) r1 hl
    exact ⟨_, _, _, j, rfl, rfl, ⟨hj, by omega, rfl, fun i hi => r4 i (by omega)⟩, FR_I _ _ _ _ ⟨rfl, Or.inr rfl⟩, FR_trans F0 (FR_I _ _ _ _ ⟨rfl, Or.inr (Or.inl rfl)⟩)⟩
  · rw [b01_f hl, if_neg (fun q => q rfl), if_neg (fun q => q rfl)]
    exact ⟨_, _, _, n, rfl, rfl, g0, FR_refl _ _, F0⟩
