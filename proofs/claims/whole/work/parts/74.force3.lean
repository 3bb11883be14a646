def pAdr (o k : Nat) : Prop := o = 4 ∧ (k = 0 ∨ k = 3 ∨ k = 4 ∨ k = 5 ∨ k = 6)
theorem e_addr {N a : Nat} {S : yS} {l1 l2 l4 : Int32} {cF : List Nat} (hk : nn (S.1 4 0) a) (ha : a < 20) (hl : nn l4 cF.length) (hc : cF.length ≤ 60) (hp : pLst (S.2.1 7 0) cF) : ∃ S', f_X8r_add N S l1 l2 l4 = some (Int32.ofNat (a + 1), S') ∧ S'.1 4 0 = Int32.ofNat (a + 1) ∧ S'.2.1 4 3 = upd (S.2.1 4 3) a l1 ∧ S'.2.1 4 4 = upd (S.2.1 4 4) a l2 ∧ S'.2.1 4 5 = upd (S.2.1 4 5) a l4 ∧ pLst (fun i => S'.2.1 4 6 (a * 60 + i)) cF ∧ (∀ r, r < a → ∀ i, i < 60 → S'.2.1 4 6 (r * 60 + i) = S.2.1 4 6 (r * 60 + i)) ∧ FR pAdr S S' := by
  have e : S.1 4 0 + 1 = Int32.ofNat (a + 1) := by rw [hk.1]; exact y_int1
  have n60 := nn_mul hk (nn_l 60 (by decide)) (by omega)
  have z0 : (0 : Int32).toNatClampNeg = 0 := by decide
  unfold f_X8r_add f_X8r_add_0
  rw [gA_nn hk ha, sq_s]
  rw [show ∀ X : Nat → Int32, (yA S 4 3 X).1 4 0 = S.1 4 0 from fun _ => rfl, gA_nn hk ha, sq_s]
  rw [show ∀ X Y : Nat → Int32, (yA (yA S 4 3 X) 4 4 Y).1 4 0 = S.1 4 0 from fun _ _ => rfl, gA_nn hk ha, sq_s]
  rw [gP_t ⟨by decide, n60.nneg, hl.nneg, by rw [hl.nat, z0]; omega, by
    show (S.1 4 0 * 60).toNatClampNeg + l4.toNatClampNeg ≤ 1200
    rw [n60.nat, hl.nat]; omega⟩, sq_s, sq_s]
  refine ⟨_, by show some (S.1 4 0 + 1, _) = _; rw [e], e, rfl, rfl, rfl, ?_, fun r hr i hi => ?_, ?_⟩
  · show pLst (fun i => va_cpy (S.2.1 7 0) (S.2.1 4 6) (0 : Int32).toNatClampNeg (S.1 4 0 * 60).toNatClampNeg l4.toNatClampNeg (a * 60 + i)) cF
    rw [z0, n60.nat, hl.nat]
    exact pLst_ext (fun i hi => (zCpy_in hi).symm) hp
  · show va_cpy (S.2.1 7 0) (S.2.1 4 6) (0 : Int32).toNatClampNeg (S.1 4 0 * 60).toNatClampNeg l4.toNatClampNeg (r * 60 + i) = _
    rw [z0, n60.nat, hl.nat]
    exact zCpy_out (Or.inl (by omega))
  · exact FR_trans (FR_A _ _ _ _ ⟨rfl, by omega⟩) (FR_trans (FR_A _ _ _ _ ⟨rfl, by omega⟩) (FR_trans (FR_A _ _ _ _ ⟨rfl, by omega⟩) (FR_trans (FR_A _ _ _ _ ⟨rfl, by omega⟩) (FR_I _ _ _ _ ⟨rfl, by omega⟩))))
def pAdl (o k : Nat) : Prop := o = 5 ∧ (k = 0 ∨ k = 3 ∨ k = 4 ∨ k = 5 ∨ k = 6)
theorem e_addl {N a : Nat} {S : yS} {l1 l2 l4 : Int32} {cF : List Nat} (hk : nn (S.1 5 0) a) (ha : a < 12) (hl : nn l4 cF.length) (hc : cF.length ≤ 60) (hp : pLst (S.2.1 7 0) cF) : ∃ S', f_X8l_add N S l1 l2 l4 = some (Int32.ofNat (a + 1), S') ∧ S'.1 5 0 = Int32.ofNat (a + 1) ∧ S'.2.1 5 3 = upd (S.2.1 5 3) a l1 ∧ S'.2.1 5 4 = upd (S.2.1 5 4) a l2 ∧ S'.2.1 5 5 = upd (S.2.1 5 5) a l4 ∧ pLst (fun i => S'.2.1 5 6 (a * 60 + i)) cF ∧ (∀ r, r < a → ∀ i, i < 60 → S'.2.1 5 6 (r * 60 + i) = S.2.1 5 6 (r * 60 + i)) ∧ FR pAdl S S' := by
  have e : S.1 5 0 + 1 = Int32.ofNat (a + 1) := by rw [hk.1]; exact y_int1
  have n60 := nn_mul hk (nn_l 60 (by decide)) (by omega)
  have z0 : (0 : Int32).toNatClampNeg = 0 := by decide
  unfold f_X8l_add f_X8l_add_0
  rw [gA_nn hk ha, sq_s]
  rw [show ∀ X : Nat → Int32, (yA S 5 3 X).1 5 0 = S.1 5 0 from fun _ => rfl, gA_nn hk ha, sq_s]
  rw [show ∀ X Y : Nat → Int32, (yA (yA S 5 3 X) 5 4 Y).1 5 0 = S.1 5 0 from fun _ _ => rfl, gA_nn hk ha, sq_s]
  rw [gP_t ⟨by decide, n60.nneg, hl.nneg, by rw [hl.nat, z0]; omega, by
    show (S.1 5 0 * 60).toNatClampNeg + l4.toNatClampNeg ≤ 720
    rw [n60.nat, hl.nat]; omega⟩, sq_s, sq_s]
  refine ⟨_, by show some (S.1 5 0 + 1, _) = _; rw [e], e, rfl, rfl, rfl, ?_, fun r hr i hi => ?_, ?_⟩
  · show pLst (fun i => va_cpy (S.2.1 7 0) (S.2.1 5 6) (0 : Int32).toNatClampNeg (S.1 5 0 * 60).toNatClampNeg l4.toNatClampNeg (a * 60 + i)) cF
    rw [z0, n60.nat, hl.nat]
    exact pLst_ext (fun i hi => (zCpy_in hi).symm) hp
  · show va_cpy (S.2.1 7 0) (S.2.1 5 6) (0 : Int32).toNatClampNeg (S.1 5 0 * 60).toNatClampNeg l4.toNatClampNeg (r * 60 + i) = _
    rw [z0, n60.nat, hl.nat]
    exact zCpy_out (Or.inl (by omega))
  · exact FR_trans (FR_A _ _ _ _ ⟨rfl, by omega⟩) (FR_trans (FR_A _ _ _ _ ⟨rfl, by omega⟩) (FR_trans (FR_A _ _ _ _ ⟨rfl, by omega⟩) (FR_trans (FR_A _ _ _ _ ⟨rfl, by omega⟩) (FR_I _ _ _ _ ⟨rfl, by omega⟩))))
def pKe (o k : Nat) : Prop := o = 8 ∧ 37 ≤ k ∧ k ≤ 42
theorem pKe_FR {S S' : yS} (h : FR pKe S S') : FR pFoM S S' := FR_mono h (fun o k z => ⟨z.1, by have := z.2; omega⟩)
theorem em_finr {N n a : Nat} {T : yS} {l1 l2 l3 : Int32} (hN : 60 < N) (h54 : T.1 8 54 = -1) (h3 : nn l3 n) (h60 : n ≤ 60) (hl : ¬ l1 = 2) (ha : nn (T.1 8 41) a) (haM : a < 20) : ∃ S' A, f_X12_force_141 N T l1 l2 l3 = some (Int32.ofNat (a + 1), S') ∧ S'.1 8 41 = Int32.ofNat (a + 1) ∧ S'.1 8 42 = T.1 8 42 ∧ S'.2.1 8 37 = A ∧ (∀ j, j < n → A (60 * (0 + a) + j) &&& 255 = T.2.1 8 43 j &&& 255) ∧ (∀ j, (j < 60 * (0 + a) ∨ 60 * (0 + a) + n ≤ j) → A j = T.2.1 8 37 j) ∧ S'.2.1 8 38 = upd (T.2.1 8 38) (0 + a) l3 ∧ S'.2.1 8 39 = upd (T.2.1 8 39) (0 + a) l1 ∧ S'.2.1 8 40 = upd (T.2.1 8 40) (0 + a) l2 ∧ FR pKe T S' := by
  have e : T.1 8 41 + 1 = Int32.ofNat (a + 1) := by rw [ha.1]; exact y_int1
  obtain ⟨A, a1, a2, a3⟩ := em_keep (N := N) (n := n) (at' := 0 + a) (l1 := l1) (l2 := l2) h60 (by omega) n 0 N T (by omega) (by omega)
  have hat : T.1 8 41 = Int32.ofNat (0 + a) := by rw [ha.1, Nat.zero_add]
  unfold f_X12_force_141
  rw [if_pos h54, if_pos hl]
  unfold f_X12_force_175
  rw [h3.1, hat, show (0 : Int32) = Int32.ofNat 0 from rfl, a1, if_pos hl]
  unfold f_X12_force_264 f_X12_force_280
  rw [if_pos hl]
  refine ⟨yI (yA (yA (yA (yA T 8 37 A) 8 38 (upd (T.2.1 8 38) (0 + a) (Int32.ofNat n))) 8 39 (upd (T.2.1 8 39) (0 + a) l1)) 8 40 (upd (T.2.1 8 40) (0 + a) l2)) 8 41 (T.1 8 41 + 1), A, by rw [e, yI_1s], by rw [yI_1s]; exact e, rfl, rfl, fun j hj => a2 j (Nat.zero_le _) hj, fun j hj => a3 j (by omega), rfl, rfl, rfl, ?_⟩
  exact FR_trans (FR_A _ _ _ _ ⟨rfl, by omega⟩) (FR_trans (FR_A _ _ _ _ ⟨rfl, by omega⟩) (FR_trans (FR_A _ _ _ _ ⟨rfl, by omega⟩) (FR_trans (FR_A _ _ _ _ ⟨rfl, by omega⟩) (FR_I _ _ _ _ ⟨rfl, by omega⟩))))
theorem em_finl {N n a : Nat} {T : yS} {l1 l2 l3 : Int32} (hN : 60 < N) (h54 : T.1 8 54 = -1) (h3 : nn l3 n) (h60 : n ≤ 60) (hl : l1 = 2) (ha : nn (T.1 8 42) a) (haM : a < 12) : ∃ S' A, f_X12_force_141 N T l1 l2 l3 = some (Int32.ofNat (a + 1), S') ∧ S'.1 8 42 = Int32.ofNat (a + 1) ∧ S'.1 8 41 = T.1 8 41 ∧ S'.2.1 8 37 = A ∧ (∀ j, j < n → A (60 * (20 + a) + j) &&& 255 = T.2.1 8 43 j &&& 255) ∧ (∀ j, (j < 60 * (20 + a) ∨ 60 * (20 + a) + n ≤ j) → A j = T.2.1 8 37 j) ∧ S'.2.1 8 38 = upd (T.2.1 8 38) (20 + a) l3 ∧ S'.2.1 8 39 = upd (T.2.1 8 39) (20 + a) l1 ∧ S'.2.1 8 40 = upd (T.2.1 8 40) (20 + a) l2 ∧ FR pKe T S' := by
  have e : T.1 8 42 + 1 = Int32.ofNat (a + 1) := by rw [ha.1]; exact y_int1
  obtain ⟨A, a1, a2, a3⟩ := em_keep (N := N) (n := n) (at' := 20 + a) (l1 := l1) (l2 := l2) h60 (by omega) n 0 N T (by omega) (by omega)
  have hat : 20 + T.1 8 42 = Int32.ofNat (20 + a) := (nn_add (nn_l 20 (by decide)) ha (by omega)).1
  unfold f_X12_force_141
  rw [if_pos h54, if_neg (fun q => q hl)]
  unfold f_X12_force_175
  rw [h3.1, hat, show (0 : Int32) = Int32.ofNat 0 from rfl, a1, if_neg (fun q => q hl)]
  unfold f_X12_force_264 f_X12_force_280
  rw [if_neg (fun q => q hl)]
  refine ⟨yI (yA (yA (yA (yA T 8 37 A) 8 38 (upd (T.2.1 8 38) (20 + a) (Int32.ofNat n))) 8 39 (upd (T.2.1 8 39) (20 + a) l1)) 8 40 (upd (T.2.1 8 40) (20 + a) l2)) 8 42 (T.1 8 42 + 1), A, by rw [e, yI_1s], by rw [yI_1s]; exact e, rfl, rfl, fun j hj => a2 j (Nat.zero_le _) hj, fun j hj => a3 j (by omega), rfl, rfl, rfl, ?_⟩
  exact FR_trans (FR_A _ _ _ _ ⟨rfl, by omega⟩) (FR_trans (FR_A _ _ _ _ ⟨rfl, by omega⟩) (FR_trans (FR_A _ _ _ _ ⟨rfl, by omega⟩) (FR_trans (FR_A _ _ _ _ ⟨rfl, by omega⟩) (FR_I _ _ _ _ ⟨rfl, by omega⟩))))
/-- the reader's part of force -/
theorem em_read {N k n : Nat} {S0 : yS} {l1 l2 l3 : Int32} {s : Nat → Nat} (hN : 60 < N) (h1 : nn l1 k) (hk2 : k ≤ 2) (h3 : nn l3 n) (hn : n ≤ 100) (hs : ∀ i, s i < 256) (hT : ∀ i, i < n → S0.2.1 8 43 i &&& 255 = Int32.ofNat (s i)) : (∃ j S', f_X12_force_74 N S0 l1 l2 l3 = some (-1 - Int32.ofNat j, S') ∧ zFail k s n 0 (zIni k) j ∧ FR pOp S0 S') ∨ (∃ Q T, f_X12_force_74 N S0 l1 l2 l3 = f_X12_force_141 N T l1 l2 l3 ∧ zAcc k s n 0 (zIni k) Q ∧ T.1 8 54 = -1 ∧ FR pOp S0 T) := by
  have h2 : l1 = 2 ↔ k = 2 := nn_eq h1 (nn_l 2 (by decide))
  have mk : ∀ m, (m = 0 ∨ m = 1) → (m + 1 = if k = 2 then 1 else 2) → ∃ L, zEnv N k s (min n 60) L (oS S0 1 0 l3 m) := by
    intro m hm hm2
    obtain ⟨L, hL⟩ := zLx k (S0.2.1 8 56)
    refine ⟨L, zH_mk (fo := 0) h3 hn (nn_l 0 (by decide)) (Or.inl ⟨rfl, by omega, fun i hi => by rw [Nat.zero_add]; exact hT i (by omega)⟩) hs, hN, ?_, hL⟩
    show Int32.ofNat (m + 1) = _
    rw [hm2]
    by_cases z : k = 2
    · rw [if_pos z, if_pos z]; rfl
    · rw [if_neg z, if_neg z]; rfl
  -- behind the reading
  have bad : ∀ (B : yS) (j : Nat), FR pOp S0 B → zFail k s n 0 (zIni k) j → ∃ j' S', f_X12_force_120 N (rS B j (Int32.ofNat j)) l1 l2 l3 = some (-1 - Int32.ofNat j', S') ∧ zFail k s n 0 (zIni k) j' ∧ FR pOp S0 S' := by
    intro B j hB hj
    have hj60 : j ≤ 60 := by have := hj.2.1; omega
    unfold f_X12_force_120 f_X12_force_141
    rw [rS_w, if_pos (zne hj60), if_neg (zne hj60)]
    exact ⟨j, _, rfl, hj, FR_trans hB rS_FR⟩
  have good : ∀ (B : yS) (j : Nat), FR pOp S0 B → j ≤ min n 60 → (j < n → zFail k s n 0 (zIni k) j) → (∃ j' S', f_X12_force_120 N (rS B j (-1)) l1 l2 l3 = some (-1 - Int32.ofNat j', S') ∧ zFail k s n 0 (zIni k) j' ∧ FR pOp S0 S') ∨ (j = n ∧ f_X12_force_120 N (rS B j (-1)) l1 l2 l3 = f_X12_force_141 N (rS B j (-1)) l1 l2 l3) := by
    intro B j hB hj hf
    unfold f_X12_force_120
    rw [rS_w, if_neg (fun q => q rfl), rS_p]
    by_cases e : n ≤ j
    · rw [if_pos ((nn_le h3 (nn_lit j (by omega))).mpr e)]
      exact Or.inr ⟨by omega, rfl⟩
    · rw [if_neg (fun q => e ((nn_le h3 (nn_lit j (by omega))).mp q)), z_wrong, bS_s]
      unfold f_X12_force_141
      rw [rS_w, if_neg (zne (by omega))]
      exact Or.inl ⟨j, _, rfl, hf (by omega), FR_trans hB rS_FR⟩
  unfold f_X12_force_74 f_X12_force_95
  by_cases hk : k = 2
  · rw [if_neg (fun q => q (h2.mpr hk)), em_openS (Or.inl rfl), bS_s, if_neg (fun q => q (h2.mpr hk))]
    subst hk
    obtain ⟨L, hE⟩ := mk 0 (Or.inl rfl) rfl
    obtain ⟨r, j, h⟩ := top_choice hE rfl rfl
    rcases h with ⟨e, hj⟩ | ⟨e, g1, g2, g3⟩
    · rw [e, bS_s]
      exact Or.inl (bad (oS S0 1 0 l3 0) j oS_FR hj)
    · rw [e, bS_s]
      rcases good (oS S0 1 0 l3 0) j oS_FR g1 g2 with g | ⟨g4, g5⟩
      · exact Or.inl g
      · obtain ⟨Q, q1, q2, q3⟩ := g3 g4
        rw [g5]
        exact Or.inr ⟨Q, _, rfl, q1, rS_w, FR_trans oS_FR rS_FR⟩
  · have hm1 : (if k = 0 then 2 else 3) = (if k = 0 then 2 else 3) := rfl
    have ha : ∀ X, f_X12_actsOf N X l1 = some (if k = 0 then 2 else 3) := by
      intro X
      unfold f_X12_actsOf f_X12_actsOf_0 f_X12_actsOf_13
      by_cases z : k = 0
      · rw [if_neg (fun q => q ((nn_eq h1 (nn_l 0 (by decide))).mpr z)), if_pos z]
      · rw [if_pos (fun q => z ((nn_eq h1 (nn_l 0 (by decide))).mp q)), if_neg z]
    have hk' : ¬ l1 = 2 := fun q => hk (h2.mp q)
    rw [if_pos hk', em_openS (Or.inr rfl), bS_s, if_pos hk', ha, bV_s]
    obtain ⟨L, hE⟩ := mk 1 (Or.inr rfl) (by rw [if_neg hk])
    obtain ⟨r, B', j, hB, h⟩ := top_lines hk hE rfl rfl
    have FB : FR pOp S0 B' := by
      rcases hB with q | ⟨x, q⟩
      · rw [q]; exact FR_trans oS_FR y57_FR
      · rw [q]; exact FR_trans oS_FR y57_FR
    rcases h with ⟨e, hj⟩ | ⟨e, g1, g2, g3⟩
    · rw [e, bS_s]
      exact Or.inl (bad B' j FB hj)
    · rw [e, bS_s]
      rcases good B' j FB g1 g2 with g | ⟨g4, g5⟩
      · exact Or.inl g
      · obtain ⟨e', dg', q1, q2⟩ := g3 g4
        rw [g5]
        exact Or.inr ⟨_, _, rfl, q1, rS_w, FR_trans FB rS_FR⟩
