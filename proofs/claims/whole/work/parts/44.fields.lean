/-! FIELDS -/
def RF (nf : Nat) (Sc Sm : yS) : Prop := nn (Sc.1 1 3) nf ∧ nf ≤ 8 ∧ Sm.1 8 1 = Sc.1 1 3 ∧ ∀ i, i < 8 → Sc.2.1 1 0 i = Sm.2.1 8 0 i ∧ Sc.2.1 1 1 i = Sm.2.1 8 48 (3 + 2 * i) ∧ Sc.2.1 1 2 i = Sm.2.1 8 48 (4 + 2 * i) ∧ (Sm.2.1 8 48 (3 + 2 * i) = 0 ∨ Sm.2.1 8 48 (3 + 2 * i) = 1) ∧ ∃ s, nn (Sm.2.1 8 48 (4 + 2 * i)) s ∧ s ≤ 9
theorem upd_s (f : Nat → Int32) (k : Nat) (x : Int32) : upd f k x k = x := by simp [upd]
theorem upd_o (f : Nat → Int32) {k j : Nat} (x : Int32) (h : j ≠ k) : upd f k x j = f j := by simp [upd, h]
theorem vz {l : Int32} (h : l = 0 ∨ l = 1) : vp_nar .boolean l = l := by
  rcases h with rfl | rfl <;> rfl
/-- what both leave of a new field -/
def cField (Sc : yS) (nf : Nat) (a l c : Int32) : yS := yI (yA (yA (yA Sc 1 0 (upd (Sc.2.1 1 0) nf a)) 1 1 (upd (Sc.2.1 1 1) nf l)) 1 2 (upd (Sc.2.1 1 2) nf c)) 1 3 (Int32.ofNat (nf + 1))
def mField (Sm : yS) (nf : Nat) (a l c : Int32) : yS := yI (yA (yA (yI Sm 8 47 0) 8 0 (upd (Sm.2.1 8 0) nf a)) 8 48 (upd (upd (Sm.2.1 8 48) (3 + 2 * nf) l) (4 + 2 * nf) c)) 8 1 (Int32.ofNat (nf + 1))
theorem yA_yA (S : yS) (o k : Nat) (f g : Nat → Int32) : yA (yA S o k f) o k g = yA S o k g := by
  unfold yA
  congr 1
  congr 1
  funext o' k'
  by_cases h : o' = o ∧ k' = k <;> simp [h]
theorem e_field {N nf : Nat} {Sc Sm : yS} (h : RF nf Sc Sm) {a l c : Int32} (hl : l = 0 ∨ l = 1) : f_X11_field N Sc a l c = if (0 ≤ a ∧ a ≤ 99) ∧ (0 ≤ c ∧ c ≤ 9) ∧ nf < 8 then some (Int32.ofNat nf, cField Sc nf a l c) else some (-1, Sc) := by
  obtain ⟨h1, h2, h3, h4⟩ := h
  simp only [f_X11_field, f_X11_field_0, f_X11_field_32, e_within, bV_s, b01_0]
  by_cases ha : 0 ≤ a ∧ a ≤ 99
  · rw [if_neg (fun q => q ha)]
    by_cases hc : 0 ≤ c ∧ c ≤ 9
    · rw [if_neg (fun q => q hc)]
      by_cases hn : nf < 8
      · rw [if_pos ((nn_lt h1 (nn_l 8 (by decide))).mpr hn), if_pos ⟨ha, hc, hn⟩]
        simp only [f_X2_addField, f_X2_addField_0]
        rw [gA_nn h1 hn, sq_s]
        rw [show (yA Sc 1 0 (upd (Sc.2.1 1 0) nf a)).1 1 3 = Sc.1 1 3 from rfl, gA_nn h1 hn, sq_s]
        rw [show (yA (yA Sc 1 0 (upd (Sc.2.1 1 0) nf a)) 1 1 (upd ((yA Sc 1 0 (upd (Sc.2.1 1 0) nf a)).2.1 1 1) nf (vp_nar FieldType.boolean l))).1 1 3 = Sc.1 1 3 from rfl, gA_nn h1 hn, sq_s, sq_s, bS_s, vz hl]
        have e : Sc.1 1 3 + 1 = Int32.ofNat (nf + 1) := by rw [h1.1]; exact y_int1
        unfold cField
        rw [← e, ← h1.1]
        rfl
      · rw [if_neg (fun q => hn ((nn_lt h1 (nn_l 8 (by decide))).mp q)), if_neg (fun q => hn q.2.2)]
    · rw [if_pos hc, if_neg (fun q => hc q.2.1)]
  · rw [if_pos ha, if_neg (fun q => ha q.1)]
theorem em_field {N nf : Nat} {Sc Sm : yS} (h : RF nf Sc Sm) {a l c : Int32} (hl : l = 0 ∨ l = 1) : f_X12_field N Sm a l c = if (0 ≤ a ∧ a ≤ 99) ∧ (0 ≤ c ∧ c ≤ 9) ∧ nf < 8 then some (Int32.ofNat nf, mField Sm nf a l c) else some (-1, yI Sm 8 47 0) := by
  obtain ⟨h1, h2, h3, h4⟩ := h
  have h1' : nn (Sm.1 8 1) nf := by rw [h3]; exact h1
  simp only [f_X12_field, f_X12_field_0, f_X12_field_34, e_in, bV_s, b01_0, sq_s]
  by_cases ha : 0 ≤ a ∧ a ≤ 99
  · rw [if_neg (fun q => q ha)]
    by_cases hc : 0 ≤ c ∧ c ≤ 9
    · rw [if_neg (fun q => q hc)]
      rw [show (yI Sm 8 47 0).1 8 1 = Sm.1 8 1 from rfl]
      by_cases hn : nf < 8
      · rw [if_pos (fun q => by have := (nn_eq h1' (nn_l 8 (by decide))).mp q; omega), if_pos ⟨ha, hc, hn⟩]
        rw [gA_nn h1' hn]
        have key : ∀ t, t = l → f_X12_field_69 N (yA (yI Sm 8 47 0) 8 0 (upd ((yI Sm 8 47 0).2.1 8 0) nf a)) c (3 + 2 * (yA (yI Sm 8 47 0) 8 0 (upd ((yI Sm 8 47 0).2.1 8 0) nf a)).1 8 1 + 0) t = some (Int32.ofNat nf, mField Sm nf a l c) := by
          intro t ht
          subst ht
          simp only [f_X12_field_69]
          have i1 := nn_add (nn_l 3 (by decide)) (nn_mul (nn_l 2 (by decide)) h1' (by omega)) (by omega)
          have i0 := nn_add i1 (nn_l 0 (by decide)) (by omega)
          have i2 := nn_add i1 (nn_l 1 (by decide)) (by omega)
          rw [show (yA (yI Sm 8 47 0) 8 0 (upd ((yI Sm 8 47 0).2.1 8 0) nf a)).1 8 1 = Sm.1 8 1 from rfl]
          rw [gA_nn i0 (by omega), sq_s]
          rw [show ∀ (X : Nat → Int32), (yA (yA (yI Sm 8 47 0) 8 0 (upd ((yI Sm 8 47 0).2.1 8 0) nf a)) 8 48 X).1 8 1 = Sm.1 8 1 from fun _ => rfl]
          rw [gA_nn i2 (by omega), sq_s, sq_s, yA_same, yA_yA]
          rw [show ∀ (X : Nat → Int32), (yA (yA (yI Sm 8 47 0) 8 0 (upd ((yI Sm 8 47 0).2.1 8 0) nf a)) 8 48 X).1 8 1 = Sm.1 8 1 from fun _ => rfl]
          have e : Sm.1 8 1 + 1 = Int32.ofNat (nf + 1) := by rw [h1'.1]; exact y_int1
          rw [e]
          have e2 : Int32.ofNat (nf + 1) - 1 = Int32.ofNat nf := by
            rw [← y_int1]
            exact Int32.add_sub_cancel _ _
          rw [show ∀ (X : yS), (yI X 8 1 (Int32.ofNat (nf + 1))).1 8 1 = Int32.ofNat (nf + 1) from fun _ => rfl, e2]
          unfold mField
          rw [show 3 + 2 * nf + 1 = 4 + 2 * nf by omega]
          rfl
        by_cases h0 : l = 0
        · rw [if_pos h0]
          exact key 0 h0.symm
        · rw [if_neg h0]
          exact key 1 (hl.resolve_left h0).symm
      · have : nf = 8 := by omega
        rw [if_neg (fun q => q ((nn_eq h1' (nn_l 8 (by decide))).mpr this)), if_neg (fun q => hn q.2.2)]
    · rw [if_pos hc, if_neg (fun q => hc q.2.1)]
  · rw [if_pos ha, if_neg (fun q => ha q.1)]
theorem RF_field {nf : Nat} {Sc Sm : yS} (h : RF nf Sc Sm) {a l c : Int32} (hl : l = 0 ∨ l = 1) (hc : 0 ≤ c ∧ c ≤ 9) (hn : nf < 8) : RF (nf + 1) (cField Sc nf a l c) (mField Sm nf a l c) := by
  obtain ⟨h1, h2, h3, h4⟩ := h
  refine ⟨nn_lit (nf + 1) (by omega), by omega, rfl, fun i hi => ?_⟩
  obtain ⟨g1, g2, g3, g4, g5⟩ := h4 i hi
  show upd (Sc.2.1 1 0) nf a i = upd (Sm.2.1 8 0) nf a i ∧ upd (Sc.2.1 1 1) nf l i = upd (upd (Sm.2.1 8 48) (3 + 2 * nf) l) (4 + 2 * nf) c (3 + 2 * i) ∧ upd (Sc.2.1 1 2) nf c i = upd (upd (Sm.2.1 8 48) (3 + 2 * nf) l) (4 + 2 * nf) c (4 + 2 * i) ∧ (upd (upd (Sm.2.1 8 48) (3 + 2 * nf) l) (4 + 2 * nf) c (3 + 2 * i) = 0 ∨ upd (upd (Sm.2.1 8 48) (3 + 2 * nf) l) (4 + 2 * nf) c (3 + 2 * i) = 1) ∧ ∃ s, nn (upd (upd (Sm.2.1 8 48) (3 + 2 * nf) l) (4 + 2 * nf) c (4 + 2 * i)) s ∧ s ≤ 9
  rw [upd_o (upd (Sm.2.1 8 48) (3 + 2 * nf) l) c (show 3 + 2 * i ≠ 4 + 2 * nf by omega)]
  by_cases e : i = nf
  · subst e
    rw [upd_s, upd_s, upd_s, upd_s, upd_s, upd_s]
    refine ⟨rfl, rfl, rfl, hl, ?_⟩
    obtain ⟨s, hs, hs9⟩ := nn_rng (x := c) (lo := 0) (hi := 9) (nn_l 9 (by decide)) rfl (Int32.not_lt.mpr hc.1) (Int32.not_lt.mpr hc.2)
    exact ⟨s, hs, hs9⟩
  · rw [upd_o _ _ e, upd_o _ _ e, upd_o _ _ e, upd_o _ _ e, upd_o _ _ (show 3 + 2 * i ≠ 3 + 2 * nf by omega), upd_o _ _ (show 4 + 2 * i ≠ 4 + 2 * nf by omega), upd_o _ _ (show 4 + 2 * i ≠ 3 + 2 * nf by omega)]
    exact ⟨g1, g2, g3, g4, g5⟩
