/-! FORCE -/
theorem pLst_ext {A B : Nat → Int32} {c : List Nat} (h : ∀ i, i < c.length → A i = B i) (hA : pLst A c) : pLst B c := by
  induction c with
  | nil => trivial
  | cons x c ih =>
    refine ⟨?_, ih (fun i hi => h i (Nat.lt_succ_of_lt hi)) hA.2⟩
    rw [← h c.length (Nat.lt_succ_self _)]
    exact hA.1
/-- one text that was told: its bytes, and its codes -/
def RK1 (o z : Nat) (Sc Sm : yS) (r k : Nat) : Prop := ∃ (s : Nat → Nat) (n : Nat) (Q : zP), (∀ i, s i < 256) ∧ zAcc k s n 0 (zIni k) Q ∧ (∀ i, i < n → Sm.2.1 8 37 (60 * (z + r) + i) &&& 255 = Int32.ofNat (s i)) ∧ nn (Sm.2.1 8 38 (z + r)) n ∧ nn (Sc.2.1 o 5 r) (zFin Q).length ∧ (zFin Q).length ≤ n ∧ zCk (zFin Q) ∧ pLst (fun i => Sc.2.1 o 6 (r * 60 + i)) (zFin Q)
def RK (k8 k9 : Nat) (Sc Sm : yS) : Prop := (∀ r, r < k8 → ∃ k, k < 2 ∧ Sc.2.1 4 3 r = Int32.ofNat k ∧ RK1 4 0 Sc Sm r k) ∧ ∀ r, r < k9 → RK1 5 20 Sc Sm r 2
theorem RK1_keep {o z r k : Nat} {Sc Sm Sc' Sm' : yS} (h : RK1 o z Sc Sm r k) (e1 : ∀ i, i < 60 → Sm'.2.1 8 37 (60 * (z + r) + i) &&& 255 = Sm.2.1 8 37 (60 * (z + r) + i) &&& 255) (e2 : Sm'.2.1 8 38 (z + r) = Sm.2.1 8 38 (z + r)) (e3 : Sc'.2.1 o 5 r = Sc.2.1 o 5 r) (e4 : ∀ i, i < 60 → Sc'.2.1 o 6 (r * 60 + i) = Sc.2.1 o 6 (r * 60 + i)) : RK1 o z Sc' Sm' r k := by
  obtain ⟨s, n, Q, a1, a2, a3, a4, a5, a6, a7, a8⟩ := h
  have h60 := a2.1
  refine ⟨s, n, Q, a1, a2, fun i hi => ?_, by rw [e2]; exact a4, by rw [e3]; exact a5, a6, a7, pLst_ext (fun i hi => (e4 i (by omega)).symm) a8⟩
  rw [e1 i (by omega)]
  exact a3 i hi
theorem RK_congr {k8 k9 : Nat} {Sc Sm Sc' Sm' : yS} (h : RK k8 k9 Sc Sm) (c1 : Sc'.2.1 4 3 = Sc.2.1 4 3) (c2 : Sc'.2.1 4 5 = Sc.2.1 4 5) (c3 : Sc'.2.1 4 6 = Sc.2.1 4 6) (c4 : Sc'.2.1 5 5 = Sc.2.1 5 5) (c5 : Sc'.2.1 5 6 = Sc.2.1 5 6) (m1 : Sm'.2.1 8 37 = Sm.2.1 8 37) (m2 : Sm'.2.1 8 38 = Sm.2.1 8 38) : RK k8 k9 Sc' Sm' := by
  refine ⟨fun r hr => ?_, fun r hr => ?_⟩
  · obtain ⟨k, a, b, c⟩ := h.1 r hr
    exact ⟨k, a, by rw [c1]; exact b, RK1_keep c (fun i _ => by rw [m1]) (by rw [m2]) (by rw [c2]) (fun i _ => by rw [c3])⟩
  · exact RK1_keep (h.2 r hr) (fun i _ => by rw [m1]) (by rw [m2]) (by rw [c4]) (fun i _ => by rw [c5])
theorem zCpy_in {f g : Nat → Int32} {d n i : Nat} (h : i < n) : va_cpy f g 0 d n (d + i) = f i := by
  unfold va_cpy
  rw [if_pos ⟨by omega, by omega⟩, show 0 + (d + i - d) = i by omega]
theorem zCpy_out {f g : Nat → Int32} {d n i : Nat} (h : i < d ∨ d + n ≤ i) : va_cpy f g 0 d n i = g i := by
  unfold va_cpy
  rw [if_neg (by omega)]
/-- the reference keeps a text -/
theorem em_keep {N n at' : Nat} {l1 l2 : Int32} (h60 : n ≤ 60) (hat : at' < 32) : ∀ (d i m : Nat) (S : yS), i + d = n → d < m → ∃ A, f_X12_force_180 m N S l1 l2 (Int32.ofNat n) (Int32.ofNat at') (Int32.ofNat i) = (if ¬ l1 = 2 then f_X12_force_264 N (yI (yA (yA (yA (yA S 8 37 A) 8 38 (upd (S.2.1 8 38) at' (Int32.ofNat n))) 8 39 (upd (S.2.1 8 39) at' l1)) 8 40 (upd (S.2.1 8 40) at' l2)) 8 41 (S.1 8 41 + 1)) l1 else f_X12_force_264 N (yI (yA (yA (yA (yA S 8 37 A) 8 38 (upd (S.2.1 8 38) at' (Int32.ofNat n))) 8 39 (upd (S.2.1 8 39) at' l1)) 8 40 (upd (S.2.1 8 40) at' l2)) 8 42 (S.1 8 42 + 1)) l1) ∧ (∀ j, i ≤ j → j < n → A (60 * at' + j) &&& 255 = S.2.1 8 43 j &&& 255) ∧ ∀ j, (j < 60 * at' + i ∨ 60 * at' + n ≤ j) → A j = S.2.1 8 37 j := by
  intro d
  induction d with
  | zero =>
    intro i m S hi hm
    obtain ⟨m, rfl⟩ : ∃ m', m = m' + 1 := ⟨m - 1, by omega⟩
    have na := nn_lit at' (by omega)
    refine ⟨S.2.1 8 37, ?_, fun j h1 h2 => by omega, fun _ _ => rfl⟩
    have e : yA S 8 37 (S.2.1 8 37) = S := yA_self S 8 37
    rw [f_X12_force_180, if_pos ((nn_le (nn_lit n (by omega)) (nn_lit i (by omega))).mpr (by omega)), gA_nn na hat, sq_s, gA_nn na hat, sq_s, gA_nn na hat, sq_s, e]
    rfl
  | succ d ih =>
    intro i m S hi hm
    obtain ⟨m, rfl⟩ : ∃ m', m = m' + 1 := ⟨m - 1, by omega⟩
    have na := nn_lit at' (by omega)
    have ni := nn_lit i (by omega)
    have ix := nn_add (nn_mul (nn_l 60 (by decide)) na (by omega)) ni (by omega)
    rw [f_X12_force_180, if_neg (fun q => by have := (nn_le (nn_lit n (by omega)) ni).mp q; omega), gA_nn ni (by omega), gA_nn ix (by omega), sq_s, y_int1]
    obtain ⟨A, a1, a2, a3⟩ := ih (i + 1) m (yA S 8 37 (upd (S.2.1 8 37) (60 * at' + i) (vp_nar .byte (S.2.1 8 43 i)))) (by omega) (by omega)
    refine ⟨A, ?_, fun j h1 h2 => ?_, fun j hj => ?_⟩
    · rw [a1]
      simp only [yA_yA]
      rfl
    · by_cases e : j = i
      · subst e
        rw [a3 _ (Or.inl (by omega))]
        show upd (S.2.1 8 37) (60 * at' + j) (vp_nar .byte (S.2.1 8 43 j)) (60 * at' + j) &&& 255 = _
        rw [upd_s, bp_n]
      · exact a2 j (by omega) h2
    · rw [a3 j (by omega)]
      show upd (S.2.1 8 37) (60 * at' + i) (vp_nar .byte (S.2.1 8 43 i)) j = _
      rw [upd_o _ _ (by omega)]
