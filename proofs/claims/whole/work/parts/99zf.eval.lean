/-! LAMPS: one set of lamps tried -/
/-- field i is in the set m -/
def mB (m i : Nat) : Bool := m.testBit (7 - i)
theorem bit_in : ∀ m, m < 256 → ∀ i, i < 8 → ((Int32.ofNat m &&& (1 <<< ((7 - Int32.ofNat i) &&& 31))) = 0 ↔ mB m i = false) := by decide +kernel
theorem light_loop {N nf m : Nat} {S : yS} {v : Int32} (hv : v = 0 ∨ v = 1) (h : nn (S.1 1 3) nf) (nf8 : nf ≤ 8) (hm : m < 256) : ∀ (d i n : Nat) (A : Nat → Int32), i + d = nf → d < n → ∃ A', f_X2_light_2 n N (yA S 1 1 A) (Int32.ofNat m) v (Int32.ofNat i) = some (0, yA S 1 1 A') ∧ ∀ j, A' j = if i ≤ j ∧ j < nf ∧ mB m j = true then v else A j := by
  intro d
  induction d with
  | zero =>
    intro i n A hi hn
    obtain ⟨n, rfl⟩ : ∃ x, n = x + 1 := ⟨n - 1, by omega⟩
    refine ⟨A, ?_, fun j => by rw [if_neg (by omega)]⟩
    rw [f_X2_light_2, yA_1, if_pos ((nn_le h (nn_lit i (by omega))).mpr (by omega))]
  | succ d ih =>
    intro i n A hi hn
    obtain ⟨n, rfl⟩ : ∃ x, n = x + 1 := ⟨n - 1, by omega⟩
    have ni := nn_lit i (by omega)
    rw [f_X2_light_2, yA_1, if_neg (fun z => by have := (nn_le h ni).mp z; omega)]
    unfold f_X2_bitOf f_X2_bitOf_0 f_X2_light_26
    rw [bV_s, y_int1, vz hv]
    by_cases b : mB m i = true
    · have nz : ¬ (Int32.ofNat m &&& (1 <<< ((7 - Int32.ofNat i) &&& 31))) = 0 := fun z => by
        have := (bit_in m hm i (by omega)).mp z
        rw [this] at b; cases b
      obtain ⟨A', a1, a2⟩ := ih (i + 1) n (upd A i v) (by omega) (by omega)
      refine ⟨A', ?_, fun j => ?_⟩
      · rw [if_neg nz, gA_nn ni (by omega), sq_s, yA_yA, yA_same]
        exact a1
      · rw [a2 j]
        by_cases e : j = i
        · rw [e, if_neg (by omega), upd_s, if_pos ⟨Nat.le_refl _, by omega, b⟩]
        · rw [upd_o _ _ e]
          by_cases c : i ≤ j ∧ j < nf ∧ mB m j = true
          · rw [if_pos c, if_pos ⟨by omega, c.2⟩]
          · rw [if_neg c, if_neg (fun z => c ⟨by omega, z.2⟩)]
    · have bf : mB m i = false := by cases h : mB m i; rfl; exact absurd h b
      obtain ⟨A', a1, a2⟩ := ih (i + 1) n A (by omega) (by omega)
      refine ⟨A', ?_, fun j => ?_⟩
      · rw [if_pos ((bit_in m hm i (by omega)).mpr bf)]
        exact a1
      · rw [a2 j]
        by_cases c : i ≤ j ∧ j < nf ∧ mB m j = true
        · have ne : j ≠ i := fun z => by rw [z] at c; exact b c.2.2
          rw [if_pos c, if_pos ⟨by omega, c.2⟩]
        · rw [if_neg c, if_neg (fun z => c ⟨by omega, z.2⟩)]
theorem light_c {N nf m : Nat} {S : yS} {v : Int32} (hN : 60 < N) (hv : v = 0 ∨ v = 1) (h : nn (S.1 1 3) nf) (nf8 : nf ≤ 8) (hm : m < 256) : ∃ A, f_X2_light N S (Int32.ofNat m) v = some (0, yA S 1 1 A) ∧ ∀ j, A j = if j < nf ∧ mB m j = true then v else S.2.1 1 1 j := by
  obtain ⟨A, a1, a2⟩ := light_loop (N := N) hv h nf8 hm nf 0 N (S.2.1 1 1) (by omega) (by omega)
  rw [yA_self] at a1
  refine ⟨A, a1, fun j => ?_⟩
  rw [a2 j]
  by_cases c : j < nf ∧ mB m j = true
  · rw [if_pos c, if_pos ⟨Nat.zero_le _, c⟩]
  · rw [if_neg c, if_neg (fun z => c z.2)]
theorem on_n {N nb : Nat} {S : yS} {v : Int32} (h : nn (S.1 8 28) nb) (nb30 : nb ≤ 30) : ∀ (d i n a : Nat), i + d = nb → a ≤ i → f_X12_onTime_4 n N S (Int32.ofNat a) (Int32.ofNat i) = some v → ∃ w, nn v w ∧ w ≤ 30 := by
  intro d
  induction d with
  | zero =>
    intro i n a hi ha e
    cases n with
    | zero => exact absurd e (by rw [f_X12_onTime_4]; exact fun z => by cases z)
    | succ n =>
      rw [f_X12_onTime_4, if_pos ((nn_le h (nn_lit i (by omega))).mpr (by omega))] at e
      exact ⟨a, by rw [← Option.some.inj e]; exact nn_lit a (by omega), by omega⟩
  | succ d ih =>
    intro i n a hi ha e
    have ni := nn_lit i (by omega)
    cases n with
    | zero => exact absurd e (by rw [f_X12_onTime_4]; exact fun z => by cases z)
    | succ n =>
      rw [f_X12_onTime_4, if_neg (fun z => by have := (nn_le h ni).mp z; omega)] at e
      unfold f_X12_onTime_40 at e
      rw [y_int1, y_int1] at e
      cases c : f_X12_bagOf N S (Int32.ofNat i) 3 with
      | none => rw [c] at e; cases e
      | some w1 =>
        rw [c, bV_s, bV_s] at e
        by_cases z : w1 = -1
        · rw [if_pos z] at e; exact ih (i + 1) n a (by omega) (by omega) e
        · rw [if_neg z, gA_nn ni (by omega)] at e
          by_cases y : S.2.1 8 27 i < w1
          · rw [if_pos y] at e; exact ih (i + 1) n a (by omega) (by omega) e
          · rw [if_neg y] at e; exact ih (i + 1) n (a + 1) (by omega) (by omega) e
theorem eval_both {cK : Nat → Nat} {N kw nf nl np nq nb ng t q m : Nat} {O OM S M : yS} {l2 : Int32} {W : Nat → Int32} (hN : 2400 < N) (hB : TB cK kw nf nl np nq nb ng O OM) (hS : TS cK nf nl np nq nb ng O OM S M) (ht : nn (S.1 2 13) t) (hq : nn l2 q) (q2 : q ≤ 200) (h3 : t + q ≤ 3000) (hm : m < 256) (hd : ∀ i, i < 8 → mB m i = true → i < nf ∧ O.2.1 1 1 i = 0) (w1 : ∀ i, i < 8 → W (3 + 2 * i) = if mB m i = true then 1 else M.2.1 8 48 (3 + 2 * i)) (w2 : ∀ j, (∀ i, i < 8 → j ≠ 3 + 2 * i) → W j = M.2.1 8 48 j) : ∃ w5 w6 S1 S2 S3 S4 S5 M2 M3 M4, f_X2_light N S (Int32.ofNat m) 1 = some (0, S1) ∧ f_X10_pass N S1 l2 = some (0, S2) ∧ f_X10_bagsGiven N S2 1 = some w5 ∧ f_X10_coinNow N S2 = some (w6, S3) ∧ f_X10_giveBack N S3 = some (0, S4) ∧ f_X2_light N S4 (Int32.ofNat m) 0 = some (0, S5) ∧ f_X12_go N (yA M 8 48 W) l2 = some (0, M2) ∧ f_X12_onTime N M2 = some w5 ∧ f_X12_coinNow N M2 = some (w6, M3) ∧ f_X12_putBack N M3 = some (0, M4) ∧ TS cK nf nl np nq nb ng O OM S5 M4 ∧ RSd np nq nb ng O S5 ∧ kR S M S5 M4 ∧ ∃ w, nn w5 w := by
  obtain ⟨bT, bD, bP, bW, b1, bS⟩ := hB
  obtain ⟨hT, hD, F, G⟩ := hS
  have nf8 : nf ≤ 8 := hT.1.2.1
  have rowS : S.2.1 1 1 = O.2.1 1 1 := (F 1 1 (by unfold pKT pQH pQC; omega)).2
  obtain ⟨A, l1, lA⟩ := light_c (N := N) (v := 1) (by omega) (Or.inr rfl) hT.1.1 nf8 hm
  have hC1 : FR pcFi S (yA S 1 1 A) := FR_A _ _ _ _ ⟨rfl, by decide⟩
  have hM1 : FR pmFi M (yA M 8 48 W) := FR_A _ _ _ _ ⟨rfl, Or.inr (Or.inr rfl)⟩
  have hRF : RF nf (yA S 1 1 A) (yA M 8 48 W) := by
    refine ⟨hT.1.1, hT.1.2.1, hT.1.2.2.1, fun i hi => ?_⟩
    obtain ⟨y1, y2, y3, y4, s, s1, s2⟩ := hT.1.2.2.2 i hi
    have e4 : (yA M 8 48 W).2.1 8 48 (4 + 2 * i) = M.2.1 8 48 (4 + 2 * i) := by rw [yA_same]; exact w2 _ (fun i' h' => by omega)
    have e3 : (yA M 8 48 W).2.1 8 48 (3 + 2 * i) = if mB m i = true then 1 else M.2.1 8 48 (3 + 2 * i) := by rw [yA_same]; exact w1 i hi
    have e1 : (yA S 1 1 A).2.1 1 1 i = if mB m i = true then 1 else S.2.1 1 1 i := by
      rw [yA_same, lA i]
      by_cases c : mB m i = true
      · rw [if_pos c, if_pos ⟨(hd i hi c).1, c⟩]
      · rw [if_neg c, if_neg (fun z => c z.2)]
    refine ⟨by rw [yA_2n _ _ (by decide), yA_2n _ _ (by decide)]; exact y1, ?_, by rw [e4, yA_2n _ _ (by decide)]; exact y3, ?_, s, by rw [e4]; exact s1, s2⟩
    · rw [e1, e3, y2]
    · rw [e3]
      by_cases c : mB m i = true
      · rw [if_pos c]; exact Or.inr rfl
      · rw [if_neg c]; exact y4
  obtain ⟨hT1, hD1⟩ := ST_lamp hT hD hC1 hM1 hRF (fun i hi => by rw [yA_same]; exact w2 i (fun i' h' => by omega))
  obtain ⟨S2, M2, g1, g2, g3, g4, g5, g6⟩ := go_both (N := N) (by omega) (by omega) hq hT1 hD1 (show nn ((yA S 1 1 A).1 2 13) t from ht) h3
  have ton := onTime_loop (N := N) (Sm := M2) (Sc := S2) g3.2.2.2.2.2.2.1.2.2.1.1 g3.2.2.2.2.2.2.1.2.2.1.2.2 g3.2.2.2.2.2.2.1.2.2.1.2.1 (fun b hb => by
    obtain ⟨y0, _, _, _, _, y5, _, _, d, d1, _⟩ := g3.2.2.2.2.2.2.2.2.2.1 b hb
    obtain ⟨x1, _, x3⟩ := g4.2.2.2.2.2.2.1 b hb
    exact ⟨y0, x1 3 (by decide), y5, ⟨d, d1⟩, x3.1⟩) nb 0 N N 0 (by omega) (by have := g3.2.2.2.2.2.2.1.2.2.1.2.1; omega) (by have := g3.2.2.2.2.2.2.1.2.2.1.2.1; omega)
  obtain ⟨w5, o1, o2⟩ := ton
  obtain ⟨w6, S3, M3, e1, e2, e3, e4⟩ := coinNow_both (by omega : 60 < N) g3 g4
  obtain ⟨hT3, hD3⟩ := irr_both g3 g4 e3 (pPy_pI e4)
  have F3 : FR pKL O S3 := FR_trans (FR_mono F (fun o k z => Or.inl z)) (FR_trans (FR_A _ _ _ _ (Or.inr ⟨rfl, rfl⟩)) (FR_trans (FR_mono g6.1 (fun o k z => Or.inl (Or.inl z))) (FR_mono e3 (fun o k z => Or.inl (pI1_KT z)))))
  have G3 : FR pKM OM M3 := FR_trans G (FR_trans (FR_A _ _ _ _ (Or.inl ⟨rfl, by omega⟩)) (FR_trans (FR_mono g6.2.1 (fun o k z => by unfold pQM at z; unfold pKM; omega)) (FR_mono e4 (fun o k z => by unfold pPy at z; unfold pKM; omega))))
  obtain ⟨S4, k1, k2, k3, k4⟩ := back_class (M := M3) hN bT bD bP F3
  obtain ⟨B, m1, m2⟩ := back_m (N := N) (S := M3) hN
  have nf4 : nn (S4.1 1 3) nf := by
    rw [(k3 1 3 (by unfold pQH pQC; omega)).1, (F3 1 3 (by unfold pKL pKT pQH pQC; omega)).1]
    exact bT.1.1
  obtain ⟨A2, l3, lA2⟩ := light_c (N := N) (v := 0) (by omega) (Or.inl rfl) nf4 nf8 hm
  have row4 : S4.2.1 1 1 = A := by
    have x1 : S4.2.1 1 1 = S3.2.1 1 1 := by rw [k2]
    have x2 : S3.2.1 1 1 = S2.2.1 1 1 := (e3 1 1 (by unfold pI1; omega)).2
    have x3 : S2.2.1 1 1 = (yA S 1 1 A).2.1 1 1 := (g6.1 1 1 (by unfold pQH pQC; omega)).2
    rw [x1, x2, x3, yA_same]
  have eA2 : A2 = O.2.1 1 1 := by
    funext j
    rw [lA2 j, row4, lA j, rowS]
    by_cases c : j < nf ∧ mB m j = true
    · rw [if_pos c, (hd j (by omega) c.2).2]
    · rw [if_neg c, if_neg c]
  have F5 : FR pKT O (yA S4 1 1 A2) := fun o k h => by
    by_cases e : o = 1 ∧ k = 1
    · obtain ⟨rfl, rfl⟩ := e
      refine ⟨?_, by rw [yA_same, eA2]⟩
      show S4.1 1 1 = O.1 1 1
      rw [(k3 1 1 (by unfold pQH pQC; omega)).1]
      have y1 : S3.1 1 1 = S2.1 1 1 := (e3 1 1 (by unfold pI1; omega)).1
      have y2 : S2.1 1 1 = S.1 1 1 := (g6.1 1 1 (by unfold pQH pQC; omega)).1
      rw [y1, y2, (F 1 1 h).1]
    · have h' : ¬ pKL o k := fun z => z.elim h (fun z => e z)
      have hq' : ¬ pQH o k := fun z => h (Or.inl z)
      exact ⟨(k3 o k hq').1.trans (F3 o k h').1, (yA_2n _ _ e).trans ((k3 o k hq').2.trans (F3 o k h').2)⟩
  have G4 : FR pKM OM (yA M3 8 48 B) := FR_trans G3 (FR_A _ _ _ _ (Or.inl ⟨rfl, by omega⟩))
  have w : ∀ i, i < 2305 → (yA M3 8 48 B).2.1 8 48 i = OM.2.1 8 48 i := fun i hi => by
    rw [yA_same, m2 i hi, (G3 8 49 (by unfold pKM; omega)).2]
    exact bP.2.2.2.2.2.2.2 i hi
  obtain ⟨r1, r2⟩ := rows_same bD hD3 b1
  have i5 : ∀ o k, (yA S4 1 1 A2).1 o k = S4.1 o k := fun _ _ => rfl
  obtain ⟨hT5, hD5⟩ := fin_both bT bD bW b1 bS F5 k4 (fun j i a b c => by rw [yA_2n _ _ (by omega), k2]; exact r1 j i a b c) (fun b hb j hj => by rw [yA_2n _ _ (by omega), k2]; exact r2 b hb j hj) G4 w
  refine ⟨w5, w6, _, S2, S3, S4, _, M2, M3, _, l1, g1, o1, e1, k1, l3, g2, o2, e2, m1, ⟨hT5, hD5, F5, G4⟩, k4, ?_, ?_⟩
  · refine kR_trans (kR_FR (pc := fun o _ => o = 1) (pm := fun o k => o = 8 ∧ k = 48) (FR_A _ _ _ _ rfl) (FR_A _ _ _ _ ⟨rfl, rfl⟩) (fun k z => by omega) (fun k a b z => by have := z.2; omega)) (kR_trans (kR_QH g6) (kR_trans (kR_FR e3 e4 (fun k z => by unfold pI1 at z; omega) (fun k a b z => by unfold pPy at z; omega)) (kR_FR (pc := fun o k => pQH o k ∨ o = 1) (pm := fun o k => o = 8 ∧ k = 48) (FR_trans (FR_mono k3 (fun o k z => Or.inl z)) (FR_A _ _ _ _ (Or.inr rfl))) (FR_A _ _ _ _ ⟨rfl, rfl⟩) (fun k z => by unfold pQH pQC at z; omega) (fun k a b z => by have := z.2; omega))))
  · have n28 : nn (M2.1 8 28) nb := by
      rw [g3.2.2.2.2.2.2.1.2.2.1.2.2]; exact g3.2.2.2.2.2.2.1.2.2.1.1
    obtain ⟨w, x1, _⟩ := on_n n28 (by have := g3.2.2.2.2.2.2.1.2.2.1.2.1; omega) nb 0 N 0 (by omega) (Nat.le_refl _) o2
    exact ⟨w, x1⟩
