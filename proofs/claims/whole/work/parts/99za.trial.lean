/-! A TRIAL, on both sides -/
theorem aside_loop {N : Nat} {S : yS} : ∀ (d i m : Nat) (A : Nat → Int32), i + d = 2305 → d < m → ∃ A', f_X12_putAside_2 m N (yA S 8 49 A) (Int32.ofNat i) = some (0, yA S 8 49 A') ∧ (∀ j, i ≤ j → j < 2305 → A' j = S.2.1 8 48 j) ∧ ∀ j, j < i → A' j = A j := by
  intro d
  induction d with
  | zero =>
    intro i m A hi hm
    obtain ⟨m, rfl⟩ : ∃ x, m = x + 1 := ⟨m - 1, by omega⟩
    refine ⟨A, ?_, fun j a b => by omega, fun _ _ => rfl⟩
    rw [f_X12_putAside_2, if_pos ((nn_le (nn_l 2305 (by decide)) (nn_lit i (by omega))).mpr (by omega))]
  | succ d ih =>
    intro i m A hi hm
    obtain ⟨m, rfl⟩ : ∃ x, m = x + 1 := ⟨m - 1, by omega⟩
    have ni := nn_lit i (by omega)
    obtain ⟨A', a1, a2, a3⟩ := ih (i + 1) m (upd A i (S.2.1 8 48 i)) (by omega) (by omega)
    refine ⟨A', ?_, fun j a b => ?_, fun j hj => by rw [a3 j (by omega), upd_o _ _ (by omega)]⟩
    · rw [f_X12_putAside_2, if_neg (fun z => by have := (nn_le (nn_l 2305 (by decide)) ni).mp z; omega), gA_nn ni (by omega), gA_nn ni (by omega), sq_s, yA_yA, yA_same, yA_2n _ _ (by decide), y_int1]
      exact a1
    · by_cases e : j = i
      · rw [e, a3 i (by omega), upd_s]
      · exact a2 j (by omega) b
theorem back_loop {N : Nat} {S : yS} : ∀ (d i m : Nat) (A : Nat → Int32), i + d = 2305 → d < m → ∃ A', f_X12_putBack_2 m N (yA S 8 48 A) (Int32.ofNat i) = some (0, yA S 8 48 A') ∧ (∀ j, i ≤ j → j < 2305 → A' j = S.2.1 8 49 j) ∧ ∀ j, j < i → A' j = A j := by
  intro d
  induction d with
  | zero =>
    intro i m A hi hm
    obtain ⟨m, rfl⟩ : ∃ x, m = x + 1 := ⟨m - 1, by omega⟩
    refine ⟨A, ?_, fun j a b => by omega, fun _ _ => rfl⟩
    rw [f_X12_putBack_2, if_pos ((nn_le (nn_l 2305 (by decide)) (nn_lit i (by omega))).mpr (by omega))]
  | succ d ih =>
    intro i m A hi hm
    obtain ⟨m, rfl⟩ : ∃ x, m = x + 1 := ⟨m - 1, by omega⟩
    have ni := nn_lit i (by omega)
    obtain ⟨A', a1, a2, a3⟩ := ih (i + 1) m (upd A i (S.2.1 8 49 i)) (by omega) (by omega)
    refine ⟨A', ?_, fun j a b => ?_, fun j hj => by rw [a3 j (by omega), upd_o _ _ (by omega)]⟩
    · rw [f_X12_putBack_2, if_neg (fun z => by have := (nn_le (nn_l 2305 (by decide)) ni).mp z; omega), gA_nn ni (by omega), gA_nn ni (by omega), sq_s, yA_yA, yA_same, yA_2n _ _ (by decide), y_int1]
      exact a1
    · by_cases e : j = i
      · rw [e, a3 i (by omega), upd_s]
      · exact a2 j (by omega) b
theorem aside_m {N : Nat} {S : yS} (hN : 2400 < N) : ∃ A, f_X12_putAside N S = some (0, yA S 8 49 A) ∧ ∀ j, j < 2305 → A j = S.2.1 8 48 j := by
  obtain ⟨A, a1, a2, _⟩ := aside_loop (N := N) (S := S) 2305 0 N (S.2.1 8 49) (by omega) (by omega)
  rw [yA_self] at a1
  exact ⟨A, a1, fun j hj => a2 j (Nat.zero_le _) hj⟩
theorem back_m {N : Nat} {S : yS} (hN : 2400 < N) : ∃ A, f_X12_putBack N S = some (0, yA S 8 48 A) ∧ ∀ j, j < 2305 → A j = S.2.1 8 49 j := by
  obtain ⟨A, a1, a2, _⟩ := back_loop (N := N) (S := S) 2305 0 N (S.2.1 8 48) (by omega) (by omega)
  rw [yA_self] at a1
  exact ⟨A, a1, fun j hj => a2 j (Nat.zero_le _) hj⟩
/-- what is kept -/
def KP (np nq nb ng : Nat) (O OM : yS) : Prop := (∀ p, p < np → O.1 (128 + p) 20 = 1 ∧ ∀ k, k ∈ lst6 → O.1 (192 + p) k = O.1 (128 + p) k) ∧ (∀ p, p < nq → O.1 (256 + p) 4 = 1 ∧ ∀ k, k ∈ lst5 → O.1 (320 + p) k = O.1 (256 + p) k) ∧ (∀ p, p < nb → O.1 (384 + p) 11 = 1 ∧ ∀ k, k ∈ lst0 → O.1 (448 + p) k = O.1 (384 + p) k) ∧ (∀ p, p < ng → O.1 (512 + p) 10 = 1 ∧ ∀ k, k ∈ lst1 → O.1 (576 + p) k = O.1 (512 + p) k) ∧ O.1 2 17 = O.1 2 13 ∧ O.1 2 18 = O.1 2 14 ∧ O.1 2 19 = O.1 3 1 ∧ ∀ i, i < 2305 → OM.2.1 8 49 i = OM.2.1 8 48 i
def pKT (o k : Nat) : Prop := pQH o k ∨ k < 0
/-- and the lamps -/
def pKL (o k : Nat) : Prop := pKT o k ∨ (o = 1 ∧ k = 1)
def pKM (o k : Nat) : Prop := (o = 8 ∧ (k = 45 ∨ k = 46 ∨ k = 47 ∨ k = 48 ∨ (50 ≤ k ∧ k ≤ 57))) ∨ k < 0
/-- what keep may change -/
def pKK (o k : Nat) : Prop := (o = 2 ∧ 17 ≤ k ∧ k ≤ 19) ∨ (192 ≤ o ∧ o < 200) ∨ (320 ≤ o ∧ o < 328) ∨ (448 ≤ o ∧ o < 478) ∨ (576 ≤ o ∧ o < 600) ∨ (128 ≤ o ∧ o < 136 ∧ k = 20) ∨ (256 ≤ o ∧ o < 264 ∧ k = 4) ∨ (384 ≤ o ∧ o < 414 ∧ k = 11) ∨ (512 ≤ o ∧ o < 536 ∧ k = 10)
theorem keep_class {cK : Nat → Nat} {N nf nl np nq nb ng : Nat} {Sc Sm : yS} (hN : 2400 < N) (hT : ST cK nf nl np nq nb ng Sc Sm) (hD : DY cK nf nl np nq nb ng Sc Sm) : ∃ S1, f_X10_keep N Sc = some (0, S1) ∧ FR pKK Sc S1 ∧ oN np nq nb ng S1 ∧ ∀ OM, (∀ i, i < 2305 → OM.2.1 8 49 i = OM.2.1 8 48 i) → KP np nq nb ng S1 OM := by
  obtain ⟨t1, t2, t3, t4, t5, t6, t7, t8, t9, t10, t11, t12, t13, t14⟩ := id hT
  have np8 : np ≤ 8 := t7.1.2.1
  have nq8 : nq ≤ 8 := t7.2.1.2.1
  have nb30 : nb ≤ 30 := t7.2.2.1.2.1
  have ng24 : ng ≤ 24 := t7.2.2.2.2.1
  obtain ⟨n1, n2, n3, n4, n5, n6, n7, n8⟩ := t13
  have hpl : ∀ p, p < np → (Sc.1 (128 + p) 4 = 0 ∨ Sc.1 (128 + p) 4 = 1) ∧ (Sc.1 (128 + p) 11 = 0 ∨ Sc.1 (128 + p) 11 = 1) ∧ (Sc.1 (128 + p) 12 = 0 ∨ Sc.1 (128 + p) 12 = 1) := fun p hp => by
    obtain ⟨_, _, _, _, _, _, _, s, s1, s2, s3, s4⟩ := t8 p hp
    exact ⟨s4, (hD.2.2.2.2.2.2.2.2 p hp).2.2.1, down01 hD hp⟩
  generalize hS0 : yI (yI (yI Sc 2 17 (Sc.1 2 13)) 2 18 (Sc.1 2 14)) 2 19 (Sc.1 3 1) = S0
  have c0 : ∀ o k, (o ≠ 2 ∨ k < 17 ∨ 19 < k) → S0.1 o k = Sc.1 o k := fun o k h => by rw [← hS0, yI_1n _ _ (by omega), yI_1n _ _ (by omega), yI_1n _ _ (by omega)]
  have c0r : S0.2 = Sc.2 := by rw [← hS0]; rfl
  have v17 : S0.1 2 17 = Sc.1 2 13 := by rw [← hS0, yI_1n _ _ (by omega), yI_1n _ _ (by omega), yI_1s]
  have v18 : S0.1 2 18 = Sc.1 2 14 := by rw [← hS0, yI_1n _ _ (by omega), yI_1s]
  have v19 : S0.1 2 19 = Sc.1 3 1 := by rw [← hS0, yI_1s]
  obtain ⟨A, a1, ⟨a2, a3, a4⟩⟩ := keepL6 (N := N) (n := np) np8 np 0 N S0 (by omega) (by omega) (by rw [c0 2 5 (by omega)]; exact t7.1.1) (fun j hj => by rw [c0r]; exact (t8 j hj).1) (fun j hj => by rw [c0 _ _ (by omega)]; exact n5 j hj) (fun j hj => by rw [c0 _ _ (by omega), c0 _ _ (by omega), c0 _ _ (by omega)]; exact hpl j hj)
  obtain ⟨B, b1, ⟨b2, b3, b4⟩⟩ := keepL5 (N := N) (n := nq) nq8 nq 0 N A (by omega) (by omega) (by rw [a2 2 7 (by omega) (by omega), c0 2 7 (by omega)]; exact t7.2.1.1) (fun j hj => by rw [a3 2 6 (by omega), c0r]; exact t9 j hj) (fun j hj => by rw [a2 _ _ (by omega) (by omega), c0 _ _ (by omega)]; exact n6 j hj)
  obtain ⟨D, d1, ⟨d2, d3, d4⟩⟩ := keepL0 (N := N) (n := nb) nb30 nb 0 N B (by omega) (by omega) (by rw [b2 2 9 (by omega) (by omega), a2 2 9 (by omega) (by omega), c0 2 9 (by omega)]; exact t7.2.2.1.1) (fun j hj => by rw [b3 2 8 (by omega), a3 2 8 (by omega), c0r]; exact (t10 j hj).1) (fun j hj => by rw [b2 _ _ (by omega) (by omega), a2 _ _ (by omega) (by omega), c0 _ _ (by omega)]; exact n7 j hj)
  obtain ⟨E, e1, ⟨e2, e3, e4⟩⟩ := keepL1 (N := N) (n := ng) ng24 ng 0 N D (by omega) (by omega) (by rw [d2 2 12 (by omega) (by omega), b2 2 12 (by omega) (by omega), a2 2 12 (by omega) (by omega), c0 2 12 (by omega)]; exact t7.2.2.2.1) (fun j hj => by rw [d3 2 11 (by omega), b3 2 11 (by omega), a3 2 11 (by omega), c0r]; exact (t11 j hj).1) (fun j hj => by rw [d2 _ _ (by omega) (by omega), b2 _ _ (by omega) (by omega), a2 _ _ (by omega) (by omega), c0 _ _ (by omega)]; exact n8 j hj)
  -- one way for each region
  have fE : ∀ o k, ¬ (576 ≤ o ∧ o < 576 + ng) → ¬ (512 ≤ o ∧ o < 512 + ng ∧ k = 10) → E.1 o k = D.1 o k := fun o k x y => e2 o k (by omega) (by omega)
  have fD : ∀ o k, ¬ (448 ≤ o ∧ o < 448 + nb) → ¬ (384 ≤ o ∧ o < 384 + nb ∧ k = 11) → D.1 o k = B.1 o k := fun o k x y => d2 o k (by omega) (by omega)
  have fB : ∀ o k, ¬ (320 ≤ o ∧ o < 320 + nq) → ¬ (256 ≤ o ∧ o < 256 + nq ∧ k = 4) → B.1 o k = A.1 o k := fun o k x y => b2 o k (by omega) (by omega)
  have fA : ∀ o k, ¬ (192 ≤ o ∧ o < 192 + np) → ¬ (128 ≤ o ∧ o < 128 + np ∧ k = 20) → A.1 o k = S0.1 o k := fun o k x y => a2 o k (by omega) (by omega)
  refine ⟨E, ?_, fun o k h => ?_, ?_, fun OM hOM => ?_⟩
  · unfold f_X10_keep f_X10_keep_0
    rw [sq_s, sq_s, sq_s, show (yI Sc 2 17 (Sc.1 2 13)).1 2 14 = Sc.1 2 14 from yI_1n _ _ (by decide), show (yI (yI Sc 2 17 (Sc.1 2 13)) 2 18 (Sc.1 2 14)).1 3 1 = Sc.1 3 1 from by rw [yI_1n _ _ (by decide), yI_1n _ _ (by decide)], hS0]
    exact a1.trans (b1.trans (d1.trans e1))
  · unfold pKK at h
    refine ⟨?_, ?_⟩
    · rw [fE o k (by omega) (by omega), fD o k (by omega) (by omega), fB o k (by omega) (by omega), fA o k (by omega) (by omega), c0 o k (by omega)]
    · rw [e3 o k (by omega), d3 o k (by omega), b3 o k (by omega), a3 o k (by omega), c0r]
  · refine ⟨fun p x y => ?_, fun p x y => ?_, fun p x y => ?_, fun p x y => ?_, fun p x => ?_, fun p x => ?_, fun p x => ?_, fun p x => ?_⟩
    · rw [e3 2 4 (by omega), d3 2 4 (by omega), b3 2 4 (by omega), a3 2 4 (by omega), c0r, fE _ _ (by omega) (by omega), fD _ _ (by omega) (by omega), fB _ _ (by omega) (by omega), fA _ _ (by omega) (by omega), c0 _ _ (by omega)]
      exact n1 p x y
    · rw [e3 2 6 (by omega), d3 2 6 (by omega), b3 2 6 (by omega), a3 2 6 (by omega), c0r, fE _ _ (by omega) (by omega), fD _ _ (by omega) (by omega), fB _ _ (by omega) (by omega), fA _ _ (by omega) (by omega), c0 _ _ (by omega)]
      exact n2 p x y
    · rw [e3 2 8 (by omega), d3 2 8 (by omega), b3 2 8 (by omega), a3 2 8 (by omega), c0r, fE _ _ (by omega) (by omega), fD _ _ (by omega) (by omega), fB _ _ (by omega) (by omega), fA _ _ (by omega) (by omega), c0 _ _ (by omega)]
      exact n3 p x y
    · rw [e3 2 11 (by omega), d3 2 11 (by omega), b3 2 11 (by omega), a3 2 11 (by omega), c0r, fE _ _ (by omega) (by omega), fD _ _ (by omega) (by omega), fB _ _ (by omega) (by omega), fA _ _ (by omega) (by omega), c0 _ _ (by omega)]
      exact n4 p x y
    · rw [fE _ _ (by omega) (by omega), fD _ _ (by omega) (by omega), fB _ _ (by omega) (by omega)]
      rcases Nat.lt_or_ge p np with z | z
      · exact (a4 p (Nat.zero_le _) z).2.1
      · rw [fA _ _ (by omega) (by omega), c0 _ _ (by omega)]; exact n5 p x
    · rw [fE _ _ (by omega) (by omega), fD _ _ (by omega) (by omega)]
      rcases Nat.lt_or_ge p nq with z | z
      · exact (b4 p (Nat.zero_le _) z).2.1
      · rw [fB _ _ (by omega) (by omega), fA _ _ (by omega) (by omega), c0 _ _ (by omega)]; exact n6 p x
    · rw [fE _ _ (by omega) (by omega)]
      rcases Nat.lt_or_ge p nb with z | z
      · exact (d4 p (Nat.zero_le _) z).2.1
      · rw [fD _ _ (by omega) (by omega), fB _ _ (by omega) (by omega), fA _ _ (by omega) (by omega), c0 _ _ (by omega)]; exact n7 p x
    · rcases Nat.lt_or_ge p ng with z | z
      · exact (e4 p (Nat.zero_le _) z).2.1
      · rw [fE _ _ (by omega) (by omega), fD _ _ (by omega) (by omega), fB _ _ (by omega) (by omega), fA _ _ (by omega) (by omega), c0 _ _ (by omega)]; exact n8 p x
  · have g2 : ∀ k, E.1 2 k = S0.1 2 k := fun k => by rw [fE _ _ (by omega) (by omega), fD _ _ (by omega) (by omega), fB _ _ (by omega) (by omega), fA _ _ (by omega) (by omega)]
    refine ⟨fun p hp => ?_, fun p hp => ?_, fun p hp => ?_, fun p hp => ⟨(e4 p (Nat.zero_le _) hp).1, (e4 p (Nat.zero_le _) hp).2.2⟩, by rw [g2, g2, v17, c0 2 13 (by omega)], by rw [g2, g2, v18, c0 2 14 (by omega)], ?_, hOM⟩
    · obtain ⟨x1, _, x3⟩ := a4 p (Nat.zero_le _) hp
      have ea : ∀ k, E.1 (128 + p) k = A.1 (128 + p) k := fun k => by rw [fE _ _ (by omega) (by omega), fD _ _ (by omega) (by omega), fB _ _ (by omega) (by omega)]
      have eb : ∀ k, E.1 (192 + p) k = A.1 (128 + 64 + p) k := fun k => by rw [fE _ _ (by omega) (by omega), fD _ _ (by omega) (by omega), fB _ _ (by omega) (by omega)]
      exact ⟨by rw [ea]; exact x1, fun k hk => by rw [ea, eb]; exact x3 k hk⟩
    · obtain ⟨x1, _, x3⟩ := b4 p (Nat.zero_le _) hp
      have ea : ∀ k, E.1 (256 + p) k = B.1 (256 + p) k := fun k => by rw [fE _ _ (by omega) (by omega), fD _ _ (by omega) (by omega)]
      have eb : ∀ k, E.1 (320 + p) k = B.1 (256 + 64 + p) k := fun k => by rw [fE _ _ (by omega) (by omega), fD _ _ (by omega) (by omega)]
      exact ⟨by rw [ea]; exact x1, fun k hk => by rw [ea, eb]; exact x3 k hk⟩
    · obtain ⟨x1, _, x3⟩ := d4 p (Nat.zero_le _) hp
      have ea : ∀ k, E.1 (384 + p) k = D.1 (384 + p) k := fun k => by rw [fE _ _ (by omega) (by omega)]
      have eb : ∀ k, E.1 (448 + p) k = D.1 (384 + 64 + p) k := fun k => by rw [fE _ _ (by omega) (by omega)]
      exact ⟨by rw [ea]; exact x1, fun k hk => by rw [ea, eb]; exact x3 k hk⟩
    · rw [g2, v19, fE 3 1 (by omega) (by omega), fD 3 1 (by omega) (by omega), fB 3 1 (by omega) (by omega), fA 3 1 (by omega) (by omega), c0 3 1 (by omega)]
theorem KK_X {o k : Nat} (h : pKK o k) : pQX o k := by
  unfold pQX pQW
  rcases h with h | h | h | h | h | h | h | h | h
  · exact Or.inl (Or.inr (Or.inr (Or.inr (Or.inr (Or.inr (Or.inr (Or.inr (Or.inr h))))))))
  · exact Or.inr (Or.inl h)
  · exact Or.inr (Or.inr (Or.inl h))
  · exact Or.inr (Or.inr (Or.inr (Or.inl h)))
  · exact Or.inr (Or.inr (Or.inr (Or.inr (Or.inl h))))
  · exact Or.inr (Or.inr (Or.inr (Or.inr (Or.inr (Or.inl h)))))
  · exact Or.inr (Or.inr (Or.inr (Or.inr (Or.inr (Or.inr (Or.inl h))))))
  · exact Or.inr (Or.inr (Or.inr (Or.inr (Or.inr (Or.inr (Or.inr (Or.inl h)))))))
  · exact Or.inr (Or.inr (Or.inr (Or.inr (Or.inr (Or.inr (Or.inr (Or.inr h)))))))
/-- what a number is as a natural, for the ghosts -/
def gN (x : Int32) : Nat := x.toUInt32.toNat
theorem gN_of (x : Int32) : Int32.ofNat (gN x) = x := by
  unfold gN
  apply Int32.toBitVec_inj.mp
  apply BitVec.eq_of_toNat_eq
  simp [Int32.ofNat]
/-- the ghosts that hold what is there now -/
def gK (cK : Nat → Nat) (kw : Nat) (st : Nat → Nat) (S : yS) : Nat → Nat := fun z => if z < 1000 then cK z else if z = 1000 then kw else if z < 1031 then st (z - 1001) else if z < 5000 then gN (S.2.1 3 ((z - 2000) % 9) ((z - 2000) / 9)) else gN (S.2.1 (384 + (z - 5000) / 32) 9 ((z - 5000) % 32))
theorem gK_lo {cK : Nat → Nat} {kw : Nat} {st : Nat → Nat} {S : yS} {z : Nat} (h : z < 1000) : gK cK kw st S z = cK z := if_pos h
theorem gK_w {cK : Nat → Nat} {kw : Nat} {st : Nat → Nat} {S : yS} : gK cK kw st S 1000 = kw := by
  unfold gK
  rw [if_neg (by decide), if_pos rfl]
theorem gK_b {cK : Nat → Nat} {kw : Nat} {st : Nat → Nat} {S : yS} {b : Nat} (h : b < 30) : gK cK kw st S (1001 + b) = st b := by
  unfold gK
  rw [if_neg (by omega), if_neg (by omega), if_pos (by omega), Nat.add_sub_cancel_left]
theorem gK_wr {cK : Nat → Nat} {kw : Nat} {st : Nat → Nat} {S : yS} {j i : Nat} (hj : j < 9) (hi : i < 120) : Int32.ofNat (gK cK kw st S (2000 + 9 * i + j)) = S.2.1 3 j i := by
  unfold gK
  rw [if_neg (by omega), if_neg (by omega), if_neg (by omega), if_pos (by omega), show (2000 + 9 * i + j - 2000) % 9 = j by omega, show (2000 + 9 * i + j - 2000) / 9 = i by omega]
  exact gN_of _
theorem gK_br {cK : Nat → Nat} {kw : Nat} {st : Nat → Nat} {S : yS} {b j : Nat} (hj : j < 32) : Int32.ofNat (gK cK kw st S (5000 + 32 * b + j)) = S.2.1 (384 + b) 9 j := by
  unfold gK
  rw [if_neg (by omega), if_neg (by omega), if_neg (by omega), if_neg (by omega), show (5000 + 32 * b + j - 5000) / 32 = b by omega, show (5000 + 32 * b + j - 5000) % 32 = j by omega]
  exact gN_of _
/-- the labels below 1000 are all that the fixed part needs -/
theorem ST_gh {cK cK' : Nat → Nat} {nf nl np nq nb ng : Nat} {Sc Sm : yS} (h : ST cK nf nl np nq nb ng Sc Sm) (e : ∀ z, z < 1000 → cK' z = cK z) : ST cK' nf nl np nq nb ng Sc Sm := by
  have h0 := h
  obtain ⟨t1, t2, ⟨t3a, t3l, t3b, t3f⟩, t4⟩ := h
  have nf8 := t1.2.1
  have nl12 := t2.2.1
  have nb30 := h0.2.2.2.2.2.2.1.2.2.1.2.1
  refine ⟨t1, t2, ⟨RDc_ext t3a (fun x hx => (e x (by omega)).symm), fun l hl a ha => ?_, fun b hb a ha => ?_, fun p hp => by rw [e _ (by omega)]; exact t3f p hp⟩, t4⟩
  · obtain ⟨k, hR⟩ := t2.2.2.2.1 l hl
    obtain ⟨_, ⟨ya, ya1, ya2⟩, ⟨yb, yb1, yb2⟩, _⟩ := hR
    have a8 : a < 8 := by
      rcases ha with w | w
      · have := nn_inj w ya1; omega
      · have := nn_inj w yb1; omega
    rw [e a (by omega), e _ (by omega)]; exact t3l l hl a ha
  · obtain ⟨_, _, _, _, _, _, ⟨ya, ya1, ya2⟩, ⟨yb, yb1, yb2⟩, _⟩ := h0.2.2.2.2.2.2.2.2.2.1 b hb
    have a8 : a < 8 := by
      rcases ha with w | w
      · have := nn_inj w ya1; omega
      · have := nn_inj w yb1; omega
    rw [e a (by omega), e _ (by omega)]; exact t3b b hb a ha
theorem DY_gh {cK cK' : Nat → Nat} {nf nl np nq nb ng : Nat} {Sc Sm : yS} (h : DY cK nf nl np nq nb ng Sc Sm) (nf8 : nf ≤ 8) (nl12 : nl ≤ 12) (np8 : np ≤ 8) (nb30 : nb ≤ 30) (e : ∀ z, z < 1000 → cK' z = cK z) (hw : ∀ k, RW k Sc Sm → cK' 1000 ≤ k ∧ ∀ j i, 2 ≤ j → j < 9 → i < cK' 1000 → Sc.2.1 3 j i = Int32.ofNat (cK' (2000 + 9 * i + j))) (hb : ∀ b n, b < nb → nn (Sc.1 (384 + b) 10) n → n ≤ 16 → cK' (1001 + b) ≤ n ∧ ∀ j, j < 2 * cK' (1001 + b) → Sc.2.1 (384 + b) 9 j = Int32.ofNat (cK' (5000 + 32 * b + j))) : DY cK' nf nl np nq nb ng Sc Sm := by
  obtain ⟨d1, d2, d3, ⟨kw, d4, _, _⟩, d5, d6, d7, d8, d9⟩ := h
  refine ⟨d1, d2, d3, ⟨kw, d4, (hw kw d4).1, (hw kw d4).2⟩, d5, d6, fun b hb' => ?_, d8, fun p hp => ?_⟩
  · obtain ⟨x1, ⟨n, n1, ⟨n2, _, _⟩, n3⟩, x3, x4, x5⟩ := d7 b hb'
    obtain ⟨w1, w2⟩ := hb b n hb' n1 n2
    refine ⟨x1, ⟨n, n1, ⟨n2, w1, w2⟩, n3⟩, x3, ?_, fun p hp hn => ?_⟩
    · rcases x4 with z | ⟨f, f1, f2, f3⟩
      · exact Or.inl z
      · exact Or.inr ⟨f, f1, f2, by rw [e f (by omega), e _ (by omega)]; exact f3⟩
    · obtain ⟨y1, y2⟩ := x5 p hp hn
      exact ⟨by rw [e _ (by omega), e _ (by omega)]; exact y1, by rw [e _ (by omega)]; exact y2⟩
  · obtain ⟨i1, i2, i3, i4, i5, i6⟩ := d9 p hp
    refine ⟨i1, i2, i3, ?_, i5, i6⟩
    rcases i4 with ⟨⟨f, f1, f2, f3⟩, z⟩ | ⟨z1, z2, ⟨l, m, M, a1, a2, a3, a4, a5, a6⟩, z3⟩
    · exact Or.inl ⟨⟨f, f1, f2, by rw [e f (by omega), e _ (by omega)]; exact f3⟩, z⟩
    · exact Or.inr ⟨z1, z2, ⟨l, m, M, a1, a2, a3, a4, a5, by rw [e _ (by omega), e _ (by omega)]; exact a6⟩, z3⟩
/-- keep: on both sides, with ghosts of all that is there -/
theorem keep_both {cK : Nat → Nat} {N nf nl np nq nb ng : Nat} {Sc Sm : yS} (hN : 2400 < N) (hT : ST cK nf nl np nq nb ng Sc Sm) (hD : DY cK nf nl np nq nb ng Sc Sm) : ∃ cK' O OM kw, f_X10_keep N Sc = some (0, O) ∧ f_X12_putAside N Sm = some (0, OM) ∧ ST cK' nf nl np nq nb ng O OM ∧ DY cK' nf nl np nq nb ng O OM ∧ KP np nq nb ng O OM ∧ kR Sc Sm O OM ∧ (∀ z, z < 1000 → cK' z = cK z) ∧ OM.1 = Sm.1 ∧ RW kw O OM ∧ cK' 1000 = kw ∧ (∀ b, b < nb → nn (O.1 (384 + b) 10) (cK' (1001 + b))) ∧ FR pKK Sc O := by
  obtain ⟨O, e1, F, hN', hKP⟩ := keep_class hN hT hD
  obtain ⟨A, m1, m2⟩ := aside_m (N := N) (S := Sm) hN
  have G : FR (fun o k => o = 8 ∧ k = 49) Sm (yA Sm 8 49 A) := FR_A _ _ _ _ ⟨rfl, rfl⟩
  have w : (yA Sm 8 49 A).2.1 8 48 = Sm.2.1 8 48 := yA_2n _ _ (by decide)
  have hT1 : ST cK nf nl np nq nb ng O (yA Sm 8 49 A) := ST_FX hT (FR_mono F (fun o k z => KK_X z)) (FR_mono G (fun o k z => Or.inr (Or.inl ⟨z.1, by have := z.2; omega⟩))) (fun i _ _ => by rw [w]) hN'
  obtain ⟨t1, t2, t3, t4, t5, t6, t7, t8, t9, t10, t11, t12, t13, t14⟩ := id hT1
  have nf8 : nf ≤ 8 := t1.2.1
  have nl12 : nl ≤ 12 := t2.2.1
  have np8 : np ≤ 8 := t7.1.2.1
  have nq8 : nq ≤ 8 := t7.2.1.2.1
  have nb30 : nb ≤ 30 := t7.2.2.1.2.1
  have ng24 : ng ≤ 24 := t7.2.2.2.2.1
  have hD1 : DY cK nf nl np nq nb ng O (yA Sm 8 49 A) := K_DY hD (cM_refl hT.2.2.1.2.2.2 np8) hT.2.2.1.2.2.2 (Nat.le_refl _) nf8 (Nat.le_refl _) nl12 np8 nq8 nb30 ng24 (fun k _ _ => F 2 k (by unfold pKK; omega)) (fun k => F 3 k (by unfold pKK; omega)) (fun l _ => (F (64 + l) 2 (by unfold pKK; omega)).1) (fun p k _ _ _ => F (128 + p) k (by unfold pKK; omega)) (fun p k _ _ => F (256 + p) k (by unfold pKK; omega)) (fun p k _ _ _ => F (384 + p) k (by unfold pKK; omega)) (fun p k _ _ => F (512 + p) k (by unfold pKK; omega)) rfl (fun i _ => by rw [w])
  obtain ⟨kw, d4, d4', d4''⟩ := hD1.2.2.2.1
  have hst : ∃ st : Nat → Nat, ∀ b, b < nb → nn (O.1 (384 + b) 10) (st b) ∧ st b ≤ 16 := by
    refine ⟨fun b => (O.1 (384 + b) 10).toNatClampNeg, fun b hb => ?_⟩
    obtain ⟨_, ⟨n, n1, ⟨n2, _, _⟩, _⟩, _⟩ := hD1.2.2.2.2.2.2.1 b hb
    show nn (O.1 (384 + b) 10) (O.1 (384 + b) 10).toNatClampNeg ∧ (O.1 (384 + b) 10).toNatClampNeg ≤ 16
    rw [n1.nat]
    exact ⟨n1, n2⟩
  obtain ⟨st, hst⟩ := hst
  have k120 : kw ≤ 120 := d4.2.1
  refine ⟨gK cK kw st O, O, yA Sm 8 49 A, kw, e1, m1, ST_gh hT1 (fun z hz => gK_lo hz), DY_gh hD1 nf8 nl12 np8 nb30 (fun z hz => gK_lo hz) (fun k hk => ?_) (fun b n hb hn h16 => ?_), hKP _ (fun i hi => by rw [yA_same, w]; exact m2 i hi), kR_FR F G (fun k z => by unfold pKK at z; omega) (fun k a b z => by have := z.2; omega), fun z hz => gK_lo hz, rfl, d4, gK_w, fun b hb => by rw [gK_b (by omega)]; exact (hst b hb).1, F⟩
  · rw [gK_w]
    have ek := nn_inj hk.1 d4.1
    exact ⟨by omega, fun j i h1 h2 h3 => (gK_wr h2 (by omega)).symm⟩
  · obtain ⟨s1, s2⟩ := hst b hb
    rw [gK_b (by omega)]
    have es := nn_inj hn s1
    exact ⟨by omega, fun j hj => (gK_br (by omega)).symm⟩
