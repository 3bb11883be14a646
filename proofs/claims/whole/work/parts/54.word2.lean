theorem mWordA_lo {A : Nat → Int32} {k : Nat} {fi now le se cl wi lag : Int32} {i : Nat} (h : i < 1465) (h2 : i ≠ 2) : mWordA A k fi now le se cl wi lag i = A i := by
  unfold mWordA
  rw [upd_o _ _ h2, upd_o _ _ (by omega), upd_o _ _ (by omega), upd_o _ _ (by omega), upd_o _ _ (by omega), upd_o _ _ (by omega), upd_o _ _ (by omega), upd_o _ _ (by omega)]
theorem mWordA_ot {A : Nat → Int32} {k : Nat} {fi now le se cl wi lag : Int32} {i j : Nat} (h : i < k) (hj : j < 7) : mWordA A k fi now le se cl wi lag (1465 + 7 * i + j) = A (1465 + 7 * i + j) := by
  unfold mWordA
  rw [upd_o _ _ (show 1465 + 7 * i + j ≠ 2 by omega), upd_o _ _ (show 1465 + 7 * i + j ≠ 1465 + 7 * k + 6 by omega), upd_o _ _ (show 1465 + 7 * i + j ≠ 1465 + 7 * k + 5 by omega), upd_o _ _ (show 1465 + 7 * i + j ≠ 1465 + 7 * k + 4 by omega), upd_o _ _ (show 1465 + 7 * i + j ≠ 1465 + 7 * k + 3 by omega), upd_o _ _ (show 1465 + 7 * i + j ≠ 1465 + 7 * k + 2 by omega), upd_o _ _ (show 1465 + 7 * i + j ≠ 1465 + 7 * k + 1 by omega), upd_o _ _ (show 1465 + 7 * i + j ≠ 1465 + 7 * k + 0 by omega)]
theorem mWordA_nw {A : Nat → Int32} {k : Nat} {fi now le se cl wi lag : Int32} : mWordA A k fi now le se cl wi lag 2 = Int32.ofNat (k + 1) ∧ mWordA A k fi now le se cl wi lag (1465 + 7 * k) = le ∧ mWordA A k fi now le se cl wi lag (1466 + 7 * k) = se ∧ mWordA A k fi now le se cl wi lag (1467 + 7 * k) = cl ∧ mWordA A k fi now le se cl wi lag (1468 + 7 * k) = wi ∧ mWordA A k fi now le se cl wi lag (1469 + 7 * k) = fi ∧ mWordA A k fi now le se cl wi lag (1470 + 7 * k) = now ∧ mWordA A k fi now le se cl wi lag (1471 + 7 * k) = lag := by
  rw [show 1466 + 7 * k = 1465 + 7 * k + 1 by omega, show 1467 + 7 * k = 1465 + 7 * k + 2 by omega, show 1468 + 7 * k = 1465 + 7 * k + 3 by omega, show 1469 + 7 * k = 1465 + 7 * k + 4 by omega, show 1470 + 7 * k = 1465 + 7 * k + 5 by omega, show 1471 + 7 * k = 1465 + 7 * k + 6 by omega]
  unfold mWordA upd
  refine ⟨?_, ?_, ?_, ?_, ?_, ?_, ?_, ?_⟩
  · rw [if_pos rfl]
  · rw [if_neg (by omega), if_neg (by omega), if_neg (by omega), if_neg (by omega), if_neg (by omega), if_neg (by omega), if_neg (by omega), if_pos (Nat.add_zero _).symm]
  · rw [if_neg (by omega), if_neg (by omega), if_neg (by omega), if_neg (by omega), if_neg (by omega), if_neg (by omega), if_pos rfl]
  · rw [if_neg (by omega), if_neg (by omega), if_neg (by omega), if_neg (by omega), if_neg (by omega), if_pos rfl]
  · rw [if_neg (by omega), if_neg (by omega), if_neg (by omega), if_neg (by omega), if_pos rfl]
  · rw [if_neg (by omega), if_neg (by omega), if_neg (by omega), if_pos rfl]
  · rw [if_neg (by omega), if_neg (by omega), if_pos rfl]
  · rw [if_neg (by omega), if_pos rfl]
/-- what class and reference hold of the words after one more -/
theorem RW_word {k : Nat} {Sc Sm : yS} (h : RW k Sc Sm) (hk : k < 120) (fi now le se cl wi : Int32) : RW (k + 1) (cWord Sc k fi now le se cl wi) (yA (yI Sm 8 47 0) 8 48 (mWordA (Sm.2.1 8 48) k fi now le se cl wi (Sc.1 3 0))) := by
  obtain ⟨h1, h2, h3, h4, h5⟩ := h
  obtain ⟨w2, w0, w1, w3, w4, w5, w6, w7⟩ := mWordA_nw (A := Sm.2.1 8 48) (k := k) (fi := fi) (now := now) (le := le) (se := se) (cl := cl) (wi := wi) (lag := Sc.1 3 0)
  refine ⟨nn_lit (k + 1) (by omega), by omega, w2, h4, fun i hi => ?_⟩
  show upd (Sc.2.1 3 5) k le i = mWordA (Sm.2.1 8 48) k fi now le se cl wi (Sc.1 3 0) (1465 + 7 * i) ∧ upd (Sc.2.1 3 2) k se i = mWordA (Sm.2.1 8 48) k fi now le se cl wi (Sc.1 3 0) (1466 + 7 * i) ∧ upd (Sc.2.1 3 3) k cl i = mWordA (Sm.2.1 8 48) k fi now le se cl wi (Sc.1 3 0) (1467 + 7 * i) ∧ upd (Sc.2.1 3 4) k wi i = mWordA (Sm.2.1 8 48) k fi now le se cl wi (Sc.1 3 0) (1468 + 7 * i) ∧ upd (Sc.2.1 3 6) k fi i = mWordA (Sm.2.1 8 48) k fi now le se cl wi (Sc.1 3 0) (1469 + 7 * i) ∧ upd (Sc.2.1 3 7) k now i = mWordA (Sm.2.1 8 48) k fi now le se cl wi (Sc.1 3 0) (1470 + 7 * i) ∧ upd (Sc.2.1 3 8) k (now + Sc.1 3 0) i = mWordA (Sm.2.1 8 48) k fi now le se cl wi (Sc.1 3 0) (1470 + 7 * i) + mWordA (Sm.2.1 8 48) k fi now le se cl wi (Sc.1 3 0) (1471 + 7 * i)
  by_cases e : i = k
  · subst e
    rw [w0, w1, w3, w4, w5, w6, w7, upd_s, upd_s, upd_s, upd_s, upd_s, upd_s, upd_s]
    exact ⟨rfl, rfl, rfl, rfl, rfl, rfl, rfl⟩
  · have hik : i < k := by omega
    rw [upd_o _ _ e, upd_o _ _ e, upd_o _ _ e, upd_o _ _ e, upd_o _ _ e, upd_o _ _ e, upd_o _ _ e]
    have o := fun j (hj : j < 7) => mWordA_ot (A := Sm.2.1 8 48) (fi := fi) (now := now) (le := le) (se := se) (cl := cl) (wi := wi) (lag := Sc.1 3 0) hik hj
    have z := h5 i hik
    rw [show 1466 + 7 * i = 1465 + 7 * i + 1 by omega, show 1467 + 7 * i = 1465 + 7 * i + 2 by omega, show 1468 + 7 * i = 1465 + 7 * i + 3 by omega, show 1469 + 7 * i = 1465 + 7 * i + 4 by omega, show 1470 + 7 * i = 1465 + 7 * i + 5 by omega, show 1471 + 7 * i = 1465 + 7 * i + 6 by omega] at z ⊢
    have o0 := o 0 (by decide)
    rw [Nat.add_zero] at o0
    rw [o0, o 1 (by decide), o 2 (by decide), o 3 (by decide), o 4 (by decide), o 5 (by decide), o 6 (by decide)]
    exact z
theorem RF_word {nf k : Nat} {Sc Sm : yS} {fi now le se cl wi lag : Int32} (h : RF nf Sc Sm) : RF nf (cWord Sc k fi now le se cl wi) (yA (yI Sm 8 47 0) 8 48 (mWordA (Sm.2.1 8 48) k fi now le se cl wi lag)) :=
  RF_congr h rfl rfl rfl rfl rfl rfl (fun i h1 h2 => mWordA_lo (by omega) (by omega))
