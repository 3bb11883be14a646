/-! THE REFERENCE'S STATE: its object at b, its rows at b + 1 .. b + 39; rows and numbers by the slot of their field -/
abbrev mS : Type := (Nat → Nat → Int32) × (Nat → Int32) × Value × Value
/-- the rows: place behind b, type, length, slot -/
def mArr : List (Nat × Nat × Nat × Nat) := [(1, 0, 8, 0), (2, 0, 12, 2), (3, 0, 12, 3), (4, 0, 12, 4), (5, 0, 12, 5), (6, 0, 48, 6), (7, 0, 48, 7), (8, 0, 12, 8), (9, 0, 64, 10), (10, 0, 60, 11), (11, 0, 60, 12), (12, 0, 60, 13), (13, 0, 60, 14), (14, 0, 8, 16), (15, 0, 8, 17), (16, 0, 8, 18), (17, 0, 8, 19), (18, 2, 8, 20), (19, 0, 30, 23), (20, 0, 30, 24), (21, 0, 30, 25), (22, 0, 30, 26), (23, 0, 30, 27), (24, 0, 24, 29), (25, 0, 24, 30), (26, 0, 24, 31), (27, 0, 24, 32), (28, 3, 1920, 37), (29, 0, 32, 38), (30, 0, 32, 39), (31, 0, 32, 40), (32, 3, 100, 43), (33, 0, 64, 45), (34, 0, 2305, 48), (35, 0, 2305, 49), (36, 0, 10, 56), (37, 0, 8, 58), (38, 0, 8, 60), (39, 0, 8, 61)]
def mF (b : Nat) (S : mS) : List Value := [.ref (b + 1), .int (S.2.1 1), .ref (b + 2), .ref (b + 3), .ref (b + 4), .ref (b + 5), .ref (b + 6), .ref (b + 7), .ref (b + 8), .int (S.2.1 9), .ref (b + 9), .ref (b + 10), .ref (b + 11), .ref (b + 12), .ref (b + 13), .int (S.2.1 15), .ref (b + 14), .ref (b + 15), .ref (b + 16), .ref (b + 17), .ref (b + 18), .int (S.2.1 21), .int (S.2.1 22), .ref (b + 19), .ref (b + 20), .ref (b + 21), .ref (b + 22), .ref (b + 23), .int (S.2.1 28), .ref (b + 24), .ref (b + 25), .ref (b + 26), .ref (b + 27), .int (S.2.1 33), .int (S.2.1 34), .int (S.2.1 35), .int (S.2.1 36), .ref (b + 28), .ref (b + 29), .ref (b + 30), .ref (b + 31), .int (S.2.1 41), .int (S.2.1 42), .ref (b + 32), .int (S.2.1 44), .ref (b + 33), .int (S.2.1 46), .int (S.2.1 47), .ref (b + 34), .ref (b + 35), S.2.2.1, .int (S.2.1 51), .int (S.2.1 52), .int (S.2.1 53), .int (S.2.1 54), S.2.2.2, .ref (b + 36), .int (S.2.1 57), .ref (b + 37), .int (S.2.1 59), .ref (b + 38), .ref (b + 39), .int (S.2.1 62), .int (S.2.1 63)]
def mR (ev : xEv) (b : Nat) (S : mS) (hp : xH) : Prop := hp b = some (.inr (12, mF b S)) ∧ ∀ q ∈ mArr, hp (b + q.1) = some (.inl (ev.1 q.2.1, q.2.2.1, .inl (S.1 q.2.2.2)))
/-- nothing but the reference's own cells has changed -/
def mO (b : Nat) (hp hp' : xH) : Prop := ∀ a, (a < b ∨ b + 39 < a) → hp' a = hp a
theorem mO.rf {b : Nat} {hp : xH} : mO b hp hp := fun _ _ => rfl
theorem mO.tr {b : Nat} {hp hp1 hp2 : xH} (h1 : mO b hp hp1) (h2 : mO b hp1 hp2) : mO b hp hp2 := fun a h => (h2 a h).trans (h1 a h)
def mA (S : mS) (s : Nat) (f : Nat → Int32) : mS := (fun k => if k = s then f else S.1 k, S.2)
def mN (S : mS) (s : Nat) (v : Int32) : mS := (S.1, fun k => if k = s then v else S.2.1 k, S.2.2)
theorem mArr_lo : ∀ q ∈ mArr, 1 ≤ q.1 ∧ q.1 ≤ 39 := by decide
theorem mArr_one : ∀ q ∈ mArr, ∀ r ∈ mArr, (q.1 = r.1 ↔ q.2.2.2 = r.2.2.2) ∧ (q.1 = r.1 → q = r) := by decide
/-- a row is written -/
theorem mR.putA {ev : xEv} {b : Nat} {S : mS} {hp : xH} (h : mR ev b S hp) {q : Nat × Nat × Nat × Nat} (hq : q ∈ mArr) (f : Nat → Int32) : mR ev b (mA S q.2.2.2 f) (xU hp (b + q.1) (.inl (ev.1 q.2.1, q.2.2.1, .inl f))) ∧ mO b hp (xU hp (b + q.1) (.inl (ev.1 q.2.1, q.2.2.1, .inl f))) := by
  have hl := mArr_lo q hq
  refine ⟨⟨?_, fun r hr => ?_⟩, fun a ha => xU_other _ _ (by omega)⟩
  · rw [xU_other _ _ (by omega)]
    exact h.1
  · have h1 := mArr_one r hr q hq
    by_cases e : r.1 = q.1
    · have e2 := h1.2 e
      subst e2
      rw [xU_same]
      simp only [mA, if_true]
    · have e2 : ¬ r.2.2.2 = q.2.2.2 := fun z => e (h1.1.mpr z)
      rw [xU_other _ _ (by omega), h.2 r hr]
      simp only [mA, if_neg e2]
/-- a number is written -/
theorem mR.putN {ev : xEv} {b : Nat} {S : mS} {hp : xH} (h : mR ev b S hp) {S' : mS} (hA : S'.1 = S.1) : mR ev b S' (xU hp b (.inr (12, mF b S'))) ∧ mO b hp (xU hp b (.inr (12, mF b S'))) := by
  refine ⟨⟨xU_same _ _ _, fun r hr => ?_⟩, fun a ha => xU_other _ _ (by omega)⟩
  have hl := mArr_lo r hr
  rw [xU_other _ _ (by omega), h.2 r hr, hA]
theorem mR_0 {ev : xEv} {b : Nat} {S : mS} {hp : xH} (h : mR ev b S hp) : hp (b + 1) = some (.inl (ev.1 0, 8, .inl (S.1 0))) := h.2 (1, 0, 8, 0) (List.mem_of_getElem? (i := 0) rfl)
theorem mQ_0 : (1, 0, 8, 0) ∈ mArr := List.mem_of_getElem? (i := 0) rfl
theorem mR_2 {ev : xEv} {b : Nat} {S : mS} {hp : xH} (h : mR ev b S hp) : hp (b + 2) = some (.inl (ev.1 0, 12, .inl (S.1 2))) := h.2 (2, 0, 12, 2) (List.mem_of_getElem? (i := 1) rfl)
theorem mQ_2 : (2, 0, 12, 2) ∈ mArr := List.mem_of_getElem? (i := 1) rfl
theorem mR_3 {ev : xEv} {b : Nat} {S : mS} {hp : xH} (h : mR ev b S hp) : hp (b + 3) = some (.inl (ev.1 0, 12, .inl (S.1 3))) := h.2 (3, 0, 12, 3) (List.mem_of_getElem? (i := 2) rfl)
theorem mQ_3 : (3, 0, 12, 3) ∈ mArr := List.mem_of_getElem? (i := 2) rfl
theorem mR_4 {ev : xEv} {b : Nat} {S : mS} {hp : xH} (h : mR ev b S hp) : hp (b + 4) = some (.inl (ev.1 0, 12, .inl (S.1 4))) := h.2 (4, 0, 12, 4) (List.mem_of_getElem? (i := 3) rfl)
theorem mQ_4 : (4, 0, 12, 4) ∈ mArr := List.mem_of_getElem? (i := 3) rfl
theorem mR_5 {ev : xEv} {b : Nat} {S : mS} {hp : xH} (h : mR ev b S hp) : hp (b + 5) = some (.inl (ev.1 0, 12, .inl (S.1 5))) := h.2 (5, 0, 12, 5) (List.mem_of_getElem? (i := 4) rfl)
theorem mQ_5 : (5, 0, 12, 5) ∈ mArr := List.mem_of_getElem? (i := 4) rfl
theorem mR_6 {ev : xEv} {b : Nat} {S : mS} {hp : xH} (h : mR ev b S hp) : hp (b + 6) = some (.inl (ev.1 0, 48, .inl (S.1 6))) := h.2 (6, 0, 48, 6) (List.mem_of_getElem? (i := 5) rfl)
theorem mQ_6 : (6, 0, 48, 6) ∈ mArr := List.mem_of_getElem? (i := 5) rfl
theorem mR_7 {ev : xEv} {b : Nat} {S : mS} {hp : xH} (h : mR ev b S hp) : hp (b + 7) = some (.inl (ev.1 0, 48, .inl (S.1 7))) := h.2 (7, 0, 48, 7) (List.mem_of_getElem? (i := 6) rfl)
theorem mQ_7 : (7, 0, 48, 7) ∈ mArr := List.mem_of_getElem? (i := 6) rfl
theorem mR_8 {ev : xEv} {b : Nat} {S : mS} {hp : xH} (h : mR ev b S hp) : hp (b + 8) = some (.inl (ev.1 0, 12, .inl (S.1 8))) := h.2 (8, 0, 12, 8) (List.mem_of_getElem? (i := 7) rfl)
theorem mQ_8 : (8, 0, 12, 8) ∈ mArr := List.mem_of_getElem? (i := 7) rfl
theorem mR_10 {ev : xEv} {b : Nat} {S : mS} {hp : xH} (h : mR ev b S hp) : hp (b + 9) = some (.inl (ev.1 0, 64, .inl (S.1 10))) := h.2 (9, 0, 64, 10) (List.mem_of_getElem? (i := 8) rfl)
theorem mQ_10 : (9, 0, 64, 10) ∈ mArr := List.mem_of_getElem? (i := 8) rfl
theorem mR_11 {ev : xEv} {b : Nat} {S : mS} {hp : xH} (h : mR ev b S hp) : hp (b + 10) = some (.inl (ev.1 0, 60, .inl (S.1 11))) := h.2 (10, 0, 60, 11) (List.mem_of_getElem? (i := 9) rfl)
theorem mQ_11 : (10, 0, 60, 11) ∈ mArr := List.mem_of_getElem? (i := 9) rfl
theorem mR_12 {ev : xEv} {b : Nat} {S : mS} {hp : xH} (h : mR ev b S hp) : hp (b + 11) = some (.inl (ev.1 0, 60, .inl (S.1 12))) := h.2 (11, 0, 60, 12) (List.mem_of_getElem? (i := 10) rfl)
theorem mQ_12 : (11, 0, 60, 12) ∈ mArr := List.mem_of_getElem? (i := 10) rfl
theorem mR_13 {ev : xEv} {b : Nat} {S : mS} {hp : xH} (h : mR ev b S hp) : hp (b + 12) = some (.inl (ev.1 0, 60, .inl (S.1 13))) := h.2 (12, 0, 60, 13) (List.mem_of_getElem? (i := 11) rfl)
theorem mQ_13 : (12, 0, 60, 13) ∈ mArr := List.mem_of_getElem? (i := 11) rfl
theorem mR_14 {ev : xEv} {b : Nat} {S : mS} {hp : xH} (h : mR ev b S hp) : hp (b + 13) = some (.inl (ev.1 0, 60, .inl (S.1 14))) := h.2 (13, 0, 60, 14) (List.mem_of_getElem? (i := 12) rfl)
theorem mQ_14 : (13, 0, 60, 14) ∈ mArr := List.mem_of_getElem? (i := 12) rfl
theorem mR_16 {ev : xEv} {b : Nat} {S : mS} {hp : xH} (h : mR ev b S hp) : hp (b + 14) = some (.inl (ev.1 0, 8, .inl (S.1 16))) := h.2 (14, 0, 8, 16) (List.mem_of_getElem? (i := 13) rfl)
theorem mQ_16 : (14, 0, 8, 16) ∈ mArr := List.mem_of_getElem? (i := 13) rfl
theorem mR_17 {ev : xEv} {b : Nat} {S : mS} {hp : xH} (h : mR ev b S hp) : hp (b + 15) = some (.inl (ev.1 0, 8, .inl (S.1 17))) := h.2 (15, 0, 8, 17) (List.mem_of_getElem? (i := 14) rfl)
theorem mQ_17 : (15, 0, 8, 17) ∈ mArr := List.mem_of_getElem? (i := 14) rfl
theorem mR_18 {ev : xEv} {b : Nat} {S : mS} {hp : xH} (h : mR ev b S hp) : hp (b + 16) = some (.inl (ev.1 0, 8, .inl (S.1 18))) := h.2 (16, 0, 8, 18) (List.mem_of_getElem? (i := 15) rfl)
theorem mQ_18 : (16, 0, 8, 18) ∈ mArr := List.mem_of_getElem? (i := 15) rfl
theorem mR_19 {ev : xEv} {b : Nat} {S : mS} {hp : xH} (h : mR ev b S hp) : hp (b + 17) = some (.inl (ev.1 0, 8, .inl (S.1 19))) := h.2 (17, 0, 8, 19) (List.mem_of_getElem? (i := 16) rfl)
theorem mQ_19 : (17, 0, 8, 19) ∈ mArr := List.mem_of_getElem? (i := 16) rfl
theorem mR_20 {ev : xEv} {b : Nat} {S : mS} {hp : xH} (h : mR ev b S hp) : hp (b + 18) = some (.inl (ev.1 2, 8, .inl (S.1 20))) := h.2 (18, 2, 8, 20) (List.mem_of_getElem? (i := 17) rfl)
theorem mQ_20 : (18, 2, 8, 20) ∈ mArr := List.mem_of_getElem? (i := 17) rfl
theorem mR_23 {ev : xEv} {b : Nat} {S : mS} {hp : xH} (h : mR ev b S hp) : hp (b + 19) = some (.inl (ev.1 0, 30, .inl (S.1 23))) := h.2 (19, 0, 30, 23) (List.mem_of_getElem? (i := 18) rfl)
theorem mQ_23 : (19, 0, 30, 23) ∈ mArr := List.mem_of_getElem? (i := 18) rfl
theorem mR_24 {ev : xEv} {b : Nat} {S : mS} {hp : xH} (h : mR ev b S hp) : hp (b + 20) = some (.inl (ev.1 0, 30, .inl (S.1 24))) := h.2 (20, 0, 30, 24) (List.mem_of_getElem? (i := 19) rfl)
theorem mQ_24 : (20, 0, 30, 24) ∈ mArr := List.mem_of_getElem? (i := 19) rfl
theorem mR_25 {ev : xEv} {b : Nat} {S : mS} {hp : xH} (h : mR ev b S hp) : hp (b + 21) = some (.inl (ev.1 0, 30, .inl (S.1 25))) := h.2 (21, 0, 30, 25) (List.mem_of_getElem? (i := 20) rfl)
theorem mQ_25 : (21, 0, 30, 25) ∈ mArr := List.mem_of_getElem? (i := 20) rfl
theorem mR_26 {ev : xEv} {b : Nat} {S : mS} {hp : xH} (h : mR ev b S hp) : hp (b + 22) = some (.inl (ev.1 0, 30, .inl (S.1 26))) := h.2 (22, 0, 30, 26) (List.mem_of_getElem? (i := 21) rfl)
theorem mQ_26 : (22, 0, 30, 26) ∈ mArr := List.mem_of_getElem? (i := 21) rfl
theorem mR_27 {ev : xEv} {b : Nat} {S : mS} {hp : xH} (h : mR ev b S hp) : hp (b + 23) = some (.inl (ev.1 0, 30, .inl (S.1 27))) := h.2 (23, 0, 30, 27) (List.mem_of_getElem? (i := 22) rfl)
theorem mQ_27 : (23, 0, 30, 27) ∈ mArr := List.mem_of_getElem? (i := 22) rfl
theorem mR_29 {ev : xEv} {b : Nat} {S : mS} {hp : xH} (h : mR ev b S hp) : hp (b + 24) = some (.inl (ev.1 0, 24, .inl (S.1 29))) := h.2 (24, 0, 24, 29) (List.mem_of_getElem? (i := 23) rfl)
theorem mQ_29 : (24, 0, 24, 29) ∈ mArr := List.mem_of_getElem? (i := 23) rfl
theorem mR_30 {ev : xEv} {b : Nat} {S : mS} {hp : xH} (h : mR ev b S hp) : hp (b + 25) = some (.inl (ev.1 0, 24, .inl (S.1 30))) := h.2 (25, 0, 24, 30) (List.mem_of_getElem? (i := 24) rfl)
theorem mQ_30 : (25, 0, 24, 30) ∈ mArr := List.mem_of_getElem? (i := 24) rfl
theorem mR_31 {ev : xEv} {b : Nat} {S : mS} {hp : xH} (h : mR ev b S hp) : hp (b + 26) = some (.inl (ev.1 0, 24, .inl (S.1 31))) := h.2 (26, 0, 24, 31) (List.mem_of_getElem? (i := 25) rfl)
theorem mQ_31 : (26, 0, 24, 31) ∈ mArr := List.mem_of_getElem? (i := 25) rfl
theorem mR_32 {ev : xEv} {b : Nat} {S : mS} {hp : xH} (h : mR ev b S hp) : hp (b + 27) = some (.inl (ev.1 0, 24, .inl (S.1 32))) := h.2 (27, 0, 24, 32) (List.mem_of_getElem? (i := 26) rfl)
theorem mQ_32 : (27, 0, 24, 32) ∈ mArr := List.mem_of_getElem? (i := 26) rfl
theorem mR_37 {ev : xEv} {b : Nat} {S : mS} {hp : xH} (h : mR ev b S hp) : hp (b + 28) = some (.inl (ev.1 3, 1920, .inl (S.1 37))) := h.2 (28, 3, 1920, 37) (List.mem_of_getElem? (i := 27) rfl)
theorem mQ_37 : (28, 3, 1920, 37) ∈ mArr := List.mem_of_getElem? (i := 27) rfl
theorem mR_38 {ev : xEv} {b : Nat} {S : mS} {hp : xH} (h : mR ev b S hp) : hp (b + 29) = some (.inl (ev.1 0, 32, .inl (S.1 38))) := h.2 (29, 0, 32, 38) (List.mem_of_getElem? (i := 28) rfl)
theorem mQ_38 : (29, 0, 32, 38) ∈ mArr := List.mem_of_getElem? (i := 28) rfl
theorem mR_39 {ev : xEv} {b : Nat} {S : mS} {hp : xH} (h : mR ev b S hp) : hp (b + 30) = some (.inl (ev.1 0, 32, .inl (S.1 39))) := h.2 (30, 0, 32, 39) (List.mem_of_getElem? (i := 29) rfl)
theorem mQ_39 : (30, 0, 32, 39) ∈ mArr := List.mem_of_getElem? (i := 29) rfl
theorem mR_40 {ev : xEv} {b : Nat} {S : mS} {hp : xH} (h : mR ev b S hp) : hp (b + 31) = some (.inl (ev.1 0, 32, .inl (S.1 40))) := h.2 (31, 0, 32, 40) (List.mem_of_getElem? (i := 30) rfl)
theorem mQ_40 : (31, 0, 32, 40) ∈ mArr := List.mem_of_getElem? (i := 30) rfl
theorem mR_43 {ev : xEv} {b : Nat} {S : mS} {hp : xH} (h : mR ev b S hp) : hp (b + 32) = some (.inl (ev.1 3, 100, .inl (S.1 43))) := h.2 (32, 3, 100, 43) (List.mem_of_getElem? (i := 31) rfl)
theorem mQ_43 : (32, 3, 100, 43) ∈ mArr := List.mem_of_getElem? (i := 31) rfl
theorem mR_45 {ev : xEv} {b : Nat} {S : mS} {hp : xH} (h : mR ev b S hp) : hp (b + 33) = some (.inl (ev.1 0, 64, .inl (S.1 45))) := h.2 (33, 0, 64, 45) (List.mem_of_getElem? (i := 32) rfl)
theorem mQ_45 : (33, 0, 64, 45) ∈ mArr := List.mem_of_getElem? (i := 32) rfl
theorem mR_48 {ev : xEv} {b : Nat} {S : mS} {hp : xH} (h : mR ev b S hp) : hp (b + 34) = some (.inl (ev.1 0, 2305, .inl (S.1 48))) := h.2 (34, 0, 2305, 48) (List.mem_of_getElem? (i := 33) rfl)
theorem mQ_48 : (34, 0, 2305, 48) ∈ mArr := List.mem_of_getElem? (i := 33) rfl
theorem mR_49 {ev : xEv} {b : Nat} {S : mS} {hp : xH} (h : mR ev b S hp) : hp (b + 35) = some (.inl (ev.1 0, 2305, .inl (S.1 49))) := h.2 (35, 0, 2305, 49) (List.mem_of_getElem? (i := 34) rfl)
theorem mQ_49 : (35, 0, 2305, 49) ∈ mArr := List.mem_of_getElem? (i := 34) rfl
theorem mR_56 {ev : xEv} {b : Nat} {S : mS} {hp : xH} (h : mR ev b S hp) : hp (b + 36) = some (.inl (ev.1 0, 10, .inl (S.1 56))) := h.2 (36, 0, 10, 56) (List.mem_of_getElem? (i := 35) rfl)
theorem mQ_56 : (36, 0, 10, 56) ∈ mArr := List.mem_of_getElem? (i := 35) rfl
theorem mR_58 {ev : xEv} {b : Nat} {S : mS} {hp : xH} (h : mR ev b S hp) : hp (b + 37) = some (.inl (ev.1 0, 8, .inl (S.1 58))) := h.2 (37, 0, 8, 58) (List.mem_of_getElem? (i := 36) rfl)
theorem mQ_58 : (37, 0, 8, 58) ∈ mArr := List.mem_of_getElem? (i := 36) rfl
theorem mR_60 {ev : xEv} {b : Nat} {S : mS} {hp : xH} (h : mR ev b S hp) : hp (b + 38) = some (.inl (ev.1 0, 8, .inl (S.1 60))) := h.2 (38, 0, 8, 60) (List.mem_of_getElem? (i := 37) rfl)
theorem mQ_60 : (38, 0, 8, 60) ∈ mArr := List.mem_of_getElem? (i := 37) rfl
theorem mR_61 {ev : xEv} {b : Nat} {S : mS} {hp : xH} (h : mR ev b S hp) : hp (b + 39) = some (.inl (ev.1 0, 8, .inl (S.1 61))) := h.2 (39, 0, 8, 61) (List.mem_of_getElem? (i := 38) rfl)
theorem mQ_61 : (39, 0, 8, 61) ∈ mArr := List.mem_of_getElem? (i := 38) rfl
/-- what a call of the reference's leaves: answer and state -/
def mPost (ev : xEv) (b : Nat) (hp0 : xH) (sz : Nat) (q : Option Value × mS) : xR → Prop := fun r => r.1 = q.1 ∧ r.2.2 = (sz, 0) ∧ mR ev b q.2 r.2.1 ∧ mO b hp0 r.2.1
/-- a call of the reference's -/
def mC (ev : xEv) (prim : xRel) (d j b : Nat) (av : List Value) (S : mS) (q : Option Value × mS) : Prop := ∀ (hp : xH) (sz : Nat), mR ev b S hp → ∃ hp', xCalls ev xmi (xprog ev) prim d j (.ref b :: av) hp sz (q.1, hp', sz, 0) ∧ mR ev b q.2 hp' ∧ mO b hp hp'
theorem mC.of {ev : xEv} {prim : xRel} {d j b : Nat} {av : List Value} {S : mS} {q : Option Value × mS} {code : List (Nat × xEn)} {y : MethodName} {cc : ByteArray} {nL : Nat} {ret : Option FieldType} (hj : xprog ev j = code) (hn : xmi j = (y, cc, nL, ret)) (hlen : (lg_sl (.ref b :: av)).length ≤ nL)
    (h : ∀ (hp : xH) (sz : Nat), mR ev b S hp → mO b hp hp → xE ev.2.1 (xstr ev) (xCalls ev xmi (xprog ev) prim d) code (0, lv_args 0 (.ref b :: av), [], hp, sz, 0) (mPost ev b hp sz q)) : mC ev prim (d + 1) j b av S q := by
  intro hp sz hM
  obtain ⟨⟨rv, hp1, sz1, sl1⟩, hc, e1, e2, h1, h2⟩ := xc_of hj hn hlen (h hp sz hM mO.rf)
  cases e1
  cases e2
  exact ⟨hp1, hc, h1, h2⟩
