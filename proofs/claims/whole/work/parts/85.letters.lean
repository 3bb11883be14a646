/-! LETTERS -/
theorem e_put {N c : Nat} {S : yS} {x v : Int32} (hx : nn x (97 + c)) (hc : c < 26) : f_X8r_put N S x v = some (0, yA S 4 2 (upd (S.2.1 4 2) c v)) := by
  have h1 := nn_sub hx (nn_l 97 (by decide)) (by omega)
  rw [show 97 + c - 97 = c by omega] at h1
  unfold f_X8r_put f_X8r_put_0 f_X8r_put_22
  rw [if_neg h1.nneg, if_neg (fun q => by have := (nn_le (nn_l 26 (by decide)) h1).mp q; omega), gA_nn h1 hc, sq_s]
theorem e_goal {N o : Nat} {S : yS} {x : Int32} : f_X3_goal N S o x = some (if x = 0 then S.1 o 0 else S.1 o 1) := by
  unfold f_X3_goal f_X3_goal_0 f_X3_goal_15
  by_cases z : x = 0
  · rw [if_pos z, if_pos z]
  · rw [if_neg z, if_neg z]
theorem e_toGo {N o : Nat} {S : yS} {x y : Int32} : f_X3_toGo N S o x y = some (if y = 0 then x else S.1 o 2 - x) := by
  unfold f_X3_toGo f_X3_toGo_0 f_X3_toGo_14
  by_cases z : y = 0
  · rw [if_pos z, if_pos z]
  · rw [if_neg z, if_neg z]
/-- a mile count by a speed, rounded up -/
def rUp (x y : Int32) : Int32 := (x + y - 1) / y
theorem e_roundUp {N : Nat} {S : yS} {x y : Int32} {s : Nat} (hy : nn y s) (hs : 1 ≤ s) : f_X11_roundUp N S x y = some (rUp x y) := by
  unfold f_X11_roundUp f_X11_roundUp_0 f_X11_roundUp_15
  rw [if_pos ((nn_lt (nn_l 0 (by decide)) hy).mpr (by omega)), gP_t (show ¬ y = 0 from fun q => by have := (nn_eq hy (nn_l 0 (by decide))).mp q; omega)]
  rfl
theorem em_upR {N : Nat} {S : yS} {x y : Int32} {s : Nat} (hy : nn y s) (hs : 1 ≤ s) : f_X12_up N S x y = some (rUp x y) := by
  unfold f_X12_up f_X12_up_0
  rw [gP_t (show ¬ y = 0 from fun q => by have := (nn_eq hy (nn_l 0 (by decide))).mp q; omega)]
  rfl
/-- bit l of what a pilot knows -/
def kBit (x l : Int32) : Int32 := (x >>> (l &&& 31)) &&& 1
theorem kBit01 (x l : Int32) : kBit x l = 0 ∨ kBit x l = 1 := by
  unfold kBit
  generalize x >>> (l &&& 31) = y
  have h : (y &&& 1).toBitVec.toNat < 2 := by
    rw [Int32.toBitVec_and, BitVec.toNat_and]
    have h1 : y.toBitVec.toNat &&& (1 : Int32).toBitVec.toNat ≤ (1 : Int32).toBitVec.toNat := Nat.and_le_right
    have h2 : (1 : Int32).toBitVec.toNat = 1 := by decide
    omega
  rcases (show (y &&& 1).toBitVec.toNat = 0 ∨ (y &&& 1).toBitVec.toNat = 1 by omega) with e | e
  · left
    apply Int32.toBitVec_inj.mp
    apply BitVec.eq_of_toNat_eq
    rw [e]
    decide
  · right
    apply Int32.toBitVec_inj.mp
    apply BitVec.eq_of_toNat_eq
    rw [e]
    decide
theorem e_knows {N o : Nat} {S : yS} {l : Int32} : f_X5_knowsLeg N S o l = some (kBit (S.1 o 3) l) := by
  unfold f_X5_knowsLeg f_X5_knowsLeg_0 f_X5_knowsLeg_17
  show (if ¬ kBit (S.1 o 3) l = 1 then _ else _) = _
  rcases kBit01 (S.1 o 3) l with z | z
  · rw [z, if_pos (by decide), gP_t (Or.inl rfl)]
  · rw [z, if_neg (by decide), gP_t (Or.inr rfl)]
/-- night as a number -/
def nNt (t : Int32) : Int32 := if t - t / 96 * 96 < 24 then 1 else if t - t / 96 * 96 < 72 then 0 else 1
theorem e_nightN {N : Nat} {S : yS} : f_X10_isNight N S = some (nNt (S.1 2 13)) := by
  unfold f_X10_isNight f_X10_isNight_0 f_X10_isNight_20 f_X10_isNight_25 nNt
  by_cases a : S.1 2 13 - S.1 2 13 / 96 * 96 < 24
  · rw [if_pos a, if_pos a, gP_t (Or.inr rfl)]
  · rw [if_neg a, if_neg a]
    by_cases b : S.1 2 13 - S.1 2 13 / 96 * 96 < 72
    · rw [if_pos b, if_pos b, gP_t (Or.inl rfl)]
    · rw [if_neg b, if_neg b, gP_t (Or.inr rfl)]
theorem em_darkN {N : Nat} {S : yS} {t : Int32} : f_X12_isDark N S t = some (nNt t) := by
  unfold f_X12_isDark f_X12_isDark_0 f_X12_isDark_17 f_X12_isDark_22 nNt
  by_cases a : t - t / 96 * 96 < 24
  · rw [if_pos a, if_pos a, gP_t (Or.inr rfl)]
  · rw [if_neg a, if_neg a]
    by_cases b : t - t / 96 * 96 < 72
    · rw [if_pos b, if_pos b, gP_t (Or.inl rfl)]
    · rw [if_neg b, if_neg b, gP_t (Or.inr rfl)]
theorem nNt01 (t : Int32) : nNt t = 0 ∨ nNt t = 1 := by
  unfold nNt
  split
  · exact Or.inr rfl
  · split
    · exact Or.inl rfl
    · exact Or.inr rfl
def t01 (x : Int32) : Int32 := if x = 0 then 0 else 1
theorem t01_id {x : Int32} (h : x = 0 ∨ x = 1) : t01 x = x := by
  rcases h with rfl | rfl <;> rfl
/-- the common letters, class -/
def cCom (A : Nat → Int32) (n l k h u : Int32) : Nat → Int32 := upd (upd (upd (upd (upd A 13 n) 11 l) 10 k) 7 h) 20 u
theorem e_common {N q fi : Nat} {S : yS} {P G : Nat} {go : Int32} (hq : nn (S.1 G 1) q) (hq8 : q < 8) (hx : S.2.1 2 6 q = 1) (hg : nn go fi) (hfi : fi < 8) (hP : P ≠ 4) (hG : G ≠ 4) : f_X10_putCommonLetters N S P G go = some (0, yA S 4 2 (cCom (S.2.1 4 2) (nNt (S.1 2 13)) (t01 (S.2.1 1 1 fi)) (kBit (S.1 (256 + q) 3) (S.1 G 2)) (S.1 (256 + q) 2) (S.1 P 6 - S.1 P 5))) := by
  unfold f_X10_putCommonLetters f_X10_putCommonLetters_0
  rw [gR_nn hq hq8 hx, e_nightN, bV_s]
  have h81 : ∀ (T : yS) (v : Int32), T.1 = S.1 → f_X10_putCommonLetters_81 N T P (256 + q) 107 v = some (0, yA T 4 2 (upd (upd (upd (T.2.1 4 2) 10 v) 7 (S.1 (256 + q) 2)) 20 (S.1 P 6 - S.1 P 5))) := by
    intro T v hT
    unfold f_X10_putCommonLetters_81
    rw [e_put (c := 10) (nn_l 107 (by decide)) (by decide), bS_s, e_put (c := 7) (nn_l 104 (by decide)) (by decide), bS_s, e_put (c := 20) (nn_l 117 (by decide)) (by decide), bS_s]
    simp only [yA_yA, yA_same, yA_1, hT]
  have h55 : ∀ (T : yS) (v : Int32), T.1 = S.1 → f_X10_putCommonLetters_55 N T P G (256 + q) 108 v = some (0, yA T 4 2 (upd (upd (upd (upd (T.2.1 4 2) 11 v) 10 (kBit (S.1 (256 + q) 3) (S.1 G 2))) 7 (S.1 (256 + q) 2)) 20 (S.1 P 6 - S.1 P 5))) := by
    intro T v hT
    unfold f_X10_putCommonLetters_55
    rw [e_put (c := 11) (nn_l 108 (by decide)) (by decide), bS_s, e_knows, bV_s, yA_1, hT]
    have e : ∀ w : Int32, (w = 0 ∨ w = 1) → (if w = 0 then f_X10_putCommonLetters_81 N (yA T 4 2 (upd (T.2.1 4 2) 11 v)) P (256 + q) 107 0 else f_X10_putCommonLetters_81 N (yA T 4 2 (upd (T.2.1 4 2) 11 v)) P (256 + q) 107 1) = f_X10_putCommonLetters_81 N (yA T 4 2 (upd (T.2.1 4 2) 11 v)) P (256 + q) 107 w := by
      intro w hw
      rcases hw with rfl | rfl
      · rw [if_pos rfl]
      · rw [if_neg (by decide)]
    rw [e _ (kBit01 _ _), h81 (yA T 4 2 (upd (T.2.1 4 2) 11 v)) _ hT]
    simp only [yA_yA, yA_same]
  have h29 : ∀ (v : Int32), f_X10_putCommonLetters_29 N S P G go (256 + q) 110 v = some (0, yA S 4 2 (upd (upd (upd (upd (upd (S.2.1 4 2) 13 v) 11 (t01 (S.2.1 1 1 fi))) 10 (kBit (S.1 (256 + q) 3) (S.1 G 2))) 7 (S.1 (256 + q) 2)) 20 (S.1 P 6 - S.1 P 5))) := by
    intro v
    unfold f_X10_putCommonLetters_29
    rw [e_put (c := 13) (nn_l 110 (by decide)) (by decide), bS_s, gA_nn hg hfi, yA_2n _ _ (by decide)]
    unfold t01
    by_cases z : S.2.1 1 1 fi = 0
    · rw [if_pos z, if_pos z, h55 (yA S 4 2 (upd (S.2.1 4 2) 13 v)) _ rfl]
      simp only [yA_yA, yA_same]
    · rw [if_neg z, if_neg z, h55 (yA S 4 2 (upd (S.2.1 4 2) 13 v)) _ rfl]
      simp only [yA_yA, yA_same]
  rcases nNt01 (S.1 2 13) with z | z
  · rw [z, if_pos rfl, h29]
    rfl
  · rw [z, if_neg i10, h29]
    rfl
/-- the common numbers, reference -/
def mCom (A : Nat → Int32) (n l k h f g u : Int32) : Nat → Int32 := upd (upd (upd (upd (upd (upd (upd A 3 n) 4 l) 5 k) 6 h) 7 f) 8 g) 9 u
theorem em_common {N p q fi s : Nat} {S : yS} {pI qI lI to fu le : Int32} (hp : nn pI p) (hp8 : p < 8) (hq : nn qI q) (hq8 : q < 8) (ht : nn to fi) (hfi : fi < 8) (hs : nn (S.2.1 8 16 p) s) (hs1 : 1 ≤ s) : f_X12_tell N S pI qI lI to fu le = some (0, yA S 8 56 (mCom (S.2.1 8 56) (nNt (S.2.1 8 48 0)) (b01 (S.2.1 8 48 (3 + 2 * fi) = 1)) (kBit (S.2.1 8 48 (203 + 4 * q + 3)) lI) (S.2.1 8 48 (203 + 4 * q + 2)) fu (rUp le (S.2.1 8 16 p)) (S.2.1 8 48 (19 + 23 * p + 6) - S.2.1 8 48 (19 + 23 * p + 5)))) := by
  unfold f_X12_tell f_X12_tell_0
  rw [gA_nn (nn_l 0 (by decide)) (by decide), em_darkN, bV_s]
  have h42 : ∀ (T : yS) (v : Int32), T.2.1 8 48 = S.2.1 8 48 → T.2.1 8 16 = S.2.1 8 16 → f_X12_tell_42 N T pI qI lI fu le 4 v = some (0, yA T 8 56 (upd (upd (upd (upd (upd (upd (T.2.1 8 56) 4 v) 5 (kBit (S.2.1 8 48 (203 + 4 * q + 3)) lI)) 6 (S.2.1 8 48 (203 + 4 * q + 2))) 7 fu) 8 (rUp le (S.2.1 8 16 p))) 9 (S.2.1 8 48 (19 + 23 * p + 6) - S.2.1 8 48 (19 + 23 * p + 5)))) := by
    intro T v h1 h2
    unfold f_X12_tell_42
    have w : ∀ A : Nat → Int32, (yA T 8 56 A).2.1 8 48 = S.2.1 8 48 := fun A => by rw [yA_2n _ _ (by decide)]; exact h1
    have w2 : ∀ A : Nat → Int32, (yA T 8 56 A).2.1 8 16 = S.2.1 8 16 := fun A => by rw [yA_2n _ _ (by decide)]; exact h2
    rw [gA_nn (nn_l 4 (by decide)) (by decide), sq_s, em_pilR hq hq8 (nn_l 3 (by decide)) (by decide), bV_s, w, gA_nn (nn_l 5 (by decide)) (by decide), sq_s]
    try simp only [yA_yA, yA_same]
    rw [em_pilR hq hq8 (nn_l 2 (by decide)) (by decide), bV_s, w, gA_nn (nn_l 6 (by decide)) (by decide), sq_s]
    try simp only [yA_yA, yA_same]
    rw [gA_nn (nn_l 7 (by decide)) (by decide), sq_s]
    try simp only [yA_yA, yA_same]
    rw [gA_nn hp hp8, w2, em_upR hs hs1, bV_s, gA_nn (nn_l 8 (by decide)) (by decide), sq_s]
    try simp only [yA_yA, yA_same]
    rw [em_planeR hp hp8 (nn_l 6 (by decide)) (by decide), bV_s, em_planeR hp hp8 (nn_l 5 (by decide)) (by decide), bV_s, w, gA_nn (nn_l 9 (by decide)) (by decide), sq_s]
    try simp only [yA_yA, yA_same]
    rfl
  have h22 : ∀ (v : Int32), f_X12_tell_22 N S pI qI lI to fu le 3 v = some (0, yA S 8 56 (mCom (S.2.1 8 56) v (b01 (S.2.1 8 48 (3 + 2 * fi) = 1)) (kBit (S.2.1 8 48 (203 + 4 * q + 3)) lI) (S.2.1 8 48 (203 + 4 * q + 2)) fu (rUp le (S.2.1 8 16 p)) (S.2.1 8 48 (19 + 23 * p + 6) - S.2.1 8 48 (19 + 23 * p + 5)))) := by
    intro v
    unfold f_X12_tell_22
    rw [gA_nn (nn_l 3 (by decide)) (by decide), sq_s, em_lamp ht hfi, bV_s, yA_2n _ _ (by decide)]
    by_cases z : S.2.1 8 48 (3 + 2 * fi) = 1
    · rw [b01_t z, if_neg i10, h42 (yA S 8 56 (upd (S.2.1 8 56) 3 v)) _ (yA_2n _ _ (by decide)) (yA_2n _ _ (by decide))]
      simp only [yA_yA, yA_same]
      rfl
    · rw [b01_f z, if_pos rfl, h42 (yA S 8 56 (upd (S.2.1 8 56) 3 v)) _ (yA_2n _ _ (by decide)) (yA_2n _ _ (by decide))]
      simp only [yA_yA, yA_same]
      rfl
  rcases nNt01 (S.2.1 8 48 0) with z | z
  · rw [z, if_pos rfl, h22]
  · rw [z, if_neg i10, h22]
