/-! WHAT A START WRITES -/
def cSt (S : yS) (p q g : Nat) (now fr w lg mi du pl gI pI : Int32) : yS := yI (yI (yI (yI (yI (yI (yI (yI (yI (yI (yI (yI S (512 + g) 4 1) (512 + g) 5 now) (512 + g) 7 fr) (128 + p) 11 w) (128 + p) 9 lg) (128 + p) 10 mi) (128 + p) 15 du) (128 + p) 16 pl) (128 + p) 17 gI) (128 + p) 8 (-1)) (256 + q) 0 (-1)) (256 + q) 1 pI
def mSt (m : Nat → Int32) (p q g : Nat) (now fr w lg mi du pl gI pI : Int32) : Nat → Int32 := upd (upd (upd (upd (upd (upd (upd (upd (upd (upd (upd (upd m (1345 + 5 * g + 0) 1) (1345 + 5 * g + 1) now) (19 + 23 * p + 0) (-1)) (19 + 23 * p + 1) lg) (19 + 23 * p + 2) mi) (19 + 23 * p + 10) w) (19 + 23 * p + 8) du) (19 + 23 * p + 11) pl) (19 + 23 * p + 12) gI) (19 + 23 * p + 13) fr) (203 + 4 * q + 0) (-1)) (203 + 4 * q + 1) pI
def pSt (p q g o k : Nat) : Prop := (o = 512 + g ∧ (k = 4 ∨ k = 5 ∨ k = 7)) ∨ (o = 128 + p ∧ ((8 ≤ k ∧ k ≤ 11) ∨ (15 ≤ k ∧ k ≤ 17))) ∨ (o = 256 + q ∧ k ≤ 1)
theorem cSt_o (S : yS) (p q g : Nat) (now fr w lg mi du pl gI pI : Int32) : FR (pSt p q g) S (cSt S p q g now fr w lg mi du pl gI pI) := by
  unfold cSt
  exact FR_trans (FR_I _ _ _ _ (by unfold pSt; omega)) (FR_trans (FR_I _ _ _ _ (by unfold pSt; omega)) (FR_trans (FR_I _ _ _ _ (by unfold pSt; omega)) (FR_trans (FR_I _ _ _ _ (by unfold pSt; omega)) (FR_trans (FR_I _ _ _ _ (by unfold pSt; omega)) (FR_trans (FR_I _ _ _ _ (by unfold pSt; omega)) (FR_trans (FR_I _ _ _ _ (by unfold pSt; omega)) (FR_trans (FR_I _ _ _ _ (by unfold pSt; omega)) (FR_trans (FR_I _ _ _ _ (by unfold pSt; omega)) (FR_trans (FR_I _ _ _ _ (by unfold pSt; omega)) (FR_trans (FR_I _ _ _ _ (by unfold pSt; omega)) (FR_I _ _ _ _ (by unfold pSt; omega))))))))))))
theorem cSt_v {p q g : Nat} (hp : p < 8) (hq : q < 8) (hg : g < 24) (S : yS) (now fr w lg mi du pl gI pI : Int32) : ((cSt S p q g now fr w lg mi du pl gI pI).1 (128 + p) 8 = -1 ∧ (cSt S p q g now fr w lg mi du pl gI pI).1 (128 + p) 9 = lg ∧ (cSt S p q g now fr w lg mi du pl gI pI).1 (128 + p) 10 = mi ∧ (cSt S p q g now fr w lg mi du pl gI pI).1 (128 + p) 11 = w ∧ (cSt S p q g now fr w lg mi du pl gI pI).1 (128 + p) 15 = du ∧ (cSt S p q g now fr w lg mi du pl gI pI).1 (128 + p) 16 = pl ∧ (cSt S p q g now fr w lg mi du pl gI pI).1 (128 + p) 17 = gI) ∧ ((cSt S p q g now fr w lg mi du pl gI pI).1 (512 + g) 4 = 1 ∧ (cSt S p q g now fr w lg mi du pl gI pI).1 (512 + g) 5 = now ∧ (cSt S p q g now fr w lg mi du pl gI pI).1 (512 + g) 7 = fr) ∧ (cSt S p q g now fr w lg mi du pl gI pI).1 (256 + q) 0 = -1 ∧ (cSt S p q g now fr w lg mi du pl gI pI).1 (256 + q) 1 = pI := by
  unfold cSt
  refine ⟨⟨?_, ?_, ?_, ?_, ?_, ?_, ?_⟩, ⟨?_, ?_, ?_⟩, ?_, ?_⟩ <;> ((repeat rw [yI_1n _ _ (by omega)]); rw [yI_1s])
theorem mSt_o {p q g i : Nat} (m : Nat → Int32) (now fr w lg mi du pl gI pI : Int32) (h1 : i ≠ 1345 + 5 * g + 0) (h2 : i ≠ 1345 + 5 * g + 1) (h3 : i ≠ 19 + 23 * p + 0) (h4 : i ≠ 19 + 23 * p + 1) (h5 : i ≠ 19 + 23 * p + 2) (h6 : i ≠ 19 + 23 * p + 10) (h7 : i ≠ 19 + 23 * p + 8) (h8 : i ≠ 19 + 23 * p + 11) (h9 : i ≠ 19 + 23 * p + 12) (h10 : i ≠ 19 + 23 * p + 13) (h11 : i ≠ 203 + 4 * q + 0) (h12 : i ≠ 203 + 4 * q + 1) : mSt m p q g now fr w lg mi du pl gI pI i = m i := by
  unfold mSt
  rw [upd_o _ _ h12, upd_o _ _ h11, upd_o _ _ h10, upd_o _ _ h9, upd_o _ _ h8, upd_o _ _ h7, upd_o _ _ h6, upd_o _ _ h5, upd_o _ _ h4, upd_o _ _ h3, upd_o _ _ h2, upd_o _ _ h1]
theorem mSt_v {p q g : Nat} (hp : p < 8) (hq : q < 8) (hg : g < 24) (m : Nat → Int32) (now fr w lg mi du pl gI pI : Int32) : (mSt m p q g now fr w lg mi du pl gI pI (1345 + 5 * g + 0) = 1 ∧ mSt m p q g now fr w lg mi du pl gI pI (1345 + 5 * g + 1) = now) ∧ (mSt m p q g now fr w lg mi du pl gI pI (19 + 23 * p + 0) = -1 ∧ mSt m p q g now fr w lg mi du pl gI pI (19 + 23 * p + 1) = lg ∧ mSt m p q g now fr w lg mi du pl gI pI (19 + 23 * p + 2) = mi ∧ mSt m p q g now fr w lg mi du pl gI pI (19 + 23 * p + 10) = w ∧ mSt m p q g now fr w lg mi du pl gI pI (19 + 23 * p + 8) = du ∧ mSt m p q g now fr w lg mi du pl gI pI (19 + 23 * p + 11) = pl ∧ mSt m p q g now fr w lg mi du pl gI pI (19 + 23 * p + 12) = gI ∧ mSt m p q g now fr w lg mi du pl gI pI (19 + 23 * p + 13) = fr) ∧ mSt m p q g now fr w lg mi du pl gI pI (203 + 4 * q + 0) = -1 ∧ mSt m p q g now fr w lg mi du pl gI pI (203 + 4 * q + 1) = pI := by
  unfold mSt
  refine ⟨⟨?_, ?_⟩, ⟨?_, ?_, ?_, ?_, ?_, ?_, ?_, ?_⟩, ?_, ?_⟩ <;> ((repeat rw [upd_o _ _ (by omega)]); rw [upd_s])
theorem e_wr {N p q g l : Nat} {S : yS} {now fr gI : Int32} (hp : p < 8) (hq : q < 8) (hg : g < 24) (hl : l < 12) : (bS (f_X1_begin N S (512 + g) now fr) fun w2 S2 => bS (f_X6_takeOff N S2 (128 + p) gI (512 + g) (64 + l)) fun w3 S3 => sq (yI S3 (256 + q) 0 ((-1))) fun S4 => sq (yI S4 (256 + q) 1 (S4.1 (512 + g) 0)) fun S5 => some ((0 : Int32), S5)) = some ((0 : Int32), cSt S p q g now fr (b01 (S.1 (128 + p) 8 = S.1 (64 + l) 0)) (S.1 (512 + g) 2) (if S.1 (128 + p) 8 = S.1 (64 + l) 0 then 0 else S.1 (64 + l) 2) (S.1 (128 + p) 3) (S.1 (512 + g) 1) gI (S.1 (512 + g) 0)) := by
  unfold f_X1_begin f_X1_begin_0
  rw [sq_s, sq_s, sq_s, bS_s]
  unfold f_X6_takeOff f_X6_takeOff_0 f_X6_takeOff_17 f_X6_takeOff_44
  have a1 : (yI (yI (yI S (512 + g) 4 1) (512 + g) 5 now) (512 + g) 7 fr).1 (128 + p) 8 = S.1 (128 + p) 8 := by repeat rw [yI_1n _ _ (by omega)]
  have a2 : (yI (yI (yI S (512 + g) 4 1) (512 + g) 5 now) (512 + g) 7 fr).1 (64 + l) 0 = S.1 (64 + l) 0 := by repeat rw [yI_1n _ _ (by omega)]
  rw [a1, a2]
  by_cases c : S.1 (128 + p) 8 = S.1 (64 + l) 0
  · rw [if_neg (fun z => z c), gP_t (Or.inr rfl), sq_s, sq_s, b01_t c, if_pos c]
    rw [if_neg (show ¬ (yI (yI (yI (yI (yI S (512 + g) 4 1) (512 + g) 5 now) (512 + g) 7 fr) (128 + p) 11 1) (128 + p) 9 ((yI (yI (yI (yI S (512 + g) 4 1) (512 + g) 5 now) (512 + g) 7 fr) (128 + p) 11 1).1 (512 + g) 2)).1 (128 + p) 11 = 0 by rw [yI_1n _ _ (by omega), yI_1s]; decide)]
    rw [sq_s, sq_s, sq_s, sq_s, sq_s, bS_s, sq_s, sq_s]
    repeat rw [yI_1n _ _ (by omega)]
    rfl
  · rw [if_pos c, gP_t (Or.inl rfl), sq_s, sq_s, b01_f c, if_neg c]
    rw [if_pos (show (yI (yI (yI (yI (yI S (512 + g) 4 1) (512 + g) 5 now) (512 + g) 7 fr) (128 + p) 11 0) (128 + p) 9 ((yI (yI (yI (yI S (512 + g) 4 1) (512 + g) 5 now) (512 + g) 7 fr) (128 + p) 11 0).1 (512 + g) 2)).1 (128 + p) 11 = 0 by rw [yI_1n _ _ (by omega), yI_1s])]
    rw [sq_s, sq_s, sq_s, sq_s, sq_s, bS_s, sq_s, sq_s]
    repeat rw [yI_1n _ _ (by omega)]
    rfl
theorem em_wr {N p q g l : Nat} {Sm : yS} {gI pI qI lI fr room goal : Int32} (hp : p < 8) (hq : q < 8) (hg : g < 24) (hl : l < 12) (hgI : nn gI g) (hpI : nn pI p) (hqI : nn qI q) (hlI : nn lI l) : f_X12_start_70 N Sm gI pI qI lI fr room goal = f_X12_start_214 N N (yA Sm 8 48 (mSt (Sm.2.1 8 48) p q g (Sm.2.1 8 48 0) fr (b01 (fr = Sm.2.1 8 2 l)) lI (if fr = Sm.2.1 8 2 l then 0 else Sm.2.1 8 4 l) (Sm.2.1 8 19 p) qI gI pI)) pI lI fr room goal 0 := by
  unfold f_X12_start_70
  rw [em_flW hgI hg (nn_l 0 (by decide)) (by decide), bS_s, gA_nn (nn_l 0 (by decide)) (by decide), em_flW hgI hg (nn_l 1 (by decide)) (by decide), bS_s, em_planeW hpI hp (nn_l 0 (by decide)) (by decide), bS_s, em_planeW hpI hp (nn_l 1 (by decide)) (by decide), bS_s, gA_nn hlI hl]
  have e156 : ∀ (S : yS) (w : Int32), f_X12_start_156 N S gI pI qI lI fr room goal pI 10 w = f_X12_start_214 N N (yA S 8 48 (upd (upd (upd (upd (upd (upd (upd (S.2.1 8 48) (19 + 23 * p + 10) w) (19 + 23 * p + 8) (S.2.1 8 19 p)) (19 + 23 * p + 11) qI) (19 + 23 * p + 12) gI) (19 + 23 * p + 13) fr) (203 + 4 * q + 0) (-1)) (203 + 4 * q + 1) pI)) pI lI fr room goal 0 := by
    intro S w
    have pW : ∀ (S : yS) (j : Nat) (jI v : Int32), nn jI j → j < 4 → f_X12_setPilot N S qI jI v = some (0, yA S 8 48 (upd (S.2.1 8 48) (203 + 4 * q + j) v)) := by
      intro S j jI v h1 h2
      unfold f_X12_setPilot f_X12_setPilot_0
      rw [gA_nn (nn_add (nn_add (nn_l 203 (by decide)) (nn_mul (nn_l 4 (by decide)) hqI (by omega)) (by omega)) h1 (by omega)) (by omega), sq_s]
    unfold f_X12_start_156
    rw [em_planeW hpI hp (nn_l 10 (by decide)) (by decide), bS_s, gA_nn hpI hp, em_planeW hpI hp (nn_l 8 (by decide)) (by decide), bS_s, em_planeW hpI hp (nn_l 11 (by decide)) (by decide), bS_s, em_planeW hpI hp (nn_l 12 (by decide)) (by decide), bS_s, em_planeW hpI hp (nn_l 13 (by decide)) (by decide), bS_s, pW _ 0 _ _ (nn_l 0 (by decide)) (by decide), bS_s, pW _ 1 _ _ (nn_l 1 (by decide)) (by decide), bS_s]
    simp only [yA_yA, yA_same]
    rw [yA_2n _ _ (by decide)]
  have e132 : ∀ (S : yS) (mi : Int32), f_X12_start_132 N S gI pI qI lI fr room goal pI 2 mi = f_X12_start_156 N (yA S 8 48 (upd (S.2.1 8 48) (19 + 23 * p + 2) mi)) gI pI qI lI fr room goal pI 10 (b01 (fr = S.2.1 8 2 l)) := by
    intro S mi
    unfold f_X12_start_132
    rw [em_planeW hpI hp (nn_l 2 (by decide)) (by decide), bS_s, gA_nn hlI hl, yA_2n _ _ (by decide)]
    by_cases c : fr = S.2.1 8 2 l
    · rw [if_neg (fun z => z c), b01_t c]
    · rw [if_pos c, b01_f c]
  simp only [yA_yA, yA_same]
  rw [yA_2n _ _ (by decide)]
  by_cases c : fr = Sm.2.1 8 2 l
  · rw [if_neg (fun z => z c), if_pos c, e132, e156]
    simp only [yA_yA, yA_same]
    rw [yA_2n _ _ (by decide), yA_2n _ _ (by decide), upd_o _ _ (by omega)]
    rfl
  · rw [if_pos c, if_neg c, gA_nn hlI hl, e132, e156]
    simp only [yA_yA, yA_same]
    rw [yA_2n _ _ (by decide), yA_2n _ _ (by decide), yA_2n _ _ (by decide), upd_o _ _ (by omega)]
    rfl
