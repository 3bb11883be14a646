/-! THE STACK MACHINE -/
def pI (A : Nat → Int32) : List Int32 → Prop
  | [] => True
  | v :: t => A t.length = v ∧ pI A t
theorem pI_upd {A : Nat → Int32} {c : List Int32} {k : Nat} (x : Int32) (hk : c.length ≤ k) (h : pI A c) : pI (upd A k x) c := by
  induction c with
  | nil => trivial
  | cons y c ih =>
    have hk' : c.length + 1 ≤ k := hk
    refine ⟨?_, ih (by omega) h.2⟩
    rw [upd_o _ _ (by omega)]
    exact h.1
theorem e_join {N x : Nat} {S : yS} {a b : Int32} (hx : x < 256) : f_X8_join N S (Int32.ofNat x) a b = some (zJ x a b) := by
  unfold f_X8_join f_X8_join_0 zJ
  by_cases c1 : x = 38
  · rw [if_pos ((p_eq hx (nn_l 38 (by decide))).mpr c1), if_pos c1]
    unfold f_X8_join_94 f_X8_join_95
    by_cases z : a = 0
    · rw [if_pos z, b01_f (fun q => q.1 z)]
    · by_cases y : b = 0
      · rw [if_neg z, if_pos y, b01_f (fun q => q.2 y)]
      · rw [if_neg z, if_neg y, b01_t ⟨z, y⟩]
  rw [if_neg (fun q => c1 ((p_eq hx (nn_l 38 (by decide))).mp q)), if_neg c1]
  by_cases c2 : x = 43
  · rw [if_pos ((p_eq hx (nn_l 43 (by decide))).mpr c2), if_pos c2]
  rw [if_neg (fun q => c2 ((p_eq hx (nn_l 43 (by decide))).mp q)), if_neg c2]
  by_cases c3 : x = 45
  · rw [if_pos ((p_eq hx (nn_l 45 (by decide))).mpr c3), if_pos c3]
  rw [if_neg (fun q => c3 ((p_eq hx (nn_l 45 (by decide))).mp q)), if_neg c3]
  by_cases c4 : x = 60
  · rw [if_pos ((p_eq hx (nn_l 60 (by decide))).mpr c4), if_pos c4]
    unfold f_X8_join_106
    by_cases z : b ≤ a
    · rw [if_pos z, b01_f (Int32.not_lt.mpr z)]
    · rw [if_neg z, b01_t (Int32.not_le.mp z)]
  rw [if_neg (fun q => c4 ((p_eq hx (nn_l 60 (by decide))).mp q)), if_neg c4]
  by_cases c5 : x = 61
  · rw [if_pos ((p_eq hx (nn_l 61 (by decide))).mpr c5), if_pos c5]
    unfold f_X8_join_128
    by_cases z : a = b
    · rw [if_neg (fun q => q z), b01_t z]
    · rw [if_pos z, b01_f z]
  rw [if_neg (fun q => c5 ((p_eq hx (nn_l 61 (by decide))).mp q)), if_neg c5]
  by_cases c6 : x = 62
  · rw [if_pos ((p_eq hx (nn_l 62 (by decide))).mpr c6), if_pos c6]
    unfold f_X8_join_117
    by_cases z : a ≤ b
    · rw [if_pos z, b01_f (Int32.not_lt.mpr z)]
    · rw [if_neg z, b01_t (Int32.not_le.mp z)]
  rw [if_neg (fun q => c6 ((p_eq hx (nn_l 62 (by decide))).mp q)), if_neg c6]
  by_cases c7 : x = 124
  · rw [if_pos ((p_eq hx (nn_l 124 (by decide))).mpr c7), if_pos c7]
    unfold f_X8_join_76 f_X8_join_81
    by_cases z : a = 0
    · by_cases y : b = 0
      · rw [if_neg (fun q => q z), if_pos y, b01_f (fun q => q.elim (fun w => w z) (fun w => w y))]
      · rw [if_neg (fun q => q z), if_neg y, b01_t (Or.inr y)]
    · rw [if_pos z, b01_t (Or.inl z)]
  rw [if_neg (fun q => c7 ((p_eq hx (nn_l 124 (by decide))).mp q)), if_neg c7]
theorem pLst_mid {A : Nat → Int32} {x : Nat} {p : List Nat} (d : List Nat) (h : pLst A (d ++ x :: p)) : A p.length = Int32.ofNat x := by
  induction d with
  | nil => exact h.1
  | cons y d ih => exact ih h.2
theorem zW_len {L : Nat → Int32} {x : Nat} {σ τ : List Int32} (h : zW L x σ = some τ) : τ.length ≤ σ.length + 1 := by
  unfold zW at h
  by_cases c1 : x < 1000
  · rw [if_pos c1] at h
    cases h
    exact Nat.le_refl _
  rw [if_neg c1] at h
  by_cases c2 : x < 2000
  · rw [if_pos c2] at h
    cases h
    exact Nat.le_refl _
  rw [if_neg c2] at h
  by_cases c3 : x = 2033
  · rw [if_pos c3] at h
    match σ, h with
    | a :: t, h => cases h; exact Nat.le_succ _
  rw [if_neg c3] at h
  by_cases c4 : x = 2126
  · rw [if_pos c4] at h
    match σ, h with
    | a :: t, h => cases h; exact Nat.le_succ _
  rw [if_neg c4] at h
  by_cases c5 : x = 2063
  · rw [if_pos c5] at h
    match σ, h with
    | c :: b :: a :: t, h => cases h; show t.length + 1 ≤ t.length + 3 + 1; omega
  rw [if_neg c5] at h
  match σ, h with
  | b :: a :: t, h => cases h; show t.length + 1 ≤ t.length + 2 + 1; omega
theorem w_workr {N x : Nat} {S : yS} {L : Nat → Int32} {σ τ : List Int32} (hx : x < 1026 ∨ (2000 ≤ x ∧ x < 3000)) (hx2 : 2000 ≤ x → x < 2256) (hL : ∀ y, y < 26 → S.2.1 4 2 y = L y) (hI : pI (S.2.1 4 7) σ) (hl : σ.length < 60) (hw : zW L x σ = some τ) : ∃ A, f_X8r_work N S (Int32.ofNat x) (Int32.ofNat σ.length) = some (Int32.ofNat τ.length, yA S 4 7 A) ∧ pI A τ := by
  have nx : nn (Int32.ofNat x) x := nn_lit x (by omega)
  have nl : nn (Int32.ofNat σ.length) σ.length := nn_lit _ (by omega)
  unfold f_X8r_work f_X8r_work_0
  unfold zW at hw
  by_cases c1 : x < 1000
  · rw [if_pos c1] at hw
    cases hw
    rw [if_neg (fun q => by have := (nn_le (nn_l 2000 (by decide)) nx).mp q; omega), if_pos ((nn_lt nl (nn_lit 60 (by decide))).mpr hl), if_neg (fun q => by have := (nn_le (nn_l 1000 (by decide)) nx).mp q; omega)]
    unfold f_X8r_work_44
    rw [gA_nn nl hl, sq_s, y_int1]
    exact ⟨_, rfl, upd_s _ _ _, pI_upd _ (Nat.le_refl _) hI⟩
  rw [if_neg c1] at hw
  by_cases c2 : x < 2000
  · rw [if_pos c2] at hw
    cases hw
    have n1 := nn_sub nx (nn_l 1000 (by decide)) (by omega)
    rw [if_neg (fun q => by have := (nn_le (nn_l 2000 (by decide)) nx).mp q; omega), if_pos ((nn_lt nl (nn_lit 60 (by decide))).mpr hl), if_pos ((nn_le (nn_l 1000 (by decide)) nx).mpr (by omega)), gA_nn n1 (by omega)]
    unfold f_X8r_work_44
    rw [gA_nn nl hl, sq_s, y_int1]
    refine ⟨_, rfl, ?_, pI_upd _ (Nat.le_refl _) hI⟩
    rw [upd_s, hL _ (by omega)]
  rw [if_neg c2] at hw
  have x2 := hx2 (by omega)
  have n2 := nn_sub nx (nn_l 2000 (by decide)) (by omega)
  rw [if_pos ((nn_le (nn_l 2000 (by decide)) nx).mpr (by omega))]
  by_cases c3 : x = 2033
  · rw [if_pos c3] at hw
    subst c3
    rw [if_pos (show Int32.ofNat 2033 - 2000 = 33 by decide)]
    unfold f_X8r_work_67 f_X8r_work_112 f_X8r_work_113
    cases σ with
    | nil => cases hw
    | cons a t =>
      cases hw
      have l1 : t.length + 1 < 60 := hl
      have na : nn (Int32.ofNat (a :: t).length - 1) t.length := nn_sub nl (nn_l 1 (by decide)) (Nat.succ_le_succ (Nat.zero_le _))
      rw [if_neg (fun q => by have := (nn_le nl (nn_l 0 (by decide))).mp q; have h0 : (a :: t).length = t.length + 1 := rfl; omega), if_pos (show ¬ Int32.ofNat 2033 - 2000 = 126 by decide), gA_nn na (by omega), hI.1]
      by_cases z : a = 0
      · rw [if_neg (fun q => q z), gA_nn na (by omega), sq_s]
        exact ⟨_, rfl, by rw [upd_s]; exact (b01_t z).symm, pI_upd _ (Nat.le_refl _) hI.2⟩
      · rw [if_pos z, gA_nn na (by omega), sq_s]
        exact ⟨_, rfl, by rw [upd_s]; exact (b01_f z).symm, pI_upd _ (Nat.le_refl _) hI.2⟩
  rw [if_neg c3] at hw
  rw [if_neg (show ¬ Int32.ofNat x - 2000 = 33 from fun q => by have := (nn_eq n2 (nn_l 33 (by decide))).mp q; omega)]
  by_cases c4 : x = 2126
  · rw [if_pos c4] at hw
    subst c4
    rw [if_neg (show ¬ ¬ Int32.ofNat 2126 - 2000 = 126 by decide)]
    unfold f_X8r_work_67 f_X8r_work_112 f_X8r_work_113
    cases σ with
    | nil => cases hw
    | cons a t =>
      cases hw
      have l1 : t.length + 1 < 60 := hl
      have na : nn (Int32.ofNat (a :: t).length - 1) t.length := nn_sub nl (nn_l 1 (by decide)) (Nat.succ_le_succ (Nat.zero_le _))
      rw [if_neg (fun q => by have := (nn_le nl (nn_l 0 (by decide))).mp q; have h0 : (a :: t).length = t.length + 1 := rfl; omega), if_neg (show ¬ ¬ Int32.ofNat 2126 - 2000 = 126 by decide), gA_nn na (by omega), gA_nn na (by omega), sq_s, hI.1]
      exact ⟨_, rfl, upd_s _ _ _, pI_upd _ (Nat.le_refl _) hI.2⟩
  rw [if_neg c4] at hw
  rw [if_pos (show ¬ Int32.ofNat x - 2000 = 126 from fun q => by have := (nn_eq n2 (nn_l 126 (by decide))).mp q; omega)]
  by_cases c5 : x = 2063
  · rw [if_pos c5] at hw
    subst c5
    rw [if_neg (show ¬ ¬ Int32.ofNat 2063 - 2000 = 63 by decide)]
    unfold f_X8r_work_163 f_X8r_work_164
    obtain ⟨c, b, a, t, rfl⟩ : ∃ c b a t, σ = c :: b :: a :: t := by
      match σ, hw with
      | c :: b :: a :: t, _ => exact ⟨c, b, a, t, rfl⟩
    cases hw
    have l1 : t.length + 3 < 60 := hl
    have h0 : (c :: b :: a :: t).length = t.length + 3 := rfl
    have n3 : nn (Int32.ofNat (c :: b :: a :: t).length - 3) t.length := nn_sub nl (nn_l 3 (by decide)) (by omega)
    have n4 : nn (Int32.ofNat (c :: b :: a :: t).length - 1) (t.length + 2) := nn_sub nl (nn_l 1 (by decide)) (by omega)
    have n5 : nn (Int32.ofNat (c :: b :: a :: t).length - 2) (t.length + 1) := nn_sub nl (nn_l 2 (by decide)) (by omega)
    have i1 : S.2.1 4 7 (t.length + 2) = c := hI.1
    have i2 : S.2.1 4 7 (t.length + 1) = b := hI.2.1
    have i3 : S.2.1 4 7 t.length = a := hI.2.2.1
    rw [if_neg (fun q => by have := (nn_le nl (nn_l 2 (by decide))).mp q; omega), gA_nn n3 (by omega), i3]
    by_cases z : a = 0
    · rw [if_pos z, gA_nn n4 (by omega), gA_nn n3 (by omega), sq_s, i1, n5.1]
      refine ⟨_, rfl, ?_, pI_upd _ (Nat.le_refl _) hI.2.2.2⟩
      rw [upd_s, if_pos z]
    · rw [if_neg z, gA_nn n5 (by omega), gA_nn n3 (by omega), sq_s, i2, n5.1]
      refine ⟨_, rfl, ?_, pI_upd _ (Nat.le_refl _) hI.2.2.2⟩
      rw [upd_s, if_neg z]
  rw [if_neg c5] at hw
  rw [if_pos (show ¬ Int32.ofNat x - 2000 = 63 from fun q => by have := (nn_eq n2 (nn_l 63 (by decide))).mp q; omega)]
  unfold f_X8r_work_201
  obtain ⟨b, a, t, rfl⟩ : ∃ b a t, σ = b :: a :: t := by
    match σ, hw with
    | b :: a :: t, _ => exact ⟨b, a, t, rfl⟩
  cases hw
  have l1 : t.length + 2 < 60 := hl
  have h0 : (b :: a :: t).length = t.length + 2 := rfl
  have n4 : nn (Int32.ofNat (b :: a :: t).length - 1) (t.length + 1) := nn_sub nl (nn_l 1 (by decide)) (by omega)
  have n5 : nn (Int32.ofNat (b :: a :: t).length - 2) t.length := nn_sub nl (nn_l 2 (by decide)) (by omega)
  have i1 : S.2.1 4 7 (t.length + 1) = b := hI.1
  have i2 : S.2.1 4 7 t.length = a := hI.2.1
  rw [if_neg (fun q => by have := (nn_le nl (nn_l 1 (by decide))).mp q; omega), gA_nn n5 (by omega), gA_nn n4 (by omega), i1, i2, n2.1, e_join (by omega), bV_s, gA_nn n5 (by omega), sq_s, n4.1]
  exact ⟨_, rfl, upd_s _ _ _, pI_upd _ (Nat.le_refl _) hI.2.2⟩
theorem w_workl {N x : Nat} {S : yS} {L : Nat → Int32} {σ τ : List Int32} (hx : x < 1026 ∨ (2000 ≤ x ∧ x < 3000)) (hx2 : 2000 ≤ x → x < 2256) (hL : ∀ y, y < 26 → S.2.1 5 2 y = L y) (hI : pI (S.2.1 5 7) σ) (hl : σ.length < 60) (hw : zW L x σ = some τ) : ∃ A, f_X8l_work N S (Int32.ofNat x) (Int32.ofNat σ.length) = some (Int32.ofNat τ.length, yA S 5 7 A) ∧ pI A τ := by
  have nx : nn (Int32.ofNat x) x := nn_lit x (by omega)
  have nl : nn (Int32.ofNat σ.length) σ.length := nn_lit _ (by omega)
  unfold f_X8l_work f_X8l_work_0
  unfold zW at hw
  by_cases c1 : x < 1000
  · rw [if_pos c1] at hw
    cases hw
    rw [if_neg (fun q => by have := (nn_le (nn_l 2000 (by decide)) nx).mp q; omega), if_pos ((nn_lt nl (nn_lit 60 (by decide))).mpr hl), if_neg (fun q => by have := (nn_le (nn_l 1000 (by decide)) nx).mp q; omega)]
    unfold f_X8l_work_44
    rw [gA_nn nl hl, sq_s, y_int1]
    exact ⟨_, rfl, upd_s _ _ _, pI_upd _ (Nat.le_refl _) hI⟩
  rw [if_neg c1] at hw
  by_cases c2 : x < 2000
  · rw [if_pos c2] at hw
    cases hw
    have n1 := nn_sub nx (nn_l 1000 (by decide)) (by omega)
    rw [if_neg (fun q => by have := (nn_le (nn_l 2000 (by decide)) nx).mp q; omega), if_pos ((nn_lt nl (nn_lit 60 (by decide))).mpr hl), if_pos ((nn_le (nn_l 1000 (by decide)) nx).mpr (by omega)), gA_nn n1 (by omega)]
    unfold f_X8l_work_44
    rw [gA_nn nl hl, sq_s, y_int1]
    refine ⟨_, rfl, ?_, pI_upd _ (Nat.le_refl _) hI⟩
    rw [upd_s, hL _ (by omega)]
  rw [if_neg c2] at hw
  have x2 := hx2 (by omega)
  have n2 := nn_sub nx (nn_l 2000 (by decide)) (by omega)
  rw [if_pos ((nn_le (nn_l 2000 (by decide)) nx).mpr (by omega))]
  by_cases c3 : x = 2033
  · rw [if_pos c3] at hw
    subst c3
    rw [if_pos (show Int32.ofNat 2033 - 2000 = 33 by decide)]
    unfold f_X8l_work_67 f_X8l_work_112 f_X8l_work_113
    cases σ with
    | nil => cases hw
    | cons a t =>
      cases hw
      have l1 : t.length + 1 < 60 := hl
      have na : nn (Int32.ofNat (a :: t).length - 1) t.length := nn_sub nl (nn_l 1 (by decide)) (Nat.succ_le_succ (Nat.zero_le _))
      rw [if_neg (fun q => by have := (nn_le nl (nn_l 0 (by decide))).mp q; have h0 : (a :: t).length = t.length + 1 := rfl; omega), if_pos (show ¬ Int32.ofNat 2033 - 2000 = 126 by decide), gA_nn na (by omega), hI.1]
      by_cases z : a = 0
      · rw [if_neg (fun q => q z), gA_nn na (by omega), sq_s]
        exact ⟨_, rfl, by rw [upd_s]; exact (b01_t z).symm, pI_upd _ (Nat.le_refl _) hI.2⟩
      · rw [if_pos z, gA_nn na (by omega), sq_s]
        exact ⟨_, rfl, by rw [upd_s]; exact (b01_f z).symm, pI_upd _ (Nat.le_refl _) hI.2⟩
  rw [if_neg c3] at hw
  rw [if_neg (show ¬ Int32.ofNat x - 2000 = 33 from fun q => by have := (nn_eq n2 (nn_l 33 (by decide))).mp q; omega)]
  by_cases c4 : x = 2126
  · rw [if_pos c4] at hw
    subst c4
    rw [if_neg (show ¬ ¬ Int32.ofNat 2126 - 2000 = 126 by decide)]
    unfold f_X8l_work_67 f_X8l_work_112 f_X8l_work_113
    cases σ with
    | nil => cases hw
    | cons a t =>
      cases hw
      have l1 : t.length + 1 < 60 := hl
      have na : nn (Int32.ofNat (a :: t).length - 1) t.length := nn_sub nl (nn_l 1 (by decide)) (Nat.succ_le_succ (Nat.zero_le _))
      rw [if_neg (fun q => by have := (nn_le nl (nn_l 0 (by decide))).mp q; have h0 : (a :: t).length = t.length + 1 := rfl; omega), if_neg (show ¬ ¬ Int32.ofNat 2126 - 2000 = 126 by decide), gA_nn na (by omega), gA_nn na (by omega), sq_s, hI.1]
      exact ⟨_, rfl, upd_s _ _ _, pI_upd _ (Nat.le_refl _) hI.2⟩
  rw [if_neg c4] at hw
  rw [if_pos (show ¬ Int32.ofNat x - 2000 = 126 from fun q => by have := (nn_eq n2 (nn_l 126 (by decide))).mp q; omega)]
  by_cases c5 : x = 2063
  · rw [if_pos c5] at hw
    subst c5
    rw [if_neg (show ¬ ¬ Int32.ofNat 2063 - 2000 = 63 by decide)]
    unfold f_X8l_work_163 f_X8l_work_164
    obtain ⟨c, b, a, t, rfl⟩ : ∃ c b a t, σ = c :: b :: a :: t := by
      match σ, hw with
      | c :: b :: a :: t, _ => exact ⟨c, b, a, t, rfl⟩
    cases hw
    have l1 : t.length + 3 < 60 := hl
    have h0 : (c :: b :: a :: t).length = t.length + 3 := rfl
    have n3 : nn (Int32.ofNat (c :: b :: a :: t).length - 3) t.length := nn_sub nl (nn_l 3 (by decide)) (by omega)
    have n4 : nn (Int32.ofNat (c :: b :: a :: t).length - 1) (t.length + 2) := nn_sub nl (nn_l 1 (by decide)) (by omega)
    have n5 : nn (Int32.ofNat (c :: b :: a :: t).length - 2) (t.length + 1) := nn_sub nl (nn_l 2 (by decide)) (by omega)
    have i1 : S.2.1 5 7 (t.length + 2) = c := hI.1
    have i2 : S.2.1 5 7 (t.length + 1) = b := hI.2.1
    have i3 : S.2.1 5 7 t.length = a := hI.2.2.1
    rw [if_neg (fun q => by have := (nn_le nl (nn_l 2 (by decide))).mp q; omega), gA_nn n3 (by omega), i3]
    by_cases z : a = 0
    · rw [if_pos z, gA_nn n4 (by omega), gA_nn n3 (by omega), sq_s, i1, n5.1]
      refine ⟨_, rfl, ?_, pI_upd _ (Nat.le_refl _) hI.2.2.2⟩
      rw [upd_s, if_pos z]
    · rw [if_neg z, gA_nn n5 (by omega), gA_nn n3 (by omega), sq_s, i2, n5.1]
      refine ⟨_, rfl, ?_, pI_upd _ (Nat.le_refl _) hI.2.2.2⟩
      rw [upd_s, if_neg z]
  rw [if_neg c5] at hw
  rw [if_pos (show ¬ Int32.ofNat x - 2000 = 63 from fun q => by have := (nn_eq n2 (nn_l 63 (by decide))).mp q; omega)]
  unfold f_X8l_work_201
  obtain ⟨b, a, t, rfl⟩ : ∃ b a t, σ = b :: a :: t := by
    match σ, hw with
    | b :: a :: t, _ => exact ⟨b, a, t, rfl⟩
  cases hw
  have l1 : t.length + 2 < 60 := hl
  have h0 : (b :: a :: t).length = t.length + 2 := rfl
  have n4 : nn (Int32.ofNat (b :: a :: t).length - 1) (t.length + 1) := nn_sub nl (nn_l 1 (by decide)) (by omega)
  have n5 : nn (Int32.ofNat (b :: a :: t).length - 2) t.length := nn_sub nl (nn_l 2 (by decide)) (by omega)
  have i1 : S.2.1 5 7 (t.length + 1) = b := hI.1
  have i2 : S.2.1 5 7 t.length = a := hI.2.1
  rw [if_neg (fun q => by have := (nn_le nl (nn_l 1 (by decide))).mp q; omega), gA_nn n5 (by omega), gA_nn n4 (by omega), i1, i2, n2.1, e_join (by omega), bV_s, gA_nn n5 (by omega), sq_s, n4.1]
  exact ⟨_, rfl, upd_s _ _ _, pI_upd _ (Nat.le_refl _) hI.2.2⟩
