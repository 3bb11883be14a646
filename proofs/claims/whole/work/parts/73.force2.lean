def pFoC (o k : Nat) : Prop := o = 7 ∨ (o = 0 ∧ k = 6) ∨ ((o = 4 ∨ o = 5) ∧ (k = 0 ∨ k = 3 ∨ k = 4 ∨ k = 5 ∨ k = 6))
def pFoM (o k : Nat) : Prop := o = 8 ∧ (k = 47 ∨ k = 44 ∨ (37 ≤ k ∧ k ≤ 42) ∨ (50 ≤ k ∧ k ≤ 55) ∨ k = 57)
def okFo (k8 k9 : Nat) (l1 l2 : Int32) : Prop := (l1 = 2 ∧ (0 ≤ l2 ∧ l2 ≤ 99) ∧ k9 < 12) ∨ ((l1 = 0 ∨ l1 = 1) ∧ (0 ≤ l2 ∧ l2 ≤ 3000) ∧ k8 < 20)
theorem k01 {l1 : Int32} (h : ¬ l1 = 2) : (0 ≤ l1 ∧ l1 ≤ 1) ↔ (l1 = 0 ∨ l1 = 1) := by
  constructor
  · intro z
    obtain ⟨k, hk, _, hk2⟩ := nn_btw (nn_l 0 (by decide)) (nn_l 1 (by decide)) z
    rcases (show k = 0 ∨ k = 1 by omega) with rfl | rfl
    · exact Or.inl hk.1
    · exact Or.inr hk.1
  · intro z
    rcases z with rfl | rfl <;> decide
theorem k012 {l1 : Int32} : (0 ≤ l1 ∧ l1 ≤ 2) ↔ (l1 = 2 ∨ (¬ l1 = 2 ∧ (l1 = 0 ∨ l1 = 1))) := by
  constructor
  · intro z
    obtain ⟨k, hk, _, hk2⟩ := nn_btw (nn_l 0 (by decide)) (nn_l 2 (by decide)) z
    rcases (show k = 0 ∨ k = 1 ∨ k = 2 by omega) with rfl | rfl | rfl
    · exact Or.inr ⟨by rw [hk.1]; decide, Or.inl hk.1⟩
    · exact Or.inr ⟨by rw [hk.1]; decide, Or.inr hk.1⟩
    · exact Or.inl hk.1
  · intro z
    rcases z with rfl | ⟨_, rfl | rfl⟩ <;> decide
theorem e_mayForce {N k8 k9 : Nat} {Sc Sm : yS} (h : RR k8 k9 Sc Sm) (l1 l2 : Int32) : (okFo k8 k9 l1 l2 → f_X11_mayForce N Sc l1 l2 = some 1) ∧ (¬ okFo k8 k9 l1 l2 → f_X11_mayForce N Sc l1 l2 = some 0) := by
  obtain ⟨h1, h2, h3, h4, h5, h6, h7, h8⟩ := h
  have fr : f_X8r_isFull N Sc = some (b01 (¬ k8 < 20)) := by
    unfold f_X8r_isFull f_X8r_isFull_0 f_X8r_isFull_17
    by_cases z : k8 < 20
    · rw [if_pos ((nn_lt h1 (nn_lit 20 (by decide))).mpr z), gP_t (Or.inl rfl), b01_f (fun q => q z)]
    · rw [if_neg (fun q => z ((nn_lt h1 (nn_lit 20 (by decide))).mp q)), gP_t (Or.inr rfl), b01_t z]
  have fl : f_X8l_isFull N Sc = some (b01 (¬ k9 < 12)) := by
    unfold f_X8l_isFull f_X8l_isFull_0 f_X8l_isFull_17
    by_cases z : k9 < 12
    · rw [if_pos ((nn_lt h4 (nn_lit 12 (by decide))).mpr z), gP_t (Or.inl rfl), b01_f (fun q => q z)]
    · rw [if_neg (fun q => z ((nn_lt h4 (nn_lit 12 (by decide))).mp q)), gP_t (Or.inr rfl), b01_t z]
  have f1 : f_X11_mayForce_33 N Sc 1 = some 1 := by unfold f_X11_mayForce_33; rw [gP_t (Or.inr rfl)]
  have f2 : f_X11_mayForce_32 N Sc = some 0 := by unfold f_X11_mayForce_32 f_X11_mayForce_33; rw [gP_t (Or.inl rfl)]
  have f3 : f_X11_mayForce_68 N Sc 1 = some 1 := by unfold f_X11_mayForce_68; rw [gP_t (Or.inr rfl)]
  have f4 : f_X11_mayForce_67 N Sc = some 0 := by unfold f_X11_mayForce_67 f_X11_mayForce_68; rw [gP_t (Or.inl rfl)]
  unfold f_X11_mayForce f_X11_mayForce_0
  rw [e_within, e_isQuarter, e_within, fr, fl, bV_s, bV_s, bV_s, bV_s, bV_s, f1, f2, f3, f4]
  by_cases c : l1 = 2
  · rw [if_neg (fun q => q c)]
    by_cases a : 0 ≤ l2 ∧ l2 ≤ 99
    · rw [b01_t a, if_neg i10]
      by_cases b : k9 < 12
      · rw [b01_f (fun q => q b), if_neg (fun q => q rfl)]
        exact ⟨fun _ => rfl, fun q => absurd (Or.inl ⟨c, a, b⟩) q⟩
      · rw [b01_t b, if_pos i10]
        refine ⟨fun q => ?_, fun _ => rfl⟩
        rcases q with ⟨_, _, q⟩ | ⟨q, _⟩
        · exact absurd q b
        · rw [c] at q
          exact absurd q (by decide)
    · rw [b01_f a, if_pos rfl]
      refine ⟨fun q => ?_, fun _ => rfl⟩
      rcases q with ⟨_, q, _⟩ | ⟨q, _⟩
      · exact absurd q a
      · rw [c] at q
        exact absurd q (by decide)
  · rw [if_pos c]
    by_cases a0 : 0 ≤ l1 ∧ l1 ≤ 1
    · rw [b01_t a0, if_neg i10]
      by_cases a : 0 ≤ l2 ∧ l2 ≤ 3000
      · rw [b01_t a, if_neg i10]
        by_cases b : k8 < 20
        · rw [b01_f (fun q => q b), if_neg (fun q => q rfl)]
          exact ⟨fun _ => rfl, fun q => absurd (Or.inr ⟨(k01 c).mp a0, a, b⟩) q⟩
        · rw [b01_t b, if_pos i10]
          refine ⟨fun q => ?_, fun _ => rfl⟩
          rcases q with ⟨q, _⟩ | ⟨_, _, q⟩
          · exact absurd q c
          · exact absurd q b
      · rw [b01_f a, if_pos rfl]
        refine ⟨fun q => ?_, fun _ => rfl⟩
        rcases q with ⟨q, _⟩ | ⟨_, q, _⟩
        · exact absurd q c
        · exact absurd q a
    · rw [b01_f a0, if_pos rfl]
      refine ⟨fun q => ?_, fun _ => rfl⟩
      rcases q with ⟨q, _⟩ | ⟨q, _⟩
      · exact absurd q c
      · exact absurd ((k01 c).mpr q) a0
theorem em_mayForce {N k8 k9 : Nat} {Sc Sm : yS} (h : RR k8 k9 Sc Sm) (l1 l2 : Int32) : (okFo k8 k9 l1 l2 → f_X12_force N Sm l1 l2 = f_X12_force_74 N (yI (yI Sm 8 47 0) 8 44 0) l1 l2 (Sm.1 8 44)) ∧ (¬ okFo k8 k9 l1 l2 → f_X12_force N Sm l1 l2 = some (-100, yI (yI Sm 8 47 0) 8 44 0)) := by
  obtain ⟨h1, h2, h3, h4, h5, h6, h7, h8⟩ := h
  have g1 : (yI (yI Sm 8 47 0) 8 44 0).1 8 41 = Sc.1 4 0 := h3
  have g2 : (yI (yI Sm 8 47 0) 8 44 0).1 8 42 = Sc.1 5 0 := h6
  have g3 : (yI Sm 8 47 0).1 8 44 = Sm.1 8 44 := rfl
  unfold f_X12_force f_X12_force_0
  rw [sq_s, sq_s, e_in, bV_s, g3]
  unfold f_X12_force_39 f_X12_force_71
  rw [e_in, e_in, bV_s, bV_s, g1, g2]
  by_cases c : l1 = 2
  · rw [b01_t (k012.mpr (Or.inl c)), if_neg i10, if_neg (show ¬ ¬ l1 = 2 from fun q => q c)]
    by_cases a : 0 ≤ l2 ∧ l2 ≤ 99
    · rw [b01_t a, if_neg i10, if_neg (show ¬ ¬ l1 = 2 from fun q => q c)]
      by_cases b : k9 < 12
      · rw [if_pos (show ¬ Sc.1 5 0 = 12 from fun q => by have := (nn_eq h4 (nn_l 12 (by decide))).mp q; omega)]
        exact ⟨fun _ => rfl, fun q => absurd (Or.inl ⟨c, a, b⟩) q⟩
      · rw [if_neg (show ¬ ¬ Sc.1 5 0 = 12 from fun q => q ((nn_eq h4 (nn_l 12 (by decide))).mpr (by omega)))]
        refine ⟨fun q => ?_, fun _ => rfl⟩
        rcases q with ⟨_, _, q⟩ | ⟨q, _⟩
        · exact absurd q b
        · rw [c] at q
          exact absurd q (by decide)
    · rw [b01_f a, if_pos rfl]
      refine ⟨fun q => ?_, fun _ => rfl⟩
      rcases q with ⟨_, q, _⟩ | ⟨q, _⟩
      · exact absurd q a
      · rw [c] at q
        exact absurd q (by decide)
  · by_cases a0 : l1 = 0 ∨ l1 = 1
    · rw [b01_t (k012.mpr (Or.inr ⟨c, a0⟩)), if_neg i10, if_pos c, if_pos c]
      by_cases a : 0 ≤ l2 ∧ l2 ≤ 3000
      · rw [b01_t a, if_neg i10]
        by_cases b : k8 < 20
        · rw [if_pos (show ¬ Sc.1 4 0 = 20 from fun q => by have := (nn_eq h1 (nn_l 20 (by decide))).mp q; omega)]
          exact ⟨fun _ => rfl, fun q => absurd (Or.inr ⟨a0, a, b⟩) q⟩
        · rw [if_neg (show ¬ ¬ Sc.1 4 0 = 20 from fun q => q ((nn_eq h1 (nn_l 20 (by decide))).mpr (by omega)))]
          refine ⟨fun q => ?_, fun _ => rfl⟩
          rcases q with ⟨q, _⟩ | ⟨_, _, q⟩
          · exact absurd q c
          · exact absurd q b
      · rw [b01_f a, if_pos rfl]
        refine ⟨fun q => ?_, fun _ => rfl⟩
        rcases q with ⟨q, _⟩ | ⟨_, q, _⟩
        · exact absurd q c
        · exact absurd q a
    · rw [b01_f (fun q => by rcases k012.mp q with z | z; exact c z; exact a0 z.2), if_pos rfl]
      refine ⟨fun q => ?_, fun _ => rfl⟩
      rcases q with ⟨q, _⟩ | ⟨q, _⟩
      · exact absurd q c
      · exact absurd q a0
/-- what open leaves -/
def oS (S : yS) (l1 l2 l3 : Int32) (m : Nat) : yS := yI (yI (yI (yI (yI (yI S 8 50 l1) 8 51 l2) 8 52 l3) 8 53 0) 8 54 (-1)) 8 55 (Int32.ofNat (m + 1))
theorem em_openS {N m : Nat} {S : yS} {l1 l2 l3 : Int32} (hm : m = 0 ∨ m = 1) : f_X12_open N S l1 l2 l3 m = some (0, oS S l1 l2 l3 m) := by
  unfold f_X12_open f_X12_open_0
  rw [sq_s, sq_s, sq_s, sq_s, sq_s, gP_t hm, sq_s]
  rfl
def pOp (o k : Nat) : Prop := o = 8 ∧ ((50 ≤ k ∧ k ≤ 55) ∨ k = 57)
theorem oS_FR {S : yS} {l1 l2 l3 : Int32} {m : Nat} : FR pOp S (oS S l1 l2 l3 m) := by
  unfold oS
  exact FR_trans (FR_I _ _ _ _ ⟨rfl, by omega⟩) (FR_trans (FR_I _ _ _ _ ⟨rfl, by omega⟩) (FR_trans (FR_I _ _ _ _ ⟨rfl, by omega⟩) (FR_trans (FR_I _ _ _ _ ⟨rfl, by omega⟩) (FR_trans (FR_I _ _ _ _ ⟨rfl, by omega⟩) (FR_I _ _ _ _ ⟨rfl, by omega⟩)))))
theorem rS_FR {S : yS} {i : Nat} {w : Int32} : FR pOp S (rS S i w) := by
  unfold rS
  exact FR_trans (FR_I _ _ _ _ ⟨rfl, by omega⟩) (FR_I _ _ _ _ ⟨rfl, by omega⟩)
theorem y57_FR {S : yS} {x : Int32} : FR pOp S (yI S 8 57 x) := FR_I _ _ _ _ ⟨rfl, by omega⟩
