/-! SEND, the call -/
theorem em_pl2 {N p j : Nat} {S : yS} {x jI v : Int32} (hx : nn x p) (hp : p < 8) (hj : nn jI j) (j23 : j < 23) : f_X12_plane2 N S x jI v = some (0, yA S 8 48 (upd (S.2.1 8 48) (19 + 23 * p + j) v)) := by
  unfold f_X12_plane2 f_X12_plane2_0
  rw [gA_nn (nn_add (nn_add (nn_l 19 (by decide)) (nn_mul (nn_l 23 (by decide)) hx (by omega)) (by omega)) hj (by omega)) (by omega), sq_s]
theorem PMn_g {n nf : Nat} {pl ta : Nat → Nat} {q : Nat → Nat → Nat} {wy : Nat → Nat → Bool} {M M' : yS} (h : PMn n nf pl ta q wy M) (F : FR pRr M M') (w : ∀ p, p < 8 → M'.2.1 8 48 (19 + 23 * p + 0) = M.2.1 8 48 (19 + 23 * p + 0)) : PMn n nf pl ta q wy M' := by
  obtain ⟨h1, n8, nf8, h2, h3, h4⟩ := h
  refine ⟨by rw [(F 8 59 (by unfold pRr; omega)).1]; exact h1, n8, nf8, by rw [(F 8 1 (by unfold pRr; omega)).1]; exact h2, fun i hi => ?_, fun f hf i hi => ?_⟩
  · obtain ⟨a, b, c, d⟩ := h3 i hi
    exact ⟨by rw [(F 8 58 (by unfold pRr; omega)).2]; exact a, b, by rw [w _ b]; exact c, d⟩
  · rw [(F 8 10 (by unfold pRr; omega)).2]; exact h4 f hf i hi
def cRn (C : yS) (p f : Nat) (v : Int32) : yS := yI (yI (yI (yI (yA C 1 2 (upd (C.2.1 1 2) f (C.2.1 1 2 f - 1))) (128 + p) (pS 4) 0) (128 + p) (pS 5) 0) (128 + p) (pS 7) 0) (128 + p) (pS 9) v
def mR1 (M : yS) (f : Nat) : yS := yA M 8 48 (upd (M.2.1 8 48) (4 + 2 * f) (M.2.1 8 48 (4 + 2 * f) - 1))
def mPl (M : yS) (p j : Nat) (v : Int32) : yS := yA M 8 48 (upd (M.2.1 8 48) (19 + 23 * p + j) v)
def mR5 (M : yS) (p f : Nat) : yS := mPl (mPl (mPl (mR1 M f) p 4 0) p 5 0) p 7 0
theorem renew_c {N p f a : Nat} {C : yS} {x : Int32} (hx : nn x p) (p8 : p < 8) (r : C.2.1 2 4 p = 1) (ha : nn (C.1 (128 + p) 8) a) (a8 : a < 8) (f8 : f < 8) : f_X10_renew N C x (Int32.ofNat f) = some (0, cRn C p f (C.1 2 13 + rUp (C.2.1 1 7 (8 * f + a)) 8)) := by
  have nf' := nn_lit f (by omega)
  unfold f_X10_renew f_X10_renew_0
  rw [gR_nn hx p8 r, sq_s, sq_s, sq_s]
  have e8 : (yI (yI (yI C (128 + p) 13 0) (128 + p) 5 0) (128 + p) 7 0).1 (128 + p) 8 = C.1 (128 + p) 8 := by
    rw [yI_1n _ _ (fun z => absurd z.2 (by decide)), yI_1n _ _ (fun z => absurd z.2 (by decide)), yI_1n _ _ (fun z => absurd z.2 (by decide))]
  have e13 : (yI (yI (yI C (128 + p) 13 0) (128 + p) 5 0) (128 + p) 7 0).1 2 13 = C.1 2 13 := by
    rw [yI_1n _ _ (fun z => by have := z.1; omega), yI_1n _ _ (fun z => by have := z.1; omega), yI_1n _ _ (fun z => by have := z.1; omega)]
  have qq : f_X7_quarters N (yI (yI (yI C (128 + p) 13 0) (128 + p) 5 0) (128 + p) 7 0) (Int32.ofNat f) ((yI (yI (yI C (128 + p) 13 0) (128 + p) 5 0) (128 + p) 7 0).1 (128 + p) 8) = some (rUp (C.2.1 1 7 (8 * f + a)) 8) := by
    unfold f_X7_quarters f_X7_quarters_0
    rw [e8, e_miles nf' ha f8 a8, bV_s, e_roundUp (nn_l 8 (by decide)) (by decide), bV_s]
    rfl
  rw [qq, bV_s, e13, sq_s, gA_nn nf' (by omega), gA_nn nf' (by omega), sq_s]
  rfl
theorem rn_both {cK : Nat → Nat} {nf nl np nq nb ng f p x : Nat} {S M : yS} {v : Int32} (hT : ST cK nf nl np nq nb ng S M) (hD : DY cK nf nl np nq nb ng S M) (hf : f < nf) (hx : nn (S.2.1 1 2 f) x) (x1 : 1 ≤ x) (x9 : x ≤ 9) (hp : p < np) : ST cK nf nl np nq nb ng (cRn S p f v) (mPl (mR5 M p f) p 9 v) ∧ DY cK nf nl np nq nb ng (cRn S p f v) (mPl (mR5 M p f) p 9 v) ∧ (mR5 M p f).2.1 8 48 0 = S.1 2 13 := by
  obtain ⟨d1, d2⟩ := spare_set hT hD hf hx x1 x9
  obtain ⟨e1, e2⟩ := pl_set (p := p) (j := 4) (v := 0) d1 d2 hp (Or.inl rfl) (fun _ => rfl)
  obtain ⟨h1, h2⟩ := pl_set (p := p) (j := 5) (v := 0) e1 e2 hp (Or.inr (Or.inl rfl)) (fun _ => rfl)
  obtain ⟨i1, i2⟩ := pl_set (p := p) (j := 7) (v := 0) h1 h2 hp (Or.inr (Or.inr (Or.inl rfl))) (fun _ => rfl)
  obtain ⟨j1, j2⟩ := pl_set (p := p) (j := 9) (v := v) i1 i2 hp (Or.inr (Or.inr (Or.inr rfl))) (fun z => by omega)
  refine ⟨j1, j2, i2.1.trans ?_⟩
  rw [yI_1n _ _ (fun z => by have := z.1; omega), yI_1n _ _ (fun z => by have := z.1; omega), yI_1n _ _ (fun z => by have := z.1; omega)]
  rfl
theorem FR_mPl {M X : yS} {p j : Nat} {v : Int32} (h : FR pRr M X) : FR pRr M (mPl X p j v) := FR_trans h (FR_A _ _ _ _ (by unfold pRr; omega))
theorem FR_mR1 {M X : yS} {f : Nat} (h : FR pRr M X) : FR pRr M (mR1 X f) := FR_trans h (FR_A _ _ _ _ (by unfold pRr; omega))
theorem mPl_0 {M : yS} {p j i : Nat} {v : Int32} (h : i ≠ 19 + 23 * p + j) : (mPl M p j v).2.1 8 48 i = M.2.1 8 48 i := by
  unfold mPl; rw [yA_same, upd_o _ _ h]
theorem mR1_0 {M : yS} {f i : Nat} (h : i ≠ 4 + 2 * f) : (mR1 M f).2.1 8 48 i = M.2.1 8 48 i := by
  unfold mR1; rw [yA_same, upd_o _ _ h]
theorem mR5_0 {M : yS} {p f p' : Nat} (f8 : f < 8) : (mR5 M p f).2.1 8 48 (19 + 23 * p' + 0) = M.2.1 8 48 (19 + 23 * p' + 0) := by
  unfold mR5
  rw [mPl_0 (by omega), mPl_0 (by omega), mPl_0 (by omega), mR1_0 (by omega)]
theorem send_loop {cK : Nat → Nat} {N nf nl np nq nb ng n : Nat} {pl ta : Nat → Nat} {q : Nat → Nat → Nat} {wy : Nat → Nat → Bool} {sp s : Nat → Nat} {Sb Mb : yS} {Q : Int32} (hL : PLn n nf pl ta q wy sp Sb) (hM : PMn n nf pl ta q wy Mb) (hs : okS n wy (capF n sp nf 0) s) (hpl : ∀ i, i < n → pl i < np) (c1 : ∀ j, j < n → Sb.2.1 6 1 j = fI (s j)) (c2 : ∀ j, j < n → Mb.2.1 8 61 j = fI (s j)) : ∀ (d i k m : Nat) (S M : yS), i + d = n → d < k → d < m → SLi cK nf nl np nq nb ng n sp s Sb Mb i S M → ∃ S' M', f_X11_send_14 k N S Q (Int32.ofNat i) = some (Q, yI S' 0 8 (Int32.ofNat n)) ∧ f_X12_send_37 m N M (Int32.ofNat i) = some (Mb.1 8 63, M') ∧ SLi cK nf nl np nq nb ng n sp s Sb Mb n S' M' := by
  obtain ⟨l1, n8, nf8, l2, l3, l4, l5⟩ := id hL
  have m1 := hM.1
  intro d
  induction d with
  | zero =>
    intro i k m S M hi hk hm h
    obtain ⟨k, rfl⟩ : ∃ x, k = x + 1 := ⟨k - 1, by omega⟩
    obtain ⟨m, rfl⟩ : ∃ x, m = x + 1 := ⟨m - 1, by omega⟩
    have e : i = n := by omega
    subst e
    obtain ⟨a1, a2, a3, a4, a5⟩ := id h
    have x1 : S.1 6 2 = Sb.1 6 2 := (a3 6 2 (by unfold pRn; omega)).1
    have x2 : M.1 8 59 = Mb.1 8 59 := (a4 8 59 (by unfold pRr; omega)).1
    have x3 : M.1 8 63 = Mb.1 8 63 := (a4 8 63 (by unfold pRr; omega)).1
    refine ⟨S, M, ?_, ?_, h⟩
    · rw [f_X11_send_14, x1, if_pos ((nn_le l1 (nn_lit i (by omega))).mpr (Nat.le_refl _)), sq_s, ← l1.1]
    · rw [f_X12_send_37, x2, if_pos ((nn_le m1 (nn_lit i (by omega))).mpr (Nat.le_refl _)), x3]
  | succ d ih =>
    intro i k m S M hi hk hm h
    obtain ⟨k, rfl⟩ : ∃ x, k = x + 1 := ⟨k - 1, by omega⟩
    obtain ⟨m, rfl⟩ : ∃ x, m = x + 1 := ⟨m - 1, by omega⟩
    have ni := nn_lit i (by omega)
    obtain ⟨a1, a2, a3, a4, a5, a6, a7⟩ := id h
    have x1 : S.1 6 2 = Sb.1 6 2 := (a3 6 2 (by unfold pRn; omega)).1
    have x2 : M.1 8 59 = Mb.1 8 59 := (a4 8 59 (by unfold pRr; omega)).1
    have x4 : S.2.1 6 1 i = fI (s i) := by rw [(a3 6 1 (by unfold pRn; omega)).2]; exact c1 i (by omega)
    have x5 : M.2.1 8 61 i = fI (s i) := by rw [(a4 8 61 (by unfold pRr; omega)).2]; exact c2 i (by omega)
    obtain ⟨b1, b2⟩ := row_ST (Sc' := yA S 0 7 (upd (S.2.1 0 7) i (fI (s i)))) (Sm' := yA M 8 45 (upd (M.2.1 8 45) i (fI (s i)))) a1 a2 (FR_A _ _ _ _ (by unfold pRC; omega)) (FR_A _ _ _ _ (by unfold pRM; omega))
    have rows : ∀ j, j < i + 1 → upd (S.2.1 0 7) i (fI (s i)) j = fI (s j) ∧ upd (M.2.1 8 45) i (fI (s i)) j = fI (s j) := fun j hj => by
      by_cases e : j = i
      · rw [e, upd_s, upd_s]; exact ⟨rfl, rfl⟩
      · rw [upd_o _ _ e, upd_o _ _ e]; exact a7 j (by omega)
    have r61 : (yA S 0 7 (upd (S.2.1 0 7) i (fI (s i)))).2.1 6 1 i = fI (s i) := by rw [yA_2n _ _ (by decide)]; exact x4
    have e60 : (yA S 0 7 (upd (S.2.1 0 7) i (fI (s i)))).2.1 6 0 i = Sb.2.1 6 0 i := by rw [yA_2n _ _ (by decide), (a3 6 0 (by unfold pRn; omega)).2]
    have e58 : (yA M 8 45 (upd (M.2.1 8 45) i (fI (s i)))).2.1 8 58 i = Mb.2.1 8 58 i := by rw [yA_2n _ _ (by decide), (a4 8 58 (by unfold pRr; omega)).2]
    have hc : f_X11_send_14 (k + 1) N S Q (Int32.ofNat i) = if fI (s i) = -1 then f_X11_send_14 k N (yA S 0 7 (upd (S.2.1 0 7) i (fI (s i)))) Q (Int32.ofNat (i + 1)) else bS (f_X10_renew N (yA S 0 7 (upd (S.2.1 0 7) i (fI (s i)))) (Sb.2.1 6 0 i) (fI (s i))) fun _ S3 => f_X11_send_14 k N S3 Q (Int32.ofNat (i + 1)) := by
      rw [f_X11_send_14, x1, if_neg (show ¬ Sb.1 6 2 ≤ Int32.ofNat i from fun z => by have := (nn_le l1 ni).mp z; omega), gA_nn ni (by omega), gA_nn ni (by omega), x4, sq_s, gA_nn ni (by omega), r61, gA_nn ni (by omega), gA_nn ni (by omega), e60, r61]
      unfold f_X11_send_78
      rw [y_int1]
    rw [hc]
    by_cases c : s i = 8
    · have e : fI (s i) = -1 := by unfold fI; rw [if_pos c]
      obtain ⟨S', M', u1, u2, u3⟩ := ih (i + 1) k m _ _ (by omega) (by omega) (by omega) ⟨b1, b2, FR_trans a3 (FR_A _ _ _ _ (by unfold pRn; omega)), FR_trans a4 (FR_A _ _ _ _ (by unfold pRr; omega)), fun p hp => by rw [yA_2n _ _ (by decide)]; exact a5 p hp, fun f hf => by
        rw [yA_2n _ _ (by decide)]
        have : cntS s f (i + 1) = cntS s f i + if s i = f then 1 else 0 := rfl
        rw [this, if_neg (show ¬ s i = f by omega)]
        exact a6 f hf, fun j hj => by rw [yA_same, yA_same]; exact rows j hj⟩
      refine ⟨S', M', by rw [if_pos e]; exact u1, ?_, u3⟩
      rw [f_X12_send_37, x2, if_neg (show ¬ Mb.1 8 59 ≤ Int32.ofNat i from fun z => by have := (nn_le m1 ni).mp z; omega), gA_nn ni (by omega), gA_nn ni (by omega), sq_s, x5, if_neg (show ¬ ¬ fI (s i) = -1 from fun z => z e)]
      unfold f_X12_send_132
      rw [y_int1]
      exact u2
    · obtain ⟨g1, g2, g3⟩ := rem_pos (t := s) hs (fun _ _ => rfl) (Nat.le_refl i) (show i < n by omega) rfl (show s i < 8 by have := (hs.1 i (by omega)).1; omega)
      obtain ⟨f, hf⟩ : ∃ f, s i = f := ⟨_, rfl⟩
      rw [hf] at g1 g2 g3
      have fe : fI (s i) = Int32.ofNat f := by unfold fI; rw [if_neg c, hf]
      rw [fe] at b1 b2 rows r61 x5 e60 e58 ⊢
      have nf' := nn_lit f (by omega)
      have ne : ¬ Int32.ofNat f = -1 := fun z => nf'.nneg (by rw [z]; decide)
      obtain ⟨o1, o2, o3, o4, o5⟩ := l3 i (by omega)
      have np8 : np ≤ 8 := a1.2.2.2.2.2.2.1.1.2.1
      have pn := hpl i (by omega)
      obtain ⟨p1, p2, p3, p4⟩ := hM.2.2.2.2.1 i (by omega)
      obtain ⟨w1, w9⟩ := a6 f g1
      obtain ⟨vv, v1, v2, v3⟩ := (l4 f g1 i (by omega)).1 g2
      have ix : nn ((3 + (2 * Int32.ofNat f)) + 1) (4 + 2 * f) := by
        have := nn_add (nn_add (nn_l 3 (by decide)) (nn_mul (nn_l 2 (by decide)) nf' (by omega)) (by omega)) (nn_l 1 (by decide)) (show 3 + 2 * f + 1 < 2147483648 by omega)
        rw [show 3 + 2 * f + 1 = 4 + 2 * f by omega] at this
        exact this
      have rq := rUp_nn v1 (nn_l 8 (by decide)) (by decide) (by omega)
      rw [← v3] at rq
      have C17 : (yA S 0 7 (upd (S.2.1 0 7) i (Int32.ofNat f))).2.1 1 7 = Sb.2.1 1 7 := by rw [yA_2n _ _ (by decide), (a3 1 7 (by unfold pRn; omega)).2]
      have C24 : (yA S 0 7 (upd (S.2.1 0 7) i (Int32.ofNat f))).2.1 2 4 = Sb.2.1 2 4 := by rw [yA_2n _ _ (by decide), (a3 2 4 (by unfold pRn; omega)).2]
      have C8 : (yA S 0 7 (upd (S.2.1 0 7) i (Int32.ofNat f))).1 (128 + pl i) 8 = Sb.1 (128 + pl i) 8 := (a3 (128 + pl i) 8 (by unfold pRn; omega)).1
      have rn := renew_c (N := N) (f := f) (C := yA S 0 7 (upd (S.2.1 0 7) i (Int32.ofNat f))) o1 o2 (by rw [C24]; exact o3) (by rw [C8]; exact o4) o5 (by omega)
      rw [C17, show rUp (Sb.2.1 1 7 (8 * f + ta i)) 8 = Int32.ofNat (q f i) from rq.1] at rn
      obtain ⟨d1, d2, d3⟩ := rn_both (f := f) (p := pl i) (v := (yA S 0 7 (upd (S.2.1 0 7) i (Int32.ofNat f))).1 2 13 + Int32.ofNat (q f i)) b1 b2 g1 (x := sp f - cntS s f i) (by rw [yA_2n _ _ (by decide)]; exact w1) (by omega) (by omega) pn
      have F1 : FR pRr M (yA M 8 45 (upd (M.2.1 8 45) i (Int32.ofNat f))) := FR_A _ _ _ _ (by unfold pRr; omega)
      have F5 : FR pRr M (mR5 (yA M 8 45 (upd (M.2.1 8 45) i (Int32.ofNat f))) (pl i) f) := FR_mPl (FR_mPl (FR_mPl (FR_mR1 F1)))
      have z5 : ∀ p, p < 8 → (mR5 (yA M 8 45 (upd (M.2.1 8 45) i (Int32.ofNat f))) (pl i) f).2.1 8 48 (19 + 23 * p + 0) = Mb.2.1 8 48 (19 + 23 * p + 0) := fun p hp => by
        rw [mR5_0 (by omega), yA_2n _ _ (by decide)]; exact a5 p hp
      have hP5 := PMn_g hM (FR_trans a4 F5) z5
      have e58' : (mR5 (yA M 8 45 (upd (M.2.1 8 45) i (Int32.ofNat f))) (pl i) f).2.1 8 58 i = Mb.2.1 8 58 i := by rw [(F5 8 58 (by unfold pRr; omega)).2, (a4 8 58 (by unfold pRr; omega)).2]
      have eq := em_quar (N := N) hP5 g1 (show i < n by omega)
      rw [e58', if_pos g2] at eq
      have FC : FR pRn Sb (cRn (yA S 0 7 (upd (S.2.1 0 7) i (Int32.ofNat f))) (pl i) f ((yA S 0 7 (upd (S.2.1 0 7) i (Int32.ofNat f))).1 2 13 + Int32.ofNat (q f i))) := by
        unfold cRn
        exact FR_trans a3 (FR_trans (FR_A _ _ _ _ (by unfold pRn; omega)) (FR_trans (FR_A _ _ _ _ (by unfold pRn; omega)) (FR_trans (FR_I _ _ _ _ (by unfold pRn; show _ ∨ _ ∨ (_ ∧ _ ∧ (13 = _ ∨ 13 = _ ∨ 13 = _ ∨ 13 = _)); omega)) (FR_trans (FR_I _ _ _ _ (by unfold pRn; show _ ∨ _ ∨ (_ ∧ _ ∧ (5 = _ ∨ 5 = _ ∨ 5 = _ ∨ 5 = _)); omega)) (FR_trans (FR_I _ _ _ _ (by unfold pRn; show _ ∨ _ ∨ (_ ∧ _ ∧ (7 = _ ∨ 7 = _ ∨ 7 = _ ∨ 7 = _)); omega)) (FR_I _ _ _ _ (by unfold pRn; show _ ∨ _ ∨ (_ ∧ _ ∧ (14 = _ ∨ 14 = _ ∨ 14 = _ ∨ 14 = _)); omega)))))))
      have SPs : ∀ f', f' < nf → nn ((cRn (yA S 0 7 (upd (S.2.1 0 7) i (Int32.ofNat f))) (pl i) f ((yA S 0 7 (upd (S.2.1 0 7) i (Int32.ofNat f))).1 2 13 + Int32.ofNat (q f i))).2.1 1 2 f') (sp f' - cntS s f' (i + 1)) ∧ sp f' ≤ 9 := fun f' hf' => by
        show nn (upd ((yA S 0 7 _).2.1 1 2) f ((yA S 0 7 _).2.1 1 2 f - 1) f') _ ∧ _
        rw [yA_2n _ _ (by decide)]
        have u : cntS s f' (i + 1) = cntS s f' i + if s i = f' then 1 else 0 := rfl
        obtain ⟨y1, y2⟩ := a6 f' hf'
        by_cases e : f' = f
        · rw [if_pos (show s i = f' by omega)] at u
          rw [e] at u y1 ⊢
          rw [upd_s, u]
          have := nn_sub w1 (nn_l 1 (by decide)) (by omega)
          rw [show sp f - (cntS s f i + 1) = sp f - cntS s f i - 1 by omega]
          exact ⟨this, w9⟩
        · rw [if_neg (show ¬ s i = f' by omega)] at u
          rw [upd_o _ _ e, u]
          exact ⟨y1, y2⟩
      have RWs : ∀ j, j < i + 1 → (cRn (yA S 0 7 (upd (S.2.1 0 7) i (Int32.ofNat f))) (pl i) f ((yA S 0 7 (upd (S.2.1 0 7) i (Int32.ofNat f))).1 2 13 + Int32.ofNat (q f i))).2.1 0 7 j = fI (s j) ∧ (mPl (mR5 (yA M 8 45 (upd (M.2.1 8 45) i (Int32.ofNat f))) (pl i) f) (pl i) 9 ((yA S 0 7 (upd (S.2.1 0 7) i (Int32.ofNat f))).1 2 13 + Int32.ofNat (q f i))).2.1 8 45 j = fI (s j) := fun j hj => by
        have r1 : (cRn (yA S 0 7 (upd (S.2.1 0 7) i (Int32.ofNat f))) (pl i) f ((yA S 0 7 (upd (S.2.1 0 7) i (Int32.ofNat f))).1 2 13 + Int32.ofNat (q f i))).2.1 0 7 = upd (S.2.1 0 7) i (Int32.ofNat f) := (yA_2n _ _ (by decide)).trans (yA_same _ _ _ _)
        have r2 : (mPl (mR5 (yA M 8 45 (upd (M.2.1 8 45) i (Int32.ofNat f))) (pl i) f) (pl i) 9 ((yA S 0 7 (upd (S.2.1 0 7) i (Int32.ofNat f))).1 2 13 + Int32.ofNat (q f i))).2.1 8 45 = upd (M.2.1 8 45) i (Int32.ofNat f) := (yA_2n _ _ (by decide)).trans ((yA_2n _ _ (by decide)).trans ((yA_2n _ _ (by decide)).trans ((yA_2n _ _ (by decide)).trans ((yA_2n _ _ (by decide)).trans (yA_same _ _ _ _)))))
        rw [r1, r2]; exact rows j hj
      obtain ⟨S', M', u1, u2, u3⟩ := ih (i + 1) k m _ _ (by omega) (by omega) (by omega) ⟨d1, d2, FC, FR_trans a4 (FR_mPl F5), fun p hp => by rw [mPl_0 (by omega)]; exact z5 p hp, SPs, RWs⟩
      refine ⟨S', M', by rw [if_neg ne, rn, bS_s]; exact u1, ?_, u3⟩
      rw [f_X12_send_37, x2, if_neg (show ¬ Mb.1 8 59 ≤ Int32.ofNat i from fun z => by have := (nn_le m1 ni).mp z; omega), gA_nn ni (by omega), gA_nn ni (by omega), sq_s, x5, if_pos ne, gA_nn ni (by omega), gA_nn ix (by omega), gA_nn ix (by omega), sq_s, e58, em_pl2 p1 p2 (nn_l 4 (by decide)) (by decide), bS_s, em_pl2 p1 p2 (nn_l 5 (by decide)) (by decide), bS_s, em_pl2 p1 p2 (nn_l 7 (by decide)) (by decide), bS_s, gA_nn (nn_l 0 (by decide)) (by decide)]
      show bV (f_X12_quarters N (mR5 (yA M 8 45 (upd (M.2.1 8 45) i (Int32.ofNat f))) (pl i) f) (Int32.ofNat f) (Mb.2.1 8 58 i)) _ = _
      rw [eq, bV_s, em_pl2 p1 p2 (nn_l 9 (by decide)) (by decide), bS_s]
      unfold f_X12_send_132
      rw [y_int1]
      rw [← d3] at u2
      exact u2
