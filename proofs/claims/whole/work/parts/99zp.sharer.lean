/-! SEND: the reference's recursion -/
def tU (t : Nat → Nat) (i x : Nat) : Nat → Nat := fun j => if j = i then x else t j
theorem tU_s (t : Nat → Nat) (i x : Nat) : tU t i x i = x := if_pos rfl
theorem tU_o (t : Nat → Nat) {i j : Nat} (x : Nat) (h : j ≠ i) : tU t i x j = t j := if_neg h
theorem tU_c (t : Nat → Nat) (i x f : Nat) : cntS (tU t i x) f (i + 1) = cntS t f i + if x = f then 1 else 0 := by
  show cntS (tU t i x) f i + (if tU t i x i = f then 1 else 0) = _
  rw [tU_s, cnt_c i (fun j hj => tU_o t x (by omega))]
theorem tU_u (t : Nat → Nat) (i x : Nat) : unS (tU t i x) (i + 1) = unS t i + if x = 8 then 1 else 0 := by
  show unS (tU t i x) i + (if tU t i x i = 8 then 1 else 0) = _
  rw [tU_s, un_c i (fun j hj => tU_o t x (by omega))]
theorem tU_q (q : Nat → Nat → Nat) (t : Nat → Nat) (i x : Nat) : quS q (tU t i x) (i + 1) = quS q t i + if x = 8 then 0 else q x i := by
  show quS q (tU t i x) i + (if tU t i x i = 8 then 0 else q (tU t i x i) i) = _
  rw [tU_s, qu_c i (fun j hj => tU_o t x (by omega))]
theorem tU_e {t s : Nat → Nat} {i x : Nat} : exS (tU t i x) (i + 1) s ↔ exS t i s ∧ s i = x := by
  constructor
  · intro h
    exact ⟨fun j hj => (h j (by omega)).trans (tU_o t x (by omega)), (h i (by omega)).trans (tU_s t i x)⟩
  · intro h j hj
    by_cases e : j = i
    · rw [e, tU_s]; exact h.2
    · rw [tU_o t x e]; exact h.1 j (by omega)
theorem MSt_on {n nf i x : Nat} {wy : Nat → Nat → Bool} {sp t : Nat → Nat} {M0 M M2 : yS} (nf8 : nf ≤ 8) (hM : MSt n nf i wy sp t M0 M) (F : FR pSd M M2) (w60 : ∀ j, j < i → M2.2.1 8 60 j = M.2.1 8 60 j) (wi : M2.2.1 8 60 i = fI x) (x8 : x ≤ 8) (hx : x < 8 → x < nf ∧ wy x i = true ∧ cntS t x i < sp x) (w48 : ∀ j, M2.2.1 8 48 j = if x < 8 ∧ j = 4 + 2 * x then M.2.1 8 48 j - 1 else M.2.1 8 48 j) : MSt n nf (i + 1) wy sp (tU t i x) M0 M2 := by
  obtain ⟨a1, a2, a3, a4⟩ := hM
  refine ⟨FR_trans a1 F, fun j hj => ?_, fun f hf => ?_, fun j hj => ?_⟩
  · rw [w48 j, if_neg (fun z => hj x z.1 z.2)]; exact a2 j hj
  · obtain ⟨b1, b2, b3⟩ := a3 f hf
    rw [w48, tU_c]
    by_cases e : x = f
    · have hx' := hx (by omega)
      rw [e] at hx' ⊢
      rw [if_pos ⟨by omega, rfl⟩, if_pos rfl]
      have := nn_sub b1 (nn_l 1 (by decide)) (by omega)
      rw [show sp f - (cntS t f i + 1) = sp f - cntS t f i - 1 by omega]
      exact ⟨this, by omega, b3⟩
    · rw [if_neg (fun z => e (by omega)), if_neg e]
      exact ⟨b1, b2, b3⟩
  · by_cases e : j = i
    · rw [e, tU_s]
      exact ⟨wi, x8, fun z => ⟨(hx z).1, (hx z).2.1⟩⟩
    · rw [tU_o t x e, w60 j (by omega)]; exact a4 j (by omega)
/-- the best so far, in the reference -/
def BSt (n nf : Nat) (q : Nat → Nat → Nat) (wy : Nat → Nat → Bool) (sp : Nat → Nat) (B : Option (Nat → Nat)) (M : yS) : Prop := (B = none → M.1 8 62 = -1 ∧ M.1 8 63 = 0) ∧ ∀ b, B = some b → nn (M.1 8 62) (n - unS b n) ∧ nn (M.1 8 63) (quS q b n) ∧ (∀ j, j < n → M.2.1 8 61 j = fI (b j)) ∧ okS n wy (capF n sp nf 0) b ∧ quS q b n ≤ 4095
theorem BSt_t {n nf : Nat} {q : Nat → Nat → Nat} {wy : Nat → Nat → Bool} {sp : Nat → Nat} {B : Option (Nat → Nat)} {M M' : yS} (h : BSt n nf q wy sp B M) (a : M'.1 = M.1) (b : M'.2.1 8 61 = M.2.1 8 61) : BSt n nf q wy sp B M' := by
  unfold BSt
  rw [a, b]
  exact h
def POs (n nf i : Nat) (q : Nat → Nat → Nat) (wy : Nat → Nat → Bool) (sp t : Nat → Nat) (B B' : Option (Nat → Nat)) (M M' : yS) : Prop := FR pSd M M' ∧ (M'.2.1 8 48 = M.2.1 8 48 ∧ M'.1 8 48 = M.1 8 48) ∧ (∀ j, j < i → M'.2.1 8 60 j = M.2.1 8 60 j) ∧ BSt n nf q wy sp B' M' ∧ (B' = B ∨ ∃ b, B' = some b ∧ exS t i b) ∧ (∀ s, okS n wy (capF n sp nf 0) s → exS t i s → ∃ b, B' = some b ∧ totS q b n ≤ totS q s n) ∧ ∀ b, B = some b → ∃ b', B' = some b' ∧ totS q b' n ≤ totS q b n
theorem copy_loop {N n : Nat} {M : yS} {rk : yS → Int32 → Int32 → Int32 → Option (Int32 × yS)} (h1 : nn (M.1 8 59) n) (n8 : n ≤ 8) : ∀ (d j k : Nat) (R : Nat → Int32), j + d = n → d < k → (∀ x, x < j → R x = M.2.1 8 60 x) → ∃ R', f_X12_sendFrom_171 k N rk (yA M 8 61 R) (Int32.ofNat j) = some (0, yA M 8 61 R') ∧ ∀ x, x < n → R' x = M.2.1 8 60 x := by
  intro d
  induction d with
  | zero =>
    intro j k R hj hk hR
    obtain ⟨k, rfl⟩ : ∃ x, k = x + 1 := ⟨k - 1, by omega⟩
    rw [f_X12_sendFrom_171, yA_1, if_pos ((nn_le h1 (nn_lit j (by omega))).mpr (by omega))]
    exact ⟨R, rfl, fun x hx => hR x (by omega)⟩
  | succ d ih =>
    intro j k R hj hk hR
    obtain ⟨k, rfl⟩ : ∃ x, k = x + 1 := ⟨k - 1, by omega⟩
    have nj := nn_lit j (by omega)
    rw [f_X12_sendFrom_171, yA_1, if_neg (fun z => by have := (nn_le h1 nj).mp z; omega), gA_nn nj (by omega), gA_nn nj (by omega), sq_s, yA_yA, yA_same, yA_2n _ _ (show ¬ ((8 : Nat) = 8 ∧ (60 : Nat) = 61) by decide), y_int1]
    exact ih (j + 1) k _ (by omega) (by omega) (fun x hx => by
      by_cases e : x = j
      · rw [e, upd_s]
      · rw [upd_o _ _ e]; exact hR x (by omega))
theorem ok_full {n nf : Nat} {wy : Nat → Nat → Bool} {sp t : Nat → Nat} {M0 M : yS} (hM : MSt n nf n wy sp t M0 M) : okS n wy (capF n sp nf 0) t := by
  refine ⟨fun i hi => ⟨(hM.2.2.2 i hi).2.1, fun z => ((hM.2.2.2 i hi).2.2 z).2⟩, fun f hf => ?_⟩
  unfold capF
  by_cases c : f < nf
  · rw [if_pos c]
    have a := (hM.2.2.1 f c).2.1
    have b := cnt_le t f n
    omega
  · rw [if_neg c]
    have : cntS t f n = 0 := Nat.eq_zero_of_not_pos (fun z => by
      obtain ⟨j, a, b⟩ := cnt_some n z
      have := ((hM.2.2.2 j a).2.2 (by omega)).1
      omega)
    rw [this]; exact Nat.zero_le _
theorem send_r {N n nf : Nat} {pl ta : Nat → Nat} {q : Nat → Nat → Nat} {wy : Nat → Nat → Bool} {sp : Nat → Nat} {M0 : yS} (hN : 60 < N) (h0 : PMn n nf pl ta q wy M0) : ∀ (r i g : Nat) (M : yS) (t : Nat → Nat) (B : Option (Nat → Nat)), i + r = n → r < g → MSt n nf i wy sp t M0 M → BSt n nf q wy sp B M → (∀ b, B = some b → ∀ s, okS n wy (capF n sp nf 0) s → exS t i s → dgS b n < dgS s n) → ∃ M' B', f_sendR N g M (Int32.ofNat i) (Int32.ofNat (i - unS t i)) (Int32.ofNat (quS q t i)) = some (0, M') ∧ POs n nf i q wy sp t B B' M M' := by
  obtain ⟨_, n8, nf8, _⟩ := id h0
  intro r
  induction r with
  | zero =>
    intro i g M t B hi hg hM hB hpre
    obtain ⟨g, rfl⟩ : ∃ x, g = x + 1 := ⟨g - 1, by omega⟩
    have e : i = n := by omega
    subst e
    have h := PMn_t h0 hM.1 hM.2.1
    have ui := un_le t i
    have qi : quS q t i ≤ i * 351 := qu_le i (fun j hj z => by
      have a := hM.2.2.2 j hj
      have b := a.2.2 (by omega)
      exact qm_le h b.1 hj b.2)
    have okt := ok_full hM
    have dt := dg_lt (fun j hj => (okt.1 j hj).1) n8
    obtain ⟨b4, b5, e1, _, _, _, e2⟩ := bound_loop (N := N) (rk := f_sendR N g) (l1 := Int32.ofNat i) (l2 := Int32.ofNat (i - unS t i)) (l3 := Int32.ofNat (quS q t i)) hN h hM rfl 0 i N 0 (quS q t i) (by omega) (by omega) (Nat.le_refl _) (by omega) qi (fun s s1 s2 => ⟨by rw [un_c i s2]; omega, fun _ => by rw [qu_c i s2]; exact Nat.le_refl _⟩)
    obtain ⟨rfl, rfl⟩ := e2 rfl
    have e1' : f_sendR N (g + 1) M (Int32.ofNat i) (Int32.ofNat (i - unS t i)) (Int32.ofNat (quS q t i)) = _ := e1
    have z0 : Int32.ofNat (i - unS t i) + Int32.ofNat 0 = Int32.ofNat (i - unS t i) := by rw [← Int32.ofNat_add]; rfl
    rw [z0] at e1'
    have nu := nn_lit (i - unS t i) (by omega)
    have nq := nn_lit (quS q t i) (by omega)
    have leaf : (∀ b, B = some b → totS q t i ≤ totS q b i) → ∃ M' B', f_X12_sendFrom_150 N (f_sendR N g) M (Int32.ofNat i) (Int32.ofNat (i - unS t i)) (Int32.ofNat (quS q t i)) = some (0, M') ∧ POs i nf i q wy sp t B B' M M' := fun hb => by
      unfold f_X12_sendFrom_150
      rw [if_neg (fun z => z (h.1.1.symm)), sq_s, sq_s]
      obtain ⟨R, c1, c2⟩ := copy_loop (N := N) (rk := f_sendR N g) (M := yI (yI M 8 62 (Int32.ofNat (i - unS t i))) 8 63 (Int32.ofNat (quS q t i))) (n := i) h.1 n8 i 0 N (M.2.1 8 61) (by omega) (by omega) (fun x hx => absurd hx (Nat.not_lt_zero _))
      have c0 : yA (yI (yI M 8 62 (Int32.ofNat (i - unS t i))) 8 63 (Int32.ofNat (quS q t i))) 8 61 (M.2.1 8 61) = yI (yI M 8 62 (Int32.ofNat (i - unS t i))) 8 63 (Int32.ofNat (quS q t i)) := yA_self (yI (yI M 8 62 (Int32.ofNat (i - unS t i))) 8 63 (Int32.ofNat (quS q t i))) 8 61
      rw [c0] at c1
      refine ⟨_, some t, c1, ?_, ?_, fun j hj => ?_, ⟨(fun z => by cases z), fun b z => ?_⟩, Or.inr ⟨t, rfl, fun _ _ => rfl⟩, fun s s1 s2 => ⟨t, rfl, ?_⟩, fun b z => ⟨t, rfl, hb b z⟩⟩
      · exact FR_trans (FR_I _ _ _ _ (by unfold pSd; omega)) (FR_trans (FR_I _ _ _ _ (by unfold pSd; omega)) (FR_A _ _ _ _ (by unfold pSd; omega)))
      · exact ⟨yA_2n _ _ (by decide), by show (yI (yI M 8 62 (Int32.ofNat (i - unS t i))) 8 63 (Int32.ofNat (quS q t i))).1 8 48 = _; rw [yI_1n _ _ (by decide), yI_1n _ _ (by decide)]⟩
      · exact congrFun (yA_2n _ _ (by decide)) j
      · obtain rfl := Option.some.inj z
        refine ⟨?_, ?_, fun j hj => ?_, okt, by omega⟩
        · show nn ((yI (yI M 8 62 (Int32.ofNat (i - unS t i))) 8 63 (Int32.ofNat (quS q t i))).1 8 62) _
          rw [yI_1n _ _ (by decide), yI_1s]; exact nu
        · show nn ((yI (yI M 8 62 (Int32.ofNat (i - unS t i))) 8 63 (Int32.ofNat (quS q t i))).1 8 63) _
          rw [yI_1s]; exact nq
        · rw [yA_same, c2 j hj]; exact (hM.2.2.2 j hj).1
      · rw [tot_c i (fun j hj => (s2 j hj).symm)]; exact Nat.le_refl _
    rw [e1']
    have self : ∀ b, B = some b → totS q b i ≤ totS q t i → ∃ M' B', some ((0 : Int32), M) = some (0, M') ∧ POs i nf i q wy sp t B B' M M' := fun b hb le => ⟨M, B, rfl, FR_refl _ _, ⟨rfl, rfl⟩, fun _ _ => rfl, hB, Or.inl rfl, fun s s1 s2 => ⟨b, hb, by rw [tot_c i (fun j hj => s2 j hj)]; exact le⟩, fun b' hb' => ⟨b', hb', Nat.le_refl _⟩⟩
    cases hBB : B with
    | none =>
      subst hBB
      obtain ⟨y1, y2⟩ := hB.1 rfl
      have n1 : ¬ Int32.ofNat (i - unS t i) = -1 := fun z => nu.nneg (by rw [z]; decide)
      have n2 : ¬ Int32.ofNat (i - unS t i) < -1 := fun z => by
        rw [Int32.lt_iff_toInt_lt, nu.int] at z
        have : (-1 : Int32).toInt = -1 := by decide
        omega
      rw [y1, if_neg n2, if_pos n1]
      exact leaf (fun b z => by cases z)
    | some b =>
      subst hBB
      obtain ⟨y1, y2, y3, y4, y5⟩ := hB.2 b rfl
      have ub := un_le b i
      have db := dg_lt (fun j hj => (y4.1 j hj).1) n8
      have pre := hpre b rfl t okt (fun _ _ => rfl)
      by_cases c1 : i - unS t i < i - unS b i
      · rw [if_pos ((nn_lt nu y1).mpr c1)]
        exact self b rfl (tot_U (by omega) y5 db)
      · rw [if_neg (fun z => c1 ((nn_lt nu y1).mp z))]
        by_cases c2 : i - unS t i = i - unS b i
        · rw [if_neg (fun z => z ((nn_eq nu y1).mpr c2))]
          by_cases c3 : quS q t i < quS q b i
          · rw [if_pos ((nn_lt nq y2).mpr c3)]
            exact leaf (fun b' z => by obtain rfl := Option.some.inj z; exact tot_Q (by omega) c3 dt)
          · rw [if_neg (fun z => c3 ((nn_lt nq y2).mp z))]
            refine self b rfl ?_
            by_cases c4 : quS q b i < quS q t i
            · exact tot_Q (by omega) c4 db
            · exact tot_D (by omega) (by omega) pre
        · rw [if_pos (fun z => c2 ((nn_eq nu y1).mp z))]
          exact leaf (fun b' z => by obtain rfl := Option.some.inj z; exact tot_U (by omega) (by omega) dt)
  | succ r ih =>
    intro i g M t B hi hg hM hB hpre
    obtain ⟨g, rfl⟩ : ∃ x, g = x + 1 := ⟨g - 1, by omega⟩
    have h := PMn_t h0 hM.1 hM.2.1
    have ui := un_le t i
    have ni := nn_lit i (by omega)
    have qi : quS q t i ≤ i * 351 := qu_le i (fun j hj z => by
      have a := hM.2.2.2 j hj
      have b := a.2.2 (by omega)
      exact qm_le h b.1 (by omega) b.2)
    -- the loop over the fields
    have loop : ∀ (d f k : Nat) (M1 : yS) (B1 : Option (Nat → Nat)), f + d = nf → d < k → FR pSd M M1 → (M1.2.1 8 48 = M.2.1 8 48 ∧ M1.1 8 48 = M.1 8 48) → (∀ j, j < i → M1.2.1 8 60 j = M.2.1 8 60 j) → BSt n nf q wy sp B1 M1 → (B1 = B ∨ ∃ b, B1 = some b ∧ exS t i b ∧ b i < f) → (∀ s, okS n wy (capF n sp nf 0) s → exS t i s → s i < f → ∃ b, B1 = some b ∧ totS q b n ≤ totS q s n) → (∀ b, B = some b → ∃ b', B1 = some b' ∧ totS q b' n ≤ totS q b n) → ∃ M' B', f_X12_sendFrom_204 k N (f_sendR N g) M1 (Int32.ofNat i) (Int32.ofNat (i - unS t i)) (Int32.ofNat (quS q t i)) (Int32.ofNat f) = some (0, M') ∧ POs n nf i q wy sp t B B' M M' := by
      intro d
      induction d with
      | zero =>
        intro f k M1 B1 hf hk F1 w48 w60 hB1 p1 p2 p3
        obtain ⟨k, rfl⟩ : ∃ x, k = x + 1 := ⟨k - 1, by omega⟩
        have e : f = nf := by omega
        subst e
        have hM1 := PMn_t h F1 (fun j _ => by rw [w48.1])
        have m8 : ∀ j, (8 : Nat) = 8 ∧ j = 60 → j = 60 := fun j z => z.2
        obtain ⟨M3, B3, c1, c2, c3, c4, c5, c6, c7, c8⟩ := ih (i + 1) g (yA M1 8 60 (upd (M1.2.1 8 60) i (-1))) (tU t i 8) B1 (by omega) (by omega) (MSt_on (x := 8) nf8 hM (FR_trans F1 (FR_A _ _ _ _ (by unfold pSd; omega))) (fun j hj => by rw [yA_same, upd_o _ _ (by omega)]; exact w60 j hj) (by rw [yA_same, upd_s]; rfl) (Nat.le_refl _) (fun z => absurd z (Nat.lt_irrefl 8)) (fun j => by rw [if_neg (fun z => absurd z.1 (Nat.lt_irrefl 8)), yA_2n _ _ (by decide), w48.1])) (BSt_t hB1 rfl (yA_2n _ _ (by decide))) (fun b hb s s1 s2 => by
          obtain ⟨s3, s4⟩ := tU_e.mp s2
          rcases p1 with z | ⟨b', b1, b2, b3⟩
          · exact hpre b (by rw [← z]; exact hb) s s1 s3
          · rw [b1] at hb
            obtain rfl := Option.some.inj hb
            have okb := (hB1.2 _ b1).2.2.2.1
            exact dg_lex (fun j hj => (okb.1 j hj).1) n8 (show i < n by omega) (fun j hj => (b2 j hj).trans (s3 j hj).symm) (by omega))
        rw [tU_u, tU_q, if_pos rfl, if_pos rfl, Nat.add_zero (quS q t i), show i + 1 - (unS t i + 1) = i - unS t i by omega] at c1
        refine ⟨M3, B3, ?_, FR_trans F1 (FR_trans (FR_A _ _ _ _ (by unfold pSd; omega)) c2), ?_, fun j hj => ?_, c5, ?_, fun s s1 s2 => ?_, fun b hb => ?_⟩
        · rw [f_X12_sendFrom_204, if_pos ((nn_le hM1.2.2.2.1 (nn_lit f (by omega))).mpr (Nat.le_refl _)), gA_nn ni (by omega), sq_s, y_int1, c1, bS_s]
        · exact ⟨by rw [c3.1, yA_2n _ _ (by decide), w48.1], c3.2.trans w48.2⟩
        · rw [c4 j (by omega), yA_same, upd_o _ _ (by omega), w60 j hj]
        · rcases c6 with z | ⟨b, b1, b2⟩
          · rcases p1 with y | ⟨b, b1, b2, _⟩
            · exact Or.inl (z.trans y)
            · exact Or.inr ⟨b, z.trans b1, b2⟩
          · exact Or.inr ⟨b, b1, (tU_e.mp b2).1⟩
        · by_cases c : s i = 8
          · exact c7 s s1 (tU_e.mpr ⟨s2, c⟩)
          · obtain ⟨d1, _, _⟩ := rem_pos s1 s2 (Nat.le_refl i) (show i < n by omega) rfl (by have := (s1.1 i (by omega)).1; omega)
            obtain ⟨b, b1, b2⟩ := p2 s s1 s2 d1
            obtain ⟨b', b3, b4⟩ := c8 b b1
            exact ⟨b', b3, by omega⟩
        · obtain ⟨b', b1, b2⟩ := p3 b hb
          obtain ⟨b3, b4, b5⟩ := c8 b' b1
          exact ⟨b3, b4, by omega⟩
      | succ d ihd =>
        intro f k M1 B1 hf hk F1 w48 w60 hB1 p1 p2 p3
        obtain ⟨k, rfl⟩ : ∃ x, k = x + 1 := ⟨k - 1, by omega⟩
        have hM1 := PMn_t h F1 (fun j _ => by rw [w48.1])
        have nf' := nn_lit f (by omega)
        have ix : nn ((3 + (2 * Int32.ofNat f)) + 1) (3 + 2 * f + 1) := nn_add (nn_add (nn_l 3 (by decide)) (nn_mul (nn_l 2 (by decide)) nf' (by omega)) (by omega)) (nn_l 1 (by decide)) (by omega)
        have i4 : 3 + 2 * f + 1 = 4 + 2 * f := by omega
        rw [i4] at ix
        obtain ⟨r1, r2, r3⟩ := hM.2.2.1 f (by omega)
        rw [f_X12_sendFrom_204, if_neg (fun z => by have := (nn_le hM1.2.2.2.1 nf').mp z; omega), gA_nn ni (by omega), em_quar hM1 (show f < nf by omega) (show i < n by omega), bV_s, gA_nn ix (by omega)]
        unfold f_X12_sendFrom_300
        rw [y_int1]
        have skip : ¬ (wy f i = true ∧ cntS t f i < sp f) → _ := fun no => ihd (f + 1) k M1 B1 (by omega) (by omega) F1 w48 w60 hB1 (p1.imp id (fun ⟨b, a1, a2, a3⟩ => ⟨b, a1, a2, by omega⟩)) (fun s s1 s2 l => by
          by_cases e : s i = f
          · obtain ⟨_, d2, d3⟩ := rem_pos s1 s2 (Nat.le_refl i) (show i < n by omega) e (by omega)
            exact absurd ⟨d2, d3⟩ no
          · exact p2 s s1 s2 (by omega)) p3
        cases w : wy f i with
        | false =>
          rw [if_neg (show ¬ false = true by decide), if_pos rfl]
          exact skip (fun z => by rw [w] at z; exact Bool.false_ne_true z.1)
        | true =>
          have q8 := qm_le h (show f < nf by omega) (show i < n by omega) w
          have nq := nn_lit (q f i) (by omega)
          rw [if_pos rfl, if_neg (show ¬ Int32.ofNat (q f i) = -1 from fun z => nq.nneg (by rw [z]; decide)), w48.1]
          by_cases c : cntS t f i < sp f
          · rw [if_pos (show ¬ M.2.1 8 48 (4 + 2 * f) = 0 from fun z => by have := (nn_eq r1 (nn_l 0 (by decide))).mp z; omega), gA_nn ix (by omega), gA_nn ix (by omega), sq_s, gA_nn ni (by omega), sq_s]
            have e60 : (yA M1 8 48 (upd (M.2.1 8 48) (4 + 2 * f) (M.2.1 8 48 (4 + 2 * f) - 1))).2.1 8 60 = M1.2.1 8 60 := yA_2n _ _ (by decide)
            rw [e60]
            have FF : FR pSd M1 (yA (yA M1 8 48 (upd (M.2.1 8 48) (4 + 2 * f) (M.2.1 8 48 (4 + 2 * f) - 1))) 8 60 (upd (M1.2.1 8 60) i (Int32.ofNat f))) := FR_trans (FR_A _ _ _ _ (by unfold pSd; omega)) (FR_A _ _ _ _ (by unfold pSd; omega))
            have W2 : (yA (yA M1 8 48 (upd (M.2.1 8 48) (4 + 2 * f) (M.2.1 8 48 (4 + 2 * f) - 1))) 8 60 (upd (M1.2.1 8 60) i (Int32.ofNat f))).2.1 8 48 = upd (M.2.1 8 48) (4 + 2 * f) (M.2.1 8 48 (4 + 2 * f) - 1) := (yA_2n _ _ (by decide)).trans (yA_same _ _ _ _)
            obtain ⟨M5, B5, c1, c2, c3, c4, c5, c6, c7, c8⟩ := ih (i + 1) g (yA (yA M1 8 48 (upd (M.2.1 8 48) (4 + 2 * f) (M.2.1 8 48 (4 + 2 * f) - 1))) 8 60 (upd (M1.2.1 8 60) i (Int32.ofNat f))) (tU t i f) B1 (by omega) (by omega) (MSt_on (x := f) nf8 hM (FR_trans F1 FF) (fun j hj => by rw [yA_same, upd_o _ _ (by omega)]; exact w60 j hj) (by rw [yA_same, upd_s]; unfold fI; rw [if_neg (by omega)]) (by omega) (fun _ => ⟨by omega, w, c⟩) (fun j => by
              rw [W2]
              by_cases e : j = 4 + 2 * f
              · rw [if_pos ⟨by omega, e⟩, e, upd_s]
              · rw [if_neg (fun z => e z.2), upd_o _ _ e])) (BSt_t hB1 rfl ((yA_2n _ _ (by decide)).trans (yA_2n _ _ (by decide)))) (fun b hb s s1 s2 => by
              obtain ⟨s3, s4⟩ := tU_e.mp s2
              rcases p1 with z | ⟨b', b1, b2, b3⟩
              · exact hpre b (by rw [← z]; exact hb) s s1 s3
              · rw [b1] at hb
                obtain rfl := Option.some.inj hb
                have okb := (hB1.2 _ b1).2.2.2.1
                exact dg_lex (fun j hj => (okb.1 j hj).1) n8 (show i < n by omega) (fun j hj => (b2 j hj).trans (s3 j hj).symm) (by omega))
            rw [tU_u, tU_q, if_neg (show ¬ f = 8 by omega), if_neg (show ¬ f = 8 by omega), Nat.add_zero (unS t i), show i + 1 - unS t i = i - unS t i + 1 by omega] at c1
            rw [y_int1, y_int1, ← Int32.ofNat_add, c1, bS_s, gA_nn ix (by omega), gA_nn ix (by omega), sq_s, c3.1, W2, upd_s]
            have back : upd (upd (M.2.1 8 48) (4 + 2 * f) (M.2.1 8 48 (4 + 2 * f) - 1)) (4 + 2 * f) (M.2.1 8 48 (4 + 2 * f) - 1 + 1) = M.2.1 8 48 := by
              funext j
              by_cases e : j = 4 + 2 * f
              · rw [e, upd_s, Int32.sub_add_cancel]
              · rw [upd_o _ _ e, upd_o _ _ e]
            rw [back]
            exact ihd (f + 1) k (yA M5 8 48 (M.2.1 8 48)) B5 (by omega) (by omega) (FR_trans F1 (FR_trans FF (FR_trans c2 (FR_A _ _ _ _ (by unfold pSd; omega))))) ⟨yA_same _ _ _ _, c3.2.trans w48.2⟩ (fun j hj => by rw [yA_2n _ _ (by decide), c4 j (by omega), yA_same, upd_o _ _ (by omega), w60 j hj]) (BSt_t c5 rfl (yA_2n _ _ (by decide))) (by
              rcases c6 with z | ⟨b, b1, b2⟩
              · rcases p1 with y | ⟨b, b1, b2, b3⟩
                · exact Or.inl (z.trans y)
                · exact Or.inr ⟨b, z.trans b1, b2, by omega⟩
              · exact Or.inr ⟨b, b1, (tU_e.mp b2).1, by rw [(tU_e.mp b2).2]; omega⟩) (fun s s1 s2 l => by
              by_cases e : s i = f
              · exact c7 s s1 (tU_e.mpr ⟨s2, e⟩)
              · obtain ⟨b, b1, b2⟩ := p2 s s1 s2 (by omega)
                obtain ⟨b', b3, b4⟩ := c8 b b1
                exact ⟨b', b3, by omega⟩) (fun b hb => by
              obtain ⟨b', b1, b2⟩ := p3 b hb
              obtain ⟨b3, b4, b5⟩ := c8 b' b1
              exact ⟨b3, b4, by omega⟩)
          · rw [if_neg (show ¬ ¬ M.2.1 8 48 (4 + 2 * f) = 0 from fun z => z ((nn_eq r1 (nn_l 0 (by decide))).mpr (by omega)))]
            exact skip (fun z => c z.2)
    have go : ∃ M' B', f_X12_sendFrom_150 N (f_sendR N g) M (Int32.ofNat i) (Int32.ofNat (i - unS t i)) (Int32.ofNat (quS q t i)) = some (0, M') ∧ POs n nf i q wy sp t B B' M M' := by
      unfold f_X12_sendFrom_150
      rw [if_pos (show ¬ Int32.ofNat i = M.1 8 59 from fun z => by have := (nn_eq ni h.1).mp z; omega)]
      exact loop nf 0 N M B (by omega) (by omega) (FR_refl _ _) ⟨rfl, rfl⟩ (fun _ _ => rfl) hB (Or.inl rfl) (fun s _ _ l => absurd l (Nat.not_lt_zero _)) (fun b hb => ⟨b, hb, Nat.le_refl _⟩)
    obtain ⟨b4, b5, e1, e3, e4, e5, _⟩ := bound_loop (N := N) (rk := f_sendR N g) (l1 := Int32.ofNat i) (l2 := Int32.ofNat (i - unS t i)) (l3 := Int32.ofNat (quS q t i)) hN h hM rfl (r + 1) i N 0 (quS q t i) (by omega) (by omega) (Nat.le_refl _) (by omega) qi (fun s s1 s2 => ⟨by rw [un_c i s2]; omega, fun _ => by rw [qu_c i s2]; exact Nat.le_refl _⟩)
    have e1' : f_sendR N (g + 1) M (Int32.ofNat i) (Int32.ofNat (i - unS t i)) (Int32.ofNat (quS q t i)) = _ := e1
    rw [← Int32.ofNat_add] at e1'
    rw [e1']
    have nu := nn_lit (i - unS t i + b4) (by omega)
    have nq := nn_lit b5 (by omega)
    cases hBB : B with
    | none =>
      subst hBB
      obtain ⟨y1, y2⟩ := hB.1 rfl
      have n1 : ¬ Int32.ofNat (i - unS t i + b4) = -1 := fun z => nu.nneg (by rw [z]; decide)
      have n2 : ¬ Int32.ofNat (i - unS t i + b4) < -1 := fun z => by
        rw [Int32.lt_iff_toInt_lt, nu.int] at z
        have : (-1 : Int32).toInt = -1 := by decide
        omega
      rw [y1, if_neg n2, if_pos n1]
      exact go
    | some b =>
      subst hBB
      obtain ⟨y1, y2, y3, y4, y5⟩ := hB.2 b rfl
      have ub := un_le b n
      have db := dg_lt (fun j hj => (y4.1 j hj).1) n8
      have self : (∀ s, okS n wy (capF n sp nf 0) s → exS t i s → totS q b n ≤ totS q s n) → ∃ M' B', some ((0 : Int32), M) = some (0, M') ∧ POs n nf i q wy sp t (some b) B' M M' := fun le => ⟨M, some b, rfl, FR_refl _ _, ⟨rfl, rfl⟩, fun _ _ => rfl, hB, Or.inl rfl, fun s s1 s2 => ⟨b, rfl, le s s1 s2⟩, fun b' hb' => ⟨b', hb', Nat.le_refl _⟩⟩
      by_cases c1 : i - unS t i + b4 < n - unS b n
      · rw [if_pos ((nn_lt nu y1).mpr c1)]
        exact self (fun s s1 s2 => by
          have := (e5 s s1 s2).1
          have us := un_le s n
          exact tot_U (by omega) y5 db)
      · rw [if_neg (fun z => c1 ((nn_lt nu y1).mp z))]
        by_cases c2 : i - unS t i + b4 = n - unS b n
        · rw [if_neg (fun z => z ((nn_eq nu y1).mpr c2))]
          by_cases c3 : b5 < quS q b n
          · rw [if_pos ((nn_lt nq y2).mpr c3)]
            exact go
          · rw [if_neg (fun z => c3 ((nn_lt nq y2).mp z))]
            refine self (fun s s1 s2 => ?_)
            have x1 := e5 s s1 s2
            have us := un_le s n
            by_cases c4 : unS b n < unS s n
            · exact tot_U c4 y5 db
            · have c5 := x1.2 (by omega)
              by_cases c6 : quS q b n < quS q s n
              · exact tot_Q (by omega) c6 db
              · exact tot_D (by omega) (by omega) (hpre b rfl s s1 s2)
        · rw [if_pos (fun z => c2 ((nn_eq nu y1).mp z))]
          exact go
