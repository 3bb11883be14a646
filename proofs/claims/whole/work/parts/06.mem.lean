/-! operations that read or change the map -/
theorem xwm {w : Cond} (i : Nat) (h : lw_tbl[i]? = some w) (hg : goodWord w = true) : w ∈ xT := List.mem_filter.mpr ⟨List.mem_of_getElem? h, hg⟩
def xCl (ci : Nat) (C : String) (T : u_T) (N : Nat) (ty : Nat → FieldType) : Prop := vwCl[ci]? = some (C, T, N) ∧ (∀ w ∈ u_ws C T N, w ∈ xT) ∧ (∀ k, k < N → parseFieldDescriptor (T k).2.2.1 = some (ty k)) ∧ (∀ a, a < N → ∀ b, b < N → a ≠ b → (T a).2.1 ≠ (T b).2.1)
def xf_getf (ci k : Nat) : xF := fun pc lv st hp => match st with
  | .ref a :: r => match hp a with
    | some (.inr z) => if z.1 = ci then match z.2[k]? with
      | some v => some (pc + 3, lv, v :: r)
      | none => none
      else none
    | _ => none
  | _ => none
theorem xs_getf {ev : xEv} {cc : ByteArray} {own nm : String} {nL pc : Nat} {ci k index : Nat} {C : String} {T : u_T} {N : Nat} {ty : Nat → FieldType} (hc : xCl ci C T N ty) (hk : k < N) (hd : decode cc pc = .ok (.getfield index, 3)) (hw : Cond.fieldLink own index (T k).1 (T k).2.1 (T k).2.2.1 ∈ xT) : xOKp ev cc own nm nL pc (xf_getf ci k) := by
  intro lv st hp pc' lv' st' he p l e R s m args below meth c D A H0 H Q cells slots sz locs ls hC hfr hlo hcR hsR hP hS hl kk
  obtain ⟨hx, hb, hml, hown, hts, hK, hA, hnm, hNw, hZ, hH0⟩ := hC
  unfold xf_getf at he
  split at he
  · next a r =>
    split at he
    · next z hz =>
      obtain ⟨z1, z2⟩ := z
      dsimp only at he
      split at he
      · next e1 =>
        subst e1
        split at he
        · next v hv =>
          cases he
          exact va_get hx hb hts hc.2.1 hown hK (hP.one hz) 0 rfl hc.1 k hk (hts _ hw) (fun _ h9 => h9) hv hd (kk ls hl)
        · cases he
      · cases he
    · cases he
  · cases he
def xf_ald (cA : ClassId) : xF := fun pc lv st hp => match st with
  | .int i :: .ref a :: r => match hp a with
    | some (.inl z) => match z.2.2 with
      | .inl f => if z.1 = cA then if i < 0 ∨ z.2.1 ≤ i.toNatClampNeg then none else some (pc + 1, lv, .int (f i.toNatClampNeg) :: r) else none
      | _ => none
    | _ => none
  | _ => none
def xf_lald (cA : ClassId) : xF := fun pc lv st hp => match st with
  | .int i :: .ref a :: r => match hp a with
    | some (.inl z) => match z.2.2 with
      | .inr (.inl f) => if z.1 = cA then if i < 0 ∨ z.2.1 ≤ i.toNatClampNeg then none else some (pc + 1, lv, .long (f i.toNatClampNeg) :: r) else none
      | _ => none
    | _ => none
  | _ => none
def xf_aald (cA : ClassId) : xF := fun pc lv st hp => match st with
  | .int i :: .ref a :: r => match hp a with
    | some (.inl z) => match z.2.2 with
      | .inr (.inr (.inr (.inr f))) => if z.1 = cA then if i < 0 ∨ z.2.1 ≤ i.toNatClampNeg then none else some (pc + 1, lv, va_rf (f i.toNatClampNeg) :: r) else none
      | _ => none
    | _ => none
  | _ => none
def xf_alen (cA : ClassId) : xF := fun pc lv st hp => match st with
  | .ref a :: r => match hp a with
    | some (.inl z) => if z.1 = cA then some (pc + 1, lv, .int (Int32.ofNat z.2.1) :: r) else none
    | _ => none
  | _ => none
theorem xs_iald {ev : xEv} {cc : ByteArray} {own nm : String} {nL pc : Nat} (hd : decode cc pc = .ok (.iaload, 1)) : xOKp ev cc own nm nL pc (xf_ald (ev.1 0)) := by
  intro lv st hp pc' lv' st' he p l e R s m args below meth c D A H0 H Q cells slots sz locs ls hC hfr hlo hcR hsR hP hS hl kk
  obtain ⟨hx, hb, hml, hown, hts, hK, hA, hnm, hNw, hZ, hH0⟩ := hC
  unfold xf_ald at he
  split at he
  · next i a r =>
    split at he
    · next z hz =>
      obtain ⟨z1, z2, z3⟩ := z
      dsimp only at he
      split at he
      · next f =>
        split at he
        · next e1 =>
          subst e1
          split at he
          · cases he
          · next hin =>
            cases he
            exact va_iald hx hb hK (hP.one hz) 0 0 rfl rfl hin hd (kk ls hl)
        · cases he
      · cases he
    · cases he
  · cases he
theorem xs_zald {ev : xEv} {cc : ByteArray} {own nm : String} {nL pc : Nat} (hd : decode cc pc = .ok (.baload, 1)) : xOKp ev cc own nm nL pc (xf_ald (ev.1 2)) := by
  intro lv st hp pc' lv' st' he p l e R s m args below meth c D A H0 H Q cells slots sz locs ls hC hfr hlo hcR hsR hP hS hl kk
  obtain ⟨hx, hb, hml, hown, hts, hK, hA, hnm, hNw, hZ, hH0⟩ := hC
  unfold xf_ald at he
  split at he
  · next i a r =>
    split at he
    · next z hz =>
      obtain ⟨z1, z2, z3⟩ := z
      dsimp only at he
      split at he
      · next f =>
        split at he
        · next e1 =>
          subst e1
          split at he
          · cases he
          · next hin =>
            cases he
            exact va_zald hx hb hK (hP.one hz) 0 2 rfl rfl hin hd (kk ls hl)
        · cases he
      · cases he
    · cases he
  · cases he
theorem xs_bald {ev : xEv} {cc : ByteArray} {own nm : String} {nL pc : Nat} (hd : decode cc pc = .ok (.baload, 1)) : xOKp ev cc own nm nL pc (xf_ald (ev.1 3)) := by
  intro lv st hp pc' lv' st' he p l e R s m args below meth c D A H0 H Q cells slots sz locs ls hC hfr hlo hcR hsR hP hS hl kk
  obtain ⟨hx, hb, hml, hown, hts, hK, hA, hnm, hNw, hZ, hH0⟩ := hC
  unfold xf_ald at he
  split at he
  · next i a r =>
    split at he
    · next z hz =>
      obtain ⟨z1, z2, z3⟩ := z
      dsimp only at he
      split at he
      · next f =>
        split at he
        · next e1 =>
          subst e1
          split at he
          · cases he
          · next hin =>
            cases he
            exact va_bald hx hb hK (hP.one hz) 0 3 rfl rfl hin hd (kk ls hl)
        · cases he
      · cases he
    · cases he
  · cases he
theorem xs_lald {ev : xEv} {cc : ByteArray} {own nm : String} {nL pc : Nat} (hd : decode cc pc = .ok (.laload, 1)) : xOKp ev cc own nm nL pc (xf_lald (ev.1 1)) := by
  intro lv st hp pc' lv' st' he p l e R s m args below meth c D A H0 H Q cells slots sz locs ls hC hfr hlo hcR hsR hP hS hl kk
  obtain ⟨hx, hb, hml, hown, hts, hK, hA, hnm, hNw, hZ, hH0⟩ := hC
  unfold xf_lald at he
  split at he
  · next i a r =>
    split at he
    · next z hz =>
      obtain ⟨z1, z2, z3⟩ := z
      dsimp only at he
      split at he
      · next f =>
        split at he
        · next e1 =>
          subst e1
          split at he
          · cases he
          · next hin =>
            cases he
            exact va_lald hx hb hK (hP.one hz) 0 1 rfl rfl hin hd (kk ls hl)
        · cases he
      · cases he
    · cases he
  · cases he
theorem xs_aald {ev : xEv} {cc : ByteArray} {own nm : String} {nL pc : Nat} {t : Nat} {C : String} (ht : (xTys ev.1)[t]? = some (ev.1 t, .object C)) (hd : decode cc pc = .ok (.aaload, 1)) : xOKp ev cc own nm nL pc (xf_aald (ev.1 t)) := by
  intro lv st hp pc' lv' st' he p l e R s m args below meth c D A H0 H Q cells slots sz locs ls hC hfr hlo hcR hsR hP hS hl kk
  obtain ⟨hx, hb, hml, hown, hts, hK, hA, hnm, hNw, hZ, hH0⟩ := hC
  unfold xf_aald at he
  split at he
  · next i a r =>
    split at he
    · next z hz =>
      obtain ⟨z1, z2, z3⟩ := z
      dsimp only at he
      split at he
      · next f =>
        split at he
        · next e1 =>
          subst e1
          split at he
          · cases he
          · next hin =>
            cases he
            exact va_aldq hx hb hK (hP.one hz) 0 t rfl ht hin hd (kk ls hl)
        · cases he
      · cases he
    · cases he
  · cases he
theorem xs_alen {ev : xEv} {cc : ByteArray} {own nm : String} {nL pc : Nat} {t : Nat} {ty : FieldType} (ht : (xTys ev.1)[t]? = some (ev.1 t, ty)) (hd : decode cc pc = .ok (.arraylength, 1)) : xOKp ev cc own nm nL pc (xf_alen (ev.1 t)) := by
  intro lv st hp pc' lv' st' he p l e R s m args below meth c D A H0 H Q cells slots sz locs ls hC hfr hlo hcR hsR hP hS hl kk
  obtain ⟨hx, hb, hml, hown, hts, hK, hA, hnm, hNw, hZ, hH0⟩ := hC
  unfold xf_alen at he
  split at he
  · next a r =>
    split at he
    · next z hz =>
      obtain ⟨z1, z2⟩ := z
      dsimp only at he
      split at he
      · next e1 =>
        subst e1
        cases he
        exact va_alen hx hb hK (hP.one hz) 0 t rfl ht rfl hd (kk ls hl)
      · cases he
    · cases he
  · cases he
def xf_objInit : xF := fun pc lv st _ => match st with
  | .ref _ :: r => if (r.map fun v => v.category).sum ≤ 8 then some (pc + 3, lv, r) else none
  | _ => none
theorem xs_objInit {ev : xEv} {cc : ByteArray} {own nm : String} {nL pc : Nat} {index : Nat} (hd : decode cc pc = .ok (.invokespecial index, 3)) (hw1 : Cond.methodLink own index objectInit ∈ xT) (hw2 : Cond.instanceMethod objectInit ∈ xT) (hw3 : Cond.code objectInit ⟨#[0xb1]⟩ 1 none ∈ xT) : xOKp ev cc own nm nL pc xf_objInit := by
  intro lv st hp pc' lv' st' he p l e R s m args below meth c D A H0 H Q cells slots sz locs ls hC hfr hlo hcR hsR hP hS hl kk
  obtain ⟨hx, hb, hml, hown, hts, hK, hA, hnm, hNw, hZ, hH0⟩ := hC
  unfold xf_objInit at he
  split at he
  · next a r =>
    split at he
    · next hs =>
      cases he
      exact W.objInit hx hb hown (hts _ hw1) (hts _ hw2) (hts _ hw3) rfl (by rw [hml]; exact hl.1) rfl hd hfr (Nat.le_trans (Nat.add_le_add_right (lv_room hs) 12) (Nat.le_trans (by decide) hlo)) (kk ls hl)
    · cases he
  · cases he
def xf_m2 (f : Int32 → Int32 → Int32) : xF := fun pc lv st _ => match st with
  | .int y :: .int x :: r => if (r.map fun v => v.category).sum ≤ 8 then some (pc + 3, lv, .int (f x y) :: r) else none
  | _ => none
def xf_m1 (f : Int32 → Int32) : xF := fun pc lv st _ => match st with
  | .int x :: r => if (r.map fun v => v.category).sum ≤ 8 then some (pc + 3, lv, .int (f x) :: r) else none
  | _ => none
def xf_m2l (f : Int64 → Int64 → Int64) : xF := fun pc lv st _ => match st with
  | .long y :: .long x :: r => if (r.map fun v => v.category).sum ≤ 8 then some (pc + 3, lv, .long (f x y) :: r) else none
  | _ => none
theorem xs_mmax {ev : xEv} {cc : ByteArray} {own nm : String} {nL pc : Nat} {index : Nat} (hd : decode cc pc = .ok (.invokestatic index, 3)) (hw1 : Cond.methodLink own index Lib.Math.max.name ∈ xT) (hw2 : Cond.static Lib.Math.max.name ∈ xT) (hw3 : Cond.initialized "java/lang/Math" ∈ xT) (hw4 : Cond.code Lib.Math.max.name Lib.Math.max.code 2 (some .int) ∈ xT) : xOKp ev cc own nm nL pc (xf_m2 (fun x y => if x < y then y else x)) := by
  intro lv st hp pc' lv' st' he p l e R s m args below meth c D A H0 H Q cells slots sz locs ls hC hfr hlo hcR hsR hP hS hl kk
  obtain ⟨hx, hb, hml, hown, hts, hK, hA, hnm, hNw, hZ, hH0⟩ := hC
  unfold xf_m2 at he
  split at he
  · split at he
    · next hs =>
      cases he
      exact va_mmax hx hb (hml.trans hl.1.symm) hown (hts _ hw1) (hts _ hw2) (hts _ hw3) (hts _ hw4) hfr (Nat.le_trans (Nat.add_le_add_right hs 13) (Nat.le_trans (by decide) hlo)) hcR hsR hd (kk ls hl)
    · cases he
  · cases he
theorem xs_mmin {ev : xEv} {cc : ByteArray} {own nm : String} {nL pc : Nat} {index : Nat} (hd : decode cc pc = .ok (.invokestatic index, 3)) (hw1 : Cond.methodLink own index Lib.Math.min.name ∈ xT) (hw2 : Cond.static Lib.Math.min.name ∈ xT) (hw3 : Cond.initialized "java/lang/Math" ∈ xT) (hw4 : Cond.code Lib.Math.min.name Lib.Math.min.code 2 (some .int) ∈ xT) : xOKp ev cc own nm nL pc (xf_m2 (fun x y => if y < x then y else x)) := by
  intro lv st hp pc' lv' st' he p l e R s m args below meth c D A H0 H Q cells slots sz locs ls hC hfr hlo hcR hsR hP hS hl kk
  obtain ⟨hx, hb, hml, hown, hts, hK, hA, hnm, hNw, hZ, hH0⟩ := hC
  unfold xf_m2 at he
  split at he
  · split at he
    · next hs =>
      cases he
      exact va_mmin hx hb (hml.trans hl.1.symm) hown (hts _ hw1) (hts _ hw2) (hts _ hw3) (hts _ hw4) hfr (Nat.le_trans (Nat.add_le_add_right hs 13) (Nat.le_trans (by decide) hlo)) hcR hsR hd (kk ls hl)
    · cases he
  · cases he
theorem xs_mabs {ev : xEv} {cc : ByteArray} {own nm : String} {nL pc : Nat} {index : Nat} (hd : decode cc pc = .ok (.invokestatic index, 3)) (hw1 : Cond.methodLink own index Lib.Math.abs.name ∈ xT) (hw2 : Cond.static Lib.Math.abs.name ∈ xT) (hw3 : Cond.initialized "java/lang/Math" ∈ xT) (hw4 : Cond.code Lib.Math.abs.name Lib.Math.abs.code 1 (some .int) ∈ xT) : xOKp ev cc own nm nL pc (xf_m1 (fun x => if 0 ≤ x then x else 0 - x)) := by
  intro lv st hp pc' lv' st' he p l e R s m args below meth c D A H0 H Q cells slots sz locs ls hC hfr hlo hcR hsR hP hS hl kk
  obtain ⟨hx, hb, hml, hown, hts, hK, hA, hnm, hNw, hZ, hH0⟩ := hC
  unfold xf_m1 at he
  split at he
  · split at he
    · next hs =>
      cases he
      exact va_mabs hx hb (hml.trans hl.1.symm) hown (hts _ hw1) (hts _ hw2) (hts _ hw3) (hts _ hw4) hfr (Nat.le_trans (Nat.add_le_add_right hs 13) (Nat.le_trans (by decide) hlo)) hcR hsR hd (kk ls hl)
    · cases he
  · cases he
theorem xs_mmin_long {ev : xEv} {cc : ByteArray} {own nm : String} {nL pc : Nat} {index : Nat} (hd : decode cc pc = .ok (.invokestatic index, 3)) (hw1 : Cond.methodLink own index Lib.MathLoose.min_long.x ∈ xT) (hw2 : Cond.static Lib.MathLoose.min_long.x ∈ xT) (hw3 : Cond.initialized "java/lang/Math" ∈ xT) (hw4 : Cond.code Lib.MathLoose.min_long.x Lib.MathLoose.min_long.code 4 (some .long) ∈ xT) : xOKp ev cc own nm nL pc (xf_m2l (fun x y => if y < x then y else x)) := by
  intro lv st hp pc' lv' st' he p l e R s m args below meth c D A H0 H Q cells slots sz locs ls hC hfr hlo hcR hsR hP hS hl kk
  obtain ⟨hx, hb, hml, hown, hts, hK, hA, hnm, hNw, hZ, hH0⟩ := hC
  unfold xf_m2l at he
  split at he
  · split at he
    · next hs =>
      cases he
      exact va_mmin_long hx hb (hml.trans hl.1.symm) hown (hts _ hw1) (hts _ hw2) (hts _ hw3) (hts _ hw4) hfr (Nat.le_trans (Nat.add_le_add_right hs 15) (Nat.le_trans (by decide) hlo)) hcR hsR hd (kk ls hl)
    · cases he
  · cases he
def xo_putf (ci k : Nat) (ty : FieldType) : xS → Option xS := fun σ => match σ with
  | (pc, lv, v :: .ref a :: r, hp, sz, sl) => match hp a with
    | some (.inr z) => if z.1 = ci ∧ k < z.2.length ∧ fits ty v = true ∧ narrow ty v = v then some (pc + 3, lv, r, xU hp a (.inr (ci, z.2.set k v)), sz, sl) else none
    | _ => none
  | _ => none
theorem xs_putf {ev : xEv} {cc : ByteArray} {own nm : String} {nL pc : Nat} {ci k index : Nat} {C : String} {T : u_T} {N : Nat} {ty : Nat → FieldType} (hc : xCl ci C T N ty) (hk : k < N) (hfin : (T k).2.2.2 = false) (hd : decode cc pc = .ok (.putfield index, 3)) (hw : Cond.fieldLink own index (T k).1 (T k).2.1 (T k).2.2.1 ∈ xT) : xOK ev cc own nm nL pc (xo_putf ci k (ty k)) := by
  intro lv st hp sz sl pc' lv' st' hp' sz' sl' he
  unfold xo_putf at he
  split at he
  · next pc0 lv0 v a r hp0 sz0 sl0 eσ =>
    cases eσ
    split at he
    · next z hz =>
      obtain ⟨z1, z2⟩ := z
      dsimp only at he
      split at he
      · next hh =>
        obtain ⟨e1, h2, h3, h4⟩ := hh
        subst e1
        cases he
        refine ⟨⟨Nat.le_refl _, Nat.le_refl _⟩, ?_⟩
        intro p l e R s m args below meth c D A H0 H Q z0 locs ls hC hfr hlo hz0 hcs hss hP hS hl kk
        obtain ⟨hx, hb, hml, hown, hts, hK, hA, hnm, hNw, hZ, hH0⟩ := hC
        exact x_put hx hb hts hc.2.1 ty hc.2.2.1 hc.2.2.2 hown hK hP hS hz hc.1 k hk (hts _ hw) (fun _ h9 => h9) hfin (hc.2.2.1 k hk) h4 h3 h2 hd (fun H1 locs1 hP1 hS1 => kk H1 locs1 ls hP1 hS1 hl)
      · cases he
    · cases he
  · cases he
theorem xs_putF {ev : xEv} {cc : ByteArray} {own nm : String} {nL pc : Nat} {ci k index : Nat} {C : String} {T : u_T} {N : Nat} {ty : Nat → FieldType} (hc : xCl ci C T N ty) (hk : k < N) (hfin : (T k).2.2.2 = true) (hin2 : nm = "<init>") (hdecl : (T k).1 = own) (hd : decode cc pc = .ok (.putfield index, 3)) (hw : Cond.fieldLink own index (T k).1 (T k).2.1 (T k).2.2.1 ∈ xT) : xOK ev cc own nm nL pc (xo_putf ci k (ty k)) := by
  intro lv st hp sz sl pc' lv' st' hp' sz' sl' he
  unfold xo_putf at he
  split at he
  · next pc0 lv0 v a r hp0 sz0 sl0 eσ =>
    cases eσ
    split at he
    · next z hz =>
      obtain ⟨z1, z2⟩ := z
      dsimp only at he
      split at he
      · next hh =>
        obtain ⟨e1, h2, h3, h4⟩ := hh
        subst e1
        cases he
        refine ⟨⟨Nat.le_refl _, Nat.le_refl _⟩, ?_⟩
        intro p l e R s m args below meth c D A H0 H Q z0 locs ls hC hfr hlo hz0 hcs hss hP hS hl kk
        obtain ⟨hx, hb, hml, hown, hts, hK, hA, hnm, hNw, hZ, hH0⟩ := hC
        exact x_putF hx hb hts hc.2.1 ty hc.2.2.1 hc.2.2.2 hown hK hP hS hz hc.1 k hk (hts _ hw) (fun _ h9 => h9) hfin (hnm.trans hin2) hdecl (hc.2.2.1 k hk) h4 h3 h2 hd (fun H1 locs1 hP1 hS1 => kk H1 locs1 ls hP1 hS1 hl)
      · cases he
    · cases he
  · cases he
def xo_ast (cA : ClassId) (g : Int32 → Int32) : xS → Option xS := fun σ => match σ with
  | (pc, lv, .int x :: .int i :: .ref a :: r, hp, sz, sl) => match hp a with
    | some (.inl z) => match z.2.2 with
      | .inl f => if z.1 = cA then if i < 0 ∨ z.2.1 ≤ i.toNatClampNeg then none else some (pc + 1, lv, r, xU hp a (.inl (cA, z.2.1, .inl (upd f i.toNatClampNeg (g x)))), sz, sl) else none
      | _ => none
    | _ => none
  | _ => none
def xo_last (cA : ClassId) : xS → Option xS := fun σ => match σ with
  | (pc, lv, .long x :: .int i :: .ref a :: r, hp, sz, sl) => match hp a with
    | some (.inl z) => match z.2.2 with
      | .inr (.inl f) => if z.1 = cA then if i < 0 ∨ z.2.1 ≤ i.toNatClampNeg then none else some (pc + 1, lv, r, xU hp a (.inl (cA, z.2.1, .inr (.inl (vp_updL f i.toNatClampNeg x)))), sz, sl) else none
      | _ => none
    | _ => none
  | _ => none
def xo_aast (cA : ClassId) (ci : Nat) : xS → Option xS := fun σ => match σ with
  | (pc, lv, .ref v :: .int i :: .ref a :: r, hp, sz, sl) => match hp a, hp v with
    | some (.inl z), some (.inr y) => match z.2.2 with
      | .inr (.inr (.inr (.inr f))) => if z.1 = cA ∧ y.1 = ci then if i < 0 ∨ z.2.1 ≤ i.toNatClampNeg then none else some (pc + 1, lv, r, xU hp a (.inl (cA, z.2.1, .inr (.inr (.inr (.inr (va_up f i.toNatClampNeg (some v))))))), sz, sl) else none
      | _ => none
    | _, _ => none
  | _ => none
theorem xs_iast {ev : xEv} {cc : ByteArray} {own nm : String} {nL pc : Nat} (hd : decode cc pc = .ok (.iastore, 1)) : xOK ev cc own nm nL pc (xo_ast (ev.1 0) (fun x => x)) := by
  intro lv st hp sz sl pc' lv' st' hp' sz' sl' he
  unfold xo_ast at he
  split at he
  · next pc0 lv0 x i a r hp0 sz0 sl0 eσ =>
    cases eσ
    split at he
    · next z hz =>
      obtain ⟨z1, z2, z3⟩ := z
      dsimp only at he
      split at he
      · next f =>
        split at he
        · next e1 =>
          subst e1
          split at he
          · cases he
          · next hin =>
            cases he
            refine ⟨⟨Nat.le_refl _, Nat.le_refl _⟩, ?_⟩
            intro p l e R s m args below meth c D A H0 H Q z0 locs ls hC hfr hlo hz0 hcs hss hP hS hl kk
            obtain ⟨hx, hb, hml, hown, hts, hK, hA, hnm, hNw, hZ, hH0⟩ := hC
            exact x_iast hx hb hK hP hS 0 hz rfl hin hd (fun H1 locs1 hP1 hS1 => kk H1 locs1 ls hP1 hS1 hl)
        · cases he
      · cases he
    · cases he
  · cases he
theorem xs_zast {ev : xEv} {cc : ByteArray} {own nm : String} {nL pc : Nat} (hd : decode cc pc = .ok (.bastore, 1)) : xOK ev cc own nm nL pc (xo_ast (ev.1 2) (vp_nar .boolean)) := by
  intro lv st hp sz sl pc' lv' st' hp' sz' sl' he
  unfold xo_ast at he
  split at he
  · next pc0 lv0 x i a r hp0 sz0 sl0 eσ =>
    cases eσ
    split at he
    · next z hz =>
      obtain ⟨z1, z2, z3⟩ := z
      dsimp only at he
      split at he
      · next f =>
        split at he
        · next e1 =>
          subst e1
          split at he
          · cases he
          · next hin =>
            cases he
            refine ⟨⟨Nat.le_refl _, Nat.le_refl _⟩, ?_⟩
            intro p l e R s m args below meth c D A H0 H Q z0 locs ls hC hfr hlo hz0 hcs hss hP hS hl kk
            obtain ⟨hx, hb, hml, hown, hts, hK, hA, hnm, hNw, hZ, hH0⟩ := hC
            exact x_zast hx hb hK hP hS 2 hz rfl hin hd (fun H1 locs1 hP1 hS1 => kk H1 locs1 ls hP1 hS1 hl)
        · cases he
      · cases he
    · cases he
  · cases he
theorem xs_bast {ev : xEv} {cc : ByteArray} {own nm : String} {nL pc : Nat} (hd : decode cc pc = .ok (.bastore, 1)) : xOK ev cc own nm nL pc (xo_ast (ev.1 3) (vp_nar .byte)) := by
  intro lv st hp sz sl pc' lv' st' hp' sz' sl' he
  unfold xo_ast at he
  split at he
  · next pc0 lv0 x i a r hp0 sz0 sl0 eσ =>
    cases eσ
    split at he
    · next z hz =>
      obtain ⟨z1, z2, z3⟩ := z
      dsimp only at he
      split at he
      · next f =>
        split at he
        · next e1 =>
          subst e1
          split at he
          · cases he
          · next hin =>
            cases he
            refine ⟨⟨Nat.le_refl _, Nat.le_refl _⟩, ?_⟩
            intro p l e R s m args below meth c D A H0 H Q z0 locs ls hC hfr hlo hz0 hcs hss hP hS hl kk
            obtain ⟨hx, hb, hml, hown, hts, hK, hA, hnm, hNw, hZ, hH0⟩ := hC
            exact x_bast hx hb hK hP hS 3 hz rfl hin hd (fun H1 locs1 hP1 hS1 => kk H1 locs1 ls hP1 hS1 hl)
        · cases he
      · cases he
    · cases he
  · cases he
theorem xs_last {ev : xEv} {cc : ByteArray} {own nm : String} {nL pc : Nat} (hd : decode cc pc = .ok (.lastore, 1)) : xOK ev cc own nm nL pc (xo_last (ev.1 1)) := by
  intro lv st hp sz sl pc' lv' st' hp' sz' sl' he
  unfold xo_last at he
  split at he
  · next pc0 lv0 x i a r hp0 sz0 sl0 eσ =>
    cases eσ
    split at he
    · next z hz =>
      obtain ⟨z1, z2, z3⟩ := z
      dsimp only at he
      split at he
      · next f =>
        split at he
        · next e1 =>
          subst e1
          split at he
          · cases he
          · next hin =>
            cases he
            refine ⟨⟨Nat.le_refl _, Nat.le_refl _⟩, ?_⟩
            intro p l e R s m args below meth c D A H0 H Q z0 locs ls hC hfr hlo hz0 hcs hss hP hS hl kk
            obtain ⟨hx, hb, hml, hown, hts, hK, hA, hnm, hNw, hZ, hH0⟩ := hC
            exact x_last hx hb hK hP hS 1 hz rfl hin hd (fun H1 locs1 hP1 hS1 => kk H1 locs1 ls hP1 hS1 hl)
        · cases he
      · cases he
    · cases he
  · cases he
theorem xs_aast {ev : xEv} {cc : ByteArray} {own nm : String} {nL pc : Nat} {t ci : Nat} {r0 : vw_C} (ht : (xTys ev.1)[t]? = some (ev.1 t, .object r0.1)) (hc : vwCl[ci]? = some r0) (hd : decode cc pc = .ok (.aastore, 1)) : xOK ev cc own nm nL pc (xo_aast (ev.1 t) ci) := by
  intro lv st hp sz sl pc' lv' st' hp' sz' sl' he
  unfold xo_aast at he
  split at he
  · next pc0 lv0 v i a r hp0 sz0 sl0 eσ =>
    cases eσ
    split at he
    · next z y hz hy =>
      obtain ⟨z1, z2, z3⟩ := z
      obtain ⟨y1, y2⟩ := y
      dsimp only at he
      split at he
      · next f =>
        split at he
        · next e1 =>
          obtain ⟨e1, e2⟩ := e1
          subst e1
          subst e2
          split at he
          · cases he
          · next hin =>
            cases he
            refine ⟨⟨Nat.le_refl _, Nat.le_refl _⟩, ?_⟩
            intro p l e R s m args below meth c D A H0 H Q z0 locs ls hC hfr hlo hz0 hcs hss hP hS hl kk
            obtain ⟨hx, hb, hml, hown, hts, hK, hA, hnm, hNw, hZ, hH0⟩ := hC
            exact x_aast hx hb hK hP hS t _ hz ht hy hc hin hd (fun H1 locs1 hP1 hS1 => kk H1 locs1 ls hP1 hS1 hl)
        · cases he
      · cases he
    · cases he
  · cases he
def xo_new (ci N : Nat) (fs : List Value) : xS → Option xS := fun σ => match σ with
  | (pc, lv, st, hp, sz, sl) => some (pc + 3, lv, .ref sz :: st, xU hp sz (.inr (ci, fs)), sz + 1, sl + N)
theorem xs_new {ev : xEv} {cc : ByteArray} {own nm : String} {nL pc : Nat} {ci index : Nat} {C : String} {T : u_T} {N : Nat} {ty : Nat → FieldType} {fs : List Value} (hc : xCl ci C T N ty) (hfs : ∀ j, j < N → defaultValue (ty j) = vp_V fs j) (hd : decode cc pc = .ok (.new index, 3)) (hw1 : Cond.classLink own index C ∈ xT) (hw2 : Cond.instantiable C N ∈ xT) (hw3 : Cond.initialized C ∈ xT) : xOK ev cc own nm nL pc (xo_new ci N fs) := by
  intro lv st hp sz sl pc' lv' st' hp' sz' sl' he
  unfold xo_new at he
  dsimp only at he
  cases he
  refine ⟨⟨Nat.le_succ _, Nat.le_add_right _ _⟩, ?_⟩
  intro p l e R s m args below meth c D A H0 H Q z0 locs ls hC hfr hlo hz0 hcs hss hP hS hl kk
  obtain ⟨hx, hb, hml, hown, hts, hK, hA, hnm, hNw, hZ, hH0⟩ := hC
  have e1 : sz + 1 - z0 = sz - z0 + 1 := by omega
  rw [e1] at hcs kk
  exact x_new hx hb hts hc.2.1 ty hc.2.2.1 hown (hts _ hw1) (hts _ hw2) (hts _ hw3) hK hP hS hA hc.1 hfs hcs hss hd (fun H1 hP1 hS1 => kk H1 locs ls hP1 hS1 hl)
def xo_newa (cA : ClassId) (z : (Nat → Int32) ⊕ (Nat → Int64) ⊕ (Nat → UInt32) ⊕ (Nat → UInt64) ⊕ (Nat → Option Nat)) : xS → Option xS := fun σ => match σ with
  | (pc, lv, .int n :: r, hp, sz, sl) => if n < 0 ∨ 60000 < n.toNatClampNeg then none else some (pc + 2, lv, .ref sz :: r, xU hp sz (.inl (cA, n.toNatClampNeg, z)), sz + 1, sl + n.toNatClampNeg)
  | _ => none
def xo_anew (cA : ClassId) : xS → Option xS := fun σ => match σ with
  | (pc, lv, .int n :: r, hp, sz, sl) => if n < 0 ∨ 60000 < n.toNatClampNeg then none else some (pc + 3, lv, .ref sz :: r, xU hp sz (.inl (cA, n.toNatClampNeg, .inr (.inr (.inr (.inr (fun _ => none)))))), sz + 1, sl + n.toNatClampNeg)
  | _ => none
theorem xs_newa {ev : xEv} {cc : ByteArray} {own nm : String} {nL pc : Nat} {t : Nat} {ty : FieldType} {atype : ArrayType} {z : (Nat → Int32) ⊕ (Nat → Int64) ⊕ (Nat → UInt32) ⊕ (Nat → UInt64) ⊕ (Nat → Option Nat)} (ht : (xTys ev.1)[t]? = some (ev.1 t, ty)) (hty : newarray.typeOf atype = ty) (hz : ∀ (cA : ClassId) (N : Nat), vp_cell cA (N, z) = arrV cA N (fun _ => defaultValue ty)) (hbt : componentBytes ty ≤ 8) (hd : decode cc pc = .ok (.newarray atype, 2)) (hw : Cond.arrayClass ty ∈ xT) : xOK ev cc own nm nL pc (xo_newa (ev.1 t) z) := by
  intro lv st hp sz sl pc' lv' st' hp' sz' sl' he
  unfold xo_newa at he
  split at he
  · next pc0 lv0 n r hp0 sz0 sl0 eσ =>
    cases eσ
    split at he
    · cases he
    · next hn =>
      cases he
      refine ⟨⟨Nat.le_succ _, Nat.le_add_right _ _⟩, ?_⟩
      intro p l e R s m args below meth c D A H0 H Q z0 locs ls hC hfr hlo hz0 hcs hss hP hS hl kk
      obtain ⟨hx, hb, hml, hown, hts, hK, hA, hnm, hNw, hZ, hH0⟩ := hC
      have e1 : sz + 1 - z0 = sz - z0 + 1 := by omega
      rw [e1] at hcs kk
      have h1 : ¬ n < 0 := fun q => hn (Or.inl q)
      have h2 : n.toNatClampNeg ≤ 60000 := Nat.not_lt.mp fun q => hn (Or.inr q)
      exact x_newa hx hb (by rw [hty]; exact hts _ hw) hty hK hP hS hA t ht (hz _ _) h1 rfl (Nat.le_trans (Nat.mul_le_mul h2 hbt) (by decide)) hcs hss hd (fun H1 hP1 hS1 => kk H1 locs ls hP1 hS1 hl)
  · cases he
theorem xs_anew {ev : xEv} {cc : ByteArray} {own nm : String} {nL pc : Nat} {t index : Nat} {C : String} (ht : (xTys ev.1)[t]? = some (ev.1 t, .object C)) (hd : decode cc pc = .ok (.anewarray index, 3)) (hw1 : Cond.classLink own index C ∈ xT) (hw2 : Cond.arrayOver (.object C) ∈ xNw) : xOK ev cc own nm nL pc (xo_anew (ev.1 t)) := by
  intro lv st hp sz sl pc' lv' st' hp' sz' sl' he
  unfold xo_anew at he
  split at he
  · next pc0 lv0 n r hp0 sz0 sl0 eσ =>
    cases eσ
    split at he
    · cases he
    · next hn =>
      cases he
      refine ⟨⟨Nat.le_succ _, Nat.le_add_right _ _⟩, ?_⟩
      intro p l e R s m args below meth c D A H0 H Q z0 locs ls hC hfr hlo hz0 hcs hss hP hS hl kk
      obtain ⟨hx, hb, hml, hown, hts, hK, hA, hnm, hNw, hZ, hH0⟩ := hC
      have e1 : sz + 1 - z0 = sz - z0 + 1 := by omega
      rw [e1] at hcs kk
      have h1 : ¬ n < 0 := fun q => hn (Or.inl q)
      have h2 : n.toNatClampNeg ≤ 60000 := Nat.not_lt.mp fun q => hn (Or.inr q)
      exact x_newq hx hb hown (hts _ hw1) (hNw _ hw2) hK hP hS hA t ht h1 rfl (Nat.le_trans (Nat.mul_le_mul_right 4 h2) (by decide)) hcs hss hd (fun H1 hP1 hS1 => kk H1 locs ls hP1 hS1 hl)
  · cases he
