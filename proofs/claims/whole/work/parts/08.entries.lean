/-! switches, and what no operation is written for (it has no run) -/
def xf_none : xF := fun _ _ _ _ => none
theorem xs_none {ev : xEv} {cc : ByteArray} {own nm : String} {nL pc : Nat} : xOKp ev cc own nm nL pc xf_none := by
  intro lv st hp pc' lv' st' he
  cases he
def xf_sw (f : Int → Nat) : xF := fun _ lv st _ => match st with
  | .int x :: r => some (f x.toInt, lv, r)
  | _ => none
def xtsw (lo : Int) (tg : List Nat) (D : Nat) : Int → Nat := fun x => if x < lo ∨ lo + tg.length ≤ x then D else tg.getD (x - lo).toNat 0
theorem xs_tsw {ev : xEv} {cc : ByteArray} {own nm : String} {nL pc : Nat} {dflt lo hi : Int} {offs : Array Int} {len D0 : Nat} {tg : List Nat} (hd : decode cc pc = .ok (.tableswitch dflt lo hi offs, len)) (h1 : hi + 1 = lo + tg.length) (h2 : (pc : Int) + dflt = (D0 : Int)) (h3 : offs.toList.map (fun o : Int => (pc : Int) + o) = tg.map (fun t : Nat => (t : Int))) : xOKp ev cc own nm nL pc (xf_sw (xtsw lo tg D0)) := by
  intro lv st hp pc' lv' st' he p l e R s m args below meth c D A H0 H Q cells slots sz locs ls hC hfr hlo hcR hsR hP hS hl kk
  obtain ⟨hx, hb, hml, hown, hts, hK, hA, hnm, hNw, hZ, hH0⟩ := hC
  unfold xf_sw at he
  split at he
  · next x r =>
    cases he
    by_cases hc : x.toInt < lo ∨ lo + tg.length ≤ x.toInt
    · have e1 : xtsw lo tg D0 x.toInt = D0 := by unfold xtsw; rw [if_pos hc]
      have hk := kk ls hl
      rw [e1] at hk
      exact lv_tableOut hx hb hd (hc.imp (fun h => h) (fun h => by omega)) h2 hk
    · have hlt : (x.toInt - lo).toNat < tg.length := by omega
      have e1 : xtsw lo tg D0 x.toInt = tg.getD (x.toInt - lo).toNat 0 := by unfold xtsw; rw [if_neg hc]
      have e2 : (offs.toList.map (fun o : Int => (pc : Int) + o))[(x.toInt - lo).toNat]? = (tg.map (fun t : Nat => (t : Int)))[(x.toInt - lo).toNat]? := by rw [h3]
      rw [List.getElem?_map, List.getElem?_map, List.getElem?_eq_getElem hlt] at e2
      cases ho : offs.toList[(x.toInt - lo).toNat]? with
      | none => rw [ho] at e2; cases e2
      | some off =>
        rw [ho] at e2
        have e3 : (pc : Int) + off = (tg[(x.toInt - lo).toNat] : Int) := Option.some.inj e2
        have hk := kk ls hl
        rw [e1, List.getD_eq_getElem?_getD, List.getElem?_eq_getElem hlt] at hk
        exact lv_tableIn hx hb hd (fun h => hc (Or.inl h)) (fun h => hc (Or.inr (by omega))) (by rw [← Array.getElem?_toList]; exact ho) e3 hk
  · cases he
def xlsw : List (Int × Nat) → Nat → Int → Nat
  | [], D, _ => D
  | q :: r, D, x => if x = q.1 then q.2 else xlsw r D x
theorem xlsw_is {pc D : Nat} {dflt x : Int} (h2 : (pc : Int) + dflt = (D : Int)) : ∀ (l : List (Int × Int)) (ps : List (Int × Nat)), l.map (fun q : Int × Int => (q.1, (pc : Int) + q.2)) = ps.map (fun q : Int × Nat => (q.1, (q.2 : Int))) → (pc : Int) + Op.lookupswitch.offset l dflt x = (xlsw ps D x : Int)
  | [], [], _ => h2
  | [], _ :: _, h => by simp at h
  | _ :: _, [], h => by simp at h
  | a :: l, b :: ps, h => by
    rw [List.map_cons, List.map_cons] at h
    obtain ⟨h3, h4⟩ := List.cons.inj h
    have h5 : a.1 = b.1 := congrArg Prod.fst h3
    have h6 : (pc : Int) + a.2 = (b.2 : Int) := congrArg Prod.snd h3
    have ih := xlsw_is (x := x) h2 l ps h4
    obtain ⟨a1, a2⟩ := a
    rw [lookupswitch.offset_cons]
    by_cases hx : a1 = x
    · have e1 : xlsw (b :: ps) D x = b.2 := by
        show (if x = b.1 then b.2 else _) = _
        rw [if_pos (hx.symm.trans h5)]
      rw [e1, if_pos hx]
      exact h6
    · have e1 : xlsw (b :: ps) D x = xlsw ps D x := by
        show (if x = b.1 then b.2 else _) = _
        rw [if_neg (fun q => hx (h5.trans q.symm))]
      rw [e1, if_neg hx]
      exact ih
theorem xs_lsw {ev : xEv} {cc : ByteArray} {own nm : String} {nL pc : Nat} {dflt : Int} {ps : Array (Int × Int)} {len D0 : Nat} {tg : List (Int × Nat)} (hd : decode cc pc = .ok (.lookupswitch dflt ps, len)) (h1 : (ps.toList.zip (ps.toList.drop 1)).all (fun (a, next) => a.1 < next.1) = true) (h2 : (pc : Int) + dflt = (D0 : Int)) (h3 : ps.toList.map (fun q : Int × Int => (q.1, (pc : Int) + q.2)) = tg.map (fun q : Int × Nat => (q.1, (q.2 : Int)))) : xOKp ev cc own nm nL pc (xf_sw (xlsw tg D0)) := by
  intro lv st hp pc' lv' st' he p l e R s m args below meth c D A H0 H Q cells slots sz locs ls hC hfr hlo hcR hsR hP hS hl kk
  obtain ⟨hx, hb, hml, hown, hts, hK, hA, hnm, hNw, hZ, hH0⟩ := hC
  unfold xf_sw at he
  split at he
  · next x r =>
    cases he
    exact lv_lookup hx hb hd h1 rfl (xlsw_is h2 _ _ h3) (kk ls hl)
  · cases he
theorem xwm' {w : Cond} (h : w ∈ lw_tbl) (hg : goodWord w = true) : w ∈ xT := List.mem_filter.mpr ⟨h, hg⟩
theorem xin_1 : ∀ w ∈ tables_1_1, w ∈ lw_tbl := fun _ h => List.mem_append_right _ (List.mem_append_left _ h)
theorem xin_2 : ∀ w ∈ tables_1_2, w ∈ lw_tbl := fun _ h => List.mem_append_right _ (List.mem_append_right _ (List.mem_append_left _ h))
theorem xin_3 : ∀ w ∈ tables_1_3, w ∈ lw_tbl := fun _ h => List.mem_append_right _ (List.mem_append_right _ (List.mem_append_right _ (List.mem_append_left _ h)))
theorem xin_4 : ∀ w ∈ tables_1_4, w ∈ lw_tbl := fun _ h => List.mem_append_right _ (List.mem_append_right _ (List.mem_append_right _ (List.mem_append_right _ (List.mem_append_left _ h))))
theorem xin_5 : ∀ w ∈ tables_1_5, w ∈ lw_tbl := fun _ h => List.mem_append_right _ (List.mem_append_right _ (List.mem_append_right _ (List.mem_append_right _ (List.mem_append_right _ (List.mem_append_left _ h)))))
theorem xin_6 : ∀ w ∈ tables_1_6, w ∈ lw_tbl := fun _ h => List.mem_append_right _ (List.mem_append_right _ (List.mem_append_right _ (List.mem_append_right _ (List.mem_append_right _ (List.mem_append_right _ (List.mem_append_left _ h))))))
theorem xin_7 : ∀ w ∈ tables_1_7, w ∈ lw_tbl := fun _ h => List.mem_append_right _ (List.mem_append_right _ (List.mem_append_right _ (List.mem_append_right _ (List.mem_append_right _ (List.mem_append_right _ (List.mem_append_right _ (List.mem_append_left _ h)))))))
theorem xin_8 : ∀ w ∈ tables_1_8, w ∈ lw_tbl := fun _ h => List.mem_append_right _ (List.mem_append_right _ (List.mem_append_right _ (List.mem_append_right _ (List.mem_append_right _ (List.mem_append_right _ (List.mem_append_right _ (List.mem_append_right _ (List.mem_append_left _ h))))))))
theorem xin_9 : ∀ w ∈ tables_1_9, w ∈ lw_tbl := fun _ h => List.mem_append_right _ (List.mem_append_right _ (List.mem_append_right _ (List.mem_append_right _ (List.mem_append_right _ (List.mem_append_right _ (List.mem_append_right _ (List.mem_append_right _ (List.mem_append_right _ (List.mem_append_left _ h)))))))))
theorem xin_10 : ∀ w ∈ tables_1_10, w ∈ lw_tbl := fun _ h => List.mem_append_right _ (List.mem_append_right _ (List.mem_append_right _ (List.mem_append_right _ (List.mem_append_right _ (List.mem_append_right _ (List.mem_append_right _ (List.mem_append_right _ (List.mem_append_right _ (List.mem_append_right _ (h))))))))))
theorem xinp_1 : ∀ q ∈ lw_privs_1, Cond.selects q.1.cls q.1 q.1 ∈ lw_tbl := fun q h => List.mem_append_left _ (List.mem_map.mpr ⟨q, List.mem_append_left _ h, rfl⟩)
theorem xinp_2 : ∀ q ∈ lw_privs_2, Cond.selects q.1.cls q.1 q.1 ∈ lw_tbl := fun q h => List.mem_append_left _ (List.mem_map.mpr ⟨q, List.mem_append_right _ (List.mem_append_left _ h), rfl⟩)
theorem xinp_3 : ∀ q ∈ lw_privs_3, Cond.selects q.1.cls q.1 q.1 ∈ lw_tbl := fun q h => List.mem_append_left _ (List.mem_map.mpr ⟨q, List.mem_append_right _ (List.mem_append_right _ (List.mem_append_left _ h)), rfl⟩)
theorem xinp_4 : ∀ q ∈ lw_privs_4, Cond.selects q.1.cls q.1 q.1 ∈ lw_tbl := fun q h => List.mem_append_left _ (List.mem_map.mpr ⟨q, List.mem_append_right _ (List.mem_append_right _ (List.mem_append_right _ (List.mem_append_left _ h))), rfl⟩)
theorem xinp_5 : ∀ q ∈ lw_privs_5, Cond.selects q.1.cls q.1 q.1 ∈ lw_tbl := fun q h => List.mem_append_left _ (List.mem_map.mpr ⟨q, List.mem_append_right _ (List.mem_append_right _ (List.mem_append_right _ (List.mem_append_right _ (List.mem_append_left _ h)))), rfl⟩)
theorem xinp_6 : ∀ q ∈ lw_privs_6, Cond.selects q.1.cls q.1 q.1 ∈ lw_tbl := fun q h => List.mem_append_left _ (List.mem_map.mpr ⟨q, List.mem_append_right _ (List.mem_append_right _ (List.mem_append_right _ (List.mem_append_right _ (List.mem_append_right _ (List.mem_append_left _ h))))), rfl⟩)
theorem xinp_7 : ∀ q ∈ lw_privs_7, Cond.selects q.1.cls q.1 q.1 ∈ lw_tbl := fun q h => List.mem_append_left _ (List.mem_map.mpr ⟨q, List.mem_append_right _ (List.mem_append_right _ (List.mem_append_right _ (List.mem_append_right _ (List.mem_append_right _ (List.mem_append_right _ (List.mem_append_left _ h)))))), rfl⟩)
theorem xinp_8 : ∀ q ∈ lw_privs_8, Cond.selects q.1.cls q.1 q.1 ∈ lw_tbl := fun q h => List.mem_append_left _ (List.mem_map.mpr ⟨q, List.mem_append_right _ (List.mem_append_right _ (List.mem_append_right _ (List.mem_append_right _ (List.mem_append_right _ (List.mem_append_right _ (List.mem_append_right _ (h))))))), rfl⟩)
/-- an entry is sound -/
def xEnOK (ev : xEv) (mi : xMi) (own nm : String) (cc : ByteArray) (nL : Nat) (ret : Option FieldType) (q : Nat × xEn) : Prop := match q.2 with
  | .inl op => xOK ev cc own nm nL q.1 op
  | .inr (.inl z) => (z.1 = 5 ∧ xOKr 1 40 ev cc own nm nL q.1 (xstr ev z.2.1)) ∨ xCallOK own cc q.1 z.1 z.2.2.1 z.2.2.2 (mi z.2.1).1 (mi z.2.1).2.1 (mi z.2.1).2.2.1 (mi z.2.1).2.2.2
  | .inr (.inr k) => xRetOK cc q.1 ret k
theorem xMethOK.of {ev : xEv} {mi : xMi} {y : MethodName} {cc : ByteArray} {nL : Nat} {ret : Option FieldType} {j : Nat} {code : List (Nat × xEn)} (hj : mi j = (y, cc, nL, ret)) (hp : plainName y.cls = true) (h : ∀ q ∈ code, xEnOK ev mi y.cls y.name cc nL ret q) : xMethOK ev mi y.cls y.name j code := by
  unfold xMethOK
  rw [hj]
  exact ⟨rfl, rfl, hp, fun pc op hm => h _ hm, fun pc kind j' k ci hm => h _ hm, fun pc k hm => h _ hm⟩
theorem xcm {mi : xMi} {X : Prop} {own : String} {cc : ByteArray} {pc kind j k ci : Nat} {y : MethodName} {bytes : ByteArray} {maxL : Nat} {ret : Option FieldType} (hj : mi j = (y, bytes, maxL, ret)) (h : xCallOK own cc pc kind k ci y bytes maxL ret) : X ∨ xCallOK own cc pc kind k ci (mi j).1 (mi j).2.1 (mi j).2.2.1 (mi j).2.2.2 := by
  rw [hj]
  exact Or.inr h
