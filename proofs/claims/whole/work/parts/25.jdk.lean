section YJDK
variable {rt : List Nat} {F : xH} {ev : xEv} {prim : xRel} {T : yT} {S : yS}
theorem yJ_yJ (S : yS) (o k : Nat) (f g : Nat → Int64) : yJ (yJ S o k f) o k g = yJ S o k g := by
  unfold yJ
  congr 1
  congr 1
  funext o' k'
  by_cases h : o' = o ∧ k' = k <;> simp [h]
theorem yJ_self (S : yS) (o k : Nat) : yJ S o k (S.2.2 o k) = S := by
  unfold yJ
  congr 1
  congr 1
  funext o' k'
  by_cases h : o' = o ∧ k' = k
  · obtain ⟨rfl, rfl⟩ := h; simp
  · simp [h]
theorem y_fillL {c o k n a : Nat} {d sz : Nat} (ha : yAt T c o (k + 1) a) (hq : yRow c k = some (1, n)) (hn : n < 1000) (v : Int64) : ∀ (m i : Nat) (hp : xH) (lv : xLv), i + m = n → xG lv 0 = some (.ref a) → xG lv 1 = some (.long v) → xG lv 3 = some (.int (Int32.ofNat i)) → xG lv 4 = some (.int (Int32.ofNat n)) → cR rt F ev T (yJ S o k (fun x => if x < i then v else S.2.2 o k x)) hp → yWE ev.2.1 (xstr ev) (xCalls ev xmi (xprog ev) prim d) (pJ7_fill_d0a16 ev) (6, lv, [], hp, sz, 0) (ypQ rt F ev T sz none (yJ S o k (fun x => if x < n then v else S.2.2 o k x))) := by
  intro m
  induction m with
  | zero =>
    intro i hp lv hi g0 g1 g3 g4 hM
    have hi' : i = n := by omega
    subst hi'
    refine ye_iload rfl g3 ?_
    refine ye_iload rfl g4 ?_
    refine ye_icmp_ge rfl (fun _ => ?_) (fun h => absurd (Int32.le_refl _) h)
    exact ye_ret rfl rfl ⟨hp, rfl, hM⟩
  | succ m ih =>
    intro i hp lv hi g0 g1 g3 g4 hM
    have hlt : i < n := by omega
    refine ye_iload rfl g3 ?_
    refine ye_iload rfl g4 ?_
    refine ye_icmp_ge rfl (fun h => ?_) (fun h => ?_)
    · have := (Int32.ofNat_le_iff_le (a := n) (b := i) (by omega) (by omega)).mp h
      omega
    refine ye_aload rfl g0 ?_
    refine ye_iload rfl g3 ?_
    refine ye_lload rfl g1 ?_
    have hj : (Int32.ofNat i).toNatClampNeg = i := Int32.toNatClampNeg_ofNat_of_lt (by omega)
    have hin : vp_in (Int32.ofNat i) n := by
      intro q
      rcases q with q | q
      · exact absurd (Int32.zero_le_ofNat_of_lt (a := i) (by omega)) (Int32.not_le.mpr q)
      · rw [hj] at q; omega
    refine yj_last rfl (hM.arr ha hq) hin hj ?_
    have hM1 := hM.putJ ha hq (vp_updL ((yJ S o k (fun x => if x < i then v else S.2.2 o k x)).2.2 o k) i v)
    rw [yJ_yJ, yJ_same] at hM1
    have e : vp_updL (fun x => if x < i then v else S.2.2 o k x) i v = (fun x => if x < i + 1 then v else S.2.2 o k x) := by
      funext x
      unfold vp_updL
      by_cases h1 : x = i
      · rw [if_pos h1, if_pos (by omega)]
      · rw [if_neg h1]
        show (if x < i then v else S.2.2 o k x) = _
        by_cases h2 : x < i
        · rw [if_pos h2, if_pos (by omega)]
        · rw [if_neg h2, if_neg (by omega)]
    rw [e] at hM1
    rw [yJ_same, e]
    generalize xU _ _ _ = hp1 at hM1 ⊢
    refine ye_iinc rfl g3 ?_
    have e3 : Int32.ofNat i + 1 = Int32.ofNat (i + 1) := by rw [Int32.ofNat_add]; rfl
    rw [e3]
    refine ye_p rfl rfl ?_
    exact ih (i + 1) hp1 _ (by omega) (xG_o1 g0 rfl) (xG_o1 g1 rfl) (xG_same _ _ _) (xG_o1 g4 rfl) hM1
theorem y_fill {c o k n a : Nat} {d : Nat} (ha : yAt T c o (k + 1) a) (hq : yRow c k = some (1, n)) (hn : n < 1000) (v : Int64) (hp : xH) (sz : Nat) (hM : cR rt F ev T S hp) : ∃ hp', xCalls ev xmi (xprog ev) prim (d + 1) 309 [.ref a, .long v] hp sz (none, hp', sz, 0) ∧ cR rt F ev T (yJ S o k (fun i => if i < n then v else S.2.2 o k i)) hp' := by
  refine ykQ.of (pg_309 ev) mi_309 (Nat.le_of_ble_eq_true rfl) (fun hp sz hM => ?_) hp sz hM
  refine ye_p rfl rfl ?_
  refine ye_p rfl rfl ?_
  refine ye_aload rfl rfl ?_
  refine ye_alen rfl (hM.arr ha hq) ?_
  refine ye_p rfl rfl ?_
  refine y_fillL ha hq hn v n 0 hp _ (by omega) rfl rfl rfl rfl ?_
  have e : (fun x => if x < 0 then v else S.2.2 o k x) = S.2.2 o k := by
    funext x
    rw [if_neg (by omega)]
  rw [e, yJ_self]
  exact hM
def sFnd : List Int32 → Nat → Int32 → Int32
  | [], _, _ => -1
  | b :: r, i, c => if b = c then Int32.ofNat i else sFnd r (i + 1) c
theorem y_charL {d sz m : Nat} (hm : m < 4) (hp : xH) (c : Int32) : ∀ (r : List Int32) (i : Nat) (lv : xLv), i + r.length = xsLen.getD m 0 → (xsByt.getD m []).drop i = r → xG lv 0 = some (.ref (ev.2.2.1 m)) → xG lv 3 = some (.int (Int32.ofNat (xsLen.getD m 0))) → xG lv 4 = some (.int c) → xG lv 5 = some (.int (Int32.ofNat i)) → yWE ev.2.1 (xstr ev) (xCalls ev xmi (xprog ev) prim d) (pJ1_indexOfChar_4cfef ev) (7, lv, [], hp, sz, 0) (ypP hp sz (.int (sFnd r i c))) := by
  have hL : xsLen.getD m 0 < 100 := by
    rcases m with _ | _ | _ | _ | m
    · decide
    · decide
    · decide
    · decide
    · omega
  intro r
  induction r with
  | nil =>
    intro i lv hi hd g0 g3 g4 g5
    have hi' : i = xsLen.getD m 0 := by simpa using hi
    refine ye_iload rfl g5 ?_
    refine ye_iload rfl g3 ?_
    refine ye_icmp_ge rfl (fun _ => ?_) (fun h => absurd (by rw [hi']; exact Int32.le_refl _) h)
    refine ye_p rfl rfl ?_
    exact ye_ret rfl rfl rfl
  | cons b r ih =>
    intro i lv hi hd g0 g3 g4 g5
    have hi' : i + (r.length + 1) = xsLen.getD m 0 := by simpa using hi
    refine ye_iload rfl g5 ?_
    refine ye_iload rfl g3 ?_
    refine ye_icmp_ge rfl (fun h => ?_) (fun h => ?_)
    · have := (Int32.ofNat_le_iff_le (a := xsLen.getD m 0) (b := i) (by omega) (by omega)).mp h
      omega
    refine ye_aload rfl g0 ?_
    refine ye_iload rfl g5 ?_
    have hj : (Int32.ofNat i).toNatClampNeg = i := Int32.toNatClampNeg_ofNat_of_lt (by omega)
    refine ye_fs rfl ⟨m, _, _, _, _, _, _, Int32.ofNat i, hm, ?_, rfl, rfl⟩ ?_
    · intro q
      rcases q with q | q
      · exact absurd (Int32.zero_le_ofNat_of_lt (a := i) (by omega)) (Int32.not_le.mpr q)
      · rw [hj] at q; omega
    have hb : (xsByt.getD m []).getD (Int32.ofNat i).toNatClampNeg 0 = b := by
      rw [hj, List.getD_eq_getElem?_getD]
      have h1 : ((xsByt.getD m []).drop i)[0]? = some b := by rw [hd]; rfl
      rw [List.getElem?_drop] at h1
      rw [show i + 0 = i from rfl] at h1
      rw [h1]
      rfl
    rw [hb]
    refine ye_iload rfl g4 ?_
    unfold sFnd
    refine ye_icmp_ne rfl (fun h => ?_) (fun h => ?_)
    · rw [if_neg h]
      refine ye_iinc rfl g5 ?_
      have e3 : Int32.ofNat i + 1 = Int32.ofNat (i + 1) := by rw [Int32.ofNat_add]; rfl
      rw [e3]
      refine ye_p rfl rfl ?_
      refine ih (i + 1) _ (by omega) ?_ (xG_o1 g0 rfl) (xG_o1 g3 rfl) (xG_o1 g4 rfl) (xG_same _ _ _)
      have h1 := congrArg List.tail hd
      rw [List.tail_drop] at h1
      exact h1
    · rw [if_pos (Decidable.of_not_not h)]
      refine ye_iload rfl g5 ?_
      exact ye_ret rfl rfl rfl
def sIdx (m : Nat) (c : Int32) : Int32 := if c < 0 then -1 else if 255 < c then -1 else sFnd (xsByt.getD m []) 0 c.toInt8.toInt32
theorem yc_run {d j : Nat} {av : List Value} {hp : xH} {sz : Nat} {v : Value} {code : List (Nat × xEn)} {y : MethodName} {cc : ByteArray} {nL : Nat} {ret : Option FieldType} (hj : xprog ev j = code) (hn : xmi j = (y, cc, nL, ret)) (hlen : (lg_sl av).length ≤ nL) (h : yWE ev.2.1 (xstr ev) (xCalls ev xmi (xprog ev) prim d) code (0, lv_args 0 av, [], hp, sz, 0) (ypP hp sz v)) : xCalls ev xmi (xprog ev) prim (d + 1) j av hp sz (some v, hp, sz, 0) := by
  obtain ⟨q, h1, h2⟩ := yc_of hj hn hlen (fun s hs => by cases hs) h
  have h3 : q = (some v, hp, sz, 0) := Sum.inl.inj h2
  rw [← h3]
  exact h1
theorem y_canEncode {d : Nat} (c : Int32) (hp : xH) (sz : Nat) : xCalls ev xmi (xprog ev) prim (d + 1) 306 [.int c] hp sz (some (.int (if c < 0 then 0 else if 255 < c then 0 else 1)), hp, sz, 0) := by
  refine yc_run (pg_306 ev) mi_306 (Nat.le_of_ble_eq_true rfl) ?_
  refine ye_iload rfl rfl ?_
  refine ye_if_lt rfl (fun h => ?_) (fun h => ?_)
  · rw [if_pos h]
    refine ye_p rfl rfl ?_
    exact ye_ret rfl rfl rfl
  · rw [if_neg h]
    refine ye_iload rfl rfl ?_
    refine ye_p rfl rfl ?_
    refine ye_icmp_gt rfl (fun h2 => ?_) (fun h2 => ?_)
    · rw [if_pos h2]
      refine ye_p rfl rfl ?_
      exact ye_ret rfl rfl rfl
    · rw [if_neg h2]
      refine ye_p rfl rfl ?_
      refine ye_p rfl rfl ?_
      exact ye_ret rfl rfl rfl
theorem y_latin {d m : Nat} (hm : m < 4) (hp : xH) (sz : Nat) : xCalls ev xmi (xprog ev) prim (d + 1) 305 [.ref (ev.2.1 m)] hp sz (some (.int 1), hp, sz, 0) := by
  refine yc_run (pg_305 ev) mi_305 (Nat.le_of_ble_eq_true rfl) ?_
  refine ye_p rfl rfl ?_
  refine ye_if_eq rfl (fun h => absurd h (by decide)) (fun _ => ?_)
  refine ye_aload rfl rfl ?_
  refine ye_fs rfl ⟨m, _, _, _, _, _, _, hm, rfl, rfl⟩ ?_
  refine ye_if_ne rfl (fun h => absurd rfl h) (fun _ => ?_)
  refine ye_p rfl rfl ?_
  refine ye_p rfl rfl ?_
  exact ye_ret rfl rfl rfl
theorem y_coder {d m : Nat} (hm : m < 4) (hp : xH) (sz : Nat) : xCalls ev xmi (xprog ev) prim (d + 1) 304 [.ref (ev.2.1 m)] hp sz (some (.int 0), hp, sz, 0) := by
  refine yc_run (pg_304 ev) mi_304 (Nat.le_of_ble_eq_true rfl) ?_
  refine ye_p rfl rfl ?_
  refine ye_if_eq rfl (fun h => absurd h (by decide)) (fun _ => ?_)
  refine ye_aload rfl rfl ?_
  refine ye_fs rfl ⟨m, _, _, _, _, _, _, hm, rfl, rfl⟩ ?_
  refine ye_p rfl rfl ?_
  exact ye_ret rfl rfl rfl
theorem y_length {d m : Nat} (hm : m < 4) (hp : xH) (sz : Nat) : xCalls ev xmi (xprog ev) prim (d + 2) 301 [.ref (ev.2.1 m)] hp sz (some (.int (Int32.ofNat (xsLen.getD m 0))), hp, sz, 0) := by
  refine yc_run (pg_301 ev) mi_301 (Nat.le_of_ble_eq_true rfl) ?_
  refine ye_aload rfl rfl ?_
  refine ye_fs rfl ⟨m, _, _, _, _, _, _, hm, rfl, rfl⟩ ?_
  refine ye_fs rfl ⟨m, _, _, _, _, _, _, hm, rfl, rfl⟩ ?_
  refine ye_aload rfl rfl ?_
  refine ye_callT (i := m) (As := []) (rest := [.int (Int32.ofNat (xsLen.getD m 0))]) rfl hm rfl rfl (Nat.le_of_ble_eq_true rfl) (y_coder hm hp sz) ?_
  refine ye_p rfl rfl ?_
  have e : Int32.ofNat (xsLen.getD m 0) >>> (0 &&& 31) = Int32.ofNat (xsLen.getD m 0) := by
    rcases m with _ | _ | _ | _ | m
    · decide
    · decide
    · decide
    · decide
    · omega
  exact ye_ret rfl rfl (congrArg (fun z => Sum.inl (some (Value.int z), hp, sz, 0)) e)
theorem y_latinIdx {d m : Nat} (hm : m < 4) (c : Int32) (hp : xH) (sz : Nat) : xCalls ev xmi (xprog ev) prim (d + 2) 307 [.ref (ev.2.2.1 m), .int c, .int 0, .int (Int32.ofNat (xsLen.getD m 0))] hp sz (some (.int (sIdx m c)), hp, sz, 0) := by
  have hL : 0 < xsLen.getD m 0 ∧ xsLen.getD m 0 < 100 ∧ (xsByt.getD m []).length = xsLen.getD m 0 := by
    rcases m with _ | _ | _ | _ | m
    · decide
    · decide
    · decide
    · decide
    · omega
  obtain ⟨hL1, hL2, hL3⟩ := hL
  refine yc_run (pg_307 ev) mi_307 (Nat.le_of_ble_eq_true rfl) ?_
  unfold sIdx
  refine ye_iload rfl rfl ?_
  refine ye_callS (As := [.int c]) (rest := []) 1 (Or.inl rfl) rfl rfl rfl (Nat.le_of_ble_eq_true rfl) (y_canEncode c hp sz) ?_
  by_cases h1 : c < 0
  · rw [if_pos h1, if_pos h1]
    refine ye_if_ne rfl (fun h => absurd rfl h) (fun _ => ?_)
    refine ye_p rfl rfl ?_
    exact ye_ret rfl rfl rfl
  by_cases h2 : 255 < c
  · rw [if_neg h1, if_neg h1, if_pos h2, if_pos h2]
    refine ye_if_ne rfl (fun h => absurd rfl h) (fun _ => ?_)
    refine ye_p rfl rfl ?_
    exact ye_ret rfl rfl rfl
  rw [if_neg h1, if_neg h1, if_neg h2, if_neg h2]
  refine ye_if_ne rfl (fun _ => ?_) (fun h => absurd (by decide) h)
  refine ye_iload rfl rfl ?_
  refine ye_p rfl rfl ?_
  refine ye_p rfl rfl ?_
  refine ye_p rfl rfl ?_
  refine ye_iload rfl rfl ?_
  refine ye_aload rfl rfl ?_
  refine ye_fs rfl ⟨m, _, _, _, _, _, _, hm, rfl, rfl⟩ ?_
  refine ye_p rfl rfl ?_
  rw [show (fun x y : Int32 => if y < x then y else x) (Int32.ofNat (xsLen.getD m 0)) (Int32.ofNat (xsLen.getD m 0)) = Int32.ofNat (xsLen.getD m 0) from if_neg (by first | exact Int32.lt_irrefl | exact Int32.lt_irrefl _)]
  refine ye_p rfl rfl ?_
  refine ye_iload rfl rfl ?_
  refine ye_iload rfl rfl ?_
  refine ye_icmp_lt rfl (fun _ => ?_) (fun h => ?_)
  · refine ye_aload rfl rfl ?_
    refine ye_iload rfl rfl ?_
    refine ye_iload rfl rfl ?_
    refine ye_iload rfl rfl ?_
    refine ye_callS (As := [.ref (ev.2.2.1 m), .int c, .int (if (0 : Int32) < 0 then 0 else 0), .int (Int32.ofNat (xsLen.getD m 0))]) (rest := []) 1 (Or.inl rfl) rfl rfl rfl (Nat.le_of_ble_eq_true rfl) (hp' := hp) (sz' := sz) (sl' := 0) (rv := some (.int (sFnd (xsByt.getD m []) 0 c.toInt8.toInt32))) ?_ ?_
    · refine yc_run (pg_308 ev) mi_308 (Nat.le_of_ble_eq_true rfl) ?_
      refine ye_iload rfl rfl ?_
      refine ye_p rfl rfl ?_
      refine ye_p rfl rfl ?_
      refine ye_iload rfl rfl ?_
      refine ye_p rfl rfl ?_
      exact y_charL hm hp _ (xsByt.getD m []) 0 _ (by omega) rfl rfl rfl rfl rfl
    · exact ye_ret rfl rfl rfl
  · exfalso
    apply h
    have := (Int32.ofNat_lt_iff_lt (a := 0) (b := xsLen.getD m 0) (by omega) (by omega)).mpr hL1
    exact this
theorem y_indexOf {d : Nat} (m : Nat) (c : Int32) (hm : m < 4) (hp : xH) (sz : Nat) : xCalls ev xmi (xprog ev) prim (d + 4) 302 [.ref (ev.2.1 m), .int c] hp sz (some (.int (sIdx m c)), hp, sz, 0) := by
  refine yc_run (pg_302 ev) mi_302 (Nat.le_of_ble_eq_true rfl) ?_
  refine ye_aload rfl rfl ?_
  refine ye_iload rfl rfl ?_
  refine ye_p rfl rfl ?_
  refine ye_callT (i := m) (As := [.int c, .int 0]) (rest := []) rfl hm rfl rfl (Nat.le_of_ble_eq_true rfl) (hp' := hp) (sz' := sz) (sl' := 0) (rv := some (.int (sIdx m c))) ?_ ?_
  · refine yc_run (pg_303 ev) mi_303 (Nat.le_of_ble_eq_true rfl) ?_
    refine ye_aload rfl rfl ?_
    refine ye_callT (i := m) (As := []) (rest := []) rfl hm rfl rfl (Nat.le_of_ble_eq_true rfl) (y_latin hm hp sz) ?_
    refine ye_if_eq rfl (fun h => absurd h (by decide)) (fun _ => ?_)
    refine ye_aload rfl rfl ?_
    refine ye_fs rfl ⟨m, _, _, _, _, _, _, hm, rfl, rfl⟩ ?_
    refine ye_iload rfl rfl ?_
    refine ye_iload rfl rfl ?_
    refine ye_aload rfl rfl ?_
    refine ye_callT (i := m) (As := []) (rest := [.int 0, .int c, .ref (ev.2.2.1 m)]) rfl hm rfl rfl (Nat.le_of_ble_eq_true rfl) (y_length hm hp sz) ?_
    refine ye_callS (As := [.ref (ev.2.2.1 m), .int c, .int 0, .int (Int32.ofNat (xsLen.getD m 0))]) (rest := []) 1 (Or.inl rfl) rfl rfl rfl (Nat.le_of_ble_eq_true rfl) (y_latinIdx hm c hp sz) ?_
    refine ye_p rfl rfl ?_
    exact ye_ret rfl rfl rfl
  · exact ye_ret rfl rfl rfl
end YJDK
