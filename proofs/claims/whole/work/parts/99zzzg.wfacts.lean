/-! WHAT THE SEVEN WRAPPERS COME TO (gen_zzg.py) -/
theorem vp_01 : vp_in 0 1 := by unfold vp_in; decide
theorem xw_law13 : Cond.classLink RL 13 nseN ∈ xT := xwm' (xin_7 _ (List.mem_of_getElem? (i := 11) (by decide +kernel))) (by decide +kernel)
theorem W_sky {ev : xEv} {prim : xRel} {N aC aM oA : Nat} {X : xH} {i : Int32} {lv : xLv} {TC TM : yT} {SC SM : yS} {hp : xH} (hA : ∀ d, xAllM ev prim d) (hN : 3000 < N) (I : Inv ev aC aM oA X i lv TC SC TM SM hp) (x1 x2 x3 : Int32) : WF ev (wCon ev 580 yL_sky cL_sky 6 [(0, 12, 15, 13)] [.ref aC, .int x1, .int x2, .int x3, .ref oA] hp TC.2.2.1) oA X TC TM SM Int32.toInt64 (f_X12_sky2 N SM x1 x2 x3) := by
  have fC := I.2.2.2.1
  have oC := I.2.1.1.obj fC ⟨rfl, rfl⟩
  refine WF_of (prim := prim) (val := Value.int) (j := 134) (w := [24]) (avj := [.ref aC, .int x1, .int x2, .int x3]) (C_sky I.2.2.1 (Nat.lt_of_le_of_lt (by decide) hN) x1 x2 x3) I.2.1 I.2.2.2.2.2 (pg_134 ev) mi_134 (Nat.le_of_ble_eq_true rfl) (fun v S' e F hR => m_X11_sky (F := F) (d := 577) N SC x1 x2 x3 aC fC e hp TC.2.2.1 hR) (fun v hp1 g c1 ho => ?_) (fun n pc lv1 hp1 hpc hr => ?_)
  · have hw : yWE ev.2.1 (xstr ev) (xCalls ev xmi (xprog ev) prim 580) (pL_sky ev) (0, lv_args 0 [.ref aC, .int x1, .int x2, .int x3, .ref oA], [], hp, TC.2.2.1, 0) (fun q => q = .inl (some (.int 0), xU hp1 oA (.inl (ev.1 1, 1, .inr (.inl (vp_updL g 0 (Int32.toInt64 v))))), TC.2.2.1, 0)) := by
      refine ye_aload (pc := 0) rfl rfl ?_
      refine ye_p (pc := 2) rfl rfl ?_
      refine ye_aload (pc := 3) rfl rfl ?_
      refine ye_iload (pc := 4) rfl rfl ?_
      refine ye_iload (pc := 5) rfl rfl ?_
      refine ye_iload (pc := 6) rfl rfl ?_
      refine ye_callV (pc := 7) (As := [.int x1, .int x2, .int x3]) (rest := [.int 0, .ref oA]) 0 (Or.inl rfl) rfl rfl rfl (Nat.le_of_ble_eq_true rfl) oC c1 ?_
      refine ye_p (pc := 10) rfl rfl ?_
      refine ye_last (pc := 11) rfl ho vp_01 ?_
      refine ye_p (pc := 12) rfl rfl ?_
      refine ye_p (pc := 19) rfl rfl ?_
      exact ye_ret (pc := 20) rfl rfl rfl
    obtain ⟨n, hn⟩ := ye_run hw
    obtain ⟨m1, m2⟩ := wr_norm (y := yL_sky) (hh := [(0, 12, 15, 13)]) (hA 580) (by decide +kernel) (okL_sky ev) (Nat.le_of_ble_eq_true rfl) hn
    exact ⟨m1, fun l D _ => m2 l D⟩
  · have hw : yWE ev.2.1 (xstr ev) (xCalls ev xmi (xprog ev) prim 580) (pL_sky ev) (0, lv_args 0 [.ref aC, .int x1, .int x2, .int x3, .ref oA], [], hp, TC.2.2.1, 0) (fun q => q = .inr (7, lv_args 0 [.ref aC, .int x1, .int x2, .int x3, .ref oA], ([.int x1, .int x2, .int x3] : List Value).reverse ++ .ref aC :: [.int 0, .ref oA], hp, TC.2.2.1, 0)) := by
      refine ye_aload (pc := 0) rfl rfl ?_
      refine ye_p (pc := 2) rfl rfl ?_
      refine ye_aload (pc := 3) rfl rfl ?_
      refine ye_iload (pc := 4) rfl rfl ?_
      refine ye_iload (pc := 5) rfl rfl ?_
      refine ye_iload (pc := 6) rfl rfl ?_
      exact ye_end
    obtain ⟨n1, hn⟩ := ye_rch hw
    have ht : ∀ q : Nat, ∃ n2, xrun ev.2.1 (xstr ev) (xCalls ev xmi (xprog ev) prim 580) (pL_sky ev) n2 (15, lv_args 0 [.ref aC, .int x1, .int x2, .int x3, .ref oA], [.ref q], hp1, TC.2.2.1 + 1, 0 + 6) (some (.int 1), hp1, TC.2.2.1 + 1, 0 + 6) := fun q => by
      refine ye_run ?_
      refine ye_p (pc := 15) rfl rfl ?_
      refine ye_p (pc := 17) rfl rfl ?_
      exact ye_ret (pc := 18) rfl rfl rfl
    have e : pc = 24 := by simpa using hpc
    subst e
    have hthr := x_throws (d := 579) (j := 134) (nm := yX11_sky.name) (hA 579) (omX11_sky ev) (Nat.le_of_ble_eq_true rfl) hr (is := 117) (i := 4) (tx := "no such leg, quarter or what") (List.mem_of_getElem? (i := 4) rfl) ⟨by decide +kernel, by decide +kernel, Or.inl ⟨by decide +kernel, by decide +kernel, by decide +kernel⟩⟩
    exact wr_thr (y := yL_sky) (dj := 579) (j := 134) (k := 3) (As := [.int x1, .int x2, .int x3]) (by decide) (Nat.le_of_ble_eq_true rfl) (hA 580) (by decide +kernel) (okL_sky ev) (Nat.le_of_ble_eq_true rfl) hn (xfind_mem rfl) rfl (Nat.le_of_ble_eq_true rfl) oC hthr (by decide) xw_law13 ht
theorem W_heard {ev : xEv} {prim : xRel} {N aC aM oA : Nat} {X : xH} {i : Int32} {lv : xLv} {TC TM : yT} {SC SM : yS} {hp : xH} (hA : ∀ d, xAllM ev prim d) (hN : 3000 < N) (I : Inv ev aC aM oA X i lv TC SC TM SM hp) (x1 x2 x3 x4 : Int32) : WF ev (wCon ev 580 yL_heard cL_heard 7 [(0, 14, 17, 13)] [.ref aC, .int x1, .int x2, .int x3, .int x4, .ref oA] hp TC.2.2.1) oA X TC TM SM Int32.toInt64 (f_X12_heard N SM x1 x2 x3 x4) := by
  have fC := I.2.2.2.1
  have oC := I.2.1.1.obj fC ⟨rfl, rfl⟩
  refine WF_of (prim := prim) (val := Value.int) (j := 136) (w := [33, 64]) (avj := [.ref aC, .int x1, .int x2, .int x3, .int x4]) (C_heard I.2.2.1 (Nat.lt_of_le_of_lt (by decide) hN) x1 x2 x3 x4) I.2.1 I.2.2.2.2.2 (pg_136 ev) mi_136 (Nat.le_of_ble_eq_true rfl) (fun v S' e F hR => m_X11_heard (F := F) (d := 577) N SC x1 x2 x3 x4 aC fC e hp TC.2.2.1 hR) (fun v hp1 g c1 ho => ?_) (fun n pc lv1 hp1 hpc hr => ?_)
  · have hw : yWE ev.2.1 (xstr ev) (xCalls ev xmi (xprog ev) prim 580) (pL_heard ev) (0, lv_args 0 [.ref aC, .int x1, .int x2, .int x3, .int x4, .ref oA], [], hp, TC.2.2.1, 0) (fun q => q = .inl (some (.int 0), xU hp1 oA (.inl (ev.1 1, 1, .inr (.inl (vp_updL g 0 (Int32.toInt64 v))))), TC.2.2.1, 0)) := by
      refine ye_aload (pc := 0) rfl rfl ?_
      refine ye_p (pc := 2) rfl rfl ?_
      refine ye_aload (pc := 3) rfl rfl ?_
      refine ye_iload (pc := 4) rfl rfl ?_
      refine ye_iload (pc := 5) rfl rfl ?_
      refine ye_iload (pc := 6) rfl rfl ?_
      refine ye_iload (pc := 7) rfl rfl ?_
      refine ye_callV (pc := 9) (As := [.int x1, .int x2, .int x3, .int x4]) (rest := [.int 0, .ref oA]) 0 (Or.inl rfl) rfl rfl rfl (Nat.le_of_ble_eq_true rfl) oC c1 ?_
      refine ye_p (pc := 12) rfl rfl ?_
      refine ye_last (pc := 13) rfl ho vp_01 ?_
      refine ye_p (pc := 14) rfl rfl ?_
      refine ye_p (pc := 21) rfl rfl ?_
      exact ye_ret (pc := 22) rfl rfl rfl
    obtain ⟨n, hn⟩ := ye_run hw
    obtain ⟨m1, m2⟩ := wr_norm (y := yL_heard) (hh := [(0, 14, 17, 13)]) (hA 580) (by decide +kernel) (okL_heard ev) (Nat.le_of_ble_eq_true rfl) hn
    exact ⟨m1, fun l D _ => m2 l D⟩
  · have hw : yWE ev.2.1 (xstr ev) (xCalls ev xmi (xprog ev) prim 580) (pL_heard ev) (0, lv_args 0 [.ref aC, .int x1, .int x2, .int x3, .int x4, .ref oA], [], hp, TC.2.2.1, 0) (fun q => q = .inr (9, lv_args 0 [.ref aC, .int x1, .int x2, .int x3, .int x4, .ref oA], ([.int x1, .int x2, .int x3, .int x4] : List Value).reverse ++ .ref aC :: [.int 0, .ref oA], hp, TC.2.2.1, 0)) := by
      refine ye_aload (pc := 0) rfl rfl ?_
      refine ye_p (pc := 2) rfl rfl ?_
      refine ye_aload (pc := 3) rfl rfl ?_
      refine ye_iload (pc := 4) rfl rfl ?_
      refine ye_iload (pc := 5) rfl rfl ?_
      refine ye_iload (pc := 6) rfl rfl ?_
      refine ye_iload (pc := 7) rfl rfl ?_
      exact ye_end
    obtain ⟨n1, hn⟩ := ye_rch hw
    have ht : ∀ q : Nat, ∃ n2, xrun ev.2.1 (xstr ev) (xCalls ev xmi (xprog ev) prim 580) (pL_heard ev) n2 (17, lv_args 0 [.ref aC, .int x1, .int x2, .int x3, .int x4, .ref oA], [.ref q], hp1, TC.2.2.1 + 1, 0 + 6) (some (.int 1), hp1, TC.2.2.1 + 1, 0 + 6) := fun q => by
      refine ye_run ?_
      refine ye_p (pc := 17) rfl rfl ?_
      refine ye_p (pc := 19) rfl rfl ?_
      exact ye_ret (pc := 20) rfl rfl rfl
    have e : pc = 33 ∨ pc = 64 := by simpa using hpc
    rcases e with e | e
    · subst e
      have hthr := x_throws (d := 579) (j := 136) (nm := yX11_heard.name) (hA 579) (omX11_heard ev) (Nat.le_of_ble_eq_true rfl) hr (is := 144) (i := 5) (tx := "no such field, leg, quarter or what") (List.mem_of_getElem? (i := 5) rfl) ⟨by decide +kernel, by decide +kernel, Or.inl ⟨by decide +kernel, by decide +kernel, by decide +kernel⟩⟩
      exact wr_thr (y := yL_heard) (dj := 579) (j := 136) (k := 4) (As := [.int x1, .int x2, .int x3, .int x4]) (by decide) (Nat.le_of_ble_eq_true rfl) (hA 580) (by decide +kernel) (okL_heard ev) (Nat.le_of_ble_eq_true rfl) hn (xfind_mem rfl) rfl (Nat.le_of_ble_eq_true rfl) oC hthr (by decide) xw_law13 ht
    · subst e
      have hthr := x_throws (d := 579) (j := 136) (nm := yX11_heard.name) (hA 579) (omX11_heard ev) (Nat.le_of_ble_eq_true rfl) hr (is := 150) (i := 6) (tx := "no word has come") (List.mem_of_getElem? (i := 6) rfl) ⟨by decide +kernel, by decide +kernel, Or.inl ⟨by decide +kernel, by decide +kernel, by decide +kernel⟩⟩
      exact wr_thr (y := yL_heard) (dj := 579) (j := 136) (k := 4) (As := [.int x1, .int x2, .int x3, .int x4]) (by decide) (Nat.le_of_ble_eq_true rfl) (hA 580) (by decide +kernel) (okL_heard ev) (Nat.le_of_ble_eq_true rfl) hn (xfind_mem rfl) rfl (Nat.le_of_ble_eq_true rfl) oC hthr (by decide) xw_law13 ht
theorem W_of {ev : xEv} {prim : xRel} {N aC aM oA : Nat} {X : xH} {i : Int32} {lv : xLv} {TC TM : yT} {SC SM : yS} {hp : xH} (hA : ∀ d, xAllM ev prim d) (hN : 3000 < N) (I : Inv ev aC aM oA X i lv TC SC TM SM hp) (x1 x2 : Int32) : WF ev (wCon ev 580 yL_of cL_of 5 [(0, 10, 13, 13)] [.ref aC, .int x1, .int x2, .ref oA] hp TC.2.2.1) oA X TC TM SM Int32.toInt64 (f_X12_of N SM x1 x2) := by
  have fC := I.2.2.2.1
  have oC := I.2.1.1.obj fC ⟨rfl, rfl⟩
  refine WF_of (prim := prim) (val := Value.int) (j := 154) (w := [8, 181]) (avj := [.ref aC, .int x1, .int x2]) (C_of I.2.2.1 (Nat.lt_of_le_of_lt (by decide) hN) x1 x2) I.2.1 I.2.2.2.2.2 (pg_154 ev) mi_154 (Nat.le_of_ble_eq_true rfl) (fun v S' e F hR => m_X11_of (F := F) (d := 577) N SC x1 x2 aC fC e hp TC.2.2.1 hR) (fun v hp1 g c1 ho => ?_) (fun n pc lv1 hp1 hpc hr => ?_)
  · have hw : yWE ev.2.1 (xstr ev) (xCalls ev xmi (xprog ev) prim 580) (pL_of ev) (0, lv_args 0 [.ref aC, .int x1, .int x2, .ref oA], [], hp, TC.2.2.1, 0) (fun q => q = .inl (some (.int 0), xU hp1 oA (.inl (ev.1 1, 1, .inr (.inl (vp_updL g 0 (Int32.toInt64 v))))), TC.2.2.1, 0)) := by
      refine ye_aload (pc := 0) rfl rfl ?_
      refine ye_p (pc := 1) rfl rfl ?_
      refine ye_aload (pc := 2) rfl rfl ?_
      refine ye_iload (pc := 3) rfl rfl ?_
      refine ye_iload (pc := 4) rfl rfl ?_
      refine ye_callV (pc := 5) (As := [.int x1, .int x2]) (rest := [.int 0, .ref oA]) 0 (Or.inl rfl) rfl rfl rfl (Nat.le_of_ble_eq_true rfl) oC c1 ?_
      refine ye_p (pc := 8) rfl rfl ?_
      refine ye_last (pc := 9) rfl ho vp_01 ?_
      refine ye_p (pc := 10) rfl rfl ?_
      refine ye_p (pc := 17) rfl rfl ?_
      exact ye_ret (pc := 18) rfl rfl rfl
    obtain ⟨n, hn⟩ := ye_run hw
    obtain ⟨m1, m2⟩ := wr_norm (y := yL_of) (hh := [(0, 10, 13, 13)]) (hA 580) (by decide +kernel) (okL_of ev) (Nat.le_of_ble_eq_true rfl) hn
    exact ⟨m1, fun l D _ => m2 l D⟩
  · have hw : yWE ev.2.1 (xstr ev) (xCalls ev xmi (xprog ev) prim 580) (pL_of ev) (0, lv_args 0 [.ref aC, .int x1, .int x2, .ref oA], [], hp, TC.2.2.1, 0) (fun q => q = .inr (5, lv_args 0 [.ref aC, .int x1, .int x2, .ref oA], ([.int x1, .int x2] : List Value).reverse ++ .ref aC :: [.int 0, .ref oA], hp, TC.2.2.1, 0)) := by
      refine ye_aload (pc := 0) rfl rfl ?_
      refine ye_p (pc := 1) rfl rfl ?_
      refine ye_aload (pc := 2) rfl rfl ?_
      refine ye_iload (pc := 3) rfl rfl ?_
      refine ye_iload (pc := 4) rfl rfl ?_
      exact ye_end
    obtain ⟨n1, hn⟩ := ye_rch hw
    have ht : ∀ q : Nat, ∃ n2, xrun ev.2.1 (xstr ev) (xCalls ev xmi (xprog ev) prim 580) (pL_of ev) n2 (13, lv_args 0 [.ref aC, .int x1, .int x2, .ref oA], [.ref q], hp1, TC.2.2.1 + 1, 0 + 6) (some (.int 1), hp1, TC.2.2.1 + 1, 0 + 6) := fun q => by
      refine ye_run ?_
      refine ye_p (pc := 13) rfl rfl ?_
      refine ye_p (pc := 15) rfl rfl ?_
      exact ye_ret (pc := 16) rfl rfl rfl
    have e : pc = 8 ∨ pc = 181 := by simpa using hpc
    rcases e with e | e
    · subst e
      have hthr := x_throws (d := 579) (j := 154) (nm := yX11_of.name) (hA 579) (omX11_of ev) (Nat.le_of_ble_eq_true rfl) hr (is := 334) (i := 7) (tx := "no such plane") (List.mem_of_getElem? (i := 7) rfl) ⟨by decide +kernel, by decide +kernel, Or.inr ⟨by decide +kernel, by decide +kernel, by decide +kernel⟩⟩
      exact wr_thr (y := yL_of) (dj := 579) (j := 154) (k := 2) (As := [.int x1, .int x2]) (by decide) (Nat.le_of_ble_eq_true rfl) (hA 580) (by decide +kernel) (okL_of ev) (Nat.le_of_ble_eq_true rfl) hn (xfind_mem rfl) rfl (Nat.le_of_ble_eq_true rfl) oC hthr (by decide) xw_law13 ht
    · subst e
      have hthr := x_throws (d := 579) (j := 154) (nm := yX11_of.name) (hA 579) (omX11_of ev) (Nat.le_of_ble_eq_true rfl) hr (is := 372) (i := 8) (tx := "no such what") (List.mem_of_getElem? (i := 8) rfl) ⟨by decide +kernel, by decide +kernel, Or.inr ⟨by decide +kernel, by decide +kernel, by decide +kernel⟩⟩
      exact wr_thr (y := yL_of) (dj := 579) (j := 154) (k := 2) (As := [.int x1, .int x2]) (by decide) (Nat.le_of_ble_eq_true rfl) (hA 580) (by decide +kernel) (okL_of ev) (Nat.le_of_ble_eq_true rfl) hn (xfind_mem rfl) rfl (Nat.le_of_ble_eq_true rfl) oC hthr (by decide) xw_law13 ht
theorem W_who {ev : xEv} {prim : xRel} {N aC aM oA : Nat} {X : xH} {i : Int32} {lv : xLv} {TC TM : yT} {SC SM : yS} {hp : xH} (hA : ∀ d, xAllM ev prim d) (hN : 3000 < N) (I : Inv ev aC aM oA X i lv TC SC TM SM hp) (x1 x2 : Int32) : WF ev (wCon ev 580 yL_who cL_who 5 [(0, 10, 13, 13)] [.ref aC, .int x1, .int x2, .ref oA] hp TC.2.2.1) oA X TC TM SM Int32.toInt64 (f_X12_who N SM x1 x2) := by
  have fC := I.2.2.2.1
  have oC := I.2.1.1.obj fC ⟨rfl, rfl⟩
  refine WF_of (prim := prim) (val := Value.int) (j := 155) (w := [8, 80]) (avj := [.ref aC, .int x1, .int x2]) (C_who I.2.2.1 x1 x2) I.2.1 I.2.2.2.2.2 (pg_155 ev) mi_155 (Nat.le_of_ble_eq_true rfl) (fun v S' e F hR => m_X11_who (F := F) (d := 577) N SC x1 x2 aC fC e hp TC.2.2.1 hR) (fun v hp1 g c1 ho => ?_) (fun n pc lv1 hp1 hpc hr => ?_)
  · have hw : yWE ev.2.1 (xstr ev) (xCalls ev xmi (xprog ev) prim 580) (pL_who ev) (0, lv_args 0 [.ref aC, .int x1, .int x2, .ref oA], [], hp, TC.2.2.1, 0) (fun q => q = .inl (some (.int 0), xU hp1 oA (.inl (ev.1 1, 1, .inr (.inl (vp_updL g 0 (Int32.toInt64 v))))), TC.2.2.1, 0)) := by
      refine ye_aload (pc := 0) rfl rfl ?_
      refine ye_p (pc := 1) rfl rfl ?_
      refine ye_aload (pc := 2) rfl rfl ?_
      refine ye_iload (pc := 3) rfl rfl ?_
      refine ye_iload (pc := 4) rfl rfl ?_
      refine ye_callV (pc := 5) (As := [.int x1, .int x2]) (rest := [.int 0, .ref oA]) 0 (Or.inl rfl) rfl rfl rfl (Nat.le_of_ble_eq_true rfl) oC c1 ?_
      refine ye_p (pc := 8) rfl rfl ?_
      refine ye_last (pc := 9) rfl ho vp_01 ?_
      refine ye_p (pc := 10) rfl rfl ?_
      refine ye_p (pc := 17) rfl rfl ?_
      exact ye_ret (pc := 18) rfl rfl rfl
    obtain ⟨n, hn⟩ := ye_run hw
    obtain ⟨m1, m2⟩ := wr_norm (y := yL_who) (hh := [(0, 10, 13, 13)]) (hA 580) (by decide +kernel) (okL_who ev) (Nat.le_of_ble_eq_true rfl) hn
    exact ⟨m1, fun l D _ => m2 l D⟩
  · have hw : yWE ev.2.1 (xstr ev) (xCalls ev xmi (xprog ev) prim 580) (pL_who ev) (0, lv_args 0 [.ref aC, .int x1, .int x2, .ref oA], [], hp, TC.2.2.1, 0) (fun q => q = .inr (5, lv_args 0 [.ref aC, .int x1, .int x2, .ref oA], ([.int x1, .int x2] : List Value).reverse ++ .ref aC :: [.int 0, .ref oA], hp, TC.2.2.1, 0)) := by
      refine ye_aload (pc := 0) rfl rfl ?_
      refine ye_p (pc := 1) rfl rfl ?_
      refine ye_aload (pc := 2) rfl rfl ?_
      refine ye_iload (pc := 3) rfl rfl ?_
      refine ye_iload (pc := 4) rfl rfl ?_
      exact ye_end
    obtain ⟨n1, hn⟩ := ye_rch hw
    have ht : ∀ q : Nat, ∃ n2, xrun ev.2.1 (xstr ev) (xCalls ev xmi (xprog ev) prim 580) (pL_who ev) n2 (13, lv_args 0 [.ref aC, .int x1, .int x2, .ref oA], [.ref q], hp1, TC.2.2.1 + 1, 0 + 6) (some (.int 1), hp1, TC.2.2.1 + 1, 0 + 6) := fun q => by
      refine ye_run ?_
      refine ye_p (pc := 13) rfl rfl ?_
      refine ye_p (pc := 15) rfl rfl ?_
      exact ye_ret (pc := 16) rfl rfl rfl
    have e : pc = 8 ∨ pc = 80 := by simpa using hpc
    rcases e with e | e
    · subst e
      have hthr := x_throws (d := 579) (j := 155) (nm := yX11_who.name) (hA 579) (omX11_who ev) (Nat.le_of_ble_eq_true rfl) hr (is := 374) (i := 9) (tx := "no such pilot") (List.mem_of_getElem? (i := 9) rfl) ⟨by decide +kernel, by decide +kernel, Or.inr ⟨by decide +kernel, by decide +kernel, by decide +kernel⟩⟩
      exact wr_thr (y := yL_who) (dj := 579) (j := 155) (k := 2) (As := [.int x1, .int x2]) (by decide) (Nat.le_of_ble_eq_true rfl) (hA 580) (by decide +kernel) (okL_who ev) (Nat.le_of_ble_eq_true rfl) hn (xfind_mem rfl) rfl (Nat.le_of_ble_eq_true rfl) oC hthr (by decide) xw_law13 ht
    · subst e
      have hthr := x_throws (d := 579) (j := 155) (nm := yX11_who.name) (hA 579) (omX11_who ev) (Nat.le_of_ble_eq_true rfl) hr (is := 372) (i := 8) (tx := "no such what") (List.mem_of_getElem? (i := 8) rfl) ⟨by decide +kernel, by decide +kernel, Or.inr ⟨by decide +kernel, by decide +kernel, by decide +kernel⟩⟩
      exact wr_thr (y := yL_who) (dj := 579) (j := 155) (k := 2) (As := [.int x1, .int x2]) (by decide) (Nat.le_of_ble_eq_true rfl) (hA 580) (by decide +kernel) (okL_who ev) (Nat.le_of_ble_eq_true rfl) hn (xfind_mem rfl) rfl (Nat.le_of_ble_eq_true rfl) oC hthr (by decide) xw_law13 ht
theorem W_where {ev : xEv} {prim : xRel} {N aC aM oA : Nat} {X : xH} {i : Int32} {lv : xLv} {TC TM : yT} {SC SM : yS} {hp : xH} (hA : ∀ d, xAllM ev prim d) (hN : 3000 < N) (I : Inv ev aC aM oA X i lv TC SC TM SM hp) (x1 x2 : Int32) : WF ev (wCon ev 580 yL_where cL_where 5 [(0, 10, 13, 13)] [.ref aC, .int x1, .int x2, .ref oA] hp TC.2.2.1) oA X TC TM SM Int32.toInt64 (f_X12_where N SM x1 x2) := by
  have fC := I.2.2.2.1
  have oC := I.2.1.1.obj fC ⟨rfl, rfl⟩
  refine WF_of (prim := prim) (val := Value.int) (j := 156) (w := [8, 114]) (avj := [.ref aC, .int x1, .int x2]) (C_where I.2.2.1 (Nat.lt_of_le_of_lt (by decide) hN) x1 x2) I.2.1 I.2.2.2.2.2 (pg_156 ev) mi_156 (Nat.le_of_ble_eq_true rfl) (fun v S' e F hR => m_X11_where (F := F) (d := 574) N SC x1 x2 aC fC e hp TC.2.2.1 hR) (fun v hp1 g c1 ho => ?_) (fun n pc lv1 hp1 hpc hr => ?_)
  · have hw : yWE ev.2.1 (xstr ev) (xCalls ev xmi (xprog ev) prim 580) (pL_where ev) (0, lv_args 0 [.ref aC, .int x1, .int x2, .ref oA], [], hp, TC.2.2.1, 0) (fun q => q = .inl (some (.int 0), xU hp1 oA (.inl (ev.1 1, 1, .inr (.inl (vp_updL g 0 (Int32.toInt64 v))))), TC.2.2.1, 0)) := by
      refine ye_aload (pc := 0) rfl rfl ?_
      refine ye_p (pc := 1) rfl rfl ?_
      refine ye_aload (pc := 2) rfl rfl ?_
      refine ye_iload (pc := 3) rfl rfl ?_
      refine ye_iload (pc := 4) rfl rfl ?_
      refine ye_callV (pc := 5) (As := [.int x1, .int x2]) (rest := [.int 0, .ref oA]) 0 (Or.inl rfl) rfl rfl rfl (Nat.le_of_ble_eq_true rfl) oC c1 ?_
      refine ye_p (pc := 8) rfl rfl ?_
      refine ye_last (pc := 9) rfl ho vp_01 ?_
      refine ye_p (pc := 10) rfl rfl ?_
      refine ye_p (pc := 17) rfl rfl ?_
      exact ye_ret (pc := 18) rfl rfl rfl
    obtain ⟨n, hn⟩ := ye_run hw
    obtain ⟨m1, m2⟩ := wr_norm (y := yL_where) (hh := [(0, 10, 13, 13)]) (hA 580) (by decide +kernel) (okL_where ev) (Nat.le_of_ble_eq_true rfl) hn
    exact ⟨m1, fun l D _ => m2 l D⟩
  · have hw : yWE ev.2.1 (xstr ev) (xCalls ev xmi (xprog ev) prim 580) (pL_where ev) (0, lv_args 0 [.ref aC, .int x1, .int x2, .ref oA], [], hp, TC.2.2.1, 0) (fun q => q = .inr (5, lv_args 0 [.ref aC, .int x1, .int x2, .ref oA], ([.int x1, .int x2] : List Value).reverse ++ .ref aC :: [.int 0, .ref oA], hp, TC.2.2.1, 0)) := by
      refine ye_aload (pc := 0) rfl rfl ?_
      refine ye_p (pc := 1) rfl rfl ?_
      refine ye_aload (pc := 2) rfl rfl ?_
      refine ye_iload (pc := 3) rfl rfl ?_
      refine ye_iload (pc := 4) rfl rfl ?_
      exact ye_end
    obtain ⟨n1, hn⟩ := ye_rch hw
    have ht : ∀ q : Nat, ∃ n2, xrun ev.2.1 (xstr ev) (xCalls ev xmi (xprog ev) prim 580) (pL_where ev) n2 (13, lv_args 0 [.ref aC, .int x1, .int x2, .ref oA], [.ref q], hp1, TC.2.2.1 + 1, 0 + 6) (some (.int 1), hp1, TC.2.2.1 + 1, 0 + 6) := fun q => by
      refine ye_run ?_
      refine ye_p (pc := 13) rfl rfl ?_
      refine ye_p (pc := 15) rfl rfl ?_
      exact ye_ret (pc := 16) rfl rfl rfl
    have e : pc = 8 ∨ pc = 114 := by simpa using hpc
    rcases e with e | e
    · subst e
      have hthr := x_throws (d := 579) (j := 156) (nm := yX11_where.name) (hA 579) (omX11_where ev) (Nat.le_of_ble_eq_true rfl) hr (is := 383) (i := 10) (tx := "no such bag") (List.mem_of_getElem? (i := 10) rfl) ⟨by decide +kernel, by decide +kernel, Or.inr ⟨by decide +kernel, by decide +kernel, by decide +kernel⟩⟩
      exact wr_thr (y := yL_where) (dj := 579) (j := 156) (k := 2) (As := [.int x1, .int x2]) (by decide) (Nat.le_of_ble_eq_true rfl) (hA 580) (by decide +kernel) (okL_where ev) (Nat.le_of_ble_eq_true rfl) hn (xfind_mem rfl) rfl (Nat.le_of_ble_eq_true rfl) oC hthr (by decide) xw_law13 ht
    · subst e
      have hthr := x_throws (d := 579) (j := 156) (nm := yX11_where.name) (hA 579) (omX11_where ev) (Nat.le_of_ble_eq_true rfl) hr (is := 372) (i := 8) (tx := "no such what") (List.mem_of_getElem? (i := 8) rfl) ⟨by decide +kernel, by decide +kernel, Or.inr ⟨by decide +kernel, by decide +kernel, by decide +kernel⟩⟩
      exact wr_thr (y := yL_where) (dj := 579) (j := 156) (k := 2) (As := [.int x1, .int x2]) (by decide) (Nat.le_of_ble_eq_true rfl) (hA 580) (by decide +kernel) (okL_where ev) (Nat.le_of_ble_eq_true rfl) hn (xfind_mem rfl) rfl (Nat.le_of_ble_eq_true rfl) oC hthr (by decide) xw_law13 ht
theorem W_chance {ev : xEv} {prim : xRel} {N aC aM oA : Nat} {X : xH} {i : Int32} {lv : xLv} {TC TM : yT} {SC SM : yS} {hp : xH} (hA : ∀ d, xAllM ev prim d) (hN : 3000 < N) (I : Inv ev aC aM oA X i lv TC SC TM SM hp) (x1 x2 x3 : Int32) : WF ev (wCon ev 580 yL_chance cL_chance 6 [(0, 11, 14, 13)] [.ref aC, .int x1, .int x2, .int x3, .ref oA] hp TC.2.2.1) oA X TC TM SM (fun x => x) (f_X12_chance N SM x1 x2 x3) := by
  have fC := I.2.2.2.1
  have oC := I.2.1.1.obj fC ⟨rfl, rfl⟩
  refine WF_of (prim := prim) (val := Value.long) (j := 163) (w := [18]) (avj := [.ref aC, .int x1, .int x2, .int x3]) (C_chance I.2.2.1 (Nat.lt_of_le_of_lt (by decide) hN) x1 x2 x3) I.2.1 I.2.2.2.2.2 (pg_163 ev) mi_163 (Nat.le_of_ble_eq_true rfl) (fun v S' e F hR => m_X11_chance (F := F) (d := 575) N SC x1 x2 x3 aC fC e hp TC.2.2.1 hR) (fun v hp1 g c1 ho => ?_) (fun n pc lv1 hp1 hpc hr => ?_)
  · have hw : yWE ev.2.1 (xstr ev) (xCalls ev xmi (xprog ev) prim 580) (pL_chance ev) (0, lv_args 0 [.ref aC, .int x1, .int x2, .int x3, .ref oA], [], hp, TC.2.2.1, 0) (fun q => q = .inl (some (.int 0), xU hp1 oA (.inl (ev.1 1, 1, .inr (.inl (vp_updL g 0 ((fun x => x) v))))), TC.2.2.1, 0)) := by
      refine ye_aload (pc := 0) rfl rfl ?_
      refine ye_p (pc := 2) rfl rfl ?_
      refine ye_aload (pc := 3) rfl rfl ?_
      refine ye_iload (pc := 4) rfl rfl ?_
      refine ye_iload (pc := 5) rfl rfl ?_
      refine ye_iload (pc := 6) rfl rfl ?_
      refine ye_callV (pc := 7) (As := [.int x1, .int x2, .int x3]) (rest := [.int 0, .ref oA]) 0 (Or.inl rfl) rfl rfl rfl (Nat.le_of_ble_eq_true rfl) oC c1 ?_
      refine ye_last (pc := 10) rfl ho vp_01 ?_
      refine ye_p (pc := 11) rfl rfl ?_
      refine ye_p (pc := 18) rfl rfl ?_
      exact ye_ret (pc := 19) rfl rfl rfl
    obtain ⟨n, hn⟩ := ye_run hw
    obtain ⟨m1, m2⟩ := wr_norm (y := yL_chance) (hh := [(0, 11, 14, 13)]) (hA 580) (by decide +kernel) (okL_chance ev) (Nat.le_of_ble_eq_true rfl) hn
    exact ⟨m1, fun l D _ => m2 l D⟩
  · have hw : yWE ev.2.1 (xstr ev) (xCalls ev xmi (xprog ev) prim 580) (pL_chance ev) (0, lv_args 0 [.ref aC, .int x1, .int x2, .int x3, .ref oA], [], hp, TC.2.2.1, 0) (fun q => q = .inr (7, lv_args 0 [.ref aC, .int x1, .int x2, .int x3, .ref oA], ([.int x1, .int x2, .int x3] : List Value).reverse ++ .ref aC :: [.int 0, .ref oA], hp, TC.2.2.1, 0)) := by
      refine ye_aload (pc := 0) rfl rfl ?_
      refine ye_p (pc := 2) rfl rfl ?_
      refine ye_aload (pc := 3) rfl rfl ?_
      refine ye_iload (pc := 4) rfl rfl ?_
      refine ye_iload (pc := 5) rfl rfl ?_
      refine ye_iload (pc := 6) rfl rfl ?_
      exact ye_end
    obtain ⟨n1, hn⟩ := ye_rch hw
    have ht : ∀ q : Nat, ∃ n2, xrun ev.2.1 (xstr ev) (xCalls ev xmi (xprog ev) prim 580) (pL_chance ev) n2 (14, lv_args 0 [.ref aC, .int x1, .int x2, .int x3, .ref oA], [.ref q], hp1, TC.2.2.1 + 1, 0 + 6) (some (.int 1), hp1, TC.2.2.1 + 1, 0 + 6) := fun q => by
      refine ye_run ?_
      refine ye_p (pc := 14) rfl rfl ?_
      refine ye_p (pc := 16) rfl rfl ?_
      exact ye_ret (pc := 17) rfl rfl rfl
    have e : pc = 18 := by simpa using hpc
    subst e
    have hthr := x_throws (d := 579) (j := 163) (nm := yX11_chance.name) (hA 579) (omX11_chance ev) (Nat.le_of_ble_eq_true rfl) hr (is := 442) (i := 11) (tx := "not down, or no such cell or what") (List.mem_of_getElem? (i := 11) rfl) ⟨by decide +kernel, by decide +kernel, Or.inr ⟨by decide +kernel, by decide +kernel, by decide +kernel⟩⟩
    exact wr_thr (y := yL_chance) (dj := 579) (j := 163) (k := 3) (As := [.int x1, .int x2, .int x3]) (by decide) (Nat.le_of_ble_eq_true rfl) (hA 580) (by decide +kernel) (okL_chance ev) (Nat.le_of_ble_eq_true rfl) hn (xfind_mem rfl) rfl (Nat.le_of_ble_eq_true rfl) oC hthr (by decide) xw_law13 ht
theorem W_row {ev : xEv} {prim : xRel} {N aC aM oA : Nat} {X : xH} {i : Int32} {lv : xLv} {TC TM : yT} {SC SM : yS} {hp : xH} (hA : ∀ d, xAllM ev prim d) (hN : 3000 < N) (I : Inv ev aC aM oA X i lv TC SC TM SM hp) (x1 : Int32) : WF ev (wCon ev 580 yL_row cL_row 4 [(0, 9, 12, 13)] [.ref aC, .int x1, .ref oA] hp TC.2.2.1) oA X TC TM SM Int32.toInt64 (f_X12_row N SM x1) := by
  have fC := I.2.2.2.1
  have oC := I.2.1.1.obj fC ⟨rfl, rfl⟩
  refine WF_of (prim := prim) (val := Value.int) (j := 171) (w := [14]) (avj := [.ref aC, .int x1]) (C_row I.2.2.1 x1) I.2.1 I.2.2.2.2.2 (pg_171 ev) mi_171 (Nat.le_of_ble_eq_true rfl) (fun v S' e F hR => m_X11_row (F := F) (d := 578) N SC x1 aC fC e hp TC.2.2.1 hR) (fun v hp1 g c1 ho => ?_) (fun n pc lv1 hp1 hpc hr => ?_)
  · have hw : yWE ev.2.1 (xstr ev) (xCalls ev xmi (xprog ev) prim 580) (pL_row ev) (0, lv_args 0 [.ref aC, .int x1, .ref oA], [], hp, TC.2.2.1, 0) (fun q => q = .inl (some (.int 0), xU hp1 oA (.inl (ev.1 1, 1, .inr (.inl (vp_updL g 0 (Int32.toInt64 v))))), TC.2.2.1, 0)) := by
      refine ye_aload (pc := 0) rfl rfl ?_
      refine ye_p (pc := 1) rfl rfl ?_
      refine ye_aload (pc := 2) rfl rfl ?_
      refine ye_iload (pc := 3) rfl rfl ?_
      refine ye_callV (pc := 4) (As := [.int x1]) (rest := [.int 0, .ref oA]) 0 (Or.inl rfl) rfl rfl rfl (Nat.le_of_ble_eq_true rfl) oC c1 ?_
      refine ye_p (pc := 7) rfl rfl ?_
      refine ye_last (pc := 8) rfl ho vp_01 ?_
      refine ye_p (pc := 9) rfl rfl ?_
      refine ye_p (pc := 15) rfl rfl ?_
      exact ye_ret (pc := 16) rfl rfl rfl
    obtain ⟨n, hn⟩ := ye_run hw
    obtain ⟨m1, m2⟩ := wr_norm (y := yL_row) (hh := [(0, 9, 12, 13)]) (hA 580) (by decide +kernel) (okL_row ev) (Nat.le_of_ble_eq_true rfl) hn
    exact ⟨m1, fun l D _ => m2 l D⟩
  · have hw : yWE ev.2.1 (xstr ev) (xCalls ev xmi (xprog ev) prim 580) (pL_row ev) (0, lv_args 0 [.ref aC, .int x1, .ref oA], [], hp, TC.2.2.1, 0) (fun q => q = .inr (4, lv_args 0 [.ref aC, .int x1, .ref oA], ([.int x1] : List Value).reverse ++ .ref aC :: [.int 0, .ref oA], hp, TC.2.2.1, 0)) := by
      refine ye_aload (pc := 0) rfl rfl ?_
      refine ye_p (pc := 1) rfl rfl ?_
      refine ye_aload (pc := 2) rfl rfl ?_
      refine ye_iload (pc := 3) rfl rfl ?_
      exact ye_end
    obtain ⟨n1, hn⟩ := ye_rch hw
    have ht : ∀ q : Nat, ∃ n2, xrun ev.2.1 (xstr ev) (xCalls ev xmi (xprog ev) prim 580) (pL_row ev) n2 (12, lv_args 0 [.ref aC, .int x1, .ref oA], [.ref q], hp1, TC.2.2.1 + 1, 0 + 6) (some (.int 1), hp1, TC.2.2.1 + 1, 0 + 6) := fun q => by
      refine ye_run ?_
      refine ye_p (pc := 12) rfl rfl ?_
      refine ye_p (pc := 13) rfl rfl ?_
      exact ye_ret (pc := 14) rfl rfl rfl
    have e : pc = 14 := by simpa using hpc
    subst e
    have hthr := x_throws (d := 579) (j := 171) (nm := yX11_row.name) (hA 579) (omX11_row ev) (Nat.le_of_ble_eq_true rfl) hr (is := 518) (i := 12) (tx := "no such number of the row") (List.mem_of_getElem? (i := 12) rfl) ⟨by decide +kernel, by decide +kernel, Or.inr ⟨by decide +kernel, by decide +kernel, by decide +kernel⟩⟩
    exact wr_thr (y := yL_row) (dj := 579) (j := 171) (k := 1) (As := [.int x1]) (by decide) (Nat.le_of_ble_eq_true rfl) (hA 580) (by decide +kernel) (okL_row ev) (Nat.le_of_ble_eq_true rfl) hn (xfind_mem rfl) rfl (Nat.le_of_ble_eq_true rfl) oC hthr (by decide) xw_law13 ht
