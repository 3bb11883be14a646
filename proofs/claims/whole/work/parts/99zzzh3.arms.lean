/-! THE ARMS OF THE LAW (gen_zzg.py) -/
set_option maxHeartbeats 4000000 in
set_option maxRecDepth 20000 in
theorem A_33 {ev : xEv} {prim : xRel} {N aC aM oA : Nat} {X : xH} {i : Int32} {lv : xLv} {TC TM : yT} {SC SM : yS} {hp : xH} (hA : ∀ d, xAllM ev prim d) (hN : 3000 < N) (I : Inv ev aC aM oA X i lv TC SC TM SM hp) (hs : Si ev i) (sl : Nat) : ArmTo ev prim (aL_33 ev) 1782 2128 aC aM oA i lv TC TM hp sl := by
  have D := D_look (prim := prim) hN I.2.1 I.2.2.1 I.2.2.2.1 I.2.2.2.2.1 (ag ev i 1) (ag ev i 2) (ag ev i 3)
  refine arm_of sl I D (by decide) (by decide) ?_
  intro v hp1 n1 sl1 hp2 n2 sl2 c1 c2 oC oM
  obtain ⟨flC, oC⟩ := oC
  obtain ⟨flM, oM⟩ := oM
  have hl := I.1
  refine ye_aload (pc := 1782) rfl hl.2.1 ?_
  refine ye_ld (pc := 1783) (c := 1) (ln := 1) hl hs (by decide) (by decide) rfl rfl rfl rfl rfl ?_
  refine ye_ld (pc := 1789) (c := 2) (ln := 1) hl hs (by decide) (by decide) rfl rfl rfl rfl rfl ?_
  refine ye_ld (pc := 1795) (c := 3) (ln := 1) hl hs (by decide) (by decide) rfl rfl rfl rfl rfl ?_
  refine ye_callV (pc := 1801) (As := [.int (ag ev i 1), .int (ag ev i 2), .int (ag ev i 3)]) (rest := []) 0 (Or.inl rfl) rfl rfl rfl (Nat.le_of_ble_eq_true rfl) oC c1 ?_
  refine ye_aload (pc := 1804) rfl hl.2.2.1 ?_
  refine ye_ld (pc := 1805) (c := 1) (ln := 1) hl hs (by decide) (by decide) rfl rfl rfl rfl rfl ?_
  refine ye_ld (pc := 1811) (c := 2) (ln := 1) hl hs (by decide) (by decide) rfl rfl rfl rfl rfl ?_
  refine ye_ld (pc := 1817) (c := 3) (ln := 1) hl hs (by decide) (by decide) rfl rfl rfl rfl rfl ?_
  refine ye_callV (pc := 1823) (As := [.int (ag ev i 1), .int (ag ev i 2), .int (ag ev i 3)]) (rest := [.int v]) 0 (Or.inl rfl) rfl rfl rfl (Nat.le_of_ble_eq_true rfl) oM c2 ?_
  refine ye_icmp_eq (pc := 1826) rfl (fun _ => ?_) (fun q => absurd rfl q)
  exact ye_end
set_option maxHeartbeats 4000000 in
set_option maxRecDepth 20000 in
theorem A_34 {ev : xEv} {prim : xRel} {N aC aM oA : Nat} {X : xH} {i : Int32} {lv : xLv} {TC TM : yT} {SC SM : yS} {hp : xH} (hA : ∀ d, xAllM ev prim d) (hN : 3000 < N) (I : Inv ev aC aM oA X i lv TC SC TM SM hp) (hs : Si ev i) (sl : Nat) : ArmTo ev prim (aL_34 ev) 1831 2128 aC aM oA i lv TC TM hp sl := by
  have A := W_chance hA hN I (ag ev i 1) (ag ev i 2) (ag ev i 3)
  refine arm_thr (val := Value.long) (jM := 283) (avM := [.ref aM, .int (ag ev i 1), .int (ag ev i 2), .int (ag ev i 3)]) sl I A (fun v S' n e F => Q_N (m_X12_chance (F := F) (T := reT TM n) (d := 489) N SM (ag ev i 1) (ag ev i 2) (ag ev i 3) aM I.2.2.2.2.1 e)) ?_
  intro kk v g1 hp1 n1 sl1 hp2 n2 sl2 hc oM oM2 c2 ct ho hg
  obtain ⟨flM, oM⟩ := oM
  obtain ⟨flM2, oM2⟩ := oM2
  have hl := I.1
  have hl1 := LV_st1 hl (j := 5) (by decide) (.int kk)
  have hl2 := LV_st2 hl1 (j := 6) (by decide) (.long v)
  have h5 : xG (xSt2 (xSt1 lv 5 (.int kk)) 6 (.long v)) 5 = some (.int kk) := xG_st2 (xG_new1 lv 5 (.int kk)) (by decide) (by decide) (by show ¬ (1 = 2); decide)
  have h6 : xG (xSt2 (xSt1 lv 5 (.int kk)) 6 (.long v)) 6 = some (.long v) := xG_new2 _ _ _
  refine ⟨_, hl2, ?_⟩
  refine ye_aload (pc := 1831) rfl hl.2.1 ?_
  refine ye_ld (pc := 1832) (c := 1) (ln := 1) hl hs (by decide) (by decide) rfl rfl rfl rfl rfl ?_
  refine ye_ld (pc := 1838) (c := 2) (ln := 1) hl hs (by decide) (by decide) rfl rfl rfl rfl rfl ?_
  refine ye_ld (pc := 1844) (c := 3) (ln := 1) hl hs (by decide) (by decide) rfl rfl rfl rfl rfl ?_
  refine ye_aload (pc := 1850) rfl hl.2.2.2.1 ?_
  refine ye_fs (pc := 1851) (σ' := (1854, lv, [.int kk], hp1, n1, sl + sl1)) rfl ⟨1851, lv, [.ref aC, .int (ag ev i 1), .int (ag ev i 2), .int (ag ev i 3), .ref oA], [], hp, _, sl, some (.int kk), hp1, n1, sl1, rfl, rfl, rfl, Nat.le_of_ble_eq_true rfl, hc⟩ ?_
  refine ye_p (pc := 1854) rfl rfl ?_
  refine ye_aload (pc := 1856) rfl hl1.2.2.1 ?_
  refine ye_ld (pc := 1857) (c := 1) (ln := 1) hl1 hs (by decide) (by decide) rfl rfl rfl rfl rfl ?_
  refine ye_ld (pc := 1863) (c := 2) (ln := 1) hl1 hs (by decide) (by decide) rfl rfl rfl rfl rfl ?_
  refine ye_ld (pc := 1869) (c := 3) (ln := 1) hl1 hs (by decide) (by decide) rfl rfl rfl rfl rfl ?_
  refine ye_callV (pc := 1875) (As := [.int (ag ev i 1), .int (ag ev i 2), .int (ag ev i 3)]) (rest := []) 0 (Or.inl rfl) rfl rfl rfl (Nat.le_of_ble_eq_true rfl) oM c2 ?_
  refine ye_p (pc := 1878) rfl rfl ?_
  refine ye_aload (pc := 1880) rfl hl2.2.2.1 ?_
  refine ye_callV (pc := 1881) (As := []) (rest := []) 0 (Or.inl rfl) rfl rfl rfl (Nat.le_of_ble_eq_true rfl) oM2 ct ?_
  refine ye_iload (pc := 1884) rfl h5 ?_
  refine ye_icmp_eq (pc := 1886) rfl (fun _ => ?_) (fun q => absurd rfl q)
  refine ye_iload (pc := 1891) rfl h5 ?_
  refine ye_if_ne (pc := 1893) rfl (fun q => ?_) (fun q => ?_)
  · refine ye_p (pc := 1907) rfl rfl ?_
    exact ye_end
  · have q0 : kk = 0 := Decidable.not_not.mp q
    refine ye_aload (pc := 1896) rfl hl2.2.2.2.1 ?_
    refine ye_p (pc := 1897) rfl rfl ?_
    refine ye_lald (pc := 1898) rfl ho vp_01 ?_
    refine ye_lload (pc := 1899) rfl h6 ?_
    refine ye_p (pc := 1901) rfl rfl ?_
    refine ye_if_eq (pc := 1902) rfl (fun _ => ?_) (fun q2 => absurd (by have e := hg q0; show lg_cmp (g1 0) _ = 0; rw [e]; exact lg_cmp_self _) q2)
    refine ye_p (pc := 1907) rfl rfl ?_
    exact ye_end
set_option maxHeartbeats 4000000 in
set_option maxRecDepth 20000 in
theorem A_35 {ev : xEv} {prim : xRel} {N aC aM oA : Nat} {X : xH} {i : Int32} {lv : xLv} {TC TM : yT} {SC SM : yS} {hp : xH} (hA : ∀ d, xAllM ev prim d) (hN : 3000 < N) (I : Inv ev aC aM oA X i lv TC SC TM SM hp) (hs : Si ev i) (sl : Nat) : ArmTo ev prim (aL_35 ev) 1910 2128 aC aM oA i lv TC TM hp sl := by
  have D := D_lanes (prim := prim) hN I.2.1 I.2.2.1 I.2.2.2.1 I.2.2.2.2.1 (ag ev i 1) (ag ev i 2) (ag ev i 3)
  refine arm_of sl I D (by decide) (by decide) ?_
  intro v hp1 n1 sl1 hp2 n2 sl2 c1 c2 oC oM
  obtain ⟨flC, oC⟩ := oC
  obtain ⟨flM, oM⟩ := oM
  have hl := I.1
  refine ye_aload (pc := 1910) rfl hl.2.1 ?_
  refine ye_ld (pc := 1911) (c := 1) (ln := 1) hl hs (by decide) (by decide) rfl rfl rfl rfl rfl ?_
  refine ye_ld (pc := 1917) (c := 2) (ln := 1) hl hs (by decide) (by decide) rfl rfl rfl rfl rfl ?_
  refine ye_ld (pc := 1923) (c := 3) (ln := 1) hl hs (by decide) (by decide) rfl rfl rfl rfl rfl ?_
  refine ye_callV (pc := 1929) (As := [.int (ag ev i 1), .int (ag ev i 2), .int (ag ev i 3)]) (rest := []) 0 (Or.inl rfl) rfl rfl rfl (Nat.le_of_ble_eq_true rfl) oC c1 ?_
  refine ye_aload (pc := 1932) rfl hl.2.2.1 ?_
  refine ye_ld (pc := 1933) (c := 1) (ln := 1) hl hs (by decide) (by decide) rfl rfl rfl rfl rfl ?_
  refine ye_ld (pc := 1939) (c := 2) (ln := 1) hl hs (by decide) (by decide) rfl rfl rfl rfl rfl ?_
  refine ye_ld (pc := 1945) (c := 3) (ln := 1) hl hs (by decide) (by decide) rfl rfl rfl rfl rfl ?_
  refine ye_callV (pc := 1951) (As := [.int (ag ev i 1), .int (ag ev i 2), .int (ag ev i 3)]) (rest := [.int v]) 0 (Or.inl rfl) rfl rfl rfl (Nat.le_of_ble_eq_true rfl) oM c2 ?_
  refine ye_icmp_eq (pc := 1954) rfl (fun _ => ?_) (fun q => absurd rfl q)
  exact ye_end
set_option maxHeartbeats 4000000 in
set_option maxRecDepth 20000 in
theorem A_36 {ev : xEv} {prim : xRel} {N aC aM oA : Nat} {X : xH} {i : Int32} {lv : xLv} {TC TM : yT} {SC SM : yS} {hp : xH} (hA : ∀ d, xAllM ev prim d) (hN : 3000 < N) (I : Inv ev aC aM oA X i lv TC SC TM SM hp) (hs : Si ev i) (sl : Nat) : ArmTo ev prim (aL_36 ev) 1959 2128 aC aM oA i lv TC TM hp sl := by
  have D := D_needs (prim := prim) hN I.2.1 I.2.2.1 I.2.2.2.1 I.2.2.2.2.1
  refine arm_of sl I D (by decide) (by decide) ?_
  intro v hp1 n1 sl1 hp2 n2 sl2 c1 c2 oC oM
  obtain ⟨flC, oC⟩ := oC
  obtain ⟨flM, oM⟩ := oM
  have hl := I.1
  refine ye_aload (pc := 1959) rfl hl.2.1 ?_
  refine ye_callV (pc := 1960) (As := []) (rest := []) 0 (Or.inl rfl) rfl rfl rfl (Nat.le_of_ble_eq_true rfl) oC c1 ?_
  refine ye_aload (pc := 1963) rfl hl.2.2.1 ?_
  refine ye_callV (pc := 1964) (As := []) (rest := [.int v]) 0 (Or.inl rfl) rfl rfl rfl (Nat.le_of_ble_eq_true rfl) oM c2 ?_
  refine ye_icmp_eq (pc := 1967) rfl (fun _ => ?_) (fun q => absurd rfl q)
  exact ye_end
set_option maxHeartbeats 4000000 in
set_option maxRecDepth 20000 in
theorem A_37 {ev : xEv} {prim : xRel} {N aC aM oA : Nat} {X : xH} {i : Int32} {lv : xLv} {TC TM : yT} {SC SM : yS} {hp : xH} (hA : ∀ d, xAllM ev prim d) (hN : 3000 < N) (I : Inv ev aC aM oA X i lv TC SC TM SM hp) (hs : Si ev i) (sl : Nat) : ArmTo ev prim (aL_37 ev) 1972 2128 aC aM oA i lv TC TM hp sl := by
  have D := D_send (prim := prim) hN I.2.1 I.2.2.1 I.2.2.2.1 I.2.2.2.2.1
  refine arm_of sl I D (by decide) (by decide) ?_
  intro v hp1 n1 sl1 hp2 n2 sl2 c1 c2 oC oM
  obtain ⟨flC, oC⟩ := oC
  obtain ⟨flM, oM⟩ := oM
  have hl := I.1
  refine ye_aload (pc := 1972) rfl hl.2.1 ?_
  refine ye_callV (pc := 1973) (As := []) (rest := []) 0 (Or.inl rfl) rfl rfl rfl (Nat.le_of_ble_eq_true rfl) oC c1 ?_
  refine ye_aload (pc := 1976) rfl hl.2.2.1 ?_
  refine ye_callV (pc := 1977) (As := []) (rest := [.int v]) 0 (Or.inl rfl) rfl rfl rfl (Nat.le_of_ble_eq_true rfl) oM c2 ?_
  refine ye_icmp_eq (pc := 1980) rfl (fun _ => ?_) (fun q => absurd rfl q)
  exact ye_end
set_option maxHeartbeats 4000000 in
set_option maxRecDepth 20000 in
theorem A_38 {ev : xEv} {prim : xRel} {N aC aM oA : Nat} {X : xH} {i : Int32} {lv : xLv} {TC TM : yT} {SC SM : yS} {hp : xH} (hA : ∀ d, xAllM ev prim d) (hN : 3000 < N) (I : Inv ev aC aM oA X i lv TC SC TM SM hp) (hs : Si ev i) (sl : Nat) : ArmTo ev prim (aL_38 ev) 1985 2128 aC aM oA i lv TC TM hp sl := by
  have D := D_plan (prim := prim) hN I.2.1 I.2.2.1 I.2.2.2.1 I.2.2.2.2.1 (ag ev i 1)
  refine arm_of sl I D (by decide) (by decide) ?_
  intro v hp1 n1 sl1 hp2 n2 sl2 c1 c2 oC oM
  obtain ⟨flC, oC⟩ := oC
  obtain ⟨flM, oM⟩ := oM
  have hl := I.1
  refine ye_aload (pc := 1985) rfl hl.2.1 ?_
  refine ye_ld (pc := 1986) (c := 1) (ln := 1) hl hs (by decide) (by decide) rfl rfl rfl rfl rfl ?_
  refine ye_callV (pc := 1992) (As := [.int (ag ev i 1)]) (rest := []) 0 (Or.inl rfl) rfl rfl rfl (Nat.le_of_ble_eq_true rfl) oC c1 ?_
  refine ye_aload (pc := 1995) rfl hl.2.2.1 ?_
  refine ye_ld (pc := 1996) (c := 1) (ln := 1) hl hs (by decide) (by decide) rfl rfl rfl rfl rfl ?_
  refine ye_callV (pc := 2002) (As := [.int (ag ev i 1)]) (rest := [.int v]) 0 (Or.inl rfl) rfl rfl rfl (Nat.le_of_ble_eq_true rfl) oM c2 ?_
  refine ye_icmp_eq (pc := 2005) rfl (fun _ => ?_) (fun q => absurd rfl q)
  exact ye_end
set_option maxHeartbeats 4000000 in
set_option maxRecDepth 20000 in
theorem A_39 {ev : xEv} {prim : xRel} {N aC aM oA : Nat} {X : xH} {i : Int32} {lv : xLv} {TC TM : yT} {SC SM : yS} {hp : xH} (hA : ∀ d, xAllM ev prim d) (hN : 3000 < N) (I : Inv ev aC aM oA X i lv TC SC TM SM hp) (hs : Si ev i) (sl : Nat) : ArmTo ev prim (aL_39 ev) 2010 2128 aC aM oA i lv TC TM hp sl := by
  have D := D_lamps (prim := prim) hN I.2.1 I.2.2.1 I.2.2.2.1 I.2.2.2.2.1 (ag ev i 1) (ag ev i 2)
  refine arm_of sl I D (by decide) (by decide) ?_
  intro v hp1 n1 sl1 hp2 n2 sl2 c1 c2 oC oM
  obtain ⟨flC, oC⟩ := oC
  obtain ⟨flM, oM⟩ := oM
  have hl := I.1
  refine ye_aload (pc := 2010) rfl hl.2.1 ?_
  refine ye_ld (pc := 2011) (c := 1) (ln := 1) hl hs (by decide) (by decide) rfl rfl rfl rfl rfl ?_
  refine ye_ld (pc := 2017) (c := 2) (ln := 1) hl hs (by decide) (by decide) rfl rfl rfl rfl rfl ?_
  refine ye_callV (pc := 2023) (As := [.int (ag ev i 1), .int (ag ev i 2)]) (rest := []) 0 (Or.inl rfl) rfl rfl rfl (Nat.le_of_ble_eq_true rfl) oC c1 ?_
  refine ye_aload (pc := 2026) rfl hl.2.2.1 ?_
  refine ye_ld (pc := 2027) (c := 1) (ln := 1) hl hs (by decide) (by decide) rfl rfl rfl rfl rfl ?_
  refine ye_ld (pc := 2033) (c := 2) (ln := 1) hl hs (by decide) (by decide) rfl rfl rfl rfl rfl ?_
  refine ye_callV (pc := 2039) (As := [.int (ag ev i 1), .int (ag ev i 2)]) (rest := [.int v]) 0 (Or.inl rfl) rfl rfl rfl (Nat.le_of_ble_eq_true rfl) oM c2 ?_
  refine ye_icmp_eq (pc := 2042) rfl (fun _ => ?_) (fun q => absurd rfl q)
  exact ye_end
set_option maxHeartbeats 4000000 in
set_option maxRecDepth 20000 in
theorem A_40 {ev : xEv} {prim : xRel} {N aC aM oA : Nat} {X : xH} {i : Int32} {lv : xLv} {TC TM : yT} {SC SM : yS} {hp : xH} (hA : ∀ d, xAllM ev prim d) (hN : 3000 < N) (I : Inv ev aC aM oA X i lv TC SC TM SM hp) (hs : Si ev i) (sl : Nat) : ArmTo ev prim (aL_40 ev) 2047 2128 aC aM oA i lv TC TM hp sl := by
  have D := D_tried (prim := prim) hN I.2.1 I.2.2.1 I.2.2.2.1 I.2.2.2.2.1 (ag ev i 1)
  refine arm_of sl I D (by decide) (by decide) ?_
  intro v hp1 n1 sl1 hp2 n2 sl2 c1 c2 oC oM
  obtain ⟨flC, oC⟩ := oC
  obtain ⟨flM, oM⟩ := oM
  have hl := I.1
  refine ye_aload (pc := 2047) rfl hl.2.1 ?_
  refine ye_ld (pc := 2048) (c := 1) (ln := 1) hl hs (by decide) (by decide) rfl rfl rfl rfl rfl ?_
  refine ye_callV (pc := 2054) (As := [.int (ag ev i 1)]) (rest := []) 0 (Or.inl rfl) rfl rfl rfl (Nat.le_of_ble_eq_true rfl) oC c1 ?_
  refine ye_aload (pc := 2057) rfl hl.2.2.1 ?_
  refine ye_ld (pc := 2058) (c := 1) (ln := 1) hl hs (by decide) (by decide) rfl rfl rfl rfl rfl ?_
  refine ye_callV (pc := 2064) (As := [.int (ag ev i 1)]) (rest := [.int v]) 0 (Or.inl rfl) rfl rfl rfl (Nat.le_of_ble_eq_true rfl) oM c2 ?_
  refine ye_icmp_eq (pc := 2067) rfl (fun _ => ?_) (fun q => absurd rfl q)
  exact ye_end
set_option maxHeartbeats 4000000 in
set_option maxRecDepth 20000 in
theorem A_41 {ev : xEv} {prim : xRel} {N aC aM oA : Nat} {X : xH} {i : Int32} {lv : xLv} {TC TM : yT} {SC SM : yS} {hp : xH} (hA : ∀ d, xAllM ev prim d) (hN : 3000 < N) (I : Inv ev aC aM oA X i lv TC SC TM SM hp) (hs : Si ev i) (sl : Nat) : ArmTo ev prim (aL_41 ev) 2072 2128 aC aM oA i lv TC TM hp sl := by
  have A := W_row hA hN I (ag ev i 1)
  refine arm_thr (val := Value.int) (jM := 299) (avM := [.ref aM, .int (ag ev i 1)]) sl I A (fun v S' n e F => Q_N (m_X12_row (F := F) (T := reT TM n) (d := 598) N SM (ag ev i 1) aM I.2.2.2.2.1 e)) ?_
  intro kk v g1 hp1 n1 sl1 hp2 n2 sl2 hc oM oM2 c2 ct ho hg
  obtain ⟨flM, oM⟩ := oM
  obtain ⟨flM2, oM2⟩ := oM2
  have hl := I.1
  have hl1 := LV_st1 hl (j := 5) (by decide) (.int kk)
  have hl2 := LV_st1 hl1 (j := 6) (by decide) (.int v)
  have h5 : xG (xSt1 (xSt1 lv 5 (.int kk)) 6 (.int v)) 5 = some (.int kk) := xG_st1 (xG_new1 lv 5 (.int kk)) (by decide) (by show ¬ (1 = 2); decide)
  have h6 : xG (xSt1 (xSt1 lv 5 (.int kk)) 6 (.int v)) 6 = some (.int v) := xG_new1 _ _ _
  refine ⟨_, hl2, ?_⟩
  refine ye_aload (pc := 2072) rfl hl.2.1 ?_
  refine ye_ld (pc := 2073) (c := 1) (ln := 1) hl hs (by decide) (by decide) rfl rfl rfl rfl rfl ?_
  refine ye_aload (pc := 2079) rfl hl.2.2.2.1 ?_
  refine ye_fs (pc := 2080) (σ' := (2083, lv, [.int kk], hp1, n1, sl + sl1)) rfl ⟨2080, lv, [.ref aC, .int (ag ev i 1), .ref oA], [], hp, _, sl, some (.int kk), hp1, n1, sl1, rfl, rfl, rfl, Nat.le_of_ble_eq_true rfl, hc⟩ ?_
  refine ye_p (pc := 2083) rfl rfl ?_
  refine ye_aload (pc := 2085) rfl hl1.2.2.1 ?_
  refine ye_ld (pc := 2086) (c := 1) (ln := 1) hl1 hs (by decide) (by decide) rfl rfl rfl rfl rfl ?_
  refine ye_callV (pc := 2092) (As := [.int (ag ev i 1)]) (rest := []) 0 (Or.inl rfl) rfl rfl rfl (Nat.le_of_ble_eq_true rfl) oM c2 ?_
  refine ye_p (pc := 2095) rfl rfl ?_
  refine ye_aload (pc := 2097) rfl hl2.2.2.1 ?_
  refine ye_callV (pc := 2098) (As := []) (rest := []) 0 (Or.inl rfl) rfl rfl rfl (Nat.le_of_ble_eq_true rfl) oM2 ct ?_
  refine ye_iload (pc := 2101) rfl h5 ?_
  refine ye_icmp_eq (pc := 2103) rfl (fun _ => ?_) (fun q => absurd rfl q)
  refine ye_iload (pc := 2108) rfl h5 ?_
  refine ye_if_ne (pc := 2110) rfl (fun q => ?_) (fun q => ?_)
  · refine ye_p (pc := 2125) rfl rfl ?_
    exact ye_end
  · have q0 : kk = 0 := Decidable.not_not.mp q
    refine ye_aload (pc := 2113) rfl hl2.2.2.2.1 ?_
    refine ye_p (pc := 2114) rfl rfl ?_
    refine ye_lald (pc := 2115) rfl ho vp_01 ?_
    refine ye_iload (pc := 2116) rfl h6 ?_
    refine ye_p (pc := 2118) rfl rfl ?_
    refine ye_p (pc := 2119) rfl rfl ?_
    refine ye_if_eq (pc := 2120) rfl (fun _ => ?_) (fun q2 => absurd (by have e := hg q0; show lg_cmp (g1 0) _ = 0; rw [e]; exact lg_cmp_self _) q2)
    refine ye_p (pc := 2125) rfl rfl ?_
    exact ye_end
