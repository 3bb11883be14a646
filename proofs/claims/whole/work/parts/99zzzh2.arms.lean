/-! THE ARMS OF THE LAW (gen_zzg.py) -/
set_option maxHeartbeats 4000000 in
set_option maxRecDepth 20000 in
theorem A_22 {ev : xEv} {prim : xRel} {N aC aM oA : Nat} {X : xH} {i : Int32} {lv : xLv} {TC TM : yT} {SC SM : yS} {hp : xH} (hA : ∀ d, xAllM ev prim d) (hN : 3000 < N) (I : Inv ev aC aM oA X i lv TC SC TM SM hp) (hs : Si ev i) (sl : Nat) : ArmTo ev prim (aL_22 ev) 1366 2128 aC aM oA i lv TC TM hp sl := by
  have D := D_may (prim := prim) hN I.2.1 I.2.2.1 I.2.2.2.1 I.2.2.2.2.1 (ag ev i 1)
  refine arm_of sl I D (by decide) (by decide) ?_
  intro v hp1 n1 sl1 hp2 n2 sl2 c1 c2 oC oM
  obtain ⟨flC, oC⟩ := oC
  obtain ⟨flM, oM⟩ := oM
  have hl := I.1
  refine ye_aload (pc := 1366) rfl hl.2.1 ?_
  refine ye_ld (pc := 1367) (c := 1) (ln := 1) hl hs (by decide) (by decide) rfl rfl rfl rfl rfl ?_
  refine ye_callV (pc := 1373) (As := [.int (ag ev i 1)]) (rest := []) 0 (Or.inl rfl) rfl rfl rfl (Nat.le_of_ble_eq_true rfl) oC c1 ?_
  refine ye_aload (pc := 1376) rfl hl.2.2.1 ?_
  refine ye_ld (pc := 1377) (c := 1) (ln := 1) hl hs (by decide) (by decide) rfl rfl rfl rfl rfl ?_
  refine ye_callV (pc := 1383) (As := [.int (ag ev i 1)]) (rest := [.int v]) 0 (Or.inl rfl) rfl rfl rfl (Nat.le_of_ble_eq_true rfl) oM c2 ?_
  refine ye_icmp_eq (pc := 1386) rfl (fun _ => ?_) (fun q => absurd rfl q)
  exact ye_end
set_option maxHeartbeats 4000000 in
set_option maxRecDepth 20000 in
theorem A_23 {ev : xEv} {prim : xRel} {N aC aM oA : Nat} {X : xH} {i : Int32} {lv : xLv} {TC TM : yT} {SC SM : yS} {hp : xH} (hA : ∀ d, xAllM ev prim d) (hN : 3000 < N) (I : Inv ev aC aM oA X i lv TC SC TM SM hp) (hs : Si ev i) (sl : Nat) : ArmTo ev prim (aL_23 ev) 1391 2128 aC aM oA i lv TC TM hp sl := by
  have D := D_why (prim := prim) hN I.2.1 I.2.2.1 I.2.2.2.1 I.2.2.2.2.1 (ag ev i 1) (ag ev i 2)
  refine arm_of sl I D (by decide) (by decide) ?_
  intro v hp1 n1 sl1 hp2 n2 sl2 c1 c2 oC oM
  obtain ⟨flC, oC⟩ := oC
  obtain ⟨flM, oM⟩ := oM
  have hl := I.1
  refine ye_aload (pc := 1391) rfl hl.2.1 ?_
  refine ye_ld (pc := 1392) (c := 1) (ln := 1) hl hs (by decide) (by decide) rfl rfl rfl rfl rfl ?_
  refine ye_ld (pc := 1398) (c := 2) (ln := 1) hl hs (by decide) (by decide) rfl rfl rfl rfl rfl ?_
  refine ye_callV (pc := 1404) (As := [.int (ag ev i 1), .int (ag ev i 2)]) (rest := []) 0 (Or.inl rfl) rfl rfl rfl (Nat.le_of_ble_eq_true rfl) oC c1 ?_
  refine ye_aload (pc := 1407) rfl hl.2.2.1 ?_
  refine ye_ld (pc := 1408) (c := 1) (ln := 1) hl hs (by decide) (by decide) rfl rfl rfl rfl rfl ?_
  refine ye_ld (pc := 1414) (c := 2) (ln := 1) hl hs (by decide) (by decide) rfl rfl rfl rfl rfl ?_
  refine ye_callV (pc := 1420) (As := [.int (ag ev i 1), .int (ag ev i 2)]) (rest := [.int v]) 0 (Or.inl rfl) rfl rfl rfl (Nat.le_of_ble_eq_true rfl) oM c2 ?_
  refine ye_icmp_eq (pc := 1423) rfl (fun _ => ?_) (fun q => absurd rfl q)
  exact ye_end
set_option maxHeartbeats 4000000 in
set_option maxRecDepth 20000 in
theorem A_24 {ev : xEv} {prim : xRel} {N aC aM oA : Nat} {X : xH} {i : Int32} {lv : xLv} {TC TM : yT} {SC SM : yS} {hp : xH} (hA : ∀ d, xAllM ev prim d) (hN : 3000 < N) (I : Inv ev aC aM oA X i lv TC SC TM SM hp) (hs : Si ev i) (sl : Nat) : ArmTo ev prim (aL_24 ev) 1428 2128 aC aM oA i lv TC TM hp sl := by
  have D := D_count (prim := prim) hN I.2.1 I.2.2.1 I.2.2.2.1 I.2.2.2.2.1 (ag ev i 1)
  refine arm_of sl I D (by decide) (by decide) ?_
  intro v hp1 n1 sl1 hp2 n2 sl2 c1 c2 oC oM
  obtain ⟨flC, oC⟩ := oC
  obtain ⟨flM, oM⟩ := oM
  have hl := I.1
  refine ye_aload (pc := 1428) rfl hl.2.1 ?_
  refine ye_ld (pc := 1429) (c := 1) (ln := 1) hl hs (by decide) (by decide) rfl rfl rfl rfl rfl ?_
  refine ye_callV (pc := 1435) (As := [.int (ag ev i 1)]) (rest := []) 0 (Or.inl rfl) rfl rfl rfl (Nat.le_of_ble_eq_true rfl) oC c1 ?_
  refine ye_aload (pc := 1438) rfl hl.2.2.1 ?_
  refine ye_ld (pc := 1439) (c := 1) (ln := 1) hl hs (by decide) (by decide) rfl rfl rfl rfl rfl ?_
  refine ye_callV (pc := 1445) (As := [.int (ag ev i 1)]) (rest := [.int v]) 0 (Or.inl rfl) rfl rfl rfl (Nat.le_of_ble_eq_true rfl) oM c2 ?_
  refine ye_icmp_eq (pc := 1448) rfl (fun _ => ?_) (fun q => absurd rfl q)
  exact ye_end
set_option maxHeartbeats 4000000 in
set_option maxRecDepth 20000 in
theorem A_25 {ev : xEv} {prim : xRel} {N aC aM oA : Nat} {X : xH} {i : Int32} {lv : xLv} {TC TM : yT} {SC SM : yS} {hp : xH} (hA : ∀ d, xAllM ev prim d) (hN : 3000 < N) (I : Inv ev aC aM oA X i lv TC SC TM SM hp) (hs : Si ev i) (sl : Nat) : ArmTo ev prim (aL_25 ev) 1453 2128 aC aM oA i lv TC TM hp sl := by
  have A := W_of hA hN I (ag ev i 1) (ag ev i 2)
  refine arm_thr (val := Value.int) (jM := 267) (avM := [.ref aM, .int (ag ev i 1), .int (ag ev i 2)]) sl I A (fun v S' n e F => Q_N (m_X12_of (F := F) (T := reT TM n) (d := 597) N SM (ag ev i 1) (ag ev i 2) aM I.2.2.2.2.1 e)) ?_
  intro kk v g1 hp1 n1 sl1 hp2 n2 sl2 hc oM oM2 c2 ct ho hg
  obtain ⟨flM, oM⟩ := oM
  obtain ⟨flM2, oM2⟩ := oM2
  have hl := I.1
  have hl1 := LV_st1 hl (j := 5) (by decide) (.int kk)
  have hl2 := LV_st1 hl1 (j := 6) (by decide) (.int v)
  have h5 : xG (xSt1 (xSt1 lv 5 (.int kk)) 6 (.int v)) 5 = some (.int kk) := xG_st1 (xG_new1 lv 5 (.int kk)) (by decide) (by show ¬ (1 = 2); decide)
  have h6 : xG (xSt1 (xSt1 lv 5 (.int kk)) 6 (.int v)) 6 = some (.int v) := xG_new1 _ _ _
  refine ⟨_, hl2, ?_⟩
  refine ye_aload (pc := 1453) rfl hl.2.1 ?_
  refine ye_ld (pc := 1454) (c := 1) (ln := 1) hl hs (by decide) (by decide) rfl rfl rfl rfl rfl ?_
  refine ye_ld (pc := 1460) (c := 2) (ln := 1) hl hs (by decide) (by decide) rfl rfl rfl rfl rfl ?_
  refine ye_aload (pc := 1466) rfl hl.2.2.2.1 ?_
  refine ye_fs (pc := 1467) (σ' := (1470, lv, [.int kk], hp1, n1, sl + sl1)) rfl ⟨1467, lv, [.ref aC, .int (ag ev i 1), .int (ag ev i 2), .ref oA], [], hp, _, sl, some (.int kk), hp1, n1, sl1, rfl, rfl, rfl, Nat.le_of_ble_eq_true rfl, hc⟩ ?_
  refine ye_p (pc := 1470) rfl rfl ?_
  refine ye_aload (pc := 1472) rfl hl1.2.2.1 ?_
  refine ye_ld (pc := 1473) (c := 1) (ln := 1) hl1 hs (by decide) (by decide) rfl rfl rfl rfl rfl ?_
  refine ye_ld (pc := 1479) (c := 2) (ln := 1) hl1 hs (by decide) (by decide) rfl rfl rfl rfl rfl ?_
  refine ye_callV (pc := 1485) (As := [.int (ag ev i 1), .int (ag ev i 2)]) (rest := []) 0 (Or.inl rfl) rfl rfl rfl (Nat.le_of_ble_eq_true rfl) oM c2 ?_
  refine ye_p (pc := 1488) rfl rfl ?_
  refine ye_aload (pc := 1490) rfl hl2.2.2.1 ?_
  refine ye_callV (pc := 1491) (As := []) (rest := []) 0 (Or.inl rfl) rfl rfl rfl (Nat.le_of_ble_eq_true rfl) oM2 ct ?_
  refine ye_iload (pc := 1494) rfl h5 ?_
  refine ye_icmp_eq (pc := 1496) rfl (fun _ => ?_) (fun q => absurd rfl q)
  refine ye_iload (pc := 1501) rfl h5 ?_
  refine ye_if_ne (pc := 1503) rfl (fun q => ?_) (fun q => ?_)
  · refine ye_p (pc := 1518) rfl rfl ?_
    exact ye_end
  · have q0 : kk = 0 := Decidable.not_not.mp q
    refine ye_aload (pc := 1506) rfl hl2.2.2.2.1 ?_
    refine ye_p (pc := 1507) rfl rfl ?_
    refine ye_lald (pc := 1508) rfl ho vp_01 ?_
    refine ye_iload (pc := 1509) rfl h6 ?_
    refine ye_p (pc := 1511) rfl rfl ?_
    refine ye_p (pc := 1512) rfl rfl ?_
    refine ye_if_eq (pc := 1513) rfl (fun _ => ?_) (fun q2 => absurd (by have e := hg q0; show lg_cmp (g1 0) _ = 0; rw [e]; exact lg_cmp_self _) q2)
    refine ye_p (pc := 1518) rfl rfl ?_
    exact ye_end
set_option maxHeartbeats 4000000 in
set_option maxRecDepth 20000 in
theorem A_26 {ev : xEv} {prim : xRel} {N aC aM oA : Nat} {X : xH} {i : Int32} {lv : xLv} {TC TM : yT} {SC SM : yS} {hp : xH} (hA : ∀ d, xAllM ev prim d) (hN : 3000 < N) (I : Inv ev aC aM oA X i lv TC SC TM SM hp) (hs : Si ev i) (sl : Nat) : ArmTo ev prim (aL_26 ev) 1521 2128 aC aM oA i lv TC TM hp sl := by
  have A := W_who hA hN I (ag ev i 1) (ag ev i 2)
  refine arm_thr (val := Value.int) (jM := 268) (avM := [.ref aM, .int (ag ev i 1), .int (ag ev i 2)]) sl I A (fun v S' n e F => Q_N (m_X12_who (F := F) (T := reT TM n) (d := 597) N SM (ag ev i 1) (ag ev i 2) aM I.2.2.2.2.1 e)) ?_
  intro kk v g1 hp1 n1 sl1 hp2 n2 sl2 hc oM oM2 c2 ct ho hg
  obtain ⟨flM, oM⟩ := oM
  obtain ⟨flM2, oM2⟩ := oM2
  have hl := I.1
  have hl1 := LV_st1 hl (j := 5) (by decide) (.int kk)
  have hl2 := LV_st1 hl1 (j := 6) (by decide) (.int v)
  have h5 : xG (xSt1 (xSt1 lv 5 (.int kk)) 6 (.int v)) 5 = some (.int kk) := xG_st1 (xG_new1 lv 5 (.int kk)) (by decide) (by show ¬ (1 = 2); decide)
  have h6 : xG (xSt1 (xSt1 lv 5 (.int kk)) 6 (.int v)) 6 = some (.int v) := xG_new1 _ _ _
  refine ⟨_, hl2, ?_⟩
  refine ye_aload (pc := 1521) rfl hl.2.1 ?_
  refine ye_ld (pc := 1522) (c := 1) (ln := 1) hl hs (by decide) (by decide) rfl rfl rfl rfl rfl ?_
  refine ye_ld (pc := 1528) (c := 2) (ln := 1) hl hs (by decide) (by decide) rfl rfl rfl rfl rfl ?_
  refine ye_aload (pc := 1534) rfl hl.2.2.2.1 ?_
  refine ye_fs (pc := 1535) (σ' := (1538, lv, [.int kk], hp1, n1, sl + sl1)) rfl ⟨1535, lv, [.ref aC, .int (ag ev i 1), .int (ag ev i 2), .ref oA], [], hp, _, sl, some (.int kk), hp1, n1, sl1, rfl, rfl, rfl, Nat.le_of_ble_eq_true rfl, hc⟩ ?_
  refine ye_p (pc := 1538) rfl rfl ?_
  refine ye_aload (pc := 1540) rfl hl1.2.2.1 ?_
  refine ye_ld (pc := 1541) (c := 1) (ln := 1) hl1 hs (by decide) (by decide) rfl rfl rfl rfl rfl ?_
  refine ye_ld (pc := 1547) (c := 2) (ln := 1) hl1 hs (by decide) (by decide) rfl rfl rfl rfl rfl ?_
  refine ye_callV (pc := 1553) (As := [.int (ag ev i 1), .int (ag ev i 2)]) (rest := []) 0 (Or.inl rfl) rfl rfl rfl (Nat.le_of_ble_eq_true rfl) oM c2 ?_
  refine ye_p (pc := 1556) rfl rfl ?_
  refine ye_aload (pc := 1558) rfl hl2.2.2.1 ?_
  refine ye_callV (pc := 1559) (As := []) (rest := []) 0 (Or.inl rfl) rfl rfl rfl (Nat.le_of_ble_eq_true rfl) oM2 ct ?_
  refine ye_iload (pc := 1562) rfl h5 ?_
  refine ye_icmp_eq (pc := 1564) rfl (fun _ => ?_) (fun q => absurd rfl q)
  refine ye_iload (pc := 1569) rfl h5 ?_
  refine ye_if_ne (pc := 1571) rfl (fun q => ?_) (fun q => ?_)
  · refine ye_p (pc := 1586) rfl rfl ?_
    exact ye_end
  · have q0 : kk = 0 := Decidable.not_not.mp q
    refine ye_aload (pc := 1574) rfl hl2.2.2.2.1 ?_
    refine ye_p (pc := 1575) rfl rfl ?_
    refine ye_lald (pc := 1576) rfl ho vp_01 ?_
    refine ye_iload (pc := 1577) rfl h6 ?_
    refine ye_p (pc := 1579) rfl rfl ?_
    refine ye_p (pc := 1580) rfl rfl ?_
    refine ye_if_eq (pc := 1581) rfl (fun _ => ?_) (fun q2 => absurd (by have e := hg q0; show lg_cmp (g1 0) _ = 0; rw [e]; exact lg_cmp_self _) q2)
    refine ye_p (pc := 1586) rfl rfl ?_
    exact ye_end
set_option maxHeartbeats 4000000 in
set_option maxRecDepth 20000 in
theorem A_27 {ev : xEv} {prim : xRel} {N aC aM oA : Nat} {X : xH} {i : Int32} {lv : xLv} {TC TM : yT} {SC SM : yS} {hp : xH} (hA : ∀ d, xAllM ev prim d) (hN : 3000 < N) (I : Inv ev aC aM oA X i lv TC SC TM SM hp) (hs : Si ev i) (sl : Nat) : ArmTo ev prim (aL_27 ev) 1589 2128 aC aM oA i lv TC TM hp sl := by
  have A := W_where hA hN I (ag ev i 1) (ag ev i 2)
  refine arm_thr (val := Value.int) (jM := 271) (avM := [.ref aM, .int (ag ev i 1), .int (ag ev i 2)]) sl I A (fun v S' n e F => Q_N (m_X12_where (F := F) (T := reT TM n) (d := 193) N SM (ag ev i 1) (ag ev i 2) aM I.2.2.2.2.1 e)) ?_
  intro kk v g1 hp1 n1 sl1 hp2 n2 sl2 hc oM oM2 c2 ct ho hg
  obtain ⟨flM, oM⟩ := oM
  obtain ⟨flM2, oM2⟩ := oM2
  have hl := I.1
  have hl1 := LV_st1 hl (j := 5) (by decide) (.int kk)
  have hl2 := LV_st1 hl1 (j := 6) (by decide) (.int v)
  have h5 : xG (xSt1 (xSt1 lv 5 (.int kk)) 6 (.int v)) 5 = some (.int kk) := xG_st1 (xG_new1 lv 5 (.int kk)) (by decide) (by show ¬ (1 = 2); decide)
  have h6 : xG (xSt1 (xSt1 lv 5 (.int kk)) 6 (.int v)) 6 = some (.int v) := xG_new1 _ _ _
  refine ⟨_, hl2, ?_⟩
  refine ye_aload (pc := 1589) rfl hl.2.1 ?_
  refine ye_ld (pc := 1590) (c := 1) (ln := 1) hl hs (by decide) (by decide) rfl rfl rfl rfl rfl ?_
  refine ye_ld (pc := 1596) (c := 2) (ln := 1) hl hs (by decide) (by decide) rfl rfl rfl rfl rfl ?_
  refine ye_aload (pc := 1602) rfl hl.2.2.2.1 ?_
  refine ye_fs (pc := 1603) (σ' := (1606, lv, [.int kk], hp1, n1, sl + sl1)) rfl ⟨1603, lv, [.ref aC, .int (ag ev i 1), .int (ag ev i 2), .ref oA], [], hp, _, sl, some (.int kk), hp1, n1, sl1, rfl, rfl, rfl, Nat.le_of_ble_eq_true rfl, hc⟩ ?_
  refine ye_p (pc := 1606) rfl rfl ?_
  refine ye_aload (pc := 1608) rfl hl1.2.2.1 ?_
  refine ye_ld (pc := 1609) (c := 1) (ln := 1) hl1 hs (by decide) (by decide) rfl rfl rfl rfl rfl ?_
  refine ye_ld (pc := 1615) (c := 2) (ln := 1) hl1 hs (by decide) (by decide) rfl rfl rfl rfl rfl ?_
  refine ye_callV (pc := 1621) (As := [.int (ag ev i 1), .int (ag ev i 2)]) (rest := []) 0 (Or.inl rfl) rfl rfl rfl (Nat.le_of_ble_eq_true rfl) oM c2 ?_
  refine ye_p (pc := 1624) rfl rfl ?_
  refine ye_aload (pc := 1626) rfl hl2.2.2.1 ?_
  refine ye_callV (pc := 1627) (As := []) (rest := []) 0 (Or.inl rfl) rfl rfl rfl (Nat.le_of_ble_eq_true rfl) oM2 ct ?_
  refine ye_iload (pc := 1630) rfl h5 ?_
  refine ye_icmp_eq (pc := 1632) rfl (fun _ => ?_) (fun q => absurd rfl q)
  refine ye_iload (pc := 1637) rfl h5 ?_
  refine ye_if_ne (pc := 1639) rfl (fun q => ?_) (fun q => ?_)
  · refine ye_p (pc := 1654) rfl rfl ?_
    exact ye_end
  · have q0 : kk = 0 := Decidable.not_not.mp q
    refine ye_aload (pc := 1642) rfl hl2.2.2.2.1 ?_
    refine ye_p (pc := 1643) rfl rfl ?_
    refine ye_lald (pc := 1644) rfl ho vp_01 ?_
    refine ye_iload (pc := 1645) rfl h6 ?_
    refine ye_p (pc := 1647) rfl rfl ?_
    refine ye_p (pc := 1648) rfl rfl ?_
    refine ye_if_eq (pc := 1649) rfl (fun _ => ?_) (fun q2 => absurd (by have e := hg q0; show lg_cmp (g1 0) _ = 0; rw [e]; exact lg_cmp_self _) q2)
    refine ye_p (pc := 1654) rfl rfl ?_
    exact ye_end
set_option maxHeartbeats 4000000 in
set_option maxRecDepth 20000 in
theorem A_28 {ev : xEv} {prim : xRel} {N aC aM oA : Nat} {X : xH} {i : Int32} {lv : xLv} {TC TM : yT} {SC SM : yS} {hp : xH} (hA : ∀ d, xAllM ev prim d) (hN : 3000 < N) (I : Inv ev aC aM oA X i lv TC SC TM SM hp) (hs : Si ev i) (sl : Nat) : ArmTo ev prim (aL_28 ev) 1657 2128 aC aM oA i lv TC TM hp sl := by
  have D := D_flown (prim := prim) hN I.2.1 I.2.2.1 I.2.2.2.1 I.2.2.2.2.1 (ag ev i 1) (ag ev i 2)
  refine arm_of sl I D (by decide) (by decide) ?_
  intro v hp1 n1 sl1 hp2 n2 sl2 c1 c2 oC oM
  obtain ⟨flC, oC⟩ := oC
  obtain ⟨flM, oM⟩ := oM
  have hl := I.1
  refine ye_aload (pc := 1657) rfl hl.2.1 ?_
  refine ye_ld (pc := 1658) (c := 1) (ln := 1) hl hs (by decide) (by decide) rfl rfl rfl rfl rfl ?_
  refine ye_ld (pc := 1664) (c := 2) (ln := 1) hl hs (by decide) (by decide) rfl rfl rfl rfl rfl ?_
  refine ye_callV (pc := 1670) (As := [.int (ag ev i 1), .int (ag ev i 2)]) (rest := []) 0 (Or.inl rfl) rfl rfl rfl (Nat.le_of_ble_eq_true rfl) oC c1 ?_
  refine ye_aload (pc := 1673) rfl hl.2.2.1 ?_
  refine ye_ld (pc := 1674) (c := 1) (ln := 1) hl hs (by decide) (by decide) rfl rfl rfl rfl rfl ?_
  refine ye_ld (pc := 1680) (c := 2) (ln := 1) hl hs (by decide) (by decide) rfl rfl rfl rfl rfl ?_
  refine ye_callV (pc := 1686) (As := [.int (ag ev i 1), .int (ag ev i 2)]) (rest := [.int v]) 0 (Or.inl rfl) rfl rfl rfl (Nat.le_of_ble_eq_true rfl) oM c2 ?_
  refine ye_icmp_eq (pc := 1689) rfl (fun _ => ?_) (fun q => absurd rfl q)
  exact ye_end
set_option maxHeartbeats 4000000 in
set_option maxRecDepth 20000 in
theorem A_29 {ev : xEv} {prim : xRel} {N aC aM oA : Nat} {X : xH} {i : Int32} {lv : xLv} {TC TM : yT} {SC SM : yS} {hp : xH} (hA : ∀ d, xAllM ev prim d) (hN : 3000 < N) (I : Inv ev aC aM oA X i lv TC SC TM SM hp) (hs : Si ev i) (sl : Nat) : ArmTo ev prim (aL_29 ev) 1694 2128 aC aM oA i lv TC TM hp sl := by
  have D := D_lead (prim := prim) hN I.2.1 I.2.2.1 I.2.2.2.1 I.2.2.2.2.1 (ag ev i 1)
  refine arm_of sl I D (by decide) (by decide) ?_
  intro v hp1 n1 sl1 hp2 n2 sl2 c1 c2 oC oM
  obtain ⟨flC, oC⟩ := oC
  obtain ⟨flM, oM⟩ := oM
  have hl := I.1
  refine ye_aload (pc := 1694) rfl hl.2.1 ?_
  refine ye_ld (pc := 1695) (c := 1) (ln := 1) hl hs (by decide) (by decide) rfl rfl rfl rfl rfl ?_
  refine ye_callV (pc := 1701) (As := [.int (ag ev i 1)]) (rest := []) 0 (Or.inl rfl) rfl rfl rfl (Nat.le_of_ble_eq_true rfl) oC c1 ?_
  refine ye_aload (pc := 1704) rfl hl.2.2.1 ?_
  refine ye_ld (pc := 1705) (c := 1) (ln := 1) hl hs (by decide) (by decide) rfl rfl rfl rfl rfl ?_
  refine ye_callV (pc := 1711) (As := [.int (ag ev i 1)]) (rest := [.int v]) 0 (Or.inl rfl) rfl rfl rfl (Nat.le_of_ble_eq_true rfl) oM c2 ?_
  refine ye_icmp_eq (pc := 1714) rfl (fun _ => ?_) (fun q => absurd rfl q)
  exact ye_end
set_option maxHeartbeats 4000000 in
set_option maxRecDepth 20000 in
theorem A_30 {ev : xEv} {prim : xRel} {N aC aM oA : Nat} {X : xH} {i : Int32} {lv : xLv} {TC TM : yT} {SC SM : yS} {hp : xH} (hA : ∀ d, xAllM ev prim d) (hN : 3000 < N) (I : Inv ev aC aM oA X i lv TC SC TM SM hp) (hs : Si ev i) (sl : Nat) : ArmTo ev prim (aL_30 ev) 1719 2128 aC aM oA i lv TC TM hp sl := by
  have D := D_judge (prim := prim) hN I.2.1 I.2.2.1 I.2.2.2.1 I.2.2.2.2.1 (ag ev i 1)
  refine arm_of sl I D (by decide) (by decide) ?_
  intro v hp1 n1 sl1 hp2 n2 sl2 c1 c2 oC oM
  obtain ⟨flC, oC⟩ := oC
  obtain ⟨flM, oM⟩ := oM
  have hl := I.1
  refine ye_aload (pc := 1719) rfl hl.2.1 ?_
  refine ye_ld (pc := 1720) (c := 1) (ln := 1) hl hs (by decide) (by decide) rfl rfl rfl rfl rfl ?_
  refine ye_callV (pc := 1726) (As := [.int (ag ev i 1)]) (rest := []) 0 (Or.inl rfl) rfl rfl rfl (Nat.le_of_ble_eq_true rfl) oC c1 ?_
  refine ye_aload (pc := 1729) rfl hl.2.2.1 ?_
  refine ye_ld (pc := 1730) (c := 1) (ln := 1) hl hs (by decide) (by decide) rfl rfl rfl rfl rfl ?_
  refine ye_callV (pc := 1736) (As := [.int (ag ev i 1)]) (rest := [.int v]) 0 (Or.inl rfl) rfl rfl rfl (Nat.le_of_ble_eq_true rfl) oM c2 ?_
  refine ye_icmp_eq (pc := 1739) rfl (fun _ => ?_) (fun q => absurd rfl q)
  exact ye_end
set_option maxHeartbeats 4000000 in
set_option maxRecDepth 20000 in
theorem A_31 {ev : xEv} {prim : xRel} {N aC aM oA : Nat} {X : xH} {i : Int32} {lv : xLv} {TC TM : yT} {SC SM : yS} {hp : xH} (hA : ∀ d, xAllM ev prim d) (hN : 3000 < N) (I : Inv ev aC aM oA X i lv TC SC TM SM hp) (hs : Si ev i) (sl : Nat) : ArmTo ev prim (aL_31 ev) 1744 2128 aC aM oA i lv TC TM hp sl := by
  have D := D_coin (prim := prim) hN I.2.1 I.2.2.1 I.2.2.2.1 I.2.2.2.2.1
  refine arm_of sl I D (by decide) (by decide) ?_
  intro v hp1 n1 sl1 hp2 n2 sl2 c1 c2 oC oM
  obtain ⟨flC, oC⟩ := oC
  obtain ⟨flM, oM⟩ := oM
  have hl := I.1
  refine ye_aload (pc := 1744) rfl hl.2.1 ?_
  refine ye_callV (pc := 1745) (As := []) (rest := []) 0 (Or.inl rfl) rfl rfl rfl (Nat.le_of_ble_eq_true rfl) oC c1 ?_
  refine ye_aload (pc := 1748) rfl hl.2.2.1 ?_
  refine ye_callV (pc := 1749) (As := []) (rest := [.int v]) 0 (Or.inl rfl) rfl rfl rfl (Nat.le_of_ble_eq_true rfl) oM c2 ?_
  refine ye_icmp_eq (pc := 1752) rfl (fun _ => ?_) (fun q => absurd rfl q)
  exact ye_end
set_option maxHeartbeats 4000000 in
set_option maxRecDepth 20000 in
theorem A_32 {ev : xEv} {prim : xRel} {N aC aM oA : Nat} {X : xH} {i : Int32} {lv : xLv} {TC TM : yT} {SC SM : yS} {hp : xH} (hA : ∀ d, xAllM ev prim d) (hN : 3000 < N) (I : Inv ev aC aM oA X i lv TC SC TM SM hp) (hs : Si ev i) (sl : Nat) : ArmTo ev prim (aL_32 ev) 1757 2128 aC aM oA i lv TC TM hp sl := by
  have D := D_find (prim := prim) hN I.2.1 I.2.2.1 I.2.2.2.1 I.2.2.2.2.1 (ag ev i 1)
  refine arm_of sl I D (by decide) (by decide) ?_
  intro v hp1 n1 sl1 hp2 n2 sl2 c1 c2 oC oM
  obtain ⟨flC, oC⟩ := oC
  obtain ⟨flM, oM⟩ := oM
  have hl := I.1
  refine ye_aload (pc := 1757) rfl hl.2.1 ?_
  refine ye_ld (pc := 1758) (c := 1) (ln := 1) hl hs (by decide) (by decide) rfl rfl rfl rfl rfl ?_
  refine ye_callV (pc := 1764) (As := [.int (ag ev i 1)]) (rest := []) 0 (Or.inl rfl) rfl rfl rfl (Nat.le_of_ble_eq_true rfl) oC c1 ?_
  refine ye_aload (pc := 1767) rfl hl.2.2.1 ?_
  refine ye_ld (pc := 1768) (c := 1) (ln := 1) hl hs (by decide) (by decide) rfl rfl rfl rfl rfl ?_
  refine ye_callV (pc := 1774) (As := [.int (ag ev i 1)]) (rest := [.int v]) 0 (Or.inl rfl) rfl rfl rfl (Nat.le_of_ble_eq_true rfl) oM c2 ?_
  refine ye_icmp_eq (pc := 1777) rfl (fun _ => ?_) (fun q => absurd rfl q)
  exact ye_end
