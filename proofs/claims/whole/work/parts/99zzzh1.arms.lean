/-! THE ARMS OF THE LAW (gen_zzg.py) -/
set_option maxHeartbeats 4000000 in
set_option maxRecDepth 20000 in
theorem A_11 {ev : xEv} {prim : xRel} {N aC aM oA : Nat} {X : xH} {i : Int32} {lv : xLv} {TC TM : yT} {SC SM : yS} {hp : xH} (hA : ∀ d, xAllM ev prim d) (hN : 3000 < N) (I : Inv ev aC aM oA X i lv TC SC TM SM hp) (hs : Si ev i) (sl : Nat) : ArmTo ev prim (aL_11 ev) 959 2128 aC aM oA i lv TC TM hp sl := by
  have D := D_pilot (prim := prim) hN I.2.1 I.2.2.1 I.2.2.2.1 I.2.2.2.2.1 (ag ev i 1) (ag ev i 2)
  refine arm_of sl I D (by decide) (by decide) ?_
  intro v hp1 n1 sl1 hp2 n2 sl2 c1 c2 oC oM
  obtain ⟨flC, oC⟩ := oC
  obtain ⟨flM, oM⟩ := oM
  have hl := I.1
  refine ye_aload (pc := 959) rfl hl.2.1 ?_
  refine ye_ld (pc := 960) (c := 1) (ln := 1) hl hs (by decide) (by decide) rfl rfl rfl rfl rfl ?_
  refine ye_ld (pc := 966) (c := 2) (ln := 1) hl hs (by decide) (by decide) rfl rfl rfl rfl rfl ?_
  refine ye_callV (pc := 972) (As := [.int (ag ev i 1), .int (ag ev i 2)]) (rest := []) 0 (Or.inl rfl) rfl rfl rfl (Nat.le_of_ble_eq_true rfl) oC c1 ?_
  refine ye_aload (pc := 975) rfl hl.2.2.1 ?_
  refine ye_ld (pc := 976) (c := 1) (ln := 1) hl hs (by decide) (by decide) rfl rfl rfl rfl rfl ?_
  refine ye_ld (pc := 982) (c := 2) (ln := 1) hl hs (by decide) (by decide) rfl rfl rfl rfl rfl ?_
  refine ye_callV (pc := 988) (As := [.int (ag ev i 1), .int (ag ev i 2)]) (rest := [.int v]) 0 (Or.inl rfl) rfl rfl rfl (Nat.le_of_ble_eq_true rfl) oM c2 ?_
  refine ye_icmp_eq (pc := 991) rfl (fun _ => ?_) (fun q => absurd rfl q)
  exact ye_end
set_option maxHeartbeats 4000000 in
set_option maxRecDepth 20000 in
theorem A_12 {ev : xEv} {prim : xRel} {N aC aM oA : Nat} {X : xH} {i : Int32} {lv : xLv} {TC TM : yT} {SC SM : yS} {hp : xH} (hA : ∀ d, xAllM ev prim d) (hN : 3000 < N) (I : Inv ev aC aM oA X i lv TC SC TM SM hp) (hs : Si ev i) (sl : Nat) : ArmTo ev prim (aL_12 ev) 996 2128 aC aM oA i lv TC TM hp sl := by
  have D := D_learns (prim := prim) hN I.2.1 I.2.2.1 I.2.2.2.1 I.2.2.2.2.1 (ag ev i 1) (ag ev i 2)
  refine arm_of sl I D (by decide) (by decide) ?_
  intro v hp1 n1 sl1 hp2 n2 sl2 c1 c2 oC oM
  obtain ⟨flC, oC⟩ := oC
  obtain ⟨flM, oM⟩ := oM
  have hl := I.1
  refine ye_aload (pc := 996) rfl hl.2.1 ?_
  refine ye_ld (pc := 997) (c := 1) (ln := 1) hl hs (by decide) (by decide) rfl rfl rfl rfl rfl ?_
  refine ye_ld (pc := 1003) (c := 2) (ln := 1) hl hs (by decide) (by decide) rfl rfl rfl rfl rfl ?_
  refine ye_callV (pc := 1009) (As := [.int (ag ev i 1), .int (ag ev i 2)]) (rest := []) 0 (Or.inl rfl) rfl rfl rfl (Nat.le_of_ble_eq_true rfl) oC c1 ?_
  refine ye_aload (pc := 1012) rfl hl.2.2.1 ?_
  refine ye_ld (pc := 1013) (c := 1) (ln := 1) hl hs (by decide) (by decide) rfl rfl rfl rfl rfl ?_
  refine ye_ld (pc := 1019) (c := 2) (ln := 1) hl hs (by decide) (by decide) rfl rfl rfl rfl rfl ?_
  refine ye_callV (pc := 1025) (As := [.int (ag ev i 1), .int (ag ev i 2)]) (rest := [.int v]) 0 (Or.inl rfl) rfl rfl rfl (Nat.le_of_ble_eq_true rfl) oM c2 ?_
  refine ye_icmp_eq (pc := 1028) rfl (fun _ => ?_) (fun q => absurd rfl q)
  exact ye_end
set_option maxHeartbeats 4000000 in
set_option maxRecDepth 20000 in
theorem A_13 {ev : xEv} {prim : xRel} {N aC aM oA : Nat} {X : xH} {i : Int32} {lv : xLv} {TC TM : yT} {SC SM : yS} {hp : xH} (hA : ∀ d, xAllM ev prim d) (hN : 3000 < N) (I : Inv ev aC aM oA X i lv TC SC TM SM hp) (hs : Si ev i) (sl : Nat) : ArmTo ev prim (aL_13 ev) 1033 2128 aC aM oA i lv TC TM hp sl := by
  have D := D_bag (prim := prim) hN I.2.1 I.2.2.1 I.2.2.2.1 I.2.2.2.2.1 (ag ev i 1) (ag ev i 2) (ag ev i 3) (ag ev i 4) (ag ev i 5)
  refine arm_of sl I D (by decide) (by decide) ?_
  intro v hp1 n1 sl1 hp2 n2 sl2 c1 c2 oC oM
  obtain ⟨flC, oC⟩ := oC
  obtain ⟨flM, oM⟩ := oM
  have hl := I.1
  refine ye_aload (pc := 1033) rfl hl.2.1 ?_
  refine ye_ld (pc := 1034) (c := 1) (ln := 1) hl hs (by decide) (by decide) rfl rfl rfl rfl rfl ?_
  refine ye_ld (pc := 1040) (c := 2) (ln := 1) hl hs (by decide) (by decide) rfl rfl rfl rfl rfl ?_
  refine ye_ld (pc := 1046) (c := 3) (ln := 1) hl hs (by decide) (by decide) rfl rfl rfl rfl rfl ?_
  refine ye_ld (pc := 1052) (c := 4) (ln := 1) hl hs (by decide) (by decide) rfl rfl rfl rfl rfl ?_
  refine ye_ld (pc := 1058) (c := 5) (ln := 1) hl hs (by decide) (by decide) rfl rfl rfl rfl rfl ?_
  refine ye_callV (pc := 1064) (As := [.int (ag ev i 1), .int (ag ev i 2), .int (ag ev i 3), .int (ag ev i 4), .int (ag ev i 5)]) (rest := []) 0 (Or.inl rfl) rfl rfl rfl (Nat.le_of_ble_eq_true rfl) oC c1 ?_
  refine ye_aload (pc := 1067) rfl hl.2.2.1 ?_
  refine ye_ld (pc := 1068) (c := 1) (ln := 1) hl hs (by decide) (by decide) rfl rfl rfl rfl rfl ?_
  refine ye_ld (pc := 1074) (c := 2) (ln := 1) hl hs (by decide) (by decide) rfl rfl rfl rfl rfl ?_
  refine ye_ld (pc := 1080) (c := 3) (ln := 1) hl hs (by decide) (by decide) rfl rfl rfl rfl rfl ?_
  refine ye_ld (pc := 1086) (c := 4) (ln := 1) hl hs (by decide) (by decide) rfl rfl rfl rfl rfl ?_
  refine ye_ld (pc := 1092) (c := 5) (ln := 1) hl hs (by decide) (by decide) rfl rfl rfl rfl rfl ?_
  refine ye_callV (pc := 1098) (As := [.int (ag ev i 1), .int (ag ev i 2), .int (ag ev i 3), .int (ag ev i 4), .int (ag ev i 5)]) (rest := [.int v]) 0 (Or.inl rfl) rfl rfl rfl (Nat.le_of_ble_eq_true rfl) oM c2 ?_
  refine ye_icmp_eq (pc := 1101) rfl (fun _ => ?_) (fun q => absurd rfl q)
  exact ye_end
set_option maxHeartbeats 4000000 in
set_option maxRecDepth 20000 in
theorem A_14 {ev : xEv} {prim : xRel} {N aC aM oA : Nat} {X : xH} {i : Int32} {lv : xLv} {TC TM : yT} {SC SM : yS} {hp : xH} (hA : ∀ d, xAllM ev prim d) (hN : 3000 < N) (I : Inv ev aC aM oA X i lv TC SC TM SM hp) (hs : Si ev i) (sl : Nat) : ArmTo ev prim (aL_14 ev) 1106 2128 aC aM oA i lv TC TM hp sl := by
  have D := D_train (prim := prim) hN I.2.1 I.2.2.1 I.2.2.2.1 I.2.2.2.2.1 (ag ev i 1)
  refine arm_of sl I D (by decide) (by decide) ?_
  intro v hp1 n1 sl1 hp2 n2 sl2 c1 c2 oC oM
  obtain ⟨flC, oC⟩ := oC
  obtain ⟨flM, oM⟩ := oM
  have hl := I.1
  refine ye_aload (pc := 1106) rfl hl.2.1 ?_
  refine ye_ld (pc := 1107) (c := 1) (ln := 1) hl hs (by decide) (by decide) rfl rfl rfl rfl rfl ?_
  refine ye_callV (pc := 1113) (As := [.int (ag ev i 1)]) (rest := []) 0 (Or.inl rfl) rfl rfl rfl (Nat.le_of_ble_eq_true rfl) oC c1 ?_
  refine ye_aload (pc := 1116) rfl hl.2.2.1 ?_
  refine ye_ld (pc := 1117) (c := 1) (ln := 1) hl hs (by decide) (by decide) rfl rfl rfl rfl rfl ?_
  refine ye_callV (pc := 1123) (As := [.int (ag ev i 1)]) (rest := [.int v]) 0 (Or.inl rfl) rfl rfl rfl (Nat.le_of_ble_eq_true rfl) oM c2 ?_
  refine ye_icmp_eq (pc := 1126) rfl (fun _ => ?_) (fun q => absurd rfl q)
  exact ye_end
set_option maxHeartbeats 4000000 in
set_option maxRecDepth 20000 in
theorem A_15 {ev : xEv} {prim : xRel} {N aC aM oA : Nat} {X : xH} {i : Int32} {lv : xLv} {TC TM : yT} {SC SM : yS} {hp : xH} (hA : ∀ d, xAllM ev prim d) (hN : 3000 < N) (I : Inv ev aC aM oA X i lv TC SC TM SM hp) (hs : Si ev i) (sl : Nat) : ArmTo ev prim (aL_15 ev) 1131 2128 aC aM oA i lv TC TM hp sl := by
  have D := D_set (prim := prim) hN I.2.1 I.2.2.1 I.2.2.2.1 I.2.2.2.2.1 (ag ev i 1) (ag ev i 2)
  refine arm_of sl I D (by decide) (by decide) ?_
  intro v hp1 n1 sl1 hp2 n2 sl2 c1 c2 oC oM
  obtain ⟨flC, oC⟩ := oC
  obtain ⟨flM, oM⟩ := oM
  have hl := I.1
  refine ye_aload (pc := 1131) rfl hl.2.1 ?_
  refine ye_ld (pc := 1132) (c := 1) (ln := 1) hl hs (by decide) (by decide) rfl rfl rfl rfl rfl ?_
  refine ye_ld (pc := 1138) (c := 2) (ln := 1) hl hs (by decide) (by decide) rfl rfl rfl rfl rfl ?_
  refine ye_callV (pc := 1144) (As := [.int (ag ev i 1), .int (ag ev i 2)]) (rest := []) 0 (Or.inl rfl) rfl rfl rfl (Nat.le_of_ble_eq_true rfl) oC c1 ?_
  refine ye_aload (pc := 1147) rfl hl.2.2.1 ?_
  refine ye_ld (pc := 1148) (c := 1) (ln := 1) hl hs (by decide) (by decide) rfl rfl rfl rfl rfl ?_
  refine ye_ld (pc := 1154) (c := 2) (ln := 1) hl hs (by decide) (by decide) rfl rfl rfl rfl rfl ?_
  refine ye_callV (pc := 1160) (As := [.int (ag ev i 1), .int (ag ev i 2)]) (rest := [.int v]) 0 (Or.inl rfl) rfl rfl rfl (Nat.le_of_ble_eq_true rfl) oM c2 ?_
  refine ye_icmp_eq (pc := 1163) rfl (fun _ => ?_) (fun q => absurd rfl q)
  exact ye_end
set_option maxHeartbeats 4000000 in
set_option maxRecDepth 20000 in
theorem A_16 {ev : xEv} {prim : xRel} {N aC aM oA : Nat} {X : xH} {i : Int32} {lv : xLv} {TC TM : yT} {SC SM : yS} {hp : xH} (hA : ∀ d, xAllM ev prim d) (hN : 3000 < N) (I : Inv ev aC aM oA X i lv TC SC TM SM hp) (hs : Si ev i) (sl : Nat) : ArmTo ev prim (aL_16 ev) 1168 2128 aC aM oA i lv TC TM hp sl := by
  have D := D_sign (prim := prim) hN I.2.1 I.2.2.1 I.2.2.2.1 I.2.2.2.2.1 (ag ev i 1)
  refine arm_of sl I D (by decide) (by decide) ?_
  intro v hp1 n1 sl1 hp2 n2 sl2 c1 c2 oC oM
  obtain ⟨flC, oC⟩ := oC
  obtain ⟨flM, oM⟩ := oM
  have hl := I.1
  refine ye_aload (pc := 1168) rfl hl.2.1 ?_
  refine ye_ld (pc := 1169) (c := 1) (ln := 1) hl hs (by decide) (by decide) rfl rfl rfl rfl rfl ?_
  refine ye_callV (pc := 1175) (As := [.int (ag ev i 1)]) (rest := []) 0 (Or.inl rfl) rfl rfl rfl (Nat.le_of_ble_eq_true rfl) oC c1 ?_
  refine ye_aload (pc := 1178) rfl hl.2.2.1 ?_
  refine ye_ld (pc := 1179) (c := 1) (ln := 1) hl hs (by decide) (by decide) rfl rfl rfl rfl rfl ?_
  refine ye_callV (pc := 1185) (As := [.int (ag ev i 1)]) (rest := [.int v]) 0 (Or.inl rfl) rfl rfl rfl (Nat.le_of_ble_eq_true rfl) oM c2 ?_
  refine ye_icmp_eq (pc := 1188) rfl (fun _ => ?_) (fun q => absurd rfl q)
  exact ye_end
set_option maxHeartbeats 4000000 in
set_option maxRecDepth 20000 in
theorem A_17 {ev : xEv} {prim : xRel} {N aC aM oA : Nat} {X : xH} {i : Int32} {lv : xLv} {TC TM : yT} {SC SM : yS} {hp : xH} (hA : ∀ d, xAllM ev prim d) (hN : 3000 < N) (I : Inv ev aC aM oA X i lv TC SC TM SM hp) (hs : Si ev i) (sl : Nat) : ArmTo ev prim (aL_17 ev) 1193 2128 aC aM oA i lv TC TM hp sl := by
  have D := D_end (prim := prim) hN I.2.1 I.2.2.1 I.2.2.2.1 I.2.2.2.2.1 (ag ev i 1)
  refine arm_of sl I D (by decide) (by decide) ?_
  intro v hp1 n1 sl1 hp2 n2 sl2 c1 c2 oC oM
  obtain ⟨flC, oC⟩ := oC
  obtain ⟨flM, oM⟩ := oM
  have hl := I.1
  refine ye_aload (pc := 1193) rfl hl.2.1 ?_
  refine ye_ld (pc := 1194) (c := 1) (ln := 1) hl hs (by decide) (by decide) rfl rfl rfl rfl rfl ?_
  refine ye_callV (pc := 1200) (As := [.int (ag ev i 1)]) (rest := []) 0 (Or.inl rfl) rfl rfl rfl (Nat.le_of_ble_eq_true rfl) oC c1 ?_
  refine ye_aload (pc := 1203) rfl hl.2.2.1 ?_
  refine ye_ld (pc := 1204) (c := 1) (ln := 1) hl hs (by decide) (by decide) rfl rfl rfl rfl rfl ?_
  refine ye_callV (pc := 1210) (As := [.int (ag ev i 1)]) (rest := [.int v]) 0 (Or.inl rfl) rfl rfl rfl (Nat.le_of_ble_eq_true rfl) oM c2 ?_
  refine ye_icmp_eq (pc := 1213) rfl (fun _ => ?_) (fun q => absurd rfl q)
  exact ye_end
set_option maxHeartbeats 4000000 in
set_option maxRecDepth 20000 in
theorem A_18 {ev : xEv} {prim : xRel} {N aC aM oA : Nat} {X : xH} {i : Int32} {lv : xLv} {TC TM : yT} {SC SM : yS} {hp : xH} (hA : ∀ d, xAllM ev prim d) (hN : 3000 < N) (I : Inv ev aC aM oA X i lv TC SC TM SM hp) (hs : Si ev i) (sl : Nat) : ArmTo ev prim (aL_18 ev) 1218 2128 aC aM oA i lv TC TM hp sl := by
  have D := D_force (prim := prim) hN I.2.1 I.2.2.1 I.2.2.2.1 I.2.2.2.2.1 (ag ev i 1) (ag ev i 2)
  refine arm_of sl I D (by decide) (by decide) ?_
  intro v hp1 n1 sl1 hp2 n2 sl2 c1 c2 oC oM
  obtain ⟨flC, oC⟩ := oC
  obtain ⟨flM, oM⟩ := oM
  have hl := I.1
  refine ye_aload (pc := 1218) rfl hl.2.1 ?_
  refine ye_ld (pc := 1219) (c := 1) (ln := 1) hl hs (by decide) (by decide) rfl rfl rfl rfl rfl ?_
  refine ye_ld (pc := 1225) (c := 2) (ln := 1) hl hs (by decide) (by decide) rfl rfl rfl rfl rfl ?_
  refine ye_callV (pc := 1231) (As := [.int (ag ev i 1), .int (ag ev i 2)]) (rest := []) 0 (Or.inl rfl) rfl rfl rfl (Nat.le_of_ble_eq_true rfl) oC c1 ?_
  refine ye_aload (pc := 1234) rfl hl.2.2.1 ?_
  refine ye_ld (pc := 1235) (c := 1) (ln := 1) hl hs (by decide) (by decide) rfl rfl rfl rfl rfl ?_
  refine ye_ld (pc := 1241) (c := 2) (ln := 1) hl hs (by decide) (by decide) rfl rfl rfl rfl rfl ?_
  refine ye_callV (pc := 1247) (As := [.int (ag ev i 1), .int (ag ev i 2)]) (rest := [.int v]) 0 (Or.inl rfl) rfl rfl rfl (Nat.le_of_ble_eq_true rfl) oM c2 ?_
  refine ye_icmp_eq (pc := 1250) rfl (fun _ => ?_) (fun q => absurd rfl q)
  exact ye_end
set_option maxHeartbeats 4000000 in
set_option maxRecDepth 20000 in
theorem A_19 {ev : xEv} {prim : xRel} {N aC aM oA : Nat} {X : xH} {i : Int32} {lv : xLv} {TC TM : yT} {SC SM : yS} {hp : xH} (hA : ∀ d, xAllM ev prim d) (hN : 3000 < N) (I : Inv ev aC aM oA X i lv TC SC TM SM hp) (hs : Si ev i) (sl : Nat) : ArmTo ev prim (aL_19 ev) 1255 2128 aC aM oA i lv TC TM hp sl := by
  have D := D_flight (prim := prim) hN I.2.1 I.2.2.1 I.2.2.2.1 I.2.2.2.2.1 (ag ev i 1) (ag ev i 2) (ag ev i 3) (ag ev i 4)
  refine arm_of sl I D (by decide) (by decide) ?_
  intro v hp1 n1 sl1 hp2 n2 sl2 c1 c2 oC oM
  obtain ⟨flC, oC⟩ := oC
  obtain ⟨flM, oM⟩ := oM
  have hl := I.1
  refine ye_aload (pc := 1255) rfl hl.2.1 ?_
  refine ye_ld (pc := 1256) (c := 1) (ln := 1) hl hs (by decide) (by decide) rfl rfl rfl rfl rfl ?_
  refine ye_ld (pc := 1262) (c := 2) (ln := 1) hl hs (by decide) (by decide) rfl rfl rfl rfl rfl ?_
  refine ye_ld (pc := 1268) (c := 3) (ln := 1) hl hs (by decide) (by decide) rfl rfl rfl rfl rfl ?_
  refine ye_ld (pc := 1274) (c := 4) (ln := 1) hl hs (by decide) (by decide) rfl rfl rfl rfl rfl ?_
  refine ye_callV (pc := 1280) (As := [.int (ag ev i 1), .int (ag ev i 2), .int (ag ev i 3), .int (ag ev i 4)]) (rest := []) 0 (Or.inl rfl) rfl rfl rfl (Nat.le_of_ble_eq_true rfl) oC c1 ?_
  refine ye_aload (pc := 1283) rfl hl.2.2.1 ?_
  refine ye_ld (pc := 1284) (c := 1) (ln := 1) hl hs (by decide) (by decide) rfl rfl rfl rfl rfl ?_
  refine ye_ld (pc := 1290) (c := 2) (ln := 1) hl hs (by decide) (by decide) rfl rfl rfl rfl rfl ?_
  refine ye_ld (pc := 1296) (c := 3) (ln := 1) hl hs (by decide) (by decide) rfl rfl rfl rfl rfl ?_
  refine ye_ld (pc := 1302) (c := 4) (ln := 1) hl hs (by decide) (by decide) rfl rfl rfl rfl rfl ?_
  refine ye_callV (pc := 1308) (As := [.int (ag ev i 1), .int (ag ev i 2), .int (ag ev i 3), .int (ag ev i 4)]) (rest := [.int v]) 0 (Or.inl rfl) rfl rfl rfl (Nat.le_of_ble_eq_true rfl) oM c2 ?_
  refine ye_icmp_eq (pc := 1311) rfl (fun _ => ?_) (fun q => absurd rfl q)
  exact ye_end
set_option maxHeartbeats 4000000 in
set_option maxRecDepth 20000 in
theorem A_20 {ev : xEv} {prim : xRel} {N aC aM oA : Nat} {X : xH} {i : Int32} {lv : xLv} {TC TM : yT} {SC SM : yS} {hp : xH} (hA : ∀ d, xAllM ev prim d) (hN : 3000 < N) (I : Inv ev aC aM oA X i lv TC SC TM SM hp) (hs : Si ev i) (sl : Nat) : ArmTo ev prim (aL_20 ev) 1316 2128 aC aM oA i lv TC TM hp sl := by
  have D := D_cancel (prim := prim) hN I.2.1 I.2.2.1 I.2.2.2.1 I.2.2.2.2.1 (ag ev i 1)
  refine arm_of sl I D (by decide) (by decide) ?_
  intro v hp1 n1 sl1 hp2 n2 sl2 c1 c2 oC oM
  obtain ⟨flC, oC⟩ := oC
  obtain ⟨flM, oM⟩ := oM
  have hl := I.1
  refine ye_aload (pc := 1316) rfl hl.2.1 ?_
  refine ye_ld (pc := 1317) (c := 1) (ln := 1) hl hs (by decide) (by decide) rfl rfl rfl rfl rfl ?_
  refine ye_callV (pc := 1323) (As := [.int (ag ev i 1)]) (rest := []) 0 (Or.inl rfl) rfl rfl rfl (Nat.le_of_ble_eq_true rfl) oC c1 ?_
  refine ye_aload (pc := 1326) rfl hl.2.2.1 ?_
  refine ye_ld (pc := 1327) (c := 1) (ln := 1) hl hs (by decide) (by decide) rfl rfl rfl rfl rfl ?_
  refine ye_callV (pc := 1333) (As := [.int (ag ev i 1)]) (rest := [.int v]) 0 (Or.inl rfl) rfl rfl rfl (Nat.le_of_ble_eq_true rfl) oM c2 ?_
  refine ye_icmp_eq (pc := 1336) rfl (fun _ => ?_) (fun q => absurd rfl q)
  exact ye_end
set_option maxHeartbeats 4000000 in
set_option maxRecDepth 20000 in
theorem A_21 {ev : xEv} {prim : xRel} {N aC aM oA : Nat} {X : xH} {i : Int32} {lv : xLv} {TC TM : yT} {SC SM : yS} {hp : xH} (hA : ∀ d, xAllM ev prim d) (hN : 3000 < N) (I : Inv ev aC aM oA X i lv TC SC TM SM hp) (hs : Si ev i) (sl : Nat) : ArmTo ev prim (aL_21 ev) 1341 2128 aC aM oA i lv TC TM hp sl := by
  have D := D_step (prim := prim) hN I.2.1 I.2.2.1 I.2.2.2.1 I.2.2.2.2.1 (ag ev i 1)
  refine arm_of sl I D (by decide) (by decide) ?_
  intro v hp1 n1 sl1 hp2 n2 sl2 c1 c2 oC oM
  obtain ⟨flC, oC⟩ := oC
  obtain ⟨flM, oM⟩ := oM
  have hl := I.1
  refine ye_aload (pc := 1341) rfl hl.2.1 ?_
  refine ye_ld (pc := 1342) (c := 1) (ln := 1) hl hs (by decide) (by decide) rfl rfl rfl rfl rfl ?_
  refine ye_callV (pc := 1348) (As := [.int (ag ev i 1)]) (rest := []) 0 (Or.inl rfl) rfl rfl rfl (Nat.le_of_ble_eq_true rfl) oC c1 ?_
  refine ye_aload (pc := 1351) rfl hl.2.2.1 ?_
  refine ye_ld (pc := 1352) (c := 1) (ln := 1) hl hs (by decide) (by decide) rfl rfl rfl rfl rfl ?_
  refine ye_callV (pc := 1358) (As := [.int (ag ev i 1)]) (rest := [.int v]) 0 (Or.inl rfl) rfl rfl rfl (Nat.le_of_ble_eq_true rfl) oM c2 ?_
  refine ye_icmp_eq (pc := 1361) rfl (fun _ => ?_) (fun q => absurd rfl q)
  exact ye_end
