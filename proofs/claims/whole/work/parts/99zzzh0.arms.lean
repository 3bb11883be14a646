/-! THE ARMS OF THE LAW (gen_zzg.py) -/
set_option maxHeartbeats 4000000 in
set_option maxRecDepth 20000 in
theorem A_0 {ev : xEv} {prim : xRel} {N aC aM oA : Nat} {X : xH} {i : Int32} {lv : xLv} {TC TM : yT} {SC SM : yS} {hp : xH} (hA : ∀ d, xAllM ev prim d) (hN : 3000 < N) (I : Inv ev aC aM oA X i lv TC SC TM SM hp) (hs : Si ev i) (sl : Nat) : ArmTo ev prim (aL_0 ev) 224 2128 aC aM oA i lv TC TM hp sl := by
  have D := D_field (prim := prim) hN I.2.1 I.2.2.1 I.2.2.2.1 I.2.2.2.2.1 (ag ev i 1) (zb (ag ev i 2)) (ag ev i 3) (zb_01 _)
  refine arm_of sl I D (by decide) (by decide) ?_
  intro v hp1 n1 sl1 hp2 n2 sl2 c1 c2 oC oM
  obtain ⟨flC, oC⟩ := oC
  obtain ⟨flM, oM⟩ := oM
  have hl := I.1
  refine ye_aload (pc := 224) rfl hl.2.1 ?_
  refine ye_ld (pc := 225) (c := 1) (ln := 1) hl hs (by decide) (by decide) rfl rfl rfl rfl rfl ?_
  refine ye_ld (pc := 231) (c := 2) (ln := 1) hl hs (by decide) (by decide) rfl rfl rfl rfl rfl ?_
  refine ye_zb (pc := 237) rfl rfl rfl rfl ?_
  refine ye_ld (pc := 245) (c := 3) (ln := 1) hl hs (by decide) (by decide) rfl rfl rfl rfl rfl ?_
  refine ye_callV (pc := 251) (As := [.int (ag ev i 1), .int (zb (ag ev i 2)), .int (ag ev i 3)]) (rest := []) 0 (Or.inl rfl) rfl rfl rfl (Nat.le_of_ble_eq_true rfl) oC c1 ?_
  refine ye_aload (pc := 254) rfl hl.2.2.1 ?_
  refine ye_ld (pc := 255) (c := 1) (ln := 1) hl hs (by decide) (by decide) rfl rfl rfl rfl rfl ?_
  refine ye_ld (pc := 261) (c := 2) (ln := 1) hl hs (by decide) (by decide) rfl rfl rfl rfl rfl ?_
  refine ye_zb (pc := 267) rfl rfl rfl rfl ?_
  refine ye_ld (pc := 275) (c := 3) (ln := 1) hl hs (by decide) (by decide) rfl rfl rfl rfl rfl ?_
  refine ye_callV (pc := 281) (As := [.int (ag ev i 1), .int (zb (ag ev i 2)), .int (ag ev i 3)]) (rest := [.int v]) 0 (Or.inl rfl) rfl rfl rfl (Nat.le_of_ble_eq_true rfl) oM c2 ?_
  refine ye_icmp_eq (pc := 284) rfl (fun _ => ?_) (fun q => absurd rfl q)
  exact ye_end
set_option maxHeartbeats 4000000 in
set_option maxRecDepth 20000 in
theorem A_1 {ev : xEv} {prim : xRel} {N aC aM oA : Nat} {X : xH} {i : Int32} {lv : xLv} {TC TM : yT} {SC SM : yS} {hp : xH} (hA : ∀ d, xAllM ev prim d) (hN : 3000 < N) (I : Inv ev aC aM oA X i lv TC SC TM SM hp) (hs : Si ev i) (sl : Nat) : ArmTo ev prim (aL_1 ev) 289 2128 aC aM oA i lv TC TM hp sl := by
  have D := D_lamp (prim := prim) hN I.2.1 I.2.2.1 I.2.2.2.1 I.2.2.2.2.1 (ag ev i 1) (zb (ag ev i 2)) (zb_01 _)
  refine arm_of sl I D (by decide) (by decide) ?_
  intro v hp1 n1 sl1 hp2 n2 sl2 c1 c2 oC oM
  obtain ⟨flC, oC⟩ := oC
  obtain ⟨flM, oM⟩ := oM
  have hl := I.1
  refine ye_aload (pc := 289) rfl hl.2.1 ?_
  refine ye_ld (pc := 290) (c := 1) (ln := 1) hl hs (by decide) (by decide) rfl rfl rfl rfl rfl ?_
  refine ye_ld (pc := 296) (c := 2) (ln := 1) hl hs (by decide) (by decide) rfl rfl rfl rfl rfl ?_
  refine ye_zb (pc := 302) rfl rfl rfl rfl ?_
  refine ye_callV (pc := 310) (As := [.int (ag ev i 1), .int (zb (ag ev i 2))]) (rest := []) 0 (Or.inl rfl) rfl rfl rfl (Nat.le_of_ble_eq_true rfl) oC c1 ?_
  refine ye_aload (pc := 313) rfl hl.2.2.1 ?_
  refine ye_ld (pc := 314) (c := 1) (ln := 1) hl hs (by decide) (by decide) rfl rfl rfl rfl rfl ?_
  refine ye_ld (pc := 320) (c := 2) (ln := 1) hl hs (by decide) (by decide) rfl rfl rfl rfl rfl ?_
  refine ye_zb (pc := 326) rfl rfl rfl rfl ?_
  refine ye_callV (pc := 334) (As := [.int (ag ev i 1), .int (zb (ag ev i 2))]) (rest := [.int v]) 0 (Or.inl rfl) rfl rfl rfl (Nat.le_of_ble_eq_true rfl) oM c2 ?_
  refine ye_icmp_eq (pc := 337) rfl (fun _ => ?_) (fun q => absurd rfl q)
  exact ye_end
set_option maxHeartbeats 4000000 in
set_option maxRecDepth 20000 in
theorem A_2 {ev : xEv} {prim : xRel} {N aC aM oA : Nat} {X : xH} {i : Int32} {lv : xLv} {TC TM : yT} {SC SM : yS} {hp : xH} (hA : ∀ d, xAllM ev prim d) (hN : 3000 < N) (I : Inv ev aC aM oA X i lv TC SC TM SM hp) (hs : Si ev i) (sl : Nat) : ArmTo ev prim (aL_2 ev) 342 2128 aC aM oA i lv TC TM hp sl := by
  have D := D_leg (prim := prim) hN I.2.1 I.2.2.1 I.2.2.2.1 I.2.2.2.2.1 (ag ev i 1) (ag ev i 2) (ag ev i 3) (ag ev i 4)
  refine arm_of sl I D (by decide) (by decide) ?_
  intro v hp1 n1 sl1 hp2 n2 sl2 c1 c2 oC oM
  obtain ⟨flC, oC⟩ := oC
  obtain ⟨flM, oM⟩ := oM
  have hl := I.1
  refine ye_aload (pc := 342) rfl hl.2.1 ?_
  refine ye_ld (pc := 343) (c := 1) (ln := 1) hl hs (by decide) (by decide) rfl rfl rfl rfl rfl ?_
  refine ye_ld (pc := 349) (c := 2) (ln := 1) hl hs (by decide) (by decide) rfl rfl rfl rfl rfl ?_
  refine ye_ld (pc := 355) (c := 3) (ln := 1) hl hs (by decide) (by decide) rfl rfl rfl rfl rfl ?_
  refine ye_ld (pc := 361) (c := 4) (ln := 1) hl hs (by decide) (by decide) rfl rfl rfl rfl rfl ?_
  refine ye_callV (pc := 367) (As := [.int (ag ev i 1), .int (ag ev i 2), .int (ag ev i 3), .int (ag ev i 4)]) (rest := []) 0 (Or.inl rfl) rfl rfl rfl (Nat.le_of_ble_eq_true rfl) oC c1 ?_
  refine ye_aload (pc := 370) rfl hl.2.2.1 ?_
  refine ye_ld (pc := 371) (c := 1) (ln := 1) hl hs (by decide) (by decide) rfl rfl rfl rfl rfl ?_
  refine ye_ld (pc := 377) (c := 2) (ln := 1) hl hs (by decide) (by decide) rfl rfl rfl rfl rfl ?_
  refine ye_ld (pc := 383) (c := 3) (ln := 1) hl hs (by decide) (by decide) rfl rfl rfl rfl rfl ?_
  refine ye_ld (pc := 389) (c := 4) (ln := 1) hl hs (by decide) (by decide) rfl rfl rfl rfl rfl ?_
  refine ye_callV (pc := 395) (As := [.int (ag ev i 1), .int (ag ev i 2), .int (ag ev i 3), .int (ag ev i 4)]) (rest := [.int v]) 0 (Or.inl rfl) rfl rfl rfl (Nat.le_of_ble_eq_true rfl) oM c2 ?_
  refine ye_icmp_eq (pc := 398) rfl (fun _ => ?_) (fun q => absurd rfl q)
  exact ye_end
set_option maxHeartbeats 4000000 in
set_option maxRecDepth 20000 in
theorem A_3 {ev : xEv} {prim : xRel} {N aC aM oA : Nat} {X : xH} {i : Int32} {lv : xLv} {TC TM : yT} {SC SM : yS} {hp : xH} (hA : ∀ d, xAllM ev prim d) (hN : 3000 < N) (I : Inv ev aC aM oA X i lv TC SC TM SM hp) (hs : Si ev i) (sl : Nat) : ArmTo ev prim (aL_3 ev) 403 2128 aC aM oA i lv TC TM hp sl := by
  have D := D_ground (prim := prim) hN I.2.1 I.2.2.1 I.2.2.2.1 I.2.2.2.2.1 (ag ev i 1) (ag ev i 2) (ag ev i 3)
  refine arm_of sl I D (by decide) (by decide) ?_
  intro v hp1 n1 sl1 hp2 n2 sl2 c1 c2 oC oM
  obtain ⟨flC, oC⟩ := oC
  obtain ⟨flM, oM⟩ := oM
  have hl := I.1
  refine ye_aload (pc := 403) rfl hl.2.1 ?_
  refine ye_ld (pc := 404) (c := 1) (ln := 1) hl hs (by decide) (by decide) rfl rfl rfl rfl rfl ?_
  refine ye_ld (pc := 410) (c := 2) (ln := 1) hl hs (by decide) (by decide) rfl rfl rfl rfl rfl ?_
  refine ye_ld (pc := 416) (c := 3) (ln := 1) hl hs (by decide) (by decide) rfl rfl rfl rfl rfl ?_
  refine ye_callV (pc := 422) (As := [.int (ag ev i 1), .int (ag ev i 2), .int (ag ev i 3)]) (rest := []) 0 (Or.inl rfl) rfl rfl rfl (Nat.le_of_ble_eq_true rfl) oC c1 ?_
  refine ye_aload (pc := 425) rfl hl.2.2.1 ?_
  refine ye_ld (pc := 426) (c := 1) (ln := 1) hl hs (by decide) (by decide) rfl rfl rfl rfl rfl ?_
  refine ye_ld (pc := 432) (c := 2) (ln := 1) hl hs (by decide) (by decide) rfl rfl rfl rfl rfl ?_
  refine ye_ld (pc := 438) (c := 3) (ln := 1) hl hs (by decide) (by decide) rfl rfl rfl rfl rfl ?_
  refine ye_callV (pc := 444) (As := [.int (ag ev i 1), .int (ag ev i 2), .int (ag ev i 3)]) (rest := [.int v]) 0 (Or.inl rfl) rfl rfl rfl (Nat.le_of_ble_eq_true rfl) oM c2 ?_
  refine ye_icmp_eq (pc := 447) rfl (fun _ => ?_) (fun q => absurd rfl q)
  exact ye_end
set_option maxHeartbeats 4000000 in
set_option maxRecDepth 20000 in
theorem A_4 {ev : xEv} {prim : xRel} {N aC aM oA : Nat} {X : xH} {i : Int32} {lv : xLv} {TC TM : yT} {SC SM : yS} {hp : xH} (hA : ∀ d, xAllM ev prim d) (hN : 3000 < N) (I : Inv ev aC aM oA X i lv TC SC TM SM hp) (hs : Si ev i) (sl : Nat) : ArmTo ev prim (aL_4 ev) 452 2128 aC aM oA i lv TC TM hp sl := by
  have D := D_far (prim := prim) hN I.2.1 I.2.2.1 I.2.2.2.1 I.2.2.2.2.1 (ag ev i 1) (ag ev i 2)
  refine arm_of sl I D (by decide) (by decide) ?_
  intro v hp1 n1 sl1 hp2 n2 sl2 c1 c2 oC oM
  obtain ⟨flC, oC⟩ := oC
  obtain ⟨flM, oM⟩ := oM
  have hl := I.1
  refine ye_aload (pc := 452) rfl hl.2.1 ?_
  refine ye_ld (pc := 453) (c := 1) (ln := 1) hl hs (by decide) (by decide) rfl rfl rfl rfl rfl ?_
  refine ye_ld (pc := 459) (c := 2) (ln := 1) hl hs (by decide) (by decide) rfl rfl rfl rfl rfl ?_
  refine ye_callV (pc := 465) (As := [.int (ag ev i 1), .int (ag ev i 2)]) (rest := []) 0 (Or.inl rfl) rfl rfl rfl (Nat.le_of_ble_eq_true rfl) oC c1 ?_
  refine ye_aload (pc := 468) rfl hl.2.2.1 ?_
  refine ye_ld (pc := 469) (c := 1) (ln := 1) hl hs (by decide) (by decide) rfl rfl rfl rfl rfl ?_
  refine ye_ld (pc := 475) (c := 2) (ln := 1) hl hs (by decide) (by decide) rfl rfl rfl rfl rfl ?_
  refine ye_callV (pc := 481) (As := [.int (ag ev i 1), .int (ag ev i 2)]) (rest := [.int v]) 0 (Or.inl rfl) rfl rfl rfl (Nat.le_of_ble_eq_true rfl) oM c2 ?_
  refine ye_icmp_eq (pc := 484) rfl (fun _ => ?_) (fun q => absurd rfl q)
  exact ye_end
set_option maxHeartbeats 4000000 in
set_option maxRecDepth 20000 in
theorem A_5 {ev : xEv} {prim : xRel} {N aC aM oA : Nat} {X : xH} {i : Int32} {lv : xLv} {TC TM : yT} {SC SM : yS} {hp : xH} (hA : ∀ d, xAllM ev prim d) (hN : 3000 < N) (I : Inv ev aC aM oA X i lv TC SC TM SM hp) (hs : Si ev i) (sl : Nat) : ArmTo ev prim (aL_5 ev) 489 2128 aC aM oA i lv TC TM hp sl := by
  have D := D_weather (prim := prim) hN I.2.1 I.2.2.1 I.2.2.2.1 I.2.2.2.2.1 (ag ev i 1) (ag ev i 2) (ag ev i 3) (ag ev i 4)
  refine arm_of sl I D (by decide) (by decide) ?_
  intro v hp1 n1 sl1 hp2 n2 sl2 c1 c2 oC oM
  obtain ⟨flC, oC⟩ := oC
  obtain ⟨flM, oM⟩ := oM
  have hl := I.1
  refine ye_aload (pc := 489) rfl hl.2.1 ?_
  refine ye_ld (pc := 490) (c := 1) (ln := 1) hl hs (by decide) (by decide) rfl rfl rfl rfl rfl ?_
  refine ye_ld (pc := 496) (c := 2) (ln := 1) hl hs (by decide) (by decide) rfl rfl rfl rfl rfl ?_
  refine ye_ld (pc := 502) (c := 3) (ln := 1) hl hs (by decide) (by decide) rfl rfl rfl rfl rfl ?_
  refine ye_ld (pc := 508) (c := 4) (ln := 1) hl hs (by decide) (by decide) rfl rfl rfl rfl rfl ?_
  refine ye_callV (pc := 514) (As := [.int (ag ev i 1), .int (ag ev i 2), .int (ag ev i 3), .int (ag ev i 4)]) (rest := []) 0 (Or.inl rfl) rfl rfl rfl (Nat.le_of_ble_eq_true rfl) oC c1 ?_
  refine ye_aload (pc := 517) rfl hl.2.2.1 ?_
  refine ye_ld (pc := 518) (c := 1) (ln := 1) hl hs (by decide) (by decide) rfl rfl rfl rfl rfl ?_
  refine ye_ld (pc := 524) (c := 2) (ln := 1) hl hs (by decide) (by decide) rfl rfl rfl rfl rfl ?_
  refine ye_ld (pc := 530) (c := 3) (ln := 1) hl hs (by decide) (by decide) rfl rfl rfl rfl rfl ?_
  refine ye_ld (pc := 536) (c := 4) (ln := 1) hl hs (by decide) (by decide) rfl rfl rfl rfl rfl ?_
  refine ye_callV (pc := 542) (As := [.int (ag ev i 1), .int (ag ev i 2), .int (ag ev i 3), .int (ag ev i 4)]) (rest := [.int v]) 0 (Or.inl rfl) rfl rfl rfl (Nat.le_of_ble_eq_true rfl) oM c2 ?_
  refine ye_icmp_eq (pc := 545) rfl (fun _ => ?_) (fun q => absurd rfl q)
  exact ye_end
set_option maxHeartbeats 4000000 in
set_option maxRecDepth 20000 in
theorem A_6 {ev : xEv} {prim : xRel} {N aC aM oA : Nat} {X : xH} {i : Int32} {lv : xLv} {TC TM : yT} {SC SM : yS} {hp : xH} (hA : ∀ d, xAllM ev prim d) (hN : 3000 < N) (I : Inv ev aC aM oA X i lv TC SC TM SM hp) (hs : Si ev i) (sl : Nat) : ArmTo ev prim (aL_6 ev) 550 2128 aC aM oA i lv TC TM hp sl := by
  have A := W_sky hA hN I (ag ev i 1) (ag ev i 2) (ag ev i 3)
  refine arm_thr (val := Value.int) (jM := 214) (avM := [.ref aM, .int (ag ev i 1), .int (ag ev i 2), .int (ag ev i 3)]) sl I A (fun v S' n e F => Q_N (m_X12_sky2 (F := F) (T := reT TM n) (d := 597) N SM (ag ev i 1) (ag ev i 2) (ag ev i 3) aM I.2.2.2.2.1 e)) ?_
  intro kk v g1 hp1 n1 sl1 hp2 n2 sl2 hc oM oM2 c2 ct ho hg
  obtain ⟨flM, oM⟩ := oM
  obtain ⟨flM2, oM2⟩ := oM2
  have hl := I.1
  have hl1 := LV_st1 hl (j := 5) (by decide) (.int kk)
  have hl2 := LV_st1 hl1 (j := 6) (by decide) (.int v)
  have h5 : xG (xSt1 (xSt1 lv 5 (.int kk)) 6 (.int v)) 5 = some (.int kk) := xG_st1 (xG_new1 lv 5 (.int kk)) (by decide) (by show ¬ (1 = 2); decide)
  have h6 : xG (xSt1 (xSt1 lv 5 (.int kk)) 6 (.int v)) 6 = some (.int v) := xG_new1 _ _ _
  refine ⟨_, hl2, ?_⟩
  refine ye_aload (pc := 550) rfl hl.2.1 ?_
  refine ye_ld (pc := 551) (c := 1) (ln := 1) hl hs (by decide) (by decide) rfl rfl rfl rfl rfl ?_
  refine ye_ld (pc := 557) (c := 2) (ln := 1) hl hs (by decide) (by decide) rfl rfl rfl rfl rfl ?_
  refine ye_ld (pc := 563) (c := 3) (ln := 1) hl hs (by decide) (by decide) rfl rfl rfl rfl rfl ?_
  refine ye_aload (pc := 569) rfl hl.2.2.2.1 ?_
  refine ye_fs (pc := 570) (σ' := (573, lv, [.int kk], hp1, n1, sl + sl1)) rfl ⟨570, lv, [.ref aC, .int (ag ev i 1), .int (ag ev i 2), .int (ag ev i 3), .ref oA], [], hp, _, sl, some (.int kk), hp1, n1, sl1, rfl, rfl, rfl, Nat.le_of_ble_eq_true rfl, hc⟩ ?_
  refine ye_p (pc := 573) rfl rfl ?_
  refine ye_aload (pc := 575) rfl hl1.2.2.1 ?_
  refine ye_ld (pc := 576) (c := 1) (ln := 1) hl1 hs (by decide) (by decide) rfl rfl rfl rfl rfl ?_
  refine ye_ld (pc := 582) (c := 2) (ln := 1) hl1 hs (by decide) (by decide) rfl rfl rfl rfl rfl ?_
  refine ye_ld (pc := 588) (c := 3) (ln := 1) hl1 hs (by decide) (by decide) rfl rfl rfl rfl rfl ?_
  refine ye_callV (pc := 594) (As := [.int (ag ev i 1), .int (ag ev i 2), .int (ag ev i 3)]) (rest := []) 0 (Or.inl rfl) rfl rfl rfl (Nat.le_of_ble_eq_true rfl) oM c2 ?_
  refine ye_p (pc := 597) rfl rfl ?_
  refine ye_aload (pc := 599) rfl hl2.2.2.1 ?_
  refine ye_callV (pc := 600) (As := []) (rest := []) 0 (Or.inl rfl) rfl rfl rfl (Nat.le_of_ble_eq_true rfl) oM2 ct ?_
  refine ye_iload (pc := 603) rfl h5 ?_
  refine ye_icmp_eq (pc := 605) rfl (fun _ => ?_) (fun q => absurd rfl q)
  refine ye_iload (pc := 610) rfl h5 ?_
  refine ye_if_ne (pc := 612) rfl (fun q => ?_) (fun q => ?_)
  · refine ye_p (pc := 627) rfl rfl ?_
    exact ye_end
  · have q0 : kk = 0 := Decidable.not_not.mp q
    refine ye_aload (pc := 615) rfl hl2.2.2.2.1 ?_
    refine ye_p (pc := 616) rfl rfl ?_
    refine ye_lald (pc := 617) rfl ho vp_01 ?_
    refine ye_iload (pc := 618) rfl h6 ?_
    refine ye_p (pc := 620) rfl rfl ?_
    refine ye_p (pc := 621) rfl rfl ?_
    refine ye_if_eq (pc := 622) rfl (fun _ => ?_) (fun q2 => absurd (by have e := hg q0; show lg_cmp (g1 0) _ = 0; rw [e]; exact lg_cmp_self _) q2)
    refine ye_p (pc := 627) rfl rfl ?_
    exact ye_end
set_option maxHeartbeats 4000000 in
set_option maxRecDepth 20000 in
theorem A_7 {ev : xEv} {prim : xRel} {N aC aM oA : Nat} {X : xH} {i : Int32} {lv : xLv} {TC TM : yT} {SC SM : yS} {hp : xH} (hA : ∀ d, xAllM ev prim d) (hN : 3000 < N) (I : Inv ev aC aM oA X i lv TC SC TM SM hp) (hs : Si ev i) (sl : Nat) : ArmTo ev prim (aL_7 ev) 630 2128 aC aM oA i lv TC TM hp sl := by
  have D := D_word (prim := prim) hN I.2.1 I.2.2.1 I.2.2.2.1 I.2.2.2.2.1 (ag ev i 1) (ag ev i 2) (ag ev i 3) (ag ev i 4) (ag ev i 5)
  refine arm_of sl I D (by decide) (by decide) ?_
  intro v hp1 n1 sl1 hp2 n2 sl2 c1 c2 oC oM
  obtain ⟨flC, oC⟩ := oC
  obtain ⟨flM, oM⟩ := oM
  have hl := I.1
  refine ye_aload (pc := 630) rfl hl.2.1 ?_
  refine ye_ld (pc := 631) (c := 1) (ln := 1) hl hs (by decide) (by decide) rfl rfl rfl rfl rfl ?_
  refine ye_ld (pc := 637) (c := 2) (ln := 1) hl hs (by decide) (by decide) rfl rfl rfl rfl rfl ?_
  refine ye_ld (pc := 643) (c := 3) (ln := 1) hl hs (by decide) (by decide) rfl rfl rfl rfl rfl ?_
  refine ye_ld (pc := 649) (c := 4) (ln := 1) hl hs (by decide) (by decide) rfl rfl rfl rfl rfl ?_
  refine ye_ld (pc := 655) (c := 5) (ln := 1) hl hs (by decide) (by decide) rfl rfl rfl rfl rfl ?_
  refine ye_callV (pc := 661) (As := [.int (ag ev i 1), .int (ag ev i 2), .int (ag ev i 3), .int (ag ev i 4), .int (ag ev i 5)]) (rest := []) 0 (Or.inl rfl) rfl rfl rfl (Nat.le_of_ble_eq_true rfl) oC c1 ?_
  refine ye_aload (pc := 664) rfl hl.2.2.1 ?_
  refine ye_ld (pc := 665) (c := 1) (ln := 1) hl hs (by decide) (by decide) rfl rfl rfl rfl rfl ?_
  refine ye_ld (pc := 671) (c := 2) (ln := 1) hl hs (by decide) (by decide) rfl rfl rfl rfl rfl ?_
  refine ye_ld (pc := 677) (c := 3) (ln := 1) hl hs (by decide) (by decide) rfl rfl rfl rfl rfl ?_
  refine ye_ld (pc := 683) (c := 4) (ln := 1) hl hs (by decide) (by decide) rfl rfl rfl rfl rfl ?_
  refine ye_ld (pc := 689) (c := 5) (ln := 1) hl hs (by decide) (by decide) rfl rfl rfl rfl rfl ?_
  refine ye_callV (pc := 695) (As := [.int (ag ev i 1), .int (ag ev i 2), .int (ag ev i 3), .int (ag ev i 4), .int (ag ev i 5)]) (rest := [.int v]) 0 (Or.inl rfl) rfl rfl rfl (Nat.le_of_ble_eq_true rfl) oM c2 ?_
  refine ye_icmp_eq (pc := 698) rfl (fun _ => ?_) (fun q => absurd rfl q)
  exact ye_end
set_option maxHeartbeats 4000000 in
set_option maxRecDepth 20000 in
theorem A_8 {ev : xEv} {prim : xRel} {N aC aM oA : Nat} {X : xH} {i : Int32} {lv : xLv} {TC TM : yT} {SC SM : yS} {hp : xH} (hA : ∀ d, xAllM ev prim d) (hN : 3000 < N) (I : Inv ev aC aM oA X i lv TC SC TM SM hp) (hs : Si ev i) (sl : Nat) : ArmTo ev prim (aL_8 ev) 703 2128 aC aM oA i lv TC TM hp sl := by
  have A := W_heard hA hN I (ag ev i 1) (ag ev i 2) (ag ev i 3) (ag ev i 4)
  refine arm_thr (val := Value.int) (jM := 218) (avM := [.ref aM, .int (ag ev i 1), .int (ag ev i 2), .int (ag ev i 3), .int (ag ev i 4)]) sl I A (fun v S' n e F => Q_N (m_X12_heard (F := F) (T := reT TM n) (d := 597) N SM (ag ev i 1) (ag ev i 2) (ag ev i 3) (ag ev i 4) aM I.2.2.2.2.1 e)) ?_
  intro kk v g1 hp1 n1 sl1 hp2 n2 sl2 hc oM oM2 c2 ct ho hg
  obtain ⟨flM, oM⟩ := oM
  obtain ⟨flM2, oM2⟩ := oM2
  have hl := I.1
  have hl1 := LV_st1 hl (j := 5) (by decide) (.int kk)
  have hl2 := LV_st1 hl1 (j := 6) (by decide) (.int v)
  have h5 : xG (xSt1 (xSt1 lv 5 (.int kk)) 6 (.int v)) 5 = some (.int kk) := xG_st1 (xG_new1 lv 5 (.int kk)) (by decide) (by show ¬ (1 = 2); decide)
  have h6 : xG (xSt1 (xSt1 lv 5 (.int kk)) 6 (.int v)) 6 = some (.int v) := xG_new1 _ _ _
  refine ⟨_, hl2, ?_⟩
  refine ye_aload (pc := 703) rfl hl.2.1 ?_
  refine ye_ld (pc := 704) (c := 1) (ln := 1) hl hs (by decide) (by decide) rfl rfl rfl rfl rfl ?_
  refine ye_ld (pc := 710) (c := 2) (ln := 1) hl hs (by decide) (by decide) rfl rfl rfl rfl rfl ?_
  refine ye_ld (pc := 716) (c := 3) (ln := 1) hl hs (by decide) (by decide) rfl rfl rfl rfl rfl ?_
  refine ye_ld (pc := 722) (c := 4) (ln := 1) hl hs (by decide) (by decide) rfl rfl rfl rfl rfl ?_
  refine ye_aload (pc := 728) rfl hl.2.2.2.1 ?_
  refine ye_fs (pc := 729) (σ' := (732, lv, [.int kk], hp1, n1, sl + sl1)) rfl ⟨729, lv, [.ref aC, .int (ag ev i 1), .int (ag ev i 2), .int (ag ev i 3), .int (ag ev i 4), .ref oA], [], hp, _, sl, some (.int kk), hp1, n1, sl1, rfl, rfl, rfl, Nat.le_of_ble_eq_true rfl, hc⟩ ?_
  refine ye_p (pc := 732) rfl rfl ?_
  refine ye_aload (pc := 734) rfl hl1.2.2.1 ?_
  refine ye_ld (pc := 735) (c := 1) (ln := 1) hl1 hs (by decide) (by decide) rfl rfl rfl rfl rfl ?_
  refine ye_ld (pc := 741) (c := 2) (ln := 1) hl1 hs (by decide) (by decide) rfl rfl rfl rfl rfl ?_
  refine ye_ld (pc := 747) (c := 3) (ln := 1) hl1 hs (by decide) (by decide) rfl rfl rfl rfl rfl ?_
  refine ye_ld (pc := 753) (c := 4) (ln := 1) hl1 hs (by decide) (by decide) rfl rfl rfl rfl rfl ?_
  refine ye_callV (pc := 759) (As := [.int (ag ev i 1), .int (ag ev i 2), .int (ag ev i 3), .int (ag ev i 4)]) (rest := []) 0 (Or.inl rfl) rfl rfl rfl (Nat.le_of_ble_eq_true rfl) oM c2 ?_
  refine ye_p (pc := 762) rfl rfl ?_
  refine ye_aload (pc := 764) rfl hl2.2.2.1 ?_
  refine ye_callV (pc := 765) (As := []) (rest := []) 0 (Or.inl rfl) rfl rfl rfl (Nat.le_of_ble_eq_true rfl) oM2 ct ?_
  refine ye_iload (pc := 768) rfl h5 ?_
  refine ye_icmp_eq (pc := 770) rfl (fun _ => ?_) (fun q => absurd rfl q)
  refine ye_iload (pc := 775) rfl h5 ?_
  refine ye_if_ne (pc := 777) rfl (fun q => ?_) (fun q => ?_)
  · refine ye_p (pc := 792) rfl rfl ?_
    exact ye_end
  · have q0 : kk = 0 := Decidable.not_not.mp q
    refine ye_aload (pc := 780) rfl hl2.2.2.2.1 ?_
    refine ye_p (pc := 781) rfl rfl ?_
    refine ye_lald (pc := 782) rfl ho vp_01 ?_
    refine ye_iload (pc := 783) rfl h6 ?_
    refine ye_p (pc := 785) rfl rfl ?_
    refine ye_p (pc := 786) rfl rfl ?_
    refine ye_if_eq (pc := 787) rfl (fun _ => ?_) (fun q2 => absurd (by have e := hg q0; show lg_cmp (g1 0) _ = 0; rw [e]; exact lg_cmp_self _) q2)
    refine ye_p (pc := 792) rfl rfl ?_
    exact ye_end
set_option maxHeartbeats 4000000 in
set_option maxRecDepth 20000 in
theorem A_9 {ev : xEv} {prim : xRel} {N aC aM oA : Nat} {X : xH} {i : Int32} {lv : xLv} {TC TM : yT} {SC SM : yS} {hp : xH} (hA : ∀ d, xAllM ev prim d) (hN : 3000 < N) (I : Inv ev aC aM oA X i lv TC SC TM SM hp) (hs : Si ev i) (sl : Nat) : ArmTo ev prim (aL_9 ev) 795 2128 aC aM oA i lv TC TM hp sl := by
  have D := D_plane (prim := prim) hN I.2.1 I.2.2.1 I.2.2.2.1 I.2.2.2.2.1 (ag ev i 1) (ag ev i 2) (ag ev i 3) (ag ev i 4) (ag ev i 5) (zb (ag ev i 6)) (zb_01 _)
  refine arm_of sl I D (by decide) (by decide) ?_
  intro v hp1 n1 sl1 hp2 n2 sl2 c1 c2 oC oM
  obtain ⟨flC, oC⟩ := oC
  obtain ⟨flM, oM⟩ := oM
  have hl := I.1
  refine ye_aload (pc := 795) rfl hl.2.1 ?_
  refine ye_ld (pc := 796) (c := 1) (ln := 1) hl hs (by decide) (by decide) rfl rfl rfl rfl rfl ?_
  refine ye_ld (pc := 802) (c := 2) (ln := 1) hl hs (by decide) (by decide) rfl rfl rfl rfl rfl ?_
  refine ye_ld (pc := 808) (c := 3) (ln := 1) hl hs (by decide) (by decide) rfl rfl rfl rfl rfl ?_
  refine ye_ld (pc := 814) (c := 4) (ln := 1) hl hs (by decide) (by decide) rfl rfl rfl rfl rfl ?_
  refine ye_ld (pc := 820) (c := 5) (ln := 1) hl hs (by decide) (by decide) rfl rfl rfl rfl rfl ?_
  refine ye_ld (pc := 826) (c := 6) (ln := 2) hl hs (by decide) (by decide) rfl rfl rfl rfl rfl ?_
  refine ye_zb (pc := 833) rfl rfl rfl rfl ?_
  refine ye_callV (pc := 841) (As := [.int (ag ev i 1), .int (ag ev i 2), .int (ag ev i 3), .int (ag ev i 4), .int (ag ev i 5), .int (zb (ag ev i 6))]) (rest := []) 0 (Or.inl rfl) rfl rfl rfl (Nat.le_of_ble_eq_true rfl) oC c1 ?_
  refine ye_aload (pc := 844) rfl hl.2.2.1 ?_
  refine ye_ld (pc := 845) (c := 1) (ln := 1) hl hs (by decide) (by decide) rfl rfl rfl rfl rfl ?_
  refine ye_ld (pc := 851) (c := 2) (ln := 1) hl hs (by decide) (by decide) rfl rfl rfl rfl rfl ?_
  refine ye_ld (pc := 857) (c := 3) (ln := 1) hl hs (by decide) (by decide) rfl rfl rfl rfl rfl ?_
  refine ye_ld (pc := 863) (c := 4) (ln := 1) hl hs (by decide) (by decide) rfl rfl rfl rfl rfl ?_
  refine ye_ld (pc := 869) (c := 5) (ln := 1) hl hs (by decide) (by decide) rfl rfl rfl rfl rfl ?_
  refine ye_ld (pc := 875) (c := 6) (ln := 2) hl hs (by decide) (by decide) rfl rfl rfl rfl rfl ?_
  refine ye_zb (pc := 882) rfl rfl rfl rfl ?_
  refine ye_callV (pc := 890) (As := [.int (ag ev i 1), .int (ag ev i 2), .int (ag ev i 3), .int (ag ev i 4), .int (ag ev i 5), .int (zb (ag ev i 6))]) (rest := [.int v]) 0 (Or.inl rfl) rfl rfl rfl (Nat.le_of_ble_eq_true rfl) oM c2 ?_
  refine ye_icmp_eq (pc := 893) rfl (fun _ => ?_) (fun q => absurd rfl q)
  exact ye_end
set_option maxHeartbeats 4000000 in
set_option maxRecDepth 20000 in
theorem A_10 {ev : xEv} {prim : xRel} {N aC aM oA : Nat} {X : xH} {i : Int32} {lv : xLv} {TC TM : yT} {SC SM : yS} {hp : xH} (hA : ∀ d, xAllM ev prim d) (hN : 3000 < N) (I : Inv ev aC aM oA X i lv TC SC TM SM hp) (hs : Si ev i) (sl : Nat) : ArmTo ev prim (aL_10 ev) 898 2128 aC aM oA i lv TC TM hp sl := by
  have D := D_engine (prim := prim) hN I.2.1 I.2.2.1 I.2.2.2.1 I.2.2.2.2.1 (ag ev i 1) (ag ev i 2) (ag ev i 3) (ag ev i 4)
  refine arm_of sl I D (by decide) (by decide) ?_
  intro v hp1 n1 sl1 hp2 n2 sl2 c1 c2 oC oM
  obtain ⟨flC, oC⟩ := oC
  obtain ⟨flM, oM⟩ := oM
  have hl := I.1
  refine ye_aload (pc := 898) rfl hl.2.1 ?_
  refine ye_ld (pc := 899) (c := 1) (ln := 1) hl hs (by decide) (by decide) rfl rfl rfl rfl rfl ?_
  refine ye_ld (pc := 905) (c := 2) (ln := 1) hl hs (by decide) (by decide) rfl rfl rfl rfl rfl ?_
  refine ye_ld (pc := 911) (c := 3) (ln := 1) hl hs (by decide) (by decide) rfl rfl rfl rfl rfl ?_
  refine ye_ld (pc := 917) (c := 4) (ln := 1) hl hs (by decide) (by decide) rfl rfl rfl rfl rfl ?_
  refine ye_callV (pc := 923) (As := [.int (ag ev i 1), .int (ag ev i 2), .int (ag ev i 3), .int (ag ev i 4)]) (rest := []) 0 (Or.inl rfl) rfl rfl rfl (Nat.le_of_ble_eq_true rfl) oC c1 ?_
  refine ye_aload (pc := 926) rfl hl.2.2.1 ?_
  refine ye_ld (pc := 927) (c := 1) (ln := 1) hl hs (by decide) (by decide) rfl rfl rfl rfl rfl ?_
  refine ye_ld (pc := 933) (c := 2) (ln := 1) hl hs (by decide) (by decide) rfl rfl rfl rfl rfl ?_
  refine ye_ld (pc := 939) (c := 3) (ln := 1) hl hs (by decide) (by decide) rfl rfl rfl rfl rfl ?_
  refine ye_ld (pc := 945) (c := 4) (ln := 1) hl hs (by decide) (by decide) rfl rfl rfl rfl rfl ?_
  refine ye_callV (pc := 951) (As := [.int (ag ev i 1), .int (ag ev i 2), .int (ag ev i 3), .int (ag ev i 4)]) (rest := [.int v]) 0 (Or.inl rfl) rfl rfl rfl (Nat.le_of_ble_eq_true rfl) oM c2 ?_
  refine ye_icmp_eq (pc := 954) rfl (fun _ => ?_) (fun q => absurd rfl q)
  exact ye_end
