def pX12_plan_0 (ev : xEv) : List (Nat × xEn) := [(0, .inl (xop (xf_aload 0 1))), (1, .inl (xop (xf_push (.int 0) 1))), (2, .inl (xo_putf 12 47 .int)), (5, .inl (xop (xf_aload 0 1))), (6, .inl (xop (xf_iload 1 1))), (7, .inr (.inl (0, 293, 1, 12))), (10, .inl (xop (xf_if_ne 15))), (13, .inl (xop (xf_push (.int (-1)) 1))), (14, .inr (.inr 1)), (15, .inl (xop (xf_push (.int 6) 2))), (17, .inl (xo_newa (ev.1 0) (.inl (fun _ => 0)))), (19, .inl (xop (xf_astore 2 1))), (20, .inl (xop (xf_push (.int 0) 1))), (21, .inl (xop (xf_istore 3 1))), (22, .inl (xop (xf_push (.int 0) 1))), (23, .inl (xop (xf_istore 4 2))), (25, .inl (xop (xf_iload 4 2))), (27, .inl (xop (xf_aload 0 1))), (28, .inl (xop (xf_getf 12 33))), (31, .inl (xop (xf_icmp_ge 63)))]
set_option maxRecDepth 20000 in
theorem okpX12_plan_0 (ev : xEv) : ∀ q ∈ pX12_plan_0 ev, xEnOK ev xmi yX12_plan.cls yX12_plan.name cX12_plan 9 (some .int) q :=
  List.forall_mem_cons.mpr ⟨(xOK_pure (xs_aload_n (k := 0) rfl (show decode cX12_plan 0 = .ok (.aload_n 0, 1) by decide +kernel))),
  List.forall_mem_cons.mpr ⟨(xOK_pure (xs_iconst (n := 0) (show decode cX12_plan 1 = .ok (.iconst 0, 1) by decide +kernel) (by decide))),
  List.forall_mem_cons.mpr ⟨(xs_putf (k := 47) xcl_12 (by decide) rfl (show decode cX12_plan 2 = .ok (.putfield 140, 3) by decide +kernel) xw_1756),
  List.forall_mem_cons.mpr ⟨(xOK_pure (xs_aload_n (k := 0) rfl (show decode cX12_plan 5 = .ok (.aload_n 0, 1) by decide +kernel))),
  List.forall_mem_cons.mpr ⟨(xOK_pure (xs_iload_n (k := 1) rfl (show decode cX12_plan 6 = .ok (.iload_n 1, 1) by decide +kernel))),
  List.forall_mem_cons.mpr ⟨(xcm mi_293 ⟨⟨(by decide +kernel), (by decide +kernel), (by decide +kernel)⟩, (by decide), xw_2329, xw_125, Or.inl ⟨rfl, _, _, _, _, (show decode cX12_plan 7 = .ok (.invokevirtual 447, 3) by decide +kernel), xw_2326, xw_2328, xw_112, rfl⟩⟩),
  List.forall_mem_cons.mpr ⟨(xOK_pure (xs_if_ne (show decode cX12_plan 10 = .ok (.ifCond .ne 5, 3) by decide +kernel) (by decide))),
  List.forall_mem_cons.mpr ⟨(xOK_pure (xs_iconst (n := (-1)) (show decode cX12_plan 13 = .ok (.iconst (-1), 1) by decide +kernel) (by decide))),
  List.forall_mem_cons.mpr ⟨(Or.inr (Or.inl ⟨rfl, (show decode cX12_plan 14 = .ok (.ireturn, 1) by decide +kernel), rfl⟩)),
  List.forall_mem_cons.mpr ⟨(xOK_pure (xs_bipush (n := 6) (show decode cX12_plan 15 = .ok (.bipush 6, 2) by decide +kernel) (by decide))),
  List.forall_mem_cons.mpr ⟨(xs_newa (t := 0) (ty := .int) rfl rfl (fun _ _ => rfl) (by decide) (show decode cX12_plan 17 = .ok (.newarray .int, 2) by decide +kernel) xw_209),
  List.forall_mem_cons.mpr ⟨(xOK_pure (xs_astore_n (k := 2) rfl (show decode cX12_plan 19 = .ok (.astore_n 2, 1) by decide +kernel) (by decide))),
  List.forall_mem_cons.mpr ⟨(xOK_pure (xs_iconst (n := 0) (show decode cX12_plan 20 = .ok (.iconst 0, 1) by decide +kernel) (by decide))),
  List.forall_mem_cons.mpr ⟨(xOK_pure (xs_istore_n (k := 3) rfl (show decode cX12_plan 21 = .ok (.istore_n 3, 1) by decide +kernel) (by decide))),
  List.forall_mem_cons.mpr ⟨(xOK_pure (xs_iconst (n := 0) (show decode cX12_plan 22 = .ok (.iconst 0, 1) by decide +kernel) (by decide))),
  List.forall_mem_cons.mpr ⟨(xOK_pure (xs_istore (show decode cX12_plan 23 = .ok (.istore 4, 2) by decide +kernel) (by decide))),
  List.forall_mem_cons.mpr ⟨(xOK_pure (xs_iload (show decode cX12_plan 25 = .ok (.iload 4, 2) by decide +kernel))),
  List.forall_mem_cons.mpr ⟨(xOK_pure (xs_aload_n (k := 0) rfl (show decode cX12_plan 27 = .ok (.aload_n 0, 1) by decide +kernel))),
  List.forall_mem_cons.mpr ⟨(xOK_pure (xs_getf xcl_12 (by decide) (show decode cX12_plan 28 = .ok (.getfield 332, 3) by decide +kernel) xw_1742)),
  List.forall_mem_cons.mpr ⟨(xOK_pure (xs_icmp_ge (show decode cX12_plan 31 = .ok (.if_icmp .ge 32, 3) by decide +kernel) (by decide))),
  (fun _ h => absurd h List.not_mem_nil)⟩⟩⟩⟩⟩⟩⟩⟩⟩⟩⟩⟩⟩⟩⟩⟩⟩⟩⟩⟩
def pX12_plan_1 (ev : xEv) : List (Nat × xEn) := [(34, .inl (xop (xf_iload 3 1))), (35, .inl (xop (xf_push (.int 6) 2))), (37, .inl (xop (xf_icmp_ge 63))), (40, .inl (xop (xf_aload 0 1))), (41, .inl (xop (xf_iload 4 2))), (43, .inr (.inl (0, 249, 1, 12))), (46, .inl (xop (xf_if_eq 57))), (49, .inl (xop (xf_aload 2 1))), (50, .inl (xop (xf_iload 3 1))), (51, .inl (xop (xf_iinc 3 1))), (54, .inl (xop (xf_iload 4 2))), (56, .inl (xo_ast (ev.1 0) (fun x => x))), (57, .inl (xop (xf_iinc 4 1))), (60, .inl (xop (xf_goto 25))), (63, .inl (xop (xf_aload 0 1))), (64, .inr (.inl (0, 291, 0, 12))), (67, .inl (xop (xf_push (.int (-1)) 1))), (68, .inl (xop (xf_istore 4 2))), (70, .inl (xop (xf_push (.int 0) 1))), (71, .inl (xop (xf_istore 5 2)))]
set_option maxRecDepth 20000 in
theorem okpX12_plan_1 (ev : xEv) : ∀ q ∈ pX12_plan_1 ev, xEnOK ev xmi yX12_plan.cls yX12_plan.name cX12_plan 9 (some .int) q :=
  List.forall_mem_cons.mpr ⟨(xOK_pure (xs_iload_n (k := 3) rfl (show decode cX12_plan 34 = .ok (.iload_n 3, 1) by decide +kernel))),
  List.forall_mem_cons.mpr ⟨(xOK_pure (xs_bipush (n := 6) (show decode cX12_plan 35 = .ok (.bipush 6, 2) by decide +kernel) (by decide))),
  List.forall_mem_cons.mpr ⟨(xOK_pure (xs_icmp_ge (show decode cX12_plan 37 = .ok (.if_icmp .ge 26, 3) by decide +kernel) (by decide))),
  List.forall_mem_cons.mpr ⟨(xOK_pure (xs_aload_n (k := 0) rfl (show decode cX12_plan 40 = .ok (.aload_n 0, 1) by decide +kernel))),
  List.forall_mem_cons.mpr ⟨(xOK_pure (xs_iload (show decode cX12_plan 41 = .ok (.iload 4, 2) by decide +kernel))),
  List.forall_mem_cons.mpr ⟨(xcm mi_249 ⟨⟨(by decide +kernel), (by decide +kernel), (by decide +kernel)⟩, (by decide), xw_2133, xw_125, Or.inl ⟨rfl, _, _, _, _, (show decode cX12_plan 43 = .ok (.invokevirtual 338, 3) by decide +kernel), xw_2130, xw_2132, xw_83, rfl⟩⟩),
  List.forall_mem_cons.mpr ⟨(xOK_pure (xs_if_eq (show decode cX12_plan 46 = .ok (.ifCond .eq 11, 3) by decide +kernel) (by decide))),
  List.forall_mem_cons.mpr ⟨(xOK_pure (xs_aload_n (k := 2) rfl (show decode cX12_plan 49 = .ok (.aload_n 2, 1) by decide +kernel))),
  List.forall_mem_cons.mpr ⟨(xOK_pure (xs_iload_n (k := 3) rfl (show decode cX12_plan 50 = .ok (.iload_n 3, 1) by decide +kernel))),
  List.forall_mem_cons.mpr ⟨(xOK_pure (xs_iinc (n := 1) (show decode cX12_plan 51 = .ok (.iinc 3 1, 3) by decide +kernel) (by decide) (by decide))),
  List.forall_mem_cons.mpr ⟨(xOK_pure (xs_iload (show decode cX12_plan 54 = .ok (.iload 4, 2) by decide +kernel))),
  List.forall_mem_cons.mpr ⟨(xs_iast (show decode cX12_plan 56 = .ok (.iastore, 1) by decide +kernel)),
  List.forall_mem_cons.mpr ⟨(xOK_pure (xs_iinc (n := 1) (show decode cX12_plan 57 = .ok (.iinc 4 1, 3) by decide +kernel) (by decide) (by decide))),
  List.forall_mem_cons.mpr ⟨(xOK_pure (xs_goto (show decode cX12_plan 60 = .ok (.goto (-35), 3) by decide +kernel) (by decide))),
  List.forall_mem_cons.mpr ⟨(xOK_pure (xs_aload_n (k := 0) rfl (show decode cX12_plan 63 = .ok (.aload_n 0, 1) by decide +kernel))),
  List.forall_mem_cons.mpr ⟨(xcm mi_291 ⟨⟨(by decide +kernel), (by decide +kernel), (by decide +kernel)⟩, (by decide), xw_2333, xw_125, Or.inl ⟨rfl, _, _, _, _, (show decode cX12_plan 64 = .ok (.invokevirtual 450, 3) by decide +kernel), xw_2330, xw_2332, xw_113, rfl⟩⟩),
  List.forall_mem_cons.mpr ⟨(xOK_pure (xs_iconst (n := (-1)) (show decode cX12_plan 67 = .ok (.iconst (-1), 1) by decide +kernel) (by decide))),
  List.forall_mem_cons.mpr ⟨(xOK_pure (xs_istore (show decode cX12_plan 68 = .ok (.istore 4, 2) by decide +kernel) (by decide))),
  List.forall_mem_cons.mpr ⟨(xOK_pure (xs_iconst (n := 0) (show decode cX12_plan 70 = .ok (.iconst 0, 1) by decide +kernel) (by decide))),
  List.forall_mem_cons.mpr ⟨(xOK_pure (xs_istore (show decode cX12_plan 71 = .ok (.istore 5, 2) by decide +kernel) (by decide))),
  (fun _ h => absurd h List.not_mem_nil)⟩⟩⟩⟩⟩⟩⟩⟩⟩⟩⟩⟩⟩⟩⟩⟩⟩⟩⟩⟩
def pX12_plan_2 (ev : xEv) : List (Nat × xEn) := [(73, .inl (xop (xf_push (.int 0) 1))), (74, .inl (xop (xf_istore 6 2))), (76, .inl (xop (xf_iload 6 2))), (78, .inl (xop (xf_push (.int 1) 1))), (79, .inl (xop (xf_iload 3 1))), (80, .inl (xop (xf_bin (fun x y => x <<< (y &&& 31))))), (81, .inl (xop (xf_icmp_ge 195))), (84, .inl (xop (xf_push (.int 0) 1))), (85, .inl (xop (xf_istore 7 2))), (87, .inl (xop (xf_iload 7 2))), (89, .inl (xop (xf_iload 3 1))), (90, .inl (xop (xf_icmp_ge 118))), (93, .inl (xop (xf_iload 6 2))), (95, .inl (xop (xf_iload 7 2))), (97, .inl (xop (xf_bin (fun x y => x >>> (y &&& 31))))), (98, .inl (xop (xf_push (.int 1) 1))), (99, .inl (xop (xf_bin (fun x y => x &&& y)))), (100, .inl (xop (xf_if_ne 112))), (103, .inl (xop (xf_aload 0 1))), (104, .inl (xop (xf_aload 2 1)))]
set_option maxRecDepth 20000 in
theorem okpX12_plan_2 (ev : xEv) : ∀ q ∈ pX12_plan_2 ev, xEnOK ev xmi yX12_plan.cls yX12_plan.name cX12_plan 9 (some .int) q :=
  List.forall_mem_cons.mpr ⟨(xOK_pure (xs_iconst (n := 0) (show decode cX12_plan 73 = .ok (.iconst 0, 1) by decide +kernel) (by decide))),
  List.forall_mem_cons.mpr ⟨(xOK_pure (xs_istore (show decode cX12_plan 74 = .ok (.istore 6, 2) by decide +kernel) (by decide))),
  List.forall_mem_cons.mpr ⟨(xOK_pure (xs_iload (show decode cX12_plan 76 = .ok (.iload 6, 2) by decide +kernel))),
  List.forall_mem_cons.mpr ⟨(xOK_pure (xs_iconst (n := 1) (show decode cX12_plan 78 = .ok (.iconst 1, 1) by decide +kernel) (by decide))),
  List.forall_mem_cons.mpr ⟨(xOK_pure (xs_iload_n (k := 3) rfl (show decode cX12_plan 79 = .ok (.iload_n 3, 1) by decide +kernel))),
  List.forall_mem_cons.mpr ⟨(xOK_pure (xs_ishl (show decode cX12_plan 80 = .ok (.ishl, 1) by decide +kernel))),
  List.forall_mem_cons.mpr ⟨(xOK_pure (xs_icmp_ge (show decode cX12_plan 81 = .ok (.if_icmp .ge 114, 3) by decide +kernel) (by decide))),
  List.forall_mem_cons.mpr ⟨(xOK_pure (xs_iconst (n := 0) (show decode cX12_plan 84 = .ok (.iconst 0, 1) by decide +kernel) (by decide))),
  List.forall_mem_cons.mpr ⟨(xOK_pure (xs_istore (show decode cX12_plan 85 = .ok (.istore 7, 2) by decide +kernel) (by decide))),
  List.forall_mem_cons.mpr ⟨(xOK_pure (xs_iload (show decode cX12_plan 87 = .ok (.iload 7, 2) by decide +kernel))),
  List.forall_mem_cons.mpr ⟨(xOK_pure (xs_iload_n (k := 3) rfl (show decode cX12_plan 89 = .ok (.iload_n 3, 1) by decide +kernel))),
  List.forall_mem_cons.mpr ⟨(xOK_pure (xs_icmp_ge (show decode cX12_plan 90 = .ok (.if_icmp .ge 28, 3) by decide +kernel) (by decide))),
  List.forall_mem_cons.mpr ⟨(xOK_pure (xs_iload (show decode cX12_plan 93 = .ok (.iload 6, 2) by decide +kernel))),
  List.forall_mem_cons.mpr ⟨(xOK_pure (xs_iload (show decode cX12_plan 95 = .ok (.iload 7, 2) by decide +kernel))),
  List.forall_mem_cons.mpr ⟨(xOK_pure (xs_ishr (show decode cX12_plan 97 = .ok (.ishr, 1) by decide +kernel))),
  List.forall_mem_cons.mpr ⟨(xOK_pure (xs_iconst (n := 1) (show decode cX12_plan 98 = .ok (.iconst 1, 1) by decide +kernel) (by decide))),
  List.forall_mem_cons.mpr ⟨(xOK_pure (xs_iand (show decode cX12_plan 99 = .ok (.iand, 1) by decide +kernel))),
  List.forall_mem_cons.mpr ⟨(xOK_pure (xs_if_ne (show decode cX12_plan 100 = .ok (.ifCond .ne 12, 3) by decide +kernel) (by decide))),
  List.forall_mem_cons.mpr ⟨(xOK_pure (xs_aload_n (k := 0) rfl (show decode cX12_plan 103 = .ok (.aload_n 0, 1) by decide +kernel))),
  List.forall_mem_cons.mpr ⟨(xOK_pure (xs_aload_n (k := 2) rfl (show decode cX12_plan 104 = .ok (.aload_n 2, 1) by decide +kernel))),
  (fun _ h => absurd h List.not_mem_nil)⟩⟩⟩⟩⟩⟩⟩⟩⟩⟩⟩⟩⟩⟩⟩⟩⟩⟩⟩⟩
def pX12_plan_3 (ev : xEv) : List (Nat × xEn) := [(105, .inl (xop (xf_iload 7 2))), (107, .inl (xop (xf_ald (ev.1 0)))), (108, .inl (xop (xf_push (.int 3) 1))), (109, .inr (.inl (0, 250, 2, 12))), (112, .inl (xop (xf_iinc 7 1))), (115, .inl (xop (xf_goto 87))), (118, .inl (xop (xf_aload 0 1))), (119, .inl (xop (xf_iload 1 1))), (120, .inr (.inl (0, 294, 1, 12))), (123, .inl (xop (xf_aload 0 1))), (124, .inr (.inl (0, 275, 0, 12))), (127, .inl (xop (xf_istore 7 2))), (129, .inl (xop (xf_aload 0 1))), (130, .inr (.inl (0, 292, 0, 12))), (133, .inl (xop (xf_iload 4 2))), (135, .inl (xop (xf_push (.int (-1)) 1))), (136, .inl (xop (xf_icmp_eq 166))), (139, .inl (xop (xf_iload 7 2))), (141, .inl (xop (xf_iload 5 2))), (143, .inl (xop (xf_icmp_gt 166)))]
set_option maxRecDepth 20000 in
theorem okpX12_plan_3 (ev : xEv) : ∀ q ∈ pX12_plan_3 ev, xEnOK ev xmi yX12_plan.cls yX12_plan.name cX12_plan 9 (some .int) q :=
  List.forall_mem_cons.mpr ⟨(xOK_pure (xs_iload (show decode cX12_plan 105 = .ok (.iload 7, 2) by decide +kernel))),
  List.forall_mem_cons.mpr ⟨(xOK_pure (xs_iald (show decode cX12_plan 107 = .ok (.iaload, 1) by decide +kernel))),
  List.forall_mem_cons.mpr ⟨(xOK_pure (xs_iconst (n := 3) (show decode cX12_plan 108 = .ok (.iconst 3, 1) by decide +kernel) (by decide))),
  List.forall_mem_cons.mpr ⟨(xcm mi_250 ⟨⟨(by decide +kernel), (by decide +kernel), (by decide +kernel)⟩, (by decide), xw_2141, xw_125, Or.inl ⟨rfl, _, _, _, _, (show decode cX12_plan 109 = .ok (.invokevirtual 341, 3) by decide +kernel), xw_2138, xw_2140, xw_85, rfl⟩⟩),
  List.forall_mem_cons.mpr ⟨(xOK_pure (xs_iinc (n := 1) (show decode cX12_plan 112 = .ok (.iinc 7 1, 3) by decide +kernel) (by decide) (by decide))),
  List.forall_mem_cons.mpr ⟨(xOK_pure (xs_goto (show decode cX12_plan 115 = .ok (.goto (-28), 3) by decide +kernel) (by decide))),
  List.forall_mem_cons.mpr ⟨(xOK_pure (xs_aload_n (k := 0) rfl (show decode cX12_plan 118 = .ok (.aload_n 0, 1) by decide +kernel))),
  List.forall_mem_cons.mpr ⟨(xOK_pure (xs_iload_n (k := 1) rfl (show decode cX12_plan 119 = .ok (.iload_n 1, 1) by decide +kernel))),
  List.forall_mem_cons.mpr ⟨(xcm mi_294 ⟨⟨(by decide +kernel), (by decide +kernel), (by decide +kernel)⟩, (by decide), xw_2337, xw_125, Or.inl ⟨rfl, _, _, _, _, (show decode cX12_plan 120 = .ok (.invokevirtual 453, 3) by decide +kernel), xw_2334, xw_2336, xw_114, rfl⟩⟩),
  List.forall_mem_cons.mpr ⟨(xOK_pure (xs_aload_n (k := 0) rfl (show decode cX12_plan 123 = .ok (.aload_n 0, 1) by decide +kernel))),
  List.forall_mem_cons.mpr ⟨(xcm mi_275 ⟨⟨(by decide +kernel), (by decide +kernel), (by decide +kernel)⟩, (by decide), xw_2265, xw_125, Or.inl ⟨rfl, _, _, _, _, (show decode cX12_plan 124 = .ok (.invokevirtual 407, 3) by decide +kernel), xw_2262, xw_2264, xw_104, rfl⟩⟩),
  List.forall_mem_cons.mpr ⟨(xOK_pure (xs_istore (show decode cX12_plan 127 = .ok (.istore 7, 2) by decide +kernel) (by decide))),
  List.forall_mem_cons.mpr ⟨(xOK_pure (xs_aload_n (k := 0) rfl (show decode cX12_plan 129 = .ok (.aload_n 0, 1) by decide +kernel))),
  List.forall_mem_cons.mpr ⟨(xcm mi_292 ⟨⟨(by decide +kernel), (by decide +kernel), (by decide +kernel)⟩, (by decide), xw_2341, xw_125, Or.inl ⟨rfl, _, _, _, _, (show decode cX12_plan 130 = .ok (.invokevirtual 456, 3) by decide +kernel), xw_2338, xw_2340, xw_115, rfl⟩⟩),
  List.forall_mem_cons.mpr ⟨(xOK_pure (xs_iload (show decode cX12_plan 133 = .ok (.iload 4, 2) by decide +kernel))),
  List.forall_mem_cons.mpr ⟨(xOK_pure (xs_iconst (n := (-1)) (show decode cX12_plan 135 = .ok (.iconst (-1), 1) by decide +kernel) (by decide))),
  List.forall_mem_cons.mpr ⟨(xOK_pure (xs_icmp_eq (show decode cX12_plan 136 = .ok (.if_icmp .eq 30, 3) by decide +kernel) (by decide))),
  List.forall_mem_cons.mpr ⟨(xOK_pure (xs_iload (show decode cX12_plan 139 = .ok (.iload 7, 2) by decide +kernel))),
  List.forall_mem_cons.mpr ⟨(xOK_pure (xs_iload (show decode cX12_plan 141 = .ok (.iload 5, 2) by decide +kernel))),
  List.forall_mem_cons.mpr ⟨(xOK_pure (xs_icmp_gt (show decode cX12_plan 143 = .ok (.if_icmp .gt 23, 3) by decide +kernel) (by decide))),
  (fun _ h => absurd h List.not_mem_nil)⟩⟩⟩⟩⟩⟩⟩⟩⟩⟩⟩⟩⟩⟩⟩⟩⟩⟩⟩⟩
def pX12_plan_4 (ev : xEv) : List (Nat × xEn) := [(146, .inl (xop (xf_iload 7 2))), (148, .inl (xop (xf_iload 5 2))), (150, .inl (xop (xf_icmp_ne 170))), (153, .inl (xop (xf_iload 6 2))), (155, .inr (.inl (1, 300, 1, 99))), (158, .inl (xop (xf_iload 4 2))), (160, .inr (.inl (1, 300, 1, 99))), (163, .inl (xop (xf_icmp_ge 170))), (166, .inl (xop (xf_push (.int 1) 1))), (167, .inl (xop (xf_goto 171))), (170, .inl (xop (xf_push (.int 0) 1))), (171, .inl (xop (xf_istore 8 2))), (173, .inl (xop (xf_iload 8 2))), (175, .inl (xop (xf_if_ne 181))), (178, .inl (xop (xf_goto 189))), (181, .inl (xop (xf_iload 6 2))), (183, .inl (xop (xf_istore 4 2))), (185, .inl (xop (xf_iload 7 2))), (187, .inl (xop (xf_istore 5 2))), (189, .inl (xop (xf_iinc 6 1)))]
set_option maxRecDepth 20000 in
theorem okpX12_plan_4 (ev : xEv) : ∀ q ∈ pX12_plan_4 ev, xEnOK ev xmi yX12_plan.cls yX12_plan.name cX12_plan 9 (some .int) q :=
  List.forall_mem_cons.mpr ⟨(xOK_pure (xs_iload (show decode cX12_plan 146 = .ok (.iload 7, 2) by decide +kernel))),
  List.forall_mem_cons.mpr ⟨(xOK_pure (xs_iload (show decode cX12_plan 148 = .ok (.iload 5, 2) by decide +kernel))),
  List.forall_mem_cons.mpr ⟨(xOK_pure (xs_icmp_ne (show decode cX12_plan 150 = .ok (.if_icmp .ne 20, 3) by decide +kernel) (by decide))),
  List.forall_mem_cons.mpr ⟨(xOK_pure (xs_iload (show decode cX12_plan 153 = .ok (.iload 6, 2) by decide +kernel))),
  List.forall_mem_cons.mpr ⟨(xcm mi_300 ⟨⟨(by decide +kernel), (by decide +kernel), (by decide +kernel)⟩, (by decide), xw_1538, xw_143, Or.inr (Or.inl ⟨rfl, _, (show decode cX12_plan 155 = .ok (.invokestatic 459, 3) by decide +kernel), xw_2342, xw_1537⟩)⟩),
  List.forall_mem_cons.mpr ⟨(xOK_pure (xs_iload (show decode cX12_plan 158 = .ok (.iload 4, 2) by decide +kernel))),
  List.forall_mem_cons.mpr ⟨(xcm mi_300 ⟨⟨(by decide +kernel), (by decide +kernel), (by decide +kernel)⟩, (by decide), xw_1538, xw_143, Or.inr (Or.inl ⟨rfl, _, (show decode cX12_plan 160 = .ok (.invokestatic 459, 3) by decide +kernel), xw_2342, xw_1537⟩)⟩),
  List.forall_mem_cons.mpr ⟨(xOK_pure (xs_icmp_ge (show decode cX12_plan 163 = .ok (.if_icmp .ge 7, 3) by decide +kernel) (by decide))),
  List.forall_mem_cons.mpr ⟨(xOK_pure (xs_iconst (n := 1) (show decode cX12_plan 166 = .ok (.iconst 1, 1) by decide +kernel) (by decide))),
  List.forall_mem_cons.mpr ⟨(xOK_pure (xs_goto (show decode cX12_plan 167 = .ok (.goto 4, 3) by decide +kernel) (by decide))),
  List.forall_mem_cons.mpr ⟨(xOK_pure (xs_iconst (n := 0) (show decode cX12_plan 170 = .ok (.iconst 0, 1) by decide +kernel) (by decide))),
  List.forall_mem_cons.mpr ⟨(xOK_pure (xs_istore (show decode cX12_plan 171 = .ok (.istore 8, 2) by decide +kernel) (by decide))),
  List.forall_mem_cons.mpr ⟨(xOK_pure (xs_iload (show decode cX12_plan 173 = .ok (.iload 8, 2) by decide +kernel))),
  List.forall_mem_cons.mpr ⟨(xOK_pure (xs_if_ne (show decode cX12_plan 175 = .ok (.ifCond .ne 6, 3) by decide +kernel) (by decide))),
  List.forall_mem_cons.mpr ⟨(xOK_pure (xs_goto (show decode cX12_plan 178 = .ok (.goto 11, 3) by decide +kernel) (by decide))),
  List.forall_mem_cons.mpr ⟨(xOK_pure (xs_iload (show decode cX12_plan 181 = .ok (.iload 6, 2) by decide +kernel))),
  List.forall_mem_cons.mpr ⟨(xOK_pure (xs_istore (show decode cX12_plan 183 = .ok (.istore 4, 2) by decide +kernel) (by decide))),
  List.forall_mem_cons.mpr ⟨(xOK_pure (xs_iload (show decode cX12_plan 185 = .ok (.iload 7, 2) by decide +kernel))),
  List.forall_mem_cons.mpr ⟨(xOK_pure (xs_istore (show decode cX12_plan 187 = .ok (.istore 5, 2) by decide +kernel) (by decide))),
  List.forall_mem_cons.mpr ⟨(xOK_pure (xs_iinc (n := 1) (show decode cX12_plan 189 = .ok (.iinc 6 1, 3) by decide +kernel) (by decide) (by decide))),
  (fun _ h => absurd h List.not_mem_nil)⟩⟩⟩⟩⟩⟩⟩⟩⟩⟩⟩⟩⟩⟩⟩⟩⟩⟩⟩⟩
def pX12_plan_5 (ev : xEv) : List (Nat × xEn) := [(192, .inl (xop (xf_goto 76))), (195, .inl (xop (xf_aload 0 1))), (196, .inl (xop (xf_getf 12 45))), (199, .inl (xop (xf_push (.int 0) 1))), (200, .inl (xop (xf_iload 4 2))), (202, .inl (xo_ast (ev.1 0) (fun x => x))), (203, .inl (xop (xf_aload 0 1))), (204, .inl (xop (xf_push (.int 1) 1))), (205, .inl (xo_putf 12 46 .int)), (208, .inl (xop (xf_iload 5 2))), (210, .inr (.inr 1))]
set_option maxRecDepth 20000 in
theorem okpX12_plan_5 (ev : xEv) : ∀ q ∈ pX12_plan_5 ev, xEnOK ev xmi yX12_plan.cls yX12_plan.name cX12_plan 9 (some .int) q :=
  List.forall_mem_cons.mpr ⟨(xOK_pure (xs_goto (show decode cX12_plan 192 = .ok (.goto (-116), 3) by decide +kernel) (by decide))),
  List.forall_mem_cons.mpr ⟨(xOK_pure (xs_aload_n (k := 0) rfl (show decode cX12_plan 195 = .ok (.aload_n 0, 1) by decide +kernel))),
  List.forall_mem_cons.mpr ⟨(xOK_pure (xs_getf xcl_12 (by decide) (show decode cX12_plan 196 = .ok (.getfield 118, 3) by decide +kernel) xw_1754)),
  List.forall_mem_cons.mpr ⟨(xOK_pure (xs_iconst (n := 0) (show decode cX12_plan 199 = .ok (.iconst 0, 1) by decide +kernel) (by decide))),
  List.forall_mem_cons.mpr ⟨(xOK_pure (xs_iload (show decode cX12_plan 200 = .ok (.iload 4, 2) by decide +kernel))),
  List.forall_mem_cons.mpr ⟨(xs_iast (show decode cX12_plan 202 = .ok (.iastore, 1) by decide +kernel)),
  List.forall_mem_cons.mpr ⟨(xOK_pure (xs_aload_n (k := 0) rfl (show decode cX12_plan 203 = .ok (.aload_n 0, 1) by decide +kernel))),
  List.forall_mem_cons.mpr ⟨(xOK_pure (xs_iconst (n := 1) (show decode cX12_plan 204 = .ok (.iconst 1, 1) by decide +kernel) (by decide))),
  List.forall_mem_cons.mpr ⟨(xs_putf (k := 46) xcl_12 (by decide) rfl (show decode cX12_plan 205 = .ok (.putfield 398, 3) by decide +kernel) xw_1755),
  List.forall_mem_cons.mpr ⟨(xOK_pure (xs_iload (show decode cX12_plan 208 = .ok (.iload 5, 2) by decide +kernel))),
  List.forall_mem_cons.mpr ⟨(Or.inr (Or.inl ⟨rfl, (show decode cX12_plan 210 = .ok (.ireturn, 1) by decide +kernel), rfl⟩)),
  (fun _ h => absurd h List.not_mem_nil)⟩⟩⟩⟩⟩⟩⟩⟩⟩⟩⟩
def pX12_plan (ev : xEv) : List (Nat × xEn) := pX12_plan_0 ev ++ (pX12_plan_1 ev ++ (pX12_plan_2 ev ++ (pX12_plan_3 ev ++ (pX12_plan_4 ev ++ (pX12_plan_5 ev)))))
theorem okpX12_plan (ev : xEv) : ∀ q ∈ pX12_plan ev, xEnOK ev xmi yX12_plan.cls yX12_plan.name cX12_plan 9 (some .int) q := List.forall_mem_append.mpr ⟨okpX12_plan_0 ev, List.forall_mem_append.mpr ⟨okpX12_plan_1 ev, List.forall_mem_append.mpr ⟨okpX12_plan_2 ev, List.forall_mem_append.mpr ⟨okpX12_plan_3 ev, List.forall_mem_append.mpr ⟨okpX12_plan_4 ev, okpX12_plan_5 ev⟩⟩⟩⟩⟩
theorem omX12_plan (ev : xEv) : xMethOK ev xmi yX12_plan.cls yX12_plan.name 295 (pX12_plan ev) := xMethOK.of mi_295 (by decide +kernel) (okpX12_plan ev)
def pX12_onTime_0 (ev : xEv) : List (Nat × xEn) := [(0, .inl (xop (xf_push (.int 0) 1))), (1, .inl (xop (xf_istore 1 1))), (2, .inl (xop (xf_push (.int 0) 1))), (3, .inl (xop (xf_istore 2 1))), (4, .inl (xop (xf_iload 2 1))), (5, .inl (xop (xf_aload 0 1))), (6, .inl (xop (xf_getf 12 28))), (9, .inl (xop (xf_icmp_ge 46))), (12, .inl (xop (xf_aload 0 1))), (13, .inl (xop (xf_iload 2 1))), (14, .inl (xop (xf_push (.int 3) 1))), (15, .inr (.inl (0, 199, 2, 12))), (18, .inl (xop (xf_push (.int (-1)) 1))), (19, .inl (xop (xf_icmp_eq 40))), (22, .inl (xop (xf_aload 0 1))), (23, .inl (xop (xf_iload 2 1))), (24, .inl (xop (xf_push (.int 3) 1))), (25, .inr (.inl (0, 199, 2, 12))), (28, .inl (xop (xf_aload 0 1))), (29, .inl (xop (xf_getf 12 27)))]
set_option maxRecDepth 20000 in
theorem okpX12_onTime_0 (ev : xEv) : ∀ q ∈ pX12_onTime_0 ev, xEnOK ev xmi yX12_onTime.cls yX12_onTime.name cX12_onTime 3 (some .int) q :=
  List.forall_mem_cons.mpr ⟨(xOK_pure (xs_iconst (n := 0) (show decode cX12_onTime 0 = .ok (.iconst 0, 1) by decide +kernel) (by decide))),
  List.forall_mem_cons.mpr ⟨(xOK_pure (xs_istore_n (k := 1) rfl (show decode cX12_onTime 1 = .ok (.istore_n 1, 1) by decide +kernel) (by decide))),
  List.forall_mem_cons.mpr ⟨(xOK_pure (xs_iconst (n := 0) (show decode cX12_onTime 2 = .ok (.iconst 0, 1) by decide +kernel) (by decide))),
  List.forall_mem_cons.mpr ⟨(xOK_pure (xs_istore_n (k := 2) rfl (show decode cX12_onTime 3 = .ok (.istore_n 2, 1) by decide +kernel) (by decide))),
  List.forall_mem_cons.mpr ⟨(xOK_pure (xs_iload_n (k := 2) rfl (show decode cX12_onTime 4 = .ok (.iload_n 2, 1) by decide +kernel))),
  List.forall_mem_cons.mpr ⟨(xOK_pure (xs_aload_n (k := 0) rfl (show decode cX12_onTime 5 = .ok (.aload_n 0, 1) by decide +kernel))),
  List.forall_mem_cons.mpr ⟨(xOK_pure (xs_getf xcl_12 (by decide) (show decode cX12_onTime 6 = .ok (.getfield 159, 3) by decide +kernel) xw_1737)),
  List.forall_mem_cons.mpr ⟨(xOK_pure (xs_icmp_ge (show decode cX12_onTime 9 = .ok (.if_icmp .ge 37, 3) by decide +kernel) (by decide))),
  List.forall_mem_cons.mpr ⟨(xOK_pure (xs_aload_n (k := 0) rfl (show decode cX12_onTime 12 = .ok (.aload_n 0, 1) by decide +kernel))),
  List.forall_mem_cons.mpr ⟨(xOK_pure (xs_iload_n (k := 2) rfl (show decode cX12_onTime 13 = .ok (.iload_n 2, 1) by decide +kernel))),
  List.forall_mem_cons.mpr ⟨(xOK_pure (xs_iconst (n := 3) (show decode cX12_onTime 14 = .ok (.iconst 3, 1) by decide +kernel) (by decide))),
  List.forall_mem_cons.mpr ⟨(xcm mi_199 ⟨⟨(by decide +kernel), (by decide +kernel), (by decide +kernel)⟩, (by decide), xw_2029, xw_125, Or.inl ⟨rfl, _, _, _, _, (show decode cX12_onTime 15 = .ok (.invokevirtual 215, 3) by decide +kernel), xw_2026, xw_2028, xw_67, rfl⟩⟩),
  List.forall_mem_cons.mpr ⟨(xOK_pure (xs_iconst (n := (-1)) (show decode cX12_onTime 18 = .ok (.iconst (-1), 1) by decide +kernel) (by decide))),
  List.forall_mem_cons.mpr ⟨(xOK_pure (xs_icmp_eq (show decode cX12_onTime 19 = .ok (.if_icmp .eq 21, 3) by decide +kernel) (by decide))),
  List.forall_mem_cons.mpr ⟨(xOK_pure (xs_aload_n (k := 0) rfl (show decode cX12_onTime 22 = .ok (.aload_n 0, 1) by decide +kernel))),
  List.forall_mem_cons.mpr ⟨(xOK_pure (xs_iload_n (k := 2) rfl (show decode cX12_onTime 23 = .ok (.iload_n 2, 1) by decide +kernel))),
  List.forall_mem_cons.mpr ⟨(xOK_pure (xs_iconst (n := 3) (show decode cX12_onTime 24 = .ok (.iconst 3, 1) by decide +kernel) (by decide))),
  List.forall_mem_cons.mpr ⟨(xcm mi_199 ⟨⟨(by decide +kernel), (by decide +kernel), (by decide +kernel)⟩, (by decide), xw_2029, xw_125, Or.inl ⟨rfl, _, _, _, _, (show decode cX12_onTime 25 = .ok (.invokevirtual 215, 3) by decide +kernel), xw_2026, xw_2028, xw_67, rfl⟩⟩),
  List.forall_mem_cons.mpr ⟨(xOK_pure (xs_aload_n (k := 0) rfl (show decode cX12_onTime 28 = .ok (.aload_n 0, 1) by decide +kernel))),
  List.forall_mem_cons.mpr ⟨(xOK_pure (xs_getf xcl_12 (by decide) (show decode cX12_onTime 29 = .ok (.getfield 77, 3) by decide +kernel) xw_1736)),
  (fun _ h => absurd h List.not_mem_nil)⟩⟩⟩⟩⟩⟩⟩⟩⟩⟩⟩⟩⟩⟩⟩⟩⟩⟩⟩⟩
def pX12_onTime_1 (ev : xEv) : List (Nat × xEn) := [(32, .inl (xop (xf_iload 2 1))), (33, .inl (xop (xf_ald (ev.1 0)))), (34, .inl (xop (xf_icmp_gt 40))), (37, .inl (xop (xf_iinc 1 1))), (40, .inl (xop (xf_iinc 2 1))), (43, .inl (xop (xf_goto 4))), (46, .inl (xop (xf_iload 1 1))), (47, .inr (.inr 1))]
set_option maxRecDepth 20000 in
theorem okpX12_onTime_1 (ev : xEv) : ∀ q ∈ pX12_onTime_1 ev, xEnOK ev xmi yX12_onTime.cls yX12_onTime.name cX12_onTime 3 (some .int) q :=
  List.forall_mem_cons.mpr ⟨(xOK_pure (xs_iload_n (k := 2) rfl (show decode cX12_onTime 32 = .ok (.iload_n 2, 1) by decide +kernel))),
  List.forall_mem_cons.mpr ⟨(xOK_pure (xs_iald (show decode cX12_onTime 33 = .ok (.iaload, 1) by decide +kernel))),
  List.forall_mem_cons.mpr ⟨(xOK_pure (xs_icmp_gt (show decode cX12_onTime 34 = .ok (.if_icmp .gt 6, 3) by decide +kernel) (by decide))),
  List.forall_mem_cons.mpr ⟨(xOK_pure (xs_iinc (n := 1) (show decode cX12_onTime 37 = .ok (.iinc 1 1, 3) by decide +kernel) (by decide) (by decide))),
  List.forall_mem_cons.mpr ⟨(xOK_pure (xs_iinc (n := 1) (show decode cX12_onTime 40 = .ok (.iinc 2 1, 3) by decide +kernel) (by decide) (by decide))),
  List.forall_mem_cons.mpr ⟨(xOK_pure (xs_goto (show decode cX12_onTime 43 = .ok (.goto (-39), 3) by decide +kernel) (by decide))),
  List.forall_mem_cons.mpr ⟨(xOK_pure (xs_iload_n (k := 1) rfl (show decode cX12_onTime 46 = .ok (.iload_n 1, 1) by decide +kernel))),
  List.forall_mem_cons.mpr ⟨(Or.inr (Or.inl ⟨rfl, (show decode cX12_onTime 47 = .ok (.ireturn, 1) by decide +kernel), rfl⟩)),
  (fun _ h => absurd h List.not_mem_nil)⟩⟩⟩⟩⟩⟩⟩⟩
def pX12_onTime (ev : xEv) : List (Nat × xEn) := pX12_onTime_0 ev ++ (pX12_onTime_1 ev)
theorem okpX12_onTime (ev : xEv) : ∀ q ∈ pX12_onTime ev, xEnOK ev xmi yX12_onTime.cls yX12_onTime.name cX12_onTime 3 (some .int) q := List.forall_mem_append.mpr ⟨okpX12_onTime_0 ev, okpX12_onTime_1 ev⟩
theorem omX12_onTime (ev : xEv) : xMethOK ev xmi yX12_onTime.cls yX12_onTime.name 296 (pX12_onTime ev) := xMethOK.of mi_296 (by decide +kernel) (okpX12_onTime ev)
def pX12_lamps_0 (ev : xEv) : List (Nat × xEn) := [(0, .inl (xop (xf_aload 0 1))), (1, .inl (xop (xf_push (.int 0) 1))), (2, .inl (xo_putf 12 47 .int)), (5, .inl (xop (xf_push (.int 0) 1))), (6, .inl (xop (xf_istore 3 1))), (7, .inl (xop (xf_push (.int 0) 1))), (8, .inl (xop (xf_istore 4 2))), (10, .inl (xop (xf_iload 4 2))), (12, .inl (xop (xf_aload 0 1))), (13, .inl (xop (xf_getf 12 1))), (16, .inl (xop (xf_icmp_ge 37))), (19, .inl (xop (xf_aload 0 1))), (20, .inl (xop (xf_iload 4 2))), (22, .inr (.inl (0, 203, 1, 12))), (25, .inl (xop (xf_if_ne 31))), (28, .inl (xop (xf_iinc 3 1))), (31, .inl (xop (xf_iinc 4 1))), (34, .inl (xop (xf_goto 10))), (37, .inl (xop (xf_aload 0 1))), (38, .inl (xop (xf_iload 2 1)))]
set_option maxRecDepth 20000 in
theorem okpX12_lamps_0 (ev : xEv) : ∀ q ∈ pX12_lamps_0 ev, xEnOK ev xmi yX12_lamps.cls yX12_lamps.name cX12_lamps 10 (some .int) q :=
  List.forall_mem_cons.mpr ⟨(xOK_pure (xs_aload_n (k := 0) rfl (show decode cX12_lamps 0 = .ok (.aload_n 0, 1) by decide +kernel))),
  List.forall_mem_cons.mpr ⟨(xOK_pure (xs_iconst (n := 0) (show decode cX12_lamps 1 = .ok (.iconst 0, 1) by decide +kernel) (by decide))),
  List.forall_mem_cons.mpr ⟨(xs_putf (k := 47) xcl_12 (by decide) rfl (show decode cX12_lamps 2 = .ok (.putfield 140, 3) by decide +kernel) xw_1756),
  List.forall_mem_cons.mpr ⟨(xOK_pure (xs_iconst (n := 0) (show decode cX12_lamps 5 = .ok (.iconst 0, 1) by decide +kernel) (by decide))),
  List.forall_mem_cons.mpr ⟨(xOK_pure (xs_istore_n (k := 3) rfl (show decode cX12_lamps 6 = .ok (.istore_n 3, 1) by decide +kernel) (by decide))),
  List.forall_mem_cons.mpr ⟨(xOK_pure (xs_iconst (n := 0) (show decode cX12_lamps 7 = .ok (.iconst 0, 1) by decide +kernel) (by decide))),
  List.forall_mem_cons.mpr ⟨(xOK_pure (xs_istore (show decode cX12_lamps 8 = .ok (.istore 4, 2) by decide +kernel) (by decide))),
  List.forall_mem_cons.mpr ⟨(xOK_pure (xs_iload (show decode cX12_lamps 10 = .ok (.iload 4, 2) by decide +kernel))),
  List.forall_mem_cons.mpr ⟨(xOK_pure (xs_aload_n (k := 0) rfl (show decode cX12_lamps 12 = .ok (.aload_n 0, 1) by decide +kernel))),
  List.forall_mem_cons.mpr ⟨(xOK_pure (xs_getf xcl_12 (by decide) (show decode cX12_lamps 13 = .ok (.getfield 143, 3) by decide +kernel) xw_1710)),
  List.forall_mem_cons.mpr ⟨(xOK_pure (xs_icmp_ge (show decode cX12_lamps 16 = .ok (.if_icmp .ge 21, 3) by decide +kernel) (by decide))),
  List.forall_mem_cons.mpr ⟨(xOK_pure (xs_aload_n (k := 0) rfl (show decode cX12_lamps 19 = .ok (.aload_n 0, 1) by decide +kernel))),
  List.forall_mem_cons.mpr ⟨(xOK_pure (xs_iload (show decode cX12_lamps 20 = .ok (.iload 4, 2) by decide +kernel))),
  List.forall_mem_cons.mpr ⟨(xcm mi_203 ⟨⟨(by decide +kernel), (by decide +kernel), (by decide +kernel)⟩, (by decide), xw_2176, xw_125, Or.inl ⟨rfl, _, _, _, _, (show decode cX12_lamps 22 = .ok (.invokevirtual 360, 3) by decide +kernel), xw_2173, xw_2175, xw_92, rfl⟩⟩),
  List.forall_mem_cons.mpr ⟨(xOK_pure (xs_if_ne (show decode cX12_lamps 25 = .ok (.ifCond .ne 6, 3) by decide +kernel) (by decide))),
  List.forall_mem_cons.mpr ⟨(xOK_pure (xs_iinc (n := 1) (show decode cX12_lamps 28 = .ok (.iinc 3 1, 3) by decide +kernel) (by decide) (by decide))),
  List.forall_mem_cons.mpr ⟨(xOK_pure (xs_iinc (n := 1) (show decode cX12_lamps 31 = .ok (.iinc 4 1, 3) by decide +kernel) (by decide) (by decide))),
  List.forall_mem_cons.mpr ⟨(xOK_pure (xs_goto (show decode cX12_lamps 34 = .ok (.goto (-24), 3) by decide +kernel) (by decide))),
  List.forall_mem_cons.mpr ⟨(xOK_pure (xs_aload_n (k := 0) rfl (show decode cX12_lamps 37 = .ok (.aload_n 0, 1) by decide +kernel))),
  List.forall_mem_cons.mpr ⟨(xOK_pure (xs_iload_n (k := 2) rfl (show decode cX12_lamps 38 = .ok (.iload_n 2, 1) by decide +kernel))),
  (fun _ h => absurd h List.not_mem_nil)⟩⟩⟩⟩⟩⟩⟩⟩⟩⟩⟩⟩⟩⟩⟩⟩⟩⟩⟩⟩
def pX12_lamps_1 (ev : xEv) : List (Nat × xEn) := [(39, .inr (.inl (0, 293, 1, 12))), (42, .inl (xop (xf_if_eq 59))), (45, .inl (xop (xf_iload 1 1))), (46, .inl (xop (xf_push (.int 0) 1))), (47, .inl (xop (xf_push (.int 2) 1))), (48, .inr (.inl (1, 188, 3, 12))), (51, .inl (xop (xf_if_eq 59))), (54, .inl (xop (xf_iload 3 1))), (55, .inl (xop (xf_iload 1 1))), (56, .inl (xop (xf_icmp_ge 61))), (59, .inl (xop (xf_push (.int (-1)) 1))), (60, .inr (.inr 1)), (61, .inl (xop (xf_aload 0 1))), (62, .inr (.inl (0, 291, 0, 12))), (65, .inl (xop (xf_push (.int (-1)) 1))), (66, .inl (xop (xf_istore 4 2))), (68, .inl (xop (xf_push (.int 0) 1))), (69, .inl (xop (xf_istore 5 2))), (71, .inl (xop (xf_iload 1 1))), (72, .inl (xop (xf_if_le 79)))]
set_option maxRecDepth 20000 in
theorem okpX12_lamps_1 (ev : xEv) : ∀ q ∈ pX12_lamps_1 ev, xEnOK ev xmi yX12_lamps.cls yX12_lamps.name cX12_lamps 10 (some .int) q :=
  List.forall_mem_cons.mpr ⟨(xcm mi_293 ⟨⟨(by decide +kernel), (by decide +kernel), (by decide +kernel)⟩, (by decide), xw_2329, xw_125, Or.inl ⟨rfl, _, _, _, _, (show decode cX12_lamps 39 = .ok (.invokevirtual 447, 3) by decide +kernel), xw_2326, xw_2328, xw_112, rfl⟩⟩),
  List.forall_mem_cons.mpr ⟨(xOK_pure (xs_if_eq (show decode cX12_lamps 42 = .ok (.ifCond .eq 17, 3) by decide +kernel) (by decide))),
  List.forall_mem_cons.mpr ⟨(xOK_pure (xs_iload_n (k := 1) rfl (show decode cX12_lamps 45 = .ok (.iload_n 1, 1) by decide +kernel))),
  List.forall_mem_cons.mpr ⟨(xOK_pure (xs_iconst (n := 0) (show decode cX12_lamps 46 = .ok (.iconst 0, 1) by decide +kernel) (by decide))),
  List.forall_mem_cons.mpr ⟨(xOK_pure (xs_iconst (n := 2) (show decode cX12_lamps 47 = .ok (.iconst 2, 1) by decide +kernel) (by decide))),
  List.forall_mem_cons.mpr ⟨(xcm mi_188 ⟨⟨(by decide +kernel), (by decide +kernel), (by decide +kernel)⟩, (by decide), xw_1912, xw_125, Or.inr (Or.inl ⟨rfl, _, (show decode cX12_lamps 48 = .ok (.invokestatic 146, 3) by decide +kernel), xw_1910, xw_1911⟩)⟩),
  List.forall_mem_cons.mpr ⟨(xOK_pure (xs_if_eq (show decode cX12_lamps 51 = .ok (.ifCond .eq 8, 3) by decide +kernel) (by decide))),
  List.forall_mem_cons.mpr ⟨(xOK_pure (xs_iload_n (k := 3) rfl (show decode cX12_lamps 54 = .ok (.iload_n 3, 1) by decide +kernel))),
  List.forall_mem_cons.mpr ⟨(xOK_pure (xs_iload_n (k := 1) rfl (show decode cX12_lamps 55 = .ok (.iload_n 1, 1) by decide +kernel))),
  List.forall_mem_cons.mpr ⟨(xOK_pure (xs_icmp_ge (show decode cX12_lamps 56 = .ok (.if_icmp .ge 5, 3) by decide +kernel) (by decide))),
  List.forall_mem_cons.mpr ⟨(xOK_pure (xs_iconst (n := (-1)) (show decode cX12_lamps 59 = .ok (.iconst (-1), 1) by decide +kernel) (by decide))),
  List.forall_mem_cons.mpr ⟨(Or.inr (Or.inl ⟨rfl, (show decode cX12_lamps 60 = .ok (.ireturn, 1) by decide +kernel), rfl⟩)),
  List.forall_mem_cons.mpr ⟨(xOK_pure (xs_aload_n (k := 0) rfl (show decode cX12_lamps 61 = .ok (.aload_n 0, 1) by decide +kernel))),
  List.forall_mem_cons.mpr ⟨(xcm mi_291 ⟨⟨(by decide +kernel), (by decide +kernel), (by decide +kernel)⟩, (by decide), xw_2333, xw_125, Or.inl ⟨rfl, _, _, _, _, (show decode cX12_lamps 62 = .ok (.invokevirtual 450, 3) by decide +kernel), xw_2330, xw_2332, xw_113, rfl⟩⟩),
  List.forall_mem_cons.mpr ⟨(xOK_pure (xs_iconst (n := (-1)) (show decode cX12_lamps 65 = .ok (.iconst (-1), 1) by decide +kernel) (by decide))),
  List.forall_mem_cons.mpr ⟨(xOK_pure (xs_istore (show decode cX12_lamps 66 = .ok (.istore 4, 2) by decide +kernel) (by decide))),
  List.forall_mem_cons.mpr ⟨(xOK_pure (xs_iconst (n := 0) (show decode cX12_lamps 68 = .ok (.iconst 0, 1) by decide +kernel) (by decide))),
  List.forall_mem_cons.mpr ⟨(xOK_pure (xs_istore (show decode cX12_lamps 69 = .ok (.istore 5, 2) by decide +kernel) (by decide))),
  List.forall_mem_cons.mpr ⟨(xOK_pure (xs_iload_n (k := 1) rfl (show decode cX12_lamps 71 = .ok (.iload_n 1, 1) by decide +kernel))),
  List.forall_mem_cons.mpr ⟨(xOK_pure (xs_if_le (show decode cX12_lamps 72 = .ok (.ifCond .le 7, 3) by decide +kernel) (by decide))),
  (fun _ h => absurd h List.not_mem_nil)⟩⟩⟩⟩⟩⟩⟩⟩⟩⟩⟩⟩⟩⟩⟩⟩⟩⟩⟩⟩
def pX12_lamps_2 (ev : xEv) : List (Nat × xEn) := [(75, .inl (xop (xf_push (.int 0) 1))), (76, .inl (xop (xf_goto 80))), (79, .inl (xop (xf_push (.int (-1)) 1))), (80, .inl (xop (xf_istore 6 2))), (82, .inl (xop (xf_iload 6 2))), (84, .inl (xop (xf_iload 1 1))), (85, .inl (xop (xf_if_le 95))), (88, .inl (xop (xf_aload 0 1))), (89, .inl (xop (xf_getf 12 1))), (92, .inl (xop (xf_goto 96))), (95, .inl (xop (xf_push (.int 0) 1))), (96, .inl (xop (xf_icmp_ge 292))), (99, .inl (xop (xf_iload 1 1))), (100, .inl (xop (xf_push (.int 1) 1))), (101, .inl (xop (xf_icmp_le 111))), (104, .inl (xop (xf_iload 6 2))), (106, .inl (xop (xf_push (.int 1) 1))), (107, .inl (xop (xf_bin (fun x y => x + y)))), (108, .inl (xop (xf_goto 112))), (111, .inl (xop (xf_push (.int (-1)) 1)))]
set_option maxRecDepth 20000 in
theorem okpX12_lamps_2 (ev : xEv) : ∀ q ∈ pX12_lamps_2 ev, xEnOK ev xmi yX12_lamps.cls yX12_lamps.name cX12_lamps 10 (some .int) q :=
  List.forall_mem_cons.mpr ⟨(xOK_pure (xs_iconst (n := 0) (show decode cX12_lamps 75 = .ok (.iconst 0, 1) by decide +kernel) (by decide))),
  List.forall_mem_cons.mpr ⟨(xOK_pure (xs_goto (show decode cX12_lamps 76 = .ok (.goto 4, 3) by decide +kernel) (by decide))),
  List.forall_mem_cons.mpr ⟨(xOK_pure (xs_iconst (n := (-1)) (show decode cX12_lamps 79 = .ok (.iconst (-1), 1) by decide +kernel) (by decide))),
  List.forall_mem_cons.mpr ⟨(xOK_pure (xs_istore (show decode cX12_lamps 80 = .ok (.istore 6, 2) by decide +kernel) (by decide))),
  List.forall_mem_cons.mpr ⟨(xOK_pure (xs_iload (show decode cX12_lamps 82 = .ok (.iload 6, 2) by decide +kernel))),
  List.forall_mem_cons.mpr ⟨(xOK_pure (xs_iload_n (k := 1) rfl (show decode cX12_lamps 84 = .ok (.iload_n 1, 1) by decide +kernel))),
  List.forall_mem_cons.mpr ⟨(xOK_pure (xs_if_le (show decode cX12_lamps 85 = .ok (.ifCond .le 10, 3) by decide +kernel) (by decide))),
  List.forall_mem_cons.mpr ⟨(xOK_pure (xs_aload_n (k := 0) rfl (show decode cX12_lamps 88 = .ok (.aload_n 0, 1) by decide +kernel))),
  List.forall_mem_cons.mpr ⟨(xOK_pure (xs_getf xcl_12 (by decide) (show decode cX12_lamps 89 = .ok (.getfield 143, 3) by decide +kernel) xw_1710)),
  List.forall_mem_cons.mpr ⟨(xOK_pure (xs_goto (show decode cX12_lamps 92 = .ok (.goto 4, 3) by decide +kernel) (by decide))),
  List.forall_mem_cons.mpr ⟨(xOK_pure (xs_iconst (n := 0) (show decode cX12_lamps 95 = .ok (.iconst 0, 1) by decide +kernel) (by decide))),
  List.forall_mem_cons.mpr ⟨(xOK_pure (xs_icmp_ge (show decode cX12_lamps 96 = .ok (.if_icmp .ge 196, 3) by decide +kernel) (by decide))),
  List.forall_mem_cons.mpr ⟨(xOK_pure (xs_iload_n (k := 1) rfl (show decode cX12_lamps 99 = .ok (.iload_n 1, 1) by decide +kernel))),
  List.forall_mem_cons.mpr ⟨(xOK_pure (xs_iconst (n := 1) (show decode cX12_lamps 100 = .ok (.iconst 1, 1) by decide +kernel) (by decide))),
  List.forall_mem_cons.mpr ⟨(xOK_pure (xs_icmp_le (show decode cX12_lamps 101 = .ok (.if_icmp .le 10, 3) by decide +kernel) (by decide))),
  List.forall_mem_cons.mpr ⟨(xOK_pure (xs_iload (show decode cX12_lamps 104 = .ok (.iload 6, 2) by decide +kernel))),
  List.forall_mem_cons.mpr ⟨(xOK_pure (xs_iconst (n := 1) (show decode cX12_lamps 106 = .ok (.iconst 1, 1) by decide +kernel) (by decide))),
  List.forall_mem_cons.mpr ⟨(xOK_pure (xs_iadd (show decode cX12_lamps 107 = .ok (.iadd, 1) by decide +kernel))),
  List.forall_mem_cons.mpr ⟨(xOK_pure (xs_goto (show decode cX12_lamps 108 = .ok (.goto 4, 3) by decide +kernel) (by decide))),
  List.forall_mem_cons.mpr ⟨(xOK_pure (xs_iconst (n := (-1)) (show decode cX12_lamps 111 = .ok (.iconst (-1), 1) by decide +kernel) (by decide))),
  (fun _ h => absurd h List.not_mem_nil)⟩⟩⟩⟩⟩⟩⟩⟩⟩⟩⟩⟩⟩⟩⟩⟩⟩⟩⟩⟩
def pX12_lamps_3 (ev : xEv) : List (Nat × xEn) := [(112, .inl (xop (xf_istore 7 2))), (114, .inl (xop (xf_iload 7 2))), (116, .inl (xop (xf_iload 1 1))), (117, .inl (xop (xf_push (.int 1) 1))), (118, .inl (xop (xf_icmp_le 128))), (121, .inl (xop (xf_aload 0 1))), (122, .inl (xop (xf_getf 12 1))), (125, .inl (xop (xf_goto 129))), (128, .inl (xop (xf_push (.int 0) 1))), (129, .inl (xop (xf_icmp_ge 286))), (132, .inl (xop (xf_iload 6 2))), (134, .inl (xop (xf_push (.int (-1)) 1))), (135, .inl (xop (xf_icmp_eq 147))), (138, .inl (xop (xf_aload 0 1))), (139, .inl (xop (xf_iload 6 2))), (141, .inr (.inl (0, 203, 1, 12))), (144, .inl (xop (xf_if_ne 280))), (147, .inl (xop (xf_iload 7 2))), (149, .inl (xop (xf_push (.int (-1)) 1))), (150, .inl (xop (xf_icmp_eq 165)))]
set_option maxRecDepth 20000 in
theorem okpX12_lamps_3 (ev : xEv) : ∀ q ∈ pX12_lamps_3 ev, xEnOK ev xmi yX12_lamps.cls yX12_lamps.name cX12_lamps 10 (some .int) q :=
  List.forall_mem_cons.mpr ⟨(xOK_pure (xs_istore (show decode cX12_lamps 112 = .ok (.istore 7, 2) by decide +kernel) (by decide))),
  List.forall_mem_cons.mpr ⟨(xOK_pure (xs_iload (show decode cX12_lamps 114 = .ok (.iload 7, 2) by decide +kernel))),
  List.forall_mem_cons.mpr ⟨(xOK_pure (xs_iload_n (k := 1) rfl (show decode cX12_lamps 116 = .ok (.iload_n 1, 1) by decide +kernel))),
  List.forall_mem_cons.mpr ⟨(xOK_pure (xs_iconst (n := 1) (show decode cX12_lamps 117 = .ok (.iconst 1, 1) by decide +kernel) (by decide))),
  List.forall_mem_cons.mpr ⟨(xOK_pure (xs_icmp_le (show decode cX12_lamps 118 = .ok (.if_icmp .le 10, 3) by decide +kernel) (by decide))),
  List.forall_mem_cons.mpr ⟨(xOK_pure (xs_aload_n (k := 0) rfl (show decode cX12_lamps 121 = .ok (.aload_n 0, 1) by decide +kernel))),
  List.forall_mem_cons.mpr ⟨(xOK_pure (xs_getf xcl_12 (by decide) (show decode cX12_lamps 122 = .ok (.getfield 143, 3) by decide +kernel) xw_1710)),
  List.forall_mem_cons.mpr ⟨(xOK_pure (xs_goto (show decode cX12_lamps 125 = .ok (.goto 4, 3) by decide +kernel) (by decide))),
  List.forall_mem_cons.mpr ⟨(xOK_pure (xs_iconst (n := 0) (show decode cX12_lamps 128 = .ok (.iconst 0, 1) by decide +kernel) (by decide))),
  List.forall_mem_cons.mpr ⟨(xOK_pure (xs_icmp_ge (show decode cX12_lamps 129 = .ok (.if_icmp .ge 157, 3) by decide +kernel) (by decide))),
  List.forall_mem_cons.mpr ⟨(xOK_pure (xs_iload (show decode cX12_lamps 132 = .ok (.iload 6, 2) by decide +kernel))),
  List.forall_mem_cons.mpr ⟨(xOK_pure (xs_iconst (n := (-1)) (show decode cX12_lamps 134 = .ok (.iconst (-1), 1) by decide +kernel) (by decide))),
  List.forall_mem_cons.mpr ⟨(xOK_pure (xs_icmp_eq (show decode cX12_lamps 135 = .ok (.if_icmp .eq 12, 3) by decide +kernel) (by decide))),
  List.forall_mem_cons.mpr ⟨(xOK_pure (xs_aload_n (k := 0) rfl (show decode cX12_lamps 138 = .ok (.aload_n 0, 1) by decide +kernel))),
  List.forall_mem_cons.mpr ⟨(xOK_pure (xs_iload (show decode cX12_lamps 139 = .ok (.iload 6, 2) by decide +kernel))),
  List.forall_mem_cons.mpr ⟨(xcm mi_203 ⟨⟨(by decide +kernel), (by decide +kernel), (by decide +kernel)⟩, (by decide), xw_2176, xw_125, Or.inl ⟨rfl, _, _, _, _, (show decode cX12_lamps 141 = .ok (.invokevirtual 360, 3) by decide +kernel), xw_2173, xw_2175, xw_92, rfl⟩⟩),
  List.forall_mem_cons.mpr ⟨(xOK_pure (xs_if_ne (show decode cX12_lamps 144 = .ok (.ifCond .ne 136, 3) by decide +kernel) (by decide))),
  List.forall_mem_cons.mpr ⟨(xOK_pure (xs_iload (show decode cX12_lamps 147 = .ok (.iload 7, 2) by decide +kernel))),
  List.forall_mem_cons.mpr ⟨(xOK_pure (xs_iconst (n := (-1)) (show decode cX12_lamps 149 = .ok (.iconst (-1), 1) by decide +kernel) (by decide))),
  List.forall_mem_cons.mpr ⟨(xOK_pure (xs_icmp_eq (show decode cX12_lamps 150 = .ok (.if_icmp .eq 15, 3) by decide +kernel) (by decide))),
  (fun _ h => absurd h List.not_mem_nil)⟩⟩⟩⟩⟩⟩⟩⟩⟩⟩⟩⟩⟩⟩⟩⟩⟩⟩⟩⟩
def pX12_lamps_4 (ev : xEv) : List (Nat × xEn) := [(153, .inl (xop (xf_aload 0 1))), (154, .inl (xop (xf_iload 7 2))), (156, .inr (.inl (0, 203, 1, 12))), (159, .inl (xop (xf_if_eq 165))), (162, .inl (xop (xf_goto 280))), (165, .inl (xop (xf_iload 6 2))), (167, .inl (xop (xf_push (.int (-1)) 1))), (168, .inl (xop (xf_icmp_eq 185))), (171, .inl (xop (xf_aload 0 1))), (172, .inl (xop (xf_getf 12 48))), (175, .inl (xop (xf_push (.int 3) 1))), (176, .inl (xop (xf_push (.int 2) 1))), (177, .inl (xop (xf_iload 6 2))), (179, .inl (xop (xf_bin (fun x y => x * y)))), (180, .inl (xop (xf_bin (fun x y => x + y)))), (181, .inl (xop (xf_push (.int 0) 1))), (182, .inl (xop (xf_bin (fun x y => x + y)))), (183, .inl (xop (xf_push (.int 1) 1))), (184, .inl (xo_ast (ev.1 0) (fun x => x))), (185, .inl (xop (xf_iload 7 2)))]
set_option maxRecDepth 20000 in
theorem okpX12_lamps_4 (ev : xEv) : ∀ q ∈ pX12_lamps_4 ev, xEnOK ev xmi yX12_lamps.cls yX12_lamps.name cX12_lamps 10 (some .int) q :=
  List.forall_mem_cons.mpr ⟨(xOK_pure (xs_aload_n (k := 0) rfl (show decode cX12_lamps 153 = .ok (.aload_n 0, 1) by decide +kernel))),
  List.forall_mem_cons.mpr ⟨(xOK_pure (xs_iload (show decode cX12_lamps 154 = .ok (.iload 7, 2) by decide +kernel))),
  List.forall_mem_cons.mpr ⟨(xcm mi_203 ⟨⟨(by decide +kernel), (by decide +kernel), (by decide +kernel)⟩, (by decide), xw_2176, xw_125, Or.inl ⟨rfl, _, _, _, _, (show decode cX12_lamps 156 = .ok (.invokevirtual 360, 3) by decide +kernel), xw_2173, xw_2175, xw_92, rfl⟩⟩),
  List.forall_mem_cons.mpr ⟨(xOK_pure (xs_if_eq (show decode cX12_lamps 159 = .ok (.ifCond .eq 6, 3) by decide +kernel) (by decide))),
  List.forall_mem_cons.mpr ⟨(xOK_pure (xs_goto (show decode cX12_lamps 162 = .ok (.goto 118, 3) by decide +kernel) (by decide))),
  List.forall_mem_cons.mpr ⟨(xOK_pure (xs_iload (show decode cX12_lamps 165 = .ok (.iload 6, 2) by decide +kernel))),
  List.forall_mem_cons.mpr ⟨(xOK_pure (xs_iconst (n := (-1)) (show decode cX12_lamps 167 = .ok (.iconst (-1), 1) by decide +kernel) (by decide))),
  List.forall_mem_cons.mpr ⟨(xOK_pure (xs_icmp_eq (show decode cX12_lamps 168 = .ok (.if_icmp .eq 17, 3) by decide +kernel) (by decide))),
  List.forall_mem_cons.mpr ⟨(xOK_pure (xs_aload_n (k := 0) rfl (show decode cX12_lamps 171 = .ok (.aload_n 0, 1) by decide +kernel))),
  List.forall_mem_cons.mpr ⟨(xOK_pure (xs_getf xcl_12 (by decide) (show decode cX12_lamps 172 = .ok (.getfield 121, 3) by decide +kernel) xw_1757)),
  List.forall_mem_cons.mpr ⟨(xOK_pure (xs_iconst (n := 3) (show decode cX12_lamps 175 = .ok (.iconst 3, 1) by decide +kernel) (by decide))),
  List.forall_mem_cons.mpr ⟨(xOK_pure (xs_iconst (n := 2) (show decode cX12_lamps 176 = .ok (.iconst 2, 1) by decide +kernel) (by decide))),
  List.forall_mem_cons.mpr ⟨(xOK_pure (xs_iload (show decode cX12_lamps 177 = .ok (.iload 6, 2) by decide +kernel))),
  List.forall_mem_cons.mpr ⟨(xOK_pure (xs_imul (show decode cX12_lamps 179 = .ok (.imul, 1) by decide +kernel))),
  List.forall_mem_cons.mpr ⟨(xOK_pure (xs_iadd (show decode cX12_lamps 180 = .ok (.iadd, 1) by decide +kernel))),
  List.forall_mem_cons.mpr ⟨(xOK_pure (xs_iconst (n := 0) (show decode cX12_lamps 181 = .ok (.iconst 0, 1) by decide +kernel) (by decide))),
  List.forall_mem_cons.mpr ⟨(xOK_pure (xs_iadd (show decode cX12_lamps 182 = .ok (.iadd, 1) by decide +kernel))),
  List.forall_mem_cons.mpr ⟨(xOK_pure (xs_iconst (n := 1) (show decode cX12_lamps 183 = .ok (.iconst 1, 1) by decide +kernel) (by decide))),
  List.forall_mem_cons.mpr ⟨(xs_iast (show decode cX12_lamps 184 = .ok (.iastore, 1) by decide +kernel)),
  List.forall_mem_cons.mpr ⟨(xOK_pure (xs_iload (show decode cX12_lamps 185 = .ok (.iload 7, 2) by decide +kernel))),
  (fun _ h => absurd h List.not_mem_nil)⟩⟩⟩⟩⟩⟩⟩⟩⟩⟩⟩⟩⟩⟩⟩⟩⟩⟩⟩⟩
def pX12_lamps_5 (ev : xEv) : List (Nat × xEn) := [(187, .inl (xop (xf_push (.int (-1)) 1))), (188, .inl (xop (xf_icmp_eq 205))), (191, .inl (xop (xf_aload 0 1))), (192, .inl (xop (xf_getf 12 48))), (195, .inl (xop (xf_push (.int 3) 1))), (196, .inl (xop (xf_push (.int 2) 1))), (197, .inl (xop (xf_iload 7 2))), (199, .inl (xop (xf_bin (fun x y => x * y)))), (200, .inl (xop (xf_bin (fun x y => x + y)))), (201, .inl (xop (xf_push (.int 0) 1))), (202, .inl (xop (xf_bin (fun x y => x + y)))), (203, .inl (xop (xf_push (.int 1) 1))), (204, .inl (xo_ast (ev.1 0) (fun x => x))), (205, .inl (xop (xf_aload 0 1))), (206, .inl (xop (xf_iload 2 1))), (207, .inr (.inl (0, 294, 1, 12))), (210, .inl (xop (xf_aload 0 1))), (211, .inr (.inl (0, 296, 0, 12))), (214, .inl (xop (xf_istore 8 2))), (216, .inl (xop (xf_aload 0 1)))]
set_option maxRecDepth 20000 in
theorem okpX12_lamps_5 (ev : xEv) : ∀ q ∈ pX12_lamps_5 ev, xEnOK ev xmi yX12_lamps.cls yX12_lamps.name cX12_lamps 10 (some .int) q :=
  List.forall_mem_cons.mpr ⟨(xOK_pure (xs_iconst (n := (-1)) (show decode cX12_lamps 187 = .ok (.iconst (-1), 1) by decide +kernel) (by decide))),
  List.forall_mem_cons.mpr ⟨(xOK_pure (xs_icmp_eq (show decode cX12_lamps 188 = .ok (.if_icmp .eq 17, 3) by decide +kernel) (by decide))),
  List.forall_mem_cons.mpr ⟨(xOK_pure (xs_aload_n (k := 0) rfl (show decode cX12_lamps 191 = .ok (.aload_n 0, 1) by decide +kernel))),
  List.forall_mem_cons.mpr ⟨(xOK_pure (xs_getf xcl_12 (by decide) (show decode cX12_lamps 192 = .ok (.getfield 121, 3) by decide +kernel) xw_1757)),
  List.forall_mem_cons.mpr ⟨(xOK_pure (xs_iconst (n := 3) (show decode cX12_lamps 195 = .ok (.iconst 3, 1) by decide +kernel) (by decide))),
  List.forall_mem_cons.mpr ⟨(xOK_pure (xs_iconst (n := 2) (show decode cX12_lamps 196 = .ok (.iconst 2, 1) by decide +kernel) (by decide))),
  List.forall_mem_cons.mpr ⟨(xOK_pure (xs_iload (show decode cX12_lamps 197 = .ok (.iload 7, 2) by decide +kernel))),
  List.forall_mem_cons.mpr ⟨(xOK_pure (xs_imul (show decode cX12_lamps 199 = .ok (.imul, 1) by decide +kernel))),
  List.forall_mem_cons.mpr ⟨(xOK_pure (xs_iadd (show decode cX12_lamps 200 = .ok (.iadd, 1) by decide +kernel))),
  List.forall_mem_cons.mpr ⟨(xOK_pure (xs_iconst (n := 0) (show decode cX12_lamps 201 = .ok (.iconst 0, 1) by decide +kernel) (by decide))),
  List.forall_mem_cons.mpr ⟨(xOK_pure (xs_iadd (show decode cX12_lamps 202 = .ok (.iadd, 1) by decide +kernel))),
  List.forall_mem_cons.mpr ⟨(xOK_pure (xs_iconst (n := 1) (show decode cX12_lamps 203 = .ok (.iconst 1, 1) by decide +kernel) (by decide))),
  List.forall_mem_cons.mpr ⟨(xs_iast (show decode cX12_lamps 204 = .ok (.iastore, 1) by decide +kernel)),
  List.forall_mem_cons.mpr ⟨(xOK_pure (xs_aload_n (k := 0) rfl (show decode cX12_lamps 205 = .ok (.aload_n 0, 1) by decide +kernel))),
  List.forall_mem_cons.mpr ⟨(xOK_pure (xs_iload_n (k := 2) rfl (show decode cX12_lamps 206 = .ok (.iload_n 2, 1) by decide +kernel))),
  List.forall_mem_cons.mpr ⟨(xcm mi_294 ⟨⟨(by decide +kernel), (by decide +kernel), (by decide +kernel)⟩, (by decide), xw_2337, xw_125, Or.inl ⟨rfl, _, _, _, _, (show decode cX12_lamps 207 = .ok (.invokevirtual 453, 3) by decide +kernel), xw_2334, xw_2336, xw_114, rfl⟩⟩),
  List.forall_mem_cons.mpr ⟨(xOK_pure (xs_aload_n (k := 0) rfl (show decode cX12_lamps 210 = .ok (.aload_n 0, 1) by decide +kernel))),
  List.forall_mem_cons.mpr ⟨(xcm mi_296 ⟨⟨(by decide +kernel), (by decide +kernel), (by decide +kernel)⟩, (by decide), xw_2350, xw_125, Or.inl ⟨rfl, _, _, _, _, (show decode cX12_lamps 211 = .ok (.invokevirtual 464, 3) by decide +kernel), xw_2347, xw_2349, xw_116, rfl⟩⟩),
  List.forall_mem_cons.mpr ⟨(xOK_pure (xs_istore (show decode cX12_lamps 214 = .ok (.istore 8, 2) by decide +kernel) (by decide))),
  List.forall_mem_cons.mpr ⟨(xOK_pure (xs_aload_n (k := 0) rfl (show decode cX12_lamps 216 = .ok (.aload_n 0, 1) by decide +kernel))),
  (fun _ h => absurd h List.not_mem_nil)⟩⟩⟩⟩⟩⟩⟩⟩⟩⟩⟩⟩⟩⟩⟩⟩⟩⟩⟩⟩
def pX12_lamps_6 (ev : xEv) : List (Nat × xEn) := [(217, .inr (.inl (0, 275, 0, 12))), (220, .inl (xop (xf_istore 9 2))), (222, .inl (xop (xf_aload 0 1))), (223, .inr (.inl (0, 292, 0, 12))), (226, .inl (xop (xf_iload 4 2))), (228, .inl (xop (xf_push (.int (-1)) 1))), (229, .inl (xop (xf_icmp_eq 256))), (232, .inl (xop (xf_iload 8 2))), (234, .inl (xop (xf_iload 4 2))), (236, .inl (xop (xf_icmp_lt 280))), (239, .inl (xop (xf_iload 8 2))), (241, .inl (xop (xf_iload 4 2))), (243, .inl (xop (xf_icmp_ne 256))), (246, .inl (xop (xf_iload 9 2))), (248, .inl (xop (xf_iload 5 2))), (250, .inl (xop (xf_icmp_gt 256))), (253, .inl (xop (xf_goto 280))), (256, .inl (xop (xf_iload 8 2))), (258, .inl (xop (xf_istore 4 2))), (260, .inl (xop (xf_iload 9 2)))]
set_option maxRecDepth 20000 in
theorem okpX12_lamps_6 (ev : xEv) : ∀ q ∈ pX12_lamps_6 ev, xEnOK ev xmi yX12_lamps.cls yX12_lamps.name cX12_lamps 10 (some .int) q :=
  List.forall_mem_cons.mpr ⟨(xcm mi_275 ⟨⟨(by decide +kernel), (by decide +kernel), (by decide +kernel)⟩, (by decide), xw_2265, xw_125, Or.inl ⟨rfl, _, _, _, _, (show decode cX12_lamps 217 = .ok (.invokevirtual 407, 3) by decide +kernel), xw_2262, xw_2264, xw_104, rfl⟩⟩),
  List.forall_mem_cons.mpr ⟨(xOK_pure (xs_istore (show decode cX12_lamps 220 = .ok (.istore 9, 2) by decide +kernel) (by decide))),
  List.forall_mem_cons.mpr ⟨(xOK_pure (xs_aload_n (k := 0) rfl (show decode cX12_lamps 222 = .ok (.aload_n 0, 1) by decide +kernel))),
  List.forall_mem_cons.mpr ⟨(xcm mi_292 ⟨⟨(by decide +kernel), (by decide +kernel), (by decide +kernel)⟩, (by decide), xw_2341, xw_125, Or.inl ⟨rfl, _, _, _, _, (show decode cX12_lamps 223 = .ok (.invokevirtual 456, 3) by decide +kernel), xw_2338, xw_2340, xw_115, rfl⟩⟩),
  List.forall_mem_cons.mpr ⟨(xOK_pure (xs_iload (show decode cX12_lamps 226 = .ok (.iload 4, 2) by decide +kernel))),
  List.forall_mem_cons.mpr ⟨(xOK_pure (xs_iconst (n := (-1)) (show decode cX12_lamps 228 = .ok (.iconst (-1), 1) by decide +kernel) (by decide))),
  List.forall_mem_cons.mpr ⟨(xOK_pure (xs_icmp_eq (show decode cX12_lamps 229 = .ok (.if_icmp .eq 27, 3) by decide +kernel) (by decide))),
  List.forall_mem_cons.mpr ⟨(xOK_pure (xs_iload (show decode cX12_lamps 232 = .ok (.iload 8, 2) by decide +kernel))),
  List.forall_mem_cons.mpr ⟨(xOK_pure (xs_iload (show decode cX12_lamps 234 = .ok (.iload 4, 2) by decide +kernel))),
  List.forall_mem_cons.mpr ⟨(xOK_pure (xs_icmp_lt (show decode cX12_lamps 236 = .ok (.if_icmp .lt 44, 3) by decide +kernel) (by decide))),
  List.forall_mem_cons.mpr ⟨(xOK_pure (xs_iload (show decode cX12_lamps 239 = .ok (.iload 8, 2) by decide +kernel))),
  List.forall_mem_cons.mpr ⟨(xOK_pure (xs_iload (show decode cX12_lamps 241 = .ok (.iload 4, 2) by decide +kernel))),
  List.forall_mem_cons.mpr ⟨(xOK_pure (xs_icmp_ne (show decode cX12_lamps 243 = .ok (.if_icmp .ne 13, 3) by decide +kernel) (by decide))),
  List.forall_mem_cons.mpr ⟨(xOK_pure (xs_iload (show decode cX12_lamps 246 = .ok (.iload 9, 2) by decide +kernel))),
  List.forall_mem_cons.mpr ⟨(xOK_pure (xs_iload (show decode cX12_lamps 248 = .ok (.iload 5, 2) by decide +kernel))),
  List.forall_mem_cons.mpr ⟨(xOK_pure (xs_icmp_gt (show decode cX12_lamps 250 = .ok (.if_icmp .gt 6, 3) by decide +kernel) (by decide))),
  List.forall_mem_cons.mpr ⟨(xOK_pure (xs_goto (show decode cX12_lamps 253 = .ok (.goto 27, 3) by decide +kernel) (by decide))),
  List.forall_mem_cons.mpr ⟨(xOK_pure (xs_iload (show decode cX12_lamps 256 = .ok (.iload 8, 2) by decide +kernel))),
  List.forall_mem_cons.mpr ⟨(xOK_pure (xs_istore (show decode cX12_lamps 258 = .ok (.istore 4, 2) by decide +kernel) (by decide))),
  List.forall_mem_cons.mpr ⟨(xOK_pure (xs_iload (show decode cX12_lamps 260 = .ok (.iload 9, 2) by decide +kernel))),
  (fun _ h => absurd h List.not_mem_nil)⟩⟩⟩⟩⟩⟩⟩⟩⟩⟩⟩⟩⟩⟩⟩⟩⟩⟩⟩⟩
def pX12_lamps_7 (ev : xEv) : List (Nat × xEn) := [(262, .inl (xop (xf_istore 5 2))), (264, .inl (xop (xf_aload 0 1))), (265, .inl (xop (xf_getf 12 45))), (268, .inl (xop (xf_push (.int 0) 1))), (269, .inl (xop (xf_iload 6 2))), (271, .inl (xo_ast (ev.1 0) (fun x => x))), (272, .inl (xop (xf_aload 0 1))), (273, .inl (xop (xf_getf 12 45))), (276, .inl (xop (xf_push (.int 1) 1))), (277, .inl (xop (xf_iload 7 2))), (279, .inl (xo_ast (ev.1 0) (fun x => x))), (280, .inl (xop (xf_iinc 7 1))), (283, .inl (xop (xf_goto 114))), (286, .inl (xop (xf_iinc 6 1))), (289, .inl (xop (xf_goto 82))), (292, .inl (xop (xf_aload 0 1))), (293, .inl (xop (xf_iload 1 1))), (294, .inl (xo_putf 12 46 .int)), (297, .inl (xop (xf_iload 4 2))), (299, .inr (.inr 1))]
set_option maxRecDepth 20000 in
theorem okpX12_lamps_7 (ev : xEv) : ∀ q ∈ pX12_lamps_7 ev, xEnOK ev xmi yX12_lamps.cls yX12_lamps.name cX12_lamps 10 (some .int) q :=
  List.forall_mem_cons.mpr ⟨(xOK_pure (xs_istore (show decode cX12_lamps 262 = .ok (.istore 5, 2) by decide +kernel) (by decide))),
  List.forall_mem_cons.mpr ⟨(xOK_pure (xs_aload_n (k := 0) rfl (show decode cX12_lamps 264 = .ok (.aload_n 0, 1) by decide +kernel))),
  List.forall_mem_cons.mpr ⟨(xOK_pure (xs_getf xcl_12 (by decide) (show decode cX12_lamps 265 = .ok (.getfield 118, 3) by decide +kernel) xw_1754)),
  List.forall_mem_cons.mpr ⟨(xOK_pure (xs_iconst (n := 0) (show decode cX12_lamps 268 = .ok (.iconst 0, 1) by decide +kernel) (by decide))),
  List.forall_mem_cons.mpr ⟨(xOK_pure (xs_iload (show decode cX12_lamps 269 = .ok (.iload 6, 2) by decide +kernel))),
  List.forall_mem_cons.mpr ⟨(xs_iast (show decode cX12_lamps 271 = .ok (.iastore, 1) by decide +kernel)),
  List.forall_mem_cons.mpr ⟨(xOK_pure (xs_aload_n (k := 0) rfl (show decode cX12_lamps 272 = .ok (.aload_n 0, 1) by decide +kernel))),
  List.forall_mem_cons.mpr ⟨(xOK_pure (xs_getf xcl_12 (by decide) (show decode cX12_lamps 273 = .ok (.getfield 118, 3) by decide +kernel) xw_1754)),
  List.forall_mem_cons.mpr ⟨(xOK_pure (xs_iconst (n := 1) (show decode cX12_lamps 276 = .ok (.iconst 1, 1) by decide +kernel) (by decide))),
  List.forall_mem_cons.mpr ⟨(xOK_pure (xs_iload (show decode cX12_lamps 277 = .ok (.iload 7, 2) by decide +kernel))),
  List.forall_mem_cons.mpr ⟨(xs_iast (show decode cX12_lamps 279 = .ok (.iastore, 1) by decide +kernel)),
  List.forall_mem_cons.mpr ⟨(xOK_pure (xs_iinc (n := 1) (show decode cX12_lamps 280 = .ok (.iinc 7 1, 3) by decide +kernel) (by decide) (by decide))),
  List.forall_mem_cons.mpr ⟨(xOK_pure (xs_goto (show decode cX12_lamps 283 = .ok (.goto (-169), 3) by decide +kernel) (by decide))),
  List.forall_mem_cons.mpr ⟨(xOK_pure (xs_iinc (n := 1) (show decode cX12_lamps 286 = .ok (.iinc 6 1, 3) by decide +kernel) (by decide) (by decide))),
  List.forall_mem_cons.mpr ⟨(xOK_pure (xs_goto (show decode cX12_lamps 289 = .ok (.goto (-207), 3) by decide +kernel) (by decide))),
  List.forall_mem_cons.mpr ⟨(xOK_pure (xs_aload_n (k := 0) rfl (show decode cX12_lamps 292 = .ok (.aload_n 0, 1) by decide +kernel))),
  List.forall_mem_cons.mpr ⟨(xOK_pure (xs_iload_n (k := 1) rfl (show decode cX12_lamps 293 = .ok (.iload_n 1, 1) by decide +kernel))),
  List.forall_mem_cons.mpr ⟨(xs_putf (k := 46) xcl_12 (by decide) rfl (show decode cX12_lamps 294 = .ok (.putfield 398, 3) by decide +kernel) xw_1755),
  List.forall_mem_cons.mpr ⟨(xOK_pure (xs_iload (show decode cX12_lamps 297 = .ok (.iload 4, 2) by decide +kernel))),
  List.forall_mem_cons.mpr ⟨(Or.inr (Or.inl ⟨rfl, (show decode cX12_lamps 299 = .ok (.ireturn, 1) by decide +kernel), rfl⟩)),
  (fun _ h => absurd h List.not_mem_nil)⟩⟩⟩⟩⟩⟩⟩⟩⟩⟩⟩⟩⟩⟩⟩⟩⟩⟩⟩⟩
def pX12_lamps (ev : xEv) : List (Nat × xEn) := pX12_lamps_0 ev ++ (pX12_lamps_1 ev ++ (pX12_lamps_2 ev ++ (pX12_lamps_3 ev ++ (pX12_lamps_4 ev ++ (pX12_lamps_5 ev ++ (pX12_lamps_6 ev ++ (pX12_lamps_7 ev)))))))
theorem okpX12_lamps (ev : xEv) : ∀ q ∈ pX12_lamps ev, xEnOK ev xmi yX12_lamps.cls yX12_lamps.name cX12_lamps 10 (some .int) q := List.forall_mem_append.mpr ⟨okpX12_lamps_0 ev, List.forall_mem_append.mpr ⟨okpX12_lamps_1 ev, List.forall_mem_append.mpr ⟨okpX12_lamps_2 ev, List.forall_mem_append.mpr ⟨okpX12_lamps_3 ev, List.forall_mem_append.mpr ⟨okpX12_lamps_4 ev, List.forall_mem_append.mpr ⟨okpX12_lamps_5 ev, List.forall_mem_append.mpr ⟨okpX12_lamps_6 ev, okpX12_lamps_7 ev⟩⟩⟩⟩⟩⟩⟩
theorem omX12_lamps (ev : xEv) : xMethOK ev xmi yX12_lamps.cls yX12_lamps.name 297 (pX12_lamps ev) := xMethOK.of mi_297 (by decide +kernel) (okpX12_lamps ev)
def pX12_tried_0 (ev : xEv) : List (Nat × xEn) := [(0, .inl (xop (xf_aload 0 1))), (1, .inl (xop (xf_push (.int 0) 1))), (2, .inl (xo_putf 12 47 .int)), (5, .inl (xop (xf_aload 0 1))), (6, .inl (xop (xf_iload 1 1))), (7, .inr (.inl (0, 293, 1, 12))), (10, .inl (xop (xf_if_ne 15))), (13, .inl (xop (xf_push (.int (-1)) 1))), (14, .inr (.inr 1)), (15, .inl (xop (xf_aload 0 1))), (16, .inr (.inl (0, 291, 0, 12))), (19, .inl (xop (xf_aload 0 1))), (20, .inl (xop (xf_iload 1 1))), (21, .inr (.inl (0, 294, 1, 12))), (24, .inl (xop (xf_aload 0 1))), (25, .inr (.inl (0, 275, 0, 12))), (28, .inl (xop (xf_istore 2 1))), (29, .inl (xop (xf_aload 0 1))), (30, .inr (.inl (0, 292, 0, 12))), (33, .inl (xop (xf_iload 2 1)))]
set_option maxRecDepth 20000 in
theorem okpX12_tried_0 (ev : xEv) : ∀ q ∈ pX12_tried_0 ev, xEnOK ev xmi yX12_tried.cls yX12_tried.name cX12_tried 3 (some .int) q :=
  List.forall_mem_cons.mpr ⟨(xOK_pure (xs_aload_n (k := 0) rfl (show decode cX12_tried 0 = .ok (.aload_n 0, 1) by decide +kernel))),
  List.forall_mem_cons.mpr ⟨(xOK_pure (xs_iconst (n := 0) (show decode cX12_tried 1 = .ok (.iconst 0, 1) by decide +kernel) (by decide))),
  List.forall_mem_cons.mpr ⟨(xs_putf (k := 47) xcl_12 (by decide) rfl (show decode cX12_tried 2 = .ok (.putfield 140, 3) by decide +kernel) xw_1756),
  List.forall_mem_cons.mpr ⟨(xOK_pure (xs_aload_n (k := 0) rfl (show decode cX12_tried 5 = .ok (.aload_n 0, 1) by decide +kernel))),
  List.forall_mem_cons.mpr ⟨(xOK_pure (xs_iload_n (k := 1) rfl (show decode cX12_tried 6 = .ok (.iload_n 1, 1) by decide +kernel))),
  List.forall_mem_cons.mpr ⟨(xcm mi_293 ⟨⟨(by decide +kernel), (by decide +kernel), (by decide +kernel)⟩, (by decide), xw_2329, xw_125, Or.inl ⟨rfl, _, _, _, _, (show decode cX12_tried 7 = .ok (.invokevirtual 447, 3) by decide +kernel), xw_2326, xw_2328, xw_112, rfl⟩⟩),
  List.forall_mem_cons.mpr ⟨(xOK_pure (xs_if_ne (show decode cX12_tried 10 = .ok (.ifCond .ne 5, 3) by decide +kernel) (by decide))),
  List.forall_mem_cons.mpr ⟨(xOK_pure (xs_iconst (n := (-1)) (show decode cX12_tried 13 = .ok (.iconst (-1), 1) by decide +kernel) (by decide))),
  List.forall_mem_cons.mpr ⟨(Or.inr (Or.inl ⟨rfl, (show decode cX12_tried 14 = .ok (.ireturn, 1) by decide +kernel), rfl⟩)),
  List.forall_mem_cons.mpr ⟨(xOK_pure (xs_aload_n (k := 0) rfl (show decode cX12_tried 15 = .ok (.aload_n 0, 1) by decide +kernel))),
  List.forall_mem_cons.mpr ⟨(xcm mi_291 ⟨⟨(by decide +kernel), (by decide +kernel), (by decide +kernel)⟩, (by decide), xw_2333, xw_125, Or.inl ⟨rfl, _, _, _, _, (show decode cX12_tried 16 = .ok (.invokevirtual 450, 3) by decide +kernel), xw_2330, xw_2332, xw_113, rfl⟩⟩),
  List.forall_mem_cons.mpr ⟨(xOK_pure (xs_aload_n (k := 0) rfl (show decode cX12_tried 19 = .ok (.aload_n 0, 1) by decide +kernel))),
  List.forall_mem_cons.mpr ⟨(xOK_pure (xs_iload_n (k := 1) rfl (show decode cX12_tried 20 = .ok (.iload_n 1, 1) by decide +kernel))),
  List.forall_mem_cons.mpr ⟨(xcm mi_294 ⟨⟨(by decide +kernel), (by decide +kernel), (by decide +kernel)⟩, (by decide), xw_2337, xw_125, Or.inl ⟨rfl, _, _, _, _, (show decode cX12_tried 21 = .ok (.invokevirtual 453, 3) by decide +kernel), xw_2334, xw_2336, xw_114, rfl⟩⟩),
  List.forall_mem_cons.mpr ⟨(xOK_pure (xs_aload_n (k := 0) rfl (show decode cX12_tried 24 = .ok (.aload_n 0, 1) by decide +kernel))),
  List.forall_mem_cons.mpr ⟨(xcm mi_275 ⟨⟨(by decide +kernel), (by decide +kernel), (by decide +kernel)⟩, (by decide), xw_2265, xw_125, Or.inl ⟨rfl, _, _, _, _, (show decode cX12_tried 25 = .ok (.invokevirtual 407, 3) by decide +kernel), xw_2262, xw_2264, xw_104, rfl⟩⟩),
  List.forall_mem_cons.mpr ⟨(xOK_pure (xs_istore_n (k := 2) rfl (show decode cX12_tried 28 = .ok (.istore_n 2, 1) by decide +kernel) (by decide))),
  List.forall_mem_cons.mpr ⟨(xOK_pure (xs_aload_n (k := 0) rfl (show decode cX12_tried 29 = .ok (.aload_n 0, 1) by decide +kernel))),
  List.forall_mem_cons.mpr ⟨(xcm mi_292 ⟨⟨(by decide +kernel), (by decide +kernel), (by decide +kernel)⟩, (by decide), xw_2341, xw_125, Or.inl ⟨rfl, _, _, _, _, (show decode cX12_tried 30 = .ok (.invokevirtual 456, 3) by decide +kernel), xw_2338, xw_2340, xw_115, rfl⟩⟩),
  List.forall_mem_cons.mpr ⟨(xOK_pure (xs_iload_n (k := 2) rfl (show decode cX12_tried 33 = .ok (.iload_n 2, 1) by decide +kernel))),
  (fun _ h => absurd h List.not_mem_nil)⟩⟩⟩⟩⟩⟩⟩⟩⟩⟩⟩⟩⟩⟩⟩⟩⟩⟩⟩⟩
def pX12_tried_1 (ev : xEv) : List (Nat × xEn) := [(34, .inr (.inr 1))]
set_option maxRecDepth 20000 in
theorem okpX12_tried_1 (ev : xEv) : ∀ q ∈ pX12_tried_1 ev, xEnOK ev xmi yX12_tried.cls yX12_tried.name cX12_tried 3 (some .int) q :=
  List.forall_mem_cons.mpr ⟨(Or.inr (Or.inl ⟨rfl, (show decode cX12_tried 34 = .ok (.ireturn, 1) by decide +kernel), rfl⟩)),
  (fun _ h => absurd h List.not_mem_nil)⟩
def pX12_tried (ev : xEv) : List (Nat × xEn) := pX12_tried_0 ev ++ (pX12_tried_1 ev)
theorem okpX12_tried (ev : xEv) : ∀ q ∈ pX12_tried ev, xEnOK ev xmi yX12_tried.cls yX12_tried.name cX12_tried 3 (some .int) q := List.forall_mem_append.mpr ⟨okpX12_tried_0 ev, okpX12_tried_1 ev⟩
theorem omX12_tried (ev : xEv) : xMethOK ev xmi yX12_tried.cls yX12_tried.name 298 (pX12_tried ev) := xMethOK.of mi_298 (by decide +kernel) (okpX12_tried ev)
def pX12_row (ev : xEv) : List (Nat × xEn) := [(0, .inl (xop (xf_aload 0 1))), (1, .inl (xop (xf_push (.int 0) 1))), (2, .inl (xo_putf 12 47 .int)), (5, .inl (xop (xf_iload 1 1))), (6, .inl (xop (xf_push (.int 0) 1))), (7, .inl (xop (xf_aload 0 1))), (8, .inl (xop (xf_getf 12 46))), (11, .inl (xop (xf_push (.int 1) 1))), (12, .inl (xop (xf_bin (fun x y => x - y)))), (13, .inr (.inl (1, 188, 3, 12))), (16, .inl (xop (xf_if_eq 28))), (19, .inl (xop (xf_aload 0 1))), (20, .inl (xop (xf_getf 12 45))), (23, .inl (xop (xf_iload 1 1))), (24, .inl (xop (xf_ald (ev.1 0)))), (25, .inl (xop (xf_goto 32))), (28, .inl (xop (xf_aload 0 1))), (29, .inr (.inl (0, 189, 0, 12))), (32, .inr (.inr 1))]
set_option maxRecDepth 20000 in
theorem okpX12_row (ev : xEv) : ∀ q ∈ pX12_row ev, xEnOK ev xmi yX12_row.cls yX12_row.name cX12_row 2 (some .int) q :=
  List.forall_mem_cons.mpr ⟨(xOK_pure (xs_aload_n (k := 0) rfl (show decode cX12_row 0 = .ok (.aload_n 0, 1) by decide +kernel))),
  List.forall_mem_cons.mpr ⟨(xOK_pure (xs_iconst (n := 0) (show decode cX12_row 1 = .ok (.iconst 0, 1) by decide +kernel) (by decide))),
  List.forall_mem_cons.mpr ⟨(xs_putf (k := 47) xcl_12 (by decide) rfl (show decode cX12_row 2 = .ok (.putfield 140, 3) by decide +kernel) xw_1756),
  List.forall_mem_cons.mpr ⟨(xOK_pure (xs_iload_n (k := 1) rfl (show decode cX12_row 5 = .ok (.iload_n 1, 1) by decide +kernel))),
  List.forall_mem_cons.mpr ⟨(xOK_pure (xs_iconst (n := 0) (show decode cX12_row 6 = .ok (.iconst 0, 1) by decide +kernel) (by decide))),
  List.forall_mem_cons.mpr ⟨(xOK_pure (xs_aload_n (k := 0) rfl (show decode cX12_row 7 = .ok (.aload_n 0, 1) by decide +kernel))),
  List.forall_mem_cons.mpr ⟨(xOK_pure (xs_getf xcl_12 (by decide) (show decode cX12_row 8 = .ok (.getfield 398, 3) by decide +kernel) xw_1755)),
  List.forall_mem_cons.mpr ⟨(xOK_pure (xs_iconst (n := 1) (show decode cX12_row 11 = .ok (.iconst 1, 1) by decide +kernel) (by decide))),
  List.forall_mem_cons.mpr ⟨(xOK_pure (xs_isub (show decode cX12_row 12 = .ok (.isub, 1) by decide +kernel))),
  List.forall_mem_cons.mpr ⟨(xcm mi_188 ⟨⟨(by decide +kernel), (by decide +kernel), (by decide +kernel)⟩, (by decide), xw_1912, xw_125, Or.inr (Or.inl ⟨rfl, _, (show decode cX12_row 13 = .ok (.invokestatic 146, 3) by decide +kernel), xw_1910, xw_1911⟩)⟩),
  List.forall_mem_cons.mpr ⟨(xOK_pure (xs_if_eq (show decode cX12_row 16 = .ok (.ifCond .eq 12, 3) by decide +kernel) (by decide))),
  List.forall_mem_cons.mpr ⟨(xOK_pure (xs_aload_n (k := 0) rfl (show decode cX12_row 19 = .ok (.aload_n 0, 1) by decide +kernel))),
  List.forall_mem_cons.mpr ⟨(xOK_pure (xs_getf xcl_12 (by decide) (show decode cX12_row 20 = .ok (.getfield 118, 3) by decide +kernel) xw_1754)),
  List.forall_mem_cons.mpr ⟨(xOK_pure (xs_iload_n (k := 1) rfl (show decode cX12_row 23 = .ok (.iload_n 1, 1) by decide +kernel))),
  List.forall_mem_cons.mpr ⟨(xOK_pure (xs_iald (show decode cX12_row 24 = .ok (.iaload, 1) by decide +kernel))),
  List.forall_mem_cons.mpr ⟨(xOK_pure (xs_goto (show decode cX12_row 25 = .ok (.goto 7, 3) by decide +kernel) (by decide))),
  List.forall_mem_cons.mpr ⟨(xOK_pure (xs_aload_n (k := 0) rfl (show decode cX12_row 28 = .ok (.aload_n 0, 1) by decide +kernel))),
  List.forall_mem_cons.mpr ⟨(xcm mi_189 ⟨⟨(by decide +kernel), (by decide +kernel), (by decide +kernel)⟩, (by decide), xw_1949, xw_125, Or.inl ⟨rfl, _, _, _, _, (show decode cX12_row 29 = .ok (.invokevirtual 181, 3) by decide +kernel), xw_1946, xw_1948, xw_54, rfl⟩⟩),
  List.forall_mem_cons.mpr ⟨(Or.inr (Or.inl ⟨rfl, (show decode cX12_row 32 = .ok (.ireturn, 1) by decide +kernel), rfl⟩)),
  (fun _ h => absurd h List.not_mem_nil)⟩⟩⟩⟩⟩⟩⟩⟩⟩⟩⟩⟩⟩⟩⟩⟩⟩⟩⟩
theorem omX12_row (ev : xEv) : xMethOK ev xmi yX12_row.cls yX12_row.name 299 (pX12_row ev) := xMethOK.of mi_299 (by decide +kernel) (okpX12_row ev)
def pJ0_length_8abf5 (ev : xEv) : List (Nat × xEn) := [(0, .inl (xop (xf_aload 0 1))), (1, .inr (.inl (5, 1, 0, 99))), (4, .inr (.inl (5, 2, 0, 99))), (5, .inl (xop (xf_aload 0 1))), (6, .inr (.inl (4, 304, 0, 99))), (9, .inl (xop (xf_bin (fun x y => x >>> (y &&& 31))))), (10, .inr (.inr 1))]
set_option maxRecDepth 20000 in
theorem okpJ0_length_8abf5 (ev : xEv) : ∀ q ∈ pJ0_length_8abf5 ev, xEnOK ev xmi yJ0_length_8abf5.cls yJ0_length_8abf5.name cJ0_length_8abf5 1 (some .int) q :=
  List.forall_mem_cons.mpr ⟨(xOK_pure (xs_aload_n (k := 0) rfl (show decode cJ0_length_8abf5 0 = .ok (.aload_n 0, 1) by decide +kernel))),
  List.forall_mem_cons.mpr ⟨(Or.inl ⟨rfl, xs_strV (show decode cJ0_length_8abf5 1 = .ok (.getfield 9, 3) by decide +kernel) xw_2377⟩),
  List.forall_mem_cons.mpr ⟨(Or.inl ⟨rfl, xs_strL (show decode cJ0_length_8abf5 4 = .ok (.arraylength, 1) by decide +kernel)⟩),
  List.forall_mem_cons.mpr ⟨(xOK_pure (xs_aload_n (k := 0) rfl (show decode cJ0_length_8abf5 5 = .ok (.aload_n 0, 1) by decide +kernel))),
  List.forall_mem_cons.mpr ⟨(xcm mi_304 ⟨⟨(by decide +kernel), (by decide +kernel), (by decide +kernel)⟩, (by decide), xw_911, xw_135, Or.inr (Or.inr (Or.inr (Or.inr ⟨rfl, _, (show decode cJ0_length_8abf5 6 = .ok (.invokevirtual 335, 3) by decide +kernel), xw_908, xw_909, xw_910⟩)))⟩),
  List.forall_mem_cons.mpr ⟨(xOK_pure (xs_ishr (show decode cJ0_length_8abf5 9 = .ok (.ishr, 1) by decide +kernel))),
  List.forall_mem_cons.mpr ⟨(Or.inr (Or.inl ⟨rfl, (show decode cJ0_length_8abf5 10 = .ok (.ireturn, 1) by decide +kernel), rfl⟩)),
  (fun _ h => absurd h List.not_mem_nil)⟩⟩⟩⟩⟩⟩⟩
theorem omJ0_length_8abf5 (ev : xEv) : xMethOK ev xmi yJ0_length_8abf5.cls yJ0_length_8abf5.name 301 (pJ0_length_8abf5 ev) := xMethOK.of mi_301 (by decide +kernel) (okpJ0_length_8abf5 ev)
def pJ0_indexOf_0f7a4 (ev : xEv) : List (Nat × xEn) := [(0, .inl (xop (xf_aload 0 1))), (1, .inl (xop (xf_iload 1 1))), (2, .inl (xop (xf_push (.int 0) 1))), (3, .inr (.inl (4, 303, 2, 99))), (6, .inr (.inr 1))]
set_option maxRecDepth 20000 in
theorem okpJ0_indexOf_0f7a4 (ev : xEv) : ∀ q ∈ pJ0_indexOf_0f7a4 ev, xEnOK ev xmi yJ0_indexOf_0f7a4.cls yJ0_indexOf_0f7a4.name cJ0_indexOf_0f7a4 2 (some .int) q :=
  List.forall_mem_cons.mpr ⟨(xOK_pure (xs_aload_n (k := 0) rfl (show decode cJ0_indexOf_0f7a4 0 = .ok (.aload_n 0, 1) by decide +kernel))),
  List.forall_mem_cons.mpr ⟨(xOK_pure (xs_iload_n (k := 1) rfl (show decode cJ0_indexOf_0f7a4 1 = .ok (.iload_n 1, 1) by decide +kernel))),
  List.forall_mem_cons.mpr ⟨(xOK_pure (xs_iconst (n := 0) (show decode cJ0_indexOf_0f7a4 2 = .ok (.iconst 0, 1) by decide +kernel) (by decide))),
  List.forall_mem_cons.mpr ⟨(xcm mi_303 ⟨⟨(by decide +kernel), (by decide +kernel), (by decide +kernel)⟩, (by decide), xw_897, xw_135, Or.inr (Or.inr (Or.inr (Or.inr ⟨rfl, _, (show decode cJ0_indexOf_0f7a4 3 = .ok (.invokevirtual 633, 3) by decide +kernel), xw_894, xw_895, xw_896⟩)))⟩),
  List.forall_mem_cons.mpr ⟨(Or.inr (Or.inl ⟨rfl, (show decode cJ0_indexOf_0f7a4 6 = .ok (.ireturn, 1) by decide +kernel), rfl⟩)),
  (fun _ h => absurd h List.not_mem_nil)⟩⟩⟩⟩⟩
theorem omJ0_indexOf_0f7a4 (ev : xEv) : xMethOK ev xmi yJ0_indexOf_0f7a4.cls yJ0_indexOf_0f7a4.name 302 (pJ0_indexOf_0f7a4 ev) := xMethOK.of mi_302 (by decide +kernel) (okpJ0_indexOf_0f7a4 ev)
def pJ0_indexOf_7cf53 (ev : xEv) : List (Nat × xEn) := [(0, .inl (xop (xf_aload 0 1))), (1, .inr (.inl (4, 305, 0, 99))), (4, .inl (xop (xf_if_eq 23))), (7, .inl (xop (xf_aload 0 1))), (8, .inr (.inl (5, 1, 0, 99))), (11, .inl (xop (xf_iload 1 1))), (12, .inl (xop (xf_iload 2 1))), (13, .inl (xop (xf_aload 0 1))), (14, .inr (.inl (4, 301, 0, 99))), (17, .inr (.inl (1, 307, 4, 99))), (20, .inl (xop (xf_goto 36))), (23, .inl (xop (xf_aload 0 1))), (24, .inr (.inl (5, 1, 0, 99))), (27, .inl (xop (xf_iload 1 1))), (28, .inl (xop (xf_iload 2 1))), (29, .inl (xop (xf_aload 0 1))), (30, .inr (.inl (4, 301, 0, 99))), (33, .inl (xop xf_none)), (36, .inr (.inr 1))]
set_option maxRecDepth 20000 in
theorem okpJ0_indexOf_7cf53 (ev : xEv) : ∀ q ∈ pJ0_indexOf_7cf53 ev, xEnOK ev xmi yJ0_indexOf_7cf53.cls yJ0_indexOf_7cf53.name cJ0_indexOf_7cf53 3 (some .int) q :=
  List.forall_mem_cons.mpr ⟨(xOK_pure (xs_aload_n (k := 0) rfl (show decode cJ0_indexOf_7cf53 0 = .ok (.aload_n 0, 1) by decide +kernel))),
  List.forall_mem_cons.mpr ⟨(xcm mi_305 ⟨⟨(by decide +kernel), (by decide +kernel), (by decide +kernel)⟩, (by decide), xw_901, xw_135, Or.inr (Or.inr (Or.inr (Or.inr ⟨rfl, _, (show decode cJ0_indexOf_7cf53 1 = .ok (.invokevirtual 492, 3) by decide +kernel), xw_898, xw_899, xw_900⟩)))⟩),
  List.forall_mem_cons.mpr ⟨(xOK_pure (xs_if_eq (show decode cJ0_indexOf_7cf53 4 = .ok (.ifCond .eq 19, 3) by decide +kernel) (by decide))),
  List.forall_mem_cons.mpr ⟨(xOK_pure (xs_aload_n (k := 0) rfl (show decode cJ0_indexOf_7cf53 7 = .ok (.aload_n 0, 1) by decide +kernel))),
  List.forall_mem_cons.mpr ⟨(Or.inl ⟨rfl, xs_strV (show decode cJ0_indexOf_7cf53 8 = .ok (.getfield 9, 3) by decide +kernel) xw_2377⟩),
  List.forall_mem_cons.mpr ⟨(xOK_pure (xs_iload_n (k := 1) rfl (show decode cJ0_indexOf_7cf53 11 = .ok (.iload_n 1, 1) by decide +kernel))),
  List.forall_mem_cons.mpr ⟨(xOK_pure (xs_iload_n (k := 2) rfl (show decode cJ0_indexOf_7cf53 12 = .ok (.iload_n 2, 1) by decide +kernel))),
  List.forall_mem_cons.mpr ⟨(xOK_pure (xs_aload_n (k := 0) rfl (show decode cJ0_indexOf_7cf53 13 = .ok (.aload_n 0, 1) by decide +kernel))),
  List.forall_mem_cons.mpr ⟨(xcm mi_301 ⟨⟨(by decide +kernel), (by decide +kernel), (by decide +kernel)⟩, (by decide), xw_907, xw_135, Or.inr (Or.inr (Or.inr (Or.inr ⟨rfl, _, (show decode cJ0_indexOf_7cf53 14 = .ok (.invokevirtual 505, 3) by decide +kernel), xw_904, xw_905, xw_906⟩)))⟩),
  List.forall_mem_cons.mpr ⟨(xcm mi_307 ⟨⟨(by decide +kernel), (by decide +kernel), (by decide +kernel)⟩, (by decide), xw_914, xw_136, Or.inr (Or.inl ⟨rfl, _, (show decode cJ0_indexOf_7cf53 17 = .ok (.invokestatic 637, 3) by decide +kernel), xw_912, xw_913⟩)⟩),
  List.forall_mem_cons.mpr ⟨(xOK_pure (xs_goto (show decode cJ0_indexOf_7cf53 20 = .ok (.goto 16, 3) by decide +kernel) (by decide))),
  List.forall_mem_cons.mpr ⟨(xOK_pure (xs_aload_n (k := 0) rfl (show decode cJ0_indexOf_7cf53 23 = .ok (.aload_n 0, 1) by decide +kernel))),
  List.forall_mem_cons.mpr ⟨(Or.inl ⟨rfl, xs_strV (show decode cJ0_indexOf_7cf53 24 = .ok (.getfield 9, 3) by decide +kernel) xw_2377⟩),
  List.forall_mem_cons.mpr ⟨(xOK_pure (xs_iload_n (k := 1) rfl (show decode cJ0_indexOf_7cf53 27 = .ok (.iload_n 1, 1) by decide +kernel))),
  List.forall_mem_cons.mpr ⟨(xOK_pure (xs_iload_n (k := 2) rfl (show decode cJ0_indexOf_7cf53 28 = .ok (.iload_n 2, 1) by decide +kernel))),
  List.forall_mem_cons.mpr ⟨(xOK_pure (xs_aload_n (k := 0) rfl (show decode cJ0_indexOf_7cf53 29 = .ok (.aload_n 0, 1) by decide +kernel))),
  List.forall_mem_cons.mpr ⟨(xcm mi_301 ⟨⟨(by decide +kernel), (by decide +kernel), (by decide +kernel)⟩, (by decide), xw_907, xw_135, Or.inr (Or.inr (Or.inr (Or.inr ⟨rfl, _, (show decode cJ0_indexOf_7cf53 30 = .ok (.invokevirtual 505, 3) by decide +kernel), xw_904, xw_905, xw_906⟩)))⟩),
  List.forall_mem_cons.mpr ⟨(xOK_pure xs_none),
  List.forall_mem_cons.mpr ⟨(Or.inr (Or.inl ⟨rfl, (show decode cJ0_indexOf_7cf53 36 = .ok (.ireturn, 1) by decide +kernel), rfl⟩)),
  (fun _ h => absurd h List.not_mem_nil)⟩⟩⟩⟩⟩⟩⟩⟩⟩⟩⟩⟩⟩⟩⟩⟩⟩⟩⟩
theorem omJ0_indexOf_7cf53 (ev : xEv) : xMethOK ev xmi yJ0_indexOf_7cf53.cls yJ0_indexOf_7cf53.name 303 (pJ0_indexOf_7cf53 ev) := xMethOK.of mi_303 (by decide +kernel) (okpJ0_indexOf_7cf53 ev)
def pJ0_coder_7d493 (ev : xEv) : List (Nat × xEn) := [(0, .inl (xop (xf_push (.int 1) 3))), (3, .inl (xop (xf_if_eq 13))), (6, .inl (xop (xf_aload 0 1))), (7, .inr (.inl (5, 0, 0, 99))), (10, .inl (xop (xf_goto 14))), (13, .inl (xop (xf_push (.int 1) 1))), (14, .inr (.inr 5))]
set_option maxRecDepth 20000 in
theorem okpJ0_coder_7d493 (ev : xEv) : ∀ q ∈ pJ0_coder_7d493 ev, xEnOK ev xmi yJ0_coder_7d493.cls yJ0_coder_7d493.name cJ0_coder_7d493 1 (some .byte) q :=
  List.forall_mem_cons.mpr ⟨(xOK_pure (xs_compact (show decode cJ0_coder_7d493 0 = .ok (.getstatic 38, 3) by decide +kernel) xw_902)),
  List.forall_mem_cons.mpr ⟨(xOK_pure (xs_if_eq (show decode cJ0_coder_7d493 3 = .ok (.ifCond .eq 10, 3) by decide +kernel) (by decide))),
  List.forall_mem_cons.mpr ⟨(xOK_pure (xs_aload_n (k := 0) rfl (show decode cJ0_coder_7d493 6 = .ok (.aload_n 0, 1) by decide +kernel))),
  List.forall_mem_cons.mpr ⟨(Or.inl ⟨rfl, xs_strC (show decode cJ0_coder_7d493 7 = .ok (.getfield 15, 3) by decide +kernel) xw_2376⟩),
  List.forall_mem_cons.mpr ⟨(xOK_pure (xs_goto (show decode cJ0_coder_7d493 10 = .ok (.goto 4, 3) by decide +kernel) (by decide))),
  List.forall_mem_cons.mpr ⟨(xOK_pure (xs_iconst (n := 1) (show decode cJ0_coder_7d493 13 = .ok (.iconst 1, 1) by decide +kernel) (by decide))),
  List.forall_mem_cons.mpr ⟨(Or.inr (Or.inr (Or.inr (Or.inr (Or.inr ⟨rfl, (show decode cJ0_coder_7d493 14 = .ok (.ireturn, 1) by decide +kernel), rfl⟩))))),
  (fun _ h => absurd h List.not_mem_nil)⟩⟩⟩⟩⟩⟩⟩
theorem omJ0_coder_7d493 (ev : xEv) : xMethOK ev xmi yJ0_coder_7d493.cls yJ0_coder_7d493.name 304 (pJ0_coder_7d493 ev) := xMethOK.of mi_304 (by decide +kernel) (okpJ0_coder_7d493 ev)
def pJ0_isLatin1_aae02 (ev : xEv) : List (Nat × xEn) := [(0, .inl (xop (xf_push (.int 1) 3))), (3, .inl (xop (xf_if_eq 17))), (6, .inl (xop (xf_aload 0 1))), (7, .inr (.inl (5, 0, 0, 99))), (10, .inl (xop (xf_if_ne 17))), (13, .inl (xop (xf_push (.int 1) 1))), (14, .inl (xop (xf_goto 18))), (17, .inl (xop (xf_push (.int 0) 1))), (18, .inr (.inr 4))]
set_option maxRecDepth 20000 in
theorem okpJ0_isLatin1_aae02 (ev : xEv) : ∀ q ∈ pJ0_isLatin1_aae02 ev, xEnOK ev xmi yJ0_isLatin1_aae02.cls yJ0_isLatin1_aae02.name cJ0_isLatin1_aae02 1 (some .boolean) q :=
  List.forall_mem_cons.mpr ⟨(xOK_pure (xs_compact (show decode cJ0_isLatin1_aae02 0 = .ok (.getstatic 38, 3) by decide +kernel) xw_902)),
  List.forall_mem_cons.mpr ⟨(xOK_pure (xs_if_eq (show decode cJ0_isLatin1_aae02 3 = .ok (.ifCond .eq 14, 3) by decide +kernel) (by decide))),
  List.forall_mem_cons.mpr ⟨(xOK_pure (xs_aload_n (k := 0) rfl (show decode cJ0_isLatin1_aae02 6 = .ok (.aload_n 0, 1) by decide +kernel))),
  List.forall_mem_cons.mpr ⟨(Or.inl ⟨rfl, xs_strC (show decode cJ0_isLatin1_aae02 7 = .ok (.getfield 15, 3) by decide +kernel) xw_2376⟩),
  List.forall_mem_cons.mpr ⟨(xOK_pure (xs_if_ne (show decode cJ0_isLatin1_aae02 10 = .ok (.ifCond .ne 7, 3) by decide +kernel) (by decide))),
  List.forall_mem_cons.mpr ⟨(xOK_pure (xs_iconst (n := 1) (show decode cJ0_isLatin1_aae02 13 = .ok (.iconst 1, 1) by decide +kernel) (by decide))),
  List.forall_mem_cons.mpr ⟨(xOK_pure (xs_goto (show decode cJ0_isLatin1_aae02 14 = .ok (.goto 4, 3) by decide +kernel) (by decide))),
  List.forall_mem_cons.mpr ⟨(xOK_pure (xs_iconst (n := 0) (show decode cJ0_isLatin1_aae02 17 = .ok (.iconst 0, 1) by decide +kernel) (by decide))),
  List.forall_mem_cons.mpr ⟨(Or.inr (Or.inr (Or.inr (Or.inr (Or.inl ⟨rfl, (show decode cJ0_isLatin1_aae02 18 = .ok (.ireturn, 1) by decide +kernel), rfl⟩))))),
  (fun _ h => absurd h List.not_mem_nil)⟩⟩⟩⟩⟩⟩⟩⟩⟩
theorem omJ0_isLatin1_aae02 (ev : xEv) : xMethOK ev xmi yJ0_isLatin1_aae02.cls yJ0_isLatin1_aae02.name 305 (pJ0_isLatin1_aae02 ev) := xMethOK.of mi_305 (by decide +kernel) (okpJ0_isLatin1_aae02 ev)
def pJ1_canEncode_9a6ad (ev : xEv) : List (Nat × xEn) := [(0, .inl (xop (xf_iload 0 1))), (1, .inl (xop (xf_if_lt 15))), (4, .inl (xop (xf_iload 0 1))), (5, .inl (xop (xf_push (.int 255) 3))), (8, .inl (xop (xf_icmp_gt 15))), (11, .inl (xop (xf_push (.int 1) 1))), (12, .inl (xop (xf_goto 16))), (15, .inl (xop (xf_push (.int 0) 1))), (16, .inr (.inr 4))]
set_option maxRecDepth 20000 in
theorem okpJ1_canEncode_9a6ad (ev : xEv) : ∀ q ∈ pJ1_canEncode_9a6ad ev, xEnOK ev xmi yJ1_canEncode_9a6ad.cls yJ1_canEncode_9a6ad.name cJ1_canEncode_9a6ad 1 (some .boolean) q :=
  List.forall_mem_cons.mpr ⟨(xOK_pure (xs_iload_n (k := 0) rfl (show decode cJ1_canEncode_9a6ad 0 = .ok (.iload_n 0, 1) by decide +kernel))),
  List.forall_mem_cons.mpr ⟨(xOK_pure (xs_if_lt (show decode cJ1_canEncode_9a6ad 1 = .ok (.ifCond .lt 14, 3) by decide +kernel) (by decide))),
  List.forall_mem_cons.mpr ⟨(xOK_pure (xs_iload_n (k := 0) rfl (show decode cJ1_canEncode_9a6ad 4 = .ok (.iload_n 0, 1) by decide +kernel))),
  List.forall_mem_cons.mpr ⟨(xOK_pure (xs_sipush (n := 255) (show decode cJ1_canEncode_9a6ad 5 = .ok (.sipush 255, 3) by decide +kernel) (by decide))),
  List.forall_mem_cons.mpr ⟨(xOK_pure (xs_icmp_gt (show decode cJ1_canEncode_9a6ad 8 = .ok (.if_icmp .gt 7, 3) by decide +kernel) (by decide))),
  List.forall_mem_cons.mpr ⟨(xOK_pure (xs_iconst (n := 1) (show decode cJ1_canEncode_9a6ad 11 = .ok (.iconst 1, 1) by decide +kernel) (by decide))),
  List.forall_mem_cons.mpr ⟨(xOK_pure (xs_goto (show decode cJ1_canEncode_9a6ad 12 = .ok (.goto 4, 3) by decide +kernel) (by decide))),
  List.forall_mem_cons.mpr ⟨(xOK_pure (xs_iconst (n := 0) (show decode cJ1_canEncode_9a6ad 15 = .ok (.iconst 0, 1) by decide +kernel) (by decide))),
  List.forall_mem_cons.mpr ⟨(Or.inr (Or.inr (Or.inr (Or.inr (Or.inl ⟨rfl, (show decode cJ1_canEncode_9a6ad 16 = .ok (.ireturn, 1) by decide +kernel), rfl⟩))))),
  (fun _ h => absurd h List.not_mem_nil)⟩⟩⟩⟩⟩⟩⟩⟩⟩
theorem omJ1_canEncode_9a6ad (ev : xEv) : xMethOK ev xmi yJ1_canEncode_9a6ad.cls yJ1_canEncode_9a6ad.name 306 (pJ1_canEncode_9a6ad ev) := xMethOK.of mi_306 (by decide +kernel) (okpJ1_canEncode_9a6ad ev)
def pJ1_indexOf_4cfef_0 (ev : xEv) : List (Nat × xEn) := [(0, .inl (xop (xf_iload 1 1))), (1, .inr (.inl (1, 306, 1, 99))), (4, .inl (xop (xf_if_ne 9))), (7, .inl (xop (xf_push (.int (-1)) 1))), (8, .inr (.inr 1)), (9, .inl (xop (xf_iload 2 1))), (10, .inl (xop (xf_push (.int 0) 1))), (11, .inl (xop (xf_m2 (fun x y => if x < y then y else x)))), (14, .inl (xop (xf_istore 2 1))), (15, .inl (xop (xf_iload 3 1))), (16, .inl (xop (xf_aload 0 1))), (17, .inr (.inl (5, 2, 0, 99))), (18, .inl (xop (xf_m2 (fun x y => if y < x then y else x)))), (21, .inl (xop (xf_istore 3 1))), (22, .inl (xop (xf_iload 2 1))), (23, .inl (xop (xf_iload 3 1))), (24, .inl (xop (xf_icmp_lt 29))), (27, .inl (xop (xf_push (.int (-1)) 1))), (28, .inr (.inr 1)), (29, .inl (xop (xf_aload 0 1)))]
set_option maxRecDepth 20000 in
theorem okpJ1_indexOf_4cfef_0 (ev : xEv) : ∀ q ∈ pJ1_indexOf_4cfef_0 ev, xEnOK ev xmi yJ1_indexOf_4cfef.cls yJ1_indexOf_4cfef.name cJ1_indexOf_4cfef 4 (some .int) q :=
  List.forall_mem_cons.mpr ⟨(xOK_pure (xs_iload_n (k := 1) rfl (show decode cJ1_indexOf_4cfef 0 = .ok (.iload_n 1, 1) by decide +kernel))),
  List.forall_mem_cons.mpr ⟨(xcm mi_306 ⟨⟨(by decide +kernel), (by decide +kernel), (by decide +kernel)⟩, (by decide), xw_917, xw_136, Or.inr (Or.inl ⟨rfl, _, (show decode cJ1_indexOf_4cfef 1 = .ok (.invokestatic 88, 3) by decide +kernel), xw_915, xw_916⟩)⟩),
  List.forall_mem_cons.mpr ⟨(xOK_pure (xs_if_ne (show decode cJ1_indexOf_4cfef 4 = .ok (.ifCond .ne 5, 3) by decide +kernel) (by decide))),
  List.forall_mem_cons.mpr ⟨(xOK_pure (xs_iconst (n := (-1)) (show decode cJ1_indexOf_4cfef 7 = .ok (.iconst (-1), 1) by decide +kernel) (by decide))),
  List.forall_mem_cons.mpr ⟨(Or.inr (Or.inl ⟨rfl, (show decode cJ1_indexOf_4cfef 8 = .ok (.ireturn, 1) by decide +kernel), rfl⟩)),
  List.forall_mem_cons.mpr ⟨(xOK_pure (xs_iload_n (k := 2) rfl (show decode cJ1_indexOf_4cfef 9 = .ok (.iload_n 2, 1) by decide +kernel))),
  List.forall_mem_cons.mpr ⟨(xOK_pure (xs_iconst (n := 0) (show decode cJ1_indexOf_4cfef 10 = .ok (.iconst 0, 1) by decide +kernel) (by decide))),
  List.forall_mem_cons.mpr ⟨(xOK_pure (xs_mmax (show decode cJ1_indexOf_4cfef 11 = .ok (.invokestatic 92, 3) by decide +kernel) xw_918 xw_829 xw_127 xw_830)),
  List.forall_mem_cons.mpr ⟨(xOK_pure (xs_istore_n (k := 2) rfl (show decode cJ1_indexOf_4cfef 14 = .ok (.istore_n 2, 1) by decide +kernel) (by decide))),
  List.forall_mem_cons.mpr ⟨(xOK_pure (xs_iload_n (k := 3) rfl (show decode cJ1_indexOf_4cfef 15 = .ok (.iload_n 3, 1) by decide +kernel))),
  List.forall_mem_cons.mpr ⟨(xOK_pure (xs_aload_n (k := 0) rfl (show decode cJ1_indexOf_4cfef 16 = .ok (.aload_n 0, 1) by decide +kernel))),
  List.forall_mem_cons.mpr ⟨(Or.inl ⟨rfl, xs_strL (show decode cJ1_indexOf_4cfef 17 = .ok (.arraylength, 1) by decide +kernel)⟩),
  List.forall_mem_cons.mpr ⟨(xOK_pure (xs_mmin (show decode cJ1_indexOf_4cfef 18 = .ok (.invokestatic 38, 3) by decide +kernel) xw_919 xw_541 xw_127 xw_542)),
  List.forall_mem_cons.mpr ⟨(xOK_pure (xs_istore_n (k := 3) rfl (show decode cJ1_indexOf_4cfef 21 = .ok (.istore_n 3, 1) by decide +kernel) (by decide))),
  List.forall_mem_cons.mpr ⟨(xOK_pure (xs_iload_n (k := 2) rfl (show decode cJ1_indexOf_4cfef 22 = .ok (.iload_n 2, 1) by decide +kernel))),
  List.forall_mem_cons.mpr ⟨(xOK_pure (xs_iload_n (k := 3) rfl (show decode cJ1_indexOf_4cfef 23 = .ok (.iload_n 3, 1) by decide +kernel))),
  List.forall_mem_cons.mpr ⟨(xOK_pure (xs_icmp_lt (show decode cJ1_indexOf_4cfef 24 = .ok (.if_icmp .lt 5, 3) by decide +kernel) (by decide))),
  List.forall_mem_cons.mpr ⟨(xOK_pure (xs_iconst (n := (-1)) (show decode cJ1_indexOf_4cfef 27 = .ok (.iconst (-1), 1) by decide +kernel) (by decide))),
  List.forall_mem_cons.mpr ⟨(Or.inr (Or.inl ⟨rfl, (show decode cJ1_indexOf_4cfef 28 = .ok (.ireturn, 1) by decide +kernel), rfl⟩)),
  List.forall_mem_cons.mpr ⟨(xOK_pure (xs_aload_n (k := 0) rfl (show decode cJ1_indexOf_4cfef 29 = .ok (.aload_n 0, 1) by decide +kernel))),
  (fun _ h => absurd h List.not_mem_nil)⟩⟩⟩⟩⟩⟩⟩⟩⟩⟩⟩⟩⟩⟩⟩⟩⟩⟩⟩⟩
def pJ1_indexOf_4cfef_1 (ev : xEv) : List (Nat × xEn) := [(30, .inl (xop (xf_iload 1 1))), (31, .inl (xop (xf_iload 2 1))), (32, .inl (xop (xf_iload 3 1))), (33, .inr (.inl (1, 308, 4, 99))), (36, .inr (.inr 1))]
set_option maxRecDepth 20000 in
theorem okpJ1_indexOf_4cfef_1 (ev : xEv) : ∀ q ∈ pJ1_indexOf_4cfef_1 ev, xEnOK ev xmi yJ1_indexOf_4cfef.cls yJ1_indexOf_4cfef.name cJ1_indexOf_4cfef 4 (some .int) q :=
  List.forall_mem_cons.mpr ⟨(xOK_pure (xs_iload_n (k := 1) rfl (show decode cJ1_indexOf_4cfef 30 = .ok (.iload_n 1, 1) by decide +kernel))),
  List.forall_mem_cons.mpr ⟨(xOK_pure (xs_iload_n (k := 2) rfl (show decode cJ1_indexOf_4cfef 31 = .ok (.iload_n 2, 1) by decide +kernel))),
  List.forall_mem_cons.mpr ⟨(xOK_pure (xs_iload_n (k := 3) rfl (show decode cJ1_indexOf_4cfef 32 = .ok (.iload_n 3, 1) by decide +kernel))),
  List.forall_mem_cons.mpr ⟨(xcm mi_308 ⟨⟨(by decide +kernel), (by decide +kernel), (by decide +kernel)⟩, (by decide), xw_922, xw_136, Or.inr (Or.inl ⟨rfl, _, (show decode cJ1_indexOf_4cfef 33 = .ok (.invokestatic 95, 3) by decide +kernel), xw_920, xw_921⟩)⟩),
  List.forall_mem_cons.mpr ⟨(Or.inr (Or.inl ⟨rfl, (show decode cJ1_indexOf_4cfef 36 = .ok (.ireturn, 1) by decide +kernel), rfl⟩)),
  (fun _ h => absurd h List.not_mem_nil)⟩⟩⟩⟩⟩
def pJ1_indexOf_4cfef (ev : xEv) : List (Nat × xEn) := pJ1_indexOf_4cfef_0 ev ++ (pJ1_indexOf_4cfef_1 ev)
theorem okpJ1_indexOf_4cfef (ev : xEv) : ∀ q ∈ pJ1_indexOf_4cfef ev, xEnOK ev xmi yJ1_indexOf_4cfef.cls yJ1_indexOf_4cfef.name cJ1_indexOf_4cfef 4 (some .int) q := List.forall_mem_append.mpr ⟨okpJ1_indexOf_4cfef_0 ev, okpJ1_indexOf_4cfef_1 ev⟩
theorem omJ1_indexOf_4cfef (ev : xEv) : xMethOK ev xmi yJ1_indexOf_4cfef.cls yJ1_indexOf_4cfef.name 307 (pJ1_indexOf_4cfef ev) := xMethOK.of mi_307 (by decide +kernel) (okpJ1_indexOf_4cfef ev)
def pJ1_indexOfChar_4cfef (ev : xEv) : List (Nat × xEn) := [(0, .inl (xop (xf_iload 1 1))), (1, .inl (xop (xf_un (fun x => x.toInt8.toInt32)))), (2, .inl (xop (xf_istore 4 2))), (4, .inl (xop (xf_iload 2 1))), (5, .inl (xop (xf_istore 5 2))), (7, .inl (xop (xf_iload 5 2))), (9, .inl (xop (xf_iload 3 1))), (10, .inl (xop (xf_icmp_ge 31))), (13, .inl (xop (xf_aload 0 1))), (14, .inl (xop (xf_iload 5 2))), (16, .inr (.inl (5, 3, 0, 99))), (17, .inl (xop (xf_iload 4 2))), (19, .inl (xop (xf_icmp_ne 25))), (22, .inl (xop (xf_iload 5 2))), (24, .inr (.inr 1)), (25, .inl (xop (xf_iinc 5 1))), (28, .inl (xop (xf_goto 7))), (31, .inl (xop (xf_push (.int (-1)) 1))), (32, .inr (.inr 1))]
set_option maxRecDepth 20000 in
theorem okpJ1_indexOfChar_4cfef (ev : xEv) : ∀ q ∈ pJ1_indexOfChar_4cfef ev, xEnOK ev xmi yJ1_indexOfChar_4cfef.cls yJ1_indexOfChar_4cfef.name cJ1_indexOfChar_4cfef 6 (some .int) q :=
  List.forall_mem_cons.mpr ⟨(xOK_pure (xs_iload_n (k := 1) rfl (show decode cJ1_indexOfChar_4cfef 0 = .ok (.iload_n 1, 1) by decide +kernel))),
  List.forall_mem_cons.mpr ⟨(xOK_pure (xs_i2b (show decode cJ1_indexOfChar_4cfef 1 = .ok (.i2b, 1) by decide +kernel))),
  List.forall_mem_cons.mpr ⟨(xOK_pure (xs_istore (show decode cJ1_indexOfChar_4cfef 2 = .ok (.istore 4, 2) by decide +kernel) (by decide))),
  List.forall_mem_cons.mpr ⟨(xOK_pure (xs_iload_n (k := 2) rfl (show decode cJ1_indexOfChar_4cfef 4 = .ok (.iload_n 2, 1) by decide +kernel))),
  List.forall_mem_cons.mpr ⟨(xOK_pure (xs_istore (show decode cJ1_indexOfChar_4cfef 5 = .ok (.istore 5, 2) by decide +kernel) (by decide))),
  List.forall_mem_cons.mpr ⟨(xOK_pure (xs_iload (show decode cJ1_indexOfChar_4cfef 7 = .ok (.iload 5, 2) by decide +kernel))),
  List.forall_mem_cons.mpr ⟨(xOK_pure (xs_iload_n (k := 3) rfl (show decode cJ1_indexOfChar_4cfef 9 = .ok (.iload_n 3, 1) by decide +kernel))),
  List.forall_mem_cons.mpr ⟨(xOK_pure (xs_icmp_ge (show decode cJ1_indexOfChar_4cfef 10 = .ok (.if_icmp .ge 21, 3) by decide +kernel) (by decide))),
  List.forall_mem_cons.mpr ⟨(xOK_pure (xs_aload_n (k := 0) rfl (show decode cJ1_indexOfChar_4cfef 13 = .ok (.aload_n 0, 1) by decide +kernel))),
  List.forall_mem_cons.mpr ⟨(xOK_pure (xs_iload (show decode cJ1_indexOfChar_4cfef 14 = .ok (.iload 5, 2) by decide +kernel))),
  List.forall_mem_cons.mpr ⟨(Or.inl ⟨rfl, xs_strB (show decode cJ1_indexOfChar_4cfef 16 = .ok (.baload, 1) by decide +kernel)⟩),
  List.forall_mem_cons.mpr ⟨(xOK_pure (xs_iload (show decode cJ1_indexOfChar_4cfef 17 = .ok (.iload 4, 2) by decide +kernel))),
  List.forall_mem_cons.mpr ⟨(xOK_pure (xs_icmp_ne (show decode cJ1_indexOfChar_4cfef 19 = .ok (.if_icmp .ne 6, 3) by decide +kernel) (by decide))),
  List.forall_mem_cons.mpr ⟨(xOK_pure (xs_iload (show decode cJ1_indexOfChar_4cfef 22 = .ok (.iload 5, 2) by decide +kernel))),
  List.forall_mem_cons.mpr ⟨(Or.inr (Or.inl ⟨rfl, (show decode cJ1_indexOfChar_4cfef 24 = .ok (.ireturn, 1) by decide +kernel), rfl⟩)),
  List.forall_mem_cons.mpr ⟨(xOK_pure (xs_iinc (n := 1) (show decode cJ1_indexOfChar_4cfef 25 = .ok (.iinc 5 1, 3) by decide +kernel) (by decide) (by decide))),
  List.forall_mem_cons.mpr ⟨(xOK_pure (xs_goto (show decode cJ1_indexOfChar_4cfef 28 = .ok (.goto (-21), 3) by decide +kernel) (by decide))),
  List.forall_mem_cons.mpr ⟨(xOK_pure (xs_iconst (n := (-1)) (show decode cJ1_indexOfChar_4cfef 31 = .ok (.iconst (-1), 1) by decide +kernel) (by decide))),
  List.forall_mem_cons.mpr ⟨(Or.inr (Or.inl ⟨rfl, (show decode cJ1_indexOfChar_4cfef 32 = .ok (.ireturn, 1) by decide +kernel), rfl⟩)),
  (fun _ h => absurd h List.not_mem_nil)⟩⟩⟩⟩⟩⟩⟩⟩⟩⟩⟩⟩⟩⟩⟩⟩⟩⟩⟩
theorem omJ1_indexOfChar_4cfef (ev : xEv) : xMethOK ev xmi yJ1_indexOfChar_4cfef.cls yJ1_indexOfChar_4cfef.name 308 (pJ1_indexOfChar_4cfef ev) := xMethOK.of mi_308 (by decide +kernel) (okpJ1_indexOfChar_4cfef ev)
def pJ6_bitCount_0f7a4_0 (ev : xEv) : List (Nat × xEn) := [(0, .inl (xop (xf_iload 0 1))), (1, .inl (xop (xf_iload 0 1))), (2, .inl (xop (xf_push (.int 1) 1))), (3, .inl (xop (xf_bin (fun x y => (x.toUInt32 >>> (y.toUInt32 &&& Int32.toUInt32 31)).toInt32)))), (4, .inl (xop (xf_push (.int 1431655765) 3))), (7, .inl (xop (xf_bin (fun x y => x &&& y)))), (8, .inl (xop (xf_bin (fun x y => x - y)))), (9, .inl (xop (xf_istore 0 1))), (10, .inl (xop (xf_iload 0 1))), (11, .inl (xop (xf_push (.int 858993459) 3))), (14, .inl (xop (xf_bin (fun x y => x &&& y)))), (15, .inl (xop (xf_iload 0 1))), (16, .inl (xop (xf_push (.int 2) 1))), (17, .inl (xop (xf_bin (fun x y => (x.toUInt32 >>> (y.toUInt32 &&& Int32.toUInt32 31)).toInt32)))), (18, .inl (xop (xf_push (.int 858993459) 3))), (21, .inl (xop (xf_bin (fun x y => x &&& y)))), (22, .inl (xop (xf_bin (fun x y => x + y)))), (23, .inl (xop (xf_istore 0 1))), (24, .inl (xop (xf_iload 0 1))), (25, .inl (xop (xf_iload 0 1)))]
set_option maxRecDepth 20000 in
theorem okpJ6_bitCount_0f7a4_0 (ev : xEv) : ∀ q ∈ pJ6_bitCount_0f7a4_0 ev, xEnOK ev xmi yJ6_bitCount_0f7a4.cls yJ6_bitCount_0f7a4.name cJ6_bitCount_0f7a4 1 (some .int) q :=
  List.forall_mem_cons.mpr ⟨(xOK_pure (xs_iload_n (k := 0) rfl (show decode cJ6_bitCount_0f7a4 0 = .ok (.iload_n 0, 1) by decide +kernel))),
  List.forall_mem_cons.mpr ⟨(xOK_pure (xs_iload_n (k := 0) rfl (show decode cJ6_bitCount_0f7a4 1 = .ok (.iload_n 0, 1) by decide +kernel))),
  List.forall_mem_cons.mpr ⟨(xOK_pure (xs_iconst (n := 1) (show decode cJ6_bitCount_0f7a4 2 = .ok (.iconst 1, 1) by decide +kernel) (by decide))),
  List.forall_mem_cons.mpr ⟨(xOK_pure (xs_iushr (show decode cJ6_bitCount_0f7a4 3 = .ok (.iushr, 1) by decide +kernel))),
  List.forall_mem_cons.mpr ⟨(xOK_pure (xs_ldcw (show decode cJ6_bitCount_0f7a4 4 = .ok (.ldc_w 265, 3) by decide +kernel) xw_1539)),
  List.forall_mem_cons.mpr ⟨(xOK_pure (xs_iand (show decode cJ6_bitCount_0f7a4 7 = .ok (.iand, 1) by decide +kernel))),
  List.forall_mem_cons.mpr ⟨(xOK_pure (xs_isub (show decode cJ6_bitCount_0f7a4 8 = .ok (.isub, 1) by decide +kernel))),
  List.forall_mem_cons.mpr ⟨(xOK_pure (xs_istore_n (k := 0) rfl (show decode cJ6_bitCount_0f7a4 9 = .ok (.istore_n 0, 1) by decide +kernel) (by decide))),
  List.forall_mem_cons.mpr ⟨(xOK_pure (xs_iload_n (k := 0) rfl (show decode cJ6_bitCount_0f7a4 10 = .ok (.iload_n 0, 1) by decide +kernel))),
  List.forall_mem_cons.mpr ⟨(xOK_pure (xs_ldcw (show decode cJ6_bitCount_0f7a4 11 = .ok (.ldc_w 266, 3) by decide +kernel) xw_1540)),
  List.forall_mem_cons.mpr ⟨(xOK_pure (xs_iand (show decode cJ6_bitCount_0f7a4 14 = .ok (.iand, 1) by decide +kernel))),
  List.forall_mem_cons.mpr ⟨(xOK_pure (xs_iload_n (k := 0) rfl (show decode cJ6_bitCount_0f7a4 15 = .ok (.iload_n 0, 1) by decide +kernel))),
  List.forall_mem_cons.mpr ⟨(xOK_pure (xs_iconst (n := 2) (show decode cJ6_bitCount_0f7a4 16 = .ok (.iconst 2, 1) by decide +kernel) (by decide))),
  List.forall_mem_cons.mpr ⟨(xOK_pure (xs_iushr (show decode cJ6_bitCount_0f7a4 17 = .ok (.iushr, 1) by decide +kernel))),
  List.forall_mem_cons.mpr ⟨(xOK_pure (xs_ldcw (show decode cJ6_bitCount_0f7a4 18 = .ok (.ldc_w 266, 3) by decide +kernel) xw_1540)),
  List.forall_mem_cons.mpr ⟨(xOK_pure (xs_iand (show decode cJ6_bitCount_0f7a4 21 = .ok (.iand, 1) by decide +kernel))),
  List.forall_mem_cons.mpr ⟨(xOK_pure (xs_iadd (show decode cJ6_bitCount_0f7a4 22 = .ok (.iadd, 1) by decide +kernel))),
  List.forall_mem_cons.mpr ⟨(xOK_pure (xs_istore_n (k := 0) rfl (show decode cJ6_bitCount_0f7a4 23 = .ok (.istore_n 0, 1) by decide +kernel) (by decide))),
  List.forall_mem_cons.mpr ⟨(xOK_pure (xs_iload_n (k := 0) rfl (show decode cJ6_bitCount_0f7a4 24 = .ok (.iload_n 0, 1) by decide +kernel))),
  List.forall_mem_cons.mpr ⟨(xOK_pure (xs_iload_n (k := 0) rfl (show decode cJ6_bitCount_0f7a4 25 = .ok (.iload_n 0, 1) by decide +kernel))),
  (fun _ h => absurd h List.not_mem_nil)⟩⟩⟩⟩⟩⟩⟩⟩⟩⟩⟩⟩⟩⟩⟩⟩⟩⟩⟩⟩
def pJ6_bitCount_0f7a4_1 (ev : xEv) : List (Nat × xEn) := [(26, .inl (xop (xf_push (.int 4) 1))), (27, .inl (xop (xf_bin (fun x y => (x.toUInt32 >>> (y.toUInt32 &&& Int32.toUInt32 31)).toInt32)))), (28, .inl (xop (xf_bin (fun x y => x + y)))), (29, .inl (xop (xf_push (.int 252645135) 3))), (32, .inl (xop (xf_bin (fun x y => x &&& y)))), (33, .inl (xop (xf_istore 0 1))), (34, .inl (xop (xf_iload 0 1))), (35, .inl (xop (xf_iload 0 1))), (36, .inl (xop (xf_push (.int 8) 2))), (38, .inl (xop (xf_bin (fun x y => (x.toUInt32 >>> (y.toUInt32 &&& Int32.toUInt32 31)).toInt32)))), (39, .inl (xop (xf_bin (fun x y => x + y)))), (40, .inl (xop (xf_istore 0 1))), (41, .inl (xop (xf_iload 0 1))), (42, .inl (xop (xf_iload 0 1))), (43, .inl (xop (xf_push (.int 16) 2))), (45, .inl (xop (xf_bin (fun x y => (x.toUInt32 >>> (y.toUInt32 &&& Int32.toUInt32 31)).toInt32)))), (46, .inl (xop (xf_bin (fun x y => x + y)))), (47, .inl (xop (xf_istore 0 1))), (48, .inl (xop (xf_iload 0 1))), (49, .inl (xop (xf_push (.int 63) 2)))]
set_option maxRecDepth 20000 in
theorem okpJ6_bitCount_0f7a4_1 (ev : xEv) : ∀ q ∈ pJ6_bitCount_0f7a4_1 ev, xEnOK ev xmi yJ6_bitCount_0f7a4.cls yJ6_bitCount_0f7a4.name cJ6_bitCount_0f7a4 1 (some .int) q :=
  List.forall_mem_cons.mpr ⟨(xOK_pure (xs_iconst (n := 4) (show decode cJ6_bitCount_0f7a4 26 = .ok (.iconst 4, 1) by decide +kernel) (by decide))),
  List.forall_mem_cons.mpr ⟨(xOK_pure (xs_iushr (show decode cJ6_bitCount_0f7a4 27 = .ok (.iushr, 1) by decide +kernel))),
  List.forall_mem_cons.mpr ⟨(xOK_pure (xs_iadd (show decode cJ6_bitCount_0f7a4 28 = .ok (.iadd, 1) by decide +kernel))),
  List.forall_mem_cons.mpr ⟨(xOK_pure (xs_ldcw (show decode cJ6_bitCount_0f7a4 29 = .ok (.ldc_w 267, 3) by decide +kernel) xw_1541)),
  List.forall_mem_cons.mpr ⟨(xOK_pure (xs_iand (show decode cJ6_bitCount_0f7a4 32 = .ok (.iand, 1) by decide +kernel))),
  List.forall_mem_cons.mpr ⟨(xOK_pure (xs_istore_n (k := 0) rfl (show decode cJ6_bitCount_0f7a4 33 = .ok (.istore_n 0, 1) by decide +kernel) (by decide))),
  List.forall_mem_cons.mpr ⟨(xOK_pure (xs_iload_n (k := 0) rfl (show decode cJ6_bitCount_0f7a4 34 = .ok (.iload_n 0, 1) by decide +kernel))),
  List.forall_mem_cons.mpr ⟨(xOK_pure (xs_iload_n (k := 0) rfl (show decode cJ6_bitCount_0f7a4 35 = .ok (.iload_n 0, 1) by decide +kernel))),
  List.forall_mem_cons.mpr ⟨(xOK_pure (xs_bipush (n := 8) (show decode cJ6_bitCount_0f7a4 36 = .ok (.bipush 8, 2) by decide +kernel) (by decide))),
  List.forall_mem_cons.mpr ⟨(xOK_pure (xs_iushr (show decode cJ6_bitCount_0f7a4 38 = .ok (.iushr, 1) by decide +kernel))),
  List.forall_mem_cons.mpr ⟨(xOK_pure (xs_iadd (show decode cJ6_bitCount_0f7a4 39 = .ok (.iadd, 1) by decide +kernel))),
  List.forall_mem_cons.mpr ⟨(xOK_pure (xs_istore_n (k := 0) rfl (show decode cJ6_bitCount_0f7a4 40 = .ok (.istore_n 0, 1) by decide +kernel) (by decide))),
  List.forall_mem_cons.mpr ⟨(xOK_pure (xs_iload_n (k := 0) rfl (show decode cJ6_bitCount_0f7a4 41 = .ok (.iload_n 0, 1) by decide +kernel))),
  List.forall_mem_cons.mpr ⟨(xOK_pure (xs_iload_n (k := 0) rfl (show decode cJ6_bitCount_0f7a4 42 = .ok (.iload_n 0, 1) by decide +kernel))),
  List.forall_mem_cons.mpr ⟨(xOK_pure (xs_bipush (n := 16) (show decode cJ6_bitCount_0f7a4 43 = .ok (.bipush 16, 2) by decide +kernel) (by decide))),
  List.forall_mem_cons.mpr ⟨(xOK_pure (xs_iushr (show decode cJ6_bitCount_0f7a4 45 = .ok (.iushr, 1) by decide +kernel))),
  List.forall_mem_cons.mpr ⟨(xOK_pure (xs_iadd (show decode cJ6_bitCount_0f7a4 46 = .ok (.iadd, 1) by decide +kernel))),
  List.forall_mem_cons.mpr ⟨(xOK_pure (xs_istore_n (k := 0) rfl (show decode cJ6_bitCount_0f7a4 47 = .ok (.istore_n 0, 1) by decide +kernel) (by decide))),
  List.forall_mem_cons.mpr ⟨(xOK_pure (xs_iload_n (k := 0) rfl (show decode cJ6_bitCount_0f7a4 48 = .ok (.iload_n 0, 1) by decide +kernel))),
  List.forall_mem_cons.mpr ⟨(xOK_pure (xs_bipush (n := 63) (show decode cJ6_bitCount_0f7a4 49 = .ok (.bipush 63, 2) by decide +kernel) (by decide))),
  (fun _ h => absurd h List.not_mem_nil)⟩⟩⟩⟩⟩⟩⟩⟩⟩⟩⟩⟩⟩⟩⟩⟩⟩⟩⟩⟩
def pJ6_bitCount_0f7a4_2 (ev : xEv) : List (Nat × xEn) := [(51, .inl (xop (xf_bin (fun x y => x &&& y)))), (52, .inr (.inr 1))]
set_option maxRecDepth 20000 in
theorem okpJ6_bitCount_0f7a4_2 (ev : xEv) : ∀ q ∈ pJ6_bitCount_0f7a4_2 ev, xEnOK ev xmi yJ6_bitCount_0f7a4.cls yJ6_bitCount_0f7a4.name cJ6_bitCount_0f7a4 1 (some .int) q :=
  List.forall_mem_cons.mpr ⟨(xOK_pure (xs_iand (show decode cJ6_bitCount_0f7a4 51 = .ok (.iand, 1) by decide +kernel))),
  List.forall_mem_cons.mpr ⟨(Or.inr (Or.inl ⟨rfl, (show decode cJ6_bitCount_0f7a4 52 = .ok (.ireturn, 1) by decide +kernel), rfl⟩)),
  (fun _ h => absurd h List.not_mem_nil)⟩⟩
def pJ6_bitCount_0f7a4 (ev : xEv) : List (Nat × xEn) := pJ6_bitCount_0f7a4_0 ev ++ (pJ6_bitCount_0f7a4_1 ev ++ (pJ6_bitCount_0f7a4_2 ev))
theorem okpJ6_bitCount_0f7a4 (ev : xEv) : ∀ q ∈ pJ6_bitCount_0f7a4 ev, xEnOK ev xmi yJ6_bitCount_0f7a4.cls yJ6_bitCount_0f7a4.name cJ6_bitCount_0f7a4 1 (some .int) q := List.forall_mem_append.mpr ⟨okpJ6_bitCount_0f7a4_0 ev, List.forall_mem_append.mpr ⟨okpJ6_bitCount_0f7a4_1 ev, okpJ6_bitCount_0f7a4_2 ev⟩⟩
theorem omJ6_bitCount_0f7a4 (ev : xEv) : xMethOK ev xmi yJ6_bitCount_0f7a4.cls yJ6_bitCount_0f7a4.name 300 (pJ6_bitCount_0f7a4 ev) := xMethOK.of mi_300 (by decide +kernel) (okpJ6_bitCount_0f7a4 ev)
def pJ7_fill_d0a16 (ev : xEv) : List (Nat × xEn) := [(0, .inl (xop (xf_push (.int 0) 1))), (1, .inl (xop (xf_istore 3 1))), (2, .inl (xop (xf_aload 0 1))), (3, .inl (xop (xf_alen (ev.1 1)))), (4, .inl (xop (xf_istore 4 2))), (6, .inl (xop (xf_iload 3 1))), (7, .inl (xop (xf_iload 4 2))), (9, .inl (xop (xf_icmp_ge 22))), (12, .inl (xop (xf_aload 0 1))), (13, .inl (xop (xf_iload 3 1))), (14, .inl (xop (xf_lload 1 1))), (15, .inl (xo_last (ev.1 1))), (16, .inl (xop (xf_iinc 3 1))), (19, .inl (xop (xf_goto 6))), (22, .inr (.inr 0))]
set_option maxRecDepth 20000 in
theorem okpJ7_fill_d0a16 (ev : xEv) : ∀ q ∈ pJ7_fill_d0a16 ev, xEnOK ev xmi yJ7_fill_d0a16.cls yJ7_fill_d0a16.name cJ7_fill_d0a16 5 none q :=
  List.forall_mem_cons.mpr ⟨(xOK_pure (xs_iconst (n := 0) (show decode cJ7_fill_d0a16 0 = .ok (.iconst 0, 1) by decide +kernel) (by decide))),
  List.forall_mem_cons.mpr ⟨(xOK_pure (xs_istore_n (k := 3) rfl (show decode cJ7_fill_d0a16 1 = .ok (.istore_n 3, 1) by decide +kernel) (by decide))),
  List.forall_mem_cons.mpr ⟨(xOK_pure (xs_aload_n (k := 0) rfl (show decode cJ7_fill_d0a16 2 = .ok (.aload_n 0, 1) by decide +kernel))),
  List.forall_mem_cons.mpr ⟨(xOK_pure (xs_alen (t := 1) rfl (show decode cJ7_fill_d0a16 3 = .ok (.arraylength, 1) by decide +kernel))),
  List.forall_mem_cons.mpr ⟨(xOK_pure (xs_istore (show decode cJ7_fill_d0a16 4 = .ok (.istore 4, 2) by decide +kernel) (by decide))),
  List.forall_mem_cons.mpr ⟨(xOK_pure (xs_iload_n (k := 3) rfl (show decode cJ7_fill_d0a16 6 = .ok (.iload_n 3, 1) by decide +kernel))),
  List.forall_mem_cons.mpr ⟨(xOK_pure (xs_iload (show decode cJ7_fill_d0a16 7 = .ok (.iload 4, 2) by decide +kernel))),
  List.forall_mem_cons.mpr ⟨(xOK_pure (xs_icmp_ge (show decode cJ7_fill_d0a16 9 = .ok (.if_icmp .ge 13, 3) by decide +kernel) (by decide))),
  List.forall_mem_cons.mpr ⟨(xOK_pure (xs_aload_n (k := 0) rfl (show decode cJ7_fill_d0a16 12 = .ok (.aload_n 0, 1) by decide +kernel))),
  List.forall_mem_cons.mpr ⟨(xOK_pure (xs_iload_n (k := 3) rfl (show decode cJ7_fill_d0a16 13 = .ok (.iload_n 3, 1) by decide +kernel))),
  List.forall_mem_cons.mpr ⟨(xOK_pure (xs_lload_n (k := 1) rfl (show decode cJ7_fill_d0a16 14 = .ok (.lload_n 1, 1) by decide +kernel))),
  List.forall_mem_cons.mpr ⟨(xs_last (show decode cJ7_fill_d0a16 15 = .ok (.lastore, 1) by decide +kernel)),
  List.forall_mem_cons.mpr ⟨(xOK_pure (xs_iinc (n := 1) (show decode cJ7_fill_d0a16 16 = .ok (.iinc 3 1, 3) by decide +kernel) (by decide) (by decide))),
  List.forall_mem_cons.mpr ⟨(xOK_pure (xs_goto (show decode cJ7_fill_d0a16 19 = .ok (.goto (-13), 3) by decide +kernel) (by decide))),
  List.forall_mem_cons.mpr ⟨(Or.inl ⟨rfl, (show decode cJ7_fill_d0a16 22 = .ok (.return_, 1) by decide +kernel), rfl⟩),
  (fun _ h => absurd h List.not_mem_nil)⟩⟩⟩⟩⟩⟩⟩⟩⟩⟩⟩⟩⟩⟩⟩
theorem omJ7_fill_d0a16 (ev : xEv) : xMethOK ev xmi yJ7_fill_d0a16.cls yJ7_fill_d0a16.name 309 (pJ7_fill_d0a16 ev) := xMethOK.of mi_309 (by decide +kernel) (okpJ7_fill_d0a16 ev)
