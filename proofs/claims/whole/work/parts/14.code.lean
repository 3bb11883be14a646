def pX10_startAct_0 (ev : xEv) : List (Nat × xEn) := [(0, .inl (xop (xf_aload 0 1))), (1, .inl (xop (xf_getf 10 4))), (4, .inl (xop (xf_aload 1 1))), (5, .inl (xop (xf_getf 1 0))), (8, .inl (xop (xf_aald (ev.1 5)))), (9, .inl (xop (xf_astore 2 1))), (10, .inl (xop (xf_aload 0 1))), (11, .inl (xop (xf_getf 10 0))), (14, .inl (xop (xf_getf 2 4))), (17, .inl (xop (xf_aload 1 1))), (18, .inl (xop (xf_getf 1 2))), (21, .inl (xop (xf_aald (ev.1 4)))), (22, .inl (xop (xf_astore 3 1))), (23, .inl (xop (xf_aload 2 1))), (24, .inl (xop (xf_getf 6 8))), (27, .inl (xop (xf_aload 3 1))), (28, .inl (xop (xf_getf 3 0))), (31, .inl (xop (xf_icmp_ne 38))), (34, .inl (xop (xf_push (.int 1) 1))), (35, .inl (xop (xf_goto 39)))]
set_option maxRecDepth 20000 in
theorem okpX10_startAct_0 (ev : xEv) : ∀ q ∈ pX10_startAct_0 ev, xEnOK ev xmi yX10_startAct.cls yX10_startAct.name cX10_startAct 8 (some .int) q :=
  List.forall_mem_cons.mpr ⟨(xOK_pure (xs_aload_n (k := 0) rfl (show decode cX10_startAct 0 = .ok (.aload_n 0, 1) by decide +kernel))),
  List.forall_mem_cons.mpr ⟨(xOK_pure (xs_getf xcl_10 (by decide) (show decode cX10_startAct 1 = .ok (.getfield 32, 3) by decide +kernel) xw_309)),
  List.forall_mem_cons.mpr ⟨(xOK_pure (xs_aload_n (k := 1) rfl (show decode cX10_startAct 4 = .ok (.aload_n 1, 1) by decide +kernel))),
  List.forall_mem_cons.mpr ⟨(xOK_pure (xs_getf xcl_1 (by decide) (show decode cX10_startAct 5 = .ok (.getfield 161, 3) by decide +kernel) xw_1048)),
  List.forall_mem_cons.mpr ⟨(xOK_pure (xs_aald (t := 5) rfl (show decode cX10_startAct 8 = .ok (.aaload, 1) by decide +kernel))),
  List.forall_mem_cons.mpr ⟨(xOK_pure (xs_astore_n (k := 2) rfl (show decode cX10_startAct 9 = .ok (.astore_n 2, 1) by decide +kernel) (by decide))),
  List.forall_mem_cons.mpr ⟨(xOK_pure (xs_aload_n (k := 0) rfl (show decode cX10_startAct 10 = .ok (.aload_n 0, 1) by decide +kernel))),
  List.forall_mem_cons.mpr ⟨(xOK_pure (xs_getf xcl_10 (by decide) (show decode cX10_startAct 11 = .ok (.getfield 65, 3) by decide +kernel) xw_301)),
  List.forall_mem_cons.mpr ⟨(xOK_pure (xs_getf xcl_2 (by decide) (show decode cX10_startAct 14 = .ok (.getfield 164, 3) by decide +kernel) xw_174)),
  List.forall_mem_cons.mpr ⟨(xOK_pure (xs_aload_n (k := 1) rfl (show decode cX10_startAct 17 = .ok (.aload_n 1, 1) by decide +kernel))),
  List.forall_mem_cons.mpr ⟨(xOK_pure (xs_getf xcl_1 (by decide) (show decode cX10_startAct 18 = .ok (.getfield 170, 3) by decide +kernel) xw_1054)),
  List.forall_mem_cons.mpr ⟨(xOK_pure (xs_aald (t := 4) rfl (show decode cX10_startAct 21 = .ok (.aaload, 1) by decide +kernel))),
  List.forall_mem_cons.mpr ⟨(xOK_pure (xs_astore_n (k := 3) rfl (show decode cX10_startAct 22 = .ok (.astore_n 3, 1) by decide +kernel) (by decide))),
  List.forall_mem_cons.mpr ⟨(xOK_pure (xs_aload_n (k := 2) rfl (show decode cX10_startAct 23 = .ok (.aload_n 2, 1) by decide +kernel))),
  List.forall_mem_cons.mpr ⟨(xOK_pure (xs_getf xcl_6 (by decide) (show decode cX10_startAct 24 = .ok (.getfield 173, 3) by decide +kernel) xw_616)),
  List.forall_mem_cons.mpr ⟨(xOK_pure (xs_aload_n (k := 3) rfl (show decode cX10_startAct 27 = .ok (.aload_n 3, 1) by decide +kernel))),
  List.forall_mem_cons.mpr ⟨(xOK_pure (xs_getf xcl_3 (by decide) (show decode cX10_startAct 28 = .ok (.getfield 221, 3) by decide +kernel) xw_508)),
  List.forall_mem_cons.mpr ⟨(xOK_pure (xs_icmp_ne (show decode cX10_startAct 31 = .ok (.if_icmp .ne 7, 3) by decide +kernel) (by decide))),
  List.forall_mem_cons.mpr ⟨(xOK_pure (xs_iconst (n := 1) (show decode cX10_startAct 34 = .ok (.iconst 1, 1) by decide +kernel) (by decide))),
  List.forall_mem_cons.mpr ⟨(xOK_pure (xs_goto (show decode cX10_startAct 35 = .ok (.goto 4, 3) by decide +kernel) (by decide))),
  (fun _ h => absurd h List.not_mem_nil)⟩⟩⟩⟩⟩⟩⟩⟩⟩⟩⟩⟩⟩⟩⟩⟩⟩⟩⟩⟩
def pX10_startAct_1 (ev : xEv) : List (Nat × xEn) := [(38, .inl (xop (xf_push (.int 0) 1))), (39, .inl (xop (xf_istore 4 2))), (41, .inl (xop (xf_aload 0 1))), (42, .inl (xop (xf_getf 10 1))), (45, .inl (xop (xf_aload 2 1))), (46, .inl (xop (xf_getf 6 8))), (49, .inl (xop (xf_aload 1 1))), (50, .inl (xop (xf_getf 1 2))), (53, .inl (xop (xf_aload 0 1))), (54, .inl (xop (xf_getf 10 13))), (57, .inr (.inl (0, 94, 3, 9))), (60, .inl (xop (xf_istore 5 2))), (62, .inl (xop (xf_iload 5 2))), (64, .inl (xop (xf_push (.int (-1)) 1))), (65, .inl (xop (xf_icmp_ne 72))), (68, .inl (xop (xf_push (.int 1) 1))), (69, .inl (xop (xf_goto 73))), (72, .inl (xop (xf_push (.int 0) 1))), (73, .inl (xop (xf_istore 6 2))), (75, .inl (xop (xf_iload 6 2)))]
set_option maxRecDepth 20000 in
theorem okpX10_startAct_1 (ev : xEv) : ∀ q ∈ pX10_startAct_1 ev, xEnOK ev xmi yX10_startAct.cls yX10_startAct.name cX10_startAct 8 (some .int) q :=
  List.forall_mem_cons.mpr ⟨(xOK_pure (xs_iconst (n := 0) (show decode cX10_startAct 38 = .ok (.iconst 0, 1) by decide +kernel) (by decide))),
  List.forall_mem_cons.mpr ⟨(xOK_pure (xs_istore (show decode cX10_startAct 39 = .ok (.istore 4, 2) by decide +kernel) (by decide))),
  List.forall_mem_cons.mpr ⟨(xOK_pure (xs_aload_n (k := 0) rfl (show decode cX10_startAct 41 = .ok (.aload_n 0, 1) by decide +kernel))),
  List.forall_mem_cons.mpr ⟨(xOK_pure (xs_getf xcl_10 (by decide) (show decode cX10_startAct 42 = .ok (.getfield 12, 3) by decide +kernel) xw_303)),
  List.forall_mem_cons.mpr ⟨(xOK_pure (xs_aload_n (k := 2) rfl (show decode cX10_startAct 45 = .ok (.aload_n 2, 1) by decide +kernel))),
  List.forall_mem_cons.mpr ⟨(xOK_pure (xs_getf xcl_6 (by decide) (show decode cX10_startAct 46 = .ok (.getfield 173, 3) by decide +kernel) xw_616)),
  List.forall_mem_cons.mpr ⟨(xOK_pure (xs_aload_n (k := 1) rfl (show decode cX10_startAct 49 = .ok (.aload_n 1, 1) by decide +kernel))),
  List.forall_mem_cons.mpr ⟨(xOK_pure (xs_getf xcl_1 (by decide) (show decode cX10_startAct 50 = .ok (.getfield 170, 3) by decide +kernel) xw_1054)),
  List.forall_mem_cons.mpr ⟨(xOK_pure (xs_aload_n (k := 0) rfl (show decode cX10_startAct 53 = .ok (.aload_n 0, 1) by decide +kernel))),
  List.forall_mem_cons.mpr ⟨(xOK_pure (xs_getf xcl_10 (by decide) (show decode cX10_startAct 54 = .ok (.getfield 69, 3) by decide +kernel) xw_328)),
  List.forall_mem_cons.mpr ⟨(xcm mi_94 ⟨⟨(by decide +kernel), (by decide +kernel), (by decide +kernel)⟩, (by decide), xw_1167, xw_121, Or.inl ⟨rfl, _, _, _, _, (show decode cX10_startAct 57 = .ok (.invokevirtual 224, 3) by decide +kernel), xw_1164, xw_1165, xw_1166, rfl⟩⟩),
  List.forall_mem_cons.mpr ⟨(xOK_pure (xs_istore (show decode cX10_startAct 60 = .ok (.istore 5, 2) by decide +kernel) (by decide))),
  List.forall_mem_cons.mpr ⟨(xOK_pure (xs_iload (show decode cX10_startAct 62 = .ok (.iload 5, 2) by decide +kernel))),
  List.forall_mem_cons.mpr ⟨(xOK_pure (xs_iconst (n := (-1)) (show decode cX10_startAct 64 = .ok (.iconst (-1), 1) by decide +kernel) (by decide))),
  List.forall_mem_cons.mpr ⟨(xOK_pure (xs_icmp_ne (show decode cX10_startAct 65 = .ok (.if_icmp .ne 7, 3) by decide +kernel) (by decide))),
  List.forall_mem_cons.mpr ⟨(xOK_pure (xs_iconst (n := 1) (show decode cX10_startAct 68 = .ok (.iconst 1, 1) by decide +kernel) (by decide))),
  List.forall_mem_cons.mpr ⟨(xOK_pure (xs_goto (show decode cX10_startAct 69 = .ok (.goto 4, 3) by decide +kernel) (by decide))),
  List.forall_mem_cons.mpr ⟨(xOK_pure (xs_iconst (n := 0) (show decode cX10_startAct 72 = .ok (.iconst 0, 1) by decide +kernel) (by decide))),
  List.forall_mem_cons.mpr ⟨(xOK_pure (xs_istore (show decode cX10_startAct 73 = .ok (.istore 6, 2) by decide +kernel) (by decide))),
  List.forall_mem_cons.mpr ⟨(xOK_pure (xs_iload (show decode cX10_startAct 75 = .ok (.iload 6, 2) by decide +kernel))),
  (fun _ h => absurd h List.not_mem_nil)⟩⟩⟩⟩⟩⟩⟩⟩⟩⟩⟩⟩⟩⟩⟩⟩⟩⟩⟩⟩
def pX10_startAct_2 (ev : xEv) : List (Nat × xEn) := [(77, .inl (xop (xf_if_eq 84))), (80, .inl (xop (xf_push (.int 0) 1))), (81, .inl (xop (xf_goto 94))), (84, .inl (xop (xf_aload 0 1))), (85, .inl (xop (xf_getf 10 1))), (88, .inl (xop (xf_getf 9 4))), (91, .inl (xop (xf_iload 5 2))), (93, .inl (xop (xf_ald (ev.1 0)))), (94, .inl (xop (xf_istore 7 2))), (96, .inl (xop (xf_aload 0 1))), (97, .inl (xop (xf_getf 10 2))), (100, .inl (xop (xf_push (.int 99) 2))), (102, .inl (xop (xf_iload 6 2))), (104, .inl (xop (xf_if_eq 111))), (107, .inl (xop (xf_push (.int 0) 1))), (108, .inl (xop (xf_goto 126))), (111, .inl (xop (xf_aload 0 1))), (112, .inl (xop (xf_getf 10 1))), (115, .inl (xop (xf_getf 9 3))), (118, .inl (xop (xf_iload 5 2)))]
set_option maxRecDepth 20000 in
theorem okpX10_startAct_2 (ev : xEv) : ∀ q ∈ pX10_startAct_2 ev, xEnOK ev xmi yX10_startAct.cls yX10_startAct.name cX10_startAct 8 (some .int) q :=
  List.forall_mem_cons.mpr ⟨(xOK_pure (xs_if_eq (show decode cX10_startAct 77 = .ok (.ifCond .eq 7, 3) by decide +kernel) (by decide))),
  List.forall_mem_cons.mpr ⟨(xOK_pure (xs_iconst (n := 0) (show decode cX10_startAct 80 = .ok (.iconst 0, 1) by decide +kernel) (by decide))),
  List.forall_mem_cons.mpr ⟨(xOK_pure (xs_goto (show decode cX10_startAct 81 = .ok (.goto 13, 3) by decide +kernel) (by decide))),
  List.forall_mem_cons.mpr ⟨(xOK_pure (xs_aload_n (k := 0) rfl (show decode cX10_startAct 84 = .ok (.aload_n 0, 1) by decide +kernel))),
  List.forall_mem_cons.mpr ⟨(xOK_pure (xs_getf xcl_10 (by decide) (show decode cX10_startAct 85 = .ok (.getfield 12, 3) by decide +kernel) xw_303)),
  List.forall_mem_cons.mpr ⟨(xOK_pure (xs_getf xcl_9 (by decide) (show decode cX10_startAct 88 = .ok (.getfield 228, 3) by decide +kernel) xw_235)),
  List.forall_mem_cons.mpr ⟨(xOK_pure (xs_iload (show decode cX10_startAct 91 = .ok (.iload 5, 2) by decide +kernel))),
  List.forall_mem_cons.mpr ⟨(xOK_pure (xs_iald (show decode cX10_startAct 93 = .ok (.iaload, 1) by decide +kernel))),
  List.forall_mem_cons.mpr ⟨(xOK_pure (xs_istore (show decode cX10_startAct 94 = .ok (.istore 7, 2) by decide +kernel) (by decide))),
  List.forall_mem_cons.mpr ⟨(xOK_pure (xs_aload_n (k := 0) rfl (show decode cX10_startAct 96 = .ok (.aload_n 0, 1) by decide +kernel))),
  List.forall_mem_cons.mpr ⟨(xOK_pure (xs_getf xcl_10 (by decide) (show decode cX10_startAct 97 = .ok (.getfield 23, 3) by decide +kernel) xw_305)),
  List.forall_mem_cons.mpr ⟨(xOK_pure (xs_bipush (n := 99) (show decode cX10_startAct 100 = .ok (.bipush 99, 2) by decide +kernel) (by decide))),
  List.forall_mem_cons.mpr ⟨(xOK_pure (xs_iload (show decode cX10_startAct 102 = .ok (.iload 6, 2) by decide +kernel))),
  List.forall_mem_cons.mpr ⟨(xOK_pure (xs_if_eq (show decode cX10_startAct 104 = .ok (.ifCond .eq 7, 3) by decide +kernel) (by decide))),
  List.forall_mem_cons.mpr ⟨(xOK_pure (xs_iconst (n := 0) (show decode cX10_startAct 107 = .ok (.iconst 0, 1) by decide +kernel) (by decide))),
  List.forall_mem_cons.mpr ⟨(xOK_pure (xs_goto (show decode cX10_startAct 108 = .ok (.goto 18, 3) by decide +kernel) (by decide))),
  List.forall_mem_cons.mpr ⟨(xOK_pure (xs_aload_n (k := 0) rfl (show decode cX10_startAct 111 = .ok (.aload_n 0, 1) by decide +kernel))),
  List.forall_mem_cons.mpr ⟨(xOK_pure (xs_getf xcl_10 (by decide) (show decode cX10_startAct 112 = .ok (.getfield 12, 3) by decide +kernel) xw_303)),
  List.forall_mem_cons.mpr ⟨(xOK_pure (xs_getf xcl_9 (by decide) (show decode cX10_startAct 115 = .ok (.getfield 231, 3) by decide +kernel) xw_232)),
  List.forall_mem_cons.mpr ⟨(xOK_pure (xs_iload (show decode cX10_startAct 118 = .ok (.iload 5, 2) by decide +kernel))),
  (fun _ h => absurd h List.not_mem_nil)⟩⟩⟩⟩⟩⟩⟩⟩⟩⟩⟩⟩⟩⟩⟩⟩⟩⟩⟩⟩
def pX10_startAct_3 (ev : xEv) : List (Nat × xEn) := [(120, .inl (xop (xf_ald (ev.1 0)))), (121, .inl (xop (xf_aload 3 1))), (122, .inl (xop (xf_getf 3 3))), (125, .inl (xop (xf_bin (fun x y => x - y)))), (126, .inr (.inl (0, 88, 2, 8))), (129, .inl (xop (xf_aload 0 1))), (130, .inl (xop (xf_getf 10 2))), (133, .inl (xop (xf_push (.int 119) 2))), (135, .inl (xop (xf_iload 4 2))), (137, .inl (xop (xf_if_eq 145))), (140, .inl (xop (xf_iload 7 2))), (142, .inl (xop (xf_goto 148))), (145, .inl (xop (xf_iload 7 2))), (147, .inl (xop (xf_un (fun x => -x)))), (148, .inr (.inl (0, 88, 2, 8))), (151, .inl (xop (xf_aload 0 1))), (152, .inl (xop (xf_getf 10 2))), (155, .inl (xop (xf_push (.int 97) 2))), (157, .inl (xop (xf_iload 6 2))), (159, .inl (xop (xf_if_eq 168)))]
set_option maxRecDepth 20000 in
theorem okpX10_startAct_3 (ev : xEv) : ∀ q ∈ pX10_startAct_3 ev, xEnOK ev xmi yX10_startAct.cls yX10_startAct.name cX10_startAct 8 (some .int) q :=
  List.forall_mem_cons.mpr ⟨(xOK_pure (xs_iald (show decode cX10_startAct 120 = .ok (.iaload, 1) by decide +kernel))),
  List.forall_mem_cons.mpr ⟨(xOK_pure (xs_aload_n (k := 3) rfl (show decode cX10_startAct 121 = .ok (.aload_n 3, 1) by decide +kernel))),
  List.forall_mem_cons.mpr ⟨(xOK_pure (xs_getf xcl_3 (by decide) (show decode cX10_startAct 122 = .ok (.getfield 218, 3) by decide +kernel) xw_516)),
  List.forall_mem_cons.mpr ⟨(xOK_pure (xs_isub (show decode cX10_startAct 125 = .ok (.isub, 1) by decide +kernel))),
  List.forall_mem_cons.mpr ⟨(xcm mi_88 ⟨⟨(by decide +kernel), (by decide +kernel), (by decide +kernel)⟩, (by decide), xw_1171, xw_122, Or.inl ⟨rfl, _, _, _, _, (show decode cX10_startAct 126 = .ok (.invokevirtual 234, 3) by decide +kernel), xw_1168, xw_1169, xw_1170, rfl⟩⟩),
  List.forall_mem_cons.mpr ⟨(xOK_pure (xs_aload_n (k := 0) rfl (show decode cX10_startAct 129 = .ok (.aload_n 0, 1) by decide +kernel))),
  List.forall_mem_cons.mpr ⟨(xOK_pure (xs_getf xcl_10 (by decide) (show decode cX10_startAct 130 = .ok (.getfield 23, 3) by decide +kernel) xw_305)),
  List.forall_mem_cons.mpr ⟨(xOK_pure (xs_bipush (n := 119) (show decode cX10_startAct 133 = .ok (.bipush 119, 2) by decide +kernel) (by decide))),
  List.forall_mem_cons.mpr ⟨(xOK_pure (xs_iload (show decode cX10_startAct 135 = .ok (.iload 4, 2) by decide +kernel))),
  List.forall_mem_cons.mpr ⟨(xOK_pure (xs_if_eq (show decode cX10_startAct 137 = .ok (.ifCond .eq 8, 3) by decide +kernel) (by decide))),
  List.forall_mem_cons.mpr ⟨(xOK_pure (xs_iload (show decode cX10_startAct 140 = .ok (.iload 7, 2) by decide +kernel))),
  List.forall_mem_cons.mpr ⟨(xOK_pure (xs_goto (show decode cX10_startAct 142 = .ok (.goto 6, 3) by decide +kernel) (by decide))),
  List.forall_mem_cons.mpr ⟨(xOK_pure (xs_iload (show decode cX10_startAct 145 = .ok (.iload 7, 2) by decide +kernel))),
  List.forall_mem_cons.mpr ⟨(xOK_pure (xs_ineg (show decode cX10_startAct 147 = .ok (.ineg, 1) by decide +kernel))),
  List.forall_mem_cons.mpr ⟨(xcm mi_88 ⟨⟨(by decide +kernel), (by decide +kernel), (by decide +kernel)⟩, (by decide), xw_1171, xw_122, Or.inl ⟨rfl, _, _, _, _, (show decode cX10_startAct 148 = .ok (.invokevirtual 234, 3) by decide +kernel), xw_1168, xw_1169, xw_1170, rfl⟩⟩),
  List.forall_mem_cons.mpr ⟨(xOK_pure (xs_aload_n (k := 0) rfl (show decode cX10_startAct 151 = .ok (.aload_n 0, 1) by decide +kernel))),
  List.forall_mem_cons.mpr ⟨(xOK_pure (xs_getf xcl_10 (by decide) (show decode cX10_startAct 152 = .ok (.getfield 23, 3) by decide +kernel) xw_305)),
  List.forall_mem_cons.mpr ⟨(xOK_pure (xs_bipush (n := 97) (show decode cX10_startAct 155 = .ok (.bipush 97, 2) by decide +kernel) (by decide))),
  List.forall_mem_cons.mpr ⟨(xOK_pure (xs_iload (show decode cX10_startAct 157 = .ok (.iload 6, 2) by decide +kernel))),
  List.forall_mem_cons.mpr ⟨(xOK_pure (xs_if_eq (show decode cX10_startAct 159 = .ok (.ifCond .eq 9, 3) by decide +kernel) (by decide))),
  (fun _ h => absurd h List.not_mem_nil)⟩⟩⟩⟩⟩⟩⟩⟩⟩⟩⟩⟩⟩⟩⟩⟩⟩⟩⟩⟩
def pX10_startAct_4 (ev : xEv) : List (Nat × xEn) := [(162, .inl (xop (xf_push (.int 999) 3))), (165, .inl (xop (xf_goto 183))), (168, .inl (xop (xf_aload 0 1))), (169, .inl (xop (xf_getf 10 13))), (172, .inl (xop (xf_aload 0 1))), (173, .inl (xop (xf_getf 10 1))), (176, .inl (xop (xf_getf 9 2))), (179, .inl (xop (xf_iload 5 2))), (181, .inl (xop (xf_ald (ev.1 0)))), (182, .inl (xop (xf_bin (fun x y => x - y)))), (183, .inr (.inl (0, 88, 2, 8))), (186, .inl (xop (xf_aload 0 1))), (187, .inl (xop (xf_getf 10 2))), (190, .inl (xop (xf_push (.int 102) 2))), (192, .inl (xop (xf_aload 2 1))), (193, .inl (xop (xf_getf 6 3))), (196, .inr (.inl (0, 88, 2, 8))), (199, .inl (xop (xf_aload 0 1))), (200, .inl (xop (xf_getf 10 2))), (203, .inl (xop (xf_push (.int 103) 2)))]
set_option maxRecDepth 20000 in
theorem okpX10_startAct_4 (ev : xEv) : ∀ q ∈ pX10_startAct_4 ev, xEnOK ev xmi yX10_startAct.cls yX10_startAct.name cX10_startAct 8 (some .int) q :=
  List.forall_mem_cons.mpr ⟨(xOK_pure (xs_sipush (n := 999) (show decode cX10_startAct 162 = .ok (.sipush 999, 3) by decide +kernel) (by decide))),
  List.forall_mem_cons.mpr ⟨(xOK_pure (xs_goto (show decode cX10_startAct 165 = .ok (.goto 18, 3) by decide +kernel) (by decide))),
  List.forall_mem_cons.mpr ⟨(xOK_pure (xs_aload_n (k := 0) rfl (show decode cX10_startAct 168 = .ok (.aload_n 0, 1) by decide +kernel))),
  List.forall_mem_cons.mpr ⟨(xOK_pure (xs_getf xcl_10 (by decide) (show decode cX10_startAct 169 = .ok (.getfield 69, 3) by decide +kernel) xw_328)),
  List.forall_mem_cons.mpr ⟨(xOK_pure (xs_aload_n (k := 0) rfl (show decode cX10_startAct 172 = .ok (.aload_n 0, 1) by decide +kernel))),
  List.forall_mem_cons.mpr ⟨(xOK_pure (xs_getf xcl_10 (by decide) (show decode cX10_startAct 173 = .ok (.getfield 12, 3) by decide +kernel) xw_303)),
  List.forall_mem_cons.mpr ⟨(xOK_pure (xs_getf xcl_9 (by decide) (show decode cX10_startAct 176 = .ok (.getfield 238, 3) by decide +kernel) xw_230)),
  List.forall_mem_cons.mpr ⟨(xOK_pure (xs_iload (show decode cX10_startAct 179 = .ok (.iload 5, 2) by decide +kernel))),
  List.forall_mem_cons.mpr ⟨(xOK_pure (xs_iald (show decode cX10_startAct 181 = .ok (.iaload, 1) by decide +kernel))),
  List.forall_mem_cons.mpr ⟨(xOK_pure (xs_isub (show decode cX10_startAct 182 = .ok (.isub, 1) by decide +kernel))),
  List.forall_mem_cons.mpr ⟨(xcm mi_88 ⟨⟨(by decide +kernel), (by decide +kernel), (by decide +kernel)⟩, (by decide), xw_1171, xw_122, Or.inl ⟨rfl, _, _, _, _, (show decode cX10_startAct 183 = .ok (.invokevirtual 234, 3) by decide +kernel), xw_1168, xw_1169, xw_1170, rfl⟩⟩),
  List.forall_mem_cons.mpr ⟨(xOK_pure (xs_aload_n (k := 0) rfl (show decode cX10_startAct 186 = .ok (.aload_n 0, 1) by decide +kernel))),
  List.forall_mem_cons.mpr ⟨(xOK_pure (xs_getf xcl_10 (by decide) (show decode cX10_startAct 187 = .ok (.getfield 23, 3) by decide +kernel) xw_305)),
  List.forall_mem_cons.mpr ⟨(xOK_pure (xs_bipush (n := 102) (show decode cX10_startAct 190 = .ok (.bipush 102, 2) by decide +kernel) (by decide))),
  List.forall_mem_cons.mpr ⟨(xOK_pure (xs_aload_n (k := 2) rfl (show decode cX10_startAct 192 = .ok (.aload_n 2, 1) by decide +kernel))),
  List.forall_mem_cons.mpr ⟨(xOK_pure (xs_getf xcl_6 (by decide) (show decode cX10_startAct 193 = .ok (.getfield 241, 3) by decide +kernel) xw_600)),
  List.forall_mem_cons.mpr ⟨(xcm mi_88 ⟨⟨(by decide +kernel), (by decide +kernel), (by decide +kernel)⟩, (by decide), xw_1171, xw_122, Or.inl ⟨rfl, _, _, _, _, (show decode cX10_startAct 196 = .ok (.invokevirtual 234, 3) by decide +kernel), xw_1168, xw_1169, xw_1170, rfl⟩⟩),
  List.forall_mem_cons.mpr ⟨(xOK_pure (xs_aload_n (k := 0) rfl (show decode cX10_startAct 199 = .ok (.aload_n 0, 1) by decide +kernel))),
  List.forall_mem_cons.mpr ⟨(xOK_pure (xs_getf xcl_10 (by decide) (show decode cX10_startAct 200 = .ok (.getfield 23, 3) by decide +kernel) xw_305)),
  List.forall_mem_cons.mpr ⟨(xOK_pure (xs_bipush (n := 103) (show decode cX10_startAct 203 = .ok (.bipush 103, 2) by decide +kernel) (by decide))),
  (fun _ h => absurd h List.not_mem_nil)⟩⟩⟩⟩⟩⟩⟩⟩⟩⟩⟩⟩⟩⟩⟩⟩⟩⟩⟩⟩
def pX10_startAct_5 (ev : xEv) : List (Nat × xEn) := [(205, .inl (xop (xf_aload 3 1))), (206, .inl (xop (xf_getf 3 2))), (209, .inl (xop (xf_aload 2 1))), (210, .inl (xop (xf_getf 6 0))), (213, .inr (.inl (3, 184, 2, 11))), (216, .inr (.inl (0, 88, 2, 8))), (219, .inl (xop (xf_aload 0 1))), (220, .inl (xop (xf_aload 2 1))), (221, .inl (xop (xf_aload 1 1))), (222, .inl (xop (xf_aload 3 1))), (223, .inl (xop (xf_iload 4 2))), (225, .inr (.inl (0, 36, 1, 3))), (228, .inr (.inl (0, 105, 3, 10))), (231, .inl (xop (xf_aload 0 1))), (232, .inl (xop (xf_getf 10 2))), (235, .inl (xop (xf_aload 0 1))), (236, .inl (xop (xf_getf 10 2))), (239, .inl (xop (xf_push (.int 0) 1))), (240, .inl (xop (xf_aload 0 1))), (241, .inl (xop (xf_getf 10 13)))]
set_option maxRecDepth 20000 in
theorem okpX10_startAct_5 (ev : xEv) : ∀ q ∈ pX10_startAct_5 ev, xEnOK ev xmi yX10_startAct.cls yX10_startAct.name cX10_startAct 8 (some .int) q :=
  List.forall_mem_cons.mpr ⟨(xOK_pure (xs_aload_n (k := 3) rfl (show decode cX10_startAct 205 = .ok (.aload_n 3, 1) by decide +kernel))),
  List.forall_mem_cons.mpr ⟨(xOK_pure (xs_getf xcl_3 (by decide) (show decode cX10_startAct 206 = .ok (.getfield 244, 3) by decide +kernel) xw_514)),
  List.forall_mem_cons.mpr ⟨(xOK_pure (xs_aload_n (k := 2) rfl (show decode cX10_startAct 209 = .ok (.aload_n 2, 1) by decide +kernel))),
  List.forall_mem_cons.mpr ⟨(xOK_pure (xs_getf xcl_6 (by decide) (show decode cX10_startAct 210 = .ok (.getfield 247, 3) by decide +kernel) xw_594)),
  List.forall_mem_cons.mpr ⟨(xcm mi_184 ⟨⟨(by decide +kernel), (by decide +kernel), (by decide +kernel)⟩, (by decide), xw_827, xw_118, Or.inr (Or.inr (Or.inr (Or.inl ⟨rfl, _, _, (show decode cX10_startAct 213 = .ok (.invokestatic 115, 3) by decide +kernel), xwn_1123, xw_826⟩)))⟩),
  List.forall_mem_cons.mpr ⟨(xcm mi_88 ⟨⟨(by decide +kernel), (by decide +kernel), (by decide +kernel)⟩, (by decide), xw_1171, xw_122, Or.inl ⟨rfl, _, _, _, _, (show decode cX10_startAct 216 = .ok (.invokevirtual 234, 3) by decide +kernel), xw_1168, xw_1169, xw_1170, rfl⟩⟩),
  List.forall_mem_cons.mpr ⟨(xOK_pure (xs_aload_n (k := 0) rfl (show decode cX10_startAct 219 = .ok (.aload_n 0, 1) by decide +kernel))),
  List.forall_mem_cons.mpr ⟨(xOK_pure (xs_aload_n (k := 2) rfl (show decode cX10_startAct 220 = .ok (.aload_n 2, 1) by decide +kernel))),
  List.forall_mem_cons.mpr ⟨(xOK_pure (xs_aload_n (k := 1) rfl (show decode cX10_startAct 221 = .ok (.aload_n 1, 1) by decide +kernel))),
  List.forall_mem_cons.mpr ⟨(xOK_pure (xs_aload_n (k := 3) rfl (show decode cX10_startAct 222 = .ok (.aload_n 3, 1) by decide +kernel))),
  List.forall_mem_cons.mpr ⟨(xOK_pure (xs_iload (show decode cX10_startAct 223 = .ok (.iload 4, 2) by decide +kernel))),
  List.forall_mem_cons.mpr ⟨(xcm mi_36 ⟨⟨(by decide +kernel), (by decide +kernel), (by decide +kernel)⟩, (by decide), xw_1175, xw_126, Or.inl ⟨rfl, _, _, _, _, (show decode cX10_startAct 225 = .ok (.invokevirtual 250, 3) by decide +kernel), xw_1172, xw_1173, xw_1174, rfl⟩⟩),
  List.forall_mem_cons.mpr ⟨(xcm mi_105 ⟨⟨(by decide +kernel), (by decide +kernel), (by decide +kernel)⟩, (by decide), xw_1179, xw_120, Or.inl ⟨rfl, _, _, _, _, (show decode cX10_startAct 228 = .ok (.invokevirtual 254, 3) by decide +kernel), xw_1176, xw_1178, xw_30, rfl⟩⟩),
  List.forall_mem_cons.mpr ⟨(xOK_pure (xs_aload_n (k := 0) rfl (show decode cX10_startAct 231 = .ok (.aload_n 0, 1) by decide +kernel))),
  List.forall_mem_cons.mpr ⟨(xOK_pure (xs_getf xcl_10 (by decide) (show decode cX10_startAct 232 = .ok (.getfield 23, 3) by decide +kernel) xw_305)),
  List.forall_mem_cons.mpr ⟨(xOK_pure (xs_aload_n (k := 0) rfl (show decode cX10_startAct 235 = .ok (.aload_n 0, 1) by decide +kernel))),
  List.forall_mem_cons.mpr ⟨(xOK_pure (xs_getf xcl_10 (by decide) (show decode cX10_startAct 236 = .ok (.getfield 23, 3) by decide +kernel) xw_305)),
  List.forall_mem_cons.mpr ⟨(xOK_pure (xs_iconst (n := 0) (show decode cX10_startAct 239 = .ok (.iconst 0, 1) by decide +kernel) (by decide))),
  List.forall_mem_cons.mpr ⟨(xOK_pure (xs_aload_n (k := 0) rfl (show decode cX10_startAct 240 = .ok (.aload_n 0, 1) by decide +kernel))),
  List.forall_mem_cons.mpr ⟨(xOK_pure (xs_getf xcl_10 (by decide) (show decode cX10_startAct 241 = .ok (.getfield 69, 3) by decide +kernel) xw_328)),
  (fun _ h => absurd h List.not_mem_nil)⟩⟩⟩⟩⟩⟩⟩⟩⟩⟩⟩⟩⟩⟩⟩⟩⟩⟩⟩⟩
def pX10_startAct_6 (ev : xEv) : List (Nat × xEn) := [(244, .inr (.inl (0, 87, 2, 8))), (247, .inl (xop (xf_push (.int 87) 2))), (249, .inr (.inl (0, 89, 2, 8))), (252, .inr (.inr 1))]
set_option maxRecDepth 20000 in
theorem okpX10_startAct_6 (ev : xEv) : ∀ q ∈ pX10_startAct_6 ev, xEnOK ev xmi yX10_startAct.cls yX10_startAct.name cX10_startAct 8 (some .int) q :=
  List.forall_mem_cons.mpr ⟨(xcm mi_87 ⟨⟨(by decide +kernel), (by decide +kernel), (by decide +kernel)⟩, (by decide), xw_1187, xw_122, Or.inl ⟨rfl, _, _, _, _, (show decode cX10_startAct 244 = .ok (.invokevirtual 258, 3) by decide +kernel), xw_1184, xw_1185, xw_1186, rfl⟩⟩),
  List.forall_mem_cons.mpr ⟨(xOK_pure (xs_bipush (n := 87) (show decode cX10_startAct 247 = .ok (.bipush 87, 2) by decide +kernel) (by decide))),
  List.forall_mem_cons.mpr ⟨(xcm mi_89 ⟨⟨(by decide +kernel), (by decide +kernel), (by decide +kernel)⟩, (by decide), xw_1191, xw_122, Or.inl ⟨rfl, _, _, _, _, (show decode cX10_startAct 249 = .ok (.invokevirtual 261, 3) by decide +kernel), xw_1188, xw_1189, xw_1190, rfl⟩⟩),
  List.forall_mem_cons.mpr ⟨(Or.inr (Or.inl ⟨rfl, (show decode cX10_startAct 252 = .ok (.ireturn, 1) by decide +kernel), rfl⟩)),
  (fun _ h => absurd h List.not_mem_nil)⟩⟩⟩⟩
def pX10_startAct (ev : xEv) : List (Nat × xEn) := pX10_startAct_0 ev ++ (pX10_startAct_1 ev ++ (pX10_startAct_2 ev ++ (pX10_startAct_3 ev ++ (pX10_startAct_4 ev ++ (pX10_startAct_5 ev ++ (pX10_startAct_6 ev))))))
theorem okpX10_startAct (ev : xEv) : ∀ q ∈ pX10_startAct ev, xEnOK ev xmi yX10_startAct.cls yX10_startAct.name cX10_startAct 8 (some .int) q := List.forall_mem_append.mpr ⟨okpX10_startAct_0 ev, List.forall_mem_append.mpr ⟨okpX10_startAct_1 ev, List.forall_mem_append.mpr ⟨okpX10_startAct_2 ev, List.forall_mem_append.mpr ⟨okpX10_startAct_3 ev, List.forall_mem_append.mpr ⟨okpX10_startAct_4 ev, List.forall_mem_append.mpr ⟨okpX10_startAct_5 ev, okpX10_startAct_6 ev⟩⟩⟩⟩⟩⟩
theorem omX10_startAct (ev : xEv) : xMethOK ev xmi yX10_startAct.cls yX10_startAct.name 104 (pX10_startAct ev) := xMethOK.of mi_104 (by decide +kernel) (okpX10_startAct ev)
def pX10_putCommonLetters_0 (ev : xEv) : List (Nat × xEn) := [(0, .inl (xop (xf_aload 0 1))), (1, .inl (xop (xf_getf 10 6))), (4, .inl (xop (xf_aload 2 1))), (5, .inl (xop (xf_getf 1 1))), (8, .inl (xop (xf_aald (ev.1 6)))), (9, .inl (xop (xf_astore 4 2))), (11, .inl (xop (xf_aload 0 1))), (12, .inl (xop (xf_getf 10 2))), (15, .inl (xop (xf_push (.int 110) 2))), (17, .inl (xop (xf_aload 0 1))), (18, .inr (.inl (0, 100, 0, 10))), (21, .inl (xop (xf_if_eq 28))), (24, .inl (xop (xf_push (.int 1) 1))), (25, .inl (xop (xf_goto 29))), (28, .inl (xop (xf_push (.int 0) 1))), (29, .inr (.inl (0, 88, 2, 8))), (32, .inl (xop (xf_aload 0 1))), (33, .inl (xop (xf_getf 10 2))), (36, .inl (xop (xf_push (.int 108) 2))), (38, .inl (xop (xf_aload 0 1)))]
set_option maxRecDepth 20000 in
theorem okpX10_putCommonLetters_0 (ev : xEv) : ∀ q ∈ pX10_putCommonLetters_0 ev, xEnOK ev xmi yX10_putCommonLetters.cls yX10_putCommonLetters.name cX10_putCommonLetters 5 none q :=
  List.forall_mem_cons.mpr ⟨(xOK_pure (xs_aload_n (k := 0) rfl (show decode cX10_putCommonLetters 0 = .ok (.aload_n 0, 1) by decide +kernel))),
  List.forall_mem_cons.mpr ⟨(xOK_pure (xs_getf xcl_10 (by decide) (show decode cX10_putCommonLetters 1 = .ok (.getfield 38, 3) by decide +kernel) xw_315)),
  List.forall_mem_cons.mpr ⟨(xOK_pure (xs_aload_n (k := 2) rfl (show decode cX10_putCommonLetters 4 = .ok (.aload_n 2, 1) by decide +kernel))),
  List.forall_mem_cons.mpr ⟨(xOK_pure (xs_getf xcl_1 (by decide) (show decode cX10_putCommonLetters 5 = .ok (.getfield 176, 3) by decide +kernel) xw_1051)),
  List.forall_mem_cons.mpr ⟨(xOK_pure (xs_aald (t := 6) rfl (show decode cX10_putCommonLetters 8 = .ok (.aaload, 1) by decide +kernel))),
  List.forall_mem_cons.mpr ⟨(xOK_pure (xs_astore (show decode cX10_putCommonLetters 9 = .ok (.astore 4, 2) by decide +kernel) (by decide))),
  List.forall_mem_cons.mpr ⟨(xOK_pure (xs_aload_n (k := 0) rfl (show decode cX10_putCommonLetters 11 = .ok (.aload_n 0, 1) by decide +kernel))),
  List.forall_mem_cons.mpr ⟨(xOK_pure (xs_getf xcl_10 (by decide) (show decode cX10_putCommonLetters 12 = .ok (.getfield 23, 3) by decide +kernel) xw_305)),
  List.forall_mem_cons.mpr ⟨(xOK_pure (xs_bipush (n := 110) (show decode cX10_putCommonLetters 15 = .ok (.bipush 110, 2) by decide +kernel) (by decide))),
  List.forall_mem_cons.mpr ⟨(xOK_pure (xs_aload_n (k := 0) rfl (show decode cX10_putCommonLetters 17 = .ok (.aload_n 0, 1) by decide +kernel))),
  List.forall_mem_cons.mpr ⟨(xcm mi_100 ⟨⟨(by decide +kernel), (by decide +kernel), (by decide +kernel)⟩, (by decide), xw_1155, xw_120, Or.inl ⟨rfl, _, _, _, _, (show decode cX10_putCommonLetters 18 = .ok (.invokevirtual 198, 3) by decide +kernel), xw_1152, xw_1154, xw_28, rfl⟩⟩),
  List.forall_mem_cons.mpr ⟨(xOK_pure (xs_if_eq (show decode cX10_putCommonLetters 21 = .ok (.ifCond .eq 7, 3) by decide +kernel) (by decide))),
  List.forall_mem_cons.mpr ⟨(xOK_pure (xs_iconst (n := 1) (show decode cX10_putCommonLetters 24 = .ok (.iconst 1, 1) by decide +kernel) (by decide))),
  List.forall_mem_cons.mpr ⟨(xOK_pure (xs_goto (show decode cX10_putCommonLetters 25 = .ok (.goto 4, 3) by decide +kernel) (by decide))),
  List.forall_mem_cons.mpr ⟨(xOK_pure (xs_iconst (n := 0) (show decode cX10_putCommonLetters 28 = .ok (.iconst 0, 1) by decide +kernel) (by decide))),
  List.forall_mem_cons.mpr ⟨(xcm mi_88 ⟨⟨(by decide +kernel), (by decide +kernel), (by decide +kernel)⟩, (by decide), xw_1171, xw_122, Or.inl ⟨rfl, _, _, _, _, (show decode cX10_putCommonLetters 29 = .ok (.invokevirtual 234, 3) by decide +kernel), xw_1168, xw_1169, xw_1170, rfl⟩⟩),
  List.forall_mem_cons.mpr ⟨(xOK_pure (xs_aload_n (k := 0) rfl (show decode cX10_putCommonLetters 32 = .ok (.aload_n 0, 1) by decide +kernel))),
  List.forall_mem_cons.mpr ⟨(xOK_pure (xs_getf xcl_10 (by decide) (show decode cX10_putCommonLetters 33 = .ok (.getfield 23, 3) by decide +kernel) xw_305)),
  List.forall_mem_cons.mpr ⟨(xOK_pure (xs_bipush (n := 108) (show decode cX10_putCommonLetters 36 = .ok (.bipush 108, 2) by decide +kernel) (by decide))),
  List.forall_mem_cons.mpr ⟨(xOK_pure (xs_aload_n (k := 0) rfl (show decode cX10_putCommonLetters 38 = .ok (.aload_n 0, 1) by decide +kernel))),
  (fun _ h => absurd h List.not_mem_nil)⟩⟩⟩⟩⟩⟩⟩⟩⟩⟩⟩⟩⟩⟩⟩⟩⟩⟩⟩⟩
def pX10_putCommonLetters_1 (ev : xEv) : List (Nat × xEn) := [(39, .inl (xop (xf_getf 10 0))), (42, .inl (xop (xf_getf 2 1))), (45, .inl (xop (xf_iload 3 1))), (46, .inl (xop (xf_ald (ev.1 2)))), (47, .inl (xop (xf_if_eq 54))), (50, .inl (xop (xf_push (.int 1) 1))), (51, .inl (xop (xf_goto 55))), (54, .inl (xop (xf_push (.int 0) 1))), (55, .inr (.inl (0, 88, 2, 8))), (58, .inl (xop (xf_aload 0 1))), (59, .inl (xop (xf_getf 10 2))), (62, .inl (xop (xf_push (.int 107) 2))), (64, .inl (xop (xf_aload 4 2))), (66, .inl (xop (xf_aload 2 1))), (67, .inl (xop (xf_getf 1 2))), (70, .inr (.inl (0, 64, 1, 5))), (73, .inl (xop (xf_if_eq 80))), (76, .inl (xop (xf_push (.int 1) 1))), (77, .inl (xop (xf_goto 81))), (80, .inl (xop (xf_push (.int 0) 1)))]
set_option maxRecDepth 20000 in
theorem okpX10_putCommonLetters_1 (ev : xEv) : ∀ q ∈ pX10_putCommonLetters_1 ev, xEnOK ev xmi yX10_putCommonLetters.cls yX10_putCommonLetters.name cX10_putCommonLetters 5 none q :=
  List.forall_mem_cons.mpr ⟨(xOK_pure (xs_getf xcl_10 (by decide) (show decode cX10_putCommonLetters 39 = .ok (.getfield 65, 3) by decide +kernel) xw_301)),
  List.forall_mem_cons.mpr ⟨(xOK_pure (xs_getf xcl_2 (by decide) (show decode cX10_putCommonLetters 42 = .ok (.getfield 264, 3) by decide +kernel) xw_165)),
  List.forall_mem_cons.mpr ⟨(xOK_pure (xs_iload_n (k := 3) rfl (show decode cX10_putCommonLetters 45 = .ok (.iload_n 3, 1) by decide +kernel))),
  List.forall_mem_cons.mpr ⟨(xOK_pure (xs_zald (show decode cX10_putCommonLetters 46 = .ok (.baload, 1) by decide +kernel))),
  List.forall_mem_cons.mpr ⟨(xOK_pure (xs_if_eq (show decode cX10_putCommonLetters 47 = .ok (.ifCond .eq 7, 3) by decide +kernel) (by decide))),
  List.forall_mem_cons.mpr ⟨(xOK_pure (xs_iconst (n := 1) (show decode cX10_putCommonLetters 50 = .ok (.iconst 1, 1) by decide +kernel) (by decide))),
  List.forall_mem_cons.mpr ⟨(xOK_pure (xs_goto (show decode cX10_putCommonLetters 51 = .ok (.goto 4, 3) by decide +kernel) (by decide))),
  List.forall_mem_cons.mpr ⟨(xOK_pure (xs_iconst (n := 0) (show decode cX10_putCommonLetters 54 = .ok (.iconst 0, 1) by decide +kernel) (by decide))),
  List.forall_mem_cons.mpr ⟨(xcm mi_88 ⟨⟨(by decide +kernel), (by decide +kernel), (by decide +kernel)⟩, (by decide), xw_1171, xw_122, Or.inl ⟨rfl, _, _, _, _, (show decode cX10_putCommonLetters 55 = .ok (.invokevirtual 234, 3) by decide +kernel), xw_1168, xw_1169, xw_1170, rfl⟩⟩),
  List.forall_mem_cons.mpr ⟨(xOK_pure (xs_aload_n (k := 0) rfl (show decode cX10_putCommonLetters 58 = .ok (.aload_n 0, 1) by decide +kernel))),
  List.forall_mem_cons.mpr ⟨(xOK_pure (xs_getf xcl_10 (by decide) (show decode cX10_putCommonLetters 59 = .ok (.getfield 23, 3) by decide +kernel) xw_305)),
  List.forall_mem_cons.mpr ⟨(xOK_pure (xs_bipush (n := 107) (show decode cX10_putCommonLetters 62 = .ok (.bipush 107, 2) by decide +kernel) (by decide))),
  List.forall_mem_cons.mpr ⟨(xOK_pure (xs_aload (show decode cX10_putCommonLetters 64 = .ok (.aload 4, 2) by decide +kernel))),
  List.forall_mem_cons.mpr ⟨(xOK_pure (xs_aload_n (k := 2) rfl (show decode cX10_putCommonLetters 66 = .ok (.aload_n 2, 1) by decide +kernel))),
  List.forall_mem_cons.mpr ⟨(xOK_pure (xs_getf xcl_1 (by decide) (show decode cX10_putCommonLetters 67 = .ok (.getfield 170, 3) by decide +kernel) xw_1054)),
  List.forall_mem_cons.mpr ⟨(xcm mi_64 ⟨⟨(by decide +kernel), (by decide +kernel), (by decide +kernel)⟩, (by decide), xw_1183, xw_133, Or.inl ⟨rfl, _, _, _, _, (show decode cX10_putCommonLetters 70 = .ok (.invokevirtual 268, 3) by decide +kernel), xw_1180, xw_1181, xw_1182, rfl⟩⟩),
  List.forall_mem_cons.mpr ⟨(xOK_pure (xs_if_eq (show decode cX10_putCommonLetters 73 = .ok (.ifCond .eq 7, 3) by decide +kernel) (by decide))),
  List.forall_mem_cons.mpr ⟨(xOK_pure (xs_iconst (n := 1) (show decode cX10_putCommonLetters 76 = .ok (.iconst 1, 1) by decide +kernel) (by decide))),
  List.forall_mem_cons.mpr ⟨(xOK_pure (xs_goto (show decode cX10_putCommonLetters 77 = .ok (.goto 4, 3) by decide +kernel) (by decide))),
  List.forall_mem_cons.mpr ⟨(xOK_pure (xs_iconst (n := 0) (show decode cX10_putCommonLetters 80 = .ok (.iconst 0, 1) by decide +kernel) (by decide))),
  (fun _ h => absurd h List.not_mem_nil)⟩⟩⟩⟩⟩⟩⟩⟩⟩⟩⟩⟩⟩⟩⟩⟩⟩⟩⟩⟩
def pX10_putCommonLetters_2 (ev : xEv) : List (Nat × xEn) := [(81, .inr (.inl (0, 88, 2, 8))), (84, .inl (xop (xf_aload 0 1))), (85, .inl (xop (xf_getf 10 2))), (88, .inl (xop (xf_push (.int 104) 2))), (90, .inl (xop (xf_aload 4 2))), (92, .inl (xop (xf_getf 5 2))), (95, .inr (.inl (0, 88, 2, 8))), (98, .inl (xop (xf_aload 0 1))), (99, .inl (xop (xf_getf 10 2))), (102, .inl (xop (xf_push (.int 117) 2))), (104, .inl (xop (xf_aload 1 1))), (105, .inl (xop (xf_getf 6 6))), (108, .inl (xop (xf_aload 1 1))), (109, .inl (xop (xf_getf 6 5))), (112, .inl (xop (xf_bin (fun x y => x - y)))), (113, .inr (.inl (0, 88, 2, 8))), (116, .inr (.inr 0))]
set_option maxRecDepth 20000 in
theorem okpX10_putCommonLetters_2 (ev : xEv) : ∀ q ∈ pX10_putCommonLetters_2 ev, xEnOK ev xmi yX10_putCommonLetters.cls yX10_putCommonLetters.name cX10_putCommonLetters 5 none q :=
  List.forall_mem_cons.mpr ⟨(xcm mi_88 ⟨⟨(by decide +kernel), (by decide +kernel), (by decide +kernel)⟩, (by decide), xw_1171, xw_122, Or.inl ⟨rfl, _, _, _, _, (show decode cX10_putCommonLetters 81 = .ok (.invokevirtual 234, 3) by decide +kernel), xw_1168, xw_1169, xw_1170, rfl⟩⟩),
  List.forall_mem_cons.mpr ⟨(xOK_pure (xs_aload_n (k := 0) rfl (show decode cX10_putCommonLetters 84 = .ok (.aload_n 0, 1) by decide +kernel))),
  List.forall_mem_cons.mpr ⟨(xOK_pure (xs_getf xcl_10 (by decide) (show decode cX10_putCommonLetters 85 = .ok (.getfield 23, 3) by decide +kernel) xw_305)),
  List.forall_mem_cons.mpr ⟨(xOK_pure (xs_bipush (n := 104) (show decode cX10_putCommonLetters 88 = .ok (.bipush 104, 2) by decide +kernel) (by decide))),
  List.forall_mem_cons.mpr ⟨(xOK_pure (xs_aload (show decode cX10_putCommonLetters 90 = .ok (.aload 4, 2) by decide +kernel))),
  List.forall_mem_cons.mpr ⟨(xOK_pure (xs_getf xcl_5 (by decide) (show decode cX10_putCommonLetters 92 = .ok (.getfield 133, 3) by decide +kernel) xw_719)),
  List.forall_mem_cons.mpr ⟨(xcm mi_88 ⟨⟨(by decide +kernel), (by decide +kernel), (by decide +kernel)⟩, (by decide), xw_1171, xw_122, Or.inl ⟨rfl, _, _, _, _, (show decode cX10_putCommonLetters 95 = .ok (.invokevirtual 234, 3) by decide +kernel), xw_1168, xw_1169, xw_1170, rfl⟩⟩),
  List.forall_mem_cons.mpr ⟨(xOK_pure (xs_aload_n (k := 0) rfl (show decode cX10_putCommonLetters 98 = .ok (.aload_n 0, 1) by decide +kernel))),
  List.forall_mem_cons.mpr ⟨(xOK_pure (xs_getf xcl_10 (by decide) (show decode cX10_putCommonLetters 99 = .ok (.getfield 23, 3) by decide +kernel) xw_305)),
  List.forall_mem_cons.mpr ⟨(xOK_pure (xs_bipush (n := 117) (show decode cX10_putCommonLetters 102 = .ok (.bipush 117, 2) by decide +kernel) (by decide))),
  List.forall_mem_cons.mpr ⟨(xOK_pure (xs_aload_n (k := 1) rfl (show decode cX10_putCommonLetters 104 = .ok (.aload_n 1, 1) by decide +kernel))),
  List.forall_mem_cons.mpr ⟨(xOK_pure (xs_getf xcl_6 (by decide) (show decode cX10_putCommonLetters 105 = .ok (.getfield 195, 3) by decide +kernel) xw_609)),
  List.forall_mem_cons.mpr ⟨(xOK_pure (xs_aload_n (k := 1) rfl (show decode cX10_putCommonLetters 108 = .ok (.aload_n 1, 1) by decide +kernel))),
  List.forall_mem_cons.mpr ⟨(xOK_pure (xs_getf xcl_6 (by decide) (show decode cX10_putCommonLetters 109 = .ok (.getfield 192, 3) by decide +kernel) xw_604)),
  List.forall_mem_cons.mpr ⟨(xOK_pure (xs_isub (show decode cX10_putCommonLetters 112 = .ok (.isub, 1) by decide +kernel))),
  List.forall_mem_cons.mpr ⟨(xcm mi_88 ⟨⟨(by decide +kernel), (by decide +kernel), (by decide +kernel)⟩, (by decide), xw_1171, xw_122, Or.inl ⟨rfl, _, _, _, _, (show decode cX10_putCommonLetters 113 = .ok (.invokevirtual 234, 3) by decide +kernel), xw_1168, xw_1169, xw_1170, rfl⟩⟩),
  List.forall_mem_cons.mpr ⟨(Or.inl ⟨rfl, (show decode cX10_putCommonLetters 116 = .ok (.return_, 1) by decide +kernel), rfl⟩),
  (fun _ h => absurd h List.not_mem_nil)⟩⟩⟩⟩⟩⟩⟩⟩⟩⟩⟩⟩⟩⟩⟩⟩⟩
def pX10_putCommonLetters (ev : xEv) : List (Nat × xEn) := pX10_putCommonLetters_0 ev ++ (pX10_putCommonLetters_1 ev ++ (pX10_putCommonLetters_2 ev))
theorem okpX10_putCommonLetters (ev : xEv) : ∀ q ∈ pX10_putCommonLetters ev, xEnOK ev xmi yX10_putCommonLetters.cls yX10_putCommonLetters.name cX10_putCommonLetters 5 none q := List.forall_mem_append.mpr ⟨okpX10_putCommonLetters_0 ev, List.forall_mem_append.mpr ⟨okpX10_putCommonLetters_1 ev, okpX10_putCommonLetters_2 ev⟩⟩
theorem omX10_putCommonLetters (ev : xEv) : xMethOK ev xmi yX10_putCommonLetters.cls yX10_putCommonLetters.name 105 (pX10_putCommonLetters ev) := xMethOK.of mi_105 (by decide +kernel) (okpX10_putCommonLetters ev)
def pX10_start_0 (ev : xEv) : List (Nat × xEn) := [(0, .inl (xop (xf_aload 0 1))), (1, .inl (xop (xf_getf 10 11))), (4, .inl (xop (xf_iload 1 1))), (5, .inl (xop (xf_aald (ev.1 8)))), (6, .inl (xop (xf_astore 2 1))), (7, .inl (xop (xf_aload 0 1))), (8, .inl (xop (xf_getf 10 4))), (11, .inl (xop (xf_aload 2 1))), (12, .inl (xop (xf_getf 1 0))), (15, .inl (xop (xf_aald (ev.1 5)))), (16, .inl (xop (xf_astore 3 1))), (17, .inl (xop (xf_aload 0 1))), (18, .inl (xop (xf_getf 10 6))), (21, .inl (xop (xf_aload 2 1))), (22, .inl (xop (xf_getf 1 1))), (25, .inl (xop (xf_aald (ev.1 6)))), (26, .inl (xop (xf_astore 4 2))), (28, .inl (xop (xf_aload 0 1))), (29, .inl (xop (xf_getf 10 0))), (32, .inl (xop (xf_getf 2 4)))]
set_option maxRecDepth 20000 in
theorem okpX10_start_0 (ev : xEv) : ∀ q ∈ pX10_start_0 ev, xEnOK ev xmi yX10_start.cls yX10_start.name cX10_start 7 none q :=
  List.forall_mem_cons.mpr ⟨(xOK_pure (xs_aload_n (k := 0) rfl (show decode cX10_start 0 = .ok (.aload_n 0, 1) by decide +kernel))),
  List.forall_mem_cons.mpr ⟨(xOK_pure (xs_getf xcl_10 (by decide) (show decode cX10_start 1 = .ok (.getfield 54, 3) by decide +kernel) xw_324)),
  List.forall_mem_cons.mpr ⟨(xOK_pure (xs_iload_n (k := 1) rfl (show decode cX10_start 4 = .ok (.iload_n 1, 1) by decide +kernel))),
  List.forall_mem_cons.mpr ⟨(xOK_pure (xs_aald (t := 8) rfl (show decode cX10_start 5 = .ok (.aaload, 1) by decide +kernel))),
  List.forall_mem_cons.mpr ⟨(xOK_pure (xs_astore_n (k := 2) rfl (show decode cX10_start 6 = .ok (.astore_n 2, 1) by decide +kernel) (by decide))),
  List.forall_mem_cons.mpr ⟨(xOK_pure (xs_aload_n (k := 0) rfl (show decode cX10_start 7 = .ok (.aload_n 0, 1) by decide +kernel))),
  List.forall_mem_cons.mpr ⟨(xOK_pure (xs_getf xcl_10 (by decide) (show decode cX10_start 8 = .ok (.getfield 32, 3) by decide +kernel) xw_309)),
  List.forall_mem_cons.mpr ⟨(xOK_pure (xs_aload_n (k := 2) rfl (show decode cX10_start 11 = .ok (.aload_n 2, 1) by decide +kernel))),
  List.forall_mem_cons.mpr ⟨(xOK_pure (xs_getf xcl_1 (by decide) (show decode cX10_start 12 = .ok (.getfield 161, 3) by decide +kernel) xw_1048)),
  List.forall_mem_cons.mpr ⟨(xOK_pure (xs_aald (t := 5) rfl (show decode cX10_start 15 = .ok (.aaload, 1) by decide +kernel))),
  List.forall_mem_cons.mpr ⟨(xOK_pure (xs_astore_n (k := 3) rfl (show decode cX10_start 16 = .ok (.astore_n 3, 1) by decide +kernel) (by decide))),
  List.forall_mem_cons.mpr ⟨(xOK_pure (xs_aload_n (k := 0) rfl (show decode cX10_start 17 = .ok (.aload_n 0, 1) by decide +kernel))),
  List.forall_mem_cons.mpr ⟨(xOK_pure (xs_getf xcl_10 (by decide) (show decode cX10_start 18 = .ok (.getfield 38, 3) by decide +kernel) xw_315)),
  List.forall_mem_cons.mpr ⟨(xOK_pure (xs_aload_n (k := 2) rfl (show decode cX10_start 21 = .ok (.aload_n 2, 1) by decide +kernel))),
  List.forall_mem_cons.mpr ⟨(xOK_pure (xs_getf xcl_1 (by decide) (show decode cX10_start 22 = .ok (.getfield 176, 3) by decide +kernel) xw_1051)),
  List.forall_mem_cons.mpr ⟨(xOK_pure (xs_aald (t := 6) rfl (show decode cX10_start 25 = .ok (.aaload, 1) by decide +kernel))),
  List.forall_mem_cons.mpr ⟨(xOK_pure (xs_astore (show decode cX10_start 26 = .ok (.astore 4, 2) by decide +kernel) (by decide))),
  List.forall_mem_cons.mpr ⟨(xOK_pure (xs_aload_n (k := 0) rfl (show decode cX10_start 28 = .ok (.aload_n 0, 1) by decide +kernel))),
  List.forall_mem_cons.mpr ⟨(xOK_pure (xs_getf xcl_10 (by decide) (show decode cX10_start 29 = .ok (.getfield 65, 3) by decide +kernel) xw_301)),
  List.forall_mem_cons.mpr ⟨(xOK_pure (xs_getf xcl_2 (by decide) (show decode cX10_start 32 = .ok (.getfield 164, 3) by decide +kernel) xw_174)),
  (fun _ h => absurd h List.not_mem_nil)⟩⟩⟩⟩⟩⟩⟩⟩⟩⟩⟩⟩⟩⟩⟩⟩⟩⟩⟩⟩
def pX10_start_1 (ev : xEv) : List (Nat × xEn) := [(35, .inl (xop (xf_aload 2 1))), (36, .inl (xop (xf_getf 1 2))), (39, .inl (xop (xf_aald (ev.1 4)))), (40, .inl (xop (xf_astore 5 2))), (42, .inl (xop (xf_aload 3 1))), (43, .inl (xop (xf_getf 6 8))), (46, .inl (xop (xf_istore 6 2))), (48, .inl (xop (xf_aload 0 1))), (49, .inl (xop (xf_aload 2 1))), (50, .inl (xop (xf_getf 1 0))), (53, .inl (xop (xf_aload 5 2))), (55, .inr (.inl (0, 107, 2, 10))), (58, .inl (xop (xf_aload 2 1))), (59, .inl (xop (xf_aload 0 1))), (60, .inl (xop (xf_getf 10 13))), (63, .inl (xop (xf_iload 6 2))), (65, .inr (.inl (0, 12, 2, 1))), (68, .inl (xop (xf_aload 3 1))), (69, .inl (xop (xf_iload 1 1))), (70, .inl (xop (xf_aload 2 1)))]
set_option maxRecDepth 20000 in
theorem okpX10_start_1 (ev : xEv) : ∀ q ∈ pX10_start_1 ev, xEnOK ev xmi yX10_start.cls yX10_start.name cX10_start 7 none q :=
  List.forall_mem_cons.mpr ⟨(xOK_pure (xs_aload_n (k := 2) rfl (show decode cX10_start 35 = .ok (.aload_n 2, 1) by decide +kernel))),
  List.forall_mem_cons.mpr ⟨(xOK_pure (xs_getf xcl_1 (by decide) (show decode cX10_start 36 = .ok (.getfield 170, 3) by decide +kernel) xw_1054)),
  List.forall_mem_cons.mpr ⟨(xOK_pure (xs_aald (t := 4) rfl (show decode cX10_start 39 = .ok (.aaload, 1) by decide +kernel))),
  List.forall_mem_cons.mpr ⟨(xOK_pure (xs_astore (show decode cX10_start 40 = .ok (.astore 5, 2) by decide +kernel) (by decide))),
  List.forall_mem_cons.mpr ⟨(xOK_pure (xs_aload_n (k := 3) rfl (show decode cX10_start 42 = .ok (.aload_n 3, 1) by decide +kernel))),
  List.forall_mem_cons.mpr ⟨(xOK_pure (xs_getf xcl_6 (by decide) (show decode cX10_start 43 = .ok (.getfield 173, 3) by decide +kernel) xw_616)),
  List.forall_mem_cons.mpr ⟨(xOK_pure (xs_istore (show decode cX10_start 46 = .ok (.istore 6, 2) by decide +kernel) (by decide))),
  List.forall_mem_cons.mpr ⟨(xOK_pure (xs_aload_n (k := 0) rfl (show decode cX10_start 48 = .ok (.aload_n 0, 1) by decide +kernel))),
  List.forall_mem_cons.mpr ⟨(xOK_pure (xs_aload_n (k := 2) rfl (show decode cX10_start 49 = .ok (.aload_n 2, 1) by decide +kernel))),
  List.forall_mem_cons.mpr ⟨(xOK_pure (xs_getf xcl_1 (by decide) (show decode cX10_start 50 = .ok (.getfield 161, 3) by decide +kernel) xw_1048)),
  List.forall_mem_cons.mpr ⟨(xOK_pure (xs_aload (show decode cX10_start 53 = .ok (.aload 5, 2) by decide +kernel))),
  List.forall_mem_cons.mpr ⟨(xcm mi_107 ⟨⟨(by decide +kernel), (by decide +kernel), (by decide +kernel)⟩, (by decide), xw_1207, xw_120, Or.inl ⟨rfl, _, _, _, _, (show decode cX10_start 55 = .ok (.invokevirtual 271, 3) by decide +kernel), xw_1204, xw_1206, xw_33, rfl⟩⟩),
  List.forall_mem_cons.mpr ⟨(xOK_pure (xs_aload_n (k := 2) rfl (show decode cX10_start 58 = .ok (.aload_n 2, 1) by decide +kernel))),
  List.forall_mem_cons.mpr ⟨(xOK_pure (xs_aload_n (k := 0) rfl (show decode cX10_start 59 = .ok (.aload_n 0, 1) by decide +kernel))),
  List.forall_mem_cons.mpr ⟨(xOK_pure (xs_getf xcl_10 (by decide) (show decode cX10_start 60 = .ok (.getfield 69, 3) by decide +kernel) xw_328)),
  List.forall_mem_cons.mpr ⟨(xOK_pure (xs_iload (show decode cX10_start 63 = .ok (.iload 6, 2) by decide +kernel))),
  List.forall_mem_cons.mpr ⟨(xcm mi_12 ⟨⟨(by decide +kernel), (by decide +kernel), (by decide +kernel)⟩, (by decide), xw_1220, xw_141, Or.inl ⟨rfl, _, _, _, _, (show decode cX10_start 65 = .ok (.invokevirtual 275, 3) by decide +kernel), xw_1217, xw_1218, xw_1219, rfl⟩⟩),
  List.forall_mem_cons.mpr ⟨(xOK_pure (xs_aload_n (k := 3) rfl (show decode cX10_start 68 = .ok (.aload_n 3, 1) by decide +kernel))),
  List.forall_mem_cons.mpr ⟨(xOK_pure (xs_iload_n (k := 1) rfl (show decode cX10_start 69 = .ok (.iload_n 1, 1) by decide +kernel))),
  List.forall_mem_cons.mpr ⟨(xOK_pure (xs_aload_n (k := 2) rfl (show decode cX10_start 70 = .ok (.aload_n 2, 1) by decide +kernel))),
  (fun _ h => absurd h List.not_mem_nil)⟩⟩⟩⟩⟩⟩⟩⟩⟩⟩⟩⟩⟩⟩⟩⟩⟩⟩⟩⟩
def pX10_start_2 (ev : xEv) : List (Nat × xEn) := [(71, .inl (xop (xf_aload 5 2))), (73, .inr (.inl (0, 70, 3, 6))), (76, .inl (xop (xf_aload 4 2))), (78, .inl (xop (xf_push (.int (-1)) 1))), (79, .inl (xo_putf 5 0 .int)), (82, .inl (xop (xf_aload 4 2))), (84, .inl (xop (xf_aload 2 1))), (85, .inl (xop (xf_getf 1 0))), (88, .inl (xo_putf 5 1 .int)), (91, .inr (.inr 0))]
set_option maxRecDepth 20000 in
theorem okpX10_start_2 (ev : xEv) : ∀ q ∈ pX10_start_2 ev, xEnOK ev xmi yX10_start.cls yX10_start.name cX10_start 7 none q :=
  List.forall_mem_cons.mpr ⟨(xOK_pure (xs_aload (show decode cX10_start 71 = .ok (.aload 5, 2) by decide +kernel))),
  List.forall_mem_cons.mpr ⟨(xcm mi_70 ⟨⟨(by decide +kernel), (by decide +kernel), (by decide +kernel)⟩, (by decide), xw_1224, xw_132, Or.inl ⟨rfl, _, _, _, _, (show decode cX10_start 73 = .ok (.invokevirtual 278, 3) by decide +kernel), xw_1221, xw_1222, xw_1223, rfl⟩⟩),
  List.forall_mem_cons.mpr ⟨(xOK_pure (xs_aload (show decode cX10_start 76 = .ok (.aload 4, 2) by decide +kernel))),
  List.forall_mem_cons.mpr ⟨(xOK_pure (xs_iconst (n := (-1)) (show decode cX10_start 78 = .ok (.iconst (-1), 1) by decide +kernel) (by decide))),
  List.forall_mem_cons.mpr ⟨(xs_putf (k := 0) xcl_5 (by decide) rfl (show decode cX10_start 79 = .ok (.putfield 179, 3) by decide +kernel) xw_713),
  List.forall_mem_cons.mpr ⟨(xOK_pure (xs_aload (show decode cX10_start 82 = .ok (.aload 4, 2) by decide +kernel))),
  List.forall_mem_cons.mpr ⟨(xOK_pure (xs_aload_n (k := 2) rfl (show decode cX10_start 84 = .ok (.aload_n 2, 1) by decide +kernel))),
  List.forall_mem_cons.mpr ⟨(xOK_pure (xs_getf xcl_1 (by decide) (show decode cX10_start 85 = .ok (.getfield 161, 3) by decide +kernel) xw_1048)),
  List.forall_mem_cons.mpr ⟨(xs_putf (k := 1) xcl_5 (by decide) rfl (show decode cX10_start 88 = .ok (.putfield 282, 3) by decide +kernel) xw_716),
  List.forall_mem_cons.mpr ⟨(Or.inl ⟨rfl, (show decode cX10_start 91 = .ok (.return_, 1) by decide +kernel), rfl⟩),
  (fun _ h => absurd h List.not_mem_nil)⟩⟩⟩⟩⟩⟩⟩⟩⟩⟩
def pX10_start (ev : xEv) : List (Nat × xEn) := pX10_start_0 ev ++ (pX10_start_1 ev ++ (pX10_start_2 ev))
theorem okpX10_start (ev : xEv) : ∀ q ∈ pX10_start ev, xEnOK ev xmi yX10_start.cls yX10_start.name cX10_start 7 none q := List.forall_mem_append.mpr ⟨okpX10_start_0 ev, List.forall_mem_append.mpr ⟨okpX10_start_1 ev, okpX10_start_2 ev⟩⟩
theorem omX10_start (ev : xEv) : xMethOK ev xmi yX10_start.cls yX10_start.name 106 (pX10_start ev) := xMethOK.of mi_106 (by decide +kernel) (okpX10_start ev)
def pX10_takeBags_0 (ev : xEv) : List (Nat × xEn) := [(0, .inl (xop (xf_aload 0 1))), (1, .inl (xop (xf_getf 10 4))), (4, .inl (xop (xf_iload 1 1))), (5, .inl (xop (xf_aald (ev.1 5)))), (6, .inl (xop (xf_astore 3 1))), (7, .inl (xop (xf_aload 2 1))), (8, .inl (xop (xf_aload 3 1))), (9, .inl (xop (xf_getf 6 8))), (12, .inl (xop (xf_aload 2 1))), (13, .inl (xop (xf_getf 3 0))), (16, .inl (xop (xf_icmp_ne 23))), (19, .inl (xop (xf_push (.int 1) 1))), (20, .inl (xop (xf_goto 24))), (23, .inl (xop (xf_push (.int 0) 1))), (24, .inr (.inl (0, 36, 1, 3))), (27, .inl (xop (xf_istore 4 2))), (29, .inl (xop (xf_aload 0 1))), (30, .inl (xop (xf_aload 3 1))), (31, .inl (xop (xf_aload 2 1))), (32, .inr (.inl (0, 103, 2, 10)))]
set_option maxRecDepth 20000 in
theorem okpX10_takeBags_0 (ev : xEv) : ∀ q ∈ pX10_takeBags_0 ev, xEnOK ev xmi yX10_takeBags.cls yX10_takeBags.name cX10_takeBags 8 none q :=
  List.forall_mem_cons.mpr ⟨(xOK_pure (xs_aload_n (k := 0) rfl (show decode cX10_takeBags 0 = .ok (.aload_n 0, 1) by decide +kernel))),
  List.forall_mem_cons.mpr ⟨(xOK_pure (xs_getf xcl_10 (by decide) (show decode cX10_takeBags 1 = .ok (.getfield 32, 3) by decide +kernel) xw_309)),
  List.forall_mem_cons.mpr ⟨(xOK_pure (xs_iload_n (k := 1) rfl (show decode cX10_takeBags 4 = .ok (.iload_n 1, 1) by decide +kernel))),
  List.forall_mem_cons.mpr ⟨(xOK_pure (xs_aald (t := 5) rfl (show decode cX10_takeBags 5 = .ok (.aaload, 1) by decide +kernel))),
  List.forall_mem_cons.mpr ⟨(xOK_pure (xs_astore_n (k := 3) rfl (show decode cX10_takeBags 6 = .ok (.astore_n 3, 1) by decide +kernel) (by decide))),
  List.forall_mem_cons.mpr ⟨(xOK_pure (xs_aload_n (k := 2) rfl (show decode cX10_takeBags 7 = .ok (.aload_n 2, 1) by decide +kernel))),
  List.forall_mem_cons.mpr ⟨(xOK_pure (xs_aload_n (k := 3) rfl (show decode cX10_takeBags 8 = .ok (.aload_n 3, 1) by decide +kernel))),
  List.forall_mem_cons.mpr ⟨(xOK_pure (xs_getf xcl_6 (by decide) (show decode cX10_takeBags 9 = .ok (.getfield 173, 3) by decide +kernel) xw_616)),
  List.forall_mem_cons.mpr ⟨(xOK_pure (xs_aload_n (k := 2) rfl (show decode cX10_takeBags 12 = .ok (.aload_n 2, 1) by decide +kernel))),
  List.forall_mem_cons.mpr ⟨(xOK_pure (xs_getf xcl_3 (by decide) (show decode cX10_takeBags 13 = .ok (.getfield 221, 3) by decide +kernel) xw_508)),
  List.forall_mem_cons.mpr ⟨(xOK_pure (xs_icmp_ne (show decode cX10_takeBags 16 = .ok (.if_icmp .ne 7, 3) by decide +kernel) (by decide))),
  List.forall_mem_cons.mpr ⟨(xOK_pure (xs_iconst (n := 1) (show decode cX10_takeBags 19 = .ok (.iconst 1, 1) by decide +kernel) (by decide))),
  List.forall_mem_cons.mpr ⟨(xOK_pure (xs_goto (show decode cX10_takeBags 20 = .ok (.goto 4, 3) by decide +kernel) (by decide))),
  List.forall_mem_cons.mpr ⟨(xOK_pure (xs_iconst (n := 0) (show decode cX10_takeBags 23 = .ok (.iconst 0, 1) by decide +kernel) (by decide))),
  List.forall_mem_cons.mpr ⟨(xcm mi_36 ⟨⟨(by decide +kernel), (by decide +kernel), (by decide +kernel)⟩, (by decide), xw_1175, xw_126, Or.inl ⟨rfl, _, _, _, _, (show decode cX10_takeBags 24 = .ok (.invokevirtual 250, 3) by decide +kernel), xw_1172, xw_1173, xw_1174, rfl⟩⟩),
  List.forall_mem_cons.mpr ⟨(xOK_pure (xs_istore (show decode cX10_takeBags 27 = .ok (.istore 4, 2) by decide +kernel) (by decide))),
  List.forall_mem_cons.mpr ⟨(xOK_pure (xs_aload_n (k := 0) rfl (show decode cX10_takeBags 29 = .ok (.aload_n 0, 1) by decide +kernel))),
  List.forall_mem_cons.mpr ⟨(xOK_pure (xs_aload_n (k := 3) rfl (show decode cX10_takeBags 30 = .ok (.aload_n 3, 1) by decide +kernel))),
  List.forall_mem_cons.mpr ⟨(xOK_pure (xs_aload_n (k := 2) rfl (show decode cX10_takeBags 31 = .ok (.aload_n 2, 1) by decide +kernel))),
  List.forall_mem_cons.mpr ⟨(xcm mi_103 ⟨⟨(by decide +kernel), (by decide +kernel), (by decide +kernel)⟩, (by decide), xw_1159, xw_120, Or.inl ⟨rfl, _, _, _, _, (show decode cX10_takeBags 32 = .ok (.invokevirtual 205, 3) by decide +kernel), xw_1156, xw_1158, xw_29, rfl⟩⟩),
  (fun _ h => absurd h List.not_mem_nil)⟩⟩⟩⟩⟩⟩⟩⟩⟩⟩⟩⟩⟩⟩⟩⟩⟩⟩⟩⟩
def pX10_takeBags_1 (ev : xEv) : List (Nat × xEn) := [(35, .inl (xop (xf_istore 5 2))), (37, .inl (xop (xf_push (.int 0) 1))), (38, .inl (xop (xf_istore 6 2))), (40, .inl (xop (xf_iload 6 2))), (42, .inl (xop (xf_aload 0 1))), (43, .inl (xop (xf_getf 10 9))), (46, .inl (xop (xf_icmp_ge 123))), (49, .inl (xop (xf_aload 0 1))), (50, .inl (xop (xf_getf 10 8))), (53, .inl (xop (xf_aload 0 1))), (54, .inl (xop (xf_getf 10 10))), (57, .inl (xop (xf_iload 6 2))), (59, .inl (xop (xf_ald (ev.1 0)))), (60, .inl (xop (xf_aald (ev.1 7)))), (61, .inl (xop (xf_astore 7 2))), (63, .inl (xop (xf_aload 7 2))), (65, .inl (xop (xf_getf 0 5))), (68, .inl (xop (xf_aload 3 1))), (69, .inl (xop (xf_getf 6 8))), (72, .inl (xop (xf_icmp_ne 117)))]
set_option maxRecDepth 20000 in
theorem okpX10_takeBags_1 (ev : xEv) : ∀ q ∈ pX10_takeBags_1 ev, xEnOK ev xmi yX10_takeBags.cls yX10_takeBags.name cX10_takeBags 8 none q :=
  List.forall_mem_cons.mpr ⟨(xOK_pure (xs_istore (show decode cX10_takeBags 35 = .ok (.istore 5, 2) by decide +kernel) (by decide))),
  List.forall_mem_cons.mpr ⟨(xOK_pure (xs_iconst (n := 0) (show decode cX10_takeBags 37 = .ok (.iconst 0, 1) by decide +kernel) (by decide))),
  List.forall_mem_cons.mpr ⟨(xOK_pure (xs_istore (show decode cX10_takeBags 38 = .ok (.istore 6, 2) by decide +kernel) (by decide))),
  List.forall_mem_cons.mpr ⟨(xOK_pure (xs_iload (show decode cX10_takeBags 40 = .ok (.iload 6, 2) by decide +kernel))),
  List.forall_mem_cons.mpr ⟨(xOK_pure (xs_aload_n (k := 0) rfl (show decode cX10_takeBags 42 = .ok (.aload_n 0, 1) by decide +kernel))),
  List.forall_mem_cons.mpr ⟨(xOK_pure (xs_getf xcl_10 (by decide) (show decode cX10_takeBags 43 = .ok (.getfield 79, 3) by decide +kernel) xw_321)),
  List.forall_mem_cons.mpr ⟨(xOK_pure (xs_icmp_ge (show decode cX10_takeBags 46 = .ok (.if_icmp .ge 77, 3) by decide +kernel) (by decide))),
  List.forall_mem_cons.mpr ⟨(xOK_pure (xs_aload_n (k := 0) rfl (show decode cX10_takeBags 49 = .ok (.aload_n 0, 1) by decide +kernel))),
  List.forall_mem_cons.mpr ⟨(xOK_pure (xs_getf xcl_10 (by decide) (show decode cX10_takeBags 50 = .ok (.getfield 44, 3) by decide +kernel) xw_319)),
  List.forall_mem_cons.mpr ⟨(xOK_pure (xs_aload_n (k := 0) rfl (show decode cX10_takeBags 53 = .ok (.aload_n 0, 1) by decide +kernel))),
  List.forall_mem_cons.mpr ⟨(xOK_pure (xs_getf xcl_10 (by decide) (show decode cX10_takeBags 54 = .ok (.getfield 48, 3) by decide +kernel) xw_323)),
  List.forall_mem_cons.mpr ⟨(xOK_pure (xs_iload (show decode cX10_takeBags 57 = .ok (.iload 6, 2) by decide +kernel))),
  List.forall_mem_cons.mpr ⟨(xOK_pure (xs_iald (show decode cX10_takeBags 59 = .ok (.iaload, 1) by decide +kernel))),
  List.forall_mem_cons.mpr ⟨(xOK_pure (xs_aald (t := 7) rfl (show decode cX10_takeBags 60 = .ok (.aaload, 1) by decide +kernel))),
  List.forall_mem_cons.mpr ⟨(xOK_pure (xs_astore (show decode cX10_takeBags 61 = .ok (.astore 7, 2) by decide +kernel) (by decide))),
  List.forall_mem_cons.mpr ⟨(xOK_pure (xs_aload (show decode cX10_takeBags 63 = .ok (.aload 7, 2) by decide +kernel))),
  List.forall_mem_cons.mpr ⟨(xOK_pure (xs_getf xcl_0 (by decide) (show decode cX10_takeBags 65 = .ok (.getfield 283, 3) by decide +kernel) xw_764)),
  List.forall_mem_cons.mpr ⟨(xOK_pure (xs_aload_n (k := 3) rfl (show decode cX10_takeBags 68 = .ok (.aload_n 3, 1) by decide +kernel))),
  List.forall_mem_cons.mpr ⟨(xOK_pure (xs_getf xcl_6 (by decide) (show decode cX10_takeBags 69 = .ok (.getfield 173, 3) by decide +kernel) xw_616)),
  List.forall_mem_cons.mpr ⟨(xOK_pure (xs_icmp_ne (show decode cX10_takeBags 72 = .ok (.if_icmp .ne 45, 3) by decide +kernel) (by decide))),
  (fun _ h => absurd h List.not_mem_nil)⟩⟩⟩⟩⟩⟩⟩⟩⟩⟩⟩⟩⟩⟩⟩⟩⟩⟩⟩⟩
def pX10_takeBags_2 (ev : xEv) : List (Nat × xEn) := [(75, .inl (xop (xf_aload 7 2))), (77, .inl (xop (xf_getf 0 2))), (80, .inl (xop (xf_iload 5 2))), (82, .inl (xop (xf_icmp_gt 117))), (85, .inl (xop (xf_aload 0 1))), (86, .inl (xop (xf_aload 7 2))), (88, .inl (xop (xf_aload 2 1))), (89, .inl (xop (xf_iload 4 2))), (91, .inr (.inl (0, 108, 3, 10))), (94, .inl (xop (xf_if_eq 117))), (97, .inl (xop (xf_aload 7 2))), (99, .inl (xop (xf_iload 1 1))), (100, .inl (xop (xf_aload 0 1))), (101, .inl (xop (xf_getf 10 13))), (104, .inr (.inl (0, 4, 2, 0))), (107, .inl (xop (xf_iload 5 2))), (109, .inl (xop (xf_aload 7 2))), (111, .inl (xop (xf_getf 0 2))), (114, .inl (xop (xf_bin (fun x y => x - y)))), (115, .inl (xop (xf_istore 5 2)))]
set_option maxRecDepth 20000 in
theorem okpX10_takeBags_2 (ev : xEv) : ∀ q ∈ pX10_takeBags_2 ev, xEnOK ev xmi yX10_takeBags.cls yX10_takeBags.name cX10_takeBags 8 none q :=
  List.forall_mem_cons.mpr ⟨(xOK_pure (xs_aload (show decode cX10_takeBags 75 = .ok (.aload 7, 2) by decide +kernel))),
  List.forall_mem_cons.mpr ⟨(xOK_pure (xs_getf xcl_0 (by decide) (show decode cX10_takeBags 77 = .ok (.getfield 284, 3) by decide +kernel) xw_759)),
  List.forall_mem_cons.mpr ⟨(xOK_pure (xs_iload (show decode cX10_takeBags 80 = .ok (.iload 5, 2) by decide +kernel))),
  List.forall_mem_cons.mpr ⟨(xOK_pure (xs_icmp_gt (show decode cX10_takeBags 82 = .ok (.if_icmp .gt 35, 3) by decide +kernel) (by decide))),
  List.forall_mem_cons.mpr ⟨(xOK_pure (xs_aload_n (k := 0) rfl (show decode cX10_takeBags 85 = .ok (.aload_n 0, 1) by decide +kernel))),
  List.forall_mem_cons.mpr ⟨(xOK_pure (xs_aload (show decode cX10_takeBags 86 = .ok (.aload 7, 2) by decide +kernel))),
  List.forall_mem_cons.mpr ⟨(xOK_pure (xs_aload_n (k := 2) rfl (show decode cX10_takeBags 88 = .ok (.aload_n 2, 1) by decide +kernel))),
  List.forall_mem_cons.mpr ⟨(xOK_pure (xs_iload (show decode cX10_takeBags 89 = .ok (.iload 4, 2) by decide +kernel))),
  List.forall_mem_cons.mpr ⟨(xcm mi_108 ⟨⟨(by decide +kernel), (by decide +kernel), (by decide +kernel)⟩, (by decide), xw_1211, xw_120, Or.inl ⟨rfl, _, _, _, _, (show decode cX10_takeBags 91 = .ok (.invokevirtual 287, 3) by decide +kernel), xw_1208, xw_1210, xw_34, rfl⟩⟩),
  List.forall_mem_cons.mpr ⟨(xOK_pure (xs_if_eq (show decode cX10_takeBags 94 = .ok (.ifCond .eq 23, 3) by decide +kernel) (by decide))),
  List.forall_mem_cons.mpr ⟨(xOK_pure (xs_aload (show decode cX10_takeBags 97 = .ok (.aload 7, 2) by decide +kernel))),
  List.forall_mem_cons.mpr ⟨(xOK_pure (xs_iload_n (k := 1) rfl (show decode cX10_takeBags 99 = .ok (.iload_n 1, 1) by decide +kernel))),
  List.forall_mem_cons.mpr ⟨(xOK_pure (xs_aload_n (k := 0) rfl (show decode cX10_takeBags 100 = .ok (.aload_n 0, 1) by decide +kernel))),
  List.forall_mem_cons.mpr ⟨(xOK_pure (xs_getf xcl_10 (by decide) (show decode cX10_takeBags 101 = .ok (.getfield 69, 3) by decide +kernel) xw_328)),
  List.forall_mem_cons.mpr ⟨(xcm mi_4 ⟨⟨(by decide +kernel), (by decide +kernel), (by decide +kernel)⟩, (by decide), xw_1216, xw_134, Or.inl ⟨rfl, _, _, _, _, (show decode cX10_takeBags 104 = .ok (.invokevirtual 291, 3) by decide +kernel), xw_1213, xw_1214, xw_1215, rfl⟩⟩),
  List.forall_mem_cons.mpr ⟨(xOK_pure (xs_iload (show decode cX10_takeBags 107 = .ok (.iload 5, 2) by decide +kernel))),
  List.forall_mem_cons.mpr ⟨(xOK_pure (xs_aload (show decode cX10_takeBags 109 = .ok (.aload 7, 2) by decide +kernel))),
  List.forall_mem_cons.mpr ⟨(xOK_pure (xs_getf xcl_0 (by decide) (show decode cX10_takeBags 111 = .ok (.getfield 284, 3) by decide +kernel) xw_759)),
  List.forall_mem_cons.mpr ⟨(xOK_pure (xs_isub (show decode cX10_takeBags 114 = .ok (.isub, 1) by decide +kernel))),
  List.forall_mem_cons.mpr ⟨(xOK_pure (xs_istore (show decode cX10_takeBags 115 = .ok (.istore 5, 2) by decide +kernel) (by decide))),
  (fun _ h => absurd h List.not_mem_nil)⟩⟩⟩⟩⟩⟩⟩⟩⟩⟩⟩⟩⟩⟩⟩⟩⟩⟩⟩⟩
def pX10_takeBags_3 (ev : xEv) : List (Nat × xEn) := [(117, .inl (xop (xf_iinc 6 1))), (120, .inl (xop (xf_goto 40))), (123, .inr (.inr 0))]
set_option maxRecDepth 20000 in
theorem okpX10_takeBags_3 (ev : xEv) : ∀ q ∈ pX10_takeBags_3 ev, xEnOK ev xmi yX10_takeBags.cls yX10_takeBags.name cX10_takeBags 8 none q :=
  List.forall_mem_cons.mpr ⟨(xOK_pure (xs_iinc (n := 1) (show decode cX10_takeBags 117 = .ok (.iinc 6 1, 3) by decide +kernel) (by decide) (by decide))),
  List.forall_mem_cons.mpr ⟨(xOK_pure (xs_goto (show decode cX10_takeBags 120 = .ok (.goto (-80), 3) by decide +kernel) (by decide))),
  List.forall_mem_cons.mpr ⟨(Or.inl ⟨rfl, (show decode cX10_takeBags 123 = .ok (.return_, 1) by decide +kernel), rfl⟩),
  (fun _ h => absurd h List.not_mem_nil)⟩⟩⟩
def pX10_takeBags (ev : xEv) : List (Nat × xEn) := pX10_takeBags_0 ev ++ (pX10_takeBags_1 ev ++ (pX10_takeBags_2 ev ++ (pX10_takeBags_3 ev)))
theorem okpX10_takeBags (ev : xEv) : ∀ q ∈ pX10_takeBags ev, xEnOK ev xmi yX10_takeBags.cls yX10_takeBags.name cX10_takeBags 8 none q := List.forall_mem_append.mpr ⟨okpX10_takeBags_0 ev, List.forall_mem_append.mpr ⟨okpX10_takeBags_1 ev, List.forall_mem_append.mpr ⟨okpX10_takeBags_2 ev, okpX10_takeBags_3 ev⟩⟩⟩
theorem omX10_takeBags (ev : xEv) : xMethOK ev xmi yX10_takeBags.cls yX10_takeBags.name 107 (pX10_takeBags ev) := xMethOK.of mi_107 (by decide +kernel) (okpX10_takeBags ev)
def pX10_goesBy_0 (ev : xEv) : List (Nat × xEn) := [(0, .inl (xop (xf_aload 0 1))), (1, .inl (xop (xf_getf 10 0))), (4, .inl (xop (xf_iload 3 1))), (5, .inl (xop (xf_aload 1 1))), (6, .inl (xop (xf_getf 0 1))), (9, .inr (.inl (0, 20, 2, 2))), (12, .inl (xop (xf_istore 4 2))), (14, .inl (xop (xf_iload 3 1))), (15, .inl (xop (xf_aload 1 1))), (16, .inl (xop (xf_getf 0 1))), (19, .inl (xop (xf_icmp_eq 47))), (22, .inl (xop (xf_iload 4 2))), (24, .inl (xop (xf_aload 2 1))), (25, .inl (xop (xf_getf 3 2))), (28, .inl (xop (xf_bin (fun x y => x + y)))), (29, .inl (xop (xf_aload 0 1))), (30, .inl (xop (xf_getf 10 0))), (33, .inl (xop (xf_aload 1 1))), (34, .inl (xop (xf_getf 0 5))), (37, .inl (xop (xf_aload 1 1)))]
set_option maxRecDepth 20000 in
theorem okpX10_goesBy_0 (ev : xEv) : ∀ q ∈ pX10_goesBy_0 ev, xEnOK ev xmi yX10_goesBy.cls yX10_goesBy.name cX10_goesBy 5 (some .boolean) q :=
  List.forall_mem_cons.mpr ⟨(xOK_pure (xs_aload_n (k := 0) rfl (show decode cX10_goesBy 0 = .ok (.aload_n 0, 1) by decide +kernel))),
  List.forall_mem_cons.mpr ⟨(xOK_pure (xs_getf xcl_10 (by decide) (show decode cX10_goesBy 1 = .ok (.getfield 65, 3) by decide +kernel) xw_301)),
  List.forall_mem_cons.mpr ⟨(xOK_pure (xs_iload_n (k := 3) rfl (show decode cX10_goesBy 4 = .ok (.iload_n 3, 1) by decide +kernel))),
  List.forall_mem_cons.mpr ⟨(xOK_pure (xs_aload_n (k := 1) rfl (show decode cX10_goesBy 5 = .ok (.aload_n 1, 1) by decide +kernel))),
  List.forall_mem_cons.mpr ⟨(xOK_pure (xs_getf xcl_0 (by decide) (show decode cX10_goesBy 6 = .ok (.getfield 136, 3) by decide +kernel) xw_756)),
  List.forall_mem_cons.mpr ⟨(xcm mi_20 ⟨⟨(by decide +kernel), (by decide +kernel), (by decide +kernel)⟩, (by decide), xw_539, xw_119, Or.inl ⟨rfl, _, _, _, _, (show decode cX10_goesBy 9 = .ok (.invokevirtual 294, 3) by decide +kernel), xw_1212, xw_537, xw_538, rfl⟩⟩),
  List.forall_mem_cons.mpr ⟨(xOK_pure (xs_istore (show decode cX10_goesBy 12 = .ok (.istore 4, 2) by decide +kernel) (by decide))),
  List.forall_mem_cons.mpr ⟨(xOK_pure (xs_iload_n (k := 3) rfl (show decode cX10_goesBy 14 = .ok (.iload_n 3, 1) by decide +kernel))),
  List.forall_mem_cons.mpr ⟨(xOK_pure (xs_aload_n (k := 1) rfl (show decode cX10_goesBy 15 = .ok (.aload_n 1, 1) by decide +kernel))),
  List.forall_mem_cons.mpr ⟨(xOK_pure (xs_getf xcl_0 (by decide) (show decode cX10_goesBy 16 = .ok (.getfield 136, 3) by decide +kernel) xw_756)),
  List.forall_mem_cons.mpr ⟨(xOK_pure (xs_icmp_eq (show decode cX10_goesBy 19 = .ok (.if_icmp .eq 28, 3) by decide +kernel) (by decide))),
  List.forall_mem_cons.mpr ⟨(xOK_pure (xs_iload (show decode cX10_goesBy 22 = .ok (.iload 4, 2) by decide +kernel))),
  List.forall_mem_cons.mpr ⟨(xOK_pure (xs_aload_n (k := 2) rfl (show decode cX10_goesBy 24 = .ok (.aload_n 2, 1) by decide +kernel))),
  List.forall_mem_cons.mpr ⟨(xOK_pure (xs_getf xcl_3 (by decide) (show decode cX10_goesBy 25 = .ok (.getfield 244, 3) by decide +kernel) xw_514)),
  List.forall_mem_cons.mpr ⟨(xOK_pure (xs_iadd (show decode cX10_goesBy 28 = .ok (.iadd, 1) by decide +kernel))),
  List.forall_mem_cons.mpr ⟨(xOK_pure (xs_aload_n (k := 0) rfl (show decode cX10_goesBy 29 = .ok (.aload_n 0, 1) by decide +kernel))),
  List.forall_mem_cons.mpr ⟨(xOK_pure (xs_getf xcl_10 (by decide) (show decode cX10_goesBy 30 = .ok (.getfield 65, 3) by decide +kernel) xw_301)),
  List.forall_mem_cons.mpr ⟨(xOK_pure (xs_aload_n (k := 1) rfl (show decode cX10_goesBy 33 = .ok (.aload_n 1, 1) by decide +kernel))),
  List.forall_mem_cons.mpr ⟨(xOK_pure (xs_getf xcl_0 (by decide) (show decode cX10_goesBy 34 = .ok (.getfield 283, 3) by decide +kernel) xw_764)),
  List.forall_mem_cons.mpr ⟨(xOK_pure (xs_aload_n (k := 1) rfl (show decode cX10_goesBy 37 = .ok (.aload_n 1, 1) by decide +kernel))),
  (fun _ h => absurd h List.not_mem_nil)⟩⟩⟩⟩⟩⟩⟩⟩⟩⟩⟩⟩⟩⟩⟩⟩⟩⟩⟩⟩
def pX10_goesBy_1 (ev : xEv) : List (Nat × xEn) := [(38, .inl (xop (xf_getf 0 1))), (41, .inr (.inl (0, 20, 2, 2))), (44, .inl (xop (xf_icmp_ne 51))), (47, .inl (xop (xf_push (.int 1) 1))), (48, .inl (xop (xf_goto 52))), (51, .inl (xop (xf_push (.int 0) 1))), (52, .inr (.inr 4))]
set_option maxRecDepth 20000 in
theorem okpX10_goesBy_1 (ev : xEv) : ∀ q ∈ pX10_goesBy_1 ev, xEnOK ev xmi yX10_goesBy.cls yX10_goesBy.name cX10_goesBy 5 (some .boolean) q :=
  List.forall_mem_cons.mpr ⟨(xOK_pure (xs_getf xcl_0 (by decide) (show decode cX10_goesBy 38 = .ok (.getfield 136, 3) by decide +kernel) xw_756)),
  List.forall_mem_cons.mpr ⟨(xcm mi_20 ⟨⟨(by decide +kernel), (by decide +kernel), (by decide +kernel)⟩, (by decide), xw_539, xw_119, Or.inl ⟨rfl, _, _, _, _, (show decode cX10_goesBy 41 = .ok (.invokevirtual 294, 3) by decide +kernel), xw_1212, xw_537, xw_538, rfl⟩⟩),
  List.forall_mem_cons.mpr ⟨(xOK_pure (xs_icmp_ne (show decode cX10_goesBy 44 = .ok (.if_icmp .ne 7, 3) by decide +kernel) (by decide))),
  List.forall_mem_cons.mpr ⟨(xOK_pure (xs_iconst (n := 1) (show decode cX10_goesBy 47 = .ok (.iconst 1, 1) by decide +kernel) (by decide))),
  List.forall_mem_cons.mpr ⟨(xOK_pure (xs_goto (show decode cX10_goesBy 48 = .ok (.goto 4, 3) by decide +kernel) (by decide))),
  List.forall_mem_cons.mpr ⟨(xOK_pure (xs_iconst (n := 0) (show decode cX10_goesBy 51 = .ok (.iconst 0, 1) by decide +kernel) (by decide))),
  List.forall_mem_cons.mpr ⟨(Or.inr (Or.inr (Or.inr (Or.inr (Or.inl ⟨rfl, (show decode cX10_goesBy 52 = .ok (.ireturn, 1) by decide +kernel), rfl⟩))))),
  (fun _ h => absurd h List.not_mem_nil)⟩⟩⟩⟩⟩⟩⟩
def pX10_goesBy (ev : xEv) : List (Nat × xEn) := pX10_goesBy_0 ev ++ (pX10_goesBy_1 ev)
theorem okpX10_goesBy (ev : xEv) : ∀ q ∈ pX10_goesBy ev, xEnOK ev xmi yX10_goesBy.cls yX10_goesBy.name cX10_goesBy 5 (some .boolean) q := List.forall_mem_append.mpr ⟨okpX10_goesBy_0 ev, okpX10_goesBy_1 ev⟩
theorem omX10_goesBy (ev : xEv) : xMethOK ev xmi yX10_goesBy.cls yX10_goesBy.name 108 (pX10_goesBy ev) := xMethOK.of mi_108 (by decide +kernel) (okpX10_goesBy ev)
def pX10_fly_0 (ev : xEv) : List (Nat × xEn) := [(0, .inl (xop (xf_aload 0 1))), (1, .inl (xop (xf_getf 10 4))), (4, .inl (xop (xf_iload 1 1))), (5, .inl (xop (xf_aald (ev.1 5)))), (6, .inl (xop (xf_astore 2 1))), (7, .inl (xop (xf_aload 0 1))), (8, .inl (xop (xf_getf 10 11))), (11, .inl (xop (xf_aload 2 1))), (12, .inl (xop (xf_getf 6 17))), (15, .inl (xop (xf_aald (ev.1 8)))), (16, .inl (xop (xf_astore 3 1))), (17, .inl (xop (xf_aload 0 1))), (18, .inl (xop (xf_getf 10 0))), (21, .inl (xop (xf_getf 2 4))), (24, .inl (xop (xf_aload 2 1))), (25, .inl (xop (xf_getf 6 9))), (28, .inl (xop (xf_aald (ev.1 4)))), (29, .inl (xop (xf_astore 4 2))), (31, .inl (xop (xf_aload 0 1))), (32, .inl (xop (xf_getf 10 6)))]
set_option maxRecDepth 20000 in
theorem okpX10_fly_0 (ev : xEv) : ∀ q ∈ pX10_fly_0 ev, xEnOK ev xmi yX10_fly.cls yX10_fly.name cX10_fly 9 none q :=
  List.forall_mem_cons.mpr ⟨(xOK_pure (xs_aload_n (k := 0) rfl (show decode cX10_fly 0 = .ok (.aload_n 0, 1) by decide +kernel))),
  List.forall_mem_cons.mpr ⟨(xOK_pure (xs_getf xcl_10 (by decide) (show decode cX10_fly 1 = .ok (.getfield 32, 3) by decide +kernel) xw_309)),
  List.forall_mem_cons.mpr ⟨(xOK_pure (xs_iload_n (k := 1) rfl (show decode cX10_fly 4 = .ok (.iload_n 1, 1) by decide +kernel))),
  List.forall_mem_cons.mpr ⟨(xOK_pure (xs_aald (t := 5) rfl (show decode cX10_fly 5 = .ok (.aaload, 1) by decide +kernel))),
  List.forall_mem_cons.mpr ⟨(xOK_pure (xs_astore_n (k := 2) rfl (show decode cX10_fly 6 = .ok (.astore_n 2, 1) by decide +kernel) (by decide))),
  List.forall_mem_cons.mpr ⟨(xOK_pure (xs_aload_n (k := 0) rfl (show decode cX10_fly 7 = .ok (.aload_n 0, 1) by decide +kernel))),
  List.forall_mem_cons.mpr ⟨(xOK_pure (xs_getf xcl_10 (by decide) (show decode cX10_fly 8 = .ok (.getfield 54, 3) by decide +kernel) xw_324)),
  List.forall_mem_cons.mpr ⟨(xOK_pure (xs_aload_n (k := 2) rfl (show decode cX10_fly 11 = .ok (.aload_n 2, 1) by decide +kernel))),
  List.forall_mem_cons.mpr ⟨(xOK_pure (xs_getf xcl_6 (by decide) (show decode cX10_fly 12 = .ok (.getfield 297, 3) by decide +kernel) xw_645)),
  List.forall_mem_cons.mpr ⟨(xOK_pure (xs_aald (t := 8) rfl (show decode cX10_fly 15 = .ok (.aaload, 1) by decide +kernel))),
  List.forall_mem_cons.mpr ⟨(xOK_pure (xs_astore_n (k := 3) rfl (show decode cX10_fly 16 = .ok (.astore_n 3, 1) by decide +kernel) (by decide))),
  List.forall_mem_cons.mpr ⟨(xOK_pure (xs_aload_n (k := 0) rfl (show decode cX10_fly 17 = .ok (.aload_n 0, 1) by decide +kernel))),
  List.forall_mem_cons.mpr ⟨(xOK_pure (xs_getf xcl_10 (by decide) (show decode cX10_fly 18 = .ok (.getfield 65, 3) by decide +kernel) xw_301)),
  List.forall_mem_cons.mpr ⟨(xOK_pure (xs_getf xcl_2 (by decide) (show decode cX10_fly 21 = .ok (.getfield 164, 3) by decide +kernel) xw_174)),
  List.forall_mem_cons.mpr ⟨(xOK_pure (xs_aload_n (k := 2) rfl (show decode cX10_fly 24 = .ok (.aload_n 2, 1) by decide +kernel))),
  List.forall_mem_cons.mpr ⟨(xOK_pure (xs_getf xcl_6 (by decide) (show decode cX10_fly 25 = .ok (.getfield 300, 3) by decide +kernel) xw_619)),
  List.forall_mem_cons.mpr ⟨(xOK_pure (xs_aald (t := 4) rfl (show decode cX10_fly 28 = .ok (.aaload, 1) by decide +kernel))),
  List.forall_mem_cons.mpr ⟨(xOK_pure (xs_astore (show decode cX10_fly 29 = .ok (.astore 4, 2) by decide +kernel) (by decide))),
  List.forall_mem_cons.mpr ⟨(xOK_pure (xs_aload_n (k := 0) rfl (show decode cX10_fly 31 = .ok (.aload_n 0, 1) by decide +kernel))),
  List.forall_mem_cons.mpr ⟨(xOK_pure (xs_getf xcl_10 (by decide) (show decode cX10_fly 32 = .ok (.getfield 38, 3) by decide +kernel) xw_315)),
  (fun _ h => absurd h List.not_mem_nil)⟩⟩⟩⟩⟩⟩⟩⟩⟩⟩⟩⟩⟩⟩⟩⟩⟩⟩⟩⟩
def pX10_fly_1 (ev : xEv) : List (Nat × xEn) := [(35, .inl (xop (xf_aload 2 1))), (36, .inl (xop (xf_getf 6 16))), (39, .inl (xop (xf_aald (ev.1 6)))), (40, .inl (xop (xf_astore 5 2))), (42, .inl (xop (xf_aload 2 1))), (43, .inl (xop xf_dup)), (44, .inl (xop (xf_getf 6 5))), (47, .inl (xop (xf_push (.int 1) 1))), (48, .inl (xop (xf_bin (fun x y => x + y)))), (49, .inl (xo_putf 6 5 .int)), (52, .inl (xop (xf_aload 5 2))), (54, .inl (xop xf_dup)), (55, .inl (xop (xf_getf 5 2))), (58, .inl (xop (xf_push (.int 1) 1))), (59, .inl (xop (xf_bin (fun x y => x + y)))), (60, .inl (xo_putf 5 2 .int)), (63, .inl (xop (xf_aload 2 1))), (64, .inl (xop xf_dup)), (65, .inl (xop (xf_getf 6 15))), (68, .inl (xop (xf_push (.int 1) 1)))]
set_option maxRecDepth 20000 in
theorem okpX10_fly_1 (ev : xEv) : ∀ q ∈ pX10_fly_1 ev, xEnOK ev xmi yX10_fly.cls yX10_fly.name cX10_fly 9 none q :=
  List.forall_mem_cons.mpr ⟨(xOK_pure (xs_aload_n (k := 2) rfl (show decode cX10_fly 35 = .ok (.aload_n 2, 1) by decide +kernel))),
  List.forall_mem_cons.mpr ⟨(xOK_pure (xs_getf xcl_6 (by decide) (show decode cX10_fly 36 = .ok (.getfield 301, 3) by decide +kernel) xw_642)),
  List.forall_mem_cons.mpr ⟨(xOK_pure (xs_aald (t := 6) rfl (show decode cX10_fly 39 = .ok (.aaload, 1) by decide +kernel))),
  List.forall_mem_cons.mpr ⟨(xOK_pure (xs_astore (show decode cX10_fly 40 = .ok (.astore 5, 2) by decide +kernel) (by decide))),
  List.forall_mem_cons.mpr ⟨(xOK_pure (xs_aload_n (k := 2) rfl (show decode cX10_fly 42 = .ok (.aload_n 2, 1) by decide +kernel))),
  List.forall_mem_cons.mpr ⟨(xOK_pure (xs_dup (show decode cX10_fly 43 = .ok (.dup, 1) by decide +kernel))),
  List.forall_mem_cons.mpr ⟨(xOK_pure (xs_getf xcl_6 (by decide) (show decode cX10_fly 44 = .ok (.getfield 192, 3) by decide +kernel) xw_604)),
  List.forall_mem_cons.mpr ⟨(xOK_pure (xs_iconst (n := 1) (show decode cX10_fly 47 = .ok (.iconst 1, 1) by decide +kernel) (by decide))),
  List.forall_mem_cons.mpr ⟨(xOK_pure (xs_iadd (show decode cX10_fly 48 = .ok (.iadd, 1) by decide +kernel))),
  List.forall_mem_cons.mpr ⟨(xs_putf (k := 5) xcl_6 (by decide) rfl (show decode cX10_fly 49 = .ok (.putfield 192, 3) by decide +kernel) xw_604),
  List.forall_mem_cons.mpr ⟨(xOK_pure (xs_aload (show decode cX10_fly 52 = .ok (.aload 5, 2) by decide +kernel))),
  List.forall_mem_cons.mpr ⟨(xOK_pure (xs_dup (show decode cX10_fly 54 = .ok (.dup, 1) by decide +kernel))),
  List.forall_mem_cons.mpr ⟨(xOK_pure (xs_getf xcl_5 (by decide) (show decode cX10_fly 55 = .ok (.getfield 133, 3) by decide +kernel) xw_719)),
  List.forall_mem_cons.mpr ⟨(xOK_pure (xs_iconst (n := 1) (show decode cX10_fly 58 = .ok (.iconst 1, 1) by decide +kernel) (by decide))),
  List.forall_mem_cons.mpr ⟨(xOK_pure (xs_iadd (show decode cX10_fly 59 = .ok (.iadd, 1) by decide +kernel))),
  List.forall_mem_cons.mpr ⟨(xs_putf (k := 2) xcl_5 (by decide) rfl (show decode cX10_fly 60 = .ok (.putfield 133, 3) by decide +kernel) xw_719),
  List.forall_mem_cons.mpr ⟨(xOK_pure (xs_aload_n (k := 2) rfl (show decode cX10_fly 63 = .ok (.aload_n 2, 1) by decide +kernel))),
  List.forall_mem_cons.mpr ⟨(xOK_pure (xs_dup (show decode cX10_fly 64 = .ok (.dup, 1) by decide +kernel))),
  List.forall_mem_cons.mpr ⟨(xOK_pure (xs_getf xcl_6 (by decide) (show decode cX10_fly 65 = .ok (.getfield 302, 3) by decide +kernel) xw_639)),
  List.forall_mem_cons.mpr ⟨(xOK_pure (xs_iconst (n := 1) (show decode cX10_fly 68 = .ok (.iconst 1, 1) by decide +kernel) (by decide))),
  (fun _ h => absurd h List.not_mem_nil)⟩⟩⟩⟩⟩⟩⟩⟩⟩⟩⟩⟩⟩⟩⟩⟩⟩⟩⟩⟩
def pX10_fly_2 (ev : xEv) : List (Nat × xEn) := [(69, .inl (xop (xf_bin (fun x y => x - y)))), (70, .inl (xo_putf 6 15 .int)), (73, .inl (xop (xf_aload 0 1))), (74, .inl (xop xf_dup)), (75, .inl (xop (xf_getf 10 14))), (78, .inl (xop (xf_aload 0 1))), (79, .inl (xop (xf_getf 10 16))), (82, .inl (xop (xf_bin (fun x y => x + y)))), (83, .inl (xo_putf 10 14 .int)), (86, .inl (xop (xf_aload 2 1))), (87, .inl (xop (xf_getf 6 7))), (90, .inl (xop (xf_if_eq 104))), (93, .inl (xop (xf_aload 2 1))), (94, .inl (xop (xf_getf 6 5))), (97, .inl (xop (xf_aload 2 1))), (98, .inl (xop (xf_getf 6 7))), (101, .inl (xop (xf_icmp_eq 111))), (104, .inl (xop (xf_aload 2 1))), (105, .inl (xop (xf_getf 6 15))), (108, .inl (xop (xf_if_ge 117)))]
set_option maxRecDepth 20000 in
theorem okpX10_fly_2 (ev : xEv) : ∀ q ∈ pX10_fly_2 ev, xEnOK ev xmi yX10_fly.cls yX10_fly.name cX10_fly 9 none q :=
  List.forall_mem_cons.mpr ⟨(xOK_pure (xs_isub (show decode cX10_fly 69 = .ok (.isub, 1) by decide +kernel))),
  List.forall_mem_cons.mpr ⟨(xs_putf (k := 15) xcl_6 (by decide) rfl (show decode cX10_fly 70 = .ok (.putfield 302, 3) by decide +kernel) xw_639),
  List.forall_mem_cons.mpr ⟨(xOK_pure (xs_aload_n (k := 0) rfl (show decode cX10_fly 73 = .ok (.aload_n 0, 1) by decide +kernel))),
  List.forall_mem_cons.mpr ⟨(xOK_pure (xs_dup (show decode cX10_fly 74 = .ok (.dup, 1) by decide +kernel))),
  List.forall_mem_cons.mpr ⟨(xOK_pure (xs_getf xcl_10 (by decide) (show decode cX10_fly 75 = .ok (.getfield 305, 3) by decide +kernel) xw_331)),
  List.forall_mem_cons.mpr ⟨(xOK_pure (xs_aload_n (k := 0) rfl (show decode cX10_fly 78 = .ok (.aload_n 0, 1) by decide +kernel))),
  List.forall_mem_cons.mpr ⟨(xOK_pure (xs_getf xcl_10 (by decide) (show decode cX10_fly 79 = .ok (.getfield 62, 3) by decide +kernel) xw_335)),
  List.forall_mem_cons.mpr ⟨(xOK_pure (xs_iadd (show decode cX10_fly 82 = .ok (.iadd, 1) by decide +kernel))),
  List.forall_mem_cons.mpr ⟨(xs_putf (k := 14) xcl_10 (by decide) rfl (show decode cX10_fly 83 = .ok (.putfield 305, 3) by decide +kernel) xw_331),
  List.forall_mem_cons.mpr ⟨(xOK_pure (xs_aload_n (k := 2) rfl (show decode cX10_fly 86 = .ok (.aload_n 2, 1) by decide +kernel))),
  List.forall_mem_cons.mpr ⟨(xOK_pure (xs_getf xcl_6 (by decide) (show decode cX10_fly 87 = .ok (.getfield 308, 3) by decide +kernel) xw_613)),
  List.forall_mem_cons.mpr ⟨(xOK_pure (xs_if_eq (show decode cX10_fly 90 = .ok (.ifCond .eq 14, 3) by decide +kernel) (by decide))),
  List.forall_mem_cons.mpr ⟨(xOK_pure (xs_aload_n (k := 2) rfl (show decode cX10_fly 93 = .ok (.aload_n 2, 1) by decide +kernel))),
  List.forall_mem_cons.mpr ⟨(xOK_pure (xs_getf xcl_6 (by decide) (show decode cX10_fly 94 = .ok (.getfield 192, 3) by decide +kernel) xw_604)),
  List.forall_mem_cons.mpr ⟨(xOK_pure (xs_aload_n (k := 2) rfl (show decode cX10_fly 97 = .ok (.aload_n 2, 1) by decide +kernel))),
  List.forall_mem_cons.mpr ⟨(xOK_pure (xs_getf xcl_6 (by decide) (show decode cX10_fly 98 = .ok (.getfield 308, 3) by decide +kernel) xw_613)),
  List.forall_mem_cons.mpr ⟨(xOK_pure (xs_icmp_eq (show decode cX10_fly 101 = .ok (.if_icmp .eq 10, 3) by decide +kernel) (by decide))),
  List.forall_mem_cons.mpr ⟨(xOK_pure (xs_aload_n (k := 2) rfl (show decode cX10_fly 104 = .ok (.aload_n 2, 1) by decide +kernel))),
  List.forall_mem_cons.mpr ⟨(xOK_pure (xs_getf xcl_6 (by decide) (show decode cX10_fly 105 = .ok (.getfield 302, 3) by decide +kernel) xw_639)),
  List.forall_mem_cons.mpr ⟨(xOK_pure (xs_if_ge (show decode cX10_fly 108 = .ok (.ifCond .ge 9, 3) by decide +kernel) (by decide))),
  (fun _ h => absurd h List.not_mem_nil)⟩⟩⟩⟩⟩⟩⟩⟩⟩⟩⟩⟩⟩⟩⟩⟩⟩⟩⟩⟩
def pX10_fly_3 (ev : xEv) : List (Nat × xEn) := [(111, .inl (xop (xf_aload 0 1))), (112, .inl (xop (xf_aload 2 1))), (113, .inr (.inl (0, 114, 1, 10))), (116, .inr (.inr 0)), (117, .inl (xop (xf_aload 0 1))), (118, .inl (xop (xf_aload 2 1))), (119, .inr (.inl (0, 110, 1, 10))), (122, .inl (xop (xf_istore 6 2))), (124, .inl (xop (xf_aload 3 1))), (125, .inl (xop (xf_aload 0 1))), (126, .inl (xop (xf_getf 10 2))), (129, .inl (xop (xf_getf 8 1))), (132, .inl (xo_putf 1 9 .int)), (135, .inl (xop (xf_iload 6 2))), (137, .inl (xop (xf_push (.int 84) 2))), (139, .inl (xop (xf_icmp_ne 158))), (142, .inl (xop (xf_aload 2 1))), (143, .inl (xop (xf_aload 2 1))), (144, .inl (xop (xf_getf 6 11))), (147, .inl (xop (xf_if_ne 154)))]
set_option maxRecDepth 20000 in
theorem okpX10_fly_3 (ev : xEv) : ∀ q ∈ pX10_fly_3 ev, xEnOK ev xmi yX10_fly.cls yX10_fly.name cX10_fly 9 none q :=
  List.forall_mem_cons.mpr ⟨(xOK_pure (xs_aload_n (k := 0) rfl (show decode cX10_fly 111 = .ok (.aload_n 0, 1) by decide +kernel))),
  List.forall_mem_cons.mpr ⟨(xOK_pure (xs_aload_n (k := 2) rfl (show decode cX10_fly 112 = .ok (.aload_n 2, 1) by decide +kernel))),
  List.forall_mem_cons.mpr ⟨(xcm mi_114 ⟨⟨(by decide +kernel), (by decide +kernel), (by decide +kernel)⟩, (by decide), xw_1232, xw_120, Or.inl ⟨rfl, _, _, _, _, (show decode cX10_fly 113 = .ok (.invokevirtual 311, 3) by decide +kernel), xw_1229, xw_1231, xw_36, rfl⟩⟩),
  List.forall_mem_cons.mpr ⟨(Or.inl ⟨rfl, (show decode cX10_fly 116 = .ok (.return_, 1) by decide +kernel), rfl⟩),
  List.forall_mem_cons.mpr ⟨(xOK_pure (xs_aload_n (k := 0) rfl (show decode cX10_fly 117 = .ok (.aload_n 0, 1) by decide +kernel))),
  List.forall_mem_cons.mpr ⟨(xOK_pure (xs_aload_n (k := 2) rfl (show decode cX10_fly 118 = .ok (.aload_n 2, 1) by decide +kernel))),
  List.forall_mem_cons.mpr ⟨(xcm mi_110 ⟨⟨(by decide +kernel), (by decide +kernel), (by decide +kernel)⟩, (by decide), xw_1256, xw_120, Or.inl ⟨rfl, _, _, _, _, (show decode cX10_fly 119 = .ok (.invokevirtual 315, 3) by decide +kernel), xw_1253, xw_1255, xw_38, rfl⟩⟩),
  List.forall_mem_cons.mpr ⟨(xOK_pure (xs_istore (show decode cX10_fly 122 = .ok (.istore 6, 2) by decide +kernel) (by decide))),
  List.forall_mem_cons.mpr ⟨(xOK_pure (xs_aload_n (k := 3) rfl (show decode cX10_fly 124 = .ok (.aload_n 3, 1) by decide +kernel))),
  List.forall_mem_cons.mpr ⟨(xOK_pure (xs_aload_n (k := 0) rfl (show decode cX10_fly 125 = .ok (.aload_n 0, 1) by decide +kernel))),
  List.forall_mem_cons.mpr ⟨(xOK_pure (xs_getf xcl_10 (by decide) (show decode cX10_fly 126 = .ok (.getfield 23, 3) by decide +kernel) xw_305)),
  List.forall_mem_cons.mpr ⟨(xOK_pure (xs_getf xcl_8 (by decide) (show decode cX10_fly 129 = .ok (.getfield 152, 3) by decide +kernel) xw_269)),
  List.forall_mem_cons.mpr ⟨(xs_putf (k := 9) xcl_1 (by decide) rfl (show decode cX10_fly 132 = .ok (.putfield 319, 3) by decide +kernel) xw_1069),
  List.forall_mem_cons.mpr ⟨(xOK_pure (xs_iload (show decode cX10_fly 135 = .ok (.iload 6, 2) by decide +kernel))),
  List.forall_mem_cons.mpr ⟨(xOK_pure (xs_bipush (n := 84) (show decode cX10_fly 137 = .ok (.bipush 84, 2) by decide +kernel) (by decide))),
  List.forall_mem_cons.mpr ⟨(xOK_pure (xs_icmp_ne (show decode cX10_fly 139 = .ok (.if_icmp .ne 19, 3) by decide +kernel) (by decide))),
  List.forall_mem_cons.mpr ⟨(xOK_pure (xs_aload_n (k := 2) rfl (show decode cX10_fly 142 = .ok (.aload_n 2, 1) by decide +kernel))),
  List.forall_mem_cons.mpr ⟨(xOK_pure (xs_aload_n (k := 2) rfl (show decode cX10_fly 143 = .ok (.aload_n 2, 1) by decide +kernel))),
  List.forall_mem_cons.mpr ⟨(xOK_pure (xs_getf xcl_6 (by decide) (show decode cX10_fly 144 = .ok (.getfield 322, 3) by decide +kernel) xw_625)),
  List.forall_mem_cons.mpr ⟨(xOK_pure (xs_if_ne (show decode cX10_fly 147 = .ok (.ifCond .ne 7, 3) by decide +kernel) (by decide))),
  (fun _ h => absurd h List.not_mem_nil)⟩⟩⟩⟩⟩⟩⟩⟩⟩⟩⟩⟩⟩⟩⟩⟩⟩⟩⟩⟩
def pX10_fly_4 (ev : xEv) : List (Nat × xEn) := [(150, .inl (xop (xf_push (.int 1) 1))), (151, .inl (xop (xf_goto 155))), (154, .inl (xop (xf_push (.int 0) 1))), (155, .inl (xo_putf 6 11 .boolean)), (158, .inl (xop (xf_aload 0 1))), (159, .inl (xop (xf_getf 10 0))), (162, .inl (xop (xf_aload 2 1))), (163, .inl (xop (xf_getf 6 9))), (166, .inl (xop (xf_aload 0 1))), (167, .inl (xop (xf_getf 10 13))), (170, .inr (.inl (0, 22, 2, 2))), (173, .inl (xop (xf_aload 4 2))), (175, .inl (xop (xf_getf 3 3))), (178, .inl (xop (xf_icmp_ge 197))), (181, .inl (xop (xf_aload 5 2))), (183, .inl (xop (xf_aload 2 1))), (184, .inl (xop (xf_getf 6 9))), (187, .inr (.inl (0, 64, 1, 5))), (190, .inl (xop (xf_if_ne 197))), (193, .inl (xop (xf_push (.int 1) 1)))]
set_option maxRecDepth 20000 in
theorem okpX10_fly_4 (ev : xEv) : ∀ q ∈ pX10_fly_4 ev, xEnOK ev xmi yX10_fly.cls yX10_fly.name cX10_fly 9 none q :=
  List.forall_mem_cons.mpr ⟨(xOK_pure (xs_iconst (n := 1) (show decode cX10_fly 150 = .ok (.iconst 1, 1) by decide +kernel) (by decide))),
  List.forall_mem_cons.mpr ⟨(xOK_pure (xs_goto (show decode cX10_fly 151 = .ok (.goto 4, 3) by decide +kernel) (by decide))),
  List.forall_mem_cons.mpr ⟨(xOK_pure (xs_iconst (n := 0) (show decode cX10_fly 154 = .ok (.iconst 0, 1) by decide +kernel) (by decide))),
  List.forall_mem_cons.mpr ⟨(xs_putf (k := 11) xcl_6 (by decide) rfl (show decode cX10_fly 155 = .ok (.putfield 322, 3) by decide +kernel) xw_625),
  List.forall_mem_cons.mpr ⟨(xOK_pure (xs_aload_n (k := 0) rfl (show decode cX10_fly 158 = .ok (.aload_n 0, 1) by decide +kernel))),
  List.forall_mem_cons.mpr ⟨(xOK_pure (xs_getf xcl_10 (by decide) (show decode cX10_fly 159 = .ok (.getfield 65, 3) by decide +kernel) xw_301)),
  List.forall_mem_cons.mpr ⟨(xOK_pure (xs_aload_n (k := 2) rfl (show decode cX10_fly 162 = .ok (.aload_n 2, 1) by decide +kernel))),
  List.forall_mem_cons.mpr ⟨(xOK_pure (xs_getf xcl_6 (by decide) (show decode cX10_fly 163 = .ok (.getfield 300, 3) by decide +kernel) xw_619)),
  List.forall_mem_cons.mpr ⟨(xOK_pure (xs_aload_n (k := 0) rfl (show decode cX10_fly 166 = .ok (.aload_n 0, 1) by decide +kernel))),
  List.forall_mem_cons.mpr ⟨(xOK_pure (xs_getf xcl_10 (by decide) (show decode cX10_fly 167 = .ok (.getfield 69, 3) by decide +kernel) xw_328)),
  List.forall_mem_cons.mpr ⟨(xcm mi_22 ⟨⟨(by decide +kernel), (by decide +kernel), (by decide +kernel)⟩, (by decide), xw_1260, xw_119, Or.inl ⟨rfl, _, _, _, _, (show decode cX10_fly 170 = .ok (.invokevirtual 325, 3) by decide +kernel), xw_1257, xw_1258, xw_1259, rfl⟩⟩),
  List.forall_mem_cons.mpr ⟨(xOK_pure (xs_aload (show decode cX10_fly 173 = .ok (.aload 4, 2) by decide +kernel))),
  List.forall_mem_cons.mpr ⟨(xOK_pure (xs_getf xcl_3 (by decide) (show decode cX10_fly 175 = .ok (.getfield 218, 3) by decide +kernel) xw_516)),
  List.forall_mem_cons.mpr ⟨(xOK_pure (xs_icmp_ge (show decode cX10_fly 178 = .ok (.if_icmp .ge 19, 3) by decide +kernel) (by decide))),
  List.forall_mem_cons.mpr ⟨(xOK_pure (xs_aload (show decode cX10_fly 181 = .ok (.aload 5, 2) by decide +kernel))),
  List.forall_mem_cons.mpr ⟨(xOK_pure (xs_aload_n (k := 2) rfl (show decode cX10_fly 183 = .ok (.aload_n 2, 1) by decide +kernel))),
  List.forall_mem_cons.mpr ⟨(xOK_pure (xs_getf xcl_6 (by decide) (show decode cX10_fly 184 = .ok (.getfield 300, 3) by decide +kernel) xw_619)),
  List.forall_mem_cons.mpr ⟨(xcm mi_64 ⟨⟨(by decide +kernel), (by decide +kernel), (by decide +kernel)⟩, (by decide), xw_1183, xw_133, Or.inl ⟨rfl, _, _, _, _, (show decode cX10_fly 187 = .ok (.invokevirtual 268, 3) by decide +kernel), xw_1180, xw_1181, xw_1182, rfl⟩⟩),
  List.forall_mem_cons.mpr ⟨(xOK_pure (xs_if_ne (show decode cX10_fly 190 = .ok (.ifCond .ne 7, 3) by decide +kernel) (by decide))),
  List.forall_mem_cons.mpr ⟨(xOK_pure (xs_iconst (n := 1) (show decode cX10_fly 193 = .ok (.iconst 1, 1) by decide +kernel) (by decide))),
  (fun _ h => absurd h List.not_mem_nil)⟩⟩⟩⟩⟩⟩⟩⟩⟩⟩⟩⟩⟩⟩⟩⟩⟩⟩⟩⟩
def pX10_fly_5 (ev : xEv) : List (Nat × xEn) := [(194, .inl (xop (xf_goto 198))), (197, .inl (xop (xf_push (.int 0) 1))), (198, .inl (xop (xf_istore 7 2))), (200, .inl (xop (xf_iload 6 2))), (202, .inl (xop (xf_push (.int 76) 2))), (204, .inl (xop (xf_icmp_eq 212))), (207, .inl (xop (xf_iload 7 2))), (209, .inl (xop (xf_if_eq 220))), (212, .inl (xop (xf_aload 0 1))), (213, .inl (xop (xf_aload 2 1))), (214, .inr (.inl (0, 114, 1, 10))), (217, .inl (xop (xf_goto 253))), (220, .inl (xop (xf_aload 0 1))), (221, .inl (xop (xf_aload 2 1))), (222, .inr (.inl (0, 112, 1, 10))), (225, .inl (xop (xf_if_eq 253))), (228, .inl (xop (xf_aload 4 2))), (230, .inl (xop (xf_aload 2 1))), (231, .inl (xop (xf_getf 6 11))), (234, .inr (.inl (0, 36, 1, 3)))]
set_option maxRecDepth 20000 in
theorem okpX10_fly_5 (ev : xEv) : ∀ q ∈ pX10_fly_5 ev, xEnOK ev xmi yX10_fly.cls yX10_fly.name cX10_fly 9 none q :=
  List.forall_mem_cons.mpr ⟨(xOK_pure (xs_goto (show decode cX10_fly 194 = .ok (.goto 4, 3) by decide +kernel) (by decide))),
  List.forall_mem_cons.mpr ⟨(xOK_pure (xs_iconst (n := 0) (show decode cX10_fly 197 = .ok (.iconst 0, 1) by decide +kernel) (by decide))),
  List.forall_mem_cons.mpr ⟨(xOK_pure (xs_istore (show decode cX10_fly 198 = .ok (.istore 7, 2) by decide +kernel) (by decide))),
  List.forall_mem_cons.mpr ⟨(xOK_pure (xs_iload (show decode cX10_fly 200 = .ok (.iload 6, 2) by decide +kernel))),
  List.forall_mem_cons.mpr ⟨(xOK_pure (xs_bipush (n := 76) (show decode cX10_fly 202 = .ok (.bipush 76, 2) by decide +kernel) (by decide))),
  List.forall_mem_cons.mpr ⟨(xOK_pure (xs_icmp_eq (show decode cX10_fly 204 = .ok (.if_icmp .eq 8, 3) by decide +kernel) (by decide))),
  List.forall_mem_cons.mpr ⟨(xOK_pure (xs_iload (show decode cX10_fly 207 = .ok (.iload 7, 2) by decide +kernel))),
  List.forall_mem_cons.mpr ⟨(xOK_pure (xs_if_eq (show decode cX10_fly 209 = .ok (.ifCond .eq 11, 3) by decide +kernel) (by decide))),
  List.forall_mem_cons.mpr ⟨(xOK_pure (xs_aload_n (k := 0) rfl (show decode cX10_fly 212 = .ok (.aload_n 0, 1) by decide +kernel))),
  List.forall_mem_cons.mpr ⟨(xOK_pure (xs_aload_n (k := 2) rfl (show decode cX10_fly 213 = .ok (.aload_n 2, 1) by decide +kernel))),
  List.forall_mem_cons.mpr ⟨(xcm mi_114 ⟨⟨(by decide +kernel), (by decide +kernel), (by decide +kernel)⟩, (by decide), xw_1232, xw_120, Or.inl ⟨rfl, _, _, _, _, (show decode cX10_fly 214 = .ok (.invokevirtual 311, 3) by decide +kernel), xw_1229, xw_1231, xw_36, rfl⟩⟩),
  List.forall_mem_cons.mpr ⟨(xOK_pure (xs_goto (show decode cX10_fly 217 = .ok (.goto 36, 3) by decide +kernel) (by decide))),
  List.forall_mem_cons.mpr ⟨(xOK_pure (xs_aload_n (k := 0) rfl (show decode cX10_fly 220 = .ok (.aload_n 0, 1) by decide +kernel))),
  List.forall_mem_cons.mpr ⟨(xOK_pure (xs_aload_n (k := 2) rfl (show decode cX10_fly 221 = .ok (.aload_n 2, 1) by decide +kernel))),
  List.forall_mem_cons.mpr ⟨(xcm mi_112 ⟨⟨(by decide +kernel), (by decide +kernel), (by decide +kernel)⟩, (by decide), xw_1280, xw_120, Or.inl ⟨rfl, _, _, _, _, (show decode cX10_fly 222 = .ok (.invokevirtual 328, 3) by decide +kernel), xw_1277, xw_1279, xw_41, rfl⟩⟩),
  List.forall_mem_cons.mpr ⟨(xOK_pure (xs_if_eq (show decode cX10_fly 225 = .ok (.ifCond .eq 28, 3) by decide +kernel) (by decide))),
  List.forall_mem_cons.mpr ⟨(xOK_pure (xs_aload (show decode cX10_fly 228 = .ok (.aload 4, 2) by decide +kernel))),
  List.forall_mem_cons.mpr ⟨(xOK_pure (xs_aload_n (k := 2) rfl (show decode cX10_fly 230 = .ok (.aload_n 2, 1) by decide +kernel))),
  List.forall_mem_cons.mpr ⟨(xOK_pure (xs_getf xcl_6 (by decide) (show decode cX10_fly 231 = .ok (.getfield 322, 3) by decide +kernel) xw_625)),
  List.forall_mem_cons.mpr ⟨(xcm mi_36 ⟨⟨(by decide +kernel), (by decide +kernel), (by decide +kernel)⟩, (by decide), xw_1175, xw_126, Or.inl ⟨rfl, _, _, _, _, (show decode cX10_fly 234 = .ok (.invokevirtual 250, 3) by decide +kernel), xw_1172, xw_1173, xw_1174, rfl⟩⟩),
  (fun _ h => absurd h List.not_mem_nil)⟩⟩⟩⟩⟩⟩⟩⟩⟩⟩⟩⟩⟩⟩⟩⟩⟩⟩⟩⟩
def pX10_fly_6 (ev : xEv) : List (Nat × xEn) := [(237, .inl (xop (xf_istore 8 2))), (239, .inl (xop (xf_aload 0 1))), (240, .inl (xop (xf_aload 2 1))), (241, .inl (xop (xf_iload 8 2))), (243, .inr (.inl (0, 113, 2, 10))), (246, .inl (xop (xf_aload 0 1))), (247, .inl (xop (xf_iload 1 1))), (248, .inl (xop (xf_iload 8 2))), (250, .inr (.inl (0, 115, 2, 10))), (253, .inr (.inr 0))]
set_option maxRecDepth 20000 in
theorem okpX10_fly_6 (ev : xEv) : ∀ q ∈ pX10_fly_6 ev, xEnOK ev xmi yX10_fly.cls yX10_fly.name cX10_fly 9 none q :=
  List.forall_mem_cons.mpr ⟨(xOK_pure (xs_istore (show decode cX10_fly 237 = .ok (.istore 8, 2) by decide +kernel) (by decide))),
  List.forall_mem_cons.mpr ⟨(xOK_pure (xs_aload_n (k := 0) rfl (show decode cX10_fly 239 = .ok (.aload_n 0, 1) by decide +kernel))),
  List.forall_mem_cons.mpr ⟨(xOK_pure (xs_aload_n (k := 2) rfl (show decode cX10_fly 240 = .ok (.aload_n 2, 1) by decide +kernel))),
  List.forall_mem_cons.mpr ⟨(xOK_pure (xs_iload (show decode cX10_fly 241 = .ok (.iload 8, 2) by decide +kernel))),
  List.forall_mem_cons.mpr ⟨(xcm mi_113 ⟨⟨(by decide +kernel), (by decide +kernel), (by decide +kernel)⟩, (by decide), xw_1284, xw_120, Or.inl ⟨rfl, _, _, _, _, (show decode cX10_fly 243 = .ok (.invokevirtual 332, 3) by decide +kernel), xw_1281, xw_1283, xw_42, rfl⟩⟩),
  List.forall_mem_cons.mpr ⟨(xOK_pure (xs_aload_n (k := 0) rfl (show decode cX10_fly 246 = .ok (.aload_n 0, 1) by decide +kernel))),
  List.forall_mem_cons.mpr ⟨(xOK_pure (xs_iload_n (k := 1) rfl (show decode cX10_fly 247 = .ok (.iload_n 1, 1) by decide +kernel))),
  List.forall_mem_cons.mpr ⟨(xOK_pure (xs_iload (show decode cX10_fly 248 = .ok (.iload 8, 2) by decide +kernel))),
  List.forall_mem_cons.mpr ⟨(xcm mi_115 ⟨⟨(by decide +kernel), (by decide +kernel), (by decide +kernel)⟩, (by decide), xw_1289, xw_120, Or.inl ⟨rfl, _, _, _, _, (show decode cX10_fly 250 = .ok (.invokevirtual 336, 3) by decide +kernel), xw_1286, xw_1287, xw_1288, rfl⟩⟩),
  List.forall_mem_cons.mpr ⟨(Or.inl ⟨rfl, (show decode cX10_fly 253 = .ok (.return_, 1) by decide +kernel), rfl⟩),
  (fun _ h => absurd h List.not_mem_nil)⟩⟩⟩⟩⟩⟩⟩⟩⟩⟩
def pX10_fly (ev : xEv) : List (Nat × xEn) := pX10_fly_0 ev ++ (pX10_fly_1 ev ++ (pX10_fly_2 ev ++ (pX10_fly_3 ev ++ (pX10_fly_4 ev ++ (pX10_fly_5 ev ++ (pX10_fly_6 ev))))))
theorem okpX10_fly (ev : xEv) : ∀ q ∈ pX10_fly ev, xEnOK ev xmi yX10_fly.cls yX10_fly.name cX10_fly 9 none q := List.forall_mem_append.mpr ⟨okpX10_fly_0 ev, List.forall_mem_append.mpr ⟨okpX10_fly_1 ev, List.forall_mem_append.mpr ⟨okpX10_fly_2 ev, List.forall_mem_append.mpr ⟨okpX10_fly_3 ev, List.forall_mem_append.mpr ⟨okpX10_fly_4 ev, List.forall_mem_append.mpr ⟨okpX10_fly_5 ev, okpX10_fly_6 ev⟩⟩⟩⟩⟩⟩
theorem omX10_fly (ev : xEv) : xMethOK ev xmi yX10_fly.cls yX10_fly.name 109 (pX10_fly ev) := xMethOK.of mi_109 (by decide +kernel) (okpX10_fly ev)
def pX10_aloftAct_0 (ev : xEv) : List (Nat × xEn) := [(0, .inl (xop (xf_aload 0 1))), (1, .inl (xop (xf_getf 10 0))), (4, .inl (xop (xf_getf 2 4))), (7, .inl (xop (xf_aload 1 1))), (8, .inl (xop (xf_getf 6 9))), (11, .inl (xop (xf_aald (ev.1 4)))), (12, .inl (xop (xf_astore 2 1))), (13, .inl (xop (xf_aload 0 1))), (14, .inl (xop (xf_getf 10 2))), (17, .inl (xop (xf_push (.int 99) 2))), (19, .inl (xop (xf_aload 0 1))), (20, .inl (xop (xf_getf 10 0))), (23, .inl (xop (xf_aload 1 1))), (24, .inl (xop (xf_getf 6 9))), (27, .inl (xop (xf_aload 0 1))), (28, .inl (xop (xf_getf 10 13))), (31, .inr (.inl (0, 22, 2, 2))), (34, .inl (xop (xf_aload 2 1))), (35, .inl (xop (xf_getf 3 3))), (38, .inl (xop (xf_bin (fun x y => x - y))))]
set_option maxRecDepth 20000 in
theorem okpX10_aloftAct_0 (ev : xEv) : ∀ q ∈ pX10_aloftAct_0 ev, xEnOK ev xmi yX10_aloftAct.cls yX10_aloftAct.name cX10_aloftAct 3 (some .int) q :=
  List.forall_mem_cons.mpr ⟨(xOK_pure (xs_aload_n (k := 0) rfl (show decode cX10_aloftAct 0 = .ok (.aload_n 0, 1) by decide +kernel))),
  List.forall_mem_cons.mpr ⟨(xOK_pure (xs_getf xcl_10 (by decide) (show decode cX10_aloftAct 1 = .ok (.getfield 65, 3) by decide +kernel) xw_301)),
  List.forall_mem_cons.mpr ⟨(xOK_pure (xs_getf xcl_2 (by decide) (show decode cX10_aloftAct 4 = .ok (.getfield 164, 3) by decide +kernel) xw_174)),
  List.forall_mem_cons.mpr ⟨(xOK_pure (xs_aload_n (k := 1) rfl (show decode cX10_aloftAct 7 = .ok (.aload_n 1, 1) by decide +kernel))),
  List.forall_mem_cons.mpr ⟨(xOK_pure (xs_getf xcl_6 (by decide) (show decode cX10_aloftAct 8 = .ok (.getfield 300, 3) by decide +kernel) xw_619)),
  List.forall_mem_cons.mpr ⟨(xOK_pure (xs_aald (t := 4) rfl (show decode cX10_aloftAct 11 = .ok (.aaload, 1) by decide +kernel))),
  List.forall_mem_cons.mpr ⟨(xOK_pure (xs_astore_n (k := 2) rfl (show decode cX10_aloftAct 12 = .ok (.astore_n 2, 1) by decide +kernel) (by decide))),
  List.forall_mem_cons.mpr ⟨(xOK_pure (xs_aload_n (k := 0) rfl (show decode cX10_aloftAct 13 = .ok (.aload_n 0, 1) by decide +kernel))),
  List.forall_mem_cons.mpr ⟨(xOK_pure (xs_getf xcl_10 (by decide) (show decode cX10_aloftAct 14 = .ok (.getfield 23, 3) by decide +kernel) xw_305)),
  List.forall_mem_cons.mpr ⟨(xOK_pure (xs_bipush (n := 99) (show decode cX10_aloftAct 17 = .ok (.bipush 99, 2) by decide +kernel) (by decide))),
  List.forall_mem_cons.mpr ⟨(xOK_pure (xs_aload_n (k := 0) rfl (show decode cX10_aloftAct 19 = .ok (.aload_n 0, 1) by decide +kernel))),
  List.forall_mem_cons.mpr ⟨(xOK_pure (xs_getf xcl_10 (by decide) (show decode cX10_aloftAct 20 = .ok (.getfield 65, 3) by decide +kernel) xw_301)),
  List.forall_mem_cons.mpr ⟨(xOK_pure (xs_aload_n (k := 1) rfl (show decode cX10_aloftAct 23 = .ok (.aload_n 1, 1) by decide +kernel))),
  List.forall_mem_cons.mpr ⟨(xOK_pure (xs_getf xcl_6 (by decide) (show decode cX10_aloftAct 24 = .ok (.getfield 300, 3) by decide +kernel) xw_619)),
  List.forall_mem_cons.mpr ⟨(xOK_pure (xs_aload_n (k := 0) rfl (show decode cX10_aloftAct 27 = .ok (.aload_n 0, 1) by decide +kernel))),
  List.forall_mem_cons.mpr ⟨(xOK_pure (xs_getf xcl_10 (by decide) (show decode cX10_aloftAct 28 = .ok (.getfield 69, 3) by decide +kernel) xw_328)),
  List.forall_mem_cons.mpr ⟨(xcm mi_22 ⟨⟨(by decide +kernel), (by decide +kernel), (by decide +kernel)⟩, (by decide), xw_1260, xw_119, Or.inl ⟨rfl, _, _, _, _, (show decode cX10_aloftAct 31 = .ok (.invokevirtual 325, 3) by decide +kernel), xw_1257, xw_1258, xw_1259, rfl⟩⟩),
  List.forall_mem_cons.mpr ⟨(xOK_pure (xs_aload_n (k := 2) rfl (show decode cX10_aloftAct 34 = .ok (.aload_n 2, 1) by decide +kernel))),
  List.forall_mem_cons.mpr ⟨(xOK_pure (xs_getf xcl_3 (by decide) (show decode cX10_aloftAct 35 = .ok (.getfield 218, 3) by decide +kernel) xw_516)),
  List.forall_mem_cons.mpr ⟨(xOK_pure (xs_isub (show decode cX10_aloftAct 38 = .ok (.isub, 1) by decide +kernel))),
  (fun _ h => absurd h List.not_mem_nil)⟩⟩⟩⟩⟩⟩⟩⟩⟩⟩⟩⟩⟩⟩⟩⟩⟩⟩⟩⟩
def pX10_aloftAct_1 (ev : xEv) : List (Nat × xEn) := [(39, .inr (.inl (0, 88, 2, 8))), (42, .inl (xop (xf_aload 0 1))), (43, .inl (xop (xf_getf 10 2))), (46, .inl (xop (xf_push (.int 119) 2))), (48, .inl (xop (xf_aload 0 1))), (49, .inl (xop (xf_aload 1 1))), (50, .inr (.inl (0, 111, 1, 10))), (53, .inr (.inl (0, 88, 2, 8))), (56, .inl (xop (xf_aload 0 1))), (57, .inl (xop (xf_getf 10 2))), (60, .inl (xop (xf_push (.int 97) 2))), (62, .inl (xop (xf_push (.int 0) 1))), (63, .inr (.inl (0, 88, 2, 8))), (66, .inl (xop (xf_aload 0 1))), (67, .inl (xop (xf_getf 10 2))), (70, .inl (xop (xf_push (.int 102) 2))), (72, .inl (xop (xf_aload 1 1))), (73, .inl (xop (xf_getf 6 15))), (76, .inr (.inl (0, 88, 2, 8))), (79, .inl (xop (xf_aload 0 1)))]
set_option maxRecDepth 20000 in
theorem okpX10_aloftAct_1 (ev : xEv) : ∀ q ∈ pX10_aloftAct_1 ev, xEnOK ev xmi yX10_aloftAct.cls yX10_aloftAct.name cX10_aloftAct 3 (some .int) q :=
  List.forall_mem_cons.mpr ⟨(xcm mi_88 ⟨⟨(by decide +kernel), (by decide +kernel), (by decide +kernel)⟩, (by decide), xw_1171, xw_122, Or.inl ⟨rfl, _, _, _, _, (show decode cX10_aloftAct 39 = .ok (.invokevirtual 234, 3) by decide +kernel), xw_1168, xw_1169, xw_1170, rfl⟩⟩),
  List.forall_mem_cons.mpr ⟨(xOK_pure (xs_aload_n (k := 0) rfl (show decode cX10_aloftAct 42 = .ok (.aload_n 0, 1) by decide +kernel))),
  List.forall_mem_cons.mpr ⟨(xOK_pure (xs_getf xcl_10 (by decide) (show decode cX10_aloftAct 43 = .ok (.getfield 23, 3) by decide +kernel) xw_305)),
  List.forall_mem_cons.mpr ⟨(xOK_pure (xs_bipush (n := 119) (show decode cX10_aloftAct 46 = .ok (.bipush 119, 2) by decide +kernel) (by decide))),
  List.forall_mem_cons.mpr ⟨(xOK_pure (xs_aload_n (k := 0) rfl (show decode cX10_aloftAct 48 = .ok (.aload_n 0, 1) by decide +kernel))),
  List.forall_mem_cons.mpr ⟨(xOK_pure (xs_aload_n (k := 1) rfl (show decode cX10_aloftAct 49 = .ok (.aload_n 1, 1) by decide +kernel))),
  List.forall_mem_cons.mpr ⟨(xcm mi_111 ⟨⟨(by decide +kernel), (by decide +kernel), (by decide +kernel)⟩, (by decide), xw_1268, xw_120, Or.inl ⟨rfl, _, _, _, _, (show decode cX10_aloftAct 50 = .ok (.invokevirtual 339, 3) by decide +kernel), xw_1265, xw_1267, xw_40, rfl⟩⟩),
  List.forall_mem_cons.mpr ⟨(xcm mi_88 ⟨⟨(by decide +kernel), (by decide +kernel), (by decide +kernel)⟩, (by decide), xw_1171, xw_122, Or.inl ⟨rfl, _, _, _, _, (show decode cX10_aloftAct 53 = .ok (.invokevirtual 234, 3) by decide +kernel), xw_1168, xw_1169, xw_1170, rfl⟩⟩),
  List.forall_mem_cons.mpr ⟨(xOK_pure (xs_aload_n (k := 0) rfl (show decode cX10_aloftAct 56 = .ok (.aload_n 0, 1) by decide +kernel))),
  List.forall_mem_cons.mpr ⟨(xOK_pure (xs_getf xcl_10 (by decide) (show decode cX10_aloftAct 57 = .ok (.getfield 23, 3) by decide +kernel) xw_305)),
  List.forall_mem_cons.mpr ⟨(xOK_pure (xs_bipush (n := 97) (show decode cX10_aloftAct 60 = .ok (.bipush 97, 2) by decide +kernel) (by decide))),
  List.forall_mem_cons.mpr ⟨(xOK_pure (xs_iconst (n := 0) (show decode cX10_aloftAct 62 = .ok (.iconst 0, 1) by decide +kernel) (by decide))),
  List.forall_mem_cons.mpr ⟨(xcm mi_88 ⟨⟨(by decide +kernel), (by decide +kernel), (by decide +kernel)⟩, (by decide), xw_1171, xw_122, Or.inl ⟨rfl, _, _, _, _, (show decode cX10_aloftAct 63 = .ok (.invokevirtual 234, 3) by decide +kernel), xw_1168, xw_1169, xw_1170, rfl⟩⟩),
  List.forall_mem_cons.mpr ⟨(xOK_pure (xs_aload_n (k := 0) rfl (show decode cX10_aloftAct 66 = .ok (.aload_n 0, 1) by decide +kernel))),
  List.forall_mem_cons.mpr ⟨(xOK_pure (xs_getf xcl_10 (by decide) (show decode cX10_aloftAct 67 = .ok (.getfield 23, 3) by decide +kernel) xw_305)),
  List.forall_mem_cons.mpr ⟨(xOK_pure (xs_bipush (n := 102) (show decode cX10_aloftAct 70 = .ok (.bipush 102, 2) by decide +kernel) (by decide))),
  List.forall_mem_cons.mpr ⟨(xOK_pure (xs_aload_n (k := 1) rfl (show decode cX10_aloftAct 72 = .ok (.aload_n 1, 1) by decide +kernel))),
  List.forall_mem_cons.mpr ⟨(xOK_pure (xs_getf xcl_6 (by decide) (show decode cX10_aloftAct 73 = .ok (.getfield 302, 3) by decide +kernel) xw_639)),
  List.forall_mem_cons.mpr ⟨(xcm mi_88 ⟨⟨(by decide +kernel), (by decide +kernel), (by decide +kernel)⟩, (by decide), xw_1171, xw_122, Or.inl ⟨rfl, _, _, _, _, (show decode cX10_aloftAct 76 = .ok (.invokevirtual 234, 3) by decide +kernel), xw_1168, xw_1169, xw_1170, rfl⟩⟩),
  List.forall_mem_cons.mpr ⟨(xOK_pure (xs_aload_n (k := 0) rfl (show decode cX10_aloftAct 79 = .ok (.aload_n 0, 1) by decide +kernel))),
  (fun _ h => absurd h List.not_mem_nil)⟩⟩⟩⟩⟩⟩⟩⟩⟩⟩⟩⟩⟩⟩⟩⟩⟩⟩⟩⟩
def pX10_aloftAct_2 (ev : xEv) : List (Nat × xEn) := [(80, .inl (xop (xf_getf 10 2))), (83, .inl (xop (xf_push (.int 103) 2))), (85, .inl (xop (xf_aload 2 1))), (86, .inl (xop (xf_aload 1 1))), (87, .inl (xop (xf_getf 6 10))), (90, .inl (xop (xf_aload 1 1))), (91, .inl (xop (xf_getf 6 11))), (94, .inr (.inl (0, 38, 2, 3))), (97, .inl (xop (xf_aload 1 1))), (98, .inl (xop (xf_getf 6 0))), (101, .inr (.inl (3, 184, 2, 11))), (104, .inr (.inl (0, 88, 2, 8))), (107, .inl (xop (xf_aload 0 1))), (108, .inl (xop (xf_aload 1 1))), (109, .inl (xop (xf_aload 0 1))), (110, .inl (xop (xf_getf 10 11))), (113, .inl (xop (xf_aload 1 1))), (114, .inl (xop (xf_getf 6 17))), (117, .inl (xop (xf_aald (ev.1 8)))), (118, .inl (xop (xf_aload 2 1)))]
set_option maxRecDepth 20000 in
theorem okpX10_aloftAct_2 (ev : xEv) : ∀ q ∈ pX10_aloftAct_2 ev, xEnOK ev xmi yX10_aloftAct.cls yX10_aloftAct.name cX10_aloftAct 3 (some .int) q :=
  List.forall_mem_cons.mpr ⟨(xOK_pure (xs_getf xcl_10 (by decide) (show decode cX10_aloftAct 80 = .ok (.getfield 23, 3) by decide +kernel) xw_305)),
  List.forall_mem_cons.mpr ⟨(xOK_pure (xs_bipush (n := 103) (show decode cX10_aloftAct 83 = .ok (.bipush 103, 2) by decide +kernel) (by decide))),
  List.forall_mem_cons.mpr ⟨(xOK_pure (xs_aload_n (k := 2) rfl (show decode cX10_aloftAct 85 = .ok (.aload_n 2, 1) by decide +kernel))),
  List.forall_mem_cons.mpr ⟨(xOK_pure (xs_aload_n (k := 1) rfl (show decode cX10_aloftAct 86 = .ok (.aload_n 1, 1) by decide +kernel))),
  List.forall_mem_cons.mpr ⟨(xOK_pure (xs_getf xcl_6 (by decide) (show decode cX10_aloftAct 87 = .ok (.getfield 342, 3) by decide +kernel) xw_622)),
  List.forall_mem_cons.mpr ⟨(xOK_pure (xs_aload_n (k := 1) rfl (show decode cX10_aloftAct 90 = .ok (.aload_n 1, 1) by decide +kernel))),
  List.forall_mem_cons.mpr ⟨(xOK_pure (xs_getf xcl_6 (by decide) (show decode cX10_aloftAct 91 = .ok (.getfield 322, 3) by decide +kernel) xw_625)),
  List.forall_mem_cons.mpr ⟨(xcm mi_38 ⟨⟨(by decide +kernel), (by decide +kernel), (by decide +kernel)⟩, (by decide), xw_1276, xw_126, Or.inl ⟨rfl, _, _, _, _, (show decode cX10_aloftAct 94 = .ok (.invokevirtual 345, 3) by decide +kernel), xw_1273, xw_1274, xw_1275, rfl⟩⟩),
  List.forall_mem_cons.mpr ⟨(xOK_pure (xs_aload_n (k := 1) rfl (show decode cX10_aloftAct 97 = .ok (.aload_n 1, 1) by decide +kernel))),
  List.forall_mem_cons.mpr ⟨(xOK_pure (xs_getf xcl_6 (by decide) (show decode cX10_aloftAct 98 = .ok (.getfield 247, 3) by decide +kernel) xw_594)),
  List.forall_mem_cons.mpr ⟨(xcm mi_184 ⟨⟨(by decide +kernel), (by decide +kernel), (by decide +kernel)⟩, (by decide), xw_827, xw_118, Or.inr (Or.inr (Or.inr (Or.inl ⟨rfl, _, _, (show decode cX10_aloftAct 101 = .ok (.invokestatic 115, 3) by decide +kernel), xwn_1123, xw_826⟩)))⟩),
  List.forall_mem_cons.mpr ⟨(xcm mi_88 ⟨⟨(by decide +kernel), (by decide +kernel), (by decide +kernel)⟩, (by decide), xw_1171, xw_122, Or.inl ⟨rfl, _, _, _, _, (show decode cX10_aloftAct 104 = .ok (.invokevirtual 234, 3) by decide +kernel), xw_1168, xw_1169, xw_1170, rfl⟩⟩),
  List.forall_mem_cons.mpr ⟨(xOK_pure (xs_aload_n (k := 0) rfl (show decode cX10_aloftAct 107 = .ok (.aload_n 0, 1) by decide +kernel))),
  List.forall_mem_cons.mpr ⟨(xOK_pure (xs_aload_n (k := 1) rfl (show decode cX10_aloftAct 108 = .ok (.aload_n 1, 1) by decide +kernel))),
  List.forall_mem_cons.mpr ⟨(xOK_pure (xs_aload_n (k := 0) rfl (show decode cX10_aloftAct 109 = .ok (.aload_n 0, 1) by decide +kernel))),
  List.forall_mem_cons.mpr ⟨(xOK_pure (xs_getf xcl_10 (by decide) (show decode cX10_aloftAct 110 = .ok (.getfield 54, 3) by decide +kernel) xw_324)),
  List.forall_mem_cons.mpr ⟨(xOK_pure (xs_aload_n (k := 1) rfl (show decode cX10_aloftAct 113 = .ok (.aload_n 1, 1) by decide +kernel))),
  List.forall_mem_cons.mpr ⟨(xOK_pure (xs_getf xcl_6 (by decide) (show decode cX10_aloftAct 114 = .ok (.getfield 297, 3) by decide +kernel) xw_645)),
  List.forall_mem_cons.mpr ⟨(xOK_pure (xs_aald (t := 8) rfl (show decode cX10_aloftAct 117 = .ok (.aaload, 1) by decide +kernel))),
  List.forall_mem_cons.mpr ⟨(xOK_pure (xs_aload_n (k := 2) rfl (show decode cX10_aloftAct 118 = .ok (.aload_n 2, 1) by decide +kernel))),
  (fun _ h => absurd h List.not_mem_nil)⟩⟩⟩⟩⟩⟩⟩⟩⟩⟩⟩⟩⟩⟩⟩⟩⟩⟩⟩⟩
def pX10_aloftAct_3 (ev : xEv) : List (Nat × xEn) := [(119, .inl (xop (xf_aload 1 1))), (120, .inl (xop (xf_getf 6 11))), (123, .inr (.inl (0, 36, 1, 3))), (126, .inr (.inl (0, 105, 3, 10))), (129, .inl (xop (xf_aload 0 1))), (130, .inl (xop (xf_getf 10 2))), (133, .inl (xop (xf_aload 0 1))), (134, .inl (xop (xf_getf 10 2))), (137, .inl (xop (xf_push (.int 1) 1))), (138, .inl (xop (xf_aload 0 1))), (139, .inl (xop (xf_getf 10 13))), (142, .inr (.inl (0, 87, 2, 8))), (145, .inl (xop (xf_push (.int 71) 2))), (147, .inr (.inl (0, 89, 2, 8))), (150, .inr (.inr 1))]
set_option maxRecDepth 20000 in
theorem okpX10_aloftAct_3 (ev : xEv) : ∀ q ∈ pX10_aloftAct_3 ev, xEnOK ev xmi yX10_aloftAct.cls yX10_aloftAct.name cX10_aloftAct 3 (some .int) q :=
  List.forall_mem_cons.mpr ⟨(xOK_pure (xs_aload_n (k := 1) rfl (show decode cX10_aloftAct 119 = .ok (.aload_n 1, 1) by decide +kernel))),
  List.forall_mem_cons.mpr ⟨(xOK_pure (xs_getf xcl_6 (by decide) (show decode cX10_aloftAct 120 = .ok (.getfield 322, 3) by decide +kernel) xw_625)),
  List.forall_mem_cons.mpr ⟨(xcm mi_36 ⟨⟨(by decide +kernel), (by decide +kernel), (by decide +kernel)⟩, (by decide), xw_1175, xw_126, Or.inl ⟨rfl, _, _, _, _, (show decode cX10_aloftAct 123 = .ok (.invokevirtual 250, 3) by decide +kernel), xw_1172, xw_1173, xw_1174, rfl⟩⟩),
  List.forall_mem_cons.mpr ⟨(xcm mi_105 ⟨⟨(by decide +kernel), (by decide +kernel), (by decide +kernel)⟩, (by decide), xw_1179, xw_120, Or.inl ⟨rfl, _, _, _, _, (show decode cX10_aloftAct 126 = .ok (.invokevirtual 254, 3) by decide +kernel), xw_1176, xw_1178, xw_30, rfl⟩⟩),
  List.forall_mem_cons.mpr ⟨(xOK_pure (xs_aload_n (k := 0) rfl (show decode cX10_aloftAct 129 = .ok (.aload_n 0, 1) by decide +kernel))),
  List.forall_mem_cons.mpr ⟨(xOK_pure (xs_getf xcl_10 (by decide) (show decode cX10_aloftAct 130 = .ok (.getfield 23, 3) by decide +kernel) xw_305)),
  List.forall_mem_cons.mpr ⟨(xOK_pure (xs_aload_n (k := 0) rfl (show decode cX10_aloftAct 133 = .ok (.aload_n 0, 1) by decide +kernel))),
  List.forall_mem_cons.mpr ⟨(xOK_pure (xs_getf xcl_10 (by decide) (show decode cX10_aloftAct 134 = .ok (.getfield 23, 3) by decide +kernel) xw_305)),
  List.forall_mem_cons.mpr ⟨(xOK_pure (xs_iconst (n := 1) (show decode cX10_aloftAct 137 = .ok (.iconst 1, 1) by decide +kernel) (by decide))),
  List.forall_mem_cons.mpr ⟨(xOK_pure (xs_aload_n (k := 0) rfl (show decode cX10_aloftAct 138 = .ok (.aload_n 0, 1) by decide +kernel))),
  List.forall_mem_cons.mpr ⟨(xOK_pure (xs_getf xcl_10 (by decide) (show decode cX10_aloftAct 139 = .ok (.getfield 69, 3) by decide +kernel) xw_328)),
  List.forall_mem_cons.mpr ⟨(xcm mi_87 ⟨⟨(by decide +kernel), (by decide +kernel), (by decide +kernel)⟩, (by decide), xw_1187, xw_122, Or.inl ⟨rfl, _, _, _, _, (show decode cX10_aloftAct 142 = .ok (.invokevirtual 258, 3) by decide +kernel), xw_1184, xw_1185, xw_1186, rfl⟩⟩),
  List.forall_mem_cons.mpr ⟨(xOK_pure (xs_bipush (n := 71) (show decode cX10_aloftAct 145 = .ok (.bipush 71, 2) by decide +kernel) (by decide))),
  List.forall_mem_cons.mpr ⟨(xcm mi_89 ⟨⟨(by decide +kernel), (by decide +kernel), (by decide +kernel)⟩, (by decide), xw_1191, xw_122, Or.inl ⟨rfl, _, _, _, _, (show decode cX10_aloftAct 147 = .ok (.invokevirtual 261, 3) by decide +kernel), xw_1188, xw_1189, xw_1190, rfl⟩⟩),
  List.forall_mem_cons.mpr ⟨(Or.inr (Or.inl ⟨rfl, (show decode cX10_aloftAct 150 = .ok (.ireturn, 1) by decide +kernel), rfl⟩)),
  (fun _ h => absurd h List.not_mem_nil)⟩⟩⟩⟩⟩⟩⟩⟩⟩⟩⟩⟩⟩⟩⟩
def pX10_aloftAct (ev : xEv) : List (Nat × xEn) := pX10_aloftAct_0 ev ++ (pX10_aloftAct_1 ev ++ (pX10_aloftAct_2 ev ++ (pX10_aloftAct_3 ev)))
theorem okpX10_aloftAct (ev : xEv) : ∀ q ∈ pX10_aloftAct ev, xEnOK ev xmi yX10_aloftAct.cls yX10_aloftAct.name cX10_aloftAct 3 (some .int) q := List.forall_mem_append.mpr ⟨okpX10_aloftAct_0 ev, List.forall_mem_append.mpr ⟨okpX10_aloftAct_1 ev, List.forall_mem_append.mpr ⟨okpX10_aloftAct_2 ev, okpX10_aloftAct_3 ev⟩⟩⟩
theorem omX10_aloftAct (ev : xEv) : xMethOK ev xmi yX10_aloftAct.cls yX10_aloftAct.name 110 (pX10_aloftAct ev) := xMethOK.of mi_110 (by decide +kernel) (okpX10_aloftAct ev)
def pX10_windFor (ev : xEv) : List (Nat × xEn) := [(0, .inl (xop (xf_aload 0 1))), (1, .inl (xop (xf_getf 10 0))), (4, .inl (xop (xf_aload 1 1))), (5, .inl (xop (xf_getf 6 9))), (8, .inl (xop (xf_aload 0 1))), (9, .inl (xop (xf_getf 10 13))), (12, .inr (.inl (0, 23, 2, 2))), (15, .inl (xop (xf_istore 2 1))), (16, .inl (xop (xf_aload 1 1))), (17, .inl (xop (xf_getf 6 11))), (20, .inl (xop (xf_if_eq 27))), (23, .inl (xop (xf_iload 2 1))), (24, .inl (xop (xf_goto 29))), (27, .inl (xop (xf_iload 2 1))), (28, .inl (xop (xf_un (fun x => -x)))), (29, .inr (.inr 1))]
set_option maxRecDepth 20000 in
theorem okpX10_windFor (ev : xEv) : ∀ q ∈ pX10_windFor ev, xEnOK ev xmi yX10_windFor.cls yX10_windFor.name cX10_windFor 3 (some .int) q :=
  List.forall_mem_cons.mpr ⟨(xOK_pure (xs_aload_n (k := 0) rfl (show decode cX10_windFor 0 = .ok (.aload_n 0, 1) by decide +kernel))),
  List.forall_mem_cons.mpr ⟨(xOK_pure (xs_getf xcl_10 (by decide) (show decode cX10_windFor 1 = .ok (.getfield 65, 3) by decide +kernel) xw_301)),
  List.forall_mem_cons.mpr ⟨(xOK_pure (xs_aload_n (k := 1) rfl (show decode cX10_windFor 4 = .ok (.aload_n 1, 1) by decide +kernel))),
  List.forall_mem_cons.mpr ⟨(xOK_pure (xs_getf xcl_6 (by decide) (show decode cX10_windFor 5 = .ok (.getfield 300, 3) by decide +kernel) xw_619)),
  List.forall_mem_cons.mpr ⟨(xOK_pure (xs_aload_n (k := 0) rfl (show decode cX10_windFor 8 = .ok (.aload_n 0, 1) by decide +kernel))),
  List.forall_mem_cons.mpr ⟨(xOK_pure (xs_getf xcl_10 (by decide) (show decode cX10_windFor 9 = .ok (.getfield 69, 3) by decide +kernel) xw_328)),
  List.forall_mem_cons.mpr ⟨(xcm mi_23 ⟨⟨(by decide +kernel), (by decide +kernel), (by decide +kernel)⟩, (by decide), xw_1272, xw_119, Or.inl ⟨rfl, _, _, _, _, (show decode cX10_windFor 12 = .ok (.invokevirtual 349, 3) by decide +kernel), xw_1269, xw_1270, xw_1271, rfl⟩⟩),
  List.forall_mem_cons.mpr ⟨(xOK_pure (xs_istore_n (k := 2) rfl (show decode cX10_windFor 15 = .ok (.istore_n 2, 1) by decide +kernel) (by decide))),
  List.forall_mem_cons.mpr ⟨(xOK_pure (xs_aload_n (k := 1) rfl (show decode cX10_windFor 16 = .ok (.aload_n 1, 1) by decide +kernel))),
  List.forall_mem_cons.mpr ⟨(xOK_pure (xs_getf xcl_6 (by decide) (show decode cX10_windFor 17 = .ok (.getfield 322, 3) by decide +kernel) xw_625)),
  List.forall_mem_cons.mpr ⟨(xOK_pure (xs_if_eq (show decode cX10_windFor 20 = .ok (.ifCond .eq 7, 3) by decide +kernel) (by decide))),
  List.forall_mem_cons.mpr ⟨(xOK_pure (xs_iload_n (k := 2) rfl (show decode cX10_windFor 23 = .ok (.iload_n 2, 1) by decide +kernel))),
  List.forall_mem_cons.mpr ⟨(xOK_pure (xs_goto (show decode cX10_windFor 24 = .ok (.goto 5, 3) by decide +kernel) (by decide))),
  List.forall_mem_cons.mpr ⟨(xOK_pure (xs_iload_n (k := 2) rfl (show decode cX10_windFor 27 = .ok (.iload_n 2, 1) by decide +kernel))),
  List.forall_mem_cons.mpr ⟨(xOK_pure (xs_ineg (show decode cX10_windFor 28 = .ok (.ineg, 1) by decide +kernel))),
  List.forall_mem_cons.mpr ⟨(Or.inr (Or.inl ⟨rfl, (show decode cX10_windFor 29 = .ok (.ireturn, 1) by decide +kernel), rfl⟩)),
  (fun _ h => absurd h List.not_mem_nil)⟩⟩⟩⟩⟩⟩⟩⟩⟩⟩⟩⟩⟩⟩⟩⟩
theorem omX10_windFor (ev : xEv) : xMethOK ev xmi yX10_windFor.cls yX10_windFor.name 111 (pX10_windFor ev) := xMethOK.of mi_111 (by decide +kernel) (okpX10_windFor ev)
def pX10_reachesField_0 (ev : xEv) : List (Nat × xEn) := [(0, .inl (xop (xf_push (.int 1) 1))), (1, .inl (xop (xf_aload 1 1))), (2, .inl (xop (xf_getf 6 0))), (5, .inl (xop (xf_aload 0 1))), (6, .inl (xop (xf_aload 1 1))), (7, .inr (.inl (0, 111, 1, 10))), (10, .inl (xop (xf_bin (fun x y => x + y)))), (11, .inl (xop (xf_m2 (fun x y => if x < y then y else x)))), (14, .inl (xop (xf_istore 2 1))), (15, .inl (xop (xf_iload 2 1))), (16, .inl (xop (xf_aload 0 1))), (17, .inl (xop (xf_getf 10 0))), (20, .inl (xop (xf_getf 2 4))), (23, .inl (xop (xf_aload 1 1))), (24, .inl (xop (xf_getf 6 9))), (27, .inl (xop (xf_aald (ev.1 4)))), (28, .inl (xop (xf_aload 1 1))), (29, .inl (xop (xf_getf 6 10))), (32, .inl (xop (xf_aload 1 1))), (33, .inl (xop (xf_getf 6 11)))]
set_option maxRecDepth 20000 in
theorem okpX10_reachesField_0 (ev : xEv) : ∀ q ∈ pX10_reachesField_0 ev, xEnOK ev xmi yX10_reachesField.cls yX10_reachesField.name cX10_reachesField 3 (some .boolean) q :=
  List.forall_mem_cons.mpr ⟨(xOK_pure (xs_iconst (n := 1) (show decode cX10_reachesField 0 = .ok (.iconst 1, 1) by decide +kernel) (by decide))),
  List.forall_mem_cons.mpr ⟨(xOK_pure (xs_aload_n (k := 1) rfl (show decode cX10_reachesField 1 = .ok (.aload_n 1, 1) by decide +kernel))),
  List.forall_mem_cons.mpr ⟨(xOK_pure (xs_getf xcl_6 (by decide) (show decode cX10_reachesField 2 = .ok (.getfield 247, 3) by decide +kernel) xw_594)),
  List.forall_mem_cons.mpr ⟨(xOK_pure (xs_aload_n (k := 0) rfl (show decode cX10_reachesField 5 = .ok (.aload_n 0, 1) by decide +kernel))),
  List.forall_mem_cons.mpr ⟨(xOK_pure (xs_aload_n (k := 1) rfl (show decode cX10_reachesField 6 = .ok (.aload_n 1, 1) by decide +kernel))),
  List.forall_mem_cons.mpr ⟨(xcm mi_111 ⟨⟨(by decide +kernel), (by decide +kernel), (by decide +kernel)⟩, (by decide), xw_1268, xw_120, Or.inl ⟨rfl, _, _, _, _, (show decode cX10_reachesField 7 = .ok (.invokevirtual 339, 3) by decide +kernel), xw_1265, xw_1267, xw_40, rfl⟩⟩),
  List.forall_mem_cons.mpr ⟨(xOK_pure (xs_iadd (show decode cX10_reachesField 10 = .ok (.iadd, 1) by decide +kernel))),
  List.forall_mem_cons.mpr ⟨(xOK_pure (xs_mmax (show decode cX10_reachesField 11 = .ok (.invokestatic 127, 3) by decide +kernel) xw_1130 xw_829 xw_127 xw_830)),
  List.forall_mem_cons.mpr ⟨(xOK_pure (xs_istore_n (k := 2) rfl (show decode cX10_reachesField 14 = .ok (.istore_n 2, 1) by decide +kernel) (by decide))),
  List.forall_mem_cons.mpr ⟨(xOK_pure (xs_iload_n (k := 2) rfl (show decode cX10_reachesField 15 = .ok (.iload_n 2, 1) by decide +kernel))),
  List.forall_mem_cons.mpr ⟨(xOK_pure (xs_aload_n (k := 0) rfl (show decode cX10_reachesField 16 = .ok (.aload_n 0, 1) by decide +kernel))),
  List.forall_mem_cons.mpr ⟨(xOK_pure (xs_getf xcl_10 (by decide) (show decode cX10_reachesField 17 = .ok (.getfield 65, 3) by decide +kernel) xw_301)),
  List.forall_mem_cons.mpr ⟨(xOK_pure (xs_getf xcl_2 (by decide) (show decode cX10_reachesField 20 = .ok (.getfield 164, 3) by decide +kernel) xw_174)),
  List.forall_mem_cons.mpr ⟨(xOK_pure (xs_aload_n (k := 1) rfl (show decode cX10_reachesField 23 = .ok (.aload_n 1, 1) by decide +kernel))),
  List.forall_mem_cons.mpr ⟨(xOK_pure (xs_getf xcl_6 (by decide) (show decode cX10_reachesField 24 = .ok (.getfield 300, 3) by decide +kernel) xw_619)),
  List.forall_mem_cons.mpr ⟨(xOK_pure (xs_aald (t := 4) rfl (show decode cX10_reachesField 27 = .ok (.aaload, 1) by decide +kernel))),
  List.forall_mem_cons.mpr ⟨(xOK_pure (xs_aload_n (k := 1) rfl (show decode cX10_reachesField 28 = .ok (.aload_n 1, 1) by decide +kernel))),
  List.forall_mem_cons.mpr ⟨(xOK_pure (xs_getf xcl_6 (by decide) (show decode cX10_reachesField 29 = .ok (.getfield 342, 3) by decide +kernel) xw_622)),
  List.forall_mem_cons.mpr ⟨(xOK_pure (xs_aload_n (k := 1) rfl (show decode cX10_reachesField 32 = .ok (.aload_n 1, 1) by decide +kernel))),
  List.forall_mem_cons.mpr ⟨(xOK_pure (xs_getf xcl_6 (by decide) (show decode cX10_reachesField 33 = .ok (.getfield 322, 3) by decide +kernel) xw_625)),
  (fun _ h => absurd h List.not_mem_nil)⟩⟩⟩⟩⟩⟩⟩⟩⟩⟩⟩⟩⟩⟩⟩⟩⟩⟩⟩⟩
def pX10_reachesField_1 (ev : xEv) : List (Nat × xEn) := [(36, .inr (.inl (0, 38, 2, 3))), (39, .inl (xop (xf_icmp_lt 44))), (42, .inl (xop (xf_push (.int 1) 1))), (43, .inr (.inr 4)), (44, .inl (xop (xf_aload 1 1))), (45, .inl (xop xf_dup)), (46, .inl (xop (xf_getf 6 10))), (49, .inl (xop (xf_aload 1 1))), (50, .inl (xop (xf_getf 6 11))), (53, .inl (xop (xf_if_eq 60))), (56, .inl (xop (xf_iload 2 1))), (57, .inl (xop (xf_goto 62))), (60, .inl (xop (xf_iload 2 1))), (61, .inl (xop (xf_un (fun x => -x)))), (62, .inl (xop (xf_bin (fun x y => x + y)))), (63, .inl (xo_putf 6 10 .int)), (66, .inl (xop (xf_push (.int 0) 1))), (67, .inr (.inr 4))]
set_option maxRecDepth 20000 in
theorem okpX10_reachesField_1 (ev : xEv) : ∀ q ∈ pX10_reachesField_1 ev, xEnOK ev xmi yX10_reachesField.cls yX10_reachesField.name cX10_reachesField 3 (some .boolean) q :=
  List.forall_mem_cons.mpr ⟨(xcm mi_38 ⟨⟨(by decide +kernel), (by decide +kernel), (by decide +kernel)⟩, (by decide), xw_1276, xw_126, Or.inl ⟨rfl, _, _, _, _, (show decode cX10_reachesField 36 = .ok (.invokevirtual 345, 3) by decide +kernel), xw_1273, xw_1274, xw_1275, rfl⟩⟩),
  List.forall_mem_cons.mpr ⟨(xOK_pure (xs_icmp_lt (show decode cX10_reachesField 39 = .ok (.if_icmp .lt 5, 3) by decide +kernel) (by decide))),
  List.forall_mem_cons.mpr ⟨(xOK_pure (xs_iconst (n := 1) (show decode cX10_reachesField 42 = .ok (.iconst 1, 1) by decide +kernel) (by decide))),
  List.forall_mem_cons.mpr ⟨(Or.inr (Or.inr (Or.inr (Or.inr (Or.inl ⟨rfl, (show decode cX10_reachesField 43 = .ok (.ireturn, 1) by decide +kernel), rfl⟩))))),
  List.forall_mem_cons.mpr ⟨(xOK_pure (xs_aload_n (k := 1) rfl (show decode cX10_reachesField 44 = .ok (.aload_n 1, 1) by decide +kernel))),
  List.forall_mem_cons.mpr ⟨(xOK_pure (xs_dup (show decode cX10_reachesField 45 = .ok (.dup, 1) by decide +kernel))),
  List.forall_mem_cons.mpr ⟨(xOK_pure (xs_getf xcl_6 (by decide) (show decode cX10_reachesField 46 = .ok (.getfield 342, 3) by decide +kernel) xw_622)),
  List.forall_mem_cons.mpr ⟨(xOK_pure (xs_aload_n (k := 1) rfl (show decode cX10_reachesField 49 = .ok (.aload_n 1, 1) by decide +kernel))),
  List.forall_mem_cons.mpr ⟨(xOK_pure (xs_getf xcl_6 (by decide) (show decode cX10_reachesField 50 = .ok (.getfield 322, 3) by decide +kernel) xw_625)),
  List.forall_mem_cons.mpr ⟨(xOK_pure (xs_if_eq (show decode cX10_reachesField 53 = .ok (.ifCond .eq 7, 3) by decide +kernel) (by decide))),
  List.forall_mem_cons.mpr ⟨(xOK_pure (xs_iload_n (k := 2) rfl (show decode cX10_reachesField 56 = .ok (.iload_n 2, 1) by decide +kernel))),
  List.forall_mem_cons.mpr ⟨(xOK_pure (xs_goto (show decode cX10_reachesField 57 = .ok (.goto 5, 3) by decide +kernel) (by decide))),
  List.forall_mem_cons.mpr ⟨(xOK_pure (xs_iload_n (k := 2) rfl (show decode cX10_reachesField 60 = .ok (.iload_n 2, 1) by decide +kernel))),
  List.forall_mem_cons.mpr ⟨(xOK_pure (xs_ineg (show decode cX10_reachesField 61 = .ok (.ineg, 1) by decide +kernel))),
  List.forall_mem_cons.mpr ⟨(xOK_pure (xs_iadd (show decode cX10_reachesField 62 = .ok (.iadd, 1) by decide +kernel))),
  List.forall_mem_cons.mpr ⟨(xs_putf (k := 10) xcl_6 (by decide) rfl (show decode cX10_reachesField 63 = .ok (.putfield 342, 3) by decide +kernel) xw_622),
  List.forall_mem_cons.mpr ⟨(xOK_pure (xs_iconst (n := 0) (show decode cX10_reachesField 66 = .ok (.iconst 0, 1) by decide +kernel) (by decide))),
  List.forall_mem_cons.mpr ⟨(Or.inr (Or.inr (Or.inr (Or.inr (Or.inl ⟨rfl, (show decode cX10_reachesField 67 = .ok (.ireturn, 1) by decide +kernel), rfl⟩))))),
  (fun _ h => absurd h List.not_mem_nil)⟩⟩⟩⟩⟩⟩⟩⟩⟩⟩⟩⟩⟩⟩⟩⟩⟩⟩
def pX10_reachesField (ev : xEv) : List (Nat × xEn) := pX10_reachesField_0 ev ++ (pX10_reachesField_1 ev)
theorem okpX10_reachesField (ev : xEv) : ∀ q ∈ pX10_reachesField ev, xEnOK ev xmi yX10_reachesField.cls yX10_reachesField.name cX10_reachesField 3 (some .boolean) q := List.forall_mem_append.mpr ⟨okpX10_reachesField_0 ev, okpX10_reachesField_1 ev⟩
theorem omX10_reachesField (ev : xEv) : xMethOK ev xmi yX10_reachesField.cls yX10_reachesField.name 112 (pX10_reachesField ev) := xMethOK.of mi_112 (by decide +kernel) (okpX10_reachesField ev)
def pX10_comeIn_0 (ev : xEv) : List (Nat × xEn) := [(0, .inl (xop (xf_aload 1 1))), (1, .inl (xop (xf_getf 6 9))), (4, .inl (xop (xf_istore 3 1))), (5, .inl (xop (xf_aload 0 1))), (6, .inr (.inl (0, 100, 0, 10))), (9, .inl (xop (xf_if_eq 36))), (12, .inl (xop (xf_aload 0 1))), (13, .inl (xop (xf_getf 10 0))), (16, .inl (xop (xf_getf 2 1))), (19, .inl (xop (xf_iload 2 1))), (20, .inl (xop (xf_ald (ev.1 2)))), (21, .inl (xop (xf_if_eq 31))), (24, .inl (xop (xf_aload 1 1))), (25, .inl (xop (xf_getf 6 4))), (28, .inl (xop (xf_if_ne 36))), (31, .inl (xop (xf_aload 1 1))), (32, .inl (xop (xf_push (.int 1) 1))), (33, .inl (xo_putf 6 13 .int)), (36, .inl (xop (xf_aload 0 1))), (37, .inl (xop (xf_getf 10 11)))]
set_option maxRecDepth 20000 in
theorem okpX10_comeIn_0 (ev : xEv) : ∀ q ∈ pX10_comeIn_0 ev, xEnOK ev xmi yX10_comeIn.cls yX10_comeIn.name cX10_comeIn 4 none q :=
  List.forall_mem_cons.mpr ⟨(xOK_pure (xs_aload_n (k := 1) rfl (show decode cX10_comeIn 0 = .ok (.aload_n 1, 1) by decide +kernel))),
  List.forall_mem_cons.mpr ⟨(xOK_pure (xs_getf xcl_6 (by decide) (show decode cX10_comeIn 1 = .ok (.getfield 300, 3) by decide +kernel) xw_619)),
  List.forall_mem_cons.mpr ⟨(xOK_pure (xs_istore_n (k := 3) rfl (show decode cX10_comeIn 4 = .ok (.istore_n 3, 1) by decide +kernel) (by decide))),
  List.forall_mem_cons.mpr ⟨(xOK_pure (xs_aload_n (k := 0) rfl (show decode cX10_comeIn 5 = .ok (.aload_n 0, 1) by decide +kernel))),
  List.forall_mem_cons.mpr ⟨(xcm mi_100 ⟨⟨(by decide +kernel), (by decide +kernel), (by decide +kernel)⟩, (by decide), xw_1155, xw_120, Or.inl ⟨rfl, _, _, _, _, (show decode cX10_comeIn 6 = .ok (.invokevirtual 198, 3) by decide +kernel), xw_1152, xw_1154, xw_28, rfl⟩⟩),
  List.forall_mem_cons.mpr ⟨(xOK_pure (xs_if_eq (show decode cX10_comeIn 9 = .ok (.ifCond .eq 27, 3) by decide +kernel) (by decide))),
  List.forall_mem_cons.mpr ⟨(xOK_pure (xs_aload_n (k := 0) rfl (show decode cX10_comeIn 12 = .ok (.aload_n 0, 1) by decide +kernel))),
  List.forall_mem_cons.mpr ⟨(xOK_pure (xs_getf xcl_10 (by decide) (show decode cX10_comeIn 13 = .ok (.getfield 65, 3) by decide +kernel) xw_301)),
  List.forall_mem_cons.mpr ⟨(xOK_pure (xs_getf xcl_2 (by decide) (show decode cX10_comeIn 16 = .ok (.getfield 264, 3) by decide +kernel) xw_165)),
  List.forall_mem_cons.mpr ⟨(xOK_pure (xs_iload_n (k := 2) rfl (show decode cX10_comeIn 19 = .ok (.iload_n 2, 1) by decide +kernel))),
  List.forall_mem_cons.mpr ⟨(xOK_pure (xs_zald (show decode cX10_comeIn 20 = .ok (.baload, 1) by decide +kernel))),
  List.forall_mem_cons.mpr ⟨(xOK_pure (xs_if_eq (show decode cX10_comeIn 21 = .ok (.ifCond .eq 10, 3) by decide +kernel) (by decide))),
  List.forall_mem_cons.mpr ⟨(xOK_pure (xs_aload_n (k := 1) rfl (show decode cX10_comeIn 24 = .ok (.aload_n 1, 1) by decide +kernel))),
  List.forall_mem_cons.mpr ⟨(xOK_pure (xs_getf xcl_6 (by decide) (show decode cX10_comeIn 25 = .ok (.getfield 201, 3) by decide +kernel) xw_602)),
  List.forall_mem_cons.mpr ⟨(xOK_pure (xs_if_ne (show decode cX10_comeIn 28 = .ok (.ifCond .ne 8, 3) by decide +kernel) (by decide))),
  List.forall_mem_cons.mpr ⟨(xOK_pure (xs_aload_n (k := 1) rfl (show decode cX10_comeIn 31 = .ok (.aload_n 1, 1) by decide +kernel))),
  List.forall_mem_cons.mpr ⟨(xOK_pure (xs_iconst (n := 1) (show decode cX10_comeIn 32 = .ok (.iconst 1, 1) by decide +kernel) (by decide))),
  List.forall_mem_cons.mpr ⟨(xs_putf (k := 13) xcl_6 (by decide) rfl (show decode cX10_comeIn 33 = .ok (.putfield 186, 3) by decide +kernel) xw_631),
  List.forall_mem_cons.mpr ⟨(xOK_pure (xs_aload_n (k := 0) rfl (show decode cX10_comeIn 36 = .ok (.aload_n 0, 1) by decide +kernel))),
  List.forall_mem_cons.mpr ⟨(xOK_pure (xs_getf xcl_10 (by decide) (show decode cX10_comeIn 37 = .ok (.getfield 54, 3) by decide +kernel) xw_324)),
  (fun _ h => absurd h List.not_mem_nil)⟩⟩⟩⟩⟩⟩⟩⟩⟩⟩⟩⟩⟩⟩⟩⟩⟩⟩⟩⟩
def pX10_comeIn_1 (ev : xEv) : List (Nat × xEn) := [(40, .inl (xop (xf_aload 1 1))), (41, .inl (xop (xf_getf 6 17))), (44, .inl (xop (xf_aald (ev.1 8)))), (45, .inl (xop (xf_push (.int 2) 1))), (46, .inl (xop (xf_aload 0 1))), (47, .inl (xop (xf_getf 10 13))), (50, .inr (.inl (0, 13, 2, 1))), (53, .inl (xop (xf_aload 0 1))), (54, .inl (xop (xf_getf 10 1))), (57, .inl (xop (xf_iload 2 1))), (58, .inl (xop (xf_aload 0 1))), (59, .inl (xop (xf_getf 10 13))), (62, .inl (xop (xf_iload 3 1))), (63, .inl (xop (xf_aload 0 1))), (64, .inl (xop (xf_getf 10 13))), (67, .inl (xop (xf_aload 0 1))), (68, .inl (xop (xf_getf 10 0))), (71, .inl (xop (xf_iload 3 1))), (72, .inl (xop (xf_aload 0 1))), (73, .inl (xop (xf_getf 10 13)))]
set_option maxRecDepth 20000 in
theorem okpX10_comeIn_1 (ev : xEv) : ∀ q ∈ pX10_comeIn_1 ev, xEnOK ev xmi yX10_comeIn.cls yX10_comeIn.name cX10_comeIn 4 none q :=
  List.forall_mem_cons.mpr ⟨(xOK_pure (xs_aload_n (k := 1) rfl (show decode cX10_comeIn 40 = .ok (.aload_n 1, 1) by decide +kernel))),
  List.forall_mem_cons.mpr ⟨(xOK_pure (xs_getf xcl_6 (by decide) (show decode cX10_comeIn 41 = .ok (.getfield 297, 3) by decide +kernel) xw_645)),
  List.forall_mem_cons.mpr ⟨(xOK_pure (xs_aald (t := 8) rfl (show decode cX10_comeIn 44 = .ok (.aaload, 1) by decide +kernel))),
  List.forall_mem_cons.mpr ⟨(xOK_pure (xs_iconst (n := 2) (show decode cX10_comeIn 45 = .ok (.iconst 2, 1) by decide +kernel) (by decide))),
  List.forall_mem_cons.mpr ⟨(xOK_pure (xs_aload_n (k := 0) rfl (show decode cX10_comeIn 46 = .ok (.aload_n 0, 1) by decide +kernel))),
  List.forall_mem_cons.mpr ⟨(xOK_pure (xs_getf xcl_10 (by decide) (show decode cX10_comeIn 47 = .ok (.getfield 69, 3) by decide +kernel) xw_328)),
  List.forall_mem_cons.mpr ⟨(xcm mi_13 ⟨⟨(by decide +kernel), (by decide +kernel), (by decide +kernel)⟩, (by decide), xw_1110, xw_141, Or.inl ⟨rfl, _, _, _, _, (show decode cX10_comeIn 50 = .ok (.invokevirtual 142, 3) by decide +kernel), xw_1143, xw_1108, xw_1109, rfl⟩⟩),
  List.forall_mem_cons.mpr ⟨(xOK_pure (xs_aload_n (k := 0) rfl (show decode cX10_comeIn 53 = .ok (.aload_n 0, 1) by decide +kernel))),
  List.forall_mem_cons.mpr ⟨(xOK_pure (xs_getf xcl_10 (by decide) (show decode cX10_comeIn 54 = .ok (.getfield 12, 3) by decide +kernel) xw_303)),
  List.forall_mem_cons.mpr ⟨(xOK_pure (xs_iload_n (k := 2) rfl (show decode cX10_comeIn 57 = .ok (.iload_n 2, 1) by decide +kernel))),
  List.forall_mem_cons.mpr ⟨(xOK_pure (xs_aload_n (k := 0) rfl (show decode cX10_comeIn 58 = .ok (.aload_n 0, 1) by decide +kernel))),
  List.forall_mem_cons.mpr ⟨(xOK_pure (xs_getf xcl_10 (by decide) (show decode cX10_comeIn 59 = .ok (.getfield 69, 3) by decide +kernel) xw_328)),
  List.forall_mem_cons.mpr ⟨(xOK_pure (xs_iload_n (k := 3) rfl (show decode cX10_comeIn 62 = .ok (.iload_n 3, 1) by decide +kernel))),
  List.forall_mem_cons.mpr ⟨(xOK_pure (xs_aload_n (k := 0) rfl (show decode cX10_comeIn 63 = .ok (.aload_n 0, 1) by decide +kernel))),
  List.forall_mem_cons.mpr ⟨(xOK_pure (xs_getf xcl_10 (by decide) (show decode cX10_comeIn 64 = .ok (.getfield 69, 3) by decide +kernel) xw_328)),
  List.forall_mem_cons.mpr ⟨(xOK_pure (xs_aload_n (k := 0) rfl (show decode cX10_comeIn 67 = .ok (.aload_n 0, 1) by decide +kernel))),
  List.forall_mem_cons.mpr ⟨(xOK_pure (xs_getf xcl_10 (by decide) (show decode cX10_comeIn 68 = .ok (.getfield 65, 3) by decide +kernel) xw_301)),
  List.forall_mem_cons.mpr ⟨(xOK_pure (xs_iload_n (k := 3) rfl (show decode cX10_comeIn 71 = .ok (.iload_n 3, 1) by decide +kernel))),
  List.forall_mem_cons.mpr ⟨(xOK_pure (xs_aload_n (k := 0) rfl (show decode cX10_comeIn 72 = .ok (.aload_n 0, 1) by decide +kernel))),
  List.forall_mem_cons.mpr ⟨(xOK_pure (xs_getf xcl_10 (by decide) (show decode cX10_comeIn 73 = .ok (.getfield 69, 3) by decide +kernel) xw_328)),
  (fun _ h => absurd h List.not_mem_nil)⟩⟩⟩⟩⟩⟩⟩⟩⟩⟩⟩⟩⟩⟩⟩⟩⟩⟩⟩⟩
def pX10_comeIn_2 (ev : xEv) : List (Nat × xEn) := [(76, .inr (.inl (0, 22, 2, 2))), (79, .inl (xop (xf_aload 0 1))), (80, .inl (xop (xf_getf 10 0))), (83, .inl (xop (xf_iload 3 1))), (84, .inl (xop (xf_aload 0 1))), (85, .inl (xop (xf_getf 10 13))), (88, .inr (.inl (0, 23, 2, 2))), (91, .inr (.inl (0, 93, 6, 9))), (94, .inr (.inr 0))]
set_option maxRecDepth 20000 in
theorem okpX10_comeIn_2 (ev : xEv) : ∀ q ∈ pX10_comeIn_2 ev, xEnOK ev xmi yX10_comeIn.cls yX10_comeIn.name cX10_comeIn 4 none q :=
  List.forall_mem_cons.mpr ⟨(xcm mi_22 ⟨⟨(by decide +kernel), (by decide +kernel), (by decide +kernel)⟩, (by decide), xw_1260, xw_119, Or.inl ⟨rfl, _, _, _, _, (show decode cX10_comeIn 76 = .ok (.invokevirtual 325, 3) by decide +kernel), xw_1257, xw_1258, xw_1259, rfl⟩⟩),
  List.forall_mem_cons.mpr ⟨(xOK_pure (xs_aload_n (k := 0) rfl (show decode cX10_comeIn 79 = .ok (.aload_n 0, 1) by decide +kernel))),
  List.forall_mem_cons.mpr ⟨(xOK_pure (xs_getf xcl_10 (by decide) (show decode cX10_comeIn 80 = .ok (.getfield 65, 3) by decide +kernel) xw_301)),
  List.forall_mem_cons.mpr ⟨(xOK_pure (xs_iload_n (k := 3) rfl (show decode cX10_comeIn 83 = .ok (.iload_n 3, 1) by decide +kernel))),
  List.forall_mem_cons.mpr ⟨(xOK_pure (xs_aload_n (k := 0) rfl (show decode cX10_comeIn 84 = .ok (.aload_n 0, 1) by decide +kernel))),
  List.forall_mem_cons.mpr ⟨(xOK_pure (xs_getf xcl_10 (by decide) (show decode cX10_comeIn 85 = .ok (.getfield 69, 3) by decide +kernel) xw_328)),
  List.forall_mem_cons.mpr ⟨(xcm mi_23 ⟨⟨(by decide +kernel), (by decide +kernel), (by decide +kernel)⟩, (by decide), xw_1272, xw_119, Or.inl ⟨rfl, _, _, _, _, (show decode cX10_comeIn 88 = .ok (.invokevirtual 349, 3) by decide +kernel), xw_1269, xw_1270, xw_1271, rfl⟩⟩),
  List.forall_mem_cons.mpr ⟨(xcm mi_93 ⟨⟨(by decide +kernel), (by decide +kernel), (by decide +kernel)⟩, (by decide), xw_582, xw_121, Or.inl ⟨rfl, _, _, _, _, (show decode cX10_comeIn 91 = .ok (.invokevirtual 352, 3) by decide +kernel), xw_1285, xw_580, xw_581, rfl⟩⟩),
  List.forall_mem_cons.mpr ⟨(Or.inl ⟨rfl, (show decode cX10_comeIn 94 = .ok (.return_, 1) by decide +kernel), rfl⟩),
  (fun _ h => absurd h List.not_mem_nil)⟩⟩⟩⟩⟩⟩⟩⟩⟩
def pX10_comeIn (ev : xEv) : List (Nat × xEn) := pX10_comeIn_0 ev ++ (pX10_comeIn_1 ev ++ (pX10_comeIn_2 ev))
theorem okpX10_comeIn (ev : xEv) : ∀ q ∈ pX10_comeIn ev, xEnOK ev xmi yX10_comeIn.cls yX10_comeIn.name cX10_comeIn 4 none q := List.forall_mem_append.mpr ⟨okpX10_comeIn_0 ev, List.forall_mem_append.mpr ⟨okpX10_comeIn_1 ev, okpX10_comeIn_2 ev⟩⟩
theorem omX10_comeIn (ev : xEv) : xMethOK ev xmi yX10_comeIn.cls yX10_comeIn.name 113 (pX10_comeIn ev) := xMethOK.of mi_113 (by decide +kernel) (okpX10_comeIn ev)
def pX10_forceDown_0 (ev : xEv) : List (Nat × xEn) := [(0, .inl (xop (xf_aload 0 1))), (1, .inl (xop (xf_getf 10 0))), (4, .inl (xop (xf_getf 2 4))), (7, .inl (xop (xf_aload 1 1))), (8, .inl (xop (xf_getf 6 9))), (11, .inl (xop (xf_aald (ev.1 4)))), (12, .inl (xop (xf_astore 2 1))), (13, .inl (xop (xf_aload 2 1))), (14, .inl (xop (xf_aload 1 1))), (15, .inl (xop (xf_getf 6 10))), (18, .inl (xop (xf_aload 0 1))), (19, .inl (xop (xf_getf 10 15))), (22, .inr (.inl (0, 31, 2, 3))), (25, .inl (xop (xf_istore 3 1))), (26, .inl (xop (xf_aload 1 1))), (27, .inl (xop (xf_push (.int 4) 1))), (28, .inl (xo_putf 6 13 .int)), (31, .inl (xop (xf_iload 3 1))), (32, .inl (xop (xf_push (.int (-1)) 1))), (33, .inl (xop (xf_icmp_eq 54)))]
set_option maxRecDepth 20000 in
theorem okpX10_forceDown_0 (ev : xEv) : ∀ q ∈ pX10_forceDown_0 ev, xEnOK ev xmi yX10_forceDown.cls yX10_forceDown.name cX10_forceDown 4 none q :=
  List.forall_mem_cons.mpr ⟨(xOK_pure (xs_aload_n (k := 0) rfl (show decode cX10_forceDown 0 = .ok (.aload_n 0, 1) by decide +kernel))),
  List.forall_mem_cons.mpr ⟨(xOK_pure (xs_getf xcl_10 (by decide) (show decode cX10_forceDown 1 = .ok (.getfield 65, 3) by decide +kernel) xw_301)),
  List.forall_mem_cons.mpr ⟨(xOK_pure (xs_getf xcl_2 (by decide) (show decode cX10_forceDown 4 = .ok (.getfield 164, 3) by decide +kernel) xw_174)),
  List.forall_mem_cons.mpr ⟨(xOK_pure (xs_aload_n (k := 1) rfl (show decode cX10_forceDown 7 = .ok (.aload_n 1, 1) by decide +kernel))),
  List.forall_mem_cons.mpr ⟨(xOK_pure (xs_getf xcl_6 (by decide) (show decode cX10_forceDown 8 = .ok (.getfield 300, 3) by decide +kernel) xw_619)),
  List.forall_mem_cons.mpr ⟨(xOK_pure (xs_aald (t := 4) rfl (show decode cX10_forceDown 11 = .ok (.aaload, 1) by decide +kernel))),
  List.forall_mem_cons.mpr ⟨(xOK_pure (xs_astore_n (k := 2) rfl (show decode cX10_forceDown 12 = .ok (.astore_n 2, 1) by decide +kernel) (by decide))),
  List.forall_mem_cons.mpr ⟨(xOK_pure (xs_aload_n (k := 2) rfl (show decode cX10_forceDown 13 = .ok (.aload_n 2, 1) by decide +kernel))),
  List.forall_mem_cons.mpr ⟨(xOK_pure (xs_aload_n (k := 1) rfl (show decode cX10_forceDown 14 = .ok (.aload_n 1, 1) by decide +kernel))),
  List.forall_mem_cons.mpr ⟨(xOK_pure (xs_getf xcl_6 (by decide) (show decode cX10_forceDown 15 = .ok (.getfield 342, 3) by decide +kernel) xw_622)),
  List.forall_mem_cons.mpr ⟨(xOK_pure (xs_aload_n (k := 0) rfl (show decode cX10_forceDown 18 = .ok (.aload_n 0, 1) by decide +kernel))),
  List.forall_mem_cons.mpr ⟨(xOK_pure (xs_getf xcl_10 (by decide) (show decode cX10_forceDown 19 = .ok (.getfield 58, 3) by decide +kernel) xw_333)),
  List.forall_mem_cons.mpr ⟨(xcm mi_31 ⟨⟨(by decide +kernel), (by decide +kernel), (by decide +kernel)⟩, (by decide), xw_1236, xw_126, Or.inl ⟨rfl, _, _, _, _, (show decode cX10_forceDown 22 = .ok (.invokevirtual 356, 3) by decide +kernel), xw_1233, xw_1234, xw_1235, rfl⟩⟩),
  List.forall_mem_cons.mpr ⟨(xOK_pure (xs_istore_n (k := 3) rfl (show decode cX10_forceDown 25 = .ok (.istore_n 3, 1) by decide +kernel) (by decide))),
  List.forall_mem_cons.mpr ⟨(xOK_pure (xs_aload_n (k := 1) rfl (show decode cX10_forceDown 26 = .ok (.aload_n 1, 1) by decide +kernel))),
  List.forall_mem_cons.mpr ⟨(xOK_pure (xs_iconst (n := 4) (show decode cX10_forceDown 27 = .ok (.iconst 4, 1) by decide +kernel) (by decide))),
  List.forall_mem_cons.mpr ⟨(xs_putf (k := 13) xcl_6 (by decide) rfl (show decode cX10_forceDown 28 = .ok (.putfield 186, 3) by decide +kernel) xw_631),
  List.forall_mem_cons.mpr ⟨(xOK_pure (xs_iload_n (k := 3) rfl (show decode cX10_forceDown 31 = .ok (.iload_n 3, 1) by decide +kernel))),
  List.forall_mem_cons.mpr ⟨(xOK_pure (xs_iconst (n := (-1)) (show decode cX10_forceDown 32 = .ok (.iconst (-1), 1) by decide +kernel) (by decide))),
  List.forall_mem_cons.mpr ⟨(xOK_pure (xs_icmp_eq (show decode cX10_forceDown 33 = .ok (.if_icmp .eq 21, 3) by decide +kernel) (by decide))),
  (fun _ h => absurd h List.not_mem_nil)⟩⟩⟩⟩⟩⟩⟩⟩⟩⟩⟩⟩⟩⟩⟩⟩⟩⟩⟩⟩
def pX10_forceDown_1 (ev : xEv) : List (Nat × xEn) := [(36, .inl (xop (xf_aload 1 1))), (37, .inl (xop (xf_aload 2 1))), (38, .inl (xop (xf_iload 3 1))), (39, .inr (.inl (0, 34, 1, 3))), (42, .inl (xo_putf 6 13 .int)), (45, .inl (xop (xf_aload 1 1))), (46, .inl (xop (xf_aload 2 1))), (47, .inl (xop (xf_iload 3 1))), (48, .inr (.inl (0, 33, 1, 3))), (51, .inl (xo_putf 6 10 .int)), (54, .inl (xop (xf_aload 0 1))), (55, .inr (.inl (0, 100, 0, 10))), (58, .inl (xop (xf_if_eq 71))), (61, .inl (xop (xf_aload 1 1))), (62, .inl (xop xf_dup)), (63, .inl (xop (xf_getf 6 13))), (66, .inl (xop (xf_push (.int 1) 1))), (67, .inl (xop (xf_bin (fun x y => x + y)))), (68, .inl (xo_putf 6 13 .int)), (71, .inl (xop (xf_aload 1 1)))]
set_option maxRecDepth 20000 in
theorem okpX10_forceDown_1 (ev : xEv) : ∀ q ∈ pX10_forceDown_1 ev, xEnOK ev xmi yX10_forceDown.cls yX10_forceDown.name cX10_forceDown 4 none q :=
  List.forall_mem_cons.mpr ⟨(xOK_pure (xs_aload_n (k := 1) rfl (show decode cX10_forceDown 36 = .ok (.aload_n 1, 1) by decide +kernel))),
  List.forall_mem_cons.mpr ⟨(xOK_pure (xs_aload_n (k := 2) rfl (show decode cX10_forceDown 37 = .ok (.aload_n 2, 1) by decide +kernel))),
  List.forall_mem_cons.mpr ⟨(xOK_pure (xs_iload_n (k := 3) rfl (show decode cX10_forceDown 38 = .ok (.iload_n 3, 1) by decide +kernel))),
  List.forall_mem_cons.mpr ⟨(xcm mi_34 ⟨⟨(by decide +kernel), (by decide +kernel), (by decide +kernel)⟩, (by decide), xw_1247, xw_126, Or.inl ⟨rfl, _, _, _, _, (show decode cX10_forceDown 39 = .ok (.invokevirtual 359, 3) by decide +kernel), xw_1244, xw_1245, xw_1246, rfl⟩⟩),
  List.forall_mem_cons.mpr ⟨(xs_putf (k := 13) xcl_6 (by decide) rfl (show decode cX10_forceDown 42 = .ok (.putfield 186, 3) by decide +kernel) xw_631),
  List.forall_mem_cons.mpr ⟨(xOK_pure (xs_aload_n (k := 1) rfl (show decode cX10_forceDown 45 = .ok (.aload_n 1, 1) by decide +kernel))),
  List.forall_mem_cons.mpr ⟨(xOK_pure (xs_aload_n (k := 2) rfl (show decode cX10_forceDown 46 = .ok (.aload_n 2, 1) by decide +kernel))),
  List.forall_mem_cons.mpr ⟨(xOK_pure (xs_iload_n (k := 3) rfl (show decode cX10_forceDown 47 = .ok (.iload_n 3, 1) by decide +kernel))),
  List.forall_mem_cons.mpr ⟨(xcm mi_33 ⟨⟨(by decide +kernel), (by decide +kernel), (by decide +kernel)⟩, (by decide), xw_1252, xw_126, Or.inl ⟨rfl, _, _, _, _, (show decode cX10_forceDown 48 = .ok (.invokevirtual 362, 3) by decide +kernel), xw_1249, xw_1250, xw_1251, rfl⟩⟩),
  List.forall_mem_cons.mpr ⟨(xs_putf (k := 10) xcl_6 (by decide) rfl (show decode cX10_forceDown 51 = .ok (.putfield 342, 3) by decide +kernel) xw_622),
  List.forall_mem_cons.mpr ⟨(xOK_pure (xs_aload_n (k := 0) rfl (show decode cX10_forceDown 54 = .ok (.aload_n 0, 1) by decide +kernel))),
  List.forall_mem_cons.mpr ⟨(xcm mi_100 ⟨⟨(by decide +kernel), (by decide +kernel), (by decide +kernel)⟩, (by decide), xw_1155, xw_120, Or.inl ⟨rfl, _, _, _, _, (show decode cX10_forceDown 55 = .ok (.invokevirtual 198, 3) by decide +kernel), xw_1152, xw_1154, xw_28, rfl⟩⟩),
  List.forall_mem_cons.mpr ⟨(xOK_pure (xs_if_eq (show decode cX10_forceDown 58 = .ok (.ifCond .eq 13, 3) by decide +kernel) (by decide))),
  List.forall_mem_cons.mpr ⟨(xOK_pure (xs_aload_n (k := 1) rfl (show decode cX10_forceDown 61 = .ok (.aload_n 1, 1) by decide +kernel))),
  List.forall_mem_cons.mpr ⟨(xOK_pure (xs_dup (show decode cX10_forceDown 62 = .ok (.dup, 1) by decide +kernel))),
  List.forall_mem_cons.mpr ⟨(xOK_pure (xs_getf xcl_6 (by decide) (show decode cX10_forceDown 63 = .ok (.getfield 186, 3) by decide +kernel) xw_631)),
  List.forall_mem_cons.mpr ⟨(xOK_pure (xs_iconst (n := 1) (show decode cX10_forceDown 66 = .ok (.iconst 1, 1) by decide +kernel) (by decide))),
  List.forall_mem_cons.mpr ⟨(xOK_pure (xs_iadd (show decode cX10_forceDown 67 = .ok (.iadd, 1) by decide +kernel))),
  List.forall_mem_cons.mpr ⟨(xs_putf (k := 13) xcl_6 (by decide) rfl (show decode cX10_forceDown 68 = .ok (.putfield 186, 3) by decide +kernel) xw_631),
  List.forall_mem_cons.mpr ⟨(xOK_pure (xs_aload_n (k := 1) rfl (show decode cX10_forceDown 71 = .ok (.aload_n 1, 1) by decide +kernel))),
  (fun _ h => absurd h List.not_mem_nil)⟩⟩⟩⟩⟩⟩⟩⟩⟩⟩⟩⟩⟩⟩⟩⟩⟩⟩⟩⟩
def pX10_forceDown_2 (ev : xEv) : List (Nat × xEn) := [(72, .inl (xop (xf_push (.int 1) 1))), (73, .inl (xo_putf 6 12 .boolean)), (76, .inl (xop (xf_aload 0 1))), (77, .inl (xop (xf_getf 10 11))), (80, .inl (xop (xf_aload 1 1))), (81, .inl (xop (xf_getf 6 17))), (84, .inl (xop (xf_aald (ev.1 8)))), (85, .inl (xop (xf_push (.int 4) 1))), (86, .inl (xop (xf_aload 0 1))), (87, .inl (xop (xf_getf 10 13))), (90, .inr (.inl (0, 13, 2, 1))), (93, .inr (.inr 0))]
set_option maxRecDepth 20000 in
theorem okpX10_forceDown_2 (ev : xEv) : ∀ q ∈ pX10_forceDown_2 ev, xEnOK ev xmi yX10_forceDown.cls yX10_forceDown.name cX10_forceDown 4 none q :=
  List.forall_mem_cons.mpr ⟨(xOK_pure (xs_iconst (n := 1) (show decode cX10_forceDown 72 = .ok (.iconst 1, 1) by decide +kernel) (by decide))),
  List.forall_mem_cons.mpr ⟨(xs_putf (k := 12) xcl_6 (by decide) rfl (show decode cX10_forceDown 73 = .ok (.putfield 365, 3) by decide +kernel) xw_628),
  List.forall_mem_cons.mpr ⟨(xOK_pure (xs_aload_n (k := 0) rfl (show decode cX10_forceDown 76 = .ok (.aload_n 0, 1) by decide +kernel))),
  List.forall_mem_cons.mpr ⟨(xOK_pure (xs_getf xcl_10 (by decide) (show decode cX10_forceDown 77 = .ok (.getfield 54, 3) by decide +kernel) xw_324)),
  List.forall_mem_cons.mpr ⟨(xOK_pure (xs_aload_n (k := 1) rfl (show decode cX10_forceDown 80 = .ok (.aload_n 1, 1) by decide +kernel))),
  List.forall_mem_cons.mpr ⟨(xOK_pure (xs_getf xcl_6 (by decide) (show decode cX10_forceDown 81 = .ok (.getfield 297, 3) by decide +kernel) xw_645)),
  List.forall_mem_cons.mpr ⟨(xOK_pure (xs_aald (t := 8) rfl (show decode cX10_forceDown 84 = .ok (.aaload, 1) by decide +kernel))),
  List.forall_mem_cons.mpr ⟨(xOK_pure (xs_iconst (n := 4) (show decode cX10_forceDown 85 = .ok (.iconst 4, 1) by decide +kernel) (by decide))),
  List.forall_mem_cons.mpr ⟨(xOK_pure (xs_aload_n (k := 0) rfl (show decode cX10_forceDown 86 = .ok (.aload_n 0, 1) by decide +kernel))),
  List.forall_mem_cons.mpr ⟨(xOK_pure (xs_getf xcl_10 (by decide) (show decode cX10_forceDown 87 = .ok (.getfield 69, 3) by decide +kernel) xw_328)),
  List.forall_mem_cons.mpr ⟨(xcm mi_13 ⟨⟨(by decide +kernel), (by decide +kernel), (by decide +kernel)⟩, (by decide), xw_1110, xw_141, Or.inl ⟨rfl, _, _, _, _, (show decode cX10_forceDown 90 = .ok (.invokevirtual 142, 3) by decide +kernel), xw_1143, xw_1108, xw_1109, rfl⟩⟩),
  List.forall_mem_cons.mpr ⟨(Or.inl ⟨rfl, (show decode cX10_forceDown 93 = .ok (.return_, 1) by decide +kernel), rfl⟩),
  (fun _ h => absurd h List.not_mem_nil)⟩⟩⟩⟩⟩⟩⟩⟩⟩⟩⟩⟩
def pX10_forceDown (ev : xEv) : List (Nat × xEn) := pX10_forceDown_0 ev ++ (pX10_forceDown_1 ev ++ (pX10_forceDown_2 ev))
theorem okpX10_forceDown (ev : xEv) : ∀ q ∈ pX10_forceDown ev, xEnOK ev xmi yX10_forceDown.cls yX10_forceDown.name cX10_forceDown 4 none q := List.forall_mem_append.mpr ⟨okpX10_forceDown_0 ev, List.forall_mem_append.mpr ⟨okpX10_forceDown_1 ev, okpX10_forceDown_2 ev⟩⟩
theorem omX10_forceDown (ev : xEv) : xMethOK ev xmi yX10_forceDown.cls yX10_forceDown.name 114 (pX10_forceDown ev) := xMethOK.of mi_114 (by decide +kernel) (okpX10_forceDown ev)
def pX10_unload_0 (ev : xEv) : List (Nat × xEn) := [(0, .inl (xop (xf_aload 0 1))), (1, .inl (xop (xf_getf 10 4))), (4, .inl (xop (xf_iload 1 1))), (5, .inl (xop (xf_aald (ev.1 5)))), (6, .inl (xop (xf_astore 3 1))), (7, .inl (xop (xf_aload 3 1))), (8, .inl (xop (xf_getf 6 16))), (11, .inl (xop (xf_push (.int (-1)) 1))), (12, .inl (xop (xf_icmp_eq 41))), (15, .inl (xop (xf_aload 0 1))), (16, .inl (xop (xf_getf 10 6))), (19, .inl (xop (xf_aload 3 1))), (20, .inl (xop (xf_getf 6 16))), (23, .inl (xop (xf_aald (ev.1 6)))), (24, .inl (xop (xf_iload 2 1))), (25, .inl (xo_putf 5 0 .int)), (28, .inl (xop (xf_aload 0 1))), (29, .inl (xop (xf_getf 10 6))), (32, .inl (xop (xf_aload 3 1))), (33, .inl (xop (xf_getf 6 16)))]
set_option maxRecDepth 20000 in
theorem okpX10_unload_0 (ev : xEv) : ∀ q ∈ pX10_unload_0 ev, xEnOK ev xmi yX10_unload.cls yX10_unload.name cX10_unload 5 none q :=
  List.forall_mem_cons.mpr ⟨(xOK_pure (xs_aload_n (k := 0) rfl (show decode cX10_unload 0 = .ok (.aload_n 0, 1) by decide +kernel))),
  List.forall_mem_cons.mpr ⟨(xOK_pure (xs_getf xcl_10 (by decide) (show decode cX10_unload 1 = .ok (.getfield 32, 3) by decide +kernel) xw_309)),
  List.forall_mem_cons.mpr ⟨(xOK_pure (xs_iload_n (k := 1) rfl (show decode cX10_unload 4 = .ok (.iload_n 1, 1) by decide +kernel))),
  List.forall_mem_cons.mpr ⟨(xOK_pure (xs_aald (t := 5) rfl (show decode cX10_unload 5 = .ok (.aaload, 1) by decide +kernel))),
  List.forall_mem_cons.mpr ⟨(xOK_pure (xs_astore_n (k := 3) rfl (show decode cX10_unload 6 = .ok (.astore_n 3, 1) by decide +kernel) (by decide))),
  List.forall_mem_cons.mpr ⟨(xOK_pure (xs_aload_n (k := 3) rfl (show decode cX10_unload 7 = .ok (.aload_n 3, 1) by decide +kernel))),
  List.forall_mem_cons.mpr ⟨(xOK_pure (xs_getf xcl_6 (by decide) (show decode cX10_unload 8 = .ok (.getfield 301, 3) by decide +kernel) xw_642)),
  List.forall_mem_cons.mpr ⟨(xOK_pure (xs_iconst (n := (-1)) (show decode cX10_unload 11 = .ok (.iconst (-1), 1) by decide +kernel) (by decide))),
  List.forall_mem_cons.mpr ⟨(xOK_pure (xs_icmp_eq (show decode cX10_unload 12 = .ok (.if_icmp .eq 29, 3) by decide +kernel) (by decide))),
  List.forall_mem_cons.mpr ⟨(xOK_pure (xs_aload_n (k := 0) rfl (show decode cX10_unload 15 = .ok (.aload_n 0, 1) by decide +kernel))),
  List.forall_mem_cons.mpr ⟨(xOK_pure (xs_getf xcl_10 (by decide) (show decode cX10_unload 16 = .ok (.getfield 38, 3) by decide +kernel) xw_315)),
  List.forall_mem_cons.mpr ⟨(xOK_pure (xs_aload_n (k := 3) rfl (show decode cX10_unload 19 = .ok (.aload_n 3, 1) by decide +kernel))),
  List.forall_mem_cons.mpr ⟨(xOK_pure (xs_getf xcl_6 (by decide) (show decode cX10_unload 20 = .ok (.getfield 301, 3) by decide +kernel) xw_642)),
  List.forall_mem_cons.mpr ⟨(xOK_pure (xs_aald (t := 6) rfl (show decode cX10_unload 23 = .ok (.aaload, 1) by decide +kernel))),
  List.forall_mem_cons.mpr ⟨(xOK_pure (xs_iload_n (k := 2) rfl (show decode cX10_unload 24 = .ok (.iload_n 2, 1) by decide +kernel))),
  List.forall_mem_cons.mpr ⟨(xs_putf (k := 0) xcl_5 (by decide) rfl (show decode cX10_unload 25 = .ok (.putfield 179, 3) by decide +kernel) xw_713),
  List.forall_mem_cons.mpr ⟨(xOK_pure (xs_aload_n (k := 0) rfl (show decode cX10_unload 28 = .ok (.aload_n 0, 1) by decide +kernel))),
  List.forall_mem_cons.mpr ⟨(xOK_pure (xs_getf xcl_10 (by decide) (show decode cX10_unload 29 = .ok (.getfield 38, 3) by decide +kernel) xw_315)),
  List.forall_mem_cons.mpr ⟨(xOK_pure (xs_aload_n (k := 3) rfl (show decode cX10_unload 32 = .ok (.aload_n 3, 1) by decide +kernel))),
  List.forall_mem_cons.mpr ⟨(xOK_pure (xs_getf xcl_6 (by decide) (show decode cX10_unload 33 = .ok (.getfield 301, 3) by decide +kernel) xw_642)),
  (fun _ h => absurd h List.not_mem_nil)⟩⟩⟩⟩⟩⟩⟩⟩⟩⟩⟩⟩⟩⟩⟩⟩⟩⟩⟩⟩
def pX10_unload_1 (ev : xEv) : List (Nat × xEn) := [(36, .inl (xop (xf_aald (ev.1 6)))), (37, .inl (xop (xf_push (.int (-1)) 1))), (38, .inl (xo_putf 5 1 .int)), (41, .inl (xop (xf_push (.int 0) 1))), (42, .inl (xop (xf_istore 4 2))), (44, .inl (xop (xf_iload 4 2))), (46, .inl (xop (xf_aload 0 1))), (47, .inl (xop (xf_getf 10 9))), (50, .inl (xop (xf_icmp_ge 88))), (53, .inl (xop (xf_aload 0 1))), (54, .inl (xop (xf_getf 10 8))), (57, .inl (xop (xf_iload 4 2))), (59, .inl (xop (xf_aald (ev.1 7)))), (60, .inl (xop (xf_getf 0 6))), (63, .inl (xop (xf_iload 1 1))), (64, .inl (xop (xf_icmp_ne 82))), (67, .inl (xop (xf_aload 0 1))), (68, .inl (xop (xf_getf 10 8))), (71, .inl (xop (xf_iload 4 2))), (73, .inl (xop (xf_aald (ev.1 7))))]
set_option maxRecDepth 20000 in
theorem okpX10_unload_1 (ev : xEv) : ∀ q ∈ pX10_unload_1 ev, xEnOK ev xmi yX10_unload.cls yX10_unload.name cX10_unload 5 none q :=
  List.forall_mem_cons.mpr ⟨(xOK_pure (xs_aald (t := 6) rfl (show decode cX10_unload 36 = .ok (.aaload, 1) by decide +kernel))),
  List.forall_mem_cons.mpr ⟨(xOK_pure (xs_iconst (n := (-1)) (show decode cX10_unload 37 = .ok (.iconst (-1), 1) by decide +kernel) (by decide))),
  List.forall_mem_cons.mpr ⟨(xs_putf (k := 1) xcl_5 (by decide) rfl (show decode cX10_unload 38 = .ok (.putfield 282, 3) by decide +kernel) xw_716),
  List.forall_mem_cons.mpr ⟨(xOK_pure (xs_iconst (n := 0) (show decode cX10_unload 41 = .ok (.iconst 0, 1) by decide +kernel) (by decide))),
  List.forall_mem_cons.mpr ⟨(xOK_pure (xs_istore (show decode cX10_unload 42 = .ok (.istore 4, 2) by decide +kernel) (by decide))),
  List.forall_mem_cons.mpr ⟨(xOK_pure (xs_iload (show decode cX10_unload 44 = .ok (.iload 4, 2) by decide +kernel))),
  List.forall_mem_cons.mpr ⟨(xOK_pure (xs_aload_n (k := 0) rfl (show decode cX10_unload 46 = .ok (.aload_n 0, 1) by decide +kernel))),
  List.forall_mem_cons.mpr ⟨(xOK_pure (xs_getf xcl_10 (by decide) (show decode cX10_unload 47 = .ok (.getfield 79, 3) by decide +kernel) xw_321)),
  List.forall_mem_cons.mpr ⟨(xOK_pure (xs_icmp_ge (show decode cX10_unload 50 = .ok (.if_icmp .ge 38, 3) by decide +kernel) (by decide))),
  List.forall_mem_cons.mpr ⟨(xOK_pure (xs_aload_n (k := 0) rfl (show decode cX10_unload 53 = .ok (.aload_n 0, 1) by decide +kernel))),
  List.forall_mem_cons.mpr ⟨(xOK_pure (xs_getf xcl_10 (by decide) (show decode cX10_unload 54 = .ok (.getfield 44, 3) by decide +kernel) xw_319)),
  List.forall_mem_cons.mpr ⟨(xOK_pure (xs_iload (show decode cX10_unload 57 = .ok (.iload 4, 2) by decide +kernel))),
  List.forall_mem_cons.mpr ⟨(xOK_pure (xs_aald (t := 7) rfl (show decode cX10_unload 59 = .ok (.aaload, 1) by decide +kernel))),
  List.forall_mem_cons.mpr ⟨(xOK_pure (xs_getf xcl_0 (by decide) (show decode cX10_unload 60 = .ok (.getfield 368, 3) by decide +kernel) xw_767)),
  List.forall_mem_cons.mpr ⟨(xOK_pure (xs_iload_n (k := 1) rfl (show decode cX10_unload 63 = .ok (.iload_n 1, 1) by decide +kernel))),
  List.forall_mem_cons.mpr ⟨(xOK_pure (xs_icmp_ne (show decode cX10_unload 64 = .ok (.if_icmp .ne 18, 3) by decide +kernel) (by decide))),
  List.forall_mem_cons.mpr ⟨(xOK_pure (xs_aload_n (k := 0) rfl (show decode cX10_unload 67 = .ok (.aload_n 0, 1) by decide +kernel))),
  List.forall_mem_cons.mpr ⟨(xOK_pure (xs_getf xcl_10 (by decide) (show decode cX10_unload 68 = .ok (.getfield 44, 3) by decide +kernel) xw_319)),
  List.forall_mem_cons.mpr ⟨(xOK_pure (xs_iload (show decode cX10_unload 71 = .ok (.iload 4, 2) by decide +kernel))),
  List.forall_mem_cons.mpr ⟨(xOK_pure (xs_aald (t := 7) rfl (show decode cX10_unload 73 = .ok (.aaload, 1) by decide +kernel))),
  (fun _ h => absurd h List.not_mem_nil)⟩⟩⟩⟩⟩⟩⟩⟩⟩⟩⟩⟩⟩⟩⟩⟩⟩⟩⟩⟩
def pX10_unload_2 (ev : xEv) : List (Nat × xEn) := [(74, .inl (xop (xf_iload 2 1))), (75, .inl (xop (xf_aload 0 1))), (76, .inl (xop (xf_getf 10 13))), (79, .inr (.inl (0, 3, 2, 0))), (82, .inl (xop (xf_iinc 4 1))), (85, .inl (xop (xf_goto 44))), (88, .inl (xop (xf_aload 3 1))), (89, .inl (xop (xf_iload 2 1))), (90, .inr (.inl (0, 71, 1, 6))), (93, .inr (.inr 0))]
set_option maxRecDepth 20000 in
theorem okpX10_unload_2 (ev : xEv) : ∀ q ∈ pX10_unload_2 ev, xEnOK ev xmi yX10_unload.cls yX10_unload.name cX10_unload 5 none q :=
  List.forall_mem_cons.mpr ⟨(xOK_pure (xs_iload_n (k := 2) rfl (show decode cX10_unload 74 = .ok (.iload_n 2, 1) by decide +kernel))),
  List.forall_mem_cons.mpr ⟨(xOK_pure (xs_aload_n (k := 0) rfl (show decode cX10_unload 75 = .ok (.aload_n 0, 1) by decide +kernel))),
  List.forall_mem_cons.mpr ⟨(xOK_pure (xs_getf xcl_10 (by decide) (show decode cX10_unload 76 = .ok (.getfield 69, 3) by decide +kernel) xw_328)),
  List.forall_mem_cons.mpr ⟨(xcm mi_3 ⟨⟨(by decide +kernel), (by decide +kernel), (by decide +kernel)⟩, (by decide), xw_1138, xw_134, Or.inl ⟨rfl, _, _, _, _, (show decode cX10_unload 79 = .ok (.invokevirtual 139, 3) by decide +kernel), xw_1135, xw_1136, xw_1137, rfl⟩⟩),
  List.forall_mem_cons.mpr ⟨(xOK_pure (xs_iinc (n := 1) (show decode cX10_unload 82 = .ok (.iinc 4 1, 3) by decide +kernel) (by decide) (by decide))),
  List.forall_mem_cons.mpr ⟨(xOK_pure (xs_goto (show decode cX10_unload 85 = .ok (.goto (-41), 3) by decide +kernel) (by decide))),
  List.forall_mem_cons.mpr ⟨(xOK_pure (xs_aload_n (k := 3) rfl (show decode cX10_unload 88 = .ok (.aload_n 3, 1) by decide +kernel))),
  List.forall_mem_cons.mpr ⟨(xOK_pure (xs_iload_n (k := 2) rfl (show decode cX10_unload 89 = .ok (.iload_n 2, 1) by decide +kernel))),
  List.forall_mem_cons.mpr ⟨(xcm mi_71 ⟨⟨(by decide +kernel), (by decide +kernel), (by decide +kernel)⟩, (by decide), xw_1293, xw_132, Or.inl ⟨rfl, _, _, _, _, (show decode cX10_unload 90 = .ok (.invokevirtual 369, 3) by decide +kernel), xw_1290, xw_1291, xw_1292, rfl⟩⟩),
  List.forall_mem_cons.mpr ⟨(Or.inl ⟨rfl, (show decode cX10_unload 93 = .ok (.return_, 1) by decide +kernel), rfl⟩),
  (fun _ h => absurd h List.not_mem_nil)⟩⟩⟩⟩⟩⟩⟩⟩⟩⟩
def pX10_unload (ev : xEv) : List (Nat × xEn) := pX10_unload_0 ev ++ (pX10_unload_1 ev ++ (pX10_unload_2 ev))
theorem okpX10_unload (ev : xEv) : ∀ q ∈ pX10_unload ev, xEnOK ev xmi yX10_unload.cls yX10_unload.name cX10_unload 5 none q := List.forall_mem_append.mpr ⟨okpX10_unload_0 ev, List.forall_mem_append.mpr ⟨okpX10_unload_1 ev, okpX10_unload_2 ev⟩⟩
theorem omX10_unload (ev : xEv) : xMethOK ev xmi yX10_unload.cls yX10_unload.name 115 (pX10_unload ev) := xMethOK.of mi_115 (by decide +kernel) (okpX10_unload ev)
def pX10_renew_0 (ev : xEv) : List (Nat × xEn) := [(0, .inl (xop (xf_aload 0 1))), (1, .inl (xop (xf_getf 10 4))), (4, .inl (xop (xf_iload 1 1))), (5, .inl (xop (xf_aald (ev.1 5)))), (6, .inl (xop (xf_astore 3 1))), (7, .inl (xop (xf_aload 3 1))), (8, .inl (xop (xf_push (.int 0) 1))), (9, .inl (xo_putf 6 13 .int)), (12, .inl (xop (xf_aload 3 1))), (13, .inl (xop (xf_push (.int 0) 1))), (14, .inl (xo_putf 6 5 .int)), (17, .inl (xop (xf_aload 3 1))), (18, .inl (xop (xf_push (.int 0) 1))), (19, .inl (xo_putf 6 7 .int)), (22, .inl (xop (xf_aload 3 1))), (23, .inl (xop (xf_aload 0 1))), (24, .inl (xop (xf_getf 10 13))), (27, .inl (xop (xf_aload 0 1))), (28, .inl (xop (xf_getf 10 0))), (31, .inl (xop (xf_iload 2 1)))]
set_option maxRecDepth 20000 in
theorem okpX10_renew_0 (ev : xEv) : ∀ q ∈ pX10_renew_0 ev, xEnOK ev xmi yX10_renew.cls yX10_renew.name cX10_renew 4 none q :=
  List.forall_mem_cons.mpr ⟨(xOK_pure (xs_aload_n (k := 0) rfl (show decode cX10_renew 0 = .ok (.aload_n 0, 1) by decide +kernel))),
  List.forall_mem_cons.mpr ⟨(xOK_pure (xs_getf xcl_10 (by decide) (show decode cX10_renew 1 = .ok (.getfield 32, 3) by decide +kernel) xw_309)),
  List.forall_mem_cons.mpr ⟨(xOK_pure (xs_iload_n (k := 1) rfl (show decode cX10_renew 4 = .ok (.iload_n 1, 1) by decide +kernel))),
  List.forall_mem_cons.mpr ⟨(xOK_pure (xs_aald (t := 5) rfl (show decode cX10_renew 5 = .ok (.aaload, 1) by decide +kernel))),
  List.forall_mem_cons.mpr ⟨(xOK_pure (xs_astore_n (k := 3) rfl (show decode cX10_renew 6 = .ok (.astore_n 3, 1) by decide +kernel) (by decide))),
  List.forall_mem_cons.mpr ⟨(xOK_pure (xs_aload_n (k := 3) rfl (show decode cX10_renew 7 = .ok (.aload_n 3, 1) by decide +kernel))),
  List.forall_mem_cons.mpr ⟨(xOK_pure (xs_iconst (n := 0) (show decode cX10_renew 8 = .ok (.iconst 0, 1) by decide +kernel) (by decide))),
  List.forall_mem_cons.mpr ⟨(xs_putf (k := 13) xcl_6 (by decide) rfl (show decode cX10_renew 9 = .ok (.putfield 186, 3) by decide +kernel) xw_631),
  List.forall_mem_cons.mpr ⟨(xOK_pure (xs_aload_n (k := 3) rfl (show decode cX10_renew 12 = .ok (.aload_n 3, 1) by decide +kernel))),
  List.forall_mem_cons.mpr ⟨(xOK_pure (xs_iconst (n := 0) (show decode cX10_renew 13 = .ok (.iconst 0, 1) by decide +kernel) (by decide))),
  List.forall_mem_cons.mpr ⟨(xs_putf (k := 5) xcl_6 (by decide) rfl (show decode cX10_renew 14 = .ok (.putfield 192, 3) by decide +kernel) xw_604),
  List.forall_mem_cons.mpr ⟨(xOK_pure (xs_aload_n (k := 3) rfl (show decode cX10_renew 17 = .ok (.aload_n 3, 1) by decide +kernel))),
  List.forall_mem_cons.mpr ⟨(xOK_pure (xs_iconst (n := 0) (show decode cX10_renew 18 = .ok (.iconst 0, 1) by decide +kernel) (by decide))),
  List.forall_mem_cons.mpr ⟨(xs_putf (k := 7) xcl_6 (by decide) rfl (show decode cX10_renew 19 = .ok (.putfield 308, 3) by decide +kernel) xw_613),
  List.forall_mem_cons.mpr ⟨(xOK_pure (xs_aload_n (k := 3) rfl (show decode cX10_renew 22 = .ok (.aload_n 3, 1) by decide +kernel))),
  List.forall_mem_cons.mpr ⟨(xOK_pure (xs_aload_n (k := 0) rfl (show decode cX10_renew 23 = .ok (.aload_n 0, 1) by decide +kernel))),
  List.forall_mem_cons.mpr ⟨(xOK_pure (xs_getf xcl_10 (by decide) (show decode cX10_renew 24 = .ok (.getfield 69, 3) by decide +kernel) xw_328)),
  List.forall_mem_cons.mpr ⟨(xOK_pure (xs_aload_n (k := 0) rfl (show decode cX10_renew 27 = .ok (.aload_n 0, 1) by decide +kernel))),
  List.forall_mem_cons.mpr ⟨(xOK_pure (xs_getf xcl_10 (by decide) (show decode cX10_renew 28 = .ok (.getfield 65, 3) by decide +kernel) xw_301)),
  List.forall_mem_cons.mpr ⟨(xOK_pure (xs_iload_n (k := 2) rfl (show decode cX10_renew 31 = .ok (.iload_n 2, 1) by decide +kernel))),
  (fun _ h => absurd h List.not_mem_nil)⟩⟩⟩⟩⟩⟩⟩⟩⟩⟩⟩⟩⟩⟩⟩⟩⟩⟩⟩⟩
def pX10_renew_1 (ev : xEv) : List (Nat × xEn) := [(32, .inl (xop (xf_aload 3 1))), (33, .inl (xop (xf_getf 6 8))), (36, .inr (.inl (1, 78, 3, 7))), (39, .inl (xop (xf_bin (fun x y => x + y)))), (40, .inl (xo_putf 6 14 .int)), (43, .inl (xop (xf_aload 0 1))), (44, .inl (xop (xf_getf 10 0))), (47, .inl (xop (xf_getf 2 2))), (50, .inl (xop (xf_iload 2 1))), (51, .inl (xop xf_dup2)), (52, .inl (xop (xf_ald (ev.1 0)))), (53, .inl (xop (xf_push (.int 1) 1))), (54, .inl (xop (xf_bin (fun x y => x - y)))), (55, .inl (xo_ast (ev.1 0) (fun x => x))), (56, .inr (.inr 0))]
set_option maxRecDepth 20000 in
theorem okpX10_renew_1 (ev : xEv) : ∀ q ∈ pX10_renew_1 ev, xEnOK ev xmi yX10_renew.cls yX10_renew.name cX10_renew 4 none q :=
  List.forall_mem_cons.mpr ⟨(xOK_pure (xs_aload_n (k := 3) rfl (show decode cX10_renew 32 = .ok (.aload_n 3, 1) by decide +kernel))),
  List.forall_mem_cons.mpr ⟨(xOK_pure (xs_getf xcl_6 (by decide) (show decode cX10_renew 33 = .ok (.getfield 173, 3) by decide +kernel) xw_616)),
  List.forall_mem_cons.mpr ⟨(xcm mi_78 ⟨⟨(by decide +kernel), (by decide +kernel), (by decide +kernel)⟩, (by decide), xw_1431, xw_123, Or.inr (Or.inl ⟨rfl, _, (show decode cX10_renew 36 = .ok (.invokestatic 371, 3) by decide +kernel), xw_1459, xw_1430⟩)⟩),
  List.forall_mem_cons.mpr ⟨(xOK_pure (xs_iadd (show decode cX10_renew 39 = .ok (.iadd, 1) by decide +kernel))),
  List.forall_mem_cons.mpr ⟨(xs_putf (k := 14) xcl_6 (by decide) rfl (show decode cX10_renew 40 = .ok (.putfield 189, 3) by decide +kernel) xw_635),
  List.forall_mem_cons.mpr ⟨(xOK_pure (xs_aload_n (k := 0) rfl (show decode cX10_renew 43 = .ok (.aload_n 0, 1) by decide +kernel))),
  List.forall_mem_cons.mpr ⟨(xOK_pure (xs_getf xcl_10 (by decide) (show decode cX10_renew 44 = .ok (.getfield 65, 3) by decide +kernel) xw_301)),
  List.forall_mem_cons.mpr ⟨(xOK_pure (xs_getf xcl_2 (by decide) (show decode cX10_renew 47 = .ok (.getfield 377, 3) by decide +kernel) xw_168)),
  List.forall_mem_cons.mpr ⟨(xOK_pure (xs_iload_n (k := 2) rfl (show decode cX10_renew 50 = .ok (.iload_n 2, 1) by decide +kernel))),
  List.forall_mem_cons.mpr ⟨(xOK_pure (xs_dup2 (show decode cX10_renew 51 = .ok (.dup2, 1) by decide +kernel))),
  List.forall_mem_cons.mpr ⟨(xOK_pure (xs_iald (show decode cX10_renew 52 = .ok (.iaload, 1) by decide +kernel))),
  List.forall_mem_cons.mpr ⟨(xOK_pure (xs_iconst (n := 1) (show decode cX10_renew 53 = .ok (.iconst 1, 1) by decide +kernel) (by decide))),
  List.forall_mem_cons.mpr ⟨(xOK_pure (xs_isub (show decode cX10_renew 54 = .ok (.isub, 1) by decide +kernel))),
  List.forall_mem_cons.mpr ⟨(xs_iast (show decode cX10_renew 55 = .ok (.iastore, 1) by decide +kernel)),
  List.forall_mem_cons.mpr ⟨(Or.inl ⟨rfl, (show decode cX10_renew 56 = .ok (.return_, 1) by decide +kernel), rfl⟩),
  (fun _ h => absurd h List.not_mem_nil)⟩⟩⟩⟩⟩⟩⟩⟩⟩⟩⟩⟩⟩⟩⟩
def pX10_renew (ev : xEv) : List (Nat × xEn) := pX10_renew_0 ev ++ (pX10_renew_1 ev)
theorem okpX10_renew (ev : xEv) : ∀ q ∈ pX10_renew ev, xEnOK ev xmi yX10_renew.cls yX10_renew.name cX10_renew 4 none q := List.forall_mem_append.mpr ⟨okpX10_renew_0 ev, okpX10_renew_1 ev⟩
theorem omX10_renew (ev : xEv) : xMethOK ev xmi yX10_renew.cls yX10_renew.name 116 (pX10_renew ev) := xMethOK.of mi_116 (by decide +kernel) (okpX10_renew ev)
def pX10_bagsGiven_0 (ev : xEv) : List (Nat × xEn) := [(0, .inl (xop (xf_push (.int 0) 1))), (1, .inl (xop (xf_istore 2 1))), (2, .inl (xop (xf_push (.int 0) 1))), (3, .inl (xop (xf_istore 3 1))), (4, .inl (xop (xf_iload 3 1))), (5, .inl (xop (xf_aload 0 1))), (6, .inl (xop (xf_getf 10 9))), (9, .inl (xop (xf_icmp_ge 50))), (12, .inl (xop (xf_aload 0 1))), (13, .inl (xop (xf_getf 10 8))), (16, .inl (xop (xf_iload 3 1))), (17, .inl (xop (xf_aald (ev.1 7)))), (18, .inl (xop (xf_getf 0 8))), (21, .inl (xop (xf_push (.int (-1)) 1))), (22, .inl (xop (xf_icmp_eq 44))), (25, .inl (xop (xf_iload 1 1))), (26, .inl (xop (xf_if_eq 41))), (29, .inl (xop (xf_aload 0 1))), (30, .inl (xop (xf_getf 10 8))), (33, .inl (xop (xf_iload 3 1)))]
set_option maxRecDepth 20000 in
theorem okpX10_bagsGiven_0 (ev : xEv) : ∀ q ∈ pX10_bagsGiven_0 ev, xEnOK ev xmi yX10_bagsGiven.cls yX10_bagsGiven.name cX10_bagsGiven 4 (some .int) q :=
  List.forall_mem_cons.mpr ⟨(xOK_pure (xs_iconst (n := 0) (show decode cX10_bagsGiven 0 = .ok (.iconst 0, 1) by decide +kernel) (by decide))),
  List.forall_mem_cons.mpr ⟨(xOK_pure (xs_istore_n (k := 2) rfl (show decode cX10_bagsGiven 1 = .ok (.istore_n 2, 1) by decide +kernel) (by decide))),
  List.forall_mem_cons.mpr ⟨(xOK_pure (xs_iconst (n := 0) (show decode cX10_bagsGiven 2 = .ok (.iconst 0, 1) by decide +kernel) (by decide))),
  List.forall_mem_cons.mpr ⟨(xOK_pure (xs_istore_n (k := 3) rfl (show decode cX10_bagsGiven 3 = .ok (.istore_n 3, 1) by decide +kernel) (by decide))),
  List.forall_mem_cons.mpr ⟨(xOK_pure (xs_iload_n (k := 3) rfl (show decode cX10_bagsGiven 4 = .ok (.iload_n 3, 1) by decide +kernel))),
  List.forall_mem_cons.mpr ⟨(xOK_pure (xs_aload_n (k := 0) rfl (show decode cX10_bagsGiven 5 = .ok (.aload_n 0, 1) by decide +kernel))),
  List.forall_mem_cons.mpr ⟨(xOK_pure (xs_getf xcl_10 (by decide) (show decode cX10_bagsGiven 6 = .ok (.getfield 79, 3) by decide +kernel) xw_321)),
  List.forall_mem_cons.mpr ⟨(xOK_pure (xs_icmp_ge (show decode cX10_bagsGiven 9 = .ok (.if_icmp .ge 41, 3) by decide +kernel) (by decide))),
  List.forall_mem_cons.mpr ⟨(xOK_pure (xs_aload_n (k := 0) rfl (show decode cX10_bagsGiven 12 = .ok (.aload_n 0, 1) by decide +kernel))),
  List.forall_mem_cons.mpr ⟨(xOK_pure (xs_getf xcl_10 (by decide) (show decode cX10_bagsGiven 13 = .ok (.getfield 44, 3) by decide +kernel) xw_319)),
  List.forall_mem_cons.mpr ⟨(xOK_pure (xs_iload_n (k := 3) rfl (show decode cX10_bagsGiven 16 = .ok (.iload_n 3, 1) by decide +kernel))),
  List.forall_mem_cons.mpr ⟨(xOK_pure (xs_aald (t := 7) rfl (show decode cX10_bagsGiven 17 = .ok (.aaload, 1) by decide +kernel))),
  List.forall_mem_cons.mpr ⟨(xOK_pure (xs_getf xcl_0 (by decide) (show decode cX10_bagsGiven 18 = .ok (.getfield 380, 3) by decide +kernel) xw_773)),
  List.forall_mem_cons.mpr ⟨(xOK_pure (xs_iconst (n := (-1)) (show decode cX10_bagsGiven 21 = .ok (.iconst (-1), 1) by decide +kernel) (by decide))),
  List.forall_mem_cons.mpr ⟨(xOK_pure (xs_icmp_eq (show decode cX10_bagsGiven 22 = .ok (.if_icmp .eq 22, 3) by decide +kernel) (by decide))),
  List.forall_mem_cons.mpr ⟨(xOK_pure (xs_iload_n (k := 1) rfl (show decode cX10_bagsGiven 25 = .ok (.iload_n 1, 1) by decide +kernel))),
  List.forall_mem_cons.mpr ⟨(xOK_pure (xs_if_eq (show decode cX10_bagsGiven 26 = .ok (.ifCond .eq 15, 3) by decide +kernel) (by decide))),
  List.forall_mem_cons.mpr ⟨(xOK_pure (xs_aload_n (k := 0) rfl (show decode cX10_bagsGiven 29 = .ok (.aload_n 0, 1) by decide +kernel))),
  List.forall_mem_cons.mpr ⟨(xOK_pure (xs_getf xcl_10 (by decide) (show decode cX10_bagsGiven 30 = .ok (.getfield 44, 3) by decide +kernel) xw_319)),
  List.forall_mem_cons.mpr ⟨(xOK_pure (xs_iload_n (k := 3) rfl (show decode cX10_bagsGiven 33 = .ok (.iload_n 3, 1) by decide +kernel))),
  (fun _ h => absurd h List.not_mem_nil)⟩⟩⟩⟩⟩⟩⟩⟩⟩⟩⟩⟩⟩⟩⟩⟩⟩⟩⟩⟩
def pX10_bagsGiven_1 (ev : xEv) : List (Nat × xEn) := [(34, .inl (xop (xf_aald (ev.1 7)))), (35, .inr (.inl (0, 2, 0, 0))), (38, .inl (xop (xf_if_ne 44))), (41, .inl (xop (xf_iinc 2 1))), (44, .inl (xop (xf_iinc 3 1))), (47, .inl (xop (xf_goto 4))), (50, .inl (xop (xf_iload 2 1))), (51, .inr (.inr 1))]
set_option maxRecDepth 20000 in
theorem okpX10_bagsGiven_1 (ev : xEv) : ∀ q ∈ pX10_bagsGiven_1 ev, xEnOK ev xmi yX10_bagsGiven.cls yX10_bagsGiven.name cX10_bagsGiven 4 (some .int) q :=
  List.forall_mem_cons.mpr ⟨(xOK_pure (xs_aald (t := 7) rfl (show decode cX10_bagsGiven 34 = .ok (.aaload, 1) by decide +kernel))),
  List.forall_mem_cons.mpr ⟨(xcm mi_2 ⟨⟨(by decide +kernel), (by decide +kernel), (by decide +kernel)⟩, (by decide), xw_1315, xw_134, Or.inl ⟨rfl, _, _, _, _, (show decode cX10_bagsGiven 35 = .ok (.invokevirtual 383, 3) by decide +kernel), xw_1312, xw_1313, xw_1314, rfl⟩⟩),
  List.forall_mem_cons.mpr ⟨(xOK_pure (xs_if_ne (show decode cX10_bagsGiven 38 = .ok (.ifCond .ne 6, 3) by decide +kernel) (by decide))),
  List.forall_mem_cons.mpr ⟨(xOK_pure (xs_iinc (n := 1) (show decode cX10_bagsGiven 41 = .ok (.iinc 2 1, 3) by decide +kernel) (by decide) (by decide))),
  List.forall_mem_cons.mpr ⟨(xOK_pure (xs_iinc (n := 1) (show decode cX10_bagsGiven 44 = .ok (.iinc 3 1, 3) by decide +kernel) (by decide) (by decide))),
  List.forall_mem_cons.mpr ⟨(xOK_pure (xs_goto (show decode cX10_bagsGiven 47 = .ok (.goto (-43), 3) by decide +kernel) (by decide))),
  List.forall_mem_cons.mpr ⟨(xOK_pure (xs_iload_n (k := 2) rfl (show decode cX10_bagsGiven 50 = .ok (.iload_n 2, 1) by decide +kernel))),
  List.forall_mem_cons.mpr ⟨(Or.inr (Or.inl ⟨rfl, (show decode cX10_bagsGiven 51 = .ok (.ireturn, 1) by decide +kernel), rfl⟩)),
  (fun _ h => absurd h List.not_mem_nil)⟩⟩⟩⟩⟩⟩⟩⟩
def pX10_bagsGiven (ev : xEv) : List (Nat × xEn) := pX10_bagsGiven_0 ev ++ (pX10_bagsGiven_1 ev)
theorem okpX10_bagsGiven (ev : xEv) : ∀ q ∈ pX10_bagsGiven ev, xEnOK ev xmi yX10_bagsGiven.cls yX10_bagsGiven.name cX10_bagsGiven 4 (some .int) q := List.forall_mem_append.mpr ⟨okpX10_bagsGiven_0 ev, okpX10_bagsGiven_1 ev⟩
theorem omX10_bagsGiven (ev : xEv) : xMethOK ev xmi yX10_bagsGiven.cls yX10_bagsGiven.name 117 (pX10_bagsGiven ev) := xMethOK.of mi_117 (by decide +kernel) (okpX10_bagsGiven ev)
def pX10_planesDown_0 (ev : xEv) : List (Nat × xEn) := [(0, .inl (xop (xf_push (.int 0) 1))), (1, .inl (xop (xf_istore 1 1))), (2, .inl (xop (xf_push (.int 0) 1))), (3, .inl (xop (xf_istore 2 1))), (4, .inl (xop (xf_iload 2 1))), (5, .inl (xop (xf_aload 0 1))), (6, .inl (xop (xf_getf 10 5))), (9, .inl (xop (xf_icmp_ge 38))), (12, .inl (xop (xf_iload 1 1))), (13, .inl (xop (xf_aload 0 1))), (14, .inl (xop (xf_getf 10 4))), (17, .inl (xop (xf_iload 2 1))), (18, .inl (xop (xf_aald (ev.1 5)))), (19, .inl (xop (xf_getf 6 12))), (22, .inl (xop (xf_if_eq 29))), (25, .inl (xop (xf_push (.int 1) 1))), (26, .inl (xop (xf_goto 30))), (29, .inl (xop (xf_push (.int 0) 1))), (30, .inl (xop (xf_bin (fun x y => x + y)))), (31, .inl (xop (xf_istore 1 1)))]
set_option maxRecDepth 20000 in
theorem okpX10_planesDown_0 (ev : xEv) : ∀ q ∈ pX10_planesDown_0 ev, xEnOK ev xmi yX10_planesDown.cls yX10_planesDown.name cX10_planesDown 3 (some .int) q :=
  List.forall_mem_cons.mpr ⟨(xOK_pure (xs_iconst (n := 0) (show decode cX10_planesDown 0 = .ok (.iconst 0, 1) by decide +kernel) (by decide))),
  List.forall_mem_cons.mpr ⟨(xOK_pure (xs_istore_n (k := 1) rfl (show decode cX10_planesDown 1 = .ok (.istore_n 1, 1) by decide +kernel) (by decide))),
  List.forall_mem_cons.mpr ⟨(xOK_pure (xs_iconst (n := 0) (show decode cX10_planesDown 2 = .ok (.iconst 0, 1) by decide +kernel) (by decide))),
  List.forall_mem_cons.mpr ⟨(xOK_pure (xs_istore_n (k := 2) rfl (show decode cX10_planesDown 3 = .ok (.istore_n 2, 1) by decide +kernel) (by decide))),
  List.forall_mem_cons.mpr ⟨(xOK_pure (xs_iload_n (k := 2) rfl (show decode cX10_planesDown 4 = .ok (.iload_n 2, 1) by decide +kernel))),
  List.forall_mem_cons.mpr ⟨(xOK_pure (xs_aload_n (k := 0) rfl (show decode cX10_planesDown 5 = .ok (.aload_n 0, 1) by decide +kernel))),
  List.forall_mem_cons.mpr ⟨(xOK_pure (xs_getf xcl_10 (by decide) (show decode cX10_planesDown 6 = .ok (.getfield 106, 3) by decide +kernel) xw_313)),
  List.forall_mem_cons.mpr ⟨(xOK_pure (xs_icmp_ge (show decode cX10_planesDown 9 = .ok (.if_icmp .ge 29, 3) by decide +kernel) (by decide))),
  List.forall_mem_cons.mpr ⟨(xOK_pure (xs_iload_n (k := 1) rfl (show decode cX10_planesDown 12 = .ok (.iload_n 1, 1) by decide +kernel))),
  List.forall_mem_cons.mpr ⟨(xOK_pure (xs_aload_n (k := 0) rfl (show decode cX10_planesDown 13 = .ok (.aload_n 0, 1) by decide +kernel))),
  List.forall_mem_cons.mpr ⟨(xOK_pure (xs_getf xcl_10 (by decide) (show decode cX10_planesDown 14 = .ok (.getfield 32, 3) by decide +kernel) xw_309)),
  List.forall_mem_cons.mpr ⟨(xOK_pure (xs_iload_n (k := 2) rfl (show decode cX10_planesDown 17 = .ok (.iload_n 2, 1) by decide +kernel))),
  List.forall_mem_cons.mpr ⟨(xOK_pure (xs_aald (t := 5) rfl (show decode cX10_planesDown 18 = .ok (.aaload, 1) by decide +kernel))),
  List.forall_mem_cons.mpr ⟨(xOK_pure (xs_getf xcl_6 (by decide) (show decode cX10_planesDown 19 = .ok (.getfield 365, 3) by decide +kernel) xw_628)),
  List.forall_mem_cons.mpr ⟨(xOK_pure (xs_if_eq (show decode cX10_planesDown 22 = .ok (.ifCond .eq 7, 3) by decide +kernel) (by decide))),
  List.forall_mem_cons.mpr ⟨(xOK_pure (xs_iconst (n := 1) (show decode cX10_planesDown 25 = .ok (.iconst 1, 1) by decide +kernel) (by decide))),
  List.forall_mem_cons.mpr ⟨(xOK_pure (xs_goto (show decode cX10_planesDown 26 = .ok (.goto 4, 3) by decide +kernel) (by decide))),
  List.forall_mem_cons.mpr ⟨(xOK_pure (xs_iconst (n := 0) (show decode cX10_planesDown 29 = .ok (.iconst 0, 1) by decide +kernel) (by decide))),
  List.forall_mem_cons.mpr ⟨(xOK_pure (xs_iadd (show decode cX10_planesDown 30 = .ok (.iadd, 1) by decide +kernel))),
  List.forall_mem_cons.mpr ⟨(xOK_pure (xs_istore_n (k := 1) rfl (show decode cX10_planesDown 31 = .ok (.istore_n 1, 1) by decide +kernel) (by decide))),
  (fun _ h => absurd h List.not_mem_nil)⟩⟩⟩⟩⟩⟩⟩⟩⟩⟩⟩⟩⟩⟩⟩⟩⟩⟩⟩⟩
def pX10_planesDown_1 (ev : xEv) : List (Nat × xEn) := [(32, .inl (xop (xf_iinc 2 1))), (35, .inl (xop (xf_goto 4))), (38, .inl (xop (xf_iload 1 1))), (39, .inr (.inr 1))]
set_option maxRecDepth 20000 in
theorem okpX10_planesDown_1 (ev : xEv) : ∀ q ∈ pX10_planesDown_1 ev, xEnOK ev xmi yX10_planesDown.cls yX10_planesDown.name cX10_planesDown 3 (some .int) q :=
  List.forall_mem_cons.mpr ⟨(xOK_pure (xs_iinc (n := 1) (show decode cX10_planesDown 32 = .ok (.iinc 2 1, 3) by decide +kernel) (by decide) (by decide))),
  List.forall_mem_cons.mpr ⟨(xOK_pure (xs_goto (show decode cX10_planesDown 35 = .ok (.goto (-31), 3) by decide +kernel) (by decide))),
  List.forall_mem_cons.mpr ⟨(xOK_pure (xs_iload_n (k := 1) rfl (show decode cX10_planesDown 38 = .ok (.iload_n 1, 1) by decide +kernel))),
  List.forall_mem_cons.mpr ⟨(Or.inr (Or.inl ⟨rfl, (show decode cX10_planesDown 39 = .ok (.ireturn, 1) by decide +kernel), rfl⟩)),
  (fun _ h => absurd h List.not_mem_nil)⟩⟩⟩⟩
def pX10_planesDown (ev : xEv) : List (Nat × xEn) := pX10_planesDown_0 ev ++ (pX10_planesDown_1 ev)
theorem okpX10_planesDown (ev : xEv) : ∀ q ∈ pX10_planesDown ev, xEnOK ev xmi yX10_planesDown.cls yX10_planesDown.name cX10_planesDown 3 (some .int) q := List.forall_mem_append.mpr ⟨okpX10_planesDown_0 ev, okpX10_planesDown_1 ev⟩
theorem omX10_planesDown (ev : xEv) : xMethOK ev xmi yX10_planesDown.cls yX10_planesDown.name 118 (pX10_planesDown ev) := xMethOK.of mi_118 (by decide +kernel) (okpX10_planesDown ev)
def pX10_weightOn_0 (ev : xEv) : List (Nat × xEn) := [(0, .inl (xop (xf_push (.int 0) 1))), (1, .inl (xop (xf_istore 2 1))), (2, .inl (xop (xf_push (.int 0) 1))), (3, .inl (xop (xf_istore 3 1))), (4, .inl (xop (xf_iload 3 1))), (5, .inl (xop (xf_aload 0 1))), (6, .inl (xop (xf_getf 10 9))), (9, .inl (xop (xf_icmp_ge 47))), (12, .inl (xop (xf_iload 2 1))), (13, .inl (xop (xf_aload 0 1))), (14, .inl (xop (xf_getf 10 8))), (17, .inl (xop (xf_iload 3 1))), (18, .inl (xop (xf_aald (ev.1 7)))), (19, .inl (xop (xf_getf 0 6))), (22, .inl (xop (xf_iload 1 1))), (23, .inl (xop (xf_icmp_ne 38))), (26, .inl (xop (xf_aload 0 1))), (27, .inl (xop (xf_getf 10 8))), (30, .inl (xop (xf_iload 3 1))), (31, .inl (xop (xf_aald (ev.1 7))))]
set_option maxRecDepth 20000 in
theorem okpX10_weightOn_0 (ev : xEv) : ∀ q ∈ pX10_weightOn_0 ev, xEnOK ev xmi yX10_weightOn.cls yX10_weightOn.name cX10_weightOn 4 (some .int) q :=
  List.forall_mem_cons.mpr ⟨(xOK_pure (xs_iconst (n := 0) (show decode cX10_weightOn 0 = .ok (.iconst 0, 1) by decide +kernel) (by decide))),
  List.forall_mem_cons.mpr ⟨(xOK_pure (xs_istore_n (k := 2) rfl (show decode cX10_weightOn 1 = .ok (.istore_n 2, 1) by decide +kernel) (by decide))),
  List.forall_mem_cons.mpr ⟨(xOK_pure (xs_iconst (n := 0) (show decode cX10_weightOn 2 = .ok (.iconst 0, 1) by decide +kernel) (by decide))),
  List.forall_mem_cons.mpr ⟨(xOK_pure (xs_istore_n (k := 3) rfl (show decode cX10_weightOn 3 = .ok (.istore_n 3, 1) by decide +kernel) (by decide))),
  List.forall_mem_cons.mpr ⟨(xOK_pure (xs_iload_n (k := 3) rfl (show decode cX10_weightOn 4 = .ok (.iload_n 3, 1) by decide +kernel))),
  List.forall_mem_cons.mpr ⟨(xOK_pure (xs_aload_n (k := 0) rfl (show decode cX10_weightOn 5 = .ok (.aload_n 0, 1) by decide +kernel))),
  List.forall_mem_cons.mpr ⟨(xOK_pure (xs_getf xcl_10 (by decide) (show decode cX10_weightOn 6 = .ok (.getfield 79, 3) by decide +kernel) xw_321)),
  List.forall_mem_cons.mpr ⟨(xOK_pure (xs_icmp_ge (show decode cX10_weightOn 9 = .ok (.if_icmp .ge 38, 3) by decide +kernel) (by decide))),
  List.forall_mem_cons.mpr ⟨(xOK_pure (xs_iload_n (k := 2) rfl (show decode cX10_weightOn 12 = .ok (.iload_n 2, 1) by decide +kernel))),
  List.forall_mem_cons.mpr ⟨(xOK_pure (xs_aload_n (k := 0) rfl (show decode cX10_weightOn 13 = .ok (.aload_n 0, 1) by decide +kernel))),
  List.forall_mem_cons.mpr ⟨(xOK_pure (xs_getf xcl_10 (by decide) (show decode cX10_weightOn 14 = .ok (.getfield 44, 3) by decide +kernel) xw_319)),
  List.forall_mem_cons.mpr ⟨(xOK_pure (xs_iload_n (k := 3) rfl (show decode cX10_weightOn 17 = .ok (.iload_n 3, 1) by decide +kernel))),
  List.forall_mem_cons.mpr ⟨(xOK_pure (xs_aald (t := 7) rfl (show decode cX10_weightOn 18 = .ok (.aaload, 1) by decide +kernel))),
  List.forall_mem_cons.mpr ⟨(xOK_pure (xs_getf xcl_0 (by decide) (show decode cX10_weightOn 19 = .ok (.getfield 368, 3) by decide +kernel) xw_767)),
  List.forall_mem_cons.mpr ⟨(xOK_pure (xs_iload_n (k := 1) rfl (show decode cX10_weightOn 22 = .ok (.iload_n 1, 1) by decide +kernel))),
  List.forall_mem_cons.mpr ⟨(xOK_pure (xs_icmp_ne (show decode cX10_weightOn 23 = .ok (.if_icmp .ne 15, 3) by decide +kernel) (by decide))),
  List.forall_mem_cons.mpr ⟨(xOK_pure (xs_aload_n (k := 0) rfl (show decode cX10_weightOn 26 = .ok (.aload_n 0, 1) by decide +kernel))),
  List.forall_mem_cons.mpr ⟨(xOK_pure (xs_getf xcl_10 (by decide) (show decode cX10_weightOn 27 = .ok (.getfield 44, 3) by decide +kernel) xw_319)),
  List.forall_mem_cons.mpr ⟨(xOK_pure (xs_iload_n (k := 3) rfl (show decode cX10_weightOn 30 = .ok (.iload_n 3, 1) by decide +kernel))),
  List.forall_mem_cons.mpr ⟨(xOK_pure (xs_aald (t := 7) rfl (show decode cX10_weightOn 31 = .ok (.aaload, 1) by decide +kernel))),
  (fun _ h => absurd h List.not_mem_nil)⟩⟩⟩⟩⟩⟩⟩⟩⟩⟩⟩⟩⟩⟩⟩⟩⟩⟩⟩⟩
def pX10_weightOn_1 (ev : xEv) : List (Nat × xEn) := [(32, .inl (xop (xf_getf 0 2))), (35, .inl (xop (xf_goto 39))), (38, .inl (xop (xf_push (.int 0) 1))), (39, .inl (xop (xf_bin (fun x y => x + y)))), (40, .inl (xop (xf_istore 2 1))), (41, .inl (xop (xf_iinc 3 1))), (44, .inl (xop (xf_goto 4))), (47, .inl (xop (xf_iload 2 1))), (48, .inr (.inr 1))]
set_option maxRecDepth 20000 in
theorem okpX10_weightOn_1 (ev : xEv) : ∀ q ∈ pX10_weightOn_1 ev, xEnOK ev xmi yX10_weightOn.cls yX10_weightOn.name cX10_weightOn 4 (some .int) q :=
  List.forall_mem_cons.mpr ⟨(xOK_pure (xs_getf xcl_0 (by decide) (show decode cX10_weightOn 32 = .ok (.getfield 284, 3) by decide +kernel) xw_759)),
  List.forall_mem_cons.mpr ⟨(xOK_pure (xs_goto (show decode cX10_weightOn 35 = .ok (.goto 4, 3) by decide +kernel) (by decide))),
  List.forall_mem_cons.mpr ⟨(xOK_pure (xs_iconst (n := 0) (show decode cX10_weightOn 38 = .ok (.iconst 0, 1) by decide +kernel) (by decide))),
  List.forall_mem_cons.mpr ⟨(xOK_pure (xs_iadd (show decode cX10_weightOn 39 = .ok (.iadd, 1) by decide +kernel))),
  List.forall_mem_cons.mpr ⟨(xOK_pure (xs_istore_n (k := 2) rfl (show decode cX10_weightOn 40 = .ok (.istore_n 2, 1) by decide +kernel) (by decide))),
  List.forall_mem_cons.mpr ⟨(xOK_pure (xs_iinc (n := 1) (show decode cX10_weightOn 41 = .ok (.iinc 3 1, 3) by decide +kernel) (by decide) (by decide))),
  List.forall_mem_cons.mpr ⟨(xOK_pure (xs_goto (show decode cX10_weightOn 44 = .ok (.goto (-40), 3) by decide +kernel) (by decide))),
  List.forall_mem_cons.mpr ⟨(xOK_pure (xs_iload_n (k := 2) rfl (show decode cX10_weightOn 47 = .ok (.iload_n 2, 1) by decide +kernel))),
  List.forall_mem_cons.mpr ⟨(Or.inr (Or.inl ⟨rfl, (show decode cX10_weightOn 48 = .ok (.ireturn, 1) by decide +kernel), rfl⟩)),
  (fun _ h => absurd h List.not_mem_nil)⟩⟩⟩⟩⟩⟩⟩⟩⟩
def pX10_weightOn (ev : xEv) : List (Nat × xEn) := pX10_weightOn_0 ev ++ (pX10_weightOn_1 ev)
theorem okpX10_weightOn (ev : xEv) : ∀ q ∈ pX10_weightOn ev, xEnOK ev xmi yX10_weightOn.cls yX10_weightOn.name cX10_weightOn 4 (some .int) q := List.forall_mem_append.mpr ⟨okpX10_weightOn_0 ev, okpX10_weightOn_1 ev⟩
theorem omX10_weightOn (ev : xEv) : xMethOK ev xmi yX10_weightOn.cls yX10_weightOn.name 119 (pX10_weightOn ev) := xMethOK.of mi_119 (by decide +kernel) (okpX10_weightOn ev)
def pX10_coinNow_0 (ev : xEv) : List (Nat × xEn) := [(0, .inl (xop (xf_aload 0 1))), (1, .inl (xop (xf_getf 10 14))), (4, .inl (xop (xf_un (fun x => -x)))), (5, .inl (xop (xf_istore 1 1))), (6, .inl (xop (xf_push (.int 0) 1))), (7, .inl (xop (xf_istore 2 1))), (8, .inl (xop (xf_iload 2 1))), (9, .inl (xop (xf_aload 0 1))), (10, .inl (xop (xf_getf 10 9))), (13, .inl (xop (xf_icmp_ge 35))), (16, .inl (xop (xf_iload 1 1))), (17, .inl (xop (xf_aload 0 1))), (18, .inl (xop (xf_aload 0 1))), (19, .inl (xop (xf_getf 10 8))), (22, .inl (xop (xf_iload 2 1))), (23, .inl (xop (xf_aald (ev.1 7)))), (24, .inr (.inl (0, 121, 1, 10))), (27, .inl (xop (xf_bin (fun x y => x + y)))), (28, .inl (xop (xf_istore 1 1))), (29, .inl (xop (xf_iinc 2 1)))]
set_option maxRecDepth 20000 in
theorem okpX10_coinNow_0 (ev : xEv) : ∀ q ∈ pX10_coinNow_0 ev, xEnOK ev xmi yX10_coinNow.cls yX10_coinNow.name cX10_coinNow 3 (some .int) q :=
  List.forall_mem_cons.mpr ⟨(xOK_pure (xs_aload_n (k := 0) rfl (show decode cX10_coinNow 0 = .ok (.aload_n 0, 1) by decide +kernel))),
  List.forall_mem_cons.mpr ⟨(xOK_pure (xs_getf xcl_10 (by decide) (show decode cX10_coinNow 1 = .ok (.getfield 305, 3) by decide +kernel) xw_331)),
  List.forall_mem_cons.mpr ⟨(xOK_pure (xs_ineg (show decode cX10_coinNow 4 = .ok (.ineg, 1) by decide +kernel))),
  List.forall_mem_cons.mpr ⟨(xOK_pure (xs_istore_n (k := 1) rfl (show decode cX10_coinNow 5 = .ok (.istore_n 1, 1) by decide +kernel) (by decide))),
  List.forall_mem_cons.mpr ⟨(xOK_pure (xs_iconst (n := 0) (show decode cX10_coinNow 6 = .ok (.iconst 0, 1) by decide +kernel) (by decide))),
  List.forall_mem_cons.mpr ⟨(xOK_pure (xs_istore_n (k := 2) rfl (show decode cX10_coinNow 7 = .ok (.istore_n 2, 1) by decide +kernel) (by decide))),
  List.forall_mem_cons.mpr ⟨(xOK_pure (xs_iload_n (k := 2) rfl (show decode cX10_coinNow 8 = .ok (.iload_n 2, 1) by decide +kernel))),
  List.forall_mem_cons.mpr ⟨(xOK_pure (xs_aload_n (k := 0) rfl (show decode cX10_coinNow 9 = .ok (.aload_n 0, 1) by decide +kernel))),
  List.forall_mem_cons.mpr ⟨(xOK_pure (xs_getf xcl_10 (by decide) (show decode cX10_coinNow 10 = .ok (.getfield 79, 3) by decide +kernel) xw_321)),
  List.forall_mem_cons.mpr ⟨(xOK_pure (xs_icmp_ge (show decode cX10_coinNow 13 = .ok (.if_icmp .ge 22, 3) by decide +kernel) (by decide))),
  List.forall_mem_cons.mpr ⟨(xOK_pure (xs_iload_n (k := 1) rfl (show decode cX10_coinNow 16 = .ok (.iload_n 1, 1) by decide +kernel))),
  List.forall_mem_cons.mpr ⟨(xOK_pure (xs_aload_n (k := 0) rfl (show decode cX10_coinNow 17 = .ok (.aload_n 0, 1) by decide +kernel))),
  List.forall_mem_cons.mpr ⟨(xOK_pure (xs_aload_n (k := 0) rfl (show decode cX10_coinNow 18 = .ok (.aload_n 0, 1) by decide +kernel))),
  List.forall_mem_cons.mpr ⟨(xOK_pure (xs_getf xcl_10 (by decide) (show decode cX10_coinNow 19 = .ok (.getfield 44, 3) by decide +kernel) xw_319)),
  List.forall_mem_cons.mpr ⟨(xOK_pure (xs_iload_n (k := 2) rfl (show decode cX10_coinNow 22 = .ok (.iload_n 2, 1) by decide +kernel))),
  List.forall_mem_cons.mpr ⟨(xOK_pure (xs_aald (t := 7) rfl (show decode cX10_coinNow 23 = .ok (.aaload, 1) by decide +kernel))),
  List.forall_mem_cons.mpr ⟨(xcm mi_121 ⟨⟨(by decide +kernel), (by decide +kernel), (by decide +kernel)⟩, (by decide), xw_1350, xw_120, Or.inl ⟨rfl, _, _, _, _, (show decode cX10_coinNow 24 = .ok (.invokevirtual 387, 3) by decide +kernel), xw_1347, xw_1348, xw_1349, rfl⟩⟩),
  List.forall_mem_cons.mpr ⟨(xOK_pure (xs_iadd (show decode cX10_coinNow 27 = .ok (.iadd, 1) by decide +kernel))),
  List.forall_mem_cons.mpr ⟨(xOK_pure (xs_istore_n (k := 1) rfl (show decode cX10_coinNow 28 = .ok (.istore_n 1, 1) by decide +kernel) (by decide))),
  List.forall_mem_cons.mpr ⟨(xOK_pure (xs_iinc (n := 1) (show decode cX10_coinNow 29 = .ok (.iinc 2 1, 3) by decide +kernel) (by decide) (by decide))),
  (fun _ h => absurd h List.not_mem_nil)⟩⟩⟩⟩⟩⟩⟩⟩⟩⟩⟩⟩⟩⟩⟩⟩⟩⟩⟩⟩
def pX10_coinNow_1 (ev : xEv) : List (Nat × xEn) := [(32, .inl (xop (xf_goto 8))), (35, .inl (xop (xf_iload 1 1))), (36, .inr (.inr 1))]
set_option maxRecDepth 20000 in
theorem okpX10_coinNow_1 (ev : xEv) : ∀ q ∈ pX10_coinNow_1 ev, xEnOK ev xmi yX10_coinNow.cls yX10_coinNow.name cX10_coinNow 3 (some .int) q :=
  List.forall_mem_cons.mpr ⟨(xOK_pure (xs_goto (show decode cX10_coinNow 32 = .ok (.goto (-24), 3) by decide +kernel) (by decide))),
  List.forall_mem_cons.mpr ⟨(xOK_pure (xs_iload_n (k := 1) rfl (show decode cX10_coinNow 35 = .ok (.iload_n 1, 1) by decide +kernel))),
  List.forall_mem_cons.mpr ⟨(Or.inr (Or.inl ⟨rfl, (show decode cX10_coinNow 36 = .ok (.ireturn, 1) by decide +kernel), rfl⟩)),
  (fun _ h => absurd h List.not_mem_nil)⟩⟩⟩
def pX10_coinNow (ev : xEv) : List (Nat × xEn) := pX10_coinNow_0 ev ++ (pX10_coinNow_1 ev)
theorem okpX10_coinNow (ev : xEv) : ∀ q ∈ pX10_coinNow ev, xEnOK ev xmi yX10_coinNow.cls yX10_coinNow.name cX10_coinNow 3 (some .int) q := List.forall_mem_append.mpr ⟨okpX10_coinNow_0 ev, okpX10_coinNow_1 ev⟩
theorem omX10_coinNow (ev : xEv) : xMethOK ev xmi yX10_coinNow.cls yX10_coinNow.name 120 (pX10_coinNow ev) := xMethOK.of mi_120 (by decide +kernel) (okpX10_coinNow ev)
def pX10_payByDay (ev : xEv) : List (Nat × xEn) := [(0, .inl (xop (xf_aload 1 1))), (1, .inl (xop (xf_getf 0 8))), (4, .inl (xop (xf_push (.int (-1)) 1))), (5, .inl (xop (xf_icmp_ne 12))), (8, .inl (xop (xf_push (.int 0) 1))), (9, .inl (xop (xf_goto 32))), (12, .inl (xop (xf_aload 0 1))), (13, .inl (xop (xf_aload 0 1))), (14, .inl (xop (xf_getf 10 3))), (17, .inl (xop (xf_push (.int 2) 1))), (18, .inl (xop (xf_aload 1 1))), (19, .inl (xop (xf_getf 0 8))), (22, .inl (xop (xf_push (.int 96) 2))), (24, .inl (xop (xf_div (fun x y => x / y)))), (25, .inr (.inl (0, 87, 2, 8))), (28, .inl (xop (xf_aload 1 1))), (29, .inr (.inl (0, 122, 2, 10))), (32, .inr (.inr 1))]
set_option maxRecDepth 20000 in
theorem okpX10_payByDay (ev : xEv) : ∀ q ∈ pX10_payByDay ev, xEnOK ev xmi yX10_payByDay.cls yX10_payByDay.name cX10_payByDay 2 (some .int) q :=
  List.forall_mem_cons.mpr ⟨(xOK_pure (xs_aload_n (k := 1) rfl (show decode cX10_payByDay 0 = .ok (.aload_n 1, 1) by decide +kernel))),
  List.forall_mem_cons.mpr ⟨(xOK_pure (xs_getf xcl_0 (by decide) (show decode cX10_payByDay 1 = .ok (.getfield 380, 3) by decide +kernel) xw_773)),
  List.forall_mem_cons.mpr ⟨(xOK_pure (xs_iconst (n := (-1)) (show decode cX10_payByDay 4 = .ok (.iconst (-1), 1) by decide +kernel) (by decide))),
  List.forall_mem_cons.mpr ⟨(xOK_pure (xs_icmp_ne (show decode cX10_payByDay 5 = .ok (.if_icmp .ne 7, 3) by decide +kernel) (by decide))),
  List.forall_mem_cons.mpr ⟨(xOK_pure (xs_iconst (n := 0) (show decode cX10_payByDay 8 = .ok (.iconst 0, 1) by decide +kernel) (by decide))),
  List.forall_mem_cons.mpr ⟨(xOK_pure (xs_goto (show decode cX10_payByDay 9 = .ok (.goto 23, 3) by decide +kernel) (by decide))),
  List.forall_mem_cons.mpr ⟨(xOK_pure (xs_aload_n (k := 0) rfl (show decode cX10_payByDay 12 = .ok (.aload_n 0, 1) by decide +kernel))),
  List.forall_mem_cons.mpr ⟨(xOK_pure (xs_aload_n (k := 0) rfl (show decode cX10_payByDay 13 = .ok (.aload_n 0, 1) by decide +kernel))),
  List.forall_mem_cons.mpr ⟨(xOK_pure (xs_getf xcl_10 (by decide) (show decode cX10_payByDay 14 = .ok (.getfield 27, 3) by decide +kernel) xw_307)),
  List.forall_mem_cons.mpr ⟨(xOK_pure (xs_iconst (n := 2) (show decode cX10_payByDay 17 = .ok (.iconst 2, 1) by decide +kernel) (by decide))),
  List.forall_mem_cons.mpr ⟨(xOK_pure (xs_aload_n (k := 1) rfl (show decode cX10_payByDay 18 = .ok (.aload_n 1, 1) by decide +kernel))),
  List.forall_mem_cons.mpr ⟨(xOK_pure (xs_getf xcl_0 (by decide) (show decode cX10_payByDay 19 = .ok (.getfield 380, 3) by decide +kernel) xw_773)),
  List.forall_mem_cons.mpr ⟨(xOK_pure (xs_bipush (n := 96) (show decode cX10_payByDay 22 = .ok (.bipush 96, 2) by decide +kernel) (by decide))),
  List.forall_mem_cons.mpr ⟨(xOK_pure (xs_idiv (show decode cX10_payByDay 24 = .ok (.idiv, 1) by decide +kernel))),
  List.forall_mem_cons.mpr ⟨(xcm mi_87 ⟨⟨(by decide +kernel), (by decide +kernel), (by decide +kernel)⟩, (by decide), xw_1187, xw_122, Or.inl ⟨rfl, _, _, _, _, (show decode cX10_payByDay 25 = .ok (.invokevirtual 258, 3) by decide +kernel), xw_1184, xw_1185, xw_1186, rfl⟩⟩),
  List.forall_mem_cons.mpr ⟨(xOK_pure (xs_aload_n (k := 1) rfl (show decode cX10_payByDay 28 = .ok (.aload_n 1, 1) by decide +kernel))),
  List.forall_mem_cons.mpr ⟨(xcm mi_122 ⟨⟨(by decide +kernel), (by decide +kernel), (by decide +kernel)⟩, (by decide), xw_1337, xw_120, Or.inl ⟨rfl, _, _, _, _, (show decode cX10_payByDay 29 = .ok (.invokevirtual 391, 3) by decide +kernel), xw_1351, xw_1335, xw_1336, rfl⟩⟩),
  List.forall_mem_cons.mpr ⟨(Or.inr (Or.inl ⟨rfl, (show decode cX10_payByDay 32 = .ok (.ireturn, 1) by decide +kernel), rfl⟩)),
  (fun _ h => absurd h List.not_mem_nil)⟩⟩⟩⟩⟩⟩⟩⟩⟩⟩⟩⟩⟩⟩⟩⟩⟩⟩
theorem omX10_payByDay (ev : xEv) : xMethOK ev xmi yX10_payByDay.cls yX10_payByDay.name 121 (pX10_payByDay ev) := xMethOK.of mi_121 (by decide +kernel) (okpX10_payByDay ev)
def pX10_payBy_0 (ev : xEv) : List (Nat × xEn) := [(0, .inl (xop (xf_aload 2 1))), (1, .inl (xop (xf_getf 0 8))), (4, .inl (xop (xf_push (.int (-1)) 1))), (5, .inl (xop (xf_icmp_ne 10))), (8, .inl (xop (xf_push (.int 0) 1))), (9, .inr (.inr 1)), (10, .inl (xop (xf_aload 0 1))), (11, .inl (xop (xf_getf 10 0))), (14, .inl (xop (xf_aload 2 1))), (15, .inl (xop (xf_getf 0 0))), (18, .inl (xop (xf_aload 2 1))), (19, .inl (xop (xf_getf 0 1))), (22, .inr (.inl (0, 20, 2, 2))), (25, .inl (xop (xf_istore 3 1))), (26, .inl (xop (xf_aload 0 1))), (27, .inl (xop (xf_getf 10 3))), (30, .inl (xop (xf_push (.int 119) 2))), (32, .inl (xop (xf_aload 2 1))), (33, .inl (xop (xf_getf 0 2))), (36, .inr (.inl (0, 88, 2, 8)))]
set_option maxRecDepth 20000 in
theorem okpX10_payBy_0 (ev : xEv) : ∀ q ∈ pX10_payBy_0 ev, xEnOK ev xmi yX10_payBy.cls yX10_payBy.name cX10_payBy 4 (some .int) q :=
  List.forall_mem_cons.mpr ⟨(xOK_pure (xs_aload_n (k := 2) rfl (show decode cX10_payBy 0 = .ok (.aload_n 2, 1) by decide +kernel))),
  List.forall_mem_cons.mpr ⟨(xOK_pure (xs_getf xcl_0 (by decide) (show decode cX10_payBy 1 = .ok (.getfield 380, 3) by decide +kernel) xw_773)),
  List.forall_mem_cons.mpr ⟨(xOK_pure (xs_iconst (n := (-1)) (show decode cX10_payBy 4 = .ok (.iconst (-1), 1) by decide +kernel) (by decide))),
  List.forall_mem_cons.mpr ⟨(xOK_pure (xs_icmp_ne (show decode cX10_payBy 5 = .ok (.if_icmp .ne 5, 3) by decide +kernel) (by decide))),
  List.forall_mem_cons.mpr ⟨(xOK_pure (xs_iconst (n := 0) (show decode cX10_payBy 8 = .ok (.iconst 0, 1) by decide +kernel) (by decide))),
  List.forall_mem_cons.mpr ⟨(Or.inr (Or.inl ⟨rfl, (show decode cX10_payBy 9 = .ok (.ireturn, 1) by decide +kernel), rfl⟩)),
  List.forall_mem_cons.mpr ⟨(xOK_pure (xs_aload_n (k := 0) rfl (show decode cX10_payBy 10 = .ok (.aload_n 0, 1) by decide +kernel))),
  List.forall_mem_cons.mpr ⟨(xOK_pure (xs_getf xcl_10 (by decide) (show decode cX10_payBy 11 = .ok (.getfield 65, 3) by decide +kernel) xw_301)),
  List.forall_mem_cons.mpr ⟨(xOK_pure (xs_aload_n (k := 2) rfl (show decode cX10_payBy 14 = .ok (.aload_n 2, 1) by decide +kernel))),
  List.forall_mem_cons.mpr ⟨(xOK_pure (xs_getf xcl_0 (by decide) (show decode cX10_payBy 15 = .ok (.getfield 72, 3) by decide +kernel) xw_754)),
  List.forall_mem_cons.mpr ⟨(xOK_pure (xs_aload_n (k := 2) rfl (show decode cX10_payBy 18 = .ok (.aload_n 2, 1) by decide +kernel))),
  List.forall_mem_cons.mpr ⟨(xOK_pure (xs_getf xcl_0 (by decide) (show decode cX10_payBy 19 = .ok (.getfield 136, 3) by decide +kernel) xw_756)),
  List.forall_mem_cons.mpr ⟨(xcm mi_20 ⟨⟨(by decide +kernel), (by decide +kernel), (by decide +kernel)⟩, (by decide), xw_539, xw_119, Or.inl ⟨rfl, _, _, _, _, (show decode cX10_payBy 22 = .ok (.invokevirtual 294, 3) by decide +kernel), xw_1212, xw_537, xw_538, rfl⟩⟩),
  List.forall_mem_cons.mpr ⟨(xOK_pure (xs_istore_n (k := 3) rfl (show decode cX10_payBy 25 = .ok (.istore_n 3, 1) by decide +kernel) (by decide))),
  List.forall_mem_cons.mpr ⟨(xOK_pure (xs_aload_n (k := 0) rfl (show decode cX10_payBy 26 = .ok (.aload_n 0, 1) by decide +kernel))),
  List.forall_mem_cons.mpr ⟨(xOK_pure (xs_getf xcl_10 (by decide) (show decode cX10_payBy 27 = .ok (.getfield 27, 3) by decide +kernel) xw_307)),
  List.forall_mem_cons.mpr ⟨(xOK_pure (xs_bipush (n := 119) (show decode cX10_payBy 30 = .ok (.bipush 119, 2) by decide +kernel) (by decide))),
  List.forall_mem_cons.mpr ⟨(xOK_pure (xs_aload_n (k := 2) rfl (show decode cX10_payBy 32 = .ok (.aload_n 2, 1) by decide +kernel))),
  List.forall_mem_cons.mpr ⟨(xOK_pure (xs_getf xcl_0 (by decide) (show decode cX10_payBy 33 = .ok (.getfield 284, 3) by decide +kernel) xw_759)),
  List.forall_mem_cons.mpr ⟨(xcm mi_88 ⟨⟨(by decide +kernel), (by decide +kernel), (by decide +kernel)⟩, (by decide), xw_1171, xw_122, Or.inl ⟨rfl, _, _, _, _, (show decode cX10_payBy 36 = .ok (.invokevirtual 234, 3) by decide +kernel), xw_1168, xw_1169, xw_1170, rfl⟩⟩),
  (fun _ h => absurd h List.not_mem_nil)⟩⟩⟩⟩⟩⟩⟩⟩⟩⟩⟩⟩⟩⟩⟩⟩⟩⟩⟩⟩
def pX10_payBy_1 (ev : xEv) : List (Nat × xEn) := [(39, .inl (xop (xf_aload 0 1))), (40, .inl (xop (xf_getf 10 3))), (43, .inl (xop (xf_push (.int 109) 2))), (45, .inl (xop (xf_iload 3 1))), (46, .inl (xop (xf_push (.int 1000000) 3))), (49, .inl (xop (xf_icmp_lt 56))), (52, .inl (xop (xf_push (.int 0) 1))), (53, .inl (xop (xf_goto 57))), (56, .inl (xop (xf_iload 3 1))), (57, .inr (.inl (0, 88, 2, 8))), (60, .inl (xop (xf_aload 0 1))), (61, .inl (xop (xf_getf 10 3))), (64, .inl (xop (xf_push (.int 115) 2))), (66, .inl (xop (xf_aload 2 1))), (67, .inl (xop (xf_getf 0 3))), (70, .inr (.inl (0, 88, 2, 8))), (73, .inl (xop (xf_aload 0 1))), (74, .inl (xop (xf_getf 10 3))), (77, .inl (xop (xf_push (.int 116) 2))), (79, .inl (xop (xf_aload 2 1)))]
set_option maxRecDepth 20000 in
theorem okpX10_payBy_1 (ev : xEv) : ∀ q ∈ pX10_payBy_1 ev, xEnOK ev xmi yX10_payBy.cls yX10_payBy.name cX10_payBy 4 (some .int) q :=
  List.forall_mem_cons.mpr ⟨(xOK_pure (xs_aload_n (k := 0) rfl (show decode cX10_payBy 39 = .ok (.aload_n 0, 1) by decide +kernel))),
  List.forall_mem_cons.mpr ⟨(xOK_pure (xs_getf xcl_10 (by decide) (show decode cX10_payBy 40 = .ok (.getfield 27, 3) by decide +kernel) xw_307)),
  List.forall_mem_cons.mpr ⟨(xOK_pure (xs_bipush (n := 109) (show decode cX10_payBy 43 = .ok (.bipush 109, 2) by decide +kernel) (by decide))),
  List.forall_mem_cons.mpr ⟨(xOK_pure (xs_iload_n (k := 3) rfl (show decode cX10_payBy 45 = .ok (.iload_n 3, 1) by decide +kernel))),
  List.forall_mem_cons.mpr ⟨(xOK_pure (xs_ldcw (show decode cX10_payBy 46 = .ok (.ldc_w 395, 3) by decide +kernel) xw_1338)),
  List.forall_mem_cons.mpr ⟨(xOK_pure (xs_icmp_lt (show decode cX10_payBy 49 = .ok (.if_icmp .lt 7, 3) by decide +kernel) (by decide))),
  List.forall_mem_cons.mpr ⟨(xOK_pure (xs_iconst (n := 0) (show decode cX10_payBy 52 = .ok (.iconst 0, 1) by decide +kernel) (by decide))),
  List.forall_mem_cons.mpr ⟨(xOK_pure (xs_goto (show decode cX10_payBy 53 = .ok (.goto 4, 3) by decide +kernel) (by decide))),
  List.forall_mem_cons.mpr ⟨(xOK_pure (xs_iload_n (k := 3) rfl (show decode cX10_payBy 56 = .ok (.iload_n 3, 1) by decide +kernel))),
  List.forall_mem_cons.mpr ⟨(xcm mi_88 ⟨⟨(by decide +kernel), (by decide +kernel), (by decide +kernel)⟩, (by decide), xw_1171, xw_122, Or.inl ⟨rfl, _, _, _, _, (show decode cX10_payBy 57 = .ok (.invokevirtual 234, 3) by decide +kernel), xw_1168, xw_1169, xw_1170, rfl⟩⟩),
  List.forall_mem_cons.mpr ⟨(xOK_pure (xs_aload_n (k := 0) rfl (show decode cX10_payBy 60 = .ok (.aload_n 0, 1) by decide +kernel))),
  List.forall_mem_cons.mpr ⟨(xOK_pure (xs_getf xcl_10 (by decide) (show decode cX10_payBy 61 = .ok (.getfield 27, 3) by decide +kernel) xw_307)),
  List.forall_mem_cons.mpr ⟨(xOK_pure (xs_bipush (n := 115) (show decode cX10_payBy 64 = .ok (.bipush 115, 2) by decide +kernel) (by decide))),
  List.forall_mem_cons.mpr ⟨(xOK_pure (xs_aload_n (k := 2) rfl (show decode cX10_payBy 66 = .ok (.aload_n 2, 1) by decide +kernel))),
  List.forall_mem_cons.mpr ⟨(xOK_pure (xs_getf xcl_0 (by decide) (show decode cX10_payBy 67 = .ok (.getfield 396, 3) by decide +kernel) xw_761)),
  List.forall_mem_cons.mpr ⟨(xcm mi_88 ⟨⟨(by decide +kernel), (by decide +kernel), (by decide +kernel)⟩, (by decide), xw_1171, xw_122, Or.inl ⟨rfl, _, _, _, _, (show decode cX10_payBy 70 = .ok (.invokevirtual 234, 3) by decide +kernel), xw_1168, xw_1169, xw_1170, rfl⟩⟩),
  List.forall_mem_cons.mpr ⟨(xOK_pure (xs_aload_n (k := 0) rfl (show decode cX10_payBy 73 = .ok (.aload_n 0, 1) by decide +kernel))),
  List.forall_mem_cons.mpr ⟨(xOK_pure (xs_getf xcl_10 (by decide) (show decode cX10_payBy 74 = .ok (.getfield 27, 3) by decide +kernel) xw_307)),
  List.forall_mem_cons.mpr ⟨(xOK_pure (xs_bipush (n := 116) (show decode cX10_payBy 77 = .ok (.bipush 116, 2) by decide +kernel) (by decide))),
  List.forall_mem_cons.mpr ⟨(xOK_pure (xs_aload_n (k := 2) rfl (show decode cX10_payBy 79 = .ok (.aload_n 2, 1) by decide +kernel))),
  (fun _ h => absurd h List.not_mem_nil)⟩⟩⟩⟩⟩⟩⟩⟩⟩⟩⟩⟩⟩⟩⟩⟩⟩⟩⟩⟩
def pX10_payBy_2 (ev : xEv) : List (Nat × xEn) := [(80, .inr (.inl (0, 2, 0, 0))), (83, .inr (.inl (0, 88, 2, 8))), (86, .inl (xop (xf_aload 0 1))), (87, .inl (xop (xf_getf 10 3))), (90, .inl (xop (xf_push (.int 100) 2))), (92, .inl (xop (xf_aload 2 1))), (93, .inl (xop (xf_getf 0 8))), (96, .inl (xop (xf_push (.int 96) 2))), (98, .inl (xop (xf_div (fun x y => x / y)))), (99, .inr (.inl (0, 88, 2, 8))), (102, .inl (xop (xf_push (.int 0) 1))), (103, .inl (xop (xf_aload 0 1))), (104, .inl (xop (xf_getf 10 3))), (107, .inl (xop (xf_iload 1 1))), (108, .inl (xop (xf_push (.int 0) 1))), (109, .inr (.inl (0, 89, 2, 8))), (112, .inl (xop (xf_m2 (fun x y => if x < y then y else x)))), (115, .inr (.inr 1))]
set_option maxRecDepth 20000 in
theorem okpX10_payBy_2 (ev : xEv) : ∀ q ∈ pX10_payBy_2 ev, xEnOK ev xmi yX10_payBy.cls yX10_payBy.name cX10_payBy 4 (some .int) q :=
  List.forall_mem_cons.mpr ⟨(xcm mi_2 ⟨⟨(by decide +kernel), (by decide +kernel), (by decide +kernel)⟩, (by decide), xw_1315, xw_134, Or.inl ⟨rfl, _, _, _, _, (show decode cX10_payBy 80 = .ok (.invokevirtual 383, 3) by decide +kernel), xw_1312, xw_1313, xw_1314, rfl⟩⟩),
  List.forall_mem_cons.mpr ⟨(xcm mi_88 ⟨⟨(by decide +kernel), (by decide +kernel), (by decide +kernel)⟩, (by decide), xw_1171, xw_122, Or.inl ⟨rfl, _, _, _, _, (show decode cX10_payBy 83 = .ok (.invokevirtual 234, 3) by decide +kernel), xw_1168, xw_1169, xw_1170, rfl⟩⟩),
  List.forall_mem_cons.mpr ⟨(xOK_pure (xs_aload_n (k := 0) rfl (show decode cX10_payBy 86 = .ok (.aload_n 0, 1) by decide +kernel))),
  List.forall_mem_cons.mpr ⟨(xOK_pure (xs_getf xcl_10 (by decide) (show decode cX10_payBy 87 = .ok (.getfield 27, 3) by decide +kernel) xw_307)),
  List.forall_mem_cons.mpr ⟨(xOK_pure (xs_bipush (n := 100) (show decode cX10_payBy 90 = .ok (.bipush 100, 2) by decide +kernel) (by decide))),
  List.forall_mem_cons.mpr ⟨(xOK_pure (xs_aload_n (k := 2) rfl (show decode cX10_payBy 92 = .ok (.aload_n 2, 1) by decide +kernel))),
  List.forall_mem_cons.mpr ⟨(xOK_pure (xs_getf xcl_0 (by decide) (show decode cX10_payBy 93 = .ok (.getfield 380, 3) by decide +kernel) xw_773)),
  List.forall_mem_cons.mpr ⟨(xOK_pure (xs_bipush (n := 96) (show decode cX10_payBy 96 = .ok (.bipush 96, 2) by decide +kernel) (by decide))),
  List.forall_mem_cons.mpr ⟨(xOK_pure (xs_idiv (show decode cX10_payBy 98 = .ok (.idiv, 1) by decide +kernel))),
  List.forall_mem_cons.mpr ⟨(xcm mi_88 ⟨⟨(by decide +kernel), (by decide +kernel), (by decide +kernel)⟩, (by decide), xw_1171, xw_122, Or.inl ⟨rfl, _, _, _, _, (show decode cX10_payBy 99 = .ok (.invokevirtual 234, 3) by decide +kernel), xw_1168, xw_1169, xw_1170, rfl⟩⟩),
  List.forall_mem_cons.mpr ⟨(xOK_pure (xs_iconst (n := 0) (show decode cX10_payBy 102 = .ok (.iconst 0, 1) by decide +kernel) (by decide))),
  List.forall_mem_cons.mpr ⟨(xOK_pure (xs_aload_n (k := 0) rfl (show decode cX10_payBy 103 = .ok (.aload_n 0, 1) by decide +kernel))),
  List.forall_mem_cons.mpr ⟨(xOK_pure (xs_getf xcl_10 (by decide) (show decode cX10_payBy 104 = .ok (.getfield 27, 3) by decide +kernel) xw_307)),
  List.forall_mem_cons.mpr ⟨(xOK_pure (xs_iload_n (k := 1) rfl (show decode cX10_payBy 107 = .ok (.iload_n 1, 1) by decide +kernel))),
  List.forall_mem_cons.mpr ⟨(xOK_pure (xs_iconst (n := 0) (show decode cX10_payBy 108 = .ok (.iconst 0, 1) by decide +kernel) (by decide))),
  List.forall_mem_cons.mpr ⟨(xcm mi_89 ⟨⟨(by decide +kernel), (by decide +kernel), (by decide +kernel)⟩, (by decide), xw_1191, xw_122, Or.inl ⟨rfl, _, _, _, _, (show decode cX10_payBy 109 = .ok (.invokevirtual 261, 3) by decide +kernel), xw_1188, xw_1189, xw_1190, rfl⟩⟩),
  List.forall_mem_cons.mpr ⟨(xOK_pure (xs_mmax (show decode cX10_payBy 112 = .ok (.invokestatic 127, 3) by decide +kernel) xw_1130 xw_829 xw_127 xw_830)),
  List.forall_mem_cons.mpr ⟨(Or.inr (Or.inl ⟨rfl, (show decode cX10_payBy 115 = .ok (.ireturn, 1) by decide +kernel), rfl⟩)),
  (fun _ h => absurd h List.not_mem_nil)⟩⟩⟩⟩⟩⟩⟩⟩⟩⟩⟩⟩⟩⟩⟩⟩⟩⟩
def pX10_payBy (ev : xEv) : List (Nat × xEn) := pX10_payBy_0 ev ++ (pX10_payBy_1 ev ++ (pX10_payBy_2 ev))
theorem okpX10_payBy (ev : xEv) : ∀ q ∈ pX10_payBy ev, xEnOK ev xmi yX10_payBy.cls yX10_payBy.name cX10_payBy 4 (some .int) q := List.forall_mem_append.mpr ⟨okpX10_payBy_0 ev, List.forall_mem_append.mpr ⟨okpX10_payBy_1 ev, okpX10_payBy_2 ev⟩⟩
theorem omX10_payBy (ev : xEv) : xMethOK ev xmi yX10_payBy.cls yX10_payBy.name 122 (pX10_payBy ev) := xMethOK.of mi_122 (by decide +kernel) (okpX10_payBy ev)
def pX10_listWaiting_0 (ev : xEv) : List (Nat × xEn) := [(0, .inl (xop (xf_push (.int 0) 1))), (1, .inl (xop (xf_istore 2 1))), (2, .inl (xop (xf_push (.int 0) 1))), (3, .inl (xop (xf_istore 3 1))), (4, .inl (xop (xf_iload 3 1))), (5, .inl (xop (xf_aload 0 1))), (6, .inl (xop (xf_getf 10 12))), (9, .inl (xop (xf_icmp_ge 43))), (12, .inl (xop (xf_iload 2 1))), (13, .inl (xop (xf_aload 1 1))), (14, .inl (xop (xf_alen (ev.1 0)))), (15, .inl (xop (xf_icmp_ge 43))), (18, .inl (xop (xf_aload 0 1))), (19, .inl (xop (xf_getf 10 11))), (22, .inl (xop (xf_iload 3 1))), (23, .inl (xop (xf_aald (ev.1 8)))), (24, .inr (.inl (0, 11, 0, 1))), (27, .inl (xop (xf_if_eq 37))), (30, .inl (xop (xf_aload 1 1))), (31, .inl (xop (xf_iload 2 1)))]
set_option maxRecDepth 20000 in
theorem okpX10_listWaiting_0 (ev : xEv) : ∀ q ∈ pX10_listWaiting_0 ev, xEnOK ev xmi yX10_listWaiting.cls yX10_listWaiting.name cX10_listWaiting 4 (some .int) q :=
  List.forall_mem_cons.mpr ⟨(xOK_pure (xs_iconst (n := 0) (show decode cX10_listWaiting 0 = .ok (.iconst 0, 1) by decide +kernel) (by decide))),
  List.forall_mem_cons.mpr ⟨(xOK_pure (xs_istore_n (k := 2) rfl (show decode cX10_listWaiting 1 = .ok (.istore_n 2, 1) by decide +kernel) (by decide))),
  List.forall_mem_cons.mpr ⟨(xOK_pure (xs_iconst (n := 0) (show decode cX10_listWaiting 2 = .ok (.iconst 0, 1) by decide +kernel) (by decide))),
  List.forall_mem_cons.mpr ⟨(xOK_pure (xs_istore_n (k := 3) rfl (show decode cX10_listWaiting 3 = .ok (.istore_n 3, 1) by decide +kernel) (by decide))),
  List.forall_mem_cons.mpr ⟨(xOK_pure (xs_iload_n (k := 3) rfl (show decode cX10_listWaiting 4 = .ok (.iload_n 3, 1) by decide +kernel))),
  List.forall_mem_cons.mpr ⟨(xOK_pure (xs_aload_n (k := 0) rfl (show decode cX10_listWaiting 5 = .ok (.aload_n 0, 1) by decide +kernel))),
  List.forall_mem_cons.mpr ⟨(xOK_pure (xs_getf xcl_10 (by decide) (show decode cX10_listWaiting 6 = .ok (.getfield 93, 3) by decide +kernel) xw_326)),
  List.forall_mem_cons.mpr ⟨(xOK_pure (xs_icmp_ge (show decode cX10_listWaiting 9 = .ok (.if_icmp .ge 34, 3) by decide +kernel) (by decide))),
  List.forall_mem_cons.mpr ⟨(xOK_pure (xs_iload_n (k := 2) rfl (show decode cX10_listWaiting 12 = .ok (.iload_n 2, 1) by decide +kernel))),
  List.forall_mem_cons.mpr ⟨(xOK_pure (xs_aload_n (k := 1) rfl (show decode cX10_listWaiting 13 = .ok (.aload_n 1, 1) by decide +kernel))),
  List.forall_mem_cons.mpr ⟨(xOK_pure (xs_alen (t := 0) rfl (show decode cX10_listWaiting 14 = .ok (.arraylength, 1) by decide +kernel))),
  List.forall_mem_cons.mpr ⟨(xOK_pure (xs_icmp_ge (show decode cX10_listWaiting 15 = .ok (.if_icmp .ge 28, 3) by decide +kernel) (by decide))),
  List.forall_mem_cons.mpr ⟨(xOK_pure (xs_aload_n (k := 0) rfl (show decode cX10_listWaiting 18 = .ok (.aload_n 0, 1) by decide +kernel))),
  List.forall_mem_cons.mpr ⟨(xOK_pure (xs_getf xcl_10 (by decide) (show decode cX10_listWaiting 19 = .ok (.getfield 54, 3) by decide +kernel) xw_324)),
  List.forall_mem_cons.mpr ⟨(xOK_pure (xs_iload_n (k := 3) rfl (show decode cX10_listWaiting 22 = .ok (.iload_n 3, 1) by decide +kernel))),
  List.forall_mem_cons.mpr ⟨(xOK_pure (xs_aald (t := 8) rfl (show decode cX10_listWaiting 23 = .ok (.aaload, 1) by decide +kernel))),
  List.forall_mem_cons.mpr ⟨(xcm mi_11 ⟨⟨(by decide +kernel), (by decide +kernel), (by decide +kernel)⟩, (by decide), xw_1106, xw_141, Or.inl ⟨rfl, _, _, _, _, (show decode cX10_listWaiting 24 = .ok (.invokevirtual 96, 3) by decide +kernel), xw_1129, xw_1104, xw_1105, rfl⟩⟩),
  List.forall_mem_cons.mpr ⟨(xOK_pure (xs_if_eq (show decode cX10_listWaiting 27 = .ok (.ifCond .eq 10, 3) by decide +kernel) (by decide))),
  List.forall_mem_cons.mpr ⟨(xOK_pure (xs_aload_n (k := 1) rfl (show decode cX10_listWaiting 30 = .ok (.aload_n 1, 1) by decide +kernel))),
  List.forall_mem_cons.mpr ⟨(xOK_pure (xs_iload_n (k := 2) rfl (show decode cX10_listWaiting 31 = .ok (.iload_n 2, 1) by decide +kernel))),
  (fun _ h => absurd h List.not_mem_nil)⟩⟩⟩⟩⟩⟩⟩⟩⟩⟩⟩⟩⟩⟩⟩⟩⟩⟩⟩⟩
def pX10_listWaiting_1 (ev : xEv) : List (Nat × xEn) := [(32, .inl (xop (xf_iload 3 1))), (33, .inl (xo_ast (ev.1 0) (fun x => x))), (34, .inl (xop (xf_iinc 2 1))), (37, .inl (xop (xf_iinc 3 1))), (40, .inl (xop (xf_goto 4))), (43, .inl (xop (xf_iload 2 1))), (44, .inr (.inr 1))]
set_option maxRecDepth 20000 in
theorem okpX10_listWaiting_1 (ev : xEv) : ∀ q ∈ pX10_listWaiting_1 ev, xEnOK ev xmi yX10_listWaiting.cls yX10_listWaiting.name cX10_listWaiting 4 (some .int) q :=
  List.forall_mem_cons.mpr ⟨(xOK_pure (xs_iload_n (k := 3) rfl (show decode cX10_listWaiting 32 = .ok (.iload_n 3, 1) by decide +kernel))),
  List.forall_mem_cons.mpr ⟨(xs_iast (show decode cX10_listWaiting 33 = .ok (.iastore, 1) by decide +kernel)),
  List.forall_mem_cons.mpr ⟨(xOK_pure (xs_iinc (n := 1) (show decode cX10_listWaiting 34 = .ok (.iinc 2 1, 3) by decide +kernel) (by decide) (by decide))),
  List.forall_mem_cons.mpr ⟨(xOK_pure (xs_iinc (n := 1) (show decode cX10_listWaiting 37 = .ok (.iinc 3 1, 3) by decide +kernel) (by decide) (by decide))),
  List.forall_mem_cons.mpr ⟨(xOK_pure (xs_goto (show decode cX10_listWaiting 40 = .ok (.goto (-36), 3) by decide +kernel) (by decide))),
  List.forall_mem_cons.mpr ⟨(xOK_pure (xs_iload_n (k := 2) rfl (show decode cX10_listWaiting 43 = .ok (.iload_n 2, 1) by decide +kernel))),
  List.forall_mem_cons.mpr ⟨(Or.inr (Or.inl ⟨rfl, (show decode cX10_listWaiting 44 = .ok (.ireturn, 1) by decide +kernel), rfl⟩)),
  (fun _ h => absurd h List.not_mem_nil)⟩⟩⟩⟩⟩⟩⟩
def pX10_listWaiting (ev : xEv) : List (Nat × xEn) := pX10_listWaiting_0 ev ++ (pX10_listWaiting_1 ev)
theorem okpX10_listWaiting (ev : xEv) : ∀ q ∈ pX10_listWaiting ev, xEnOK ev xmi yX10_listWaiting.cls yX10_listWaiting.name cX10_listWaiting 4 (some .int) q := List.forall_mem_append.mpr ⟨okpX10_listWaiting_0 ev, okpX10_listWaiting_1 ev⟩
theorem omX10_listWaiting (ev : xEv) : xMethOK ev xmi yX10_listWaiting.cls yX10_listWaiting.name 123 (pX10_listWaiting ev) := xMethOK.of mi_123 (by decide +kernel) (okpX10_listWaiting ev)
def pX10_giveUpOthers_0 (ev : xEv) : List (Nat × xEn) := [(0, .inl (xop (xf_push (.int 0) 1))), (1, .inl (xop (xf_istore 4 2))), (3, .inl (xop (xf_iload 4 2))), (5, .inl (xop (xf_iload 2 1))), (6, .inl (xop (xf_icmp_ge 48))), (9, .inl (xop (xf_iload 4 2))), (11, .inl (xop (xf_aload 1 1))), (12, .inl (xop (xf_alen (ev.1 0)))), (13, .inl (xop (xf_icmp_ge 48))), (16, .inl (xop (xf_iload 3 1))), (17, .inl (xop (xf_iload 4 2))), (19, .inl (xop (xf_bin (fun x y => x >>> (y &&& 31))))), (20, .inl (xop (xf_push (.int 1) 1))), (21, .inl (xop (xf_bin (fun x y => x &&& y)))), (22, .inl (xop (xf_if_ne 42))), (25, .inl (xop (xf_aload 0 1))), (26, .inl (xop (xf_getf 10 11))), (29, .inl (xop (xf_aload 1 1))), (30, .inl (xop (xf_iload 4 2))), (32, .inl (xop (xf_ald (ev.1 0))))]
set_option maxRecDepth 20000 in
theorem okpX10_giveUpOthers_0 (ev : xEv) : ∀ q ∈ pX10_giveUpOthers_0 ev, xEnOK ev xmi yX10_giveUpOthers.cls yX10_giveUpOthers.name cX10_giveUpOthers 5 none q :=
  List.forall_mem_cons.mpr ⟨(xOK_pure (xs_iconst (n := 0) (show decode cX10_giveUpOthers 0 = .ok (.iconst 0, 1) by decide +kernel) (by decide))),
  List.forall_mem_cons.mpr ⟨(xOK_pure (xs_istore (show decode cX10_giveUpOthers 1 = .ok (.istore 4, 2) by decide +kernel) (by decide))),
  List.forall_mem_cons.mpr ⟨(xOK_pure (xs_iload (show decode cX10_giveUpOthers 3 = .ok (.iload 4, 2) by decide +kernel))),
  List.forall_mem_cons.mpr ⟨(xOK_pure (xs_iload_n (k := 2) rfl (show decode cX10_giveUpOthers 5 = .ok (.iload_n 2, 1) by decide +kernel))),
  List.forall_mem_cons.mpr ⟨(xOK_pure (xs_icmp_ge (show decode cX10_giveUpOthers 6 = .ok (.if_icmp .ge 42, 3) by decide +kernel) (by decide))),
  List.forall_mem_cons.mpr ⟨(xOK_pure (xs_iload (show decode cX10_giveUpOthers 9 = .ok (.iload 4, 2) by decide +kernel))),
  List.forall_mem_cons.mpr ⟨(xOK_pure (xs_aload_n (k := 1) rfl (show decode cX10_giveUpOthers 11 = .ok (.aload_n 1, 1) by decide +kernel))),
  List.forall_mem_cons.mpr ⟨(xOK_pure (xs_alen (t := 0) rfl (show decode cX10_giveUpOthers 12 = .ok (.arraylength, 1) by decide +kernel))),
  List.forall_mem_cons.mpr ⟨(xOK_pure (xs_icmp_ge (show decode cX10_giveUpOthers 13 = .ok (.if_icmp .ge 35, 3) by decide +kernel) (by decide))),
  List.forall_mem_cons.mpr ⟨(xOK_pure (xs_iload_n (k := 3) rfl (show decode cX10_giveUpOthers 16 = .ok (.iload_n 3, 1) by decide +kernel))),
  List.forall_mem_cons.mpr ⟨(xOK_pure (xs_iload (show decode cX10_giveUpOthers 17 = .ok (.iload 4, 2) by decide +kernel))),
  List.forall_mem_cons.mpr ⟨(xOK_pure (xs_ishr (show decode cX10_giveUpOthers 19 = .ok (.ishr, 1) by decide +kernel))),
  List.forall_mem_cons.mpr ⟨(xOK_pure (xs_iconst (n := 1) (show decode cX10_giveUpOthers 20 = .ok (.iconst 1, 1) by decide +kernel) (by decide))),
  List.forall_mem_cons.mpr ⟨(xOK_pure (xs_iand (show decode cX10_giveUpOthers 21 = .ok (.iand, 1) by decide +kernel))),
  List.forall_mem_cons.mpr ⟨(xOK_pure (xs_if_ne (show decode cX10_giveUpOthers 22 = .ok (.ifCond .ne 20, 3) by decide +kernel) (by decide))),
  List.forall_mem_cons.mpr ⟨(xOK_pure (xs_aload_n (k := 0) rfl (show decode cX10_giveUpOthers 25 = .ok (.aload_n 0, 1) by decide +kernel))),
  List.forall_mem_cons.mpr ⟨(xOK_pure (xs_getf xcl_10 (by decide) (show decode cX10_giveUpOthers 26 = .ok (.getfield 54, 3) by decide +kernel) xw_324)),
  List.forall_mem_cons.mpr ⟨(xOK_pure (xs_aload_n (k := 1) rfl (show decode cX10_giveUpOthers 29 = .ok (.aload_n 1, 1) by decide +kernel))),
  List.forall_mem_cons.mpr ⟨(xOK_pure (xs_iload (show decode cX10_giveUpOthers 30 = .ok (.iload 4, 2) by decide +kernel))),
  List.forall_mem_cons.mpr ⟨(xOK_pure (xs_iald (show decode cX10_giveUpOthers 32 = .ok (.iaload, 1) by decide +kernel))),
  (fun _ h => absurd h List.not_mem_nil)⟩⟩⟩⟩⟩⟩⟩⟩⟩⟩⟩⟩⟩⟩⟩⟩⟩⟩⟩⟩
def pX10_giveUpOthers_1 (ev : xEv) : List (Nat × xEn) := [(33, .inl (xop (xf_aald (ev.1 8)))), (34, .inl (xop (xf_push (.int 3) 1))), (35, .inl (xop (xf_aload 0 1))), (36, .inl (xop (xf_getf 10 13))), (39, .inr (.inl (0, 13, 2, 1))), (42, .inl (xop (xf_iinc 4 1))), (45, .inl (xop (xf_goto 3))), (48, .inr (.inr 0))]
set_option maxRecDepth 20000 in
theorem okpX10_giveUpOthers_1 (ev : xEv) : ∀ q ∈ pX10_giveUpOthers_1 ev, xEnOK ev xmi yX10_giveUpOthers.cls yX10_giveUpOthers.name cX10_giveUpOthers 5 none q :=
  List.forall_mem_cons.mpr ⟨(xOK_pure (xs_aald (t := 8) rfl (show decode cX10_giveUpOthers 33 = .ok (.aaload, 1) by decide +kernel))),
  List.forall_mem_cons.mpr ⟨(xOK_pure (xs_iconst (n := 3) (show decode cX10_giveUpOthers 34 = .ok (.iconst 3, 1) by decide +kernel) (by decide))),
  List.forall_mem_cons.mpr ⟨(xOK_pure (xs_aload_n (k := 0) rfl (show decode cX10_giveUpOthers 35 = .ok (.aload_n 0, 1) by decide +kernel))),
  List.forall_mem_cons.mpr ⟨(xOK_pure (xs_getf xcl_10 (by decide) (show decode cX10_giveUpOthers 36 = .ok (.getfield 69, 3) by decide +kernel) xw_328)),
  List.forall_mem_cons.mpr ⟨(xcm mi_13 ⟨⟨(by decide +kernel), (by decide +kernel), (by decide +kernel)⟩, (by decide), xw_1110, xw_141, Or.inl ⟨rfl, _, _, _, _, (show decode cX10_giveUpOthers 39 = .ok (.invokevirtual 142, 3) by decide +kernel), xw_1143, xw_1108, xw_1109, rfl⟩⟩),
  List.forall_mem_cons.mpr ⟨(xOK_pure (xs_iinc (n := 1) (show decode cX10_giveUpOthers 42 = .ok (.iinc 4 1, 3) by decide +kernel) (by decide) (by decide))),
  List.forall_mem_cons.mpr ⟨(xOK_pure (xs_goto (show decode cX10_giveUpOthers 45 = .ok (.goto (-42), 3) by decide +kernel) (by decide))),
  List.forall_mem_cons.mpr ⟨(Or.inl ⟨rfl, (show decode cX10_giveUpOthers 48 = .ok (.return_, 1) by decide +kernel), rfl⟩),
  (fun _ h => absurd h List.not_mem_nil)⟩⟩⟩⟩⟩⟩⟩⟩
def pX10_giveUpOthers (ev : xEv) : List (Nat × xEn) := pX10_giveUpOthers_0 ev ++ (pX10_giveUpOthers_1 ev)
theorem okpX10_giveUpOthers (ev : xEv) : ∀ q ∈ pX10_giveUpOthers ev, xEnOK ev xmi yX10_giveUpOthers.cls yX10_giveUpOthers.name cX10_giveUpOthers 5 none q := List.forall_mem_append.mpr ⟨okpX10_giveUpOthers_0 ev, okpX10_giveUpOthers_1 ev⟩
theorem omX10_giveUpOthers (ev : xEv) : xMethOK ev xmi yX10_giveUpOthers.cls yX10_giveUpOthers.name 124 (pX10_giveUpOthers ev) := xMethOK.of mi_124 (by decide +kernel) (okpX10_giveUpOthers ev)
def pX10_keep_0 (ev : xEv) : List (Nat × xEn) := [(0, .inl (xop (xf_aload 0 1))), (1, .inl (xop (xf_aload 0 1))), (2, .inl (xop (xf_getf 10 13))), (5, .inl (xo_putf 10 17 .int)), (8, .inl (xop (xf_aload 0 1))), (9, .inl (xop (xf_aload 0 1))), (10, .inl (xop (xf_getf 10 14))), (13, .inl (xo_putf 10 18 .int)), (16, .inl (xop (xf_aload 0 1))), (17, .inl (xop (xf_aload 0 1))), (18, .inl (xop (xf_getf 10 1))), (21, .inl (xop (xf_getf 9 1))), (24, .inl (xo_putf 10 19 .int)), (27, .inl (xop (xf_push (.int 0) 1))), (28, .inl (xop (xf_istore 1 1))), (29, .inl (xop (xf_iload 1 1))), (30, .inl (xop (xf_aload 0 1))), (31, .inl (xop (xf_getf 10 5))), (34, .inl (xop (xf_icmp_ge 52))), (37, .inl (xop (xf_aload 0 1)))]
set_option maxRecDepth 20000 in
theorem okpX10_keep_0 (ev : xEv) : ∀ q ∈ pX10_keep_0 ev, xEnOK ev xmi yX10_keep.cls yX10_keep.name cX10_keep 2 none q :=
  List.forall_mem_cons.mpr ⟨(xOK_pure (xs_aload_n (k := 0) rfl (show decode cX10_keep 0 = .ok (.aload_n 0, 1) by decide +kernel))),
  List.forall_mem_cons.mpr ⟨(xOK_pure (xs_aload_n (k := 0) rfl (show decode cX10_keep 1 = .ok (.aload_n 0, 1) by decide +kernel))),
  List.forall_mem_cons.mpr ⟨(xOK_pure (xs_getf xcl_10 (by decide) (show decode cX10_keep 2 = .ok (.getfield 69, 3) by decide +kernel) xw_328)),
  List.forall_mem_cons.mpr ⟨(xs_putf (k := 17) xcl_10 (by decide) rfl (show decode cX10_keep 5 = .ok (.putfield 399, 3) by decide +kernel) xw_337),
  List.forall_mem_cons.mpr ⟨(xOK_pure (xs_aload_n (k := 0) rfl (show decode cX10_keep 8 = .ok (.aload_n 0, 1) by decide +kernel))),
  List.forall_mem_cons.mpr ⟨(xOK_pure (xs_aload_n (k := 0) rfl (show decode cX10_keep 9 = .ok (.aload_n 0, 1) by decide +kernel))),
  List.forall_mem_cons.mpr ⟨(xOK_pure (xs_getf xcl_10 (by decide) (show decode cX10_keep 10 = .ok (.getfield 305, 3) by decide +kernel) xw_331)),
  List.forall_mem_cons.mpr ⟨(xs_putf (k := 18) xcl_10 (by decide) rfl (show decode cX10_keep 13 = .ok (.putfield 402, 3) by decide +kernel) xw_338),
  List.forall_mem_cons.mpr ⟨(xOK_pure (xs_aload_n (k := 0) rfl (show decode cX10_keep 16 = .ok (.aload_n 0, 1) by decide +kernel))),
  List.forall_mem_cons.mpr ⟨(xOK_pure (xs_aload_n (k := 0) rfl (show decode cX10_keep 17 = .ok (.aload_n 0, 1) by decide +kernel))),
  List.forall_mem_cons.mpr ⟨(xOK_pure (xs_getf xcl_10 (by decide) (show decode cX10_keep 18 = .ok (.getfield 12, 3) by decide +kernel) xw_303)),
  List.forall_mem_cons.mpr ⟨(xOK_pure (xs_getf xcl_9 (by decide) (show decode cX10_keep 21 = .ok (.getfield 405, 3) by decide +kernel) xw_227)),
  List.forall_mem_cons.mpr ⟨(xs_putf (k := 19) xcl_10 (by decide) rfl (show decode cX10_keep 24 = .ok (.putfield 408, 3) by decide +kernel) xw_339),
  List.forall_mem_cons.mpr ⟨(xOK_pure (xs_iconst (n := 0) (show decode cX10_keep 27 = .ok (.iconst 0, 1) by decide +kernel) (by decide))),
  List.forall_mem_cons.mpr ⟨(xOK_pure (xs_istore_n (k := 1) rfl (show decode cX10_keep 28 = .ok (.istore_n 1, 1) by decide +kernel) (by decide))),
  List.forall_mem_cons.mpr ⟨(xOK_pure (xs_iload_n (k := 1) rfl (show decode cX10_keep 29 = .ok (.iload_n 1, 1) by decide +kernel))),
  List.forall_mem_cons.mpr ⟨(xOK_pure (xs_aload_n (k := 0) rfl (show decode cX10_keep 30 = .ok (.aload_n 0, 1) by decide +kernel))),
  List.forall_mem_cons.mpr ⟨(xOK_pure (xs_getf xcl_10 (by decide) (show decode cX10_keep 31 = .ok (.getfield 106, 3) by decide +kernel) xw_313)),
  List.forall_mem_cons.mpr ⟨(xOK_pure (xs_icmp_ge (show decode cX10_keep 34 = .ok (.if_icmp .ge 18, 3) by decide +kernel) (by decide))),
  List.forall_mem_cons.mpr ⟨(xOK_pure (xs_aload_n (k := 0) rfl (show decode cX10_keep 37 = .ok (.aload_n 0, 1) by decide +kernel))),
  (fun _ h => absurd h List.not_mem_nil)⟩⟩⟩⟩⟩⟩⟩⟩⟩⟩⟩⟩⟩⟩⟩⟩⟩⟩⟩⟩
def pX10_keep_1 (ev : xEv) : List (Nat × xEn) := [(38, .inl (xop (xf_getf 10 4))), (41, .inl (xop (xf_iload 1 1))), (42, .inl (xop (xf_aald (ev.1 5)))), (43, .inr (.inl (0, 74, 0, 6))), (46, .inl (xop (xf_iinc 1 1))), (49, .inl (xop (xf_goto 29))), (52, .inl (xop (xf_push (.int 0) 1))), (53, .inl (xop (xf_istore 1 1))), (54, .inl (xop (xf_iload 1 1))), (55, .inl (xop (xf_aload 0 1))), (56, .inl (xop (xf_getf 10 7))), (59, .inl (xop (xf_icmp_ge 77))), (62, .inl (xop (xf_aload 0 1))), (63, .inl (xop (xf_getf 10 6))), (66, .inl (xop (xf_iload 1 1))), (67, .inl (xop (xf_aald (ev.1 6)))), (68, .inr (.inl (0, 65, 0, 5))), (71, .inl (xop (xf_iinc 1 1))), (74, .inl (xop (xf_goto 54))), (77, .inl (xop (xf_push (.int 0) 1)))]
set_option maxRecDepth 20000 in
theorem okpX10_keep_1 (ev : xEv) : ∀ q ∈ pX10_keep_1 ev, xEnOK ev xmi yX10_keep.cls yX10_keep.name cX10_keep 2 none q :=
  List.forall_mem_cons.mpr ⟨(xOK_pure (xs_getf xcl_10 (by decide) (show decode cX10_keep 38 = .ok (.getfield 32, 3) by decide +kernel) xw_309)),
  List.forall_mem_cons.mpr ⟨(xOK_pure (xs_iload_n (k := 1) rfl (show decode cX10_keep 41 = .ok (.iload_n 1, 1) by decide +kernel))),
  List.forall_mem_cons.mpr ⟨(xOK_pure (xs_aald (t := 5) rfl (show decode cX10_keep 42 = .ok (.aaload, 1) by decide +kernel))),
  List.forall_mem_cons.mpr ⟨(xcm mi_74 ⟨⟨(by decide +kernel), (by decide +kernel), (by decide +kernel)⟩, (by decide), xw_1479, xw_132, Or.inl ⟨rfl, _, _, _, _, (show decode cX10_keep 43 = .ok (.invokevirtual 411, 3) by decide +kernel), xw_1476, xw_1477, xw_1478, rfl⟩⟩),
  List.forall_mem_cons.mpr ⟨(xOK_pure (xs_iinc (n := 1) (show decode cX10_keep 46 = .ok (.iinc 1 1, 3) by decide +kernel) (by decide) (by decide))),
  List.forall_mem_cons.mpr ⟨(xOK_pure (xs_goto (show decode cX10_keep 49 = .ok (.goto (-20), 3) by decide +kernel) (by decide))),
  List.forall_mem_cons.mpr ⟨(xOK_pure (xs_iconst (n := 0) (show decode cX10_keep 52 = .ok (.iconst 0, 1) by decide +kernel) (by decide))),
  List.forall_mem_cons.mpr ⟨(xOK_pure (xs_istore_n (k := 1) rfl (show decode cX10_keep 53 = .ok (.istore_n 1, 1) by decide +kernel) (by decide))),
  List.forall_mem_cons.mpr ⟨(xOK_pure (xs_iload_n (k := 1) rfl (show decode cX10_keep 54 = .ok (.iload_n 1, 1) by decide +kernel))),
  List.forall_mem_cons.mpr ⟨(xOK_pure (xs_aload_n (k := 0) rfl (show decode cX10_keep 55 = .ok (.aload_n 0, 1) by decide +kernel))),
  List.forall_mem_cons.mpr ⟨(xOK_pure (xs_getf xcl_10 (by decide) (show decode cX10_keep 56 = .ok (.getfield 130, 3) by decide +kernel) xw_317)),
  List.forall_mem_cons.mpr ⟨(xOK_pure (xs_icmp_ge (show decode cX10_keep 59 = .ok (.if_icmp .ge 18, 3) by decide +kernel) (by decide))),
  List.forall_mem_cons.mpr ⟨(xOK_pure (xs_aload_n (k := 0) rfl (show decode cX10_keep 62 = .ok (.aload_n 0, 1) by decide +kernel))),
  List.forall_mem_cons.mpr ⟨(xOK_pure (xs_getf xcl_10 (by decide) (show decode cX10_keep 63 = .ok (.getfield 38, 3) by decide +kernel) xw_315)),
  List.forall_mem_cons.mpr ⟨(xOK_pure (xs_iload_n (k := 1) rfl (show decode cX10_keep 66 = .ok (.iload_n 1, 1) by decide +kernel))),
  List.forall_mem_cons.mpr ⟨(xOK_pure (xs_aald (t := 6) rfl (show decode cX10_keep 67 = .ok (.aaload, 1) by decide +kernel))),
  List.forall_mem_cons.mpr ⟨(xcm mi_65 ⟨⟨(by decide +kernel), (by decide +kernel), (by decide +kernel)⟩, (by decide), xw_1488, xw_133, Or.inl ⟨rfl, _, _, _, _, (show decode cX10_keep 68 = .ok (.invokevirtual 414, 3) by decide +kernel), xw_1485, xw_1486, xw_1487, rfl⟩⟩),
  List.forall_mem_cons.mpr ⟨(xOK_pure (xs_iinc (n := 1) (show decode cX10_keep 71 = .ok (.iinc 1 1, 3) by decide +kernel) (by decide) (by decide))),
  List.forall_mem_cons.mpr ⟨(xOK_pure (xs_goto (show decode cX10_keep 74 = .ok (.goto (-20), 3) by decide +kernel) (by decide))),
  List.forall_mem_cons.mpr ⟨(xOK_pure (xs_iconst (n := 0) (show decode cX10_keep 77 = .ok (.iconst 0, 1) by decide +kernel) (by decide))),
  (fun _ h => absurd h List.not_mem_nil)⟩⟩⟩⟩⟩⟩⟩⟩⟩⟩⟩⟩⟩⟩⟩⟩⟩⟩⟩⟩
def pX10_keep_2 (ev : xEv) : List (Nat × xEn) := [(78, .inl (xop (xf_istore 1 1))), (79, .inl (xop (xf_iload 1 1))), (80, .inl (xop (xf_aload 0 1))), (81, .inl (xop (xf_getf 10 9))), (84, .inl (xop (xf_icmp_ge 102))), (87, .inl (xop (xf_aload 0 1))), (88, .inl (xop (xf_getf 10 8))), (91, .inl (xop (xf_iload 1 1))), (92, .inl (xop (xf_aald (ev.1 7)))), (93, .inr (.inl (0, 7, 0, 0))), (96, .inl (xop (xf_iinc 1 1))), (99, .inl (xop (xf_goto 79))), (102, .inl (xop (xf_push (.int 0) 1))), (103, .inl (xop (xf_istore 1 1))), (104, .inl (xop (xf_iload 1 1))), (105, .inl (xop (xf_aload 0 1))), (106, .inl (xop (xf_getf 10 12))), (109, .inl (xop (xf_icmp_ge 127))), (112, .inl (xop (xf_aload 0 1))), (113, .inl (xop (xf_getf 10 11)))]
set_option maxRecDepth 20000 in
theorem okpX10_keep_2 (ev : xEv) : ∀ q ∈ pX10_keep_2 ev, xEnOK ev xmi yX10_keep.cls yX10_keep.name cX10_keep 2 none q :=
  List.forall_mem_cons.mpr ⟨(xOK_pure (xs_istore_n (k := 1) rfl (show decode cX10_keep 78 = .ok (.istore_n 1, 1) by decide +kernel) (by decide))),
  List.forall_mem_cons.mpr ⟨(xOK_pure (xs_iload_n (k := 1) rfl (show decode cX10_keep 79 = .ok (.iload_n 1, 1) by decide +kernel))),
  List.forall_mem_cons.mpr ⟨(xOK_pure (xs_aload_n (k := 0) rfl (show decode cX10_keep 80 = .ok (.aload_n 0, 1) by decide +kernel))),
  List.forall_mem_cons.mpr ⟨(xOK_pure (xs_getf xcl_10 (by decide) (show decode cX10_keep 81 = .ok (.getfield 79, 3) by decide +kernel) xw_321)),
  List.forall_mem_cons.mpr ⟨(xOK_pure (xs_icmp_ge (show decode cX10_keep 84 = .ok (.if_icmp .ge 18, 3) by decide +kernel) (by decide))),
  List.forall_mem_cons.mpr ⟨(xOK_pure (xs_aload_n (k := 0) rfl (show decode cX10_keep 87 = .ok (.aload_n 0, 1) by decide +kernel))),
  List.forall_mem_cons.mpr ⟨(xOK_pure (xs_getf xcl_10 (by decide) (show decode cX10_keep 88 = .ok (.getfield 44, 3) by decide +kernel) xw_319)),
  List.forall_mem_cons.mpr ⟨(xOK_pure (xs_iload_n (k := 1) rfl (show decode cX10_keep 91 = .ok (.iload_n 1, 1) by decide +kernel))),
  List.forall_mem_cons.mpr ⟨(xOK_pure (xs_aald (t := 7) rfl (show decode cX10_keep 92 = .ok (.aaload, 1) by decide +kernel))),
  List.forall_mem_cons.mpr ⟨(xcm mi_7 ⟨⟨(by decide +kernel), (by decide +kernel), (by decide +kernel)⟩, (by decide), xw_1497, xw_134, Or.inl ⟨rfl, _, _, _, _, (show decode cX10_keep 93 = .ok (.invokevirtual 415, 3) by decide +kernel), xw_1494, xw_1495, xw_1496, rfl⟩⟩),
  List.forall_mem_cons.mpr ⟨(xOK_pure (xs_iinc (n := 1) (show decode cX10_keep 96 = .ok (.iinc 1 1, 3) by decide +kernel) (by decide) (by decide))),
  List.forall_mem_cons.mpr ⟨(xOK_pure (xs_goto (show decode cX10_keep 99 = .ok (.goto (-20), 3) by decide +kernel) (by decide))),
  List.forall_mem_cons.mpr ⟨(xOK_pure (xs_iconst (n := 0) (show decode cX10_keep 102 = .ok (.iconst 0, 1) by decide +kernel) (by decide))),
  List.forall_mem_cons.mpr ⟨(xOK_pure (xs_istore_n (k := 1) rfl (show decode cX10_keep 103 = .ok (.istore_n 1, 1) by decide +kernel) (by decide))),
  List.forall_mem_cons.mpr ⟨(xOK_pure (xs_iload_n (k := 1) rfl (show decode cX10_keep 104 = .ok (.iload_n 1, 1) by decide +kernel))),
  List.forall_mem_cons.mpr ⟨(xOK_pure (xs_aload_n (k := 0) rfl (show decode cX10_keep 105 = .ok (.aload_n 0, 1) by decide +kernel))),
  List.forall_mem_cons.mpr ⟨(xOK_pure (xs_getf xcl_10 (by decide) (show decode cX10_keep 106 = .ok (.getfield 93, 3) by decide +kernel) xw_326)),
  List.forall_mem_cons.mpr ⟨(xOK_pure (xs_icmp_ge (show decode cX10_keep 109 = .ok (.if_icmp .ge 18, 3) by decide +kernel) (by decide))),
  List.forall_mem_cons.mpr ⟨(xOK_pure (xs_aload_n (k := 0) rfl (show decode cX10_keep 112 = .ok (.aload_n 0, 1) by decide +kernel))),
  List.forall_mem_cons.mpr ⟨(xOK_pure (xs_getf xcl_10 (by decide) (show decode cX10_keep 113 = .ok (.getfield 54, 3) by decide +kernel) xw_324)),
  (fun _ h => absurd h List.not_mem_nil)⟩⟩⟩⟩⟩⟩⟩⟩⟩⟩⟩⟩⟩⟩⟩⟩⟩⟩⟩⟩
def pX10_keep_3 (ev : xEv) : List (Nat × xEn) := [(116, .inl (xop (xf_iload 1 1))), (117, .inl (xop (xf_aald (ev.1 8)))), (118, .inr (.inl (0, 14, 0, 1))), (121, .inl (xop (xf_iinc 1 1))), (124, .inl (xop (xf_goto 104))), (127, .inr (.inr 0))]
set_option maxRecDepth 20000 in
theorem okpX10_keep_3 (ev : xEv) : ∀ q ∈ pX10_keep_3 ev, xEnOK ev xmi yX10_keep.cls yX10_keep.name cX10_keep 2 none q :=
  List.forall_mem_cons.mpr ⟨(xOK_pure (xs_iload_n (k := 1) rfl (show decode cX10_keep 116 = .ok (.iload_n 1, 1) by decide +kernel))),
  List.forall_mem_cons.mpr ⟨(xOK_pure (xs_aald (t := 8) rfl (show decode cX10_keep 117 = .ok (.aaload, 1) by decide +kernel))),
  List.forall_mem_cons.mpr ⟨(xcm mi_14 ⟨⟨(by decide +kernel), (by decide +kernel), (by decide +kernel)⟩, (by decide), xw_1506, xw_141, Or.inl ⟨rfl, _, _, _, _, (show decode cX10_keep 118 = .ok (.invokevirtual 416, 3) by decide +kernel), xw_1503, xw_1504, xw_1505, rfl⟩⟩),
  List.forall_mem_cons.mpr ⟨(xOK_pure (xs_iinc (n := 1) (show decode cX10_keep 121 = .ok (.iinc 1 1, 3) by decide +kernel) (by decide) (by decide))),
  List.forall_mem_cons.mpr ⟨(xOK_pure (xs_goto (show decode cX10_keep 124 = .ok (.goto (-20), 3) by decide +kernel) (by decide))),
  List.forall_mem_cons.mpr ⟨(Or.inl ⟨rfl, (show decode cX10_keep 127 = .ok (.return_, 1) by decide +kernel), rfl⟩),
  (fun _ h => absurd h List.not_mem_nil)⟩⟩⟩⟩⟩⟩
def pX10_keep (ev : xEv) : List (Nat × xEn) := pX10_keep_0 ev ++ (pX10_keep_1 ev ++ (pX10_keep_2 ev ++ (pX10_keep_3 ev)))
theorem okpX10_keep (ev : xEv) : ∀ q ∈ pX10_keep ev, xEnOK ev xmi yX10_keep.cls yX10_keep.name cX10_keep 2 none q := List.forall_mem_append.mpr ⟨okpX10_keep_0 ev, List.forall_mem_append.mpr ⟨okpX10_keep_1 ev, List.forall_mem_append.mpr ⟨okpX10_keep_2 ev, okpX10_keep_3 ev⟩⟩⟩
theorem omX10_keep (ev : xEv) : xMethOK ev xmi yX10_keep.cls yX10_keep.name 125 (pX10_keep ev) := xMethOK.of mi_125 (by decide +kernel) (okpX10_keep ev)
