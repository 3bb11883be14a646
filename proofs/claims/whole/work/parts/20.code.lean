def pX12_forced_0 (ev : xEv) : List (Nat × xEn) := [(0, .inl (xop (xf_aload 0 1))), (1, .inl (xop (xf_iload 1 1))), (2, .inl (xop (xf_push (.int 1) 1))), (3, .inr (.inl (0, 195, 2, 12))), (6, .inl (xop (xf_istore 2 1))), (7, .inl (xop (xf_aload 0 1))), (8, .inl (xop (xf_iload 1 1))), (9, .inl (xop (xf_push (.int 2) 1))), (10, .inr (.inl (0, 195, 2, 12))), (13, .inl (xop (xf_istore 3 1))), (14, .inl (xop (xf_push (.int (-1)) 1))), (15, .inl (xop (xf_istore 4 2))), (17, .inl (xop (xf_push (.int 0) 1))), (18, .inl (xop (xf_istore 5 2))), (20, .inl (xop (xf_iload 5 2))), (22, .inl (xop (xf_aload 0 1))), (23, .inl (xop (xf_getf 12 8))), (26, .inl (xop (xf_iload 2 1))), (27, .inl (xop (xf_ald (ev.1 0)))), (28, .inl (xop (xf_icmp_ge 177)))]
set_option maxRecDepth 20000 in
theorem okpX12_forced_0 (ev : xEv) : ∀ q ∈ pX12_forced_0 ev, xEnOK ev xmi yX12_forced.cls yX12_forced.name cX12_forced 10 none q :=
  List.forall_mem_cons.mpr ⟨(xOK_pure (xs_aload_n (k := 0) rfl (show decode cX12_forced 0 = .ok (.aload_n 0, 1) by decide +kernel))),
  List.forall_mem_cons.mpr ⟨(xOK_pure (xs_iload_n (k := 1) rfl (show decode cX12_forced 1 = .ok (.iload_n 1, 1) by decide +kernel))),
  List.forall_mem_cons.mpr ⟨(xOK_pure (xs_iconst (n := 1) (show decode cX12_forced 2 = .ok (.iconst 1, 1) by decide +kernel) (by decide))),
  List.forall_mem_cons.mpr ⟨(xcm mi_195 ⟨⟨(by decide +kernel), (by decide +kernel), (by decide +kernel)⟩, (by decide), xw_2161, xw_125, Or.inl ⟨rfl, _, _, _, _, (show decode cX12_forced 3 = .ok (.invokevirtual 344, 3) by decide +kernel), xw_2158, xw_2160, xw_89, rfl⟩⟩),
  List.forall_mem_cons.mpr ⟨(xOK_pure (xs_istore_n (k := 2) rfl (show decode cX12_forced 6 = .ok (.istore_n 2, 1) by decide +kernel) (by decide))),
  List.forall_mem_cons.mpr ⟨(xOK_pure (xs_aload_n (k := 0) rfl (show decode cX12_forced 7 = .ok (.aload_n 0, 1) by decide +kernel))),
  List.forall_mem_cons.mpr ⟨(xOK_pure (xs_iload_n (k := 1) rfl (show decode cX12_forced 8 = .ok (.iload_n 1, 1) by decide +kernel))),
  List.forall_mem_cons.mpr ⟨(xOK_pure (xs_iconst (n := 2) (show decode cX12_forced 9 = .ok (.iconst 2, 1) by decide +kernel) (by decide))),
  List.forall_mem_cons.mpr ⟨(xcm mi_195 ⟨⟨(by decide +kernel), (by decide +kernel), (by decide +kernel)⟩, (by decide), xw_2161, xw_125, Or.inl ⟨rfl, _, _, _, _, (show decode cX12_forced 10 = .ok (.invokevirtual 344, 3) by decide +kernel), xw_2158, xw_2160, xw_89, rfl⟩⟩),
  List.forall_mem_cons.mpr ⟨(xOK_pure (xs_istore_n (k := 3) rfl (show decode cX12_forced 13 = .ok (.istore_n 3, 1) by decide +kernel) (by decide))),
  List.forall_mem_cons.mpr ⟨(xOK_pure (xs_iconst (n := (-1)) (show decode cX12_forced 14 = .ok (.iconst (-1), 1) by decide +kernel) (by decide))),
  List.forall_mem_cons.mpr ⟨(xOK_pure (xs_istore (show decode cX12_forced 15 = .ok (.istore 4, 2) by decide +kernel) (by decide))),
  List.forall_mem_cons.mpr ⟨(xOK_pure (xs_iconst (n := 0) (show decode cX12_forced 17 = .ok (.iconst 0, 1) by decide +kernel) (by decide))),
  List.forall_mem_cons.mpr ⟨(xOK_pure (xs_istore (show decode cX12_forced 18 = .ok (.istore 5, 2) by decide +kernel) (by decide))),
  List.forall_mem_cons.mpr ⟨(xOK_pure (xs_iload (show decode cX12_forced 20 = .ok (.iload 5, 2) by decide +kernel))),
  List.forall_mem_cons.mpr ⟨(xOK_pure (xs_aload_n (k := 0) rfl (show decode cX12_forced 22 = .ok (.aload_n 0, 1) by decide +kernel))),
  List.forall_mem_cons.mpr ⟨(xOK_pure (xs_getf xcl_12 (by decide) (show decode cX12_forced 23 = .ok (.getfield 31, 3) by decide +kernel) xw_1717)),
  List.forall_mem_cons.mpr ⟨(xOK_pure (xs_iload_n (k := 2) rfl (show decode cX12_forced 26 = .ok (.iload_n 2, 1) by decide +kernel))),
  List.forall_mem_cons.mpr ⟨(xOK_pure (xs_iald (show decode cX12_forced 27 = .ok (.iaload, 1) by decide +kernel))),
  List.forall_mem_cons.mpr ⟨(xOK_pure (xs_icmp_ge (show decode cX12_forced 28 = .ok (.if_icmp .ge 149, 3) by decide +kernel) (by decide))),
  (fun _ h => absurd h List.not_mem_nil)⟩⟩⟩⟩⟩⟩⟩⟩⟩⟩⟩⟩⟩⟩⟩⟩⟩⟩⟩⟩
def pX12_forced_1 (ev : xEv) : List (Nat × xEn) := [(31, .inl (xop (xf_push (.int 4) 1))), (32, .inl (xop (xf_iload 2 1))), (33, .inl (xop (xf_bin (fun x y => x * y)))), (34, .inl (xop (xf_iload 5 2))), (36, .inl (xop (xf_bin (fun x y => x + y)))), (37, .inl (xop (xf_istore 6 2))), (39, .inl (xop (xf_aload 0 1))), (40, .inl (xop (xf_getf 12 6))), (43, .inl (xop (xf_iload 6 2))), (45, .inl (xop (xf_ald (ev.1 0)))), (46, .inl (xop (xf_iload 3 1))), (47, .inl (xop (xf_bin (fun x y => x - y)))), (48, .inl (xop (xf_m1 (fun x => if 0 ≤ x then x else 0 - x)))), (51, .inl (xop (xf_istore 7 2))), (53, .inl (xop (xf_iload 7 2))), (55, .inl (xop (xf_aload 0 1))), (56, .inl (xop (xf_getf 12 35))), (59, .inl (xop (xf_icmp_le 65))), (62, .inl (xop (xf_goto 171))), (65, .inl (xop (xf_iload 4 2)))]
set_option maxRecDepth 20000 in
theorem okpX12_forced_1 (ev : xEv) : ∀ q ∈ pX12_forced_1 ev, xEnOK ev xmi yX12_forced.cls yX12_forced.name cX12_forced 10 none q :=
  List.forall_mem_cons.mpr ⟨(xOK_pure (xs_iconst (n := 4) (show decode cX12_forced 31 = .ok (.iconst 4, 1) by decide +kernel) (by decide))),
  List.forall_mem_cons.mpr ⟨(xOK_pure (xs_iload_n (k := 2) rfl (show decode cX12_forced 32 = .ok (.iload_n 2, 1) by decide +kernel))),
  List.forall_mem_cons.mpr ⟨(xOK_pure (xs_imul (show decode cX12_forced 33 = .ok (.imul, 1) by decide +kernel))),
  List.forall_mem_cons.mpr ⟨(xOK_pure (xs_iload (show decode cX12_forced 34 = .ok (.iload 5, 2) by decide +kernel))),
  List.forall_mem_cons.mpr ⟨(xOK_pure (xs_iadd (show decode cX12_forced 36 = .ok (.iadd, 1) by decide +kernel))),
  List.forall_mem_cons.mpr ⟨(xOK_pure (xs_istore (show decode cX12_forced 37 = .ok (.istore 6, 2) by decide +kernel) (by decide))),
  List.forall_mem_cons.mpr ⟨(xOK_pure (xs_aload_n (k := 0) rfl (show decode cX12_forced 39 = .ok (.aload_n 0, 1) by decide +kernel))),
  List.forall_mem_cons.mpr ⟨(xOK_pure (xs_getf xcl_12 (by decide) (show decode cX12_forced 40 = .ok (.getfield 25, 3) by decide +kernel) xw_1715)),
  List.forall_mem_cons.mpr ⟨(xOK_pure (xs_iload (show decode cX12_forced 43 = .ok (.iload 6, 2) by decide +kernel))),
  List.forall_mem_cons.mpr ⟨(xOK_pure (xs_iald (show decode cX12_forced 45 = .ok (.iaload, 1) by decide +kernel))),
  List.forall_mem_cons.mpr ⟨(xOK_pure (xs_iload_n (k := 3) rfl (show decode cX12_forced 46 = .ok (.iload_n 3, 1) by decide +kernel))),
  List.forall_mem_cons.mpr ⟨(xOK_pure (xs_isub (show decode cX12_forced 47 = .ok (.isub, 1) by decide +kernel))),
  List.forall_mem_cons.mpr ⟨(xOK_pure (xs_mabs (show decode cX12_forced 48 = .ok (.invokestatic 363, 3) by decide +kernel) xw_2201 xw_1238 xw_127 xw_1239)),
  List.forall_mem_cons.mpr ⟨(xOK_pure (xs_istore (show decode cX12_forced 51 = .ok (.istore 7, 2) by decide +kernel) (by decide))),
  List.forall_mem_cons.mpr ⟨(xOK_pure (xs_iload (show decode cX12_forced 53 = .ok (.iload 7, 2) by decide +kernel))),
  List.forall_mem_cons.mpr ⟨(xOK_pure (xs_aload_n (k := 0) rfl (show decode cX12_forced 55 = .ok (.aload_n 0, 1) by decide +kernel))),
  List.forall_mem_cons.mpr ⟨(xOK_pure (xs_getf xcl_12 (by decide) (show decode cX12_forced 56 = .ok (.getfield 96, 3) by decide +kernel) xw_1744)),
  List.forall_mem_cons.mpr ⟨(xOK_pure (xs_icmp_le (show decode cX12_forced 59 = .ok (.if_icmp .le 6, 3) by decide +kernel) (by decide))),
  List.forall_mem_cons.mpr ⟨(xOK_pure (xs_goto (show decode cX12_forced 62 = .ok (.goto 109, 3) by decide +kernel) (by decide))),
  List.forall_mem_cons.mpr ⟨(xOK_pure (xs_iload (show decode cX12_forced 65 = .ok (.iload 4, 2) by decide +kernel))),
  (fun _ h => absurd h List.not_mem_nil)⟩⟩⟩⟩⟩⟩⟩⟩⟩⟩⟩⟩⟩⟩⟩⟩⟩⟩⟩⟩
def pX12_forced_2 (ev : xEv) : List (Nat × xEn) := [(67, .inl (xop (xf_push (.int (-1)) 1))), (68, .inl (xop (xf_icmp_eq 167))), (71, .inl (xop (xf_push (.int 4) 1))), (72, .inl (xop (xf_iload 2 1))), (73, .inl (xop (xf_bin (fun x y => x * y)))), (74, .inl (xop (xf_iload 4 2))), (76, .inl (xop (xf_bin (fun x y => x + y)))), (77, .inl (xop (xf_istore 8 2))), (79, .inl (xop (xf_aload 0 1))), (80, .inl (xop (xf_getf 12 6))), (83, .inl (xop (xf_iload 8 2))), (85, .inl (xop (xf_ald (ev.1 0)))), (86, .inl (xop (xf_iload 3 1))), (87, .inl (xop (xf_bin (fun x y => x - y)))), (88, .inl (xop (xf_m1 (fun x => if 0 ≤ x then x else 0 - x)))), (91, .inl (xop (xf_istore 9 2))), (93, .inl (xop (xf_aload 0 1))), (94, .inl (xop (xf_getf 12 7))), (97, .inl (xop (xf_iload 6 2))), (99, .inl (xop (xf_ald (ev.1 0))))]
set_option maxRecDepth 20000 in
theorem okpX12_forced_2 (ev : xEv) : ∀ q ∈ pX12_forced_2 ev, xEnOK ev xmi yX12_forced.cls yX12_forced.name cX12_forced 10 none q :=
  List.forall_mem_cons.mpr ⟨(xOK_pure (xs_iconst (n := (-1)) (show decode cX12_forced 67 = .ok (.iconst (-1), 1) by decide +kernel) (by decide))),
  List.forall_mem_cons.mpr ⟨(xOK_pure (xs_icmp_eq (show decode cX12_forced 68 = .ok (.if_icmp .eq 99, 3) by decide +kernel) (by decide))),
  List.forall_mem_cons.mpr ⟨(xOK_pure (xs_iconst (n := 4) (show decode cX12_forced 71 = .ok (.iconst 4, 1) by decide +kernel) (by decide))),
  List.forall_mem_cons.mpr ⟨(xOK_pure (xs_iload_n (k := 2) rfl (show decode cX12_forced 72 = .ok (.iload_n 2, 1) by decide +kernel))),
  List.forall_mem_cons.mpr ⟨(xOK_pure (xs_imul (show decode cX12_forced 73 = .ok (.imul, 1) by decide +kernel))),
  List.forall_mem_cons.mpr ⟨(xOK_pure (xs_iload (show decode cX12_forced 74 = .ok (.iload 4, 2) by decide +kernel))),
  List.forall_mem_cons.mpr ⟨(xOK_pure (xs_iadd (show decode cX12_forced 76 = .ok (.iadd, 1) by decide +kernel))),
  List.forall_mem_cons.mpr ⟨(xOK_pure (xs_istore (show decode cX12_forced 77 = .ok (.istore 8, 2) by decide +kernel) (by decide))),
  List.forall_mem_cons.mpr ⟨(xOK_pure (xs_aload_n (k := 0) rfl (show decode cX12_forced 79 = .ok (.aload_n 0, 1) by decide +kernel))),
  List.forall_mem_cons.mpr ⟨(xOK_pure (xs_getf xcl_12 (by decide) (show decode cX12_forced 80 = .ok (.getfield 25, 3) by decide +kernel) xw_1715)),
  List.forall_mem_cons.mpr ⟨(xOK_pure (xs_iload (show decode cX12_forced 83 = .ok (.iload 8, 2) by decide +kernel))),
  List.forall_mem_cons.mpr ⟨(xOK_pure (xs_iald (show decode cX12_forced 85 = .ok (.iaload, 1) by decide +kernel))),
  List.forall_mem_cons.mpr ⟨(xOK_pure (xs_iload_n (k := 3) rfl (show decode cX12_forced 86 = .ok (.iload_n 3, 1) by decide +kernel))),
  List.forall_mem_cons.mpr ⟨(xOK_pure (xs_isub (show decode cX12_forced 87 = .ok (.isub, 1) by decide +kernel))),
  List.forall_mem_cons.mpr ⟨(xOK_pure (xs_mabs (show decode cX12_forced 88 = .ok (.invokestatic 363, 3) by decide +kernel) xw_2201 xw_1238 xw_127 xw_1239)),
  List.forall_mem_cons.mpr ⟨(xOK_pure (xs_istore (show decode cX12_forced 91 = .ok (.istore 9, 2) by decide +kernel) (by decide))),
  List.forall_mem_cons.mpr ⟨(xOK_pure (xs_aload_n (k := 0) rfl (show decode cX12_forced 93 = .ok (.aload_n 0, 1) by decide +kernel))),
  List.forall_mem_cons.mpr ⟨(xOK_pure (xs_getf xcl_12 (by decide) (show decode cX12_forced 94 = .ok (.getfield 28, 3) by decide +kernel) xw_1716)),
  List.forall_mem_cons.mpr ⟨(xOK_pure (xs_iload (show decode cX12_forced 97 = .ok (.iload 6, 2) by decide +kernel))),
  List.forall_mem_cons.mpr ⟨(xOK_pure (xs_iald (show decode cX12_forced 99 = .ok (.iaload, 1) by decide +kernel))),
  (fun _ h => absurd h List.not_mem_nil)⟩⟩⟩⟩⟩⟩⟩⟩⟩⟩⟩⟩⟩⟩⟩⟩⟩⟩⟩⟩
def pX12_forced_3 (ev : xEv) : List (Nat × xEn) := [(100, .inl (xop (xf_aload 0 1))), (101, .inl (xop (xf_getf 12 7))), (104, .inl (xop (xf_iload 8 2))), (106, .inl (xop (xf_ald (ev.1 0)))), (107, .inl (xop (xf_icmp_eq 130))), (110, .inl (xop (xf_aload 0 1))), (111, .inl (xop (xf_getf 12 7))), (114, .inl (xop (xf_iload 6 2))), (116, .inl (xop (xf_ald (ev.1 0)))), (117, .inl (xop (xf_aload 0 1))), (118, .inl (xop (xf_getf 12 7))), (121, .inl (xop (xf_iload 8 2))), (123, .inl (xop (xf_ald (ev.1 0)))), (124, .inl (xop (xf_icmp_le 167))), (127, .inl (xop (xf_goto 171))), (130, .inl (xop (xf_iload 7 2))), (132, .inl (xop (xf_iload 9 2))), (134, .inl (xop (xf_icmp_eq 147))), (137, .inl (xop (xf_iload 7 2))), (139, .inl (xop (xf_iload 9 2)))]
set_option maxRecDepth 20000 in
theorem okpX12_forced_3 (ev : xEv) : ∀ q ∈ pX12_forced_3 ev, xEnOK ev xmi yX12_forced.cls yX12_forced.name cX12_forced 10 none q :=
  List.forall_mem_cons.mpr ⟨(xOK_pure (xs_aload_n (k := 0) rfl (show decode cX12_forced 100 = .ok (.aload_n 0, 1) by decide +kernel))),
  List.forall_mem_cons.mpr ⟨(xOK_pure (xs_getf xcl_12 (by decide) (show decode cX12_forced 101 = .ok (.getfield 28, 3) by decide +kernel) xw_1716)),
  List.forall_mem_cons.mpr ⟨(xOK_pure (xs_iload (show decode cX12_forced 104 = .ok (.iload 8, 2) by decide +kernel))),
  List.forall_mem_cons.mpr ⟨(xOK_pure (xs_iald (show decode cX12_forced 106 = .ok (.iaload, 1) by decide +kernel))),
  List.forall_mem_cons.mpr ⟨(xOK_pure (xs_icmp_eq (show decode cX12_forced 107 = .ok (.if_icmp .eq 23, 3) by decide +kernel) (by decide))),
  List.forall_mem_cons.mpr ⟨(xOK_pure (xs_aload_n (k := 0) rfl (show decode cX12_forced 110 = .ok (.aload_n 0, 1) by decide +kernel))),
  List.forall_mem_cons.mpr ⟨(xOK_pure (xs_getf xcl_12 (by decide) (show decode cX12_forced 111 = .ok (.getfield 28, 3) by decide +kernel) xw_1716)),
  List.forall_mem_cons.mpr ⟨(xOK_pure (xs_iload (show decode cX12_forced 114 = .ok (.iload 6, 2) by decide +kernel))),
  List.forall_mem_cons.mpr ⟨(xOK_pure (xs_iald (show decode cX12_forced 116 = .ok (.iaload, 1) by decide +kernel))),
  List.forall_mem_cons.mpr ⟨(xOK_pure (xs_aload_n (k := 0) rfl (show decode cX12_forced 117 = .ok (.aload_n 0, 1) by decide +kernel))),
  List.forall_mem_cons.mpr ⟨(xOK_pure (xs_getf xcl_12 (by decide) (show decode cX12_forced 118 = .ok (.getfield 28, 3) by decide +kernel) xw_1716)),
  List.forall_mem_cons.mpr ⟨(xOK_pure (xs_iload (show decode cX12_forced 121 = .ok (.iload 8, 2) by decide +kernel))),
  List.forall_mem_cons.mpr ⟨(xOK_pure (xs_iald (show decode cX12_forced 123 = .ok (.iaload, 1) by decide +kernel))),
  List.forall_mem_cons.mpr ⟨(xOK_pure (xs_icmp_le (show decode cX12_forced 124 = .ok (.if_icmp .le 43, 3) by decide +kernel) (by decide))),
  List.forall_mem_cons.mpr ⟨(xOK_pure (xs_goto (show decode cX12_forced 127 = .ok (.goto 44, 3) by decide +kernel) (by decide))),
  List.forall_mem_cons.mpr ⟨(xOK_pure (xs_iload (show decode cX12_forced 130 = .ok (.iload 7, 2) by decide +kernel))),
  List.forall_mem_cons.mpr ⟨(xOK_pure (xs_iload (show decode cX12_forced 132 = .ok (.iload 9, 2) by decide +kernel))),
  List.forall_mem_cons.mpr ⟨(xOK_pure (xs_icmp_eq (show decode cX12_forced 134 = .ok (.if_icmp .eq 13, 3) by decide +kernel) (by decide))),
  List.forall_mem_cons.mpr ⟨(xOK_pure (xs_iload (show decode cX12_forced 137 = .ok (.iload 7, 2) by decide +kernel))),
  List.forall_mem_cons.mpr ⟨(xOK_pure (xs_iload (show decode cX12_forced 139 = .ok (.iload 9, 2) by decide +kernel))),
  (fun _ h => absurd h List.not_mem_nil)⟩⟩⟩⟩⟩⟩⟩⟩⟩⟩⟩⟩⟩⟩⟩⟩⟩⟩⟩⟩
def pX12_forced_4 (ev : xEv) : List (Nat × xEn) := [(141, .inl (xop (xf_icmp_le 167))), (144, .inl (xop (xf_goto 171))), (147, .inl (xop (xf_aload 0 1))), (148, .inl (xop (xf_getf 12 6))), (151, .inl (xop (xf_iload 6 2))), (153, .inl (xop (xf_ald (ev.1 0)))), (154, .inl (xop (xf_aload 0 1))), (155, .inl (xop (xf_getf 12 6))), (158, .inl (xop (xf_iload 8 2))), (160, .inl (xop (xf_ald (ev.1 0)))), (161, .inl (xop (xf_icmp_lt 167))), (164, .inl (xop (xf_goto 171))), (167, .inl (xop (xf_iload 5 2))), (169, .inl (xop (xf_istore 4 2))), (171, .inl (xop (xf_iinc 5 1))), (174, .inl (xop (xf_goto 20))), (177, .inl (xop (xf_iload 4 2))), (179, .inl (xop (xf_push (.int (-1)) 1))), (180, .inl (xop (xf_icmp_ne 187))), (183, .inl (xop (xf_push (.int 4) 1)))]
set_option maxRecDepth 20000 in
theorem okpX12_forced_4 (ev : xEv) : ∀ q ∈ pX12_forced_4 ev, xEnOK ev xmi yX12_forced.cls yX12_forced.name cX12_forced 10 none q :=
  List.forall_mem_cons.mpr ⟨(xOK_pure (xs_icmp_le (show decode cX12_forced 141 = .ok (.if_icmp .le 26, 3) by decide +kernel) (by decide))),
  List.forall_mem_cons.mpr ⟨(xOK_pure (xs_goto (show decode cX12_forced 144 = .ok (.goto 27, 3) by decide +kernel) (by decide))),
  List.forall_mem_cons.mpr ⟨(xOK_pure (xs_aload_n (k := 0) rfl (show decode cX12_forced 147 = .ok (.aload_n 0, 1) by decide +kernel))),
  List.forall_mem_cons.mpr ⟨(xOK_pure (xs_getf xcl_12 (by decide) (show decode cX12_forced 148 = .ok (.getfield 25, 3) by decide +kernel) xw_1715)),
  List.forall_mem_cons.mpr ⟨(xOK_pure (xs_iload (show decode cX12_forced 151 = .ok (.iload 6, 2) by decide +kernel))),
  List.forall_mem_cons.mpr ⟨(xOK_pure (xs_iald (show decode cX12_forced 153 = .ok (.iaload, 1) by decide +kernel))),
  List.forall_mem_cons.mpr ⟨(xOK_pure (xs_aload_n (k := 0) rfl (show decode cX12_forced 154 = .ok (.aload_n 0, 1) by decide +kernel))),
  List.forall_mem_cons.mpr ⟨(xOK_pure (xs_getf xcl_12 (by decide) (show decode cX12_forced 155 = .ok (.getfield 25, 3) by decide +kernel) xw_1715)),
  List.forall_mem_cons.mpr ⟨(xOK_pure (xs_iload (show decode cX12_forced 158 = .ok (.iload 8, 2) by decide +kernel))),
  List.forall_mem_cons.mpr ⟨(xOK_pure (xs_iald (show decode cX12_forced 160 = .ok (.iaload, 1) by decide +kernel))),
  List.forall_mem_cons.mpr ⟨(xOK_pure (xs_icmp_lt (show decode cX12_forced 161 = .ok (.if_icmp .lt 6, 3) by decide +kernel) (by decide))),
  List.forall_mem_cons.mpr ⟨(xOK_pure (xs_goto (show decode cX12_forced 164 = .ok (.goto 7, 3) by decide +kernel) (by decide))),
  List.forall_mem_cons.mpr ⟨(xOK_pure (xs_iload (show decode cX12_forced 167 = .ok (.iload 5, 2) by decide +kernel))),
  List.forall_mem_cons.mpr ⟨(xOK_pure (xs_istore (show decode cX12_forced 169 = .ok (.istore 4, 2) by decide +kernel) (by decide))),
  List.forall_mem_cons.mpr ⟨(xOK_pure (xs_iinc (n := 1) (show decode cX12_forced 171 = .ok (.iinc 5 1, 3) by decide +kernel) (by decide) (by decide))),
  List.forall_mem_cons.mpr ⟨(xOK_pure (xs_goto (show decode cX12_forced 174 = .ok (.goto (-154), 3) by decide +kernel) (by decide))),
  List.forall_mem_cons.mpr ⟨(xOK_pure (xs_iload (show decode cX12_forced 177 = .ok (.iload 4, 2) by decide +kernel))),
  List.forall_mem_cons.mpr ⟨(xOK_pure (xs_iconst (n := (-1)) (show decode cX12_forced 179 = .ok (.iconst (-1), 1) by decide +kernel) (by decide))),
  List.forall_mem_cons.mpr ⟨(xOK_pure (xs_icmp_ne (show decode cX12_forced 180 = .ok (.if_icmp .ne 7, 3) by decide +kernel) (by decide))),
  List.forall_mem_cons.mpr ⟨(xOK_pure (xs_iconst (n := 4) (show decode cX12_forced 183 = .ok (.iconst 4, 1) by decide +kernel) (by decide))),
  (fun _ h => absurd h List.not_mem_nil)⟩⟩⟩⟩⟩⟩⟩⟩⟩⟩⟩⟩⟩⟩⟩⟩⟩⟩⟩⟩
def pX12_forced_5 (ev : xEv) : List (Nat × xEn) := [(184, .inl (xop (xf_goto 198))), (187, .inl (xop (xf_aload 0 1))), (188, .inl (xop (xf_getf 12 7))), (191, .inl (xop (xf_push (.int 4) 1))), (192, .inl (xop (xf_iload 2 1))), (193, .inl (xop (xf_bin (fun x y => x * y)))), (194, .inl (xop (xf_iload 4 2))), (196, .inl (xop (xf_bin (fun x y => x + y)))), (197, .inl (xop (xf_ald (ev.1 0)))), (198, .inl (xop (xf_istore 5 2))), (200, .inl (xop (xf_iload 4 2))), (202, .inl (xop (xf_push (.int (-1)) 1))), (203, .inl (xop (xf_icmp_eq 223))), (206, .inl (xop (xf_aload 0 1))), (207, .inl (xop (xf_iload 1 1))), (208, .inl (xop (xf_push (.int 2) 1))), (209, .inl (xop (xf_aload 0 1))), (210, .inl (xop (xf_getf 12 6))), (213, .inl (xop (xf_push (.int 4) 1))), (214, .inl (xop (xf_iload 2 1)))]
set_option maxRecDepth 20000 in
theorem okpX12_forced_5 (ev : xEv) : ∀ q ∈ pX12_forced_5 ev, xEnOK ev xmi yX12_forced.cls yX12_forced.name cX12_forced 10 none q :=
  List.forall_mem_cons.mpr ⟨(xOK_pure (xs_goto (show decode cX12_forced 184 = .ok (.goto 14, 3) by decide +kernel) (by decide))),
  List.forall_mem_cons.mpr ⟨(xOK_pure (xs_aload_n (k := 0) rfl (show decode cX12_forced 187 = .ok (.aload_n 0, 1) by decide +kernel))),
  List.forall_mem_cons.mpr ⟨(xOK_pure (xs_getf xcl_12 (by decide) (show decode cX12_forced 188 = .ok (.getfield 28, 3) by decide +kernel) xw_1716)),
  List.forall_mem_cons.mpr ⟨(xOK_pure (xs_iconst (n := 4) (show decode cX12_forced 191 = .ok (.iconst 4, 1) by decide +kernel) (by decide))),
  List.forall_mem_cons.mpr ⟨(xOK_pure (xs_iload_n (k := 2) rfl (show decode cX12_forced 192 = .ok (.iload_n 2, 1) by decide +kernel))),
  List.forall_mem_cons.mpr ⟨(xOK_pure (xs_imul (show decode cX12_forced 193 = .ok (.imul, 1) by decide +kernel))),
  List.forall_mem_cons.mpr ⟨(xOK_pure (xs_iload (show decode cX12_forced 194 = .ok (.iload 4, 2) by decide +kernel))),
  List.forall_mem_cons.mpr ⟨(xOK_pure (xs_iadd (show decode cX12_forced 196 = .ok (.iadd, 1) by decide +kernel))),
  List.forall_mem_cons.mpr ⟨(xOK_pure (xs_iald (show decode cX12_forced 197 = .ok (.iaload, 1) by decide +kernel))),
  List.forall_mem_cons.mpr ⟨(xOK_pure (xs_istore (show decode cX12_forced 198 = .ok (.istore 5, 2) by decide +kernel) (by decide))),
  List.forall_mem_cons.mpr ⟨(xOK_pure (xs_iload (show decode cX12_forced 200 = .ok (.iload 4, 2) by decide +kernel))),
  List.forall_mem_cons.mpr ⟨(xOK_pure (xs_iconst (n := (-1)) (show decode cX12_forced 202 = .ok (.iconst (-1), 1) by decide +kernel) (by decide))),
  List.forall_mem_cons.mpr ⟨(xOK_pure (xs_icmp_eq (show decode cX12_forced 203 = .ok (.if_icmp .eq 20, 3) by decide +kernel) (by decide))),
  List.forall_mem_cons.mpr ⟨(xOK_pure (xs_aload_n (k := 0) rfl (show decode cX12_forced 206 = .ok (.aload_n 0, 1) by decide +kernel))),
  List.forall_mem_cons.mpr ⟨(xOK_pure (xs_iload_n (k := 1) rfl (show decode cX12_forced 207 = .ok (.iload_n 1, 1) by decide +kernel))),
  List.forall_mem_cons.mpr ⟨(xOK_pure (xs_iconst (n := 2) (show decode cX12_forced 208 = .ok (.iconst 2, 1) by decide +kernel) (by decide))),
  List.forall_mem_cons.mpr ⟨(xOK_pure (xs_aload_n (k := 0) rfl (show decode cX12_forced 209 = .ok (.aload_n 0, 1) by decide +kernel))),
  List.forall_mem_cons.mpr ⟨(xOK_pure (xs_getf xcl_12 (by decide) (show decode cX12_forced 210 = .ok (.getfield 25, 3) by decide +kernel) xw_1715)),
  List.forall_mem_cons.mpr ⟨(xOK_pure (xs_iconst (n := 4) (show decode cX12_forced 213 = .ok (.iconst 4, 1) by decide +kernel) (by decide))),
  List.forall_mem_cons.mpr ⟨(xOK_pure (xs_iload_n (k := 2) rfl (show decode cX12_forced 214 = .ok (.iload_n 2, 1) by decide +kernel))),
  (fun _ h => absurd h List.not_mem_nil)⟩⟩⟩⟩⟩⟩⟩⟩⟩⟩⟩⟩⟩⟩⟩⟩⟩⟩⟩⟩
def pX12_forced_6 (ev : xEv) : List (Nat × xEn) := [(215, .inl (xop (xf_bin (fun x y => x * y)))), (216, .inl (xop (xf_iload 4 2))), (218, .inl (xop (xf_bin (fun x y => x + y)))), (219, .inl (xop (xf_ald (ev.1 0)))), (220, .inr (.inl (0, 196, 3, 12))), (223, .inl (xop (xf_aload 0 1))), (224, .inl (xop (xf_iload 1 1))), (225, .inl (xop (xf_push (.int 4) 1))), (226, .inl (xop (xf_iload 5 2))), (228, .inl (xop (xf_aload 0 1))), (229, .inl (xop (xf_getf 12 48))), (232, .inl (xop (xf_push (.int 0) 1))), (233, .inl (xop (xf_ald (ev.1 0)))), (234, .inr (.inl (1, 204, 1, 12))), (237, .inl (xop (xf_if_eq 244))), (240, .inl (xop (xf_push (.int 1) 1))), (241, .inl (xop (xf_goto 245))), (244, .inl (xop (xf_push (.int 0) 1))), (245, .inl (xop (xf_bin (fun x y => x + y)))), (246, .inr (.inl (0, 196, 3, 12)))]
set_option maxRecDepth 20000 in
theorem okpX12_forced_6 (ev : xEv) : ∀ q ∈ pX12_forced_6 ev, xEnOK ev xmi yX12_forced.cls yX12_forced.name cX12_forced 10 none q :=
  List.forall_mem_cons.mpr ⟨(xOK_pure (xs_imul (show decode cX12_forced 215 = .ok (.imul, 1) by decide +kernel))),
  List.forall_mem_cons.mpr ⟨(xOK_pure (xs_iload (show decode cX12_forced 216 = .ok (.iload 4, 2) by decide +kernel))),
  List.forall_mem_cons.mpr ⟨(xOK_pure (xs_iadd (show decode cX12_forced 218 = .ok (.iadd, 1) by decide +kernel))),
  List.forall_mem_cons.mpr ⟨(xOK_pure (xs_iald (show decode cX12_forced 219 = .ok (.iaload, 1) by decide +kernel))),
  List.forall_mem_cons.mpr ⟨(xcm mi_196 ⟨⟨(by decide +kernel), (by decide +kernel), (by decide +kernel)⟩, (by decide), xw_1985, xw_125, Or.inl ⟨rfl, _, _, _, _, (show decode cX12_forced 220 = .ok (.invokevirtual 199, 3) by decide +kernel), xw_1982, xw_1984, xw_60, rfl⟩⟩),
  List.forall_mem_cons.mpr ⟨(xOK_pure (xs_aload_n (k := 0) rfl (show decode cX12_forced 223 = .ok (.aload_n 0, 1) by decide +kernel))),
  List.forall_mem_cons.mpr ⟨(xOK_pure (xs_iload_n (k := 1) rfl (show decode cX12_forced 224 = .ok (.iload_n 1, 1) by decide +kernel))),
  List.forall_mem_cons.mpr ⟨(xOK_pure (xs_iconst (n := 4) (show decode cX12_forced 225 = .ok (.iconst 4, 1) by decide +kernel) (by decide))),
  List.forall_mem_cons.mpr ⟨(xOK_pure (xs_iload (show decode cX12_forced 226 = .ok (.iload 5, 2) by decide +kernel))),
  List.forall_mem_cons.mpr ⟨(xOK_pure (xs_aload_n (k := 0) rfl (show decode cX12_forced 228 = .ok (.aload_n 0, 1) by decide +kernel))),
  List.forall_mem_cons.mpr ⟨(xOK_pure (xs_getf xcl_12 (by decide) (show decode cX12_forced 229 = .ok (.getfield 121, 3) by decide +kernel) xw_1757)),
  List.forall_mem_cons.mpr ⟨(xOK_pure (xs_iconst (n := 0) (show decode cX12_forced 232 = .ok (.iconst 0, 1) by decide +kernel) (by decide))),
  List.forall_mem_cons.mpr ⟨(xOK_pure (xs_iald (show decode cX12_forced 233 = .ok (.iaload, 1) by decide +kernel))),
  List.forall_mem_cons.mpr ⟨(xcm mi_204 ⟨⟨(by decide +kernel), (by decide +kernel), (by decide +kernel)⟩, (by decide), xw_2164, xw_125, Or.inr (Or.inl ⟨rfl, _, (show decode cX12_forced 234 = .ok (.invokestatic 346, 3) by decide +kernel), xw_2162, xw_2163⟩)⟩),
  List.forall_mem_cons.mpr ⟨(xOK_pure (xs_if_eq (show decode cX12_forced 237 = .ok (.ifCond .eq 7, 3) by decide +kernel) (by decide))),
  List.forall_mem_cons.mpr ⟨(xOK_pure (xs_iconst (n := 1) (show decode cX12_forced 240 = .ok (.iconst 1, 1) by decide +kernel) (by decide))),
  List.forall_mem_cons.mpr ⟨(xOK_pure (xs_goto (show decode cX12_forced 241 = .ok (.goto 4, 3) by decide +kernel) (by decide))),
  List.forall_mem_cons.mpr ⟨(xOK_pure (xs_iconst (n := 0) (show decode cX12_forced 244 = .ok (.iconst 0, 1) by decide +kernel) (by decide))),
  List.forall_mem_cons.mpr ⟨(xOK_pure (xs_iadd (show decode cX12_forced 245 = .ok (.iadd, 1) by decide +kernel))),
  List.forall_mem_cons.mpr ⟨(xcm mi_196 ⟨⟨(by decide +kernel), (by decide +kernel), (by decide +kernel)⟩, (by decide), xw_1985, xw_125, Or.inl ⟨rfl, _, _, _, _, (show decode cX12_forced 246 = .ok (.invokevirtual 199, 3) by decide +kernel), xw_1982, xw_1984, xw_60, rfl⟩⟩),
  (fun _ h => absurd h List.not_mem_nil)⟩⟩⟩⟩⟩⟩⟩⟩⟩⟩⟩⟩⟩⟩⟩⟩⟩⟩⟩⟩
def pX12_forced_7 (ev : xEv) : List (Nat × xEn) := [(249, .inl (xop (xf_aload 0 1))), (250, .inl (xop (xf_iload 1 1))), (251, .inl (xop (xf_push (.int 3) 1))), (252, .inl (xop (xf_push (.int 1) 1))), (253, .inr (.inl (0, 196, 3, 12))), (256, .inl (xop (xf_aload 0 1))), (257, .inl (xop (xf_iload 1 1))), (258, .inl (xop (xf_push (.int 14) 2))), (260, .inl (xop (xf_push (.int 0) 1))), (261, .inr (.inl (0, 196, 3, 12))), (264, .inl (xop (xf_aload 0 1))), (265, .inl (xop (xf_aload 0 1))), (266, .inl (xop (xf_iload 1 1))), (267, .inl (xop (xf_push (.int 12) 2))), (269, .inr (.inl (0, 195, 2, 12))), (272, .inl (xop (xf_push (.int 4) 1))), (273, .inr (.inl (0, 250, 2, 12))), (276, .inr (.inr 0))]
set_option maxRecDepth 20000 in
theorem okpX12_forced_7 (ev : xEv) : ∀ q ∈ pX12_forced_7 ev, xEnOK ev xmi yX12_forced.cls yX12_forced.name cX12_forced 10 none q :=
  List.forall_mem_cons.mpr ⟨(xOK_pure (xs_aload_n (k := 0) rfl (show decode cX12_forced 249 = .ok (.aload_n 0, 1) by decide +kernel))),
  List.forall_mem_cons.mpr ⟨(xOK_pure (xs_iload_n (k := 1) rfl (show decode cX12_forced 250 = .ok (.iload_n 1, 1) by decide +kernel))),
  List.forall_mem_cons.mpr ⟨(xOK_pure (xs_iconst (n := 3) (show decode cX12_forced 251 = .ok (.iconst 3, 1) by decide +kernel) (by decide))),
  List.forall_mem_cons.mpr ⟨(xOK_pure (xs_iconst (n := 1) (show decode cX12_forced 252 = .ok (.iconst 1, 1) by decide +kernel) (by decide))),
  List.forall_mem_cons.mpr ⟨(xcm mi_196 ⟨⟨(by decide +kernel), (by decide +kernel), (by decide +kernel)⟩, (by decide), xw_1985, xw_125, Or.inl ⟨rfl, _, _, _, _, (show decode cX12_forced 253 = .ok (.invokevirtual 199, 3) by decide +kernel), xw_1982, xw_1984, xw_60, rfl⟩⟩),
  List.forall_mem_cons.mpr ⟨(xOK_pure (xs_aload_n (k := 0) rfl (show decode cX12_forced 256 = .ok (.aload_n 0, 1) by decide +kernel))),
  List.forall_mem_cons.mpr ⟨(xOK_pure (xs_iload_n (k := 1) rfl (show decode cX12_forced 257 = .ok (.iload_n 1, 1) by decide +kernel))),
  List.forall_mem_cons.mpr ⟨(xOK_pure (xs_bipush (n := 14) (show decode cX12_forced 258 = .ok (.bipush 14, 2) by decide +kernel) (by decide))),
  List.forall_mem_cons.mpr ⟨(xOK_pure (xs_iconst (n := 0) (show decode cX12_forced 260 = .ok (.iconst 0, 1) by decide +kernel) (by decide))),
  List.forall_mem_cons.mpr ⟨(xcm mi_196 ⟨⟨(by decide +kernel), (by decide +kernel), (by decide +kernel)⟩, (by decide), xw_1985, xw_125, Or.inl ⟨rfl, _, _, _, _, (show decode cX12_forced 261 = .ok (.invokevirtual 199, 3) by decide +kernel), xw_1982, xw_1984, xw_60, rfl⟩⟩),
  List.forall_mem_cons.mpr ⟨(xOK_pure (xs_aload_n (k := 0) rfl (show decode cX12_forced 264 = .ok (.aload_n 0, 1) by decide +kernel))),
  List.forall_mem_cons.mpr ⟨(xOK_pure (xs_aload_n (k := 0) rfl (show decode cX12_forced 265 = .ok (.aload_n 0, 1) by decide +kernel))),
  List.forall_mem_cons.mpr ⟨(xOK_pure (xs_iload_n (k := 1) rfl (show decode cX12_forced 266 = .ok (.iload_n 1, 1) by decide +kernel))),
  List.forall_mem_cons.mpr ⟨(xOK_pure (xs_bipush (n := 12) (show decode cX12_forced 267 = .ok (.bipush 12, 2) by decide +kernel) (by decide))),
  List.forall_mem_cons.mpr ⟨(xcm mi_195 ⟨⟨(by decide +kernel), (by decide +kernel), (by decide +kernel)⟩, (by decide), xw_2161, xw_125, Or.inl ⟨rfl, _, _, _, _, (show decode cX12_forced 269 = .ok (.invokevirtual 344, 3) by decide +kernel), xw_2158, xw_2160, xw_89, rfl⟩⟩),
  List.forall_mem_cons.mpr ⟨(xOK_pure (xs_iconst (n := 4) (show decode cX12_forced 272 = .ok (.iconst 4, 1) by decide +kernel) (by decide))),
  List.forall_mem_cons.mpr ⟨(xcm mi_250 ⟨⟨(by decide +kernel), (by decide +kernel), (by decide +kernel)⟩, (by decide), xw_2141, xw_125, Or.inl ⟨rfl, _, _, _, _, (show decode cX12_forced 273 = .ok (.invokevirtual 341, 3) by decide +kernel), xw_2138, xw_2140, xw_85, rfl⟩⟩),
  List.forall_mem_cons.mpr ⟨(Or.inl ⟨rfl, (show decode cX12_forced 276 = .ok (.return_, 1) by decide +kernel), rfl⟩),
  (fun _ h => absurd h List.not_mem_nil)⟩⟩⟩⟩⟩⟩⟩⟩⟩⟩⟩⟩⟩⟩⟩⟩⟩⟩
def pX12_forced (ev : xEv) : List (Nat × xEn) := pX12_forced_0 ev ++ (pX12_forced_1 ev ++ (pX12_forced_2 ev ++ (pX12_forced_3 ev ++ (pX12_forced_4 ev ++ (pX12_forced_5 ev ++ (pX12_forced_6 ev ++ (pX12_forced_7 ev)))))))
theorem okpX12_forced (ev : xEv) : ∀ q ∈ pX12_forced ev, xEnOK ev xmi yX12_forced.cls yX12_forced.name cX12_forced 10 none q := List.forall_mem_append.mpr ⟨okpX12_forced_0 ev, List.forall_mem_append.mpr ⟨okpX12_forced_1 ev, List.forall_mem_append.mpr ⟨okpX12_forced_2 ev, List.forall_mem_append.mpr ⟨okpX12_forced_3 ev, List.forall_mem_append.mpr ⟨okpX12_forced_4 ev, List.forall_mem_append.mpr ⟨okpX12_forced_5 ev, List.forall_mem_append.mpr ⟨okpX12_forced_6 ev, okpX12_forced_7 ev⟩⟩⟩⟩⟩⟩⟩
theorem omX12_forced (ev : xEv) : xMethOK ev xmi yX12_forced.cls yX12_forced.name 256 (pX12_forced ev) := xMethOK.of mi_256 (by decide +kernel) (okpX12_forced ev)
def pX12_comeTo_0 (ev : xEv) : List (Nat × xEn) := [(0, .inl (xop (xf_aload 0 1))), (1, .inl (xop (xf_iload 1 1))), (2, .inl (xop (xf_push (.int 11) 2))), (4, .inr (.inl (0, 195, 2, 12))), (7, .inl (xop (xf_istore 3 1))), (8, .inl (xop (xf_aload 0 1))), (9, .inl (xop (xf_iload 1 1))), (10, .inl (xop (xf_push (.int 0) 1))), (11, .inl (xop (xf_iload 2 1))), (12, .inr (.inl (0, 196, 3, 12))), (15, .inl (xop (xf_aload 0 1))), (16, .inl (xop (xf_iload 1 1))), (17, .inl (xop (xf_push (.int 1) 1))), (18, .inl (xop (xf_push (.int (-1)) 1))), (19, .inr (.inl (0, 196, 3, 12))), (22, .inl (xop (xf_aload 0 1))), (23, .inl (xop (xf_iload 1 1))), (24, .inl (xop (xf_push (.int 2) 1))), (25, .inl (xop (xf_push (.int (-1)) 1))), (26, .inr (.inl (0, 196, 3, 12)))]
set_option maxRecDepth 20000 in
theorem okpX12_comeTo_0 (ev : xEv) : ∀ q ∈ pX12_comeTo_0 ev, xEnOK ev xmi yX12_comeTo.cls yX12_comeTo.name cX12_comeTo 5 none q :=
  List.forall_mem_cons.mpr ⟨(xOK_pure (xs_aload_n (k := 0) rfl (show decode cX12_comeTo 0 = .ok (.aload_n 0, 1) by decide +kernel))),
  List.forall_mem_cons.mpr ⟨(xOK_pure (xs_iload_n (k := 1) rfl (show decode cX12_comeTo 1 = .ok (.iload_n 1, 1) by decide +kernel))),
  List.forall_mem_cons.mpr ⟨(xOK_pure (xs_bipush (n := 11) (show decode cX12_comeTo 2 = .ok (.bipush 11, 2) by decide +kernel) (by decide))),
  List.forall_mem_cons.mpr ⟨(xcm mi_195 ⟨⟨(by decide +kernel), (by decide +kernel), (by decide +kernel)⟩, (by decide), xw_2161, xw_125, Or.inl ⟨rfl, _, _, _, _, (show decode cX12_comeTo 4 = .ok (.invokevirtual 344, 3) by decide +kernel), xw_2158, xw_2160, xw_89, rfl⟩⟩),
  List.forall_mem_cons.mpr ⟨(xOK_pure (xs_istore_n (k := 3) rfl (show decode cX12_comeTo 7 = .ok (.istore_n 3, 1) by decide +kernel) (by decide))),
  List.forall_mem_cons.mpr ⟨(xOK_pure (xs_aload_n (k := 0) rfl (show decode cX12_comeTo 8 = .ok (.aload_n 0, 1) by decide +kernel))),
  List.forall_mem_cons.mpr ⟨(xOK_pure (xs_iload_n (k := 1) rfl (show decode cX12_comeTo 9 = .ok (.iload_n 1, 1) by decide +kernel))),
  List.forall_mem_cons.mpr ⟨(xOK_pure (xs_iconst (n := 0) (show decode cX12_comeTo 10 = .ok (.iconst 0, 1) by decide +kernel) (by decide))),
  List.forall_mem_cons.mpr ⟨(xOK_pure (xs_iload_n (k := 2) rfl (show decode cX12_comeTo 11 = .ok (.iload_n 2, 1) by decide +kernel))),
  List.forall_mem_cons.mpr ⟨(xcm mi_196 ⟨⟨(by decide +kernel), (by decide +kernel), (by decide +kernel)⟩, (by decide), xw_1985, xw_125, Or.inl ⟨rfl, _, _, _, _, (show decode cX12_comeTo 12 = .ok (.invokevirtual 199, 3) by decide +kernel), xw_1982, xw_1984, xw_60, rfl⟩⟩),
  List.forall_mem_cons.mpr ⟨(xOK_pure (xs_aload_n (k := 0) rfl (show decode cX12_comeTo 15 = .ok (.aload_n 0, 1) by decide +kernel))),
  List.forall_mem_cons.mpr ⟨(xOK_pure (xs_iload_n (k := 1) rfl (show decode cX12_comeTo 16 = .ok (.iload_n 1, 1) by decide +kernel))),
  List.forall_mem_cons.mpr ⟨(xOK_pure (xs_iconst (n := 1) (show decode cX12_comeTo 17 = .ok (.iconst 1, 1) by decide +kernel) (by decide))),
  List.forall_mem_cons.mpr ⟨(xOK_pure (xs_iconst (n := (-1)) (show decode cX12_comeTo 18 = .ok (.iconst (-1), 1) by decide +kernel) (by decide))),
  List.forall_mem_cons.mpr ⟨(xcm mi_196 ⟨⟨(by decide +kernel), (by decide +kernel), (by decide +kernel)⟩, (by decide), xw_1985, xw_125, Or.inl ⟨rfl, _, _, _, _, (show decode cX12_comeTo 19 = .ok (.invokevirtual 199, 3) by decide +kernel), xw_1982, xw_1984, xw_60, rfl⟩⟩),
  List.forall_mem_cons.mpr ⟨(xOK_pure (xs_aload_n (k := 0) rfl (show decode cX12_comeTo 22 = .ok (.aload_n 0, 1) by decide +kernel))),
  List.forall_mem_cons.mpr ⟨(xOK_pure (xs_iload_n (k := 1) rfl (show decode cX12_comeTo 23 = .ok (.iload_n 1, 1) by decide +kernel))),
  List.forall_mem_cons.mpr ⟨(xOK_pure (xs_iconst (n := 2) (show decode cX12_comeTo 24 = .ok (.iconst 2, 1) by decide +kernel) (by decide))),
  List.forall_mem_cons.mpr ⟨(xOK_pure (xs_iconst (n := (-1)) (show decode cX12_comeTo 25 = .ok (.iconst (-1), 1) by decide +kernel) (by decide))),
  List.forall_mem_cons.mpr ⟨(xcm mi_196 ⟨⟨(by decide +kernel), (by decide +kernel), (by decide +kernel)⟩, (by decide), xw_1985, xw_125, Or.inl ⟨rfl, _, _, _, _, (show decode cX12_comeTo 26 = .ok (.invokevirtual 199, 3) by decide +kernel), xw_1982, xw_1984, xw_60, rfl⟩⟩),
  (fun _ h => absurd h List.not_mem_nil)⟩⟩⟩⟩⟩⟩⟩⟩⟩⟩⟩⟩⟩⟩⟩⟩⟩⟩⟩⟩
def pX12_comeTo_1 (ev : xEv) : List (Nat × xEn) := [(29, .inl (xop (xf_aload 0 1))), (30, .inl (xop (xf_iload 1 1))), (31, .inl (xop (xf_push (.int 3) 1))), (32, .inl (xop (xf_push (.int 0) 1))), (33, .inr (.inl (0, 196, 3, 12))), (36, .inl (xop (xf_aload 0 1))), (37, .inl (xop (xf_iload 1 1))), (38, .inl (xop (xf_push (.int 8) 2))), (40, .inl (xop (xf_push (.int 0) 1))), (41, .inr (.inl (0, 196, 3, 12))), (44, .inl (xop (xf_aload 0 1))), (45, .inl (xop (xf_iload 1 1))), (46, .inl (xop (xf_push (.int 11) 2))), (48, .inl (xop (xf_push (.int (-1)) 1))), (49, .inr (.inl (0, 196, 3, 12))), (52, .inl (xop (xf_aload 0 1))), (53, .inl (xop (xf_iload 1 1))), (54, .inl (xop (xf_push (.int 12) 2))), (56, .inl (xop (xf_push (.int (-1)) 1))), (57, .inr (.inl (0, 196, 3, 12)))]
set_option maxRecDepth 20000 in
theorem okpX12_comeTo_1 (ev : xEv) : ∀ q ∈ pX12_comeTo_1 ev, xEnOK ev xmi yX12_comeTo.cls yX12_comeTo.name cX12_comeTo 5 none q :=
  List.forall_mem_cons.mpr ⟨(xOK_pure (xs_aload_n (k := 0) rfl (show decode cX12_comeTo 29 = .ok (.aload_n 0, 1) by decide +kernel))),
  List.forall_mem_cons.mpr ⟨(xOK_pure (xs_iload_n (k := 1) rfl (show decode cX12_comeTo 30 = .ok (.iload_n 1, 1) by decide +kernel))),
  List.forall_mem_cons.mpr ⟨(xOK_pure (xs_iconst (n := 3) (show decode cX12_comeTo 31 = .ok (.iconst 3, 1) by decide +kernel) (by decide))),
  List.forall_mem_cons.mpr ⟨(xOK_pure (xs_iconst (n := 0) (show decode cX12_comeTo 32 = .ok (.iconst 0, 1) by decide +kernel) (by decide))),
  List.forall_mem_cons.mpr ⟨(xcm mi_196 ⟨⟨(by decide +kernel), (by decide +kernel), (by decide +kernel)⟩, (by decide), xw_1985, xw_125, Or.inl ⟨rfl, _, _, _, _, (show decode cX12_comeTo 33 = .ok (.invokevirtual 199, 3) by decide +kernel), xw_1982, xw_1984, xw_60, rfl⟩⟩),
  List.forall_mem_cons.mpr ⟨(xOK_pure (xs_aload_n (k := 0) rfl (show decode cX12_comeTo 36 = .ok (.aload_n 0, 1) by decide +kernel))),
  List.forall_mem_cons.mpr ⟨(xOK_pure (xs_iload_n (k := 1) rfl (show decode cX12_comeTo 37 = .ok (.iload_n 1, 1) by decide +kernel))),
  List.forall_mem_cons.mpr ⟨(xOK_pure (xs_bipush (n := 8) (show decode cX12_comeTo 38 = .ok (.bipush 8, 2) by decide +kernel) (by decide))),
  List.forall_mem_cons.mpr ⟨(xOK_pure (xs_iconst (n := 0) (show decode cX12_comeTo 40 = .ok (.iconst 0, 1) by decide +kernel) (by decide))),
  List.forall_mem_cons.mpr ⟨(xcm mi_196 ⟨⟨(by decide +kernel), (by decide +kernel), (by decide +kernel)⟩, (by decide), xw_1985, xw_125, Or.inl ⟨rfl, _, _, _, _, (show decode cX12_comeTo 41 = .ok (.invokevirtual 199, 3) by decide +kernel), xw_1982, xw_1984, xw_60, rfl⟩⟩),
  List.forall_mem_cons.mpr ⟨(xOK_pure (xs_aload_n (k := 0) rfl (show decode cX12_comeTo 44 = .ok (.aload_n 0, 1) by decide +kernel))),
  List.forall_mem_cons.mpr ⟨(xOK_pure (xs_iload_n (k := 1) rfl (show decode cX12_comeTo 45 = .ok (.iload_n 1, 1) by decide +kernel))),
  List.forall_mem_cons.mpr ⟨(xOK_pure (xs_bipush (n := 11) (show decode cX12_comeTo 46 = .ok (.bipush 11, 2) by decide +kernel) (by decide))),
  List.forall_mem_cons.mpr ⟨(xOK_pure (xs_iconst (n := (-1)) (show decode cX12_comeTo 48 = .ok (.iconst (-1), 1) by decide +kernel) (by decide))),
  List.forall_mem_cons.mpr ⟨(xcm mi_196 ⟨⟨(by decide +kernel), (by decide +kernel), (by decide +kernel)⟩, (by decide), xw_1985, xw_125, Or.inl ⟨rfl, _, _, _, _, (show decode cX12_comeTo 49 = .ok (.invokevirtual 199, 3) by decide +kernel), xw_1982, xw_1984, xw_60, rfl⟩⟩),
  List.forall_mem_cons.mpr ⟨(xOK_pure (xs_aload_n (k := 0) rfl (show decode cX12_comeTo 52 = .ok (.aload_n 0, 1) by decide +kernel))),
  List.forall_mem_cons.mpr ⟨(xOK_pure (xs_iload_n (k := 1) rfl (show decode cX12_comeTo 53 = .ok (.iload_n 1, 1) by decide +kernel))),
  List.forall_mem_cons.mpr ⟨(xOK_pure (xs_bipush (n := 12) (show decode cX12_comeTo 54 = .ok (.bipush 12, 2) by decide +kernel) (by decide))),
  List.forall_mem_cons.mpr ⟨(xOK_pure (xs_iconst (n := (-1)) (show decode cX12_comeTo 56 = .ok (.iconst (-1), 1) by decide +kernel) (by decide))),
  List.forall_mem_cons.mpr ⟨(xcm mi_196 ⟨⟨(by decide +kernel), (by decide +kernel), (by decide +kernel)⟩, (by decide), xw_1985, xw_125, Or.inl ⟨rfl, _, _, _, _, (show decode cX12_comeTo 57 = .ok (.invokevirtual 199, 3) by decide +kernel), xw_1982, xw_1984, xw_60, rfl⟩⟩),
  (fun _ h => absurd h List.not_mem_nil)⟩⟩⟩⟩⟩⟩⟩⟩⟩⟩⟩⟩⟩⟩⟩⟩⟩⟩⟩⟩
def pX12_comeTo_2 (ev : xEv) : List (Nat × xEn) := [(60, .inl (xop (xf_aload 0 1))), (61, .inl (xop (xf_iload 3 1))), (62, .inl (xop (xf_push (.int 0) 1))), (63, .inl (xop (xf_iload 2 1))), (64, .inr (.inl (0, 198, 3, 12))), (67, .inl (xop (xf_aload 0 1))), (68, .inl (xop (xf_iload 3 1))), (69, .inl (xop (xf_push (.int 1) 1))), (70, .inl (xop (xf_push (.int (-1)) 1))), (71, .inr (.inl (0, 198, 3, 12))), (74, .inl (xop (xf_push (.int 0) 1))), (75, .inl (xop (xf_istore 4 2))), (77, .inl (xop (xf_iload 4 2))), (79, .inl (xop (xf_aload 0 1))), (80, .inl (xop (xf_getf 12 28))), (83, .inl (xop (xf_icmp_ge 110))), (86, .inl (xop (xf_aload 0 1))), (87, .inl (xop (xf_iload 4 2))), (89, .inl (xop (xf_push (.int 1) 1))), (90, .inr (.inl (0, 199, 2, 12)))]
set_option maxRecDepth 20000 in
theorem okpX12_comeTo_2 (ev : xEv) : ∀ q ∈ pX12_comeTo_2 ev, xEnOK ev xmi yX12_comeTo.cls yX12_comeTo.name cX12_comeTo 5 none q :=
  List.forall_mem_cons.mpr ⟨(xOK_pure (xs_aload_n (k := 0) rfl (show decode cX12_comeTo 60 = .ok (.aload_n 0, 1) by decide +kernel))),
  List.forall_mem_cons.mpr ⟨(xOK_pure (xs_iload_n (k := 3) rfl (show decode cX12_comeTo 61 = .ok (.iload_n 3, 1) by decide +kernel))),
  List.forall_mem_cons.mpr ⟨(xOK_pure (xs_iconst (n := 0) (show decode cX12_comeTo 62 = .ok (.iconst 0, 1) by decide +kernel) (by decide))),
  List.forall_mem_cons.mpr ⟨(xOK_pure (xs_iload_n (k := 2) rfl (show decode cX12_comeTo 63 = .ok (.iload_n 2, 1) by decide +kernel))),
  List.forall_mem_cons.mpr ⟨(xcm mi_198 ⟨⟨(by decide +kernel), (by decide +kernel), (by decide +kernel)⟩, (by decide), xw_2001, xw_125, Or.inl ⟨rfl, _, _, _, _, (show decode cX12_comeTo 64 = .ok (.invokevirtual 206, 3) by decide +kernel), xw_1998, xw_2000, xw_62, rfl⟩⟩),
  List.forall_mem_cons.mpr ⟨(xOK_pure (xs_aload_n (k := 0) rfl (show decode cX12_comeTo 67 = .ok (.aload_n 0, 1) by decide +kernel))),
  List.forall_mem_cons.mpr ⟨(xOK_pure (xs_iload_n (k := 3) rfl (show decode cX12_comeTo 68 = .ok (.iload_n 3, 1) by decide +kernel))),
  List.forall_mem_cons.mpr ⟨(xOK_pure (xs_iconst (n := 1) (show decode cX12_comeTo 69 = .ok (.iconst 1, 1) by decide +kernel) (by decide))),
  List.forall_mem_cons.mpr ⟨(xOK_pure (xs_iconst (n := (-1)) (show decode cX12_comeTo 70 = .ok (.iconst (-1), 1) by decide +kernel) (by decide))),
  List.forall_mem_cons.mpr ⟨(xcm mi_198 ⟨⟨(by decide +kernel), (by decide +kernel), (by decide +kernel)⟩, (by decide), xw_2001, xw_125, Or.inl ⟨rfl, _, _, _, _, (show decode cX12_comeTo 71 = .ok (.invokevirtual 206, 3) by decide +kernel), xw_1998, xw_2000, xw_62, rfl⟩⟩),
  List.forall_mem_cons.mpr ⟨(xOK_pure (xs_iconst (n := 0) (show decode cX12_comeTo 74 = .ok (.iconst 0, 1) by decide +kernel) (by decide))),
  List.forall_mem_cons.mpr ⟨(xOK_pure (xs_istore (show decode cX12_comeTo 75 = .ok (.istore 4, 2) by decide +kernel) (by decide))),
  List.forall_mem_cons.mpr ⟨(xOK_pure (xs_iload (show decode cX12_comeTo 77 = .ok (.iload 4, 2) by decide +kernel))),
  List.forall_mem_cons.mpr ⟨(xOK_pure (xs_aload_n (k := 0) rfl (show decode cX12_comeTo 79 = .ok (.aload_n 0, 1) by decide +kernel))),
  List.forall_mem_cons.mpr ⟨(xOK_pure (xs_getf xcl_12 (by decide) (show decode cX12_comeTo 80 = .ok (.getfield 159, 3) by decide +kernel) xw_1737)),
  List.forall_mem_cons.mpr ⟨(xOK_pure (xs_icmp_ge (show decode cX12_comeTo 83 = .ok (.if_icmp .ge 27, 3) by decide +kernel) (by decide))),
  List.forall_mem_cons.mpr ⟨(xOK_pure (xs_aload_n (k := 0) rfl (show decode cX12_comeTo 86 = .ok (.aload_n 0, 1) by decide +kernel))),
  List.forall_mem_cons.mpr ⟨(xOK_pure (xs_iload (show decode cX12_comeTo 87 = .ok (.iload 4, 2) by decide +kernel))),
  List.forall_mem_cons.mpr ⟨(xOK_pure (xs_iconst (n := 1) (show decode cX12_comeTo 89 = .ok (.iconst 1, 1) by decide +kernel) (by decide))),
  List.forall_mem_cons.mpr ⟨(xcm mi_199 ⟨⟨(by decide +kernel), (by decide +kernel), (by decide +kernel)⟩, (by decide), xw_2029, xw_125, Or.inl ⟨rfl, _, _, _, _, (show decode cX12_comeTo 90 = .ok (.invokevirtual 215, 3) by decide +kernel), xw_2026, xw_2028, xw_67, rfl⟩⟩),
  (fun _ h => absurd h List.not_mem_nil)⟩⟩⟩⟩⟩⟩⟩⟩⟩⟩⟩⟩⟩⟩⟩⟩⟩⟩⟩⟩
def pX12_comeTo_3 (ev : xEv) : List (Nat × xEn) := [(93, .inl (xop (xf_iload 1 1))), (94, .inl (xop (xf_icmp_ne 104))), (97, .inl (xop (xf_aload 0 1))), (98, .inl (xop (xf_iload 4 2))), (100, .inl (xop (xf_iload 2 1))), (101, .inr (.inl (0, 225, 2, 12))), (104, .inl (xop (xf_iinc 4 1))), (107, .inl (xop (xf_goto 77))), (110, .inr (.inr 0))]
set_option maxRecDepth 20000 in
theorem okpX12_comeTo_3 (ev : xEv) : ∀ q ∈ pX12_comeTo_3 ev, xEnOK ev xmi yX12_comeTo.cls yX12_comeTo.name cX12_comeTo 5 none q :=
  List.forall_mem_cons.mpr ⟨(xOK_pure (xs_iload_n (k := 1) rfl (show decode cX12_comeTo 93 = .ok (.iload_n 1, 1) by decide +kernel))),
  List.forall_mem_cons.mpr ⟨(xOK_pure (xs_icmp_ne (show decode cX12_comeTo 94 = .ok (.if_icmp .ne 10, 3) by decide +kernel) (by decide))),
  List.forall_mem_cons.mpr ⟨(xOK_pure (xs_aload_n (k := 0) rfl (show decode cX12_comeTo 97 = .ok (.aload_n 0, 1) by decide +kernel))),
  List.forall_mem_cons.mpr ⟨(xOK_pure (xs_iload (show decode cX12_comeTo 98 = .ok (.iload 4, 2) by decide +kernel))),
  List.forall_mem_cons.mpr ⟨(xOK_pure (xs_iload_n (k := 2) rfl (show decode cX12_comeTo 100 = .ok (.iload_n 2, 1) by decide +kernel))),
  List.forall_mem_cons.mpr ⟨(xcm mi_225 ⟨⟨(by decide +kernel), (by decide +kernel), (by decide +kernel)⟩, (by decide), xw_2153, xw_125, Or.inl ⟨rfl, _, _, _, _, (show decode cX12_comeTo 101 = .ok (.invokevirtual 366, 3) by decide +kernel), xw_2150, xw_2152, xw_87, rfl⟩⟩),
  List.forall_mem_cons.mpr ⟨(xOK_pure (xs_iinc (n := 1) (show decode cX12_comeTo 104 = .ok (.iinc 4 1, 3) by decide +kernel) (by decide) (by decide))),
  List.forall_mem_cons.mpr ⟨(xOK_pure (xs_goto (show decode cX12_comeTo 107 = .ok (.goto (-30), 3) by decide +kernel) (by decide))),
  List.forall_mem_cons.mpr ⟨(Or.inl ⟨rfl, (show decode cX12_comeTo 110 = .ok (.return_, 1) by decide +kernel), rfl⟩),
  (fun _ h => absurd h List.not_mem_nil)⟩⟩⟩⟩⟩⟩⟩⟩⟩
def pX12_comeTo (ev : xEv) : List (Nat × xEn) := pX12_comeTo_0 ev ++ (pX12_comeTo_1 ev ++ (pX12_comeTo_2 ev ++ (pX12_comeTo_3 ev)))
theorem okpX12_comeTo (ev : xEv) : ∀ q ∈ pX12_comeTo ev, xEnOK ev xmi yX12_comeTo.cls yX12_comeTo.name cX12_comeTo 5 none q := List.forall_mem_append.mpr ⟨okpX12_comeTo_0 ev, List.forall_mem_append.mpr ⟨okpX12_comeTo_1 ev, List.forall_mem_append.mpr ⟨okpX12_comeTo_2 ev, okpX12_comeTo_3 ev⟩⟩⟩
theorem omX12_comeTo (ev : xEv) : xMethOK ev xmi yX12_comeTo.cls yX12_comeTo.name 257 (pX12_comeTo ev) := xMethOK.of mi_257 (by decide +kernel) (okpX12_comeTo ev)
def pX12_land_0 (ev : xEv) : List (Nat × xEn) := [(0, .inl (xop (xf_aload 0 1))), (1, .inl (xop (xf_iload 1 1))), (2, .inl (xop (xf_push (.int 1) 1))), (3, .inr (.inl (0, 195, 2, 12))), (6, .inl (xop (xf_istore 3 1))), (7, .inl (xop (xf_aload 0 1))), (8, .inl (xop (xf_aload 0 1))), (9, .inl (xop (xf_iload 1 1))), (10, .inl (xop (xf_push (.int 12) 2))), (12, .inr (.inl (0, 195, 2, 12))), (15, .inl (xop (xf_push (.int 2) 1))), (16, .inr (.inl (0, 250, 2, 12))), (19, .inl (xop (xf_aload 0 1))), (20, .inl (xop (xf_iload 1 1))), (21, .inl (xop (xf_iload 2 1))), (22, .inr (.inl (0, 257, 2, 12))), (25, .inl (xop (xf_aload 0 1))), (26, .inl (xop (xf_getf 12 48))), (29, .inl (xop (xf_push (.int 0) 1))), (30, .inl (xop (xf_ald (ev.1 0))))]
set_option maxRecDepth 20000 in
theorem okpX12_land_0 (ev : xEv) : ∀ q ∈ pX12_land_0 ev, xEnOK ev xmi yX12_land.cls yX12_land.name cX12_land 4 none q :=
  List.forall_mem_cons.mpr ⟨(xOK_pure (xs_aload_n (k := 0) rfl (show decode cX12_land 0 = .ok (.aload_n 0, 1) by decide +kernel))),
  List.forall_mem_cons.mpr ⟨(xOK_pure (xs_iload_n (k := 1) rfl (show decode cX12_land 1 = .ok (.iload_n 1, 1) by decide +kernel))),
  List.forall_mem_cons.mpr ⟨(xOK_pure (xs_iconst (n := 1) (show decode cX12_land 2 = .ok (.iconst 1, 1) by decide +kernel) (by decide))),
  List.forall_mem_cons.mpr ⟨(xcm mi_195 ⟨⟨(by decide +kernel), (by decide +kernel), (by decide +kernel)⟩, (by decide), xw_2161, xw_125, Or.inl ⟨rfl, _, _, _, _, (show decode cX12_land 3 = .ok (.invokevirtual 344, 3) by decide +kernel), xw_2158, xw_2160, xw_89, rfl⟩⟩),
  List.forall_mem_cons.mpr ⟨(xOK_pure (xs_istore_n (k := 3) rfl (show decode cX12_land 6 = .ok (.istore_n 3, 1) by decide +kernel) (by decide))),
  List.forall_mem_cons.mpr ⟨(xOK_pure (xs_aload_n (k := 0) rfl (show decode cX12_land 7 = .ok (.aload_n 0, 1) by decide +kernel))),
  List.forall_mem_cons.mpr ⟨(xOK_pure (xs_aload_n (k := 0) rfl (show decode cX12_land 8 = .ok (.aload_n 0, 1) by decide +kernel))),
  List.forall_mem_cons.mpr ⟨(xOK_pure (xs_iload_n (k := 1) rfl (show decode cX12_land 9 = .ok (.iload_n 1, 1) by decide +kernel))),
  List.forall_mem_cons.mpr ⟨(xOK_pure (xs_bipush (n := 12) (show decode cX12_land 10 = .ok (.bipush 12, 2) by decide +kernel) (by decide))),
  List.forall_mem_cons.mpr ⟨(xcm mi_195 ⟨⟨(by decide +kernel), (by decide +kernel), (by decide +kernel)⟩, (by decide), xw_2161, xw_125, Or.inl ⟨rfl, _, _, _, _, (show decode cX12_land 12 = .ok (.invokevirtual 344, 3) by decide +kernel), xw_2158, xw_2160, xw_89, rfl⟩⟩),
  List.forall_mem_cons.mpr ⟨(xOK_pure (xs_iconst (n := 2) (show decode cX12_land 15 = .ok (.iconst 2, 1) by decide +kernel) (by decide))),
  List.forall_mem_cons.mpr ⟨(xcm mi_250 ⟨⟨(by decide +kernel), (by decide +kernel), (by decide +kernel)⟩, (by decide), xw_2141, xw_125, Or.inl ⟨rfl, _, _, _, _, (show decode cX12_land 16 = .ok (.invokevirtual 341, 3) by decide +kernel), xw_2138, xw_2140, xw_85, rfl⟩⟩),
  List.forall_mem_cons.mpr ⟨(xOK_pure (xs_aload_n (k := 0) rfl (show decode cX12_land 19 = .ok (.aload_n 0, 1) by decide +kernel))),
  List.forall_mem_cons.mpr ⟨(xOK_pure (xs_iload_n (k := 1) rfl (show decode cX12_land 20 = .ok (.iload_n 1, 1) by decide +kernel))),
  List.forall_mem_cons.mpr ⟨(xOK_pure (xs_iload_n (k := 2) rfl (show decode cX12_land 21 = .ok (.iload_n 2, 1) by decide +kernel))),
  List.forall_mem_cons.mpr ⟨(xcm mi_257 ⟨⟨(by decide +kernel), (by decide +kernel), (by decide +kernel)⟩, (by decide), xw_2209, xw_125, Or.inl ⟨rfl, _, _, _, _, (show decode cX12_land 22 = .ok (.invokevirtual 369, 3) by decide +kernel), xw_2206, xw_2208, xw_100, rfl⟩⟩),
  List.forall_mem_cons.mpr ⟨(xOK_pure (xs_aload_n (k := 0) rfl (show decode cX12_land 25 = .ok (.aload_n 0, 1) by decide +kernel))),
  List.forall_mem_cons.mpr ⟨(xOK_pure (xs_getf xcl_12 (by decide) (show decode cX12_land 26 = .ok (.getfield 121, 3) by decide +kernel) xw_1757)),
  List.forall_mem_cons.mpr ⟨(xOK_pure (xs_iconst (n := 0) (show decode cX12_land 29 = .ok (.iconst 0, 1) by decide +kernel) (by decide))),
  List.forall_mem_cons.mpr ⟨(xOK_pure (xs_iald (show decode cX12_land 30 = .ok (.iaload, 1) by decide +kernel))),
  (fun _ h => absurd h List.not_mem_nil)⟩⟩⟩⟩⟩⟩⟩⟩⟩⟩⟩⟩⟩⟩⟩⟩⟩⟩⟩⟩
def pX12_land_1 (ev : xEv) : List (Nat × xEn) := [(31, .inr (.inl (1, 204, 1, 12))), (34, .inl (xop (xf_if_eq 61))), (37, .inl (xop (xf_aload 0 1))), (38, .inl (xop (xf_iload 2 1))), (39, .inr (.inl (0, 203, 1, 12))), (42, .inl (xop (xf_if_eq 54))), (45, .inl (xop (xf_aload 0 1))), (46, .inl (xop (xf_getf 12 20))), (49, .inl (xop (xf_iload 1 1))), (50, .inl (xop (xf_ald (ev.1 2)))), (51, .inl (xop (xf_if_ne 61))), (54, .inl (xop (xf_aload 0 1))), (55, .inl (xop (xf_iload 1 1))), (56, .inl (xop (xf_push (.int 4) 1))), (57, .inl (xop (xf_push (.int 1) 1))), (58, .inr (.inl (0, 196, 3, 12))), (61, .inl (xop (xf_aload 0 1))), (62, .inl (xop (xf_iload 2 1))), (63, .inl (xop (xf_iload 3 1))), (64, .inl (xop (xf_aload 0 1)))]
set_option maxRecDepth 20000 in
theorem okpX12_land_1 (ev : xEv) : ∀ q ∈ pX12_land_1 ev, xEnOK ev xmi yX12_land.cls yX12_land.name cX12_land 4 none q :=
  List.forall_mem_cons.mpr ⟨(xcm mi_204 ⟨⟨(by decide +kernel), (by decide +kernel), (by decide +kernel)⟩, (by decide), xw_2164, xw_125, Or.inr (Or.inl ⟨rfl, _, (show decode cX12_land 31 = .ok (.invokestatic 346, 3) by decide +kernel), xw_2162, xw_2163⟩)⟩),
  List.forall_mem_cons.mpr ⟨(xOK_pure (xs_if_eq (show decode cX12_land 34 = .ok (.ifCond .eq 27, 3) by decide +kernel) (by decide))),
  List.forall_mem_cons.mpr ⟨(xOK_pure (xs_aload_n (k := 0) rfl (show decode cX12_land 37 = .ok (.aload_n 0, 1) by decide +kernel))),
  List.forall_mem_cons.mpr ⟨(xOK_pure (xs_iload_n (k := 2) rfl (show decode cX12_land 38 = .ok (.iload_n 2, 1) by decide +kernel))),
  List.forall_mem_cons.mpr ⟨(xcm mi_203 ⟨⟨(by decide +kernel), (by decide +kernel), (by decide +kernel)⟩, (by decide), xw_2176, xw_125, Or.inl ⟨rfl, _, _, _, _, (show decode cX12_land 39 = .ok (.invokevirtual 360, 3) by decide +kernel), xw_2173, xw_2175, xw_92, rfl⟩⟩),
  List.forall_mem_cons.mpr ⟨(xOK_pure (xs_if_eq (show decode cX12_land 42 = .ok (.ifCond .eq 12, 3) by decide +kernel) (by decide))),
  List.forall_mem_cons.mpr ⟨(xOK_pure (xs_aload_n (k := 0) rfl (show decode cX12_land 45 = .ok (.aload_n 0, 1) by decide +kernel))),
  List.forall_mem_cons.mpr ⟨(xOK_pure (xs_getf xcl_12 (by decide) (show decode cX12_land 46 = .ok (.getfield 61, 3) by decide +kernel) xw_1729)),
  List.forall_mem_cons.mpr ⟨(xOK_pure (xs_iload_n (k := 1) rfl (show decode cX12_land 49 = .ok (.iload_n 1, 1) by decide +kernel))),
  List.forall_mem_cons.mpr ⟨(xOK_pure (xs_zald (show decode cX12_land 50 = .ok (.baload, 1) by decide +kernel))),
  List.forall_mem_cons.mpr ⟨(xOK_pure (xs_if_ne (show decode cX12_land 51 = .ok (.ifCond .ne 10, 3) by decide +kernel) (by decide))),
  List.forall_mem_cons.mpr ⟨(xOK_pure (xs_aload_n (k := 0) rfl (show decode cX12_land 54 = .ok (.aload_n 0, 1) by decide +kernel))),
  List.forall_mem_cons.mpr ⟨(xOK_pure (xs_iload_n (k := 1) rfl (show decode cX12_land 55 = .ok (.iload_n 1, 1) by decide +kernel))),
  List.forall_mem_cons.mpr ⟨(xOK_pure (xs_iconst (n := 4) (show decode cX12_land 56 = .ok (.iconst 4, 1) by decide +kernel) (by decide))),
  List.forall_mem_cons.mpr ⟨(xOK_pure (xs_iconst (n := 1) (show decode cX12_land 57 = .ok (.iconst 1, 1) by decide +kernel) (by decide))),
  List.forall_mem_cons.mpr ⟨(xcm mi_196 ⟨⟨(by decide +kernel), (by decide +kernel), (by decide +kernel)⟩, (by decide), xw_1985, xw_125, Or.inl ⟨rfl, _, _, _, _, (show decode cX12_land 58 = .ok (.invokevirtual 199, 3) by decide +kernel), xw_1982, xw_1984, xw_60, rfl⟩⟩),
  List.forall_mem_cons.mpr ⟨(xOK_pure (xs_aload_n (k := 0) rfl (show decode cX12_land 61 = .ok (.aload_n 0, 1) by decide +kernel))),
  List.forall_mem_cons.mpr ⟨(xOK_pure (xs_iload_n (k := 2) rfl (show decode cX12_land 62 = .ok (.iload_n 2, 1) by decide +kernel))),
  List.forall_mem_cons.mpr ⟨(xOK_pure (xs_iload_n (k := 3) rfl (show decode cX12_land 63 = .ok (.iload_n 3, 1) by decide +kernel))),
  List.forall_mem_cons.mpr ⟨(xOK_pure (xs_aload_n (k := 0) rfl (show decode cX12_land 64 = .ok (.aload_n 0, 1) by decide +kernel))),
  (fun _ h => absurd h List.not_mem_nil)⟩⟩⟩⟩⟩⟩⟩⟩⟩⟩⟩⟩⟩⟩⟩⟩⟩⟩⟩⟩
def pX12_land_2 (ev : xEv) : List (Nat × xEn) := [(65, .inl (xop (xf_getf 12 48))), (68, .inl (xop (xf_push (.int 0) 1))), (69, .inl (xop (xf_ald (ev.1 0)))), (70, .inl (xop (xf_aload 0 1))), (71, .inl (xop (xf_iload 3 1))), (72, .inl (xop (xf_aload 0 1))), (73, .inl (xop (xf_getf 12 48))), (76, .inl (xop (xf_push (.int 0) 1))), (77, .inl (xop (xf_ald (ev.1 0)))), (78, .inr (.inl (0, 212, 2, 12))), (81, .inl (xop (xf_aload 0 1))), (82, .inl (xop (xf_iload 3 1))), (83, .inl (xop (xf_aload 0 1))), (84, .inl (xop (xf_getf 12 48))), (87, .inl (xop (xf_push (.int 0) 1))), (88, .inl (xop (xf_ald (ev.1 0)))), (89, .inr (.inl (0, 213, 2, 12))), (92, .inr (.inl (0, 215, 5, 12))), (95, .inr (.inr 0))]
set_option maxRecDepth 20000 in
theorem okpX12_land_2 (ev : xEv) : ∀ q ∈ pX12_land_2 ev, xEnOK ev xmi yX12_land.cls yX12_land.name cX12_land 4 none q :=
  List.forall_mem_cons.mpr ⟨(xOK_pure (xs_getf xcl_12 (by decide) (show decode cX12_land 65 = .ok (.getfield 121, 3) by decide +kernel) xw_1757)),
  List.forall_mem_cons.mpr ⟨(xOK_pure (xs_iconst (n := 0) (show decode cX12_land 68 = .ok (.iconst 0, 1) by decide +kernel) (by decide))),
  List.forall_mem_cons.mpr ⟨(xOK_pure (xs_iald (show decode cX12_land 69 = .ok (.iaload, 1) by decide +kernel))),
  List.forall_mem_cons.mpr ⟨(xOK_pure (xs_aload_n (k := 0) rfl (show decode cX12_land 70 = .ok (.aload_n 0, 1) by decide +kernel))),
  List.forall_mem_cons.mpr ⟨(xOK_pure (xs_iload_n (k := 3) rfl (show decode cX12_land 71 = .ok (.iload_n 3, 1) by decide +kernel))),
  List.forall_mem_cons.mpr ⟨(xOK_pure (xs_aload_n (k := 0) rfl (show decode cX12_land 72 = .ok (.aload_n 0, 1) by decide +kernel))),
  List.forall_mem_cons.mpr ⟨(xOK_pure (xs_getf xcl_12 (by decide) (show decode cX12_land 73 = .ok (.getfield 121, 3) by decide +kernel) xw_1757)),
  List.forall_mem_cons.mpr ⟨(xOK_pure (xs_iconst (n := 0) (show decode cX12_land 76 = .ok (.iconst 0, 1) by decide +kernel) (by decide))),
  List.forall_mem_cons.mpr ⟨(xOK_pure (xs_iald (show decode cX12_land 77 = .ok (.iaload, 1) by decide +kernel))),
  List.forall_mem_cons.mpr ⟨(xcm mi_212 ⟨⟨(by decide +kernel), (by decide +kernel), (by decide +kernel)⟩, (by decide), xw_1953, xw_125, Or.inl ⟨rfl, _, _, _, _, (show decode cX12_land 78 = .ok (.invokevirtual 185, 3) by decide +kernel), xw_1950, xw_1952, xw_55, rfl⟩⟩),
  List.forall_mem_cons.mpr ⟨(xOK_pure (xs_aload_n (k := 0) rfl (show decode cX12_land 81 = .ok (.aload_n 0, 1) by decide +kernel))),
  List.forall_mem_cons.mpr ⟨(xOK_pure (xs_iload_n (k := 3) rfl (show decode cX12_land 82 = .ok (.iload_n 3, 1) by decide +kernel))),
  List.forall_mem_cons.mpr ⟨(xOK_pure (xs_aload_n (k := 0) rfl (show decode cX12_land 83 = .ok (.aload_n 0, 1) by decide +kernel))),
  List.forall_mem_cons.mpr ⟨(xOK_pure (xs_getf xcl_12 (by decide) (show decode cX12_land 84 = .ok (.getfield 121, 3) by decide +kernel) xw_1757)),
  List.forall_mem_cons.mpr ⟨(xOK_pure (xs_iconst (n := 0) (show decode cX12_land 87 = .ok (.iconst 0, 1) by decide +kernel) (by decide))),
  List.forall_mem_cons.mpr ⟨(xOK_pure (xs_iald (show decode cX12_land 88 = .ok (.iaload, 1) by decide +kernel))),
  List.forall_mem_cons.mpr ⟨(xcm mi_213 ⟨⟨(by decide +kernel), (by decide +kernel), (by decide +kernel)⟩, (by decide), xw_1961, xw_125, Or.inl ⟨rfl, _, _, _, _, (show decode cX12_land 89 = .ok (.invokevirtual 188, 3) by decide +kernel), xw_1958, xw_1960, xw_57, rfl⟩⟩),
  List.forall_mem_cons.mpr ⟨(xcm mi_215 ⟨⟨(by decide +kernel), (by decide +kernel), (by decide +kernel)⟩, (by decide), xw_1969, xw_125, Or.inl ⟨rfl, _, _, _, _, (show decode cX12_land 92 = .ok (.invokevirtual 191, 3) by decide +kernel), xw_1966, xw_1968, xw_58, rfl⟩⟩),
  List.forall_mem_cons.mpr ⟨(Or.inl ⟨rfl, (show decode cX12_land 95 = .ok (.return_, 1) by decide +kernel), rfl⟩),
  (fun _ h => absurd h List.not_mem_nil)⟩⟩⟩⟩⟩⟩⟩⟩⟩⟩⟩⟩⟩⟩⟩⟩⟩⟩⟩
def pX12_land (ev : xEv) : List (Nat × xEn) := pX12_land_0 ev ++ (pX12_land_1 ev ++ (pX12_land_2 ev))
theorem okpX12_land (ev : xEv) : ∀ q ∈ pX12_land ev, xEnOK ev xmi yX12_land.cls yX12_land.name cX12_land 4 none q := List.forall_mem_append.mpr ⟨okpX12_land_0 ev, List.forall_mem_append.mpr ⟨okpX12_land_1 ev, okpX12_land_2 ev⟩⟩
theorem omX12_land (ev : xEv) : xMethOK ev xmi yX12_land.cls yX12_land.name 258 (pX12_land ev) := xMethOK.of mi_258 (by decide +kernel) (okpX12_land ev)
def pX12_isAloft (ev : xEv) : List (Nat × xEn) := [(0, .inl (xop (xf_aload 0 1))), (1, .inl (xop (xf_iload 1 1))), (2, .inl (xop (xf_push (.int 0) 1))), (3, .inr (.inl (0, 195, 2, 12))), (6, .inl (xop (xf_push (.int (-1)) 1))), (7, .inl (xop (xf_icmp_ne 23))), (10, .inl (xop (xf_aload 0 1))), (11, .inl (xop (xf_iload 1 1))), (12, .inl (xop (xf_push (.int 3) 1))), (13, .inr (.inl (0, 195, 2, 12))), (16, .inl (xop (xf_if_ne 23))), (19, .inl (xop (xf_push (.int 1) 1))), (20, .inl (xop (xf_goto 24))), (23, .inl (xop (xf_push (.int 0) 1))), (24, .inr (.inr 4))]
set_option maxRecDepth 20000 in
theorem okpX12_isAloft (ev : xEv) : ∀ q ∈ pX12_isAloft ev, xEnOK ev xmi yX12_isAloft.cls yX12_isAloft.name cX12_isAloft 2 (some .boolean) q :=
  List.forall_mem_cons.mpr ⟨(xOK_pure (xs_aload_n (k := 0) rfl (show decode cX12_isAloft 0 = .ok (.aload_n 0, 1) by decide +kernel))),
  List.forall_mem_cons.mpr ⟨(xOK_pure (xs_iload_n (k := 1) rfl (show decode cX12_isAloft 1 = .ok (.iload_n 1, 1) by decide +kernel))),
  List.forall_mem_cons.mpr ⟨(xOK_pure (xs_iconst (n := 0) (show decode cX12_isAloft 2 = .ok (.iconst 0, 1) by decide +kernel) (by decide))),
  List.forall_mem_cons.mpr ⟨(xcm mi_195 ⟨⟨(by decide +kernel), (by decide +kernel), (by decide +kernel)⟩, (by decide), xw_2161, xw_125, Or.inl ⟨rfl, _, _, _, _, (show decode cX12_isAloft 3 = .ok (.invokevirtual 344, 3) by decide +kernel), xw_2158, xw_2160, xw_89, rfl⟩⟩),
  List.forall_mem_cons.mpr ⟨(xOK_pure (xs_iconst (n := (-1)) (show decode cX12_isAloft 6 = .ok (.iconst (-1), 1) by decide +kernel) (by decide))),
  List.forall_mem_cons.mpr ⟨(xOK_pure (xs_icmp_ne (show decode cX12_isAloft 7 = .ok (.if_icmp .ne 16, 3) by decide +kernel) (by decide))),
  List.forall_mem_cons.mpr ⟨(xOK_pure (xs_aload_n (k := 0) rfl (show decode cX12_isAloft 10 = .ok (.aload_n 0, 1) by decide +kernel))),
  List.forall_mem_cons.mpr ⟨(xOK_pure (xs_iload_n (k := 1) rfl (show decode cX12_isAloft 11 = .ok (.iload_n 1, 1) by decide +kernel))),
  List.forall_mem_cons.mpr ⟨(xOK_pure (xs_iconst (n := 3) (show decode cX12_isAloft 12 = .ok (.iconst 3, 1) by decide +kernel) (by decide))),
  List.forall_mem_cons.mpr ⟨(xcm mi_195 ⟨⟨(by decide +kernel), (by decide +kernel), (by decide +kernel)⟩, (by decide), xw_2161, xw_125, Or.inl ⟨rfl, _, _, _, _, (show decode cX12_isAloft 13 = .ok (.invokevirtual 344, 3) by decide +kernel), xw_2158, xw_2160, xw_89, rfl⟩⟩),
  List.forall_mem_cons.mpr ⟨(xOK_pure (xs_if_ne (show decode cX12_isAloft 16 = .ok (.ifCond .ne 7, 3) by decide +kernel) (by decide))),
  List.forall_mem_cons.mpr ⟨(xOK_pure (xs_iconst (n := 1) (show decode cX12_isAloft 19 = .ok (.iconst 1, 1) by decide +kernel) (by decide))),
  List.forall_mem_cons.mpr ⟨(xOK_pure (xs_goto (show decode cX12_isAloft 20 = .ok (.goto 4, 3) by decide +kernel) (by decide))),
  List.forall_mem_cons.mpr ⟨(xOK_pure (xs_iconst (n := 0) (show decode cX12_isAloft 23 = .ok (.iconst 0, 1) by decide +kernel) (by decide))),
  List.forall_mem_cons.mpr ⟨(Or.inr (Or.inr (Or.inr (Or.inr (Or.inl ⟨rfl, (show decode cX12_isAloft 24 = .ok (.ireturn, 1) by decide +kernel), rfl⟩))))),
  (fun _ h => absurd h List.not_mem_nil)⟩⟩⟩⟩⟩⟩⟩⟩⟩⟩⟩⟩⟩⟩⟩
theorem omX12_isAloft (ev : xEv) : xMethOK ev xmi yX12_isAloft.cls yX12_isAloft.name 259 (pX12_isAloft ev) := xMethOK.of mi_259 (by decide +kernel) (okpX12_isAloft ev)
def pX12_fly_0 (ev : xEv) : List (Nat × xEn) := [(0, .inl (xop (xf_aload 0 1))), (1, .inl (xop (xf_iload 1 1))), (2, .inl (xop (xf_push (.int 1) 1))), (3, .inr (.inl (0, 195, 2, 12))), (6, .inl (xop (xf_istore 2 1))), (7, .inl (xop (xf_aload 0 1))), (8, .inl (xop (xf_iload 1 1))), (9, .inl (xop (xf_push (.int 11) 2))), (11, .inr (.inl (0, 195, 2, 12))), (14, .inl (xop (xf_istore 3 1))), (15, .inl (xop (xf_aload 0 1))), (16, .inl (xop (xf_iload 1 1))), (17, .inl (xop (xf_push (.int 5) 1))), (18, .inl (xop (xf_aload 0 1))), (19, .inl (xop (xf_iload 1 1))), (20, .inl (xop (xf_push (.int 5) 1))), (21, .inr (.inl (0, 195, 2, 12))), (24, .inl (xop (xf_push (.int 1) 1))), (25, .inl (xop (xf_bin (fun x y => x + y)))), (26, .inr (.inl (0, 196, 3, 12)))]
set_option maxRecDepth 20000 in
theorem okpX12_fly_0 (ev : xEv) : ∀ q ∈ pX12_fly_0 ev, xEnOK ev xmi yX12_fly.cls yX12_fly.name cX12_fly 11 none q :=
  List.forall_mem_cons.mpr ⟨(xOK_pure (xs_aload_n (k := 0) rfl (show decode cX12_fly 0 = .ok (.aload_n 0, 1) by decide +kernel))),
  List.forall_mem_cons.mpr ⟨(xOK_pure (xs_iload_n (k := 1) rfl (show decode cX12_fly 1 = .ok (.iload_n 1, 1) by decide +kernel))),
  List.forall_mem_cons.mpr ⟨(xOK_pure (xs_iconst (n := 1) (show decode cX12_fly 2 = .ok (.iconst 1, 1) by decide +kernel) (by decide))),
  List.forall_mem_cons.mpr ⟨(xcm mi_195 ⟨⟨(by decide +kernel), (by decide +kernel), (by decide +kernel)⟩, (by decide), xw_2161, xw_125, Or.inl ⟨rfl, _, _, _, _, (show decode cX12_fly 3 = .ok (.invokevirtual 344, 3) by decide +kernel), xw_2158, xw_2160, xw_89, rfl⟩⟩),
  List.forall_mem_cons.mpr ⟨(xOK_pure (xs_istore_n (k := 2) rfl (show decode cX12_fly 6 = .ok (.istore_n 2, 1) by decide +kernel) (by decide))),
  List.forall_mem_cons.mpr ⟨(xOK_pure (xs_aload_n (k := 0) rfl (show decode cX12_fly 7 = .ok (.aload_n 0, 1) by decide +kernel))),
  List.forall_mem_cons.mpr ⟨(xOK_pure (xs_iload_n (k := 1) rfl (show decode cX12_fly 8 = .ok (.iload_n 1, 1) by decide +kernel))),
  List.forall_mem_cons.mpr ⟨(xOK_pure (xs_bipush (n := 11) (show decode cX12_fly 9 = .ok (.bipush 11, 2) by decide +kernel) (by decide))),
  List.forall_mem_cons.mpr ⟨(xcm mi_195 ⟨⟨(by decide +kernel), (by decide +kernel), (by decide +kernel)⟩, (by decide), xw_2161, xw_125, Or.inl ⟨rfl, _, _, _, _, (show decode cX12_fly 11 = .ok (.invokevirtual 344, 3) by decide +kernel), xw_2158, xw_2160, xw_89, rfl⟩⟩),
  List.forall_mem_cons.mpr ⟨(xOK_pure (xs_istore_n (k := 3) rfl (show decode cX12_fly 14 = .ok (.istore_n 3, 1) by decide +kernel) (by decide))),
  List.forall_mem_cons.mpr ⟨(xOK_pure (xs_aload_n (k := 0) rfl (show decode cX12_fly 15 = .ok (.aload_n 0, 1) by decide +kernel))),
  List.forall_mem_cons.mpr ⟨(xOK_pure (xs_iload_n (k := 1) rfl (show decode cX12_fly 16 = .ok (.iload_n 1, 1) by decide +kernel))),
  List.forall_mem_cons.mpr ⟨(xOK_pure (xs_iconst (n := 5) (show decode cX12_fly 17 = .ok (.iconst 5, 1) by decide +kernel) (by decide))),
  List.forall_mem_cons.mpr ⟨(xOK_pure (xs_aload_n (k := 0) rfl (show decode cX12_fly 18 = .ok (.aload_n 0, 1) by decide +kernel))),
  List.forall_mem_cons.mpr ⟨(xOK_pure (xs_iload_n (k := 1) rfl (show decode cX12_fly 19 = .ok (.iload_n 1, 1) by decide +kernel))),
  List.forall_mem_cons.mpr ⟨(xOK_pure (xs_iconst (n := 5) (show decode cX12_fly 20 = .ok (.iconst 5, 1) by decide +kernel) (by decide))),
  List.forall_mem_cons.mpr ⟨(xcm mi_195 ⟨⟨(by decide +kernel), (by decide +kernel), (by decide +kernel)⟩, (by decide), xw_2161, xw_125, Or.inl ⟨rfl, _, _, _, _, (show decode cX12_fly 21 = .ok (.invokevirtual 344, 3) by decide +kernel), xw_2158, xw_2160, xw_89, rfl⟩⟩),
  List.forall_mem_cons.mpr ⟨(xOK_pure (xs_iconst (n := 1) (show decode cX12_fly 24 = .ok (.iconst 1, 1) by decide +kernel) (by decide))),
  List.forall_mem_cons.mpr ⟨(xOK_pure (xs_iadd (show decode cX12_fly 25 = .ok (.iadd, 1) by decide +kernel))),
  List.forall_mem_cons.mpr ⟨(xcm mi_196 ⟨⟨(by decide +kernel), (by decide +kernel), (by decide +kernel)⟩, (by decide), xw_1985, xw_125, Or.inl ⟨rfl, _, _, _, _, (show decode cX12_fly 26 = .ok (.invokevirtual 199, 3) by decide +kernel), xw_1982, xw_1984, xw_60, rfl⟩⟩),
  (fun _ h => absurd h List.not_mem_nil)⟩⟩⟩⟩⟩⟩⟩⟩⟩⟩⟩⟩⟩⟩⟩⟩⟩⟩⟩⟩
def pX12_fly_1 (ev : xEv) : List (Nat × xEn) := [(29, .inl (xop (xf_aload 0 1))), (30, .inl (xop (xf_iload 1 1))), (31, .inl (xop (xf_push (.int 8) 2))), (33, .inl (xop (xf_aload 0 1))), (34, .inl (xop (xf_iload 1 1))), (35, .inl (xop (xf_push (.int 8) 2))), (37, .inr (.inl (0, 195, 2, 12))), (40, .inl (xop (xf_push (.int 1) 1))), (41, .inl (xop (xf_bin (fun x y => x - y)))), (42, .inr (.inl (0, 196, 3, 12))), (45, .inl (xop (xf_aload 0 1))), (46, .inl (xop (xf_iload 3 1))), (47, .inl (xop (xf_push (.int 2) 1))), (48, .inl (xop (xf_aload 0 1))), (49, .inl (xop (xf_iload 3 1))), (50, .inl (xop (xf_push (.int 2) 1))), (51, .inr (.inl (0, 197, 2, 12))), (54, .inl (xop (xf_push (.int 1) 1))), (55, .inl (xop (xf_bin (fun x y => x + y)))), (56, .inr (.inl (0, 198, 3, 12)))]
set_option maxRecDepth 20000 in
theorem okpX12_fly_1 (ev : xEv) : ∀ q ∈ pX12_fly_1 ev, xEnOK ev xmi yX12_fly.cls yX12_fly.name cX12_fly 11 none q :=
  List.forall_mem_cons.mpr ⟨(xOK_pure (xs_aload_n (k := 0) rfl (show decode cX12_fly 29 = .ok (.aload_n 0, 1) by decide +kernel))),
  List.forall_mem_cons.mpr ⟨(xOK_pure (xs_iload_n (k := 1) rfl (show decode cX12_fly 30 = .ok (.iload_n 1, 1) by decide +kernel))),
  List.forall_mem_cons.mpr ⟨(xOK_pure (xs_bipush (n := 8) (show decode cX12_fly 31 = .ok (.bipush 8, 2) by decide +kernel) (by decide))),
  List.forall_mem_cons.mpr ⟨(xOK_pure (xs_aload_n (k := 0) rfl (show decode cX12_fly 33 = .ok (.aload_n 0, 1) by decide +kernel))),
  List.forall_mem_cons.mpr ⟨(xOK_pure (xs_iload_n (k := 1) rfl (show decode cX12_fly 34 = .ok (.iload_n 1, 1) by decide +kernel))),
  List.forall_mem_cons.mpr ⟨(xOK_pure (xs_bipush (n := 8) (show decode cX12_fly 35 = .ok (.bipush 8, 2) by decide +kernel) (by decide))),
  List.forall_mem_cons.mpr ⟨(xcm mi_195 ⟨⟨(by decide +kernel), (by decide +kernel), (by decide +kernel)⟩, (by decide), xw_2161, xw_125, Or.inl ⟨rfl, _, _, _, _, (show decode cX12_fly 37 = .ok (.invokevirtual 344, 3) by decide +kernel), xw_2158, xw_2160, xw_89, rfl⟩⟩),
  List.forall_mem_cons.mpr ⟨(xOK_pure (xs_iconst (n := 1) (show decode cX12_fly 40 = .ok (.iconst 1, 1) by decide +kernel) (by decide))),
  List.forall_mem_cons.mpr ⟨(xOK_pure (xs_isub (show decode cX12_fly 41 = .ok (.isub, 1) by decide +kernel))),
  List.forall_mem_cons.mpr ⟨(xcm mi_196 ⟨⟨(by decide +kernel), (by decide +kernel), (by decide +kernel)⟩, (by decide), xw_1985, xw_125, Or.inl ⟨rfl, _, _, _, _, (show decode cX12_fly 42 = .ok (.invokevirtual 199, 3) by decide +kernel), xw_1982, xw_1984, xw_60, rfl⟩⟩),
  List.forall_mem_cons.mpr ⟨(xOK_pure (xs_aload_n (k := 0) rfl (show decode cX12_fly 45 = .ok (.aload_n 0, 1) by decide +kernel))),
  List.forall_mem_cons.mpr ⟨(xOK_pure (xs_iload_n (k := 3) rfl (show decode cX12_fly 46 = .ok (.iload_n 3, 1) by decide +kernel))),
  List.forall_mem_cons.mpr ⟨(xOK_pure (xs_iconst (n := 2) (show decode cX12_fly 47 = .ok (.iconst 2, 1) by decide +kernel) (by decide))),
  List.forall_mem_cons.mpr ⟨(xOK_pure (xs_aload_n (k := 0) rfl (show decode cX12_fly 48 = .ok (.aload_n 0, 1) by decide +kernel))),
  List.forall_mem_cons.mpr ⟨(xOK_pure (xs_iload_n (k := 3) rfl (show decode cX12_fly 49 = .ok (.iload_n 3, 1) by decide +kernel))),
  List.forall_mem_cons.mpr ⟨(xOK_pure (xs_iconst (n := 2) (show decode cX12_fly 50 = .ok (.iconst 2, 1) by decide +kernel) (by decide))),
  List.forall_mem_cons.mpr ⟨(xcm mi_197 ⟨⟨(by decide +kernel), (by decide +kernel), (by decide +kernel)⟩, (by decide), xw_2013, xw_125, Or.inl ⟨rfl, _, _, _, _, (show decode cX12_fly 51 = .ok (.invokevirtual 212, 3) by decide +kernel), xw_2010, xw_2012, xw_64, rfl⟩⟩),
  List.forall_mem_cons.mpr ⟨(xOK_pure (xs_iconst (n := 1) (show decode cX12_fly 54 = .ok (.iconst 1, 1) by decide +kernel) (by decide))),
  List.forall_mem_cons.mpr ⟨(xOK_pure (xs_iadd (show decode cX12_fly 55 = .ok (.iadd, 1) by decide +kernel))),
  List.forall_mem_cons.mpr ⟨(xcm mi_198 ⟨⟨(by decide +kernel), (by decide +kernel), (by decide +kernel)⟩, (by decide), xw_2001, xw_125, Or.inl ⟨rfl, _, _, _, _, (show decode cX12_fly 56 = .ok (.invokevirtual 206, 3) by decide +kernel), xw_1998, xw_2000, xw_62, rfl⟩⟩),
  (fun _ h => absurd h List.not_mem_nil)⟩⟩⟩⟩⟩⟩⟩⟩⟩⟩⟩⟩⟩⟩⟩⟩⟩⟩⟩⟩
def pX12_fly_2 (ev : xEv) : List (Nat × xEn) := [(59, .inl (xop (xf_aload 0 1))), (60, .inl (xop (xf_getf 12 48))), (63, .inl (xop (xf_push (.int 1) 1))), (64, .inl (xop xf_dup2)), (65, .inl (xop (xf_ald (ev.1 0)))), (66, .inl (xop (xf_aload 0 1))), (67, .inl (xop (xf_getf 12 36))), (70, .inl (xop (xf_bin (fun x y => x + y)))), (71, .inl (xo_ast (ev.1 0) (fun x => x))), (72, .inl (xop (xf_aload 0 1))), (73, .inl (xop (xf_iload 1 1))), (74, .inl (xop (xf_push (.int 7) 2))), (76, .inr (.inl (0, 195, 2, 12))), (79, .inl (xop (xf_if_le 98))), (82, .inl (xop (xf_aload 0 1))), (83, .inl (xop (xf_iload 1 1))), (84, .inl (xop (xf_push (.int 5) 1))), (85, .inr (.inl (0, 195, 2, 12))), (88, .inl (xop (xf_aload 0 1))), (89, .inl (xop (xf_iload 1 1)))]
set_option maxRecDepth 20000 in
theorem okpX12_fly_2 (ev : xEv) : ∀ q ∈ pX12_fly_2 ev, xEnOK ev xmi yX12_fly.cls yX12_fly.name cX12_fly 11 none q :=
  List.forall_mem_cons.mpr ⟨(xOK_pure (xs_aload_n (k := 0) rfl (show decode cX12_fly 59 = .ok (.aload_n 0, 1) by decide +kernel))),
  List.forall_mem_cons.mpr ⟨(xOK_pure (xs_getf xcl_12 (by decide) (show decode cX12_fly 60 = .ok (.getfield 121, 3) by decide +kernel) xw_1757)),
  List.forall_mem_cons.mpr ⟨(xOK_pure (xs_iconst (n := 1) (show decode cX12_fly 63 = .ok (.iconst 1, 1) by decide +kernel) (by decide))),
  List.forall_mem_cons.mpr ⟨(xOK_pure (xs_dup2 (show decode cX12_fly 64 = .ok (.dup2, 1) by decide +kernel))),
  List.forall_mem_cons.mpr ⟨(xOK_pure (xs_iald (show decode cX12_fly 65 = .ok (.iaload, 1) by decide +kernel))),
  List.forall_mem_cons.mpr ⟨(xOK_pure (xs_aload_n (k := 0) rfl (show decode cX12_fly 66 = .ok (.aload_n 0, 1) by decide +kernel))),
  List.forall_mem_cons.mpr ⟨(xOK_pure (xs_getf xcl_12 (by decide) (show decode cX12_fly 67 = .ok (.getfield 99, 3) by decide +kernel) xw_1745)),
  List.forall_mem_cons.mpr ⟨(xOK_pure (xs_iadd (show decode cX12_fly 70 = .ok (.iadd, 1) by decide +kernel))),
  List.forall_mem_cons.mpr ⟨(xs_iast (show decode cX12_fly 71 = .ok (.iastore, 1) by decide +kernel)),
  List.forall_mem_cons.mpr ⟨(xOK_pure (xs_aload_n (k := 0) rfl (show decode cX12_fly 72 = .ok (.aload_n 0, 1) by decide +kernel))),
  List.forall_mem_cons.mpr ⟨(xOK_pure (xs_iload_n (k := 1) rfl (show decode cX12_fly 73 = .ok (.iload_n 1, 1) by decide +kernel))),
  List.forall_mem_cons.mpr ⟨(xOK_pure (xs_bipush (n := 7) (show decode cX12_fly 74 = .ok (.bipush 7, 2) by decide +kernel) (by decide))),
  List.forall_mem_cons.mpr ⟨(xcm mi_195 ⟨⟨(by decide +kernel), (by decide +kernel), (by decide +kernel)⟩, (by decide), xw_2161, xw_125, Or.inl ⟨rfl, _, _, _, _, (show decode cX12_fly 76 = .ok (.invokevirtual 344, 3) by decide +kernel), xw_2158, xw_2160, xw_89, rfl⟩⟩),
  List.forall_mem_cons.mpr ⟨(xOK_pure (xs_if_le (show decode cX12_fly 79 = .ok (.ifCond .le 19, 3) by decide +kernel) (by decide))),
  List.forall_mem_cons.mpr ⟨(xOK_pure (xs_aload_n (k := 0) rfl (show decode cX12_fly 82 = .ok (.aload_n 0, 1) by decide +kernel))),
  List.forall_mem_cons.mpr ⟨(xOK_pure (xs_iload_n (k := 1) rfl (show decode cX12_fly 83 = .ok (.iload_n 1, 1) by decide +kernel))),
  List.forall_mem_cons.mpr ⟨(xOK_pure (xs_iconst (n := 5) (show decode cX12_fly 84 = .ok (.iconst 5, 1) by decide +kernel) (by decide))),
  List.forall_mem_cons.mpr ⟨(xcm mi_195 ⟨⟨(by decide +kernel), (by decide +kernel), (by decide +kernel)⟩, (by decide), xw_2161, xw_125, Or.inl ⟨rfl, _, _, _, _, (show decode cX12_fly 85 = .ok (.invokevirtual 344, 3) by decide +kernel), xw_2158, xw_2160, xw_89, rfl⟩⟩),
  List.forall_mem_cons.mpr ⟨(xOK_pure (xs_aload_n (k := 0) rfl (show decode cX12_fly 88 = .ok (.aload_n 0, 1) by decide +kernel))),
  List.forall_mem_cons.mpr ⟨(xOK_pure (xs_iload_n (k := 1) rfl (show decode cX12_fly 89 = .ok (.iload_n 1, 1) by decide +kernel))),
  (fun _ h => absurd h List.not_mem_nil)⟩⟩⟩⟩⟩⟩⟩⟩⟩⟩⟩⟩⟩⟩⟩⟩⟩⟩⟩⟩
def pX12_fly_3 (ev : xEv) : List (Nat × xEn) := [(90, .inl (xop (xf_push (.int 7) 2))), (92, .inr (.inl (0, 195, 2, 12))), (95, .inl (xop (xf_icmp_eq 108))), (98, .inl (xop (xf_aload 0 1))), (99, .inl (xop (xf_iload 1 1))), (100, .inl (xop (xf_push (.int 8) 2))), (102, .inr (.inl (0, 195, 2, 12))), (105, .inl (xop (xf_if_ge 114))), (108, .inl (xop (xf_aload 0 1))), (109, .inl (xop (xf_iload 1 1))), (110, .inr (.inl (0, 256, 1, 12))), (113, .inr (.inr 0)), (114, .inl (xop (xf_aload 0 1))), (115, .inl (xop (xf_iload 1 1))), (116, .inl (xop (xf_push (.int 10) 2))), (118, .inr (.inl (0, 195, 2, 12))), (121, .inl (xop (xf_push (.int 1) 1))), (122, .inl (xop (xf_icmp_ne 129))), (125, .inl (xop (xf_push (.int 1) 1))), (126, .inl (xop (xf_goto 130)))]
set_option maxRecDepth 20000 in
theorem okpX12_fly_3 (ev : xEv) : ∀ q ∈ pX12_fly_3 ev, xEnOK ev xmi yX12_fly.cls yX12_fly.name cX12_fly 11 none q :=
  List.forall_mem_cons.mpr ⟨(xOK_pure (xs_bipush (n := 7) (show decode cX12_fly 90 = .ok (.bipush 7, 2) by decide +kernel) (by decide))),
  List.forall_mem_cons.mpr ⟨(xcm mi_195 ⟨⟨(by decide +kernel), (by decide +kernel), (by decide +kernel)⟩, (by decide), xw_2161, xw_125, Or.inl ⟨rfl, _, _, _, _, (show decode cX12_fly 92 = .ok (.invokevirtual 344, 3) by decide +kernel), xw_2158, xw_2160, xw_89, rfl⟩⟩),
  List.forall_mem_cons.mpr ⟨(xOK_pure (xs_icmp_eq (show decode cX12_fly 95 = .ok (.if_icmp .eq 13, 3) by decide +kernel) (by decide))),
  List.forall_mem_cons.mpr ⟨(xOK_pure (xs_aload_n (k := 0) rfl (show decode cX12_fly 98 = .ok (.aload_n 0, 1) by decide +kernel))),
  List.forall_mem_cons.mpr ⟨(xOK_pure (xs_iload_n (k := 1) rfl (show decode cX12_fly 99 = .ok (.iload_n 1, 1) by decide +kernel))),
  List.forall_mem_cons.mpr ⟨(xOK_pure (xs_bipush (n := 8) (show decode cX12_fly 100 = .ok (.bipush 8, 2) by decide +kernel) (by decide))),
  List.forall_mem_cons.mpr ⟨(xcm mi_195 ⟨⟨(by decide +kernel), (by decide +kernel), (by decide +kernel)⟩, (by decide), xw_2161, xw_125, Or.inl ⟨rfl, _, _, _, _, (show decode cX12_fly 102 = .ok (.invokevirtual 344, 3) by decide +kernel), xw_2158, xw_2160, xw_89, rfl⟩⟩),
  List.forall_mem_cons.mpr ⟨(xOK_pure (xs_if_ge (show decode cX12_fly 105 = .ok (.ifCond .ge 9, 3) by decide +kernel) (by decide))),
  List.forall_mem_cons.mpr ⟨(xOK_pure (xs_aload_n (k := 0) rfl (show decode cX12_fly 108 = .ok (.aload_n 0, 1) by decide +kernel))),
  List.forall_mem_cons.mpr ⟨(xOK_pure (xs_iload_n (k := 1) rfl (show decode cX12_fly 109 = .ok (.iload_n 1, 1) by decide +kernel))),
  List.forall_mem_cons.mpr ⟨(xcm mi_256 ⟨⟨(by decide +kernel), (by decide +kernel), (by decide +kernel)⟩, (by decide), xw_2200, xw_125, Or.inl ⟨rfl, _, _, _, _, (show decode cX12_fly 110 = .ok (.invokevirtual 372, 3) by decide +kernel), xw_2197, xw_2199, xw_98, rfl⟩⟩),
  List.forall_mem_cons.mpr ⟨(Or.inl ⟨rfl, (show decode cX12_fly 113 = .ok (.return_, 1) by decide +kernel), rfl⟩),
  List.forall_mem_cons.mpr ⟨(xOK_pure (xs_aload_n (k := 0) rfl (show decode cX12_fly 114 = .ok (.aload_n 0, 1) by decide +kernel))),
  List.forall_mem_cons.mpr ⟨(xOK_pure (xs_iload_n (k := 1) rfl (show decode cX12_fly 115 = .ok (.iload_n 1, 1) by decide +kernel))),
  List.forall_mem_cons.mpr ⟨(xOK_pure (xs_bipush (n := 10) (show decode cX12_fly 116 = .ok (.bipush 10, 2) by decide +kernel) (by decide))),
  List.forall_mem_cons.mpr ⟨(xcm mi_195 ⟨⟨(by decide +kernel), (by decide +kernel), (by decide +kernel)⟩, (by decide), xw_2161, xw_125, Or.inl ⟨rfl, _, _, _, _, (show decode cX12_fly 118 = .ok (.invokevirtual 344, 3) by decide +kernel), xw_2158, xw_2160, xw_89, rfl⟩⟩),
  List.forall_mem_cons.mpr ⟨(xOK_pure (xs_iconst (n := 1) (show decode cX12_fly 121 = .ok (.iconst 1, 1) by decide +kernel) (by decide))),
  List.forall_mem_cons.mpr ⟨(xOK_pure (xs_icmp_ne (show decode cX12_fly 122 = .ok (.if_icmp .ne 7, 3) by decide +kernel) (by decide))),
  List.forall_mem_cons.mpr ⟨(xOK_pure (xs_iconst (n := 1) (show decode cX12_fly 125 = .ok (.iconst 1, 1) by decide +kernel) (by decide))),
  List.forall_mem_cons.mpr ⟨(xOK_pure (xs_goto (show decode cX12_fly 126 = .ok (.goto 4, 3) by decide +kernel) (by decide))),
  (fun _ h => absurd h List.not_mem_nil)⟩⟩⟩⟩⟩⟩⟩⟩⟩⟩⟩⟩⟩⟩⟩⟩⟩⟩⟩⟩
def pX12_fly_4 (ev : xEv) : List (Nat × xEn) := [(129, .inl (xop (xf_push (.int 0) 1))), (130, .inl (xop (xf_istore 4 2))), (132, .inl (xop (xf_aload 0 1))), (133, .inl (xop (xf_iload 1 1))), (134, .inl (xop (xf_push (.int 2) 1))), (135, .inr (.inl (0, 195, 2, 12))), (138, .inl (xop (xf_istore 5 2))), (140, .inl (xop (xf_aload 0 1))), (141, .inl (xop (xf_iload 2 1))), (142, .inl (xop (xf_aload 0 1))), (143, .inl (xop (xf_getf 12 48))), (146, .inl (xop (xf_push (.int 0) 1))), (147, .inl (xop (xf_ald (ev.1 0)))), (148, .inr (.inl (0, 212, 2, 12))), (151, .inl (xop (xf_istore 6 2))), (153, .inl (xop (xf_aload 0 1))), (154, .inl (xop (xf_iload 2 1))), (155, .inl (xop (xf_aload 0 1))), (156, .inl (xop (xf_getf 12 48))), (159, .inl (xop (xf_push (.int 0) 1)))]
set_option maxRecDepth 20000 in
theorem okpX12_fly_4 (ev : xEv) : ∀ q ∈ pX12_fly_4 ev, xEnOK ev xmi yX12_fly.cls yX12_fly.name cX12_fly 11 none q :=
  List.forall_mem_cons.mpr ⟨(xOK_pure (xs_iconst (n := 0) (show decode cX12_fly 129 = .ok (.iconst 0, 1) by decide +kernel) (by decide))),
  List.forall_mem_cons.mpr ⟨(xOK_pure (xs_istore (show decode cX12_fly 130 = .ok (.istore 4, 2) by decide +kernel) (by decide))),
  List.forall_mem_cons.mpr ⟨(xOK_pure (xs_aload_n (k := 0) rfl (show decode cX12_fly 132 = .ok (.aload_n 0, 1) by decide +kernel))),
  List.forall_mem_cons.mpr ⟨(xOK_pure (xs_iload_n (k := 1) rfl (show decode cX12_fly 133 = .ok (.iload_n 1, 1) by decide +kernel))),
  List.forall_mem_cons.mpr ⟨(xOK_pure (xs_iconst (n := 2) (show decode cX12_fly 134 = .ok (.iconst 2, 1) by decide +kernel) (by decide))),
  List.forall_mem_cons.mpr ⟨(xcm mi_195 ⟨⟨(by decide +kernel), (by decide +kernel), (by decide +kernel)⟩, (by decide), xw_2161, xw_125, Or.inl ⟨rfl, _, _, _, _, (show decode cX12_fly 135 = .ok (.invokevirtual 344, 3) by decide +kernel), xw_2158, xw_2160, xw_89, rfl⟩⟩),
  List.forall_mem_cons.mpr ⟨(xOK_pure (xs_istore (show decode cX12_fly 138 = .ok (.istore 5, 2) by decide +kernel) (by decide))),
  List.forall_mem_cons.mpr ⟨(xOK_pure (xs_aload_n (k := 0) rfl (show decode cX12_fly 140 = .ok (.aload_n 0, 1) by decide +kernel))),
  List.forall_mem_cons.mpr ⟨(xOK_pure (xs_iload_n (k := 2) rfl (show decode cX12_fly 141 = .ok (.iload_n 2, 1) by decide +kernel))),
  List.forall_mem_cons.mpr ⟨(xOK_pure (xs_aload_n (k := 0) rfl (show decode cX12_fly 142 = .ok (.aload_n 0, 1) by decide +kernel))),
  List.forall_mem_cons.mpr ⟨(xOK_pure (xs_getf xcl_12 (by decide) (show decode cX12_fly 143 = .ok (.getfield 121, 3) by decide +kernel) xw_1757)),
  List.forall_mem_cons.mpr ⟨(xOK_pure (xs_iconst (n := 0) (show decode cX12_fly 146 = .ok (.iconst 0, 1) by decide +kernel) (by decide))),
  List.forall_mem_cons.mpr ⟨(xOK_pure (xs_iald (show decode cX12_fly 147 = .ok (.iaload, 1) by decide +kernel))),
  List.forall_mem_cons.mpr ⟨(xcm mi_212 ⟨⟨(by decide +kernel), (by decide +kernel), (by decide +kernel)⟩, (by decide), xw_1953, xw_125, Or.inl ⟨rfl, _, _, _, _, (show decode cX12_fly 148 = .ok (.invokevirtual 185, 3) by decide +kernel), xw_1950, xw_1952, xw_55, rfl⟩⟩),
  List.forall_mem_cons.mpr ⟨(xOK_pure (xs_istore (show decode cX12_fly 151 = .ok (.istore 6, 2) by decide +kernel) (by decide))),
  List.forall_mem_cons.mpr ⟨(xOK_pure (xs_aload_n (k := 0) rfl (show decode cX12_fly 153 = .ok (.aload_n 0, 1) by decide +kernel))),
  List.forall_mem_cons.mpr ⟨(xOK_pure (xs_iload_n (k := 2) rfl (show decode cX12_fly 154 = .ok (.iload_n 2, 1) by decide +kernel))),
  List.forall_mem_cons.mpr ⟨(xOK_pure (xs_aload_n (k := 0) rfl (show decode cX12_fly 155 = .ok (.aload_n 0, 1) by decide +kernel))),
  List.forall_mem_cons.mpr ⟨(xOK_pure (xs_getf xcl_12 (by decide) (show decode cX12_fly 156 = .ok (.getfield 121, 3) by decide +kernel) xw_1757)),
  List.forall_mem_cons.mpr ⟨(xOK_pure (xs_iconst (n := 0) (show decode cX12_fly 159 = .ok (.iconst 0, 1) by decide +kernel) (by decide))),
  (fun _ h => absurd h List.not_mem_nil)⟩⟩⟩⟩⟩⟩⟩⟩⟩⟩⟩⟩⟩⟩⟩⟩⟩⟩⟩⟩
def pX12_fly_5 (ev : xEv) : List (Nat × xEn) := [(160, .inl (xop (xf_ald (ev.1 0)))), (161, .inr (.inl (0, 213, 2, 12))), (164, .inl (xop (xf_istore 7 2))), (166, .inl (xop (xf_aload 0 1))), (167, .inl (xop (xf_getf 12 56))), (170, .inl (xop (xf_push (.int 0) 1))), (171, .inl (xop (xf_iload 6 2))), (173, .inl (xop (xf_aload 0 1))), (174, .inl (xop (xf_getf 12 5))), (177, .inl (xop (xf_iload 2 1))), (178, .inl (xop (xf_ald (ev.1 0)))), (179, .inl (xop (xf_bin (fun x y => x - y)))), (180, .inl (xo_ast (ev.1 0) (fun x => x))), (181, .inl (xop (xf_aload 0 1))), (182, .inl (xop (xf_getf 12 56))), (185, .inl (xop (xf_push (.int 1) 1))), (186, .inl (xop (xf_iload 4 2))), (188, .inl (xop (xf_if_eq 196))), (191, .inl (xop (xf_iload 7 2))), (193, .inl (xop (xf_goto 199)))]
set_option maxRecDepth 20000 in
theorem okpX12_fly_5 (ev : xEv) : ∀ q ∈ pX12_fly_5 ev, xEnOK ev xmi yX12_fly.cls yX12_fly.name cX12_fly 11 none q :=
  List.forall_mem_cons.mpr ⟨(xOK_pure (xs_iald (show decode cX12_fly 160 = .ok (.iaload, 1) by decide +kernel))),
  List.forall_mem_cons.mpr ⟨(xcm mi_213 ⟨⟨(by decide +kernel), (by decide +kernel), (by decide +kernel)⟩, (by decide), xw_1961, xw_125, Or.inl ⟨rfl, _, _, _, _, (show decode cX12_fly 161 = .ok (.invokevirtual 188, 3) by decide +kernel), xw_1958, xw_1960, xw_57, rfl⟩⟩),
  List.forall_mem_cons.mpr ⟨(xOK_pure (xs_istore (show decode cX12_fly 164 = .ok (.istore 7, 2) by decide +kernel) (by decide))),
  List.forall_mem_cons.mpr ⟨(xOK_pure (xs_aload_n (k := 0) rfl (show decode cX12_fly 166 = .ok (.aload_n 0, 1) by decide +kernel))),
  List.forall_mem_cons.mpr ⟨(xOK_pure (xs_getf xcl_12 (by decide) (show decode cX12_fly 167 = .ok (.getfield 127, 3) by decide +kernel) xw_1765)),
  List.forall_mem_cons.mpr ⟨(xOK_pure (xs_iconst (n := 0) (show decode cX12_fly 170 = .ok (.iconst 0, 1) by decide +kernel) (by decide))),
  List.forall_mem_cons.mpr ⟨(xOK_pure (xs_iload (show decode cX12_fly 171 = .ok (.iload 6, 2) by decide +kernel))),
  List.forall_mem_cons.mpr ⟨(xOK_pure (xs_aload_n (k := 0) rfl (show decode cX12_fly 173 = .ok (.aload_n 0, 1) by decide +kernel))),
  List.forall_mem_cons.mpr ⟨(xOK_pure (xs_getf xcl_12 (by decide) (show decode cX12_fly 174 = .ok (.getfield 22, 3) by decide +kernel) xw_1714)),
  List.forall_mem_cons.mpr ⟨(xOK_pure (xs_iload_n (k := 2) rfl (show decode cX12_fly 177 = .ok (.iload_n 2, 1) by decide +kernel))),
  List.forall_mem_cons.mpr ⟨(xOK_pure (xs_iald (show decode cX12_fly 178 = .ok (.iaload, 1) by decide +kernel))),
  List.forall_mem_cons.mpr ⟨(xOK_pure (xs_isub (show decode cX12_fly 179 = .ok (.isub, 1) by decide +kernel))),
  List.forall_mem_cons.mpr ⟨(xs_iast (show decode cX12_fly 180 = .ok (.iastore, 1) by decide +kernel)),
  List.forall_mem_cons.mpr ⟨(xOK_pure (xs_aload_n (k := 0) rfl (show decode cX12_fly 181 = .ok (.aload_n 0, 1) by decide +kernel))),
  List.forall_mem_cons.mpr ⟨(xOK_pure (xs_getf xcl_12 (by decide) (show decode cX12_fly 182 = .ok (.getfield 127, 3) by decide +kernel) xw_1765)),
  List.forall_mem_cons.mpr ⟨(xOK_pure (xs_iconst (n := 1) (show decode cX12_fly 185 = .ok (.iconst 1, 1) by decide +kernel) (by decide))),
  List.forall_mem_cons.mpr ⟨(xOK_pure (xs_iload (show decode cX12_fly 186 = .ok (.iload 4, 2) by decide +kernel))),
  List.forall_mem_cons.mpr ⟨(xOK_pure (xs_if_eq (show decode cX12_fly 188 = .ok (.ifCond .eq 8, 3) by decide +kernel) (by decide))),
  List.forall_mem_cons.mpr ⟨(xOK_pure (xs_iload (show decode cX12_fly 191 = .ok (.iload 7, 2) by decide +kernel))),
  List.forall_mem_cons.mpr ⟨(xOK_pure (xs_goto (show decode cX12_fly 193 = .ok (.goto 6, 3) by decide +kernel) (by decide))),
  (fun _ h => absurd h List.not_mem_nil)⟩⟩⟩⟩⟩⟩⟩⟩⟩⟩⟩⟩⟩⟩⟩⟩⟩⟩⟩⟩
def pX12_fly_6 (ev : xEv) : List (Nat × xEn) := [(196, .inl (xop (xf_iload 7 2))), (198, .inl (xop (xf_un (fun x => -x)))), (199, .inl (xo_ast (ev.1 0) (fun x => x))), (200, .inl (xop (xf_aload 0 1))), (201, .inl (xop (xf_getf 12 56))), (204, .inl (xop (xf_push (.int 2) 1))), (205, .inl (xop (xf_push (.int 0) 1))), (206, .inl (xo_ast (ev.1 0) (fun x => x))), (207, .inl (xop (xf_aload 0 1))), (208, .inl (xop (xf_iload 1 1))), (209, .inl (xop (xf_iload 3 1))), (210, .inl (xop (xf_iload 2 1))), (211, .inl (xop (xf_iload 4 2))), (213, .inl (xop (xf_if_eq 225))), (216, .inl (xop (xf_aload 0 1))), (217, .inl (xop (xf_getf 12 3))), (220, .inl (xop (xf_iload 2 1))), (221, .inl (xop (xf_ald (ev.1 0)))), (222, .inl (xop (xf_goto 231))), (225, .inl (xop (xf_aload 0 1)))]
set_option maxRecDepth 20000 in
theorem okpX12_fly_6 (ev : xEv) : ∀ q ∈ pX12_fly_6 ev, xEnOK ev xmi yX12_fly.cls yX12_fly.name cX12_fly 11 none q :=
  List.forall_mem_cons.mpr ⟨(xOK_pure (xs_iload (show decode cX12_fly 196 = .ok (.iload 7, 2) by decide +kernel))),
  List.forall_mem_cons.mpr ⟨(xOK_pure (xs_ineg (show decode cX12_fly 198 = .ok (.ineg, 1) by decide +kernel))),
  List.forall_mem_cons.mpr ⟨(xs_iast (show decode cX12_fly 199 = .ok (.iastore, 1) by decide +kernel)),
  List.forall_mem_cons.mpr ⟨(xOK_pure (xs_aload_n (k := 0) rfl (show decode cX12_fly 200 = .ok (.aload_n 0, 1) by decide +kernel))),
  List.forall_mem_cons.mpr ⟨(xOK_pure (xs_getf xcl_12 (by decide) (show decode cX12_fly 201 = .ok (.getfield 127, 3) by decide +kernel) xw_1765)),
  List.forall_mem_cons.mpr ⟨(xOK_pure (xs_iconst (n := 2) (show decode cX12_fly 204 = .ok (.iconst 2, 1) by decide +kernel) (by decide))),
  List.forall_mem_cons.mpr ⟨(xOK_pure (xs_iconst (n := 0) (show decode cX12_fly 205 = .ok (.iconst 0, 1) by decide +kernel) (by decide))),
  List.forall_mem_cons.mpr ⟨(xs_iast (show decode cX12_fly 206 = .ok (.iastore, 1) by decide +kernel)),
  List.forall_mem_cons.mpr ⟨(xOK_pure (xs_aload_n (k := 0) rfl (show decode cX12_fly 207 = .ok (.aload_n 0, 1) by decide +kernel))),
  List.forall_mem_cons.mpr ⟨(xOK_pure (xs_iload_n (k := 1) rfl (show decode cX12_fly 208 = .ok (.iload_n 1, 1) by decide +kernel))),
  List.forall_mem_cons.mpr ⟨(xOK_pure (xs_iload_n (k := 3) rfl (show decode cX12_fly 209 = .ok (.iload_n 3, 1) by decide +kernel))),
  List.forall_mem_cons.mpr ⟨(xOK_pure (xs_iload_n (k := 2) rfl (show decode cX12_fly 210 = .ok (.iload_n 2, 1) by decide +kernel))),
  List.forall_mem_cons.mpr ⟨(xOK_pure (xs_iload (show decode cX12_fly 211 = .ok (.iload 4, 2) by decide +kernel))),
  List.forall_mem_cons.mpr ⟨(xOK_pure (xs_if_eq (show decode cX12_fly 213 = .ok (.ifCond .eq 12, 3) by decide +kernel) (by decide))),
  List.forall_mem_cons.mpr ⟨(xOK_pure (xs_aload_n (k := 0) rfl (show decode cX12_fly 216 = .ok (.aload_n 0, 1) by decide +kernel))),
  List.forall_mem_cons.mpr ⟨(xOK_pure (xs_getf xcl_12 (by decide) (show decode cX12_fly 217 = .ok (.getfield 16, 3) by decide +kernel) xw_1712)),
  List.forall_mem_cons.mpr ⟨(xOK_pure (xs_iload_n (k := 2) rfl (show decode cX12_fly 220 = .ok (.iload_n 2, 1) by decide +kernel))),
  List.forall_mem_cons.mpr ⟨(xOK_pure (xs_iald (show decode cX12_fly 221 = .ok (.iaload, 1) by decide +kernel))),
  List.forall_mem_cons.mpr ⟨(xOK_pure (xs_goto (show decode cX12_fly 222 = .ok (.goto 9, 3) by decide +kernel) (by decide))),
  List.forall_mem_cons.mpr ⟨(xOK_pure (xs_aload_n (k := 0) rfl (show decode cX12_fly 225 = .ok (.aload_n 0, 1) by decide +kernel))),
  (fun _ h => absurd h List.not_mem_nil)⟩⟩⟩⟩⟩⟩⟩⟩⟩⟩⟩⟩⟩⟩⟩⟩⟩⟩⟩⟩
def pX12_fly_7 (ev : xEv) : List (Nat × xEn) := [(226, .inl (xop (xf_getf 12 2))), (229, .inl (xop (xf_iload 2 1))), (230, .inl (xop (xf_ald (ev.1 0)))), (231, .inl (xop (xf_aload 0 1))), (232, .inl (xop (xf_iload 1 1))), (233, .inl (xop (xf_push (.int 8) 2))), (235, .inr (.inl (0, 195, 2, 12))), (238, .inl (xop (xf_iload 4 2))), (240, .inl (xop (xf_if_eq 255))), (243, .inl (xop (xf_aload 0 1))), (244, .inl (xop (xf_getf 12 4))), (247, .inl (xop (xf_iload 2 1))), (248, .inl (xop (xf_ald (ev.1 0)))), (249, .inl (xop (xf_iload 5 2))), (251, .inl (xop (xf_bin (fun x y => x - y)))), (252, .inl (xop (xf_goto 257))), (255, .inl (xop (xf_iload 5 2))), (257, .inr (.inl (0, 254, 6, 12))), (260, .inl (xop (xf_aload 0 1))), (261, .inl (xop (xf_push (.int 1) 1)))]
set_option maxRecDepth 20000 in
theorem okpX12_fly_7 (ev : xEv) : ∀ q ∈ pX12_fly_7 ev, xEnOK ev xmi yX12_fly.cls yX12_fly.name cX12_fly 11 none q :=
  List.forall_mem_cons.mpr ⟨(xOK_pure (xs_getf xcl_12 (by decide) (show decode cX12_fly 226 = .ok (.getfield 13, 3) by decide +kernel) xw_1711)),
  List.forall_mem_cons.mpr ⟨(xOK_pure (xs_iload_n (k := 2) rfl (show decode cX12_fly 229 = .ok (.iload_n 2, 1) by decide +kernel))),
  List.forall_mem_cons.mpr ⟨(xOK_pure (xs_iald (show decode cX12_fly 230 = .ok (.iaload, 1) by decide +kernel))),
  List.forall_mem_cons.mpr ⟨(xOK_pure (xs_aload_n (k := 0) rfl (show decode cX12_fly 231 = .ok (.aload_n 0, 1) by decide +kernel))),
  List.forall_mem_cons.mpr ⟨(xOK_pure (xs_iload_n (k := 1) rfl (show decode cX12_fly 232 = .ok (.iload_n 1, 1) by decide +kernel))),
  List.forall_mem_cons.mpr ⟨(xOK_pure (xs_bipush (n := 8) (show decode cX12_fly 233 = .ok (.bipush 8, 2) by decide +kernel) (by decide))),
  List.forall_mem_cons.mpr ⟨(xcm mi_195 ⟨⟨(by decide +kernel), (by decide +kernel), (by decide +kernel)⟩, (by decide), xw_2161, xw_125, Or.inl ⟨rfl, _, _, _, _, (show decode cX12_fly 235 = .ok (.invokevirtual 344, 3) by decide +kernel), xw_2158, xw_2160, xw_89, rfl⟩⟩),
  List.forall_mem_cons.mpr ⟨(xOK_pure (xs_iload (show decode cX12_fly 238 = .ok (.iload 4, 2) by decide +kernel))),
  List.forall_mem_cons.mpr ⟨(xOK_pure (xs_if_eq (show decode cX12_fly 240 = .ok (.ifCond .eq 15, 3) by decide +kernel) (by decide))),
  List.forall_mem_cons.mpr ⟨(xOK_pure (xs_aload_n (k := 0) rfl (show decode cX12_fly 243 = .ok (.aload_n 0, 1) by decide +kernel))),
  List.forall_mem_cons.mpr ⟨(xOK_pure (xs_getf xcl_12 (by decide) (show decode cX12_fly 244 = .ok (.getfield 19, 3) by decide +kernel) xw_1713)),
  List.forall_mem_cons.mpr ⟨(xOK_pure (xs_iload_n (k := 2) rfl (show decode cX12_fly 247 = .ok (.iload_n 2, 1) by decide +kernel))),
  List.forall_mem_cons.mpr ⟨(xOK_pure (xs_iald (show decode cX12_fly 248 = .ok (.iaload, 1) by decide +kernel))),
  List.forall_mem_cons.mpr ⟨(xOK_pure (xs_iload (show decode cX12_fly 249 = .ok (.iload 5, 2) by decide +kernel))),
  List.forall_mem_cons.mpr ⟨(xOK_pure (xs_isub (show decode cX12_fly 251 = .ok (.isub, 1) by decide +kernel))),
  List.forall_mem_cons.mpr ⟨(xOK_pure (xs_goto (show decode cX12_fly 252 = .ok (.goto 5, 3) by decide +kernel) (by decide))),
  List.forall_mem_cons.mpr ⟨(xOK_pure (xs_iload (show decode cX12_fly 255 = .ok (.iload 5, 2) by decide +kernel))),
  List.forall_mem_cons.mpr ⟨(xcm mi_254 ⟨⟨(by decide +kernel), (by decide +kernel), (by decide +kernel)⟩, (by decide), xw_2172, xw_125, Or.inl ⟨rfl, _, _, _, _, (show decode cX12_fly 257 = .ok (.invokevirtual 352, 3) by decide +kernel), xw_2169, xw_2171, xw_91, rfl⟩⟩),
  List.forall_mem_cons.mpr ⟨(xOK_pure (xs_aload_n (k := 0) rfl (show decode cX12_fly 260 = .ok (.aload_n 0, 1) by decide +kernel))),
  List.forall_mem_cons.mpr ⟨(xOK_pure (xs_iconst (n := 1) (show decode cX12_fly 261 = .ok (.iconst 1, 1) by decide +kernel) (by decide))),
  (fun _ h => absurd h List.not_mem_nil)⟩⟩⟩⟩⟩⟩⟩⟩⟩⟩⟩⟩⟩⟩⟩⟩⟩⟩⟩⟩
def pX12_fly_8 (ev : xEv) : List (Nat × xEn) := [(262, .inl (xop (xf_aload 0 1))), (263, .inl (xop (xf_iload 1 1))), (264, .inl (xop (xf_push (.int 12) 2))), (266, .inr (.inl (0, 195, 2, 12))), (269, .inl (xop (xf_push (.int 1) 1))), (270, .inr (.inl (0, 247, 3, 12))), (273, .inl (xop (xf_istore 8 2))), (275, .inl (xop (xf_iload 8 2))), (277, .inl (xop (xf_push (.int 76) 2))), (279, .inl (xop (xf_icmp_ne 288))), (282, .inl (xop (xf_aload 0 1))), (283, .inl (xop (xf_iload 1 1))), (284, .inr (.inl (0, 256, 1, 12))), (287, .inr (.inr 0)), (288, .inl (xop (xf_iload 8 2))), (290, .inl (xop (xf_push (.int 84) 2))), (292, .inl (xop (xf_icmp_ne 324))), (295, .inl (xop (xf_iload 4 2))), (297, .inl (xop (xf_if_ne 304))), (300, .inl (xop (xf_push (.int 1) 1)))]
set_option maxRecDepth 20000 in
theorem okpX12_fly_8 (ev : xEv) : ∀ q ∈ pX12_fly_8 ev, xEnOK ev xmi yX12_fly.cls yX12_fly.name cX12_fly 11 none q :=
  List.forall_mem_cons.mpr ⟨(xOK_pure (xs_aload_n (k := 0) rfl (show decode cX12_fly 262 = .ok (.aload_n 0, 1) by decide +kernel))),
  List.forall_mem_cons.mpr ⟨(xOK_pure (xs_iload_n (k := 1) rfl (show decode cX12_fly 263 = .ok (.iload_n 1, 1) by decide +kernel))),
  List.forall_mem_cons.mpr ⟨(xOK_pure (xs_bipush (n := 12) (show decode cX12_fly 264 = .ok (.bipush 12, 2) by decide +kernel) (by decide))),
  List.forall_mem_cons.mpr ⟨(xcm mi_195 ⟨⟨(by decide +kernel), (by decide +kernel), (by decide +kernel)⟩, (by decide), xw_2161, xw_125, Or.inl ⟨rfl, _, _, _, _, (show decode cX12_fly 266 = .ok (.invokevirtual 344, 3) by decide +kernel), xw_2158, xw_2160, xw_89, rfl⟩⟩),
  List.forall_mem_cons.mpr ⟨(xOK_pure (xs_iconst (n := 1) (show decode cX12_fly 269 = .ok (.iconst 1, 1) by decide +kernel) (by decide))),
  List.forall_mem_cons.mpr ⟨(xcm mi_247 ⟨⟨(by decide +kernel), (by decide +kernel), (by decide +kernel)⟩, (by decide), xw_2180, xw_125, Or.inl ⟨rfl, _, _, _, _, (show decode cX12_fly 270 = .ok (.invokevirtual 356, 3) by decide +kernel), xw_2177, xw_2179, xw_93, rfl⟩⟩),
  List.forall_mem_cons.mpr ⟨(xOK_pure (xs_istore (show decode cX12_fly 273 = .ok (.istore 8, 2) by decide +kernel) (by decide))),
  List.forall_mem_cons.mpr ⟨(xOK_pure (xs_iload (show decode cX12_fly 275 = .ok (.iload 8, 2) by decide +kernel))),
  List.forall_mem_cons.mpr ⟨(xOK_pure (xs_bipush (n := 76) (show decode cX12_fly 277 = .ok (.bipush 76, 2) by decide +kernel) (by decide))),
  List.forall_mem_cons.mpr ⟨(xOK_pure (xs_icmp_ne (show decode cX12_fly 279 = .ok (.if_icmp .ne 9, 3) by decide +kernel) (by decide))),
  List.forall_mem_cons.mpr ⟨(xOK_pure (xs_aload_n (k := 0) rfl (show decode cX12_fly 282 = .ok (.aload_n 0, 1) by decide +kernel))),
  List.forall_mem_cons.mpr ⟨(xOK_pure (xs_iload_n (k := 1) rfl (show decode cX12_fly 283 = .ok (.iload_n 1, 1) by decide +kernel))),
  List.forall_mem_cons.mpr ⟨(xcm mi_256 ⟨⟨(by decide +kernel), (by decide +kernel), (by decide +kernel)⟩, (by decide), xw_2200, xw_125, Or.inl ⟨rfl, _, _, _, _, (show decode cX12_fly 284 = .ok (.invokevirtual 372, 3) by decide +kernel), xw_2197, xw_2199, xw_98, rfl⟩⟩),
  List.forall_mem_cons.mpr ⟨(Or.inl ⟨rfl, (show decode cX12_fly 287 = .ok (.return_, 1) by decide +kernel), rfl⟩),
  List.forall_mem_cons.mpr ⟨(xOK_pure (xs_iload (show decode cX12_fly 288 = .ok (.iload 8, 2) by decide +kernel))),
  List.forall_mem_cons.mpr ⟨(xOK_pure (xs_bipush (n := 84) (show decode cX12_fly 290 = .ok (.bipush 84, 2) by decide +kernel) (by decide))),
  List.forall_mem_cons.mpr ⟨(xOK_pure (xs_icmp_ne (show decode cX12_fly 292 = .ok (.if_icmp .ne 32, 3) by decide +kernel) (by decide))),
  List.forall_mem_cons.mpr ⟨(xOK_pure (xs_iload (show decode cX12_fly 295 = .ok (.iload 4, 2) by decide +kernel))),
  List.forall_mem_cons.mpr ⟨(xOK_pure (xs_if_ne (show decode cX12_fly 297 = .ok (.ifCond .ne 7, 3) by decide +kernel) (by decide))),
  List.forall_mem_cons.mpr ⟨(xOK_pure (xs_iconst (n := 1) (show decode cX12_fly 300 = .ok (.iconst 1, 1) by decide +kernel) (by decide))),
  (fun _ h => absurd h List.not_mem_nil)⟩⟩⟩⟩⟩⟩⟩⟩⟩⟩⟩⟩⟩⟩⟩⟩⟩⟩⟩⟩
def pX12_fly_9 (ev : xEv) : List (Nat × xEn) := [(301, .inl (xop (xf_goto 305))), (304, .inl (xop (xf_push (.int 0) 1))), (305, .inl (xop (xf_istore 4 2))), (307, .inl (xop (xf_aload 0 1))), (308, .inl (xop (xf_iload 1 1))), (309, .inl (xop (xf_push (.int 10) 2))), (311, .inl (xop (xf_iload 4 2))), (313, .inl (xop (xf_if_eq 320))), (316, .inl (xop (xf_push (.int 1) 1))), (317, .inl (xop (xf_goto 321))), (320, .inl (xop (xf_push (.int 0) 1))), (321, .inr (.inl (0, 196, 3, 12))), (324, .inl (xop (xf_iload 6 2))), (326, .inl (xop (xf_aload 0 1))), (327, .inl (xop (xf_getf 12 5))), (330, .inl (xop (xf_iload 2 1))), (331, .inl (xop (xf_ald (ev.1 0)))), (332, .inl (xop (xf_icmp_ge 354))), (335, .inl (xop (xf_aload 0 1))), (336, .inl (xop (xf_iload 3 1)))]
set_option maxRecDepth 20000 in
theorem okpX12_fly_9 (ev : xEv) : ∀ q ∈ pX12_fly_9 ev, xEnOK ev xmi yX12_fly.cls yX12_fly.name cX12_fly 11 none q :=
  List.forall_mem_cons.mpr ⟨(xOK_pure (xs_goto (show decode cX12_fly 301 = .ok (.goto 4, 3) by decide +kernel) (by decide))),
  List.forall_mem_cons.mpr ⟨(xOK_pure (xs_iconst (n := 0) (show decode cX12_fly 304 = .ok (.iconst 0, 1) by decide +kernel) (by decide))),
  List.forall_mem_cons.mpr ⟨(xOK_pure (xs_istore (show decode cX12_fly 305 = .ok (.istore 4, 2) by decide +kernel) (by decide))),
  List.forall_mem_cons.mpr ⟨(xOK_pure (xs_aload_n (k := 0) rfl (show decode cX12_fly 307 = .ok (.aload_n 0, 1) by decide +kernel))),
  List.forall_mem_cons.mpr ⟨(xOK_pure (xs_iload_n (k := 1) rfl (show decode cX12_fly 308 = .ok (.iload_n 1, 1) by decide +kernel))),
  List.forall_mem_cons.mpr ⟨(xOK_pure (xs_bipush (n := 10) (show decode cX12_fly 309 = .ok (.bipush 10, 2) by decide +kernel) (by decide))),
  List.forall_mem_cons.mpr ⟨(xOK_pure (xs_iload (show decode cX12_fly 311 = .ok (.iload 4, 2) by decide +kernel))),
  List.forall_mem_cons.mpr ⟨(xOK_pure (xs_if_eq (show decode cX12_fly 313 = .ok (.ifCond .eq 7, 3) by decide +kernel) (by decide))),
  List.forall_mem_cons.mpr ⟨(xOK_pure (xs_iconst (n := 1) (show decode cX12_fly 316 = .ok (.iconst 1, 1) by decide +kernel) (by decide))),
  List.forall_mem_cons.mpr ⟨(xOK_pure (xs_goto (show decode cX12_fly 317 = .ok (.goto 4, 3) by decide +kernel) (by decide))),
  List.forall_mem_cons.mpr ⟨(xOK_pure (xs_iconst (n := 0) (show decode cX12_fly 320 = .ok (.iconst 0, 1) by decide +kernel) (by decide))),
  List.forall_mem_cons.mpr ⟨(xcm mi_196 ⟨⟨(by decide +kernel), (by decide +kernel), (by decide +kernel)⟩, (by decide), xw_1985, xw_125, Or.inl ⟨rfl, _, _, _, _, (show decode cX12_fly 321 = .ok (.invokevirtual 199, 3) by decide +kernel), xw_1982, xw_1984, xw_60, rfl⟩⟩),
  List.forall_mem_cons.mpr ⟨(xOK_pure (xs_iload (show decode cX12_fly 324 = .ok (.iload 6, 2) by decide +kernel))),
  List.forall_mem_cons.mpr ⟨(xOK_pure (xs_aload_n (k := 0) rfl (show decode cX12_fly 326 = .ok (.aload_n 0, 1) by decide +kernel))),
  List.forall_mem_cons.mpr ⟨(xOK_pure (xs_getf xcl_12 (by decide) (show decode cX12_fly 327 = .ok (.getfield 22, 3) by decide +kernel) xw_1714)),
  List.forall_mem_cons.mpr ⟨(xOK_pure (xs_iload_n (k := 2) rfl (show decode cX12_fly 330 = .ok (.iload_n 2, 1) by decide +kernel))),
  List.forall_mem_cons.mpr ⟨(xOK_pure (xs_iald (show decode cX12_fly 331 = .ok (.iaload, 1) by decide +kernel))),
  List.forall_mem_cons.mpr ⟨(xOK_pure (xs_icmp_ge (show decode cX12_fly 332 = .ok (.if_icmp .ge 22, 3) by decide +kernel) (by decide))),
  List.forall_mem_cons.mpr ⟨(xOK_pure (xs_aload_n (k := 0) rfl (show decode cX12_fly 335 = .ok (.aload_n 0, 1) by decide +kernel))),
  List.forall_mem_cons.mpr ⟨(xOK_pure (xs_iload_n (k := 3) rfl (show decode cX12_fly 336 = .ok (.iload_n 3, 1) by decide +kernel))),
  (fun _ h => absurd h List.not_mem_nil)⟩⟩⟩⟩⟩⟩⟩⟩⟩⟩⟩⟩⟩⟩⟩⟩⟩⟩⟩⟩
def pX12_fly_10 (ev : xEv) : List (Nat × xEn) := [(337, .inl (xop (xf_push (.int 3) 1))), (338, .inr (.inl (0, 197, 2, 12))), (341, .inl (xop (xf_iload 2 1))), (342, .inl (xop (xf_bin (fun x y => x >>> (y &&& 31))))), (343, .inl (xop (xf_push (.int 1) 1))), (344, .inl (xop (xf_bin (fun x y => x &&& y)))), (345, .inl (xop (xf_if_ne 354))), (348, .inl (xop (xf_aload 0 1))), (349, .inl (xop (xf_iload 1 1))), (350, .inr (.inl (0, 256, 1, 12))), (353, .inr (.inr 0)), (354, .inl (xop (xf_push (.int 1) 1))), (355, .inl (xop (xf_aload 0 1))), (356, .inl (xop (xf_getf 12 16))), (359, .inl (xop (xf_iload 1 1))), (360, .inl (xop (xf_ald (ev.1 0)))), (361, .inl (xop (xf_iload 4 2))), (363, .inl (xop (xf_if_eq 371))), (366, .inl (xop (xf_iload 7 2))), (368, .inl (xop (xf_goto 374)))]
set_option maxRecDepth 20000 in
theorem okpX12_fly_10 (ev : xEv) : ∀ q ∈ pX12_fly_10 ev, xEnOK ev xmi yX12_fly.cls yX12_fly.name cX12_fly 11 none q :=
  List.forall_mem_cons.mpr ⟨(xOK_pure (xs_iconst (n := 3) (show decode cX12_fly 337 = .ok (.iconst 3, 1) by decide +kernel) (by decide))),
  List.forall_mem_cons.mpr ⟨(xcm mi_197 ⟨⟨(by decide +kernel), (by decide +kernel), (by decide +kernel)⟩, (by decide), xw_2013, xw_125, Or.inl ⟨rfl, _, _, _, _, (show decode cX12_fly 338 = .ok (.invokevirtual 212, 3) by decide +kernel), xw_2010, xw_2012, xw_64, rfl⟩⟩),
  List.forall_mem_cons.mpr ⟨(xOK_pure (xs_iload_n (k := 2) rfl (show decode cX12_fly 341 = .ok (.iload_n 2, 1) by decide +kernel))),
  List.forall_mem_cons.mpr ⟨(xOK_pure (xs_ishr (show decode cX12_fly 342 = .ok (.ishr, 1) by decide +kernel))),
  List.forall_mem_cons.mpr ⟨(xOK_pure (xs_iconst (n := 1) (show decode cX12_fly 343 = .ok (.iconst 1, 1) by decide +kernel) (by decide))),
  List.forall_mem_cons.mpr ⟨(xOK_pure (xs_iand (show decode cX12_fly 344 = .ok (.iand, 1) by decide +kernel))),
  List.forall_mem_cons.mpr ⟨(xOK_pure (xs_if_ne (show decode cX12_fly 345 = .ok (.ifCond .ne 9, 3) by decide +kernel) (by decide))),
  List.forall_mem_cons.mpr ⟨(xOK_pure (xs_aload_n (k := 0) rfl (show decode cX12_fly 348 = .ok (.aload_n 0, 1) by decide +kernel))),
  List.forall_mem_cons.mpr ⟨(xOK_pure (xs_iload_n (k := 1) rfl (show decode cX12_fly 349 = .ok (.iload_n 1, 1) by decide +kernel))),
  List.forall_mem_cons.mpr ⟨(xcm mi_256 ⟨⟨(by decide +kernel), (by decide +kernel), (by decide +kernel)⟩, (by decide), xw_2200, xw_125, Or.inl ⟨rfl, _, _, _, _, (show decode cX12_fly 350 = .ok (.invokevirtual 372, 3) by decide +kernel), xw_2197, xw_2199, xw_98, rfl⟩⟩),
  List.forall_mem_cons.mpr ⟨(Or.inl ⟨rfl, (show decode cX12_fly 353 = .ok (.return_, 1) by decide +kernel), rfl⟩),
  List.forall_mem_cons.mpr ⟨(xOK_pure (xs_iconst (n := 1) (show decode cX12_fly 354 = .ok (.iconst 1, 1) by decide +kernel) (by decide))),
  List.forall_mem_cons.mpr ⟨(xOK_pure (xs_aload_n (k := 0) rfl (show decode cX12_fly 355 = .ok (.aload_n 0, 1) by decide +kernel))),
  List.forall_mem_cons.mpr ⟨(xOK_pure (xs_getf xcl_12 (by decide) (show decode cX12_fly 356 = .ok (.getfield 49, 3) by decide +kernel) xw_1725)),
  List.forall_mem_cons.mpr ⟨(xOK_pure (xs_iload_n (k := 1) rfl (show decode cX12_fly 359 = .ok (.iload_n 1, 1) by decide +kernel))),
  List.forall_mem_cons.mpr ⟨(xOK_pure (xs_iald (show decode cX12_fly 360 = .ok (.iaload, 1) by decide +kernel))),
  List.forall_mem_cons.mpr ⟨(xOK_pure (xs_iload (show decode cX12_fly 361 = .ok (.iload 4, 2) by decide +kernel))),
  List.forall_mem_cons.mpr ⟨(xOK_pure (xs_if_eq (show decode cX12_fly 363 = .ok (.ifCond .eq 8, 3) by decide +kernel) (by decide))),
  List.forall_mem_cons.mpr ⟨(xOK_pure (xs_iload (show decode cX12_fly 366 = .ok (.iload 7, 2) by decide +kernel))),
  List.forall_mem_cons.mpr ⟨(xOK_pure (xs_goto (show decode cX12_fly 368 = .ok (.goto 6, 3) by decide +kernel) (by decide))),
  (fun _ h => absurd h List.not_mem_nil)⟩⟩⟩⟩⟩⟩⟩⟩⟩⟩⟩⟩⟩⟩⟩⟩⟩⟩⟩⟩
def pX12_fly_11 (ev : xEv) : List (Nat × xEn) := [(371, .inl (xop (xf_iload 7 2))), (373, .inl (xop (xf_un (fun x => -x)))), (374, .inl (xop (xf_bin (fun x y => x + y)))), (375, .inl (xop (xf_m2 (fun x y => if x < y then y else x)))), (378, .inl (xop (xf_istore 9 2))), (380, .inl (xop (xf_iload 4 2))), (382, .inl (xop (xf_if_eq 393))), (385, .inl (xop (xf_iload 5 2))), (387, .inl (xop (xf_iload 9 2))), (389, .inl (xop (xf_bin (fun x y => x + y)))), (390, .inl (xop (xf_goto 398))), (393, .inl (xop (xf_iload 5 2))), (395, .inl (xop (xf_iload 9 2))), (397, .inl (xop (xf_bin (fun x y => x - y)))), (398, .inl (xop (xf_istore 10 2))), (400, .inl (xop (xf_iload 4 2))), (402, .inl (xop (xf_if_eq 430))), (405, .inl (xop (xf_iload 10 2))), (407, .inl (xop (xf_aload 0 1))), (408, .inl (xop (xf_getf 12 4)))]
set_option maxRecDepth 20000 in
theorem okpX12_fly_11 (ev : xEv) : ∀ q ∈ pX12_fly_11 ev, xEnOK ev xmi yX12_fly.cls yX12_fly.name cX12_fly 11 none q :=
  List.forall_mem_cons.mpr ⟨(xOK_pure (xs_iload (show decode cX12_fly 371 = .ok (.iload 7, 2) by decide +kernel))),
  List.forall_mem_cons.mpr ⟨(xOK_pure (xs_ineg (show decode cX12_fly 373 = .ok (.ineg, 1) by decide +kernel))),
  List.forall_mem_cons.mpr ⟨(xOK_pure (xs_iadd (show decode cX12_fly 374 = .ok (.iadd, 1) by decide +kernel))),
  List.forall_mem_cons.mpr ⟨(xOK_pure (xs_mmax (show decode cX12_fly 375 = .ok (.invokestatic 231, 3) by decide +kernel) xw_2041 xw_829 xw_127 xw_830)),
  List.forall_mem_cons.mpr ⟨(xOK_pure (xs_istore (show decode cX12_fly 378 = .ok (.istore 9, 2) by decide +kernel) (by decide))),
  List.forall_mem_cons.mpr ⟨(xOK_pure (xs_iload (show decode cX12_fly 380 = .ok (.iload 4, 2) by decide +kernel))),
  List.forall_mem_cons.mpr ⟨(xOK_pure (xs_if_eq (show decode cX12_fly 382 = .ok (.ifCond .eq 11, 3) by decide +kernel) (by decide))),
  List.forall_mem_cons.mpr ⟨(xOK_pure (xs_iload (show decode cX12_fly 385 = .ok (.iload 5, 2) by decide +kernel))),
  List.forall_mem_cons.mpr ⟨(xOK_pure (xs_iload (show decode cX12_fly 387 = .ok (.iload 9, 2) by decide +kernel))),
  List.forall_mem_cons.mpr ⟨(xOK_pure (xs_iadd (show decode cX12_fly 389 = .ok (.iadd, 1) by decide +kernel))),
  List.forall_mem_cons.mpr ⟨(xOK_pure (xs_goto (show decode cX12_fly 390 = .ok (.goto 8, 3) by decide +kernel) (by decide))),
  List.forall_mem_cons.mpr ⟨(xOK_pure (xs_iload (show decode cX12_fly 393 = .ok (.iload 5, 2) by decide +kernel))),
  List.forall_mem_cons.mpr ⟨(xOK_pure (xs_iload (show decode cX12_fly 395 = .ok (.iload 9, 2) by decide +kernel))),
  List.forall_mem_cons.mpr ⟨(xOK_pure (xs_isub (show decode cX12_fly 397 = .ok (.isub, 1) by decide +kernel))),
  List.forall_mem_cons.mpr ⟨(xOK_pure (xs_istore (show decode cX12_fly 398 = .ok (.istore 10, 2) by decide +kernel) (by decide))),
  List.forall_mem_cons.mpr ⟨(xOK_pure (xs_iload (show decode cX12_fly 400 = .ok (.iload 4, 2) by decide +kernel))),
  List.forall_mem_cons.mpr ⟨(xOK_pure (xs_if_eq (show decode cX12_fly 402 = .ok (.ifCond .eq 28, 3) by decide +kernel) (by decide))),
  List.forall_mem_cons.mpr ⟨(xOK_pure (xs_iload (show decode cX12_fly 405 = .ok (.iload 10, 2) by decide +kernel))),
  List.forall_mem_cons.mpr ⟨(xOK_pure (xs_aload_n (k := 0) rfl (show decode cX12_fly 407 = .ok (.aload_n 0, 1) by decide +kernel))),
  List.forall_mem_cons.mpr ⟨(xOK_pure (xs_getf xcl_12 (by decide) (show decode cX12_fly 408 = .ok (.getfield 19, 3) by decide +kernel) xw_1713)),
  (fun _ h => absurd h List.not_mem_nil)⟩⟩⟩⟩⟩⟩⟩⟩⟩⟩⟩⟩⟩⟩⟩⟩⟩⟩⟩⟩
def pX12_fly_12 (ev : xEv) : List (Nat × xEn) := [(411, .inl (xop (xf_iload 2 1))), (412, .inl (xop (xf_ald (ev.1 0)))), (413, .inl (xop (xf_icmp_lt 430))), (416, .inl (xop (xf_aload 0 1))), (417, .inl (xop (xf_iload 1 1))), (418, .inl (xop (xf_aload 0 1))), (419, .inl (xop (xf_getf 12 3))), (422, .inl (xop (xf_iload 2 1))), (423, .inl (xop (xf_ald (ev.1 0)))), (424, .inr (.inl (0, 258, 2, 12))), (427, .inl (xop (xf_goto 462))), (430, .inl (xop (xf_iload 4 2))), (432, .inl (xop (xf_if_ne 454))), (435, .inl (xop (xf_iload 10 2))), (437, .inl (xop (xf_if_gt 454))), (440, .inl (xop (xf_aload 0 1))), (441, .inl (xop (xf_iload 1 1))), (442, .inl (xop (xf_aload 0 1))), (443, .inl (xop (xf_getf 12 2))), (446, .inl (xop (xf_iload 2 1)))]
set_option maxRecDepth 20000 in
theorem okpX12_fly_12 (ev : xEv) : ∀ q ∈ pX12_fly_12 ev, xEnOK ev xmi yX12_fly.cls yX12_fly.name cX12_fly 11 none q :=
  List.forall_mem_cons.mpr ⟨(xOK_pure (xs_iload_n (k := 2) rfl (show decode cX12_fly 411 = .ok (.iload_n 2, 1) by decide +kernel))),
  List.forall_mem_cons.mpr ⟨(xOK_pure (xs_iald (show decode cX12_fly 412 = .ok (.iaload, 1) by decide +kernel))),
  List.forall_mem_cons.mpr ⟨(xOK_pure (xs_icmp_lt (show decode cX12_fly 413 = .ok (.if_icmp .lt 17, 3) by decide +kernel) (by decide))),
  List.forall_mem_cons.mpr ⟨(xOK_pure (xs_aload_n (k := 0) rfl (show decode cX12_fly 416 = .ok (.aload_n 0, 1) by decide +kernel))),
  List.forall_mem_cons.mpr ⟨(xOK_pure (xs_iload_n (k := 1) rfl (show decode cX12_fly 417 = .ok (.iload_n 1, 1) by decide +kernel))),
  List.forall_mem_cons.mpr ⟨(xOK_pure (xs_aload_n (k := 0) rfl (show decode cX12_fly 418 = .ok (.aload_n 0, 1) by decide +kernel))),
  List.forall_mem_cons.mpr ⟨(xOK_pure (xs_getf xcl_12 (by decide) (show decode cX12_fly 419 = .ok (.getfield 16, 3) by decide +kernel) xw_1712)),
  List.forall_mem_cons.mpr ⟨(xOK_pure (xs_iload_n (k := 2) rfl (show decode cX12_fly 422 = .ok (.iload_n 2, 1) by decide +kernel))),
  List.forall_mem_cons.mpr ⟨(xOK_pure (xs_iald (show decode cX12_fly 423 = .ok (.iaload, 1) by decide +kernel))),
  List.forall_mem_cons.mpr ⟨(xcm mi_258 ⟨⟨(by decide +kernel), (by decide +kernel), (by decide +kernel)⟩, (by decide), xw_2205, xw_125, Or.inl ⟨rfl, _, _, _, _, (show decode cX12_fly 424 = .ok (.invokevirtual 376, 3) by decide +kernel), xw_2202, xw_2204, xw_99, rfl⟩⟩),
  List.forall_mem_cons.mpr ⟨(xOK_pure (xs_goto (show decode cX12_fly 427 = .ok (.goto 35, 3) by decide +kernel) (by decide))),
  List.forall_mem_cons.mpr ⟨(xOK_pure (xs_iload (show decode cX12_fly 430 = .ok (.iload 4, 2) by decide +kernel))),
  List.forall_mem_cons.mpr ⟨(xOK_pure (xs_if_ne (show decode cX12_fly 432 = .ok (.ifCond .ne 22, 3) by decide +kernel) (by decide))),
  List.forall_mem_cons.mpr ⟨(xOK_pure (xs_iload (show decode cX12_fly 435 = .ok (.iload 10, 2) by decide +kernel))),
  List.forall_mem_cons.mpr ⟨(xOK_pure (xs_if_gt (show decode cX12_fly 437 = .ok (.ifCond .gt 17, 3) by decide +kernel) (by decide))),
  List.forall_mem_cons.mpr ⟨(xOK_pure (xs_aload_n (k := 0) rfl (show decode cX12_fly 440 = .ok (.aload_n 0, 1) by decide +kernel))),
  List.forall_mem_cons.mpr ⟨(xOK_pure (xs_iload_n (k := 1) rfl (show decode cX12_fly 441 = .ok (.iload_n 1, 1) by decide +kernel))),
  List.forall_mem_cons.mpr ⟨(xOK_pure (xs_aload_n (k := 0) rfl (show decode cX12_fly 442 = .ok (.aload_n 0, 1) by decide +kernel))),
  List.forall_mem_cons.mpr ⟨(xOK_pure (xs_getf xcl_12 (by decide) (show decode cX12_fly 443 = .ok (.getfield 13, 3) by decide +kernel) xw_1711)),
  List.forall_mem_cons.mpr ⟨(xOK_pure (xs_iload_n (k := 2) rfl (show decode cX12_fly 446 = .ok (.iload_n 2, 1) by decide +kernel))),
  (fun _ h => absurd h List.not_mem_nil)⟩⟩⟩⟩⟩⟩⟩⟩⟩⟩⟩⟩⟩⟩⟩⟩⟩⟩⟩⟩
def pX12_fly_13 (ev : xEv) : List (Nat × xEn) := [(447, .inl (xop (xf_ald (ev.1 0)))), (448, .inr (.inl (0, 258, 2, 12))), (451, .inl (xop (xf_goto 462))), (454, .inl (xop (xf_aload 0 1))), (455, .inl (xop (xf_iload 1 1))), (456, .inl (xop (xf_push (.int 2) 1))), (457, .inl (xop (xf_iload 10 2))), (459, .inr (.inl (0, 196, 3, 12))), (462, .inr (.inr 0))]
set_option maxRecDepth 20000 in
theorem okpX12_fly_13 (ev : xEv) : ∀ q ∈ pX12_fly_13 ev, xEnOK ev xmi yX12_fly.cls yX12_fly.name cX12_fly 11 none q :=
  List.forall_mem_cons.mpr ⟨(xOK_pure (xs_iald (show decode cX12_fly 447 = .ok (.iaload, 1) by decide +kernel))),
  List.forall_mem_cons.mpr ⟨(xcm mi_258 ⟨⟨(by decide +kernel), (by decide +kernel), (by decide +kernel)⟩, (by decide), xw_2205, xw_125, Or.inl ⟨rfl, _, _, _, _, (show decode cX12_fly 448 = .ok (.invokevirtual 376, 3) by decide +kernel), xw_2202, xw_2204, xw_99, rfl⟩⟩),
  List.forall_mem_cons.mpr ⟨(xOK_pure (xs_goto (show decode cX12_fly 451 = .ok (.goto 11, 3) by decide +kernel) (by decide))),
  List.forall_mem_cons.mpr ⟨(xOK_pure (xs_aload_n (k := 0) rfl (show decode cX12_fly 454 = .ok (.aload_n 0, 1) by decide +kernel))),
  List.forall_mem_cons.mpr ⟨(xOK_pure (xs_iload_n (k := 1) rfl (show decode cX12_fly 455 = .ok (.iload_n 1, 1) by decide +kernel))),
  List.forall_mem_cons.mpr ⟨(xOK_pure (xs_iconst (n := 2) (show decode cX12_fly 456 = .ok (.iconst 2, 1) by decide +kernel) (by decide))),
  List.forall_mem_cons.mpr ⟨(xOK_pure (xs_iload (show decode cX12_fly 457 = .ok (.iload 10, 2) by decide +kernel))),
  List.forall_mem_cons.mpr ⟨(xcm mi_196 ⟨⟨(by decide +kernel), (by decide +kernel), (by decide +kernel)⟩, (by decide), xw_1985, xw_125, Or.inl ⟨rfl, _, _, _, _, (show decode cX12_fly 459 = .ok (.invokevirtual 199, 3) by decide +kernel), xw_1982, xw_1984, xw_60, rfl⟩⟩),
  List.forall_mem_cons.mpr ⟨(Or.inl ⟨rfl, (show decode cX12_fly 462 = .ok (.return_, 1) by decide +kernel), rfl⟩),
  (fun _ h => absurd h List.not_mem_nil)⟩⟩⟩⟩⟩⟩⟩⟩⟩
def pX12_fly (ev : xEv) : List (Nat × xEn) := pX12_fly_0 ev ++ (pX12_fly_1 ev ++ (pX12_fly_2 ev ++ (pX12_fly_3 ev ++ (pX12_fly_4 ev ++ (pX12_fly_5 ev ++ (pX12_fly_6 ev ++ (pX12_fly_7 ev ++ (pX12_fly_8 ev ++ (pX12_fly_9 ev ++ (pX12_fly_10 ev ++ (pX12_fly_11 ev ++ (pX12_fly_12 ev ++ (pX12_fly_13 ev)))))))))))))
theorem okpX12_fly (ev : xEv) : ∀ q ∈ pX12_fly ev, xEnOK ev xmi yX12_fly.cls yX12_fly.name cX12_fly 11 none q := List.forall_mem_append.mpr ⟨okpX12_fly_0 ev, List.forall_mem_append.mpr ⟨okpX12_fly_1 ev, List.forall_mem_append.mpr ⟨okpX12_fly_2 ev, List.forall_mem_append.mpr ⟨okpX12_fly_3 ev, List.forall_mem_append.mpr ⟨okpX12_fly_4 ev, List.forall_mem_append.mpr ⟨okpX12_fly_5 ev, List.forall_mem_append.mpr ⟨okpX12_fly_6 ev, List.forall_mem_append.mpr ⟨okpX12_fly_7 ev, List.forall_mem_append.mpr ⟨okpX12_fly_8 ev, List.forall_mem_append.mpr ⟨okpX12_fly_9 ev, List.forall_mem_append.mpr ⟨okpX12_fly_10 ev, List.forall_mem_append.mpr ⟨okpX12_fly_11 ev, List.forall_mem_append.mpr ⟨okpX12_fly_12 ev, okpX12_fly_13 ev⟩⟩⟩⟩⟩⟩⟩⟩⟩⟩⟩⟩⟩
theorem omX12_fly (ev : xEv) : xMethOK ev xmi yX12_fly.cls yX12_fly.name 260 (pX12_fly ev) := xMethOK.of mi_260 (by decide +kernel) (okpX12_fly ev)
def pX12_goQuarter_0 (ev : xEv) : List (Nat × xEn) := [(0, .inl (xop (xf_aload 0 1))), (1, .inl (xop (xf_getf 12 48))), (4, .inl (xop (xf_push (.int 0) 1))), (5, .inl (xop (xf_ald (ev.1 0)))), (6, .inl (xop (xf_istore 1 1))), (7, .inl (xop (xf_iload 1 1))), (8, .inl (xop (xf_push (.int 96) 2))), (10, .inl (xop (xf_div (fun x y => x - x / y * y)))), (11, .inl (xop (xf_if_ne 37))), (14, .inl (xop (xf_push (.int 0) 1))), (15, .inl (xop (xf_istore 2 1))), (16, .inl (xop (xf_iload 2 1))), (17, .inl (xop (xf_aload 0 1))), (18, .inl (xop (xf_getf 12 22))), (21, .inl (xop (xf_icmp_ge 37))), (24, .inl (xop (xf_aload 0 1))), (25, .inl (xop (xf_iload 2 1))), (26, .inl (xop (xf_push (.int 2) 1))), (27, .inl (xop (xf_push (.int 0) 1))), (28, .inr (.inl (0, 198, 3, 12)))]
set_option maxRecDepth 20000 in
theorem okpX12_goQuarter_0 (ev : xEv) : ∀ q ∈ pX12_goQuarter_0 ev, xEnOK ev xmi yX12_goQuarter.cls yX12_goQuarter.name cX12_goQuarter 3 none q :=
  List.forall_mem_cons.mpr ⟨(xOK_pure (xs_aload_n (k := 0) rfl (show decode cX12_goQuarter 0 = .ok (.aload_n 0, 1) by decide +kernel))),
  List.forall_mem_cons.mpr ⟨(xOK_pure (xs_getf xcl_12 (by decide) (show decode cX12_goQuarter 1 = .ok (.getfield 121, 3) by decide +kernel) xw_1757)),
  List.forall_mem_cons.mpr ⟨(xOK_pure (xs_iconst (n := 0) (show decode cX12_goQuarter 4 = .ok (.iconst 0, 1) by decide +kernel) (by decide))),
  List.forall_mem_cons.mpr ⟨(xOK_pure (xs_iald (show decode cX12_goQuarter 5 = .ok (.iaload, 1) by decide +kernel))),
  List.forall_mem_cons.mpr ⟨(xOK_pure (xs_istore_n (k := 1) rfl (show decode cX12_goQuarter 6 = .ok (.istore_n 1, 1) by decide +kernel) (by decide))),
  List.forall_mem_cons.mpr ⟨(xOK_pure (xs_iload_n (k := 1) rfl (show decode cX12_goQuarter 7 = .ok (.iload_n 1, 1) by decide +kernel))),
  List.forall_mem_cons.mpr ⟨(xOK_pure (xs_bipush (n := 96) (show decode cX12_goQuarter 8 = .ok (.bipush 96, 2) by decide +kernel) (by decide))),
  List.forall_mem_cons.mpr ⟨(xOK_pure (xs_irem (show decode cX12_goQuarter 10 = .ok (.irem, 1) by decide +kernel))),
  List.forall_mem_cons.mpr ⟨(xOK_pure (xs_if_ne (show decode cX12_goQuarter 11 = .ok (.ifCond .ne 26, 3) by decide +kernel) (by decide))),
  List.forall_mem_cons.mpr ⟨(xOK_pure (xs_iconst (n := 0) (show decode cX12_goQuarter 14 = .ok (.iconst 0, 1) by decide +kernel) (by decide))),
  List.forall_mem_cons.mpr ⟨(xOK_pure (xs_istore_n (k := 2) rfl (show decode cX12_goQuarter 15 = .ok (.istore_n 2, 1) by decide +kernel) (by decide))),
  List.forall_mem_cons.mpr ⟨(xOK_pure (xs_iload_n (k := 2) rfl (show decode cX12_goQuarter 16 = .ok (.iload_n 2, 1) by decide +kernel))),
  List.forall_mem_cons.mpr ⟨(xOK_pure (xs_aload_n (k := 0) rfl (show decode cX12_goQuarter 17 = .ok (.aload_n 0, 1) by decide +kernel))),
  List.forall_mem_cons.mpr ⟨(xOK_pure (xs_getf xcl_12 (by decide) (show decode cX12_goQuarter 18 = .ok (.getfield 156, 3) by decide +kernel) xw_1731)),
  List.forall_mem_cons.mpr ⟨(xOK_pure (xs_icmp_ge (show decode cX12_goQuarter 21 = .ok (.if_icmp .ge 16, 3) by decide +kernel) (by decide))),
  List.forall_mem_cons.mpr ⟨(xOK_pure (xs_aload_n (k := 0) rfl (show decode cX12_goQuarter 24 = .ok (.aload_n 0, 1) by decide +kernel))),
  List.forall_mem_cons.mpr ⟨(xOK_pure (xs_iload_n (k := 2) rfl (show decode cX12_goQuarter 25 = .ok (.iload_n 2, 1) by decide +kernel))),
  List.forall_mem_cons.mpr ⟨(xOK_pure (xs_iconst (n := 2) (show decode cX12_goQuarter 26 = .ok (.iconst 2, 1) by decide +kernel) (by decide))),
  List.forall_mem_cons.mpr ⟨(xOK_pure (xs_iconst (n := 0) (show decode cX12_goQuarter 27 = .ok (.iconst 0, 1) by decide +kernel) (by decide))),
  List.forall_mem_cons.mpr ⟨(xcm mi_198 ⟨⟨(by decide +kernel), (by decide +kernel), (by decide +kernel)⟩, (by decide), xw_2001, xw_125, Or.inl ⟨rfl, _, _, _, _, (show decode cX12_goQuarter 28 = .ok (.invokevirtual 206, 3) by decide +kernel), xw_1998, xw_2000, xw_62, rfl⟩⟩),
  (fun _ h => absurd h List.not_mem_nil)⟩⟩⟩⟩⟩⟩⟩⟩⟩⟩⟩⟩⟩⟩⟩⟩⟩⟩⟩⟩
def pX12_goQuarter_1 (ev : xEv) : List (Nat × xEn) := [(31, .inl (xop (xf_iinc 2 1))), (34, .inl (xop (xf_goto 16))), (37, .inl (xop (xf_push (.int 0) 1))), (38, .inl (xop (xf_istore 2 1))), (39, .inl (xop (xf_iload 2 1))), (40, .inl (xop (xf_aload 0 1))), (41, .inl (xop (xf_getf 12 28))), (44, .inl (xop (xf_icmp_ge 74))), (47, .inl (xop (xf_aload 0 1))), (48, .inl (xop (xf_iload 2 1))), (49, .inl (xop (xf_push (.int 2) 1))), (50, .inr (.inl (0, 199, 2, 12))), (53, .inl (xop (xf_iload 1 1))), (54, .inl (xop (xf_icmp_ne 68))), (57, .inl (xop (xf_aload 0 1))), (58, .inl (xop (xf_iload 2 1))), (59, .inl (xop (xf_aload 0 1))), (60, .inl (xop (xf_getf 12 24))), (63, .inl (xop (xf_iload 2 1))), (64, .inl (xop (xf_ald (ev.1 0))))]
set_option maxRecDepth 20000 in
theorem okpX12_goQuarter_1 (ev : xEv) : ∀ q ∈ pX12_goQuarter_1 ev, xEnOK ev xmi yX12_goQuarter.cls yX12_goQuarter.name cX12_goQuarter 3 none q :=
  List.forall_mem_cons.mpr ⟨(xOK_pure (xs_iinc (n := 1) (show decode cX12_goQuarter 31 = .ok (.iinc 2 1, 3) by decide +kernel) (by decide) (by decide))),
  List.forall_mem_cons.mpr ⟨(xOK_pure (xs_goto (show decode cX12_goQuarter 34 = .ok (.goto (-18), 3) by decide +kernel) (by decide))),
  List.forall_mem_cons.mpr ⟨(xOK_pure (xs_iconst (n := 0) (show decode cX12_goQuarter 37 = .ok (.iconst 0, 1) by decide +kernel) (by decide))),
  List.forall_mem_cons.mpr ⟨(xOK_pure (xs_istore_n (k := 2) rfl (show decode cX12_goQuarter 38 = .ok (.istore_n 2, 1) by decide +kernel) (by decide))),
  List.forall_mem_cons.mpr ⟨(xOK_pure (xs_iload_n (k := 2) rfl (show decode cX12_goQuarter 39 = .ok (.iload_n 2, 1) by decide +kernel))),
  List.forall_mem_cons.mpr ⟨(xOK_pure (xs_aload_n (k := 0) rfl (show decode cX12_goQuarter 40 = .ok (.aload_n 0, 1) by decide +kernel))),
  List.forall_mem_cons.mpr ⟨(xOK_pure (xs_getf xcl_12 (by decide) (show decode cX12_goQuarter 41 = .ok (.getfield 159, 3) by decide +kernel) xw_1737)),
  List.forall_mem_cons.mpr ⟨(xOK_pure (xs_icmp_ge (show decode cX12_goQuarter 44 = .ok (.if_icmp .ge 30, 3) by decide +kernel) (by decide))),
  List.forall_mem_cons.mpr ⟨(xOK_pure (xs_aload_n (k := 0) rfl (show decode cX12_goQuarter 47 = .ok (.aload_n 0, 1) by decide +kernel))),
  List.forall_mem_cons.mpr ⟨(xOK_pure (xs_iload_n (k := 2) rfl (show decode cX12_goQuarter 48 = .ok (.iload_n 2, 1) by decide +kernel))),
  List.forall_mem_cons.mpr ⟨(xOK_pure (xs_iconst (n := 2) (show decode cX12_goQuarter 49 = .ok (.iconst 2, 1) by decide +kernel) (by decide))),
  List.forall_mem_cons.mpr ⟨(xcm mi_199 ⟨⟨(by decide +kernel), (by decide +kernel), (by decide +kernel)⟩, (by decide), xw_2029, xw_125, Or.inl ⟨rfl, _, _, _, _, (show decode cX12_goQuarter 50 = .ok (.invokevirtual 215, 3) by decide +kernel), xw_2026, xw_2028, xw_67, rfl⟩⟩),
  List.forall_mem_cons.mpr ⟨(xOK_pure (xs_iload_n (k := 1) rfl (show decode cX12_goQuarter 53 = .ok (.iload_n 1, 1) by decide +kernel))),
  List.forall_mem_cons.mpr ⟨(xOK_pure (xs_icmp_ne (show decode cX12_goQuarter 54 = .ok (.if_icmp .ne 14, 3) by decide +kernel) (by decide))),
  List.forall_mem_cons.mpr ⟨(xOK_pure (xs_aload_n (k := 0) rfl (show decode cX12_goQuarter 57 = .ok (.aload_n 0, 1) by decide +kernel))),
  List.forall_mem_cons.mpr ⟨(xOK_pure (xs_iload_n (k := 2) rfl (show decode cX12_goQuarter 58 = .ok (.iload_n 2, 1) by decide +kernel))),
  List.forall_mem_cons.mpr ⟨(xOK_pure (xs_aload_n (k := 0) rfl (show decode cX12_goQuarter 59 = .ok (.aload_n 0, 1) by decide +kernel))),
  List.forall_mem_cons.mpr ⟨(xOK_pure (xs_getf xcl_12 (by decide) (show decode cX12_goQuarter 60 = .ok (.getfield 68, 3) by decide +kernel) xw_1733)),
  List.forall_mem_cons.mpr ⟨(xOK_pure (xs_iload_n (k := 2) rfl (show decode cX12_goQuarter 63 = .ok (.iload_n 2, 1) by decide +kernel))),
  List.forall_mem_cons.mpr ⟨(xOK_pure (xs_iald (show decode cX12_goQuarter 64 = .ok (.iaload, 1) by decide +kernel))),
  (fun _ h => absurd h List.not_mem_nil)⟩⟩⟩⟩⟩⟩⟩⟩⟩⟩⟩⟩⟩⟩⟩⟩⟩⟩⟩⟩
def pX12_goQuarter_2 (ev : xEv) : List (Nat × xEn) := [(65, .inr (.inl (0, 225, 2, 12))), (68, .inl (xop (xf_iinc 2 1))), (71, .inl (xop (xf_goto 39))), (74, .inl (xop (xf_push (.int 0) 1))), (75, .inl (xop (xf_istore 2 1))), (76, .inl (xop (xf_iload 2 1))), (77, .inl (xop (xf_aload 0 1))), (78, .inl (xop (xf_getf 12 33))), (81, .inl (xop (xf_icmp_ge 147))), (84, .inl (xop (xf_aload 0 1))), (85, .inl (xop (xf_iload 2 1))), (86, .inr (.inl (0, 249, 1, 12))), (89, .inl (xop (xf_if_eq 141))), (92, .inl (xop (xf_aload 0 1))), (93, .inl (xop (xf_getf 12 32))), (96, .inl (xop (xf_iload 2 1))), (97, .inl (xop (xf_ald (ev.1 0)))), (98, .inl (xop (xf_iload 1 1))), (99, .inl (xop (xf_icmp_le 105))), (102, .inl (xop (xf_goto 141)))]
set_option maxRecDepth 20000 in
theorem okpX12_goQuarter_2 (ev : xEv) : ∀ q ∈ pX12_goQuarter_2 ev, xEnOK ev xmi yX12_goQuarter.cls yX12_goQuarter.name cX12_goQuarter 3 none q :=
  List.forall_mem_cons.mpr ⟨(xcm mi_225 ⟨⟨(by decide +kernel), (by decide +kernel), (by decide +kernel)⟩, (by decide), xw_2153, xw_125, Or.inl ⟨rfl, _, _, _, _, (show decode cX12_goQuarter 65 = .ok (.invokevirtual 366, 3) by decide +kernel), xw_2150, xw_2152, xw_87, rfl⟩⟩),
  List.forall_mem_cons.mpr ⟨(xOK_pure (xs_iinc (n := 1) (show decode cX12_goQuarter 68 = .ok (.iinc 2 1, 3) by decide +kernel) (by decide) (by decide))),
  List.forall_mem_cons.mpr ⟨(xOK_pure (xs_goto (show decode cX12_goQuarter 71 = .ok (.goto (-32), 3) by decide +kernel) (by decide))),
  List.forall_mem_cons.mpr ⟨(xOK_pure (xs_iconst (n := 0) (show decode cX12_goQuarter 74 = .ok (.iconst 0, 1) by decide +kernel) (by decide))),
  List.forall_mem_cons.mpr ⟨(xOK_pure (xs_istore_n (k := 2) rfl (show decode cX12_goQuarter 75 = .ok (.istore_n 2, 1) by decide +kernel) (by decide))),
  List.forall_mem_cons.mpr ⟨(xOK_pure (xs_iload_n (k := 2) rfl (show decode cX12_goQuarter 76 = .ok (.iload_n 2, 1) by decide +kernel))),
  List.forall_mem_cons.mpr ⟨(xOK_pure (xs_aload_n (k := 0) rfl (show decode cX12_goQuarter 77 = .ok (.aload_n 0, 1) by decide +kernel))),
  List.forall_mem_cons.mpr ⟨(xOK_pure (xs_getf xcl_12 (by decide) (show decode cX12_goQuarter 78 = .ok (.getfield 332, 3) by decide +kernel) xw_1742)),
  List.forall_mem_cons.mpr ⟨(xOK_pure (xs_icmp_ge (show decode cX12_goQuarter 81 = .ok (.if_icmp .ge 66, 3) by decide +kernel) (by decide))),
  List.forall_mem_cons.mpr ⟨(xOK_pure (xs_aload_n (k := 0) rfl (show decode cX12_goQuarter 84 = .ok (.aload_n 0, 1) by decide +kernel))),
  List.forall_mem_cons.mpr ⟨(xOK_pure (xs_iload_n (k := 2) rfl (show decode cX12_goQuarter 85 = .ok (.iload_n 2, 1) by decide +kernel))),
  List.forall_mem_cons.mpr ⟨(xcm mi_249 ⟨⟨(by decide +kernel), (by decide +kernel), (by decide +kernel)⟩, (by decide), xw_2133, xw_125, Or.inl ⟨rfl, _, _, _, _, (show decode cX12_goQuarter 86 = .ok (.invokevirtual 338, 3) by decide +kernel), xw_2130, xw_2132, xw_83, rfl⟩⟩),
  List.forall_mem_cons.mpr ⟨(xOK_pure (xs_if_eq (show decode cX12_goQuarter 89 = .ok (.ifCond .eq 52, 3) by decide +kernel) (by decide))),
  List.forall_mem_cons.mpr ⟨(xOK_pure (xs_aload_n (k := 0) rfl (show decode cX12_goQuarter 92 = .ok (.aload_n 0, 1) by decide +kernel))),
  List.forall_mem_cons.mpr ⟨(xOK_pure (xs_getf xcl_12 (by decide) (show decode cX12_goQuarter 93 = .ok (.getfield 89, 3) by decide +kernel) xw_1741)),
  List.forall_mem_cons.mpr ⟨(xOK_pure (xs_iload_n (k := 2) rfl (show decode cX12_goQuarter 96 = .ok (.iload_n 2, 1) by decide +kernel))),
  List.forall_mem_cons.mpr ⟨(xOK_pure (xs_iald (show decode cX12_goQuarter 97 = .ok (.iaload, 1) by decide +kernel))),
  List.forall_mem_cons.mpr ⟨(xOK_pure (xs_iload_n (k := 1) rfl (show decode cX12_goQuarter 98 = .ok (.iload_n 1, 1) by decide +kernel))),
  List.forall_mem_cons.mpr ⟨(xOK_pure (xs_icmp_le (show decode cX12_goQuarter 99 = .ok (.if_icmp .le 6, 3) by decide +kernel) (by decide))),
  List.forall_mem_cons.mpr ⟨(xOK_pure (xs_goto (show decode cX12_goQuarter 102 = .ok (.goto 39, 3) by decide +kernel) (by decide))),
  (fun _ h => absurd h List.not_mem_nil)⟩⟩⟩⟩⟩⟩⟩⟩⟩⟩⟩⟩⟩⟩⟩⟩⟩⟩⟩⟩
def pX12_goQuarter_3 (ev : xEv) : List (Nat × xEn) := [(105, .inl (xop (xf_iload 1 1))), (106, .inl (xop (xf_aload 0 1))), (107, .inl (xop (xf_getf 12 32))), (110, .inl (xop (xf_iload 2 1))), (111, .inl (xop (xf_ald (ev.1 0)))), (112, .inl (xop (xf_bin (fun x y => x - y)))), (113, .inl (xop (xf_push (.int 16) 2))), (115, .inl (xop (xf_icmp_lt 127))), (118, .inl (xop (xf_aload 0 1))), (119, .inl (xop (xf_iload 2 1))), (120, .inl (xop (xf_push (.int 3) 1))), (121, .inr (.inl (0, 250, 2, 12))), (124, .inl (xop (xf_goto 141))), (127, .inl (xop (xf_aload 0 1))), (128, .inl (xop (xf_iload 2 1))), (129, .inl (xop (xf_push (.int 1) 1))), (130, .inr (.inl (0, 253, 2, 12))), (133, .inl (xop (xf_if_ne 141))), (136, .inl (xop (xf_aload 0 1))), (137, .inl (xop (xf_iload 2 1)))]
set_option maxRecDepth 20000 in
theorem okpX12_goQuarter_3 (ev : xEv) : ∀ q ∈ pX12_goQuarter_3 ev, xEnOK ev xmi yX12_goQuarter.cls yX12_goQuarter.name cX12_goQuarter 3 none q :=
  List.forall_mem_cons.mpr ⟨(xOK_pure (xs_iload_n (k := 1) rfl (show decode cX12_goQuarter 105 = .ok (.iload_n 1, 1) by decide +kernel))),
  List.forall_mem_cons.mpr ⟨(xOK_pure (xs_aload_n (k := 0) rfl (show decode cX12_goQuarter 106 = .ok (.aload_n 0, 1) by decide +kernel))),
  List.forall_mem_cons.mpr ⟨(xOK_pure (xs_getf xcl_12 (by decide) (show decode cX12_goQuarter 107 = .ok (.getfield 89, 3) by decide +kernel) xw_1741)),
  List.forall_mem_cons.mpr ⟨(xOK_pure (xs_iload_n (k := 2) rfl (show decode cX12_goQuarter 110 = .ok (.iload_n 2, 1) by decide +kernel))),
  List.forall_mem_cons.mpr ⟨(xOK_pure (xs_iald (show decode cX12_goQuarter 111 = .ok (.iaload, 1) by decide +kernel))),
  List.forall_mem_cons.mpr ⟨(xOK_pure (xs_isub (show decode cX12_goQuarter 112 = .ok (.isub, 1) by decide +kernel))),
  List.forall_mem_cons.mpr ⟨(xOK_pure (xs_bipush (n := 16) (show decode cX12_goQuarter 113 = .ok (.bipush 16, 2) by decide +kernel) (by decide))),
  List.forall_mem_cons.mpr ⟨(xOK_pure (xs_icmp_lt (show decode cX12_goQuarter 115 = .ok (.if_icmp .lt 12, 3) by decide +kernel) (by decide))),
  List.forall_mem_cons.mpr ⟨(xOK_pure (xs_aload_n (k := 0) rfl (show decode cX12_goQuarter 118 = .ok (.aload_n 0, 1) by decide +kernel))),
  List.forall_mem_cons.mpr ⟨(xOK_pure (xs_iload_n (k := 2) rfl (show decode cX12_goQuarter 119 = .ok (.iload_n 2, 1) by decide +kernel))),
  List.forall_mem_cons.mpr ⟨(xOK_pure (xs_iconst (n := 3) (show decode cX12_goQuarter 120 = .ok (.iconst 3, 1) by decide +kernel) (by decide))),
  List.forall_mem_cons.mpr ⟨(xcm mi_250 ⟨⟨(by decide +kernel), (by decide +kernel), (by decide +kernel)⟩, (by decide), xw_2141, xw_125, Or.inl ⟨rfl, _, _, _, _, (show decode cX12_goQuarter 121 = .ok (.invokevirtual 341, 3) by decide +kernel), xw_2138, xw_2140, xw_85, rfl⟩⟩),
  List.forall_mem_cons.mpr ⟨(xOK_pure (xs_goto (show decode cX12_goQuarter 124 = .ok (.goto 17, 3) by decide +kernel) (by decide))),
  List.forall_mem_cons.mpr ⟨(xOK_pure (xs_aload_n (k := 0) rfl (show decode cX12_goQuarter 127 = .ok (.aload_n 0, 1) by decide +kernel))),
  List.forall_mem_cons.mpr ⟨(xOK_pure (xs_iload_n (k := 2) rfl (show decode cX12_goQuarter 128 = .ok (.iload_n 2, 1) by decide +kernel))),
  List.forall_mem_cons.mpr ⟨(xOK_pure (xs_iconst (n := 1) (show decode cX12_goQuarter 129 = .ok (.iconst 1, 1) by decide +kernel) (by decide))),
  List.forall_mem_cons.mpr ⟨(xcm mi_253 ⟨⟨(by decide +kernel), (by decide +kernel), (by decide +kernel)⟩, (by decide), xw_2157, xw_125, Or.inl ⟨rfl, _, _, _, _, (show decode cX12_goQuarter 130 = .ok (.invokevirtual 379, 3) by decide +kernel), xw_2154, xw_2156, xw_88, rfl⟩⟩),
  List.forall_mem_cons.mpr ⟨(xOK_pure (xs_if_ne (show decode cX12_goQuarter 133 = .ok (.ifCond .ne 8, 3) by decide +kernel) (by decide))),
  List.forall_mem_cons.mpr ⟨(xOK_pure (xs_aload_n (k := 0) rfl (show decode cX12_goQuarter 136 = .ok (.aload_n 0, 1) by decide +kernel))),
  List.forall_mem_cons.mpr ⟨(xOK_pure (xs_iload_n (k := 2) rfl (show decode cX12_goQuarter 137 = .ok (.iload_n 2, 1) by decide +kernel))),
  (fun _ h => absurd h List.not_mem_nil)⟩⟩⟩⟩⟩⟩⟩⟩⟩⟩⟩⟩⟩⟩⟩⟩⟩⟩⟩⟩
def pX12_goQuarter_4 (ev : xEv) : List (Nat × xEn) := [(138, .inr (.inl (0, 255, 1, 12))), (141, .inl (xop (xf_iinc 2 1))), (144, .inl (xop (xf_goto 76))), (147, .inl (xop (xf_push (.int 0) 1))), (148, .inl (xop (xf_istore 2 1))), (149, .inl (xop (xf_iload 2 1))), (150, .inl (xop (xf_aload 0 1))), (151, .inl (xop (xf_getf 12 21))), (154, .inl (xop (xf_icmp_ge 176))), (157, .inl (xop (xf_aload 0 1))), (158, .inl (xop (xf_iload 2 1))), (159, .inr (.inl (0, 259, 1, 12))), (162, .inl (xop (xf_if_eq 170))), (165, .inl (xop (xf_aload 0 1))), (166, .inl (xop (xf_iload 2 1))), (167, .inr (.inl (0, 260, 1, 12))), (170, .inl (xop (xf_iinc 2 1))), (173, .inl (xop (xf_goto 149))), (176, .inl (xop (xf_aload 0 1))), (177, .inl (xop (xf_getf 12 48)))]
set_option maxRecDepth 20000 in
theorem okpX12_goQuarter_4 (ev : xEv) : ∀ q ∈ pX12_goQuarter_4 ev, xEnOK ev xmi yX12_goQuarter.cls yX12_goQuarter.name cX12_goQuarter 3 none q :=
  List.forall_mem_cons.mpr ⟨(xcm mi_255 ⟨⟨(by decide +kernel), (by decide +kernel), (by decide +kernel)⟩, (by decide), xw_2188, xw_125, Or.inl ⟨rfl, _, _, _, _, (show decode cX12_goQuarter 138 = .ok (.invokevirtual 383, 3) by decide +kernel), xw_2185, xw_2187, xw_95, rfl⟩⟩),
  List.forall_mem_cons.mpr ⟨(xOK_pure (xs_iinc (n := 1) (show decode cX12_goQuarter 141 = .ok (.iinc 2 1, 3) by decide +kernel) (by decide) (by decide))),
  List.forall_mem_cons.mpr ⟨(xOK_pure (xs_goto (show decode cX12_goQuarter 144 = .ok (.goto (-68), 3) by decide +kernel) (by decide))),
  List.forall_mem_cons.mpr ⟨(xOK_pure (xs_iconst (n := 0) (show decode cX12_goQuarter 147 = .ok (.iconst 0, 1) by decide +kernel) (by decide))),
  List.forall_mem_cons.mpr ⟨(xOK_pure (xs_istore_n (k := 2) rfl (show decode cX12_goQuarter 148 = .ok (.istore_n 2, 1) by decide +kernel) (by decide))),
  List.forall_mem_cons.mpr ⟨(xOK_pure (xs_iload_n (k := 2) rfl (show decode cX12_goQuarter 149 = .ok (.iload_n 2, 1) by decide +kernel))),
  List.forall_mem_cons.mpr ⟨(xOK_pure (xs_aload_n (k := 0) rfl (show decode cX12_goQuarter 150 = .ok (.aload_n 0, 1) by decide +kernel))),
  List.forall_mem_cons.mpr ⟨(xOK_pure (xs_getf xcl_12 (by decide) (show decode cX12_goQuarter 151 = .ok (.getfield 153, 3) by decide +kernel) xw_1730)),
  List.forall_mem_cons.mpr ⟨(xOK_pure (xs_icmp_ge (show decode cX12_goQuarter 154 = .ok (.if_icmp .ge 22, 3) by decide +kernel) (by decide))),
  List.forall_mem_cons.mpr ⟨(xOK_pure (xs_aload_n (k := 0) rfl (show decode cX12_goQuarter 157 = .ok (.aload_n 0, 1) by decide +kernel))),
  List.forall_mem_cons.mpr ⟨(xOK_pure (xs_iload_n (k := 2) rfl (show decode cX12_goQuarter 158 = .ok (.iload_n 2, 1) by decide +kernel))),
  List.forall_mem_cons.mpr ⟨(xcm mi_259 ⟨⟨(by decide +kernel), (by decide +kernel), (by decide +kernel)⟩, (by decide), xw_2192, xw_125, Or.inl ⟨rfl, _, _, _, _, (show decode cX12_goQuarter 159 = .ok (.invokevirtual 386, 3) by decide +kernel), xw_2189, xw_2191, xw_96, rfl⟩⟩),
  List.forall_mem_cons.mpr ⟨(xOK_pure (xs_if_eq (show decode cX12_goQuarter 162 = .ok (.ifCond .eq 8, 3) by decide +kernel) (by decide))),
  List.forall_mem_cons.mpr ⟨(xOK_pure (xs_aload_n (k := 0) rfl (show decode cX12_goQuarter 165 = .ok (.aload_n 0, 1) by decide +kernel))),
  List.forall_mem_cons.mpr ⟨(xOK_pure (xs_iload_n (k := 2) rfl (show decode cX12_goQuarter 166 = .ok (.iload_n 2, 1) by decide +kernel))),
  List.forall_mem_cons.mpr ⟨(xcm mi_260 ⟨⟨(by decide +kernel), (by decide +kernel), (by decide +kernel)⟩, (by decide), xw_2196, xw_125, Or.inl ⟨rfl, _, _, _, _, (show decode cX12_goQuarter 167 = .ok (.invokevirtual 389, 3) by decide +kernel), xw_2193, xw_2195, xw_97, rfl⟩⟩),
  List.forall_mem_cons.mpr ⟨(xOK_pure (xs_iinc (n := 1) (show decode cX12_goQuarter 170 = .ok (.iinc 2 1, 3) by decide +kernel) (by decide) (by decide))),
  List.forall_mem_cons.mpr ⟨(xOK_pure (xs_goto (show decode cX12_goQuarter 173 = .ok (.goto (-24), 3) by decide +kernel) (by decide))),
  List.forall_mem_cons.mpr ⟨(xOK_pure (xs_aload_n (k := 0) rfl (show decode cX12_goQuarter 176 = .ok (.aload_n 0, 1) by decide +kernel))),
  List.forall_mem_cons.mpr ⟨(xOK_pure (xs_getf xcl_12 (by decide) (show decode cX12_goQuarter 177 = .ok (.getfield 121, 3) by decide +kernel) xw_1757)),
  (fun _ h => absurd h List.not_mem_nil)⟩⟩⟩⟩⟩⟩⟩⟩⟩⟩⟩⟩⟩⟩⟩⟩⟩⟩⟩⟩
def pX12_goQuarter_5 (ev : xEv) : List (Nat × xEn) := [(180, .inl (xop (xf_push (.int 0) 1))), (181, .inl (xop xf_dup2)), (182, .inl (xop (xf_ald (ev.1 0)))), (183, .inl (xop (xf_push (.int 1) 1))), (184, .inl (xop (xf_bin (fun x y => x + y)))), (185, .inl (xo_ast (ev.1 0) (fun x => x))), (186, .inr (.inr 0))]
set_option maxRecDepth 20000 in
theorem okpX12_goQuarter_5 (ev : xEv) : ∀ q ∈ pX12_goQuarter_5 ev, xEnOK ev xmi yX12_goQuarter.cls yX12_goQuarter.name cX12_goQuarter 3 none q :=
  List.forall_mem_cons.mpr ⟨(xOK_pure (xs_iconst (n := 0) (show decode cX12_goQuarter 180 = .ok (.iconst 0, 1) by decide +kernel) (by decide))),
  List.forall_mem_cons.mpr ⟨(xOK_pure (xs_dup2 (show decode cX12_goQuarter 181 = .ok (.dup2, 1) by decide +kernel))),
  List.forall_mem_cons.mpr ⟨(xOK_pure (xs_iald (show decode cX12_goQuarter 182 = .ok (.iaload, 1) by decide +kernel))),
  List.forall_mem_cons.mpr ⟨(xOK_pure (xs_iconst (n := 1) (show decode cX12_goQuarter 183 = .ok (.iconst 1, 1) by decide +kernel) (by decide))),
  List.forall_mem_cons.mpr ⟨(xOK_pure (xs_iadd (show decode cX12_goQuarter 184 = .ok (.iadd, 1) by decide +kernel))),
  List.forall_mem_cons.mpr ⟨(xs_iast (show decode cX12_goQuarter 185 = .ok (.iastore, 1) by decide +kernel)),
  List.forall_mem_cons.mpr ⟨(Or.inl ⟨rfl, (show decode cX12_goQuarter 186 = .ok (.return_, 1) by decide +kernel), rfl⟩),
  (fun _ h => absurd h List.not_mem_nil)⟩⟩⟩⟩⟩⟩⟩
def pX12_goQuarter (ev : xEv) : List (Nat × xEn) := pX12_goQuarter_0 ev ++ (pX12_goQuarter_1 ev ++ (pX12_goQuarter_2 ev ++ (pX12_goQuarter_3 ev ++ (pX12_goQuarter_4 ev ++ (pX12_goQuarter_5 ev)))))
theorem okpX12_goQuarter (ev : xEv) : ∀ q ∈ pX12_goQuarter ev, xEnOK ev xmi yX12_goQuarter.cls yX12_goQuarter.name cX12_goQuarter 3 none q := List.forall_mem_append.mpr ⟨okpX12_goQuarter_0 ev, List.forall_mem_append.mpr ⟨okpX12_goQuarter_1 ev, List.forall_mem_append.mpr ⟨okpX12_goQuarter_2 ev, List.forall_mem_append.mpr ⟨okpX12_goQuarter_3 ev, List.forall_mem_append.mpr ⟨okpX12_goQuarter_4 ev, okpX12_goQuarter_5 ev⟩⟩⟩⟩⟩
theorem omX12_goQuarter (ev : xEv) : xMethOK ev xmi yX12_goQuarter.cls yX12_goQuarter.name 261 (pX12_goQuarter ev) := xMethOK.of mi_261 (by decide +kernel) (okpX12_goQuarter ev)
def pX12_step_0 (ev : xEv) : List (Nat × xEn) := [(0, .inl (xop (xf_aload 0 1))), (1, .inl (xop (xf_push (.int 0) 1))), (2, .inl (xo_putf 12 47 .int)), (5, .inl (xop (xf_iload 1 1))), (6, .inl (xop (xf_push (.int 0) 1))), (7, .inl (xop (xf_push (.int 400) 3))), (10, .inr (.inl (1, 188, 3, 12))), (13, .inl (xop (xf_if_eq 30))), (16, .inl (xop (xf_aload 0 1))), (17, .inl (xop (xf_getf 12 48))), (20, .inl (xop (xf_push (.int 0) 1))), (21, .inl (xop (xf_ald (ev.1 0)))), (22, .inl (xop (xf_iload 1 1))), (23, .inl (xop (xf_bin (fun x y => x + y)))), (24, .inl (xop (xf_push (.int 3000) 3))), (27, .inl (xop (xf_icmp_le 32))), (30, .inl (xop (xf_push (.int (-1)) 1))), (31, .inr (.inr 1)), (32, .inl (xop (xf_push (.int 0) 1))), (33, .inl (xop (xf_istore 2 1)))]
set_option maxRecDepth 20000 in
theorem okpX12_step_0 (ev : xEv) : ∀ q ∈ pX12_step_0 ev, xEnOK ev xmi yX12_step.cls yX12_step.name cX12_step 3 (some .int) q :=
  List.forall_mem_cons.mpr ⟨(xOK_pure (xs_aload_n (k := 0) rfl (show decode cX12_step 0 = .ok (.aload_n 0, 1) by decide +kernel))),
  List.forall_mem_cons.mpr ⟨(xOK_pure (xs_iconst (n := 0) (show decode cX12_step 1 = .ok (.iconst 0, 1) by decide +kernel) (by decide))),
  List.forall_mem_cons.mpr ⟨(xs_putf (k := 47) xcl_12 (by decide) rfl (show decode cX12_step 2 = .ok (.putfield 140, 3) by decide +kernel) xw_1756),
  List.forall_mem_cons.mpr ⟨(xOK_pure (xs_iload_n (k := 1) rfl (show decode cX12_step 5 = .ok (.iload_n 1, 1) by decide +kernel))),
  List.forall_mem_cons.mpr ⟨(xOK_pure (xs_iconst (n := 0) (show decode cX12_step 6 = .ok (.iconst 0, 1) by decide +kernel) (by decide))),
  List.forall_mem_cons.mpr ⟨(xOK_pure (xs_sipush (n := 400) (show decode cX12_step 7 = .ok (.sipush 400, 3) by decide +kernel) (by decide))),
  List.forall_mem_cons.mpr ⟨(xcm mi_188 ⟨⟨(by decide +kernel), (by decide +kernel), (by decide +kernel)⟩, (by decide), xw_1912, xw_125, Or.inr (Or.inl ⟨rfl, _, (show decode cX12_step 10 = .ok (.invokestatic 146, 3) by decide +kernel), xw_1910, xw_1911⟩)⟩),
  List.forall_mem_cons.mpr ⟨(xOK_pure (xs_if_eq (show decode cX12_step 13 = .ok (.ifCond .eq 17, 3) by decide +kernel) (by decide))),
  List.forall_mem_cons.mpr ⟨(xOK_pure (xs_aload_n (k := 0) rfl (show decode cX12_step 16 = .ok (.aload_n 0, 1) by decide +kernel))),
  List.forall_mem_cons.mpr ⟨(xOK_pure (xs_getf xcl_12 (by decide) (show decode cX12_step 17 = .ok (.getfield 121, 3) by decide +kernel) xw_1757)),
  List.forall_mem_cons.mpr ⟨(xOK_pure (xs_iconst (n := 0) (show decode cX12_step 20 = .ok (.iconst 0, 1) by decide +kernel) (by decide))),
  List.forall_mem_cons.mpr ⟨(xOK_pure (xs_iald (show decode cX12_step 21 = .ok (.iaload, 1) by decide +kernel))),
  List.forall_mem_cons.mpr ⟨(xOK_pure (xs_iload_n (k := 1) rfl (show decode cX12_step 22 = .ok (.iload_n 1, 1) by decide +kernel))),
  List.forall_mem_cons.mpr ⟨(xOK_pure (xs_iadd (show decode cX12_step 23 = .ok (.iadd, 1) by decide +kernel))),
  List.forall_mem_cons.mpr ⟨(xOK_pure (xs_sipush (n := 3000) (show decode cX12_step 24 = .ok (.sipush 3000, 3) by decide +kernel) (by decide))),
  List.forall_mem_cons.mpr ⟨(xOK_pure (xs_icmp_le (show decode cX12_step 27 = .ok (.if_icmp .le 5, 3) by decide +kernel) (by decide))),
  List.forall_mem_cons.mpr ⟨(xOK_pure (xs_iconst (n := (-1)) (show decode cX12_step 30 = .ok (.iconst (-1), 1) by decide +kernel) (by decide))),
  List.forall_mem_cons.mpr ⟨(Or.inr (Or.inl ⟨rfl, (show decode cX12_step 31 = .ok (.ireturn, 1) by decide +kernel), rfl⟩)),
  List.forall_mem_cons.mpr ⟨(xOK_pure (xs_iconst (n := 0) (show decode cX12_step 32 = .ok (.iconst 0, 1) by decide +kernel) (by decide))),
  List.forall_mem_cons.mpr ⟨(xOK_pure (xs_istore_n (k := 2) rfl (show decode cX12_step 33 = .ok (.istore_n 2, 1) by decide +kernel) (by decide))),
  (fun _ h => absurd h List.not_mem_nil)⟩⟩⟩⟩⟩⟩⟩⟩⟩⟩⟩⟩⟩⟩⟩⟩⟩⟩⟩⟩
def pX12_step_1 (ev : xEv) : List (Nat × xEn) := [(34, .inl (xop (xf_iload 2 1))), (35, .inl (xop (xf_iload 1 1))), (36, .inl (xop (xf_icmp_ge 49))), (39, .inl (xop (xf_aload 0 1))), (40, .inr (.inl (0, 261, 0, 12))), (43, .inl (xop (xf_iinc 2 1))), (46, .inl (xop (xf_goto 34))), (49, .inl (xop (xf_aload 0 1))), (50, .inl (xop (xf_getf 12 48))), (53, .inl (xop (xf_push (.int 0) 1))), (54, .inl (xop (xf_ald (ev.1 0)))), (55, .inr (.inr 1))]
set_option maxRecDepth 20000 in
theorem okpX12_step_1 (ev : xEv) : ∀ q ∈ pX12_step_1 ev, xEnOK ev xmi yX12_step.cls yX12_step.name cX12_step 3 (some .int) q :=
  List.forall_mem_cons.mpr ⟨(xOK_pure (xs_iload_n (k := 2) rfl (show decode cX12_step 34 = .ok (.iload_n 2, 1) by decide +kernel))),
  List.forall_mem_cons.mpr ⟨(xOK_pure (xs_iload_n (k := 1) rfl (show decode cX12_step 35 = .ok (.iload_n 1, 1) by decide +kernel))),
  List.forall_mem_cons.mpr ⟨(xOK_pure (xs_icmp_ge (show decode cX12_step 36 = .ok (.if_icmp .ge 13, 3) by decide +kernel) (by decide))),
  List.forall_mem_cons.mpr ⟨(xOK_pure (xs_aload_n (k := 0) rfl (show decode cX12_step 39 = .ok (.aload_n 0, 1) by decide +kernel))),
  List.forall_mem_cons.mpr ⟨(xcm mi_261 ⟨⟨(by decide +kernel), (by decide +kernel), (by decide +kernel)⟩, (by decide), xw_2149, xw_125, Or.inl ⟨rfl, _, _, _, _, (show decode cX12_step 40 = .ok (.invokevirtual 392, 3) by decide +kernel), xw_2146, xw_2148, xw_86, rfl⟩⟩),
  List.forall_mem_cons.mpr ⟨(xOK_pure (xs_iinc (n := 1) (show decode cX12_step 43 = .ok (.iinc 2 1, 3) by decide +kernel) (by decide) (by decide))),
  List.forall_mem_cons.mpr ⟨(xOK_pure (xs_goto (show decode cX12_step 46 = .ok (.goto (-12), 3) by decide +kernel) (by decide))),
  List.forall_mem_cons.mpr ⟨(xOK_pure (xs_aload_n (k := 0) rfl (show decode cX12_step 49 = .ok (.aload_n 0, 1) by decide +kernel))),
  List.forall_mem_cons.mpr ⟨(xOK_pure (xs_getf xcl_12 (by decide) (show decode cX12_step 50 = .ok (.getfield 121, 3) by decide +kernel) xw_1757)),
  List.forall_mem_cons.mpr ⟨(xOK_pure (xs_iconst (n := 0) (show decode cX12_step 53 = .ok (.iconst 0, 1) by decide +kernel) (by decide))),
  List.forall_mem_cons.mpr ⟨(xOK_pure (xs_iald (show decode cX12_step 54 = .ok (.iaload, 1) by decide +kernel))),
  List.forall_mem_cons.mpr ⟨(Or.inr (Or.inl ⟨rfl, (show decode cX12_step 55 = .ok (.ireturn, 1) by decide +kernel), rfl⟩)),
  (fun _ h => absurd h List.not_mem_nil)⟩⟩⟩⟩⟩⟩⟩⟩⟩⟩⟩⟩
def pX12_step (ev : xEv) : List (Nat × xEn) := pX12_step_0 ev ++ (pX12_step_1 ev)
theorem okpX12_step (ev : xEv) : ∀ q ∈ pX12_step ev, xEnOK ev xmi yX12_step.cls yX12_step.name cX12_step 3 (some .int) q := List.forall_mem_append.mpr ⟨okpX12_step_0 ev, okpX12_step_1 ev⟩
theorem omX12_step (ev : xEv) : xMethOK ev xmi yX12_step.cls yX12_step.name 262 (pX12_step ev) := xMethOK.of mi_262 (by decide +kernel) (okpX12_step ev)
def pX12_may (ev : xEv) : List (Nat × xEn) := [(0, .inl (xop (xf_aload 0 1))), (1, .inl (xop (xf_push (.int 0) 1))), (2, .inl (xo_putf 12 47 .int)), (5, .inl (xop (xf_aload 0 1))), (6, .inl (xop (xf_iload 1 1))), (7, .inr (.inl (0, 249, 1, 12))), (10, .inl (xop (xf_if_eq 22))), (13, .inl (xop (xf_aload 0 1))), (14, .inl (xop (xf_iload 1 1))), (15, .inl (xop (xf_push (.int 0) 1))), (16, .inr (.inl (0, 253, 2, 12))), (19, .inl (xop (xf_goto 23))), (22, .inl (xop (xf_push (.int (-1)) 1))), (23, .inr (.inr 1))]
set_option maxRecDepth 20000 in
theorem okpX12_may (ev : xEv) : ∀ q ∈ pX12_may ev, xEnOK ev xmi yX12_may.cls yX12_may.name cX12_may 2 (some .int) q :=
  List.forall_mem_cons.mpr ⟨(xOK_pure (xs_aload_n (k := 0) rfl (show decode cX12_may 0 = .ok (.aload_n 0, 1) by decide +kernel))),
  List.forall_mem_cons.mpr ⟨(xOK_pure (xs_iconst (n := 0) (show decode cX12_may 1 = .ok (.iconst 0, 1) by decide +kernel) (by decide))),
  List.forall_mem_cons.mpr ⟨(xs_putf (k := 47) xcl_12 (by decide) rfl (show decode cX12_may 2 = .ok (.putfield 140, 3) by decide +kernel) xw_1756),
  List.forall_mem_cons.mpr ⟨(xOK_pure (xs_aload_n (k := 0) rfl (show decode cX12_may 5 = .ok (.aload_n 0, 1) by decide +kernel))),
  List.forall_mem_cons.mpr ⟨(xOK_pure (xs_iload_n (k := 1) rfl (show decode cX12_may 6 = .ok (.iload_n 1, 1) by decide +kernel))),
  List.forall_mem_cons.mpr ⟨(xcm mi_249 ⟨⟨(by decide +kernel), (by decide +kernel), (by decide +kernel)⟩, (by decide), xw_2133, xw_125, Or.inl ⟨rfl, _, _, _, _, (show decode cX12_may 7 = .ok (.invokevirtual 338, 3) by decide +kernel), xw_2130, xw_2132, xw_83, rfl⟩⟩),
  List.forall_mem_cons.mpr ⟨(xOK_pure (xs_if_eq (show decode cX12_may 10 = .ok (.ifCond .eq 12, 3) by decide +kernel) (by decide))),
  List.forall_mem_cons.mpr ⟨(xOK_pure (xs_aload_n (k := 0) rfl (show decode cX12_may 13 = .ok (.aload_n 0, 1) by decide +kernel))),
  List.forall_mem_cons.mpr ⟨(xOK_pure (xs_iload_n (k := 1) rfl (show decode cX12_may 14 = .ok (.iload_n 1, 1) by decide +kernel))),
  List.forall_mem_cons.mpr ⟨(xOK_pure (xs_iconst (n := 0) (show decode cX12_may 15 = .ok (.iconst 0, 1) by decide +kernel) (by decide))),
  List.forall_mem_cons.mpr ⟨(xcm mi_253 ⟨⟨(by decide +kernel), (by decide +kernel), (by decide +kernel)⟩, (by decide), xw_2157, xw_125, Or.inl ⟨rfl, _, _, _, _, (show decode cX12_may 16 = .ok (.invokevirtual 379, 3) by decide +kernel), xw_2154, xw_2156, xw_88, rfl⟩⟩),
  List.forall_mem_cons.mpr ⟨(xOK_pure (xs_goto (show decode cX12_may 19 = .ok (.goto 4, 3) by decide +kernel) (by decide))),
  List.forall_mem_cons.mpr ⟨(xOK_pure (xs_iconst (n := (-1)) (show decode cX12_may 22 = .ok (.iconst (-1), 1) by decide +kernel) (by decide))),
  List.forall_mem_cons.mpr ⟨(Or.inr (Or.inl ⟨rfl, (show decode cX12_may 23 = .ok (.ireturn, 1) by decide +kernel), rfl⟩)),
  (fun _ h => absurd h List.not_mem_nil)⟩⟩⟩⟩⟩⟩⟩⟩⟩⟩⟩⟩⟩⟩
theorem omX12_may (ev : xEv) : xMethOK ev xmi yX12_may.cls yX12_may.name 263 (pX12_may ev) := xMethOK.of mi_263 (by decide +kernel) (okpX12_may ev)
def pX12_why_0 (ev : xEv) : List (Nat × xEn) := [(0, .inl (xop (xf_aload 0 1))), (1, .inl (xop (xf_push (.int 0) 1))), (2, .inl (xo_putf 12 47 .int)), (5, .inl (xop (xf_iload 1 1))), (6, .inl (xop (xf_push (.int 0) 1))), (7, .inl (xop (xf_aload 0 1))), (8, .inl (xop (xf_getf 12 33))), (11, .inl (xop (xf_push (.int 1) 1))), (12, .inl (xop (xf_bin (fun x y => x - y)))), (13, .inr (.inl (1, 188, 3, 12))), (16, .inl (xop (xf_if_eq 39))), (19, .inl (xop (xf_iload 2 1))), (20, .inl (xop (xf_push (.int 0) 1))), (21, .inl (xop (xf_push (.int 1) 1))), (22, .inr (.inl (1, 188, 3, 12))), (25, .inl (xop (xf_if_eq 39))), (28, .inl (xop (xf_aload 0 1))), (29, .inl (xop (xf_iload 1 1))), (30, .inl (xop (xf_push (.int 3) 1))), (31, .inl (xop (xf_iload 2 1)))]
set_option maxRecDepth 20000 in
theorem okpX12_why_0 (ev : xEv) : ∀ q ∈ pX12_why_0 ev, xEnOK ev xmi yX12_why.cls yX12_why.name cX12_why 3 (some .int) q :=
  List.forall_mem_cons.mpr ⟨(xOK_pure (xs_aload_n (k := 0) rfl (show decode cX12_why 0 = .ok (.aload_n 0, 1) by decide +kernel))),
  List.forall_mem_cons.mpr ⟨(xOK_pure (xs_iconst (n := 0) (show decode cX12_why 1 = .ok (.iconst 0, 1) by decide +kernel) (by decide))),
  List.forall_mem_cons.mpr ⟨(xs_putf (k := 47) xcl_12 (by decide) rfl (show decode cX12_why 2 = .ok (.putfield 140, 3) by decide +kernel) xw_1756),
  List.forall_mem_cons.mpr ⟨(xOK_pure (xs_iload_n (k := 1) rfl (show decode cX12_why 5 = .ok (.iload_n 1, 1) by decide +kernel))),
  List.forall_mem_cons.mpr ⟨(xOK_pure (xs_iconst (n := 0) (show decode cX12_why 6 = .ok (.iconst 0, 1) by decide +kernel) (by decide))),
  List.forall_mem_cons.mpr ⟨(xOK_pure (xs_aload_n (k := 0) rfl (show decode cX12_why 7 = .ok (.aload_n 0, 1) by decide +kernel))),
  List.forall_mem_cons.mpr ⟨(xOK_pure (xs_getf xcl_12 (by decide) (show decode cX12_why 8 = .ok (.getfield 332, 3) by decide +kernel) xw_1742)),
  List.forall_mem_cons.mpr ⟨(xOK_pure (xs_iconst (n := 1) (show decode cX12_why 11 = .ok (.iconst 1, 1) by decide +kernel) (by decide))),
  List.forall_mem_cons.mpr ⟨(xOK_pure (xs_isub (show decode cX12_why 12 = .ok (.isub, 1) by decide +kernel))),
  List.forall_mem_cons.mpr ⟨(xcm mi_188 ⟨⟨(by decide +kernel), (by decide +kernel), (by decide +kernel)⟩, (by decide), xw_1912, xw_125, Or.inr (Or.inl ⟨rfl, _, (show decode cX12_why 13 = .ok (.invokestatic 146, 3) by decide +kernel), xw_1910, xw_1911⟩)⟩),
  List.forall_mem_cons.mpr ⟨(xOK_pure (xs_if_eq (show decode cX12_why 16 = .ok (.ifCond .eq 23, 3) by decide +kernel) (by decide))),
  List.forall_mem_cons.mpr ⟨(xOK_pure (xs_iload_n (k := 2) rfl (show decode cX12_why 19 = .ok (.iload_n 2, 1) by decide +kernel))),
  List.forall_mem_cons.mpr ⟨(xOK_pure (xs_iconst (n := 0) (show decode cX12_why 20 = .ok (.iconst 0, 1) by decide +kernel) (by decide))),
  List.forall_mem_cons.mpr ⟨(xOK_pure (xs_iconst (n := 1) (show decode cX12_why 21 = .ok (.iconst 1, 1) by decide +kernel) (by decide))),
  List.forall_mem_cons.mpr ⟨(xcm mi_188 ⟨⟨(by decide +kernel), (by decide +kernel), (by decide +kernel)⟩, (by decide), xw_1912, xw_125, Or.inr (Or.inl ⟨rfl, _, (show decode cX12_why 22 = .ok (.invokestatic 146, 3) by decide +kernel), xw_1910, xw_1911⟩)⟩),
  List.forall_mem_cons.mpr ⟨(xOK_pure (xs_if_eq (show decode cX12_why 25 = .ok (.ifCond .eq 14, 3) by decide +kernel) (by decide))),
  List.forall_mem_cons.mpr ⟨(xOK_pure (xs_aload_n (k := 0) rfl (show decode cX12_why 28 = .ok (.aload_n 0, 1) by decide +kernel))),
  List.forall_mem_cons.mpr ⟨(xOK_pure (xs_iload_n (k := 1) rfl (show decode cX12_why 29 = .ok (.iload_n 1, 1) by decide +kernel))),
  List.forall_mem_cons.mpr ⟨(xOK_pure (xs_iconst (n := 3) (show decode cX12_why 30 = .ok (.iconst 3, 1) by decide +kernel) (by decide))),
  List.forall_mem_cons.mpr ⟨(xOK_pure (xs_iload_n (k := 2) rfl (show decode cX12_why 31 = .ok (.iload_n 2, 1) by decide +kernel))),
  (fun _ h => absurd h List.not_mem_nil)⟩⟩⟩⟩⟩⟩⟩⟩⟩⟩⟩⟩⟩⟩⟩⟩⟩⟩⟩⟩
def pX12_why_1 (ev : xEv) : List (Nat × xEn) := [(32, .inl (xop (xf_bin (fun x y => x + y)))), (33, .inr (.inl (0, 201, 2, 12))), (36, .inl (xop (xf_goto 40))), (39, .inl (xop (xf_push (.int (-1)) 1))), (40, .inr (.inr 1))]
set_option maxRecDepth 20000 in
theorem okpX12_why_1 (ev : xEv) : ∀ q ∈ pX12_why_1 ev, xEnOK ev xmi yX12_why.cls yX12_why.name cX12_why 3 (some .int) q :=
  List.forall_mem_cons.mpr ⟨(xOK_pure (xs_iadd (show decode cX12_why 32 = .ok (.iadd, 1) by decide +kernel))),
  List.forall_mem_cons.mpr ⟨(xcm mi_201 ⟨⟨(by decide +kernel), (by decide +kernel), (by decide +kernel)⟩, (by decide), xw_2137, xw_125, Or.inl ⟨rfl, _, _, _, _, (show decode cX12_why 33 = .ok (.invokevirtual 335, 3) by decide +kernel), xw_2134, xw_2136, xw_84, rfl⟩⟩),
  List.forall_mem_cons.mpr ⟨(xOK_pure (xs_goto (show decode cX12_why 36 = .ok (.goto 4, 3) by decide +kernel) (by decide))),
  List.forall_mem_cons.mpr ⟨(xOK_pure (xs_iconst (n := (-1)) (show decode cX12_why 39 = .ok (.iconst (-1), 1) by decide +kernel) (by decide))),
  List.forall_mem_cons.mpr ⟨(Or.inr (Or.inl ⟨rfl, (show decode cX12_why 40 = .ok (.ireturn, 1) by decide +kernel), rfl⟩)),
  (fun _ h => absurd h List.not_mem_nil)⟩⟩⟩⟩⟩
def pX12_why (ev : xEv) : List (Nat × xEn) := pX12_why_0 ev ++ (pX12_why_1 ev)
theorem okpX12_why (ev : xEv) : ∀ q ∈ pX12_why ev, xEnOK ev xmi yX12_why.cls yX12_why.name cX12_why 3 (some .int) q := List.forall_mem_append.mpr ⟨okpX12_why_0 ev, okpX12_why_1 ev⟩
theorem omX12_why (ev : xEv) : xMethOK ev xmi yX12_why.cls yX12_why.name 264 (pX12_why ev) := xMethOK.of mi_264 (by decide +kernel) (okpX12_why ev)
def pX12_given (ev : xEv) : List (Nat × xEn) := [(0, .inl (xop (xf_push (.int 0) 1))), (1, .inl (xop (xf_istore 1 1))), (2, .inl (xop (xf_push (.int 0) 1))), (3, .inl (xop (xf_istore 2 1))), (4, .inl (xop (xf_iload 2 1))), (5, .inl (xop (xf_aload 0 1))), (6, .inl (xop (xf_getf 12 28))), (9, .inl (xop (xf_icmp_ge 31))), (12, .inl (xop (xf_aload 0 1))), (13, .inl (xop (xf_iload 2 1))), (14, .inl (xop (xf_push (.int 3) 1))), (15, .inr (.inl (0, 199, 2, 12))), (18, .inl (xop (xf_push (.int (-1)) 1))), (19, .inl (xop (xf_icmp_eq 25))), (22, .inl (xop (xf_iinc 1 1))), (25, .inl (xop (xf_iinc 2 1))), (28, .inl (xop (xf_goto 4))), (31, .inl (xop (xf_iload 1 1))), (32, .inr (.inr 1))]
set_option maxRecDepth 20000 in
theorem okpX12_given (ev : xEv) : ∀ q ∈ pX12_given ev, xEnOK ev xmi yX12_given.cls yX12_given.name cX12_given 3 (some .int) q :=
  List.forall_mem_cons.mpr ⟨(xOK_pure (xs_iconst (n := 0) (show decode cX12_given 0 = .ok (.iconst 0, 1) by decide +kernel) (by decide))),
  List.forall_mem_cons.mpr ⟨(xOK_pure (xs_istore_n (k := 1) rfl (show decode cX12_given 1 = .ok (.istore_n 1, 1) by decide +kernel) (by decide))),
  List.forall_mem_cons.mpr ⟨(xOK_pure (xs_iconst (n := 0) (show decode cX12_given 2 = .ok (.iconst 0, 1) by decide +kernel) (by decide))),
  List.forall_mem_cons.mpr ⟨(xOK_pure (xs_istore_n (k := 2) rfl (show decode cX12_given 3 = .ok (.istore_n 2, 1) by decide +kernel) (by decide))),
  List.forall_mem_cons.mpr ⟨(xOK_pure (xs_iload_n (k := 2) rfl (show decode cX12_given 4 = .ok (.iload_n 2, 1) by decide +kernel))),
  List.forall_mem_cons.mpr ⟨(xOK_pure (xs_aload_n (k := 0) rfl (show decode cX12_given 5 = .ok (.aload_n 0, 1) by decide +kernel))),
  List.forall_mem_cons.mpr ⟨(xOK_pure (xs_getf xcl_12 (by decide) (show decode cX12_given 6 = .ok (.getfield 159, 3) by decide +kernel) xw_1737)),
  List.forall_mem_cons.mpr ⟨(xOK_pure (xs_icmp_ge (show decode cX12_given 9 = .ok (.if_icmp .ge 22, 3) by decide +kernel) (by decide))),
  List.forall_mem_cons.mpr ⟨(xOK_pure (xs_aload_n (k := 0) rfl (show decode cX12_given 12 = .ok (.aload_n 0, 1) by decide +kernel))),
  List.forall_mem_cons.mpr ⟨(xOK_pure (xs_iload_n (k := 2) rfl (show decode cX12_given 13 = .ok (.iload_n 2, 1) by decide +kernel))),
  List.forall_mem_cons.mpr ⟨(xOK_pure (xs_iconst (n := 3) (show decode cX12_given 14 = .ok (.iconst 3, 1) by decide +kernel) (by decide))),
  List.forall_mem_cons.mpr ⟨(xcm mi_199 ⟨⟨(by decide +kernel), (by decide +kernel), (by decide +kernel)⟩, (by decide), xw_2029, xw_125, Or.inl ⟨rfl, _, _, _, _, (show decode cX12_given 15 = .ok (.invokevirtual 215, 3) by decide +kernel), xw_2026, xw_2028, xw_67, rfl⟩⟩),
  List.forall_mem_cons.mpr ⟨(xOK_pure (xs_iconst (n := (-1)) (show decode cX12_given 18 = .ok (.iconst (-1), 1) by decide +kernel) (by decide))),
  List.forall_mem_cons.mpr ⟨(xOK_pure (xs_icmp_eq (show decode cX12_given 19 = .ok (.if_icmp .eq 6, 3) by decide +kernel) (by decide))),
  List.forall_mem_cons.mpr ⟨(xOK_pure (xs_iinc (n := 1) (show decode cX12_given 22 = .ok (.iinc 1 1, 3) by decide +kernel) (by decide) (by decide))),
  List.forall_mem_cons.mpr ⟨(xOK_pure (xs_iinc (n := 1) (show decode cX12_given 25 = .ok (.iinc 2 1, 3) by decide +kernel) (by decide) (by decide))),
  List.forall_mem_cons.mpr ⟨(xOK_pure (xs_goto (show decode cX12_given 28 = .ok (.goto (-24), 3) by decide +kernel) (by decide))),
  List.forall_mem_cons.mpr ⟨(xOK_pure (xs_iload_n (k := 1) rfl (show decode cX12_given 31 = .ok (.iload_n 1, 1) by decide +kernel))),
  List.forall_mem_cons.mpr ⟨(Or.inr (Or.inl ⟨rfl, (show decode cX12_given 32 = .ok (.ireturn, 1) by decide +kernel), rfl⟩)),
  (fun _ h => absurd h List.not_mem_nil)⟩⟩⟩⟩⟩⟩⟩⟩⟩⟩⟩⟩⟩⟩⟩⟩⟩⟩⟩
theorem omX12_given (ev : xEv) : xMethOK ev xmi yX12_given.cls yX12_given.name 265 (pX12_given ev) := xMethOK.of mi_265 (by decide +kernel) (okpX12_given ev)
def pX12_count_0 (ev : xEv) : List (Nat × xEn) := [(0, .inl (xop (xf_aload 0 1))), (1, .inl (xop (xf_push (.int 0) 1))), (2, .inl (xo_putf 12 47 .int)), (5, .inl (xop (xf_iload 1 1))), (6, .inl (xop (xf_sw (xtsw 0 [72, 79, 84, 89, 94, 99, 104, 109, 116, 121, 128, 133, 138] 167)))), (72, .inl (xop (xf_aload 0 1))), (73, .inl (xop (xf_getf 12 48))), (76, .inl (xop (xf_push (.int 0) 1))), (77, .inl (xop (xf_ald (ev.1 0)))), (78, .inr (.inr 1)), (79, .inl (xop (xf_aload 0 1))), (80, .inl (xop (xf_getf 12 1))), (83, .inr (.inr 1)), (84, .inl (xop (xf_aload 0 1))), (85, .inl (xop (xf_getf 12 9))), (88, .inr (.inr 1)), (89, .inl (xop (xf_aload 0 1))), (90, .inl (xop (xf_getf 12 21))), (93, .inr (.inr 1)), (94, .inl (xop (xf_aload 0 1)))]
set_option maxRecDepth 20000 in
theorem okpX12_count_0 (ev : xEv) : ∀ q ∈ pX12_count_0 ev, xEnOK ev xmi yX12_count.cls yX12_count.name cX12_count 4 (some .int) q :=
  List.forall_mem_cons.mpr ⟨(xOK_pure (xs_aload_n (k := 0) rfl (show decode cX12_count 0 = .ok (.aload_n 0, 1) by decide +kernel))),
  List.forall_mem_cons.mpr ⟨(xOK_pure (xs_iconst (n := 0) (show decode cX12_count 1 = .ok (.iconst 0, 1) by decide +kernel) (by decide))),
  List.forall_mem_cons.mpr ⟨(xs_putf (k := 47) xcl_12 (by decide) rfl (show decode cX12_count 2 = .ok (.putfield 140, 3) by decide +kernel) xw_1756),
  List.forall_mem_cons.mpr ⟨(xOK_pure (xs_iload_n (k := 1) rfl (show decode cX12_count 5 = .ok (.iload_n 1, 1) by decide +kernel))),
  List.forall_mem_cons.mpr ⟨(xOK_pure (xs_tsw (show decode cX12_count 6 = .ok (.tableswitch 161 0 12 #[66, 73, 78, 83, 88, 93, 98, 103, 110, 115, 122, 127, 132], 66) by decide +kernel) (by decide) (by decide) (by decide))),
  List.forall_mem_cons.mpr ⟨(xOK_pure (xs_aload_n (k := 0) rfl (show decode cX12_count 72 = .ok (.aload_n 0, 1) by decide +kernel))),
  List.forall_mem_cons.mpr ⟨(xOK_pure (xs_getf xcl_12 (by decide) (show decode cX12_count 73 = .ok (.getfield 121, 3) by decide +kernel) xw_1757)),
  List.forall_mem_cons.mpr ⟨(xOK_pure (xs_iconst (n := 0) (show decode cX12_count 76 = .ok (.iconst 0, 1) by decide +kernel) (by decide))),
  List.forall_mem_cons.mpr ⟨(xOK_pure (xs_iald (show decode cX12_count 77 = .ok (.iaload, 1) by decide +kernel))),
  List.forall_mem_cons.mpr ⟨(Or.inr (Or.inl ⟨rfl, (show decode cX12_count 78 = .ok (.ireturn, 1) by decide +kernel), rfl⟩)),
  List.forall_mem_cons.mpr ⟨(xOK_pure (xs_aload_n (k := 0) rfl (show decode cX12_count 79 = .ok (.aload_n 0, 1) by decide +kernel))),
  List.forall_mem_cons.mpr ⟨(xOK_pure (xs_getf xcl_12 (by decide) (show decode cX12_count 80 = .ok (.getfield 143, 3) by decide +kernel) xw_1710)),
  List.forall_mem_cons.mpr ⟨(Or.inr (Or.inl ⟨rfl, (show decode cX12_count 83 = .ok (.ireturn, 1) by decide +kernel), rfl⟩)),
  List.forall_mem_cons.mpr ⟨(xOK_pure (xs_aload_n (k := 0) rfl (show decode cX12_count 84 = .ok (.aload_n 0, 1) by decide +kernel))),
  List.forall_mem_cons.mpr ⟨(xOK_pure (xs_getf xcl_12 (by decide) (show decode cX12_count 85 = .ok (.getfield 150, 3) by decide +kernel) xw_1718)),
  List.forall_mem_cons.mpr ⟨(Or.inr (Or.inl ⟨rfl, (show decode cX12_count 88 = .ok (.ireturn, 1) by decide +kernel), rfl⟩)),
  List.forall_mem_cons.mpr ⟨(xOK_pure (xs_aload_n (k := 0) rfl (show decode cX12_count 89 = .ok (.aload_n 0, 1) by decide +kernel))),
  List.forall_mem_cons.mpr ⟨(xOK_pure (xs_getf xcl_12 (by decide) (show decode cX12_count 90 = .ok (.getfield 153, 3) by decide +kernel) xw_1730)),
  List.forall_mem_cons.mpr ⟨(Or.inr (Or.inl ⟨rfl, (show decode cX12_count 93 = .ok (.ireturn, 1) by decide +kernel), rfl⟩)),
  List.forall_mem_cons.mpr ⟨(xOK_pure (xs_aload_n (k := 0) rfl (show decode cX12_count 94 = .ok (.aload_n 0, 1) by decide +kernel))),
  (fun _ h => absurd h List.not_mem_nil)⟩⟩⟩⟩⟩⟩⟩⟩⟩⟩⟩⟩⟩⟩⟩⟩⟩⟩⟩⟩
def pX12_count_1 (ev : xEv) : List (Nat × xEn) := [(95, .inl (xop (xf_getf 12 22))), (98, .inr (.inr 1)), (99, .inl (xop (xf_aload 0 1))), (100, .inl (xop (xf_getf 12 28))), (103, .inr (.inr 1)), (104, .inl (xop (xf_aload 0 1))), (105, .inl (xop (xf_getf 12 33))), (108, .inr (.inr 1)), (109, .inl (xop (xf_aload 0 1))), (110, .inl (xop (xf_getf 12 48))), (113, .inl (xop (xf_push (.int 2) 1))), (114, .inl (xop (xf_ald (ev.1 0)))), (115, .inr (.inr 1)), (116, .inl (xop (xf_aload 0 1))), (117, .inr (.inl (0, 265, 0, 12))), (120, .inr (.inr 1)), (121, .inl (xop (xf_aload 0 1))), (122, .inl (xop (xf_getf 12 48))), (125, .inl (xop (xf_push (.int 1) 1))), (126, .inl (xop (xf_ald (ev.1 0))))]
set_option maxRecDepth 20000 in
theorem okpX12_count_1 (ev : xEv) : ∀ q ∈ pX12_count_1 ev, xEnOK ev xmi yX12_count.cls yX12_count.name cX12_count 4 (some .int) q :=
  List.forall_mem_cons.mpr ⟨(xOK_pure (xs_getf xcl_12 (by decide) (show decode cX12_count 95 = .ok (.getfield 156, 3) by decide +kernel) xw_1731)),
  List.forall_mem_cons.mpr ⟨(Or.inr (Or.inl ⟨rfl, (show decode cX12_count 98 = .ok (.ireturn, 1) by decide +kernel), rfl⟩)),
  List.forall_mem_cons.mpr ⟨(xOK_pure (xs_aload_n (k := 0) rfl (show decode cX12_count 99 = .ok (.aload_n 0, 1) by decide +kernel))),
  List.forall_mem_cons.mpr ⟨(xOK_pure (xs_getf xcl_12 (by decide) (show decode cX12_count 100 = .ok (.getfield 159, 3) by decide +kernel) xw_1737)),
  List.forall_mem_cons.mpr ⟨(Or.inr (Or.inl ⟨rfl, (show decode cX12_count 103 = .ok (.ireturn, 1) by decide +kernel), rfl⟩)),
  List.forall_mem_cons.mpr ⟨(xOK_pure (xs_aload_n (k := 0) rfl (show decode cX12_count 104 = .ok (.aload_n 0, 1) by decide +kernel))),
  List.forall_mem_cons.mpr ⟨(xOK_pure (xs_getf xcl_12 (by decide) (show decode cX12_count 105 = .ok (.getfield 332, 3) by decide +kernel) xw_1742)),
  List.forall_mem_cons.mpr ⟨(Or.inr (Or.inl ⟨rfl, (show decode cX12_count 108 = .ok (.ireturn, 1) by decide +kernel), rfl⟩)),
  List.forall_mem_cons.mpr ⟨(xOK_pure (xs_aload_n (k := 0) rfl (show decode cX12_count 109 = .ok (.aload_n 0, 1) by decide +kernel))),
  List.forall_mem_cons.mpr ⟨(xOK_pure (xs_getf xcl_12 (by decide) (show decode cX12_count 110 = .ok (.getfield 121, 3) by decide +kernel) xw_1757)),
  List.forall_mem_cons.mpr ⟨(xOK_pure (xs_iconst (n := 2) (show decode cX12_count 113 = .ok (.iconst 2, 1) by decide +kernel) (by decide))),
  List.forall_mem_cons.mpr ⟨(xOK_pure (xs_iald (show decode cX12_count 114 = .ok (.iaload, 1) by decide +kernel))),
  List.forall_mem_cons.mpr ⟨(Or.inr (Or.inl ⟨rfl, (show decode cX12_count 115 = .ok (.ireturn, 1) by decide +kernel), rfl⟩)),
  List.forall_mem_cons.mpr ⟨(xOK_pure (xs_aload_n (k := 0) rfl (show decode cX12_count 116 = .ok (.aload_n 0, 1) by decide +kernel))),
  List.forall_mem_cons.mpr ⟨(xcm mi_265 ⟨⟨(by decide +kernel), (by decide +kernel), (by decide +kernel)⟩, (by decide), xw_2225, xw_125, Or.inl ⟨rfl, _, _, _, _, (show decode cX12_count 117 = .ok (.invokevirtual 395, 3) by decide +kernel), xw_2222, xw_2224, xw_101, rfl⟩⟩),
  List.forall_mem_cons.mpr ⟨(Or.inr (Or.inl ⟨rfl, (show decode cX12_count 120 = .ok (.ireturn, 1) by decide +kernel), rfl⟩)),
  List.forall_mem_cons.mpr ⟨(xOK_pure (xs_aload_n (k := 0) rfl (show decode cX12_count 121 = .ok (.aload_n 0, 1) by decide +kernel))),
  List.forall_mem_cons.mpr ⟨(xOK_pure (xs_getf xcl_12 (by decide) (show decode cX12_count 122 = .ok (.getfield 121, 3) by decide +kernel) xw_1757)),
  List.forall_mem_cons.mpr ⟨(xOK_pure (xs_iconst (n := 1) (show decode cX12_count 125 = .ok (.iconst 1, 1) by decide +kernel) (by decide))),
  List.forall_mem_cons.mpr ⟨(xOK_pure (xs_iald (show decode cX12_count 126 = .ok (.iaload, 1) by decide +kernel))),
  (fun _ h => absurd h List.not_mem_nil)⟩⟩⟩⟩⟩⟩⟩⟩⟩⟩⟩⟩⟩⟩⟩⟩⟩⟩⟩⟩
def pX12_count_2 (ev : xEv) : List (Nat × xEn) := [(127, .inr (.inr 1)), (128, .inl (xop (xf_aload 0 1))), (129, .inl (xop (xf_getf 12 46))), (132, .inr (.inr 1)), (133, .inl (xop (xf_aload 0 1))), (134, .inl (xop (xf_getf 12 44))), (137, .inr (.inr 1)), (138, .inl (xop (xf_push (.int 0) 1))), (139, .inl (xop (xf_istore 2 1))), (140, .inl (xop (xf_push (.int 0) 1))), (141, .inl (xop (xf_istore 3 1))), (142, .inl (xop (xf_iload 3 1))), (143, .inl (xop (xf_aload 0 1))), (144, .inl (xop (xf_getf 12 21))), (147, .inl (xop (xf_icmp_ge 165))), (150, .inl (xop (xf_iload 2 1))), (151, .inl (xop (xf_aload 0 1))), (152, .inl (xop (xf_iload 3 1))), (153, .inl (xop (xf_push (.int 3) 1))), (154, .inr (.inl (0, 195, 2, 12)))]
set_option maxRecDepth 20000 in
theorem okpX12_count_2 (ev : xEv) : ∀ q ∈ pX12_count_2 ev, xEnOK ev xmi yX12_count.cls yX12_count.name cX12_count 4 (some .int) q :=
  List.forall_mem_cons.mpr ⟨(Or.inr (Or.inl ⟨rfl, (show decode cX12_count 127 = .ok (.ireturn, 1) by decide +kernel), rfl⟩)),
  List.forall_mem_cons.mpr ⟨(xOK_pure (xs_aload_n (k := 0) rfl (show decode cX12_count 128 = .ok (.aload_n 0, 1) by decide +kernel))),
  List.forall_mem_cons.mpr ⟨(xOK_pure (xs_getf xcl_12 (by decide) (show decode cX12_count 129 = .ok (.getfield 398, 3) by decide +kernel) xw_1755)),
  List.forall_mem_cons.mpr ⟨(Or.inr (Or.inl ⟨rfl, (show decode cX12_count 132 = .ok (.ireturn, 1) by decide +kernel), rfl⟩)),
  List.forall_mem_cons.mpr ⟨(xOK_pure (xs_aload_n (k := 0) rfl (show decode cX12_count 133 = .ok (.aload_n 0, 1) by decide +kernel))),
  List.forall_mem_cons.mpr ⟨(xOK_pure (xs_getf xcl_12 (by decide) (show decode cX12_count 134 = .ok (.getfield 234, 3) by decide +kernel) xw_1753)),
  List.forall_mem_cons.mpr ⟨(Or.inr (Or.inl ⟨rfl, (show decode cX12_count 137 = .ok (.ireturn, 1) by decide +kernel), rfl⟩)),
  List.forall_mem_cons.mpr ⟨(xOK_pure (xs_iconst (n := 0) (show decode cX12_count 138 = .ok (.iconst 0, 1) by decide +kernel) (by decide))),
  List.forall_mem_cons.mpr ⟨(xOK_pure (xs_istore_n (k := 2) rfl (show decode cX12_count 139 = .ok (.istore_n 2, 1) by decide +kernel) (by decide))),
  List.forall_mem_cons.mpr ⟨(xOK_pure (xs_iconst (n := 0) (show decode cX12_count 140 = .ok (.iconst 0, 1) by decide +kernel) (by decide))),
  List.forall_mem_cons.mpr ⟨(xOK_pure (xs_istore_n (k := 3) rfl (show decode cX12_count 141 = .ok (.istore_n 3, 1) by decide +kernel) (by decide))),
  List.forall_mem_cons.mpr ⟨(xOK_pure (xs_iload_n (k := 3) rfl (show decode cX12_count 142 = .ok (.iload_n 3, 1) by decide +kernel))),
  List.forall_mem_cons.mpr ⟨(xOK_pure (xs_aload_n (k := 0) rfl (show decode cX12_count 143 = .ok (.aload_n 0, 1) by decide +kernel))),
  List.forall_mem_cons.mpr ⟨(xOK_pure (xs_getf xcl_12 (by decide) (show decode cX12_count 144 = .ok (.getfield 153, 3) by decide +kernel) xw_1730)),
  List.forall_mem_cons.mpr ⟨(xOK_pure (xs_icmp_ge (show decode cX12_count 147 = .ok (.if_icmp .ge 18, 3) by decide +kernel) (by decide))),
  List.forall_mem_cons.mpr ⟨(xOK_pure (xs_iload_n (k := 2) rfl (show decode cX12_count 150 = .ok (.iload_n 2, 1) by decide +kernel))),
  List.forall_mem_cons.mpr ⟨(xOK_pure (xs_aload_n (k := 0) rfl (show decode cX12_count 151 = .ok (.aload_n 0, 1) by decide +kernel))),
  List.forall_mem_cons.mpr ⟨(xOK_pure (xs_iload_n (k := 3) rfl (show decode cX12_count 152 = .ok (.iload_n 3, 1) by decide +kernel))),
  List.forall_mem_cons.mpr ⟨(xOK_pure (xs_iconst (n := 3) (show decode cX12_count 153 = .ok (.iconst 3, 1) by decide +kernel) (by decide))),
  List.forall_mem_cons.mpr ⟨(xcm mi_195 ⟨⟨(by decide +kernel), (by decide +kernel), (by decide +kernel)⟩, (by decide), xw_2161, xw_125, Or.inl ⟨rfl, _, _, _, _, (show decode cX12_count 154 = .ok (.invokevirtual 344, 3) by decide +kernel), xw_2158, xw_2160, xw_89, rfl⟩⟩),
  (fun _ h => absurd h List.not_mem_nil)⟩⟩⟩⟩⟩⟩⟩⟩⟩⟩⟩⟩⟩⟩⟩⟩⟩⟩⟩⟩
def pX12_count_3 (ev : xEv) : List (Nat × xEn) := [(157, .inl (xop (xf_bin (fun x y => x + y)))), (158, .inl (xop (xf_istore 2 1))), (159, .inl (xop (xf_iinc 3 1))), (162, .inl (xop (xf_goto 142))), (165, .inl (xop (xf_iload 2 1))), (166, .inr (.inr 1)), (167, .inl (xop (xf_push (.int (-1)) 1))), (168, .inr (.inr 1))]
set_option maxRecDepth 20000 in
theorem okpX12_count_3 (ev : xEv) : ∀ q ∈ pX12_count_3 ev, xEnOK ev xmi yX12_count.cls yX12_count.name cX12_count 4 (some .int) q :=
  List.forall_mem_cons.mpr ⟨(xOK_pure (xs_iadd (show decode cX12_count 157 = .ok (.iadd, 1) by decide +kernel))),
  List.forall_mem_cons.mpr ⟨(xOK_pure (xs_istore_n (k := 2) rfl (show decode cX12_count 158 = .ok (.istore_n 2, 1) by decide +kernel) (by decide))),
  List.forall_mem_cons.mpr ⟨(xOK_pure (xs_iinc (n := 1) (show decode cX12_count 159 = .ok (.iinc 3 1, 3) by decide +kernel) (by decide) (by decide))),
  List.forall_mem_cons.mpr ⟨(xOK_pure (xs_goto (show decode cX12_count 162 = .ok (.goto (-20), 3) by decide +kernel) (by decide))),
  List.forall_mem_cons.mpr ⟨(xOK_pure (xs_iload_n (k := 2) rfl (show decode cX12_count 165 = .ok (.iload_n 2, 1) by decide +kernel))),
  List.forall_mem_cons.mpr ⟨(Or.inr (Or.inl ⟨rfl, (show decode cX12_count 166 = .ok (.ireturn, 1) by decide +kernel), rfl⟩)),
  List.forall_mem_cons.mpr ⟨(xOK_pure (xs_iconst (n := (-1)) (show decode cX12_count 167 = .ok (.iconst (-1), 1) by decide +kernel) (by decide))),
  List.forall_mem_cons.mpr ⟨(Or.inr (Or.inl ⟨rfl, (show decode cX12_count 168 = .ok (.ireturn, 1) by decide +kernel), rfl⟩)),
  (fun _ h => absurd h List.not_mem_nil)⟩⟩⟩⟩⟩⟩⟩⟩
def pX12_count (ev : xEv) : List (Nat × xEn) := pX12_count_0 ev ++ (pX12_count_1 ev ++ (pX12_count_2 ev ++ (pX12_count_3 ev)))
theorem okpX12_count (ev : xEv) : ∀ q ∈ pX12_count ev, xEnOK ev xmi yX12_count.cls yX12_count.name cX12_count 4 (some .int) q := List.forall_mem_append.mpr ⟨okpX12_count_0 ev, List.forall_mem_append.mpr ⟨okpX12_count_1 ev, List.forall_mem_append.mpr ⟨okpX12_count_2 ev, okpX12_count_3 ev⟩⟩⟩
theorem omX12_count (ev : xEv) : xMethOK ev xmi yX12_count.cls yX12_count.name 266 (pX12_count ev) := xMethOK.of mi_266 (by decide +kernel) (okpX12_count ev)
def pX12_of_0 (ev : xEv) : List (Nat × xEn) := [(0, .inl (xop (xf_aload 0 1))), (1, .inl (xop (xf_push (.int 0) 1))), (2, .inl (xo_putf 12 47 .int)), (5, .inl (xop (xf_aload 0 1))), (6, .inl (xop (xf_iload 1 1))), (7, .inr (.inl (0, 192, 1, 12))), (10, .inl (xop (xf_if_eq 23))), (13, .inl (xop (xf_iload 2 1))), (14, .inl (xop (xf_push (.int 0) 1))), (15, .inl (xop (xf_push (.int 10) 2))), (17, .inr (.inl (1, 188, 3, 12))), (20, .inl (xop (xf_if_ne 28))), (23, .inl (xop (xf_aload 0 1))), (24, .inr (.inl (0, 189, 0, 12))), (27, .inr (.inr 1)), (28, .inl (xop (xf_iload 2 1))), (29, .inl (xop (xf_sw (xtsw 0 [84, 91, 98, 105, 112, 119, 126, 134, 142, 185] 193)))), (84, .inl (xop (xf_aload 0 1))), (85, .inl (xop (xf_iload 1 1))), (86, .inl (xop (xf_push (.int 0) 1)))]
set_option maxRecDepth 20000 in
theorem okpX12_of_0 (ev : xEv) : ∀ q ∈ pX12_of_0 ev, xEnOK ev xmi yX12_of.cls yX12_of.name cX12_of 5 (some .int) q :=
  List.forall_mem_cons.mpr ⟨(xOK_pure (xs_aload_n (k := 0) rfl (show decode cX12_of 0 = .ok (.aload_n 0, 1) by decide +kernel))),
  List.forall_mem_cons.mpr ⟨(xOK_pure (xs_iconst (n := 0) (show decode cX12_of 1 = .ok (.iconst 0, 1) by decide +kernel) (by decide))),
  List.forall_mem_cons.mpr ⟨(xs_putf (k := 47) xcl_12 (by decide) rfl (show decode cX12_of 2 = .ok (.putfield 140, 3) by decide +kernel) xw_1756),
  List.forall_mem_cons.mpr ⟨(xOK_pure (xs_aload_n (k := 0) rfl (show decode cX12_of 5 = .ok (.aload_n 0, 1) by decide +kernel))),
  List.forall_mem_cons.mpr ⟨(xOK_pure (xs_iload_n (k := 1) rfl (show decode cX12_of 6 = .ok (.iload_n 1, 1) by decide +kernel))),
  List.forall_mem_cons.mpr ⟨(xcm mi_192 ⟨⟨(by decide +kernel), (by decide +kernel), (by decide +kernel)⟩, (by decide), xw_1993, xw_125, Or.inl ⟨rfl, _, _, _, _, (show decode cX12_of 7 = .ok (.invokevirtual 203, 3) by decide +kernel), xw_1990, xw_1992, xw_61, rfl⟩⟩),
  List.forall_mem_cons.mpr ⟨(xOK_pure (xs_if_eq (show decode cX12_of 10 = .ok (.ifCond .eq 13, 3) by decide +kernel) (by decide))),
  List.forall_mem_cons.mpr ⟨(xOK_pure (xs_iload_n (k := 2) rfl (show decode cX12_of 13 = .ok (.iload_n 2, 1) by decide +kernel))),
  List.forall_mem_cons.mpr ⟨(xOK_pure (xs_iconst (n := 0) (show decode cX12_of 14 = .ok (.iconst 0, 1) by decide +kernel) (by decide))),
  List.forall_mem_cons.mpr ⟨(xOK_pure (xs_bipush (n := 10) (show decode cX12_of 15 = .ok (.bipush 10, 2) by decide +kernel) (by decide))),
  List.forall_mem_cons.mpr ⟨(xcm mi_188 ⟨⟨(by decide +kernel), (by decide +kernel), (by decide +kernel)⟩, (by decide), xw_1912, xw_125, Or.inr (Or.inl ⟨rfl, _, (show decode cX12_of 17 = .ok (.invokestatic 146, 3) by decide +kernel), xw_1910, xw_1911⟩)⟩),
  List.forall_mem_cons.mpr ⟨(xOK_pure (xs_if_ne (show decode cX12_of 20 = .ok (.ifCond .ne 8, 3) by decide +kernel) (by decide))),
  List.forall_mem_cons.mpr ⟨(xOK_pure (xs_aload_n (k := 0) rfl (show decode cX12_of 23 = .ok (.aload_n 0, 1) by decide +kernel))),
  List.forall_mem_cons.mpr ⟨(xcm mi_189 ⟨⟨(by decide +kernel), (by decide +kernel), (by decide +kernel)⟩, (by decide), xw_1949, xw_125, Or.inl ⟨rfl, _, _, _, _, (show decode cX12_of 24 = .ok (.invokevirtual 181, 3) by decide +kernel), xw_1946, xw_1948, xw_54, rfl⟩⟩),
  List.forall_mem_cons.mpr ⟨(Or.inr (Or.inl ⟨rfl, (show decode cX12_of 27 = .ok (.ireturn, 1) by decide +kernel), rfl⟩)),
  List.forall_mem_cons.mpr ⟨(xOK_pure (xs_iload_n (k := 2) rfl (show decode cX12_of 28 = .ok (.iload_n 2, 1) by decide +kernel))),
  List.forall_mem_cons.mpr ⟨(xOK_pure (xs_tsw (show decode cX12_of 29 = .ok (.tableswitch 164 0 9 #[55, 62, 69, 76, 83, 90, 97, 105, 113, 156], 55) by decide +kernel) (by decide) (by decide) (by decide))),
  List.forall_mem_cons.mpr ⟨(xOK_pure (xs_aload_n (k := 0) rfl (show decode cX12_of 84 = .ok (.aload_n 0, 1) by decide +kernel))),
  List.forall_mem_cons.mpr ⟨(xOK_pure (xs_iload_n (k := 1) rfl (show decode cX12_of 85 = .ok (.iload_n 1, 1) by decide +kernel))),
  List.forall_mem_cons.mpr ⟨(xOK_pure (xs_iconst (n := 0) (show decode cX12_of 86 = .ok (.iconst 0, 1) by decide +kernel) (by decide))),
  (fun _ h => absurd h List.not_mem_nil)⟩⟩⟩⟩⟩⟩⟩⟩⟩⟩⟩⟩⟩⟩⟩⟩⟩⟩⟩⟩
def pX12_of_1 (ev : xEv) : List (Nat × xEn) := [(87, .inr (.inl (0, 195, 2, 12))), (90, .inr (.inr 1)), (91, .inl (xop (xf_aload 0 1))), (92, .inl (xop (xf_iload 1 1))), (93, .inl (xop (xf_push (.int 1) 1))), (94, .inr (.inl (0, 195, 2, 12))), (97, .inr (.inr 1)), (98, .inl (xop (xf_aload 0 1))), (99, .inl (xop (xf_iload 1 1))), (100, .inl (xop (xf_push (.int 2) 1))), (101, .inr (.inl (0, 195, 2, 12))), (104, .inr (.inr 1)), (105, .inl (xop (xf_aload 0 1))), (106, .inl (xop (xf_iload 1 1))), (107, .inl (xop (xf_push (.int 3) 1))), (108, .inr (.inl (0, 195, 2, 12))), (111, .inr (.inr 1)), (112, .inl (xop (xf_aload 0 1))), (113, .inl (xop (xf_iload 1 1))), (114, .inl (xop (xf_push (.int 4) 1)))]
set_option maxRecDepth 20000 in
theorem okpX12_of_1 (ev : xEv) : ∀ q ∈ pX12_of_1 ev, xEnOK ev xmi yX12_of.cls yX12_of.name cX12_of 5 (some .int) q :=
  List.forall_mem_cons.mpr ⟨(xcm mi_195 ⟨⟨(by decide +kernel), (by decide +kernel), (by decide +kernel)⟩, (by decide), xw_2161, xw_125, Or.inl ⟨rfl, _, _, _, _, (show decode cX12_of 87 = .ok (.invokevirtual 344, 3) by decide +kernel), xw_2158, xw_2160, xw_89, rfl⟩⟩),
  List.forall_mem_cons.mpr ⟨(Or.inr (Or.inl ⟨rfl, (show decode cX12_of 90 = .ok (.ireturn, 1) by decide +kernel), rfl⟩)),
  List.forall_mem_cons.mpr ⟨(xOK_pure (xs_aload_n (k := 0) rfl (show decode cX12_of 91 = .ok (.aload_n 0, 1) by decide +kernel))),
  List.forall_mem_cons.mpr ⟨(xOK_pure (xs_iload_n (k := 1) rfl (show decode cX12_of 92 = .ok (.iload_n 1, 1) by decide +kernel))),
  List.forall_mem_cons.mpr ⟨(xOK_pure (xs_iconst (n := 1) (show decode cX12_of 93 = .ok (.iconst 1, 1) by decide +kernel) (by decide))),
  List.forall_mem_cons.mpr ⟨(xcm mi_195 ⟨⟨(by decide +kernel), (by decide +kernel), (by decide +kernel)⟩, (by decide), xw_2161, xw_125, Or.inl ⟨rfl, _, _, _, _, (show decode cX12_of 94 = .ok (.invokevirtual 344, 3) by decide +kernel), xw_2158, xw_2160, xw_89, rfl⟩⟩),
  List.forall_mem_cons.mpr ⟨(Or.inr (Or.inl ⟨rfl, (show decode cX12_of 97 = .ok (.ireturn, 1) by decide +kernel), rfl⟩)),
  List.forall_mem_cons.mpr ⟨(xOK_pure (xs_aload_n (k := 0) rfl (show decode cX12_of 98 = .ok (.aload_n 0, 1) by decide +kernel))),
  List.forall_mem_cons.mpr ⟨(xOK_pure (xs_iload_n (k := 1) rfl (show decode cX12_of 99 = .ok (.iload_n 1, 1) by decide +kernel))),
  List.forall_mem_cons.mpr ⟨(xOK_pure (xs_iconst (n := 2) (show decode cX12_of 100 = .ok (.iconst 2, 1) by decide +kernel) (by decide))),
  List.forall_mem_cons.mpr ⟨(xcm mi_195 ⟨⟨(by decide +kernel), (by decide +kernel), (by decide +kernel)⟩, (by decide), xw_2161, xw_125, Or.inl ⟨rfl, _, _, _, _, (show decode cX12_of 101 = .ok (.invokevirtual 344, 3) by decide +kernel), xw_2158, xw_2160, xw_89, rfl⟩⟩),
  List.forall_mem_cons.mpr ⟨(Or.inr (Or.inl ⟨rfl, (show decode cX12_of 104 = .ok (.ireturn, 1) by decide +kernel), rfl⟩)),
  List.forall_mem_cons.mpr ⟨(xOK_pure (xs_aload_n (k := 0) rfl (show decode cX12_of 105 = .ok (.aload_n 0, 1) by decide +kernel))),
  List.forall_mem_cons.mpr ⟨(xOK_pure (xs_iload_n (k := 1) rfl (show decode cX12_of 106 = .ok (.iload_n 1, 1) by decide +kernel))),
  List.forall_mem_cons.mpr ⟨(xOK_pure (xs_iconst (n := 3) (show decode cX12_of 107 = .ok (.iconst 3, 1) by decide +kernel) (by decide))),
  List.forall_mem_cons.mpr ⟨(xcm mi_195 ⟨⟨(by decide +kernel), (by decide +kernel), (by decide +kernel)⟩, (by decide), xw_2161, xw_125, Or.inl ⟨rfl, _, _, _, _, (show decode cX12_of 108 = .ok (.invokevirtual 344, 3) by decide +kernel), xw_2158, xw_2160, xw_89, rfl⟩⟩),
  List.forall_mem_cons.mpr ⟨(Or.inr (Or.inl ⟨rfl, (show decode cX12_of 111 = .ok (.ireturn, 1) by decide +kernel), rfl⟩)),
  List.forall_mem_cons.mpr ⟨(xOK_pure (xs_aload_n (k := 0) rfl (show decode cX12_of 112 = .ok (.aload_n 0, 1) by decide +kernel))),
  List.forall_mem_cons.mpr ⟨(xOK_pure (xs_iload_n (k := 1) rfl (show decode cX12_of 113 = .ok (.iload_n 1, 1) by decide +kernel))),
  List.forall_mem_cons.mpr ⟨(xOK_pure (xs_iconst (n := 4) (show decode cX12_of 114 = .ok (.iconst 4, 1) by decide +kernel) (by decide))),
  (fun _ h => absurd h List.not_mem_nil)⟩⟩⟩⟩⟩⟩⟩⟩⟩⟩⟩⟩⟩⟩⟩⟩⟩⟩⟩⟩
def pX12_of_2 (ev : xEv) : List (Nat × xEn) := [(115, .inr (.inl (0, 195, 2, 12))), (118, .inr (.inr 1)), (119, .inl (xop (xf_aload 0 1))), (120, .inl (xop (xf_iload 1 1))), (121, .inl (xop (xf_push (.int 5) 1))), (122, .inr (.inl (0, 195, 2, 12))), (125, .inr (.inr 1)), (126, .inl (xop (xf_aload 0 1))), (127, .inl (xop (xf_iload 1 1))), (128, .inl (xop (xf_push (.int 8) 2))), (130, .inr (.inl (0, 195, 2, 12))), (133, .inr (.inr 1)), (134, .inl (xop (xf_aload 0 1))), (135, .inl (xop (xf_iload 1 1))), (136, .inl (xop (xf_push (.int 9) 2))), (138, .inr (.inl (0, 195, 2, 12))), (141, .inr (.inr 1)), (142, .inl (xop (xf_push (.int 0) 1))), (143, .inl (xop (xf_istore 3 1))), (144, .inl (xop (xf_push (.int 0) 1)))]
set_option maxRecDepth 20000 in
theorem okpX12_of_2 (ev : xEv) : ∀ q ∈ pX12_of_2 ev, xEnOK ev xmi yX12_of.cls yX12_of.name cX12_of 5 (some .int) q :=
  List.forall_mem_cons.mpr ⟨(xcm mi_195 ⟨⟨(by decide +kernel), (by decide +kernel), (by decide +kernel)⟩, (by decide), xw_2161, xw_125, Or.inl ⟨rfl, _, _, _, _, (show decode cX12_of 115 = .ok (.invokevirtual 344, 3) by decide +kernel), xw_2158, xw_2160, xw_89, rfl⟩⟩),
  List.forall_mem_cons.mpr ⟨(Or.inr (Or.inl ⟨rfl, (show decode cX12_of 118 = .ok (.ireturn, 1) by decide +kernel), rfl⟩)),
  List.forall_mem_cons.mpr ⟨(xOK_pure (xs_aload_n (k := 0) rfl (show decode cX12_of 119 = .ok (.aload_n 0, 1) by decide +kernel))),
  List.forall_mem_cons.mpr ⟨(xOK_pure (xs_iload_n (k := 1) rfl (show decode cX12_of 120 = .ok (.iload_n 1, 1) by decide +kernel))),
  List.forall_mem_cons.mpr ⟨(xOK_pure (xs_iconst (n := 5) (show decode cX12_of 121 = .ok (.iconst 5, 1) by decide +kernel) (by decide))),
  List.forall_mem_cons.mpr ⟨(xcm mi_195 ⟨⟨(by decide +kernel), (by decide +kernel), (by decide +kernel)⟩, (by decide), xw_2161, xw_125, Or.inl ⟨rfl, _, _, _, _, (show decode cX12_of 122 = .ok (.invokevirtual 344, 3) by decide +kernel), xw_2158, xw_2160, xw_89, rfl⟩⟩),
  List.forall_mem_cons.mpr ⟨(Or.inr (Or.inl ⟨rfl, (show decode cX12_of 125 = .ok (.ireturn, 1) by decide +kernel), rfl⟩)),
  List.forall_mem_cons.mpr ⟨(xOK_pure (xs_aload_n (k := 0) rfl (show decode cX12_of 126 = .ok (.aload_n 0, 1) by decide +kernel))),
  List.forall_mem_cons.mpr ⟨(xOK_pure (xs_iload_n (k := 1) rfl (show decode cX12_of 127 = .ok (.iload_n 1, 1) by decide +kernel))),
  List.forall_mem_cons.mpr ⟨(xOK_pure (xs_bipush (n := 8) (show decode cX12_of 128 = .ok (.bipush 8, 2) by decide +kernel) (by decide))),
  List.forall_mem_cons.mpr ⟨(xcm mi_195 ⟨⟨(by decide +kernel), (by decide +kernel), (by decide +kernel)⟩, (by decide), xw_2161, xw_125, Or.inl ⟨rfl, _, _, _, _, (show decode cX12_of 130 = .ok (.invokevirtual 344, 3) by decide +kernel), xw_2158, xw_2160, xw_89, rfl⟩⟩),
  List.forall_mem_cons.mpr ⟨(Or.inr (Or.inl ⟨rfl, (show decode cX12_of 133 = .ok (.ireturn, 1) by decide +kernel), rfl⟩)),
  List.forall_mem_cons.mpr ⟨(xOK_pure (xs_aload_n (k := 0) rfl (show decode cX12_of 134 = .ok (.aload_n 0, 1) by decide +kernel))),
  List.forall_mem_cons.mpr ⟨(xOK_pure (xs_iload_n (k := 1) rfl (show decode cX12_of 135 = .ok (.iload_n 1, 1) by decide +kernel))),
  List.forall_mem_cons.mpr ⟨(xOK_pure (xs_bipush (n := 9) (show decode cX12_of 136 = .ok (.bipush 9, 2) by decide +kernel) (by decide))),
  List.forall_mem_cons.mpr ⟨(xcm mi_195 ⟨⟨(by decide +kernel), (by decide +kernel), (by decide +kernel)⟩, (by decide), xw_2161, xw_125, Or.inl ⟨rfl, _, _, _, _, (show decode cX12_of 138 = .ok (.invokevirtual 344, 3) by decide +kernel), xw_2158, xw_2160, xw_89, rfl⟩⟩),
  List.forall_mem_cons.mpr ⟨(Or.inr (Or.inl ⟨rfl, (show decode cX12_of 141 = .ok (.ireturn, 1) by decide +kernel), rfl⟩)),
  List.forall_mem_cons.mpr ⟨(xOK_pure (xs_iconst (n := 0) (show decode cX12_of 142 = .ok (.iconst 0, 1) by decide +kernel) (by decide))),
  List.forall_mem_cons.mpr ⟨(xOK_pure (xs_istore_n (k := 3) rfl (show decode cX12_of 143 = .ok (.istore_n 3, 1) by decide +kernel) (by decide))),
  List.forall_mem_cons.mpr ⟨(xOK_pure (xs_iconst (n := 0) (show decode cX12_of 144 = .ok (.iconst 0, 1) by decide +kernel) (by decide))),
  (fun _ h => absurd h List.not_mem_nil)⟩⟩⟩⟩⟩⟩⟩⟩⟩⟩⟩⟩⟩⟩⟩⟩⟩⟩⟩⟩
def pX12_of_3 (ev : xEv) : List (Nat × xEn) := [(145, .inl (xop (xf_istore 4 2))), (147, .inl (xop (xf_iload 4 2))), (149, .inl (xop (xf_aload 0 1))), (150, .inl (xop (xf_getf 12 28))), (153, .inl (xop (xf_icmp_ge 183))), (156, .inl (xop (xf_aload 0 1))), (157, .inl (xop (xf_iload 4 2))), (159, .inl (xop (xf_push (.int 1) 1))), (160, .inr (.inl (0, 199, 2, 12))), (163, .inl (xop (xf_iload 1 1))), (164, .inl (xop (xf_icmp_ne 177))), (167, .inl (xop (xf_iload 3 1))), (168, .inl (xop (xf_aload 0 1))), (169, .inl (xop (xf_getf 12 25))), (172, .inl (xop (xf_iload 4 2))), (174, .inl (xop (xf_ald (ev.1 0)))), (175, .inl (xop (xf_bin (fun x y => x + y)))), (176, .inl (xop (xf_istore 3 1))), (177, .inl (xop (xf_iinc 4 1))), (180, .inl (xop (xf_goto 147)))]
set_option maxRecDepth 20000 in
theorem okpX12_of_3 (ev : xEv) : ∀ q ∈ pX12_of_3 ev, xEnOK ev xmi yX12_of.cls yX12_of.name cX12_of 5 (some .int) q :=
  List.forall_mem_cons.mpr ⟨(xOK_pure (xs_istore (show decode cX12_of 145 = .ok (.istore 4, 2) by decide +kernel) (by decide))),
  List.forall_mem_cons.mpr ⟨(xOK_pure (xs_iload (show decode cX12_of 147 = .ok (.iload 4, 2) by decide +kernel))),
  List.forall_mem_cons.mpr ⟨(xOK_pure (xs_aload_n (k := 0) rfl (show decode cX12_of 149 = .ok (.aload_n 0, 1) by decide +kernel))),
  List.forall_mem_cons.mpr ⟨(xOK_pure (xs_getf xcl_12 (by decide) (show decode cX12_of 150 = .ok (.getfield 159, 3) by decide +kernel) xw_1737)),
  List.forall_mem_cons.mpr ⟨(xOK_pure (xs_icmp_ge (show decode cX12_of 153 = .ok (.if_icmp .ge 30, 3) by decide +kernel) (by decide))),
  List.forall_mem_cons.mpr ⟨(xOK_pure (xs_aload_n (k := 0) rfl (show decode cX12_of 156 = .ok (.aload_n 0, 1) by decide +kernel))),
  List.forall_mem_cons.mpr ⟨(xOK_pure (xs_iload (show decode cX12_of 157 = .ok (.iload 4, 2) by decide +kernel))),
  List.forall_mem_cons.mpr ⟨(xOK_pure (xs_iconst (n := 1) (show decode cX12_of 159 = .ok (.iconst 1, 1) by decide +kernel) (by decide))),
  List.forall_mem_cons.mpr ⟨(xcm mi_199 ⟨⟨(by decide +kernel), (by decide +kernel), (by decide +kernel)⟩, (by decide), xw_2029, xw_125, Or.inl ⟨rfl, _, _, _, _, (show decode cX12_of 160 = .ok (.invokevirtual 215, 3) by decide +kernel), xw_2026, xw_2028, xw_67, rfl⟩⟩),
  List.forall_mem_cons.mpr ⟨(xOK_pure (xs_iload_n (k := 1) rfl (show decode cX12_of 163 = .ok (.iload_n 1, 1) by decide +kernel))),
  List.forall_mem_cons.mpr ⟨(xOK_pure (xs_icmp_ne (show decode cX12_of 164 = .ok (.if_icmp .ne 13, 3) by decide +kernel) (by decide))),
  List.forall_mem_cons.mpr ⟨(xOK_pure (xs_iload_n (k := 3) rfl (show decode cX12_of 167 = .ok (.iload_n 3, 1) by decide +kernel))),
  List.forall_mem_cons.mpr ⟨(xOK_pure (xs_aload_n (k := 0) rfl (show decode cX12_of 168 = .ok (.aload_n 0, 1) by decide +kernel))),
  List.forall_mem_cons.mpr ⟨(xOK_pure (xs_getf xcl_12 (by decide) (show decode cX12_of 169 = .ok (.getfield 71, 3) by decide +kernel) xw_1734)),
  List.forall_mem_cons.mpr ⟨(xOK_pure (xs_iload (show decode cX12_of 172 = .ok (.iload 4, 2) by decide +kernel))),
  List.forall_mem_cons.mpr ⟨(xOK_pure (xs_iald (show decode cX12_of 174 = .ok (.iaload, 1) by decide +kernel))),
  List.forall_mem_cons.mpr ⟨(xOK_pure (xs_iadd (show decode cX12_of 175 = .ok (.iadd, 1) by decide +kernel))),
  List.forall_mem_cons.mpr ⟨(xOK_pure (xs_istore_n (k := 3) rfl (show decode cX12_of 176 = .ok (.istore_n 3, 1) by decide +kernel) (by decide))),
  List.forall_mem_cons.mpr ⟨(xOK_pure (xs_iinc (n := 1) (show decode cX12_of 177 = .ok (.iinc 4 1, 3) by decide +kernel) (by decide) (by decide))),
  List.forall_mem_cons.mpr ⟨(xOK_pure (xs_goto (show decode cX12_of 180 = .ok (.goto (-33), 3) by decide +kernel) (by decide))),
  (fun _ h => absurd h List.not_mem_nil)⟩⟩⟩⟩⟩⟩⟩⟩⟩⟩⟩⟩⟩⟩⟩⟩⟩⟩⟩⟩
def pX12_of_4 (ev : xEv) : List (Nat × xEn) := [(183, .inl (xop (xf_iload 3 1))), (184, .inr (.inr 1)), (185, .inl (xop (xf_aload 0 1))), (186, .inl (xop (xf_iload 1 1))), (187, .inl (xop (xf_push (.int 11) 2))), (189, .inr (.inl (0, 195, 2, 12))), (192, .inr (.inr 1)), (193, .inl (xop (xf_aload 0 1))), (194, .inl (xop (xf_iload 1 1))), (195, .inr (.inl (0, 259, 1, 12))), (198, .inl (xop (xf_if_ne 203))), (201, .inl (xop (xf_push (.int (-1)) 1))), (202, .inr (.inr 1)), (203, .inl (xop (xf_aload 0 1))), (204, .inl (xop (xf_iload 1 1))), (205, .inl (xop (xf_push (.int 10) 2))), (207, .inr (.inl (0, 195, 2, 12))), (210, .inl (xop (xf_push (.int 1) 1))), (211, .inl (xop (xf_icmp_ne 228))), (214, .inl (xop (xf_aload 0 1)))]
set_option maxRecDepth 20000 in
theorem okpX12_of_4 (ev : xEv) : ∀ q ∈ pX12_of_4 ev, xEnOK ev xmi yX12_of.cls yX12_of.name cX12_of 5 (some .int) q :=
  List.forall_mem_cons.mpr ⟨(xOK_pure (xs_iload_n (k := 3) rfl (show decode cX12_of 183 = .ok (.iload_n 3, 1) by decide +kernel))),
  List.forall_mem_cons.mpr ⟨(Or.inr (Or.inl ⟨rfl, (show decode cX12_of 184 = .ok (.ireturn, 1) by decide +kernel), rfl⟩)),
  List.forall_mem_cons.mpr ⟨(xOK_pure (xs_aload_n (k := 0) rfl (show decode cX12_of 185 = .ok (.aload_n 0, 1) by decide +kernel))),
  List.forall_mem_cons.mpr ⟨(xOK_pure (xs_iload_n (k := 1) rfl (show decode cX12_of 186 = .ok (.iload_n 1, 1) by decide +kernel))),
  List.forall_mem_cons.mpr ⟨(xOK_pure (xs_bipush (n := 11) (show decode cX12_of 187 = .ok (.bipush 11, 2) by decide +kernel) (by decide))),
  List.forall_mem_cons.mpr ⟨(xcm mi_195 ⟨⟨(by decide +kernel), (by decide +kernel), (by decide +kernel)⟩, (by decide), xw_2161, xw_125, Or.inl ⟨rfl, _, _, _, _, (show decode cX12_of 189 = .ok (.invokevirtual 344, 3) by decide +kernel), xw_2158, xw_2160, xw_89, rfl⟩⟩),
  List.forall_mem_cons.mpr ⟨(Or.inr (Or.inl ⟨rfl, (show decode cX12_of 192 = .ok (.ireturn, 1) by decide +kernel), rfl⟩)),
  List.forall_mem_cons.mpr ⟨(xOK_pure (xs_aload_n (k := 0) rfl (show decode cX12_of 193 = .ok (.aload_n 0, 1) by decide +kernel))),
  List.forall_mem_cons.mpr ⟨(xOK_pure (xs_iload_n (k := 1) rfl (show decode cX12_of 194 = .ok (.iload_n 1, 1) by decide +kernel))),
  List.forall_mem_cons.mpr ⟨(xcm mi_259 ⟨⟨(by decide +kernel), (by decide +kernel), (by decide +kernel)⟩, (by decide), xw_2192, xw_125, Or.inl ⟨rfl, _, _, _, _, (show decode cX12_of 195 = .ok (.invokevirtual 386, 3) by decide +kernel), xw_2189, xw_2191, xw_96, rfl⟩⟩),
  List.forall_mem_cons.mpr ⟨(xOK_pure (xs_if_ne (show decode cX12_of 198 = .ok (.ifCond .ne 5, 3) by decide +kernel) (by decide))),
  List.forall_mem_cons.mpr ⟨(xOK_pure (xs_iconst (n := (-1)) (show decode cX12_of 201 = .ok (.iconst (-1), 1) by decide +kernel) (by decide))),
  List.forall_mem_cons.mpr ⟨(Or.inr (Or.inl ⟨rfl, (show decode cX12_of 202 = .ok (.ireturn, 1) by decide +kernel), rfl⟩)),
  List.forall_mem_cons.mpr ⟨(xOK_pure (xs_aload_n (k := 0) rfl (show decode cX12_of 203 = .ok (.aload_n 0, 1) by decide +kernel))),
  List.forall_mem_cons.mpr ⟨(xOK_pure (xs_iload_n (k := 1) rfl (show decode cX12_of 204 = .ok (.iload_n 1, 1) by decide +kernel))),
  List.forall_mem_cons.mpr ⟨(xOK_pure (xs_bipush (n := 10) (show decode cX12_of 205 = .ok (.bipush 10, 2) by decide +kernel) (by decide))),
  List.forall_mem_cons.mpr ⟨(xcm mi_195 ⟨⟨(by decide +kernel), (by decide +kernel), (by decide +kernel)⟩, (by decide), xw_2161, xw_125, Or.inl ⟨rfl, _, _, _, _, (show decode cX12_of 207 = .ok (.invokevirtual 344, 3) by decide +kernel), xw_2158, xw_2160, xw_89, rfl⟩⟩),
  List.forall_mem_cons.mpr ⟨(xOK_pure (xs_iconst (n := 1) (show decode cX12_of 210 = .ok (.iconst 1, 1) by decide +kernel) (by decide))),
  List.forall_mem_cons.mpr ⟨(xOK_pure (xs_icmp_ne (show decode cX12_of 211 = .ok (.if_icmp .ne 17, 3) by decide +kernel) (by decide))),
  List.forall_mem_cons.mpr ⟨(xOK_pure (xs_aload_n (k := 0) rfl (show decode cX12_of 214 = .ok (.aload_n 0, 1) by decide +kernel))),
  (fun _ h => absurd h List.not_mem_nil)⟩⟩⟩⟩⟩⟩⟩⟩⟩⟩⟩⟩⟩⟩⟩⟩⟩⟩⟩⟩
def pX12_of_5 (ev : xEv) : List (Nat × xEn) := [(215, .inl (xop (xf_getf 12 3))), (218, .inl (xop (xf_aload 0 1))), (219, .inl (xop (xf_iload 1 1))), (220, .inl (xop (xf_push (.int 1) 1))), (221, .inr (.inl (0, 195, 2, 12))), (224, .inl (xop (xf_ald (ev.1 0)))), (225, .inl (xop (xf_goto 239))), (228, .inl (xop (xf_aload 0 1))), (229, .inl (xop (xf_getf 12 2))), (232, .inl (xop (xf_aload 0 1))), (233, .inl (xop (xf_iload 1 1))), (234, .inl (xop (xf_push (.int 1) 1))), (235, .inr (.inl (0, 195, 2, 12))), (238, .inl (xop (xf_ald (ev.1 0)))), (239, .inr (.inr 1))]
set_option maxRecDepth 20000 in
theorem okpX12_of_5 (ev : xEv) : ∀ q ∈ pX12_of_5 ev, xEnOK ev xmi yX12_of.cls yX12_of.name cX12_of 5 (some .int) q :=
  List.forall_mem_cons.mpr ⟨(xOK_pure (xs_getf xcl_12 (by decide) (show decode cX12_of 215 = .ok (.getfield 16, 3) by decide +kernel) xw_1712)),
  List.forall_mem_cons.mpr ⟨(xOK_pure (xs_aload_n (k := 0) rfl (show decode cX12_of 218 = .ok (.aload_n 0, 1) by decide +kernel))),
  List.forall_mem_cons.mpr ⟨(xOK_pure (xs_iload_n (k := 1) rfl (show decode cX12_of 219 = .ok (.iload_n 1, 1) by decide +kernel))),
  List.forall_mem_cons.mpr ⟨(xOK_pure (xs_iconst (n := 1) (show decode cX12_of 220 = .ok (.iconst 1, 1) by decide +kernel) (by decide))),
  List.forall_mem_cons.mpr ⟨(xcm mi_195 ⟨⟨(by decide +kernel), (by decide +kernel), (by decide +kernel)⟩, (by decide), xw_2161, xw_125, Or.inl ⟨rfl, _, _, _, _, (show decode cX12_of 221 = .ok (.invokevirtual 344, 3) by decide +kernel), xw_2158, xw_2160, xw_89, rfl⟩⟩),
  List.forall_mem_cons.mpr ⟨(xOK_pure (xs_iald (show decode cX12_of 224 = .ok (.iaload, 1) by decide +kernel))),
  List.forall_mem_cons.mpr ⟨(xOK_pure (xs_goto (show decode cX12_of 225 = .ok (.goto 14, 3) by decide +kernel) (by decide))),
  List.forall_mem_cons.mpr ⟨(xOK_pure (xs_aload_n (k := 0) rfl (show decode cX12_of 228 = .ok (.aload_n 0, 1) by decide +kernel))),
  List.forall_mem_cons.mpr ⟨(xOK_pure (xs_getf xcl_12 (by decide) (show decode cX12_of 229 = .ok (.getfield 13, 3) by decide +kernel) xw_1711)),
  List.forall_mem_cons.mpr ⟨(xOK_pure (xs_aload_n (k := 0) rfl (show decode cX12_of 232 = .ok (.aload_n 0, 1) by decide +kernel))),
  List.forall_mem_cons.mpr ⟨(xOK_pure (xs_iload_n (k := 1) rfl (show decode cX12_of 233 = .ok (.iload_n 1, 1) by decide +kernel))),
  List.forall_mem_cons.mpr ⟨(xOK_pure (xs_iconst (n := 1) (show decode cX12_of 234 = .ok (.iconst 1, 1) by decide +kernel) (by decide))),
  List.forall_mem_cons.mpr ⟨(xcm mi_195 ⟨⟨(by decide +kernel), (by decide +kernel), (by decide +kernel)⟩, (by decide), xw_2161, xw_125, Or.inl ⟨rfl, _, _, _, _, (show decode cX12_of 235 = .ok (.invokevirtual 344, 3) by decide +kernel), xw_2158, xw_2160, xw_89, rfl⟩⟩),
  List.forall_mem_cons.mpr ⟨(xOK_pure (xs_iald (show decode cX12_of 238 = .ok (.iaload, 1) by decide +kernel))),
  List.forall_mem_cons.mpr ⟨(Or.inr (Or.inl ⟨rfl, (show decode cX12_of 239 = .ok (.ireturn, 1) by decide +kernel), rfl⟩)),
  (fun _ h => absurd h List.not_mem_nil)⟩⟩⟩⟩⟩⟩⟩⟩⟩⟩⟩⟩⟩⟩⟩
def pX12_of (ev : xEv) : List (Nat × xEn) := pX12_of_0 ev ++ (pX12_of_1 ev ++ (pX12_of_2 ev ++ (pX12_of_3 ev ++ (pX12_of_4 ev ++ (pX12_of_5 ev)))))
theorem okpX12_of (ev : xEv) : ∀ q ∈ pX12_of ev, xEnOK ev xmi yX12_of.cls yX12_of.name cX12_of 5 (some .int) q := List.forall_mem_append.mpr ⟨okpX12_of_0 ev, List.forall_mem_append.mpr ⟨okpX12_of_1 ev, List.forall_mem_append.mpr ⟨okpX12_of_2 ev, List.forall_mem_append.mpr ⟨okpX12_of_3 ev, List.forall_mem_append.mpr ⟨okpX12_of_4 ev, okpX12_of_5 ev⟩⟩⟩⟩⟩
theorem omX12_of (ev : xEv) : xMethOK ev xmi yX12_of.cls yX12_of.name 267 (pX12_of ev) := xMethOK.of mi_267 (by decide +kernel) (okpX12_of ev)
def pX12_who (ev : xEv) : List (Nat × xEn) := [(0, .inl (xop (xf_aload 0 1))), (1, .inl (xop (xf_push (.int 0) 1))), (2, .inl (xo_putf 12 47 .int)), (5, .inl (xop (xf_aload 0 1))), (6, .inl (xop (xf_iload 1 1))), (7, .inr (.inl (0, 193, 1, 12))), (10, .inl (xop (xf_if_eq 31))), (13, .inl (xop (xf_iload 2 1))), (14, .inl (xop (xf_push (.int 0) 1))), (15, .inl (xop (xf_push (.int 3) 1))), (16, .inr (.inl (1, 188, 3, 12))), (19, .inl (xop (xf_if_eq 31))), (22, .inl (xop (xf_aload 0 1))), (23, .inl (xop (xf_iload 1 1))), (24, .inl (xop (xf_iload 2 1))), (25, .inr (.inl (0, 197, 2, 12))), (28, .inl (xop (xf_goto 35))), (31, .inl (xop (xf_aload 0 1))), (32, .inr (.inl (0, 189, 0, 12))), (35, .inr (.inr 1))]
set_option maxRecDepth 20000 in
theorem okpX12_who (ev : xEv) : ∀ q ∈ pX12_who ev, xEnOK ev xmi yX12_who.cls yX12_who.name cX12_who 3 (some .int) q :=
  List.forall_mem_cons.mpr ⟨(xOK_pure (xs_aload_n (k := 0) rfl (show decode cX12_who 0 = .ok (.aload_n 0, 1) by decide +kernel))),
  List.forall_mem_cons.mpr ⟨(xOK_pure (xs_iconst (n := 0) (show decode cX12_who 1 = .ok (.iconst 0, 1) by decide +kernel) (by decide))),
  List.forall_mem_cons.mpr ⟨(xs_putf (k := 47) xcl_12 (by decide) rfl (show decode cX12_who 2 = .ok (.putfield 140, 3) by decide +kernel) xw_1756),
  List.forall_mem_cons.mpr ⟨(xOK_pure (xs_aload_n (k := 0) rfl (show decode cX12_who 5 = .ok (.aload_n 0, 1) by decide +kernel))),
  List.forall_mem_cons.mpr ⟨(xOK_pure (xs_iload_n (k := 1) rfl (show decode cX12_who 6 = .ok (.iload_n 1, 1) by decide +kernel))),
  List.forall_mem_cons.mpr ⟨(xcm mi_193 ⟨⟨(by decide +kernel), (by decide +kernel), (by decide +kernel)⟩, (by decide), xw_2009, xw_125, Or.inl ⟨rfl, _, _, _, _, (show decode cX12_who 7 = .ok (.invokevirtual 209, 3) by decide +kernel), xw_2006, xw_2008, xw_63, rfl⟩⟩),
  List.forall_mem_cons.mpr ⟨(xOK_pure (xs_if_eq (show decode cX12_who 10 = .ok (.ifCond .eq 21, 3) by decide +kernel) (by decide))),
  List.forall_mem_cons.mpr ⟨(xOK_pure (xs_iload_n (k := 2) rfl (show decode cX12_who 13 = .ok (.iload_n 2, 1) by decide +kernel))),
  List.forall_mem_cons.mpr ⟨(xOK_pure (xs_iconst (n := 0) (show decode cX12_who 14 = .ok (.iconst 0, 1) by decide +kernel) (by decide))),
  List.forall_mem_cons.mpr ⟨(xOK_pure (xs_iconst (n := 3) (show decode cX12_who 15 = .ok (.iconst 3, 1) by decide +kernel) (by decide))),
  List.forall_mem_cons.mpr ⟨(xcm mi_188 ⟨⟨(by decide +kernel), (by decide +kernel), (by decide +kernel)⟩, (by decide), xw_1912, xw_125, Or.inr (Or.inl ⟨rfl, _, (show decode cX12_who 16 = .ok (.invokestatic 146, 3) by decide +kernel), xw_1910, xw_1911⟩)⟩),
  List.forall_mem_cons.mpr ⟨(xOK_pure (xs_if_eq (show decode cX12_who 19 = .ok (.ifCond .eq 12, 3) by decide +kernel) (by decide))),
  List.forall_mem_cons.mpr ⟨(xOK_pure (xs_aload_n (k := 0) rfl (show decode cX12_who 22 = .ok (.aload_n 0, 1) by decide +kernel))),
  List.forall_mem_cons.mpr ⟨(xOK_pure (xs_iload_n (k := 1) rfl (show decode cX12_who 23 = .ok (.iload_n 1, 1) by decide +kernel))),
  List.forall_mem_cons.mpr ⟨(xOK_pure (xs_iload_n (k := 2) rfl (show decode cX12_who 24 = .ok (.iload_n 2, 1) by decide +kernel))),
  List.forall_mem_cons.mpr ⟨(xcm mi_197 ⟨⟨(by decide +kernel), (by decide +kernel), (by decide +kernel)⟩, (by decide), xw_2013, xw_125, Or.inl ⟨rfl, _, _, _, _, (show decode cX12_who 25 = .ok (.invokevirtual 212, 3) by decide +kernel), xw_2010, xw_2012, xw_64, rfl⟩⟩),
  List.forall_mem_cons.mpr ⟨(xOK_pure (xs_goto (show decode cX12_who 28 = .ok (.goto 7, 3) by decide +kernel) (by decide))),
  List.forall_mem_cons.mpr ⟨(xOK_pure (xs_aload_n (k := 0) rfl (show decode cX12_who 31 = .ok (.aload_n 0, 1) by decide +kernel))),
  List.forall_mem_cons.mpr ⟨(xcm mi_189 ⟨⟨(by decide +kernel), (by decide +kernel), (by decide +kernel)⟩, (by decide), xw_1949, xw_125, Or.inl ⟨rfl, _, _, _, _, (show decode cX12_who 32 = .ok (.invokevirtual 181, 3) by decide +kernel), xw_1946, xw_1948, xw_54, rfl⟩⟩),
  List.forall_mem_cons.mpr ⟨(Or.inr (Or.inl ⟨rfl, (show decode cX12_who 35 = .ok (.ireturn, 1) by decide +kernel), rfl⟩)),
  (fun _ h => absurd h List.not_mem_nil)⟩⟩⟩⟩⟩⟩⟩⟩⟩⟩⟩⟩⟩⟩⟩⟩⟩⟩⟩⟩
theorem omX12_who (ev : xEv) : xMethOK ev xmi yX12_who.cls yX12_who.name 268 (pX12_who ev) := xMethOK.of mi_268 (by decide +kernel) (okpX12_who ev)
def pX12_payBy_0 (ev : xEv) : List (Nat × xEn) := [(0, .inl (xop (xf_aload 0 1))), (1, .inl (xop (xf_iload 2 1))), (2, .inl (xop (xf_push (.int 3) 1))), (3, .inr (.inl (0, 199, 2, 12))), (6, .inl (xop (xf_istore 3 1))), (7, .inl (xop (xf_aload 0 1))), (8, .inl (xop (xf_getf 12 56))), (11, .inl (xop (xf_push (.int 0) 1))), (12, .inl (xop (xf_aload 0 1))), (13, .inl (xop (xf_getf 12 25))), (16, .inl (xop (xf_iload 2 1))), (17, .inl (xop (xf_ald (ev.1 0)))), (18, .inl (xo_ast (ev.1 0) (fun x => x))), (19, .inl (xop (xf_aload 0 1))), (20, .inl (xop (xf_getf 12 10))), (23, .inl (xop (xf_push (.int 8) 2))), (25, .inl (xop (xf_aload 0 1))), (26, .inl (xop (xf_getf 12 23))), (29, .inl (xop (xf_iload 2 1))), (30, .inl (xop (xf_ald (ev.1 0))))]
set_option maxRecDepth 20000 in
theorem okpX12_payBy_0 (ev : xEv) : ∀ q ∈ pX12_payBy_0 ev, xEnOK ev xmi yX12_payBy.cls yX12_payBy.name cX12_payBy 5 (some .int) q :=
  List.forall_mem_cons.mpr ⟨(xOK_pure (xs_aload_n (k := 0) rfl (show decode cX12_payBy 0 = .ok (.aload_n 0, 1) by decide +kernel))),
  List.forall_mem_cons.mpr ⟨(xOK_pure (xs_iload_n (k := 2) rfl (show decode cX12_payBy 1 = .ok (.iload_n 2, 1) by decide +kernel))),
  List.forall_mem_cons.mpr ⟨(xOK_pure (xs_iconst (n := 3) (show decode cX12_payBy 2 = .ok (.iconst 3, 1) by decide +kernel) (by decide))),
  List.forall_mem_cons.mpr ⟨(xcm mi_199 ⟨⟨(by decide +kernel), (by decide +kernel), (by decide +kernel)⟩, (by decide), xw_2029, xw_125, Or.inl ⟨rfl, _, _, _, _, (show decode cX12_payBy 3 = .ok (.invokevirtual 215, 3) by decide +kernel), xw_2026, xw_2028, xw_67, rfl⟩⟩),
  List.forall_mem_cons.mpr ⟨(xOK_pure (xs_istore_n (k := 3) rfl (show decode cX12_payBy 6 = .ok (.istore_n 3, 1) by decide +kernel) (by decide))),
  List.forall_mem_cons.mpr ⟨(xOK_pure (xs_aload_n (k := 0) rfl (show decode cX12_payBy 7 = .ok (.aload_n 0, 1) by decide +kernel))),
  List.forall_mem_cons.mpr ⟨(xOK_pure (xs_getf xcl_12 (by decide) (show decode cX12_payBy 8 = .ok (.getfield 127, 3) by decide +kernel) xw_1765)),
  List.forall_mem_cons.mpr ⟨(xOK_pure (xs_iconst (n := 0) (show decode cX12_payBy 11 = .ok (.iconst 0, 1) by decide +kernel) (by decide))),
  List.forall_mem_cons.mpr ⟨(xOK_pure (xs_aload_n (k := 0) rfl (show decode cX12_payBy 12 = .ok (.aload_n 0, 1) by decide +kernel))),
  List.forall_mem_cons.mpr ⟨(xOK_pure (xs_getf xcl_12 (by decide) (show decode cX12_payBy 13 = .ok (.getfield 71, 3) by decide +kernel) xw_1734)),
  List.forall_mem_cons.mpr ⟨(xOK_pure (xs_iload_n (k := 2) rfl (show decode cX12_payBy 16 = .ok (.iload_n 2, 1) by decide +kernel))),
  List.forall_mem_cons.mpr ⟨(xOK_pure (xs_iald (show decode cX12_payBy 17 = .ok (.iaload, 1) by decide +kernel))),
  List.forall_mem_cons.mpr ⟨(xs_iast (show decode cX12_payBy 18 = .ok (.iastore, 1) by decide +kernel)),
  List.forall_mem_cons.mpr ⟨(xOK_pure (xs_aload_n (k := 0) rfl (show decode cX12_payBy 19 = .ok (.aload_n 0, 1) by decide +kernel))),
  List.forall_mem_cons.mpr ⟨(xOK_pure (xs_getf xcl_12 (by decide) (show decode cX12_payBy 20 = .ok (.getfield 34, 3) by decide +kernel) xw_1719)),
  List.forall_mem_cons.mpr ⟨(xOK_pure (xs_bipush (n := 8) (show decode cX12_payBy 23 = .ok (.bipush 8, 2) by decide +kernel) (by decide))),
  List.forall_mem_cons.mpr ⟨(xOK_pure (xs_aload_n (k := 0) rfl (show decode cX12_payBy 25 = .ok (.aload_n 0, 1) by decide +kernel))),
  List.forall_mem_cons.mpr ⟨(xOK_pure (xs_getf xcl_12 (by decide) (show decode cX12_payBy 26 = .ok (.getfield 65, 3) by decide +kernel) xw_1732)),
  List.forall_mem_cons.mpr ⟨(xOK_pure (xs_iload_n (k := 2) rfl (show decode cX12_payBy 29 = .ok (.iload_n 2, 1) by decide +kernel))),
  List.forall_mem_cons.mpr ⟨(xOK_pure (xs_iald (show decode cX12_payBy 30 = .ok (.iaload, 1) by decide +kernel))),
  (fun _ h => absurd h List.not_mem_nil)⟩⟩⟩⟩⟩⟩⟩⟩⟩⟩⟩⟩⟩⟩⟩⟩⟩⟩⟩⟩
def pX12_payBy_1 (ev : xEv) : List (Nat × xEn) := [(31, .inl (xop (xf_bin (fun x y => x * y)))), (32, .inl (xop (xf_aload 0 1))), (33, .inl (xop (xf_getf 12 24))), (36, .inl (xop (xf_iload 2 1))), (37, .inl (xop (xf_ald (ev.1 0)))), (38, .inl (xop (xf_bin (fun x y => x + y)))), (39, .inl (xop (xf_ald (ev.1 0)))), (40, .inl (xop (xf_istore 4 2))), (42, .inl (xop (xf_aload 0 1))), (43, .inl (xop (xf_getf 12 56))), (46, .inl (xop (xf_push (.int 1) 1))), (47, .inl (xop (xf_iload 4 2))), (49, .inl (xop (xf_push (.int 268435456) 2))), (51, .inl (xop (xf_icmp_lt 58))), (54, .inl (xop (xf_push (.int 0) 1))), (55, .inl (xop (xf_goto 60))), (58, .inl (xop (xf_iload 4 2))), (60, .inl (xo_ast (ev.1 0) (fun x => x))), (61, .inl (xop (xf_aload 0 1))), (62, .inl (xop (xf_getf 12 56)))]
set_option maxRecDepth 20000 in
theorem okpX12_payBy_1 (ev : xEv) : ∀ q ∈ pX12_payBy_1 ev, xEnOK ev xmi yX12_payBy.cls yX12_payBy.name cX12_payBy 5 (some .int) q :=
  List.forall_mem_cons.mpr ⟨(xOK_pure (xs_imul (show decode cX12_payBy 31 = .ok (.imul, 1) by decide +kernel))),
  List.forall_mem_cons.mpr ⟨(xOK_pure (xs_aload_n (k := 0) rfl (show decode cX12_payBy 32 = .ok (.aload_n 0, 1) by decide +kernel))),
  List.forall_mem_cons.mpr ⟨(xOK_pure (xs_getf xcl_12 (by decide) (show decode cX12_payBy 33 = .ok (.getfield 68, 3) by decide +kernel) xw_1733)),
  List.forall_mem_cons.mpr ⟨(xOK_pure (xs_iload_n (k := 2) rfl (show decode cX12_payBy 36 = .ok (.iload_n 2, 1) by decide +kernel))),
  List.forall_mem_cons.mpr ⟨(xOK_pure (xs_iald (show decode cX12_payBy 37 = .ok (.iaload, 1) by decide +kernel))),
  List.forall_mem_cons.mpr ⟨(xOK_pure (xs_iadd (show decode cX12_payBy 38 = .ok (.iadd, 1) by decide +kernel))),
  List.forall_mem_cons.mpr ⟨(xOK_pure (xs_iald (show decode cX12_payBy 39 = .ok (.iaload, 1) by decide +kernel))),
  List.forall_mem_cons.mpr ⟨(xOK_pure (xs_istore (show decode cX12_payBy 40 = .ok (.istore 4, 2) by decide +kernel) (by decide))),
  List.forall_mem_cons.mpr ⟨(xOK_pure (xs_aload_n (k := 0) rfl (show decode cX12_payBy 42 = .ok (.aload_n 0, 1) by decide +kernel))),
  List.forall_mem_cons.mpr ⟨(xOK_pure (xs_getf xcl_12 (by decide) (show decode cX12_payBy 43 = .ok (.getfield 127, 3) by decide +kernel) xw_1765)),
  List.forall_mem_cons.mpr ⟨(xOK_pure (xs_iconst (n := 1) (show decode cX12_payBy 46 = .ok (.iconst 1, 1) by decide +kernel) (by decide))),
  List.forall_mem_cons.mpr ⟨(xOK_pure (xs_iload (show decode cX12_payBy 47 = .ok (.iload 4, 2) by decide +kernel))),
  List.forall_mem_cons.mpr ⟨(xOK_pure (xs_ldc (show decode cX12_payBy 49 = .ok (.ldc 139, 2) by decide +kernel) xw_1708)),
  List.forall_mem_cons.mpr ⟨(xOK_pure (xs_icmp_lt (show decode cX12_payBy 51 = .ok (.if_icmp .lt 7, 3) by decide +kernel) (by decide))),
  List.forall_mem_cons.mpr ⟨(xOK_pure (xs_iconst (n := 0) (show decode cX12_payBy 54 = .ok (.iconst 0, 1) by decide +kernel) (by decide))),
  List.forall_mem_cons.mpr ⟨(xOK_pure (xs_goto (show decode cX12_payBy 55 = .ok (.goto 5, 3) by decide +kernel) (by decide))),
  List.forall_mem_cons.mpr ⟨(xOK_pure (xs_iload (show decode cX12_payBy 58 = .ok (.iload 4, 2) by decide +kernel))),
  List.forall_mem_cons.mpr ⟨(xs_iast (show decode cX12_payBy 60 = .ok (.iastore, 1) by decide +kernel)),
  List.forall_mem_cons.mpr ⟨(xOK_pure (xs_aload_n (k := 0) rfl (show decode cX12_payBy 61 = .ok (.aload_n 0, 1) by decide +kernel))),
  List.forall_mem_cons.mpr ⟨(xOK_pure (xs_getf xcl_12 (by decide) (show decode cX12_payBy 62 = .ok (.getfield 127, 3) by decide +kernel) xw_1765)),
  (fun _ h => absurd h List.not_mem_nil)⟩⟩⟩⟩⟩⟩⟩⟩⟩⟩⟩⟩⟩⟩⟩⟩⟩⟩⟩⟩
def pX12_payBy_2 (ev : xEv) : List (Nat × xEn) := [(65, .inl (xop (xf_push (.int 2) 1))), (66, .inl (xop (xf_aload 0 1))), (67, .inl (xop (xf_getf 12 26))), (70, .inl (xop (xf_iload 2 1))), (71, .inl (xop (xf_ald (ev.1 0)))), (72, .inl (xo_ast (ev.1 0) (fun x => x))), (73, .inl (xop (xf_aload 0 1))), (74, .inl (xop (xf_getf 12 56))), (77, .inl (xop (xf_push (.int 3) 1))), (78, .inl (xop (xf_push (.int 0) 1))), (79, .inl (xop (xf_iload 3 1))), (80, .inl (xop (xf_aload 0 1))), (81, .inl (xop (xf_getf 12 27))), (84, .inl (xop (xf_iload 2 1))), (85, .inl (xop (xf_ald (ev.1 0)))), (86, .inl (xop (xf_bin (fun x y => x - y)))), (87, .inl (xop (xf_m2 (fun x y => if x < y then y else x)))), (90, .inl (xo_ast (ev.1 0) (fun x => x))), (91, .inl (xop (xf_aload 0 1))), (92, .inl (xop (xf_getf 12 56)))]
set_option maxRecDepth 20000 in
theorem okpX12_payBy_2 (ev : xEv) : ∀ q ∈ pX12_payBy_2 ev, xEnOK ev xmi yX12_payBy.cls yX12_payBy.name cX12_payBy 5 (some .int) q :=
  List.forall_mem_cons.mpr ⟨(xOK_pure (xs_iconst (n := 2) (show decode cX12_payBy 65 = .ok (.iconst 2, 1) by decide +kernel) (by decide))),
  List.forall_mem_cons.mpr ⟨(xOK_pure (xs_aload_n (k := 0) rfl (show decode cX12_payBy 66 = .ok (.aload_n 0, 1) by decide +kernel))),
  List.forall_mem_cons.mpr ⟨(xOK_pure (xs_getf xcl_12 (by decide) (show decode cX12_payBy 67 = .ok (.getfield 74, 3) by decide +kernel) xw_1735)),
  List.forall_mem_cons.mpr ⟨(xOK_pure (xs_iload_n (k := 2) rfl (show decode cX12_payBy 70 = .ok (.iload_n 2, 1) by decide +kernel))),
  List.forall_mem_cons.mpr ⟨(xOK_pure (xs_iald (show decode cX12_payBy 71 = .ok (.iaload, 1) by decide +kernel))),
  List.forall_mem_cons.mpr ⟨(xs_iast (show decode cX12_payBy 72 = .ok (.iastore, 1) by decide +kernel)),
  List.forall_mem_cons.mpr ⟨(xOK_pure (xs_aload_n (k := 0) rfl (show decode cX12_payBy 73 = .ok (.aload_n 0, 1) by decide +kernel))),
  List.forall_mem_cons.mpr ⟨(xOK_pure (xs_getf xcl_12 (by decide) (show decode cX12_payBy 74 = .ok (.getfield 127, 3) by decide +kernel) xw_1765)),
  List.forall_mem_cons.mpr ⟨(xOK_pure (xs_iconst (n := 3) (show decode cX12_payBy 77 = .ok (.iconst 3, 1) by decide +kernel) (by decide))),
  List.forall_mem_cons.mpr ⟨(xOK_pure (xs_iconst (n := 0) (show decode cX12_payBy 78 = .ok (.iconst 0, 1) by decide +kernel) (by decide))),
  List.forall_mem_cons.mpr ⟨(xOK_pure (xs_iload_n (k := 3) rfl (show decode cX12_payBy 79 = .ok (.iload_n 3, 1) by decide +kernel))),
  List.forall_mem_cons.mpr ⟨(xOK_pure (xs_aload_n (k := 0) rfl (show decode cX12_payBy 80 = .ok (.aload_n 0, 1) by decide +kernel))),
  List.forall_mem_cons.mpr ⟨(xOK_pure (xs_getf xcl_12 (by decide) (show decode cX12_payBy 81 = .ok (.getfield 77, 3) by decide +kernel) xw_1736)),
  List.forall_mem_cons.mpr ⟨(xOK_pure (xs_iload_n (k := 2) rfl (show decode cX12_payBy 84 = .ok (.iload_n 2, 1) by decide +kernel))),
  List.forall_mem_cons.mpr ⟨(xOK_pure (xs_iald (show decode cX12_payBy 85 = .ok (.iaload, 1) by decide +kernel))),
  List.forall_mem_cons.mpr ⟨(xOK_pure (xs_isub (show decode cX12_payBy 86 = .ok (.isub, 1) by decide +kernel))),
  List.forall_mem_cons.mpr ⟨(xOK_pure (xs_mmax (show decode cX12_payBy 87 = .ok (.invokestatic 231, 3) by decide +kernel) xw_2041 xw_829 xw_127 xw_830)),
  List.forall_mem_cons.mpr ⟨(xs_iast (show decode cX12_payBy 90 = .ok (.iastore, 1) by decide +kernel)),
  List.forall_mem_cons.mpr ⟨(xOK_pure (xs_aload_n (k := 0) rfl (show decode cX12_payBy 91 = .ok (.aload_n 0, 1) by decide +kernel))),
  List.forall_mem_cons.mpr ⟨(xOK_pure (xs_getf xcl_12 (by decide) (show decode cX12_payBy 92 = .ok (.getfield 127, 3) by decide +kernel) xw_1765)),
  (fun _ h => absurd h List.not_mem_nil)⟩⟩⟩⟩⟩⟩⟩⟩⟩⟩⟩⟩⟩⟩⟩⟩⟩⟩⟩⟩
def pX12_payBy_3 (ev : xEv) : List (Nat × xEn) := [(95, .inl (xop (xf_push (.int 4) 1))), (96, .inl (xop (xf_iload 3 1))), (97, .inl (xop (xf_push (.int 96) 2))), (99, .inl (xop (xf_div (fun x y => x / y)))), (100, .inl (xo_ast (ev.1 0) (fun x => x))), (101, .inl (xop (xf_aload 0 1))), (102, .inl (xop (xf_aload 0 1))), (103, .inl (xop (xf_getf 12 37))), (106, .inl (xop (xf_push (.int 60) 2))), (108, .inl (xop (xf_iload 1 1))), (109, .inl (xop (xf_bin (fun x y => x * y)))), (110, .inl (xop (xf_aload 0 1))), (111, .inl (xop (xf_getf 12 38))), (114, .inl (xop (xf_iload 1 1))), (115, .inl (xop (xf_ald (ev.1 0)))), (116, .inl (xop (xf_push (.ref (ev.2.1 0)) 3))), (119, .inr (.inl (0, 244, 4, 12))), (122, .inl (xop (xf_push (.int 0) 1))), (123, .inl (xop (xf_aload 0 1))), (124, .inr (.inl (0, 241, 0, 12)))]
set_option maxRecDepth 20000 in
theorem okpX12_payBy_3 (ev : xEv) : ∀ q ∈ pX12_payBy_3 ev, xEnOK ev xmi yX12_payBy.cls yX12_payBy.name cX12_payBy 5 (some .int) q :=
  List.forall_mem_cons.mpr ⟨(xOK_pure (xs_iconst (n := 4) (show decode cX12_payBy 95 = .ok (.iconst 4, 1) by decide +kernel) (by decide))),
  List.forall_mem_cons.mpr ⟨(xOK_pure (xs_iload_n (k := 3) rfl (show decode cX12_payBy 96 = .ok (.iload_n 3, 1) by decide +kernel))),
  List.forall_mem_cons.mpr ⟨(xOK_pure (xs_bipush (n := 96) (show decode cX12_payBy 97 = .ok (.bipush 96, 2) by decide +kernel) (by decide))),
  List.forall_mem_cons.mpr ⟨(xOK_pure (xs_idiv (show decode cX12_payBy 99 = .ok (.idiv, 1) by decide +kernel))),
  List.forall_mem_cons.mpr ⟨(xs_iast (show decode cX12_payBy 100 = .ok (.iastore, 1) by decide +kernel)),
  List.forall_mem_cons.mpr ⟨(xOK_pure (xs_aload_n (k := 0) rfl (show decode cX12_payBy 101 = .ok (.aload_n 0, 1) by decide +kernel))),
  List.forall_mem_cons.mpr ⟨(xOK_pure (xs_aload_n (k := 0) rfl (show decode cX12_payBy 102 = .ok (.aload_n 0, 1) by decide +kernel))),
  List.forall_mem_cons.mpr ⟨(xOK_pure (xs_getf xcl_12 (by decide) (show decode cX12_payBy 103 = .ok (.getfield 102, 3) by decide +kernel) xw_1746)),
  List.forall_mem_cons.mpr ⟨(xOK_pure (xs_bipush (n := 60) (show decode cX12_payBy 106 = .ok (.bipush 60, 2) by decide +kernel) (by decide))),
  List.forall_mem_cons.mpr ⟨(xOK_pure (xs_iload_n (k := 1) rfl (show decode cX12_payBy 108 = .ok (.iload_n 1, 1) by decide +kernel))),
  List.forall_mem_cons.mpr ⟨(xOK_pure (xs_imul (show decode cX12_payBy 109 = .ok (.imul, 1) by decide +kernel))),
  List.forall_mem_cons.mpr ⟨(xOK_pure (xs_aload_n (k := 0) rfl (show decode cX12_payBy 110 = .ok (.aload_n 0, 1) by decide +kernel))),
  List.forall_mem_cons.mpr ⟨(xOK_pure (xs_getf xcl_12 (by decide) (show decode cX12_payBy 111 = .ok (.getfield 106, 3) by decide +kernel) xw_1747)),
  List.forall_mem_cons.mpr ⟨(xOK_pure (xs_iload_n (k := 1) rfl (show decode cX12_payBy 114 = .ok (.iload_n 1, 1) by decide +kernel))),
  List.forall_mem_cons.mpr ⟨(xOK_pure (xs_iald (show decode cX12_payBy 115 = .ok (.iaload, 1) by decide +kernel))),
  List.forall_mem_cons.mpr ⟨(xOK_pure (xs_ldcSW (show decode cX12_payBy 116 = .ok (.ldc_w 310, 3) by decide +kernel) (List.mem_of_getElem? (i := 13) rfl))),
  List.forall_mem_cons.mpr ⟨(xcm mi_244 ⟨⟨(by decide +kernel), (by decide +kernel), (by decide +kernel)⟩, (by decide), xw_2063, xw_125, Or.inl ⟨rfl, _, _, _, _, (show decode cX12_payBy 119 = .ok (.invokevirtual 314, 3) by decide +kernel), xw_2060, xw_2062, xw_69, rfl⟩⟩),
  List.forall_mem_cons.mpr ⟨(xOK_pure (xs_iconst (n := 0) (show decode cX12_payBy 122 = .ok (.iconst 0, 1) by decide +kernel) (by decide))),
  List.forall_mem_cons.mpr ⟨(xOK_pure (xs_aload_n (k := 0) rfl (show decode cX12_payBy 123 = .ok (.aload_n 0, 1) by decide +kernel))),
  List.forall_mem_cons.mpr ⟨(xcm mi_241 ⟨⟨(by decide +kernel), (by decide +kernel), (by decide +kernel)⟩, (by decide), xw_2067, xw_125, Or.inl ⟨rfl, _, _, _, _, (show decode cX12_payBy 124 = .ok (.invokevirtual 294, 3) by decide +kernel), xw_2064, xw_2066, xw_70, rfl⟩⟩),
  (fun _ h => absurd h List.not_mem_nil)⟩⟩⟩⟩⟩⟩⟩⟩⟩⟩⟩⟩⟩⟩⟩⟩⟩⟩⟩⟩
def pX12_payBy_4 (ev : xEv) : List (Nat × xEn) := [(127, .inl (xop (xf_m2 (fun x y => if x < y then y else x)))), (130, .inr (.inr 1))]
set_option maxRecDepth 20000 in
theorem okpX12_payBy_4 (ev : xEv) : ∀ q ∈ pX12_payBy_4 ev, xEnOK ev xmi yX12_payBy.cls yX12_payBy.name cX12_payBy 5 (some .int) q :=
  List.forall_mem_cons.mpr ⟨(xOK_pure (xs_mmax (show decode cX12_payBy 127 = .ok (.invokestatic 231, 3) by decide +kernel) xw_2041 xw_829 xw_127 xw_830)),
  List.forall_mem_cons.mpr ⟨(Or.inr (Or.inl ⟨rfl, (show decode cX12_payBy 130 = .ok (.ireturn, 1) by decide +kernel), rfl⟩)),
  (fun _ h => absurd h List.not_mem_nil)⟩⟩
def pX12_payBy (ev : xEv) : List (Nat × xEn) := pX12_payBy_0 ev ++ (pX12_payBy_1 ev ++ (pX12_payBy_2 ev ++ (pX12_payBy_3 ev ++ (pX12_payBy_4 ev))))
theorem okpX12_payBy (ev : xEv) : ∀ q ∈ pX12_payBy ev, xEnOK ev xmi yX12_payBy.cls yX12_payBy.name cX12_payBy 5 (some .int) q := List.forall_mem_append.mpr ⟨okpX12_payBy_0 ev, List.forall_mem_append.mpr ⟨okpX12_payBy_1 ev, List.forall_mem_append.mpr ⟨okpX12_payBy_2 ev, List.forall_mem_append.mpr ⟨okpX12_payBy_3 ev, okpX12_payBy_4 ev⟩⟩⟩⟩
theorem omX12_payBy (ev : xEv) : xMethOK ev xmi yX12_payBy.cls yX12_payBy.name 269 (pX12_payBy ev) := xMethOK.of mi_269 (by decide +kernel) (okpX12_payBy ev)
def pX12_payOf_0 (ev : xEv) : List (Nat × xEn) := [(0, .inl (xop (xf_aload 0 1))), (1, .inl (xop (xf_iload 1 1))), (2, .inl (xop (xf_push (.int 3) 1))), (3, .inr (.inl (0, 199, 2, 12))), (6, .inl (xop (xf_push (.int (-1)) 1))), (7, .inl (xop (xf_icmp_ne 12))), (10, .inl (xop (xf_push (.int 0) 1))), (11, .inr (.inr 1)), (12, .inl (xop (xf_aload 0 1))), (13, .inl (xop (xf_push (.int 2) 1))), (14, .inl (xop (xf_aload 0 1))), (15, .inl (xop (xf_iload 1 1))), (16, .inl (xop (xf_push (.int 3) 1))), (17, .inr (.inl (0, 199, 2, 12))), (20, .inl (xop (xf_push (.int 96) 2))), (22, .inl (xop (xf_div (fun x y => x / y)))), (23, .inr (.inl (0, 246, 2, 12))), (26, .inl (xop (xf_istore 2 1))), (27, .inl (xop (xf_iload 2 1))), (28, .inl (xop (xf_push (.int (-1)) 1)))]
set_option maxRecDepth 20000 in
theorem okpX12_payOf_0 (ev : xEv) : ∀ q ∈ pX12_payOf_0 ev, xEnOK ev xmi yX12_payOf.cls yX12_payOf.name cX12_payOf 3 (some .int) q :=
  List.forall_mem_cons.mpr ⟨(xOK_pure (xs_aload_n (k := 0) rfl (show decode cX12_payOf 0 = .ok (.aload_n 0, 1) by decide +kernel))),
  List.forall_mem_cons.mpr ⟨(xOK_pure (xs_iload_n (k := 1) rfl (show decode cX12_payOf 1 = .ok (.iload_n 1, 1) by decide +kernel))),
  List.forall_mem_cons.mpr ⟨(xOK_pure (xs_iconst (n := 3) (show decode cX12_payOf 2 = .ok (.iconst 3, 1) by decide +kernel) (by decide))),
  List.forall_mem_cons.mpr ⟨(xcm mi_199 ⟨⟨(by decide +kernel), (by decide +kernel), (by decide +kernel)⟩, (by decide), xw_2029, xw_125, Or.inl ⟨rfl, _, _, _, _, (show decode cX12_payOf 3 = .ok (.invokevirtual 215, 3) by decide +kernel), xw_2026, xw_2028, xw_67, rfl⟩⟩),
  List.forall_mem_cons.mpr ⟨(xOK_pure (xs_iconst (n := (-1)) (show decode cX12_payOf 6 = .ok (.iconst (-1), 1) by decide +kernel) (by decide))),
  List.forall_mem_cons.mpr ⟨(xOK_pure (xs_icmp_ne (show decode cX12_payOf 7 = .ok (.if_icmp .ne 5, 3) by decide +kernel) (by decide))),
  List.forall_mem_cons.mpr ⟨(xOK_pure (xs_iconst (n := 0) (show decode cX12_payOf 10 = .ok (.iconst 0, 1) by decide +kernel) (by decide))),
  List.forall_mem_cons.mpr ⟨(Or.inr (Or.inl ⟨rfl, (show decode cX12_payOf 11 = .ok (.ireturn, 1) by decide +kernel), rfl⟩)),
  List.forall_mem_cons.mpr ⟨(xOK_pure (xs_aload_n (k := 0) rfl (show decode cX12_payOf 12 = .ok (.aload_n 0, 1) by decide +kernel))),
  List.forall_mem_cons.mpr ⟨(xOK_pure (xs_iconst (n := 2) (show decode cX12_payOf 13 = .ok (.iconst 2, 1) by decide +kernel) (by decide))),
  List.forall_mem_cons.mpr ⟨(xOK_pure (xs_aload_n (k := 0) rfl (show decode cX12_payOf 14 = .ok (.aload_n 0, 1) by decide +kernel))),
  List.forall_mem_cons.mpr ⟨(xOK_pure (xs_iload_n (k := 1) rfl (show decode cX12_payOf 15 = .ok (.iload_n 1, 1) by decide +kernel))),
  List.forall_mem_cons.mpr ⟨(xOK_pure (xs_iconst (n := 3) (show decode cX12_payOf 16 = .ok (.iconst 3, 1) by decide +kernel) (by decide))),
  List.forall_mem_cons.mpr ⟨(xcm mi_199 ⟨⟨(by decide +kernel), (by decide +kernel), (by decide +kernel)⟩, (by decide), xw_2029, xw_125, Or.inl ⟨rfl, _, _, _, _, (show decode cX12_payOf 17 = .ok (.invokevirtual 215, 3) by decide +kernel), xw_2026, xw_2028, xw_67, rfl⟩⟩),
  List.forall_mem_cons.mpr ⟨(xOK_pure (xs_bipush (n := 96) (show decode cX12_payOf 20 = .ok (.bipush 96, 2) by decide +kernel) (by decide))),
  List.forall_mem_cons.mpr ⟨(xOK_pure (xs_idiv (show decode cX12_payOf 22 = .ok (.idiv, 1) by decide +kernel))),
  List.forall_mem_cons.mpr ⟨(xcm mi_246 ⟨⟨(by decide +kernel), (by decide +kernel), (by decide +kernel)⟩, (by decide), xw_2184, xw_125, Or.inl ⟨rfl, _, _, _, _, (show decode cX12_payOf 23 = .ok (.invokevirtual 326, 3) by decide +kernel), xw_2181, xw_2183, xw_94, rfl⟩⟩),
  List.forall_mem_cons.mpr ⟨(xOK_pure (xs_istore_n (k := 2) rfl (show decode cX12_payOf 26 = .ok (.istore_n 2, 1) by decide +kernel) (by decide))),
  List.forall_mem_cons.mpr ⟨(xOK_pure (xs_iload_n (k := 2) rfl (show decode cX12_payOf 27 = .ok (.iload_n 2, 1) by decide +kernel))),
  List.forall_mem_cons.mpr ⟨(xOK_pure (xs_iconst (n := (-1)) (show decode cX12_payOf 28 = .ok (.iconst (-1), 1) by decide +kernel) (by decide))),
  (fun _ h => absurd h List.not_mem_nil)⟩⟩⟩⟩⟩⟩⟩⟩⟩⟩⟩⟩⟩⟩⟩⟩⟩⟩⟩⟩
def pX12_payOf_1 (ev : xEv) : List (Nat × xEn) := [(29, .inl (xop (xf_icmp_ne 36))), (32, .inl (xop (xf_push (.int 0) 1))), (33, .inl (xop (xf_goto 42))), (36, .inl (xop (xf_aload 0 1))), (37, .inl (xop (xf_iload 2 1))), (38, .inl (xop (xf_iload 1 1))), (39, .inr (.inl (0, 269, 2, 12))), (42, .inr (.inr 1))]
set_option maxRecDepth 20000 in
theorem okpX12_payOf_1 (ev : xEv) : ∀ q ∈ pX12_payOf_1 ev, xEnOK ev xmi yX12_payOf.cls yX12_payOf.name cX12_payOf 3 (some .int) q :=
  List.forall_mem_cons.mpr ⟨(xOK_pure (xs_icmp_ne (show decode cX12_payOf 29 = .ok (.if_icmp .ne 7, 3) by decide +kernel) (by decide))),
  List.forall_mem_cons.mpr ⟨(xOK_pure (xs_iconst (n := 0) (show decode cX12_payOf 32 = .ok (.iconst 0, 1) by decide +kernel) (by decide))),
  List.forall_mem_cons.mpr ⟨(xOK_pure (xs_goto (show decode cX12_payOf 33 = .ok (.goto 9, 3) by decide +kernel) (by decide))),
  List.forall_mem_cons.mpr ⟨(xOK_pure (xs_aload_n (k := 0) rfl (show decode cX12_payOf 36 = .ok (.aload_n 0, 1) by decide +kernel))),
  List.forall_mem_cons.mpr ⟨(xOK_pure (xs_iload_n (k := 2) rfl (show decode cX12_payOf 37 = .ok (.iload_n 2, 1) by decide +kernel))),
  List.forall_mem_cons.mpr ⟨(xOK_pure (xs_iload_n (k := 1) rfl (show decode cX12_payOf 38 = .ok (.iload_n 1, 1) by decide +kernel))),
  List.forall_mem_cons.mpr ⟨(xcm mi_269 ⟨⟨(by decide +kernel), (by decide +kernel), (by decide +kernel)⟩, (by decide), xw_2245, xw_125, Or.inl ⟨rfl, _, _, _, _, (show decode cX12_payOf 39 = .ok (.invokevirtual 401, 3) by decide +kernel), xw_2242, xw_2244, xw_103, rfl⟩⟩),
  List.forall_mem_cons.mpr ⟨(Or.inr (Or.inl ⟨rfl, (show decode cX12_payOf 42 = .ok (.ireturn, 1) by decide +kernel), rfl⟩)),
  (fun _ h => absurd h List.not_mem_nil)⟩⟩⟩⟩⟩⟩⟩⟩
def pX12_payOf (ev : xEv) : List (Nat × xEn) := pX12_payOf_0 ev ++ (pX12_payOf_1 ev)
theorem okpX12_payOf (ev : xEv) : ∀ q ∈ pX12_payOf ev, xEnOK ev xmi yX12_payOf.cls yX12_payOf.name cX12_payOf 3 (some .int) q := List.forall_mem_append.mpr ⟨okpX12_payOf_0 ev, okpX12_payOf_1 ev⟩
theorem omX12_payOf (ev : xEv) : xMethOK ev xmi yX12_payOf.cls yX12_payOf.name 270 (pX12_payOf ev) := xMethOK.of mi_270 (by decide +kernel) (okpX12_payOf ev)
