def pX12_where_0 (ev : xEv) : List (Nat × xEn) := [(0, .inl (xop (xf_aload 0 1))), (1, .inl (xop (xf_push (.int 0) 1))), (2, .inl (xo_putf 12 47 .int)), (5, .inl (xop (xf_aload 0 1))), (6, .inl (xop (xf_iload 1 1))), (7, .inr (.inl (0, 194, 1, 12))), (10, .inl (xop (xf_if_eq 22))), (13, .inl (xop (xf_iload 2 1))), (14, .inl (xop (xf_push (.int 0) 1))), (15, .inl (xop (xf_push (.int 5) 1))), (16, .inr (.inl (1, 188, 3, 12))), (19, .inl (xop (xf_if_ne 27))), (22, .inl (xop (xf_aload 0 1))), (23, .inr (.inl (0, 189, 0, 12))), (26, .inr (.inr 1)), (27, .inl (xop (xf_iload 2 1))), (28, .inl (xop (xf_sw (xtsw 0 [64, 71, 78, 85, 92] 124)))), (64, .inl (xop (xf_aload 0 1))), (65, .inl (xop (xf_iload 1 1))), (66, .inl (xop (xf_push (.int 0) 1)))]
set_option maxRecDepth 20000 in
theorem okpX12_where_0 (ev : xEv) : ∀ q ∈ pX12_where_0 ev, xEnOK ev xmi yX12_where.cls yX12_where.name cX12_where 3 (some .int) q :=
  List.forall_mem_cons.mpr ⟨(xOK_pure (xs_aload_n (k := 0) rfl (show decode cX12_where 0 = .ok (.aload_n 0, 1) by decide +kernel))),
  List.forall_mem_cons.mpr ⟨(xOK_pure (xs_iconst (n := 0) (show decode cX12_where 1 = .ok (.iconst 0, 1) by decide +kernel) (by decide))),
  List.forall_mem_cons.mpr ⟨(xs_putf (k := 47) xcl_12 (by decide) rfl (show decode cX12_where 2 = .ok (.putfield 140, 3) by decide +kernel) xw_1756),
  List.forall_mem_cons.mpr ⟨(xOK_pure (xs_aload_n (k := 0) rfl (show decode cX12_where 5 = .ok (.aload_n 0, 1) by decide +kernel))),
  List.forall_mem_cons.mpr ⟨(xOK_pure (xs_iload_n (k := 1) rfl (show decode cX12_where 6 = .ok (.iload_n 1, 1) by decide +kernel))),
  List.forall_mem_cons.mpr ⟨(xcm mi_194 ⟨⟨(by decide +kernel), (by decide +kernel), (by decide +kernel)⟩, (by decide), xw_2037, xw_125, Or.inl ⟨rfl, _, _, _, _, (show decode cX12_where 7 = .ok (.invokevirtual 225, 3) by decide +kernel), xw_2034, xw_2036, xw_68, rfl⟩⟩),
  List.forall_mem_cons.mpr ⟨(xOK_pure (xs_if_eq (show decode cX12_where 10 = .ok (.ifCond .eq 12, 3) by decide +kernel) (by decide))),
  List.forall_mem_cons.mpr ⟨(xOK_pure (xs_iload_n (k := 2) rfl (show decode cX12_where 13 = .ok (.iload_n 2, 1) by decide +kernel))),
  List.forall_mem_cons.mpr ⟨(xOK_pure (xs_iconst (n := 0) (show decode cX12_where 14 = .ok (.iconst 0, 1) by decide +kernel) (by decide))),
  List.forall_mem_cons.mpr ⟨(xOK_pure (xs_iconst (n := 5) (show decode cX12_where 15 = .ok (.iconst 5, 1) by decide +kernel) (by decide))),
  List.forall_mem_cons.mpr ⟨(xcm mi_188 ⟨⟨(by decide +kernel), (by decide +kernel), (by decide +kernel)⟩, (by decide), xw_1912, xw_125, Or.inr (Or.inl ⟨rfl, _, (show decode cX12_where 16 = .ok (.invokestatic 146, 3) by decide +kernel), xw_1910, xw_1911⟩)⟩),
  List.forall_mem_cons.mpr ⟨(xOK_pure (xs_if_ne (show decode cX12_where 19 = .ok (.ifCond .ne 8, 3) by decide +kernel) (by decide))),
  List.forall_mem_cons.mpr ⟨(xOK_pure (xs_aload_n (k := 0) rfl (show decode cX12_where 22 = .ok (.aload_n 0, 1) by decide +kernel))),
  List.forall_mem_cons.mpr ⟨(xcm mi_189 ⟨⟨(by decide +kernel), (by decide +kernel), (by decide +kernel)⟩, (by decide), xw_1949, xw_125, Or.inl ⟨rfl, _, _, _, _, (show decode cX12_where 23 = .ok (.invokevirtual 181, 3) by decide +kernel), xw_1946, xw_1948, xw_54, rfl⟩⟩),
  List.forall_mem_cons.mpr ⟨(Or.inr (Or.inl ⟨rfl, (show decode cX12_where 26 = .ok (.ireturn, 1) by decide +kernel), rfl⟩)),
  List.forall_mem_cons.mpr ⟨(xOK_pure (xs_iload_n (k := 2) rfl (show decode cX12_where 27 = .ok (.iload_n 2, 1) by decide +kernel))),
  List.forall_mem_cons.mpr ⟨(xOK_pure (xs_tsw (show decode cX12_where 28 = .ok (.tableswitch 96 0 4 #[36, 43, 50, 57, 64], 36) by decide +kernel) (by decide) (by decide) (by decide))),
  List.forall_mem_cons.mpr ⟨(xOK_pure (xs_aload_n (k := 0) rfl (show decode cX12_where 64 = .ok (.aload_n 0, 1) by decide +kernel))),
  List.forall_mem_cons.mpr ⟨(xOK_pure (xs_iload_n (k := 1) rfl (show decode cX12_where 65 = .ok (.iload_n 1, 1) by decide +kernel))),
  List.forall_mem_cons.mpr ⟨(xOK_pure (xs_iconst (n := 0) (show decode cX12_where 66 = .ok (.iconst 0, 1) by decide +kernel) (by decide))),
  (fun _ h => absurd h List.not_mem_nil)⟩⟩⟩⟩⟩⟩⟩⟩⟩⟩⟩⟩⟩⟩⟩⟩⟩⟩⟩⟩
def pX12_where_1 (ev : xEv) : List (Nat × xEn) := [(67, .inr (.inl (0, 199, 2, 12))), (70, .inr (.inr 1)), (71, .inl (xop (xf_aload 0 1))), (72, .inl (xop (xf_iload 1 1))), (73, .inl (xop (xf_push (.int 1) 1))), (74, .inr (.inl (0, 199, 2, 12))), (77, .inr (.inr 1)), (78, .inl (xop (xf_aload 0 1))), (79, .inl (xop (xf_iload 1 1))), (80, .inl (xop (xf_push (.int 2) 1))), (81, .inr (.inl (0, 199, 2, 12))), (84, .inr (.inr 1)), (85, .inl (xop (xf_aload 0 1))), (86, .inl (xop (xf_iload 1 1))), (87, .inl (xop (xf_push (.int 3) 1))), (88, .inr (.inl (0, 199, 2, 12))), (91, .inr (.inr 1)), (92, .inl (xop (xf_aload 0 1))), (93, .inl (xop (xf_iload 1 1))), (94, .inl (xop (xf_push (.int 3) 1)))]
set_option maxRecDepth 20000 in
theorem okpX12_where_1 (ev : xEv) : ∀ q ∈ pX12_where_1 ev, xEnOK ev xmi yX12_where.cls yX12_where.name cX12_where 3 (some .int) q :=
  List.forall_mem_cons.mpr ⟨(xcm mi_199 ⟨⟨(by decide +kernel), (by decide +kernel), (by decide +kernel)⟩, (by decide), xw_2029, xw_125, Or.inl ⟨rfl, _, _, _, _, (show decode cX12_where 67 = .ok (.invokevirtual 215, 3) by decide +kernel), xw_2026, xw_2028, xw_67, rfl⟩⟩),
  List.forall_mem_cons.mpr ⟨(Or.inr (Or.inl ⟨rfl, (show decode cX12_where 70 = .ok (.ireturn, 1) by decide +kernel), rfl⟩)),
  List.forall_mem_cons.mpr ⟨(xOK_pure (xs_aload_n (k := 0) rfl (show decode cX12_where 71 = .ok (.aload_n 0, 1) by decide +kernel))),
  List.forall_mem_cons.mpr ⟨(xOK_pure (xs_iload_n (k := 1) rfl (show decode cX12_where 72 = .ok (.iload_n 1, 1) by decide +kernel))),
  List.forall_mem_cons.mpr ⟨(xOK_pure (xs_iconst (n := 1) (show decode cX12_where 73 = .ok (.iconst 1, 1) by decide +kernel) (by decide))),
  List.forall_mem_cons.mpr ⟨(xcm mi_199 ⟨⟨(by decide +kernel), (by decide +kernel), (by decide +kernel)⟩, (by decide), xw_2029, xw_125, Or.inl ⟨rfl, _, _, _, _, (show decode cX12_where 74 = .ok (.invokevirtual 215, 3) by decide +kernel), xw_2026, xw_2028, xw_67, rfl⟩⟩),
  List.forall_mem_cons.mpr ⟨(Or.inr (Or.inl ⟨rfl, (show decode cX12_where 77 = .ok (.ireturn, 1) by decide +kernel), rfl⟩)),
  List.forall_mem_cons.mpr ⟨(xOK_pure (xs_aload_n (k := 0) rfl (show decode cX12_where 78 = .ok (.aload_n 0, 1) by decide +kernel))),
  List.forall_mem_cons.mpr ⟨(xOK_pure (xs_iload_n (k := 1) rfl (show decode cX12_where 79 = .ok (.iload_n 1, 1) by decide +kernel))),
  List.forall_mem_cons.mpr ⟨(xOK_pure (xs_iconst (n := 2) (show decode cX12_where 80 = .ok (.iconst 2, 1) by decide +kernel) (by decide))),
  List.forall_mem_cons.mpr ⟨(xcm mi_199 ⟨⟨(by decide +kernel), (by decide +kernel), (by decide +kernel)⟩, (by decide), xw_2029, xw_125, Or.inl ⟨rfl, _, _, _, _, (show decode cX12_where 81 = .ok (.invokevirtual 215, 3) by decide +kernel), xw_2026, xw_2028, xw_67, rfl⟩⟩),
  List.forall_mem_cons.mpr ⟨(Or.inr (Or.inl ⟨rfl, (show decode cX12_where 84 = .ok (.ireturn, 1) by decide +kernel), rfl⟩)),
  List.forall_mem_cons.mpr ⟨(xOK_pure (xs_aload_n (k := 0) rfl (show decode cX12_where 85 = .ok (.aload_n 0, 1) by decide +kernel))),
  List.forall_mem_cons.mpr ⟨(xOK_pure (xs_iload_n (k := 1) rfl (show decode cX12_where 86 = .ok (.iload_n 1, 1) by decide +kernel))),
  List.forall_mem_cons.mpr ⟨(xOK_pure (xs_iconst (n := 3) (show decode cX12_where 87 = .ok (.iconst 3, 1) by decide +kernel) (by decide))),
  List.forall_mem_cons.mpr ⟨(xcm mi_199 ⟨⟨(by decide +kernel), (by decide +kernel), (by decide +kernel)⟩, (by decide), xw_2029, xw_125, Or.inl ⟨rfl, _, _, _, _, (show decode cX12_where 88 = .ok (.invokevirtual 215, 3) by decide +kernel), xw_2026, xw_2028, xw_67, rfl⟩⟩),
  List.forall_mem_cons.mpr ⟨(Or.inr (Or.inl ⟨rfl, (show decode cX12_where 91 = .ok (.ireturn, 1) by decide +kernel), rfl⟩)),
  List.forall_mem_cons.mpr ⟨(xOK_pure (xs_aload_n (k := 0) rfl (show decode cX12_where 92 = .ok (.aload_n 0, 1) by decide +kernel))),
  List.forall_mem_cons.mpr ⟨(xOK_pure (xs_iload_n (k := 1) rfl (show decode cX12_where 93 = .ok (.iload_n 1, 1) by decide +kernel))),
  List.forall_mem_cons.mpr ⟨(xOK_pure (xs_iconst (n := 3) (show decode cX12_where 94 = .ok (.iconst 3, 1) by decide +kernel) (by decide))),
  (fun _ h => absurd h List.not_mem_nil)⟩⟩⟩⟩⟩⟩⟩⟩⟩⟩⟩⟩⟩⟩⟩⟩⟩⟩⟩⟩
def pX12_where_2 (ev : xEv) : List (Nat × xEn) := [(95, .inr (.inl (0, 199, 2, 12))), (98, .inl (xop (xf_push (.int (-1)) 1))), (99, .inl (xop (xf_icmp_ne 106))), (102, .inl (xop (xf_push (.int (-1)) 1))), (103, .inl (xop (xf_goto 123))), (106, .inl (xop (xf_push (.int 0) 1))), (107, .inl (xop (xf_aload 0 1))), (108, .inl (xop (xf_iload 1 1))), (109, .inl (xop (xf_push (.int 3) 1))), (110, .inr (.inl (0, 199, 2, 12))), (113, .inl (xop (xf_aload 0 1))), (114, .inl (xop (xf_getf 12 27))), (117, .inl (xop (xf_iload 1 1))), (118, .inl (xop (xf_ald (ev.1 0)))), (119, .inl (xop (xf_bin (fun x y => x - y)))), (120, .inl (xop (xf_m2 (fun x y => if x < y then y else x)))), (123, .inr (.inr 1)), (124, .inl (xop (xf_aload 0 1))), (125, .inl (xop (xf_iload 1 1))), (126, .inr (.inl (0, 270, 1, 12)))]
set_option maxRecDepth 20000 in
theorem okpX12_where_2 (ev : xEv) : ∀ q ∈ pX12_where_2 ev, xEnOK ev xmi yX12_where.cls yX12_where.name cX12_where 3 (some .int) q :=
  List.forall_mem_cons.mpr ⟨(xcm mi_199 ⟨⟨(by decide +kernel), (by decide +kernel), (by decide +kernel)⟩, (by decide), xw_2029, xw_125, Or.inl ⟨rfl, _, _, _, _, (show decode cX12_where 95 = .ok (.invokevirtual 215, 3) by decide +kernel), xw_2026, xw_2028, xw_67, rfl⟩⟩),
  List.forall_mem_cons.mpr ⟨(xOK_pure (xs_iconst (n := (-1)) (show decode cX12_where 98 = .ok (.iconst (-1), 1) by decide +kernel) (by decide))),
  List.forall_mem_cons.mpr ⟨(xOK_pure (xs_icmp_ne (show decode cX12_where 99 = .ok (.if_icmp .ne 7, 3) by decide +kernel) (by decide))),
  List.forall_mem_cons.mpr ⟨(xOK_pure (xs_iconst (n := (-1)) (show decode cX12_where 102 = .ok (.iconst (-1), 1) by decide +kernel) (by decide))),
  List.forall_mem_cons.mpr ⟨(xOK_pure (xs_goto (show decode cX12_where 103 = .ok (.goto 20, 3) by decide +kernel) (by decide))),
  List.forall_mem_cons.mpr ⟨(xOK_pure (xs_iconst (n := 0) (show decode cX12_where 106 = .ok (.iconst 0, 1) by decide +kernel) (by decide))),
  List.forall_mem_cons.mpr ⟨(xOK_pure (xs_aload_n (k := 0) rfl (show decode cX12_where 107 = .ok (.aload_n 0, 1) by decide +kernel))),
  List.forall_mem_cons.mpr ⟨(xOK_pure (xs_iload_n (k := 1) rfl (show decode cX12_where 108 = .ok (.iload_n 1, 1) by decide +kernel))),
  List.forall_mem_cons.mpr ⟨(xOK_pure (xs_iconst (n := 3) (show decode cX12_where 109 = .ok (.iconst 3, 1) by decide +kernel) (by decide))),
  List.forall_mem_cons.mpr ⟨(xcm mi_199 ⟨⟨(by decide +kernel), (by decide +kernel), (by decide +kernel)⟩, (by decide), xw_2029, xw_125, Or.inl ⟨rfl, _, _, _, _, (show decode cX12_where 110 = .ok (.invokevirtual 215, 3) by decide +kernel), xw_2026, xw_2028, xw_67, rfl⟩⟩),
  List.forall_mem_cons.mpr ⟨(xOK_pure (xs_aload_n (k := 0) rfl (show decode cX12_where 113 = .ok (.aload_n 0, 1) by decide +kernel))),
  List.forall_mem_cons.mpr ⟨(xOK_pure (xs_getf xcl_12 (by decide) (show decode cX12_where 114 = .ok (.getfield 77, 3) by decide +kernel) xw_1736)),
  List.forall_mem_cons.mpr ⟨(xOK_pure (xs_iload_n (k := 1) rfl (show decode cX12_where 117 = .ok (.iload_n 1, 1) by decide +kernel))),
  List.forall_mem_cons.mpr ⟨(xOK_pure (xs_iald (show decode cX12_where 118 = .ok (.iaload, 1) by decide +kernel))),
  List.forall_mem_cons.mpr ⟨(xOK_pure (xs_isub (show decode cX12_where 119 = .ok (.isub, 1) by decide +kernel))),
  List.forall_mem_cons.mpr ⟨(xOK_pure (xs_mmax (show decode cX12_where 120 = .ok (.invokestatic 231, 3) by decide +kernel) xw_2041 xw_829 xw_127 xw_830)),
  List.forall_mem_cons.mpr ⟨(Or.inr (Or.inl ⟨rfl, (show decode cX12_where 123 = .ok (.ireturn, 1) by decide +kernel), rfl⟩)),
  List.forall_mem_cons.mpr ⟨(xOK_pure (xs_aload_n (k := 0) rfl (show decode cX12_where 124 = .ok (.aload_n 0, 1) by decide +kernel))),
  List.forall_mem_cons.mpr ⟨(xOK_pure (xs_iload_n (k := 1) rfl (show decode cX12_where 125 = .ok (.iload_n 1, 1) by decide +kernel))),
  List.forall_mem_cons.mpr ⟨(xcm mi_270 ⟨⟨(by decide +kernel), (by decide +kernel), (by decide +kernel)⟩, (by decide), xw_2241, xw_125, Or.inl ⟨rfl, _, _, _, _, (show decode cX12_where 126 = .ok (.invokevirtual 404, 3) by decide +kernel), xw_2238, xw_2240, xw_102, rfl⟩⟩),
  (fun _ h => absurd h List.not_mem_nil)⟩⟩⟩⟩⟩⟩⟩⟩⟩⟩⟩⟩⟩⟩⟩⟩⟩⟩⟩⟩
def pX12_where_3 (ev : xEv) : List (Nat × xEn) := [(129, .inr (.inr 1))]
set_option maxRecDepth 20000 in
theorem okpX12_where_3 (ev : xEv) : ∀ q ∈ pX12_where_3 ev, xEnOK ev xmi yX12_where.cls yX12_where.name cX12_where 3 (some .int) q :=
  List.forall_mem_cons.mpr ⟨(Or.inr (Or.inl ⟨rfl, (show decode cX12_where 129 = .ok (.ireturn, 1) by decide +kernel), rfl⟩)),
  (fun _ h => absurd h List.not_mem_nil)⟩
def pX12_where (ev : xEv) : List (Nat × xEn) := pX12_where_0 ev ++ (pX12_where_1 ev ++ (pX12_where_2 ev ++ (pX12_where_3 ev)))
theorem okpX12_where (ev : xEv) : ∀ q ∈ pX12_where ev, xEnOK ev xmi yX12_where.cls yX12_where.name cX12_where 3 (some .int) q := List.forall_mem_append.mpr ⟨okpX12_where_0 ev, List.forall_mem_append.mpr ⟨okpX12_where_1 ev, List.forall_mem_append.mpr ⟨okpX12_where_2 ev, okpX12_where_3 ev⟩⟩⟩
theorem omX12_where (ev : xEv) : xMethOK ev xmi yX12_where.cls yX12_where.name 271 (pX12_where ev) := xMethOK.of mi_271 (by decide +kernel) (okpX12_where ev)
def pX12_flown_0 (ev : xEv) : List (Nat × xEn) := [(0, .inl (xop (xf_aload 0 1))), (1, .inl (xop (xf_push (.int 0) 1))), (2, .inl (xo_putf 12 47 .int)), (5, .inl (xop (xf_iload 1 1))), (6, .inl (xop (xf_push (.int 0) 1))), (7, .inl (xop (xf_aload 0 1))), (8, .inl (xop (xf_getf 12 33))), (11, .inl (xop (xf_push (.int 1) 1))), (12, .inl (xop (xf_bin (fun x y => x - y)))), (13, .inr (.inl (1, 188, 3, 12))), (16, .inl (xop (xf_if_eq 37))), (19, .inl (xop (xf_iload 2 1))), (20, .inl (xop (xf_push (.int 0) 1))), (21, .inl (xop (xf_push (.int 2) 1))), (22, .inr (.inl (1, 188, 3, 12))), (25, .inl (xop (xf_if_eq 37))), (28, .inl (xop (xf_aload 0 1))), (29, .inl (xop (xf_iload 1 1))), (30, .inl (xop (xf_iload 2 1))), (31, .inr (.inl (0, 201, 2, 12)))]
set_option maxRecDepth 20000 in
theorem okpX12_flown_0 (ev : xEv) : ∀ q ∈ pX12_flown_0 ev, xEnOK ev xmi yX12_flown.cls yX12_flown.name cX12_flown 3 (some .int) q :=
  List.forall_mem_cons.mpr ⟨(xOK_pure (xs_aload_n (k := 0) rfl (show decode cX12_flown 0 = .ok (.aload_n 0, 1) by decide +kernel))),
  List.forall_mem_cons.mpr ⟨(xOK_pure (xs_iconst (n := 0) (show decode cX12_flown 1 = .ok (.iconst 0, 1) by decide +kernel) (by decide))),
  List.forall_mem_cons.mpr ⟨(xs_putf (k := 47) xcl_12 (by decide) rfl (show decode cX12_flown 2 = .ok (.putfield 140, 3) by decide +kernel) xw_1756),
  List.forall_mem_cons.mpr ⟨(xOK_pure (xs_iload_n (k := 1) rfl (show decode cX12_flown 5 = .ok (.iload_n 1, 1) by decide +kernel))),
  List.forall_mem_cons.mpr ⟨(xOK_pure (xs_iconst (n := 0) (show decode cX12_flown 6 = .ok (.iconst 0, 1) by decide +kernel) (by decide))),
  List.forall_mem_cons.mpr ⟨(xOK_pure (xs_aload_n (k := 0) rfl (show decode cX12_flown 7 = .ok (.aload_n 0, 1) by decide +kernel))),
  List.forall_mem_cons.mpr ⟨(xOK_pure (xs_getf xcl_12 (by decide) (show decode cX12_flown 8 = .ok (.getfield 332, 3) by decide +kernel) xw_1742)),
  List.forall_mem_cons.mpr ⟨(xOK_pure (xs_iconst (n := 1) (show decode cX12_flown 11 = .ok (.iconst 1, 1) by decide +kernel) (by decide))),
  List.forall_mem_cons.mpr ⟨(xOK_pure (xs_isub (show decode cX12_flown 12 = .ok (.isub, 1) by decide +kernel))),
  List.forall_mem_cons.mpr ⟨(xcm mi_188 ⟨⟨(by decide +kernel), (by decide +kernel), (by decide +kernel)⟩, (by decide), xw_1912, xw_125, Or.inr (Or.inl ⟨rfl, _, (show decode cX12_flown 13 = .ok (.invokestatic 146, 3) by decide +kernel), xw_1910, xw_1911⟩)⟩),
  List.forall_mem_cons.mpr ⟨(xOK_pure (xs_if_eq (show decode cX12_flown 16 = .ok (.ifCond .eq 21, 3) by decide +kernel) (by decide))),
  List.forall_mem_cons.mpr ⟨(xOK_pure (xs_iload_n (k := 2) rfl (show decode cX12_flown 19 = .ok (.iload_n 2, 1) by decide +kernel))),
  List.forall_mem_cons.mpr ⟨(xOK_pure (xs_iconst (n := 0) (show decode cX12_flown 20 = .ok (.iconst 0, 1) by decide +kernel) (by decide))),
  List.forall_mem_cons.mpr ⟨(xOK_pure (xs_iconst (n := 2) (show decode cX12_flown 21 = .ok (.iconst 2, 1) by decide +kernel) (by decide))),
  List.forall_mem_cons.mpr ⟨(xcm mi_188 ⟨⟨(by decide +kernel), (by decide +kernel), (by decide +kernel)⟩, (by decide), xw_1912, xw_125, Or.inr (Or.inl ⟨rfl, _, (show decode cX12_flown 22 = .ok (.invokestatic 146, 3) by decide +kernel), xw_1910, xw_1911⟩)⟩),
  List.forall_mem_cons.mpr ⟨(xOK_pure (xs_if_eq (show decode cX12_flown 25 = .ok (.ifCond .eq 12, 3) by decide +kernel) (by decide))),
  List.forall_mem_cons.mpr ⟨(xOK_pure (xs_aload_n (k := 0) rfl (show decode cX12_flown 28 = .ok (.aload_n 0, 1) by decide +kernel))),
  List.forall_mem_cons.mpr ⟨(xOK_pure (xs_iload_n (k := 1) rfl (show decode cX12_flown 29 = .ok (.iload_n 1, 1) by decide +kernel))),
  List.forall_mem_cons.mpr ⟨(xOK_pure (xs_iload_n (k := 2) rfl (show decode cX12_flown 30 = .ok (.iload_n 2, 1) by decide +kernel))),
  List.forall_mem_cons.mpr ⟨(xcm mi_201 ⟨⟨(by decide +kernel), (by decide +kernel), (by decide +kernel)⟩, (by decide), xw_2137, xw_125, Or.inl ⟨rfl, _, _, _, _, (show decode cX12_flown 31 = .ok (.invokevirtual 335, 3) by decide +kernel), xw_2134, xw_2136, xw_84, rfl⟩⟩),
  (fun _ h => absurd h List.not_mem_nil)⟩⟩⟩⟩⟩⟩⟩⟩⟩⟩⟩⟩⟩⟩⟩⟩⟩⟩⟩⟩
def pX12_flown_1 (ev : xEv) : List (Nat × xEn) := [(34, .inl (xop (xf_goto 38))), (37, .inl (xop (xf_push (.int (-1)) 1))), (38, .inr (.inr 1))]
set_option maxRecDepth 20000 in
theorem okpX12_flown_1 (ev : xEv) : ∀ q ∈ pX12_flown_1 ev, xEnOK ev xmi yX12_flown.cls yX12_flown.name cX12_flown 3 (some .int) q :=
  List.forall_mem_cons.mpr ⟨(xOK_pure (xs_goto (show decode cX12_flown 34 = .ok (.goto 4, 3) by decide +kernel) (by decide))),
  List.forall_mem_cons.mpr ⟨(xOK_pure (xs_iconst (n := (-1)) (show decode cX12_flown 37 = .ok (.iconst (-1), 1) by decide +kernel) (by decide))),
  List.forall_mem_cons.mpr ⟨(Or.inr (Or.inl ⟨rfl, (show decode cX12_flown 38 = .ok (.ireturn, 1) by decide +kernel), rfl⟩)),
  (fun _ h => absurd h List.not_mem_nil)⟩⟩⟩
def pX12_flown (ev : xEv) : List (Nat × xEn) := pX12_flown_0 ev ++ (pX12_flown_1 ev)
theorem okpX12_flown (ev : xEv) : ∀ q ∈ pX12_flown ev, xEnOK ev xmi yX12_flown.cls yX12_flown.name cX12_flown 3 (some .int) q := List.forall_mem_append.mpr ⟨okpX12_flown_0 ev, okpX12_flown_1 ev⟩
theorem omX12_flown (ev : xEv) : xMethOK ev xmi yX12_flown.cls yX12_flown.name 272 (pX12_flown ev) := xMethOK.of mi_272 (by decide +kernel) (okpX12_flown ev)
def pX12_lead_0 (ev : xEv) : List (Nat × xEn) := [(0, .inl (xop (xf_aload 0 1))), (1, .inl (xop (xf_push (.int 0) 1))), (2, .inl (xo_putf 12 47 .int)), (5, .inl (xop (xf_aload 0 1))), (6, .inl (xop (xf_iload 1 1))), (7, .inr (.inl (0, 194, 1, 12))), (10, .inl (xop (xf_if_ne 15))), (13, .inl (xop (xf_push (.int (-1)) 1))), (14, .inr (.inr 1)), (15, .inl (xop (xf_aload 0 1))), (16, .inl (xop (xf_iload 1 1))), (17, .inl (xop (xf_push (.int 4) 1))), (18, .inr (.inl (0, 199, 2, 12))), (21, .inl (xop (xf_istore 2 1))), (22, .inl (xop (xf_push (.int 0) 1))), (23, .inl (xop (xf_istore 3 1))), (24, .inl (xop (xf_iload 3 1))), (25, .inl (xop (xf_push (.int 2) 1))), (26, .inl (xop (xf_iload 2 1))), (27, .inl (xop (xf_bin (fun x y => x * y))))]
set_option maxRecDepth 20000 in
theorem okpX12_lead_0 (ev : xEv) : ∀ q ∈ pX12_lead_0 ev, xEnOK ev xmi yX12_lead.cls yX12_lead.name cX12_lead 4 (some .int) q :=
  List.forall_mem_cons.mpr ⟨(xOK_pure (xs_aload_n (k := 0) rfl (show decode cX12_lead 0 = .ok (.aload_n 0, 1) by decide +kernel))),
  List.forall_mem_cons.mpr ⟨(xOK_pure (xs_iconst (n := 0) (show decode cX12_lead 1 = .ok (.iconst 0, 1) by decide +kernel) (by decide))),
  List.forall_mem_cons.mpr ⟨(xs_putf (k := 47) xcl_12 (by decide) rfl (show decode cX12_lead 2 = .ok (.putfield 140, 3) by decide +kernel) xw_1756),
  List.forall_mem_cons.mpr ⟨(xOK_pure (xs_aload_n (k := 0) rfl (show decode cX12_lead 5 = .ok (.aload_n 0, 1) by decide +kernel))),
  List.forall_mem_cons.mpr ⟨(xOK_pure (xs_iload_n (k := 1) rfl (show decode cX12_lead 6 = .ok (.iload_n 1, 1) by decide +kernel))),
  List.forall_mem_cons.mpr ⟨(xcm mi_194 ⟨⟨(by decide +kernel), (by decide +kernel), (by decide +kernel)⟩, (by decide), xw_2037, xw_125, Or.inl ⟨rfl, _, _, _, _, (show decode cX12_lead 7 = .ok (.invokevirtual 225, 3) by decide +kernel), xw_2034, xw_2036, xw_68, rfl⟩⟩),
  List.forall_mem_cons.mpr ⟨(xOK_pure (xs_if_ne (show decode cX12_lead 10 = .ok (.ifCond .ne 5, 3) by decide +kernel) (by decide))),
  List.forall_mem_cons.mpr ⟨(xOK_pure (xs_iconst (n := (-1)) (show decode cX12_lead 13 = .ok (.iconst (-1), 1) by decide +kernel) (by decide))),
  List.forall_mem_cons.mpr ⟨(Or.inr (Or.inl ⟨rfl, (show decode cX12_lead 14 = .ok (.ireturn, 1) by decide +kernel), rfl⟩)),
  List.forall_mem_cons.mpr ⟨(xOK_pure (xs_aload_n (k := 0) rfl (show decode cX12_lead 15 = .ok (.aload_n 0, 1) by decide +kernel))),
  List.forall_mem_cons.mpr ⟨(xOK_pure (xs_iload_n (k := 1) rfl (show decode cX12_lead 16 = .ok (.iload_n 1, 1) by decide +kernel))),
  List.forall_mem_cons.mpr ⟨(xOK_pure (xs_iconst (n := 4) (show decode cX12_lead 17 = .ok (.iconst 4, 1) by decide +kernel) (by decide))),
  List.forall_mem_cons.mpr ⟨(xcm mi_199 ⟨⟨(by decide +kernel), (by decide +kernel), (by decide +kernel)⟩, (by decide), xw_2029, xw_125, Or.inl ⟨rfl, _, _, _, _, (show decode cX12_lead 18 = .ok (.invokevirtual 215, 3) by decide +kernel), xw_2026, xw_2028, xw_67, rfl⟩⟩),
  List.forall_mem_cons.mpr ⟨(xOK_pure (xs_istore_n (k := 2) rfl (show decode cX12_lead 21 = .ok (.istore_n 2, 1) by decide +kernel) (by decide))),
  List.forall_mem_cons.mpr ⟨(xOK_pure (xs_iconst (n := 0) (show decode cX12_lead 22 = .ok (.iconst 0, 1) by decide +kernel) (by decide))),
  List.forall_mem_cons.mpr ⟨(xOK_pure (xs_istore_n (k := 3) rfl (show decode cX12_lead 23 = .ok (.istore_n 3, 1) by decide +kernel) (by decide))),
  List.forall_mem_cons.mpr ⟨(xOK_pure (xs_iload_n (k := 3) rfl (show decode cX12_lead 24 = .ok (.iload_n 3, 1) by decide +kernel))),
  List.forall_mem_cons.mpr ⟨(xOK_pure (xs_iconst (n := 2) (show decode cX12_lead 25 = .ok (.iconst 2, 1) by decide +kernel) (by decide))),
  List.forall_mem_cons.mpr ⟨(xOK_pure (xs_iload_n (k := 2) rfl (show decode cX12_lead 26 = .ok (.iload_n 2, 1) by decide +kernel))),
  List.forall_mem_cons.mpr ⟨(xOK_pure (xs_imul (show decode cX12_lead 27 = .ok (.imul, 1) by decide +kernel))),
  (fun _ h => absurd h List.not_mem_nil)⟩⟩⟩⟩⟩⟩⟩⟩⟩⟩⟩⟩⟩⟩⟩⟩⟩⟩⟩⟩
def pX12_lead_1 (ev : xEv) : List (Nat × xEn) := [(28, .inl (xop (xf_icmp_ge 51))), (31, .inl (xop (xf_aload 0 1))), (32, .inl (xop (xf_getf 12 45))), (35, .inl (xop (xf_iload 3 1))), (36, .inl (xop (xf_aload 0 1))), (37, .inl (xop (xf_iload 1 1))), (38, .inl (xop (xf_push (.int 5) 1))), (39, .inl (xop (xf_iload 3 1))), (40, .inl (xop (xf_bin (fun x y => x + y)))), (41, .inr (.inl (0, 199, 2, 12))), (44, .inl (xo_ast (ev.1 0) (fun x => x))), (45, .inl (xop (xf_iinc 3 1))), (48, .inl (xop (xf_goto 24))), (51, .inl (xop (xf_aload 0 1))), (52, .inl (xop (xf_push (.int 2) 1))), (53, .inl (xop (xf_iload 2 1))), (54, .inl (xop (xf_bin (fun x y => x * y)))), (55, .inl (xo_putf 12 46 .int)), (58, .inl (xop (xf_iload 2 1))), (59, .inr (.inr 1))]
set_option maxRecDepth 20000 in
theorem okpX12_lead_1 (ev : xEv) : ∀ q ∈ pX12_lead_1 ev, xEnOK ev xmi yX12_lead.cls yX12_lead.name cX12_lead 4 (some .int) q :=
  List.forall_mem_cons.mpr ⟨(xOK_pure (xs_icmp_ge (show decode cX12_lead 28 = .ok (.if_icmp .ge 23, 3) by decide +kernel) (by decide))),
  List.forall_mem_cons.mpr ⟨(xOK_pure (xs_aload_n (k := 0) rfl (show decode cX12_lead 31 = .ok (.aload_n 0, 1) by decide +kernel))),
  List.forall_mem_cons.mpr ⟨(xOK_pure (xs_getf xcl_12 (by decide) (show decode cX12_lead 32 = .ok (.getfield 118, 3) by decide +kernel) xw_1754)),
  List.forall_mem_cons.mpr ⟨(xOK_pure (xs_iload_n (k := 3) rfl (show decode cX12_lead 35 = .ok (.iload_n 3, 1) by decide +kernel))),
  List.forall_mem_cons.mpr ⟨(xOK_pure (xs_aload_n (k := 0) rfl (show decode cX12_lead 36 = .ok (.aload_n 0, 1) by decide +kernel))),
  List.forall_mem_cons.mpr ⟨(xOK_pure (xs_iload_n (k := 1) rfl (show decode cX12_lead 37 = .ok (.iload_n 1, 1) by decide +kernel))),
  List.forall_mem_cons.mpr ⟨(xOK_pure (xs_iconst (n := 5) (show decode cX12_lead 38 = .ok (.iconst 5, 1) by decide +kernel) (by decide))),
  List.forall_mem_cons.mpr ⟨(xOK_pure (xs_iload_n (k := 3) rfl (show decode cX12_lead 39 = .ok (.iload_n 3, 1) by decide +kernel))),
  List.forall_mem_cons.mpr ⟨(xOK_pure (xs_iadd (show decode cX12_lead 40 = .ok (.iadd, 1) by decide +kernel))),
  List.forall_mem_cons.mpr ⟨(xcm mi_199 ⟨⟨(by decide +kernel), (by decide +kernel), (by decide +kernel)⟩, (by decide), xw_2029, xw_125, Or.inl ⟨rfl, _, _, _, _, (show decode cX12_lead 41 = .ok (.invokevirtual 215, 3) by decide +kernel), xw_2026, xw_2028, xw_67, rfl⟩⟩),
  List.forall_mem_cons.mpr ⟨(xs_iast (show decode cX12_lead 44 = .ok (.iastore, 1) by decide +kernel)),
  List.forall_mem_cons.mpr ⟨(xOK_pure (xs_iinc (n := 1) (show decode cX12_lead 45 = .ok (.iinc 3 1, 3) by decide +kernel) (by decide) (by decide))),
  List.forall_mem_cons.mpr ⟨(xOK_pure (xs_goto (show decode cX12_lead 48 = .ok (.goto (-24), 3) by decide +kernel) (by decide))),
  List.forall_mem_cons.mpr ⟨(xOK_pure (xs_aload_n (k := 0) rfl (show decode cX12_lead 51 = .ok (.aload_n 0, 1) by decide +kernel))),
  List.forall_mem_cons.mpr ⟨(xOK_pure (xs_iconst (n := 2) (show decode cX12_lead 52 = .ok (.iconst 2, 1) by decide +kernel) (by decide))),
  List.forall_mem_cons.mpr ⟨(xOK_pure (xs_iload_n (k := 2) rfl (show decode cX12_lead 53 = .ok (.iload_n 2, 1) by decide +kernel))),
  List.forall_mem_cons.mpr ⟨(xOK_pure (xs_imul (show decode cX12_lead 54 = .ok (.imul, 1) by decide +kernel))),
  List.forall_mem_cons.mpr ⟨(xs_putf (k := 46) xcl_12 (by decide) rfl (show decode cX12_lead 55 = .ok (.putfield 398, 3) by decide +kernel) xw_1755),
  List.forall_mem_cons.mpr ⟨(xOK_pure (xs_iload_n (k := 2) rfl (show decode cX12_lead 58 = .ok (.iload_n 2, 1) by decide +kernel))),
  List.forall_mem_cons.mpr ⟨(Or.inr (Or.inl ⟨rfl, (show decode cX12_lead 59 = .ok (.ireturn, 1) by decide +kernel), rfl⟩)),
  (fun _ h => absurd h List.not_mem_nil)⟩⟩⟩⟩⟩⟩⟩⟩⟩⟩⟩⟩⟩⟩⟩⟩⟩⟩⟩⟩
def pX12_lead (ev : xEv) : List (Nat × xEn) := pX12_lead_0 ev ++ (pX12_lead_1 ev)
theorem okpX12_lead (ev : xEv) : ∀ q ∈ pX12_lead ev, xEnOK ev xmi yX12_lead.cls yX12_lead.name cX12_lead 4 (some .int) q := List.forall_mem_append.mpr ⟨okpX12_lead_0 ev, okpX12_lead_1 ev⟩
theorem omX12_lead (ev : xEv) : xMethOK ev xmi yX12_lead.cls yX12_lead.name 273 (pX12_lead ev) := xMethOK.of mi_273 (by decide +kernel) (okpX12_lead ev)
def pX12_judge_0 (ev : xEv) : List (Nat × xEn) := [(0, .inl (xop (xf_aload 0 1))), (1, .inl (xop (xf_push (.int 0) 1))), (2, .inl (xo_putf 12 47 .int)), (5, .inl (xop (xf_iload 1 1))), (6, .inl (xop (xf_push (.int 0) 1))), (7, .inl (xop (xf_aload 0 1))), (8, .inl (xop (xf_getf 12 42))), (11, .inl (xop (xf_push (.int 1) 1))), (12, .inl (xop (xf_bin (fun x y => x - y)))), (13, .inr (.inl (1, 188, 3, 12))), (16, .inl (xop (xf_if_ne 21))), (19, .inl (xop (xf_push (.int (-1)) 1))), (20, .inr (.inr 1)), (21, .inl (xop (xf_push (.int 0) 1))), (22, .inl (xop (xf_istore 2 1))), (23, .inl (xop (xf_push (.int 0) 1))), (24, .inl (xop (xf_istore 3 1))), (25, .inl (xop (xf_iload 3 1))), (26, .inl (xop (xf_aload 0 1))), (27, .inl (xop (xf_getf 12 28)))]
set_option maxRecDepth 20000 in
theorem okpX12_judge_0 (ev : xEv) : ∀ q ∈ pX12_judge_0 ev, xEnOK ev xmi yX12_judge.cls yX12_judge.name cX12_judge 4 (some .int) q :=
  List.forall_mem_cons.mpr ⟨(xOK_pure (xs_aload_n (k := 0) rfl (show decode cX12_judge 0 = .ok (.aload_n 0, 1) by decide +kernel))),
  List.forall_mem_cons.mpr ⟨(xOK_pure (xs_iconst (n := 0) (show decode cX12_judge 1 = .ok (.iconst 0, 1) by decide +kernel) (by decide))),
  List.forall_mem_cons.mpr ⟨(xs_putf (k := 47) xcl_12 (by decide) rfl (show decode cX12_judge 2 = .ok (.putfield 140, 3) by decide +kernel) xw_1756),
  List.forall_mem_cons.mpr ⟨(xOK_pure (xs_iload_n (k := 1) rfl (show decode cX12_judge 5 = .ok (.iload_n 1, 1) by decide +kernel))),
  List.forall_mem_cons.mpr ⟨(xOK_pure (xs_iconst (n := 0) (show decode cX12_judge 6 = .ok (.iconst 0, 1) by decide +kernel) (by decide))),
  List.forall_mem_cons.mpr ⟨(xOK_pure (xs_aload_n (k := 0) rfl (show decode cX12_judge 7 = .ok (.aload_n 0, 1) by decide +kernel))),
  List.forall_mem_cons.mpr ⟨(xOK_pure (xs_getf xcl_12 (by decide) (show decode cX12_judge 8 = .ok (.getfield 304, 3) by decide +kernel) xw_1751)),
  List.forall_mem_cons.mpr ⟨(xOK_pure (xs_iconst (n := 1) (show decode cX12_judge 11 = .ok (.iconst 1, 1) by decide +kernel) (by decide))),
  List.forall_mem_cons.mpr ⟨(xOK_pure (xs_isub (show decode cX12_judge 12 = .ok (.isub, 1) by decide +kernel))),
  List.forall_mem_cons.mpr ⟨(xcm mi_188 ⟨⟨(by decide +kernel), (by decide +kernel), (by decide +kernel)⟩, (by decide), xw_1912, xw_125, Or.inr (Or.inl ⟨rfl, _, (show decode cX12_judge 13 = .ok (.invokestatic 146, 3) by decide +kernel), xw_1910, xw_1911⟩)⟩),
  List.forall_mem_cons.mpr ⟨(xOK_pure (xs_if_ne (show decode cX12_judge 16 = .ok (.ifCond .ne 5, 3) by decide +kernel) (by decide))),
  List.forall_mem_cons.mpr ⟨(xOK_pure (xs_iconst (n := (-1)) (show decode cX12_judge 19 = .ok (.iconst (-1), 1) by decide +kernel) (by decide))),
  List.forall_mem_cons.mpr ⟨(Or.inr (Or.inl ⟨rfl, (show decode cX12_judge 20 = .ok (.ireturn, 1) by decide +kernel), rfl⟩)),
  List.forall_mem_cons.mpr ⟨(xOK_pure (xs_iconst (n := 0) (show decode cX12_judge 21 = .ok (.iconst 0, 1) by decide +kernel) (by decide))),
  List.forall_mem_cons.mpr ⟨(xOK_pure (xs_istore_n (k := 2) rfl (show decode cX12_judge 22 = .ok (.istore_n 2, 1) by decide +kernel) (by decide))),
  List.forall_mem_cons.mpr ⟨(xOK_pure (xs_iconst (n := 0) (show decode cX12_judge 23 = .ok (.iconst 0, 1) by decide +kernel) (by decide))),
  List.forall_mem_cons.mpr ⟨(xOK_pure (xs_istore_n (k := 3) rfl (show decode cX12_judge 24 = .ok (.istore_n 3, 1) by decide +kernel) (by decide))),
  List.forall_mem_cons.mpr ⟨(xOK_pure (xs_iload_n (k := 3) rfl (show decode cX12_judge 25 = .ok (.iload_n 3, 1) by decide +kernel))),
  List.forall_mem_cons.mpr ⟨(xOK_pure (xs_aload_n (k := 0) rfl (show decode cX12_judge 26 = .ok (.aload_n 0, 1) by decide +kernel))),
  List.forall_mem_cons.mpr ⟨(xOK_pure (xs_getf xcl_12 (by decide) (show decode cX12_judge 27 = .ok (.getfield 159, 3) by decide +kernel) xw_1737)),
  (fun _ h => absurd h List.not_mem_nil)⟩⟩⟩⟩⟩⟩⟩⟩⟩⟩⟩⟩⟩⟩⟩⟩⟩⟩⟩⟩
def pX12_judge_1 (ev : xEv) : List (Nat × xEn) := [(30, .inl (xop (xf_icmp_ge 61))), (33, .inl (xop (xf_aload 0 1))), (34, .inl (xop (xf_iload 3 1))), (35, .inl (xop (xf_push (.int 3) 1))), (36, .inr (.inl (0, 199, 2, 12))), (39, .inl (xop (xf_push (.int (-1)) 1))), (40, .inl (xop (xf_icmp_eq 55))), (43, .inl (xop (xf_iload 2 1))), (44, .inl (xop (xf_aload 0 1))), (45, .inl (xop (xf_push (.int 20) 2))), (47, .inl (xop (xf_iload 1 1))), (48, .inl (xop (xf_bin (fun x y => x + y)))), (49, .inl (xop (xf_iload 3 1))), (50, .inr (.inl (0, 269, 2, 12))), (53, .inl (xop (xf_bin (fun x y => x + y)))), (54, .inl (xop (xf_istore 2 1))), (55, .inl (xop (xf_iinc 3 1))), (58, .inl (xop (xf_goto 25))), (61, .inl (xop (xf_iload 2 1))), (62, .inr (.inr 1))]
set_option maxRecDepth 20000 in
theorem okpX12_judge_1 (ev : xEv) : ∀ q ∈ pX12_judge_1 ev, xEnOK ev xmi yX12_judge.cls yX12_judge.name cX12_judge 4 (some .int) q :=
  List.forall_mem_cons.mpr ⟨(xOK_pure (xs_icmp_ge (show decode cX12_judge 30 = .ok (.if_icmp .ge 31, 3) by decide +kernel) (by decide))),
  List.forall_mem_cons.mpr ⟨(xOK_pure (xs_aload_n (k := 0) rfl (show decode cX12_judge 33 = .ok (.aload_n 0, 1) by decide +kernel))),
  List.forall_mem_cons.mpr ⟨(xOK_pure (xs_iload_n (k := 3) rfl (show decode cX12_judge 34 = .ok (.iload_n 3, 1) by decide +kernel))),
  List.forall_mem_cons.mpr ⟨(xOK_pure (xs_iconst (n := 3) (show decode cX12_judge 35 = .ok (.iconst 3, 1) by decide +kernel) (by decide))),
  List.forall_mem_cons.mpr ⟨(xcm mi_199 ⟨⟨(by decide +kernel), (by decide +kernel), (by decide +kernel)⟩, (by decide), xw_2029, xw_125, Or.inl ⟨rfl, _, _, _, _, (show decode cX12_judge 36 = .ok (.invokevirtual 215, 3) by decide +kernel), xw_2026, xw_2028, xw_67, rfl⟩⟩),
  List.forall_mem_cons.mpr ⟨(xOK_pure (xs_iconst (n := (-1)) (show decode cX12_judge 39 = .ok (.iconst (-1), 1) by decide +kernel) (by decide))),
  List.forall_mem_cons.mpr ⟨(xOK_pure (xs_icmp_eq (show decode cX12_judge 40 = .ok (.if_icmp .eq 15, 3) by decide +kernel) (by decide))),
  List.forall_mem_cons.mpr ⟨(xOK_pure (xs_iload_n (k := 2) rfl (show decode cX12_judge 43 = .ok (.iload_n 2, 1) by decide +kernel))),
  List.forall_mem_cons.mpr ⟨(xOK_pure (xs_aload_n (k := 0) rfl (show decode cX12_judge 44 = .ok (.aload_n 0, 1) by decide +kernel))),
  List.forall_mem_cons.mpr ⟨(xOK_pure (xs_bipush (n := 20) (show decode cX12_judge 45 = .ok (.bipush 20, 2) by decide +kernel) (by decide))),
  List.forall_mem_cons.mpr ⟨(xOK_pure (xs_iload_n (k := 1) rfl (show decode cX12_judge 47 = .ok (.iload_n 1, 1) by decide +kernel))),
  List.forall_mem_cons.mpr ⟨(xOK_pure (xs_iadd (show decode cX12_judge 48 = .ok (.iadd, 1) by decide +kernel))),
  List.forall_mem_cons.mpr ⟨(xOK_pure (xs_iload_n (k := 3) rfl (show decode cX12_judge 49 = .ok (.iload_n 3, 1) by decide +kernel))),
  List.forall_mem_cons.mpr ⟨(xcm mi_269 ⟨⟨(by decide +kernel), (by decide +kernel), (by decide +kernel)⟩, (by decide), xw_2245, xw_125, Or.inl ⟨rfl, _, _, _, _, (show decode cX12_judge 50 = .ok (.invokevirtual 401, 3) by decide +kernel), xw_2242, xw_2244, xw_103, rfl⟩⟩),
  List.forall_mem_cons.mpr ⟨(xOK_pure (xs_iadd (show decode cX12_judge 53 = .ok (.iadd, 1) by decide +kernel))),
  List.forall_mem_cons.mpr ⟨(xOK_pure (xs_istore_n (k := 2) rfl (show decode cX12_judge 54 = .ok (.istore_n 2, 1) by decide +kernel) (by decide))),
  List.forall_mem_cons.mpr ⟨(xOK_pure (xs_iinc (n := 1) (show decode cX12_judge 55 = .ok (.iinc 3 1, 3) by decide +kernel) (by decide) (by decide))),
  List.forall_mem_cons.mpr ⟨(xOK_pure (xs_goto (show decode cX12_judge 58 = .ok (.goto (-33), 3) by decide +kernel) (by decide))),
  List.forall_mem_cons.mpr ⟨(xOK_pure (xs_iload_n (k := 2) rfl (show decode cX12_judge 61 = .ok (.iload_n 2, 1) by decide +kernel))),
  List.forall_mem_cons.mpr ⟨(Or.inr (Or.inl ⟨rfl, (show decode cX12_judge 62 = .ok (.ireturn, 1) by decide +kernel), rfl⟩)),
  (fun _ h => absurd h List.not_mem_nil)⟩⟩⟩⟩⟩⟩⟩⟩⟩⟩⟩⟩⟩⟩⟩⟩⟩⟩⟩⟩
def pX12_judge (ev : xEv) : List (Nat × xEn) := pX12_judge_0 ev ++ (pX12_judge_1 ev)
theorem okpX12_judge (ev : xEv) : ∀ q ∈ pX12_judge ev, xEnOK ev xmi yX12_judge.cls yX12_judge.name cX12_judge 4 (some .int) q := List.forall_mem_append.mpr ⟨okpX12_judge_0 ev, okpX12_judge_1 ev⟩
theorem omX12_judge (ev : xEv) : xMethOK ev xmi yX12_judge.cls yX12_judge.name 274 (pX12_judge ev) := xMethOK.of mi_274 (by decide +kernel) (okpX12_judge ev)
def pX12_coinNow_0 (ev : xEv) : List (Nat × xEn) := [(0, .inl (xop (xf_aload 0 1))), (1, .inl (xop (xf_getf 12 48))), (4, .inl (xop (xf_push (.int 1) 1))), (5, .inl (xop (xf_ald (ev.1 0)))), (6, .inl (xop (xf_un (fun x => -x)))), (7, .inl (xop (xf_istore 1 1))), (8, .inl (xop (xf_push (.int 0) 1))), (9, .inl (xop (xf_istore 2 1))), (10, .inl (xop (xf_iload 2 1))), (11, .inl (xop (xf_aload 0 1))), (12, .inl (xop (xf_getf 12 28))), (15, .inl (xop (xf_icmp_ge 32))), (18, .inl (xop (xf_iload 1 1))), (19, .inl (xop (xf_aload 0 1))), (20, .inl (xop (xf_iload 2 1))), (21, .inr (.inl (0, 270, 1, 12))), (24, .inl (xop (xf_bin (fun x y => x + y)))), (25, .inl (xop (xf_istore 1 1))), (26, .inl (xop (xf_iinc 2 1))), (29, .inl (xop (xf_goto 10)))]
set_option maxRecDepth 20000 in
theorem okpX12_coinNow_0 (ev : xEv) : ∀ q ∈ pX12_coinNow_0 ev, xEnOK ev xmi yX12_coinNow.cls yX12_coinNow.name cX12_coinNow 3 (some .int) q :=
  List.forall_mem_cons.mpr ⟨(xOK_pure (xs_aload_n (k := 0) rfl (show decode cX12_coinNow 0 = .ok (.aload_n 0, 1) by decide +kernel))),
  List.forall_mem_cons.mpr ⟨(xOK_pure (xs_getf xcl_12 (by decide) (show decode cX12_coinNow 1 = .ok (.getfield 121, 3) by decide +kernel) xw_1757)),
  List.forall_mem_cons.mpr ⟨(xOK_pure (xs_iconst (n := 1) (show decode cX12_coinNow 4 = .ok (.iconst 1, 1) by decide +kernel) (by decide))),
  List.forall_mem_cons.mpr ⟨(xOK_pure (xs_iald (show decode cX12_coinNow 5 = .ok (.iaload, 1) by decide +kernel))),
  List.forall_mem_cons.mpr ⟨(xOK_pure (xs_ineg (show decode cX12_coinNow 6 = .ok (.ineg, 1) by decide +kernel))),
  List.forall_mem_cons.mpr ⟨(xOK_pure (xs_istore_n (k := 1) rfl (show decode cX12_coinNow 7 = .ok (.istore_n 1, 1) by decide +kernel) (by decide))),
  List.forall_mem_cons.mpr ⟨(xOK_pure (xs_iconst (n := 0) (show decode cX12_coinNow 8 = .ok (.iconst 0, 1) by decide +kernel) (by decide))),
  List.forall_mem_cons.mpr ⟨(xOK_pure (xs_istore_n (k := 2) rfl (show decode cX12_coinNow 9 = .ok (.istore_n 2, 1) by decide +kernel) (by decide))),
  List.forall_mem_cons.mpr ⟨(xOK_pure (xs_iload_n (k := 2) rfl (show decode cX12_coinNow 10 = .ok (.iload_n 2, 1) by decide +kernel))),
  List.forall_mem_cons.mpr ⟨(xOK_pure (xs_aload_n (k := 0) rfl (show decode cX12_coinNow 11 = .ok (.aload_n 0, 1) by decide +kernel))),
  List.forall_mem_cons.mpr ⟨(xOK_pure (xs_getf xcl_12 (by decide) (show decode cX12_coinNow 12 = .ok (.getfield 159, 3) by decide +kernel) xw_1737)),
  List.forall_mem_cons.mpr ⟨(xOK_pure (xs_icmp_ge (show decode cX12_coinNow 15 = .ok (.if_icmp .ge 17, 3) by decide +kernel) (by decide))),
  List.forall_mem_cons.mpr ⟨(xOK_pure (xs_iload_n (k := 1) rfl (show decode cX12_coinNow 18 = .ok (.iload_n 1, 1) by decide +kernel))),
  List.forall_mem_cons.mpr ⟨(xOK_pure (xs_aload_n (k := 0) rfl (show decode cX12_coinNow 19 = .ok (.aload_n 0, 1) by decide +kernel))),
  List.forall_mem_cons.mpr ⟨(xOK_pure (xs_iload_n (k := 2) rfl (show decode cX12_coinNow 20 = .ok (.iload_n 2, 1) by decide +kernel))),
  List.forall_mem_cons.mpr ⟨(xcm mi_270 ⟨⟨(by decide +kernel), (by decide +kernel), (by decide +kernel)⟩, (by decide), xw_2241, xw_125, Or.inl ⟨rfl, _, _, _, _, (show decode cX12_coinNow 21 = .ok (.invokevirtual 404, 3) by decide +kernel), xw_2238, xw_2240, xw_102, rfl⟩⟩),
  List.forall_mem_cons.mpr ⟨(xOK_pure (xs_iadd (show decode cX12_coinNow 24 = .ok (.iadd, 1) by decide +kernel))),
  List.forall_mem_cons.mpr ⟨(xOK_pure (xs_istore_n (k := 1) rfl (show decode cX12_coinNow 25 = .ok (.istore_n 1, 1) by decide +kernel) (by decide))),
  List.forall_mem_cons.mpr ⟨(xOK_pure (xs_iinc (n := 1) (show decode cX12_coinNow 26 = .ok (.iinc 2 1, 3) by decide +kernel) (by decide) (by decide))),
  List.forall_mem_cons.mpr ⟨(xOK_pure (xs_goto (show decode cX12_coinNow 29 = .ok (.goto (-19), 3) by decide +kernel) (by decide))),
  (fun _ h => absurd h List.not_mem_nil)⟩⟩⟩⟩⟩⟩⟩⟩⟩⟩⟩⟩⟩⟩⟩⟩⟩⟩⟩⟩
def pX12_coinNow_1 (ev : xEv) : List (Nat × xEn) := [(32, .inl (xop (xf_iload 1 1))), (33, .inr (.inr 1))]
set_option maxRecDepth 20000 in
theorem okpX12_coinNow_1 (ev : xEv) : ∀ q ∈ pX12_coinNow_1 ev, xEnOK ev xmi yX12_coinNow.cls yX12_coinNow.name cX12_coinNow 3 (some .int) q :=
  List.forall_mem_cons.mpr ⟨(xOK_pure (xs_iload_n (k := 1) rfl (show decode cX12_coinNow 32 = .ok (.iload_n 1, 1) by decide +kernel))),
  List.forall_mem_cons.mpr ⟨(Or.inr (Or.inl ⟨rfl, (show decode cX12_coinNow 33 = .ok (.ireturn, 1) by decide +kernel), rfl⟩)),
  (fun _ h => absurd h List.not_mem_nil)⟩⟩
def pX12_coinNow (ev : xEv) : List (Nat × xEn) := pX12_coinNow_0 ev ++ (pX12_coinNow_1 ev)
theorem okpX12_coinNow (ev : xEv) : ∀ q ∈ pX12_coinNow ev, xEnOK ev xmi yX12_coinNow.cls yX12_coinNow.name cX12_coinNow 3 (some .int) q := List.forall_mem_append.mpr ⟨okpX12_coinNow_0 ev, okpX12_coinNow_1 ev⟩
theorem omX12_coinNow (ev : xEv) : xMethOK ev xmi yX12_coinNow.cls yX12_coinNow.name 275 (pX12_coinNow ev) := xMethOK.of mi_275 (by decide +kernel) (okpX12_coinNow ev)
def pX12_coin (ev : xEv) : List (Nat × xEn) := [(0, .inl (xop (xf_aload 0 1))), (1, .inl (xop (xf_push (.int 0) 1))), (2, .inl (xo_putf 12 47 .int)), (5, .inl (xop (xf_aload 0 1))), (6, .inr (.inl (0, 275, 0, 12))), (9, .inr (.inr 1))]
set_option maxRecDepth 20000 in
theorem okpX12_coin (ev : xEv) : ∀ q ∈ pX12_coin ev, xEnOK ev xmi yX12_coin.cls yX12_coin.name cX12_coin 1 (some .int) q :=
  List.forall_mem_cons.mpr ⟨(xOK_pure (xs_aload_n (k := 0) rfl (show decode cX12_coin 0 = .ok (.aload_n 0, 1) by decide +kernel))),
  List.forall_mem_cons.mpr ⟨(xOK_pure (xs_iconst (n := 0) (show decode cX12_coin 1 = .ok (.iconst 0, 1) by decide +kernel) (by decide))),
  List.forall_mem_cons.mpr ⟨(xs_putf (k := 47) xcl_12 (by decide) rfl (show decode cX12_coin 2 = .ok (.putfield 140, 3) by decide +kernel) xw_1756),
  List.forall_mem_cons.mpr ⟨(xOK_pure (xs_aload_n (k := 0) rfl (show decode cX12_coin 5 = .ok (.aload_n 0, 1) by decide +kernel))),
  List.forall_mem_cons.mpr ⟨(xcm mi_275 ⟨⟨(by decide +kernel), (by decide +kernel), (by decide +kernel)⟩, (by decide), xw_2265, xw_125, Or.inl ⟨rfl, _, _, _, _, (show decode cX12_coin 6 = .ok (.invokevirtual 407, 3) by decide +kernel), xw_2262, xw_2264, xw_104, rfl⟩⟩),
  List.forall_mem_cons.mpr ⟨(Or.inr (Or.inl ⟨rfl, (show decode cX12_coin 9 = .ok (.ireturn, 1) by decide +kernel), rfl⟩)),
  (fun _ h => absurd h List.not_mem_nil)⟩⟩⟩⟩⟩⟩
theorem omX12_coin (ev : xEv) : xMethOK ev xmi yX12_coin.cls yX12_coin.name 276 (pX12_coin ev) := xMethOK.of mi_276 (by decide +kernel) (okpX12_coin ev)
def pX12_isDown (ev : xEv) : List (Nat × xEn) := [(0, .inl (xop (xf_aload 0 1))), (1, .inl (xop (xf_iload 1 1))), (2, .inr (.inl (0, 192, 1, 12))), (5, .inl (xop (xf_if_eq 22))), (8, .inl (xop (xf_aload 0 1))), (9, .inl (xop (xf_iload 1 1))), (10, .inl (xop (xf_push (.int 3) 1))), (11, .inr (.inl (0, 195, 2, 12))), (14, .inl (xop (xf_push (.int 1) 1))), (15, .inl (xop (xf_icmp_ne 22))), (18, .inl (xop (xf_push (.int 1) 1))), (19, .inl (xop (xf_goto 23))), (22, .inl (xop (xf_push (.int 0) 1))), (23, .inr (.inr 4))]
set_option maxRecDepth 20000 in
theorem okpX12_isDown (ev : xEv) : ∀ q ∈ pX12_isDown ev, xEnOK ev xmi yX12_isDown.cls yX12_isDown.name cX12_isDown 2 (some .boolean) q :=
  List.forall_mem_cons.mpr ⟨(xOK_pure (xs_aload_n (k := 0) rfl (show decode cX12_isDown 0 = .ok (.aload_n 0, 1) by decide +kernel))),
  List.forall_mem_cons.mpr ⟨(xOK_pure (xs_iload_n (k := 1) rfl (show decode cX12_isDown 1 = .ok (.iload_n 1, 1) by decide +kernel))),
  List.forall_mem_cons.mpr ⟨(xcm mi_192 ⟨⟨(by decide +kernel), (by decide +kernel), (by decide +kernel)⟩, (by decide), xw_1993, xw_125, Or.inl ⟨rfl, _, _, _, _, (show decode cX12_isDown 2 = .ok (.invokevirtual 203, 3) by decide +kernel), xw_1990, xw_1992, xw_61, rfl⟩⟩),
  List.forall_mem_cons.mpr ⟨(xOK_pure (xs_if_eq (show decode cX12_isDown 5 = .ok (.ifCond .eq 17, 3) by decide +kernel) (by decide))),
  List.forall_mem_cons.mpr ⟨(xOK_pure (xs_aload_n (k := 0) rfl (show decode cX12_isDown 8 = .ok (.aload_n 0, 1) by decide +kernel))),
  List.forall_mem_cons.mpr ⟨(xOK_pure (xs_iload_n (k := 1) rfl (show decode cX12_isDown 9 = .ok (.iload_n 1, 1) by decide +kernel))),
  List.forall_mem_cons.mpr ⟨(xOK_pure (xs_iconst (n := 3) (show decode cX12_isDown 10 = .ok (.iconst 3, 1) by decide +kernel) (by decide))),
  List.forall_mem_cons.mpr ⟨(xcm mi_195 ⟨⟨(by decide +kernel), (by decide +kernel), (by decide +kernel)⟩, (by decide), xw_2161, xw_125, Or.inl ⟨rfl, _, _, _, _, (show decode cX12_isDown 11 = .ok (.invokevirtual 344, 3) by decide +kernel), xw_2158, xw_2160, xw_89, rfl⟩⟩),
  List.forall_mem_cons.mpr ⟨(xOK_pure (xs_iconst (n := 1) (show decode cX12_isDown 14 = .ok (.iconst 1, 1) by decide +kernel) (by decide))),
  List.forall_mem_cons.mpr ⟨(xOK_pure (xs_icmp_ne (show decode cX12_isDown 15 = .ok (.if_icmp .ne 7, 3) by decide +kernel) (by decide))),
  List.forall_mem_cons.mpr ⟨(xOK_pure (xs_iconst (n := 1) (show decode cX12_isDown 18 = .ok (.iconst 1, 1) by decide +kernel) (by decide))),
  List.forall_mem_cons.mpr ⟨(xOK_pure (xs_goto (show decode cX12_isDown 19 = .ok (.goto 4, 3) by decide +kernel) (by decide))),
  List.forall_mem_cons.mpr ⟨(xOK_pure (xs_iconst (n := 0) (show decode cX12_isDown 22 = .ok (.iconst 0, 1) by decide +kernel) (by decide))),
  List.forall_mem_cons.mpr ⟨(Or.inr (Or.inr (Or.inr (Or.inr (Or.inl ⟨rfl, (show decode cX12_isDown 23 = .ok (.ireturn, 1) by decide +kernel), rfl⟩))))),
  (fun _ h => absurd h List.not_mem_nil)⟩⟩⟩⟩⟩⟩⟩⟩⟩⟩⟩⟩⟩⟩
theorem omX12_isDown (ev : xEv) : xMethOK ev xmi yX12_isDown.cls yX12_isDown.name 277 (pX12_isDown ev) := xMethOK.of mi_277 (by decide +kernel) (okpX12_isDown ev)
def pX12_find_0 (ev : xEv) : List (Nat × xEn) := [(0, .inl (xop (xf_aload 0 1))), (1, .inl (xop (xf_push (.int 0) 1))), (2, .inl (xo_putf 12 47 .int)), (5, .inl (xop (xf_aload 0 1))), (6, .inl (xop (xf_iload 1 1))), (7, .inr (.inl (0, 277, 1, 12))), (10, .inl (xop (xf_if_ne 15))), (13, .inl (xop (xf_push (.int (-1)) 1))), (14, .inr (.inr 1)), (15, .inl (xop (xf_aload 0 1))), (16, .inl (xop (xf_iload 1 1))), (17, .inl (xop (xf_push (.int 1) 1))), (18, .inr (.inl (0, 195, 2, 12))), (21, .inl (xop (xf_istore 2 1))), (22, .inl (xop (xf_aload 0 1))), (23, .inl (xop (xf_iload 1 1))), (24, .inl (xop (xf_push (.int 2) 1))), (25, .inl (xop (xf_aload 0 1))), (26, .inl (xop (xf_iload 1 1))), (27, .inl (xop (xf_push (.int 2) 1)))]
set_option maxRecDepth 20000 in
theorem okpX12_find_0 (ev : xEv) : ∀ q ∈ pX12_find_0 ev, xEnOK ev xmi yX12_find.cls yX12_find.name cX12_find 3 (some .int) q :=
  List.forall_mem_cons.mpr ⟨(xOK_pure (xs_aload_n (k := 0) rfl (show decode cX12_find 0 = .ok (.aload_n 0, 1) by decide +kernel))),
  List.forall_mem_cons.mpr ⟨(xOK_pure (xs_iconst (n := 0) (show decode cX12_find 1 = .ok (.iconst 0, 1) by decide +kernel) (by decide))),
  List.forall_mem_cons.mpr ⟨(xs_putf (k := 47) xcl_12 (by decide) rfl (show decode cX12_find 2 = .ok (.putfield 140, 3) by decide +kernel) xw_1756),
  List.forall_mem_cons.mpr ⟨(xOK_pure (xs_aload_n (k := 0) rfl (show decode cX12_find 5 = .ok (.aload_n 0, 1) by decide +kernel))),
  List.forall_mem_cons.mpr ⟨(xOK_pure (xs_iload_n (k := 1) rfl (show decode cX12_find 6 = .ok (.iload_n 1, 1) by decide +kernel))),
  List.forall_mem_cons.mpr ⟨(xcm mi_277 ⟨⟨(by decide +kernel), (by decide +kernel), (by decide +kernel)⟩, (by decide), xw_2273, xw_125, Or.inl ⟨rfl, _, _, _, _, (show decode cX12_find 7 = .ok (.invokevirtual 410, 3) by decide +kernel), xw_2270, xw_2272, xw_105, rfl⟩⟩),
  List.forall_mem_cons.mpr ⟨(xOK_pure (xs_if_ne (show decode cX12_find 10 = .ok (.ifCond .ne 5, 3) by decide +kernel) (by decide))),
  List.forall_mem_cons.mpr ⟨(xOK_pure (xs_iconst (n := (-1)) (show decode cX12_find 13 = .ok (.iconst (-1), 1) by decide +kernel) (by decide))),
  List.forall_mem_cons.mpr ⟨(Or.inr (Or.inl ⟨rfl, (show decode cX12_find 14 = .ok (.ireturn, 1) by decide +kernel), rfl⟩)),
  List.forall_mem_cons.mpr ⟨(xOK_pure (xs_aload_n (k := 0) rfl (show decode cX12_find 15 = .ok (.aload_n 0, 1) by decide +kernel))),
  List.forall_mem_cons.mpr ⟨(xOK_pure (xs_iload_n (k := 1) rfl (show decode cX12_find 16 = .ok (.iload_n 1, 1) by decide +kernel))),
  List.forall_mem_cons.mpr ⟨(xOK_pure (xs_iconst (n := 1) (show decode cX12_find 17 = .ok (.iconst 1, 1) by decide +kernel) (by decide))),
  List.forall_mem_cons.mpr ⟨(xcm mi_195 ⟨⟨(by decide +kernel), (by decide +kernel), (by decide +kernel)⟩, (by decide), xw_2161, xw_125, Or.inl ⟨rfl, _, _, _, _, (show decode cX12_find 18 = .ok (.invokevirtual 344, 3) by decide +kernel), xw_2158, xw_2160, xw_89, rfl⟩⟩),
  List.forall_mem_cons.mpr ⟨(xOK_pure (xs_istore_n (k := 2) rfl (show decode cX12_find 21 = .ok (.istore_n 2, 1) by decide +kernel) (by decide))),
  List.forall_mem_cons.mpr ⟨(xOK_pure (xs_aload_n (k := 0) rfl (show decode cX12_find 22 = .ok (.aload_n 0, 1) by decide +kernel))),
  List.forall_mem_cons.mpr ⟨(xOK_pure (xs_iload_n (k := 1) rfl (show decode cX12_find 23 = .ok (.iload_n 1, 1) by decide +kernel))),
  List.forall_mem_cons.mpr ⟨(xOK_pure (xs_iconst (n := 2) (show decode cX12_find 24 = .ok (.iconst 2, 1) by decide +kernel) (by decide))),
  List.forall_mem_cons.mpr ⟨(xOK_pure (xs_aload_n (k := 0) rfl (show decode cX12_find 25 = .ok (.aload_n 0, 1) by decide +kernel))),
  List.forall_mem_cons.mpr ⟨(xOK_pure (xs_iload_n (k := 1) rfl (show decode cX12_find 26 = .ok (.iload_n 1, 1) by decide +kernel))),
  List.forall_mem_cons.mpr ⟨(xOK_pure (xs_iconst (n := 2) (show decode cX12_find 27 = .ok (.iconst 2, 1) by decide +kernel) (by decide))),
  (fun _ h => absurd h List.not_mem_nil)⟩⟩⟩⟩⟩⟩⟩⟩⟩⟩⟩⟩⟩⟩⟩⟩⟩⟩⟩⟩
def pX12_find_1 (ev : xEv) : List (Nat × xEn) := [(28, .inr (.inl (0, 195, 2, 12))), (31, .inl (xop (xf_bin (fun x y => x * y)))), (32, .inl (xop (xf_aload 0 1))), (33, .inl (xop (xf_getf 12 4))), (36, .inl (xop (xf_iload 2 1))), (37, .inl (xop (xf_ald (ev.1 0)))), (38, .inl (xop (xf_icmp_gt 50))), (41, .inl (xop (xf_aload 0 1))), (42, .inl (xop (xf_getf 12 2))), (45, .inl (xop (xf_iload 2 1))), (46, .inl (xop (xf_ald (ev.1 0)))), (47, .inl (xop (xf_goto 56))), (50, .inl (xop (xf_aload 0 1))), (51, .inl (xop (xf_getf 12 3))), (54, .inl (xop (xf_iload 2 1))), (55, .inl (xop (xf_ald (ev.1 0)))), (56, .inr (.inl (0, 257, 2, 12))), (59, .inl (xop (xf_aload 0 1))), (60, .inl (xop (xf_iload 1 1))), (61, .inl (xop (xf_push (.int 0) 1)))]
set_option maxRecDepth 20000 in
theorem okpX12_find_1 (ev : xEv) : ∀ q ∈ pX12_find_1 ev, xEnOK ev xmi yX12_find.cls yX12_find.name cX12_find 3 (some .int) q :=
  List.forall_mem_cons.mpr ⟨(xcm mi_195 ⟨⟨(by decide +kernel), (by decide +kernel), (by decide +kernel)⟩, (by decide), xw_2161, xw_125, Or.inl ⟨rfl, _, _, _, _, (show decode cX12_find 28 = .ok (.invokevirtual 344, 3) by decide +kernel), xw_2158, xw_2160, xw_89, rfl⟩⟩),
  List.forall_mem_cons.mpr ⟨(xOK_pure (xs_imul (show decode cX12_find 31 = .ok (.imul, 1) by decide +kernel))),
  List.forall_mem_cons.mpr ⟨(xOK_pure (xs_aload_n (k := 0) rfl (show decode cX12_find 32 = .ok (.aload_n 0, 1) by decide +kernel))),
  List.forall_mem_cons.mpr ⟨(xOK_pure (xs_getf xcl_12 (by decide) (show decode cX12_find 33 = .ok (.getfield 19, 3) by decide +kernel) xw_1713)),
  List.forall_mem_cons.mpr ⟨(xOK_pure (xs_iload_n (k := 2) rfl (show decode cX12_find 36 = .ok (.iload_n 2, 1) by decide +kernel))),
  List.forall_mem_cons.mpr ⟨(xOK_pure (xs_iald (show decode cX12_find 37 = .ok (.iaload, 1) by decide +kernel))),
  List.forall_mem_cons.mpr ⟨(xOK_pure (xs_icmp_gt (show decode cX12_find 38 = .ok (.if_icmp .gt 12, 3) by decide +kernel) (by decide))),
  List.forall_mem_cons.mpr ⟨(xOK_pure (xs_aload_n (k := 0) rfl (show decode cX12_find 41 = .ok (.aload_n 0, 1) by decide +kernel))),
  List.forall_mem_cons.mpr ⟨(xOK_pure (xs_getf xcl_12 (by decide) (show decode cX12_find 42 = .ok (.getfield 13, 3) by decide +kernel) xw_1711)),
  List.forall_mem_cons.mpr ⟨(xOK_pure (xs_iload_n (k := 2) rfl (show decode cX12_find 45 = .ok (.iload_n 2, 1) by decide +kernel))),
  List.forall_mem_cons.mpr ⟨(xOK_pure (xs_iald (show decode cX12_find 46 = .ok (.iaload, 1) by decide +kernel))),
  List.forall_mem_cons.mpr ⟨(xOK_pure (xs_goto (show decode cX12_find 47 = .ok (.goto 9, 3) by decide +kernel) (by decide))),
  List.forall_mem_cons.mpr ⟨(xOK_pure (xs_aload_n (k := 0) rfl (show decode cX12_find 50 = .ok (.aload_n 0, 1) by decide +kernel))),
  List.forall_mem_cons.mpr ⟨(xOK_pure (xs_getf xcl_12 (by decide) (show decode cX12_find 51 = .ok (.getfield 16, 3) by decide +kernel) xw_1712)),
  List.forall_mem_cons.mpr ⟨(xOK_pure (xs_iload_n (k := 2) rfl (show decode cX12_find 54 = .ok (.iload_n 2, 1) by decide +kernel))),
  List.forall_mem_cons.mpr ⟨(xOK_pure (xs_iald (show decode cX12_find 55 = .ok (.iaload, 1) by decide +kernel))),
  List.forall_mem_cons.mpr ⟨(xcm mi_257 ⟨⟨(by decide +kernel), (by decide +kernel), (by decide +kernel)⟩, (by decide), xw_2209, xw_125, Or.inl ⟨rfl, _, _, _, _, (show decode cX12_find 56 = .ok (.invokevirtual 369, 3) by decide +kernel), xw_2206, xw_2208, xw_100, rfl⟩⟩),
  List.forall_mem_cons.mpr ⟨(xOK_pure (xs_aload_n (k := 0) rfl (show decode cX12_find 59 = .ok (.aload_n 0, 1) by decide +kernel))),
  List.forall_mem_cons.mpr ⟨(xOK_pure (xs_iload_n (k := 1) rfl (show decode cX12_find 60 = .ok (.iload_n 1, 1) by decide +kernel))),
  List.forall_mem_cons.mpr ⟨(xOK_pure (xs_iconst (n := 0) (show decode cX12_find 61 = .ok (.iconst 0, 1) by decide +kernel) (by decide))),
  (fun _ h => absurd h List.not_mem_nil)⟩⟩⟩⟩⟩⟩⟩⟩⟩⟩⟩⟩⟩⟩⟩⟩⟩⟩⟩⟩
def pX12_find_2 (ev : xEv) : List (Nat × xEn) := [(62, .inr (.inl (0, 195, 2, 12))), (65, .inr (.inr 1))]
set_option maxRecDepth 20000 in
theorem okpX12_find_2 (ev : xEv) : ∀ q ∈ pX12_find_2 ev, xEnOK ev xmi yX12_find.cls yX12_find.name cX12_find 3 (some .int) q :=
  List.forall_mem_cons.mpr ⟨(xcm mi_195 ⟨⟨(by decide +kernel), (by decide +kernel), (by decide +kernel)⟩, (by decide), xw_2161, xw_125, Or.inl ⟨rfl, _, _, _, _, (show decode cX12_find 62 = .ok (.invokevirtual 344, 3) by decide +kernel), xw_2158, xw_2160, xw_89, rfl⟩⟩),
  List.forall_mem_cons.mpr ⟨(Or.inr (Or.inl ⟨rfl, (show decode cX12_find 65 = .ok (.ireturn, 1) by decide +kernel), rfl⟩)),
  (fun _ h => absurd h List.not_mem_nil)⟩⟩
def pX12_find (ev : xEv) : List (Nat × xEn) := pX12_find_0 ev ++ (pX12_find_1 ev ++ (pX12_find_2 ev))
theorem okpX12_find (ev : xEv) : ∀ q ∈ pX12_find ev, xEnOK ev xmi yX12_find.cls yX12_find.name cX12_find 3 (some .int) q := List.forall_mem_append.mpr ⟨okpX12_find_0 ev, List.forall_mem_append.mpr ⟨okpX12_find_1 ev, okpX12_find_2 ev⟩⟩
theorem omX12_find (ev : xEv) : xMethOK ev xmi yX12_find.cls yX12_find.name 278 (pX12_find ev) := xMethOK.of mi_278 (by decide +kernel) (okpX12_find ev)
def pX12_cells (ev : xEv) : List (Nat × xEn) := [(0, .inl (xop (xf_aload 0 1))), (1, .inl (xop (xf_getf 12 4))), (4, .inl (xop (xf_aload 0 1))), (5, .inl (xop (xf_iload 1 1))), (6, .inl (xop (xf_push (.int 1) 1))), (7, .inr (.inl (0, 195, 2, 12))), (10, .inl (xop (xf_ald (ev.1 0)))), (11, .inl (xop (xf_push (.int 10) 2))), (13, .inl (xop (xf_div (fun x y => x / y)))), (14, .inl (xop (xf_push (.int 1) 1))), (15, .inl (xop (xf_bin (fun x y => x + y)))), (16, .inr (.inr 1))]
set_option maxRecDepth 20000 in
theorem okpX12_cells (ev : xEv) : ∀ q ∈ pX12_cells ev, xEnOK ev xmi yX12_cells.cls yX12_cells.name cX12_cells 2 (some .int) q :=
  List.forall_mem_cons.mpr ⟨(xOK_pure (xs_aload_n (k := 0) rfl (show decode cX12_cells 0 = .ok (.aload_n 0, 1) by decide +kernel))),
  List.forall_mem_cons.mpr ⟨(xOK_pure (xs_getf xcl_12 (by decide) (show decode cX12_cells 1 = .ok (.getfield 19, 3) by decide +kernel) xw_1713)),
  List.forall_mem_cons.mpr ⟨(xOK_pure (xs_aload_n (k := 0) rfl (show decode cX12_cells 4 = .ok (.aload_n 0, 1) by decide +kernel))),
  List.forall_mem_cons.mpr ⟨(xOK_pure (xs_iload_n (k := 1) rfl (show decode cX12_cells 5 = .ok (.iload_n 1, 1) by decide +kernel))),
  List.forall_mem_cons.mpr ⟨(xOK_pure (xs_iconst (n := 1) (show decode cX12_cells 6 = .ok (.iconst 1, 1) by decide +kernel) (by decide))),
  List.forall_mem_cons.mpr ⟨(xcm mi_195 ⟨⟨(by decide +kernel), (by decide +kernel), (by decide +kernel)⟩, (by decide), xw_2161, xw_125, Or.inl ⟨rfl, _, _, _, _, (show decode cX12_cells 7 = .ok (.invokevirtual 344, 3) by decide +kernel), xw_2158, xw_2160, xw_89, rfl⟩⟩),
  List.forall_mem_cons.mpr ⟨(xOK_pure (xs_iald (show decode cX12_cells 10 = .ok (.iaload, 1) by decide +kernel))),
  List.forall_mem_cons.mpr ⟨(xOK_pure (xs_bipush (n := 10) (show decode cX12_cells 11 = .ok (.bipush 10, 2) by decide +kernel) (by decide))),
  List.forall_mem_cons.mpr ⟨(xOK_pure (xs_idiv (show decode cX12_cells 13 = .ok (.idiv, 1) by decide +kernel))),
  List.forall_mem_cons.mpr ⟨(xOK_pure (xs_iconst (n := 1) (show decode cX12_cells 14 = .ok (.iconst 1, 1) by decide +kernel) (by decide))),
  List.forall_mem_cons.mpr ⟨(xOK_pure (xs_iadd (show decode cX12_cells 15 = .ok (.iadd, 1) by decide +kernel))),
  List.forall_mem_cons.mpr ⟨(Or.inr (Or.inl ⟨rfl, (show decode cX12_cells 16 = .ok (.ireturn, 1) by decide +kernel), rfl⟩)),
  (fun _ h => absurd h List.not_mem_nil)⟩⟩⟩⟩⟩⟩⟩⟩⟩⟩⟩⟩
theorem omX12_cells (ev : xEv) : xMethOK ev xmi yX12_cells.cls yX12_cells.name 279 (pX12_cells ev) := xMethOK.of mi_279 (by decide +kernel) (okpX12_cells ev)
def pX12_look_0 (ev : xEv) : List (Nat × xEn) := [(0, .inl (xop (xf_aload 0 1))), (1, .inl (xop (xf_push (.int 0) 1))), (2, .inl (xo_putf 12 47 .int)), (5, .inl (xop (xf_aload 0 1))), (6, .inl (xop (xf_iload 1 1))), (7, .inr (.inl (0, 277, 1, 12))), (10, .inl (xop (xf_if_eq 49))), (13, .inl (xop (xf_iload 2 1))), (14, .inl (xop (xf_push (.int 0) 1))), (15, .inl (xop (xf_aload 0 1))), (16, .inl (xop (xf_iload 1 1))), (17, .inr (.inl (0, 279, 1, 12))), (20, .inl (xop (xf_push (.int 1) 1))), (21, .inl (xop (xf_bin (fun x y => x - y)))), (22, .inr (.inl (1, 188, 3, 12))), (25, .inl (xop (xf_if_eq 49))), (28, .inl (xop (xf_iload 3 1))), (29, .inl (xop (xf_push (.int 1) 1))), (30, .inl (xop (xf_push (.int 99) 2))), (32, .inr (.inl (1, 188, 3, 12)))]
set_option maxRecDepth 20000 in
theorem okpX12_look_0 (ev : xEv) : ∀ q ∈ pX12_look_0 ev, xEnOK ev xmi yX12_look.cls yX12_look.name cX12_look 5 (some .int) q :=
  List.forall_mem_cons.mpr ⟨(xOK_pure (xs_aload_n (k := 0) rfl (show decode cX12_look 0 = .ok (.aload_n 0, 1) by decide +kernel))),
  List.forall_mem_cons.mpr ⟨(xOK_pure (xs_iconst (n := 0) (show decode cX12_look 1 = .ok (.iconst 0, 1) by decide +kernel) (by decide))),
  List.forall_mem_cons.mpr ⟨(xs_putf (k := 47) xcl_12 (by decide) rfl (show decode cX12_look 2 = .ok (.putfield 140, 3) by decide +kernel) xw_1756),
  List.forall_mem_cons.mpr ⟨(xOK_pure (xs_aload_n (k := 0) rfl (show decode cX12_look 5 = .ok (.aload_n 0, 1) by decide +kernel))),
  List.forall_mem_cons.mpr ⟨(xOK_pure (xs_iload_n (k := 1) rfl (show decode cX12_look 6 = .ok (.iload_n 1, 1) by decide +kernel))),
  List.forall_mem_cons.mpr ⟨(xcm mi_277 ⟨⟨(by decide +kernel), (by decide +kernel), (by decide +kernel)⟩, (by decide), xw_2273, xw_125, Or.inl ⟨rfl, _, _, _, _, (show decode cX12_look 7 = .ok (.invokevirtual 410, 3) by decide +kernel), xw_2270, xw_2272, xw_105, rfl⟩⟩),
  List.forall_mem_cons.mpr ⟨(xOK_pure (xs_if_eq (show decode cX12_look 10 = .ok (.ifCond .eq 39, 3) by decide +kernel) (by decide))),
  List.forall_mem_cons.mpr ⟨(xOK_pure (xs_iload_n (k := 2) rfl (show decode cX12_look 13 = .ok (.iload_n 2, 1) by decide +kernel))),
  List.forall_mem_cons.mpr ⟨(xOK_pure (xs_iconst (n := 0) (show decode cX12_look 14 = .ok (.iconst 0, 1) by decide +kernel) (by decide))),
  List.forall_mem_cons.mpr ⟨(xOK_pure (xs_aload_n (k := 0) rfl (show decode cX12_look 15 = .ok (.aload_n 0, 1) by decide +kernel))),
  List.forall_mem_cons.mpr ⟨(xOK_pure (xs_iload_n (k := 1) rfl (show decode cX12_look 16 = .ok (.iload_n 1, 1) by decide +kernel))),
  List.forall_mem_cons.mpr ⟨(xcm mi_279 ⟨⟨(by decide +kernel), (by decide +kernel), (by decide +kernel)⟩, (by decide), xw_2281, xw_125, Or.inl ⟨rfl, _, _, _, _, (show decode cX12_look 17 = .ok (.invokevirtual 413, 3) by decide +kernel), xw_2278, xw_2280, xw_106, rfl⟩⟩),
  List.forall_mem_cons.mpr ⟨(xOK_pure (xs_iconst (n := 1) (show decode cX12_look 20 = .ok (.iconst 1, 1) by decide +kernel) (by decide))),
  List.forall_mem_cons.mpr ⟨(xOK_pure (xs_isub (show decode cX12_look 21 = .ok (.isub, 1) by decide +kernel))),
  List.forall_mem_cons.mpr ⟨(xcm mi_188 ⟨⟨(by decide +kernel), (by decide +kernel), (by decide +kernel)⟩, (by decide), xw_1912, xw_125, Or.inr (Or.inl ⟨rfl, _, (show decode cX12_look 22 = .ok (.invokestatic 146, 3) by decide +kernel), xw_1910, xw_1911⟩)⟩),
  List.forall_mem_cons.mpr ⟨(xOK_pure (xs_if_eq (show decode cX12_look 25 = .ok (.ifCond .eq 24, 3) by decide +kernel) (by decide))),
  List.forall_mem_cons.mpr ⟨(xOK_pure (xs_iload_n (k := 3) rfl (show decode cX12_look 28 = .ok (.iload_n 3, 1) by decide +kernel))),
  List.forall_mem_cons.mpr ⟨(xOK_pure (xs_iconst (n := 1) (show decode cX12_look 29 = .ok (.iconst 1, 1) by decide +kernel) (by decide))),
  List.forall_mem_cons.mpr ⟨(xOK_pure (xs_bipush (n := 99) (show decode cX12_look 30 = .ok (.bipush 99, 2) by decide +kernel) (by decide))),
  List.forall_mem_cons.mpr ⟨(xcm mi_188 ⟨⟨(by decide +kernel), (by decide +kernel), (by decide +kernel)⟩, (by decide), xw_1912, xw_125, Or.inr (Or.inl ⟨rfl, _, (show decode cX12_look 32 = .ok (.invokestatic 146, 3) by decide +kernel), xw_1910, xw_1911⟩)⟩),
  (fun _ h => absurd h List.not_mem_nil)⟩⟩⟩⟩⟩⟩⟩⟩⟩⟩⟩⟩⟩⟩⟩⟩⟩⟩⟩⟩
def pX12_look_1 (ev : xEv) : List (Nat × xEn) := [(35, .inl (xop (xf_if_eq 49))), (38, .inl (xop (xf_aload 0 1))), (39, .inl (xop (xf_iload 1 1))), (40, .inl (xop (xf_push (.int 14) 2))), (42, .inr (.inl (0, 195, 2, 12))), (45, .inl (xop (xf_push (.int 4) 1))), (46, .inl (xop (xf_icmp_ne 51))), (49, .inl (xop (xf_push (.int (-1)) 1))), (50, .inr (.inr 1)), (51, .inl (xop (xf_aload 0 1))), (52, .inl (xop (xf_iload 1 1))), (53, .inl (xop (xf_push (.int 14) 2))), (55, .inr (.inl (0, 195, 2, 12))), (58, .inl (xop (xf_istore 4 2))), (60, .inl (xop (xf_aload 0 1))), (61, .inl (xop (xf_iload 1 1))), (62, .inl (xop (xf_push (.int 15) 2))), (64, .inl (xop (xf_push (.int 2) 1))), (65, .inl (xop (xf_iload 4 2))), (67, .inl (xop (xf_bin (fun x y => x * y))))]
set_option maxRecDepth 20000 in
theorem okpX12_look_1 (ev : xEv) : ∀ q ∈ pX12_look_1 ev, xEnOK ev xmi yX12_look.cls yX12_look.name cX12_look 5 (some .int) q :=
  List.forall_mem_cons.mpr ⟨(xOK_pure (xs_if_eq (show decode cX12_look 35 = .ok (.ifCond .eq 14, 3) by decide +kernel) (by decide))),
  List.forall_mem_cons.mpr ⟨(xOK_pure (xs_aload_n (k := 0) rfl (show decode cX12_look 38 = .ok (.aload_n 0, 1) by decide +kernel))),
  List.forall_mem_cons.mpr ⟨(xOK_pure (xs_iload_n (k := 1) rfl (show decode cX12_look 39 = .ok (.iload_n 1, 1) by decide +kernel))),
  List.forall_mem_cons.mpr ⟨(xOK_pure (xs_bipush (n := 14) (show decode cX12_look 40 = .ok (.bipush 14, 2) by decide +kernel) (by decide))),
  List.forall_mem_cons.mpr ⟨(xcm mi_195 ⟨⟨(by decide +kernel), (by decide +kernel), (by decide +kernel)⟩, (by decide), xw_2161, xw_125, Or.inl ⟨rfl, _, _, _, _, (show decode cX12_look 42 = .ok (.invokevirtual 344, 3) by decide +kernel), xw_2158, xw_2160, xw_89, rfl⟩⟩),
  List.forall_mem_cons.mpr ⟨(xOK_pure (xs_iconst (n := 4) (show decode cX12_look 45 = .ok (.iconst 4, 1) by decide +kernel) (by decide))),
  List.forall_mem_cons.mpr ⟨(xOK_pure (xs_icmp_ne (show decode cX12_look 46 = .ok (.if_icmp .ne 5, 3) by decide +kernel) (by decide))),
  List.forall_mem_cons.mpr ⟨(xOK_pure (xs_iconst (n := (-1)) (show decode cX12_look 49 = .ok (.iconst (-1), 1) by decide +kernel) (by decide))),
  List.forall_mem_cons.mpr ⟨(Or.inr (Or.inl ⟨rfl, (show decode cX12_look 50 = .ok (.ireturn, 1) by decide +kernel), rfl⟩)),
  List.forall_mem_cons.mpr ⟨(xOK_pure (xs_aload_n (k := 0) rfl (show decode cX12_look 51 = .ok (.aload_n 0, 1) by decide +kernel))),
  List.forall_mem_cons.mpr ⟨(xOK_pure (xs_iload_n (k := 1) rfl (show decode cX12_look 52 = .ok (.iload_n 1, 1) by decide +kernel))),
  List.forall_mem_cons.mpr ⟨(xOK_pure (xs_bipush (n := 14) (show decode cX12_look 53 = .ok (.bipush 14, 2) by decide +kernel) (by decide))),
  List.forall_mem_cons.mpr ⟨(xcm mi_195 ⟨⟨(by decide +kernel), (by decide +kernel), (by decide +kernel)⟩, (by decide), xw_2161, xw_125, Or.inl ⟨rfl, _, _, _, _, (show decode cX12_look 55 = .ok (.invokevirtual 344, 3) by decide +kernel), xw_2158, xw_2160, xw_89, rfl⟩⟩),
  List.forall_mem_cons.mpr ⟨(xOK_pure (xs_istore (show decode cX12_look 58 = .ok (.istore 4, 2) by decide +kernel) (by decide))),
  List.forall_mem_cons.mpr ⟨(xOK_pure (xs_aload_n (k := 0) rfl (show decode cX12_look 60 = .ok (.aload_n 0, 1) by decide +kernel))),
  List.forall_mem_cons.mpr ⟨(xOK_pure (xs_iload_n (k := 1) rfl (show decode cX12_look 61 = .ok (.iload_n 1, 1) by decide +kernel))),
  List.forall_mem_cons.mpr ⟨(xOK_pure (xs_bipush (n := 15) (show decode cX12_look 62 = .ok (.bipush 15, 2) by decide +kernel) (by decide))),
  List.forall_mem_cons.mpr ⟨(xOK_pure (xs_iconst (n := 2) (show decode cX12_look 64 = .ok (.iconst 2, 1) by decide +kernel) (by decide))),
  List.forall_mem_cons.mpr ⟨(xOK_pure (xs_iload (show decode cX12_look 65 = .ok (.iload 4, 2) by decide +kernel))),
  List.forall_mem_cons.mpr ⟨(xOK_pure (xs_imul (show decode cX12_look 67 = .ok (.imul, 1) by decide +kernel))),
  (fun _ h => absurd h List.not_mem_nil)⟩⟩⟩⟩⟩⟩⟩⟩⟩⟩⟩⟩⟩⟩⟩⟩⟩⟩⟩⟩
def pX12_look_2 (ev : xEv) : List (Nat × xEn) := [(68, .inl (xop (xf_bin (fun x y => x + y)))), (69, .inl (xop (xf_iload 2 1))), (70, .inr (.inl (0, 196, 3, 12))), (73, .inl (xop (xf_aload 0 1))), (74, .inl (xop (xf_iload 1 1))), (75, .inl (xop (xf_push (.int 15) 2))), (77, .inl (xop (xf_push (.int 2) 1))), (78, .inl (xop (xf_iload 4 2))), (80, .inl (xop (xf_bin (fun x y => x * y)))), (81, .inl (xop (xf_bin (fun x y => x + y)))), (82, .inl (xop (xf_push (.int 1) 1))), (83, .inl (xop (xf_bin (fun x y => x + y)))), (84, .inl (xop (xf_iload 3 1))), (85, .inr (.inl (0, 196, 3, 12))), (88, .inl (xop (xf_aload 0 1))), (89, .inl (xop (xf_iload 1 1))), (90, .inl (xop (xf_push (.int 14) 2))), (92, .inl (xop (xf_iload 4 2))), (94, .inl (xop (xf_push (.int 1) 1))), (95, .inl (xop (xf_bin (fun x y => x + y))))]
set_option maxRecDepth 20000 in
theorem okpX12_look_2 (ev : xEv) : ∀ q ∈ pX12_look_2 ev, xEnOK ev xmi yX12_look.cls yX12_look.name cX12_look 5 (some .int) q :=
  List.forall_mem_cons.mpr ⟨(xOK_pure (xs_iadd (show decode cX12_look 68 = .ok (.iadd, 1) by decide +kernel))),
  List.forall_mem_cons.mpr ⟨(xOK_pure (xs_iload_n (k := 2) rfl (show decode cX12_look 69 = .ok (.iload_n 2, 1) by decide +kernel))),
  List.forall_mem_cons.mpr ⟨(xcm mi_196 ⟨⟨(by decide +kernel), (by decide +kernel), (by decide +kernel)⟩, (by decide), xw_1985, xw_125, Or.inl ⟨rfl, _, _, _, _, (show decode cX12_look 70 = .ok (.invokevirtual 199, 3) by decide +kernel), xw_1982, xw_1984, xw_60, rfl⟩⟩),
  List.forall_mem_cons.mpr ⟨(xOK_pure (xs_aload_n (k := 0) rfl (show decode cX12_look 73 = .ok (.aload_n 0, 1) by decide +kernel))),
  List.forall_mem_cons.mpr ⟨(xOK_pure (xs_iload_n (k := 1) rfl (show decode cX12_look 74 = .ok (.iload_n 1, 1) by decide +kernel))),
  List.forall_mem_cons.mpr ⟨(xOK_pure (xs_bipush (n := 15) (show decode cX12_look 75 = .ok (.bipush 15, 2) by decide +kernel) (by decide))),
  List.forall_mem_cons.mpr ⟨(xOK_pure (xs_iconst (n := 2) (show decode cX12_look 77 = .ok (.iconst 2, 1) by decide +kernel) (by decide))),
  List.forall_mem_cons.mpr ⟨(xOK_pure (xs_iload (show decode cX12_look 78 = .ok (.iload 4, 2) by decide +kernel))),
  List.forall_mem_cons.mpr ⟨(xOK_pure (xs_imul (show decode cX12_look 80 = .ok (.imul, 1) by decide +kernel))),
  List.forall_mem_cons.mpr ⟨(xOK_pure (xs_iadd (show decode cX12_look 81 = .ok (.iadd, 1) by decide +kernel))),
  List.forall_mem_cons.mpr ⟨(xOK_pure (xs_iconst (n := 1) (show decode cX12_look 82 = .ok (.iconst 1, 1) by decide +kernel) (by decide))),
  List.forall_mem_cons.mpr ⟨(xOK_pure (xs_iadd (show decode cX12_look 83 = .ok (.iadd, 1) by decide +kernel))),
  List.forall_mem_cons.mpr ⟨(xOK_pure (xs_iload_n (k := 3) rfl (show decode cX12_look 84 = .ok (.iload_n 3, 1) by decide +kernel))),
  List.forall_mem_cons.mpr ⟨(xcm mi_196 ⟨⟨(by decide +kernel), (by decide +kernel), (by decide +kernel)⟩, (by decide), xw_1985, xw_125, Or.inl ⟨rfl, _, _, _, _, (show decode cX12_look 85 = .ok (.invokevirtual 199, 3) by decide +kernel), xw_1982, xw_1984, xw_60, rfl⟩⟩),
  List.forall_mem_cons.mpr ⟨(xOK_pure (xs_aload_n (k := 0) rfl (show decode cX12_look 88 = .ok (.aload_n 0, 1) by decide +kernel))),
  List.forall_mem_cons.mpr ⟨(xOK_pure (xs_iload_n (k := 1) rfl (show decode cX12_look 89 = .ok (.iload_n 1, 1) by decide +kernel))),
  List.forall_mem_cons.mpr ⟨(xOK_pure (xs_bipush (n := 14) (show decode cX12_look 90 = .ok (.bipush 14, 2) by decide +kernel) (by decide))),
  List.forall_mem_cons.mpr ⟨(xOK_pure (xs_iload (show decode cX12_look 92 = .ok (.iload 4, 2) by decide +kernel))),
  List.forall_mem_cons.mpr ⟨(xOK_pure (xs_iconst (n := 1) (show decode cX12_look 94 = .ok (.iconst 1, 1) by decide +kernel) (by decide))),
  List.forall_mem_cons.mpr ⟨(xOK_pure (xs_iadd (show decode cX12_look 95 = .ok (.iadd, 1) by decide +kernel))),
  (fun _ h => absurd h List.not_mem_nil)⟩⟩⟩⟩⟩⟩⟩⟩⟩⟩⟩⟩⟩⟩⟩⟩⟩⟩⟩⟩
def pX12_look_3 (ev : xEv) : List (Nat × xEn) := [(96, .inr (.inl (0, 196, 3, 12))), (99, .inl (xop (xf_iload 4 2))), (101, .inl (xop (xf_push (.int 1) 1))), (102, .inl (xop (xf_bin (fun x y => x + y)))), (103, .inr (.inr 1))]
set_option maxRecDepth 20000 in
theorem okpX12_look_3 (ev : xEv) : ∀ q ∈ pX12_look_3 ev, xEnOK ev xmi yX12_look.cls yX12_look.name cX12_look 5 (some .int) q :=
  List.forall_mem_cons.mpr ⟨(xcm mi_196 ⟨⟨(by decide +kernel), (by decide +kernel), (by decide +kernel)⟩, (by decide), xw_1985, xw_125, Or.inl ⟨rfl, _, _, _, _, (show decode cX12_look 96 = .ok (.invokevirtual 199, 3) by decide +kernel), xw_1982, xw_1984, xw_60, rfl⟩⟩),
  List.forall_mem_cons.mpr ⟨(xOK_pure (xs_iload (show decode cX12_look 99 = .ok (.iload 4, 2) by decide +kernel))),
  List.forall_mem_cons.mpr ⟨(xOK_pure (xs_iconst (n := 1) (show decode cX12_look 101 = .ok (.iconst 1, 1) by decide +kernel) (by decide))),
  List.forall_mem_cons.mpr ⟨(xOK_pure (xs_iadd (show decode cX12_look 102 = .ok (.iadd, 1) by decide +kernel))),
  List.forall_mem_cons.mpr ⟨(Or.inr (Or.inl ⟨rfl, (show decode cX12_look 103 = .ok (.ireturn, 1) by decide +kernel), rfl⟩)),
  (fun _ h => absurd h List.not_mem_nil)⟩⟩⟩⟩⟩
def pX12_look (ev : xEv) : List (Nat × xEn) := pX12_look_0 ev ++ (pX12_look_1 ev ++ (pX12_look_2 ev ++ (pX12_look_3 ev)))
theorem okpX12_look (ev : xEv) : ∀ q ∈ pX12_look ev, xEnOK ev xmi yX12_look.cls yX12_look.name cX12_look 5 (some .int) q := List.forall_mem_append.mpr ⟨okpX12_look_0 ev, List.forall_mem_append.mpr ⟨okpX12_look_1 ev, List.forall_mem_append.mpr ⟨okpX12_look_2 ev, okpX12_look_3 ev⟩⟩⟩
theorem omX12_look (ev : xEv) : xMethOK ev xmi yX12_look.cls yX12_look.name 280 (pX12_look ev) := xMethOK.of mi_280 (by decide +kernel) (okpX12_look ev)
def pX12_share_0 (ev : xEv) : List (Nat × xEn) := [(0, .inl (xop (xf_aload 0 1))), (1, .inl (xop (xf_iload 1 1))), (2, .inl (xop (xf_push (.int 1) 1))), (3, .inr (.inl (0, 195, 2, 12))), (6, .inl (xop (xf_istore 3 1))), (7, .inl (xop (xf_push (.int 0) 1))), (8, .inl (xop (xf_istore 4 2))), (10, .inl (xop (xf_push (.int 0) 1))), (11, .inl (xop (xf_istore 5 2))), (13, .inl (xop (xf_push (.int 1) 1))), (14, .inl (xop (xf_istore 6 2))), (16, .inl (xop (xf_iload 6 2))), (18, .inl (xop (xf_aload 0 1))), (19, .inl (xop (xf_getf 12 19))), (22, .inl (xop (xf_iload 1 1))), (23, .inl (xop (xf_ald (ev.1 0)))), (24, .inl (xop (xf_icmp_gt 105))), (27, .inl (xop (xf_aload 0 1))), (28, .inl (xop (xf_getf 12 16))), (31, .inl (xop (xf_iload 1 1)))]
set_option maxRecDepth 20000 in
theorem okpX12_share_0 (ev : xEv) : ∀ q ∈ pX12_share_0 ev, xEnOK ev xmi yX12_share.cls yX12_share.name cX12_share 9 (some .long) q :=
  List.forall_mem_cons.mpr ⟨(xOK_pure (xs_aload_n (k := 0) rfl (show decode cX12_share 0 = .ok (.aload_n 0, 1) by decide +kernel))),
  List.forall_mem_cons.mpr ⟨(xOK_pure (xs_iload_n (k := 1) rfl (show decode cX12_share 1 = .ok (.iload_n 1, 1) by decide +kernel))),
  List.forall_mem_cons.mpr ⟨(xOK_pure (xs_iconst (n := 1) (show decode cX12_share 2 = .ok (.iconst 1, 1) by decide +kernel) (by decide))),
  List.forall_mem_cons.mpr ⟨(xcm mi_195 ⟨⟨(by decide +kernel), (by decide +kernel), (by decide +kernel)⟩, (by decide), xw_2161, xw_125, Or.inl ⟨rfl, _, _, _, _, (show decode cX12_share 3 = .ok (.invokevirtual 344, 3) by decide +kernel), xw_2158, xw_2160, xw_89, rfl⟩⟩),
  List.forall_mem_cons.mpr ⟨(xOK_pure (xs_istore_n (k := 3) rfl (show decode cX12_share 6 = .ok (.istore_n 3, 1) by decide +kernel) (by decide))),
  List.forall_mem_cons.mpr ⟨(xOK_pure (xs_iconst (n := 0) (show decode cX12_share 7 = .ok (.iconst 0, 1) by decide +kernel) (by decide))),
  List.forall_mem_cons.mpr ⟨(xOK_pure (xs_istore (show decode cX12_share 8 = .ok (.istore 4, 2) by decide +kernel) (by decide))),
  List.forall_mem_cons.mpr ⟨(xOK_pure (xs_iconst (n := 0) (show decode cX12_share 10 = .ok (.iconst 0, 1) by decide +kernel) (by decide))),
  List.forall_mem_cons.mpr ⟨(xOK_pure (xs_istore (show decode cX12_share 11 = .ok (.istore 5, 2) by decide +kernel) (by decide))),
  List.forall_mem_cons.mpr ⟨(xOK_pure (xs_iconst (n := 1) (show decode cX12_share 13 = .ok (.iconst 1, 1) by decide +kernel) (by decide))),
  List.forall_mem_cons.mpr ⟨(xOK_pure (xs_istore (show decode cX12_share 14 = .ok (.istore 6, 2) by decide +kernel) (by decide))),
  List.forall_mem_cons.mpr ⟨(xOK_pure (xs_iload (show decode cX12_share 16 = .ok (.iload 6, 2) by decide +kernel))),
  List.forall_mem_cons.mpr ⟨(xOK_pure (xs_aload_n (k := 0) rfl (show decode cX12_share 18 = .ok (.aload_n 0, 1) by decide +kernel))),
  List.forall_mem_cons.mpr ⟨(xOK_pure (xs_getf xcl_12 (by decide) (show decode cX12_share 19 = .ok (.getfield 58, 3) by decide +kernel) xw_1728)),
  List.forall_mem_cons.mpr ⟨(xOK_pure (xs_iload_n (k := 1) rfl (show decode cX12_share 22 = .ok (.iload_n 1, 1) by decide +kernel))),
  List.forall_mem_cons.mpr ⟨(xOK_pure (xs_iald (show decode cX12_share 23 = .ok (.iaload, 1) by decide +kernel))),
  List.forall_mem_cons.mpr ⟨(xOK_pure (xs_icmp_gt (show decode cX12_share 24 = .ok (.if_icmp .gt 81, 3) by decide +kernel) (by decide))),
  List.forall_mem_cons.mpr ⟨(xOK_pure (xs_aload_n (k := 0) rfl (show decode cX12_share 27 = .ok (.aload_n 0, 1) by decide +kernel))),
  List.forall_mem_cons.mpr ⟨(xOK_pure (xs_getf xcl_12 (by decide) (show decode cX12_share 28 = .ok (.getfield 49, 3) by decide +kernel) xw_1725)),
  List.forall_mem_cons.mpr ⟨(xOK_pure (xs_iload_n (k := 1) rfl (show decode cX12_share 31 = .ok (.iload_n 1, 1) by decide +kernel))),
  (fun _ h => absurd h List.not_mem_nil)⟩⟩⟩⟩⟩⟩⟩⟩⟩⟩⟩⟩⟩⟩⟩⟩⟩⟩⟩⟩
def pX12_share_1 (ev : xEv) : List (Nat × xEn) := [(32, .inl (xop (xf_ald (ev.1 0)))), (33, .inl (xop (xf_iload 6 2))), (35, .inl (xop (xf_bin (fun x y => x * y)))), (36, .inl (xop (xf_istore 7 2))), (38, .inl (xop (xf_iload 7 2))), (40, .inl (xop (xf_aload 0 1))), (41, .inl (xop (xf_getf 12 4))), (44, .inl (xop (xf_iload 3 1))), (45, .inl (xop (xf_ald (ev.1 0)))), (46, .inl (xop (xf_icmp_lt 52))), (49, .inl (xop (xf_goto 105))), (52, .inl (xop (xf_iinc 4 1))), (55, .inl (xop (xf_aload 0 1))), (56, .inl (xop (xf_iload 1 1))), (57, .inl (xop (xf_push (.int 13) 2))), (59, .inr (.inl (0, 195, 2, 12))), (62, .inl (xop (xf_aload 0 1))), (63, .inl (xop (xf_getf 12 2))), (66, .inl (xop (xf_iload 3 1))), (67, .inl (xop (xf_ald (ev.1 0))))]
set_option maxRecDepth 20000 in
theorem okpX12_share_1 (ev : xEv) : ∀ q ∈ pX12_share_1 ev, xEnOK ev xmi yX12_share.cls yX12_share.name cX12_share 9 (some .long) q :=
  List.forall_mem_cons.mpr ⟨(xOK_pure (xs_iald (show decode cX12_share 32 = .ok (.iaload, 1) by decide +kernel))),
  List.forall_mem_cons.mpr ⟨(xOK_pure (xs_iload (show decode cX12_share 33 = .ok (.iload 6, 2) by decide +kernel))),
  List.forall_mem_cons.mpr ⟨(xOK_pure (xs_imul (show decode cX12_share 35 = .ok (.imul, 1) by decide +kernel))),
  List.forall_mem_cons.mpr ⟨(xOK_pure (xs_istore (show decode cX12_share 36 = .ok (.istore 7, 2) by decide +kernel) (by decide))),
  List.forall_mem_cons.mpr ⟨(xOK_pure (xs_iload (show decode cX12_share 38 = .ok (.iload 7, 2) by decide +kernel))),
  List.forall_mem_cons.mpr ⟨(xOK_pure (xs_aload_n (k := 0) rfl (show decode cX12_share 40 = .ok (.aload_n 0, 1) by decide +kernel))),
  List.forall_mem_cons.mpr ⟨(xOK_pure (xs_getf xcl_12 (by decide) (show decode cX12_share 41 = .ok (.getfield 19, 3) by decide +kernel) xw_1713)),
  List.forall_mem_cons.mpr ⟨(xOK_pure (xs_iload_n (k := 3) rfl (show decode cX12_share 44 = .ok (.iload_n 3, 1) by decide +kernel))),
  List.forall_mem_cons.mpr ⟨(xOK_pure (xs_iald (show decode cX12_share 45 = .ok (.iaload, 1) by decide +kernel))),
  List.forall_mem_cons.mpr ⟨(xOK_pure (xs_icmp_lt (show decode cX12_share 46 = .ok (.if_icmp .lt 6, 3) by decide +kernel) (by decide))),
  List.forall_mem_cons.mpr ⟨(xOK_pure (xs_goto (show decode cX12_share 49 = .ok (.goto 56, 3) by decide +kernel) (by decide))),
  List.forall_mem_cons.mpr ⟨(xOK_pure (xs_iinc (n := 1) (show decode cX12_share 52 = .ok (.iinc 4 1, 3) by decide +kernel) (by decide) (by decide))),
  List.forall_mem_cons.mpr ⟨(xOK_pure (xs_aload_n (k := 0) rfl (show decode cX12_share 55 = .ok (.aload_n 0, 1) by decide +kernel))),
  List.forall_mem_cons.mpr ⟨(xOK_pure (xs_iload_n (k := 1) rfl (show decode cX12_share 56 = .ok (.iload_n 1, 1) by decide +kernel))),
  List.forall_mem_cons.mpr ⟨(xOK_pure (xs_bipush (n := 13) (show decode cX12_share 57 = .ok (.bipush 13, 2) by decide +kernel) (by decide))),
  List.forall_mem_cons.mpr ⟨(xcm mi_195 ⟨⟨(by decide +kernel), (by decide +kernel), (by decide +kernel)⟩, (by decide), xw_2161, xw_125, Or.inl ⟨rfl, _, _, _, _, (show decode cX12_share 59 = .ok (.invokevirtual 344, 3) by decide +kernel), xw_2158, xw_2160, xw_89, rfl⟩⟩),
  List.forall_mem_cons.mpr ⟨(xOK_pure (xs_aload_n (k := 0) rfl (show decode cX12_share 62 = .ok (.aload_n 0, 1) by decide +kernel))),
  List.forall_mem_cons.mpr ⟨(xOK_pure (xs_getf xcl_12 (by decide) (show decode cX12_share 63 = .ok (.getfield 13, 3) by decide +kernel) xw_1711)),
  List.forall_mem_cons.mpr ⟨(xOK_pure (xs_iload_n (k := 3) rfl (show decode cX12_share 66 = .ok (.iload_n 3, 1) by decide +kernel))),
  List.forall_mem_cons.mpr ⟨(xOK_pure (xs_iald (show decode cX12_share 67 = .ok (.iaload, 1) by decide +kernel))),
  (fun _ h => absurd h List.not_mem_nil)⟩⟩⟩⟩⟩⟩⟩⟩⟩⟩⟩⟩⟩⟩⟩⟩⟩⟩⟩⟩
def pX12_share_2 (ev : xEv) : List (Nat × xEn) := [(68, .inl (xop (xf_icmp_ne 76))), (71, .inl (xop (xf_iload 7 2))), (73, .inl (xop (xf_goto 85))), (76, .inl (xop (xf_aload 0 1))), (77, .inl (xop (xf_getf 12 4))), (80, .inl (xop (xf_iload 3 1))), (81, .inl (xop (xf_ald (ev.1 0)))), (82, .inl (xop (xf_iload 7 2))), (84, .inl (xop (xf_bin (fun x y => x - y)))), (85, .inl (xop (xf_istore 8 2))), (87, .inl (xop (xf_iload 8 2))), (89, .inl (xop (xf_push (.int 10) 2))), (91, .inl (xop (xf_div (fun x y => x / y)))), (92, .inl (xop (xf_iload 2 1))), (93, .inl (xop (xf_icmp_ne 99))), (96, .inl (xop (xf_iinc 5 1))), (99, .inl (xop (xf_iinc 6 1))), (102, .inl (xop (xf_goto 16))), (105, .inl (xop (xf_iload 4 2))), (107, .inl (xop (xf_if_ne 114)))]
set_option maxRecDepth 20000 in
theorem okpX12_share_2 (ev : xEv) : ∀ q ∈ pX12_share_2 ev, xEnOK ev xmi yX12_share.cls yX12_share.name cX12_share 9 (some .long) q :=
  List.forall_mem_cons.mpr ⟨(xOK_pure (xs_icmp_ne (show decode cX12_share 68 = .ok (.if_icmp .ne 8, 3) by decide +kernel) (by decide))),
  List.forall_mem_cons.mpr ⟨(xOK_pure (xs_iload (show decode cX12_share 71 = .ok (.iload 7, 2) by decide +kernel))),
  List.forall_mem_cons.mpr ⟨(xOK_pure (xs_goto (show decode cX12_share 73 = .ok (.goto 12, 3) by decide +kernel) (by decide))),
  List.forall_mem_cons.mpr ⟨(xOK_pure (xs_aload_n (k := 0) rfl (show decode cX12_share 76 = .ok (.aload_n 0, 1) by decide +kernel))),
  List.forall_mem_cons.mpr ⟨(xOK_pure (xs_getf xcl_12 (by decide) (show decode cX12_share 77 = .ok (.getfield 19, 3) by decide +kernel) xw_1713)),
  List.forall_mem_cons.mpr ⟨(xOK_pure (xs_iload_n (k := 3) rfl (show decode cX12_share 80 = .ok (.iload_n 3, 1) by decide +kernel))),
  List.forall_mem_cons.mpr ⟨(xOK_pure (xs_iald (show decode cX12_share 81 = .ok (.iaload, 1) by decide +kernel))),
  List.forall_mem_cons.mpr ⟨(xOK_pure (xs_iload (show decode cX12_share 82 = .ok (.iload 7, 2) by decide +kernel))),
  List.forall_mem_cons.mpr ⟨(xOK_pure (xs_isub (show decode cX12_share 84 = .ok (.isub, 1) by decide +kernel))),
  List.forall_mem_cons.mpr ⟨(xOK_pure (xs_istore (show decode cX12_share 85 = .ok (.istore 8, 2) by decide +kernel) (by decide))),
  List.forall_mem_cons.mpr ⟨(xOK_pure (xs_iload (show decode cX12_share 87 = .ok (.iload 8, 2) by decide +kernel))),
  List.forall_mem_cons.mpr ⟨(xOK_pure (xs_bipush (n := 10) (show decode cX12_share 89 = .ok (.bipush 10, 2) by decide +kernel) (by decide))),
  List.forall_mem_cons.mpr ⟨(xOK_pure (xs_idiv (show decode cX12_share 91 = .ok (.idiv, 1) by decide +kernel))),
  List.forall_mem_cons.mpr ⟨(xOK_pure (xs_iload_n (k := 2) rfl (show decode cX12_share 92 = .ok (.iload_n 2, 1) by decide +kernel))),
  List.forall_mem_cons.mpr ⟨(xOK_pure (xs_icmp_ne (show decode cX12_share 93 = .ok (.if_icmp .ne 6, 3) by decide +kernel) (by decide))),
  List.forall_mem_cons.mpr ⟨(xOK_pure (xs_iinc (n := 1) (show decode cX12_share 96 = .ok (.iinc 5 1, 3) by decide +kernel) (by decide) (by decide))),
  List.forall_mem_cons.mpr ⟨(xOK_pure (xs_iinc (n := 1) (show decode cX12_share 99 = .ok (.iinc 6 1, 3) by decide +kernel) (by decide) (by decide))),
  List.forall_mem_cons.mpr ⟨(xOK_pure (xs_goto (show decode cX12_share 102 = .ok (.goto (-86), 3) by decide +kernel) (by decide))),
  List.forall_mem_cons.mpr ⟨(xOK_pure (xs_iload (show decode cX12_share 105 = .ok (.iload 4, 2) by decide +kernel))),
  List.forall_mem_cons.mpr ⟨(xOK_pure (xs_if_ne (show decode cX12_share 107 = .ok (.ifCond .ne 7, 3) by decide +kernel) (by decide))),
  (fun _ h => absurd h List.not_mem_nil)⟩⟩⟩⟩⟩⟩⟩⟩⟩⟩⟩⟩⟩⟩⟩⟩⟩⟩⟩⟩
def pX12_share_3 (ev : xEv) : List (Nat × xEn) := [(110, .inl (xop (xf_push (.long 1) 1))), (111, .inl (xop (xf_goto 117))), (114, .inl (xop (xf_iload 5 2))), (116, .inl (xop xf_i2l)), (117, .inl (xop (xf_lstore 6 2))), (119, .inl (xop (xf_push (.int 0) 1))), (120, .inl (xop (xf_istore 8 2))), (122, .inl (xop (xf_iload 8 2))), (124, .inl (xop (xf_aload 0 1))), (125, .inl (xop (xf_iload 1 1))), (126, .inl (xop (xf_push (.int 14) 2))), (128, .inr (.inl (0, 195, 2, 12))), (131, .inl (xop (xf_icmp_ge 185))), (134, .inl (xop (xf_lload 6 2))), (136, .inl (xop (xf_aload 0 1))), (137, .inl (xop (xf_iload 1 1))), (138, .inl (xop (xf_push (.int 15) 2))), (140, .inl (xop (xf_push (.int 2) 1))), (141, .inl (xop (xf_iload 8 2))), (143, .inl (xop (xf_bin (fun x y => x * y))))]
set_option maxRecDepth 20000 in
theorem okpX12_share_3 (ev : xEv) : ∀ q ∈ pX12_share_3 ev, xEnOK ev xmi yX12_share.cls yX12_share.name cX12_share 9 (some .long) q :=
  List.forall_mem_cons.mpr ⟨(xOK_pure (xs_lconst (n := 1) (show decode cX12_share 110 = .ok (.lconst 1, 1) by decide +kernel) (by decide))),
  List.forall_mem_cons.mpr ⟨(xOK_pure (xs_goto (show decode cX12_share 111 = .ok (.goto 6, 3) by decide +kernel) (by decide))),
  List.forall_mem_cons.mpr ⟨(xOK_pure (xs_iload (show decode cX12_share 114 = .ok (.iload 5, 2) by decide +kernel))),
  List.forall_mem_cons.mpr ⟨(xOK_pure (xs_i2l (show decode cX12_share 116 = .ok (.i2l, 1) by decide +kernel))),
  List.forall_mem_cons.mpr ⟨(xOK_pure (xs_lstore (show decode cX12_share 117 = .ok (.lstore 6, 2) by decide +kernel) (by decide))),
  List.forall_mem_cons.mpr ⟨(xOK_pure (xs_iconst (n := 0) (show decode cX12_share 119 = .ok (.iconst 0, 1) by decide +kernel) (by decide))),
  List.forall_mem_cons.mpr ⟨(xOK_pure (xs_istore (show decode cX12_share 120 = .ok (.istore 8, 2) by decide +kernel) (by decide))),
  List.forall_mem_cons.mpr ⟨(xOK_pure (xs_iload (show decode cX12_share 122 = .ok (.iload 8, 2) by decide +kernel))),
  List.forall_mem_cons.mpr ⟨(xOK_pure (xs_aload_n (k := 0) rfl (show decode cX12_share 124 = .ok (.aload_n 0, 1) by decide +kernel))),
  List.forall_mem_cons.mpr ⟨(xOK_pure (xs_iload_n (k := 1) rfl (show decode cX12_share 125 = .ok (.iload_n 1, 1) by decide +kernel))),
  List.forall_mem_cons.mpr ⟨(xOK_pure (xs_bipush (n := 14) (show decode cX12_share 126 = .ok (.bipush 14, 2) by decide +kernel) (by decide))),
  List.forall_mem_cons.mpr ⟨(xcm mi_195 ⟨⟨(by decide +kernel), (by decide +kernel), (by decide +kernel)⟩, (by decide), xw_2161, xw_125, Or.inl ⟨rfl, _, _, _, _, (show decode cX12_share 128 = .ok (.invokevirtual 344, 3) by decide +kernel), xw_2158, xw_2160, xw_89, rfl⟩⟩),
  List.forall_mem_cons.mpr ⟨(xOK_pure (xs_icmp_ge (show decode cX12_share 131 = .ok (.if_icmp .ge 54, 3) by decide +kernel) (by decide))),
  List.forall_mem_cons.mpr ⟨(xOK_pure (xs_lload (show decode cX12_share 134 = .ok (.lload 6, 2) by decide +kernel))),
  List.forall_mem_cons.mpr ⟨(xOK_pure (xs_aload_n (k := 0) rfl (show decode cX12_share 136 = .ok (.aload_n 0, 1) by decide +kernel))),
  List.forall_mem_cons.mpr ⟨(xOK_pure (xs_iload_n (k := 1) rfl (show decode cX12_share 137 = .ok (.iload_n 1, 1) by decide +kernel))),
  List.forall_mem_cons.mpr ⟨(xOK_pure (xs_bipush (n := 15) (show decode cX12_share 138 = .ok (.bipush 15, 2) by decide +kernel) (by decide))),
  List.forall_mem_cons.mpr ⟨(xOK_pure (xs_iconst (n := 2) (show decode cX12_share 140 = .ok (.iconst 2, 1) by decide +kernel) (by decide))),
  List.forall_mem_cons.mpr ⟨(xOK_pure (xs_iload (show decode cX12_share 141 = .ok (.iload 8, 2) by decide +kernel))),
  List.forall_mem_cons.mpr ⟨(xOK_pure (xs_imul (show decode cX12_share 143 = .ok (.imul, 1) by decide +kernel))),
  (fun _ h => absurd h List.not_mem_nil)⟩⟩⟩⟩⟩⟩⟩⟩⟩⟩⟩⟩⟩⟩⟩⟩⟩⟩⟩⟩
def pX12_share_4 (ev : xEv) : List (Nat × xEn) := [(144, .inl (xop (xf_bin (fun x y => x + y)))), (145, .inr (.inl (0, 195, 2, 12))), (148, .inl (xop (xf_iload 2 1))), (149, .inl (xop (xf_icmp_ne 173))), (152, .inl (xop (xf_push (.int 100) 2))), (154, .inl (xop (xf_aload 0 1))), (155, .inl (xop (xf_iload 1 1))), (156, .inl (xop (xf_push (.int 15) 2))), (158, .inl (xop (xf_push (.int 2) 1))), (159, .inl (xop (xf_iload 8 2))), (161, .inl (xop (xf_bin (fun x y => x * y)))), (162, .inl (xop (xf_bin (fun x y => x + y)))), (163, .inl (xop (xf_push (.int 1) 1))), (164, .inl (xop (xf_bin (fun x y => x + y)))), (165, .inr (.inl (0, 195, 2, 12))), (168, .inl (xop (xf_bin (fun x y => x - y)))), (169, .inl (xop xf_i2l)), (170, .inl (xop (xf_goto 176))), (173, .inl (xop (xf_push (.long 100) 3))), (176, .inl (xop (xf_lbin (fun x y => x * y))))]
set_option maxRecDepth 20000 in
theorem okpX12_share_4 (ev : xEv) : ∀ q ∈ pX12_share_4 ev, xEnOK ev xmi yX12_share.cls yX12_share.name cX12_share 9 (some .long) q :=
  List.forall_mem_cons.mpr ⟨(xOK_pure (xs_iadd (show decode cX12_share 144 = .ok (.iadd, 1) by decide +kernel))),
  List.forall_mem_cons.mpr ⟨(xcm mi_195 ⟨⟨(by decide +kernel), (by decide +kernel), (by decide +kernel)⟩, (by decide), xw_2161, xw_125, Or.inl ⟨rfl, _, _, _, _, (show decode cX12_share 145 = .ok (.invokevirtual 344, 3) by decide +kernel), xw_2158, xw_2160, xw_89, rfl⟩⟩),
  List.forall_mem_cons.mpr ⟨(xOK_pure (xs_iload_n (k := 2) rfl (show decode cX12_share 148 = .ok (.iload_n 2, 1) by decide +kernel))),
  List.forall_mem_cons.mpr ⟨(xOK_pure (xs_icmp_ne (show decode cX12_share 149 = .ok (.if_icmp .ne 24, 3) by decide +kernel) (by decide))),
  List.forall_mem_cons.mpr ⟨(xOK_pure (xs_bipush (n := 100) (show decode cX12_share 152 = .ok (.bipush 100, 2) by decide +kernel) (by decide))),
  List.forall_mem_cons.mpr ⟨(xOK_pure (xs_aload_n (k := 0) rfl (show decode cX12_share 154 = .ok (.aload_n 0, 1) by decide +kernel))),
  List.forall_mem_cons.mpr ⟨(xOK_pure (xs_iload_n (k := 1) rfl (show decode cX12_share 155 = .ok (.iload_n 1, 1) by decide +kernel))),
  List.forall_mem_cons.mpr ⟨(xOK_pure (xs_bipush (n := 15) (show decode cX12_share 156 = .ok (.bipush 15, 2) by decide +kernel) (by decide))),
  List.forall_mem_cons.mpr ⟨(xOK_pure (xs_iconst (n := 2) (show decode cX12_share 158 = .ok (.iconst 2, 1) by decide +kernel) (by decide))),
  List.forall_mem_cons.mpr ⟨(xOK_pure (xs_iload (show decode cX12_share 159 = .ok (.iload 8, 2) by decide +kernel))),
  List.forall_mem_cons.mpr ⟨(xOK_pure (xs_imul (show decode cX12_share 161 = .ok (.imul, 1) by decide +kernel))),
  List.forall_mem_cons.mpr ⟨(xOK_pure (xs_iadd (show decode cX12_share 162 = .ok (.iadd, 1) by decide +kernel))),
  List.forall_mem_cons.mpr ⟨(xOK_pure (xs_iconst (n := 1) (show decode cX12_share 163 = .ok (.iconst 1, 1) by decide +kernel) (by decide))),
  List.forall_mem_cons.mpr ⟨(xOK_pure (xs_iadd (show decode cX12_share 164 = .ok (.iadd, 1) by decide +kernel))),
  List.forall_mem_cons.mpr ⟨(xcm mi_195 ⟨⟨(by decide +kernel), (by decide +kernel), (by decide +kernel)⟩, (by decide), xw_2161, xw_125, Or.inl ⟨rfl, _, _, _, _, (show decode cX12_share 165 = .ok (.invokevirtual 344, 3) by decide +kernel), xw_2158, xw_2160, xw_89, rfl⟩⟩),
  List.forall_mem_cons.mpr ⟨(xOK_pure (xs_isub (show decode cX12_share 168 = .ok (.isub, 1) by decide +kernel))),
  List.forall_mem_cons.mpr ⟨(xOK_pure (xs_i2l (show decode cX12_share 169 = .ok (.i2l, 1) by decide +kernel))),
  List.forall_mem_cons.mpr ⟨(xOK_pure (xs_goto (show decode cX12_share 170 = .ok (.goto 6, 3) by decide +kernel) (by decide))),
  List.forall_mem_cons.mpr ⟨(xOK_pure (xs_ldc2 (show decode cX12_share 173 = .ok (.ldc2_w 416, 3) by decide +kernel) xw_2290)),
  List.forall_mem_cons.mpr ⟨(xOK_pure (xs_lmul (show decode cX12_share 176 = .ok (.lmul, 1) by decide +kernel))),
  (fun _ h => absurd h List.not_mem_nil)⟩⟩⟩⟩⟩⟩⟩⟩⟩⟩⟩⟩⟩⟩⟩⟩⟩⟩⟩⟩
def pX12_share_5 (ev : xEv) : List (Nat × xEn) := [(177, .inl (xop (xf_lstore 6 2))), (179, .inl (xop (xf_iinc 8 1))), (182, .inl (xop (xf_goto 122))), (185, .inl (xop (xf_lload 6 2))), (187, .inr (.inr 2))]
set_option maxRecDepth 20000 in
theorem okpX12_share_5 (ev : xEv) : ∀ q ∈ pX12_share_5 ev, xEnOK ev xmi yX12_share.cls yX12_share.name cX12_share 9 (some .long) q :=
  List.forall_mem_cons.mpr ⟨(xOK_pure (xs_lstore (show decode cX12_share 177 = .ok (.lstore 6, 2) by decide +kernel) (by decide))),
  List.forall_mem_cons.mpr ⟨(xOK_pure (xs_iinc (n := 1) (show decode cX12_share 179 = .ok (.iinc 8 1, 3) by decide +kernel) (by decide) (by decide))),
  List.forall_mem_cons.mpr ⟨(xOK_pure (xs_goto (show decode cX12_share 182 = .ok (.goto (-60), 3) by decide +kernel) (by decide))),
  List.forall_mem_cons.mpr ⟨(xOK_pure (xs_lload (show decode cX12_share 185 = .ok (.lload 6, 2) by decide +kernel))),
  List.forall_mem_cons.mpr ⟨(Or.inr (Or.inr (Or.inl ⟨rfl, (show decode cX12_share 187 = .ok (.lreturn, 1) by decide +kernel), rfl⟩))),
  (fun _ h => absurd h List.not_mem_nil)⟩⟩⟩⟩⟩
def pX12_share (ev : xEv) : List (Nat × xEn) := pX12_share_0 ev ++ (pX12_share_1 ev ++ (pX12_share_2 ev ++ (pX12_share_3 ev ++ (pX12_share_4 ev ++ (pX12_share_5 ev)))))
theorem okpX12_share (ev : xEv) : ∀ q ∈ pX12_share ev, xEnOK ev xmi yX12_share.cls yX12_share.name cX12_share 9 (some .long) q := List.forall_mem_append.mpr ⟨okpX12_share_0 ev, List.forall_mem_append.mpr ⟨okpX12_share_1 ev, List.forall_mem_append.mpr ⟨okpX12_share_2 ev, List.forall_mem_append.mpr ⟨okpX12_share_3 ev, List.forall_mem_append.mpr ⟨okpX12_share_4 ev, okpX12_share_5 ev⟩⟩⟩⟩⟩
theorem omX12_share (ev : xEv) : xMethOK ev xmi yX12_share.cls yX12_share.name 281 (pX12_share ev) := xMethOK.of mi_281 (by decide +kernel) (okpX12_share ev)
def pX12_common (ev : xEv) : List (Nat × xEn) := [(0, .inl (xop (xf_lload 2 1))), (1, .inl (xop (xf_push (.long 0) 1))), (2, .inl (xop xf_lcmp)), (3, .inl (xop (xf_if_ne 10))), (6, .inl (xop (xf_lload 0 1))), (7, .inl (xop (xf_goto 17))), (10, .inl (xop (xf_lload 2 1))), (11, .inl (xop (xf_lload 0 1))), (12, .inl (xop (xf_lload 2 1))), (13, .inl (xop (xf_ldiv (fun x y => x - x / y * y)))), (14, .inr (.inl (1, 282, 2, 12))), (17, .inr (.inr 2))]
set_option maxRecDepth 20000 in
theorem okpX12_common (ev : xEv) : ∀ q ∈ pX12_common ev, xEnOK ev xmi yX12_common.cls yX12_common.name cX12_common 4 (some .long) q :=
  List.forall_mem_cons.mpr ⟨(xOK_pure (xs_lload_n (k := 2) rfl (show decode cX12_common 0 = .ok (.lload_n 2, 1) by decide +kernel))),
  List.forall_mem_cons.mpr ⟨(xOK_pure (xs_lconst (n := 0) (show decode cX12_common 1 = .ok (.lconst 0, 1) by decide +kernel) (by decide))),
  List.forall_mem_cons.mpr ⟨(xOK_pure (xs_lcmp (show decode cX12_common 2 = .ok (.lcmp, 1) by decide +kernel))),
  List.forall_mem_cons.mpr ⟨(xOK_pure (xs_if_ne (show decode cX12_common 3 = .ok (.ifCond .ne 7, 3) by decide +kernel) (by decide))),
  List.forall_mem_cons.mpr ⟨(xOK_pure (xs_lload_n (k := 0) rfl (show decode cX12_common 6 = .ok (.lload_n 0, 1) by decide +kernel))),
  List.forall_mem_cons.mpr ⟨(xOK_pure (xs_goto (show decode cX12_common 7 = .ok (.goto 10, 3) by decide +kernel) (by decide))),
  List.forall_mem_cons.mpr ⟨(xOK_pure (xs_lload_n (k := 2) rfl (show decode cX12_common 10 = .ok (.lload_n 2, 1) by decide +kernel))),
  List.forall_mem_cons.mpr ⟨(xOK_pure (xs_lload_n (k := 0) rfl (show decode cX12_common 11 = .ok (.lload_n 0, 1) by decide +kernel))),
  List.forall_mem_cons.mpr ⟨(xOK_pure (xs_lload_n (k := 2) rfl (show decode cX12_common 12 = .ok (.lload_n 2, 1) by decide +kernel))),
  List.forall_mem_cons.mpr ⟨(xOK_pure (xs_lrem (show decode cX12_common 13 = .ok (.lrem, 1) by decide +kernel))),
  List.forall_mem_cons.mpr ⟨(xcm mi_282 ⟨⟨(by decide +kernel), (by decide +kernel), (by decide +kernel)⟩, (by decide), xw_2293, xw_125, Or.inr (Or.inl ⟨rfl, _, (show decode cX12_common 14 = .ok (.invokestatic 418, 3) by decide +kernel), xw_2291, xw_2292⟩)⟩),
  List.forall_mem_cons.mpr ⟨(Or.inr (Or.inr (Or.inl ⟨rfl, (show decode cX12_common 17 = .ok (.lreturn, 1) by decide +kernel), rfl⟩))),
  (fun _ h => absurd h List.not_mem_nil)⟩⟩⟩⟩⟩⟩⟩⟩⟩⟩⟩⟩
theorem omX12_common (ev : xEv) : xMethOK ev xmi yX12_common.cls yX12_common.name 282 (pX12_common ev) := xMethOK.of mi_282 (by decide +kernel) (okpX12_common ev)
def pX12_chance_0 (ev : xEv) : List (Nat × xEn) := [(0, .inl (xop (xf_aload 0 1))), (1, .inl (xop (xf_push (.int 0) 1))), (2, .inl (xo_putf 12 47 .int)), (5, .inl (xop (xf_aload 0 1))), (6, .inl (xop (xf_iload 1 1))), (7, .inr (.inl (0, 277, 1, 12))), (10, .inl (xop (xf_if_eq 37))), (13, .inl (xop (xf_iload 2 1))), (14, .inl (xop (xf_push (.int 0) 1))), (15, .inl (xop (xf_aload 0 1))), (16, .inl (xop (xf_iload 1 1))), (17, .inr (.inl (0, 279, 1, 12))), (20, .inl (xop (xf_push (.int 1) 1))), (21, .inl (xop (xf_bin (fun x y => x - y)))), (22, .inr (.inl (1, 188, 3, 12))), (25, .inl (xop (xf_if_eq 37))), (28, .inl (xop (xf_iload 3 1))), (29, .inl (xop (xf_push (.int 0) 1))), (30, .inl (xop (xf_push (.int 1) 1))), (31, .inr (.inl (1, 188, 3, 12)))]
set_option maxRecDepth 20000 in
theorem okpX12_chance_0 (ev : xEv) : ∀ q ∈ pX12_chance_0 ev, xEnOK ev xmi yX12_chance.cls yX12_chance.name cX12_chance 10 (some .long) q :=
  List.forall_mem_cons.mpr ⟨(xOK_pure (xs_aload_n (k := 0) rfl (show decode cX12_chance 0 = .ok (.aload_n 0, 1) by decide +kernel))),
  List.forall_mem_cons.mpr ⟨(xOK_pure (xs_iconst (n := 0) (show decode cX12_chance 1 = .ok (.iconst 0, 1) by decide +kernel) (by decide))),
  List.forall_mem_cons.mpr ⟨(xs_putf (k := 47) xcl_12 (by decide) rfl (show decode cX12_chance 2 = .ok (.putfield 140, 3) by decide +kernel) xw_1756),
  List.forall_mem_cons.mpr ⟨(xOK_pure (xs_aload_n (k := 0) rfl (show decode cX12_chance 5 = .ok (.aload_n 0, 1) by decide +kernel))),
  List.forall_mem_cons.mpr ⟨(xOK_pure (xs_iload_n (k := 1) rfl (show decode cX12_chance 6 = .ok (.iload_n 1, 1) by decide +kernel))),
  List.forall_mem_cons.mpr ⟨(xcm mi_277 ⟨⟨(by decide +kernel), (by decide +kernel), (by decide +kernel)⟩, (by decide), xw_2273, xw_125, Or.inl ⟨rfl, _, _, _, _, (show decode cX12_chance 7 = .ok (.invokevirtual 410, 3) by decide +kernel), xw_2270, xw_2272, xw_105, rfl⟩⟩),
  List.forall_mem_cons.mpr ⟨(xOK_pure (xs_if_eq (show decode cX12_chance 10 = .ok (.ifCond .eq 27, 3) by decide +kernel) (by decide))),
  List.forall_mem_cons.mpr ⟨(xOK_pure (xs_iload_n (k := 2) rfl (show decode cX12_chance 13 = .ok (.iload_n 2, 1) by decide +kernel))),
  List.forall_mem_cons.mpr ⟨(xOK_pure (xs_iconst (n := 0) (show decode cX12_chance 14 = .ok (.iconst 0, 1) by decide +kernel) (by decide))),
  List.forall_mem_cons.mpr ⟨(xOK_pure (xs_aload_n (k := 0) rfl (show decode cX12_chance 15 = .ok (.aload_n 0, 1) by decide +kernel))),
  List.forall_mem_cons.mpr ⟨(xOK_pure (xs_iload_n (k := 1) rfl (show decode cX12_chance 16 = .ok (.iload_n 1, 1) by decide +kernel))),
  List.forall_mem_cons.mpr ⟨(xcm mi_279 ⟨⟨(by decide +kernel), (by decide +kernel), (by decide +kernel)⟩, (by decide), xw_2281, xw_125, Or.inl ⟨rfl, _, _, _, _, (show decode cX12_chance 17 = .ok (.invokevirtual 413, 3) by decide +kernel), xw_2278, xw_2280, xw_106, rfl⟩⟩),
  List.forall_mem_cons.mpr ⟨(xOK_pure (xs_iconst (n := 1) (show decode cX12_chance 20 = .ok (.iconst 1, 1) by decide +kernel) (by decide))),
  List.forall_mem_cons.mpr ⟨(xOK_pure (xs_isub (show decode cX12_chance 21 = .ok (.isub, 1) by decide +kernel))),
  List.forall_mem_cons.mpr ⟨(xcm mi_188 ⟨⟨(by decide +kernel), (by decide +kernel), (by decide +kernel)⟩, (by decide), xw_1912, xw_125, Or.inr (Or.inl ⟨rfl, _, (show decode cX12_chance 22 = .ok (.invokestatic 146, 3) by decide +kernel), xw_1910, xw_1911⟩)⟩),
  List.forall_mem_cons.mpr ⟨(xOK_pure (xs_if_eq (show decode cX12_chance 25 = .ok (.ifCond .eq 12, 3) by decide +kernel) (by decide))),
  List.forall_mem_cons.mpr ⟨(xOK_pure (xs_iload_n (k := 3) rfl (show decode cX12_chance 28 = .ok (.iload_n 3, 1) by decide +kernel))),
  List.forall_mem_cons.mpr ⟨(xOK_pure (xs_iconst (n := 0) (show decode cX12_chance 29 = .ok (.iconst 0, 1) by decide +kernel) (by decide))),
  List.forall_mem_cons.mpr ⟨(xOK_pure (xs_iconst (n := 1) (show decode cX12_chance 30 = .ok (.iconst 1, 1) by decide +kernel) (by decide))),
  List.forall_mem_cons.mpr ⟨(xcm mi_188 ⟨⟨(by decide +kernel), (by decide +kernel), (by decide +kernel)⟩, (by decide), xw_1912, xw_125, Or.inr (Or.inl ⟨rfl, _, (show decode cX12_chance 31 = .ok (.invokestatic 146, 3) by decide +kernel), xw_1910, xw_1911⟩)⟩),
  (fun _ h => absurd h List.not_mem_nil)⟩⟩⟩⟩⟩⟩⟩⟩⟩⟩⟩⟩⟩⟩⟩⟩⟩⟩⟩⟩
def pX12_chance_1 (ev : xEv) : List (Nat × xEn) := [(34, .inl (xop (xf_if_ne 44))), (37, .inl (xop (xf_aload 0 1))), (38, .inl (xop (xf_push (.int 1) 1))), (39, .inl (xo_putf 12 47 .int)), (42, .inl (xop (xf_push (.long 0) 1))), (43, .inr (.inr 2)), (44, .inl (xop (xf_push (.long 0) 1))), (45, .inl (xop (xf_lstore 4 2))), (47, .inl (xop (xf_push (.int 0) 1))), (48, .inl (xop (xf_istore 6 2))), (50, .inl (xop (xf_iload 6 2))), (52, .inl (xop (xf_aload 0 1))), (53, .inl (xop (xf_iload 1 1))), (54, .inr (.inl (0, 279, 1, 12))), (57, .inl (xop (xf_icmp_ge 78))), (60, .inl (xop (xf_lload 4 2))), (62, .inl (xop (xf_aload 0 1))), (63, .inl (xop (xf_iload 1 1))), (64, .inl (xop (xf_iload 6 2))), (66, .inr (.inl (0, 281, 2, 12)))]
set_option maxRecDepth 20000 in
theorem okpX12_chance_1 (ev : xEv) : ∀ q ∈ pX12_chance_1 ev, xEnOK ev xmi yX12_chance.cls yX12_chance.name cX12_chance 10 (some .long) q :=
  List.forall_mem_cons.mpr ⟨(xOK_pure (xs_if_ne (show decode cX12_chance 34 = .ok (.ifCond .ne 10, 3) by decide +kernel) (by decide))),
  List.forall_mem_cons.mpr ⟨(xOK_pure (xs_aload_n (k := 0) rfl (show decode cX12_chance 37 = .ok (.aload_n 0, 1) by decide +kernel))),
  List.forall_mem_cons.mpr ⟨(xOK_pure (xs_iconst (n := 1) (show decode cX12_chance 38 = .ok (.iconst 1, 1) by decide +kernel) (by decide))),
  List.forall_mem_cons.mpr ⟨(xs_putf (k := 47) xcl_12 (by decide) rfl (show decode cX12_chance 39 = .ok (.putfield 140, 3) by decide +kernel) xw_1756),
  List.forall_mem_cons.mpr ⟨(xOK_pure (xs_lconst (n := 0) (show decode cX12_chance 42 = .ok (.lconst 0, 1) by decide +kernel) (by decide))),
  List.forall_mem_cons.mpr ⟨(Or.inr (Or.inr (Or.inl ⟨rfl, (show decode cX12_chance 43 = .ok (.lreturn, 1) by decide +kernel), rfl⟩))),
  List.forall_mem_cons.mpr ⟨(xOK_pure (xs_lconst (n := 0) (show decode cX12_chance 44 = .ok (.lconst 0, 1) by decide +kernel) (by decide))),
  List.forall_mem_cons.mpr ⟨(xOK_pure (xs_lstore (show decode cX12_chance 45 = .ok (.lstore 4, 2) by decide +kernel) (by decide))),
  List.forall_mem_cons.mpr ⟨(xOK_pure (xs_iconst (n := 0) (show decode cX12_chance 47 = .ok (.iconst 0, 1) by decide +kernel) (by decide))),
  List.forall_mem_cons.mpr ⟨(xOK_pure (xs_istore (show decode cX12_chance 48 = .ok (.istore 6, 2) by decide +kernel) (by decide))),
  List.forall_mem_cons.mpr ⟨(xOK_pure (xs_iload (show decode cX12_chance 50 = .ok (.iload 6, 2) by decide +kernel))),
  List.forall_mem_cons.mpr ⟨(xOK_pure (xs_aload_n (k := 0) rfl (show decode cX12_chance 52 = .ok (.aload_n 0, 1) by decide +kernel))),
  List.forall_mem_cons.mpr ⟨(xOK_pure (xs_iload_n (k := 1) rfl (show decode cX12_chance 53 = .ok (.iload_n 1, 1) by decide +kernel))),
  List.forall_mem_cons.mpr ⟨(xcm mi_279 ⟨⟨(by decide +kernel), (by decide +kernel), (by decide +kernel)⟩, (by decide), xw_2281, xw_125, Or.inl ⟨rfl, _, _, _, _, (show decode cX12_chance 54 = .ok (.invokevirtual 413, 3) by decide +kernel), xw_2278, xw_2280, xw_106, rfl⟩⟩),
  List.forall_mem_cons.mpr ⟨(xOK_pure (xs_icmp_ge (show decode cX12_chance 57 = .ok (.if_icmp .ge 21, 3) by decide +kernel) (by decide))),
  List.forall_mem_cons.mpr ⟨(xOK_pure (xs_lload (show decode cX12_chance 60 = .ok (.lload 4, 2) by decide +kernel))),
  List.forall_mem_cons.mpr ⟨(xOK_pure (xs_aload_n (k := 0) rfl (show decode cX12_chance 62 = .ok (.aload_n 0, 1) by decide +kernel))),
  List.forall_mem_cons.mpr ⟨(xOK_pure (xs_iload_n (k := 1) rfl (show decode cX12_chance 63 = .ok (.iload_n 1, 1) by decide +kernel))),
  List.forall_mem_cons.mpr ⟨(xOK_pure (xs_iload (show decode cX12_chance 64 = .ok (.iload 6, 2) by decide +kernel))),
  List.forall_mem_cons.mpr ⟨(xcm mi_281 ⟨⟨(by decide +kernel), (by decide +kernel), (by decide +kernel)⟩, (by decide), xw_2289, xw_125, Or.inl ⟨rfl, _, _, _, _, (show decode cX12_chance 66 = .ok (.invokevirtual 422, 3) by decide +kernel), xw_2286, xw_2288, xw_107, rfl⟩⟩),
  (fun _ h => absurd h List.not_mem_nil)⟩⟩⟩⟩⟩⟩⟩⟩⟩⟩⟩⟩⟩⟩⟩⟩⟩⟩⟩⟩
def pX12_chance_2 (ev : xEv) : List (Nat × xEn) := [(69, .inl (xop (xf_lbin (fun x y => x + y)))), (70, .inl (xop (xf_lstore 4 2))), (72, .inl (xop (xf_iinc 6 1))), (75, .inl (xop (xf_goto 50))), (78, .inl (xop (xf_aload 0 1))), (79, .inl (xop (xf_iload 1 1))), (80, .inl (xop (xf_iload 2 1))), (81, .inr (.inl (0, 281, 2, 12))), (84, .inl (xop (xf_lstore 6 2))), (86, .inl (xop (xf_lload 6 2))), (88, .inl (xop (xf_push (.long 0) 1))), (89, .inl (xop xf_lcmp)), (90, .inl (xop (xf_if_ne 103))), (93, .inl (xop (xf_iload 3 1))), (94, .inl (xop (xf_if_ne 101))), (97, .inl (xop (xf_push (.long 0) 1))), (98, .inl (xop (xf_goto 102))), (101, .inl (xop (xf_push (.long 1) 1))), (102, .inr (.inr 2)), (103, .inl (xop (xf_lload 4 2)))]
set_option maxRecDepth 20000 in
theorem okpX12_chance_2 (ev : xEv) : ∀ q ∈ pX12_chance_2 ev, xEnOK ev xmi yX12_chance.cls yX12_chance.name cX12_chance 10 (some .long) q :=
  List.forall_mem_cons.mpr ⟨(xOK_pure (xs_ladd (show decode cX12_chance 69 = .ok (.ladd, 1) by decide +kernel))),
  List.forall_mem_cons.mpr ⟨(xOK_pure (xs_lstore (show decode cX12_chance 70 = .ok (.lstore 4, 2) by decide +kernel) (by decide))),
  List.forall_mem_cons.mpr ⟨(xOK_pure (xs_iinc (n := 1) (show decode cX12_chance 72 = .ok (.iinc 6 1, 3) by decide +kernel) (by decide) (by decide))),
  List.forall_mem_cons.mpr ⟨(xOK_pure (xs_goto (show decode cX12_chance 75 = .ok (.goto (-25), 3) by decide +kernel) (by decide))),
  List.forall_mem_cons.mpr ⟨(xOK_pure (xs_aload_n (k := 0) rfl (show decode cX12_chance 78 = .ok (.aload_n 0, 1) by decide +kernel))),
  List.forall_mem_cons.mpr ⟨(xOK_pure (xs_iload_n (k := 1) rfl (show decode cX12_chance 79 = .ok (.iload_n 1, 1) by decide +kernel))),
  List.forall_mem_cons.mpr ⟨(xOK_pure (xs_iload_n (k := 2) rfl (show decode cX12_chance 80 = .ok (.iload_n 2, 1) by decide +kernel))),
  List.forall_mem_cons.mpr ⟨(xcm mi_281 ⟨⟨(by decide +kernel), (by decide +kernel), (by decide +kernel)⟩, (by decide), xw_2289, xw_125, Or.inl ⟨rfl, _, _, _, _, (show decode cX12_chance 81 = .ok (.invokevirtual 422, 3) by decide +kernel), xw_2286, xw_2288, xw_107, rfl⟩⟩),
  List.forall_mem_cons.mpr ⟨(xOK_pure (xs_lstore (show decode cX12_chance 84 = .ok (.lstore 6, 2) by decide +kernel) (by decide))),
  List.forall_mem_cons.mpr ⟨(xOK_pure (xs_lload (show decode cX12_chance 86 = .ok (.lload 6, 2) by decide +kernel))),
  List.forall_mem_cons.mpr ⟨(xOK_pure (xs_lconst (n := 0) (show decode cX12_chance 88 = .ok (.lconst 0, 1) by decide +kernel) (by decide))),
  List.forall_mem_cons.mpr ⟨(xOK_pure (xs_lcmp (show decode cX12_chance 89 = .ok (.lcmp, 1) by decide +kernel))),
  List.forall_mem_cons.mpr ⟨(xOK_pure (xs_if_ne (show decode cX12_chance 90 = .ok (.ifCond .ne 13, 3) by decide +kernel) (by decide))),
  List.forall_mem_cons.mpr ⟨(xOK_pure (xs_iload_n (k := 3) rfl (show decode cX12_chance 93 = .ok (.iload_n 3, 1) by decide +kernel))),
  List.forall_mem_cons.mpr ⟨(xOK_pure (xs_if_ne (show decode cX12_chance 94 = .ok (.ifCond .ne 7, 3) by decide +kernel) (by decide))),
  List.forall_mem_cons.mpr ⟨(xOK_pure (xs_lconst (n := 0) (show decode cX12_chance 97 = .ok (.lconst 0, 1) by decide +kernel) (by decide))),
  List.forall_mem_cons.mpr ⟨(xOK_pure (xs_goto (show decode cX12_chance 98 = .ok (.goto 4, 3) by decide +kernel) (by decide))),
  List.forall_mem_cons.mpr ⟨(xOK_pure (xs_lconst (n := 1) (show decode cX12_chance 101 = .ok (.lconst 1, 1) by decide +kernel) (by decide))),
  List.forall_mem_cons.mpr ⟨(Or.inr (Or.inr (Or.inl ⟨rfl, (show decode cX12_chance 102 = .ok (.lreturn, 1) by decide +kernel), rfl⟩))),
  List.forall_mem_cons.mpr ⟨(xOK_pure (xs_lload (show decode cX12_chance 103 = .ok (.lload 4, 2) by decide +kernel))),
  (fun _ h => absurd h List.not_mem_nil)⟩⟩⟩⟩⟩⟩⟩⟩⟩⟩⟩⟩⟩⟩⟩⟩⟩⟩⟩⟩
def pX12_chance_3 (ev : xEv) : List (Nat × xEn) := [(105, .inl (xop (xf_lload 6 2))), (107, .inr (.inl (1, 282, 2, 12))), (110, .inl (xop (xf_lstore 8 2))), (112, .inl (xop (xf_iload 3 1))), (113, .inl (xop (xf_if_ne 124))), (116, .inl (xop (xf_lload 6 2))), (118, .inl (xop (xf_lload 8 2))), (120, .inl (xop (xf_ldiv (fun x y => x / y)))), (121, .inl (xop (xf_goto 129))), (124, .inl (xop (xf_lload 4 2))), (126, .inl (xop (xf_lload 8 2))), (128, .inl (xop (xf_ldiv (fun x y => x / y)))), (129, .inr (.inr 2))]
set_option maxRecDepth 20000 in
theorem okpX12_chance_3 (ev : xEv) : ∀ q ∈ pX12_chance_3 ev, xEnOK ev xmi yX12_chance.cls yX12_chance.name cX12_chance 10 (some .long) q :=
  List.forall_mem_cons.mpr ⟨(xOK_pure (xs_lload (show decode cX12_chance 105 = .ok (.lload 6, 2) by decide +kernel))),
  List.forall_mem_cons.mpr ⟨(xcm mi_282 ⟨⟨(by decide +kernel), (by decide +kernel), (by decide +kernel)⟩, (by decide), xw_2293, xw_125, Or.inr (Or.inl ⟨rfl, _, (show decode cX12_chance 107 = .ok (.invokestatic 418, 3) by decide +kernel), xw_2291, xw_2292⟩)⟩),
  List.forall_mem_cons.mpr ⟨(xOK_pure (xs_lstore (show decode cX12_chance 110 = .ok (.lstore 8, 2) by decide +kernel) (by decide))),
  List.forall_mem_cons.mpr ⟨(xOK_pure (xs_iload_n (k := 3) rfl (show decode cX12_chance 112 = .ok (.iload_n 3, 1) by decide +kernel))),
  List.forall_mem_cons.mpr ⟨(xOK_pure (xs_if_ne (show decode cX12_chance 113 = .ok (.ifCond .ne 11, 3) by decide +kernel) (by decide))),
  List.forall_mem_cons.mpr ⟨(xOK_pure (xs_lload (show decode cX12_chance 116 = .ok (.lload 6, 2) by decide +kernel))),
  List.forall_mem_cons.mpr ⟨(xOK_pure (xs_lload (show decode cX12_chance 118 = .ok (.lload 8, 2) by decide +kernel))),
  List.forall_mem_cons.mpr ⟨(xOK_pure (xs_ldiv (show decode cX12_chance 120 = .ok (.ldiv, 1) by decide +kernel))),
  List.forall_mem_cons.mpr ⟨(xOK_pure (xs_goto (show decode cX12_chance 121 = .ok (.goto 8, 3) by decide +kernel) (by decide))),
  List.forall_mem_cons.mpr ⟨(xOK_pure (xs_lload (show decode cX12_chance 124 = .ok (.lload 4, 2) by decide +kernel))),
  List.forall_mem_cons.mpr ⟨(xOK_pure (xs_lload (show decode cX12_chance 126 = .ok (.lload 8, 2) by decide +kernel))),
  List.forall_mem_cons.mpr ⟨(xOK_pure (xs_ldiv (show decode cX12_chance 128 = .ok (.ldiv, 1) by decide +kernel))),
  List.forall_mem_cons.mpr ⟨(Or.inr (Or.inr (Or.inl ⟨rfl, (show decode cX12_chance 129 = .ok (.lreturn, 1) by decide +kernel), rfl⟩))),
  (fun _ h => absurd h List.not_mem_nil)⟩⟩⟩⟩⟩⟩⟩⟩⟩⟩⟩⟩⟩
def pX12_chance (ev : xEv) : List (Nat × xEn) := pX12_chance_0 ev ++ (pX12_chance_1 ev ++ (pX12_chance_2 ev ++ (pX12_chance_3 ev)))
theorem okpX12_chance (ev : xEv) : ∀ q ∈ pX12_chance ev, xEnOK ev xmi yX12_chance.cls yX12_chance.name cX12_chance 10 (some .long) q := List.forall_mem_append.mpr ⟨okpX12_chance_0 ev, List.forall_mem_append.mpr ⟨okpX12_chance_1 ev, List.forall_mem_append.mpr ⟨okpX12_chance_2 ev, okpX12_chance_3 ev⟩⟩⟩
theorem omX12_chance (ev : xEv) : xMethOK ev xmi yX12_chance.cls yX12_chance.name 283 (pX12_chance ev) := xMethOK.of mi_283 (by decide +kernel) (okpX12_chance ev)
def pX12_lanes_0 (ev : xEv) : List (Nat × xEn) := [(0, .inl (xop (xf_aload 0 1))), (1, .inl (xop (xf_push (.int 0) 1))), (2, .inl (xo_putf 12 47 .int)), (5, .inl (xop (xf_aload 0 1))), (6, .inl (xop (xf_iload 1 1))), (7, .inr (.inl (0, 277, 1, 12))), (10, .inl (xop (xf_if_eq 42))), (13, .inl (xop (xf_iload 2 1))), (14, .inl (xop (xf_push (.int 1) 1))), (15, .inl (xop (xf_push (.int 99) 2))), (17, .inr (.inl (1, 188, 3, 12))), (20, .inl (xop (xf_if_eq 42))), (23, .inl (xop (xf_iload 3 1))), (24, .inl (xop (xf_push (.int 1) 1))), (25, .inl (xop (xf_push (.int 99) 2))), (27, .inr (.inl (1, 188, 3, 12))), (30, .inl (xop (xf_if_eq 42))), (33, .inl (xop (xf_aload 0 1))), (34, .inl (xop (xf_iload 1 1))), (35, .inr (.inl (0, 279, 1, 12)))]
set_option maxRecDepth 20000 in
theorem okpX12_lanes_0 (ev : xEv) : ∀ q ∈ pX12_lanes_0 ev, xEnOK ev xmi yX12_lanes.cls yX12_lanes.name cX12_lanes 11 (some .int) q :=
  List.forall_mem_cons.mpr ⟨(xOK_pure (xs_aload_n (k := 0) rfl (show decode cX12_lanes 0 = .ok (.aload_n 0, 1) by decide +kernel))),
  List.forall_mem_cons.mpr ⟨(xOK_pure (xs_iconst (n := 0) (show decode cX12_lanes 1 = .ok (.iconst 0, 1) by decide +kernel) (by decide))),
  List.forall_mem_cons.mpr ⟨(xs_putf (k := 47) xcl_12 (by decide) rfl (show decode cX12_lanes 2 = .ok (.putfield 140, 3) by decide +kernel) xw_1756),
  List.forall_mem_cons.mpr ⟨(xOK_pure (xs_aload_n (k := 0) rfl (show decode cX12_lanes 5 = .ok (.aload_n 0, 1) by decide +kernel))),
  List.forall_mem_cons.mpr ⟨(xOK_pure (xs_iload_n (k := 1) rfl (show decode cX12_lanes 6 = .ok (.iload_n 1, 1) by decide +kernel))),
  List.forall_mem_cons.mpr ⟨(xcm mi_277 ⟨⟨(by decide +kernel), (by decide +kernel), (by decide +kernel)⟩, (by decide), xw_2273, xw_125, Or.inl ⟨rfl, _, _, _, _, (show decode cX12_lanes 7 = .ok (.invokevirtual 410, 3) by decide +kernel), xw_2270, xw_2272, xw_105, rfl⟩⟩),
  List.forall_mem_cons.mpr ⟨(xOK_pure (xs_if_eq (show decode cX12_lanes 10 = .ok (.ifCond .eq 32, 3) by decide +kernel) (by decide))),
  List.forall_mem_cons.mpr ⟨(xOK_pure (xs_iload_n (k := 2) rfl (show decode cX12_lanes 13 = .ok (.iload_n 2, 1) by decide +kernel))),
  List.forall_mem_cons.mpr ⟨(xOK_pure (xs_iconst (n := 1) (show decode cX12_lanes 14 = .ok (.iconst 1, 1) by decide +kernel) (by decide))),
  List.forall_mem_cons.mpr ⟨(xOK_pure (xs_bipush (n := 99) (show decode cX12_lanes 15 = .ok (.bipush 99, 2) by decide +kernel) (by decide))),
  List.forall_mem_cons.mpr ⟨(xcm mi_188 ⟨⟨(by decide +kernel), (by decide +kernel), (by decide +kernel)⟩, (by decide), xw_1912, xw_125, Or.inr (Or.inl ⟨rfl, _, (show decode cX12_lanes 17 = .ok (.invokestatic 146, 3) by decide +kernel), xw_1910, xw_1911⟩)⟩),
  List.forall_mem_cons.mpr ⟨(xOK_pure (xs_if_eq (show decode cX12_lanes 20 = .ok (.ifCond .eq 22, 3) by decide +kernel) (by decide))),
  List.forall_mem_cons.mpr ⟨(xOK_pure (xs_iload_n (k := 3) rfl (show decode cX12_lanes 23 = .ok (.iload_n 3, 1) by decide +kernel))),
  List.forall_mem_cons.mpr ⟨(xOK_pure (xs_iconst (n := 1) (show decode cX12_lanes 24 = .ok (.iconst 1, 1) by decide +kernel) (by decide))),
  List.forall_mem_cons.mpr ⟨(xOK_pure (xs_bipush (n := 99) (show decode cX12_lanes 25 = .ok (.bipush 99, 2) by decide +kernel) (by decide))),
  List.forall_mem_cons.mpr ⟨(xcm mi_188 ⟨⟨(by decide +kernel), (by decide +kernel), (by decide +kernel)⟩, (by decide), xw_1912, xw_125, Or.inr (Or.inl ⟨rfl, _, (show decode cX12_lanes 27 = .ok (.invokestatic 146, 3) by decide +kernel), xw_1910, xw_1911⟩)⟩),
  List.forall_mem_cons.mpr ⟨(xOK_pure (xs_if_eq (show decode cX12_lanes 30 = .ok (.ifCond .eq 12, 3) by decide +kernel) (by decide))),
  List.forall_mem_cons.mpr ⟨(xOK_pure (xs_aload_n (k := 0) rfl (show decode cX12_lanes 33 = .ok (.aload_n 0, 1) by decide +kernel))),
  List.forall_mem_cons.mpr ⟨(xOK_pure (xs_iload_n (k := 1) rfl (show decode cX12_lanes 34 = .ok (.iload_n 1, 1) by decide +kernel))),
  List.forall_mem_cons.mpr ⟨(xcm mi_279 ⟨⟨(by decide +kernel), (by decide +kernel), (by decide +kernel)⟩, (by decide), xw_2281, xw_125, Or.inl ⟨rfl, _, _, _, _, (show decode cX12_lanes 35 = .ok (.invokevirtual 413, 3) by decide +kernel), xw_2278, xw_2280, xw_106, rfl⟩⟩),
  (fun _ h => absurd h List.not_mem_nil)⟩⟩⟩⟩⟩⟩⟩⟩⟩⟩⟩⟩⟩⟩⟩⟩⟩⟩⟩⟩
def pX12_lanes_1 (ev : xEv) : List (Nat × xEn) := [(38, .inl (xop (xf_push (.int 2) 1))), (39, .inl (xop (xf_icmp_ge 44))), (42, .inl (xop (xf_push (.int (-1)) 1))), (43, .inr (.inr 1)), (44, .inl (xop (xf_push (.int (-1)) 1))), (45, .inl (xop (xf_istore 4 2))), (47, .inl (xop (xf_push (.long 0) 1))), (48, .inl (xop (xf_lstore 5 2))), (50, .inl (xop (xf_push (.int 0) 1))), (51, .inl (xop (xf_istore 7 2))), (53, .inl (xop (xf_iload 7 2))), (55, .inl (xop (xf_aload 0 1))), (56, .inl (xop (xf_iload 1 1))), (57, .inr (.inl (0, 279, 1, 12))), (60, .inl (xop (xf_icmp_ge 152))), (63, .inl (xop (xf_push (.int 0) 1))), (64, .inl (xop (xf_istore 8 2))), (66, .inl (xop (xf_iload 8 2))), (68, .inl (xop (xf_aload 0 1))), (69, .inl (xop (xf_iload 1 1)))]
set_option maxRecDepth 20000 in
theorem okpX12_lanes_1 (ev : xEv) : ∀ q ∈ pX12_lanes_1 ev, xEnOK ev xmi yX12_lanes.cls yX12_lanes.name cX12_lanes 11 (some .int) q :=
  List.forall_mem_cons.mpr ⟨(xOK_pure (xs_iconst (n := 2) (show decode cX12_lanes 38 = .ok (.iconst 2, 1) by decide +kernel) (by decide))),
  List.forall_mem_cons.mpr ⟨(xOK_pure (xs_icmp_ge (show decode cX12_lanes 39 = .ok (.if_icmp .ge 5, 3) by decide +kernel) (by decide))),
  List.forall_mem_cons.mpr ⟨(xOK_pure (xs_iconst (n := (-1)) (show decode cX12_lanes 42 = .ok (.iconst (-1), 1) by decide +kernel) (by decide))),
  List.forall_mem_cons.mpr ⟨(Or.inr (Or.inl ⟨rfl, (show decode cX12_lanes 43 = .ok (.ireturn, 1) by decide +kernel), rfl⟩)),
  List.forall_mem_cons.mpr ⟨(xOK_pure (xs_iconst (n := (-1)) (show decode cX12_lanes 44 = .ok (.iconst (-1), 1) by decide +kernel) (by decide))),
  List.forall_mem_cons.mpr ⟨(xOK_pure (xs_istore (show decode cX12_lanes 45 = .ok (.istore 4, 2) by decide +kernel) (by decide))),
  List.forall_mem_cons.mpr ⟨(xOK_pure (xs_lconst (n := 0) (show decode cX12_lanes 47 = .ok (.lconst 0, 1) by decide +kernel) (by decide))),
  List.forall_mem_cons.mpr ⟨(xOK_pure (xs_lstore (show decode cX12_lanes 48 = .ok (.lstore 5, 2) by decide +kernel) (by decide))),
  List.forall_mem_cons.mpr ⟨(xOK_pure (xs_iconst (n := 0) (show decode cX12_lanes 50 = .ok (.iconst 0, 1) by decide +kernel) (by decide))),
  List.forall_mem_cons.mpr ⟨(xOK_pure (xs_istore (show decode cX12_lanes 51 = .ok (.istore 7, 2) by decide +kernel) (by decide))),
  List.forall_mem_cons.mpr ⟨(xOK_pure (xs_iload (show decode cX12_lanes 53 = .ok (.iload 7, 2) by decide +kernel))),
  List.forall_mem_cons.mpr ⟨(xOK_pure (xs_aload_n (k := 0) rfl (show decode cX12_lanes 55 = .ok (.aload_n 0, 1) by decide +kernel))),
  List.forall_mem_cons.mpr ⟨(xOK_pure (xs_iload_n (k := 1) rfl (show decode cX12_lanes 56 = .ok (.iload_n 1, 1) by decide +kernel))),
  List.forall_mem_cons.mpr ⟨(xcm mi_279 ⟨⟨(by decide +kernel), (by decide +kernel), (by decide +kernel)⟩, (by decide), xw_2281, xw_125, Or.inl ⟨rfl, _, _, _, _, (show decode cX12_lanes 57 = .ok (.invokevirtual 413, 3) by decide +kernel), xw_2278, xw_2280, xw_106, rfl⟩⟩),
  List.forall_mem_cons.mpr ⟨(xOK_pure (xs_icmp_ge (show decode cX12_lanes 60 = .ok (.if_icmp .ge 92, 3) by decide +kernel) (by decide))),
  List.forall_mem_cons.mpr ⟨(xOK_pure (xs_iconst (n := 0) (show decode cX12_lanes 63 = .ok (.iconst 0, 1) by decide +kernel) (by decide))),
  List.forall_mem_cons.mpr ⟨(xOK_pure (xs_istore (show decode cX12_lanes 64 = .ok (.istore 8, 2) by decide +kernel) (by decide))),
  List.forall_mem_cons.mpr ⟨(xOK_pure (xs_iload (show decode cX12_lanes 66 = .ok (.iload 8, 2) by decide +kernel))),
  List.forall_mem_cons.mpr ⟨(xOK_pure (xs_aload_n (k := 0) rfl (show decode cX12_lanes 68 = .ok (.aload_n 0, 1) by decide +kernel))),
  List.forall_mem_cons.mpr ⟨(xOK_pure (xs_iload_n (k := 1) rfl (show decode cX12_lanes 69 = .ok (.iload_n 1, 1) by decide +kernel))),
  (fun _ h => absurd h List.not_mem_nil)⟩⟩⟩⟩⟩⟩⟩⟩⟩⟩⟩⟩⟩⟩⟩⟩⟩⟩⟩⟩
def pX12_lanes_2 (ev : xEv) : List (Nat × xEn) := [(70, .inr (.inl (0, 279, 1, 12))), (73, .inl (xop (xf_icmp_ge 146))), (76, .inl (xop (xf_iload 7 2))), (78, .inl (xop (xf_iload 8 2))), (80, .inl (xop (xf_icmp_ne 86))), (83, .inl (xop (xf_goto 140))), (86, .inl (xop (xf_aload 0 1))), (87, .inl (xop (xf_iload 1 1))), (88, .inl (xop (xf_iload 7 2))), (90, .inr (.inl (0, 281, 2, 12))), (93, .inl (xop (xf_iload 2 1))), (94, .inl (xop xf_i2l)), (95, .inl (xop (xf_lbin (fun x y => x * y)))), (96, .inl (xop (xf_aload 0 1))), (97, .inl (xop (xf_iload 1 1))), (98, .inl (xop (xf_iload 8 2))), (100, .inr (.inl (0, 281, 2, 12))), (103, .inl (xop (xf_iload 3 1))), (104, .inl (xop xf_i2l)), (105, .inl (xop (xf_lbin (fun x y => x * y))))]
set_option maxRecDepth 20000 in
theorem okpX12_lanes_2 (ev : xEv) : ∀ q ∈ pX12_lanes_2 ev, xEnOK ev xmi yX12_lanes.cls yX12_lanes.name cX12_lanes 11 (some .int) q :=
  List.forall_mem_cons.mpr ⟨(xcm mi_279 ⟨⟨(by decide +kernel), (by decide +kernel), (by decide +kernel)⟩, (by decide), xw_2281, xw_125, Or.inl ⟨rfl, _, _, _, _, (show decode cX12_lanes 70 = .ok (.invokevirtual 413, 3) by decide +kernel), xw_2278, xw_2280, xw_106, rfl⟩⟩),
  List.forall_mem_cons.mpr ⟨(xOK_pure (xs_icmp_ge (show decode cX12_lanes 73 = .ok (.if_icmp .ge 73, 3) by decide +kernel) (by decide))),
  List.forall_mem_cons.mpr ⟨(xOK_pure (xs_iload (show decode cX12_lanes 76 = .ok (.iload 7, 2) by decide +kernel))),
  List.forall_mem_cons.mpr ⟨(xOK_pure (xs_iload (show decode cX12_lanes 78 = .ok (.iload 8, 2) by decide +kernel))),
  List.forall_mem_cons.mpr ⟨(xOK_pure (xs_icmp_ne (show decode cX12_lanes 80 = .ok (.if_icmp .ne 6, 3) by decide +kernel) (by decide))),
  List.forall_mem_cons.mpr ⟨(xOK_pure (xs_goto (show decode cX12_lanes 83 = .ok (.goto 57, 3) by decide +kernel) (by decide))),
  List.forall_mem_cons.mpr ⟨(xOK_pure (xs_aload_n (k := 0) rfl (show decode cX12_lanes 86 = .ok (.aload_n 0, 1) by decide +kernel))),
  List.forall_mem_cons.mpr ⟨(xOK_pure (xs_iload_n (k := 1) rfl (show decode cX12_lanes 87 = .ok (.iload_n 1, 1) by decide +kernel))),
  List.forall_mem_cons.mpr ⟨(xOK_pure (xs_iload (show decode cX12_lanes 88 = .ok (.iload 7, 2) by decide +kernel))),
  List.forall_mem_cons.mpr ⟨(xcm mi_281 ⟨⟨(by decide +kernel), (by decide +kernel), (by decide +kernel)⟩, (by decide), xw_2289, xw_125, Or.inl ⟨rfl, _, _, _, _, (show decode cX12_lanes 90 = .ok (.invokevirtual 422, 3) by decide +kernel), xw_2286, xw_2288, xw_107, rfl⟩⟩),
  List.forall_mem_cons.mpr ⟨(xOK_pure (xs_iload_n (k := 2) rfl (show decode cX12_lanes 93 = .ok (.iload_n 2, 1) by decide +kernel))),
  List.forall_mem_cons.mpr ⟨(xOK_pure (xs_i2l (show decode cX12_lanes 94 = .ok (.i2l, 1) by decide +kernel))),
  List.forall_mem_cons.mpr ⟨(xOK_pure (xs_lmul (show decode cX12_lanes 95 = .ok (.lmul, 1) by decide +kernel))),
  List.forall_mem_cons.mpr ⟨(xOK_pure (xs_aload_n (k := 0) rfl (show decode cX12_lanes 96 = .ok (.aload_n 0, 1) by decide +kernel))),
  List.forall_mem_cons.mpr ⟨(xOK_pure (xs_iload_n (k := 1) rfl (show decode cX12_lanes 97 = .ok (.iload_n 1, 1) by decide +kernel))),
  List.forall_mem_cons.mpr ⟨(xOK_pure (xs_iload (show decode cX12_lanes 98 = .ok (.iload 8, 2) by decide +kernel))),
  List.forall_mem_cons.mpr ⟨(xcm mi_281 ⟨⟨(by decide +kernel), (by decide +kernel), (by decide +kernel)⟩, (by decide), xw_2289, xw_125, Or.inl ⟨rfl, _, _, _, _, (show decode cX12_lanes 100 = .ok (.invokevirtual 422, 3) by decide +kernel), xw_2286, xw_2288, xw_107, rfl⟩⟩),
  List.forall_mem_cons.mpr ⟨(xOK_pure (xs_iload_n (k := 3) rfl (show decode cX12_lanes 103 = .ok (.iload_n 3, 1) by decide +kernel))),
  List.forall_mem_cons.mpr ⟨(xOK_pure (xs_i2l (show decode cX12_lanes 104 = .ok (.i2l, 1) by decide +kernel))),
  List.forall_mem_cons.mpr ⟨(xOK_pure (xs_lmul (show decode cX12_lanes 105 = .ok (.lmul, 1) by decide +kernel))),
  (fun _ h => absurd h List.not_mem_nil)⟩⟩⟩⟩⟩⟩⟩⟩⟩⟩⟩⟩⟩⟩⟩⟩⟩⟩⟩⟩
def pX12_lanes_3 (ev : xEv) : List (Nat × xEn) := [(106, .inl (xop (xf_lbin (fun x y => x + y)))), (107, .inl (xop (xf_lstore 9 2))), (109, .inl (xop (xf_iload 4 2))), (111, .inl (xop (xf_push (.int (-1)) 1))), (112, .inl (xop (xf_icmp_eq 126))), (115, .inl (xop (xf_lload 9 2))), (117, .inl (xop (xf_lload 5 2))), (119, .inl (xop xf_lcmp)), (120, .inl (xop (xf_if_gt 126))), (123, .inl (xop (xf_goto 140))), (126, .inl (xop (xf_push (.int 100) 2))), (128, .inl (xop (xf_iload 7 2))), (130, .inl (xop (xf_bin (fun x y => x * y)))), (131, .inl (xop (xf_iload 8 2))), (133, .inl (xop (xf_bin (fun x y => x + y)))), (134, .inl (xop (xf_istore 4 2))), (136, .inl (xop (xf_lload 9 2))), (138, .inl (xop (xf_lstore 5 2))), (140, .inl (xop (xf_iinc 8 1))), (143, .inl (xop (xf_goto 66)))]
set_option maxRecDepth 20000 in
theorem okpX12_lanes_3 (ev : xEv) : ∀ q ∈ pX12_lanes_3 ev, xEnOK ev xmi yX12_lanes.cls yX12_lanes.name cX12_lanes 11 (some .int) q :=
  List.forall_mem_cons.mpr ⟨(xOK_pure (xs_ladd (show decode cX12_lanes 106 = .ok (.ladd, 1) by decide +kernel))),
  List.forall_mem_cons.mpr ⟨(xOK_pure (xs_lstore (show decode cX12_lanes 107 = .ok (.lstore 9, 2) by decide +kernel) (by decide))),
  List.forall_mem_cons.mpr ⟨(xOK_pure (xs_iload (show decode cX12_lanes 109 = .ok (.iload 4, 2) by decide +kernel))),
  List.forall_mem_cons.mpr ⟨(xOK_pure (xs_iconst (n := (-1)) (show decode cX12_lanes 111 = .ok (.iconst (-1), 1) by decide +kernel) (by decide))),
  List.forall_mem_cons.mpr ⟨(xOK_pure (xs_icmp_eq (show decode cX12_lanes 112 = .ok (.if_icmp .eq 14, 3) by decide +kernel) (by decide))),
  List.forall_mem_cons.mpr ⟨(xOK_pure (xs_lload (show decode cX12_lanes 115 = .ok (.lload 9, 2) by decide +kernel))),
  List.forall_mem_cons.mpr ⟨(xOK_pure (xs_lload (show decode cX12_lanes 117 = .ok (.lload 5, 2) by decide +kernel))),
  List.forall_mem_cons.mpr ⟨(xOK_pure (xs_lcmp (show decode cX12_lanes 119 = .ok (.lcmp, 1) by decide +kernel))),
  List.forall_mem_cons.mpr ⟨(xOK_pure (xs_if_gt (show decode cX12_lanes 120 = .ok (.ifCond .gt 6, 3) by decide +kernel) (by decide))),
  List.forall_mem_cons.mpr ⟨(xOK_pure (xs_goto (show decode cX12_lanes 123 = .ok (.goto 17, 3) by decide +kernel) (by decide))),
  List.forall_mem_cons.mpr ⟨(xOK_pure (xs_bipush (n := 100) (show decode cX12_lanes 126 = .ok (.bipush 100, 2) by decide +kernel) (by decide))),
  List.forall_mem_cons.mpr ⟨(xOK_pure (xs_iload (show decode cX12_lanes 128 = .ok (.iload 7, 2) by decide +kernel))),
  List.forall_mem_cons.mpr ⟨(xOK_pure (xs_imul (show decode cX12_lanes 130 = .ok (.imul, 1) by decide +kernel))),
  List.forall_mem_cons.mpr ⟨(xOK_pure (xs_iload (show decode cX12_lanes 131 = .ok (.iload 8, 2) by decide +kernel))),
  List.forall_mem_cons.mpr ⟨(xOK_pure (xs_iadd (show decode cX12_lanes 133 = .ok (.iadd, 1) by decide +kernel))),
  List.forall_mem_cons.mpr ⟨(xOK_pure (xs_istore (show decode cX12_lanes 134 = .ok (.istore 4, 2) by decide +kernel) (by decide))),
  List.forall_mem_cons.mpr ⟨(xOK_pure (xs_lload (show decode cX12_lanes 136 = .ok (.lload 9, 2) by decide +kernel))),
  List.forall_mem_cons.mpr ⟨(xOK_pure (xs_lstore (show decode cX12_lanes 138 = .ok (.lstore 5, 2) by decide +kernel) (by decide))),
  List.forall_mem_cons.mpr ⟨(xOK_pure (xs_iinc (n := 1) (show decode cX12_lanes 140 = .ok (.iinc 8 1, 3) by decide +kernel) (by decide) (by decide))),
  List.forall_mem_cons.mpr ⟨(xOK_pure (xs_goto (show decode cX12_lanes 143 = .ok (.goto (-77), 3) by decide +kernel) (by decide))),
  (fun _ h => absurd h List.not_mem_nil)⟩⟩⟩⟩⟩⟩⟩⟩⟩⟩⟩⟩⟩⟩⟩⟩⟩⟩⟩⟩
def pX12_lanes_4 (ev : xEv) : List (Nat × xEn) := [(146, .inl (xop (xf_iinc 7 1))), (149, .inl (xop (xf_goto 53))), (152, .inl (xop (xf_iload 4 2))), (154, .inr (.inr 1))]
set_option maxRecDepth 20000 in
theorem okpX12_lanes_4 (ev : xEv) : ∀ q ∈ pX12_lanes_4 ev, xEnOK ev xmi yX12_lanes.cls yX12_lanes.name cX12_lanes 11 (some .int) q :=
  List.forall_mem_cons.mpr ⟨(xOK_pure (xs_iinc (n := 1) (show decode cX12_lanes 146 = .ok (.iinc 7 1, 3) by decide +kernel) (by decide) (by decide))),
  List.forall_mem_cons.mpr ⟨(xOK_pure (xs_goto (show decode cX12_lanes 149 = .ok (.goto (-96), 3) by decide +kernel) (by decide))),
  List.forall_mem_cons.mpr ⟨(xOK_pure (xs_iload (show decode cX12_lanes 152 = .ok (.iload 4, 2) by decide +kernel))),
  List.forall_mem_cons.mpr ⟨(Or.inr (Or.inl ⟨rfl, (show decode cX12_lanes 154 = .ok (.ireturn, 1) by decide +kernel), rfl⟩)),
  (fun _ h => absurd h List.not_mem_nil)⟩⟩⟩⟩
def pX12_lanes (ev : xEv) : List (Nat × xEn) := pX12_lanes_0 ev ++ (pX12_lanes_1 ev ++ (pX12_lanes_2 ev ++ (pX12_lanes_3 ev ++ (pX12_lanes_4 ev))))
theorem okpX12_lanes (ev : xEv) : ∀ q ∈ pX12_lanes ev, xEnOK ev xmi yX12_lanes.cls yX12_lanes.name cX12_lanes 11 (some .int) q := List.forall_mem_append.mpr ⟨okpX12_lanes_0 ev, List.forall_mem_append.mpr ⟨okpX12_lanes_1 ev, List.forall_mem_append.mpr ⟨okpX12_lanes_2 ev, List.forall_mem_append.mpr ⟨okpX12_lanes_3 ev, okpX12_lanes_4 ev⟩⟩⟩⟩
theorem omX12_lanes (ev : xEv) : xMethOK ev xmi yX12_lanes.cls yX12_lanes.name 284 (pX12_lanes ev) := xMethOK.of mi_284 (by decide +kernel) (okpX12_lanes ev)
def pX12_needsOne_0 (ev : xEv) : List (Nat × xEn) := [(0, .inl (xop (xf_aload 0 1))), (1, .inl (xop (xf_iload 1 1))), (2, .inl (xop (xf_push (.int 0) 1))), (3, .inr (.inl (0, 195, 2, 12))), (6, .inl (xop (xf_push (.int (-1)) 1))), (7, .inl (xop (xf_icmp_eq 55))), (10, .inl (xop (xf_aload 0 1))), (11, .inl (xop (xf_iload 1 1))), (12, .inl (xop (xf_push (.int 9) 2))), (14, .inr (.inl (0, 195, 2, 12))), (17, .inl (xop (xf_aload 0 1))), (18, .inl (xop (xf_getf 12 48))), (21, .inl (xop (xf_push (.int 0) 1))), (22, .inl (xop (xf_ald (ev.1 0)))), (23, .inl (xop (xf_icmp_gt 55))), (26, .inl (xop (xf_aload 0 1))), (27, .inl (xop (xf_iload 1 1))), (28, .inl (xop (xf_push (.int 4) 1))), (29, .inr (.inl (0, 195, 2, 12))), (32, .inl (xop (xf_if_gt 51)))]
set_option maxRecDepth 20000 in
theorem okpX12_needsOne_0 (ev : xEv) : ∀ q ∈ pX12_needsOne_0 ev, xEnOK ev xmi yX12_needsOne.cls yX12_needsOne.name cX12_needsOne 2 (some .boolean) q :=
  List.forall_mem_cons.mpr ⟨(xOK_pure (xs_aload_n (k := 0) rfl (show decode cX12_needsOne 0 = .ok (.aload_n 0, 1) by decide +kernel))),
  List.forall_mem_cons.mpr ⟨(xOK_pure (xs_iload_n (k := 1) rfl (show decode cX12_needsOne 1 = .ok (.iload_n 1, 1) by decide +kernel))),
  List.forall_mem_cons.mpr ⟨(xOK_pure (xs_iconst (n := 0) (show decode cX12_needsOne 2 = .ok (.iconst 0, 1) by decide +kernel) (by decide))),
  List.forall_mem_cons.mpr ⟨(xcm mi_195 ⟨⟨(by decide +kernel), (by decide +kernel), (by decide +kernel)⟩, (by decide), xw_2161, xw_125, Or.inl ⟨rfl, _, _, _, _, (show decode cX12_needsOne 3 = .ok (.invokevirtual 344, 3) by decide +kernel), xw_2158, xw_2160, xw_89, rfl⟩⟩),
  List.forall_mem_cons.mpr ⟨(xOK_pure (xs_iconst (n := (-1)) (show decode cX12_needsOne 6 = .ok (.iconst (-1), 1) by decide +kernel) (by decide))),
  List.forall_mem_cons.mpr ⟨(xOK_pure (xs_icmp_eq (show decode cX12_needsOne 7 = .ok (.if_icmp .eq 48, 3) by decide +kernel) (by decide))),
  List.forall_mem_cons.mpr ⟨(xOK_pure (xs_aload_n (k := 0) rfl (show decode cX12_needsOne 10 = .ok (.aload_n 0, 1) by decide +kernel))),
  List.forall_mem_cons.mpr ⟨(xOK_pure (xs_iload_n (k := 1) rfl (show decode cX12_needsOne 11 = .ok (.iload_n 1, 1) by decide +kernel))),
  List.forall_mem_cons.mpr ⟨(xOK_pure (xs_bipush (n := 9) (show decode cX12_needsOne 12 = .ok (.bipush 9, 2) by decide +kernel) (by decide))),
  List.forall_mem_cons.mpr ⟨(xcm mi_195 ⟨⟨(by decide +kernel), (by decide +kernel), (by decide +kernel)⟩, (by decide), xw_2161, xw_125, Or.inl ⟨rfl, _, _, _, _, (show decode cX12_needsOne 14 = .ok (.invokevirtual 344, 3) by decide +kernel), xw_2158, xw_2160, xw_89, rfl⟩⟩),
  List.forall_mem_cons.mpr ⟨(xOK_pure (xs_aload_n (k := 0) rfl (show decode cX12_needsOne 17 = .ok (.aload_n 0, 1) by decide +kernel))),
  List.forall_mem_cons.mpr ⟨(xOK_pure (xs_getf xcl_12 (by decide) (show decode cX12_needsOne 18 = .ok (.getfield 121, 3) by decide +kernel) xw_1757)),
  List.forall_mem_cons.mpr ⟨(xOK_pure (xs_iconst (n := 0) (show decode cX12_needsOne 21 = .ok (.iconst 0, 1) by decide +kernel) (by decide))),
  List.forall_mem_cons.mpr ⟨(xOK_pure (xs_iald (show decode cX12_needsOne 22 = .ok (.iaload, 1) by decide +kernel))),
  List.forall_mem_cons.mpr ⟨(xOK_pure (xs_icmp_gt (show decode cX12_needsOne 23 = .ok (.if_icmp .gt 32, 3) by decide +kernel) (by decide))),
  List.forall_mem_cons.mpr ⟨(xOK_pure (xs_aload_n (k := 0) rfl (show decode cX12_needsOne 26 = .ok (.aload_n 0, 1) by decide +kernel))),
  List.forall_mem_cons.mpr ⟨(xOK_pure (xs_iload_n (k := 1) rfl (show decode cX12_needsOne 27 = .ok (.iload_n 1, 1) by decide +kernel))),
  List.forall_mem_cons.mpr ⟨(xOK_pure (xs_iconst (n := 4) (show decode cX12_needsOne 28 = .ok (.iconst 4, 1) by decide +kernel) (by decide))),
  List.forall_mem_cons.mpr ⟨(xcm mi_195 ⟨⟨(by decide +kernel), (by decide +kernel), (by decide +kernel)⟩, (by decide), xw_2161, xw_125, Or.inl ⟨rfl, _, _, _, _, (show decode cX12_needsOne 29 = .ok (.invokevirtual 344, 3) by decide +kernel), xw_2158, xw_2160, xw_89, rfl⟩⟩),
  List.forall_mem_cons.mpr ⟨(xOK_pure (xs_if_gt (show decode cX12_needsOne 32 = .ok (.ifCond .gt 19, 3) by decide +kernel) (by decide))),
  (fun _ h => absurd h List.not_mem_nil)⟩⟩⟩⟩⟩⟩⟩⟩⟩⟩⟩⟩⟩⟩⟩⟩⟩⟩⟩⟩
def pX12_needsOne_1 (ev : xEv) : List (Nat × xEn) := [(35, .inl (xop (xf_aload 0 1))), (36, .inl (xop (xf_iload 1 1))), (37, .inl (xop (xf_push (.int 5) 1))), (38, .inr (.inl (0, 195, 2, 12))), (41, .inl (xop (xf_aload 0 1))), (42, .inl (xop (xf_iload 1 1))), (43, .inl (xop (xf_push (.int 6) 2))), (45, .inr (.inl (0, 195, 2, 12))), (48, .inl (xop (xf_icmp_lt 55))), (51, .inl (xop (xf_push (.int 1) 1))), (52, .inl (xop (xf_goto 56))), (55, .inl (xop (xf_push (.int 0) 1))), (56, .inr (.inr 4))]
set_option maxRecDepth 20000 in
theorem okpX12_needsOne_1 (ev : xEv) : ∀ q ∈ pX12_needsOne_1 ev, xEnOK ev xmi yX12_needsOne.cls yX12_needsOne.name cX12_needsOne 2 (some .boolean) q :=
  List.forall_mem_cons.mpr ⟨(xOK_pure (xs_aload_n (k := 0) rfl (show decode cX12_needsOne 35 = .ok (.aload_n 0, 1) by decide +kernel))),
  List.forall_mem_cons.mpr ⟨(xOK_pure (xs_iload_n (k := 1) rfl (show decode cX12_needsOne 36 = .ok (.iload_n 1, 1) by decide +kernel))),
  List.forall_mem_cons.mpr ⟨(xOK_pure (xs_iconst (n := 5) (show decode cX12_needsOne 37 = .ok (.iconst 5, 1) by decide +kernel) (by decide))),
  List.forall_mem_cons.mpr ⟨(xcm mi_195 ⟨⟨(by decide +kernel), (by decide +kernel), (by decide +kernel)⟩, (by decide), xw_2161, xw_125, Or.inl ⟨rfl, _, _, _, _, (show decode cX12_needsOne 38 = .ok (.invokevirtual 344, 3) by decide +kernel), xw_2158, xw_2160, xw_89, rfl⟩⟩),
  List.forall_mem_cons.mpr ⟨(xOK_pure (xs_aload_n (k := 0) rfl (show decode cX12_needsOne 41 = .ok (.aload_n 0, 1) by decide +kernel))),
  List.forall_mem_cons.mpr ⟨(xOK_pure (xs_iload_n (k := 1) rfl (show decode cX12_needsOne 42 = .ok (.iload_n 1, 1) by decide +kernel))),
  List.forall_mem_cons.mpr ⟨(xOK_pure (xs_bipush (n := 6) (show decode cX12_needsOne 43 = .ok (.bipush 6, 2) by decide +kernel) (by decide))),
  List.forall_mem_cons.mpr ⟨(xcm mi_195 ⟨⟨(by decide +kernel), (by decide +kernel), (by decide +kernel)⟩, (by decide), xw_2161, xw_125, Or.inl ⟨rfl, _, _, _, _, (show decode cX12_needsOne 45 = .ok (.invokevirtual 344, 3) by decide +kernel), xw_2158, xw_2160, xw_89, rfl⟩⟩),
  List.forall_mem_cons.mpr ⟨(xOK_pure (xs_icmp_lt (show decode cX12_needsOne 48 = .ok (.if_icmp .lt 7, 3) by decide +kernel) (by decide))),
  List.forall_mem_cons.mpr ⟨(xOK_pure (xs_iconst (n := 1) (show decode cX12_needsOne 51 = .ok (.iconst 1, 1) by decide +kernel) (by decide))),
  List.forall_mem_cons.mpr ⟨(xOK_pure (xs_goto (show decode cX12_needsOne 52 = .ok (.goto 4, 3) by decide +kernel) (by decide))),
  List.forall_mem_cons.mpr ⟨(xOK_pure (xs_iconst (n := 0) (show decode cX12_needsOne 55 = .ok (.iconst 0, 1) by decide +kernel) (by decide))),
  List.forall_mem_cons.mpr ⟨(Or.inr (Or.inr (Or.inr (Or.inr (Or.inl ⟨rfl, (show decode cX12_needsOne 56 = .ok (.ireturn, 1) by decide +kernel), rfl⟩))))),
  (fun _ h => absurd h List.not_mem_nil)⟩⟩⟩⟩⟩⟩⟩⟩⟩⟩⟩⟩⟩
def pX12_needsOne (ev : xEv) : List (Nat × xEn) := pX12_needsOne_0 ev ++ (pX12_needsOne_1 ev)
theorem okpX12_needsOne (ev : xEv) : ∀ q ∈ pX12_needsOne ev, xEnOK ev xmi yX12_needsOne.cls yX12_needsOne.name cX12_needsOne 2 (some .boolean) q := List.forall_mem_append.mpr ⟨okpX12_needsOne_0 ev, okpX12_needsOne_1 ev⟩
theorem omX12_needsOne (ev : xEv) : xMethOK ev xmi yX12_needsOne.cls yX12_needsOne.name 285 (pX12_needsOne ev) := xMethOK.of mi_285 (by decide +kernel) (okpX12_needsOne ev)
def pX12_findNeedy_0 (ev : xEv) : List (Nat × xEn) := [(0, .inl (xop (xf_aload 0 1))), (1, .inl (xop (xf_push (.int 0) 1))), (2, .inl (xo_putf 12 59 .int)), (5, .inl (xop (xf_push (.int 0) 1))), (6, .inl (xop (xf_istore 1 1))), (7, .inl (xop (xf_iload 1 1))), (8, .inl (xop (xf_aload 0 1))), (9, .inl (xop (xf_getf 12 21))), (12, .inl (xop (xf_icmp_ge 52))), (15, .inl (xop (xf_aload 0 1))), (16, .inl (xop (xf_iload 1 1))), (17, .inr (.inl (0, 285, 1, 12))), (20, .inl (xop (xf_if_ne 26))), (23, .inl (xop (xf_goto 46))), (26, .inl (xop (xf_aload 0 1))), (27, .inl (xop (xf_getf 12 58))), (30, .inl (xop (xf_aload 0 1))), (31, .inl (xop (xf_getf 12 59))), (34, .inl (xop (xf_iload 1 1))), (35, .inl (xo_ast (ev.1 0) (fun x => x)))]
set_option maxRecDepth 20000 in
theorem okpX12_findNeedy_0 (ev : xEv) : ∀ q ∈ pX12_findNeedy_0 ev, xEnOK ev xmi yX12_findNeedy.cls yX12_findNeedy.name cX12_findNeedy 2 (some .int) q :=
  List.forall_mem_cons.mpr ⟨(xOK_pure (xs_aload_n (k := 0) rfl (show decode cX12_findNeedy 0 = .ok (.aload_n 0, 1) by decide +kernel))),
  List.forall_mem_cons.mpr ⟨(xOK_pure (xs_iconst (n := 0) (show decode cX12_findNeedy 1 = .ok (.iconst 0, 1) by decide +kernel) (by decide))),
  List.forall_mem_cons.mpr ⟨(xs_putf (k := 59) xcl_12 (by decide) rfl (show decode cX12_findNeedy 2 = .ok (.putfield 426, 3) by decide +kernel) xw_1768),
  List.forall_mem_cons.mpr ⟨(xOK_pure (xs_iconst (n := 0) (show decode cX12_findNeedy 5 = .ok (.iconst 0, 1) by decide +kernel) (by decide))),
  List.forall_mem_cons.mpr ⟨(xOK_pure (xs_istore_n (k := 1) rfl (show decode cX12_findNeedy 6 = .ok (.istore_n 1, 1) by decide +kernel) (by decide))),
  List.forall_mem_cons.mpr ⟨(xOK_pure (xs_iload_n (k := 1) rfl (show decode cX12_findNeedy 7 = .ok (.iload_n 1, 1) by decide +kernel))),
  List.forall_mem_cons.mpr ⟨(xOK_pure (xs_aload_n (k := 0) rfl (show decode cX12_findNeedy 8 = .ok (.aload_n 0, 1) by decide +kernel))),
  List.forall_mem_cons.mpr ⟨(xOK_pure (xs_getf xcl_12 (by decide) (show decode cX12_findNeedy 9 = .ok (.getfield 153, 3) by decide +kernel) xw_1730)),
  List.forall_mem_cons.mpr ⟨(xOK_pure (xs_icmp_ge (show decode cX12_findNeedy 12 = .ok (.if_icmp .ge 40, 3) by decide +kernel) (by decide))),
  List.forall_mem_cons.mpr ⟨(xOK_pure (xs_aload_n (k := 0) rfl (show decode cX12_findNeedy 15 = .ok (.aload_n 0, 1) by decide +kernel))),
  List.forall_mem_cons.mpr ⟨(xOK_pure (xs_iload_n (k := 1) rfl (show decode cX12_findNeedy 16 = .ok (.iload_n 1, 1) by decide +kernel))),
  List.forall_mem_cons.mpr ⟨(xcm mi_285 ⟨⟨(by decide +kernel), (by decide +kernel), (by decide +kernel)⟩, (by decide), xw_2309, xw_125, Or.inl ⟨rfl, _, _, _, _, (show decode cX12_findNeedy 17 = .ok (.invokevirtual 429, 3) by decide +kernel), xw_2306, xw_2308, xw_109, rfl⟩⟩),
  List.forall_mem_cons.mpr ⟨(xOK_pure (xs_if_ne (show decode cX12_findNeedy 20 = .ok (.ifCond .ne 6, 3) by decide +kernel) (by decide))),
  List.forall_mem_cons.mpr ⟨(xOK_pure (xs_goto (show decode cX12_findNeedy 23 = .ok (.goto 23, 3) by decide +kernel) (by decide))),
  List.forall_mem_cons.mpr ⟨(xOK_pure (xs_aload_n (k := 0) rfl (show decode cX12_findNeedy 26 = .ok (.aload_n 0, 1) by decide +kernel))),
  List.forall_mem_cons.mpr ⟨(xOK_pure (xs_getf xcl_12 (by decide) (show decode cX12_findNeedy 27 = .ok (.getfield 130, 3) by decide +kernel) xw_1767)),
  List.forall_mem_cons.mpr ⟨(xOK_pure (xs_aload_n (k := 0) rfl (show decode cX12_findNeedy 30 = .ok (.aload_n 0, 1) by decide +kernel))),
  List.forall_mem_cons.mpr ⟨(xOK_pure (xs_getf xcl_12 (by decide) (show decode cX12_findNeedy 31 = .ok (.getfield 426, 3) by decide +kernel) xw_1768)),
  List.forall_mem_cons.mpr ⟨(xOK_pure (xs_iload_n (k := 1) rfl (show decode cX12_findNeedy 34 = .ok (.iload_n 1, 1) by decide +kernel))),
  List.forall_mem_cons.mpr ⟨(xs_iast (show decode cX12_findNeedy 35 = .ok (.iastore, 1) by decide +kernel)),
  (fun _ h => absurd h List.not_mem_nil)⟩⟩⟩⟩⟩⟩⟩⟩⟩⟩⟩⟩⟩⟩⟩⟩⟩⟩⟩⟩
def pX12_findNeedy_1 (ev : xEv) : List (Nat × xEn) := [(36, .inl (xop (xf_aload 0 1))), (37, .inl (xop xf_dup)), (38, .inl (xop (xf_getf 12 59))), (41, .inl (xop (xf_push (.int 1) 1))), (42, .inl (xop (xf_bin (fun x y => x + y)))), (43, .inl (xo_putf 12 59 .int)), (46, .inl (xop (xf_iinc 1 1))), (49, .inl (xop (xf_goto 7))), (52, .inl (xop (xf_aload 0 1))), (53, .inl (xop (xf_getf 12 59))), (56, .inr (.inr 1))]
set_option maxRecDepth 20000 in
theorem okpX12_findNeedy_1 (ev : xEv) : ∀ q ∈ pX12_findNeedy_1 ev, xEnOK ev xmi yX12_findNeedy.cls yX12_findNeedy.name cX12_findNeedy 2 (some .int) q :=
  List.forall_mem_cons.mpr ⟨(xOK_pure (xs_aload_n (k := 0) rfl (show decode cX12_findNeedy 36 = .ok (.aload_n 0, 1) by decide +kernel))),
  List.forall_mem_cons.mpr ⟨(xOK_pure (xs_dup (show decode cX12_findNeedy 37 = .ok (.dup, 1) by decide +kernel))),
  List.forall_mem_cons.mpr ⟨(xOK_pure (xs_getf xcl_12 (by decide) (show decode cX12_findNeedy 38 = .ok (.getfield 426, 3) by decide +kernel) xw_1768)),
  List.forall_mem_cons.mpr ⟨(xOK_pure (xs_iconst (n := 1) (show decode cX12_findNeedy 41 = .ok (.iconst 1, 1) by decide +kernel) (by decide))),
  List.forall_mem_cons.mpr ⟨(xOK_pure (xs_iadd (show decode cX12_findNeedy 42 = .ok (.iadd, 1) by decide +kernel))),
  List.forall_mem_cons.mpr ⟨(xs_putf (k := 59) xcl_12 (by decide) rfl (show decode cX12_findNeedy 43 = .ok (.putfield 426, 3) by decide +kernel) xw_1768),
  List.forall_mem_cons.mpr ⟨(xOK_pure (xs_iinc (n := 1) (show decode cX12_findNeedy 46 = .ok (.iinc 1 1, 3) by decide +kernel) (by decide) (by decide))),
  List.forall_mem_cons.mpr ⟨(xOK_pure (xs_goto (show decode cX12_findNeedy 49 = .ok (.goto (-42), 3) by decide +kernel) (by decide))),
  List.forall_mem_cons.mpr ⟨(xOK_pure (xs_aload_n (k := 0) rfl (show decode cX12_findNeedy 52 = .ok (.aload_n 0, 1) by decide +kernel))),
  List.forall_mem_cons.mpr ⟨(xOK_pure (xs_getf xcl_12 (by decide) (show decode cX12_findNeedy 53 = .ok (.getfield 426, 3) by decide +kernel) xw_1768)),
  List.forall_mem_cons.mpr ⟨(Or.inr (Or.inl ⟨rfl, (show decode cX12_findNeedy 56 = .ok (.ireturn, 1) by decide +kernel), rfl⟩)),
  (fun _ h => absurd h List.not_mem_nil)⟩⟩⟩⟩⟩⟩⟩⟩⟩⟩⟩
def pX12_findNeedy (ev : xEv) : List (Nat × xEn) := pX12_findNeedy_0 ev ++ (pX12_findNeedy_1 ev)
theorem okpX12_findNeedy (ev : xEv) : ∀ q ∈ pX12_findNeedy ev, xEnOK ev xmi yX12_findNeedy.cls yX12_findNeedy.name cX12_findNeedy 2 (some .int) q := List.forall_mem_append.mpr ⟨okpX12_findNeedy_0 ev, okpX12_findNeedy_1 ev⟩
theorem omX12_findNeedy (ev : xEv) : xMethOK ev xmi yX12_findNeedy.cls yX12_findNeedy.name 286 (pX12_findNeedy ev) := xMethOK.of mi_286 (by decide +kernel) (okpX12_findNeedy ev)
def pX12_needs (ev : xEv) : List (Nat × xEn) := [(0, .inl (xop (xf_aload 0 1))), (1, .inl (xop (xf_push (.int 0) 1))), (2, .inl (xo_putf 12 47 .int)), (5, .inl (xop (xf_aload 0 1))), (6, .inr (.inl (0, 286, 0, 12))), (9, .inr (.inr 1))]
set_option maxRecDepth 20000 in
theorem okpX12_needs (ev : xEv) : ∀ q ∈ pX12_needs ev, xEnOK ev xmi yX12_needs.cls yX12_needs.name cX12_needs 1 (some .int) q :=
  List.forall_mem_cons.mpr ⟨(xOK_pure (xs_aload_n (k := 0) rfl (show decode cX12_needs 0 = .ok (.aload_n 0, 1) by decide +kernel))),
  List.forall_mem_cons.mpr ⟨(xOK_pure (xs_iconst (n := 0) (show decode cX12_needs 1 = .ok (.iconst 0, 1) by decide +kernel) (by decide))),
  List.forall_mem_cons.mpr ⟨(xs_putf (k := 47) xcl_12 (by decide) rfl (show decode cX12_needs 2 = .ok (.putfield 140, 3) by decide +kernel) xw_1756),
  List.forall_mem_cons.mpr ⟨(xOK_pure (xs_aload_n (k := 0) rfl (show decode cX12_needs 5 = .ok (.aload_n 0, 1) by decide +kernel))),
  List.forall_mem_cons.mpr ⟨(xcm mi_286 ⟨⟨(by decide +kernel), (by decide +kernel), (by decide +kernel)⟩, (by decide), xw_2305, xw_125, Or.inl ⟨rfl, _, _, _, _, (show decode cX12_needs 6 = .ok (.invokevirtual 432, 3) by decide +kernel), xw_2302, xw_2304, xw_108, rfl⟩⟩),
  List.forall_mem_cons.mpr ⟨(Or.inr (Or.inl ⟨rfl, (show decode cX12_needs 9 = .ok (.ireturn, 1) by decide +kernel), rfl⟩)),
  (fun _ h => absurd h List.not_mem_nil)⟩⟩⟩⟩⟩⟩
theorem omX12_needs (ev : xEv) : xMethOK ev xmi yX12_needs.cls yX12_needs.name 287 (pX12_needs ev) := xMethOK.of mi_287 (by decide +kernel) (okpX12_needs ev)
def pX12_quarters_0 (ev : xEv) : List (Nat × xEn) := [(0, .inl (xop (xf_aload 0 1))), (1, .inl (xop (xf_getf 12 10))), (4, .inl (xop (xf_push (.int 8) 2))), (6, .inl (xop (xf_iload 1 1))), (7, .inl (xop (xf_bin (fun x y => x * y)))), (8, .inl (xop (xf_aload 0 1))), (9, .inl (xop (xf_iload 2 1))), (10, .inl (xop (xf_push (.int 0) 1))), (11, .inr (.inl (0, 195, 2, 12))), (14, .inl (xop (xf_bin (fun x y => x + y)))), (15, .inl (xop (xf_ald (ev.1 0)))), (16, .inl (xop (xf_istore 3 1))), (17, .inl (xop (xf_iload 3 1))), (18, .inl (xop (xf_push (.int 268435456) 2))), (20, .inl (xop (xf_icmp_lt 27))), (23, .inl (xop (xf_push (.int (-1)) 1))), (24, .inl (xop (xf_goto 33))), (27, .inl (xop (xf_iload 3 1))), (28, .inl (xop (xf_push (.int 8) 2))), (30, .inr (.inl (1, 226, 2, 12)))]
set_option maxRecDepth 20000 in
theorem okpX12_quarters_0 (ev : xEv) : ∀ q ∈ pX12_quarters_0 ev, xEnOK ev xmi yX12_quarters.cls yX12_quarters.name cX12_quarters 4 (some .int) q :=
  List.forall_mem_cons.mpr ⟨(xOK_pure (xs_aload_n (k := 0) rfl (show decode cX12_quarters 0 = .ok (.aload_n 0, 1) by decide +kernel))),
  List.forall_mem_cons.mpr ⟨(xOK_pure (xs_getf xcl_12 (by decide) (show decode cX12_quarters 1 = .ok (.getfield 34, 3) by decide +kernel) xw_1719)),
  List.forall_mem_cons.mpr ⟨(xOK_pure (xs_bipush (n := 8) (show decode cX12_quarters 4 = .ok (.bipush 8, 2) by decide +kernel) (by decide))),
  List.forall_mem_cons.mpr ⟨(xOK_pure (xs_iload_n (k := 1) rfl (show decode cX12_quarters 6 = .ok (.iload_n 1, 1) by decide +kernel))),
  List.forall_mem_cons.mpr ⟨(xOK_pure (xs_imul (show decode cX12_quarters 7 = .ok (.imul, 1) by decide +kernel))),
  List.forall_mem_cons.mpr ⟨(xOK_pure (xs_aload_n (k := 0) rfl (show decode cX12_quarters 8 = .ok (.aload_n 0, 1) by decide +kernel))),
  List.forall_mem_cons.mpr ⟨(xOK_pure (xs_iload_n (k := 2) rfl (show decode cX12_quarters 9 = .ok (.iload_n 2, 1) by decide +kernel))),
  List.forall_mem_cons.mpr ⟨(xOK_pure (xs_iconst (n := 0) (show decode cX12_quarters 10 = .ok (.iconst 0, 1) by decide +kernel) (by decide))),
  List.forall_mem_cons.mpr ⟨(xcm mi_195 ⟨⟨(by decide +kernel), (by decide +kernel), (by decide +kernel)⟩, (by decide), xw_2161, xw_125, Or.inl ⟨rfl, _, _, _, _, (show decode cX12_quarters 11 = .ok (.invokevirtual 344, 3) by decide +kernel), xw_2158, xw_2160, xw_89, rfl⟩⟩),
  List.forall_mem_cons.mpr ⟨(xOK_pure (xs_iadd (show decode cX12_quarters 14 = .ok (.iadd, 1) by decide +kernel))),
  List.forall_mem_cons.mpr ⟨(xOK_pure (xs_iald (show decode cX12_quarters 15 = .ok (.iaload, 1) by decide +kernel))),
  List.forall_mem_cons.mpr ⟨(xOK_pure (xs_istore_n (k := 3) rfl (show decode cX12_quarters 16 = .ok (.istore_n 3, 1) by decide +kernel) (by decide))),
  List.forall_mem_cons.mpr ⟨(xOK_pure (xs_iload_n (k := 3) rfl (show decode cX12_quarters 17 = .ok (.iload_n 3, 1) by decide +kernel))),
  List.forall_mem_cons.mpr ⟨(xOK_pure (xs_ldc (show decode cX12_quarters 18 = .ok (.ldc 139, 2) by decide +kernel) xw_1708)),
  List.forall_mem_cons.mpr ⟨(xOK_pure (xs_icmp_lt (show decode cX12_quarters 20 = .ok (.if_icmp .lt 7, 3) by decide +kernel) (by decide))),
  List.forall_mem_cons.mpr ⟨(xOK_pure (xs_iconst (n := (-1)) (show decode cX12_quarters 23 = .ok (.iconst (-1), 1) by decide +kernel) (by decide))),
  List.forall_mem_cons.mpr ⟨(xOK_pure (xs_goto (show decode cX12_quarters 24 = .ok (.goto 9, 3) by decide +kernel) (by decide))),
  List.forall_mem_cons.mpr ⟨(xOK_pure (xs_iload_n (k := 3) rfl (show decode cX12_quarters 27 = .ok (.iload_n 3, 1) by decide +kernel))),
  List.forall_mem_cons.mpr ⟨(xOK_pure (xs_bipush (n := 8) (show decode cX12_quarters 28 = .ok (.bipush 8, 2) by decide +kernel) (by decide))),
  List.forall_mem_cons.mpr ⟨(xcm mi_226 ⟨⟨(by decide +kernel), (by decide +kernel), (by decide +kernel)⟩, (by decide), xw_2040, xw_125, Or.inr (Or.inl ⟨rfl, _, (show decode cX12_quarters 30 = .ok (.invokestatic 228, 3) by decide +kernel), xw_2038, xw_2039⟩)⟩),
  (fun _ h => absurd h List.not_mem_nil)⟩⟩⟩⟩⟩⟩⟩⟩⟩⟩⟩⟩⟩⟩⟩⟩⟩⟩⟩⟩
def pX12_quarters_1 (ev : xEv) : List (Nat × xEn) := [(33, .inr (.inr 1))]
set_option maxRecDepth 20000 in
theorem okpX12_quarters_1 (ev : xEv) : ∀ q ∈ pX12_quarters_1 ev, xEnOK ev xmi yX12_quarters.cls yX12_quarters.name cX12_quarters 4 (some .int) q :=
  List.forall_mem_cons.mpr ⟨(Or.inr (Or.inl ⟨rfl, (show decode cX12_quarters 33 = .ok (.ireturn, 1) by decide +kernel), rfl⟩)),
  (fun _ h => absurd h List.not_mem_nil)⟩
def pX12_quarters (ev : xEv) : List (Nat × xEn) := pX12_quarters_0 ev ++ (pX12_quarters_1 ev)
theorem okpX12_quarters (ev : xEv) : ∀ q ∈ pX12_quarters ev, xEnOK ev xmi yX12_quarters.cls yX12_quarters.name cX12_quarters 4 (some .int) q := List.forall_mem_append.mpr ⟨okpX12_quarters_0 ev, okpX12_quarters_1 ev⟩
theorem omX12_quarters (ev : xEv) : xMethOK ev xmi yX12_quarters.cls yX12_quarters.name 288 (pX12_quarters ev) := xMethOK.of mi_288 (by decide +kernel) (okpX12_quarters ev)
def pX12_sendFrom_0 (ev : xEv) : List (Nat × xEn) := [(0, .inl (xop (xf_push (.int 0) 1))), (1, .inl (xop (xf_istore 4 2))), (3, .inl (xop (xf_iload 3 1))), (4, .inl (xop (xf_istore 5 2))), (6, .inl (xop (xf_iload 1 1))), (7, .inl (xop (xf_istore 6 2))), (9, .inl (xop (xf_iload 6 2))), (11, .inl (xop (xf_aload 0 1))), (12, .inl (xop (xf_getf 12 59))), (15, .inl (xop (xf_icmp_ge 118))), (18, .inl (xop (xf_push (.int (-1)) 1))), (19, .inl (xop (xf_istore 7 2))), (21, .inl (xop (xf_push (.int 0) 1))), (22, .inl (xop (xf_istore 8 2))), (24, .inl (xop (xf_iload 8 2))), (26, .inl (xop (xf_aload 0 1))), (27, .inl (xop (xf_getf 12 1))), (30, .inl (xop (xf_icmp_ge 93))), (33, .inl (xop (xf_aload 0 1))), (34, .inl (xop (xf_iload 8 2)))]
set_option maxRecDepth 20000 in
theorem okpX12_sendFrom_0 (ev : xEv) : ∀ q ∈ pX12_sendFrom_0 ev, xEnOK ev xmi yX12_sendFrom.cls yX12_sendFrom.name cX12_sendFrom 10 none q :=
  List.forall_mem_cons.mpr ⟨(xOK_pure (xs_iconst (n := 0) (show decode cX12_sendFrom 0 = .ok (.iconst 0, 1) by decide +kernel) (by decide))),
  List.forall_mem_cons.mpr ⟨(xOK_pure (xs_istore (show decode cX12_sendFrom 1 = .ok (.istore 4, 2) by decide +kernel) (by decide))),
  List.forall_mem_cons.mpr ⟨(xOK_pure (xs_iload_n (k := 3) rfl (show decode cX12_sendFrom 3 = .ok (.iload_n 3, 1) by decide +kernel))),
  List.forall_mem_cons.mpr ⟨(xOK_pure (xs_istore (show decode cX12_sendFrom 4 = .ok (.istore 5, 2) by decide +kernel) (by decide))),
  List.forall_mem_cons.mpr ⟨(xOK_pure (xs_iload_n (k := 1) rfl (show decode cX12_sendFrom 6 = .ok (.iload_n 1, 1) by decide +kernel))),
  List.forall_mem_cons.mpr ⟨(xOK_pure (xs_istore (show decode cX12_sendFrom 7 = .ok (.istore 6, 2) by decide +kernel) (by decide))),
  List.forall_mem_cons.mpr ⟨(xOK_pure (xs_iload (show decode cX12_sendFrom 9 = .ok (.iload 6, 2) by decide +kernel))),
  List.forall_mem_cons.mpr ⟨(xOK_pure (xs_aload_n (k := 0) rfl (show decode cX12_sendFrom 11 = .ok (.aload_n 0, 1) by decide +kernel))),
  List.forall_mem_cons.mpr ⟨(xOK_pure (xs_getf xcl_12 (by decide) (show decode cX12_sendFrom 12 = .ok (.getfield 426, 3) by decide +kernel) xw_1768)),
  List.forall_mem_cons.mpr ⟨(xOK_pure (xs_icmp_ge (show decode cX12_sendFrom 15 = .ok (.if_icmp .ge 103, 3) by decide +kernel) (by decide))),
  List.forall_mem_cons.mpr ⟨(xOK_pure (xs_iconst (n := (-1)) (show decode cX12_sendFrom 18 = .ok (.iconst (-1), 1) by decide +kernel) (by decide))),
  List.forall_mem_cons.mpr ⟨(xOK_pure (xs_istore (show decode cX12_sendFrom 19 = .ok (.istore 7, 2) by decide +kernel) (by decide))),
  List.forall_mem_cons.mpr ⟨(xOK_pure (xs_iconst (n := 0) (show decode cX12_sendFrom 21 = .ok (.iconst 0, 1) by decide +kernel) (by decide))),
  List.forall_mem_cons.mpr ⟨(xOK_pure (xs_istore (show decode cX12_sendFrom 22 = .ok (.istore 8, 2) by decide +kernel) (by decide))),
  List.forall_mem_cons.mpr ⟨(xOK_pure (xs_iload (show decode cX12_sendFrom 24 = .ok (.iload 8, 2) by decide +kernel))),
  List.forall_mem_cons.mpr ⟨(xOK_pure (xs_aload_n (k := 0) rfl (show decode cX12_sendFrom 26 = .ok (.aload_n 0, 1) by decide +kernel))),
  List.forall_mem_cons.mpr ⟨(xOK_pure (xs_getf xcl_12 (by decide) (show decode cX12_sendFrom 27 = .ok (.getfield 143, 3) by decide +kernel) xw_1710)),
  List.forall_mem_cons.mpr ⟨(xOK_pure (xs_icmp_ge (show decode cX12_sendFrom 30 = .ok (.if_icmp .ge 63, 3) by decide +kernel) (by decide))),
  List.forall_mem_cons.mpr ⟨(xOK_pure (xs_aload_n (k := 0) rfl (show decode cX12_sendFrom 33 = .ok (.aload_n 0, 1) by decide +kernel))),
  List.forall_mem_cons.mpr ⟨(xOK_pure (xs_iload (show decode cX12_sendFrom 34 = .ok (.iload 8, 2) by decide +kernel))),
  (fun _ h => absurd h List.not_mem_nil)⟩⟩⟩⟩⟩⟩⟩⟩⟩⟩⟩⟩⟩⟩⟩⟩⟩⟩⟩⟩
def pX12_sendFrom_1 (ev : xEv) : List (Nat × xEn) := [(36, .inl (xop (xf_aload 0 1))), (37, .inl (xop (xf_getf 12 58))), (40, .inl (xop (xf_iload 6 2))), (42, .inl (xop (xf_ald (ev.1 0)))), (43, .inr (.inl (0, 288, 2, 12))), (46, .inl (xop (xf_istore 9 2))), (48, .inl (xop (xf_iload 9 2))), (50, .inl (xop (xf_push (.int (-1)) 1))), (51, .inl (xop (xf_icmp_eq 87))), (54, .inl (xop (xf_aload 0 1))), (55, .inl (xop (xf_getf 12 48))), (58, .inl (xop (xf_push (.int 3) 1))), (59, .inl (xop (xf_push (.int 2) 1))), (60, .inl (xop (xf_iload 8 2))), (62, .inl (xop (xf_bin (fun x y => x * y)))), (63, .inl (xop (xf_bin (fun x y => x + y)))), (64, .inl (xop (xf_push (.int 1) 1))), (65, .inl (xop (xf_bin (fun x y => x + y)))), (66, .inl (xop (xf_ald (ev.1 0)))), (67, .inl (xop (xf_if_le 87)))]
set_option maxRecDepth 20000 in
theorem okpX12_sendFrom_1 (ev : xEv) : ∀ q ∈ pX12_sendFrom_1 ev, xEnOK ev xmi yX12_sendFrom.cls yX12_sendFrom.name cX12_sendFrom 10 none q :=
  List.forall_mem_cons.mpr ⟨(xOK_pure (xs_aload_n (k := 0) rfl (show decode cX12_sendFrom 36 = .ok (.aload_n 0, 1) by decide +kernel))),
  List.forall_mem_cons.mpr ⟨(xOK_pure (xs_getf xcl_12 (by decide) (show decode cX12_sendFrom 37 = .ok (.getfield 130, 3) by decide +kernel) xw_1767)),
  List.forall_mem_cons.mpr ⟨(xOK_pure (xs_iload (show decode cX12_sendFrom 40 = .ok (.iload 6, 2) by decide +kernel))),
  List.forall_mem_cons.mpr ⟨(xOK_pure (xs_iald (show decode cX12_sendFrom 42 = .ok (.iaload, 1) by decide +kernel))),
  List.forall_mem_cons.mpr ⟨(xcm mi_288 ⟨⟨(by decide +kernel), (by decide +kernel), (by decide +kernel)⟩, (by decide), xw_2321, xw_125, Or.inl ⟨rfl, _, _, _, _, (show decode cX12_sendFrom 43 = .ok (.invokevirtual 435, 3) by decide +kernel), xw_2318, xw_2320, xw_111, rfl⟩⟩),
  List.forall_mem_cons.mpr ⟨(xOK_pure (xs_istore (show decode cX12_sendFrom 46 = .ok (.istore 9, 2) by decide +kernel) (by decide))),
  List.forall_mem_cons.mpr ⟨(xOK_pure (xs_iload (show decode cX12_sendFrom 48 = .ok (.iload 9, 2) by decide +kernel))),
  List.forall_mem_cons.mpr ⟨(xOK_pure (xs_iconst (n := (-1)) (show decode cX12_sendFrom 50 = .ok (.iconst (-1), 1) by decide +kernel) (by decide))),
  List.forall_mem_cons.mpr ⟨(xOK_pure (xs_icmp_eq (show decode cX12_sendFrom 51 = .ok (.if_icmp .eq 36, 3) by decide +kernel) (by decide))),
  List.forall_mem_cons.mpr ⟨(xOK_pure (xs_aload_n (k := 0) rfl (show decode cX12_sendFrom 54 = .ok (.aload_n 0, 1) by decide +kernel))),
  List.forall_mem_cons.mpr ⟨(xOK_pure (xs_getf xcl_12 (by decide) (show decode cX12_sendFrom 55 = .ok (.getfield 121, 3) by decide +kernel) xw_1757)),
  List.forall_mem_cons.mpr ⟨(xOK_pure (xs_iconst (n := 3) (show decode cX12_sendFrom 58 = .ok (.iconst 3, 1) by decide +kernel) (by decide))),
  List.forall_mem_cons.mpr ⟨(xOK_pure (xs_iconst (n := 2) (show decode cX12_sendFrom 59 = .ok (.iconst 2, 1) by decide +kernel) (by decide))),
  List.forall_mem_cons.mpr ⟨(xOK_pure (xs_iload (show decode cX12_sendFrom 60 = .ok (.iload 8, 2) by decide +kernel))),
  List.forall_mem_cons.mpr ⟨(xOK_pure (xs_imul (show decode cX12_sendFrom 62 = .ok (.imul, 1) by decide +kernel))),
  List.forall_mem_cons.mpr ⟨(xOK_pure (xs_iadd (show decode cX12_sendFrom 63 = .ok (.iadd, 1) by decide +kernel))),
  List.forall_mem_cons.mpr ⟨(xOK_pure (xs_iconst (n := 1) (show decode cX12_sendFrom 64 = .ok (.iconst 1, 1) by decide +kernel) (by decide))),
  List.forall_mem_cons.mpr ⟨(xOK_pure (xs_iadd (show decode cX12_sendFrom 65 = .ok (.iadd, 1) by decide +kernel))),
  List.forall_mem_cons.mpr ⟨(xOK_pure (xs_iald (show decode cX12_sendFrom 66 = .ok (.iaload, 1) by decide +kernel))),
  List.forall_mem_cons.mpr ⟨(xOK_pure (xs_if_le (show decode cX12_sendFrom 67 = .ok (.ifCond .le 20, 3) by decide +kernel) (by decide))),
  (fun _ h => absurd h List.not_mem_nil)⟩⟩⟩⟩⟩⟩⟩⟩⟩⟩⟩⟩⟩⟩⟩⟩⟩⟩⟩⟩
def pX12_sendFrom_2 (ev : xEv) : List (Nat × xEn) := [(70, .inl (xop (xf_iload 7 2))), (72, .inl (xop (xf_push (.int (-1)) 1))), (73, .inl (xop (xf_icmp_eq 83))), (76, .inl (xop (xf_iload 9 2))), (78, .inl (xop (xf_iload 7 2))), (80, .inl (xop (xf_icmp_ge 87))), (83, .inl (xop (xf_iload 9 2))), (85, .inl (xop (xf_istore 7 2))), (87, .inl (xop (xf_iinc 8 1))), (90, .inl (xop (xf_goto 24))), (93, .inl (xop (xf_iload 7 2))), (95, .inl (xop (xf_push (.int (-1)) 1))), (96, .inl (xop (xf_icmp_ne 102))), (99, .inl (xop (xf_goto 112))), (102, .inl (xop (xf_iinc 4 1))), (105, .inl (xop (xf_iload 5 2))), (107, .inl (xop (xf_iload 7 2))), (109, .inl (xop (xf_bin (fun x y => x + y)))), (110, .inl (xop (xf_istore 5 2))), (112, .inl (xop (xf_iinc 6 1)))]
set_option maxRecDepth 20000 in
theorem okpX12_sendFrom_2 (ev : xEv) : ∀ q ∈ pX12_sendFrom_2 ev, xEnOK ev xmi yX12_sendFrom.cls yX12_sendFrom.name cX12_sendFrom 10 none q :=
  List.forall_mem_cons.mpr ⟨(xOK_pure (xs_iload (show decode cX12_sendFrom 70 = .ok (.iload 7, 2) by decide +kernel))),
  List.forall_mem_cons.mpr ⟨(xOK_pure (xs_iconst (n := (-1)) (show decode cX12_sendFrom 72 = .ok (.iconst (-1), 1) by decide +kernel) (by decide))),
  List.forall_mem_cons.mpr ⟨(xOK_pure (xs_icmp_eq (show decode cX12_sendFrom 73 = .ok (.if_icmp .eq 10, 3) by decide +kernel) (by decide))),
  List.forall_mem_cons.mpr ⟨(xOK_pure (xs_iload (show decode cX12_sendFrom 76 = .ok (.iload 9, 2) by decide +kernel))),
  List.forall_mem_cons.mpr ⟨(xOK_pure (xs_iload (show decode cX12_sendFrom 78 = .ok (.iload 7, 2) by decide +kernel))),
  List.forall_mem_cons.mpr ⟨(xOK_pure (xs_icmp_ge (show decode cX12_sendFrom 80 = .ok (.if_icmp .ge 7, 3) by decide +kernel) (by decide))),
  List.forall_mem_cons.mpr ⟨(xOK_pure (xs_iload (show decode cX12_sendFrom 83 = .ok (.iload 9, 2) by decide +kernel))),
  List.forall_mem_cons.mpr ⟨(xOK_pure (xs_istore (show decode cX12_sendFrom 85 = .ok (.istore 7, 2) by decide +kernel) (by decide))),
  List.forall_mem_cons.mpr ⟨(xOK_pure (xs_iinc (n := 1) (show decode cX12_sendFrom 87 = .ok (.iinc 8 1, 3) by decide +kernel) (by decide) (by decide))),
  List.forall_mem_cons.mpr ⟨(xOK_pure (xs_goto (show decode cX12_sendFrom 90 = .ok (.goto (-66), 3) by decide +kernel) (by decide))),
  List.forall_mem_cons.mpr ⟨(xOK_pure (xs_iload (show decode cX12_sendFrom 93 = .ok (.iload 7, 2) by decide +kernel))),
  List.forall_mem_cons.mpr ⟨(xOK_pure (xs_iconst (n := (-1)) (show decode cX12_sendFrom 95 = .ok (.iconst (-1), 1) by decide +kernel) (by decide))),
  List.forall_mem_cons.mpr ⟨(xOK_pure (xs_icmp_ne (show decode cX12_sendFrom 96 = .ok (.if_icmp .ne 6, 3) by decide +kernel) (by decide))),
  List.forall_mem_cons.mpr ⟨(xOK_pure (xs_goto (show decode cX12_sendFrom 99 = .ok (.goto 13, 3) by decide +kernel) (by decide))),
  List.forall_mem_cons.mpr ⟨(xOK_pure (xs_iinc (n := 1) (show decode cX12_sendFrom 102 = .ok (.iinc 4 1, 3) by decide +kernel) (by decide) (by decide))),
  List.forall_mem_cons.mpr ⟨(xOK_pure (xs_iload (show decode cX12_sendFrom 105 = .ok (.iload 5, 2) by decide +kernel))),
  List.forall_mem_cons.mpr ⟨(xOK_pure (xs_iload (show decode cX12_sendFrom 107 = .ok (.iload 7, 2) by decide +kernel))),
  List.forall_mem_cons.mpr ⟨(xOK_pure (xs_iadd (show decode cX12_sendFrom 109 = .ok (.iadd, 1) by decide +kernel))),
  List.forall_mem_cons.mpr ⟨(xOK_pure (xs_istore (show decode cX12_sendFrom 110 = .ok (.istore 5, 2) by decide +kernel) (by decide))),
  List.forall_mem_cons.mpr ⟨(xOK_pure (xs_iinc (n := 1) (show decode cX12_sendFrom 112 = .ok (.iinc 6 1, 3) by decide +kernel) (by decide) (by decide))),
  (fun _ h => absurd h List.not_mem_nil)⟩⟩⟩⟩⟩⟩⟩⟩⟩⟩⟩⟩⟩⟩⟩⟩⟩⟩⟩⟩
def pX12_sendFrom_3 (ev : xEv) : List (Nat × xEn) := [(115, .inl (xop (xf_goto 9))), (118, .inl (xop (xf_iload 2 1))), (119, .inl (xop (xf_iload 4 2))), (121, .inl (xop (xf_bin (fun x y => x + y)))), (122, .inl (xop (xf_aload 0 1))), (123, .inl (xop (xf_getf 12 62))), (126, .inl (xop (xf_icmp_lt 149))), (129, .inl (xop (xf_iload 2 1))), (130, .inl (xop (xf_iload 4 2))), (132, .inl (xop (xf_bin (fun x y => x + y)))), (133, .inl (xop (xf_aload 0 1))), (134, .inl (xop (xf_getf 12 62))), (137, .inl (xop (xf_icmp_ne 150))), (140, .inl (xop (xf_iload 5 2))), (142, .inl (xop (xf_aload 0 1))), (143, .inl (xop (xf_getf 12 63))), (146, .inl (xop (xf_icmp_lt 150))), (149, .inr (.inr 0)), (150, .inl (xop (xf_iload 1 1))), (151, .inl (xop (xf_aload 0 1)))]
set_option maxRecDepth 20000 in
theorem okpX12_sendFrom_3 (ev : xEv) : ∀ q ∈ pX12_sendFrom_3 ev, xEnOK ev xmi yX12_sendFrom.cls yX12_sendFrom.name cX12_sendFrom 10 none q :=
  List.forall_mem_cons.mpr ⟨(xOK_pure (xs_goto (show decode cX12_sendFrom 115 = .ok (.goto (-106), 3) by decide +kernel) (by decide))),
  List.forall_mem_cons.mpr ⟨(xOK_pure (xs_iload_n (k := 2) rfl (show decode cX12_sendFrom 118 = .ok (.iload_n 2, 1) by decide +kernel))),
  List.forall_mem_cons.mpr ⟨(xOK_pure (xs_iload (show decode cX12_sendFrom 119 = .ok (.iload 4, 2) by decide +kernel))),
  List.forall_mem_cons.mpr ⟨(xOK_pure (xs_iadd (show decode cX12_sendFrom 121 = .ok (.iadd, 1) by decide +kernel))),
  List.forall_mem_cons.mpr ⟨(xOK_pure (xs_aload_n (k := 0) rfl (show decode cX12_sendFrom 122 = .ok (.aload_n 0, 1) by decide +kernel))),
  List.forall_mem_cons.mpr ⟨(xOK_pure (xs_getf xcl_12 (by decide) (show decode cX12_sendFrom 123 = .ok (.getfield 438, 3) by decide +kernel) xw_1771)),
  List.forall_mem_cons.mpr ⟨(xOK_pure (xs_icmp_lt (show decode cX12_sendFrom 126 = .ok (.if_icmp .lt 23, 3) by decide +kernel) (by decide))),
  List.forall_mem_cons.mpr ⟨(xOK_pure (xs_iload_n (k := 2) rfl (show decode cX12_sendFrom 129 = .ok (.iload_n 2, 1) by decide +kernel))),
  List.forall_mem_cons.mpr ⟨(xOK_pure (xs_iload (show decode cX12_sendFrom 130 = .ok (.iload 4, 2) by decide +kernel))),
  List.forall_mem_cons.mpr ⟨(xOK_pure (xs_iadd (show decode cX12_sendFrom 132 = .ok (.iadd, 1) by decide +kernel))),
  List.forall_mem_cons.mpr ⟨(xOK_pure (xs_aload_n (k := 0) rfl (show decode cX12_sendFrom 133 = .ok (.aload_n 0, 1) by decide +kernel))),
  List.forall_mem_cons.mpr ⟨(xOK_pure (xs_getf xcl_12 (by decide) (show decode cX12_sendFrom 134 = .ok (.getfield 438, 3) by decide +kernel) xw_1771)),
  List.forall_mem_cons.mpr ⟨(xOK_pure (xs_icmp_ne (show decode cX12_sendFrom 137 = .ok (.if_icmp .ne 13, 3) by decide +kernel) (by decide))),
  List.forall_mem_cons.mpr ⟨(xOK_pure (xs_iload (show decode cX12_sendFrom 140 = .ok (.iload 5, 2) by decide +kernel))),
  List.forall_mem_cons.mpr ⟨(xOK_pure (xs_aload_n (k := 0) rfl (show decode cX12_sendFrom 142 = .ok (.aload_n 0, 1) by decide +kernel))),
  List.forall_mem_cons.mpr ⟨(xOK_pure (xs_getf xcl_12 (by decide) (show decode cX12_sendFrom 143 = .ok (.getfield 441, 3) by decide +kernel) xw_1772)),
  List.forall_mem_cons.mpr ⟨(xOK_pure (xs_icmp_lt (show decode cX12_sendFrom 146 = .ok (.if_icmp .lt 4, 3) by decide +kernel) (by decide))),
  List.forall_mem_cons.mpr ⟨(Or.inl ⟨rfl, (show decode cX12_sendFrom 149 = .ok (.return_, 1) by decide +kernel), rfl⟩),
  List.forall_mem_cons.mpr ⟨(xOK_pure (xs_iload_n (k := 1) rfl (show decode cX12_sendFrom 150 = .ok (.iload_n 1, 1) by decide +kernel))),
  List.forall_mem_cons.mpr ⟨(xOK_pure (xs_aload_n (k := 0) rfl (show decode cX12_sendFrom 151 = .ok (.aload_n 0, 1) by decide +kernel))),
  (fun _ h => absurd h List.not_mem_nil)⟩⟩⟩⟩⟩⟩⟩⟩⟩⟩⟩⟩⟩⟩⟩⟩⟩⟩⟩⟩
def pX12_sendFrom_4 (ev : xEv) : List (Nat × xEn) := [(152, .inl (xop (xf_getf 12 59))), (155, .inl (xop (xf_icmp_ne 201))), (158, .inl (xop (xf_aload 0 1))), (159, .inl (xop (xf_iload 2 1))), (160, .inl (xo_putf 12 62 .int)), (163, .inl (xop (xf_aload 0 1))), (164, .inl (xop (xf_iload 3 1))), (165, .inl (xo_putf 12 63 .int)), (168, .inl (xop (xf_push (.int 0) 1))), (169, .inl (xop (xf_istore 6 2))), (171, .inl (xop (xf_iload 6 2))), (173, .inl (xop (xf_aload 0 1))), (174, .inl (xop (xf_getf 12 59))), (177, .inl (xop (xf_icmp_ge 200))), (180, .inl (xop (xf_aload 0 1))), (181, .inl (xop (xf_getf 12 61))), (184, .inl (xop (xf_iload 6 2))), (186, .inl (xop (xf_aload 0 1))), (187, .inl (xop (xf_getf 12 60))), (190, .inl (xop (xf_iload 6 2)))]
set_option maxRecDepth 20000 in
theorem okpX12_sendFrom_4 (ev : xEv) : ∀ q ∈ pX12_sendFrom_4 ev, xEnOK ev xmi yX12_sendFrom.cls yX12_sendFrom.name cX12_sendFrom 10 none q :=
  List.forall_mem_cons.mpr ⟨(xOK_pure (xs_getf xcl_12 (by decide) (show decode cX12_sendFrom 152 = .ok (.getfield 426, 3) by decide +kernel) xw_1768)),
  List.forall_mem_cons.mpr ⟨(xOK_pure (xs_icmp_ne (show decode cX12_sendFrom 155 = .ok (.if_icmp .ne 46, 3) by decide +kernel) (by decide))),
  List.forall_mem_cons.mpr ⟨(xOK_pure (xs_aload_n (k := 0) rfl (show decode cX12_sendFrom 158 = .ok (.aload_n 0, 1) by decide +kernel))),
  List.forall_mem_cons.mpr ⟨(xOK_pure (xs_iload_n (k := 2) rfl (show decode cX12_sendFrom 159 = .ok (.iload_n 2, 1) by decide +kernel))),
  List.forall_mem_cons.mpr ⟨(xs_putf (k := 62) xcl_12 (by decide) rfl (show decode cX12_sendFrom 160 = .ok (.putfield 438, 3) by decide +kernel) xw_1771),
  List.forall_mem_cons.mpr ⟨(xOK_pure (xs_aload_n (k := 0) rfl (show decode cX12_sendFrom 163 = .ok (.aload_n 0, 1) by decide +kernel))),
  List.forall_mem_cons.mpr ⟨(xOK_pure (xs_iload_n (k := 3) rfl (show decode cX12_sendFrom 164 = .ok (.iload_n 3, 1) by decide +kernel))),
  List.forall_mem_cons.mpr ⟨(xs_putf (k := 63) xcl_12 (by decide) rfl (show decode cX12_sendFrom 165 = .ok (.putfield 441, 3) by decide +kernel) xw_1772),
  List.forall_mem_cons.mpr ⟨(xOK_pure (xs_iconst (n := 0) (show decode cX12_sendFrom 168 = .ok (.iconst 0, 1) by decide +kernel) (by decide))),
  List.forall_mem_cons.mpr ⟨(xOK_pure (xs_istore (show decode cX12_sendFrom 169 = .ok (.istore 6, 2) by decide +kernel) (by decide))),
  List.forall_mem_cons.mpr ⟨(xOK_pure (xs_iload (show decode cX12_sendFrom 171 = .ok (.iload 6, 2) by decide +kernel))),
  List.forall_mem_cons.mpr ⟨(xOK_pure (xs_aload_n (k := 0) rfl (show decode cX12_sendFrom 173 = .ok (.aload_n 0, 1) by decide +kernel))),
  List.forall_mem_cons.mpr ⟨(xOK_pure (xs_getf xcl_12 (by decide) (show decode cX12_sendFrom 174 = .ok (.getfield 426, 3) by decide +kernel) xw_1768)),
  List.forall_mem_cons.mpr ⟨(xOK_pure (xs_icmp_ge (show decode cX12_sendFrom 177 = .ok (.if_icmp .ge 23, 3) by decide +kernel) (by decide))),
  List.forall_mem_cons.mpr ⟨(xOK_pure (xs_aload_n (k := 0) rfl (show decode cX12_sendFrom 180 = .ok (.aload_n 0, 1) by decide +kernel))),
  List.forall_mem_cons.mpr ⟨(xOK_pure (xs_getf xcl_12 (by decide) (show decode cX12_sendFrom 181 = .ok (.getfield 136, 3) by decide +kernel) xw_1770)),
  List.forall_mem_cons.mpr ⟨(xOK_pure (xs_iload (show decode cX12_sendFrom 184 = .ok (.iload 6, 2) by decide +kernel))),
  List.forall_mem_cons.mpr ⟨(xOK_pure (xs_aload_n (k := 0) rfl (show decode cX12_sendFrom 186 = .ok (.aload_n 0, 1) by decide +kernel))),
  List.forall_mem_cons.mpr ⟨(xOK_pure (xs_getf xcl_12 (by decide) (show decode cX12_sendFrom 187 = .ok (.getfield 133, 3) by decide +kernel) xw_1769)),
  List.forall_mem_cons.mpr ⟨(xOK_pure (xs_iload (show decode cX12_sendFrom 190 = .ok (.iload 6, 2) by decide +kernel))),
  (fun _ h => absurd h List.not_mem_nil)⟩⟩⟩⟩⟩⟩⟩⟩⟩⟩⟩⟩⟩⟩⟩⟩⟩⟩⟩⟩
def pX12_sendFrom_5 (ev : xEv) : List (Nat × xEn) := [(192, .inl (xop (xf_ald (ev.1 0)))), (193, .inl (xo_ast (ev.1 0) (fun x => x))), (194, .inl (xop (xf_iinc 6 1))), (197, .inl (xop (xf_goto 171))), (200, .inr (.inr 0)), (201, .inl (xop (xf_push (.int 0) 1))), (202, .inl (xop (xf_istore 6 2))), (204, .inl (xop (xf_iload 6 2))), (206, .inl (xop (xf_aload 0 1))), (207, .inl (xop (xf_getf 12 1))), (210, .inl (xop (xf_icmp_ge 306))), (213, .inl (xop (xf_push (.int 3) 1))), (214, .inl (xop (xf_push (.int 2) 1))), (215, .inl (xop (xf_iload 6 2))), (217, .inl (xop (xf_bin (fun x y => x * y)))), (218, .inl (xop (xf_bin (fun x y => x + y)))), (219, .inl (xop (xf_push (.int 1) 1))), (220, .inl (xop (xf_bin (fun x y => x + y)))), (221, .inl (xop (xf_istore 7 2))), (223, .inl (xop (xf_aload 0 1)))]
set_option maxRecDepth 20000 in
theorem okpX12_sendFrom_5 (ev : xEv) : ∀ q ∈ pX12_sendFrom_5 ev, xEnOK ev xmi yX12_sendFrom.cls yX12_sendFrom.name cX12_sendFrom 10 none q :=
  List.forall_mem_cons.mpr ⟨(xOK_pure (xs_iald (show decode cX12_sendFrom 192 = .ok (.iaload, 1) by decide +kernel))),
  List.forall_mem_cons.mpr ⟨(xs_iast (show decode cX12_sendFrom 193 = .ok (.iastore, 1) by decide +kernel)),
  List.forall_mem_cons.mpr ⟨(xOK_pure (xs_iinc (n := 1) (show decode cX12_sendFrom 194 = .ok (.iinc 6 1, 3) by decide +kernel) (by decide) (by decide))),
  List.forall_mem_cons.mpr ⟨(xOK_pure (xs_goto (show decode cX12_sendFrom 197 = .ok (.goto (-26), 3) by decide +kernel) (by decide))),
  List.forall_mem_cons.mpr ⟨(Or.inl ⟨rfl, (show decode cX12_sendFrom 200 = .ok (.return_, 1) by decide +kernel), rfl⟩),
  List.forall_mem_cons.mpr ⟨(xOK_pure (xs_iconst (n := 0) (show decode cX12_sendFrom 201 = .ok (.iconst 0, 1) by decide +kernel) (by decide))),
  List.forall_mem_cons.mpr ⟨(xOK_pure (xs_istore (show decode cX12_sendFrom 202 = .ok (.istore 6, 2) by decide +kernel) (by decide))),
  List.forall_mem_cons.mpr ⟨(xOK_pure (xs_iload (show decode cX12_sendFrom 204 = .ok (.iload 6, 2) by decide +kernel))),
  List.forall_mem_cons.mpr ⟨(xOK_pure (xs_aload_n (k := 0) rfl (show decode cX12_sendFrom 206 = .ok (.aload_n 0, 1) by decide +kernel))),
  List.forall_mem_cons.mpr ⟨(xOK_pure (xs_getf xcl_12 (by decide) (show decode cX12_sendFrom 207 = .ok (.getfield 143, 3) by decide +kernel) xw_1710)),
  List.forall_mem_cons.mpr ⟨(xOK_pure (xs_icmp_ge (show decode cX12_sendFrom 210 = .ok (.if_icmp .ge 96, 3) by decide +kernel) (by decide))),
  List.forall_mem_cons.mpr ⟨(xOK_pure (xs_iconst (n := 3) (show decode cX12_sendFrom 213 = .ok (.iconst 3, 1) by decide +kernel) (by decide))),
  List.forall_mem_cons.mpr ⟨(xOK_pure (xs_iconst (n := 2) (show decode cX12_sendFrom 214 = .ok (.iconst 2, 1) by decide +kernel) (by decide))),
  List.forall_mem_cons.mpr ⟨(xOK_pure (xs_iload (show decode cX12_sendFrom 215 = .ok (.iload 6, 2) by decide +kernel))),
  List.forall_mem_cons.mpr ⟨(xOK_pure (xs_imul (show decode cX12_sendFrom 217 = .ok (.imul, 1) by decide +kernel))),
  List.forall_mem_cons.mpr ⟨(xOK_pure (xs_iadd (show decode cX12_sendFrom 218 = .ok (.iadd, 1) by decide +kernel))),
  List.forall_mem_cons.mpr ⟨(xOK_pure (xs_iconst (n := 1) (show decode cX12_sendFrom 219 = .ok (.iconst 1, 1) by decide +kernel) (by decide))),
  List.forall_mem_cons.mpr ⟨(xOK_pure (xs_iadd (show decode cX12_sendFrom 220 = .ok (.iadd, 1) by decide +kernel))),
  List.forall_mem_cons.mpr ⟨(xOK_pure (xs_istore (show decode cX12_sendFrom 221 = .ok (.istore 7, 2) by decide +kernel) (by decide))),
  List.forall_mem_cons.mpr ⟨(xOK_pure (xs_aload_n (k := 0) rfl (show decode cX12_sendFrom 223 = .ok (.aload_n 0, 1) by decide +kernel))),
  (fun _ h => absurd h List.not_mem_nil)⟩⟩⟩⟩⟩⟩⟩⟩⟩⟩⟩⟩⟩⟩⟩⟩⟩⟩⟩⟩
def pX12_sendFrom_6 (ev : xEv) : List (Nat × xEn) := [(224, .inl (xop (xf_iload 6 2))), (226, .inl (xop (xf_aload 0 1))), (227, .inl (xop (xf_getf 12 58))), (230, .inl (xop (xf_iload 1 1))), (231, .inl (xop (xf_ald (ev.1 0)))), (232, .inr (.inl (0, 288, 2, 12))), (235, .inl (xop (xf_istore 8 2))), (237, .inl (xop (xf_iload 8 2))), (239, .inl (xop (xf_push (.int (-1)) 1))), (240, .inl (xop (xf_icmp_eq 300))), (243, .inl (xop (xf_aload 0 1))), (244, .inl (xop (xf_getf 12 48))), (247, .inl (xop (xf_iload 7 2))), (249, .inl (xop (xf_ald (ev.1 0)))), (250, .inl (xop (xf_if_ne 256))), (253, .inl (xop (xf_goto 300))), (256, .inl (xop (xf_aload 0 1))), (257, .inl (xop (xf_getf 12 48))), (260, .inl (xop (xf_iload 7 2))), (262, .inl (xop xf_dup2))]
set_option maxRecDepth 20000 in
theorem okpX12_sendFrom_6 (ev : xEv) : ∀ q ∈ pX12_sendFrom_6 ev, xEnOK ev xmi yX12_sendFrom.cls yX12_sendFrom.name cX12_sendFrom 10 none q :=
  List.forall_mem_cons.mpr ⟨(xOK_pure (xs_iload (show decode cX12_sendFrom 224 = .ok (.iload 6, 2) by decide +kernel))),
  List.forall_mem_cons.mpr ⟨(xOK_pure (xs_aload_n (k := 0) rfl (show decode cX12_sendFrom 226 = .ok (.aload_n 0, 1) by decide +kernel))),
  List.forall_mem_cons.mpr ⟨(xOK_pure (xs_getf xcl_12 (by decide) (show decode cX12_sendFrom 227 = .ok (.getfield 130, 3) by decide +kernel) xw_1767)),
  List.forall_mem_cons.mpr ⟨(xOK_pure (xs_iload_n (k := 1) rfl (show decode cX12_sendFrom 230 = .ok (.iload_n 1, 1) by decide +kernel))),
  List.forall_mem_cons.mpr ⟨(xOK_pure (xs_iald (show decode cX12_sendFrom 231 = .ok (.iaload, 1) by decide +kernel))),
  List.forall_mem_cons.mpr ⟨(xcm mi_288 ⟨⟨(by decide +kernel), (by decide +kernel), (by decide +kernel)⟩, (by decide), xw_2321, xw_125, Or.inl ⟨rfl, _, _, _, _, (show decode cX12_sendFrom 232 = .ok (.invokevirtual 435, 3) by decide +kernel), xw_2318, xw_2320, xw_111, rfl⟩⟩),
  List.forall_mem_cons.mpr ⟨(xOK_pure (xs_istore (show decode cX12_sendFrom 235 = .ok (.istore 8, 2) by decide +kernel) (by decide))),
  List.forall_mem_cons.mpr ⟨(xOK_pure (xs_iload (show decode cX12_sendFrom 237 = .ok (.iload 8, 2) by decide +kernel))),
  List.forall_mem_cons.mpr ⟨(xOK_pure (xs_iconst (n := (-1)) (show decode cX12_sendFrom 239 = .ok (.iconst (-1), 1) by decide +kernel) (by decide))),
  List.forall_mem_cons.mpr ⟨(xOK_pure (xs_icmp_eq (show decode cX12_sendFrom 240 = .ok (.if_icmp .eq 60, 3) by decide +kernel) (by decide))),
  List.forall_mem_cons.mpr ⟨(xOK_pure (xs_aload_n (k := 0) rfl (show decode cX12_sendFrom 243 = .ok (.aload_n 0, 1) by decide +kernel))),
  List.forall_mem_cons.mpr ⟨(xOK_pure (xs_getf xcl_12 (by decide) (show decode cX12_sendFrom 244 = .ok (.getfield 121, 3) by decide +kernel) xw_1757)),
  List.forall_mem_cons.mpr ⟨(xOK_pure (xs_iload (show decode cX12_sendFrom 247 = .ok (.iload 7, 2) by decide +kernel))),
  List.forall_mem_cons.mpr ⟨(xOK_pure (xs_iald (show decode cX12_sendFrom 249 = .ok (.iaload, 1) by decide +kernel))),
  List.forall_mem_cons.mpr ⟨(xOK_pure (xs_if_ne (show decode cX12_sendFrom 250 = .ok (.ifCond .ne 6, 3) by decide +kernel) (by decide))),
  List.forall_mem_cons.mpr ⟨(xOK_pure (xs_goto (show decode cX12_sendFrom 253 = .ok (.goto 47, 3) by decide +kernel) (by decide))),
  List.forall_mem_cons.mpr ⟨(xOK_pure (xs_aload_n (k := 0) rfl (show decode cX12_sendFrom 256 = .ok (.aload_n 0, 1) by decide +kernel))),
  List.forall_mem_cons.mpr ⟨(xOK_pure (xs_getf xcl_12 (by decide) (show decode cX12_sendFrom 257 = .ok (.getfield 121, 3) by decide +kernel) xw_1757)),
  List.forall_mem_cons.mpr ⟨(xOK_pure (xs_iload (show decode cX12_sendFrom 260 = .ok (.iload 7, 2) by decide +kernel))),
  List.forall_mem_cons.mpr ⟨(xOK_pure (xs_dup2 (show decode cX12_sendFrom 262 = .ok (.dup2, 1) by decide +kernel))),
  (fun _ h => absurd h List.not_mem_nil)⟩⟩⟩⟩⟩⟩⟩⟩⟩⟩⟩⟩⟩⟩⟩⟩⟩⟩⟩⟩
def pX12_sendFrom_7 (ev : xEv) : List (Nat × xEn) := [(263, .inl (xop (xf_ald (ev.1 0)))), (264, .inl (xop (xf_push (.int 1) 1))), (265, .inl (xop (xf_bin (fun x y => x - y)))), (266, .inl (xo_ast (ev.1 0) (fun x => x))), (267, .inl (xop (xf_aload 0 1))), (268, .inl (xop (xf_getf 12 60))), (271, .inl (xop (xf_iload 1 1))), (272, .inl (xop (xf_iload 6 2))), (274, .inl (xo_ast (ev.1 0) (fun x => x))), (275, .inl (xop (xf_aload 0 1))), (276, .inl (xop (xf_iload 1 1))), (277, .inl (xop (xf_push (.int 1) 1))), (278, .inl (xop (xf_bin (fun x y => x + y)))), (279, .inl (xop (xf_iload 2 1))), (280, .inl (xop (xf_push (.int 1) 1))), (281, .inl (xop (xf_bin (fun x y => x + y)))), (282, .inl (xop (xf_iload 3 1))), (283, .inl (xop (xf_iload 8 2))), (285, .inl (xop (xf_bin (fun x y => x + y)))), (286, .inr (.inl (0, 289, 3, 12)))]
set_option maxRecDepth 20000 in
theorem okpX12_sendFrom_7 (ev : xEv) : ∀ q ∈ pX12_sendFrom_7 ev, xEnOK ev xmi yX12_sendFrom.cls yX12_sendFrom.name cX12_sendFrom 10 none q :=
  List.forall_mem_cons.mpr ⟨(xOK_pure (xs_iald (show decode cX12_sendFrom 263 = .ok (.iaload, 1) by decide +kernel))),
  List.forall_mem_cons.mpr ⟨(xOK_pure (xs_iconst (n := 1) (show decode cX12_sendFrom 264 = .ok (.iconst 1, 1) by decide +kernel) (by decide))),
  List.forall_mem_cons.mpr ⟨(xOK_pure (xs_isub (show decode cX12_sendFrom 265 = .ok (.isub, 1) by decide +kernel))),
  List.forall_mem_cons.mpr ⟨(xs_iast (show decode cX12_sendFrom 266 = .ok (.iastore, 1) by decide +kernel)),
  List.forall_mem_cons.mpr ⟨(xOK_pure (xs_aload_n (k := 0) rfl (show decode cX12_sendFrom 267 = .ok (.aload_n 0, 1) by decide +kernel))),
  List.forall_mem_cons.mpr ⟨(xOK_pure (xs_getf xcl_12 (by decide) (show decode cX12_sendFrom 268 = .ok (.getfield 133, 3) by decide +kernel) xw_1769)),
  List.forall_mem_cons.mpr ⟨(xOK_pure (xs_iload_n (k := 1) rfl (show decode cX12_sendFrom 271 = .ok (.iload_n 1, 1) by decide +kernel))),
  List.forall_mem_cons.mpr ⟨(xOK_pure (xs_iload (show decode cX12_sendFrom 272 = .ok (.iload 6, 2) by decide +kernel))),
  List.forall_mem_cons.mpr ⟨(xs_iast (show decode cX12_sendFrom 274 = .ok (.iastore, 1) by decide +kernel)),
  List.forall_mem_cons.mpr ⟨(xOK_pure (xs_aload_n (k := 0) rfl (show decode cX12_sendFrom 275 = .ok (.aload_n 0, 1) by decide +kernel))),
  List.forall_mem_cons.mpr ⟨(xOK_pure (xs_iload_n (k := 1) rfl (show decode cX12_sendFrom 276 = .ok (.iload_n 1, 1) by decide +kernel))),
  List.forall_mem_cons.mpr ⟨(xOK_pure (xs_iconst (n := 1) (show decode cX12_sendFrom 277 = .ok (.iconst 1, 1) by decide +kernel) (by decide))),
  List.forall_mem_cons.mpr ⟨(xOK_pure (xs_iadd (show decode cX12_sendFrom 278 = .ok (.iadd, 1) by decide +kernel))),
  List.forall_mem_cons.mpr ⟨(xOK_pure (xs_iload_n (k := 2) rfl (show decode cX12_sendFrom 279 = .ok (.iload_n 2, 1) by decide +kernel))),
  List.forall_mem_cons.mpr ⟨(xOK_pure (xs_iconst (n := 1) (show decode cX12_sendFrom 280 = .ok (.iconst 1, 1) by decide +kernel) (by decide))),
  List.forall_mem_cons.mpr ⟨(xOK_pure (xs_iadd (show decode cX12_sendFrom 281 = .ok (.iadd, 1) by decide +kernel))),
  List.forall_mem_cons.mpr ⟨(xOK_pure (xs_iload_n (k := 3) rfl (show decode cX12_sendFrom 282 = .ok (.iload_n 3, 1) by decide +kernel))),
  List.forall_mem_cons.mpr ⟨(xOK_pure (xs_iload (show decode cX12_sendFrom 283 = .ok (.iload 8, 2) by decide +kernel))),
  List.forall_mem_cons.mpr ⟨(xOK_pure (xs_iadd (show decode cX12_sendFrom 285 = .ok (.iadd, 1) by decide +kernel))),
  List.forall_mem_cons.mpr ⟨(xcm mi_289 ⟨⟨(by decide +kernel), (by decide +kernel), (by decide +kernel)⟩, (by decide), xw_2317, xw_125, Or.inl ⟨rfl, _, _, _, _, (show decode cX12_sendFrom 286 = .ok (.invokevirtual 444, 3) by decide +kernel), xw_2314, xw_2316, xw_110, rfl⟩⟩),
  (fun _ h => absurd h List.not_mem_nil)⟩⟩⟩⟩⟩⟩⟩⟩⟩⟩⟩⟩⟩⟩⟩⟩⟩⟩⟩⟩
def pX12_sendFrom_8 (ev : xEv) : List (Nat × xEn) := [(289, .inl (xop (xf_aload 0 1))), (290, .inl (xop (xf_getf 12 48))), (293, .inl (xop (xf_iload 7 2))), (295, .inl (xop xf_dup2)), (296, .inl (xop (xf_ald (ev.1 0)))), (297, .inl (xop (xf_push (.int 1) 1))), (298, .inl (xop (xf_bin (fun x y => x + y)))), (299, .inl (xo_ast (ev.1 0) (fun x => x))), (300, .inl (xop (xf_iinc 6 1))), (303, .inl (xop (xf_goto 204))), (306, .inl (xop (xf_aload 0 1))), (307, .inl (xop (xf_getf 12 60))), (310, .inl (xop (xf_iload 1 1))), (311, .inl (xop (xf_push (.int (-1)) 1))), (312, .inl (xo_ast (ev.1 0) (fun x => x))), (313, .inl (xop (xf_aload 0 1))), (314, .inl (xop (xf_iload 1 1))), (315, .inl (xop (xf_push (.int 1) 1))), (316, .inl (xop (xf_bin (fun x y => x + y)))), (317, .inl (xop (xf_iload 2 1)))]
set_option maxRecDepth 20000 in
theorem okpX12_sendFrom_8 (ev : xEv) : ∀ q ∈ pX12_sendFrom_8 ev, xEnOK ev xmi yX12_sendFrom.cls yX12_sendFrom.name cX12_sendFrom 10 none q :=
  List.forall_mem_cons.mpr ⟨(xOK_pure (xs_aload_n (k := 0) rfl (show decode cX12_sendFrom 289 = .ok (.aload_n 0, 1) by decide +kernel))),
  List.forall_mem_cons.mpr ⟨(xOK_pure (xs_getf xcl_12 (by decide) (show decode cX12_sendFrom 290 = .ok (.getfield 121, 3) by decide +kernel) xw_1757)),
  List.forall_mem_cons.mpr ⟨(xOK_pure (xs_iload (show decode cX12_sendFrom 293 = .ok (.iload 7, 2) by decide +kernel))),
  List.forall_mem_cons.mpr ⟨(xOK_pure (xs_dup2 (show decode cX12_sendFrom 295 = .ok (.dup2, 1) by decide +kernel))),
  List.forall_mem_cons.mpr ⟨(xOK_pure (xs_iald (show decode cX12_sendFrom 296 = .ok (.iaload, 1) by decide +kernel))),
  List.forall_mem_cons.mpr ⟨(xOK_pure (xs_iconst (n := 1) (show decode cX12_sendFrom 297 = .ok (.iconst 1, 1) by decide +kernel) (by decide))),
  List.forall_mem_cons.mpr ⟨(xOK_pure (xs_iadd (show decode cX12_sendFrom 298 = .ok (.iadd, 1) by decide +kernel))),
  List.forall_mem_cons.mpr ⟨(xs_iast (show decode cX12_sendFrom 299 = .ok (.iastore, 1) by decide +kernel)),
  List.forall_mem_cons.mpr ⟨(xOK_pure (xs_iinc (n := 1) (show decode cX12_sendFrom 300 = .ok (.iinc 6 1, 3) by decide +kernel) (by decide) (by decide))),
  List.forall_mem_cons.mpr ⟨(xOK_pure (xs_goto (show decode cX12_sendFrom 303 = .ok (.goto (-99), 3) by decide +kernel) (by decide))),
  List.forall_mem_cons.mpr ⟨(xOK_pure (xs_aload_n (k := 0) rfl (show decode cX12_sendFrom 306 = .ok (.aload_n 0, 1) by decide +kernel))),
  List.forall_mem_cons.mpr ⟨(xOK_pure (xs_getf xcl_12 (by decide) (show decode cX12_sendFrom 307 = .ok (.getfield 133, 3) by decide +kernel) xw_1769)),
  List.forall_mem_cons.mpr ⟨(xOK_pure (xs_iload_n (k := 1) rfl (show decode cX12_sendFrom 310 = .ok (.iload_n 1, 1) by decide +kernel))),
  List.forall_mem_cons.mpr ⟨(xOK_pure (xs_iconst (n := (-1)) (show decode cX12_sendFrom 311 = .ok (.iconst (-1), 1) by decide +kernel) (by decide))),
  List.forall_mem_cons.mpr ⟨(xs_iast (show decode cX12_sendFrom 312 = .ok (.iastore, 1) by decide +kernel)),
  List.forall_mem_cons.mpr ⟨(xOK_pure (xs_aload_n (k := 0) rfl (show decode cX12_sendFrom 313 = .ok (.aload_n 0, 1) by decide +kernel))),
  List.forall_mem_cons.mpr ⟨(xOK_pure (xs_iload_n (k := 1) rfl (show decode cX12_sendFrom 314 = .ok (.iload_n 1, 1) by decide +kernel))),
  List.forall_mem_cons.mpr ⟨(xOK_pure (xs_iconst (n := 1) (show decode cX12_sendFrom 315 = .ok (.iconst 1, 1) by decide +kernel) (by decide))),
  List.forall_mem_cons.mpr ⟨(xOK_pure (xs_iadd (show decode cX12_sendFrom 316 = .ok (.iadd, 1) by decide +kernel))),
  List.forall_mem_cons.mpr ⟨(xOK_pure (xs_iload_n (k := 2) rfl (show decode cX12_sendFrom 317 = .ok (.iload_n 2, 1) by decide +kernel))),
  (fun _ h => absurd h List.not_mem_nil)⟩⟩⟩⟩⟩⟩⟩⟩⟩⟩⟩⟩⟩⟩⟩⟩⟩⟩⟩⟩
def pX12_sendFrom_9 (ev : xEv) : List (Nat × xEn) := [(318, .inl (xop (xf_iload 3 1))), (319, .inr (.inl (0, 289, 3, 12))), (322, .inr (.inr 0))]
set_option maxRecDepth 20000 in
theorem okpX12_sendFrom_9 (ev : xEv) : ∀ q ∈ pX12_sendFrom_9 ev, xEnOK ev xmi yX12_sendFrom.cls yX12_sendFrom.name cX12_sendFrom 10 none q :=
  List.forall_mem_cons.mpr ⟨(xOK_pure (xs_iload_n (k := 3) rfl (show decode cX12_sendFrom 318 = .ok (.iload_n 3, 1) by decide +kernel))),
  List.forall_mem_cons.mpr ⟨(xcm mi_289 ⟨⟨(by decide +kernel), (by decide +kernel), (by decide +kernel)⟩, (by decide), xw_2317, xw_125, Or.inl ⟨rfl, _, _, _, _, (show decode cX12_sendFrom 319 = .ok (.invokevirtual 444, 3) by decide +kernel), xw_2314, xw_2316, xw_110, rfl⟩⟩),
  List.forall_mem_cons.mpr ⟨(Or.inl ⟨rfl, (show decode cX12_sendFrom 322 = .ok (.return_, 1) by decide +kernel), rfl⟩),
  (fun _ h => absurd h List.not_mem_nil)⟩⟩⟩
def pX12_sendFrom (ev : xEv) : List (Nat × xEn) := pX12_sendFrom_0 ev ++ (pX12_sendFrom_1 ev ++ (pX12_sendFrom_2 ev ++ (pX12_sendFrom_3 ev ++ (pX12_sendFrom_4 ev ++ (pX12_sendFrom_5 ev ++ (pX12_sendFrom_6 ev ++ (pX12_sendFrom_7 ev ++ (pX12_sendFrom_8 ev ++ (pX12_sendFrom_9 ev)))))))))
theorem okpX12_sendFrom (ev : xEv) : ∀ q ∈ pX12_sendFrom ev, xEnOK ev xmi yX12_sendFrom.cls yX12_sendFrom.name cX12_sendFrom 10 none q := List.forall_mem_append.mpr ⟨okpX12_sendFrom_0 ev, List.forall_mem_append.mpr ⟨okpX12_sendFrom_1 ev, List.forall_mem_append.mpr ⟨okpX12_sendFrom_2 ev, List.forall_mem_append.mpr ⟨okpX12_sendFrom_3 ev, List.forall_mem_append.mpr ⟨okpX12_sendFrom_4 ev, List.forall_mem_append.mpr ⟨okpX12_sendFrom_5 ev, List.forall_mem_append.mpr ⟨okpX12_sendFrom_6 ev, List.forall_mem_append.mpr ⟨okpX12_sendFrom_7 ev, List.forall_mem_append.mpr ⟨okpX12_sendFrom_8 ev, okpX12_sendFrom_9 ev⟩⟩⟩⟩⟩⟩⟩⟩⟩
theorem omX12_sendFrom (ev : xEv) : xMethOK ev xmi yX12_sendFrom.cls yX12_sendFrom.name 289 (pX12_sendFrom ev) := xMethOK.of mi_289 (by decide +kernel) (okpX12_sendFrom ev)
def pX12_send_0 (ev : xEv) : List (Nat × xEn) := [(0, .inl (xop (xf_aload 0 1))), (1, .inl (xop (xf_push (.int 0) 1))), (2, .inl (xo_putf 12 47 .int)), (5, .inl (xop (xf_aload 0 1))), (6, .inr (.inl (0, 286, 0, 12))), (9, .inl (xop xf_pop)), (10, .inl (xop (xf_aload 0 1))), (11, .inl (xop (xf_push (.int (-1)) 1))), (12, .inl (xo_putf 12 62 .int)), (15, .inl (xop (xf_aload 0 1))), (16, .inl (xop (xf_push (.int 0) 1))), (17, .inl (xo_putf 12 63 .int)), (20, .inl (xop (xf_aload 0 1))), (21, .inl (xop (xf_push (.int 0) 1))), (22, .inl (xop (xf_push (.int 0) 1))), (23, .inl (xop (xf_push (.int 0) 1))), (24, .inr (.inl (0, 289, 3, 12))), (27, .inl (xop (xf_aload 0 1))), (28, .inl (xop (xf_aload 0 1))), (29, .inl (xop (xf_getf 12 59)))]
set_option maxRecDepth 20000 in
theorem okpX12_send_0 (ev : xEv) : ∀ q ∈ pX12_send_0 ev, xEnOK ev xmi yX12_send.cls yX12_send.name cX12_send 4 (some .int) q :=
  List.forall_mem_cons.mpr ⟨(xOK_pure (xs_aload_n (k := 0) rfl (show decode cX12_send 0 = .ok (.aload_n 0, 1) by decide +kernel))),
  List.forall_mem_cons.mpr ⟨(xOK_pure (xs_iconst (n := 0) (show decode cX12_send 1 = .ok (.iconst 0, 1) by decide +kernel) (by decide))),
  List.forall_mem_cons.mpr ⟨(xs_putf (k := 47) xcl_12 (by decide) rfl (show decode cX12_send 2 = .ok (.putfield 140, 3) by decide +kernel) xw_1756),
  List.forall_mem_cons.mpr ⟨(xOK_pure (xs_aload_n (k := 0) rfl (show decode cX12_send 5 = .ok (.aload_n 0, 1) by decide +kernel))),
  List.forall_mem_cons.mpr ⟨(xcm mi_286 ⟨⟨(by decide +kernel), (by decide +kernel), (by decide +kernel)⟩, (by decide), xw_2305, xw_125, Or.inl ⟨rfl, _, _, _, _, (show decode cX12_send 6 = .ok (.invokevirtual 432, 3) by decide +kernel), xw_2302, xw_2304, xw_108, rfl⟩⟩),
  List.forall_mem_cons.mpr ⟨(xOK_pure (xs_pop (show decode cX12_send 9 = .ok (.pop, 1) by decide +kernel))),
  List.forall_mem_cons.mpr ⟨(xOK_pure (xs_aload_n (k := 0) rfl (show decode cX12_send 10 = .ok (.aload_n 0, 1) by decide +kernel))),
  List.forall_mem_cons.mpr ⟨(xOK_pure (xs_iconst (n := (-1)) (show decode cX12_send 11 = .ok (.iconst (-1), 1) by decide +kernel) (by decide))),
  List.forall_mem_cons.mpr ⟨(xs_putf (k := 62) xcl_12 (by decide) rfl (show decode cX12_send 12 = .ok (.putfield 438, 3) by decide +kernel) xw_1771),
  List.forall_mem_cons.mpr ⟨(xOK_pure (xs_aload_n (k := 0) rfl (show decode cX12_send 15 = .ok (.aload_n 0, 1) by decide +kernel))),
  List.forall_mem_cons.mpr ⟨(xOK_pure (xs_iconst (n := 0) (show decode cX12_send 16 = .ok (.iconst 0, 1) by decide +kernel) (by decide))),
  List.forall_mem_cons.mpr ⟨(xs_putf (k := 63) xcl_12 (by decide) rfl (show decode cX12_send 17 = .ok (.putfield 441, 3) by decide +kernel) xw_1772),
  List.forall_mem_cons.mpr ⟨(xOK_pure (xs_aload_n (k := 0) rfl (show decode cX12_send 20 = .ok (.aload_n 0, 1) by decide +kernel))),
  List.forall_mem_cons.mpr ⟨(xOK_pure (xs_iconst (n := 0) (show decode cX12_send 21 = .ok (.iconst 0, 1) by decide +kernel) (by decide))),
  List.forall_mem_cons.mpr ⟨(xOK_pure (xs_iconst (n := 0) (show decode cX12_send 22 = .ok (.iconst 0, 1) by decide +kernel) (by decide))),
  List.forall_mem_cons.mpr ⟨(xOK_pure (xs_iconst (n := 0) (show decode cX12_send 23 = .ok (.iconst 0, 1) by decide +kernel) (by decide))),
  List.forall_mem_cons.mpr ⟨(xcm mi_289 ⟨⟨(by decide +kernel), (by decide +kernel), (by decide +kernel)⟩, (by decide), xw_2317, xw_125, Or.inl ⟨rfl, _, _, _, _, (show decode cX12_send 24 = .ok (.invokevirtual 444, 3) by decide +kernel), xw_2314, xw_2316, xw_110, rfl⟩⟩),
  List.forall_mem_cons.mpr ⟨(xOK_pure (xs_aload_n (k := 0) rfl (show decode cX12_send 27 = .ok (.aload_n 0, 1) by decide +kernel))),
  List.forall_mem_cons.mpr ⟨(xOK_pure (xs_aload_n (k := 0) rfl (show decode cX12_send 28 = .ok (.aload_n 0, 1) by decide +kernel))),
  List.forall_mem_cons.mpr ⟨(xOK_pure (xs_getf xcl_12 (by decide) (show decode cX12_send 29 = .ok (.getfield 426, 3) by decide +kernel) xw_1768)),
  (fun _ h => absurd h List.not_mem_nil)⟩⟩⟩⟩⟩⟩⟩⟩⟩⟩⟩⟩⟩⟩⟩⟩⟩⟩⟩⟩
def pX12_send_1 (ev : xEv) : List (Nat × xEn) := [(32, .inl (xo_putf 12 46 .int)), (35, .inl (xop (xf_push (.int 0) 1))), (36, .inl (xop (xf_istore 1 1))), (37, .inl (xop (xf_iload 1 1))), (38, .inl (xop (xf_aload 0 1))), (39, .inl (xop (xf_getf 12 59))), (42, .inl (xop (xf_icmp_ge 138))), (45, .inl (xop (xf_aload 0 1))), (46, .inl (xop (xf_getf 12 61))), (49, .inl (xop (xf_iload 1 1))), (50, .inl (xop (xf_ald (ev.1 0)))), (51, .inl (xop (xf_istore 2 1))), (52, .inl (xop (xf_aload 0 1))), (53, .inl (xop (xf_getf 12 45))), (56, .inl (xop (xf_iload 1 1))), (57, .inl (xop (xf_iload 2 1))), (58, .inl (xo_ast (ev.1 0) (fun x => x))), (59, .inl (xop (xf_iload 2 1))), (60, .inl (xop (xf_push (.int (-1)) 1))), (61, .inl (xop (xf_icmp_ne 67)))]
set_option maxRecDepth 20000 in
theorem okpX12_send_1 (ev : xEv) : ∀ q ∈ pX12_send_1 ev, xEnOK ev xmi yX12_send.cls yX12_send.name cX12_send 4 (some .int) q :=
  List.forall_mem_cons.mpr ⟨(xs_putf (k := 46) xcl_12 (by decide) rfl (show decode cX12_send 32 = .ok (.putfield 398, 3) by decide +kernel) xw_1755),
  List.forall_mem_cons.mpr ⟨(xOK_pure (xs_iconst (n := 0) (show decode cX12_send 35 = .ok (.iconst 0, 1) by decide +kernel) (by decide))),
  List.forall_mem_cons.mpr ⟨(xOK_pure (xs_istore_n (k := 1) rfl (show decode cX12_send 36 = .ok (.istore_n 1, 1) by decide +kernel) (by decide))),
  List.forall_mem_cons.mpr ⟨(xOK_pure (xs_iload_n (k := 1) rfl (show decode cX12_send 37 = .ok (.iload_n 1, 1) by decide +kernel))),
  List.forall_mem_cons.mpr ⟨(xOK_pure (xs_aload_n (k := 0) rfl (show decode cX12_send 38 = .ok (.aload_n 0, 1) by decide +kernel))),
  List.forall_mem_cons.mpr ⟨(xOK_pure (xs_getf xcl_12 (by decide) (show decode cX12_send 39 = .ok (.getfield 426, 3) by decide +kernel) xw_1768)),
  List.forall_mem_cons.mpr ⟨(xOK_pure (xs_icmp_ge (show decode cX12_send 42 = .ok (.if_icmp .ge 96, 3) by decide +kernel) (by decide))),
  List.forall_mem_cons.mpr ⟨(xOK_pure (xs_aload_n (k := 0) rfl (show decode cX12_send 45 = .ok (.aload_n 0, 1) by decide +kernel))),
  List.forall_mem_cons.mpr ⟨(xOK_pure (xs_getf xcl_12 (by decide) (show decode cX12_send 46 = .ok (.getfield 136, 3) by decide +kernel) xw_1770)),
  List.forall_mem_cons.mpr ⟨(xOK_pure (xs_iload_n (k := 1) rfl (show decode cX12_send 49 = .ok (.iload_n 1, 1) by decide +kernel))),
  List.forall_mem_cons.mpr ⟨(xOK_pure (xs_iald (show decode cX12_send 50 = .ok (.iaload, 1) by decide +kernel))),
  List.forall_mem_cons.mpr ⟨(xOK_pure (xs_istore_n (k := 2) rfl (show decode cX12_send 51 = .ok (.istore_n 2, 1) by decide +kernel) (by decide))),
  List.forall_mem_cons.mpr ⟨(xOK_pure (xs_aload_n (k := 0) rfl (show decode cX12_send 52 = .ok (.aload_n 0, 1) by decide +kernel))),
  List.forall_mem_cons.mpr ⟨(xOK_pure (xs_getf xcl_12 (by decide) (show decode cX12_send 53 = .ok (.getfield 118, 3) by decide +kernel) xw_1754)),
  List.forall_mem_cons.mpr ⟨(xOK_pure (xs_iload_n (k := 1) rfl (show decode cX12_send 56 = .ok (.iload_n 1, 1) by decide +kernel))),
  List.forall_mem_cons.mpr ⟨(xOK_pure (xs_iload_n (k := 2) rfl (show decode cX12_send 57 = .ok (.iload_n 2, 1) by decide +kernel))),
  List.forall_mem_cons.mpr ⟨(xs_iast (show decode cX12_send 58 = .ok (.iastore, 1) by decide +kernel)),
  List.forall_mem_cons.mpr ⟨(xOK_pure (xs_iload_n (k := 2) rfl (show decode cX12_send 59 = .ok (.iload_n 2, 1) by decide +kernel))),
  List.forall_mem_cons.mpr ⟨(xOK_pure (xs_iconst (n := (-1)) (show decode cX12_send 60 = .ok (.iconst (-1), 1) by decide +kernel) (by decide))),
  List.forall_mem_cons.mpr ⟨(xOK_pure (xs_icmp_ne (show decode cX12_send 61 = .ok (.if_icmp .ne 6, 3) by decide +kernel) (by decide))),
  (fun _ h => absurd h List.not_mem_nil)⟩⟩⟩⟩⟩⟩⟩⟩⟩⟩⟩⟩⟩⟩⟩⟩⟩⟩⟩⟩
def pX12_send_2 (ev : xEv) : List (Nat × xEn) := [(64, .inl (xop (xf_goto 132))), (67, .inl (xop (xf_aload 0 1))), (68, .inl (xop (xf_getf 12 58))), (71, .inl (xop (xf_iload 1 1))), (72, .inl (xop (xf_ald (ev.1 0)))), (73, .inl (xop (xf_istore 3 1))), (74, .inl (xop (xf_aload 0 1))), (75, .inl (xop (xf_getf 12 48))), (78, .inl (xop (xf_push (.int 3) 1))), (79, .inl (xop (xf_push (.int 2) 1))), (80, .inl (xop (xf_iload 2 1))), (81, .inl (xop (xf_bin (fun x y => x * y)))), (82, .inl (xop (xf_bin (fun x y => x + y)))), (83, .inl (xop (xf_push (.int 1) 1))), (84, .inl (xop (xf_bin (fun x y => x + y)))), (85, .inl (xop xf_dup2)), (86, .inl (xop (xf_ald (ev.1 0)))), (87, .inl (xop (xf_push (.int 1) 1))), (88, .inl (xop (xf_bin (fun x y => x - y)))), (89, .inl (xo_ast (ev.1 0) (fun x => x)))]
set_option maxRecDepth 20000 in
theorem okpX12_send_2 (ev : xEv) : ∀ q ∈ pX12_send_2 ev, xEnOK ev xmi yX12_send.cls yX12_send.name cX12_send 4 (some .int) q :=
  List.forall_mem_cons.mpr ⟨(xOK_pure (xs_goto (show decode cX12_send 64 = .ok (.goto 68, 3) by decide +kernel) (by decide))),
  List.forall_mem_cons.mpr ⟨(xOK_pure (xs_aload_n (k := 0) rfl (show decode cX12_send 67 = .ok (.aload_n 0, 1) by decide +kernel))),
  List.forall_mem_cons.mpr ⟨(xOK_pure (xs_getf xcl_12 (by decide) (show decode cX12_send 68 = .ok (.getfield 130, 3) by decide +kernel) xw_1767)),
  List.forall_mem_cons.mpr ⟨(xOK_pure (xs_iload_n (k := 1) rfl (show decode cX12_send 71 = .ok (.iload_n 1, 1) by decide +kernel))),
  List.forall_mem_cons.mpr ⟨(xOK_pure (xs_iald (show decode cX12_send 72 = .ok (.iaload, 1) by decide +kernel))),
  List.forall_mem_cons.mpr ⟨(xOK_pure (xs_istore_n (k := 3) rfl (show decode cX12_send 73 = .ok (.istore_n 3, 1) by decide +kernel) (by decide))),
  List.forall_mem_cons.mpr ⟨(xOK_pure (xs_aload_n (k := 0) rfl (show decode cX12_send 74 = .ok (.aload_n 0, 1) by decide +kernel))),
  List.forall_mem_cons.mpr ⟨(xOK_pure (xs_getf xcl_12 (by decide) (show decode cX12_send 75 = .ok (.getfield 121, 3) by decide +kernel) xw_1757)),
  List.forall_mem_cons.mpr ⟨(xOK_pure (xs_iconst (n := 3) (show decode cX12_send 78 = .ok (.iconst 3, 1) by decide +kernel) (by decide))),
  List.forall_mem_cons.mpr ⟨(xOK_pure (xs_iconst (n := 2) (show decode cX12_send 79 = .ok (.iconst 2, 1) by decide +kernel) (by decide))),
  List.forall_mem_cons.mpr ⟨(xOK_pure (xs_iload_n (k := 2) rfl (show decode cX12_send 80 = .ok (.iload_n 2, 1) by decide +kernel))),
  List.forall_mem_cons.mpr ⟨(xOK_pure (xs_imul (show decode cX12_send 81 = .ok (.imul, 1) by decide +kernel))),
  List.forall_mem_cons.mpr ⟨(xOK_pure (xs_iadd (show decode cX12_send 82 = .ok (.iadd, 1) by decide +kernel))),
  List.forall_mem_cons.mpr ⟨(xOK_pure (xs_iconst (n := 1) (show decode cX12_send 83 = .ok (.iconst 1, 1) by decide +kernel) (by decide))),
  List.forall_mem_cons.mpr ⟨(xOK_pure (xs_iadd (show decode cX12_send 84 = .ok (.iadd, 1) by decide +kernel))),
  List.forall_mem_cons.mpr ⟨(xOK_pure (xs_dup2 (show decode cX12_send 85 = .ok (.dup2, 1) by decide +kernel))),
  List.forall_mem_cons.mpr ⟨(xOK_pure (xs_iald (show decode cX12_send 86 = .ok (.iaload, 1) by decide +kernel))),
  List.forall_mem_cons.mpr ⟨(xOK_pure (xs_iconst (n := 1) (show decode cX12_send 87 = .ok (.iconst 1, 1) by decide +kernel) (by decide))),
  List.forall_mem_cons.mpr ⟨(xOK_pure (xs_isub (show decode cX12_send 88 = .ok (.isub, 1) by decide +kernel))),
  List.forall_mem_cons.mpr ⟨(xs_iast (show decode cX12_send 89 = .ok (.iastore, 1) by decide +kernel)),
  (fun _ h => absurd h List.not_mem_nil)⟩⟩⟩⟩⟩⟩⟩⟩⟩⟩⟩⟩⟩⟩⟩⟩⟩⟩⟩⟩
def pX12_send_3 (ev : xEv) : List (Nat × xEn) := [(90, .inl (xop (xf_aload 0 1))), (91, .inl (xop (xf_iload 3 1))), (92, .inl (xop (xf_push (.int 4) 1))), (93, .inl (xop (xf_push (.int 0) 1))), (94, .inr (.inl (0, 196, 3, 12))), (97, .inl (xop (xf_aload 0 1))), (98, .inl (xop (xf_iload 3 1))), (99, .inl (xop (xf_push (.int 5) 1))), (100, .inl (xop (xf_push (.int 0) 1))), (101, .inr (.inl (0, 196, 3, 12))), (104, .inl (xop (xf_aload 0 1))), (105, .inl (xop (xf_iload 3 1))), (106, .inl (xop (xf_push (.int 7) 2))), (108, .inl (xop (xf_push (.int 0) 1))), (109, .inr (.inl (0, 196, 3, 12))), (112, .inl (xop (xf_aload 0 1))), (113, .inl (xop (xf_iload 3 1))), (114, .inl (xop (xf_push (.int 9) 2))), (116, .inl (xop (xf_aload 0 1))), (117, .inl (xop (xf_getf 12 48)))]
set_option maxRecDepth 20000 in
theorem okpX12_send_3 (ev : xEv) : ∀ q ∈ pX12_send_3 ev, xEnOK ev xmi yX12_send.cls yX12_send.name cX12_send 4 (some .int) q :=
  List.forall_mem_cons.mpr ⟨(xOK_pure (xs_aload_n (k := 0) rfl (show decode cX12_send 90 = .ok (.aload_n 0, 1) by decide +kernel))),
  List.forall_mem_cons.mpr ⟨(xOK_pure (xs_iload_n (k := 3) rfl (show decode cX12_send 91 = .ok (.iload_n 3, 1) by decide +kernel))),
  List.forall_mem_cons.mpr ⟨(xOK_pure (xs_iconst (n := 4) (show decode cX12_send 92 = .ok (.iconst 4, 1) by decide +kernel) (by decide))),
  List.forall_mem_cons.mpr ⟨(xOK_pure (xs_iconst (n := 0) (show decode cX12_send 93 = .ok (.iconst 0, 1) by decide +kernel) (by decide))),
  List.forall_mem_cons.mpr ⟨(xcm mi_196 ⟨⟨(by decide +kernel), (by decide +kernel), (by decide +kernel)⟩, (by decide), xw_1985, xw_125, Or.inl ⟨rfl, _, _, _, _, (show decode cX12_send 94 = .ok (.invokevirtual 199, 3) by decide +kernel), xw_1982, xw_1984, xw_60, rfl⟩⟩),
  List.forall_mem_cons.mpr ⟨(xOK_pure (xs_aload_n (k := 0) rfl (show decode cX12_send 97 = .ok (.aload_n 0, 1) by decide +kernel))),
  List.forall_mem_cons.mpr ⟨(xOK_pure (xs_iload_n (k := 3) rfl (show decode cX12_send 98 = .ok (.iload_n 3, 1) by decide +kernel))),
  List.forall_mem_cons.mpr ⟨(xOK_pure (xs_iconst (n := 5) (show decode cX12_send 99 = .ok (.iconst 5, 1) by decide +kernel) (by decide))),
  List.forall_mem_cons.mpr ⟨(xOK_pure (xs_iconst (n := 0) (show decode cX12_send 100 = .ok (.iconst 0, 1) by decide +kernel) (by decide))),
  List.forall_mem_cons.mpr ⟨(xcm mi_196 ⟨⟨(by decide +kernel), (by decide +kernel), (by decide +kernel)⟩, (by decide), xw_1985, xw_125, Or.inl ⟨rfl, _, _, _, _, (show decode cX12_send 101 = .ok (.invokevirtual 199, 3) by decide +kernel), xw_1982, xw_1984, xw_60, rfl⟩⟩),
  List.forall_mem_cons.mpr ⟨(xOK_pure (xs_aload_n (k := 0) rfl (show decode cX12_send 104 = .ok (.aload_n 0, 1) by decide +kernel))),
  List.forall_mem_cons.mpr ⟨(xOK_pure (xs_iload_n (k := 3) rfl (show decode cX12_send 105 = .ok (.iload_n 3, 1) by decide +kernel))),
  List.forall_mem_cons.mpr ⟨(xOK_pure (xs_bipush (n := 7) (show decode cX12_send 106 = .ok (.bipush 7, 2) by decide +kernel) (by decide))),
  List.forall_mem_cons.mpr ⟨(xOK_pure (xs_iconst (n := 0) (show decode cX12_send 108 = .ok (.iconst 0, 1) by decide +kernel) (by decide))),
  List.forall_mem_cons.mpr ⟨(xcm mi_196 ⟨⟨(by decide +kernel), (by decide +kernel), (by decide +kernel)⟩, (by decide), xw_1985, xw_125, Or.inl ⟨rfl, _, _, _, _, (show decode cX12_send 109 = .ok (.invokevirtual 199, 3) by decide +kernel), xw_1982, xw_1984, xw_60, rfl⟩⟩),
  List.forall_mem_cons.mpr ⟨(xOK_pure (xs_aload_n (k := 0) rfl (show decode cX12_send 112 = .ok (.aload_n 0, 1) by decide +kernel))),
  List.forall_mem_cons.mpr ⟨(xOK_pure (xs_iload_n (k := 3) rfl (show decode cX12_send 113 = .ok (.iload_n 3, 1) by decide +kernel))),
  List.forall_mem_cons.mpr ⟨(xOK_pure (xs_bipush (n := 9) (show decode cX12_send 114 = .ok (.bipush 9, 2) by decide +kernel) (by decide))),
  List.forall_mem_cons.mpr ⟨(xOK_pure (xs_aload_n (k := 0) rfl (show decode cX12_send 116 = .ok (.aload_n 0, 1) by decide +kernel))),
  List.forall_mem_cons.mpr ⟨(xOK_pure (xs_getf xcl_12 (by decide) (show decode cX12_send 117 = .ok (.getfield 121, 3) by decide +kernel) xw_1757)),
  (fun _ h => absurd h List.not_mem_nil)⟩⟩⟩⟩⟩⟩⟩⟩⟩⟩⟩⟩⟩⟩⟩⟩⟩⟩⟩⟩
def pX12_send_4 (ev : xEv) : List (Nat × xEn) := [(120, .inl (xop (xf_push (.int 0) 1))), (121, .inl (xop (xf_ald (ev.1 0)))), (122, .inl (xop (xf_aload 0 1))), (123, .inl (xop (xf_iload 2 1))), (124, .inl (xop (xf_iload 3 1))), (125, .inr (.inl (0, 288, 2, 12))), (128, .inl (xop (xf_bin (fun x y => x + y)))), (129, .inr (.inl (0, 196, 3, 12))), (132, .inl (xop (xf_iinc 1 1))), (135, .inl (xop (xf_goto 37))), (138, .inl (xop (xf_aload 0 1))), (139, .inl (xop (xf_getf 12 63))), (142, .inr (.inr 1))]
set_option maxRecDepth 20000 in
theorem okpX12_send_4 (ev : xEv) : ∀ q ∈ pX12_send_4 ev, xEnOK ev xmi yX12_send.cls yX12_send.name cX12_send 4 (some .int) q :=
  List.forall_mem_cons.mpr ⟨(xOK_pure (xs_iconst (n := 0) (show decode cX12_send 120 = .ok (.iconst 0, 1) by decide +kernel) (by decide))),
  List.forall_mem_cons.mpr ⟨(xOK_pure (xs_iald (show decode cX12_send 121 = .ok (.iaload, 1) by decide +kernel))),
  List.forall_mem_cons.mpr ⟨(xOK_pure (xs_aload_n (k := 0) rfl (show decode cX12_send 122 = .ok (.aload_n 0, 1) by decide +kernel))),
  List.forall_mem_cons.mpr ⟨(xOK_pure (xs_iload_n (k := 2) rfl (show decode cX12_send 123 = .ok (.iload_n 2, 1) by decide +kernel))),
  List.forall_mem_cons.mpr ⟨(xOK_pure (xs_iload_n (k := 3) rfl (show decode cX12_send 124 = .ok (.iload_n 3, 1) by decide +kernel))),
  List.forall_mem_cons.mpr ⟨(xcm mi_288 ⟨⟨(by decide +kernel), (by decide +kernel), (by decide +kernel)⟩, (by decide), xw_2321, xw_125, Or.inl ⟨rfl, _, _, _, _, (show decode cX12_send 125 = .ok (.invokevirtual 435, 3) by decide +kernel), xw_2318, xw_2320, xw_111, rfl⟩⟩),
  List.forall_mem_cons.mpr ⟨(xOK_pure (xs_iadd (show decode cX12_send 128 = .ok (.iadd, 1) by decide +kernel))),
  List.forall_mem_cons.mpr ⟨(xcm mi_196 ⟨⟨(by decide +kernel), (by decide +kernel), (by decide +kernel)⟩, (by decide), xw_1985, xw_125, Or.inl ⟨rfl, _, _, _, _, (show decode cX12_send 129 = .ok (.invokevirtual 199, 3) by decide +kernel), xw_1982, xw_1984, xw_60, rfl⟩⟩),
  List.forall_mem_cons.mpr ⟨(xOK_pure (xs_iinc (n := 1) (show decode cX12_send 132 = .ok (.iinc 1 1, 3) by decide +kernel) (by decide) (by decide))),
  List.forall_mem_cons.mpr ⟨(xOK_pure (xs_goto (show decode cX12_send 135 = .ok (.goto (-98), 3) by decide +kernel) (by decide))),
  List.forall_mem_cons.mpr ⟨(xOK_pure (xs_aload_n (k := 0) rfl (show decode cX12_send 138 = .ok (.aload_n 0, 1) by decide +kernel))),
  List.forall_mem_cons.mpr ⟨(xOK_pure (xs_getf xcl_12 (by decide) (show decode cX12_send 139 = .ok (.getfield 441, 3) by decide +kernel) xw_1772)),
  List.forall_mem_cons.mpr ⟨(Or.inr (Or.inl ⟨rfl, (show decode cX12_send 142 = .ok (.ireturn, 1) by decide +kernel), rfl⟩)),
  (fun _ h => absurd h List.not_mem_nil)⟩⟩⟩⟩⟩⟩⟩⟩⟩⟩⟩⟩⟩
def pX12_send (ev : xEv) : List (Nat × xEn) := pX12_send_0 ev ++ (pX12_send_1 ev ++ (pX12_send_2 ev ++ (pX12_send_3 ev ++ (pX12_send_4 ev))))
theorem okpX12_send (ev : xEv) : ∀ q ∈ pX12_send ev, xEnOK ev xmi yX12_send.cls yX12_send.name cX12_send 4 (some .int) q := List.forall_mem_append.mpr ⟨okpX12_send_0 ev, List.forall_mem_append.mpr ⟨okpX12_send_1 ev, List.forall_mem_append.mpr ⟨okpX12_send_2 ev, List.forall_mem_append.mpr ⟨okpX12_send_3 ev, okpX12_send_4 ev⟩⟩⟩⟩
theorem omX12_send (ev : xEv) : xMethOK ev xmi yX12_send.cls yX12_send.name 290 (pX12_send ev) := xMethOK.of mi_290 (by decide +kernel) (okpX12_send ev)
def pX12_putAside (ev : xEv) : List (Nat × xEn) := [(0, .inl (xop (xf_push (.int 0) 1))), (1, .inl (xop (xf_istore 1 1))), (2, .inl (xop (xf_iload 1 1))), (3, .inl (xop (xf_push (.int 2305) 3))), (6, .inl (xop (xf_icmp_ge 27))), (9, .inl (xop (xf_aload 0 1))), (10, .inl (xop (xf_getf 12 49))), (13, .inl (xop (xf_iload 1 1))), (14, .inl (xop (xf_aload 0 1))), (15, .inl (xop (xf_getf 12 48))), (18, .inl (xop (xf_iload 1 1))), (19, .inl (xop (xf_ald (ev.1 0)))), (20, .inl (xo_ast (ev.1 0) (fun x => x))), (21, .inl (xop (xf_iinc 1 1))), (24, .inl (xop (xf_goto 2))), (27, .inr (.inr 0))]
set_option maxRecDepth 20000 in
theorem okpX12_putAside (ev : xEv) : ∀ q ∈ pX12_putAside ev, xEnOK ev xmi yX12_putAside.cls yX12_putAside.name cX12_putAside 2 none q :=
  List.forall_mem_cons.mpr ⟨(xOK_pure (xs_iconst (n := 0) (show decode cX12_putAside 0 = .ok (.iconst 0, 1) by decide +kernel) (by decide))),
  List.forall_mem_cons.mpr ⟨(xOK_pure (xs_istore_n (k := 1) rfl (show decode cX12_putAside 1 = .ok (.istore_n 1, 1) by decide +kernel) (by decide))),
  List.forall_mem_cons.mpr ⟨(xOK_pure (xs_iload_n (k := 1) rfl (show decode cX12_putAside 2 = .ok (.iload_n 1, 1) by decide +kernel))),
  List.forall_mem_cons.mpr ⟨(xOK_pure (xs_sipush (n := 2305) (show decode cX12_putAside 3 = .ok (.sipush 2305, 3) by decide +kernel) (by decide))),
  List.forall_mem_cons.mpr ⟨(xOK_pure (xs_icmp_ge (show decode cX12_putAside 6 = .ok (.if_icmp .ge 21, 3) by decide +kernel) (by decide))),
  List.forall_mem_cons.mpr ⟨(xOK_pure (xs_aload_n (k := 0) rfl (show decode cX12_putAside 9 = .ok (.aload_n 0, 1) by decide +kernel))),
  List.forall_mem_cons.mpr ⟨(xOK_pure (xs_getf xcl_12 (by decide) (show decode cX12_putAside 10 = .ok (.getfield 124, 3) by decide +kernel) xw_1758)),
  List.forall_mem_cons.mpr ⟨(xOK_pure (xs_iload_n (k := 1) rfl (show decode cX12_putAside 13 = .ok (.iload_n 1, 1) by decide +kernel))),
  List.forall_mem_cons.mpr ⟨(xOK_pure (xs_aload_n (k := 0) rfl (show decode cX12_putAside 14 = .ok (.aload_n 0, 1) by decide +kernel))),
  List.forall_mem_cons.mpr ⟨(xOK_pure (xs_getf xcl_12 (by decide) (show decode cX12_putAside 15 = .ok (.getfield 121, 3) by decide +kernel) xw_1757)),
  List.forall_mem_cons.mpr ⟨(xOK_pure (xs_iload_n (k := 1) rfl (show decode cX12_putAside 18 = .ok (.iload_n 1, 1) by decide +kernel))),
  List.forall_mem_cons.mpr ⟨(xOK_pure (xs_iald (show decode cX12_putAside 19 = .ok (.iaload, 1) by decide +kernel))),
  List.forall_mem_cons.mpr ⟨(xs_iast (show decode cX12_putAside 20 = .ok (.iastore, 1) by decide +kernel)),
  List.forall_mem_cons.mpr ⟨(xOK_pure (xs_iinc (n := 1) (show decode cX12_putAside 21 = .ok (.iinc 1 1, 3) by decide +kernel) (by decide) (by decide))),
  List.forall_mem_cons.mpr ⟨(xOK_pure (xs_goto (show decode cX12_putAside 24 = .ok (.goto (-22), 3) by decide +kernel) (by decide))),
  List.forall_mem_cons.mpr ⟨(Or.inl ⟨rfl, (show decode cX12_putAside 27 = .ok (.return_, 1) by decide +kernel), rfl⟩),
  (fun _ h => absurd h List.not_mem_nil)⟩⟩⟩⟩⟩⟩⟩⟩⟩⟩⟩⟩⟩⟩⟩⟩
theorem omX12_putAside (ev : xEv) : xMethOK ev xmi yX12_putAside.cls yX12_putAside.name 291 (pX12_putAside ev) := xMethOK.of mi_291 (by decide +kernel) (okpX12_putAside ev)
def pX12_putBack (ev : xEv) : List (Nat × xEn) := [(0, .inl (xop (xf_push (.int 0) 1))), (1, .inl (xop (xf_istore 1 1))), (2, .inl (xop (xf_iload 1 1))), (3, .inl (xop (xf_push (.int 2305) 3))), (6, .inl (xop (xf_icmp_ge 27))), (9, .inl (xop (xf_aload 0 1))), (10, .inl (xop (xf_getf 12 48))), (13, .inl (xop (xf_iload 1 1))), (14, .inl (xop (xf_aload 0 1))), (15, .inl (xop (xf_getf 12 49))), (18, .inl (xop (xf_iload 1 1))), (19, .inl (xop (xf_ald (ev.1 0)))), (20, .inl (xo_ast (ev.1 0) (fun x => x))), (21, .inl (xop (xf_iinc 1 1))), (24, .inl (xop (xf_goto 2))), (27, .inr (.inr 0))]
set_option maxRecDepth 20000 in
theorem okpX12_putBack (ev : xEv) : ∀ q ∈ pX12_putBack ev, xEnOK ev xmi yX12_putBack.cls yX12_putBack.name cX12_putBack 2 none q :=
  List.forall_mem_cons.mpr ⟨(xOK_pure (xs_iconst (n := 0) (show decode cX12_putBack 0 = .ok (.iconst 0, 1) by decide +kernel) (by decide))),
  List.forall_mem_cons.mpr ⟨(xOK_pure (xs_istore_n (k := 1) rfl (show decode cX12_putBack 1 = .ok (.istore_n 1, 1) by decide +kernel) (by decide))),
  List.forall_mem_cons.mpr ⟨(xOK_pure (xs_iload_n (k := 1) rfl (show decode cX12_putBack 2 = .ok (.iload_n 1, 1) by decide +kernel))),
  List.forall_mem_cons.mpr ⟨(xOK_pure (xs_sipush (n := 2305) (show decode cX12_putBack 3 = .ok (.sipush 2305, 3) by decide +kernel) (by decide))),
  List.forall_mem_cons.mpr ⟨(xOK_pure (xs_icmp_ge (show decode cX12_putBack 6 = .ok (.if_icmp .ge 21, 3) by decide +kernel) (by decide))),
  List.forall_mem_cons.mpr ⟨(xOK_pure (xs_aload_n (k := 0) rfl (show decode cX12_putBack 9 = .ok (.aload_n 0, 1) by decide +kernel))),
  List.forall_mem_cons.mpr ⟨(xOK_pure (xs_getf xcl_12 (by decide) (show decode cX12_putBack 10 = .ok (.getfield 121, 3) by decide +kernel) xw_1757)),
  List.forall_mem_cons.mpr ⟨(xOK_pure (xs_iload_n (k := 1) rfl (show decode cX12_putBack 13 = .ok (.iload_n 1, 1) by decide +kernel))),
  List.forall_mem_cons.mpr ⟨(xOK_pure (xs_aload_n (k := 0) rfl (show decode cX12_putBack 14 = .ok (.aload_n 0, 1) by decide +kernel))),
  List.forall_mem_cons.mpr ⟨(xOK_pure (xs_getf xcl_12 (by decide) (show decode cX12_putBack 15 = .ok (.getfield 124, 3) by decide +kernel) xw_1758)),
  List.forall_mem_cons.mpr ⟨(xOK_pure (xs_iload_n (k := 1) rfl (show decode cX12_putBack 18 = .ok (.iload_n 1, 1) by decide +kernel))),
  List.forall_mem_cons.mpr ⟨(xOK_pure (xs_iald (show decode cX12_putBack 19 = .ok (.iaload, 1) by decide +kernel))),
  List.forall_mem_cons.mpr ⟨(xs_iast (show decode cX12_putBack 20 = .ok (.iastore, 1) by decide +kernel)),
  List.forall_mem_cons.mpr ⟨(xOK_pure (xs_iinc (n := 1) (show decode cX12_putBack 21 = .ok (.iinc 1 1, 3) by decide +kernel) (by decide) (by decide))),
  List.forall_mem_cons.mpr ⟨(xOK_pure (xs_goto (show decode cX12_putBack 24 = .ok (.goto (-22), 3) by decide +kernel) (by decide))),
  List.forall_mem_cons.mpr ⟨(Or.inl ⟨rfl, (show decode cX12_putBack 27 = .ok (.return_, 1) by decide +kernel), rfl⟩),
  (fun _ h => absurd h List.not_mem_nil)⟩⟩⟩⟩⟩⟩⟩⟩⟩⟩⟩⟩⟩⟩⟩⟩
theorem omX12_putBack (ev : xEv) : xMethOK ev xmi yX12_putBack.cls yX12_putBack.name 292 (pX12_putBack ev) := xMethOK.of mi_292 (by decide +kernel) (okpX12_putBack ev)
def pX12_canTry (ev : xEv) : List (Nat × xEn) := [(0, .inl (xop (xf_iload 1 1))), (1, .inl (xop (xf_push (.int 0) 1))), (2, .inl (xop (xf_push (.int 200) 3))), (5, .inr (.inl (1, 188, 3, 12))), (8, .inl (xop (xf_if_eq 29))), (11, .inl (xop (xf_aload 0 1))), (12, .inl (xop (xf_getf 12 48))), (15, .inl (xop (xf_push (.int 0) 1))), (16, .inl (xop (xf_ald (ev.1 0)))), (17, .inl (xop (xf_iload 1 1))), (18, .inl (xop (xf_bin (fun x y => x + y)))), (19, .inl (xop (xf_push (.int 3000) 3))), (22, .inl (xop (xf_icmp_gt 29))), (25, .inl (xop (xf_push (.int 1) 1))), (26, .inl (xop (xf_goto 30))), (29, .inl (xop (xf_push (.int 0) 1))), (30, .inr (.inr 4))]
set_option maxRecDepth 20000 in
theorem okpX12_canTry (ev : xEv) : ∀ q ∈ pX12_canTry ev, xEnOK ev xmi yX12_canTry.cls yX12_canTry.name cX12_canTry 2 (some .boolean) q :=
  List.forall_mem_cons.mpr ⟨(xOK_pure (xs_iload_n (k := 1) rfl (show decode cX12_canTry 0 = .ok (.iload_n 1, 1) by decide +kernel))),
  List.forall_mem_cons.mpr ⟨(xOK_pure (xs_iconst (n := 0) (show decode cX12_canTry 1 = .ok (.iconst 0, 1) by decide +kernel) (by decide))),
  List.forall_mem_cons.mpr ⟨(xOK_pure (xs_sipush (n := 200) (show decode cX12_canTry 2 = .ok (.sipush 200, 3) by decide +kernel) (by decide))),
  List.forall_mem_cons.mpr ⟨(xcm mi_188 ⟨⟨(by decide +kernel), (by decide +kernel), (by decide +kernel)⟩, (by decide), xw_1912, xw_125, Or.inr (Or.inl ⟨rfl, _, (show decode cX12_canTry 5 = .ok (.invokestatic 146, 3) by decide +kernel), xw_1910, xw_1911⟩)⟩),
  List.forall_mem_cons.mpr ⟨(xOK_pure (xs_if_eq (show decode cX12_canTry 8 = .ok (.ifCond .eq 21, 3) by decide +kernel) (by decide))),
  List.forall_mem_cons.mpr ⟨(xOK_pure (xs_aload_n (k := 0) rfl (show decode cX12_canTry 11 = .ok (.aload_n 0, 1) by decide +kernel))),
  List.forall_mem_cons.mpr ⟨(xOK_pure (xs_getf xcl_12 (by decide) (show decode cX12_canTry 12 = .ok (.getfield 121, 3) by decide +kernel) xw_1757)),
  List.forall_mem_cons.mpr ⟨(xOK_pure (xs_iconst (n := 0) (show decode cX12_canTry 15 = .ok (.iconst 0, 1) by decide +kernel) (by decide))),
  List.forall_mem_cons.mpr ⟨(xOK_pure (xs_iald (show decode cX12_canTry 16 = .ok (.iaload, 1) by decide +kernel))),
  List.forall_mem_cons.mpr ⟨(xOK_pure (xs_iload_n (k := 1) rfl (show decode cX12_canTry 17 = .ok (.iload_n 1, 1) by decide +kernel))),
  List.forall_mem_cons.mpr ⟨(xOK_pure (xs_iadd (show decode cX12_canTry 18 = .ok (.iadd, 1) by decide +kernel))),
  List.forall_mem_cons.mpr ⟨(xOK_pure (xs_sipush (n := 3000) (show decode cX12_canTry 19 = .ok (.sipush 3000, 3) by decide +kernel) (by decide))),
  List.forall_mem_cons.mpr ⟨(xOK_pure (xs_icmp_gt (show decode cX12_canTry 22 = .ok (.if_icmp .gt 7, 3) by decide +kernel) (by decide))),
  List.forall_mem_cons.mpr ⟨(xOK_pure (xs_iconst (n := 1) (show decode cX12_canTry 25 = .ok (.iconst 1, 1) by decide +kernel) (by decide))),
  List.forall_mem_cons.mpr ⟨(xOK_pure (xs_goto (show decode cX12_canTry 26 = .ok (.goto 4, 3) by decide +kernel) (by decide))),
  List.forall_mem_cons.mpr ⟨(xOK_pure (xs_iconst (n := 0) (show decode cX12_canTry 29 = .ok (.iconst 0, 1) by decide +kernel) (by decide))),
  List.forall_mem_cons.mpr ⟨(Or.inr (Or.inr (Or.inr (Or.inr (Or.inl ⟨rfl, (show decode cX12_canTry 30 = .ok (.ireturn, 1) by decide +kernel), rfl⟩))))),
  (fun _ h => absurd h List.not_mem_nil)⟩⟩⟩⟩⟩⟩⟩⟩⟩⟩⟩⟩⟩⟩⟩⟩⟩
theorem omX12_canTry (ev : xEv) : xMethOK ev xmi yX12_canTry.cls yX12_canTry.name 293 (pX12_canTry ev) := xMethOK.of mi_293 (by decide +kernel) (okpX12_canTry ev)
def pX12_go (ev : xEv) : List (Nat × xEn) := [(0, .inl (xop (xf_push (.int 0) 1))), (1, .inl (xop (xf_istore 2 1))), (2, .inl (xop (xf_iload 2 1))), (3, .inl (xop (xf_iload 1 1))), (4, .inl (xop (xf_icmp_ge 17))), (7, .inl (xop (xf_aload 0 1))), (8, .inr (.inl (0, 261, 0, 12))), (11, .inl (xop (xf_iinc 2 1))), (14, .inl (xop (xf_goto 2))), (17, .inr (.inr 0))]
set_option maxRecDepth 20000 in
theorem okpX12_go (ev : xEv) : ∀ q ∈ pX12_go ev, xEnOK ev xmi yX12_go.cls yX12_go.name cX12_go 3 none q :=
  List.forall_mem_cons.mpr ⟨(xOK_pure (xs_iconst (n := 0) (show decode cX12_go 0 = .ok (.iconst 0, 1) by decide +kernel) (by decide))),
  List.forall_mem_cons.mpr ⟨(xOK_pure (xs_istore_n (k := 2) rfl (show decode cX12_go 1 = .ok (.istore_n 2, 1) by decide +kernel) (by decide))),
  List.forall_mem_cons.mpr ⟨(xOK_pure (xs_iload_n (k := 2) rfl (show decode cX12_go 2 = .ok (.iload_n 2, 1) by decide +kernel))),
  List.forall_mem_cons.mpr ⟨(xOK_pure (xs_iload_n (k := 1) rfl (show decode cX12_go 3 = .ok (.iload_n 1, 1) by decide +kernel))),
  List.forall_mem_cons.mpr ⟨(xOK_pure (xs_icmp_ge (show decode cX12_go 4 = .ok (.if_icmp .ge 13, 3) by decide +kernel) (by decide))),
  List.forall_mem_cons.mpr ⟨(xOK_pure (xs_aload_n (k := 0) rfl (show decode cX12_go 7 = .ok (.aload_n 0, 1) by decide +kernel))),
  List.forall_mem_cons.mpr ⟨(xcm mi_261 ⟨⟨(by decide +kernel), (by decide +kernel), (by decide +kernel)⟩, (by decide), xw_2149, xw_125, Or.inl ⟨rfl, _, _, _, _, (show decode cX12_go 8 = .ok (.invokevirtual 392, 3) by decide +kernel), xw_2146, xw_2148, xw_86, rfl⟩⟩),
  List.forall_mem_cons.mpr ⟨(xOK_pure (xs_iinc (n := 1) (show decode cX12_go 11 = .ok (.iinc 2 1, 3) by decide +kernel) (by decide) (by decide))),
  List.forall_mem_cons.mpr ⟨(xOK_pure (xs_goto (show decode cX12_go 14 = .ok (.goto (-12), 3) by decide +kernel) (by decide))),
  List.forall_mem_cons.mpr ⟨(Or.inl ⟨rfl, (show decode cX12_go 17 = .ok (.return_, 1) by decide +kernel), rfl⟩),
  (fun _ h => absurd h List.not_mem_nil)⟩⟩⟩⟩⟩⟩⟩⟩⟩⟩
theorem omX12_go (ev : xEv) : xMethOK ev xmi yX12_go.cls yX12_go.name 294 (pX12_go ev) := xMethOK.of mi_294 (by decide +kernel) (okpX12_go ev)
