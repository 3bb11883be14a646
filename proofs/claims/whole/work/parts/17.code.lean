def pX12_init_0 (ev : xEv) : List (Nat × xEn) := [(0, .inl (xop (xf_aload 0 1))), (1, .inl (xop xf_objInit)), (4, .inl (xop (xf_aload 0 1))), (5, .inl (xop (xf_push (.int 8) 2))), (7, .inl (xo_newa (ev.1 0) (.inl (fun _ => 0)))), (9, .inl (xo_putf 12 0 (.array .int))), (12, .inl (xop (xf_aload 0 1))), (13, .inl (xop (xf_push (.int 12) 2))), (15, .inl (xo_newa (ev.1 0) (.inl (fun _ => 0)))), (17, .inl (xo_putf 12 2 (.array .int))), (20, .inl (xop (xf_aload 0 1))), (21, .inl (xop (xf_push (.int 12) 2))), (23, .inl (xo_newa (ev.1 0) (.inl (fun _ => 0)))), (25, .inl (xo_putf 12 3 (.array .int))), (28, .inl (xop (xf_aload 0 1))), (29, .inl (xop (xf_push (.int 12) 2))), (31, .inl (xo_newa (ev.1 0) (.inl (fun _ => 0)))), (33, .inl (xo_putf 12 4 (.array .int))), (36, .inl (xop (xf_aload 0 1))), (37, .inl (xop (xf_push (.int 12) 2)))]
set_option maxRecDepth 20000 in
theorem okpX12_init_0 (ev : xEv) : ∀ q ∈ pX12_init_0 ev, xEnOK ev xmi yX12_init.cls yX12_init.name cX12_init 2 none q :=
  List.forall_mem_cons.mpr ⟨(xOK_pure (xs_aload_n (k := 0) rfl (show decode cX12_init 0 = .ok (.aload_n 0, 1) by decide +kernel))),
  List.forall_mem_cons.mpr ⟨(xOK_pure (xs_objInit (show decode cX12_init 1 = .ok (.invokespecial 3, 3) by decide +kernel) xw_1707 xw_150 xw_151)),
  List.forall_mem_cons.mpr ⟨(xOK_pure (xs_aload_n (k := 0) rfl (show decode cX12_init 4 = .ok (.aload_n 0, 1) by decide +kernel))),
  List.forall_mem_cons.mpr ⟨(xOK_pure (xs_bipush (n := 8) (show decode cX12_init 5 = .ok (.bipush 8, 2) by decide +kernel) (by decide))),
  List.forall_mem_cons.mpr ⟨(xs_newa (t := 0) (ty := .int) rfl rfl (fun _ _ => rfl) (by decide) (show decode cX12_init 7 = .ok (.newarray .int, 2) by decide +kernel) xw_209),
  List.forall_mem_cons.mpr ⟨(xs_putF (k := 0) xcl_12 (by decide) rfl rfl rfl (show decode cX12_init 9 = .ok (.putfield 9, 3) by decide +kernel) xw_1709),
  List.forall_mem_cons.mpr ⟨(xOK_pure (xs_aload_n (k := 0) rfl (show decode cX12_init 12 = .ok (.aload_n 0, 1) by decide +kernel))),
  List.forall_mem_cons.mpr ⟨(xOK_pure (xs_bipush (n := 12) (show decode cX12_init 13 = .ok (.bipush 12, 2) by decide +kernel) (by decide))),
  List.forall_mem_cons.mpr ⟨(xs_newa (t := 0) (ty := .int) rfl rfl (fun _ _ => rfl) (by decide) (show decode cX12_init 15 = .ok (.newarray .int, 2) by decide +kernel) xw_209),
  List.forall_mem_cons.mpr ⟨(xs_putF (k := 2) xcl_12 (by decide) rfl rfl rfl (show decode cX12_init 17 = .ok (.putfield 13, 3) by decide +kernel) xw_1711),
  List.forall_mem_cons.mpr ⟨(xOK_pure (xs_aload_n (k := 0) rfl (show decode cX12_init 20 = .ok (.aload_n 0, 1) by decide +kernel))),
  List.forall_mem_cons.mpr ⟨(xOK_pure (xs_bipush (n := 12) (show decode cX12_init 21 = .ok (.bipush 12, 2) by decide +kernel) (by decide))),
  List.forall_mem_cons.mpr ⟨(xs_newa (t := 0) (ty := .int) rfl rfl (fun _ _ => rfl) (by decide) (show decode cX12_init 23 = .ok (.newarray .int, 2) by decide +kernel) xw_209),
  List.forall_mem_cons.mpr ⟨(xs_putF (k := 3) xcl_12 (by decide) rfl rfl rfl (show decode cX12_init 25 = .ok (.putfield 16, 3) by decide +kernel) xw_1712),
  List.forall_mem_cons.mpr ⟨(xOK_pure (xs_aload_n (k := 0) rfl (show decode cX12_init 28 = .ok (.aload_n 0, 1) by decide +kernel))),
  List.forall_mem_cons.mpr ⟨(xOK_pure (xs_bipush (n := 12) (show decode cX12_init 29 = .ok (.bipush 12, 2) by decide +kernel) (by decide))),
  List.forall_mem_cons.mpr ⟨(xs_newa (t := 0) (ty := .int) rfl rfl (fun _ _ => rfl) (by decide) (show decode cX12_init 31 = .ok (.newarray .int, 2) by decide +kernel) xw_209),
  List.forall_mem_cons.mpr ⟨(xs_putF (k := 4) xcl_12 (by decide) rfl rfl rfl (show decode cX12_init 33 = .ok (.putfield 19, 3) by decide +kernel) xw_1713),
  List.forall_mem_cons.mpr ⟨(xOK_pure (xs_aload_n (k := 0) rfl (show decode cX12_init 36 = .ok (.aload_n 0, 1) by decide +kernel))),
  List.forall_mem_cons.mpr ⟨(xOK_pure (xs_bipush (n := 12) (show decode cX12_init 37 = .ok (.bipush 12, 2) by decide +kernel) (by decide))),
  (fun _ h => absurd h List.not_mem_nil)⟩⟩⟩⟩⟩⟩⟩⟩⟩⟩⟩⟩⟩⟩⟩⟩⟩⟩⟩⟩
def pX12_init_1 (ev : xEv) : List (Nat × xEn) := [(39, .inl (xo_newa (ev.1 0) (.inl (fun _ => 0)))), (41, .inl (xo_putf 12 5 (.array .int))), (44, .inl (xop (xf_aload 0 1))), (45, .inl (xop (xf_push (.int 48) 2))), (47, .inl (xo_newa (ev.1 0) (.inl (fun _ => 0)))), (49, .inl (xo_putf 12 6 (.array .int))), (52, .inl (xop (xf_aload 0 1))), (53, .inl (xop (xf_push (.int 48) 2))), (55, .inl (xo_newa (ev.1 0) (.inl (fun _ => 0)))), (57, .inl (xo_putf 12 7 (.array .int))), (60, .inl (xop (xf_aload 0 1))), (61, .inl (xop (xf_push (.int 12) 2))), (63, .inl (xo_newa (ev.1 0) (.inl (fun _ => 0)))), (65, .inl (xo_putf 12 8 (.array .int))), (68, .inl (xop (xf_aload 0 1))), (69, .inl (xop (xf_push (.int 64) 2))), (71, .inl (xo_newa (ev.1 0) (.inl (fun _ => 0)))), (73, .inl (xo_putf 12 10 (.array .int))), (76, .inl (xop (xf_aload 0 1))), (77, .inl (xop (xf_push (.int 60) 2)))]
set_option maxRecDepth 20000 in
theorem okpX12_init_1 (ev : xEv) : ∀ q ∈ pX12_init_1 ev, xEnOK ev xmi yX12_init.cls yX12_init.name cX12_init 2 none q :=
  List.forall_mem_cons.mpr ⟨(xs_newa (t := 0) (ty := .int) rfl rfl (fun _ _ => rfl) (by decide) (show decode cX12_init 39 = .ok (.newarray .int, 2) by decide +kernel) xw_209),
  List.forall_mem_cons.mpr ⟨(xs_putF (k := 5) xcl_12 (by decide) rfl rfl rfl (show decode cX12_init 41 = .ok (.putfield 22, 3) by decide +kernel) xw_1714),
  List.forall_mem_cons.mpr ⟨(xOK_pure (xs_aload_n (k := 0) rfl (show decode cX12_init 44 = .ok (.aload_n 0, 1) by decide +kernel))),
  List.forall_mem_cons.mpr ⟨(xOK_pure (xs_bipush (n := 48) (show decode cX12_init 45 = .ok (.bipush 48, 2) by decide +kernel) (by decide))),
  List.forall_mem_cons.mpr ⟨(xs_newa (t := 0) (ty := .int) rfl rfl (fun _ _ => rfl) (by decide) (show decode cX12_init 47 = .ok (.newarray .int, 2) by decide +kernel) xw_209),
  List.forall_mem_cons.mpr ⟨(xs_putF (k := 6) xcl_12 (by decide) rfl rfl rfl (show decode cX12_init 49 = .ok (.putfield 25, 3) by decide +kernel) xw_1715),
  List.forall_mem_cons.mpr ⟨(xOK_pure (xs_aload_n (k := 0) rfl (show decode cX12_init 52 = .ok (.aload_n 0, 1) by decide +kernel))),
  List.forall_mem_cons.mpr ⟨(xOK_pure (xs_bipush (n := 48) (show decode cX12_init 53 = .ok (.bipush 48, 2) by decide +kernel) (by decide))),
  List.forall_mem_cons.mpr ⟨(xs_newa (t := 0) (ty := .int) rfl rfl (fun _ _ => rfl) (by decide) (show decode cX12_init 55 = .ok (.newarray .int, 2) by decide +kernel) xw_209),
  List.forall_mem_cons.mpr ⟨(xs_putF (k := 7) xcl_12 (by decide) rfl rfl rfl (show decode cX12_init 57 = .ok (.putfield 28, 3) by decide +kernel) xw_1716),
  List.forall_mem_cons.mpr ⟨(xOK_pure (xs_aload_n (k := 0) rfl (show decode cX12_init 60 = .ok (.aload_n 0, 1) by decide +kernel))),
  List.forall_mem_cons.mpr ⟨(xOK_pure (xs_bipush (n := 12) (show decode cX12_init 61 = .ok (.bipush 12, 2) by decide +kernel) (by decide))),
  List.forall_mem_cons.mpr ⟨(xs_newa (t := 0) (ty := .int) rfl rfl (fun _ _ => rfl) (by decide) (show decode cX12_init 63 = .ok (.newarray .int, 2) by decide +kernel) xw_209),
  List.forall_mem_cons.mpr ⟨(xs_putF (k := 8) xcl_12 (by decide) rfl rfl rfl (show decode cX12_init 65 = .ok (.putfield 31, 3) by decide +kernel) xw_1717),
  List.forall_mem_cons.mpr ⟨(xOK_pure (xs_aload_n (k := 0) rfl (show decode cX12_init 68 = .ok (.aload_n 0, 1) by decide +kernel))),
  List.forall_mem_cons.mpr ⟨(xOK_pure (xs_bipush (n := 64) (show decode cX12_init 69 = .ok (.bipush 64, 2) by decide +kernel) (by decide))),
  List.forall_mem_cons.mpr ⟨(xs_newa (t := 0) (ty := .int) rfl rfl (fun _ _ => rfl) (by decide) (show decode cX12_init 71 = .ok (.newarray .int, 2) by decide +kernel) xw_209),
  List.forall_mem_cons.mpr ⟨(xs_putF (k := 10) xcl_12 (by decide) rfl rfl rfl (show decode cX12_init 73 = .ok (.putfield 34, 3) by decide +kernel) xw_1719),
  List.forall_mem_cons.mpr ⟨(xOK_pure (xs_aload_n (k := 0) rfl (show decode cX12_init 76 = .ok (.aload_n 0, 1) by decide +kernel))),
  List.forall_mem_cons.mpr ⟨(xOK_pure (xs_bipush (n := 60) (show decode cX12_init 77 = .ok (.bipush 60, 2) by decide +kernel) (by decide))),
  (fun _ h => absurd h List.not_mem_nil)⟩⟩⟩⟩⟩⟩⟩⟩⟩⟩⟩⟩⟩⟩⟩⟩⟩⟩⟩⟩
def pX12_init_2 (ev : xEv) : List (Nat × xEn) := [(79, .inl (xo_newa (ev.1 0) (.inl (fun _ => 0)))), (81, .inl (xo_putf 12 11 (.array .int))), (84, .inl (xop (xf_aload 0 1))), (85, .inl (xop (xf_push (.int 60) 2))), (87, .inl (xo_newa (ev.1 0) (.inl (fun _ => 0)))), (89, .inl (xo_putf 12 12 (.array .int))), (92, .inl (xop (xf_aload 0 1))), (93, .inl (xop (xf_push (.int 60) 2))), (95, .inl (xo_newa (ev.1 0) (.inl (fun _ => 0)))), (97, .inl (xo_putf 12 13 (.array .int))), (100, .inl (xop (xf_aload 0 1))), (101, .inl (xop (xf_push (.int 60) 2))), (103, .inl (xo_newa (ev.1 0) (.inl (fun _ => 0)))), (105, .inl (xo_putf 12 14 (.array .int))), (108, .inl (xop (xf_aload 0 1))), (109, .inl (xop (xf_push (.int 8) 2))), (111, .inl (xo_newa (ev.1 0) (.inl (fun _ => 0)))), (113, .inl (xo_putf 12 16 (.array .int))), (116, .inl (xop (xf_aload 0 1))), (117, .inl (xop (xf_push (.int 8) 2)))]
set_option maxRecDepth 20000 in
theorem okpX12_init_2 (ev : xEv) : ∀ q ∈ pX12_init_2 ev, xEnOK ev xmi yX12_init.cls yX12_init.name cX12_init 2 none q :=
  List.forall_mem_cons.mpr ⟨(xs_newa (t := 0) (ty := .int) rfl rfl (fun _ _ => rfl) (by decide) (show decode cX12_init 79 = .ok (.newarray .int, 2) by decide +kernel) xw_209),
  List.forall_mem_cons.mpr ⟨(xs_putF (k := 11) xcl_12 (by decide) rfl rfl rfl (show decode cX12_init 81 = .ok (.putfield 37, 3) by decide +kernel) xw_1720),
  List.forall_mem_cons.mpr ⟨(xOK_pure (xs_aload_n (k := 0) rfl (show decode cX12_init 84 = .ok (.aload_n 0, 1) by decide +kernel))),
  List.forall_mem_cons.mpr ⟨(xOK_pure (xs_bipush (n := 60) (show decode cX12_init 85 = .ok (.bipush 60, 2) by decide +kernel) (by decide))),
  List.forall_mem_cons.mpr ⟨(xs_newa (t := 0) (ty := .int) rfl rfl (fun _ _ => rfl) (by decide) (show decode cX12_init 87 = .ok (.newarray .int, 2) by decide +kernel) xw_209),
  List.forall_mem_cons.mpr ⟨(xs_putF (k := 12) xcl_12 (by decide) rfl rfl rfl (show decode cX12_init 89 = .ok (.putfield 40, 3) by decide +kernel) xw_1721),
  List.forall_mem_cons.mpr ⟨(xOK_pure (xs_aload_n (k := 0) rfl (show decode cX12_init 92 = .ok (.aload_n 0, 1) by decide +kernel))),
  List.forall_mem_cons.mpr ⟨(xOK_pure (xs_bipush (n := 60) (show decode cX12_init 93 = .ok (.bipush 60, 2) by decide +kernel) (by decide))),
  List.forall_mem_cons.mpr ⟨(xs_newa (t := 0) (ty := .int) rfl rfl (fun _ _ => rfl) (by decide) (show decode cX12_init 95 = .ok (.newarray .int, 2) by decide +kernel) xw_209),
  List.forall_mem_cons.mpr ⟨(xs_putF (k := 13) xcl_12 (by decide) rfl rfl rfl (show decode cX12_init 97 = .ok (.putfield 43, 3) by decide +kernel) xw_1722),
  List.forall_mem_cons.mpr ⟨(xOK_pure (xs_aload_n (k := 0) rfl (show decode cX12_init 100 = .ok (.aload_n 0, 1) by decide +kernel))),
  List.forall_mem_cons.mpr ⟨(xOK_pure (xs_bipush (n := 60) (show decode cX12_init 101 = .ok (.bipush 60, 2) by decide +kernel) (by decide))),
  List.forall_mem_cons.mpr ⟨(xs_newa (t := 0) (ty := .int) rfl rfl (fun _ _ => rfl) (by decide) (show decode cX12_init 103 = .ok (.newarray .int, 2) by decide +kernel) xw_209),
  List.forall_mem_cons.mpr ⟨(xs_putF (k := 14) xcl_12 (by decide) rfl rfl rfl (show decode cX12_init 105 = .ok (.putfield 46, 3) by decide +kernel) xw_1723),
  List.forall_mem_cons.mpr ⟨(xOK_pure (xs_aload_n (k := 0) rfl (show decode cX12_init 108 = .ok (.aload_n 0, 1) by decide +kernel))),
  List.forall_mem_cons.mpr ⟨(xOK_pure (xs_bipush (n := 8) (show decode cX12_init 109 = .ok (.bipush 8, 2) by decide +kernel) (by decide))),
  List.forall_mem_cons.mpr ⟨(xs_newa (t := 0) (ty := .int) rfl rfl (fun _ _ => rfl) (by decide) (show decode cX12_init 111 = .ok (.newarray .int, 2) by decide +kernel) xw_209),
  List.forall_mem_cons.mpr ⟨(xs_putF (k := 16) xcl_12 (by decide) rfl rfl rfl (show decode cX12_init 113 = .ok (.putfield 49, 3) by decide +kernel) xw_1725),
  List.forall_mem_cons.mpr ⟨(xOK_pure (xs_aload_n (k := 0) rfl (show decode cX12_init 116 = .ok (.aload_n 0, 1) by decide +kernel))),
  List.forall_mem_cons.mpr ⟨(xOK_pure (xs_bipush (n := 8) (show decode cX12_init 117 = .ok (.bipush 8, 2) by decide +kernel) (by decide))),
  (fun _ h => absurd h List.not_mem_nil)⟩⟩⟩⟩⟩⟩⟩⟩⟩⟩⟩⟩⟩⟩⟩⟩⟩⟩⟩⟩
def pX12_init_3 (ev : xEv) : List (Nat × xEn) := [(119, .inl (xo_newa (ev.1 0) (.inl (fun _ => 0)))), (121, .inl (xo_putf 12 17 (.array .int))), (124, .inl (xop (xf_aload 0 1))), (125, .inl (xop (xf_push (.int 8) 2))), (127, .inl (xo_newa (ev.1 0) (.inl (fun _ => 0)))), (129, .inl (xo_putf 12 18 (.array .int))), (132, .inl (xop (xf_aload 0 1))), (133, .inl (xop (xf_push (.int 8) 2))), (135, .inl (xo_newa (ev.1 0) (.inl (fun _ => 0)))), (137, .inl (xo_putf 12 19 (.array .int))), (140, .inl (xop (xf_aload 0 1))), (141, .inl (xop (xf_push (.int 8) 2))), (143, .inl (xo_newa (ev.1 2) (.inl (fun _ => 0)))), (145, .inl (xo_putf 12 20 (.array .boolean))), (148, .inl (xop (xf_aload 0 1))), (149, .inl (xop (xf_push (.int 30) 2))), (151, .inl (xo_newa (ev.1 0) (.inl (fun _ => 0)))), (153, .inl (xo_putf 12 23 (.array .int))), (156, .inl (xop (xf_aload 0 1))), (157, .inl (xop (xf_push (.int 30) 2)))]
set_option maxRecDepth 20000 in
theorem okpX12_init_3 (ev : xEv) : ∀ q ∈ pX12_init_3 ev, xEnOK ev xmi yX12_init.cls yX12_init.name cX12_init 2 none q :=
  List.forall_mem_cons.mpr ⟨(xs_newa (t := 0) (ty := .int) rfl rfl (fun _ _ => rfl) (by decide) (show decode cX12_init 119 = .ok (.newarray .int, 2) by decide +kernel) xw_209),
  List.forall_mem_cons.mpr ⟨(xs_putF (k := 17) xcl_12 (by decide) rfl rfl rfl (show decode cX12_init 121 = .ok (.putfield 52, 3) by decide +kernel) xw_1726),
  List.forall_mem_cons.mpr ⟨(xOK_pure (xs_aload_n (k := 0) rfl (show decode cX12_init 124 = .ok (.aload_n 0, 1) by decide +kernel))),
  List.forall_mem_cons.mpr ⟨(xOK_pure (xs_bipush (n := 8) (show decode cX12_init 125 = .ok (.bipush 8, 2) by decide +kernel) (by decide))),
  List.forall_mem_cons.mpr ⟨(xs_newa (t := 0) (ty := .int) rfl rfl (fun _ _ => rfl) (by decide) (show decode cX12_init 127 = .ok (.newarray .int, 2) by decide +kernel) xw_209),
  List.forall_mem_cons.mpr ⟨(xs_putF (k := 18) xcl_12 (by decide) rfl rfl rfl (show decode cX12_init 129 = .ok (.putfield 55, 3) by decide +kernel) xw_1727),
  List.forall_mem_cons.mpr ⟨(xOK_pure (xs_aload_n (k := 0) rfl (show decode cX12_init 132 = .ok (.aload_n 0, 1) by decide +kernel))),
  List.forall_mem_cons.mpr ⟨(xOK_pure (xs_bipush (n := 8) (show decode cX12_init 133 = .ok (.bipush 8, 2) by decide +kernel) (by decide))),
  List.forall_mem_cons.mpr ⟨(xs_newa (t := 0) (ty := .int) rfl rfl (fun _ _ => rfl) (by decide) (show decode cX12_init 135 = .ok (.newarray .int, 2) by decide +kernel) xw_209),
  List.forall_mem_cons.mpr ⟨(xs_putF (k := 19) xcl_12 (by decide) rfl rfl rfl (show decode cX12_init 137 = .ok (.putfield 58, 3) by decide +kernel) xw_1728),
  List.forall_mem_cons.mpr ⟨(xOK_pure (xs_aload_n (k := 0) rfl (show decode cX12_init 140 = .ok (.aload_n 0, 1) by decide +kernel))),
  List.forall_mem_cons.mpr ⟨(xOK_pure (xs_bipush (n := 8) (show decode cX12_init 141 = .ok (.bipush 8, 2) by decide +kernel) (by decide))),
  List.forall_mem_cons.mpr ⟨(xs_newa (t := 2) (ty := .boolean) rfl rfl (fun _ _ => rfl) (by decide) (show decode cX12_init 143 = .ok (.newarray .boolean, 2) by decide +kernel) xw_210),
  List.forall_mem_cons.mpr ⟨(xs_putF (k := 20) xcl_12 (by decide) rfl rfl rfl (show decode cX12_init 145 = .ok (.putfield 61, 3) by decide +kernel) xw_1729),
  List.forall_mem_cons.mpr ⟨(xOK_pure (xs_aload_n (k := 0) rfl (show decode cX12_init 148 = .ok (.aload_n 0, 1) by decide +kernel))),
  List.forall_mem_cons.mpr ⟨(xOK_pure (xs_bipush (n := 30) (show decode cX12_init 149 = .ok (.bipush 30, 2) by decide +kernel) (by decide))),
  List.forall_mem_cons.mpr ⟨(xs_newa (t := 0) (ty := .int) rfl rfl (fun _ _ => rfl) (by decide) (show decode cX12_init 151 = .ok (.newarray .int, 2) by decide +kernel) xw_209),
  List.forall_mem_cons.mpr ⟨(xs_putF (k := 23) xcl_12 (by decide) rfl rfl rfl (show decode cX12_init 153 = .ok (.putfield 65, 3) by decide +kernel) xw_1732),
  List.forall_mem_cons.mpr ⟨(xOK_pure (xs_aload_n (k := 0) rfl (show decode cX12_init 156 = .ok (.aload_n 0, 1) by decide +kernel))),
  List.forall_mem_cons.mpr ⟨(xOK_pure (xs_bipush (n := 30) (show decode cX12_init 157 = .ok (.bipush 30, 2) by decide +kernel) (by decide))),
  (fun _ h => absurd h List.not_mem_nil)⟩⟩⟩⟩⟩⟩⟩⟩⟩⟩⟩⟩⟩⟩⟩⟩⟩⟩⟩⟩
def pX12_init_4 (ev : xEv) : List (Nat × xEn) := [(159, .inl (xo_newa (ev.1 0) (.inl (fun _ => 0)))), (161, .inl (xo_putf 12 24 (.array .int))), (164, .inl (xop (xf_aload 0 1))), (165, .inl (xop (xf_push (.int 30) 2))), (167, .inl (xo_newa (ev.1 0) (.inl (fun _ => 0)))), (169, .inl (xo_putf 12 25 (.array .int))), (172, .inl (xop (xf_aload 0 1))), (173, .inl (xop (xf_push (.int 30) 2))), (175, .inl (xo_newa (ev.1 0) (.inl (fun _ => 0)))), (177, .inl (xo_putf 12 26 (.array .int))), (180, .inl (xop (xf_aload 0 1))), (181, .inl (xop (xf_push (.int 30) 2))), (183, .inl (xo_newa (ev.1 0) (.inl (fun _ => 0)))), (185, .inl (xo_putf 12 27 (.array .int))), (188, .inl (xop (xf_aload 0 1))), (189, .inl (xop (xf_push (.int 24) 2))), (191, .inl (xo_newa (ev.1 0) (.inl (fun _ => 0)))), (193, .inl (xo_putf 12 29 (.array .int))), (196, .inl (xop (xf_aload 0 1))), (197, .inl (xop (xf_push (.int 24) 2)))]
set_option maxRecDepth 20000 in
theorem okpX12_init_4 (ev : xEv) : ∀ q ∈ pX12_init_4 ev, xEnOK ev xmi yX12_init.cls yX12_init.name cX12_init 2 none q :=
  List.forall_mem_cons.mpr ⟨(xs_newa (t := 0) (ty := .int) rfl rfl (fun _ _ => rfl) (by decide) (show decode cX12_init 159 = .ok (.newarray .int, 2) by decide +kernel) xw_209),
  List.forall_mem_cons.mpr ⟨(xs_putF (k := 24) xcl_12 (by decide) rfl rfl rfl (show decode cX12_init 161 = .ok (.putfield 68, 3) by decide +kernel) xw_1733),
  List.forall_mem_cons.mpr ⟨(xOK_pure (xs_aload_n (k := 0) rfl (show decode cX12_init 164 = .ok (.aload_n 0, 1) by decide +kernel))),
  List.forall_mem_cons.mpr ⟨(xOK_pure (xs_bipush (n := 30) (show decode cX12_init 165 = .ok (.bipush 30, 2) by decide +kernel) (by decide))),
  List.forall_mem_cons.mpr ⟨(xs_newa (t := 0) (ty := .int) rfl rfl (fun _ _ => rfl) (by decide) (show decode cX12_init 167 = .ok (.newarray .int, 2) by decide +kernel) xw_209),
  List.forall_mem_cons.mpr ⟨(xs_putF (k := 25) xcl_12 (by decide) rfl rfl rfl (show decode cX12_init 169 = .ok (.putfield 71, 3) by decide +kernel) xw_1734),
  List.forall_mem_cons.mpr ⟨(xOK_pure (xs_aload_n (k := 0) rfl (show decode cX12_init 172 = .ok (.aload_n 0, 1) by decide +kernel))),
  List.forall_mem_cons.mpr ⟨(xOK_pure (xs_bipush (n := 30) (show decode cX12_init 173 = .ok (.bipush 30, 2) by decide +kernel) (by decide))),
  List.forall_mem_cons.mpr ⟨(xs_newa (t := 0) (ty := .int) rfl rfl (fun _ _ => rfl) (by decide) (show decode cX12_init 175 = .ok (.newarray .int, 2) by decide +kernel) xw_209),
  List.forall_mem_cons.mpr ⟨(xs_putF (k := 26) xcl_12 (by decide) rfl rfl rfl (show decode cX12_init 177 = .ok (.putfield 74, 3) by decide +kernel) xw_1735),
  List.forall_mem_cons.mpr ⟨(xOK_pure (xs_aload_n (k := 0) rfl (show decode cX12_init 180 = .ok (.aload_n 0, 1) by decide +kernel))),
  List.forall_mem_cons.mpr ⟨(xOK_pure (xs_bipush (n := 30) (show decode cX12_init 181 = .ok (.bipush 30, 2) by decide +kernel) (by decide))),
  List.forall_mem_cons.mpr ⟨(xs_newa (t := 0) (ty := .int) rfl rfl (fun _ _ => rfl) (by decide) (show decode cX12_init 183 = .ok (.newarray .int, 2) by decide +kernel) xw_209),
  List.forall_mem_cons.mpr ⟨(xs_putF (k := 27) xcl_12 (by decide) rfl rfl rfl (show decode cX12_init 185 = .ok (.putfield 77, 3) by decide +kernel) xw_1736),
  List.forall_mem_cons.mpr ⟨(xOK_pure (xs_aload_n (k := 0) rfl (show decode cX12_init 188 = .ok (.aload_n 0, 1) by decide +kernel))),
  List.forall_mem_cons.mpr ⟨(xOK_pure (xs_bipush (n := 24) (show decode cX12_init 189 = .ok (.bipush 24, 2) by decide +kernel) (by decide))),
  List.forall_mem_cons.mpr ⟨(xs_newa (t := 0) (ty := .int) rfl rfl (fun _ _ => rfl) (by decide) (show decode cX12_init 191 = .ok (.newarray .int, 2) by decide +kernel) xw_209),
  List.forall_mem_cons.mpr ⟨(xs_putF (k := 29) xcl_12 (by decide) rfl rfl rfl (show decode cX12_init 193 = .ok (.putfield 80, 3) by decide +kernel) xw_1738),
  List.forall_mem_cons.mpr ⟨(xOK_pure (xs_aload_n (k := 0) rfl (show decode cX12_init 196 = .ok (.aload_n 0, 1) by decide +kernel))),
  List.forall_mem_cons.mpr ⟨(xOK_pure (xs_bipush (n := 24) (show decode cX12_init 197 = .ok (.bipush 24, 2) by decide +kernel) (by decide))),
  (fun _ h => absurd h List.not_mem_nil)⟩⟩⟩⟩⟩⟩⟩⟩⟩⟩⟩⟩⟩⟩⟩⟩⟩⟩⟩⟩
def pX12_init_5 (ev : xEv) : List (Nat × xEn) := [(199, .inl (xo_newa (ev.1 0) (.inl (fun _ => 0)))), (201, .inl (xo_putf 12 30 (.array .int))), (204, .inl (xop (xf_aload 0 1))), (205, .inl (xop (xf_push (.int 24) 2))), (207, .inl (xo_newa (ev.1 0) (.inl (fun _ => 0)))), (209, .inl (xo_putf 12 31 (.array .int))), (212, .inl (xop (xf_aload 0 1))), (213, .inl (xop (xf_push (.int 24) 2))), (215, .inl (xo_newa (ev.1 0) (.inl (fun _ => 0)))), (217, .inl (xo_putf 12 32 (.array .int))), (220, .inl (xop (xf_aload 0 1))), (221, .inl (xop (xf_push (.int 4) 1))), (222, .inl (xo_putf 12 34 .int)), (225, .inl (xop (xf_aload 0 1))), (226, .inl (xop (xf_push (.int 6) 2))), (228, .inl (xo_putf 12 35 .int)), (231, .inl (xop (xf_aload 0 1))), (232, .inl (xop (xf_push (.int 1) 1))), (233, .inl (xo_putf 12 36 .int)), (236, .inl (xop (xf_aload 0 1)))]
set_option maxRecDepth 20000 in
theorem okpX12_init_5 (ev : xEv) : ∀ q ∈ pX12_init_5 ev, xEnOK ev xmi yX12_init.cls yX12_init.name cX12_init 2 none q :=
  List.forall_mem_cons.mpr ⟨(xs_newa (t := 0) (ty := .int) rfl rfl (fun _ _ => rfl) (by decide) (show decode cX12_init 199 = .ok (.newarray .int, 2) by decide +kernel) xw_209),
  List.forall_mem_cons.mpr ⟨(xs_putF (k := 30) xcl_12 (by decide) rfl rfl rfl (show decode cX12_init 201 = .ok (.putfield 83, 3) by decide +kernel) xw_1739),
  List.forall_mem_cons.mpr ⟨(xOK_pure (xs_aload_n (k := 0) rfl (show decode cX12_init 204 = .ok (.aload_n 0, 1) by decide +kernel))),
  List.forall_mem_cons.mpr ⟨(xOK_pure (xs_bipush (n := 24) (show decode cX12_init 205 = .ok (.bipush 24, 2) by decide +kernel) (by decide))),
  List.forall_mem_cons.mpr ⟨(xs_newa (t := 0) (ty := .int) rfl rfl (fun _ _ => rfl) (by decide) (show decode cX12_init 207 = .ok (.newarray .int, 2) by decide +kernel) xw_209),
  List.forall_mem_cons.mpr ⟨(xs_putF (k := 31) xcl_12 (by decide) rfl rfl rfl (show decode cX12_init 209 = .ok (.putfield 86, 3) by decide +kernel) xw_1740),
  List.forall_mem_cons.mpr ⟨(xOK_pure (xs_aload_n (k := 0) rfl (show decode cX12_init 212 = .ok (.aload_n 0, 1) by decide +kernel))),
  List.forall_mem_cons.mpr ⟨(xOK_pure (xs_bipush (n := 24) (show decode cX12_init 213 = .ok (.bipush 24, 2) by decide +kernel) (by decide))),
  List.forall_mem_cons.mpr ⟨(xs_newa (t := 0) (ty := .int) rfl rfl (fun _ _ => rfl) (by decide) (show decode cX12_init 215 = .ok (.newarray .int, 2) by decide +kernel) xw_209),
  List.forall_mem_cons.mpr ⟨(xs_putF (k := 32) xcl_12 (by decide) rfl rfl rfl (show decode cX12_init 217 = .ok (.putfield 89, 3) by decide +kernel) xw_1741),
  List.forall_mem_cons.mpr ⟨(xOK_pure (xs_aload_n (k := 0) rfl (show decode cX12_init 220 = .ok (.aload_n 0, 1) by decide +kernel))),
  List.forall_mem_cons.mpr ⟨(xOK_pure (xs_iconst (n := 4) (show decode cX12_init 221 = .ok (.iconst 4, 1) by decide +kernel) (by decide))),
  List.forall_mem_cons.mpr ⟨(xs_putf (k := 34) xcl_12 (by decide) rfl (show decode cX12_init 222 = .ok (.putfield 92, 3) by decide +kernel) xw_1743),
  List.forall_mem_cons.mpr ⟨(xOK_pure (xs_aload_n (k := 0) rfl (show decode cX12_init 225 = .ok (.aload_n 0, 1) by decide +kernel))),
  List.forall_mem_cons.mpr ⟨(xOK_pure (xs_bipush (n := 6) (show decode cX12_init 226 = .ok (.bipush 6, 2) by decide +kernel) (by decide))),
  List.forall_mem_cons.mpr ⟨(xs_putf (k := 35) xcl_12 (by decide) rfl (show decode cX12_init 228 = .ok (.putfield 96, 3) by decide +kernel) xw_1744),
  List.forall_mem_cons.mpr ⟨(xOK_pure (xs_aload_n (k := 0) rfl (show decode cX12_init 231 = .ok (.aload_n 0, 1) by decide +kernel))),
  List.forall_mem_cons.mpr ⟨(xOK_pure (xs_iconst (n := 1) (show decode cX12_init 232 = .ok (.iconst 1, 1) by decide +kernel) (by decide))),
  List.forall_mem_cons.mpr ⟨(xs_putf (k := 36) xcl_12 (by decide) rfl (show decode cX12_init 233 = .ok (.putfield 99, 3) by decide +kernel) xw_1745),
  List.forall_mem_cons.mpr ⟨(xOK_pure (xs_aload_n (k := 0) rfl (show decode cX12_init 236 = .ok (.aload_n 0, 1) by decide +kernel))),
  (fun _ h => absurd h List.not_mem_nil)⟩⟩⟩⟩⟩⟩⟩⟩⟩⟩⟩⟩⟩⟩⟩⟩⟩⟩⟩⟩
def pX12_init_6 (ev : xEv) : List (Nat × xEn) := [(237, .inl (xop (xf_push (.int 1920) 3))), (240, .inl (xo_newa (ev.1 3) (.inl (fun _ => 0)))), (242, .inl (xo_putf 12 37 (.array .byte))), (245, .inl (xop (xf_aload 0 1))), (246, .inl (xop (xf_push (.int 32) 2))), (248, .inl (xo_newa (ev.1 0) (.inl (fun _ => 0)))), (250, .inl (xo_putf 12 38 (.array .int))), (253, .inl (xop (xf_aload 0 1))), (254, .inl (xop (xf_push (.int 32) 2))), (256, .inl (xo_newa (ev.1 0) (.inl (fun _ => 0)))), (258, .inl (xo_putf 12 39 (.array .int))), (261, .inl (xop (xf_aload 0 1))), (262, .inl (xop (xf_push (.int 32) 2))), (264, .inl (xo_newa (ev.1 0) (.inl (fun _ => 0)))), (266, .inl (xo_putf 12 40 (.array .int))), (269, .inl (xop (xf_aload 0 1))), (270, .inl (xop (xf_push (.int 100) 2))), (272, .inl (xo_newa (ev.1 3) (.inl (fun _ => 0)))), (274, .inl (xo_putf 12 43 (.array .byte))), (277, .inl (xop (xf_aload 0 1)))]
set_option maxRecDepth 20000 in
theorem okpX12_init_6 (ev : xEv) : ∀ q ∈ pX12_init_6 ev, xEnOK ev xmi yX12_init.cls yX12_init.name cX12_init 2 none q :=
  List.forall_mem_cons.mpr ⟨(xOK_pure (xs_sipush (n := 1920) (show decode cX12_init 237 = .ok (.sipush 1920, 3) by decide +kernel) (by decide))),
  List.forall_mem_cons.mpr ⟨(xs_newa (t := 3) (ty := .byte) rfl rfl (fun _ _ => rfl) (by decide) (show decode cX12_init 240 = .ok (.newarray .byte, 2) by decide +kernel) xw_1036),
  List.forall_mem_cons.mpr ⟨(xs_putF (k := 37) xcl_12 (by decide) rfl rfl rfl (show decode cX12_init 242 = .ok (.putfield 102, 3) by decide +kernel) xw_1746),
  List.forall_mem_cons.mpr ⟨(xOK_pure (xs_aload_n (k := 0) rfl (show decode cX12_init 245 = .ok (.aload_n 0, 1) by decide +kernel))),
  List.forall_mem_cons.mpr ⟨(xOK_pure (xs_bipush (n := 32) (show decode cX12_init 246 = .ok (.bipush 32, 2) by decide +kernel) (by decide))),
  List.forall_mem_cons.mpr ⟨(xs_newa (t := 0) (ty := .int) rfl rfl (fun _ _ => rfl) (by decide) (show decode cX12_init 248 = .ok (.newarray .int, 2) by decide +kernel) xw_209),
  List.forall_mem_cons.mpr ⟨(xs_putF (k := 38) xcl_12 (by decide) rfl rfl rfl (show decode cX12_init 250 = .ok (.putfield 106, 3) by decide +kernel) xw_1747),
  List.forall_mem_cons.mpr ⟨(xOK_pure (xs_aload_n (k := 0) rfl (show decode cX12_init 253 = .ok (.aload_n 0, 1) by decide +kernel))),
  List.forall_mem_cons.mpr ⟨(xOK_pure (xs_bipush (n := 32) (show decode cX12_init 254 = .ok (.bipush 32, 2) by decide +kernel) (by decide))),
  List.forall_mem_cons.mpr ⟨(xs_newa (t := 0) (ty := .int) rfl rfl (fun _ _ => rfl) (by decide) (show decode cX12_init 256 = .ok (.newarray .int, 2) by decide +kernel) xw_209),
  List.forall_mem_cons.mpr ⟨(xs_putF (k := 39) xcl_12 (by decide) rfl rfl rfl (show decode cX12_init 258 = .ok (.putfield 109, 3) by decide +kernel) xw_1748),
  List.forall_mem_cons.mpr ⟨(xOK_pure (xs_aload_n (k := 0) rfl (show decode cX12_init 261 = .ok (.aload_n 0, 1) by decide +kernel))),
  List.forall_mem_cons.mpr ⟨(xOK_pure (xs_bipush (n := 32) (show decode cX12_init 262 = .ok (.bipush 32, 2) by decide +kernel) (by decide))),
  List.forall_mem_cons.mpr ⟨(xs_newa (t := 0) (ty := .int) rfl rfl (fun _ _ => rfl) (by decide) (show decode cX12_init 264 = .ok (.newarray .int, 2) by decide +kernel) xw_209),
  List.forall_mem_cons.mpr ⟨(xs_putF (k := 40) xcl_12 (by decide) rfl rfl rfl (show decode cX12_init 266 = .ok (.putfield 112, 3) by decide +kernel) xw_1749),
  List.forall_mem_cons.mpr ⟨(xOK_pure (xs_aload_n (k := 0) rfl (show decode cX12_init 269 = .ok (.aload_n 0, 1) by decide +kernel))),
  List.forall_mem_cons.mpr ⟨(xOK_pure (xs_bipush (n := 100) (show decode cX12_init 270 = .ok (.bipush 100, 2) by decide +kernel) (by decide))),
  List.forall_mem_cons.mpr ⟨(xs_newa (t := 3) (ty := .byte) rfl rfl (fun _ _ => rfl) (by decide) (show decode cX12_init 272 = .ok (.newarray .byte, 2) by decide +kernel) xw_1036),
  List.forall_mem_cons.mpr ⟨(xs_putF (k := 43) xcl_12 (by decide) rfl rfl rfl (show decode cX12_init 274 = .ok (.putfield 115, 3) by decide +kernel) xw_1752),
  List.forall_mem_cons.mpr ⟨(xOK_pure (xs_aload_n (k := 0) rfl (show decode cX12_init 277 = .ok (.aload_n 0, 1) by decide +kernel))),
  (fun _ h => absurd h List.not_mem_nil)⟩⟩⟩⟩⟩⟩⟩⟩⟩⟩⟩⟩⟩⟩⟩⟩⟩⟩⟩⟩
def pX12_init_7 (ev : xEv) : List (Nat × xEn) := [(278, .inl (xop (xf_push (.int 64) 2))), (280, .inl (xo_newa (ev.1 0) (.inl (fun _ => 0)))), (282, .inl (xo_putf 12 45 (.array .int))), (285, .inl (xop (xf_aload 0 1))), (286, .inl (xop (xf_push (.int 2305) 3))), (289, .inl (xo_newa (ev.1 0) (.inl (fun _ => 0)))), (291, .inl (xo_putf 12 48 (.array .int))), (294, .inl (xop (xf_aload 0 1))), (295, .inl (xop (xf_push (.int 2305) 3))), (298, .inl (xo_newa (ev.1 0) (.inl (fun _ => 0)))), (300, .inl (xo_putf 12 49 (.array .int))), (303, .inl (xop (xf_aload 0 1))), (304, .inl (xop (xf_push (.int 10) 2))), (306, .inl (xo_newa (ev.1 0) (.inl (fun _ => 0)))), (308, .inl (xo_putf 12 56 (.array .int))), (311, .inl (xop (xf_aload 0 1))), (312, .inl (xop (xf_push (.int 8) 2))), (314, .inl (xo_newa (ev.1 0) (.inl (fun _ => 0)))), (316, .inl (xo_putf 12 58 (.array .int))), (319, .inl (xop (xf_aload 0 1)))]
set_option maxRecDepth 20000 in
theorem okpX12_init_7 (ev : xEv) : ∀ q ∈ pX12_init_7 ev, xEnOK ev xmi yX12_init.cls yX12_init.name cX12_init 2 none q :=
  List.forall_mem_cons.mpr ⟨(xOK_pure (xs_bipush (n := 64) (show decode cX12_init 278 = .ok (.bipush 64, 2) by decide +kernel) (by decide))),
  List.forall_mem_cons.mpr ⟨(xs_newa (t := 0) (ty := .int) rfl rfl (fun _ _ => rfl) (by decide) (show decode cX12_init 280 = .ok (.newarray .int, 2) by decide +kernel) xw_209),
  List.forall_mem_cons.mpr ⟨(xs_putF (k := 45) xcl_12 (by decide) rfl rfl rfl (show decode cX12_init 282 = .ok (.putfield 118, 3) by decide +kernel) xw_1754),
  List.forall_mem_cons.mpr ⟨(xOK_pure (xs_aload_n (k := 0) rfl (show decode cX12_init 285 = .ok (.aload_n 0, 1) by decide +kernel))),
  List.forall_mem_cons.mpr ⟨(xOK_pure (xs_sipush (n := 2305) (show decode cX12_init 286 = .ok (.sipush 2305, 3) by decide +kernel) (by decide))),
  List.forall_mem_cons.mpr ⟨(xs_newa (t := 0) (ty := .int) rfl rfl (fun _ _ => rfl) (by decide) (show decode cX12_init 289 = .ok (.newarray .int, 2) by decide +kernel) xw_209),
  List.forall_mem_cons.mpr ⟨(xs_putF (k := 48) xcl_12 (by decide) rfl rfl rfl (show decode cX12_init 291 = .ok (.putfield 121, 3) by decide +kernel) xw_1757),
  List.forall_mem_cons.mpr ⟨(xOK_pure (xs_aload_n (k := 0) rfl (show decode cX12_init 294 = .ok (.aload_n 0, 1) by decide +kernel))),
  List.forall_mem_cons.mpr ⟨(xOK_pure (xs_sipush (n := 2305) (show decode cX12_init 295 = .ok (.sipush 2305, 3) by decide +kernel) (by decide))),
  List.forall_mem_cons.mpr ⟨(xs_newa (t := 0) (ty := .int) rfl rfl (fun _ _ => rfl) (by decide) (show decode cX12_init 298 = .ok (.newarray .int, 2) by decide +kernel) xw_209),
  List.forall_mem_cons.mpr ⟨(xs_putF (k := 49) xcl_12 (by decide) rfl rfl rfl (show decode cX12_init 300 = .ok (.putfield 124, 3) by decide +kernel) xw_1758),
  List.forall_mem_cons.mpr ⟨(xOK_pure (xs_aload_n (k := 0) rfl (show decode cX12_init 303 = .ok (.aload_n 0, 1) by decide +kernel))),
  List.forall_mem_cons.mpr ⟨(xOK_pure (xs_bipush (n := 10) (show decode cX12_init 304 = .ok (.bipush 10, 2) by decide +kernel) (by decide))),
  List.forall_mem_cons.mpr ⟨(xs_newa (t := 0) (ty := .int) rfl rfl (fun _ _ => rfl) (by decide) (show decode cX12_init 306 = .ok (.newarray .int, 2) by decide +kernel) xw_209),
  List.forall_mem_cons.mpr ⟨(xs_putF (k := 56) xcl_12 (by decide) rfl rfl rfl (show decode cX12_init 308 = .ok (.putfield 127, 3) by decide +kernel) xw_1765),
  List.forall_mem_cons.mpr ⟨(xOK_pure (xs_aload_n (k := 0) rfl (show decode cX12_init 311 = .ok (.aload_n 0, 1) by decide +kernel))),
  List.forall_mem_cons.mpr ⟨(xOK_pure (xs_bipush (n := 8) (show decode cX12_init 312 = .ok (.bipush 8, 2) by decide +kernel) (by decide))),
  List.forall_mem_cons.mpr ⟨(xs_newa (t := 0) (ty := .int) rfl rfl (fun _ _ => rfl) (by decide) (show decode cX12_init 314 = .ok (.newarray .int, 2) by decide +kernel) xw_209),
  List.forall_mem_cons.mpr ⟨(xs_putF (k := 58) xcl_12 (by decide) rfl rfl rfl (show decode cX12_init 316 = .ok (.putfield 130, 3) by decide +kernel) xw_1767),
  List.forall_mem_cons.mpr ⟨(xOK_pure (xs_aload_n (k := 0) rfl (show decode cX12_init 319 = .ok (.aload_n 0, 1) by decide +kernel))),
  (fun _ h => absurd h List.not_mem_nil)⟩⟩⟩⟩⟩⟩⟩⟩⟩⟩⟩⟩⟩⟩⟩⟩⟩⟩⟩⟩
def pX12_init_8 (ev : xEv) : List (Nat × xEn) := [(320, .inl (xop (xf_push (.int 8) 2))), (322, .inl (xo_newa (ev.1 0) (.inl (fun _ => 0)))), (324, .inl (xo_putf 12 60 (.array .int))), (327, .inl (xop (xf_aload 0 1))), (328, .inl (xop (xf_push (.int 8) 2))), (330, .inl (xo_newa (ev.1 0) (.inl (fun _ => 0)))), (332, .inl (xo_putf 12 61 (.array .int))), (335, .inl (xop (xf_push (.int 0) 1))), (336, .inl (xop (xf_istore 1 1))), (337, .inl (xop (xf_iload 1 1))), (338, .inl (xop (xf_push (.int 64) 2))), (340, .inl (xop (xf_icmp_ge 368))), (343, .inl (xop (xf_aload 0 1))), (344, .inl (xop (xf_getf 12 10))), (347, .inl (xop (xf_iload 1 1))), (348, .inl (xop (xf_iload 1 1))), (349, .inl (xop (xf_push (.int 9) 2))), (351, .inl (xop (xf_div (fun x y => x - x / y * y)))), (352, .inl (xop (xf_if_ne 359))), (355, .inl (xop (xf_push (.int 0) 1)))]
set_option maxRecDepth 20000 in
theorem okpX12_init_8 (ev : xEv) : ∀ q ∈ pX12_init_8 ev, xEnOK ev xmi yX12_init.cls yX12_init.name cX12_init 2 none q :=
  List.forall_mem_cons.mpr ⟨(xOK_pure (xs_bipush (n := 8) (show decode cX12_init 320 = .ok (.bipush 8, 2) by decide +kernel) (by decide))),
  List.forall_mem_cons.mpr ⟨(xs_newa (t := 0) (ty := .int) rfl rfl (fun _ _ => rfl) (by decide) (show decode cX12_init 322 = .ok (.newarray .int, 2) by decide +kernel) xw_209),
  List.forall_mem_cons.mpr ⟨(xs_putF (k := 60) xcl_12 (by decide) rfl rfl rfl (show decode cX12_init 324 = .ok (.putfield 133, 3) by decide +kernel) xw_1769),
  List.forall_mem_cons.mpr ⟨(xOK_pure (xs_aload_n (k := 0) rfl (show decode cX12_init 327 = .ok (.aload_n 0, 1) by decide +kernel))),
  List.forall_mem_cons.mpr ⟨(xOK_pure (xs_bipush (n := 8) (show decode cX12_init 328 = .ok (.bipush 8, 2) by decide +kernel) (by decide))),
  List.forall_mem_cons.mpr ⟨(xs_newa (t := 0) (ty := .int) rfl rfl (fun _ _ => rfl) (by decide) (show decode cX12_init 330 = .ok (.newarray .int, 2) by decide +kernel) xw_209),
  List.forall_mem_cons.mpr ⟨(xs_putF (k := 61) xcl_12 (by decide) rfl rfl rfl (show decode cX12_init 332 = .ok (.putfield 136, 3) by decide +kernel) xw_1770),
  List.forall_mem_cons.mpr ⟨(xOK_pure (xs_iconst (n := 0) (show decode cX12_init 335 = .ok (.iconst 0, 1) by decide +kernel) (by decide))),
  List.forall_mem_cons.mpr ⟨(xOK_pure (xs_istore_n (k := 1) rfl (show decode cX12_init 336 = .ok (.istore_n 1, 1) by decide +kernel) (by decide))),
  List.forall_mem_cons.mpr ⟨(xOK_pure (xs_iload_n (k := 1) rfl (show decode cX12_init 337 = .ok (.iload_n 1, 1) by decide +kernel))),
  List.forall_mem_cons.mpr ⟨(xOK_pure (xs_bipush (n := 64) (show decode cX12_init 338 = .ok (.bipush 64, 2) by decide +kernel) (by decide))),
  List.forall_mem_cons.mpr ⟨(xOK_pure (xs_icmp_ge (show decode cX12_init 340 = .ok (.if_icmp .ge 28, 3) by decide +kernel) (by decide))),
  List.forall_mem_cons.mpr ⟨(xOK_pure (xs_aload_n (k := 0) rfl (show decode cX12_init 343 = .ok (.aload_n 0, 1) by decide +kernel))),
  List.forall_mem_cons.mpr ⟨(xOK_pure (xs_getf xcl_12 (by decide) (show decode cX12_init 344 = .ok (.getfield 34, 3) by decide +kernel) xw_1719)),
  List.forall_mem_cons.mpr ⟨(xOK_pure (xs_iload_n (k := 1) rfl (show decode cX12_init 347 = .ok (.iload_n 1, 1) by decide +kernel))),
  List.forall_mem_cons.mpr ⟨(xOK_pure (xs_iload_n (k := 1) rfl (show decode cX12_init 348 = .ok (.iload_n 1, 1) by decide +kernel))),
  List.forall_mem_cons.mpr ⟨(xOK_pure (xs_bipush (n := 9) (show decode cX12_init 349 = .ok (.bipush 9, 2) by decide +kernel) (by decide))),
  List.forall_mem_cons.mpr ⟨(xOK_pure (xs_irem (show decode cX12_init 351 = .ok (.irem, 1) by decide +kernel))),
  List.forall_mem_cons.mpr ⟨(xOK_pure (xs_if_ne (show decode cX12_init 352 = .ok (.ifCond .ne 7, 3) by decide +kernel) (by decide))),
  List.forall_mem_cons.mpr ⟨(xOK_pure (xs_iconst (n := 0) (show decode cX12_init 355 = .ok (.iconst 0, 1) by decide +kernel) (by decide))),
  (fun _ h => absurd h List.not_mem_nil)⟩⟩⟩⟩⟩⟩⟩⟩⟩⟩⟩⟩⟩⟩⟩⟩⟩⟩⟩⟩
def pX12_init_9 (ev : xEv) : List (Nat × xEn) := [(356, .inl (xop (xf_goto 361))), (359, .inl (xop (xf_push (.int 268435456) 2))), (361, .inl (xo_ast (ev.1 0) (fun x => x))), (362, .inl (xop (xf_iinc 1 1))), (365, .inl (xop (xf_goto 337))), (368, .inr (.inr 0))]
set_option maxRecDepth 20000 in
theorem okpX12_init_9 (ev : xEv) : ∀ q ∈ pX12_init_9 ev, xEnOK ev xmi yX12_init.cls yX12_init.name cX12_init 2 none q :=
  List.forall_mem_cons.mpr ⟨(xOK_pure (xs_goto (show decode cX12_init 356 = .ok (.goto 5, 3) by decide +kernel) (by decide))),
  List.forall_mem_cons.mpr ⟨(xOK_pure (xs_ldc (show decode cX12_init 359 = .ok (.ldc 139, 2) by decide +kernel) xw_1708)),
  List.forall_mem_cons.mpr ⟨(xs_iast (show decode cX12_init 361 = .ok (.iastore, 1) by decide +kernel)),
  List.forall_mem_cons.mpr ⟨(xOK_pure (xs_iinc (n := 1) (show decode cX12_init 362 = .ok (.iinc 1 1, 3) by decide +kernel) (by decide) (by decide))),
  List.forall_mem_cons.mpr ⟨(xOK_pure (xs_goto (show decode cX12_init 365 = .ok (.goto (-28), 3) by decide +kernel) (by decide))),
  List.forall_mem_cons.mpr ⟨(Or.inl ⟨rfl, (show decode cX12_init 368 = .ok (.return_, 1) by decide +kernel), rfl⟩),
  (fun _ h => absurd h List.not_mem_nil)⟩⟩⟩⟩⟩⟩
def pX12_init (ev : xEv) : List (Nat × xEn) := pX12_init_0 ev ++ (pX12_init_1 ev ++ (pX12_init_2 ev ++ (pX12_init_3 ev ++ (pX12_init_4 ev ++ (pX12_init_5 ev ++ (pX12_init_6 ev ++ (pX12_init_7 ev ++ (pX12_init_8 ev ++ (pX12_init_9 ev)))))))))
theorem okpX12_init (ev : xEv) : ∀ q ∈ pX12_init ev, xEnOK ev xmi yX12_init.cls yX12_init.name cX12_init 2 none q := List.forall_mem_append.mpr ⟨okpX12_init_0 ev, List.forall_mem_append.mpr ⟨okpX12_init_1 ev, List.forall_mem_append.mpr ⟨okpX12_init_2 ev, List.forall_mem_append.mpr ⟨okpX12_init_3 ev, List.forall_mem_append.mpr ⟨okpX12_init_4 ev, List.forall_mem_append.mpr ⟨okpX12_init_5 ev, List.forall_mem_append.mpr ⟨okpX12_init_6 ev, List.forall_mem_append.mpr ⟨okpX12_init_7 ev, List.forall_mem_append.mpr ⟨okpX12_init_8 ev, okpX12_init_9 ev⟩⟩⟩⟩⟩⟩⟩⟩⟩
theorem omX12_init (ev : xEv) : xMethOK ev xmi yX12_init.cls yX12_init.name 186 (pX12_init ev) := xMethOK.of mi_186 (by decide +kernel) (okpX12_init ev)
def pX12_thrown (ev : xEv) : List (Nat × xEn) := [(0, .inl (xop (xf_aload 0 1))), (1, .inl (xop (xf_getf 12 47))), (4, .inr (.inr 1))]
set_option maxRecDepth 20000 in
theorem okpX12_thrown (ev : xEv) : ∀ q ∈ pX12_thrown ev, xEnOK ev xmi yX12_thrown.cls yX12_thrown.name cX12_thrown 1 (some .int) q :=
  List.forall_mem_cons.mpr ⟨(xOK_pure (xs_aload_n (k := 0) rfl (show decode cX12_thrown 0 = .ok (.aload_n 0, 1) by decide +kernel))),
  List.forall_mem_cons.mpr ⟨(xOK_pure (xs_getf xcl_12 (by decide) (show decode cX12_thrown 1 = .ok (.getfield 140, 3) by decide +kernel) xw_1756)),
  List.forall_mem_cons.mpr ⟨(Or.inr (Or.inl ⟨rfl, (show decode cX12_thrown 4 = .ok (.ireturn, 1) by decide +kernel), rfl⟩)),
  (fun _ h => absurd h List.not_mem_nil)⟩⟩⟩
theorem omX12_thrown (ev : xEv) : xMethOK ev xmi yX12_thrown.cls yX12_thrown.name 187 (pX12_thrown ev) := xMethOK.of mi_187 (by decide +kernel) (okpX12_thrown ev)
def pX12_in (ev : xEv) : List (Nat × xEn) := [(0, .inl (xop (xf_iload 0 1))), (1, .inl (xop (xf_iload 1 1))), (2, .inl (xop (xf_icmp_lt 14))), (5, .inl (xop (xf_iload 0 1))), (6, .inl (xop (xf_iload 2 1))), (7, .inl (xop (xf_icmp_gt 14))), (10, .inl (xop (xf_push (.int 1) 1))), (11, .inl (xop (xf_goto 15))), (14, .inl (xop (xf_push (.int 0) 1))), (15, .inr (.inr 4))]
set_option maxRecDepth 20000 in
theorem okpX12_in (ev : xEv) : ∀ q ∈ pX12_in ev, xEnOK ev xmi yX12_in.cls yX12_in.name cX12_in 3 (some .boolean) q :=
  List.forall_mem_cons.mpr ⟨(xOK_pure (xs_iload_n (k := 0) rfl (show decode cX12_in 0 = .ok (.iload_n 0, 1) by decide +kernel))),
  List.forall_mem_cons.mpr ⟨(xOK_pure (xs_iload_n (k := 1) rfl (show decode cX12_in 1 = .ok (.iload_n 1, 1) by decide +kernel))),
  List.forall_mem_cons.mpr ⟨(xOK_pure (xs_icmp_lt (show decode cX12_in 2 = .ok (.if_icmp .lt 12, 3) by decide +kernel) (by decide))),
  List.forall_mem_cons.mpr ⟨(xOK_pure (xs_iload_n (k := 0) rfl (show decode cX12_in 5 = .ok (.iload_n 0, 1) by decide +kernel))),
  List.forall_mem_cons.mpr ⟨(xOK_pure (xs_iload_n (k := 2) rfl (show decode cX12_in 6 = .ok (.iload_n 2, 1) by decide +kernel))),
  List.forall_mem_cons.mpr ⟨(xOK_pure (xs_icmp_gt (show decode cX12_in 7 = .ok (.if_icmp .gt 7, 3) by decide +kernel) (by decide))),
  List.forall_mem_cons.mpr ⟨(xOK_pure (xs_iconst (n := 1) (show decode cX12_in 10 = .ok (.iconst 1, 1) by decide +kernel) (by decide))),
  List.forall_mem_cons.mpr ⟨(xOK_pure (xs_goto (show decode cX12_in 11 = .ok (.goto 4, 3) by decide +kernel) (by decide))),
  List.forall_mem_cons.mpr ⟨(xOK_pure (xs_iconst (n := 0) (show decode cX12_in 14 = .ok (.iconst 0, 1) by decide +kernel) (by decide))),
  List.forall_mem_cons.mpr ⟨(Or.inr (Or.inr (Or.inr (Or.inr (Or.inl ⟨rfl, (show decode cX12_in 15 = .ok (.ireturn, 1) by decide +kernel), rfl⟩))))),
  (fun _ h => absurd h List.not_mem_nil)⟩⟩⟩⟩⟩⟩⟩⟩⟩⟩
theorem omX12_in (ev : xEv) : xMethOK ev xmi yX12_in.cls yX12_in.name 188 (pX12_in ev) := xMethOK.of mi_188 (by decide +kernel) (okpX12_in ev)
def pX12_lost (ev : xEv) : List (Nat × xEn) := [(0, .inl (xop (xf_aload 0 1))), (1, .inl (xop (xf_push (.int 1) 1))), (2, .inl (xo_putf 12 47 .int)), (5, .inl (xop (xf_push (.int 0) 1))), (6, .inr (.inr 1))]
set_option maxRecDepth 20000 in
theorem okpX12_lost (ev : xEv) : ∀ q ∈ pX12_lost ev, xEnOK ev xmi yX12_lost.cls yX12_lost.name cX12_lost 1 (some .int) q :=
  List.forall_mem_cons.mpr ⟨(xOK_pure (xs_aload_n (k := 0) rfl (show decode cX12_lost 0 = .ok (.aload_n 0, 1) by decide +kernel))),
  List.forall_mem_cons.mpr ⟨(xOK_pure (xs_iconst (n := 1) (show decode cX12_lost 1 = .ok (.iconst 1, 1) by decide +kernel) (by decide))),
  List.forall_mem_cons.mpr ⟨(xs_putf (k := 47) xcl_12 (by decide) rfl (show decode cX12_lost 2 = .ok (.putfield 140, 3) by decide +kernel) xw_1756),
  List.forall_mem_cons.mpr ⟨(xOK_pure (xs_iconst (n := 0) (show decode cX12_lost 5 = .ok (.iconst 0, 1) by decide +kernel) (by decide))),
  List.forall_mem_cons.mpr ⟨(Or.inr (Or.inl ⟨rfl, (show decode cX12_lost 6 = .ok (.ireturn, 1) by decide +kernel), rfl⟩)),
  (fun _ h => absurd h List.not_mem_nil)⟩⟩⟩⟩⟩
theorem omX12_lost (ev : xEv) : xMethOK ev xmi yX12_lost.cls yX12_lost.name 189 (pX12_lost ev) := xMethOK.of mi_189 (by decide +kernel) (okpX12_lost ev)
def pX12_isField (ev : xEv) : List (Nat × xEn) := [(0, .inl (xop (xf_iload 1 1))), (1, .inl (xop (xf_push (.int 0) 1))), (2, .inl (xop (xf_aload 0 1))), (3, .inl (xop (xf_getf 12 1))), (6, .inl (xop (xf_push (.int 1) 1))), (7, .inl (xop (xf_bin (fun x y => x - y)))), (8, .inr (.inl (1, 188, 3, 12))), (11, .inr (.inr 4))]
set_option maxRecDepth 20000 in
theorem okpX12_isField (ev : xEv) : ∀ q ∈ pX12_isField ev, xEnOK ev xmi yX12_isField.cls yX12_isField.name cX12_isField 2 (some .boolean) q :=
  List.forall_mem_cons.mpr ⟨(xOK_pure (xs_iload_n (k := 1) rfl (show decode cX12_isField 0 = .ok (.iload_n 1, 1) by decide +kernel))),
  List.forall_mem_cons.mpr ⟨(xOK_pure (xs_iconst (n := 0) (show decode cX12_isField 1 = .ok (.iconst 0, 1) by decide +kernel) (by decide))),
  List.forall_mem_cons.mpr ⟨(xOK_pure (xs_aload_n (k := 0) rfl (show decode cX12_isField 2 = .ok (.aload_n 0, 1) by decide +kernel))),
  List.forall_mem_cons.mpr ⟨(xOK_pure (xs_getf xcl_12 (by decide) (show decode cX12_isField 3 = .ok (.getfield 143, 3) by decide +kernel) xw_1710)),
  List.forall_mem_cons.mpr ⟨(xOK_pure (xs_iconst (n := 1) (show decode cX12_isField 6 = .ok (.iconst 1, 1) by decide +kernel) (by decide))),
  List.forall_mem_cons.mpr ⟨(xOK_pure (xs_isub (show decode cX12_isField 7 = .ok (.isub, 1) by decide +kernel))),
  List.forall_mem_cons.mpr ⟨(xcm mi_188 ⟨⟨(by decide +kernel), (by decide +kernel), (by decide +kernel)⟩, (by decide), xw_1912, xw_125, Or.inr (Or.inl ⟨rfl, _, (show decode cX12_isField 8 = .ok (.invokestatic 146, 3) by decide +kernel), xw_1910, xw_1911⟩)⟩),
  List.forall_mem_cons.mpr ⟨(Or.inr (Or.inr (Or.inr (Or.inr (Or.inl ⟨rfl, (show decode cX12_isField 11 = .ok (.ireturn, 1) by decide +kernel), rfl⟩))))),
  (fun _ h => absurd h List.not_mem_nil)⟩⟩⟩⟩⟩⟩⟩⟩
theorem omX12_isField (ev : xEv) : xMethOK ev xmi yX12_isField.cls yX12_isField.name 190 (pX12_isField ev) := xMethOK.of mi_190 (by decide +kernel) (okpX12_isField ev)
def pX12_isLeg (ev : xEv) : List (Nat × xEn) := [(0, .inl (xop (xf_iload 1 1))), (1, .inl (xop (xf_push (.int 0) 1))), (2, .inl (xop (xf_aload 0 1))), (3, .inl (xop (xf_getf 12 9))), (6, .inl (xop (xf_push (.int 1) 1))), (7, .inl (xop (xf_bin (fun x y => x - y)))), (8, .inr (.inl (1, 188, 3, 12))), (11, .inr (.inr 4))]
set_option maxRecDepth 20000 in
theorem okpX12_isLeg (ev : xEv) : ∀ q ∈ pX12_isLeg ev, xEnOK ev xmi yX12_isLeg.cls yX12_isLeg.name cX12_isLeg 2 (some .boolean) q :=
  List.forall_mem_cons.mpr ⟨(xOK_pure (xs_iload_n (k := 1) rfl (show decode cX12_isLeg 0 = .ok (.iload_n 1, 1) by decide +kernel))),
  List.forall_mem_cons.mpr ⟨(xOK_pure (xs_iconst (n := 0) (show decode cX12_isLeg 1 = .ok (.iconst 0, 1) by decide +kernel) (by decide))),
  List.forall_mem_cons.mpr ⟨(xOK_pure (xs_aload_n (k := 0) rfl (show decode cX12_isLeg 2 = .ok (.aload_n 0, 1) by decide +kernel))),
  List.forall_mem_cons.mpr ⟨(xOK_pure (xs_getf xcl_12 (by decide) (show decode cX12_isLeg 3 = .ok (.getfield 150, 3) by decide +kernel) xw_1718)),
  List.forall_mem_cons.mpr ⟨(xOK_pure (xs_iconst (n := 1) (show decode cX12_isLeg 6 = .ok (.iconst 1, 1) by decide +kernel) (by decide))),
  List.forall_mem_cons.mpr ⟨(xOK_pure (xs_isub (show decode cX12_isLeg 7 = .ok (.isub, 1) by decide +kernel))),
  List.forall_mem_cons.mpr ⟨(xcm mi_188 ⟨⟨(by decide +kernel), (by decide +kernel), (by decide +kernel)⟩, (by decide), xw_1912, xw_125, Or.inr (Or.inl ⟨rfl, _, (show decode cX12_isLeg 8 = .ok (.invokestatic 146, 3) by decide +kernel), xw_1910, xw_1911⟩)⟩),
  List.forall_mem_cons.mpr ⟨(Or.inr (Or.inr (Or.inr (Or.inr (Or.inl ⟨rfl, (show decode cX12_isLeg 11 = .ok (.ireturn, 1) by decide +kernel), rfl⟩))))),
  (fun _ h => absurd h List.not_mem_nil)⟩⟩⟩⟩⟩⟩⟩⟩
theorem omX12_isLeg (ev : xEv) : xMethOK ev xmi yX12_isLeg.cls yX12_isLeg.name 191 (pX12_isLeg ev) := xMethOK.of mi_191 (by decide +kernel) (okpX12_isLeg ev)
def pX12_isPlane (ev : xEv) : List (Nat × xEn) := [(0, .inl (xop (xf_iload 1 1))), (1, .inl (xop (xf_push (.int 0) 1))), (2, .inl (xop (xf_aload 0 1))), (3, .inl (xop (xf_getf 12 21))), (6, .inl (xop (xf_push (.int 1) 1))), (7, .inl (xop (xf_bin (fun x y => x - y)))), (8, .inr (.inl (1, 188, 3, 12))), (11, .inr (.inr 4))]
set_option maxRecDepth 20000 in
theorem okpX12_isPlane (ev : xEv) : ∀ q ∈ pX12_isPlane ev, xEnOK ev xmi yX12_isPlane.cls yX12_isPlane.name cX12_isPlane 2 (some .boolean) q :=
  List.forall_mem_cons.mpr ⟨(xOK_pure (xs_iload_n (k := 1) rfl (show decode cX12_isPlane 0 = .ok (.iload_n 1, 1) by decide +kernel))),
  List.forall_mem_cons.mpr ⟨(xOK_pure (xs_iconst (n := 0) (show decode cX12_isPlane 1 = .ok (.iconst 0, 1) by decide +kernel) (by decide))),
  List.forall_mem_cons.mpr ⟨(xOK_pure (xs_aload_n (k := 0) rfl (show decode cX12_isPlane 2 = .ok (.aload_n 0, 1) by decide +kernel))),
  List.forall_mem_cons.mpr ⟨(xOK_pure (xs_getf xcl_12 (by decide) (show decode cX12_isPlane 3 = .ok (.getfield 153, 3) by decide +kernel) xw_1730)),
  List.forall_mem_cons.mpr ⟨(xOK_pure (xs_iconst (n := 1) (show decode cX12_isPlane 6 = .ok (.iconst 1, 1) by decide +kernel) (by decide))),
  List.forall_mem_cons.mpr ⟨(xOK_pure (xs_isub (show decode cX12_isPlane 7 = .ok (.isub, 1) by decide +kernel))),
  List.forall_mem_cons.mpr ⟨(xcm mi_188 ⟨⟨(by decide +kernel), (by decide +kernel), (by decide +kernel)⟩, (by decide), xw_1912, xw_125, Or.inr (Or.inl ⟨rfl, _, (show decode cX12_isPlane 8 = .ok (.invokestatic 146, 3) by decide +kernel), xw_1910, xw_1911⟩)⟩),
  List.forall_mem_cons.mpr ⟨(Or.inr (Or.inr (Or.inr (Or.inr (Or.inl ⟨rfl, (show decode cX12_isPlane 11 = .ok (.ireturn, 1) by decide +kernel), rfl⟩))))),
  (fun _ h => absurd h List.not_mem_nil)⟩⟩⟩⟩⟩⟩⟩⟩
theorem omX12_isPlane (ev : xEv) : xMethOK ev xmi yX12_isPlane.cls yX12_isPlane.name 192 (pX12_isPlane ev) := xMethOK.of mi_192 (by decide +kernel) (okpX12_isPlane ev)
def pX12_isPilot (ev : xEv) : List (Nat × xEn) := [(0, .inl (xop (xf_iload 1 1))), (1, .inl (xop (xf_push (.int 0) 1))), (2, .inl (xop (xf_aload 0 1))), (3, .inl (xop (xf_getf 12 22))), (6, .inl (xop (xf_push (.int 1) 1))), (7, .inl (xop (xf_bin (fun x y => x - y)))), (8, .inr (.inl (1, 188, 3, 12))), (11, .inr (.inr 4))]
set_option maxRecDepth 20000 in
theorem okpX12_isPilot (ev : xEv) : ∀ q ∈ pX12_isPilot ev, xEnOK ev xmi yX12_isPilot.cls yX12_isPilot.name cX12_isPilot 2 (some .boolean) q :=
  List.forall_mem_cons.mpr ⟨(xOK_pure (xs_iload_n (k := 1) rfl (show decode cX12_isPilot 0 = .ok (.iload_n 1, 1) by decide +kernel))),
  List.forall_mem_cons.mpr ⟨(xOK_pure (xs_iconst (n := 0) (show decode cX12_isPilot 1 = .ok (.iconst 0, 1) by decide +kernel) (by decide))),
  List.forall_mem_cons.mpr ⟨(xOK_pure (xs_aload_n (k := 0) rfl (show decode cX12_isPilot 2 = .ok (.aload_n 0, 1) by decide +kernel))),
  List.forall_mem_cons.mpr ⟨(xOK_pure (xs_getf xcl_12 (by decide) (show decode cX12_isPilot 3 = .ok (.getfield 156, 3) by decide +kernel) xw_1731)),
  List.forall_mem_cons.mpr ⟨(xOK_pure (xs_iconst (n := 1) (show decode cX12_isPilot 6 = .ok (.iconst 1, 1) by decide +kernel) (by decide))),
  List.forall_mem_cons.mpr ⟨(xOK_pure (xs_isub (show decode cX12_isPilot 7 = .ok (.isub, 1) by decide +kernel))),
  List.forall_mem_cons.mpr ⟨(xcm mi_188 ⟨⟨(by decide +kernel), (by decide +kernel), (by decide +kernel)⟩, (by decide), xw_1912, xw_125, Or.inr (Or.inl ⟨rfl, _, (show decode cX12_isPilot 8 = .ok (.invokestatic 146, 3) by decide +kernel), xw_1910, xw_1911⟩)⟩),
  List.forall_mem_cons.mpr ⟨(Or.inr (Or.inr (Or.inr (Or.inr (Or.inl ⟨rfl, (show decode cX12_isPilot 11 = .ok (.ireturn, 1) by decide +kernel), rfl⟩))))),
  (fun _ h => absurd h List.not_mem_nil)⟩⟩⟩⟩⟩⟩⟩⟩
theorem omX12_isPilot (ev : xEv) : xMethOK ev xmi yX12_isPilot.cls yX12_isPilot.name 193 (pX12_isPilot ev) := xMethOK.of mi_193 (by decide +kernel) (okpX12_isPilot ev)
def pX12_isBag (ev : xEv) : List (Nat × xEn) := [(0, .inl (xop (xf_iload 1 1))), (1, .inl (xop (xf_push (.int 0) 1))), (2, .inl (xop (xf_aload 0 1))), (3, .inl (xop (xf_getf 12 28))), (6, .inl (xop (xf_push (.int 1) 1))), (7, .inl (xop (xf_bin (fun x y => x - y)))), (8, .inr (.inl (1, 188, 3, 12))), (11, .inr (.inr 4))]
set_option maxRecDepth 20000 in
theorem okpX12_isBag (ev : xEv) : ∀ q ∈ pX12_isBag ev, xEnOK ev xmi yX12_isBag.cls yX12_isBag.name cX12_isBag 2 (some .boolean) q :=
  List.forall_mem_cons.mpr ⟨(xOK_pure (xs_iload_n (k := 1) rfl (show decode cX12_isBag 0 = .ok (.iload_n 1, 1) by decide +kernel))),
  List.forall_mem_cons.mpr ⟨(xOK_pure (xs_iconst (n := 0) (show decode cX12_isBag 1 = .ok (.iconst 0, 1) by decide +kernel) (by decide))),
  List.forall_mem_cons.mpr ⟨(xOK_pure (xs_aload_n (k := 0) rfl (show decode cX12_isBag 2 = .ok (.aload_n 0, 1) by decide +kernel))),
  List.forall_mem_cons.mpr ⟨(xOK_pure (xs_getf xcl_12 (by decide) (show decode cX12_isBag 3 = .ok (.getfield 159, 3) by decide +kernel) xw_1737)),
  List.forall_mem_cons.mpr ⟨(xOK_pure (xs_iconst (n := 1) (show decode cX12_isBag 6 = .ok (.iconst 1, 1) by decide +kernel) (by decide))),
  List.forall_mem_cons.mpr ⟨(xOK_pure (xs_isub (show decode cX12_isBag 7 = .ok (.isub, 1) by decide +kernel))),
  List.forall_mem_cons.mpr ⟨(xcm mi_188 ⟨⟨(by decide +kernel), (by decide +kernel), (by decide +kernel)⟩, (by decide), xw_1912, xw_125, Or.inr (Or.inl ⟨rfl, _, (show decode cX12_isBag 8 = .ok (.invokestatic 146, 3) by decide +kernel), xw_1910, xw_1911⟩)⟩),
  List.forall_mem_cons.mpr ⟨(Or.inr (Or.inr (Or.inr (Or.inr (Or.inl ⟨rfl, (show decode cX12_isBag 11 = .ok (.ireturn, 1) by decide +kernel), rfl⟩))))),
  (fun _ h => absurd h List.not_mem_nil)⟩⟩⟩⟩⟩⟩⟩⟩
theorem omX12_isBag (ev : xEv) : xMethOK ev xmi yX12_isBag.cls yX12_isBag.name 194 (pX12_isBag ev) := xMethOK.of mi_194 (by decide +kernel) (okpX12_isBag ev)
def pX12_plane (ev : xEv) : List (Nat × xEn) := [(0, .inl (xop (xf_aload 0 1))), (1, .inl (xop (xf_getf 12 48))), (4, .inl (xop (xf_push (.int 19) 2))), (6, .inl (xop (xf_push (.int 23) 2))), (8, .inl (xop (xf_iload 1 1))), (9, .inl (xop (xf_bin (fun x y => x * y)))), (10, .inl (xop (xf_bin (fun x y => x + y)))), (11, .inl (xop (xf_iload 2 1))), (12, .inl (xop (xf_bin (fun x y => x + y)))), (13, .inl (xop (xf_ald (ev.1 0)))), (14, .inr (.inr 1))]
set_option maxRecDepth 20000 in
theorem okpX12_plane (ev : xEv) : ∀ q ∈ pX12_plane ev, xEnOK ev xmi yX12_plane.cls yX12_plane.name cX12_plane 3 (some .int) q :=
  List.forall_mem_cons.mpr ⟨(xOK_pure (xs_aload_n (k := 0) rfl (show decode cX12_plane 0 = .ok (.aload_n 0, 1) by decide +kernel))),
  List.forall_mem_cons.mpr ⟨(xOK_pure (xs_getf xcl_12 (by decide) (show decode cX12_plane 1 = .ok (.getfield 121, 3) by decide +kernel) xw_1757)),
  List.forall_mem_cons.mpr ⟨(xOK_pure (xs_bipush (n := 19) (show decode cX12_plane 4 = .ok (.bipush 19, 2) by decide +kernel) (by decide))),
  List.forall_mem_cons.mpr ⟨(xOK_pure (xs_bipush (n := 23) (show decode cX12_plane 6 = .ok (.bipush 23, 2) by decide +kernel) (by decide))),
  List.forall_mem_cons.mpr ⟨(xOK_pure (xs_iload_n (k := 1) rfl (show decode cX12_plane 8 = .ok (.iload_n 1, 1) by decide +kernel))),
  List.forall_mem_cons.mpr ⟨(xOK_pure (xs_imul (show decode cX12_plane 9 = .ok (.imul, 1) by decide +kernel))),
  List.forall_mem_cons.mpr ⟨(xOK_pure (xs_iadd (show decode cX12_plane 10 = .ok (.iadd, 1) by decide +kernel))),
  List.forall_mem_cons.mpr ⟨(xOK_pure (xs_iload_n (k := 2) rfl (show decode cX12_plane 11 = .ok (.iload_n 2, 1) by decide +kernel))),
  List.forall_mem_cons.mpr ⟨(xOK_pure (xs_iadd (show decode cX12_plane 12 = .ok (.iadd, 1) by decide +kernel))),
  List.forall_mem_cons.mpr ⟨(xOK_pure (xs_iald (show decode cX12_plane 13 = .ok (.iaload, 1) by decide +kernel))),
  List.forall_mem_cons.mpr ⟨(Or.inr (Or.inl ⟨rfl, (show decode cX12_plane 14 = .ok (.ireturn, 1) by decide +kernel), rfl⟩)),
  (fun _ h => absurd h List.not_mem_nil)⟩⟩⟩⟩⟩⟩⟩⟩⟩⟩⟩
theorem omX12_plane (ev : xEv) : xMethOK ev xmi yX12_plane.cls yX12_plane.name 195 (pX12_plane ev) := xMethOK.of mi_195 (by decide +kernel) (okpX12_plane ev)
def pX12_plane_ (ev : xEv) : List (Nat × xEn) := [(0, .inl (xop (xf_aload 0 1))), (1, .inl (xop (xf_getf 12 48))), (4, .inl (xop (xf_push (.int 19) 2))), (6, .inl (xop (xf_push (.int 23) 2))), (8, .inl (xop (xf_iload 1 1))), (9, .inl (xop (xf_bin (fun x y => x * y)))), (10, .inl (xop (xf_bin (fun x y => x + y)))), (11, .inl (xop (xf_iload 2 1))), (12, .inl (xop (xf_bin (fun x y => x + y)))), (13, .inl (xop (xf_iload 3 1))), (14, .inl (xo_ast (ev.1 0) (fun x => x))), (15, .inr (.inr 0))]
set_option maxRecDepth 20000 in
theorem okpX12_plane_ (ev : xEv) : ∀ q ∈ pX12_plane_ ev, xEnOK ev xmi yX12_plane_.cls yX12_plane_.name cX12_plane_ 4 none q :=
  List.forall_mem_cons.mpr ⟨(xOK_pure (xs_aload_n (k := 0) rfl (show decode cX12_plane_ 0 = .ok (.aload_n 0, 1) by decide +kernel))),
  List.forall_mem_cons.mpr ⟨(xOK_pure (xs_getf xcl_12 (by decide) (show decode cX12_plane_ 1 = .ok (.getfield 121, 3) by decide +kernel) xw_1757)),
  List.forall_mem_cons.mpr ⟨(xOK_pure (xs_bipush (n := 19) (show decode cX12_plane_ 4 = .ok (.bipush 19, 2) by decide +kernel) (by decide))),
  List.forall_mem_cons.mpr ⟨(xOK_pure (xs_bipush (n := 23) (show decode cX12_plane_ 6 = .ok (.bipush 23, 2) by decide +kernel) (by decide))),
  List.forall_mem_cons.mpr ⟨(xOK_pure (xs_iload_n (k := 1) rfl (show decode cX12_plane_ 8 = .ok (.iload_n 1, 1) by decide +kernel))),
  List.forall_mem_cons.mpr ⟨(xOK_pure (xs_imul (show decode cX12_plane_ 9 = .ok (.imul, 1) by decide +kernel))),
  List.forall_mem_cons.mpr ⟨(xOK_pure (xs_iadd (show decode cX12_plane_ 10 = .ok (.iadd, 1) by decide +kernel))),
  List.forall_mem_cons.mpr ⟨(xOK_pure (xs_iload_n (k := 2) rfl (show decode cX12_plane_ 11 = .ok (.iload_n 2, 1) by decide +kernel))),
  List.forall_mem_cons.mpr ⟨(xOK_pure (xs_iadd (show decode cX12_plane_ 12 = .ok (.iadd, 1) by decide +kernel))),
  List.forall_mem_cons.mpr ⟨(xOK_pure (xs_iload_n (k := 3) rfl (show decode cX12_plane_ 13 = .ok (.iload_n 3, 1) by decide +kernel))),
  List.forall_mem_cons.mpr ⟨(xs_iast (show decode cX12_plane_ 14 = .ok (.iastore, 1) by decide +kernel)),
  List.forall_mem_cons.mpr ⟨(Or.inl ⟨rfl, (show decode cX12_plane_ 15 = .ok (.return_, 1) by decide +kernel), rfl⟩),
  (fun _ h => absurd h List.not_mem_nil)⟩⟩⟩⟩⟩⟩⟩⟩⟩⟩⟩⟩
theorem omX12_plane_ (ev : xEv) : xMethOK ev xmi yX12_plane_.cls yX12_plane_.name 196 (pX12_plane_ ev) := xMethOK.of mi_196 (by decide +kernel) (okpX12_plane_ ev)
def pX12_pilotOf (ev : xEv) : List (Nat × xEn) := [(0, .inl (xop (xf_aload 0 1))), (1, .inl (xop (xf_getf 12 48))), (4, .inl (xop (xf_push (.int 203) 3))), (7, .inl (xop (xf_push (.int 4) 1))), (8, .inl (xop (xf_iload 1 1))), (9, .inl (xop (xf_bin (fun x y => x * y)))), (10, .inl (xop (xf_bin (fun x y => x + y)))), (11, .inl (xop (xf_iload 2 1))), (12, .inl (xop (xf_bin (fun x y => x + y)))), (13, .inl (xop (xf_ald (ev.1 0)))), (14, .inr (.inr 1))]
set_option maxRecDepth 20000 in
theorem okpX12_pilotOf (ev : xEv) : ∀ q ∈ pX12_pilotOf ev, xEnOK ev xmi yX12_pilotOf.cls yX12_pilotOf.name cX12_pilotOf 3 (some .int) q :=
  List.forall_mem_cons.mpr ⟨(xOK_pure (xs_aload_n (k := 0) rfl (show decode cX12_pilotOf 0 = .ok (.aload_n 0, 1) by decide +kernel))),
  List.forall_mem_cons.mpr ⟨(xOK_pure (xs_getf xcl_12 (by decide) (show decode cX12_pilotOf 1 = .ok (.getfield 121, 3) by decide +kernel) xw_1757)),
  List.forall_mem_cons.mpr ⟨(xOK_pure (xs_sipush (n := 203) (show decode cX12_pilotOf 4 = .ok (.sipush 203, 3) by decide +kernel) (by decide))),
  List.forall_mem_cons.mpr ⟨(xOK_pure (xs_iconst (n := 4) (show decode cX12_pilotOf 7 = .ok (.iconst 4, 1) by decide +kernel) (by decide))),
  List.forall_mem_cons.mpr ⟨(xOK_pure (xs_iload_n (k := 1) rfl (show decode cX12_pilotOf 8 = .ok (.iload_n 1, 1) by decide +kernel))),
  List.forall_mem_cons.mpr ⟨(xOK_pure (xs_imul (show decode cX12_pilotOf 9 = .ok (.imul, 1) by decide +kernel))),
  List.forall_mem_cons.mpr ⟨(xOK_pure (xs_iadd (show decode cX12_pilotOf 10 = .ok (.iadd, 1) by decide +kernel))),
  List.forall_mem_cons.mpr ⟨(xOK_pure (xs_iload_n (k := 2) rfl (show decode cX12_pilotOf 11 = .ok (.iload_n 2, 1) by decide +kernel))),
  List.forall_mem_cons.mpr ⟨(xOK_pure (xs_iadd (show decode cX12_pilotOf 12 = .ok (.iadd, 1) by decide +kernel))),
  List.forall_mem_cons.mpr ⟨(xOK_pure (xs_iald (show decode cX12_pilotOf 13 = .ok (.iaload, 1) by decide +kernel))),
  List.forall_mem_cons.mpr ⟨(Or.inr (Or.inl ⟨rfl, (show decode cX12_pilotOf 14 = .ok (.ireturn, 1) by decide +kernel), rfl⟩)),
  (fun _ h => absurd h List.not_mem_nil)⟩⟩⟩⟩⟩⟩⟩⟩⟩⟩⟩
theorem omX12_pilotOf (ev : xEv) : xMethOK ev xmi yX12_pilotOf.cls yX12_pilotOf.name 197 (pX12_pilotOf ev) := xMethOK.of mi_197 (by decide +kernel) (okpX12_pilotOf ev)
def pX12_setPilot (ev : xEv) : List (Nat × xEn) := [(0, .inl (xop (xf_aload 0 1))), (1, .inl (xop (xf_getf 12 48))), (4, .inl (xop (xf_push (.int 203) 3))), (7, .inl (xop (xf_push (.int 4) 1))), (8, .inl (xop (xf_iload 1 1))), (9, .inl (xop (xf_bin (fun x y => x * y)))), (10, .inl (xop (xf_bin (fun x y => x + y)))), (11, .inl (xop (xf_iload 2 1))), (12, .inl (xop (xf_bin (fun x y => x + y)))), (13, .inl (xop (xf_iload 3 1))), (14, .inl (xo_ast (ev.1 0) (fun x => x))), (15, .inr (.inr 0))]
set_option maxRecDepth 20000 in
theorem okpX12_setPilot (ev : xEv) : ∀ q ∈ pX12_setPilot ev, xEnOK ev xmi yX12_setPilot.cls yX12_setPilot.name cX12_setPilot 4 none q :=
  List.forall_mem_cons.mpr ⟨(xOK_pure (xs_aload_n (k := 0) rfl (show decode cX12_setPilot 0 = .ok (.aload_n 0, 1) by decide +kernel))),
  List.forall_mem_cons.mpr ⟨(xOK_pure (xs_getf xcl_12 (by decide) (show decode cX12_setPilot 1 = .ok (.getfield 121, 3) by decide +kernel) xw_1757)),
  List.forall_mem_cons.mpr ⟨(xOK_pure (xs_sipush (n := 203) (show decode cX12_setPilot 4 = .ok (.sipush 203, 3) by decide +kernel) (by decide))),
  List.forall_mem_cons.mpr ⟨(xOK_pure (xs_iconst (n := 4) (show decode cX12_setPilot 7 = .ok (.iconst 4, 1) by decide +kernel) (by decide))),
  List.forall_mem_cons.mpr ⟨(xOK_pure (xs_iload_n (k := 1) rfl (show decode cX12_setPilot 8 = .ok (.iload_n 1, 1) by decide +kernel))),
  List.forall_mem_cons.mpr ⟨(xOK_pure (xs_imul (show decode cX12_setPilot 9 = .ok (.imul, 1) by decide +kernel))),
  List.forall_mem_cons.mpr ⟨(xOK_pure (xs_iadd (show decode cX12_setPilot 10 = .ok (.iadd, 1) by decide +kernel))),
  List.forall_mem_cons.mpr ⟨(xOK_pure (xs_iload_n (k := 2) rfl (show decode cX12_setPilot 11 = .ok (.iload_n 2, 1) by decide +kernel))),
  List.forall_mem_cons.mpr ⟨(xOK_pure (xs_iadd (show decode cX12_setPilot 12 = .ok (.iadd, 1) by decide +kernel))),
  List.forall_mem_cons.mpr ⟨(xOK_pure (xs_iload_n (k := 3) rfl (show decode cX12_setPilot 13 = .ok (.iload_n 3, 1) by decide +kernel))),
  List.forall_mem_cons.mpr ⟨(xs_iast (show decode cX12_setPilot 14 = .ok (.iastore, 1) by decide +kernel)),
  List.forall_mem_cons.mpr ⟨(Or.inl ⟨rfl, (show decode cX12_setPilot 15 = .ok (.return_, 1) by decide +kernel), rfl⟩),
  (fun _ h => absurd h List.not_mem_nil)⟩⟩⟩⟩⟩⟩⟩⟩⟩⟩⟩⟩
theorem omX12_setPilot (ev : xEv) : xMethOK ev xmi yX12_setPilot.cls yX12_setPilot.name 198 (pX12_setPilot ev) := xMethOK.of mi_198 (by decide +kernel) (okpX12_setPilot ev)
def pX12_bagOf (ev : xEv) : List (Nat × xEn) := [(0, .inl (xop (xf_aload 0 1))), (1, .inl (xop (xf_getf 12 48))), (4, .inl (xop (xf_push (.int 235) 3))), (7, .inl (xop (xf_push (.int 37) 2))), (9, .inl (xop (xf_iload 1 1))), (10, .inl (xop (xf_bin (fun x y => x * y)))), (11, .inl (xop (xf_bin (fun x y => x + y)))), (12, .inl (xop (xf_iload 2 1))), (13, .inl (xop (xf_bin (fun x y => x + y)))), (14, .inl (xop (xf_ald (ev.1 0)))), (15, .inr (.inr 1))]
set_option maxRecDepth 20000 in
theorem okpX12_bagOf (ev : xEv) : ∀ q ∈ pX12_bagOf ev, xEnOK ev xmi yX12_bagOf.cls yX12_bagOf.name cX12_bagOf 3 (some .int) q :=
  List.forall_mem_cons.mpr ⟨(xOK_pure (xs_aload_n (k := 0) rfl (show decode cX12_bagOf 0 = .ok (.aload_n 0, 1) by decide +kernel))),
  List.forall_mem_cons.mpr ⟨(xOK_pure (xs_getf xcl_12 (by decide) (show decode cX12_bagOf 1 = .ok (.getfield 121, 3) by decide +kernel) xw_1757)),
  List.forall_mem_cons.mpr ⟨(xOK_pure (xs_sipush (n := 235) (show decode cX12_bagOf 4 = .ok (.sipush 235, 3) by decide +kernel) (by decide))),
  List.forall_mem_cons.mpr ⟨(xOK_pure (xs_bipush (n := 37) (show decode cX12_bagOf 7 = .ok (.bipush 37, 2) by decide +kernel) (by decide))),
  List.forall_mem_cons.mpr ⟨(xOK_pure (xs_iload_n (k := 1) rfl (show decode cX12_bagOf 9 = .ok (.iload_n 1, 1) by decide +kernel))),
  List.forall_mem_cons.mpr ⟨(xOK_pure (xs_imul (show decode cX12_bagOf 10 = .ok (.imul, 1) by decide +kernel))),
  List.forall_mem_cons.mpr ⟨(xOK_pure (xs_iadd (show decode cX12_bagOf 11 = .ok (.iadd, 1) by decide +kernel))),
  List.forall_mem_cons.mpr ⟨(xOK_pure (xs_iload_n (k := 2) rfl (show decode cX12_bagOf 12 = .ok (.iload_n 2, 1) by decide +kernel))),
  List.forall_mem_cons.mpr ⟨(xOK_pure (xs_iadd (show decode cX12_bagOf 13 = .ok (.iadd, 1) by decide +kernel))),
  List.forall_mem_cons.mpr ⟨(xOK_pure (xs_iald (show decode cX12_bagOf 14 = .ok (.iaload, 1) by decide +kernel))),
  List.forall_mem_cons.mpr ⟨(Or.inr (Or.inl ⟨rfl, (show decode cX12_bagOf 15 = .ok (.ireturn, 1) by decide +kernel), rfl⟩)),
  (fun _ h => absurd h List.not_mem_nil)⟩⟩⟩⟩⟩⟩⟩⟩⟩⟩⟩
theorem omX12_bagOf (ev : xEv) : xMethOK ev xmi yX12_bagOf.cls yX12_bagOf.name 199 (pX12_bagOf ev) := xMethOK.of mi_199 (by decide +kernel) (okpX12_bagOf ev)
def pX12_setBag (ev : xEv) : List (Nat × xEn) := [(0, .inl (xop (xf_aload 0 1))), (1, .inl (xop (xf_getf 12 48))), (4, .inl (xop (xf_push (.int 235) 3))), (7, .inl (xop (xf_push (.int 37) 2))), (9, .inl (xop (xf_iload 1 1))), (10, .inl (xop (xf_bin (fun x y => x * y)))), (11, .inl (xop (xf_bin (fun x y => x + y)))), (12, .inl (xop (xf_iload 2 1))), (13, .inl (xop (xf_bin (fun x y => x + y)))), (14, .inl (xop (xf_iload 3 1))), (15, .inl (xo_ast (ev.1 0) (fun x => x))), (16, .inr (.inr 0))]
set_option maxRecDepth 20000 in
theorem okpX12_setBag (ev : xEv) : ∀ q ∈ pX12_setBag ev, xEnOK ev xmi yX12_setBag.cls yX12_setBag.name cX12_setBag 4 none q :=
  List.forall_mem_cons.mpr ⟨(xOK_pure (xs_aload_n (k := 0) rfl (show decode cX12_setBag 0 = .ok (.aload_n 0, 1) by decide +kernel))),
  List.forall_mem_cons.mpr ⟨(xOK_pure (xs_getf xcl_12 (by decide) (show decode cX12_setBag 1 = .ok (.getfield 121, 3) by decide +kernel) xw_1757)),
  List.forall_mem_cons.mpr ⟨(xOK_pure (xs_sipush (n := 235) (show decode cX12_setBag 4 = .ok (.sipush 235, 3) by decide +kernel) (by decide))),
  List.forall_mem_cons.mpr ⟨(xOK_pure (xs_bipush (n := 37) (show decode cX12_setBag 7 = .ok (.bipush 37, 2) by decide +kernel) (by decide))),
  List.forall_mem_cons.mpr ⟨(xOK_pure (xs_iload_n (k := 1) rfl (show decode cX12_setBag 9 = .ok (.iload_n 1, 1) by decide +kernel))),
  List.forall_mem_cons.mpr ⟨(xOK_pure (xs_imul (show decode cX12_setBag 10 = .ok (.imul, 1) by decide +kernel))),
  List.forall_mem_cons.mpr ⟨(xOK_pure (xs_iadd (show decode cX12_setBag 11 = .ok (.iadd, 1) by decide +kernel))),
  List.forall_mem_cons.mpr ⟨(xOK_pure (xs_iload_n (k := 2) rfl (show decode cX12_setBag 12 = .ok (.iload_n 2, 1) by decide +kernel))),
  List.forall_mem_cons.mpr ⟨(xOK_pure (xs_iadd (show decode cX12_setBag 13 = .ok (.iadd, 1) by decide +kernel))),
  List.forall_mem_cons.mpr ⟨(xOK_pure (xs_iload_n (k := 3) rfl (show decode cX12_setBag 14 = .ok (.iload_n 3, 1) by decide +kernel))),
  List.forall_mem_cons.mpr ⟨(xs_iast (show decode cX12_setBag 15 = .ok (.iastore, 1) by decide +kernel)),
  List.forall_mem_cons.mpr ⟨(Or.inl ⟨rfl, (show decode cX12_setBag 16 = .ok (.return_, 1) by decide +kernel), rfl⟩),
  (fun _ h => absurd h List.not_mem_nil)⟩⟩⟩⟩⟩⟩⟩⟩⟩⟩⟩⟩
theorem omX12_setBag (ev : xEv) : xMethOK ev xmi yX12_setBag.cls yX12_setBag.name 200 (pX12_setBag ev) := xMethOK.of mi_200 (by decide +kernel) (okpX12_setBag ev)
def pX12_flightOf (ev : xEv) : List (Nat × xEn) := [(0, .inl (xop (xf_aload 0 1))), (1, .inl (xop (xf_getf 12 48))), (4, .inl (xop (xf_push (.int 1345) 3))), (7, .inl (xop (xf_push (.int 5) 1))), (8, .inl (xop (xf_iload 1 1))), (9, .inl (xop (xf_bin (fun x y => x * y)))), (10, .inl (xop (xf_bin (fun x y => x + y)))), (11, .inl (xop (xf_iload 2 1))), (12, .inl (xop (xf_bin (fun x y => x + y)))), (13, .inl (xop (xf_ald (ev.1 0)))), (14, .inr (.inr 1))]
set_option maxRecDepth 20000 in
theorem okpX12_flightOf (ev : xEv) : ∀ q ∈ pX12_flightOf ev, xEnOK ev xmi yX12_flightOf.cls yX12_flightOf.name cX12_flightOf 3 (some .int) q :=
  List.forall_mem_cons.mpr ⟨(xOK_pure (xs_aload_n (k := 0) rfl (show decode cX12_flightOf 0 = .ok (.aload_n 0, 1) by decide +kernel))),
  List.forall_mem_cons.mpr ⟨(xOK_pure (xs_getf xcl_12 (by decide) (show decode cX12_flightOf 1 = .ok (.getfield 121, 3) by decide +kernel) xw_1757)),
  List.forall_mem_cons.mpr ⟨(xOK_pure (xs_sipush (n := 1345) (show decode cX12_flightOf 4 = .ok (.sipush 1345, 3) by decide +kernel) (by decide))),
  List.forall_mem_cons.mpr ⟨(xOK_pure (xs_iconst (n := 5) (show decode cX12_flightOf 7 = .ok (.iconst 5, 1) by decide +kernel) (by decide))),
  List.forall_mem_cons.mpr ⟨(xOK_pure (xs_iload_n (k := 1) rfl (show decode cX12_flightOf 8 = .ok (.iload_n 1, 1) by decide +kernel))),
  List.forall_mem_cons.mpr ⟨(xOK_pure (xs_imul (show decode cX12_flightOf 9 = .ok (.imul, 1) by decide +kernel))),
  List.forall_mem_cons.mpr ⟨(xOK_pure (xs_iadd (show decode cX12_flightOf 10 = .ok (.iadd, 1) by decide +kernel))),
  List.forall_mem_cons.mpr ⟨(xOK_pure (xs_iload_n (k := 2) rfl (show decode cX12_flightOf 11 = .ok (.iload_n 2, 1) by decide +kernel))),
  List.forall_mem_cons.mpr ⟨(xOK_pure (xs_iadd (show decode cX12_flightOf 12 = .ok (.iadd, 1) by decide +kernel))),
  List.forall_mem_cons.mpr ⟨(xOK_pure (xs_iald (show decode cX12_flightOf 13 = .ok (.iaload, 1) by decide +kernel))),
  List.forall_mem_cons.mpr ⟨(Or.inr (Or.inl ⟨rfl, (show decode cX12_flightOf 14 = .ok (.ireturn, 1) by decide +kernel), rfl⟩)),
  (fun _ h => absurd h List.not_mem_nil)⟩⟩⟩⟩⟩⟩⟩⟩⟩⟩⟩
theorem omX12_flightOf (ev : xEv) : xMethOK ev xmi yX12_flightOf.cls yX12_flightOf.name 201 (pX12_flightOf ev) := xMethOK.of mi_201 (by decide +kernel) (okpX12_flightOf ev)
def pX12_setFlight (ev : xEv) : List (Nat × xEn) := [(0, .inl (xop (xf_aload 0 1))), (1, .inl (xop (xf_getf 12 48))), (4, .inl (xop (xf_push (.int 1345) 3))), (7, .inl (xop (xf_push (.int 5) 1))), (8, .inl (xop (xf_iload 1 1))), (9, .inl (xop (xf_bin (fun x y => x * y)))), (10, .inl (xop (xf_bin (fun x y => x + y)))), (11, .inl (xop (xf_iload 2 1))), (12, .inl (xop (xf_bin (fun x y => x + y)))), (13, .inl (xop (xf_iload 3 1))), (14, .inl (xo_ast (ev.1 0) (fun x => x))), (15, .inr (.inr 0))]
set_option maxRecDepth 20000 in
theorem okpX12_setFlight (ev : xEv) : ∀ q ∈ pX12_setFlight ev, xEnOK ev xmi yX12_setFlight.cls yX12_setFlight.name cX12_setFlight 4 none q :=
  List.forall_mem_cons.mpr ⟨(xOK_pure (xs_aload_n (k := 0) rfl (show decode cX12_setFlight 0 = .ok (.aload_n 0, 1) by decide +kernel))),
  List.forall_mem_cons.mpr ⟨(xOK_pure (xs_getf xcl_12 (by decide) (show decode cX12_setFlight 1 = .ok (.getfield 121, 3) by decide +kernel) xw_1757)),
  List.forall_mem_cons.mpr ⟨(xOK_pure (xs_sipush (n := 1345) (show decode cX12_setFlight 4 = .ok (.sipush 1345, 3) by decide +kernel) (by decide))),
  List.forall_mem_cons.mpr ⟨(xOK_pure (xs_iconst (n := 5) (show decode cX12_setFlight 7 = .ok (.iconst 5, 1) by decide +kernel) (by decide))),
  List.forall_mem_cons.mpr ⟨(xOK_pure (xs_iload_n (k := 1) rfl (show decode cX12_setFlight 8 = .ok (.iload_n 1, 1) by decide +kernel))),
  List.forall_mem_cons.mpr ⟨(xOK_pure (xs_imul (show decode cX12_setFlight 9 = .ok (.imul, 1) by decide +kernel))),
  List.forall_mem_cons.mpr ⟨(xOK_pure (xs_iadd (show decode cX12_setFlight 10 = .ok (.iadd, 1) by decide +kernel))),
  List.forall_mem_cons.mpr ⟨(xOK_pure (xs_iload_n (k := 2) rfl (show decode cX12_setFlight 11 = .ok (.iload_n 2, 1) by decide +kernel))),
  List.forall_mem_cons.mpr ⟨(xOK_pure (xs_iadd (show decode cX12_setFlight 12 = .ok (.iadd, 1) by decide +kernel))),
  List.forall_mem_cons.mpr ⟨(xOK_pure (xs_iload_n (k := 3) rfl (show decode cX12_setFlight 13 = .ok (.iload_n 3, 1) by decide +kernel))),
  List.forall_mem_cons.mpr ⟨(xs_iast (show decode cX12_setFlight 14 = .ok (.iastore, 1) by decide +kernel)),
  List.forall_mem_cons.mpr ⟨(Or.inl ⟨rfl, (show decode cX12_setFlight 15 = .ok (.return_, 1) by decide +kernel), rfl⟩),
  (fun _ h => absurd h List.not_mem_nil)⟩⟩⟩⟩⟩⟩⟩⟩⟩⟩⟩⟩
theorem omX12_setFlight (ev : xEv) : xMethOK ev xmi yX12_setFlight.cls yX12_setFlight.name 202 (pX12_setFlight ev) := xMethOK.of mi_202 (by decide +kernel) (okpX12_setFlight ev)
def pX12_hasLamp (ev : xEv) : List (Nat × xEn) := [(0, .inl (xop (xf_aload 0 1))), (1, .inl (xop (xf_getf 12 48))), (4, .inl (xop (xf_push (.int 3) 1))), (5, .inl (xop (xf_push (.int 2) 1))), (6, .inl (xop (xf_iload 1 1))), (7, .inl (xop (xf_bin (fun x y => x * y)))), (8, .inl (xop (xf_bin (fun x y => x + y)))), (9, .inl (xop (xf_push (.int 0) 1))), (10, .inl (xop (xf_bin (fun x y => x + y)))), (11, .inl (xop (xf_ald (ev.1 0)))), (12, .inl (xop (xf_push (.int 1) 1))), (13, .inl (xop (xf_icmp_ne 20))), (16, .inl (xop (xf_push (.int 1) 1))), (17, .inl (xop (xf_goto 21))), (20, .inl (xop (xf_push (.int 0) 1))), (21, .inr (.inr 4))]
set_option maxRecDepth 20000 in
theorem okpX12_hasLamp (ev : xEv) : ∀ q ∈ pX12_hasLamp ev, xEnOK ev xmi yX12_hasLamp.cls yX12_hasLamp.name cX12_hasLamp 2 (some .boolean) q :=
  List.forall_mem_cons.mpr ⟨(xOK_pure (xs_aload_n (k := 0) rfl (show decode cX12_hasLamp 0 = .ok (.aload_n 0, 1) by decide +kernel))),
  List.forall_mem_cons.mpr ⟨(xOK_pure (xs_getf xcl_12 (by decide) (show decode cX12_hasLamp 1 = .ok (.getfield 121, 3) by decide +kernel) xw_1757)),
  List.forall_mem_cons.mpr ⟨(xOK_pure (xs_iconst (n := 3) (show decode cX12_hasLamp 4 = .ok (.iconst 3, 1) by decide +kernel) (by decide))),
  List.forall_mem_cons.mpr ⟨(xOK_pure (xs_iconst (n := 2) (show decode cX12_hasLamp 5 = .ok (.iconst 2, 1) by decide +kernel) (by decide))),
  List.forall_mem_cons.mpr ⟨(xOK_pure (xs_iload_n (k := 1) rfl (show decode cX12_hasLamp 6 = .ok (.iload_n 1, 1) by decide +kernel))),
  List.forall_mem_cons.mpr ⟨(xOK_pure (xs_imul (show decode cX12_hasLamp 7 = .ok (.imul, 1) by decide +kernel))),
  List.forall_mem_cons.mpr ⟨(xOK_pure (xs_iadd (show decode cX12_hasLamp 8 = .ok (.iadd, 1) by decide +kernel))),
  List.forall_mem_cons.mpr ⟨(xOK_pure (xs_iconst (n := 0) (show decode cX12_hasLamp 9 = .ok (.iconst 0, 1) by decide +kernel) (by decide))),
  List.forall_mem_cons.mpr ⟨(xOK_pure (xs_iadd (show decode cX12_hasLamp 10 = .ok (.iadd, 1) by decide +kernel))),
  List.forall_mem_cons.mpr ⟨(xOK_pure (xs_iald (show decode cX12_hasLamp 11 = .ok (.iaload, 1) by decide +kernel))),
  List.forall_mem_cons.mpr ⟨(xOK_pure (xs_iconst (n := 1) (show decode cX12_hasLamp 12 = .ok (.iconst 1, 1) by decide +kernel) (by decide))),
  List.forall_mem_cons.mpr ⟨(xOK_pure (xs_icmp_ne (show decode cX12_hasLamp 13 = .ok (.if_icmp .ne 7, 3) by decide +kernel) (by decide))),
  List.forall_mem_cons.mpr ⟨(xOK_pure (xs_iconst (n := 1) (show decode cX12_hasLamp 16 = .ok (.iconst 1, 1) by decide +kernel) (by decide))),
  List.forall_mem_cons.mpr ⟨(xOK_pure (xs_goto (show decode cX12_hasLamp 17 = .ok (.goto 4, 3) by decide +kernel) (by decide))),
  List.forall_mem_cons.mpr ⟨(xOK_pure (xs_iconst (n := 0) (show decode cX12_hasLamp 20 = .ok (.iconst 0, 1) by decide +kernel) (by decide))),
  List.forall_mem_cons.mpr ⟨(Or.inr (Or.inr (Or.inr (Or.inr (Or.inl ⟨rfl, (show decode cX12_hasLamp 21 = .ok (.ireturn, 1) by decide +kernel), rfl⟩))))),
  (fun _ h => absurd h List.not_mem_nil)⟩⟩⟩⟩⟩⟩⟩⟩⟩⟩⟩⟩⟩⟩⟩⟩
theorem omX12_hasLamp (ev : xEv) : xMethOK ev xmi yX12_hasLamp.cls yX12_hasLamp.name 203 (pX12_hasLamp ev) := xMethOK.of mi_203 (by decide +kernel) (okpX12_hasLamp ev)
def pX12_isDark (ev : xEv) : List (Nat × xEn) := [(0, .inl (xop (xf_iload 0 1))), (1, .inl (xop (xf_push (.int 96) 2))), (3, .inl (xop (xf_div (fun x y => x - x / y * y)))), (4, .inl (xop (xf_istore 1 1))), (5, .inl (xop (xf_iload 1 1))), (6, .inl (xop (xf_push (.int 24) 2))), (8, .inl (xop (xf_icmp_lt 17))), (11, .inl (xop (xf_iload 1 1))), (12, .inl (xop (xf_push (.int 72) 2))), (14, .inl (xop (xf_icmp_lt 21))), (17, .inl (xop (xf_push (.int 1) 1))), (18, .inl (xop (xf_goto 22))), (21, .inl (xop (xf_push (.int 0) 1))), (22, .inr (.inr 4))]
set_option maxRecDepth 20000 in
theorem okpX12_isDark (ev : xEv) : ∀ q ∈ pX12_isDark ev, xEnOK ev xmi yX12_isDark.cls yX12_isDark.name cX12_isDark 2 (some .boolean) q :=
  List.forall_mem_cons.mpr ⟨(xOK_pure (xs_iload_n (k := 0) rfl (show decode cX12_isDark 0 = .ok (.iload_n 0, 1) by decide +kernel))),
  List.forall_mem_cons.mpr ⟨(xOK_pure (xs_bipush (n := 96) (show decode cX12_isDark 1 = .ok (.bipush 96, 2) by decide +kernel) (by decide))),
  List.forall_mem_cons.mpr ⟨(xOK_pure (xs_irem (show decode cX12_isDark 3 = .ok (.irem, 1) by decide +kernel))),
  List.forall_mem_cons.mpr ⟨(xOK_pure (xs_istore_n (k := 1) rfl (show decode cX12_isDark 4 = .ok (.istore_n 1, 1) by decide +kernel) (by decide))),
  List.forall_mem_cons.mpr ⟨(xOK_pure (xs_iload_n (k := 1) rfl (show decode cX12_isDark 5 = .ok (.iload_n 1, 1) by decide +kernel))),
  List.forall_mem_cons.mpr ⟨(xOK_pure (xs_bipush (n := 24) (show decode cX12_isDark 6 = .ok (.bipush 24, 2) by decide +kernel) (by decide))),
  List.forall_mem_cons.mpr ⟨(xOK_pure (xs_icmp_lt (show decode cX12_isDark 8 = .ok (.if_icmp .lt 9, 3) by decide +kernel) (by decide))),
  List.forall_mem_cons.mpr ⟨(xOK_pure (xs_iload_n (k := 1) rfl (show decode cX12_isDark 11 = .ok (.iload_n 1, 1) by decide +kernel))),
  List.forall_mem_cons.mpr ⟨(xOK_pure (xs_bipush (n := 72) (show decode cX12_isDark 12 = .ok (.bipush 72, 2) by decide +kernel) (by decide))),
  List.forall_mem_cons.mpr ⟨(xOK_pure (xs_icmp_lt (show decode cX12_isDark 14 = .ok (.if_icmp .lt 7, 3) by decide +kernel) (by decide))),
  List.forall_mem_cons.mpr ⟨(xOK_pure (xs_iconst (n := 1) (show decode cX12_isDark 17 = .ok (.iconst 1, 1) by decide +kernel) (by decide))),
  List.forall_mem_cons.mpr ⟨(xOK_pure (xs_goto (show decode cX12_isDark 18 = .ok (.goto 4, 3) by decide +kernel) (by decide))),
  List.forall_mem_cons.mpr ⟨(xOK_pure (xs_iconst (n := 0) (show decode cX12_isDark 21 = .ok (.iconst 0, 1) by decide +kernel) (by decide))),
  List.forall_mem_cons.mpr ⟨(Or.inr (Or.inr (Or.inr (Or.inr (Or.inl ⟨rfl, (show decode cX12_isDark 22 = .ok (.ireturn, 1) by decide +kernel), rfl⟩))))),
  (fun _ h => absurd h List.not_mem_nil)⟩⟩⟩⟩⟩⟩⟩⟩⟩⟩⟩⟩⟩⟩
theorem omX12_isDark (ev : xEv) : xMethOK ev xmi yX12_isDark.cls yX12_isDark.name 204 (pX12_isDark ev) := xMethOK.of mi_204 (by decide +kernel) (okpX12_isDark ev)
def pX12_field_0 (ev : xEv) : List (Nat × xEn) := [(0, .inl (xop (xf_aload 0 1))), (1, .inl (xop (xf_push (.int 0) 1))), (2, .inl (xo_putf 12 47 .int)), (5, .inl (xop (xf_iload 1 1))), (6, .inl (xop (xf_push (.int 0) 1))), (7, .inl (xop (xf_push (.int 99) 2))), (9, .inr (.inl (1, 188, 3, 12))), (12, .inl (xop (xf_if_eq 34))), (15, .inl (xop (xf_iload 3 1))), (16, .inl (xop (xf_push (.int 0) 1))), (17, .inl (xop (xf_push (.int 9) 2))), (19, .inr (.inl (1, 188, 3, 12))), (22, .inl (xop (xf_if_eq 34))), (25, .inl (xop (xf_aload 0 1))), (26, .inl (xop (xf_getf 12 1))), (29, .inl (xop (xf_push (.int 8) 2))), (31, .inl (xop (xf_icmp_ne 36))), (34, .inl (xop (xf_push (.int (-1)) 1))), (35, .inr (.inr 1)), (36, .inl (xop (xf_aload 0 1)))]
set_option maxRecDepth 20000 in
theorem okpX12_field_0 (ev : xEv) : ∀ q ∈ pX12_field_0 ev, xEnOK ev xmi yX12_field.cls yX12_field.name cX12_field 4 (some .int) q :=
  List.forall_mem_cons.mpr ⟨(xOK_pure (xs_aload_n (k := 0) rfl (show decode cX12_field 0 = .ok (.aload_n 0, 1) by decide +kernel))),
  List.forall_mem_cons.mpr ⟨(xOK_pure (xs_iconst (n := 0) (show decode cX12_field 1 = .ok (.iconst 0, 1) by decide +kernel) (by decide))),
  List.forall_mem_cons.mpr ⟨(xs_putf (k := 47) xcl_12 (by decide) rfl (show decode cX12_field 2 = .ok (.putfield 140, 3) by decide +kernel) xw_1756),
  List.forall_mem_cons.mpr ⟨(xOK_pure (xs_iload_n (k := 1) rfl (show decode cX12_field 5 = .ok (.iload_n 1, 1) by decide +kernel))),
  List.forall_mem_cons.mpr ⟨(xOK_pure (xs_iconst (n := 0) (show decode cX12_field 6 = .ok (.iconst 0, 1) by decide +kernel) (by decide))),
  List.forall_mem_cons.mpr ⟨(xOK_pure (xs_bipush (n := 99) (show decode cX12_field 7 = .ok (.bipush 99, 2) by decide +kernel) (by decide))),
  List.forall_mem_cons.mpr ⟨(xcm mi_188 ⟨⟨(by decide +kernel), (by decide +kernel), (by decide +kernel)⟩, (by decide), xw_1912, xw_125, Or.inr (Or.inl ⟨rfl, _, (show decode cX12_field 9 = .ok (.invokestatic 146, 3) by decide +kernel), xw_1910, xw_1911⟩)⟩),
  List.forall_mem_cons.mpr ⟨(xOK_pure (xs_if_eq (show decode cX12_field 12 = .ok (.ifCond .eq 22, 3) by decide +kernel) (by decide))),
  List.forall_mem_cons.mpr ⟨(xOK_pure (xs_iload_n (k := 3) rfl (show decode cX12_field 15 = .ok (.iload_n 3, 1) by decide +kernel))),
  List.forall_mem_cons.mpr ⟨(xOK_pure (xs_iconst (n := 0) (show decode cX12_field 16 = .ok (.iconst 0, 1) by decide +kernel) (by decide))),
  List.forall_mem_cons.mpr ⟨(xOK_pure (xs_bipush (n := 9) (show decode cX12_field 17 = .ok (.bipush 9, 2) by decide +kernel) (by decide))),
  List.forall_mem_cons.mpr ⟨(xcm mi_188 ⟨⟨(by decide +kernel), (by decide +kernel), (by decide +kernel)⟩, (by decide), xw_1912, xw_125, Or.inr (Or.inl ⟨rfl, _, (show decode cX12_field 19 = .ok (.invokestatic 146, 3) by decide +kernel), xw_1910, xw_1911⟩)⟩),
  List.forall_mem_cons.mpr ⟨(xOK_pure (xs_if_eq (show decode cX12_field 22 = .ok (.ifCond .eq 12, 3) by decide +kernel) (by decide))),
  List.forall_mem_cons.mpr ⟨(xOK_pure (xs_aload_n (k := 0) rfl (show decode cX12_field 25 = .ok (.aload_n 0, 1) by decide +kernel))),
  List.forall_mem_cons.mpr ⟨(xOK_pure (xs_getf xcl_12 (by decide) (show decode cX12_field 26 = .ok (.getfield 143, 3) by decide +kernel) xw_1710)),
  List.forall_mem_cons.mpr ⟨(xOK_pure (xs_bipush (n := 8) (show decode cX12_field 29 = .ok (.bipush 8, 2) by decide +kernel) (by decide))),
  List.forall_mem_cons.mpr ⟨(xOK_pure (xs_icmp_ne (show decode cX12_field 31 = .ok (.if_icmp .ne 5, 3) by decide +kernel) (by decide))),
  List.forall_mem_cons.mpr ⟨(xOK_pure (xs_iconst (n := (-1)) (show decode cX12_field 34 = .ok (.iconst (-1), 1) by decide +kernel) (by decide))),
  List.forall_mem_cons.mpr ⟨(Or.inr (Or.inl ⟨rfl, (show decode cX12_field 35 = .ok (.ireturn, 1) by decide +kernel), rfl⟩)),
  List.forall_mem_cons.mpr ⟨(xOK_pure (xs_aload_n (k := 0) rfl (show decode cX12_field 36 = .ok (.aload_n 0, 1) by decide +kernel))),
  (fun _ h => absurd h List.not_mem_nil)⟩⟩⟩⟩⟩⟩⟩⟩⟩⟩⟩⟩⟩⟩⟩⟩⟩⟩⟩⟩
def pX12_field_1 (ev : xEv) : List (Nat × xEn) := [(37, .inl (xop (xf_getf 12 0))), (40, .inl (xop (xf_aload 0 1))), (41, .inl (xop (xf_getf 12 1))), (44, .inl (xop (xf_iload 1 1))), (45, .inl (xo_ast (ev.1 0) (fun x => x))), (46, .inl (xop (xf_aload 0 1))), (47, .inl (xop (xf_getf 12 48))), (50, .inl (xop (xf_push (.int 3) 1))), (51, .inl (xop (xf_push (.int 2) 1))), (52, .inl (xop (xf_aload 0 1))), (53, .inl (xop (xf_getf 12 1))), (56, .inl (xop (xf_bin (fun x y => x * y)))), (57, .inl (xop (xf_bin (fun x y => x + y)))), (58, .inl (xop (xf_push (.int 0) 1))), (59, .inl (xop (xf_bin (fun x y => x + y)))), (60, .inl (xop (xf_iload 2 1))), (61, .inl (xop (xf_if_eq 68))), (64, .inl (xop (xf_push (.int 1) 1))), (65, .inl (xop (xf_goto 69))), (68, .inl (xop (xf_push (.int 0) 1)))]
set_option maxRecDepth 20000 in
theorem okpX12_field_1 (ev : xEv) : ∀ q ∈ pX12_field_1 ev, xEnOK ev xmi yX12_field.cls yX12_field.name cX12_field 4 (some .int) q :=
  List.forall_mem_cons.mpr ⟨(xOK_pure (xs_getf xcl_12 (by decide) (show decode cX12_field 37 = .ok (.getfield 9, 3) by decide +kernel) xw_1709)),
  List.forall_mem_cons.mpr ⟨(xOK_pure (xs_aload_n (k := 0) rfl (show decode cX12_field 40 = .ok (.aload_n 0, 1) by decide +kernel))),
  List.forall_mem_cons.mpr ⟨(xOK_pure (xs_getf xcl_12 (by decide) (show decode cX12_field 41 = .ok (.getfield 143, 3) by decide +kernel) xw_1710)),
  List.forall_mem_cons.mpr ⟨(xOK_pure (xs_iload_n (k := 1) rfl (show decode cX12_field 44 = .ok (.iload_n 1, 1) by decide +kernel))),
  List.forall_mem_cons.mpr ⟨(xs_iast (show decode cX12_field 45 = .ok (.iastore, 1) by decide +kernel)),
  List.forall_mem_cons.mpr ⟨(xOK_pure (xs_aload_n (k := 0) rfl (show decode cX12_field 46 = .ok (.aload_n 0, 1) by decide +kernel))),
  List.forall_mem_cons.mpr ⟨(xOK_pure (xs_getf xcl_12 (by decide) (show decode cX12_field 47 = .ok (.getfield 121, 3) by decide +kernel) xw_1757)),
  List.forall_mem_cons.mpr ⟨(xOK_pure (xs_iconst (n := 3) (show decode cX12_field 50 = .ok (.iconst 3, 1) by decide +kernel) (by decide))),
  List.forall_mem_cons.mpr ⟨(xOK_pure (xs_iconst (n := 2) (show decode cX12_field 51 = .ok (.iconst 2, 1) by decide +kernel) (by decide))),
  List.forall_mem_cons.mpr ⟨(xOK_pure (xs_aload_n (k := 0) rfl (show decode cX12_field 52 = .ok (.aload_n 0, 1) by decide +kernel))),
  List.forall_mem_cons.mpr ⟨(xOK_pure (xs_getf xcl_12 (by decide) (show decode cX12_field 53 = .ok (.getfield 143, 3) by decide +kernel) xw_1710)),
  List.forall_mem_cons.mpr ⟨(xOK_pure (xs_imul (show decode cX12_field 56 = .ok (.imul, 1) by decide +kernel))),
  List.forall_mem_cons.mpr ⟨(xOK_pure (xs_iadd (show decode cX12_field 57 = .ok (.iadd, 1) by decide +kernel))),
  List.forall_mem_cons.mpr ⟨(xOK_pure (xs_iconst (n := 0) (show decode cX12_field 58 = .ok (.iconst 0, 1) by decide +kernel) (by decide))),
  List.forall_mem_cons.mpr ⟨(xOK_pure (xs_iadd (show decode cX12_field 59 = .ok (.iadd, 1) by decide +kernel))),
  List.forall_mem_cons.mpr ⟨(xOK_pure (xs_iload_n (k := 2) rfl (show decode cX12_field 60 = .ok (.iload_n 2, 1) by decide +kernel))),
  List.forall_mem_cons.mpr ⟨(xOK_pure (xs_if_eq (show decode cX12_field 61 = .ok (.ifCond .eq 7, 3) by decide +kernel) (by decide))),
  List.forall_mem_cons.mpr ⟨(xOK_pure (xs_iconst (n := 1) (show decode cX12_field 64 = .ok (.iconst 1, 1) by decide +kernel) (by decide))),
  List.forall_mem_cons.mpr ⟨(xOK_pure (xs_goto (show decode cX12_field 65 = .ok (.goto 4, 3) by decide +kernel) (by decide))),
  List.forall_mem_cons.mpr ⟨(xOK_pure (xs_iconst (n := 0) (show decode cX12_field 68 = .ok (.iconst 0, 1) by decide +kernel) (by decide))),
  (fun _ h => absurd h List.not_mem_nil)⟩⟩⟩⟩⟩⟩⟩⟩⟩⟩⟩⟩⟩⟩⟩⟩⟩⟩⟩⟩
def pX12_field_2 (ev : xEv) : List (Nat × xEn) := [(69, .inl (xo_ast (ev.1 0) (fun x => x))), (70, .inl (xop (xf_aload 0 1))), (71, .inl (xop (xf_getf 12 48))), (74, .inl (xop (xf_push (.int 3) 1))), (75, .inl (xop (xf_push (.int 2) 1))), (76, .inl (xop (xf_aload 0 1))), (77, .inl (xop (xf_getf 12 1))), (80, .inl (xop (xf_bin (fun x y => x * y)))), (81, .inl (xop (xf_bin (fun x y => x + y)))), (82, .inl (xop (xf_push (.int 1) 1))), (83, .inl (xop (xf_bin (fun x y => x + y)))), (84, .inl (xop (xf_iload 3 1))), (85, .inl (xo_ast (ev.1 0) (fun x => x))), (86, .inl (xop (xf_aload 0 1))), (87, .inl (xop xf_dup)), (88, .inl (xop (xf_getf 12 1))), (91, .inl (xop (xf_push (.int 1) 1))), (92, .inl (xop (xf_bin (fun x y => x + y)))), (93, .inl (xo_putf 12 1 .int)), (96, .inl (xop (xf_aload 0 1)))]
set_option maxRecDepth 20000 in
theorem okpX12_field_2 (ev : xEv) : ∀ q ∈ pX12_field_2 ev, xEnOK ev xmi yX12_field.cls yX12_field.name cX12_field 4 (some .int) q :=
  List.forall_mem_cons.mpr ⟨(xs_iast (show decode cX12_field 69 = .ok (.iastore, 1) by decide +kernel)),
  List.forall_mem_cons.mpr ⟨(xOK_pure (xs_aload_n (k := 0) rfl (show decode cX12_field 70 = .ok (.aload_n 0, 1) by decide +kernel))),
  List.forall_mem_cons.mpr ⟨(xOK_pure (xs_getf xcl_12 (by decide) (show decode cX12_field 71 = .ok (.getfield 121, 3) by decide +kernel) xw_1757)),
  List.forall_mem_cons.mpr ⟨(xOK_pure (xs_iconst (n := 3) (show decode cX12_field 74 = .ok (.iconst 3, 1) by decide +kernel) (by decide))),
  List.forall_mem_cons.mpr ⟨(xOK_pure (xs_iconst (n := 2) (show decode cX12_field 75 = .ok (.iconst 2, 1) by decide +kernel) (by decide))),
  List.forall_mem_cons.mpr ⟨(xOK_pure (xs_aload_n (k := 0) rfl (show decode cX12_field 76 = .ok (.aload_n 0, 1) by decide +kernel))),
  List.forall_mem_cons.mpr ⟨(xOK_pure (xs_getf xcl_12 (by decide) (show decode cX12_field 77 = .ok (.getfield 143, 3) by decide +kernel) xw_1710)),
  List.forall_mem_cons.mpr ⟨(xOK_pure (xs_imul (show decode cX12_field 80 = .ok (.imul, 1) by decide +kernel))),
  List.forall_mem_cons.mpr ⟨(xOK_pure (xs_iadd (show decode cX12_field 81 = .ok (.iadd, 1) by decide +kernel))),
  List.forall_mem_cons.mpr ⟨(xOK_pure (xs_iconst (n := 1) (show decode cX12_field 82 = .ok (.iconst 1, 1) by decide +kernel) (by decide))),
  List.forall_mem_cons.mpr ⟨(xOK_pure (xs_iadd (show decode cX12_field 83 = .ok (.iadd, 1) by decide +kernel))),
  List.forall_mem_cons.mpr ⟨(xOK_pure (xs_iload_n (k := 3) rfl (show decode cX12_field 84 = .ok (.iload_n 3, 1) by decide +kernel))),
  List.forall_mem_cons.mpr ⟨(xs_iast (show decode cX12_field 85 = .ok (.iastore, 1) by decide +kernel)),
  List.forall_mem_cons.mpr ⟨(xOK_pure (xs_aload_n (k := 0) rfl (show decode cX12_field 86 = .ok (.aload_n 0, 1) by decide +kernel))),
  List.forall_mem_cons.mpr ⟨(xOK_pure (xs_dup (show decode cX12_field 87 = .ok (.dup, 1) by decide +kernel))),
  List.forall_mem_cons.mpr ⟨(xOK_pure (xs_getf xcl_12 (by decide) (show decode cX12_field 88 = .ok (.getfield 143, 3) by decide +kernel) xw_1710)),
  List.forall_mem_cons.mpr ⟨(xOK_pure (xs_iconst (n := 1) (show decode cX12_field 91 = .ok (.iconst 1, 1) by decide +kernel) (by decide))),
  List.forall_mem_cons.mpr ⟨(xOK_pure (xs_iadd (show decode cX12_field 92 = .ok (.iadd, 1) by decide +kernel))),
  List.forall_mem_cons.mpr ⟨(xs_putf (k := 1) xcl_12 (by decide) rfl (show decode cX12_field 93 = .ok (.putfield 143, 3) by decide +kernel) xw_1710),
  List.forall_mem_cons.mpr ⟨(xOK_pure (xs_aload_n (k := 0) rfl (show decode cX12_field 96 = .ok (.aload_n 0, 1) by decide +kernel))),
  (fun _ h => absurd h List.not_mem_nil)⟩⟩⟩⟩⟩⟩⟩⟩⟩⟩⟩⟩⟩⟩⟩⟩⟩⟩⟩⟩
def pX12_field_3 (ev : xEv) : List (Nat × xEn) := [(97, .inl (xop (xf_getf 12 1))), (100, .inl (xop (xf_push (.int 1) 1))), (101, .inl (xop (xf_bin (fun x y => x - y)))), (102, .inr (.inr 1))]
set_option maxRecDepth 20000 in
theorem okpX12_field_3 (ev : xEv) : ∀ q ∈ pX12_field_3 ev, xEnOK ev xmi yX12_field.cls yX12_field.name cX12_field 4 (some .int) q :=
  List.forall_mem_cons.mpr ⟨(xOK_pure (xs_getf xcl_12 (by decide) (show decode cX12_field 97 = .ok (.getfield 143, 3) by decide +kernel) xw_1710)),
  List.forall_mem_cons.mpr ⟨(xOK_pure (xs_iconst (n := 1) (show decode cX12_field 100 = .ok (.iconst 1, 1) by decide +kernel) (by decide))),
  List.forall_mem_cons.mpr ⟨(xOK_pure (xs_isub (show decode cX12_field 101 = .ok (.isub, 1) by decide +kernel))),
  List.forall_mem_cons.mpr ⟨(Or.inr (Or.inl ⟨rfl, (show decode cX12_field 102 = .ok (.ireturn, 1) by decide +kernel), rfl⟩)),
  (fun _ h => absurd h List.not_mem_nil)⟩⟩⟩⟩
def pX12_field (ev : xEv) : List (Nat × xEn) := pX12_field_0 ev ++ (pX12_field_1 ev ++ (pX12_field_2 ev ++ (pX12_field_3 ev)))
theorem okpX12_field (ev : xEv) : ∀ q ∈ pX12_field ev, xEnOK ev xmi yX12_field.cls yX12_field.name cX12_field 4 (some .int) q := List.forall_mem_append.mpr ⟨okpX12_field_0 ev, List.forall_mem_append.mpr ⟨okpX12_field_1 ev, List.forall_mem_append.mpr ⟨okpX12_field_2 ev, okpX12_field_3 ev⟩⟩⟩
theorem omX12_field (ev : xEv) : xMethOK ev xmi yX12_field.cls yX12_field.name 205 (pX12_field ev) := xMethOK.of mi_205 (by decide +kernel) (okpX12_field ev)
def pX12_lamp_0 (ev : xEv) : List (Nat × xEn) := [(0, .inl (xop (xf_aload 0 1))), (1, .inl (xop (xf_push (.int 0) 1))), (2, .inl (xo_putf 12 47 .int)), (5, .inl (xop (xf_aload 0 1))), (6, .inl (xop (xf_iload 1 1))), (7, .inr (.inl (0, 190, 1, 12))), (10, .inl (xop (xf_if_ne 15))), (13, .inl (xop (xf_push (.int 0) 1))), (14, .inr (.inr 4)), (15, .inl (xop (xf_aload 0 1))), (16, .inl (xop (xf_getf 12 48))), (19, .inl (xop (xf_push (.int 3) 1))), (20, .inl (xop (xf_push (.int 2) 1))), (21, .inl (xop (xf_iload 1 1))), (22, .inl (xop (xf_bin (fun x y => x * y)))), (23, .inl (xop (xf_bin (fun x y => x + y)))), (24, .inl (xop (xf_push (.int 0) 1))), (25, .inl (xop (xf_bin (fun x y => x + y)))), (26, .inl (xop (xf_iload 2 1))), (27, .inl (xop (xf_if_eq 34)))]
set_option maxRecDepth 20000 in
theorem okpX12_lamp_0 (ev : xEv) : ∀ q ∈ pX12_lamp_0 ev, xEnOK ev xmi yX12_lamp.cls yX12_lamp.name cX12_lamp 3 (some .boolean) q :=
  List.forall_mem_cons.mpr ⟨(xOK_pure (xs_aload_n (k := 0) rfl (show decode cX12_lamp 0 = .ok (.aload_n 0, 1) by decide +kernel))),
  List.forall_mem_cons.mpr ⟨(xOK_pure (xs_iconst (n := 0) (show decode cX12_lamp 1 = .ok (.iconst 0, 1) by decide +kernel) (by decide))),
  List.forall_mem_cons.mpr ⟨(xs_putf (k := 47) xcl_12 (by decide) rfl (show decode cX12_lamp 2 = .ok (.putfield 140, 3) by decide +kernel) xw_1756),
  List.forall_mem_cons.mpr ⟨(xOK_pure (xs_aload_n (k := 0) rfl (show decode cX12_lamp 5 = .ok (.aload_n 0, 1) by decide +kernel))),
  List.forall_mem_cons.mpr ⟨(xOK_pure (xs_iload_n (k := 1) rfl (show decode cX12_lamp 6 = .ok (.iload_n 1, 1) by decide +kernel))),
  List.forall_mem_cons.mpr ⟨(xcm mi_190 ⟨⟨(by decide +kernel), (by decide +kernel), (by decide +kernel)⟩, (by decide), xw_1920, xw_125, Or.inl ⟨rfl, _, _, _, _, (show decode cX12_lamp 7 = .ok (.invokevirtual 162, 3) by decide +kernel), xw_1917, xw_1919, xw_52, rfl⟩⟩),
  List.forall_mem_cons.mpr ⟨(xOK_pure (xs_if_ne (show decode cX12_lamp 10 = .ok (.ifCond .ne 5, 3) by decide +kernel) (by decide))),
  List.forall_mem_cons.mpr ⟨(xOK_pure (xs_iconst (n := 0) (show decode cX12_lamp 13 = .ok (.iconst 0, 1) by decide +kernel) (by decide))),
  List.forall_mem_cons.mpr ⟨(Or.inr (Or.inr (Or.inr (Or.inr (Or.inl ⟨rfl, (show decode cX12_lamp 14 = .ok (.ireturn, 1) by decide +kernel), rfl⟩))))),
  List.forall_mem_cons.mpr ⟨(xOK_pure (xs_aload_n (k := 0) rfl (show decode cX12_lamp 15 = .ok (.aload_n 0, 1) by decide +kernel))),
  List.forall_mem_cons.mpr ⟨(xOK_pure (xs_getf xcl_12 (by decide) (show decode cX12_lamp 16 = .ok (.getfield 121, 3) by decide +kernel) xw_1757)),
  List.forall_mem_cons.mpr ⟨(xOK_pure (xs_iconst (n := 3) (show decode cX12_lamp 19 = .ok (.iconst 3, 1) by decide +kernel) (by decide))),
  List.forall_mem_cons.mpr ⟨(xOK_pure (xs_iconst (n := 2) (show decode cX12_lamp 20 = .ok (.iconst 2, 1) by decide +kernel) (by decide))),
  List.forall_mem_cons.mpr ⟨(xOK_pure (xs_iload_n (k := 1) rfl (show decode cX12_lamp 21 = .ok (.iload_n 1, 1) by decide +kernel))),
  List.forall_mem_cons.mpr ⟨(xOK_pure (xs_imul (show decode cX12_lamp 22 = .ok (.imul, 1) by decide +kernel))),
  List.forall_mem_cons.mpr ⟨(xOK_pure (xs_iadd (show decode cX12_lamp 23 = .ok (.iadd, 1) by decide +kernel))),
  List.forall_mem_cons.mpr ⟨(xOK_pure (xs_iconst (n := 0) (show decode cX12_lamp 24 = .ok (.iconst 0, 1) by decide +kernel) (by decide))),
  List.forall_mem_cons.mpr ⟨(xOK_pure (xs_iadd (show decode cX12_lamp 25 = .ok (.iadd, 1) by decide +kernel))),
  List.forall_mem_cons.mpr ⟨(xOK_pure (xs_iload_n (k := 2) rfl (show decode cX12_lamp 26 = .ok (.iload_n 2, 1) by decide +kernel))),
  List.forall_mem_cons.mpr ⟨(xOK_pure (xs_if_eq (show decode cX12_lamp 27 = .ok (.ifCond .eq 7, 3) by decide +kernel) (by decide))),
  (fun _ h => absurd h List.not_mem_nil)⟩⟩⟩⟩⟩⟩⟩⟩⟩⟩⟩⟩⟩⟩⟩⟩⟩⟩⟩⟩
def pX12_lamp_1 (ev : xEv) : List (Nat × xEn) := [(30, .inl (xop (xf_push (.int 1) 1))), (31, .inl (xop (xf_goto 35))), (34, .inl (xop (xf_push (.int 0) 1))), (35, .inl (xo_ast (ev.1 0) (fun x => x))), (36, .inl (xop (xf_push (.int 1) 1))), (37, .inr (.inr 4))]
set_option maxRecDepth 20000 in
theorem okpX12_lamp_1 (ev : xEv) : ∀ q ∈ pX12_lamp_1 ev, xEnOK ev xmi yX12_lamp.cls yX12_lamp.name cX12_lamp 3 (some .boolean) q :=
  List.forall_mem_cons.mpr ⟨(xOK_pure (xs_iconst (n := 1) (show decode cX12_lamp 30 = .ok (.iconst 1, 1) by decide +kernel) (by decide))),
  List.forall_mem_cons.mpr ⟨(xOK_pure (xs_goto (show decode cX12_lamp 31 = .ok (.goto 4, 3) by decide +kernel) (by decide))),
  List.forall_mem_cons.mpr ⟨(xOK_pure (xs_iconst (n := 0) (show decode cX12_lamp 34 = .ok (.iconst 0, 1) by decide +kernel) (by decide))),
  List.forall_mem_cons.mpr ⟨(xs_iast (show decode cX12_lamp 35 = .ok (.iastore, 1) by decide +kernel)),
  List.forall_mem_cons.mpr ⟨(xOK_pure (xs_iconst (n := 1) (show decode cX12_lamp 36 = .ok (.iconst 1, 1) by decide +kernel) (by decide))),
  List.forall_mem_cons.mpr ⟨(Or.inr (Or.inr (Or.inr (Or.inr (Or.inl ⟨rfl, (show decode cX12_lamp 37 = .ok (.ireturn, 1) by decide +kernel), rfl⟩))))),
  (fun _ h => absurd h List.not_mem_nil)⟩⟩⟩⟩⟩⟩
def pX12_lamp (ev : xEv) : List (Nat × xEn) := pX12_lamp_0 ev ++ (pX12_lamp_1 ev)
theorem okpX12_lamp (ev : xEv) : ∀ q ∈ pX12_lamp ev, xEnOK ev xmi yX12_lamp.cls yX12_lamp.name cX12_lamp 3 (some .boolean) q := List.forall_mem_append.mpr ⟨okpX12_lamp_0 ev, okpX12_lamp_1 ev⟩
theorem omX12_lamp (ev : xEv) : xMethOK ev xmi yX12_lamp.cls yX12_lamp.name 206 (pX12_lamp ev) := xMethOK.of mi_206 (by decide +kernel) (okpX12_lamp ev)
def pX12_leg_0 (ev : xEv) : List (Nat × xEn) := [(0, .inl (xop (xf_aload 0 1))), (1, .inl (xop (xf_push (.int 0) 1))), (2, .inl (xo_putf 12 47 .int)), (5, .inl (xop (xf_aload 0 1))), (6, .inl (xop (xf_iload 1 1))), (7, .inr (.inl (0, 190, 1, 12))), (10, .inl (xop (xf_if_eq 59))), (13, .inl (xop (xf_aload 0 1))), (14, .inl (xop (xf_iload 2 1))), (15, .inr (.inl (0, 190, 1, 12))), (18, .inl (xop (xf_if_eq 59))), (21, .inl (xop (xf_iload 1 1))), (22, .inl (xop (xf_iload 2 1))), (23, .inl (xop (xf_icmp_eq 59))), (26, .inl (xop (xf_iload 3 1))), (27, .inl (xop (xf_push (.int 10) 2))), (29, .inl (xop (xf_push (.int 400) 3))), (32, .inr (.inl (1, 188, 3, 12))), (35, .inl (xop (xf_if_eq 59))), (38, .inl (xop (xf_iload 4 2)))]
set_option maxRecDepth 20000 in
theorem okpX12_leg_0 (ev : xEv) : ∀ q ∈ pX12_leg_0 ev, xEnOK ev xmi yX12_leg.cls yX12_leg.name cX12_leg 8 (some .int) q :=
  List.forall_mem_cons.mpr ⟨(xOK_pure (xs_aload_n (k := 0) rfl (show decode cX12_leg 0 = .ok (.aload_n 0, 1) by decide +kernel))),
  List.forall_mem_cons.mpr ⟨(xOK_pure (xs_iconst (n := 0) (show decode cX12_leg 1 = .ok (.iconst 0, 1) by decide +kernel) (by decide))),
  List.forall_mem_cons.mpr ⟨(xs_putf (k := 47) xcl_12 (by decide) rfl (show decode cX12_leg 2 = .ok (.putfield 140, 3) by decide +kernel) xw_1756),
  List.forall_mem_cons.mpr ⟨(xOK_pure (xs_aload_n (k := 0) rfl (show decode cX12_leg 5 = .ok (.aload_n 0, 1) by decide +kernel))),
  List.forall_mem_cons.mpr ⟨(xOK_pure (xs_iload_n (k := 1) rfl (show decode cX12_leg 6 = .ok (.iload_n 1, 1) by decide +kernel))),
  List.forall_mem_cons.mpr ⟨(xcm mi_190 ⟨⟨(by decide +kernel), (by decide +kernel), (by decide +kernel)⟩, (by decide), xw_1920, xw_125, Or.inl ⟨rfl, _, _, _, _, (show decode cX12_leg 7 = .ok (.invokevirtual 162, 3) by decide +kernel), xw_1917, xw_1919, xw_52, rfl⟩⟩),
  List.forall_mem_cons.mpr ⟨(xOK_pure (xs_if_eq (show decode cX12_leg 10 = .ok (.ifCond .eq 49, 3) by decide +kernel) (by decide))),
  List.forall_mem_cons.mpr ⟨(xOK_pure (xs_aload_n (k := 0) rfl (show decode cX12_leg 13 = .ok (.aload_n 0, 1) by decide +kernel))),
  List.forall_mem_cons.mpr ⟨(xOK_pure (xs_iload_n (k := 2) rfl (show decode cX12_leg 14 = .ok (.iload_n 2, 1) by decide +kernel))),
  List.forall_mem_cons.mpr ⟨(xcm mi_190 ⟨⟨(by decide +kernel), (by decide +kernel), (by decide +kernel)⟩, (by decide), xw_1920, xw_125, Or.inl ⟨rfl, _, _, _, _, (show decode cX12_leg 15 = .ok (.invokevirtual 162, 3) by decide +kernel), xw_1917, xw_1919, xw_52, rfl⟩⟩),
  List.forall_mem_cons.mpr ⟨(xOK_pure (xs_if_eq (show decode cX12_leg 18 = .ok (.ifCond .eq 41, 3) by decide +kernel) (by decide))),
  List.forall_mem_cons.mpr ⟨(xOK_pure (xs_iload_n (k := 1) rfl (show decode cX12_leg 21 = .ok (.iload_n 1, 1) by decide +kernel))),
  List.forall_mem_cons.mpr ⟨(xOK_pure (xs_iload_n (k := 2) rfl (show decode cX12_leg 22 = .ok (.iload_n 2, 1) by decide +kernel))),
  List.forall_mem_cons.mpr ⟨(xOK_pure (xs_icmp_eq (show decode cX12_leg 23 = .ok (.if_icmp .eq 36, 3) by decide +kernel) (by decide))),
  List.forall_mem_cons.mpr ⟨(xOK_pure (xs_iload_n (k := 3) rfl (show decode cX12_leg 26 = .ok (.iload_n 3, 1) by decide +kernel))),
  List.forall_mem_cons.mpr ⟨(xOK_pure (xs_bipush (n := 10) (show decode cX12_leg 27 = .ok (.bipush 10, 2) by decide +kernel) (by decide))),
  List.forall_mem_cons.mpr ⟨(xOK_pure (xs_sipush (n := 400) (show decode cX12_leg 29 = .ok (.sipush 400, 3) by decide +kernel) (by decide))),
  List.forall_mem_cons.mpr ⟨(xcm mi_188 ⟨⟨(by decide +kernel), (by decide +kernel), (by decide +kernel)⟩, (by decide), xw_1912, xw_125, Or.inr (Or.inl ⟨rfl, _, (show decode cX12_leg 32 = .ok (.invokestatic 146, 3) by decide +kernel), xw_1910, xw_1911⟩)⟩),
  List.forall_mem_cons.mpr ⟨(xOK_pure (xs_if_eq (show decode cX12_leg 35 = .ok (.ifCond .eq 24, 3) by decide +kernel) (by decide))),
  List.forall_mem_cons.mpr ⟨(xOK_pure (xs_iload (show decode cX12_leg 38 = .ok (.iload 4, 2) by decide +kernel))),
  (fun _ h => absurd h List.not_mem_nil)⟩⟩⟩⟩⟩⟩⟩⟩⟩⟩⟩⟩⟩⟩⟩⟩⟩⟩⟩⟩
def pX12_leg_1 (ev : xEv) : List (Nat × xEn) := [(40, .inl (xop (xf_push (.int 0) 1))), (41, .inl (xop (xf_push (.int 150) 3))), (44, .inr (.inl (1, 188, 3, 12))), (47, .inl (xop (xf_if_eq 59))), (50, .inl (xop (xf_aload 0 1))), (51, .inl (xop (xf_getf 12 9))), (54, .inl (xop (xf_push (.int 12) 2))), (56, .inl (xop (xf_icmp_ne 61))), (59, .inl (xop (xf_push (.int (-1)) 1))), (60, .inr (.inr 1)), (61, .inl (xop (xf_aload 0 1))), (62, .inl (xop (xf_getf 12 2))), (65, .inl (xop (xf_aload 0 1))), (66, .inl (xop (xf_getf 12 9))), (69, .inl (xop (xf_iload 1 1))), (70, .inl (xo_ast (ev.1 0) (fun x => x))), (71, .inl (xop (xf_aload 0 1))), (72, .inl (xop (xf_getf 12 3))), (75, .inl (xop (xf_aload 0 1))), (76, .inl (xop (xf_getf 12 9)))]
set_option maxRecDepth 20000 in
theorem okpX12_leg_1 (ev : xEv) : ∀ q ∈ pX12_leg_1 ev, xEnOK ev xmi yX12_leg.cls yX12_leg.name cX12_leg 8 (some .int) q :=
  List.forall_mem_cons.mpr ⟨(xOK_pure (xs_iconst (n := 0) (show decode cX12_leg 40 = .ok (.iconst 0, 1) by decide +kernel) (by decide))),
  List.forall_mem_cons.mpr ⟨(xOK_pure (xs_sipush (n := 150) (show decode cX12_leg 41 = .ok (.sipush 150, 3) by decide +kernel) (by decide))),
  List.forall_mem_cons.mpr ⟨(xcm mi_188 ⟨⟨(by decide +kernel), (by decide +kernel), (by decide +kernel)⟩, (by decide), xw_1912, xw_125, Or.inr (Or.inl ⟨rfl, _, (show decode cX12_leg 44 = .ok (.invokestatic 146, 3) by decide +kernel), xw_1910, xw_1911⟩)⟩),
  List.forall_mem_cons.mpr ⟨(xOK_pure (xs_if_eq (show decode cX12_leg 47 = .ok (.ifCond .eq 12, 3) by decide +kernel) (by decide))),
  List.forall_mem_cons.mpr ⟨(xOK_pure (xs_aload_n (k := 0) rfl (show decode cX12_leg 50 = .ok (.aload_n 0, 1) by decide +kernel))),
  List.forall_mem_cons.mpr ⟨(xOK_pure (xs_getf xcl_12 (by decide) (show decode cX12_leg 51 = .ok (.getfield 150, 3) by decide +kernel) xw_1718)),
  List.forall_mem_cons.mpr ⟨(xOK_pure (xs_bipush (n := 12) (show decode cX12_leg 54 = .ok (.bipush 12, 2) by decide +kernel) (by decide))),
  List.forall_mem_cons.mpr ⟨(xOK_pure (xs_icmp_ne (show decode cX12_leg 56 = .ok (.if_icmp .ne 5, 3) by decide +kernel) (by decide))),
  List.forall_mem_cons.mpr ⟨(xOK_pure (xs_iconst (n := (-1)) (show decode cX12_leg 59 = .ok (.iconst (-1), 1) by decide +kernel) (by decide))),
  List.forall_mem_cons.mpr ⟨(Or.inr (Or.inl ⟨rfl, (show decode cX12_leg 60 = .ok (.ireturn, 1) by decide +kernel), rfl⟩)),
  List.forall_mem_cons.mpr ⟨(xOK_pure (xs_aload_n (k := 0) rfl (show decode cX12_leg 61 = .ok (.aload_n 0, 1) by decide +kernel))),
  List.forall_mem_cons.mpr ⟨(xOK_pure (xs_getf xcl_12 (by decide) (show decode cX12_leg 62 = .ok (.getfield 13, 3) by decide +kernel) xw_1711)),
  List.forall_mem_cons.mpr ⟨(xOK_pure (xs_aload_n (k := 0) rfl (show decode cX12_leg 65 = .ok (.aload_n 0, 1) by decide +kernel))),
  List.forall_mem_cons.mpr ⟨(xOK_pure (xs_getf xcl_12 (by decide) (show decode cX12_leg 66 = .ok (.getfield 150, 3) by decide +kernel) xw_1718)),
  List.forall_mem_cons.mpr ⟨(xOK_pure (xs_iload_n (k := 1) rfl (show decode cX12_leg 69 = .ok (.iload_n 1, 1) by decide +kernel))),
  List.forall_mem_cons.mpr ⟨(xs_iast (show decode cX12_leg 70 = .ok (.iastore, 1) by decide +kernel)),
  List.forall_mem_cons.mpr ⟨(xOK_pure (xs_aload_n (k := 0) rfl (show decode cX12_leg 71 = .ok (.aload_n 0, 1) by decide +kernel))),
  List.forall_mem_cons.mpr ⟨(xOK_pure (xs_getf xcl_12 (by decide) (show decode cX12_leg 72 = .ok (.getfield 16, 3) by decide +kernel) xw_1712)),
  List.forall_mem_cons.mpr ⟨(xOK_pure (xs_aload_n (k := 0) rfl (show decode cX12_leg 75 = .ok (.aload_n 0, 1) by decide +kernel))),
  List.forall_mem_cons.mpr ⟨(xOK_pure (xs_getf xcl_12 (by decide) (show decode cX12_leg 76 = .ok (.getfield 150, 3) by decide +kernel) xw_1718)),
  (fun _ h => absurd h List.not_mem_nil)⟩⟩⟩⟩⟩⟩⟩⟩⟩⟩⟩⟩⟩⟩⟩⟩⟩⟩⟩⟩
def pX12_leg_2 (ev : xEv) : List (Nat × xEn) := [(79, .inl (xop (xf_iload 2 1))), (80, .inl (xo_ast (ev.1 0) (fun x => x))), (81, .inl (xop (xf_aload 0 1))), (82, .inl (xop (xf_getf 12 4))), (85, .inl (xop (xf_aload 0 1))), (86, .inl (xop (xf_getf 12 9))), (89, .inl (xop (xf_iload 3 1))), (90, .inl (xo_ast (ev.1 0) (fun x => x))), (91, .inl (xop (xf_aload 0 1))), (92, .inl (xop (xf_getf 12 5))), (95, .inl (xop (xf_aload 0 1))), (96, .inl (xop (xf_getf 12 9))), (99, .inl (xop (xf_iload 4 2))), (101, .inl (xo_ast (ev.1 0) (fun x => x))), (102, .inl (xop (xf_aload 0 1))), (103, .inl (xop (xf_getf 12 8))), (106, .inl (xop (xf_aload 0 1))), (107, .inl (xop (xf_getf 12 9))), (110, .inl (xop (xf_push (.int 0) 1))), (111, .inl (xo_ast (ev.1 0) (fun x => x)))]
set_option maxRecDepth 20000 in
theorem okpX12_leg_2 (ev : xEv) : ∀ q ∈ pX12_leg_2 ev, xEnOK ev xmi yX12_leg.cls yX12_leg.name cX12_leg 8 (some .int) q :=
  List.forall_mem_cons.mpr ⟨(xOK_pure (xs_iload_n (k := 2) rfl (show decode cX12_leg 79 = .ok (.iload_n 2, 1) by decide +kernel))),
  List.forall_mem_cons.mpr ⟨(xs_iast (show decode cX12_leg 80 = .ok (.iastore, 1) by decide +kernel)),
  List.forall_mem_cons.mpr ⟨(xOK_pure (xs_aload_n (k := 0) rfl (show decode cX12_leg 81 = .ok (.aload_n 0, 1) by decide +kernel))),
  List.forall_mem_cons.mpr ⟨(xOK_pure (xs_getf xcl_12 (by decide) (show decode cX12_leg 82 = .ok (.getfield 19, 3) by decide +kernel) xw_1713)),
  List.forall_mem_cons.mpr ⟨(xOK_pure (xs_aload_n (k := 0) rfl (show decode cX12_leg 85 = .ok (.aload_n 0, 1) by decide +kernel))),
  List.forall_mem_cons.mpr ⟨(xOK_pure (xs_getf xcl_12 (by decide) (show decode cX12_leg 86 = .ok (.getfield 150, 3) by decide +kernel) xw_1718)),
  List.forall_mem_cons.mpr ⟨(xOK_pure (xs_iload_n (k := 3) rfl (show decode cX12_leg 89 = .ok (.iload_n 3, 1) by decide +kernel))),
  List.forall_mem_cons.mpr ⟨(xs_iast (show decode cX12_leg 90 = .ok (.iastore, 1) by decide +kernel)),
  List.forall_mem_cons.mpr ⟨(xOK_pure (xs_aload_n (k := 0) rfl (show decode cX12_leg 91 = .ok (.aload_n 0, 1) by decide +kernel))),
  List.forall_mem_cons.mpr ⟨(xOK_pure (xs_getf xcl_12 (by decide) (show decode cX12_leg 92 = .ok (.getfield 22, 3) by decide +kernel) xw_1714)),
  List.forall_mem_cons.mpr ⟨(xOK_pure (xs_aload_n (k := 0) rfl (show decode cX12_leg 95 = .ok (.aload_n 0, 1) by decide +kernel))),
  List.forall_mem_cons.mpr ⟨(xOK_pure (xs_getf xcl_12 (by decide) (show decode cX12_leg 96 = .ok (.getfield 150, 3) by decide +kernel) xw_1718)),
  List.forall_mem_cons.mpr ⟨(xOK_pure (xs_iload (show decode cX12_leg 99 = .ok (.iload 4, 2) by decide +kernel))),
  List.forall_mem_cons.mpr ⟨(xs_iast (show decode cX12_leg 101 = .ok (.iastore, 1) by decide +kernel)),
  List.forall_mem_cons.mpr ⟨(xOK_pure (xs_aload_n (k := 0) rfl (show decode cX12_leg 102 = .ok (.aload_n 0, 1) by decide +kernel))),
  List.forall_mem_cons.mpr ⟨(xOK_pure (xs_getf xcl_12 (by decide) (show decode cX12_leg 103 = .ok (.getfield 31, 3) by decide +kernel) xw_1717)),
  List.forall_mem_cons.mpr ⟨(xOK_pure (xs_aload_n (k := 0) rfl (show decode cX12_leg 106 = .ok (.aload_n 0, 1) by decide +kernel))),
  List.forall_mem_cons.mpr ⟨(xOK_pure (xs_getf xcl_12 (by decide) (show decode cX12_leg 107 = .ok (.getfield 150, 3) by decide +kernel) xw_1718)),
  List.forall_mem_cons.mpr ⟨(xOK_pure (xs_iconst (n := 0) (show decode cX12_leg 110 = .ok (.iconst 0, 1) by decide +kernel) (by decide))),
  List.forall_mem_cons.mpr ⟨(xs_iast (show decode cX12_leg 111 = .ok (.iastore, 1) by decide +kernel)),
  (fun _ h => absurd h List.not_mem_nil)⟩⟩⟩⟩⟩⟩⟩⟩⟩⟩⟩⟩⟩⟩⟩⟩⟩⟩⟩⟩
def pX12_leg_3 (ev : xEv) : List (Nat × xEn) := [(112, .inl (xop (xf_aload 0 1))), (113, .inl (xop xf_dup)), (114, .inl (xop (xf_getf 12 9))), (117, .inl (xop (xf_push (.int 1) 1))), (118, .inl (xop (xf_bin (fun x y => x + y)))), (119, .inl (xo_putf 12 9 .int)), (122, .inl (xop (xf_push (.int 0) 1))), (123, .inl (xop (xf_istore 5 2))), (125, .inl (xop (xf_iload 5 2))), (127, .inl (xop (xf_push (.int 8) 2))), (129, .inl (xop (xf_icmp_ge 244))), (132, .inl (xop (xf_push (.int 0) 1))), (133, .inl (xop (xf_istore 6 2))), (135, .inl (xop (xf_iload 6 2))), (137, .inl (xop (xf_push (.int 8) 2))), (139, .inl (xop (xf_icmp_ge 238))), (142, .inl (xop (xf_aload 0 1))), (143, .inl (xop (xf_getf 12 10))), (146, .inl (xop (xf_push (.int 8) 2))), (148, .inl (xop (xf_iload 5 2)))]
set_option maxRecDepth 20000 in
theorem okpX12_leg_3 (ev : xEv) : ∀ q ∈ pX12_leg_3 ev, xEnOK ev xmi yX12_leg.cls yX12_leg.name cX12_leg 8 (some .int) q :=
  List.forall_mem_cons.mpr ⟨(xOK_pure (xs_aload_n (k := 0) rfl (show decode cX12_leg 112 = .ok (.aload_n 0, 1) by decide +kernel))),
  List.forall_mem_cons.mpr ⟨(xOK_pure (xs_dup (show decode cX12_leg 113 = .ok (.dup, 1) by decide +kernel))),
  List.forall_mem_cons.mpr ⟨(xOK_pure (xs_getf xcl_12 (by decide) (show decode cX12_leg 114 = .ok (.getfield 150, 3) by decide +kernel) xw_1718)),
  List.forall_mem_cons.mpr ⟨(xOK_pure (xs_iconst (n := 1) (show decode cX12_leg 117 = .ok (.iconst 1, 1) by decide +kernel) (by decide))),
  List.forall_mem_cons.mpr ⟨(xOK_pure (xs_iadd (show decode cX12_leg 118 = .ok (.iadd, 1) by decide +kernel))),
  List.forall_mem_cons.mpr ⟨(xs_putf (k := 9) xcl_12 (by decide) rfl (show decode cX12_leg 119 = .ok (.putfield 150, 3) by decide +kernel) xw_1718),
  List.forall_mem_cons.mpr ⟨(xOK_pure (xs_iconst (n := 0) (show decode cX12_leg 122 = .ok (.iconst 0, 1) by decide +kernel) (by decide))),
  List.forall_mem_cons.mpr ⟨(xOK_pure (xs_istore (show decode cX12_leg 123 = .ok (.istore 5, 2) by decide +kernel) (by decide))),
  List.forall_mem_cons.mpr ⟨(xOK_pure (xs_iload (show decode cX12_leg 125 = .ok (.iload 5, 2) by decide +kernel))),
  List.forall_mem_cons.mpr ⟨(xOK_pure (xs_bipush (n := 8) (show decode cX12_leg 127 = .ok (.bipush 8, 2) by decide +kernel) (by decide))),
  List.forall_mem_cons.mpr ⟨(xOK_pure (xs_icmp_ge (show decode cX12_leg 129 = .ok (.if_icmp .ge 115, 3) by decide +kernel) (by decide))),
  List.forall_mem_cons.mpr ⟨(xOK_pure (xs_iconst (n := 0) (show decode cX12_leg 132 = .ok (.iconst 0, 1) by decide +kernel) (by decide))),
  List.forall_mem_cons.mpr ⟨(xOK_pure (xs_istore (show decode cX12_leg 133 = .ok (.istore 6, 2) by decide +kernel) (by decide))),
  List.forall_mem_cons.mpr ⟨(xOK_pure (xs_iload (show decode cX12_leg 135 = .ok (.iload 6, 2) by decide +kernel))),
  List.forall_mem_cons.mpr ⟨(xOK_pure (xs_bipush (n := 8) (show decode cX12_leg 137 = .ok (.bipush 8, 2) by decide +kernel) (by decide))),
  List.forall_mem_cons.mpr ⟨(xOK_pure (xs_icmp_ge (show decode cX12_leg 139 = .ok (.if_icmp .ge 99, 3) by decide +kernel) (by decide))),
  List.forall_mem_cons.mpr ⟨(xOK_pure (xs_aload_n (k := 0) rfl (show decode cX12_leg 142 = .ok (.aload_n 0, 1) by decide +kernel))),
  List.forall_mem_cons.mpr ⟨(xOK_pure (xs_getf xcl_12 (by decide) (show decode cX12_leg 143 = .ok (.getfield 34, 3) by decide +kernel) xw_1719)),
  List.forall_mem_cons.mpr ⟨(xOK_pure (xs_bipush (n := 8) (show decode cX12_leg 146 = .ok (.bipush 8, 2) by decide +kernel) (by decide))),
  List.forall_mem_cons.mpr ⟨(xOK_pure (xs_iload (show decode cX12_leg 148 = .ok (.iload 5, 2) by decide +kernel))),
  (fun _ h => absurd h List.not_mem_nil)⟩⟩⟩⟩⟩⟩⟩⟩⟩⟩⟩⟩⟩⟩⟩⟩⟩⟩⟩⟩
def pX12_leg_4 (ev : xEv) : List (Nat × xEn) := [(150, .inl (xop (xf_bin (fun x y => x * y)))), (151, .inl (xop (xf_iload 1 1))), (152, .inl (xop (xf_bin (fun x y => x + y)))), (153, .inl (xop (xf_ald (ev.1 0)))), (154, .inl (xop (xf_aload 0 1))), (155, .inl (xop (xf_getf 12 10))), (158, .inl (xop (xf_push (.int 8) 2))), (160, .inl (xop (xf_iload 2 1))), (161, .inl (xop (xf_bin (fun x y => x * y)))), (162, .inl (xop (xf_iload 6 2))), (164, .inl (xop (xf_bin (fun x y => x + y)))), (165, .inl (xop (xf_ald (ev.1 0)))), (166, .inl (xop (xf_bin (fun x y => x + y)))), (167, .inl (xop (xf_aload 0 1))), (168, .inl (xop (xf_getf 12 10))), (171, .inl (xop (xf_push (.int 8) 2))), (173, .inl (xop (xf_iload 5 2))), (175, .inl (xop (xf_bin (fun x y => x * y)))), (176, .inl (xop (xf_iload 2 1))), (177, .inl (xop (xf_bin (fun x y => x + y))))]
set_option maxRecDepth 20000 in
theorem okpX12_leg_4 (ev : xEv) : ∀ q ∈ pX12_leg_4 ev, xEnOK ev xmi yX12_leg.cls yX12_leg.name cX12_leg 8 (some .int) q :=
  List.forall_mem_cons.mpr ⟨(xOK_pure (xs_imul (show decode cX12_leg 150 = .ok (.imul, 1) by decide +kernel))),
  List.forall_mem_cons.mpr ⟨(xOK_pure (xs_iload_n (k := 1) rfl (show decode cX12_leg 151 = .ok (.iload_n 1, 1) by decide +kernel))),
  List.forall_mem_cons.mpr ⟨(xOK_pure (xs_iadd (show decode cX12_leg 152 = .ok (.iadd, 1) by decide +kernel))),
  List.forall_mem_cons.mpr ⟨(xOK_pure (xs_iald (show decode cX12_leg 153 = .ok (.iaload, 1) by decide +kernel))),
  List.forall_mem_cons.mpr ⟨(xOK_pure (xs_aload_n (k := 0) rfl (show decode cX12_leg 154 = .ok (.aload_n 0, 1) by decide +kernel))),
  List.forall_mem_cons.mpr ⟨(xOK_pure (xs_getf xcl_12 (by decide) (show decode cX12_leg 155 = .ok (.getfield 34, 3) by decide +kernel) xw_1719)),
  List.forall_mem_cons.mpr ⟨(xOK_pure (xs_bipush (n := 8) (show decode cX12_leg 158 = .ok (.bipush 8, 2) by decide +kernel) (by decide))),
  List.forall_mem_cons.mpr ⟨(xOK_pure (xs_iload_n (k := 2) rfl (show decode cX12_leg 160 = .ok (.iload_n 2, 1) by decide +kernel))),
  List.forall_mem_cons.mpr ⟨(xOK_pure (xs_imul (show decode cX12_leg 161 = .ok (.imul, 1) by decide +kernel))),
  List.forall_mem_cons.mpr ⟨(xOK_pure (xs_iload (show decode cX12_leg 162 = .ok (.iload 6, 2) by decide +kernel))),
  List.forall_mem_cons.mpr ⟨(xOK_pure (xs_iadd (show decode cX12_leg 164 = .ok (.iadd, 1) by decide +kernel))),
  List.forall_mem_cons.mpr ⟨(xOK_pure (xs_iald (show decode cX12_leg 165 = .ok (.iaload, 1) by decide +kernel))),
  List.forall_mem_cons.mpr ⟨(xOK_pure (xs_iadd (show decode cX12_leg 166 = .ok (.iadd, 1) by decide +kernel))),
  List.forall_mem_cons.mpr ⟨(xOK_pure (xs_aload_n (k := 0) rfl (show decode cX12_leg 167 = .ok (.aload_n 0, 1) by decide +kernel))),
  List.forall_mem_cons.mpr ⟨(xOK_pure (xs_getf xcl_12 (by decide) (show decode cX12_leg 168 = .ok (.getfield 34, 3) by decide +kernel) xw_1719)),
  List.forall_mem_cons.mpr ⟨(xOK_pure (xs_bipush (n := 8) (show decode cX12_leg 171 = .ok (.bipush 8, 2) by decide +kernel) (by decide))),
  List.forall_mem_cons.mpr ⟨(xOK_pure (xs_iload (show decode cX12_leg 173 = .ok (.iload 5, 2) by decide +kernel))),
  List.forall_mem_cons.mpr ⟨(xOK_pure (xs_imul (show decode cX12_leg 175 = .ok (.imul, 1) by decide +kernel))),
  List.forall_mem_cons.mpr ⟨(xOK_pure (xs_iload_n (k := 2) rfl (show decode cX12_leg 176 = .ok (.iload_n 2, 1) by decide +kernel))),
  List.forall_mem_cons.mpr ⟨(xOK_pure (xs_iadd (show decode cX12_leg 177 = .ok (.iadd, 1) by decide +kernel))),
  (fun _ h => absurd h List.not_mem_nil)⟩⟩⟩⟩⟩⟩⟩⟩⟩⟩⟩⟩⟩⟩⟩⟩⟩⟩⟩⟩
def pX12_leg_5 (ev : xEv) : List (Nat × xEn) := [(178, .inl (xop (xf_ald (ev.1 0)))), (179, .inl (xop (xf_aload 0 1))), (180, .inl (xop (xf_getf 12 10))), (183, .inl (xop (xf_push (.int 8) 2))), (185, .inl (xop (xf_iload 1 1))), (186, .inl (xop (xf_bin (fun x y => x * y)))), (187, .inl (xop (xf_iload 6 2))), (189, .inl (xop (xf_bin (fun x y => x + y)))), (190, .inl (xop (xf_ald (ev.1 0)))), (191, .inl (xop (xf_bin (fun x y => x + y)))), (192, .inl (xop (xf_m2 (fun x y => if y < x then y else x)))), (195, .inl (xop (xf_iload 3 1))), (196, .inl (xop (xf_bin (fun x y => x + y)))), (197, .inl (xop (xf_istore 7 2))), (199, .inl (xop (xf_iload 7 2))), (201, .inl (xop (xf_aload 0 1))), (202, .inl (xop (xf_getf 12 10))), (205, .inl (xop (xf_push (.int 8) 2))), (207, .inl (xop (xf_iload 5 2))), (209, .inl (xop (xf_bin (fun x y => x * y))))]
set_option maxRecDepth 20000 in
theorem okpX12_leg_5 (ev : xEv) : ∀ q ∈ pX12_leg_5 ev, xEnOK ev xmi yX12_leg.cls yX12_leg.name cX12_leg 8 (some .int) q :=
  List.forall_mem_cons.mpr ⟨(xOK_pure (xs_iald (show decode cX12_leg 178 = .ok (.iaload, 1) by decide +kernel))),
  List.forall_mem_cons.mpr ⟨(xOK_pure (xs_aload_n (k := 0) rfl (show decode cX12_leg 179 = .ok (.aload_n 0, 1) by decide +kernel))),
  List.forall_mem_cons.mpr ⟨(xOK_pure (xs_getf xcl_12 (by decide) (show decode cX12_leg 180 = .ok (.getfield 34, 3) by decide +kernel) xw_1719)),
  List.forall_mem_cons.mpr ⟨(xOK_pure (xs_bipush (n := 8) (show decode cX12_leg 183 = .ok (.bipush 8, 2) by decide +kernel) (by decide))),
  List.forall_mem_cons.mpr ⟨(xOK_pure (xs_iload_n (k := 1) rfl (show decode cX12_leg 185 = .ok (.iload_n 1, 1) by decide +kernel))),
  List.forall_mem_cons.mpr ⟨(xOK_pure (xs_imul (show decode cX12_leg 186 = .ok (.imul, 1) by decide +kernel))),
  List.forall_mem_cons.mpr ⟨(xOK_pure (xs_iload (show decode cX12_leg 187 = .ok (.iload 6, 2) by decide +kernel))),
  List.forall_mem_cons.mpr ⟨(xOK_pure (xs_iadd (show decode cX12_leg 189 = .ok (.iadd, 1) by decide +kernel))),
  List.forall_mem_cons.mpr ⟨(xOK_pure (xs_iald (show decode cX12_leg 190 = .ok (.iaload, 1) by decide +kernel))),
  List.forall_mem_cons.mpr ⟨(xOK_pure (xs_iadd (show decode cX12_leg 191 = .ok (.iadd, 1) by decide +kernel))),
  List.forall_mem_cons.mpr ⟨(xOK_pure (xs_mmin (show decode cX12_leg 192 = .ok (.invokestatic 166, 3) by decide +kernel) xw_1925 xw_541 xw_127 xw_542)),
  List.forall_mem_cons.mpr ⟨(xOK_pure (xs_iload_n (k := 3) rfl (show decode cX12_leg 195 = .ok (.iload_n 3, 1) by decide +kernel))),
  List.forall_mem_cons.mpr ⟨(xOK_pure (xs_iadd (show decode cX12_leg 196 = .ok (.iadd, 1) by decide +kernel))),
  List.forall_mem_cons.mpr ⟨(xOK_pure (xs_istore (show decode cX12_leg 197 = .ok (.istore 7, 2) by decide +kernel) (by decide))),
  List.forall_mem_cons.mpr ⟨(xOK_pure (xs_iload (show decode cX12_leg 199 = .ok (.iload 7, 2) by decide +kernel))),
  List.forall_mem_cons.mpr ⟨(xOK_pure (xs_aload_n (k := 0) rfl (show decode cX12_leg 201 = .ok (.aload_n 0, 1) by decide +kernel))),
  List.forall_mem_cons.mpr ⟨(xOK_pure (xs_getf xcl_12 (by decide) (show decode cX12_leg 202 = .ok (.getfield 34, 3) by decide +kernel) xw_1719)),
  List.forall_mem_cons.mpr ⟨(xOK_pure (xs_bipush (n := 8) (show decode cX12_leg 205 = .ok (.bipush 8, 2) by decide +kernel) (by decide))),
  List.forall_mem_cons.mpr ⟨(xOK_pure (xs_iload (show decode cX12_leg 207 = .ok (.iload 5, 2) by decide +kernel))),
  List.forall_mem_cons.mpr ⟨(xOK_pure (xs_imul (show decode cX12_leg 209 = .ok (.imul, 1) by decide +kernel))),
  (fun _ h => absurd h List.not_mem_nil)⟩⟩⟩⟩⟩⟩⟩⟩⟩⟩⟩⟩⟩⟩⟩⟩⟩⟩⟩⟩
def pX12_leg_6 (ev : xEv) : List (Nat × xEn) := [(210, .inl (xop (xf_iload 6 2))), (212, .inl (xop (xf_bin (fun x y => x + y)))), (213, .inl (xop (xf_ald (ev.1 0)))), (214, .inl (xop (xf_icmp_ge 232))), (217, .inl (xop (xf_aload 0 1))), (218, .inl (xop (xf_getf 12 10))), (221, .inl (xop (xf_push (.int 8) 2))), (223, .inl (xop (xf_iload 5 2))), (225, .inl (xop (xf_bin (fun x y => x * y)))), (226, .inl (xop (xf_iload 6 2))), (228, .inl (xop (xf_bin (fun x y => x + y)))), (229, .inl (xop (xf_iload 7 2))), (231, .inl (xo_ast (ev.1 0) (fun x => x))), (232, .inl (xop (xf_iinc 6 1))), (235, .inl (xop (xf_goto 135))), (238, .inl (xop (xf_iinc 5 1))), (241, .inl (xop (xf_goto 125))), (244, .inl (xop (xf_aload 0 1))), (245, .inl (xop (xf_getf 12 9))), (248, .inl (xop (xf_push (.int 1) 1)))]
set_option maxRecDepth 20000 in
theorem okpX12_leg_6 (ev : xEv) : ∀ q ∈ pX12_leg_6 ev, xEnOK ev xmi yX12_leg.cls yX12_leg.name cX12_leg 8 (some .int) q :=
  List.forall_mem_cons.mpr ⟨(xOK_pure (xs_iload (show decode cX12_leg 210 = .ok (.iload 6, 2) by decide +kernel))),
  List.forall_mem_cons.mpr ⟨(xOK_pure (xs_iadd (show decode cX12_leg 212 = .ok (.iadd, 1) by decide +kernel))),
  List.forall_mem_cons.mpr ⟨(xOK_pure (xs_iald (show decode cX12_leg 213 = .ok (.iaload, 1) by decide +kernel))),
  List.forall_mem_cons.mpr ⟨(xOK_pure (xs_icmp_ge (show decode cX12_leg 214 = .ok (.if_icmp .ge 18, 3) by decide +kernel) (by decide))),
  List.forall_mem_cons.mpr ⟨(xOK_pure (xs_aload_n (k := 0) rfl (show decode cX12_leg 217 = .ok (.aload_n 0, 1) by decide +kernel))),
  List.forall_mem_cons.mpr ⟨(xOK_pure (xs_getf xcl_12 (by decide) (show decode cX12_leg 218 = .ok (.getfield 34, 3) by decide +kernel) xw_1719)),
  List.forall_mem_cons.mpr ⟨(xOK_pure (xs_bipush (n := 8) (show decode cX12_leg 221 = .ok (.bipush 8, 2) by decide +kernel) (by decide))),
  List.forall_mem_cons.mpr ⟨(xOK_pure (xs_iload (show decode cX12_leg 223 = .ok (.iload 5, 2) by decide +kernel))),
  List.forall_mem_cons.mpr ⟨(xOK_pure (xs_imul (show decode cX12_leg 225 = .ok (.imul, 1) by decide +kernel))),
  List.forall_mem_cons.mpr ⟨(xOK_pure (xs_iload (show decode cX12_leg 226 = .ok (.iload 6, 2) by decide +kernel))),
  List.forall_mem_cons.mpr ⟨(xOK_pure (xs_iadd (show decode cX12_leg 228 = .ok (.iadd, 1) by decide +kernel))),
  List.forall_mem_cons.mpr ⟨(xOK_pure (xs_iload (show decode cX12_leg 229 = .ok (.iload 7, 2) by decide +kernel))),
  List.forall_mem_cons.mpr ⟨(xs_iast (show decode cX12_leg 231 = .ok (.iastore, 1) by decide +kernel)),
  List.forall_mem_cons.mpr ⟨(xOK_pure (xs_iinc (n := 1) (show decode cX12_leg 232 = .ok (.iinc 6 1, 3) by decide +kernel) (by decide) (by decide))),
  List.forall_mem_cons.mpr ⟨(xOK_pure (xs_goto (show decode cX12_leg 235 = .ok (.goto (-100), 3) by decide +kernel) (by decide))),
  List.forall_mem_cons.mpr ⟨(xOK_pure (xs_iinc (n := 1) (show decode cX12_leg 238 = .ok (.iinc 5 1, 3) by decide +kernel) (by decide) (by decide))),
  List.forall_mem_cons.mpr ⟨(xOK_pure (xs_goto (show decode cX12_leg 241 = .ok (.goto (-116), 3) by decide +kernel) (by decide))),
  List.forall_mem_cons.mpr ⟨(xOK_pure (xs_aload_n (k := 0) rfl (show decode cX12_leg 244 = .ok (.aload_n 0, 1) by decide +kernel))),
  List.forall_mem_cons.mpr ⟨(xOK_pure (xs_getf xcl_12 (by decide) (show decode cX12_leg 245 = .ok (.getfield 150, 3) by decide +kernel) xw_1718)),
  List.forall_mem_cons.mpr ⟨(xOK_pure (xs_iconst (n := 1) (show decode cX12_leg 248 = .ok (.iconst 1, 1) by decide +kernel) (by decide))),
  (fun _ h => absurd h List.not_mem_nil)⟩⟩⟩⟩⟩⟩⟩⟩⟩⟩⟩⟩⟩⟩⟩⟩⟩⟩⟩⟩
def pX12_leg_7 (ev : xEv) : List (Nat × xEn) := [(249, .inl (xop (xf_bin (fun x y => x - y)))), (250, .inr (.inr 1))]
set_option maxRecDepth 20000 in
theorem okpX12_leg_7 (ev : xEv) : ∀ q ∈ pX12_leg_7 ev, xEnOK ev xmi yX12_leg.cls yX12_leg.name cX12_leg 8 (some .int) q :=
  List.forall_mem_cons.mpr ⟨(xOK_pure (xs_isub (show decode cX12_leg 249 = .ok (.isub, 1) by decide +kernel))),
  List.forall_mem_cons.mpr ⟨(Or.inr (Or.inl ⟨rfl, (show decode cX12_leg 250 = .ok (.ireturn, 1) by decide +kernel), rfl⟩)),
  (fun _ h => absurd h List.not_mem_nil)⟩⟩
def pX12_leg (ev : xEv) : List (Nat × xEn) := pX12_leg_0 ev ++ (pX12_leg_1 ev ++ (pX12_leg_2 ev ++ (pX12_leg_3 ev ++ (pX12_leg_4 ev ++ (pX12_leg_5 ev ++ (pX12_leg_6 ev ++ (pX12_leg_7 ev)))))))
theorem okpX12_leg (ev : xEv) : ∀ q ∈ pX12_leg ev, xEnOK ev xmi yX12_leg.cls yX12_leg.name cX12_leg 8 (some .int) q := List.forall_mem_append.mpr ⟨okpX12_leg_0 ev, List.forall_mem_append.mpr ⟨okpX12_leg_1 ev, List.forall_mem_append.mpr ⟨okpX12_leg_2 ev, List.forall_mem_append.mpr ⟨okpX12_leg_3 ev, List.forall_mem_append.mpr ⟨okpX12_leg_4 ev, List.forall_mem_append.mpr ⟨okpX12_leg_5 ev, List.forall_mem_append.mpr ⟨okpX12_leg_6 ev, okpX12_leg_7 ev⟩⟩⟩⟩⟩⟩⟩
theorem omX12_leg (ev : xEv) : xMethOK ev xmi yX12_leg.cls yX12_leg.name 207 (pX12_leg ev) := xMethOK.of mi_207 (by decide +kernel) (okpX12_leg ev)
def pX12_ground_0 (ev : xEv) : List (Nat × xEn) := [(0, .inl (xop (xf_aload 0 1))), (1, .inl (xop (xf_push (.int 0) 1))), (2, .inl (xo_putf 12 47 .int)), (5, .inl (xop (xf_aload 0 1))), (6, .inl (xop (xf_iload 1 1))), (7, .inr (.inl (0, 191, 1, 12))), (10, .inl (xop (xf_if_eq 48))), (13, .inl (xop (xf_iload 2 1))), (14, .inl (xop (xf_push (.int 1) 1))), (15, .inl (xop (xf_aload 0 1))), (16, .inl (xop (xf_getf 12 4))), (19, .inl (xop (xf_iload 1 1))), (20, .inl (xop (xf_ald (ev.1 0)))), (21, .inl (xop (xf_push (.int 1) 1))), (22, .inl (xop (xf_bin (fun x y => x - y)))), (23, .inr (.inl (1, 188, 3, 12))), (26, .inl (xop (xf_if_eq 48))), (29, .inl (xop (xf_iload 3 1))), (30, .inl (xop (xf_push (.int 0) 1))), (31, .inl (xop (xf_push (.int 3) 1)))]
set_option maxRecDepth 20000 in
theorem okpX12_ground_0 (ev : xEv) : ∀ q ∈ pX12_ground_0 ev, xEnOK ev xmi yX12_ground.cls yX12_ground.name cX12_ground 4 (some .int) q :=
  List.forall_mem_cons.mpr ⟨(xOK_pure (xs_aload_n (k := 0) rfl (show decode cX12_ground 0 = .ok (.aload_n 0, 1) by decide +kernel))),
  List.forall_mem_cons.mpr ⟨(xOK_pure (xs_iconst (n := 0) (show decode cX12_ground 1 = .ok (.iconst 0, 1) by decide +kernel) (by decide))),
  List.forall_mem_cons.mpr ⟨(xs_putf (k := 47) xcl_12 (by decide) rfl (show decode cX12_ground 2 = .ok (.putfield 140, 3) by decide +kernel) xw_1756),
  List.forall_mem_cons.mpr ⟨(xOK_pure (xs_aload_n (k := 0) rfl (show decode cX12_ground 5 = .ok (.aload_n 0, 1) by decide +kernel))),
  List.forall_mem_cons.mpr ⟨(xOK_pure (xs_iload_n (k := 1) rfl (show decode cX12_ground 6 = .ok (.iload_n 1, 1) by decide +kernel))),
  List.forall_mem_cons.mpr ⟨(xcm mi_191 ⟨⟨(by decide +kernel), (by decide +kernel), (by decide +kernel)⟩, (by decide), xw_1933, xw_125, Or.inl ⟨rfl, _, _, _, _, (show decode cX12_ground 7 = .ok (.invokevirtual 172, 3) by decide +kernel), xw_1930, xw_1932, xw_53, rfl⟩⟩),
  List.forall_mem_cons.mpr ⟨(xOK_pure (xs_if_eq (show decode cX12_ground 10 = .ok (.ifCond .eq 38, 3) by decide +kernel) (by decide))),
  List.forall_mem_cons.mpr ⟨(xOK_pure (xs_iload_n (k := 2) rfl (show decode cX12_ground 13 = .ok (.iload_n 2, 1) by decide +kernel))),
  List.forall_mem_cons.mpr ⟨(xOK_pure (xs_iconst (n := 1) (show decode cX12_ground 14 = .ok (.iconst 1, 1) by decide +kernel) (by decide))),
  List.forall_mem_cons.mpr ⟨(xOK_pure (xs_aload_n (k := 0) rfl (show decode cX12_ground 15 = .ok (.aload_n 0, 1) by decide +kernel))),
  List.forall_mem_cons.mpr ⟨(xOK_pure (xs_getf xcl_12 (by decide) (show decode cX12_ground 16 = .ok (.getfield 19, 3) by decide +kernel) xw_1713)),
  List.forall_mem_cons.mpr ⟨(xOK_pure (xs_iload_n (k := 1) rfl (show decode cX12_ground 19 = .ok (.iload_n 1, 1) by decide +kernel))),
  List.forall_mem_cons.mpr ⟨(xOK_pure (xs_iald (show decode cX12_ground 20 = .ok (.iaload, 1) by decide +kernel))),
  List.forall_mem_cons.mpr ⟨(xOK_pure (xs_iconst (n := 1) (show decode cX12_ground 21 = .ok (.iconst 1, 1) by decide +kernel) (by decide))),
  List.forall_mem_cons.mpr ⟨(xOK_pure (xs_isub (show decode cX12_ground 22 = .ok (.isub, 1) by decide +kernel))),
  List.forall_mem_cons.mpr ⟨(xcm mi_188 ⟨⟨(by decide +kernel), (by decide +kernel), (by decide +kernel)⟩, (by decide), xw_1912, xw_125, Or.inr (Or.inl ⟨rfl, _, (show decode cX12_ground 23 = .ok (.invokestatic 146, 3) by decide +kernel), xw_1910, xw_1911⟩)⟩),
  List.forall_mem_cons.mpr ⟨(xOK_pure (xs_if_eq (show decode cX12_ground 26 = .ok (.ifCond .eq 22, 3) by decide +kernel) (by decide))),
  List.forall_mem_cons.mpr ⟨(xOK_pure (xs_iload_n (k := 3) rfl (show decode cX12_ground 29 = .ok (.iload_n 3, 1) by decide +kernel))),
  List.forall_mem_cons.mpr ⟨(xOK_pure (xs_iconst (n := 0) (show decode cX12_ground 30 = .ok (.iconst 0, 1) by decide +kernel) (by decide))),
  List.forall_mem_cons.mpr ⟨(xOK_pure (xs_iconst (n := 3) (show decode cX12_ground 31 = .ok (.iconst 3, 1) by decide +kernel) (by decide))),
  (fun _ h => absurd h List.not_mem_nil)⟩⟩⟩⟩⟩⟩⟩⟩⟩⟩⟩⟩⟩⟩⟩⟩⟩⟩⟩⟩
def pX12_ground_1 (ev : xEv) : List (Nat × xEn) := [(32, .inr (.inl (1, 188, 3, 12))), (35, .inl (xop (xf_if_eq 48))), (38, .inl (xop (xf_aload 0 1))), (39, .inl (xop (xf_getf 12 8))), (42, .inl (xop (xf_iload 1 1))), (43, .inl (xop (xf_ald (ev.1 0)))), (44, .inl (xop (xf_push (.int 4) 1))), (45, .inl (xop (xf_icmp_ne 50))), (48, .inl (xop (xf_push (.int (-1)) 1))), (49, .inr (.inr 1)), (50, .inl (xop (xf_aload 0 1))), (51, .inl (xop (xf_getf 12 6))), (54, .inl (xop (xf_push (.int 4) 1))), (55, .inl (xop (xf_iload 1 1))), (56, .inl (xop (xf_bin (fun x y => x * y)))), (57, .inl (xop (xf_aload 0 1))), (58, .inl (xop (xf_getf 12 8))), (61, .inl (xop (xf_iload 1 1))), (62, .inl (xop (xf_ald (ev.1 0)))), (63, .inl (xop (xf_bin (fun x y => x + y))))]
set_option maxRecDepth 20000 in
theorem okpX12_ground_1 (ev : xEv) : ∀ q ∈ pX12_ground_1 ev, xEnOK ev xmi yX12_ground.cls yX12_ground.name cX12_ground 4 (some .int) q :=
  List.forall_mem_cons.mpr ⟨(xcm mi_188 ⟨⟨(by decide +kernel), (by decide +kernel), (by decide +kernel)⟩, (by decide), xw_1912, xw_125, Or.inr (Or.inl ⟨rfl, _, (show decode cX12_ground 32 = .ok (.invokestatic 146, 3) by decide +kernel), xw_1910, xw_1911⟩)⟩),
  List.forall_mem_cons.mpr ⟨(xOK_pure (xs_if_eq (show decode cX12_ground 35 = .ok (.ifCond .eq 13, 3) by decide +kernel) (by decide))),
  List.forall_mem_cons.mpr ⟨(xOK_pure (xs_aload_n (k := 0) rfl (show decode cX12_ground 38 = .ok (.aload_n 0, 1) by decide +kernel))),
  List.forall_mem_cons.mpr ⟨(xOK_pure (xs_getf xcl_12 (by decide) (show decode cX12_ground 39 = .ok (.getfield 31, 3) by decide +kernel) xw_1717)),
  List.forall_mem_cons.mpr ⟨(xOK_pure (xs_iload_n (k := 1) rfl (show decode cX12_ground 42 = .ok (.iload_n 1, 1) by decide +kernel))),
  List.forall_mem_cons.mpr ⟨(xOK_pure (xs_iald (show decode cX12_ground 43 = .ok (.iaload, 1) by decide +kernel))),
  List.forall_mem_cons.mpr ⟨(xOK_pure (xs_iconst (n := 4) (show decode cX12_ground 44 = .ok (.iconst 4, 1) by decide +kernel) (by decide))),
  List.forall_mem_cons.mpr ⟨(xOK_pure (xs_icmp_ne (show decode cX12_ground 45 = .ok (.if_icmp .ne 5, 3) by decide +kernel) (by decide))),
  List.forall_mem_cons.mpr ⟨(xOK_pure (xs_iconst (n := (-1)) (show decode cX12_ground 48 = .ok (.iconst (-1), 1) by decide +kernel) (by decide))),
  List.forall_mem_cons.mpr ⟨(Or.inr (Or.inl ⟨rfl, (show decode cX12_ground 49 = .ok (.ireturn, 1) by decide +kernel), rfl⟩)),
  List.forall_mem_cons.mpr ⟨(xOK_pure (xs_aload_n (k := 0) rfl (show decode cX12_ground 50 = .ok (.aload_n 0, 1) by decide +kernel))),
  List.forall_mem_cons.mpr ⟨(xOK_pure (xs_getf xcl_12 (by decide) (show decode cX12_ground 51 = .ok (.getfield 25, 3) by decide +kernel) xw_1715)),
  List.forall_mem_cons.mpr ⟨(xOK_pure (xs_iconst (n := 4) (show decode cX12_ground 54 = .ok (.iconst 4, 1) by decide +kernel) (by decide))),
  List.forall_mem_cons.mpr ⟨(xOK_pure (xs_iload_n (k := 1) rfl (show decode cX12_ground 55 = .ok (.iload_n 1, 1) by decide +kernel))),
  List.forall_mem_cons.mpr ⟨(xOK_pure (xs_imul (show decode cX12_ground 56 = .ok (.imul, 1) by decide +kernel))),
  List.forall_mem_cons.mpr ⟨(xOK_pure (xs_aload_n (k := 0) rfl (show decode cX12_ground 57 = .ok (.aload_n 0, 1) by decide +kernel))),
  List.forall_mem_cons.mpr ⟨(xOK_pure (xs_getf xcl_12 (by decide) (show decode cX12_ground 58 = .ok (.getfield 31, 3) by decide +kernel) xw_1717)),
  List.forall_mem_cons.mpr ⟨(xOK_pure (xs_iload_n (k := 1) rfl (show decode cX12_ground 61 = .ok (.iload_n 1, 1) by decide +kernel))),
  List.forall_mem_cons.mpr ⟨(xOK_pure (xs_iald (show decode cX12_ground 62 = .ok (.iaload, 1) by decide +kernel))),
  List.forall_mem_cons.mpr ⟨(xOK_pure (xs_iadd (show decode cX12_ground 63 = .ok (.iadd, 1) by decide +kernel))),
  (fun _ h => absurd h List.not_mem_nil)⟩⟩⟩⟩⟩⟩⟩⟩⟩⟩⟩⟩⟩⟩⟩⟩⟩⟩⟩⟩
def pX12_ground_2 (ev : xEv) : List (Nat × xEn) := [(64, .inl (xop (xf_iload 2 1))), (65, .inl (xo_ast (ev.1 0) (fun x => x))), (66, .inl (xop (xf_aload 0 1))), (67, .inl (xop (xf_getf 12 7))), (70, .inl (xop (xf_push (.int 4) 1))), (71, .inl (xop (xf_iload 1 1))), (72, .inl (xop (xf_bin (fun x y => x * y)))), (73, .inl (xop (xf_aload 0 1))), (74, .inl (xop (xf_getf 12 8))), (77, .inl (xop (xf_iload 1 1))), (78, .inl (xop (xf_ald (ev.1 0)))), (79, .inl (xop (xf_bin (fun x y => x + y)))), (80, .inl (xop (xf_iload 3 1))), (81, .inl (xo_ast (ev.1 0) (fun x => x))), (82, .inl (xop (xf_aload 0 1))), (83, .inl (xop (xf_getf 12 8))), (86, .inl (xop (xf_iload 1 1))), (87, .inl (xop xf_dup2)), (88, .inl (xop (xf_ald (ev.1 0)))), (89, .inl (xop (xf_push (.int 1) 1)))]
set_option maxRecDepth 20000 in
theorem okpX12_ground_2 (ev : xEv) : ∀ q ∈ pX12_ground_2 ev, xEnOK ev xmi yX12_ground.cls yX12_ground.name cX12_ground 4 (some .int) q :=
  List.forall_mem_cons.mpr ⟨(xOK_pure (xs_iload_n (k := 2) rfl (show decode cX12_ground 64 = .ok (.iload_n 2, 1) by decide +kernel))),
  List.forall_mem_cons.mpr ⟨(xs_iast (show decode cX12_ground 65 = .ok (.iastore, 1) by decide +kernel)),
  List.forall_mem_cons.mpr ⟨(xOK_pure (xs_aload_n (k := 0) rfl (show decode cX12_ground 66 = .ok (.aload_n 0, 1) by decide +kernel))),
  List.forall_mem_cons.mpr ⟨(xOK_pure (xs_getf xcl_12 (by decide) (show decode cX12_ground 67 = .ok (.getfield 28, 3) by decide +kernel) xw_1716)),
  List.forall_mem_cons.mpr ⟨(xOK_pure (xs_iconst (n := 4) (show decode cX12_ground 70 = .ok (.iconst 4, 1) by decide +kernel) (by decide))),
  List.forall_mem_cons.mpr ⟨(xOK_pure (xs_iload_n (k := 1) rfl (show decode cX12_ground 71 = .ok (.iload_n 1, 1) by decide +kernel))),
  List.forall_mem_cons.mpr ⟨(xOK_pure (xs_imul (show decode cX12_ground 72 = .ok (.imul, 1) by decide +kernel))),
  List.forall_mem_cons.mpr ⟨(xOK_pure (xs_aload_n (k := 0) rfl (show decode cX12_ground 73 = .ok (.aload_n 0, 1) by decide +kernel))),
  List.forall_mem_cons.mpr ⟨(xOK_pure (xs_getf xcl_12 (by decide) (show decode cX12_ground 74 = .ok (.getfield 31, 3) by decide +kernel) xw_1717)),
  List.forall_mem_cons.mpr ⟨(xOK_pure (xs_iload_n (k := 1) rfl (show decode cX12_ground 77 = .ok (.iload_n 1, 1) by decide +kernel))),
  List.forall_mem_cons.mpr ⟨(xOK_pure (xs_iald (show decode cX12_ground 78 = .ok (.iaload, 1) by decide +kernel))),
  List.forall_mem_cons.mpr ⟨(xOK_pure (xs_iadd (show decode cX12_ground 79 = .ok (.iadd, 1) by decide +kernel))),
  List.forall_mem_cons.mpr ⟨(xOK_pure (xs_iload_n (k := 3) rfl (show decode cX12_ground 80 = .ok (.iload_n 3, 1) by decide +kernel))),
  List.forall_mem_cons.mpr ⟨(xs_iast (show decode cX12_ground 81 = .ok (.iastore, 1) by decide +kernel)),
  List.forall_mem_cons.mpr ⟨(xOK_pure (xs_aload_n (k := 0) rfl (show decode cX12_ground 82 = .ok (.aload_n 0, 1) by decide +kernel))),
  List.forall_mem_cons.mpr ⟨(xOK_pure (xs_getf xcl_12 (by decide) (show decode cX12_ground 83 = .ok (.getfield 31, 3) by decide +kernel) xw_1717)),
  List.forall_mem_cons.mpr ⟨(xOK_pure (xs_iload_n (k := 1) rfl (show decode cX12_ground 86 = .ok (.iload_n 1, 1) by decide +kernel))),
  List.forall_mem_cons.mpr ⟨(xOK_pure (xs_dup2 (show decode cX12_ground 87 = .ok (.dup2, 1) by decide +kernel))),
  List.forall_mem_cons.mpr ⟨(xOK_pure (xs_iald (show decode cX12_ground 88 = .ok (.iaload, 1) by decide +kernel))),
  List.forall_mem_cons.mpr ⟨(xOK_pure (xs_iconst (n := 1) (show decode cX12_ground 89 = .ok (.iconst 1, 1) by decide +kernel) (by decide))),
  (fun _ h => absurd h List.not_mem_nil)⟩⟩⟩⟩⟩⟩⟩⟩⟩⟩⟩⟩⟩⟩⟩⟩⟩⟩⟩⟩
def pX12_ground_3 (ev : xEv) : List (Nat × xEn) := [(90, .inl (xop (xf_bin (fun x y => x + y)))), (91, .inl (xo_ast (ev.1 0) (fun x => x))), (92, .inl (xop (xf_aload 0 1))), (93, .inl (xop (xf_getf 12 8))), (96, .inl (xop (xf_iload 1 1))), (97, .inl (xop (xf_ald (ev.1 0)))), (98, .inr (.inr 1))]
set_option maxRecDepth 20000 in
theorem okpX12_ground_3 (ev : xEv) : ∀ q ∈ pX12_ground_3 ev, xEnOK ev xmi yX12_ground.cls yX12_ground.name cX12_ground 4 (some .int) q :=
  List.forall_mem_cons.mpr ⟨(xOK_pure (xs_iadd (show decode cX12_ground 90 = .ok (.iadd, 1) by decide +kernel))),
  List.forall_mem_cons.mpr ⟨(xs_iast (show decode cX12_ground 91 = .ok (.iastore, 1) by decide +kernel)),
  List.forall_mem_cons.mpr ⟨(xOK_pure (xs_aload_n (k := 0) rfl (show decode cX12_ground 92 = .ok (.aload_n 0, 1) by decide +kernel))),
  List.forall_mem_cons.mpr ⟨(xOK_pure (xs_getf xcl_12 (by decide) (show decode cX12_ground 93 = .ok (.getfield 31, 3) by decide +kernel) xw_1717)),
  List.forall_mem_cons.mpr ⟨(xOK_pure (xs_iload_n (k := 1) rfl (show decode cX12_ground 96 = .ok (.iload_n 1, 1) by decide +kernel))),
  List.forall_mem_cons.mpr ⟨(xOK_pure (xs_iald (show decode cX12_ground 97 = .ok (.iaload, 1) by decide +kernel))),
  List.forall_mem_cons.mpr ⟨(Or.inr (Or.inl ⟨rfl, (show decode cX12_ground 98 = .ok (.ireturn, 1) by decide +kernel), rfl⟩)),
  (fun _ h => absurd h List.not_mem_nil)⟩⟩⟩⟩⟩⟩⟩
def pX12_ground (ev : xEv) : List (Nat × xEn) := pX12_ground_0 ev ++ (pX12_ground_1 ev ++ (pX12_ground_2 ev ++ (pX12_ground_3 ev)))
theorem okpX12_ground (ev : xEv) : ∀ q ∈ pX12_ground ev, xEnOK ev xmi yX12_ground.cls yX12_ground.name cX12_ground 4 (some .int) q := List.forall_mem_append.mpr ⟨okpX12_ground_0 ev, List.forall_mem_append.mpr ⟨okpX12_ground_1 ev, List.forall_mem_append.mpr ⟨okpX12_ground_2 ev, okpX12_ground_3 ev⟩⟩⟩
theorem omX12_ground (ev : xEv) : xMethOK ev xmi yX12_ground.cls yX12_ground.name 208 (pX12_ground ev) := xMethOK.of mi_208 (by decide +kernel) (okpX12_ground ev)
def pX12_far_0 (ev : xEv) : List (Nat × xEn) := [(0, .inl (xop (xf_aload 0 1))), (1, .inl (xop (xf_push (.int 0) 1))), (2, .inl (xo_putf 12 47 .int)), (5, .inl (xop (xf_aload 0 1))), (6, .inl (xop (xf_iload 1 1))), (7, .inr (.inl (0, 190, 1, 12))), (10, .inl (xop (xf_if_eq 51))), (13, .inl (xop (xf_aload 0 1))), (14, .inl (xop (xf_iload 2 1))), (15, .inr (.inl (0, 190, 1, 12))), (18, .inl (xop (xf_if_eq 51))), (21, .inl (xop (xf_aload 0 1))), (22, .inl (xop (xf_getf 12 10))), (25, .inl (xop (xf_push (.int 8) 2))), (27, .inl (xop (xf_iload 1 1))), (28, .inl (xop (xf_bin (fun x y => x * y)))), (29, .inl (xop (xf_iload 2 1))), (30, .inl (xop (xf_bin (fun x y => x + y)))), (31, .inl (xop (xf_ald (ev.1 0)))), (32, .inl (xop (xf_push (.int 268435456) 2)))]
set_option maxRecDepth 20000 in
theorem okpX12_far_0 (ev : xEv) : ∀ q ∈ pX12_far_0 ev, xEnOK ev xmi yX12_far.cls yX12_far.name cX12_far 3 (some .int) q :=
  List.forall_mem_cons.mpr ⟨(xOK_pure (xs_aload_n (k := 0) rfl (show decode cX12_far 0 = .ok (.aload_n 0, 1) by decide +kernel))),
  List.forall_mem_cons.mpr ⟨(xOK_pure (xs_iconst (n := 0) (show decode cX12_far 1 = .ok (.iconst 0, 1) by decide +kernel) (by decide))),
  List.forall_mem_cons.mpr ⟨(xs_putf (k := 47) xcl_12 (by decide) rfl (show decode cX12_far 2 = .ok (.putfield 140, 3) by decide +kernel) xw_1756),
  List.forall_mem_cons.mpr ⟨(xOK_pure (xs_aload_n (k := 0) rfl (show decode cX12_far 5 = .ok (.aload_n 0, 1) by decide +kernel))),
  List.forall_mem_cons.mpr ⟨(xOK_pure (xs_iload_n (k := 1) rfl (show decode cX12_far 6 = .ok (.iload_n 1, 1) by decide +kernel))),
  List.forall_mem_cons.mpr ⟨(xcm mi_190 ⟨⟨(by decide +kernel), (by decide +kernel), (by decide +kernel)⟩, (by decide), xw_1920, xw_125, Or.inl ⟨rfl, _, _, _, _, (show decode cX12_far 7 = .ok (.invokevirtual 162, 3) by decide +kernel), xw_1917, xw_1919, xw_52, rfl⟩⟩),
  List.forall_mem_cons.mpr ⟨(xOK_pure (xs_if_eq (show decode cX12_far 10 = .ok (.ifCond .eq 41, 3) by decide +kernel) (by decide))),
  List.forall_mem_cons.mpr ⟨(xOK_pure (xs_aload_n (k := 0) rfl (show decode cX12_far 13 = .ok (.aload_n 0, 1) by decide +kernel))),
  List.forall_mem_cons.mpr ⟨(xOK_pure (xs_iload_n (k := 2) rfl (show decode cX12_far 14 = .ok (.iload_n 2, 1) by decide +kernel))),
  List.forall_mem_cons.mpr ⟨(xcm mi_190 ⟨⟨(by decide +kernel), (by decide +kernel), (by decide +kernel)⟩, (by decide), xw_1920, xw_125, Or.inl ⟨rfl, _, _, _, _, (show decode cX12_far 15 = .ok (.invokevirtual 162, 3) by decide +kernel), xw_1917, xw_1919, xw_52, rfl⟩⟩),
  List.forall_mem_cons.mpr ⟨(xOK_pure (xs_if_eq (show decode cX12_far 18 = .ok (.ifCond .eq 33, 3) by decide +kernel) (by decide))),
  List.forall_mem_cons.mpr ⟨(xOK_pure (xs_aload_n (k := 0) rfl (show decode cX12_far 21 = .ok (.aload_n 0, 1) by decide +kernel))),
  List.forall_mem_cons.mpr ⟨(xOK_pure (xs_getf xcl_12 (by decide) (show decode cX12_far 22 = .ok (.getfield 34, 3) by decide +kernel) xw_1719)),
  List.forall_mem_cons.mpr ⟨(xOK_pure (xs_bipush (n := 8) (show decode cX12_far 25 = .ok (.bipush 8, 2) by decide +kernel) (by decide))),
  List.forall_mem_cons.mpr ⟨(xOK_pure (xs_iload_n (k := 1) rfl (show decode cX12_far 27 = .ok (.iload_n 1, 1) by decide +kernel))),
  List.forall_mem_cons.mpr ⟨(xOK_pure (xs_imul (show decode cX12_far 28 = .ok (.imul, 1) by decide +kernel))),
  List.forall_mem_cons.mpr ⟨(xOK_pure (xs_iload_n (k := 2) rfl (show decode cX12_far 29 = .ok (.iload_n 2, 1) by decide +kernel))),
  List.forall_mem_cons.mpr ⟨(xOK_pure (xs_iadd (show decode cX12_far 30 = .ok (.iadd, 1) by decide +kernel))),
  List.forall_mem_cons.mpr ⟨(xOK_pure (xs_iald (show decode cX12_far 31 = .ok (.iaload, 1) by decide +kernel))),
  List.forall_mem_cons.mpr ⟨(xOK_pure (xs_ldc (show decode cX12_far 32 = .ok (.ldc 139, 2) by decide +kernel) xw_1708)),
  (fun _ h => absurd h List.not_mem_nil)⟩⟩⟩⟩⟩⟩⟩⟩⟩⟩⟩⟩⟩⟩⟩⟩⟩⟩⟩⟩
def pX12_far_1 (ev : xEv) : List (Nat × xEn) := [(34, .inl (xop (xf_icmp_ge 51))), (37, .inl (xop (xf_aload 0 1))), (38, .inl (xop (xf_getf 12 10))), (41, .inl (xop (xf_push (.int 8) 2))), (43, .inl (xop (xf_iload 1 1))), (44, .inl (xop (xf_bin (fun x y => x * y)))), (45, .inl (xop (xf_iload 2 1))), (46, .inl (xop (xf_bin (fun x y => x + y)))), (47, .inl (xop (xf_ald (ev.1 0)))), (48, .inl (xop (xf_goto 52))), (51, .inl (xop (xf_push (.int (-1)) 1))), (52, .inr (.inr 1))]
set_option maxRecDepth 20000 in
theorem okpX12_far_1 (ev : xEv) : ∀ q ∈ pX12_far_1 ev, xEnOK ev xmi yX12_far.cls yX12_far.name cX12_far 3 (some .int) q :=
  List.forall_mem_cons.mpr ⟨(xOK_pure (xs_icmp_ge (show decode cX12_far 34 = .ok (.if_icmp .ge 17, 3) by decide +kernel) (by decide))),
  List.forall_mem_cons.mpr ⟨(xOK_pure (xs_aload_n (k := 0) rfl (show decode cX12_far 37 = .ok (.aload_n 0, 1) by decide +kernel))),
  List.forall_mem_cons.mpr ⟨(xOK_pure (xs_getf xcl_12 (by decide) (show decode cX12_far 38 = .ok (.getfield 34, 3) by decide +kernel) xw_1719)),
  List.forall_mem_cons.mpr ⟨(xOK_pure (xs_bipush (n := 8) (show decode cX12_far 41 = .ok (.bipush 8, 2) by decide +kernel) (by decide))),
  List.forall_mem_cons.mpr ⟨(xOK_pure (xs_iload_n (k := 1) rfl (show decode cX12_far 43 = .ok (.iload_n 1, 1) by decide +kernel))),
  List.forall_mem_cons.mpr ⟨(xOK_pure (xs_imul (show decode cX12_far 44 = .ok (.imul, 1) by decide +kernel))),
  List.forall_mem_cons.mpr ⟨(xOK_pure (xs_iload_n (k := 2) rfl (show decode cX12_far 45 = .ok (.iload_n 2, 1) by decide +kernel))),
  List.forall_mem_cons.mpr ⟨(xOK_pure (xs_iadd (show decode cX12_far 46 = .ok (.iadd, 1) by decide +kernel))),
  List.forall_mem_cons.mpr ⟨(xOK_pure (xs_iald (show decode cX12_far 47 = .ok (.iaload, 1) by decide +kernel))),
  List.forall_mem_cons.mpr ⟨(xOK_pure (xs_goto (show decode cX12_far 48 = .ok (.goto 4, 3) by decide +kernel) (by decide))),
  List.forall_mem_cons.mpr ⟨(xOK_pure (xs_iconst (n := (-1)) (show decode cX12_far 51 = .ok (.iconst (-1), 1) by decide +kernel) (by decide))),
  List.forall_mem_cons.mpr ⟨(Or.inr (Or.inl ⟨rfl, (show decode cX12_far 52 = .ok (.ireturn, 1) by decide +kernel), rfl⟩)),
  (fun _ h => absurd h List.not_mem_nil)⟩⟩⟩⟩⟩⟩⟩⟩⟩⟩⟩⟩
def pX12_far (ev : xEv) : List (Nat × xEn) := pX12_far_0 ev ++ (pX12_far_1 ev)
theorem okpX12_far (ev : xEv) : ∀ q ∈ pX12_far ev, xEnOK ev xmi yX12_far.cls yX12_far.name cX12_far 3 (some .int) q := List.forall_mem_append.mpr ⟨okpX12_far_0 ev, okpX12_far_1 ev⟩
theorem omX12_far (ev : xEv) : xMethOK ev xmi yX12_far.cls yX12_far.name 209 (pX12_far ev) := xMethOK.of mi_209 (by decide +kernel) (okpX12_far ev)
def pX12_weather_0 (ev : xEv) : List (Nat × xEn) := [(0, .inl (xop (xf_aload 0 1))), (1, .inl (xop (xf_push (.int 0) 1))), (2, .inl (xo_putf 12 47 .int)), (5, .inl (xop (xf_aload 0 1))), (6, .inl (xop (xf_iload 1 1))), (7, .inr (.inl (0, 191, 1, 12))), (10, .inl (xop (xf_if_eq 56))), (13, .inl (xop (xf_iload 2 1))), (14, .inl (xop (xf_push (.int 0) 1))), (15, .inl (xop (xf_push (.int 3000) 3))), (18, .inr (.inl (1, 188, 3, 12))), (21, .inl (xop (xf_if_eq 56))), (24, .inl (xop (xf_iload 3 1))), (25, .inl (xop (xf_push (.int 0) 1))), (26, .inl (xop (xf_push (.int 200) 3))), (29, .inr (.inl (1, 188, 3, 12))), (32, .inl (xop (xf_if_eq 56))), (35, .inl (xop (xf_iload 4 2))), (37, .inl (xop (xf_push (.int (-9)) 2))), (39, .inl (xop (xf_push (.int 9) 2)))]
set_option maxRecDepth 20000 in
theorem okpX12_weather_0 (ev : xEv) : ∀ q ∈ pX12_weather_0 ev, xEnOK ev xmi yX12_weather.cls yX12_weather.name cX12_weather 5 (some .int) q :=
  List.forall_mem_cons.mpr ⟨(xOK_pure (xs_aload_n (k := 0) rfl (show decode cX12_weather 0 = .ok (.aload_n 0, 1) by decide +kernel))),
  List.forall_mem_cons.mpr ⟨(xOK_pure (xs_iconst (n := 0) (show decode cX12_weather 1 = .ok (.iconst 0, 1) by decide +kernel) (by decide))),
  List.forall_mem_cons.mpr ⟨(xs_putf (k := 47) xcl_12 (by decide) rfl (show decode cX12_weather 2 = .ok (.putfield 140, 3) by decide +kernel) xw_1756),
  List.forall_mem_cons.mpr ⟨(xOK_pure (xs_aload_n (k := 0) rfl (show decode cX12_weather 5 = .ok (.aload_n 0, 1) by decide +kernel))),
  List.forall_mem_cons.mpr ⟨(xOK_pure (xs_iload_n (k := 1) rfl (show decode cX12_weather 6 = .ok (.iload_n 1, 1) by decide +kernel))),
  List.forall_mem_cons.mpr ⟨(xcm mi_191 ⟨⟨(by decide +kernel), (by decide +kernel), (by decide +kernel)⟩, (by decide), xw_1933, xw_125, Or.inl ⟨rfl, _, _, _, _, (show decode cX12_weather 7 = .ok (.invokevirtual 172, 3) by decide +kernel), xw_1930, xw_1932, xw_53, rfl⟩⟩),
  List.forall_mem_cons.mpr ⟨(xOK_pure (xs_if_eq (show decode cX12_weather 10 = .ok (.ifCond .eq 46, 3) by decide +kernel) (by decide))),
  List.forall_mem_cons.mpr ⟨(xOK_pure (xs_iload_n (k := 2) rfl (show decode cX12_weather 13 = .ok (.iload_n 2, 1) by decide +kernel))),
  List.forall_mem_cons.mpr ⟨(xOK_pure (xs_iconst (n := 0) (show decode cX12_weather 14 = .ok (.iconst 0, 1) by decide +kernel) (by decide))),
  List.forall_mem_cons.mpr ⟨(xOK_pure (xs_sipush (n := 3000) (show decode cX12_weather 15 = .ok (.sipush 3000, 3) by decide +kernel) (by decide))),
  List.forall_mem_cons.mpr ⟨(xcm mi_188 ⟨⟨(by decide +kernel), (by decide +kernel), (by decide +kernel)⟩, (by decide), xw_1912, xw_125, Or.inr (Or.inl ⟨rfl, _, (show decode cX12_weather 18 = .ok (.invokestatic 146, 3) by decide +kernel), xw_1910, xw_1911⟩)⟩),
  List.forall_mem_cons.mpr ⟨(xOK_pure (xs_if_eq (show decode cX12_weather 21 = .ok (.ifCond .eq 35, 3) by decide +kernel) (by decide))),
  List.forall_mem_cons.mpr ⟨(xOK_pure (xs_iload_n (k := 3) rfl (show decode cX12_weather 24 = .ok (.iload_n 3, 1) by decide +kernel))),
  List.forall_mem_cons.mpr ⟨(xOK_pure (xs_iconst (n := 0) (show decode cX12_weather 25 = .ok (.iconst 0, 1) by decide +kernel) (by decide))),
  List.forall_mem_cons.mpr ⟨(xOK_pure (xs_sipush (n := 200) (show decode cX12_weather 26 = .ok (.sipush 200, 3) by decide +kernel) (by decide))),
  List.forall_mem_cons.mpr ⟨(xcm mi_188 ⟨⟨(by decide +kernel), (by decide +kernel), (by decide +kernel)⟩, (by decide), xw_1912, xw_125, Or.inr (Or.inl ⟨rfl, _, (show decode cX12_weather 29 = .ok (.invokestatic 146, 3) by decide +kernel), xw_1910, xw_1911⟩)⟩),
  List.forall_mem_cons.mpr ⟨(xOK_pure (xs_if_eq (show decode cX12_weather 32 = .ok (.ifCond .eq 24, 3) by decide +kernel) (by decide))),
  List.forall_mem_cons.mpr ⟨(xOK_pure (xs_iload (show decode cX12_weather 35 = .ok (.iload 4, 2) by decide +kernel))),
  List.forall_mem_cons.mpr ⟨(xOK_pure (xs_bipush (n := (-9)) (show decode cX12_weather 37 = .ok (.bipush (-9), 2) by decide +kernel) (by decide))),
  List.forall_mem_cons.mpr ⟨(xOK_pure (xs_bipush (n := 9) (show decode cX12_weather 39 = .ok (.bipush 9, 2) by decide +kernel) (by decide))),
  (fun _ h => absurd h List.not_mem_nil)⟩⟩⟩⟩⟩⟩⟩⟩⟩⟩⟩⟩⟩⟩⟩⟩⟩⟩⟩⟩
def pX12_weather_1 (ev : xEv) : List (Nat × xEn) := [(41, .inr (.inl (1, 188, 3, 12))), (44, .inl (xop (xf_if_eq 56))), (47, .inl (xop (xf_aload 0 1))), (48, .inl (xop (xf_getf 12 15))), (51, .inl (xop (xf_push (.int 60) 2))), (53, .inl (xop (xf_icmp_ne 58))), (56, .inl (xop (xf_push (.int (-1)) 1))), (57, .inr (.inr 1)), (58, .inl (xop (xf_aload 0 1))), (59, .inl (xop (xf_getf 12 11))), (62, .inl (xop (xf_aload 0 1))), (63, .inl (xop (xf_getf 12 15))), (66, .inl (xop (xf_iload 1 1))), (67, .inl (xo_ast (ev.1 0) (fun x => x))), (68, .inl (xop (xf_aload 0 1))), (69, .inl (xop (xf_getf 12 12))), (72, .inl (xop (xf_aload 0 1))), (73, .inl (xop (xf_getf 12 15))), (76, .inl (xop (xf_iload 2 1))), (77, .inl (xo_ast (ev.1 0) (fun x => x)))]
set_option maxRecDepth 20000 in
theorem okpX12_weather_1 (ev : xEv) : ∀ q ∈ pX12_weather_1 ev, xEnOK ev xmi yX12_weather.cls yX12_weather.name cX12_weather 5 (some .int) q :=
  List.forall_mem_cons.mpr ⟨(xcm mi_188 ⟨⟨(by decide +kernel), (by decide +kernel), (by decide +kernel)⟩, (by decide), xw_1912, xw_125, Or.inr (Or.inl ⟨rfl, _, (show decode cX12_weather 41 = .ok (.invokestatic 146, 3) by decide +kernel), xw_1910, xw_1911⟩)⟩),
  List.forall_mem_cons.mpr ⟨(xOK_pure (xs_if_eq (show decode cX12_weather 44 = .ok (.ifCond .eq 12, 3) by decide +kernel) (by decide))),
  List.forall_mem_cons.mpr ⟨(xOK_pure (xs_aload_n (k := 0) rfl (show decode cX12_weather 47 = .ok (.aload_n 0, 1) by decide +kernel))),
  List.forall_mem_cons.mpr ⟨(xOK_pure (xs_getf xcl_12 (by decide) (show decode cX12_weather 48 = .ok (.getfield 175, 3) by decide +kernel) xw_1724)),
  List.forall_mem_cons.mpr ⟨(xOK_pure (xs_bipush (n := 60) (show decode cX12_weather 51 = .ok (.bipush 60, 2) by decide +kernel) (by decide))),
  List.forall_mem_cons.mpr ⟨(xOK_pure (xs_icmp_ne (show decode cX12_weather 53 = .ok (.if_icmp .ne 5, 3) by decide +kernel) (by decide))),
  List.forall_mem_cons.mpr ⟨(xOK_pure (xs_iconst (n := (-1)) (show decode cX12_weather 56 = .ok (.iconst (-1), 1) by decide +kernel) (by decide))),
  List.forall_mem_cons.mpr ⟨(Or.inr (Or.inl ⟨rfl, (show decode cX12_weather 57 = .ok (.ireturn, 1) by decide +kernel), rfl⟩)),
  List.forall_mem_cons.mpr ⟨(xOK_pure (xs_aload_n (k := 0) rfl (show decode cX12_weather 58 = .ok (.aload_n 0, 1) by decide +kernel))),
  List.forall_mem_cons.mpr ⟨(xOK_pure (xs_getf xcl_12 (by decide) (show decode cX12_weather 59 = .ok (.getfield 37, 3) by decide +kernel) xw_1720)),
  List.forall_mem_cons.mpr ⟨(xOK_pure (xs_aload_n (k := 0) rfl (show decode cX12_weather 62 = .ok (.aload_n 0, 1) by decide +kernel))),
  List.forall_mem_cons.mpr ⟨(xOK_pure (xs_getf xcl_12 (by decide) (show decode cX12_weather 63 = .ok (.getfield 175, 3) by decide +kernel) xw_1724)),
  List.forall_mem_cons.mpr ⟨(xOK_pure (xs_iload_n (k := 1) rfl (show decode cX12_weather 66 = .ok (.iload_n 1, 1) by decide +kernel))),
  List.forall_mem_cons.mpr ⟨(xs_iast (show decode cX12_weather 67 = .ok (.iastore, 1) by decide +kernel)),
  List.forall_mem_cons.mpr ⟨(xOK_pure (xs_aload_n (k := 0) rfl (show decode cX12_weather 68 = .ok (.aload_n 0, 1) by decide +kernel))),
  List.forall_mem_cons.mpr ⟨(xOK_pure (xs_getf xcl_12 (by decide) (show decode cX12_weather 69 = .ok (.getfield 40, 3) by decide +kernel) xw_1721)),
  List.forall_mem_cons.mpr ⟨(xOK_pure (xs_aload_n (k := 0) rfl (show decode cX12_weather 72 = .ok (.aload_n 0, 1) by decide +kernel))),
  List.forall_mem_cons.mpr ⟨(xOK_pure (xs_getf xcl_12 (by decide) (show decode cX12_weather 73 = .ok (.getfield 175, 3) by decide +kernel) xw_1724)),
  List.forall_mem_cons.mpr ⟨(xOK_pure (xs_iload_n (k := 2) rfl (show decode cX12_weather 76 = .ok (.iload_n 2, 1) by decide +kernel))),
  List.forall_mem_cons.mpr ⟨(xs_iast (show decode cX12_weather 77 = .ok (.iastore, 1) by decide +kernel)),
  (fun _ h => absurd h List.not_mem_nil)⟩⟩⟩⟩⟩⟩⟩⟩⟩⟩⟩⟩⟩⟩⟩⟩⟩⟩⟩⟩
def pX12_weather_2 (ev : xEv) : List (Nat × xEn) := [(78, .inl (xop (xf_aload 0 1))), (79, .inl (xop (xf_getf 12 13))), (82, .inl (xop (xf_aload 0 1))), (83, .inl (xop (xf_getf 12 15))), (86, .inl (xop (xf_iload 3 1))), (87, .inl (xo_ast (ev.1 0) (fun x => x))), (88, .inl (xop (xf_aload 0 1))), (89, .inl (xop (xf_getf 12 14))), (92, .inl (xop (xf_aload 0 1))), (93, .inl (xop (xf_getf 12 15))), (96, .inl (xop (xf_iload 4 2))), (98, .inl (xo_ast (ev.1 0) (fun x => x))), (99, .inl (xop (xf_aload 0 1))), (100, .inl (xop xf_dup)), (101, .inl (xop (xf_getf 12 15))), (104, .inl (xop (xf_push (.int 1) 1))), (105, .inl (xop (xf_bin (fun x y => x + y)))), (106, .inl (xo_putf 12 15 .int)), (109, .inl (xop (xf_aload 0 1))), (110, .inl (xop (xf_getf 12 15)))]
set_option maxRecDepth 20000 in
theorem okpX12_weather_2 (ev : xEv) : ∀ q ∈ pX12_weather_2 ev, xEnOK ev xmi yX12_weather.cls yX12_weather.name cX12_weather 5 (some .int) q :=
  List.forall_mem_cons.mpr ⟨(xOK_pure (xs_aload_n (k := 0) rfl (show decode cX12_weather 78 = .ok (.aload_n 0, 1) by decide +kernel))),
  List.forall_mem_cons.mpr ⟨(xOK_pure (xs_getf xcl_12 (by decide) (show decode cX12_weather 79 = .ok (.getfield 43, 3) by decide +kernel) xw_1722)),
  List.forall_mem_cons.mpr ⟨(xOK_pure (xs_aload_n (k := 0) rfl (show decode cX12_weather 82 = .ok (.aload_n 0, 1) by decide +kernel))),
  List.forall_mem_cons.mpr ⟨(xOK_pure (xs_getf xcl_12 (by decide) (show decode cX12_weather 83 = .ok (.getfield 175, 3) by decide +kernel) xw_1724)),
  List.forall_mem_cons.mpr ⟨(xOK_pure (xs_iload_n (k := 3) rfl (show decode cX12_weather 86 = .ok (.iload_n 3, 1) by decide +kernel))),
  List.forall_mem_cons.mpr ⟨(xs_iast (show decode cX12_weather 87 = .ok (.iastore, 1) by decide +kernel)),
  List.forall_mem_cons.mpr ⟨(xOK_pure (xs_aload_n (k := 0) rfl (show decode cX12_weather 88 = .ok (.aload_n 0, 1) by decide +kernel))),
  List.forall_mem_cons.mpr ⟨(xOK_pure (xs_getf xcl_12 (by decide) (show decode cX12_weather 89 = .ok (.getfield 46, 3) by decide +kernel) xw_1723)),
  List.forall_mem_cons.mpr ⟨(xOK_pure (xs_aload_n (k := 0) rfl (show decode cX12_weather 92 = .ok (.aload_n 0, 1) by decide +kernel))),
  List.forall_mem_cons.mpr ⟨(xOK_pure (xs_getf xcl_12 (by decide) (show decode cX12_weather 93 = .ok (.getfield 175, 3) by decide +kernel) xw_1724)),
  List.forall_mem_cons.mpr ⟨(xOK_pure (xs_iload (show decode cX12_weather 96 = .ok (.iload 4, 2) by decide +kernel))),
  List.forall_mem_cons.mpr ⟨(xs_iast (show decode cX12_weather 98 = .ok (.iastore, 1) by decide +kernel)),
  List.forall_mem_cons.mpr ⟨(xOK_pure (xs_aload_n (k := 0) rfl (show decode cX12_weather 99 = .ok (.aload_n 0, 1) by decide +kernel))),
  List.forall_mem_cons.mpr ⟨(xOK_pure (xs_dup (show decode cX12_weather 100 = .ok (.dup, 1) by decide +kernel))),
  List.forall_mem_cons.mpr ⟨(xOK_pure (xs_getf xcl_12 (by decide) (show decode cX12_weather 101 = .ok (.getfield 175, 3) by decide +kernel) xw_1724)),
  List.forall_mem_cons.mpr ⟨(xOK_pure (xs_iconst (n := 1) (show decode cX12_weather 104 = .ok (.iconst 1, 1) by decide +kernel) (by decide))),
  List.forall_mem_cons.mpr ⟨(xOK_pure (xs_iadd (show decode cX12_weather 105 = .ok (.iadd, 1) by decide +kernel))),
  List.forall_mem_cons.mpr ⟨(xs_putf (k := 15) xcl_12 (by decide) rfl (show decode cX12_weather 106 = .ok (.putfield 175, 3) by decide +kernel) xw_1724),
  List.forall_mem_cons.mpr ⟨(xOK_pure (xs_aload_n (k := 0) rfl (show decode cX12_weather 109 = .ok (.aload_n 0, 1) by decide +kernel))),
  List.forall_mem_cons.mpr ⟨(xOK_pure (xs_getf xcl_12 (by decide) (show decode cX12_weather 110 = .ok (.getfield 175, 3) by decide +kernel) xw_1724)),
  (fun _ h => absurd h List.not_mem_nil)⟩⟩⟩⟩⟩⟩⟩⟩⟩⟩⟩⟩⟩⟩⟩⟩⟩⟩⟩⟩
def pX12_weather_3 (ev : xEv) : List (Nat × xEn) := [(113, .inr (.inr 1))]
set_option maxRecDepth 20000 in
theorem okpX12_weather_3 (ev : xEv) : ∀ q ∈ pX12_weather_3 ev, xEnOK ev xmi yX12_weather.cls yX12_weather.name cX12_weather 5 (some .int) q :=
  List.forall_mem_cons.mpr ⟨(Or.inr (Or.inl ⟨rfl, (show decode cX12_weather 113 = .ok (.ireturn, 1) by decide +kernel), rfl⟩)),
  (fun _ h => absurd h List.not_mem_nil)⟩
def pX12_weather (ev : xEv) : List (Nat × xEn) := pX12_weather_0 ev ++ (pX12_weather_1 ev ++ (pX12_weather_2 ev ++ (pX12_weather_3 ev)))
theorem okpX12_weather (ev : xEv) : ∀ q ∈ pX12_weather ev, xEnOK ev xmi yX12_weather.cls yX12_weather.name cX12_weather 5 (some .int) q := List.forall_mem_append.mpr ⟨okpX12_weather_0 ev, List.forall_mem_append.mpr ⟨okpX12_weather_1 ev, List.forall_mem_append.mpr ⟨okpX12_weather_2 ev, okpX12_weather_3 ev⟩⟩⟩
theorem omX12_weather (ev : xEv) : xMethOK ev xmi yX12_weather.cls yX12_weather.name 210 (pX12_weather ev) := xMethOK.of mi_210 (by decide +kernel) (okpX12_weather ev)
def pX12_sky_0 (ev : xEv) : List (Nat × xEn) := [(0, .inl (xop (xf_push (.int (-1)) 1))), (1, .inl (xop (xf_istore 3 1))), (2, .inl (xop (xf_push (.int 0) 1))), (3, .inl (xop (xf_istore 4 2))), (5, .inl (xop (xf_iload 4 2))), (7, .inl (xop (xf_aload 0 1))), (8, .inl (xop (xf_getf 12 15))), (11, .inl (xop (xf_icmp_ge 66))), (14, .inl (xop (xf_aload 0 1))), (15, .inl (xop (xf_getf 12 11))), (18, .inl (xop (xf_iload 4 2))), (20, .inl (xop (xf_ald (ev.1 0)))), (21, .inl (xop (xf_iload 1 1))), (22, .inl (xop (xf_icmp_ne 60))), (25, .inl (xop (xf_aload 0 1))), (26, .inl (xop (xf_getf 12 12))), (29, .inl (xop (xf_iload 4 2))), (31, .inl (xop (xf_ald (ev.1 0)))), (32, .inl (xop (xf_iload 2 1))), (33, .inl (xop (xf_icmp_gt 60)))]
set_option maxRecDepth 20000 in
theorem okpX12_sky_0 (ev : xEv) : ∀ q ∈ pX12_sky_0 ev, xEnOK ev xmi yX12_sky.cls yX12_sky.name cX12_sky 5 (some .int) q :=
  List.forall_mem_cons.mpr ⟨(xOK_pure (xs_iconst (n := (-1)) (show decode cX12_sky 0 = .ok (.iconst (-1), 1) by decide +kernel) (by decide))),
  List.forall_mem_cons.mpr ⟨(xOK_pure (xs_istore_n (k := 3) rfl (show decode cX12_sky 1 = .ok (.istore_n 3, 1) by decide +kernel) (by decide))),
  List.forall_mem_cons.mpr ⟨(xOK_pure (xs_iconst (n := 0) (show decode cX12_sky 2 = .ok (.iconst 0, 1) by decide +kernel) (by decide))),
  List.forall_mem_cons.mpr ⟨(xOK_pure (xs_istore (show decode cX12_sky 3 = .ok (.istore 4, 2) by decide +kernel) (by decide))),
  List.forall_mem_cons.mpr ⟨(xOK_pure (xs_iload (show decode cX12_sky 5 = .ok (.iload 4, 2) by decide +kernel))),
  List.forall_mem_cons.mpr ⟨(xOK_pure (xs_aload_n (k := 0) rfl (show decode cX12_sky 7 = .ok (.aload_n 0, 1) by decide +kernel))),
  List.forall_mem_cons.mpr ⟨(xOK_pure (xs_getf xcl_12 (by decide) (show decode cX12_sky 8 = .ok (.getfield 175, 3) by decide +kernel) xw_1724)),
  List.forall_mem_cons.mpr ⟨(xOK_pure (xs_icmp_ge (show decode cX12_sky 11 = .ok (.if_icmp .ge 55, 3) by decide +kernel) (by decide))),
  List.forall_mem_cons.mpr ⟨(xOK_pure (xs_aload_n (k := 0) rfl (show decode cX12_sky 14 = .ok (.aload_n 0, 1) by decide +kernel))),
  List.forall_mem_cons.mpr ⟨(xOK_pure (xs_getf xcl_12 (by decide) (show decode cX12_sky 15 = .ok (.getfield 37, 3) by decide +kernel) xw_1720)),
  List.forall_mem_cons.mpr ⟨(xOK_pure (xs_iload (show decode cX12_sky 18 = .ok (.iload 4, 2) by decide +kernel))),
  List.forall_mem_cons.mpr ⟨(xOK_pure (xs_iald (show decode cX12_sky 20 = .ok (.iaload, 1) by decide +kernel))),
  List.forall_mem_cons.mpr ⟨(xOK_pure (xs_iload_n (k := 1) rfl (show decode cX12_sky 21 = .ok (.iload_n 1, 1) by decide +kernel))),
  List.forall_mem_cons.mpr ⟨(xOK_pure (xs_icmp_ne (show decode cX12_sky 22 = .ok (.if_icmp .ne 38, 3) by decide +kernel) (by decide))),
  List.forall_mem_cons.mpr ⟨(xOK_pure (xs_aload_n (k := 0) rfl (show decode cX12_sky 25 = .ok (.aload_n 0, 1) by decide +kernel))),
  List.forall_mem_cons.mpr ⟨(xOK_pure (xs_getf xcl_12 (by decide) (show decode cX12_sky 26 = .ok (.getfield 40, 3) by decide +kernel) xw_1721)),
  List.forall_mem_cons.mpr ⟨(xOK_pure (xs_iload (show decode cX12_sky 29 = .ok (.iload 4, 2) by decide +kernel))),
  List.forall_mem_cons.mpr ⟨(xOK_pure (xs_iald (show decode cX12_sky 31 = .ok (.iaload, 1) by decide +kernel))),
  List.forall_mem_cons.mpr ⟨(xOK_pure (xs_iload_n (k := 2) rfl (show decode cX12_sky 32 = .ok (.iload_n 2, 1) by decide +kernel))),
  List.forall_mem_cons.mpr ⟨(xOK_pure (xs_icmp_gt (show decode cX12_sky 33 = .ok (.if_icmp .gt 27, 3) by decide +kernel) (by decide))),
  (fun _ h => absurd h List.not_mem_nil)⟩⟩⟩⟩⟩⟩⟩⟩⟩⟩⟩⟩⟩⟩⟩⟩⟩⟩⟩⟩
def pX12_sky_1 (ev : xEv) : List (Nat × xEn) := [(36, .inl (xop (xf_iload 3 1))), (37, .inl (xop (xf_push (.int (-1)) 1))), (38, .inl (xop (xf_icmp_eq 57))), (41, .inl (xop (xf_aload 0 1))), (42, .inl (xop (xf_getf 12 12))), (45, .inl (xop (xf_iload 4 2))), (47, .inl (xop (xf_ald (ev.1 0)))), (48, .inl (xop (xf_aload 0 1))), (49, .inl (xop (xf_getf 12 12))), (52, .inl (xop (xf_iload 3 1))), (53, .inl (xop (xf_ald (ev.1 0)))), (54, .inl (xop (xf_icmp_lt 60))), (57, .inl (xop (xf_iload 4 2))), (59, .inl (xop (xf_istore 3 1))), (60, .inl (xop (xf_iinc 4 1))), (63, .inl (xop (xf_goto 5))), (66, .inl (xop (xf_iload 3 1))), (67, .inr (.inr 1))]
set_option maxRecDepth 20000 in
theorem okpX12_sky_1 (ev : xEv) : ∀ q ∈ pX12_sky_1 ev, xEnOK ev xmi yX12_sky.cls yX12_sky.name cX12_sky 5 (some .int) q :=
  List.forall_mem_cons.mpr ⟨(xOK_pure (xs_iload_n (k := 3) rfl (show decode cX12_sky 36 = .ok (.iload_n 3, 1) by decide +kernel))),
  List.forall_mem_cons.mpr ⟨(xOK_pure (xs_iconst (n := (-1)) (show decode cX12_sky 37 = .ok (.iconst (-1), 1) by decide +kernel) (by decide))),
  List.forall_mem_cons.mpr ⟨(xOK_pure (xs_icmp_eq (show decode cX12_sky 38 = .ok (.if_icmp .eq 19, 3) by decide +kernel) (by decide))),
  List.forall_mem_cons.mpr ⟨(xOK_pure (xs_aload_n (k := 0) rfl (show decode cX12_sky 41 = .ok (.aload_n 0, 1) by decide +kernel))),
  List.forall_mem_cons.mpr ⟨(xOK_pure (xs_getf xcl_12 (by decide) (show decode cX12_sky 42 = .ok (.getfield 40, 3) by decide +kernel) xw_1721)),
  List.forall_mem_cons.mpr ⟨(xOK_pure (xs_iload (show decode cX12_sky 45 = .ok (.iload 4, 2) by decide +kernel))),
  List.forall_mem_cons.mpr ⟨(xOK_pure (xs_iald (show decode cX12_sky 47 = .ok (.iaload, 1) by decide +kernel))),
  List.forall_mem_cons.mpr ⟨(xOK_pure (xs_aload_n (k := 0) rfl (show decode cX12_sky 48 = .ok (.aload_n 0, 1) by decide +kernel))),
  List.forall_mem_cons.mpr ⟨(xOK_pure (xs_getf xcl_12 (by decide) (show decode cX12_sky 49 = .ok (.getfield 40, 3) by decide +kernel) xw_1721)),
  List.forall_mem_cons.mpr ⟨(xOK_pure (xs_iload_n (k := 3) rfl (show decode cX12_sky 52 = .ok (.iload_n 3, 1) by decide +kernel))),
  List.forall_mem_cons.mpr ⟨(xOK_pure (xs_iald (show decode cX12_sky 53 = .ok (.iaload, 1) by decide +kernel))),
  List.forall_mem_cons.mpr ⟨(xOK_pure (xs_icmp_lt (show decode cX12_sky 54 = .ok (.if_icmp .lt 6, 3) by decide +kernel) (by decide))),
  List.forall_mem_cons.mpr ⟨(xOK_pure (xs_iload (show decode cX12_sky 57 = .ok (.iload 4, 2) by decide +kernel))),
  List.forall_mem_cons.mpr ⟨(xOK_pure (xs_istore_n (k := 3) rfl (show decode cX12_sky 59 = .ok (.istore_n 3, 1) by decide +kernel) (by decide))),
  List.forall_mem_cons.mpr ⟨(xOK_pure (xs_iinc (n := 1) (show decode cX12_sky 60 = .ok (.iinc 4 1, 3) by decide +kernel) (by decide) (by decide))),
  List.forall_mem_cons.mpr ⟨(xOK_pure (xs_goto (show decode cX12_sky 63 = .ok (.goto (-58), 3) by decide +kernel) (by decide))),
  List.forall_mem_cons.mpr ⟨(xOK_pure (xs_iload_n (k := 3) rfl (show decode cX12_sky 66 = .ok (.iload_n 3, 1) by decide +kernel))),
  List.forall_mem_cons.mpr ⟨(Or.inr (Or.inl ⟨rfl, (show decode cX12_sky 67 = .ok (.ireturn, 1) by decide +kernel), rfl⟩)),
  (fun _ h => absurd h List.not_mem_nil)⟩⟩⟩⟩⟩⟩⟩⟩⟩⟩⟩⟩⟩⟩⟩⟩⟩⟩
def pX12_sky (ev : xEv) : List (Nat × xEn) := pX12_sky_0 ev ++ (pX12_sky_1 ev)
theorem okpX12_sky (ev : xEv) : ∀ q ∈ pX12_sky ev, xEnOK ev xmi yX12_sky.cls yX12_sky.name cX12_sky 5 (some .int) q := List.forall_mem_append.mpr ⟨okpX12_sky_0 ev, okpX12_sky_1 ev⟩
theorem omX12_sky (ev : xEv) : xMethOK ev xmi yX12_sky.cls yX12_sky.name 211 (pX12_sky ev) := xMethOK.of mi_211 (by decide +kernel) (okpX12_sky ev)
def pX12_cloud (ev : xEv) : List (Nat × xEn) := [(0, .inl (xop (xf_aload 0 1))), (1, .inl (xop (xf_iload 1 1))), (2, .inl (xop (xf_iload 2 1))), (3, .inr (.inl (0, 211, 2, 12))), (6, .inl (xop (xf_istore 3 1))), (7, .inl (xop (xf_iload 3 1))), (8, .inl (xop (xf_push (.int (-1)) 1))), (9, .inl (xop (xf_icmp_ne 18))), (12, .inl (xop (xf_push (.int 200) 3))), (15, .inl (xop (xf_goto 24))), (18, .inl (xop (xf_aload 0 1))), (19, .inl (xop (xf_getf 12 13))), (22, .inl (xop (xf_iload 3 1))), (23, .inl (xop (xf_ald (ev.1 0)))), (24, .inr (.inr 1))]
set_option maxRecDepth 20000 in
theorem okpX12_cloud (ev : xEv) : ∀ q ∈ pX12_cloud ev, xEnOK ev xmi yX12_cloud.cls yX12_cloud.name cX12_cloud 4 (some .int) q :=
  List.forall_mem_cons.mpr ⟨(xOK_pure (xs_aload_n (k := 0) rfl (show decode cX12_cloud 0 = .ok (.aload_n 0, 1) by decide +kernel))),
  List.forall_mem_cons.mpr ⟨(xOK_pure (xs_iload_n (k := 1) rfl (show decode cX12_cloud 1 = .ok (.iload_n 1, 1) by decide +kernel))),
  List.forall_mem_cons.mpr ⟨(xOK_pure (xs_iload_n (k := 2) rfl (show decode cX12_cloud 2 = .ok (.iload_n 2, 1) by decide +kernel))),
  List.forall_mem_cons.mpr ⟨(xcm mi_211 ⟨⟨(by decide +kernel), (by decide +kernel), (by decide +kernel)⟩, (by decide), xw_1957, xw_125, Or.inl ⟨rfl, _, _, _, _, (show decode cX12_cloud 3 = .ok (.invokevirtual 178, 3) by decide +kernel), xw_1954, xw_1956, xw_56, rfl⟩⟩),
  List.forall_mem_cons.mpr ⟨(xOK_pure (xs_istore_n (k := 3) rfl (show decode cX12_cloud 6 = .ok (.istore_n 3, 1) by decide +kernel) (by decide))),
  List.forall_mem_cons.mpr ⟨(xOK_pure (xs_iload_n (k := 3) rfl (show decode cX12_cloud 7 = .ok (.iload_n 3, 1) by decide +kernel))),
  List.forall_mem_cons.mpr ⟨(xOK_pure (xs_iconst (n := (-1)) (show decode cX12_cloud 8 = .ok (.iconst (-1), 1) by decide +kernel) (by decide))),
  List.forall_mem_cons.mpr ⟨(xOK_pure (xs_icmp_ne (show decode cX12_cloud 9 = .ok (.if_icmp .ne 9, 3) by decide +kernel) (by decide))),
  List.forall_mem_cons.mpr ⟨(xOK_pure (xs_sipush (n := 200) (show decode cX12_cloud 12 = .ok (.sipush 200, 3) by decide +kernel) (by decide))),
  List.forall_mem_cons.mpr ⟨(xOK_pure (xs_goto (show decode cX12_cloud 15 = .ok (.goto 9, 3) by decide +kernel) (by decide))),
  List.forall_mem_cons.mpr ⟨(xOK_pure (xs_aload_n (k := 0) rfl (show decode cX12_cloud 18 = .ok (.aload_n 0, 1) by decide +kernel))),
  List.forall_mem_cons.mpr ⟨(xOK_pure (xs_getf xcl_12 (by decide) (show decode cX12_cloud 19 = .ok (.getfield 43, 3) by decide +kernel) xw_1722)),
  List.forall_mem_cons.mpr ⟨(xOK_pure (xs_iload_n (k := 3) rfl (show decode cX12_cloud 22 = .ok (.iload_n 3, 1) by decide +kernel))),
  List.forall_mem_cons.mpr ⟨(xOK_pure (xs_iald (show decode cX12_cloud 23 = .ok (.iaload, 1) by decide +kernel))),
  List.forall_mem_cons.mpr ⟨(Or.inr (Or.inl ⟨rfl, (show decode cX12_cloud 24 = .ok (.ireturn, 1) by decide +kernel), rfl⟩)),
  (fun _ h => absurd h List.not_mem_nil)⟩⟩⟩⟩⟩⟩⟩⟩⟩⟩⟩⟩⟩⟩⟩
theorem omX12_cloud (ev : xEv) : xMethOK ev xmi yX12_cloud.cls yX12_cloud.name 212 (pX12_cloud ev) := xMethOK.of mi_212 (by decide +kernel) (okpX12_cloud ev)
def pX12_wind (ev : xEv) : List (Nat × xEn) := [(0, .inl (xop (xf_aload 0 1))), (1, .inl (xop (xf_iload 1 1))), (2, .inl (xop (xf_iload 2 1))), (3, .inr (.inl (0, 211, 2, 12))), (6, .inl (xop (xf_istore 3 1))), (7, .inl (xop (xf_iload 3 1))), (8, .inl (xop (xf_push (.int (-1)) 1))), (9, .inl (xop (xf_icmp_ne 16))), (12, .inl (xop (xf_push (.int 0) 1))), (13, .inl (xop (xf_goto 22))), (16, .inl (xop (xf_aload 0 1))), (17, .inl (xop (xf_getf 12 14))), (20, .inl (xop (xf_iload 3 1))), (21, .inl (xop (xf_ald (ev.1 0)))), (22, .inr (.inr 1))]
set_option maxRecDepth 20000 in
theorem okpX12_wind (ev : xEv) : ∀ q ∈ pX12_wind ev, xEnOK ev xmi yX12_wind.cls yX12_wind.name cX12_wind 4 (some .int) q :=
  List.forall_mem_cons.mpr ⟨(xOK_pure (xs_aload_n (k := 0) rfl (show decode cX12_wind 0 = .ok (.aload_n 0, 1) by decide +kernel))),
  List.forall_mem_cons.mpr ⟨(xOK_pure (xs_iload_n (k := 1) rfl (show decode cX12_wind 1 = .ok (.iload_n 1, 1) by decide +kernel))),
  List.forall_mem_cons.mpr ⟨(xOK_pure (xs_iload_n (k := 2) rfl (show decode cX12_wind 2 = .ok (.iload_n 2, 1) by decide +kernel))),
  List.forall_mem_cons.mpr ⟨(xcm mi_211 ⟨⟨(by decide +kernel), (by decide +kernel), (by decide +kernel)⟩, (by decide), xw_1957, xw_125, Or.inl ⟨rfl, _, _, _, _, (show decode cX12_wind 3 = .ok (.invokevirtual 178, 3) by decide +kernel), xw_1954, xw_1956, xw_56, rfl⟩⟩),
  List.forall_mem_cons.mpr ⟨(xOK_pure (xs_istore_n (k := 3) rfl (show decode cX12_wind 6 = .ok (.istore_n 3, 1) by decide +kernel) (by decide))),
  List.forall_mem_cons.mpr ⟨(xOK_pure (xs_iload_n (k := 3) rfl (show decode cX12_wind 7 = .ok (.iload_n 3, 1) by decide +kernel))),
  List.forall_mem_cons.mpr ⟨(xOK_pure (xs_iconst (n := (-1)) (show decode cX12_wind 8 = .ok (.iconst (-1), 1) by decide +kernel) (by decide))),
  List.forall_mem_cons.mpr ⟨(xOK_pure (xs_icmp_ne (show decode cX12_wind 9 = .ok (.if_icmp .ne 7, 3) by decide +kernel) (by decide))),
  List.forall_mem_cons.mpr ⟨(xOK_pure (xs_iconst (n := 0) (show decode cX12_wind 12 = .ok (.iconst 0, 1) by decide +kernel) (by decide))),
  List.forall_mem_cons.mpr ⟨(xOK_pure (xs_goto (show decode cX12_wind 13 = .ok (.goto 9, 3) by decide +kernel) (by decide))),
  List.forall_mem_cons.mpr ⟨(xOK_pure (xs_aload_n (k := 0) rfl (show decode cX12_wind 16 = .ok (.aload_n 0, 1) by decide +kernel))),
  List.forall_mem_cons.mpr ⟨(xOK_pure (xs_getf xcl_12 (by decide) (show decode cX12_wind 17 = .ok (.getfield 46, 3) by decide +kernel) xw_1723)),
  List.forall_mem_cons.mpr ⟨(xOK_pure (xs_iload_n (k := 3) rfl (show decode cX12_wind 20 = .ok (.iload_n 3, 1) by decide +kernel))),
  List.forall_mem_cons.mpr ⟨(xOK_pure (xs_iald (show decode cX12_wind 21 = .ok (.iaload, 1) by decide +kernel))),
  List.forall_mem_cons.mpr ⟨(Or.inr (Or.inl ⟨rfl, (show decode cX12_wind 22 = .ok (.ireturn, 1) by decide +kernel), rfl⟩)),
  (fun _ h => absurd h List.not_mem_nil)⟩⟩⟩⟩⟩⟩⟩⟩⟩⟩⟩⟩⟩⟩⟩
theorem omX12_wind (ev : xEv) : xMethOK ev xmi yX12_wind.cls yX12_wind.name 213 (pX12_wind ev) := xMethOK.of mi_213 (by decide +kernel) (okpX12_wind ev)
def pX12_sky__0 (ev : xEv) : List (Nat × xEn) := [(0, .inl (xop (xf_aload 0 1))), (1, .inl (xop (xf_push (.int 0) 1))), (2, .inl (xo_putf 12 47 .int)), (5, .inl (xop (xf_aload 0 1))), (6, .inl (xop (xf_iload 1 1))), (7, .inr (.inl (0, 191, 1, 12))), (10, .inl (xop (xf_if_eq 33))), (13, .inl (xop (xf_iload 2 1))), (14, .inl (xop (xf_push (.int 0) 1))), (15, .inl (xop (xf_push (.int 3000) 3))), (18, .inr (.inl (1, 188, 3, 12))), (21, .inl (xop (xf_if_eq 33))), (24, .inl (xop (xf_iload 3 1))), (25, .inl (xop (xf_push (.int 0) 1))), (26, .inl (xop (xf_push (.int 1) 1))), (27, .inr (.inl (1, 188, 3, 12))), (30, .inl (xop (xf_if_ne 38))), (33, .inl (xop (xf_aload 0 1))), (34, .inr (.inl (0, 189, 0, 12))), (37, .inr (.inr 1))]
set_option maxRecDepth 20000 in
theorem okpX12_sky__0 (ev : xEv) : ∀ q ∈ pX12_sky__0 ev, xEnOK ev xmi yX12_sky_.cls yX12_sky_.name cX12_sky_ 4 (some .int) q :=
  List.forall_mem_cons.mpr ⟨(xOK_pure (xs_aload_n (k := 0) rfl (show decode cX12_sky_ 0 = .ok (.aload_n 0, 1) by decide +kernel))),
  List.forall_mem_cons.mpr ⟨(xOK_pure (xs_iconst (n := 0) (show decode cX12_sky_ 1 = .ok (.iconst 0, 1) by decide +kernel) (by decide))),
  List.forall_mem_cons.mpr ⟨(xs_putf (k := 47) xcl_12 (by decide) rfl (show decode cX12_sky_ 2 = .ok (.putfield 140, 3) by decide +kernel) xw_1756),
  List.forall_mem_cons.mpr ⟨(xOK_pure (xs_aload_n (k := 0) rfl (show decode cX12_sky_ 5 = .ok (.aload_n 0, 1) by decide +kernel))),
  List.forall_mem_cons.mpr ⟨(xOK_pure (xs_iload_n (k := 1) rfl (show decode cX12_sky_ 6 = .ok (.iload_n 1, 1) by decide +kernel))),
  List.forall_mem_cons.mpr ⟨(xcm mi_191 ⟨⟨(by decide +kernel), (by decide +kernel), (by decide +kernel)⟩, (by decide), xw_1933, xw_125, Or.inl ⟨rfl, _, _, _, _, (show decode cX12_sky_ 7 = .ok (.invokevirtual 172, 3) by decide +kernel), xw_1930, xw_1932, xw_53, rfl⟩⟩),
  List.forall_mem_cons.mpr ⟨(xOK_pure (xs_if_eq (show decode cX12_sky_ 10 = .ok (.ifCond .eq 23, 3) by decide +kernel) (by decide))),
  List.forall_mem_cons.mpr ⟨(xOK_pure (xs_iload_n (k := 2) rfl (show decode cX12_sky_ 13 = .ok (.iload_n 2, 1) by decide +kernel))),
  List.forall_mem_cons.mpr ⟨(xOK_pure (xs_iconst (n := 0) (show decode cX12_sky_ 14 = .ok (.iconst 0, 1) by decide +kernel) (by decide))),
  List.forall_mem_cons.mpr ⟨(xOK_pure (xs_sipush (n := 3000) (show decode cX12_sky_ 15 = .ok (.sipush 3000, 3) by decide +kernel) (by decide))),
  List.forall_mem_cons.mpr ⟨(xcm mi_188 ⟨⟨(by decide +kernel), (by decide +kernel), (by decide +kernel)⟩, (by decide), xw_1912, xw_125, Or.inr (Or.inl ⟨rfl, _, (show decode cX12_sky_ 18 = .ok (.invokestatic 146, 3) by decide +kernel), xw_1910, xw_1911⟩)⟩),
  List.forall_mem_cons.mpr ⟨(xOK_pure (xs_if_eq (show decode cX12_sky_ 21 = .ok (.ifCond .eq 12, 3) by decide +kernel) (by decide))),
  List.forall_mem_cons.mpr ⟨(xOK_pure (xs_iload_n (k := 3) rfl (show decode cX12_sky_ 24 = .ok (.iload_n 3, 1) by decide +kernel))),
  List.forall_mem_cons.mpr ⟨(xOK_pure (xs_iconst (n := 0) (show decode cX12_sky_ 25 = .ok (.iconst 0, 1) by decide +kernel) (by decide))),
  List.forall_mem_cons.mpr ⟨(xOK_pure (xs_iconst (n := 1) (show decode cX12_sky_ 26 = .ok (.iconst 1, 1) by decide +kernel) (by decide))),
  List.forall_mem_cons.mpr ⟨(xcm mi_188 ⟨⟨(by decide +kernel), (by decide +kernel), (by decide +kernel)⟩, (by decide), xw_1912, xw_125, Or.inr (Or.inl ⟨rfl, _, (show decode cX12_sky_ 27 = .ok (.invokestatic 146, 3) by decide +kernel), xw_1910, xw_1911⟩)⟩),
  List.forall_mem_cons.mpr ⟨(xOK_pure (xs_if_ne (show decode cX12_sky_ 30 = .ok (.ifCond .ne 8, 3) by decide +kernel) (by decide))),
  List.forall_mem_cons.mpr ⟨(xOK_pure (xs_aload_n (k := 0) rfl (show decode cX12_sky_ 33 = .ok (.aload_n 0, 1) by decide +kernel))),
  List.forall_mem_cons.mpr ⟨(xcm mi_189 ⟨⟨(by decide +kernel), (by decide +kernel), (by decide +kernel)⟩, (by decide), xw_1949, xw_125, Or.inl ⟨rfl, _, _, _, _, (show decode cX12_sky_ 34 = .ok (.invokevirtual 181, 3) by decide +kernel), xw_1946, xw_1948, xw_54, rfl⟩⟩),
  List.forall_mem_cons.mpr ⟨(Or.inr (Or.inl ⟨rfl, (show decode cX12_sky_ 37 = .ok (.ireturn, 1) by decide +kernel), rfl⟩)),
  (fun _ h => absurd h List.not_mem_nil)⟩⟩⟩⟩⟩⟩⟩⟩⟩⟩⟩⟩⟩⟩⟩⟩⟩⟩⟩⟩
def pX12_sky__1 (ev : xEv) : List (Nat × xEn) := [(38, .inl (xop (xf_iload 3 1))), (39, .inl (xop (xf_if_ne 51))), (42, .inl (xop (xf_aload 0 1))), (43, .inl (xop (xf_iload 1 1))), (44, .inl (xop (xf_iload 2 1))), (45, .inr (.inl (0, 212, 2, 12))), (48, .inl (xop (xf_goto 57))), (51, .inl (xop (xf_aload 0 1))), (52, .inl (xop (xf_iload 1 1))), (53, .inl (xop (xf_iload 2 1))), (54, .inr (.inl (0, 213, 2, 12))), (57, .inr (.inr 1))]
set_option maxRecDepth 20000 in
theorem okpX12_sky__1 (ev : xEv) : ∀ q ∈ pX12_sky__1 ev, xEnOK ev xmi yX12_sky_.cls yX12_sky_.name cX12_sky_ 4 (some .int) q :=
  List.forall_mem_cons.mpr ⟨(xOK_pure (xs_iload_n (k := 3) rfl (show decode cX12_sky_ 38 = .ok (.iload_n 3, 1) by decide +kernel))),
  List.forall_mem_cons.mpr ⟨(xOK_pure (xs_if_ne (show decode cX12_sky_ 39 = .ok (.ifCond .ne 12, 3) by decide +kernel) (by decide))),
  List.forall_mem_cons.mpr ⟨(xOK_pure (xs_aload_n (k := 0) rfl (show decode cX12_sky_ 42 = .ok (.aload_n 0, 1) by decide +kernel))),
  List.forall_mem_cons.mpr ⟨(xOK_pure (xs_iload_n (k := 1) rfl (show decode cX12_sky_ 43 = .ok (.iload_n 1, 1) by decide +kernel))),
  List.forall_mem_cons.mpr ⟨(xOK_pure (xs_iload_n (k := 2) rfl (show decode cX12_sky_ 44 = .ok (.iload_n 2, 1) by decide +kernel))),
  List.forall_mem_cons.mpr ⟨(xcm mi_212 ⟨⟨(by decide +kernel), (by decide +kernel), (by decide +kernel)⟩, (by decide), xw_1953, xw_125, Or.inl ⟨rfl, _, _, _, _, (show decode cX12_sky_ 45 = .ok (.invokevirtual 185, 3) by decide +kernel), xw_1950, xw_1952, xw_55, rfl⟩⟩),
  List.forall_mem_cons.mpr ⟨(xOK_pure (xs_goto (show decode cX12_sky_ 48 = .ok (.goto 9, 3) by decide +kernel) (by decide))),
  List.forall_mem_cons.mpr ⟨(xOK_pure (xs_aload_n (k := 0) rfl (show decode cX12_sky_ 51 = .ok (.aload_n 0, 1) by decide +kernel))),
  List.forall_mem_cons.mpr ⟨(xOK_pure (xs_iload_n (k := 1) rfl (show decode cX12_sky_ 52 = .ok (.iload_n 1, 1) by decide +kernel))),
  List.forall_mem_cons.mpr ⟨(xOK_pure (xs_iload_n (k := 2) rfl (show decode cX12_sky_ 53 = .ok (.iload_n 2, 1) by decide +kernel))),
  List.forall_mem_cons.mpr ⟨(xcm mi_213 ⟨⟨(by decide +kernel), (by decide +kernel), (by decide +kernel)⟩, (by decide), xw_1961, xw_125, Or.inl ⟨rfl, _, _, _, _, (show decode cX12_sky_ 54 = .ok (.invokevirtual 188, 3) by decide +kernel), xw_1958, xw_1960, xw_57, rfl⟩⟩),
  List.forall_mem_cons.mpr ⟨(Or.inr (Or.inl ⟨rfl, (show decode cX12_sky_ 57 = .ok (.ireturn, 1) by decide +kernel), rfl⟩)),
  (fun _ h => absurd h List.not_mem_nil)⟩⟩⟩⟩⟩⟩⟩⟩⟩⟩⟩⟩
def pX12_sky_ (ev : xEv) : List (Nat × xEn) := pX12_sky__0 ev ++ (pX12_sky__1 ev)
theorem okpX12_sky_ (ev : xEv) : ∀ q ∈ pX12_sky_ ev, xEnOK ev xmi yX12_sky_.cls yX12_sky_.name cX12_sky_ 4 (some .int) q := List.forall_mem_append.mpr ⟨okpX12_sky__0 ev, okpX12_sky__1 ev⟩
theorem omX12_sky_ (ev : xEv) : xMethOK ev xmi yX12_sky_.cls yX12_sky_.name 214 (pX12_sky_ ev) := xMethOK.of mi_214 (by decide +kernel) (okpX12_sky_ ev)
def pX12_say_0 (ev : xEv) : List (Nat × xEn) := [(0, .inl (xop (xf_aload 0 1))), (1, .inl (xop (xf_getf 12 48))), (4, .inl (xop (xf_push (.int 2) 1))), (5, .inl (xop (xf_ald (ev.1 0)))), (6, .inl (xop (xf_push (.int 120) 2))), (8, .inl (xop (xf_icmp_ne 12))), (11, .inr (.inr 0)), (12, .inl (xop (xf_push (.int 1465) 3))), (15, .inl (xop (xf_push (.int 7) 2))), (17, .inl (xop (xf_aload 0 1))), (18, .inl (xop (xf_getf 12 48))), (21, .inl (xop (xf_push (.int 2) 1))), (22, .inl (xop (xf_ald (ev.1 0)))), (23, .inl (xop (xf_bin (fun x y => x * y)))), (24, .inl (xop (xf_bin (fun x y => x + y)))), (25, .inl (xop (xf_istore 6 2))), (27, .inl (xop (xf_aload 0 1))), (28, .inl (xop (xf_getf 12 48))), (31, .inl (xop (xf_iload 6 2))), (33, .inl (xop (xf_push (.int 0) 1)))]
set_option maxRecDepth 20000 in
theorem okpX12_say_0 (ev : xEv) : ∀ q ∈ pX12_say_0 ev, xEnOK ev xmi yX12_say.cls yX12_say.name cX12_say 7 none q :=
  List.forall_mem_cons.mpr ⟨(xOK_pure (xs_aload_n (k := 0) rfl (show decode cX12_say 0 = .ok (.aload_n 0, 1) by decide +kernel))),
  List.forall_mem_cons.mpr ⟨(xOK_pure (xs_getf xcl_12 (by decide) (show decode cX12_say 1 = .ok (.getfield 121, 3) by decide +kernel) xw_1757)),
  List.forall_mem_cons.mpr ⟨(xOK_pure (xs_iconst (n := 2) (show decode cX12_say 4 = .ok (.iconst 2, 1) by decide +kernel) (by decide))),
  List.forall_mem_cons.mpr ⟨(xOK_pure (xs_iald (show decode cX12_say 5 = .ok (.iaload, 1) by decide +kernel))),
  List.forall_mem_cons.mpr ⟨(xOK_pure (xs_bipush (n := 120) (show decode cX12_say 6 = .ok (.bipush 120, 2) by decide +kernel) (by decide))),
  List.forall_mem_cons.mpr ⟨(xOK_pure (xs_icmp_ne (show decode cX12_say 8 = .ok (.if_icmp .ne 4, 3) by decide +kernel) (by decide))),
  List.forall_mem_cons.mpr ⟨(Or.inl ⟨rfl, (show decode cX12_say 11 = .ok (.return_, 1) by decide +kernel), rfl⟩),
  List.forall_mem_cons.mpr ⟨(xOK_pure (xs_sipush (n := 1465) (show decode cX12_say 12 = .ok (.sipush 1465, 3) by decide +kernel) (by decide))),
  List.forall_mem_cons.mpr ⟨(xOK_pure (xs_bipush (n := 7) (show decode cX12_say 15 = .ok (.bipush 7, 2) by decide +kernel) (by decide))),
  List.forall_mem_cons.mpr ⟨(xOK_pure (xs_aload_n (k := 0) rfl (show decode cX12_say 17 = .ok (.aload_n 0, 1) by decide +kernel))),
  List.forall_mem_cons.mpr ⟨(xOK_pure (xs_getf xcl_12 (by decide) (show decode cX12_say 18 = .ok (.getfield 121, 3) by decide +kernel) xw_1757)),
  List.forall_mem_cons.mpr ⟨(xOK_pure (xs_iconst (n := 2) (show decode cX12_say 21 = .ok (.iconst 2, 1) by decide +kernel) (by decide))),
  List.forall_mem_cons.mpr ⟨(xOK_pure (xs_iald (show decode cX12_say 22 = .ok (.iaload, 1) by decide +kernel))),
  List.forall_mem_cons.mpr ⟨(xOK_pure (xs_imul (show decode cX12_say 23 = .ok (.imul, 1) by decide +kernel))),
  List.forall_mem_cons.mpr ⟨(xOK_pure (xs_iadd (show decode cX12_say 24 = .ok (.iadd, 1) by decide +kernel))),
  List.forall_mem_cons.mpr ⟨(xOK_pure (xs_istore (show decode cX12_say 25 = .ok (.istore 6, 2) by decide +kernel) (by decide))),
  List.forall_mem_cons.mpr ⟨(xOK_pure (xs_aload_n (k := 0) rfl (show decode cX12_say 27 = .ok (.aload_n 0, 1) by decide +kernel))),
  List.forall_mem_cons.mpr ⟨(xOK_pure (xs_getf xcl_12 (by decide) (show decode cX12_say 28 = .ok (.getfield 121, 3) by decide +kernel) xw_1757)),
  List.forall_mem_cons.mpr ⟨(xOK_pure (xs_iload (show decode cX12_say 31 = .ok (.iload 6, 2) by decide +kernel))),
  List.forall_mem_cons.mpr ⟨(xOK_pure (xs_iconst (n := 0) (show decode cX12_say 33 = .ok (.iconst 0, 1) by decide +kernel) (by decide))),
  (fun _ h => absurd h List.not_mem_nil)⟩⟩⟩⟩⟩⟩⟩⟩⟩⟩⟩⟩⟩⟩⟩⟩⟩⟩⟩⟩
def pX12_say_1 (ev : xEv) : List (Nat × xEn) := [(34, .inl (xop (xf_bin (fun x y => x + y)))), (35, .inl (xop (xf_iload 2 1))), (36, .inl (xo_ast (ev.1 0) (fun x => x))), (37, .inl (xop (xf_aload 0 1))), (38, .inl (xop (xf_getf 12 48))), (41, .inl (xop (xf_iload 6 2))), (43, .inl (xop (xf_push (.int 1) 1))), (44, .inl (xop (xf_bin (fun x y => x + y)))), (45, .inl (xop (xf_iload 3 1))), (46, .inl (xo_ast (ev.1 0) (fun x => x))), (47, .inl (xop (xf_aload 0 1))), (48, .inl (xop (xf_getf 12 48))), (51, .inl (xop (xf_iload 6 2))), (53, .inl (xop (xf_push (.int 2) 1))), (54, .inl (xop (xf_bin (fun x y => x + y)))), (55, .inl (xop (xf_iload 4 2))), (57, .inl (xo_ast (ev.1 0) (fun x => x))), (58, .inl (xop (xf_aload 0 1))), (59, .inl (xop (xf_getf 12 48))), (62, .inl (xop (xf_iload 6 2)))]
set_option maxRecDepth 20000 in
theorem okpX12_say_1 (ev : xEv) : ∀ q ∈ pX12_say_1 ev, xEnOK ev xmi yX12_say.cls yX12_say.name cX12_say 7 none q :=
  List.forall_mem_cons.mpr ⟨(xOK_pure (xs_iadd (show decode cX12_say 34 = .ok (.iadd, 1) by decide +kernel))),
  List.forall_mem_cons.mpr ⟨(xOK_pure (xs_iload_n (k := 2) rfl (show decode cX12_say 35 = .ok (.iload_n 2, 1) by decide +kernel))),
  List.forall_mem_cons.mpr ⟨(xs_iast (show decode cX12_say 36 = .ok (.iastore, 1) by decide +kernel)),
  List.forall_mem_cons.mpr ⟨(xOK_pure (xs_aload_n (k := 0) rfl (show decode cX12_say 37 = .ok (.aload_n 0, 1) by decide +kernel))),
  List.forall_mem_cons.mpr ⟨(xOK_pure (xs_getf xcl_12 (by decide) (show decode cX12_say 38 = .ok (.getfield 121, 3) by decide +kernel) xw_1757)),
  List.forall_mem_cons.mpr ⟨(xOK_pure (xs_iload (show decode cX12_say 41 = .ok (.iload 6, 2) by decide +kernel))),
  List.forall_mem_cons.mpr ⟨(xOK_pure (xs_iconst (n := 1) (show decode cX12_say 43 = .ok (.iconst 1, 1) by decide +kernel) (by decide))),
  List.forall_mem_cons.mpr ⟨(xOK_pure (xs_iadd (show decode cX12_say 44 = .ok (.iadd, 1) by decide +kernel))),
  List.forall_mem_cons.mpr ⟨(xOK_pure (xs_iload_n (k := 3) rfl (show decode cX12_say 45 = .ok (.iload_n 3, 1) by decide +kernel))),
  List.forall_mem_cons.mpr ⟨(xs_iast (show decode cX12_say 46 = .ok (.iastore, 1) by decide +kernel)),
  List.forall_mem_cons.mpr ⟨(xOK_pure (xs_aload_n (k := 0) rfl (show decode cX12_say 47 = .ok (.aload_n 0, 1) by decide +kernel))),
  List.forall_mem_cons.mpr ⟨(xOK_pure (xs_getf xcl_12 (by decide) (show decode cX12_say 48 = .ok (.getfield 121, 3) by decide +kernel) xw_1757)),
  List.forall_mem_cons.mpr ⟨(xOK_pure (xs_iload (show decode cX12_say 51 = .ok (.iload 6, 2) by decide +kernel))),
  List.forall_mem_cons.mpr ⟨(xOK_pure (xs_iconst (n := 2) (show decode cX12_say 53 = .ok (.iconst 2, 1) by decide +kernel) (by decide))),
  List.forall_mem_cons.mpr ⟨(xOK_pure (xs_iadd (show decode cX12_say 54 = .ok (.iadd, 1) by decide +kernel))),
  List.forall_mem_cons.mpr ⟨(xOK_pure (xs_iload (show decode cX12_say 55 = .ok (.iload 4, 2) by decide +kernel))),
  List.forall_mem_cons.mpr ⟨(xs_iast (show decode cX12_say 57 = .ok (.iastore, 1) by decide +kernel)),
  List.forall_mem_cons.mpr ⟨(xOK_pure (xs_aload_n (k := 0) rfl (show decode cX12_say 58 = .ok (.aload_n 0, 1) by decide +kernel))),
  List.forall_mem_cons.mpr ⟨(xOK_pure (xs_getf xcl_12 (by decide) (show decode cX12_say 59 = .ok (.getfield 121, 3) by decide +kernel) xw_1757)),
  List.forall_mem_cons.mpr ⟨(xOK_pure (xs_iload (show decode cX12_say 62 = .ok (.iload 6, 2) by decide +kernel))),
  (fun _ h => absurd h List.not_mem_nil)⟩⟩⟩⟩⟩⟩⟩⟩⟩⟩⟩⟩⟩⟩⟩⟩⟩⟩⟩⟩
def pX12_say_2 (ev : xEv) : List (Nat × xEn) := [(64, .inl (xop (xf_push (.int 3) 1))), (65, .inl (xop (xf_bin (fun x y => x + y)))), (66, .inl (xop (xf_iload 5 2))), (68, .inl (xo_ast (ev.1 0) (fun x => x))), (69, .inl (xop (xf_aload 0 1))), (70, .inl (xop (xf_getf 12 48))), (73, .inl (xop (xf_iload 6 2))), (75, .inl (xop (xf_push (.int 4) 1))), (76, .inl (xop (xf_bin (fun x y => x + y)))), (77, .inl (xop (xf_iload 1 1))), (78, .inl (xo_ast (ev.1 0) (fun x => x))), (79, .inl (xop (xf_aload 0 1))), (80, .inl (xop (xf_getf 12 48))), (83, .inl (xop (xf_iload 6 2))), (85, .inl (xop (xf_push (.int 5) 1))), (86, .inl (xop (xf_bin (fun x y => x + y)))), (87, .inl (xop (xf_aload 0 1))), (88, .inl (xop (xf_getf 12 48))), (91, .inl (xop (xf_push (.int 0) 1))), (92, .inl (xop (xf_ald (ev.1 0))))]
set_option maxRecDepth 20000 in
theorem okpX12_say_2 (ev : xEv) : ∀ q ∈ pX12_say_2 ev, xEnOK ev xmi yX12_say.cls yX12_say.name cX12_say 7 none q :=
  List.forall_mem_cons.mpr ⟨(xOK_pure (xs_iconst (n := 3) (show decode cX12_say 64 = .ok (.iconst 3, 1) by decide +kernel) (by decide))),
  List.forall_mem_cons.mpr ⟨(xOK_pure (xs_iadd (show decode cX12_say 65 = .ok (.iadd, 1) by decide +kernel))),
  List.forall_mem_cons.mpr ⟨(xOK_pure (xs_iload (show decode cX12_say 66 = .ok (.iload 5, 2) by decide +kernel))),
  List.forall_mem_cons.mpr ⟨(xs_iast (show decode cX12_say 68 = .ok (.iastore, 1) by decide +kernel)),
  List.forall_mem_cons.mpr ⟨(xOK_pure (xs_aload_n (k := 0) rfl (show decode cX12_say 69 = .ok (.aload_n 0, 1) by decide +kernel))),
  List.forall_mem_cons.mpr ⟨(xOK_pure (xs_getf xcl_12 (by decide) (show decode cX12_say 70 = .ok (.getfield 121, 3) by decide +kernel) xw_1757)),
  List.forall_mem_cons.mpr ⟨(xOK_pure (xs_iload (show decode cX12_say 73 = .ok (.iload 6, 2) by decide +kernel))),
  List.forall_mem_cons.mpr ⟨(xOK_pure (xs_iconst (n := 4) (show decode cX12_say 75 = .ok (.iconst 4, 1) by decide +kernel) (by decide))),
  List.forall_mem_cons.mpr ⟨(xOK_pure (xs_iadd (show decode cX12_say 76 = .ok (.iadd, 1) by decide +kernel))),
  List.forall_mem_cons.mpr ⟨(xOK_pure (xs_iload_n (k := 1) rfl (show decode cX12_say 77 = .ok (.iload_n 1, 1) by decide +kernel))),
  List.forall_mem_cons.mpr ⟨(xs_iast (show decode cX12_say 78 = .ok (.iastore, 1) by decide +kernel)),
  List.forall_mem_cons.mpr ⟨(xOK_pure (xs_aload_n (k := 0) rfl (show decode cX12_say 79 = .ok (.aload_n 0, 1) by decide +kernel))),
  List.forall_mem_cons.mpr ⟨(xOK_pure (xs_getf xcl_12 (by decide) (show decode cX12_say 80 = .ok (.getfield 121, 3) by decide +kernel) xw_1757)),
  List.forall_mem_cons.mpr ⟨(xOK_pure (xs_iload (show decode cX12_say 83 = .ok (.iload 6, 2) by decide +kernel))),
  List.forall_mem_cons.mpr ⟨(xOK_pure (xs_iconst (n := 5) (show decode cX12_say 85 = .ok (.iconst 5, 1) by decide +kernel) (by decide))),
  List.forall_mem_cons.mpr ⟨(xOK_pure (xs_iadd (show decode cX12_say 86 = .ok (.iadd, 1) by decide +kernel))),
  List.forall_mem_cons.mpr ⟨(xOK_pure (xs_aload_n (k := 0) rfl (show decode cX12_say 87 = .ok (.aload_n 0, 1) by decide +kernel))),
  List.forall_mem_cons.mpr ⟨(xOK_pure (xs_getf xcl_12 (by decide) (show decode cX12_say 88 = .ok (.getfield 121, 3) by decide +kernel) xw_1757)),
  List.forall_mem_cons.mpr ⟨(xOK_pure (xs_iconst (n := 0) (show decode cX12_say 91 = .ok (.iconst 0, 1) by decide +kernel) (by decide))),
  List.forall_mem_cons.mpr ⟨(xOK_pure (xs_iald (show decode cX12_say 92 = .ok (.iaload, 1) by decide +kernel))),
  (fun _ h => absurd h List.not_mem_nil)⟩⟩⟩⟩⟩⟩⟩⟩⟩⟩⟩⟩⟩⟩⟩⟩⟩⟩⟩⟩
def pX12_say_3 (ev : xEv) : List (Nat × xEn) := [(93, .inl (xo_ast (ev.1 0) (fun x => x))), (94, .inl (xop (xf_aload 0 1))), (95, .inl (xop (xf_getf 12 48))), (98, .inl (xop (xf_iload 6 2))), (100, .inl (xop (xf_push (.int 6) 2))), (102, .inl (xop (xf_bin (fun x y => x + y)))), (103, .inl (xop (xf_aload 0 1))), (104, .inl (xop (xf_getf 12 34))), (107, .inl (xo_ast (ev.1 0) (fun x => x))), (108, .inl (xop (xf_aload 0 1))), (109, .inl (xop (xf_getf 12 48))), (112, .inl (xop (xf_push (.int 2) 1))), (113, .inl (xop xf_dup2)), (114, .inl (xop (xf_ald (ev.1 0)))), (115, .inl (xop (xf_push (.int 1) 1))), (116, .inl (xop (xf_bin (fun x y => x + y)))), (117, .inl (xo_ast (ev.1 0) (fun x => x))), (118, .inr (.inr 0))]
set_option maxRecDepth 20000 in
theorem okpX12_say_3 (ev : xEv) : ∀ q ∈ pX12_say_3 ev, xEnOK ev xmi yX12_say.cls yX12_say.name cX12_say 7 none q :=
  List.forall_mem_cons.mpr ⟨(xs_iast (show decode cX12_say 93 = .ok (.iastore, 1) by decide +kernel)),
  List.forall_mem_cons.mpr ⟨(xOK_pure (xs_aload_n (k := 0) rfl (show decode cX12_say 94 = .ok (.aload_n 0, 1) by decide +kernel))),
  List.forall_mem_cons.mpr ⟨(xOK_pure (xs_getf xcl_12 (by decide) (show decode cX12_say 95 = .ok (.getfield 121, 3) by decide +kernel) xw_1757)),
  List.forall_mem_cons.mpr ⟨(xOK_pure (xs_iload (show decode cX12_say 98 = .ok (.iload 6, 2) by decide +kernel))),
  List.forall_mem_cons.mpr ⟨(xOK_pure (xs_bipush (n := 6) (show decode cX12_say 100 = .ok (.bipush 6, 2) by decide +kernel) (by decide))),
  List.forall_mem_cons.mpr ⟨(xOK_pure (xs_iadd (show decode cX12_say 102 = .ok (.iadd, 1) by decide +kernel))),
  List.forall_mem_cons.mpr ⟨(xOK_pure (xs_aload_n (k := 0) rfl (show decode cX12_say 103 = .ok (.aload_n 0, 1) by decide +kernel))),
  List.forall_mem_cons.mpr ⟨(xOK_pure (xs_getf xcl_12 (by decide) (show decode cX12_say 104 = .ok (.getfield 92, 3) by decide +kernel) xw_1743)),
  List.forall_mem_cons.mpr ⟨(xs_iast (show decode cX12_say 107 = .ok (.iastore, 1) by decide +kernel)),
  List.forall_mem_cons.mpr ⟨(xOK_pure (xs_aload_n (k := 0) rfl (show decode cX12_say 108 = .ok (.aload_n 0, 1) by decide +kernel))),
  List.forall_mem_cons.mpr ⟨(xOK_pure (xs_getf xcl_12 (by decide) (show decode cX12_say 109 = .ok (.getfield 121, 3) by decide +kernel) xw_1757)),
  List.forall_mem_cons.mpr ⟨(xOK_pure (xs_iconst (n := 2) (show decode cX12_say 112 = .ok (.iconst 2, 1) by decide +kernel) (by decide))),
  List.forall_mem_cons.mpr ⟨(xOK_pure (xs_dup2 (show decode cX12_say 113 = .ok (.dup2, 1) by decide +kernel))),
  List.forall_mem_cons.mpr ⟨(xOK_pure (xs_iald (show decode cX12_say 114 = .ok (.iaload, 1) by decide +kernel))),
  List.forall_mem_cons.mpr ⟨(xOK_pure (xs_iconst (n := 1) (show decode cX12_say 115 = .ok (.iconst 1, 1) by decide +kernel) (by decide))),
  List.forall_mem_cons.mpr ⟨(xOK_pure (xs_iadd (show decode cX12_say 116 = .ok (.iadd, 1) by decide +kernel))),
  List.forall_mem_cons.mpr ⟨(xs_iast (show decode cX12_say 117 = .ok (.iastore, 1) by decide +kernel)),
  List.forall_mem_cons.mpr ⟨(Or.inl ⟨rfl, (show decode cX12_say 118 = .ok (.return_, 1) by decide +kernel), rfl⟩),
  (fun _ h => absurd h List.not_mem_nil)⟩⟩⟩⟩⟩⟩⟩⟩⟩⟩⟩⟩⟩⟩⟩⟩⟩⟩
def pX12_say (ev : xEv) : List (Nat × xEn) := pX12_say_0 ev ++ (pX12_say_1 ev ++ (pX12_say_2 ev ++ (pX12_say_3 ev)))
theorem okpX12_say (ev : xEv) : ∀ q ∈ pX12_say ev, xEnOK ev xmi yX12_say.cls yX12_say.name cX12_say 7 none q := List.forall_mem_append.mpr ⟨okpX12_say_0 ev, List.forall_mem_append.mpr ⟨okpX12_say_1 ev, List.forall_mem_append.mpr ⟨okpX12_say_2 ev, okpX12_say_3 ev⟩⟩⟩
theorem omX12_say (ev : xEv) : xMethOK ev xmi yX12_say.cls yX12_say.name 215 (pX12_say ev) := xMethOK.of mi_215 (by decide +kernel) (okpX12_say ev)
def pX12_word_0 (ev : xEv) : List (Nat × xEn) := [(0, .inl (xop (xf_aload 0 1))), (1, .inl (xop (xf_push (.int 0) 1))), (2, .inl (xo_putf 12 47 .int)), (5, .inl (xop (xf_aload 0 1))), (6, .inl (xop (xf_iload 1 1))), (7, .inr (.inl (0, 190, 1, 12))), (10, .inl (xop (xf_if_eq 70))), (13, .inl (xop (xf_aload 0 1))), (14, .inl (xop (xf_iload 2 1))), (15, .inr (.inl (0, 191, 1, 12))), (18, .inl (xop (xf_if_eq 70))), (21, .inl (xop (xf_iload 3 1))), (22, .inl (xop (xf_push (.int 0) 1))), (23, .inl (xop (xf_aload 0 1))), (24, .inl (xop (xf_getf 12 48))), (27, .inl (xop (xf_push (.int 0) 1))), (28, .inl (xop (xf_ald (ev.1 0)))), (29, .inr (.inl (1, 188, 3, 12))), (32, .inl (xop (xf_if_eq 70))), (35, .inl (xop (xf_iload 4 2)))]
set_option maxRecDepth 20000 in
theorem okpX12_word_0 (ev : xEv) : ∀ q ∈ pX12_word_0 ev, xEnOK ev xmi yX12_word.cls yX12_word.name cX12_word 6 (some .int) q :=
  List.forall_mem_cons.mpr ⟨(xOK_pure (xs_aload_n (k := 0) rfl (show decode cX12_word 0 = .ok (.aload_n 0, 1) by decide +kernel))),
  List.forall_mem_cons.mpr ⟨(xOK_pure (xs_iconst (n := 0) (show decode cX12_word 1 = .ok (.iconst 0, 1) by decide +kernel) (by decide))),
  List.forall_mem_cons.mpr ⟨(xs_putf (k := 47) xcl_12 (by decide) rfl (show decode cX12_word 2 = .ok (.putfield 140, 3) by decide +kernel) xw_1756),
  List.forall_mem_cons.mpr ⟨(xOK_pure (xs_aload_n (k := 0) rfl (show decode cX12_word 5 = .ok (.aload_n 0, 1) by decide +kernel))),
  List.forall_mem_cons.mpr ⟨(xOK_pure (xs_iload_n (k := 1) rfl (show decode cX12_word 6 = .ok (.iload_n 1, 1) by decide +kernel))),
  List.forall_mem_cons.mpr ⟨(xcm mi_190 ⟨⟨(by decide +kernel), (by decide +kernel), (by decide +kernel)⟩, (by decide), xw_1920, xw_125, Or.inl ⟨rfl, _, _, _, _, (show decode cX12_word 7 = .ok (.invokevirtual 162, 3) by decide +kernel), xw_1917, xw_1919, xw_52, rfl⟩⟩),
  List.forall_mem_cons.mpr ⟨(xOK_pure (xs_if_eq (show decode cX12_word 10 = .ok (.ifCond .eq 60, 3) by decide +kernel) (by decide))),
  List.forall_mem_cons.mpr ⟨(xOK_pure (xs_aload_n (k := 0) rfl (show decode cX12_word 13 = .ok (.aload_n 0, 1) by decide +kernel))),
  List.forall_mem_cons.mpr ⟨(xOK_pure (xs_iload_n (k := 2) rfl (show decode cX12_word 14 = .ok (.iload_n 2, 1) by decide +kernel))),
  List.forall_mem_cons.mpr ⟨(xcm mi_191 ⟨⟨(by decide +kernel), (by decide +kernel), (by decide +kernel)⟩, (by decide), xw_1933, xw_125, Or.inl ⟨rfl, _, _, _, _, (show decode cX12_word 15 = .ok (.invokevirtual 172, 3) by decide +kernel), xw_1930, xw_1932, xw_53, rfl⟩⟩),
  List.forall_mem_cons.mpr ⟨(xOK_pure (xs_if_eq (show decode cX12_word 18 = .ok (.ifCond .eq 52, 3) by decide +kernel) (by decide))),
  List.forall_mem_cons.mpr ⟨(xOK_pure (xs_iload_n (k := 3) rfl (show decode cX12_word 21 = .ok (.iload_n 3, 1) by decide +kernel))),
  List.forall_mem_cons.mpr ⟨(xOK_pure (xs_iconst (n := 0) (show decode cX12_word 22 = .ok (.iconst 0, 1) by decide +kernel) (by decide))),
  List.forall_mem_cons.mpr ⟨(xOK_pure (xs_aload_n (k := 0) rfl (show decode cX12_word 23 = .ok (.aload_n 0, 1) by decide +kernel))),
  List.forall_mem_cons.mpr ⟨(xOK_pure (xs_getf xcl_12 (by decide) (show decode cX12_word 24 = .ok (.getfield 121, 3) by decide +kernel) xw_1757)),
  List.forall_mem_cons.mpr ⟨(xOK_pure (xs_iconst (n := 0) (show decode cX12_word 27 = .ok (.iconst 0, 1) by decide +kernel) (by decide))),
  List.forall_mem_cons.mpr ⟨(xOK_pure (xs_iald (show decode cX12_word 28 = .ok (.iaload, 1) by decide +kernel))),
  List.forall_mem_cons.mpr ⟨(xcm mi_188 ⟨⟨(by decide +kernel), (by decide +kernel), (by decide +kernel)⟩, (by decide), xw_1912, xw_125, Or.inr (Or.inl ⟨rfl, _, (show decode cX12_word 29 = .ok (.invokestatic 146, 3) by decide +kernel), xw_1910, xw_1911⟩)⟩),
  List.forall_mem_cons.mpr ⟨(xOK_pure (xs_if_eq (show decode cX12_word 32 = .ok (.ifCond .eq 38, 3) by decide +kernel) (by decide))),
  List.forall_mem_cons.mpr ⟨(xOK_pure (xs_iload (show decode cX12_word 35 = .ok (.iload 4, 2) by decide +kernel))),
  (fun _ h => absurd h List.not_mem_nil)⟩⟩⟩⟩⟩⟩⟩⟩⟩⟩⟩⟩⟩⟩⟩⟩⟩⟩⟩⟩
def pX12_word_1 (ev : xEv) : List (Nat × xEn) := [(37, .inl (xop (xf_push (.int 0) 1))), (38, .inl (xop (xf_push (.int 200) 3))), (41, .inr (.inl (1, 188, 3, 12))), (44, .inl (xop (xf_if_eq 70))), (47, .inl (xop (xf_iload 5 2))), (49, .inl (xop (xf_push (.int (-9)) 2))), (51, .inl (xop (xf_push (.int 9) 2))), (53, .inr (.inl (1, 188, 3, 12))), (56, .inl (xop (xf_if_eq 70))), (59, .inl (xop (xf_aload 0 1))), (60, .inl (xop (xf_getf 12 48))), (63, .inl (xop (xf_push (.int 2) 1))), (64, .inl (xop (xf_ald (ev.1 0)))), (65, .inl (xop (xf_push (.int 120) 2))), (67, .inl (xop (xf_icmp_ne 72))), (70, .inl (xop (xf_push (.int (-1)) 1))), (71, .inr (.inr 1)), (72, .inl (xop (xf_aload 0 1))), (73, .inl (xop (xf_iload 1 1))), (74, .inl (xop (xf_iload 2 1)))]
set_option maxRecDepth 20000 in
theorem okpX12_word_1 (ev : xEv) : ∀ q ∈ pX12_word_1 ev, xEnOK ev xmi yX12_word.cls yX12_word.name cX12_word 6 (some .int) q :=
  List.forall_mem_cons.mpr ⟨(xOK_pure (xs_iconst (n := 0) (show decode cX12_word 37 = .ok (.iconst 0, 1) by decide +kernel) (by decide))),
  List.forall_mem_cons.mpr ⟨(xOK_pure (xs_sipush (n := 200) (show decode cX12_word 38 = .ok (.sipush 200, 3) by decide +kernel) (by decide))),
  List.forall_mem_cons.mpr ⟨(xcm mi_188 ⟨⟨(by decide +kernel), (by decide +kernel), (by decide +kernel)⟩, (by decide), xw_1912, xw_125, Or.inr (Or.inl ⟨rfl, _, (show decode cX12_word 41 = .ok (.invokestatic 146, 3) by decide +kernel), xw_1910, xw_1911⟩)⟩),
  List.forall_mem_cons.mpr ⟨(xOK_pure (xs_if_eq (show decode cX12_word 44 = .ok (.ifCond .eq 26, 3) by decide +kernel) (by decide))),
  List.forall_mem_cons.mpr ⟨(xOK_pure (xs_iload (show decode cX12_word 47 = .ok (.iload 5, 2) by decide +kernel))),
  List.forall_mem_cons.mpr ⟨(xOK_pure (xs_bipush (n := (-9)) (show decode cX12_word 49 = .ok (.bipush (-9), 2) by decide +kernel) (by decide))),
  List.forall_mem_cons.mpr ⟨(xOK_pure (xs_bipush (n := 9) (show decode cX12_word 51 = .ok (.bipush 9, 2) by decide +kernel) (by decide))),
  List.forall_mem_cons.mpr ⟨(xcm mi_188 ⟨⟨(by decide +kernel), (by decide +kernel), (by decide +kernel)⟩, (by decide), xw_1912, xw_125, Or.inr (Or.inl ⟨rfl, _, (show decode cX12_word 53 = .ok (.invokestatic 146, 3) by decide +kernel), xw_1910, xw_1911⟩)⟩),
  List.forall_mem_cons.mpr ⟨(xOK_pure (xs_if_eq (show decode cX12_word 56 = .ok (.ifCond .eq 14, 3) by decide +kernel) (by decide))),
  List.forall_mem_cons.mpr ⟨(xOK_pure (xs_aload_n (k := 0) rfl (show decode cX12_word 59 = .ok (.aload_n 0, 1) by decide +kernel))),
  List.forall_mem_cons.mpr ⟨(xOK_pure (xs_getf xcl_12 (by decide) (show decode cX12_word 60 = .ok (.getfield 121, 3) by decide +kernel) xw_1757)),
  List.forall_mem_cons.mpr ⟨(xOK_pure (xs_iconst (n := 2) (show decode cX12_word 63 = .ok (.iconst 2, 1) by decide +kernel) (by decide))),
  List.forall_mem_cons.mpr ⟨(xOK_pure (xs_iald (show decode cX12_word 64 = .ok (.iaload, 1) by decide +kernel))),
  List.forall_mem_cons.mpr ⟨(xOK_pure (xs_bipush (n := 120) (show decode cX12_word 65 = .ok (.bipush 120, 2) by decide +kernel) (by decide))),
  List.forall_mem_cons.mpr ⟨(xOK_pure (xs_icmp_ne (show decode cX12_word 67 = .ok (.if_icmp .ne 5, 3) by decide +kernel) (by decide))),
  List.forall_mem_cons.mpr ⟨(xOK_pure (xs_iconst (n := (-1)) (show decode cX12_word 70 = .ok (.iconst (-1), 1) by decide +kernel) (by decide))),
  List.forall_mem_cons.mpr ⟨(Or.inr (Or.inl ⟨rfl, (show decode cX12_word 71 = .ok (.ireturn, 1) by decide +kernel), rfl⟩)),
  List.forall_mem_cons.mpr ⟨(xOK_pure (xs_aload_n (k := 0) rfl (show decode cX12_word 72 = .ok (.aload_n 0, 1) by decide +kernel))),
  List.forall_mem_cons.mpr ⟨(xOK_pure (xs_iload_n (k := 1) rfl (show decode cX12_word 73 = .ok (.iload_n 1, 1) by decide +kernel))),
  List.forall_mem_cons.mpr ⟨(xOK_pure (xs_iload_n (k := 2) rfl (show decode cX12_word 74 = .ok (.iload_n 2, 1) by decide +kernel))),
  (fun _ h => absurd h List.not_mem_nil)⟩⟩⟩⟩⟩⟩⟩⟩⟩⟩⟩⟩⟩⟩⟩⟩⟩⟩⟩⟩
def pX12_word_2 (ev : xEv) : List (Nat × xEn) := [(75, .inl (xop (xf_iload 3 1))), (76, .inl (xop (xf_iload 4 2))), (78, .inl (xop (xf_iload 5 2))), (80, .inr (.inl (0, 215, 5, 12))), (83, .inl (xop (xf_aload 0 1))), (84, .inl (xop (xf_getf 12 48))), (87, .inl (xop (xf_push (.int 2) 1))), (88, .inl (xop (xf_ald (ev.1 0)))), (89, .inr (.inr 1))]
set_option maxRecDepth 20000 in
theorem okpX12_word_2 (ev : xEv) : ∀ q ∈ pX12_word_2 ev, xEnOK ev xmi yX12_word.cls yX12_word.name cX12_word 6 (some .int) q :=
  List.forall_mem_cons.mpr ⟨(xOK_pure (xs_iload_n (k := 3) rfl (show decode cX12_word 75 = .ok (.iload_n 3, 1) by decide +kernel))),
  List.forall_mem_cons.mpr ⟨(xOK_pure (xs_iload (show decode cX12_word 76 = .ok (.iload 4, 2) by decide +kernel))),
  List.forall_mem_cons.mpr ⟨(xOK_pure (xs_iload (show decode cX12_word 78 = .ok (.iload 5, 2) by decide +kernel))),
  List.forall_mem_cons.mpr ⟨(xcm mi_215 ⟨⟨(by decide +kernel), (by decide +kernel), (by decide +kernel)⟩, (by decide), xw_1969, xw_125, Or.inl ⟨rfl, _, _, _, _, (show decode cX12_word 80 = .ok (.invokevirtual 191, 3) by decide +kernel), xw_1966, xw_1968, xw_58, rfl⟩⟩),
  List.forall_mem_cons.mpr ⟨(xOK_pure (xs_aload_n (k := 0) rfl (show decode cX12_word 83 = .ok (.aload_n 0, 1) by decide +kernel))),
  List.forall_mem_cons.mpr ⟨(xOK_pure (xs_getf xcl_12 (by decide) (show decode cX12_word 84 = .ok (.getfield 121, 3) by decide +kernel) xw_1757)),
  List.forall_mem_cons.mpr ⟨(xOK_pure (xs_iconst (n := 2) (show decode cX12_word 87 = .ok (.iconst 2, 1) by decide +kernel) (by decide))),
  List.forall_mem_cons.mpr ⟨(xOK_pure (xs_iald (show decode cX12_word 88 = .ok (.iaload, 1) by decide +kernel))),
  List.forall_mem_cons.mpr ⟨(Or.inr (Or.inl ⟨rfl, (show decode cX12_word 89 = .ok (.ireturn, 1) by decide +kernel), rfl⟩)),
  (fun _ h => absurd h List.not_mem_nil)⟩⟩⟩⟩⟩⟩⟩⟩⟩
def pX12_word (ev : xEv) : List (Nat × xEn) := pX12_word_0 ev ++ (pX12_word_1 ev ++ (pX12_word_2 ev))
theorem okpX12_word (ev : xEv) : ∀ q ∈ pX12_word ev, xEnOK ev xmi yX12_word.cls yX12_word.name cX12_word 6 (some .int) q := List.forall_mem_append.mpr ⟨okpX12_word_0 ev, List.forall_mem_append.mpr ⟨okpX12_word_1 ev, okpX12_word_2 ev⟩⟩
theorem omX12_word (ev : xEv) : xMethOK ev xmi yX12_word.cls yX12_word.name 216 (pX12_word ev) := xMethOK.of mi_216 (by decide +kernel) (okpX12_word ev)
def pX12_wordAt_0 (ev : xEv) : List (Nat × xEn) := [(0, .inl (xop (xf_push (.int (-1)) 1))), (1, .inl (xop (xf_istore 4 2))), (3, .inl (xop (xf_push (.int 0) 1))), (4, .inl (xop (xf_istore 5 2))), (6, .inl (xop (xf_iload 5 2))), (8, .inl (xop (xf_aload 0 1))), (9, .inl (xop (xf_getf 12 48))), (12, .inl (xop (xf_push (.int 2) 1))), (13, .inl (xop (xf_ald (ev.1 0)))), (14, .inl (xop (xf_icmp_ge 122))), (17, .inl (xop (xf_push (.int 1465) 3))), (20, .inl (xop (xf_push (.int 7) 2))), (22, .inl (xop (xf_iload 5 2))), (24, .inl (xop (xf_bin (fun x y => x * y)))), (25, .inl (xop (xf_bin (fun x y => x + y)))), (26, .inl (xop (xf_istore 6 2))), (28, .inl (xop (xf_aload 0 1))), (29, .inl (xop (xf_getf 12 48))), (32, .inl (xop (xf_iload 6 2))), (34, .inl (xop (xf_push (.int 0) 1)))]
set_option maxRecDepth 20000 in
theorem okpX12_wordAt_0 (ev : xEv) : ∀ q ∈ pX12_wordAt_0 ev, xEnOK ev xmi yX12_wordAt.cls yX12_wordAt.name cX12_wordAt 7 (some .int) q :=
  List.forall_mem_cons.mpr ⟨(xOK_pure (xs_iconst (n := (-1)) (show decode cX12_wordAt 0 = .ok (.iconst (-1), 1) by decide +kernel) (by decide))),
  List.forall_mem_cons.mpr ⟨(xOK_pure (xs_istore (show decode cX12_wordAt 1 = .ok (.istore 4, 2) by decide +kernel) (by decide))),
  List.forall_mem_cons.mpr ⟨(xOK_pure (xs_iconst (n := 0) (show decode cX12_wordAt 3 = .ok (.iconst 0, 1) by decide +kernel) (by decide))),
  List.forall_mem_cons.mpr ⟨(xOK_pure (xs_istore (show decode cX12_wordAt 4 = .ok (.istore 5, 2) by decide +kernel) (by decide))),
  List.forall_mem_cons.mpr ⟨(xOK_pure (xs_iload (show decode cX12_wordAt 6 = .ok (.iload 5, 2) by decide +kernel))),
  List.forall_mem_cons.mpr ⟨(xOK_pure (xs_aload_n (k := 0) rfl (show decode cX12_wordAt 8 = .ok (.aload_n 0, 1) by decide +kernel))),
  List.forall_mem_cons.mpr ⟨(xOK_pure (xs_getf xcl_12 (by decide) (show decode cX12_wordAt 9 = .ok (.getfield 121, 3) by decide +kernel) xw_1757)),
  List.forall_mem_cons.mpr ⟨(xOK_pure (xs_iconst (n := 2) (show decode cX12_wordAt 12 = .ok (.iconst 2, 1) by decide +kernel) (by decide))),
  List.forall_mem_cons.mpr ⟨(xOK_pure (xs_iald (show decode cX12_wordAt 13 = .ok (.iaload, 1) by decide +kernel))),
  List.forall_mem_cons.mpr ⟨(xOK_pure (xs_icmp_ge (show decode cX12_wordAt 14 = .ok (.if_icmp .ge 108, 3) by decide +kernel) (by decide))),
  List.forall_mem_cons.mpr ⟨(xOK_pure (xs_sipush (n := 1465) (show decode cX12_wordAt 17 = .ok (.sipush 1465, 3) by decide +kernel) (by decide))),
  List.forall_mem_cons.mpr ⟨(xOK_pure (xs_bipush (n := 7) (show decode cX12_wordAt 20 = .ok (.bipush 7, 2) by decide +kernel) (by decide))),
  List.forall_mem_cons.mpr ⟨(xOK_pure (xs_iload (show decode cX12_wordAt 22 = .ok (.iload 5, 2) by decide +kernel))),
  List.forall_mem_cons.mpr ⟨(xOK_pure (xs_imul (show decode cX12_wordAt 24 = .ok (.imul, 1) by decide +kernel))),
  List.forall_mem_cons.mpr ⟨(xOK_pure (xs_iadd (show decode cX12_wordAt 25 = .ok (.iadd, 1) by decide +kernel))),
  List.forall_mem_cons.mpr ⟨(xOK_pure (xs_istore (show decode cX12_wordAt 26 = .ok (.istore 6, 2) by decide +kernel) (by decide))),
  List.forall_mem_cons.mpr ⟨(xOK_pure (xs_aload_n (k := 0) rfl (show decode cX12_wordAt 28 = .ok (.aload_n 0, 1) by decide +kernel))),
  List.forall_mem_cons.mpr ⟨(xOK_pure (xs_getf xcl_12 (by decide) (show decode cX12_wordAt 29 = .ok (.getfield 121, 3) by decide +kernel) xw_1757)),
  List.forall_mem_cons.mpr ⟨(xOK_pure (xs_iload (show decode cX12_wordAt 32 = .ok (.iload 6, 2) by decide +kernel))),
  List.forall_mem_cons.mpr ⟨(xOK_pure (xs_iconst (n := 0) (show decode cX12_wordAt 34 = .ok (.iconst 0, 1) by decide +kernel) (by decide))),
  (fun _ h => absurd h List.not_mem_nil)⟩⟩⟩⟩⟩⟩⟩⟩⟩⟩⟩⟩⟩⟩⟩⟩⟩⟩⟩⟩
def pX12_wordAt_1 (ev : xEv) : List (Nat × xEn) := [(35, .inl (xop (xf_bin (fun x y => x + y)))), (36, .inl (xop (xf_ald (ev.1 0)))), (37, .inl (xop (xf_iload 2 1))), (38, .inl (xop (xf_icmp_ne 116))), (41, .inl (xop (xf_aload 0 1))), (42, .inl (xop (xf_getf 12 48))), (45, .inl (xop (xf_iload 6 2))), (47, .inl (xop (xf_push (.int 5) 1))), (48, .inl (xop (xf_bin (fun x y => x + y)))), (49, .inl (xop (xf_ald (ev.1 0)))), (50, .inl (xop (xf_aload 0 1))), (51, .inl (xop (xf_getf 12 48))), (54, .inl (xop (xf_iload 6 2))), (56, .inl (xop (xf_push (.int 4) 1))), (57, .inl (xop (xf_bin (fun x y => x + y)))), (58, .inl (xop (xf_ald (ev.1 0)))), (59, .inl (xop (xf_iload 1 1))), (60, .inl (xop (xf_icmp_ne 67))), (63, .inl (xop (xf_push (.int 0) 1))), (64, .inl (xop (xf_goto 77)))]
set_option maxRecDepth 20000 in
theorem okpX12_wordAt_1 (ev : xEv) : ∀ q ∈ pX12_wordAt_1 ev, xEnOK ev xmi yX12_wordAt.cls yX12_wordAt.name cX12_wordAt 7 (some .int) q :=
  List.forall_mem_cons.mpr ⟨(xOK_pure (xs_iadd (show decode cX12_wordAt 35 = .ok (.iadd, 1) by decide +kernel))),
  List.forall_mem_cons.mpr ⟨(xOK_pure (xs_iald (show decode cX12_wordAt 36 = .ok (.iaload, 1) by decide +kernel))),
  List.forall_mem_cons.mpr ⟨(xOK_pure (xs_iload_n (k := 2) rfl (show decode cX12_wordAt 37 = .ok (.iload_n 2, 1) by decide +kernel))),
  List.forall_mem_cons.mpr ⟨(xOK_pure (xs_icmp_ne (show decode cX12_wordAt 38 = .ok (.if_icmp .ne 78, 3) by decide +kernel) (by decide))),
  List.forall_mem_cons.mpr ⟨(xOK_pure (xs_aload_n (k := 0) rfl (show decode cX12_wordAt 41 = .ok (.aload_n 0, 1) by decide +kernel))),
  List.forall_mem_cons.mpr ⟨(xOK_pure (xs_getf xcl_12 (by decide) (show decode cX12_wordAt 42 = .ok (.getfield 121, 3) by decide +kernel) xw_1757)),
  List.forall_mem_cons.mpr ⟨(xOK_pure (xs_iload (show decode cX12_wordAt 45 = .ok (.iload 6, 2) by decide +kernel))),
  List.forall_mem_cons.mpr ⟨(xOK_pure (xs_iconst (n := 5) (show decode cX12_wordAt 47 = .ok (.iconst 5, 1) by decide +kernel) (by decide))),
  List.forall_mem_cons.mpr ⟨(xOK_pure (xs_iadd (show decode cX12_wordAt 48 = .ok (.iadd, 1) by decide +kernel))),
  List.forall_mem_cons.mpr ⟨(xOK_pure (xs_iald (show decode cX12_wordAt 49 = .ok (.iaload, 1) by decide +kernel))),
  List.forall_mem_cons.mpr ⟨(xOK_pure (xs_aload_n (k := 0) rfl (show decode cX12_wordAt 50 = .ok (.aload_n 0, 1) by decide +kernel))),
  List.forall_mem_cons.mpr ⟨(xOK_pure (xs_getf xcl_12 (by decide) (show decode cX12_wordAt 51 = .ok (.getfield 121, 3) by decide +kernel) xw_1757)),
  List.forall_mem_cons.mpr ⟨(xOK_pure (xs_iload (show decode cX12_wordAt 54 = .ok (.iload 6, 2) by decide +kernel))),
  List.forall_mem_cons.mpr ⟨(xOK_pure (xs_iconst (n := 4) (show decode cX12_wordAt 56 = .ok (.iconst 4, 1) by decide +kernel) (by decide))),
  List.forall_mem_cons.mpr ⟨(xOK_pure (xs_iadd (show decode cX12_wordAt 57 = .ok (.iadd, 1) by decide +kernel))),
  List.forall_mem_cons.mpr ⟨(xOK_pure (xs_iald (show decode cX12_wordAt 58 = .ok (.iaload, 1) by decide +kernel))),
  List.forall_mem_cons.mpr ⟨(xOK_pure (xs_iload_n (k := 1) rfl (show decode cX12_wordAt 59 = .ok (.iload_n 1, 1) by decide +kernel))),
  List.forall_mem_cons.mpr ⟨(xOK_pure (xs_icmp_ne (show decode cX12_wordAt 60 = .ok (.if_icmp .ne 7, 3) by decide +kernel) (by decide))),
  List.forall_mem_cons.mpr ⟨(xOK_pure (xs_iconst (n := 0) (show decode cX12_wordAt 63 = .ok (.iconst 0, 1) by decide +kernel) (by decide))),
  List.forall_mem_cons.mpr ⟨(xOK_pure (xs_goto (show decode cX12_wordAt 64 = .ok (.goto 13, 3) by decide +kernel) (by decide))),
  (fun _ h => absurd h List.not_mem_nil)⟩⟩⟩⟩⟩⟩⟩⟩⟩⟩⟩⟩⟩⟩⟩⟩⟩⟩⟩⟩
def pX12_wordAt_2 (ev : xEv) : List (Nat × xEn) := [(67, .inl (xop (xf_aload 0 1))), (68, .inl (xop (xf_getf 12 48))), (71, .inl (xop (xf_iload 6 2))), (73, .inl (xop (xf_push (.int 6) 2))), (75, .inl (xop (xf_bin (fun x y => x + y)))), (76, .inl (xop (xf_ald (ev.1 0)))), (77, .inl (xop (xf_bin (fun x y => x + y)))), (78, .inl (xop (xf_iload 3 1))), (79, .inl (xop (xf_icmp_le 85))), (82, .inl (xop (xf_goto 116))), (85, .inl (xop (xf_iload 4 2))), (87, .inl (xop (xf_push (.int (-1)) 1))), (88, .inl (xop (xf_icmp_eq 112))), (91, .inl (xop (xf_aload 0 1))), (92, .inl (xop (xf_getf 12 48))), (95, .inl (xop (xf_iload 6 2))), (97, .inl (xop (xf_push (.int 1) 1))), (98, .inl (xop (xf_bin (fun x y => x + y)))), (99, .inl (xop (xf_ald (ev.1 0)))), (100, .inl (xop (xf_aload 0 1)))]
set_option maxRecDepth 20000 in
theorem okpX12_wordAt_2 (ev : xEv) : ∀ q ∈ pX12_wordAt_2 ev, xEnOK ev xmi yX12_wordAt.cls yX12_wordAt.name cX12_wordAt 7 (some .int) q :=
  List.forall_mem_cons.mpr ⟨(xOK_pure (xs_aload_n (k := 0) rfl (show decode cX12_wordAt 67 = .ok (.aload_n 0, 1) by decide +kernel))),
  List.forall_mem_cons.mpr ⟨(xOK_pure (xs_getf xcl_12 (by decide) (show decode cX12_wordAt 68 = .ok (.getfield 121, 3) by decide +kernel) xw_1757)),
  List.forall_mem_cons.mpr ⟨(xOK_pure (xs_iload (show decode cX12_wordAt 71 = .ok (.iload 6, 2) by decide +kernel))),
  List.forall_mem_cons.mpr ⟨(xOK_pure (xs_bipush (n := 6) (show decode cX12_wordAt 73 = .ok (.bipush 6, 2) by decide +kernel) (by decide))),
  List.forall_mem_cons.mpr ⟨(xOK_pure (xs_iadd (show decode cX12_wordAt 75 = .ok (.iadd, 1) by decide +kernel))),
  List.forall_mem_cons.mpr ⟨(xOK_pure (xs_iald (show decode cX12_wordAt 76 = .ok (.iaload, 1) by decide +kernel))),
  List.forall_mem_cons.mpr ⟨(xOK_pure (xs_iadd (show decode cX12_wordAt 77 = .ok (.iadd, 1) by decide +kernel))),
  List.forall_mem_cons.mpr ⟨(xOK_pure (xs_iload_n (k := 3) rfl (show decode cX12_wordAt 78 = .ok (.iload_n 3, 1) by decide +kernel))),
  List.forall_mem_cons.mpr ⟨(xOK_pure (xs_icmp_le (show decode cX12_wordAt 79 = .ok (.if_icmp .le 6, 3) by decide +kernel) (by decide))),
  List.forall_mem_cons.mpr ⟨(xOK_pure (xs_goto (show decode cX12_wordAt 82 = .ok (.goto 34, 3) by decide +kernel) (by decide))),
  List.forall_mem_cons.mpr ⟨(xOK_pure (xs_iload (show decode cX12_wordAt 85 = .ok (.iload 4, 2) by decide +kernel))),
  List.forall_mem_cons.mpr ⟨(xOK_pure (xs_iconst (n := (-1)) (show decode cX12_wordAt 87 = .ok (.iconst (-1), 1) by decide +kernel) (by decide))),
  List.forall_mem_cons.mpr ⟨(xOK_pure (xs_icmp_eq (show decode cX12_wordAt 88 = .ok (.if_icmp .eq 24, 3) by decide +kernel) (by decide))),
  List.forall_mem_cons.mpr ⟨(xOK_pure (xs_aload_n (k := 0) rfl (show decode cX12_wordAt 91 = .ok (.aload_n 0, 1) by decide +kernel))),
  List.forall_mem_cons.mpr ⟨(xOK_pure (xs_getf xcl_12 (by decide) (show decode cX12_wordAt 92 = .ok (.getfield 121, 3) by decide +kernel) xw_1757)),
  List.forall_mem_cons.mpr ⟨(xOK_pure (xs_iload (show decode cX12_wordAt 95 = .ok (.iload 6, 2) by decide +kernel))),
  List.forall_mem_cons.mpr ⟨(xOK_pure (xs_iconst (n := 1) (show decode cX12_wordAt 97 = .ok (.iconst 1, 1) by decide +kernel) (by decide))),
  List.forall_mem_cons.mpr ⟨(xOK_pure (xs_iadd (show decode cX12_wordAt 98 = .ok (.iadd, 1) by decide +kernel))),
  List.forall_mem_cons.mpr ⟨(xOK_pure (xs_iald (show decode cX12_wordAt 99 = .ok (.iaload, 1) by decide +kernel))),
  List.forall_mem_cons.mpr ⟨(xOK_pure (xs_aload_n (k := 0) rfl (show decode cX12_wordAt 100 = .ok (.aload_n 0, 1) by decide +kernel))),
  (fun _ h => absurd h List.not_mem_nil)⟩⟩⟩⟩⟩⟩⟩⟩⟩⟩⟩⟩⟩⟩⟩⟩⟩⟩⟩⟩
def pX12_wordAt_3 (ev : xEv) : List (Nat × xEn) := [(101, .inl (xop (xf_getf 12 48))), (104, .inl (xop (xf_iload 4 2))), (106, .inl (xop (xf_push (.int 1) 1))), (107, .inl (xop (xf_bin (fun x y => x + y)))), (108, .inl (xop (xf_ald (ev.1 0)))), (109, .inl (xop (xf_icmp_lt 116))), (112, .inl (xop (xf_iload 6 2))), (114, .inl (xop (xf_istore 4 2))), (116, .inl (xop (xf_iinc 5 1))), (119, .inl (xop (xf_goto 6))), (122, .inl (xop (xf_iload 4 2))), (124, .inr (.inr 1))]
set_option maxRecDepth 20000 in
theorem okpX12_wordAt_3 (ev : xEv) : ∀ q ∈ pX12_wordAt_3 ev, xEnOK ev xmi yX12_wordAt.cls yX12_wordAt.name cX12_wordAt 7 (some .int) q :=
  List.forall_mem_cons.mpr ⟨(xOK_pure (xs_getf xcl_12 (by decide) (show decode cX12_wordAt 101 = .ok (.getfield 121, 3) by decide +kernel) xw_1757)),
  List.forall_mem_cons.mpr ⟨(xOK_pure (xs_iload (show decode cX12_wordAt 104 = .ok (.iload 4, 2) by decide +kernel))),
  List.forall_mem_cons.mpr ⟨(xOK_pure (xs_iconst (n := 1) (show decode cX12_wordAt 106 = .ok (.iconst 1, 1) by decide +kernel) (by decide))),
  List.forall_mem_cons.mpr ⟨(xOK_pure (xs_iadd (show decode cX12_wordAt 107 = .ok (.iadd, 1) by decide +kernel))),
  List.forall_mem_cons.mpr ⟨(xOK_pure (xs_iald (show decode cX12_wordAt 108 = .ok (.iaload, 1) by decide +kernel))),
  List.forall_mem_cons.mpr ⟨(xOK_pure (xs_icmp_lt (show decode cX12_wordAt 109 = .ok (.if_icmp .lt 7, 3) by decide +kernel) (by decide))),
  List.forall_mem_cons.mpr ⟨(xOK_pure (xs_iload (show decode cX12_wordAt 112 = .ok (.iload 6, 2) by decide +kernel))),
  List.forall_mem_cons.mpr ⟨(xOK_pure (xs_istore (show decode cX12_wordAt 114 = .ok (.istore 4, 2) by decide +kernel) (by decide))),
  List.forall_mem_cons.mpr ⟨(xOK_pure (xs_iinc (n := 1) (show decode cX12_wordAt 116 = .ok (.iinc 5 1, 3) by decide +kernel) (by decide) (by decide))),
  List.forall_mem_cons.mpr ⟨(xOK_pure (xs_goto (show decode cX12_wordAt 119 = .ok (.goto (-113), 3) by decide +kernel) (by decide))),
  List.forall_mem_cons.mpr ⟨(xOK_pure (xs_iload (show decode cX12_wordAt 122 = .ok (.iload 4, 2) by decide +kernel))),
  List.forall_mem_cons.mpr ⟨(Or.inr (Or.inl ⟨rfl, (show decode cX12_wordAt 124 = .ok (.ireturn, 1) by decide +kernel), rfl⟩)),
  (fun _ h => absurd h List.not_mem_nil)⟩⟩⟩⟩⟩⟩⟩⟩⟩⟩⟩⟩
def pX12_wordAt (ev : xEv) : List (Nat × xEn) := pX12_wordAt_0 ev ++ (pX12_wordAt_1 ev ++ (pX12_wordAt_2 ev ++ (pX12_wordAt_3 ev)))
theorem okpX12_wordAt (ev : xEv) : ∀ q ∈ pX12_wordAt ev, xEnOK ev xmi yX12_wordAt.cls yX12_wordAt.name cX12_wordAt 7 (some .int) q := List.forall_mem_append.mpr ⟨okpX12_wordAt_0 ev, List.forall_mem_append.mpr ⟨okpX12_wordAt_1 ev, List.forall_mem_append.mpr ⟨okpX12_wordAt_2 ev, okpX12_wordAt_3 ev⟩⟩⟩
theorem omX12_wordAt (ev : xEv) : xMethOK ev xmi yX12_wordAt.cls yX12_wordAt.name 217 (pX12_wordAt ev) := xMethOK.of mi_217 (by decide +kernel) (okpX12_wordAt ev)
