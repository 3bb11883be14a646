def pX10_giveBack_0 (ev : xEv) : List (Nat × xEn) := [(0, .inl (xop (xf_aload 0 1))), (1, .inl (xop (xf_aload 0 1))), (2, .inl (xop (xf_getf 10 17))), (5, .inl (xo_putf 10 13 .int)), (8, .inl (xop (xf_aload 0 1))), (9, .inl (xop (xf_aload 0 1))), (10, .inl (xop (xf_getf 10 18))), (13, .inl (xo_putf 10 14 .int)), (16, .inl (xop (xf_aload 0 1))), (17, .inl (xop (xf_getf 10 1))), (20, .inl (xop (xf_aload 0 1))), (21, .inl (xop (xf_getf 10 19))), (24, .inl (xo_putf 9 1 .int)), (27, .inl (xop (xf_push (.int 0) 1))), (28, .inl (xop (xf_istore 1 1))), (29, .inl (xop (xf_iload 1 1))), (30, .inl (xop (xf_aload 0 1))), (31, .inl (xop (xf_getf 10 5))), (34, .inl (xop (xf_icmp_ge 52))), (37, .inl (xop (xf_aload 0 1)))]
set_option maxRecDepth 20000 in
theorem okpX10_giveBack_0 (ev : xEv) : ∀ q ∈ pX10_giveBack_0 ev, xEnOK ev xmi yX10_giveBack.cls yX10_giveBack.name cX10_giveBack 2 none q :=
  List.forall_mem_cons.mpr ⟨(xOK_pure (xs_aload_n (k := 0) rfl (show decode cX10_giveBack 0 = .ok (.aload_n 0, 1) by decide +kernel))),
  List.forall_mem_cons.mpr ⟨(xOK_pure (xs_aload_n (k := 0) rfl (show decode cX10_giveBack 1 = .ok (.aload_n 0, 1) by decide +kernel))),
  List.forall_mem_cons.mpr ⟨(xOK_pure (xs_getf xcl_10 (by decide) (show decode cX10_giveBack 2 = .ok (.getfield 399, 3) by decide +kernel) xw_337)),
  List.forall_mem_cons.mpr ⟨(xs_putf (k := 13) xcl_10 (by decide) rfl (show decode cX10_giveBack 5 = .ok (.putfield 69, 3) by decide +kernel) xw_328),
  List.forall_mem_cons.mpr ⟨(xOK_pure (xs_aload_n (k := 0) rfl (show decode cX10_giveBack 8 = .ok (.aload_n 0, 1) by decide +kernel))),
  List.forall_mem_cons.mpr ⟨(xOK_pure (xs_aload_n (k := 0) rfl (show decode cX10_giveBack 9 = .ok (.aload_n 0, 1) by decide +kernel))),
  List.forall_mem_cons.mpr ⟨(xOK_pure (xs_getf xcl_10 (by decide) (show decode cX10_giveBack 10 = .ok (.getfield 402, 3) by decide +kernel) xw_338)),
  List.forall_mem_cons.mpr ⟨(xs_putf (k := 14) xcl_10 (by decide) rfl (show decode cX10_giveBack 13 = .ok (.putfield 305, 3) by decide +kernel) xw_331),
  List.forall_mem_cons.mpr ⟨(xOK_pure (xs_aload_n (k := 0) rfl (show decode cX10_giveBack 16 = .ok (.aload_n 0, 1) by decide +kernel))),
  List.forall_mem_cons.mpr ⟨(xOK_pure (xs_getf xcl_10 (by decide) (show decode cX10_giveBack 17 = .ok (.getfield 12, 3) by decide +kernel) xw_303)),
  List.forall_mem_cons.mpr ⟨(xOK_pure (xs_aload_n (k := 0) rfl (show decode cX10_giveBack 20 = .ok (.aload_n 0, 1) by decide +kernel))),
  List.forall_mem_cons.mpr ⟨(xOK_pure (xs_getf xcl_10 (by decide) (show decode cX10_giveBack 21 = .ok (.getfield 408, 3) by decide +kernel) xw_339)),
  List.forall_mem_cons.mpr ⟨(xs_putf (k := 1) xcl_9 (by decide) rfl (show decode cX10_giveBack 24 = .ok (.putfield 405, 3) by decide +kernel) xw_227),
  List.forall_mem_cons.mpr ⟨(xOK_pure (xs_iconst (n := 0) (show decode cX10_giveBack 27 = .ok (.iconst 0, 1) by decide +kernel) (by decide))),
  List.forall_mem_cons.mpr ⟨(xOK_pure (xs_istore_n (k := 1) rfl (show decode cX10_giveBack 28 = .ok (.istore_n 1, 1) by decide +kernel) (by decide))),
  List.forall_mem_cons.mpr ⟨(xOK_pure (xs_iload_n (k := 1) rfl (show decode cX10_giveBack 29 = .ok (.iload_n 1, 1) by decide +kernel))),
  List.forall_mem_cons.mpr ⟨(xOK_pure (xs_aload_n (k := 0) rfl (show decode cX10_giveBack 30 = .ok (.aload_n 0, 1) by decide +kernel))),
  List.forall_mem_cons.mpr ⟨(xOK_pure (xs_getf xcl_10 (by decide) (show decode cX10_giveBack 31 = .ok (.getfield 106, 3) by decide +kernel) xw_313)),
  List.forall_mem_cons.mpr ⟨(xOK_pure (xs_icmp_ge (show decode cX10_giveBack 34 = .ok (.if_icmp .ge 18, 3) by decide +kernel) (by decide))),
  List.forall_mem_cons.mpr ⟨(xOK_pure (xs_aload_n (k := 0) rfl (show decode cX10_giveBack 37 = .ok (.aload_n 0, 1) by decide +kernel))),
  (fun _ h => absurd h List.not_mem_nil)⟩⟩⟩⟩⟩⟩⟩⟩⟩⟩⟩⟩⟩⟩⟩⟩⟩⟩⟩⟩
def pX10_giveBack_1 (ev : xEv) : List (Nat × xEn) := [(38, .inl (xop (xf_getf 10 4))), (41, .inl (xop (xf_iload 1 1))), (42, .inl (xop (xf_aald (ev.1 5)))), (43, .inr (.inl (0, 75, 0, 6))), (46, .inl (xop (xf_iinc 1 1))), (49, .inl (xop (xf_goto 29))), (52, .inl (xop (xf_push (.int 0) 1))), (53, .inl (xop (xf_istore 1 1))), (54, .inl (xop (xf_iload 1 1))), (55, .inl (xop (xf_aload 0 1))), (56, .inl (xop (xf_getf 10 7))), (59, .inl (xop (xf_icmp_ge 77))), (62, .inl (xop (xf_aload 0 1))), (63, .inl (xop (xf_getf 10 6))), (66, .inl (xop (xf_iload 1 1))), (67, .inl (xop (xf_aald (ev.1 6)))), (68, .inr (.inl (0, 66, 0, 5))), (71, .inl (xop (xf_iinc 1 1))), (74, .inl (xop (xf_goto 54))), (77, .inl (xop (xf_push (.int 0) 1)))]
set_option maxRecDepth 20000 in
theorem okpX10_giveBack_1 (ev : xEv) : ∀ q ∈ pX10_giveBack_1 ev, xEnOK ev xmi yX10_giveBack.cls yX10_giveBack.name cX10_giveBack 2 none q :=
  List.forall_mem_cons.mpr ⟨(xOK_pure (xs_getf xcl_10 (by decide) (show decode cX10_giveBack 38 = .ok (.getfield 32, 3) by decide +kernel) xw_309)),
  List.forall_mem_cons.mpr ⟨(xOK_pure (xs_iload_n (k := 1) rfl (show decode cX10_giveBack 41 = .ok (.iload_n 1, 1) by decide +kernel))),
  List.forall_mem_cons.mpr ⟨(xOK_pure (xs_aald (t := 5) rfl (show decode cX10_giveBack 42 = .ok (.aaload, 1) by decide +kernel))),
  List.forall_mem_cons.mpr ⟨(xcm mi_75 ⟨⟨(by decide +kernel), (by decide +kernel), (by decide +kernel)⟩, (by decide), xw_1523, xw_132, Or.inl ⟨rfl, _, _, _, _, (show decode cX10_giveBack 43 = .ok (.invokevirtual 417, 3) by decide +kernel), xw_1520, xw_1521, xw_1522, rfl⟩⟩),
  List.forall_mem_cons.mpr ⟨(xOK_pure (xs_iinc (n := 1) (show decode cX10_giveBack 46 = .ok (.iinc 1 1, 3) by decide +kernel) (by decide) (by decide))),
  List.forall_mem_cons.mpr ⟨(xOK_pure (xs_goto (show decode cX10_giveBack 49 = .ok (.goto (-20), 3) by decide +kernel) (by decide))),
  List.forall_mem_cons.mpr ⟨(xOK_pure (xs_iconst (n := 0) (show decode cX10_giveBack 52 = .ok (.iconst 0, 1) by decide +kernel) (by decide))),
  List.forall_mem_cons.mpr ⟨(xOK_pure (xs_istore_n (k := 1) rfl (show decode cX10_giveBack 53 = .ok (.istore_n 1, 1) by decide +kernel) (by decide))),
  List.forall_mem_cons.mpr ⟨(xOK_pure (xs_iload_n (k := 1) rfl (show decode cX10_giveBack 54 = .ok (.iload_n 1, 1) by decide +kernel))),
  List.forall_mem_cons.mpr ⟨(xOK_pure (xs_aload_n (k := 0) rfl (show decode cX10_giveBack 55 = .ok (.aload_n 0, 1) by decide +kernel))),
  List.forall_mem_cons.mpr ⟨(xOK_pure (xs_getf xcl_10 (by decide) (show decode cX10_giveBack 56 = .ok (.getfield 130, 3) by decide +kernel) xw_317)),
  List.forall_mem_cons.mpr ⟨(xOK_pure (xs_icmp_ge (show decode cX10_giveBack 59 = .ok (.if_icmp .ge 18, 3) by decide +kernel) (by decide))),
  List.forall_mem_cons.mpr ⟨(xOK_pure (xs_aload_n (k := 0) rfl (show decode cX10_giveBack 62 = .ok (.aload_n 0, 1) by decide +kernel))),
  List.forall_mem_cons.mpr ⟨(xOK_pure (xs_getf xcl_10 (by decide) (show decode cX10_giveBack 63 = .ok (.getfield 38, 3) by decide +kernel) xw_315)),
  List.forall_mem_cons.mpr ⟨(xOK_pure (xs_iload_n (k := 1) rfl (show decode cX10_giveBack 66 = .ok (.iload_n 1, 1) by decide +kernel))),
  List.forall_mem_cons.mpr ⟨(xOK_pure (xs_aald (t := 6) rfl (show decode cX10_giveBack 67 = .ok (.aaload, 1) by decide +kernel))),
  List.forall_mem_cons.mpr ⟨(xcm mi_66 ⟨⟨(by decide +kernel), (by decide +kernel), (by decide +kernel)⟩, (by decide), xw_1527, xw_133, Or.inl ⟨rfl, _, _, _, _, (show decode cX10_giveBack 68 = .ok (.invokevirtual 420, 3) by decide +kernel), xw_1524, xw_1525, xw_1526, rfl⟩⟩),
  List.forall_mem_cons.mpr ⟨(xOK_pure (xs_iinc (n := 1) (show decode cX10_giveBack 71 = .ok (.iinc 1 1, 3) by decide +kernel) (by decide) (by decide))),
  List.forall_mem_cons.mpr ⟨(xOK_pure (xs_goto (show decode cX10_giveBack 74 = .ok (.goto (-20), 3) by decide +kernel) (by decide))),
  List.forall_mem_cons.mpr ⟨(xOK_pure (xs_iconst (n := 0) (show decode cX10_giveBack 77 = .ok (.iconst 0, 1) by decide +kernel) (by decide))),
  (fun _ h => absurd h List.not_mem_nil)⟩⟩⟩⟩⟩⟩⟩⟩⟩⟩⟩⟩⟩⟩⟩⟩⟩⟩⟩⟩
def pX10_giveBack_2 (ev : xEv) : List (Nat × xEn) := [(78, .inl (xop (xf_istore 1 1))), (79, .inl (xop (xf_iload 1 1))), (80, .inl (xop (xf_aload 0 1))), (81, .inl (xop (xf_getf 10 9))), (84, .inl (xop (xf_icmp_ge 102))), (87, .inl (xop (xf_aload 0 1))), (88, .inl (xop (xf_getf 10 8))), (91, .inl (xop (xf_iload 1 1))), (92, .inl (xop (xf_aald (ev.1 7)))), (93, .inr (.inl (0, 8, 0, 0))), (96, .inl (xop (xf_iinc 1 1))), (99, .inl (xop (xf_goto 79))), (102, .inl (xop (xf_push (.int 0) 1))), (103, .inl (xop (xf_istore 1 1))), (104, .inl (xop (xf_iload 1 1))), (105, .inl (xop (xf_aload 0 1))), (106, .inl (xop (xf_getf 10 12))), (109, .inl (xop (xf_icmp_ge 127))), (112, .inl (xop (xf_aload 0 1))), (113, .inl (xop (xf_getf 10 11)))]
set_option maxRecDepth 20000 in
theorem okpX10_giveBack_2 (ev : xEv) : ∀ q ∈ pX10_giveBack_2 ev, xEnOK ev xmi yX10_giveBack.cls yX10_giveBack.name cX10_giveBack 2 none q :=
  List.forall_mem_cons.mpr ⟨(xOK_pure (xs_istore_n (k := 1) rfl (show decode cX10_giveBack 78 = .ok (.istore_n 1, 1) by decide +kernel) (by decide))),
  List.forall_mem_cons.mpr ⟨(xOK_pure (xs_iload_n (k := 1) rfl (show decode cX10_giveBack 79 = .ok (.iload_n 1, 1) by decide +kernel))),
  List.forall_mem_cons.mpr ⟨(xOK_pure (xs_aload_n (k := 0) rfl (show decode cX10_giveBack 80 = .ok (.aload_n 0, 1) by decide +kernel))),
  List.forall_mem_cons.mpr ⟨(xOK_pure (xs_getf xcl_10 (by decide) (show decode cX10_giveBack 81 = .ok (.getfield 79, 3) by decide +kernel) xw_321)),
  List.forall_mem_cons.mpr ⟨(xOK_pure (xs_icmp_ge (show decode cX10_giveBack 84 = .ok (.if_icmp .ge 18, 3) by decide +kernel) (by decide))),
  List.forall_mem_cons.mpr ⟨(xOK_pure (xs_aload_n (k := 0) rfl (show decode cX10_giveBack 87 = .ok (.aload_n 0, 1) by decide +kernel))),
  List.forall_mem_cons.mpr ⟨(xOK_pure (xs_getf xcl_10 (by decide) (show decode cX10_giveBack 88 = .ok (.getfield 44, 3) by decide +kernel) xw_319)),
  List.forall_mem_cons.mpr ⟨(xOK_pure (xs_iload_n (k := 1) rfl (show decode cX10_giveBack 91 = .ok (.iload_n 1, 1) by decide +kernel))),
  List.forall_mem_cons.mpr ⟨(xOK_pure (xs_aald (t := 7) rfl (show decode cX10_giveBack 92 = .ok (.aaload, 1) by decide +kernel))),
  List.forall_mem_cons.mpr ⟨(xcm mi_8 ⟨⟨(by decide +kernel), (by decide +kernel), (by decide +kernel)⟩, (by decide), xw_1531, xw_134, Or.inl ⟨rfl, _, _, _, _, (show decode cX10_giveBack 93 = .ok (.invokevirtual 421, 3) by decide +kernel), xw_1528, xw_1529, xw_1530, rfl⟩⟩),
  List.forall_mem_cons.mpr ⟨(xOK_pure (xs_iinc (n := 1) (show decode cX10_giveBack 96 = .ok (.iinc 1 1, 3) by decide +kernel) (by decide) (by decide))),
  List.forall_mem_cons.mpr ⟨(xOK_pure (xs_goto (show decode cX10_giveBack 99 = .ok (.goto (-20), 3) by decide +kernel) (by decide))),
  List.forall_mem_cons.mpr ⟨(xOK_pure (xs_iconst (n := 0) (show decode cX10_giveBack 102 = .ok (.iconst 0, 1) by decide +kernel) (by decide))),
  List.forall_mem_cons.mpr ⟨(xOK_pure (xs_istore_n (k := 1) rfl (show decode cX10_giveBack 103 = .ok (.istore_n 1, 1) by decide +kernel) (by decide))),
  List.forall_mem_cons.mpr ⟨(xOK_pure (xs_iload_n (k := 1) rfl (show decode cX10_giveBack 104 = .ok (.iload_n 1, 1) by decide +kernel))),
  List.forall_mem_cons.mpr ⟨(xOK_pure (xs_aload_n (k := 0) rfl (show decode cX10_giveBack 105 = .ok (.aload_n 0, 1) by decide +kernel))),
  List.forall_mem_cons.mpr ⟨(xOK_pure (xs_getf xcl_10 (by decide) (show decode cX10_giveBack 106 = .ok (.getfield 93, 3) by decide +kernel) xw_326)),
  List.forall_mem_cons.mpr ⟨(xOK_pure (xs_icmp_ge (show decode cX10_giveBack 109 = .ok (.if_icmp .ge 18, 3) by decide +kernel) (by decide))),
  List.forall_mem_cons.mpr ⟨(xOK_pure (xs_aload_n (k := 0) rfl (show decode cX10_giveBack 112 = .ok (.aload_n 0, 1) by decide +kernel))),
  List.forall_mem_cons.mpr ⟨(xOK_pure (xs_getf xcl_10 (by decide) (show decode cX10_giveBack 113 = .ok (.getfield 54, 3) by decide +kernel) xw_324)),
  (fun _ h => absurd h List.not_mem_nil)⟩⟩⟩⟩⟩⟩⟩⟩⟩⟩⟩⟩⟩⟩⟩⟩⟩⟩⟩⟩
def pX10_giveBack_3 (ev : xEv) : List (Nat × xEn) := [(116, .inl (xop (xf_iload 1 1))), (117, .inl (xop (xf_aald (ev.1 8)))), (118, .inr (.inl (0, 15, 0, 1))), (121, .inl (xop (xf_iinc 1 1))), (124, .inl (xop (xf_goto 104))), (127, .inr (.inr 0))]
set_option maxRecDepth 20000 in
theorem okpX10_giveBack_3 (ev : xEv) : ∀ q ∈ pX10_giveBack_3 ev, xEnOK ev xmi yX10_giveBack.cls yX10_giveBack.name cX10_giveBack 2 none q :=
  List.forall_mem_cons.mpr ⟨(xOK_pure (xs_iload_n (k := 1) rfl (show decode cX10_giveBack 116 = .ok (.iload_n 1, 1) by decide +kernel))),
  List.forall_mem_cons.mpr ⟨(xOK_pure (xs_aald (t := 8) rfl (show decode cX10_giveBack 117 = .ok (.aaload, 1) by decide +kernel))),
  List.forall_mem_cons.mpr ⟨(xcm mi_15 ⟨⟨(by decide +kernel), (by decide +kernel), (by decide +kernel)⟩, (by decide), xw_1535, xw_141, Or.inl ⟨rfl, _, _, _, _, (show decode cX10_giveBack 118 = .ok (.invokevirtual 422, 3) by decide +kernel), xw_1532, xw_1533, xw_1534, rfl⟩⟩),
  List.forall_mem_cons.mpr ⟨(xOK_pure (xs_iinc (n := 1) (show decode cX10_giveBack 121 = .ok (.iinc 1 1, 3) by decide +kernel) (by decide) (by decide))),
  List.forall_mem_cons.mpr ⟨(xOK_pure (xs_goto (show decode cX10_giveBack 124 = .ok (.goto (-20), 3) by decide +kernel) (by decide))),
  List.forall_mem_cons.mpr ⟨(Or.inl ⟨rfl, (show decode cX10_giveBack 127 = .ok (.return_, 1) by decide +kernel), rfl⟩),
  (fun _ h => absurd h List.not_mem_nil)⟩⟩⟩⟩⟩⟩
def pX10_giveBack (ev : xEv) : List (Nat × xEn) := pX10_giveBack_0 ev ++ (pX10_giveBack_1 ev ++ (pX10_giveBack_2 ev ++ (pX10_giveBack_3 ev)))
theorem okpX10_giveBack (ev : xEv) : ∀ q ∈ pX10_giveBack ev, xEnOK ev xmi yX10_giveBack.cls yX10_giveBack.name cX10_giveBack 2 none q := List.forall_mem_append.mpr ⟨okpX10_giveBack_0 ev, List.forall_mem_append.mpr ⟨okpX10_giveBack_1 ev, List.forall_mem_append.mpr ⟨okpX10_giveBack_2 ev, okpX10_giveBack_3 ev⟩⟩⟩
theorem omX10_giveBack (ev : xEv) : xMethOK ev xmi yX10_giveBack.cls yX10_giveBack.name 126 (pX10_giveBack ev) := xMethOK.of mi_126 (by decide +kernel) (okpX10_giveBack ev)
def pX11_init_0 (ev : xEv) : List (Nat × xEn) := [(0, .inl (xop (xf_aload 0 1))), (1, .inl (xop xf_objInit)), (4, .inl (xop (xf_aload 0 1))), (5, .inl (xo_new 2 12 [.null, .null, .null, .int 0, .null, .int 0, .int 0, .null, .null, .null, .null, .null])), (8, .inl (xop xf_dup)), (9, .inr (.inl (2, 17, 0, 2))), (12, .inl (xo_putf 11 0 (.object "AirMail$Land"))), (15, .inl (xop (xf_aload 0 1))), (16, .inl (xo_new 10 20 [.null, .null, .null, .null, .null, .int 0, .null, .int 0, .null, .int 0, .null, .null, .int 0, .int 0, .int 0, .int 0, .int 0, .int 0, .int 0, .int 0])), (19, .inl (xop xf_dup)), (20, .inl (xop (xf_aload 0 1))), (21, .inl (xop (xf_getf 11 0))), (24, .inr (.inl (2, 95, 1, 10))), (27, .inl (xo_putf 11 1 (.object "AirMail$World"))), (30, .inl (xop (xf_aload 0 1))), (31, .inl (xo_new 7 5 [.null, .null, .int 0, .null, .null])), (34, .inl (xop xf_dup)), (35, .inr (.inl (2, 77, 0, 7))), (38, .inl (xo_putf 11 2 (.object "AirMail$Spares"))), (41, .inl (xop (xf_aload 0 1)))]
set_option maxRecDepth 20000 in
theorem okpX11_init_0 (ev : xEv) : ∀ q ∈ pX11_init_0 ev, xEnOK ev xmi yX11_init.cls yX11_init.name cX11_init 1 none q :=
  List.forall_mem_cons.mpr ⟨(xOK_pure (xs_aload_n (k := 0) rfl (show decode cX11_init 0 = .ok (.aload_n 0, 1) by decide +kernel))),
  List.forall_mem_cons.mpr ⟨(xOK_pure (xs_objInit (show decode cX11_init 1 = .ok (.invokespecial 1, 3) by decide +kernel) xw_149 xw_150 xw_151)),
  List.forall_mem_cons.mpr ⟨(xOK_pure (xs_aload_n (k := 0) rfl (show decode cX11_init 4 = .ok (.aload_n 0, 1) by decide +kernel))),
  List.forall_mem_cons.mpr ⟨(xs_new xcl_2 (by decide +kernel) (show decode cX11_init 5 = .ok (.new 7, 3) by decide +kernel) xw_152 xw_153 xw_119),
  List.forall_mem_cons.mpr ⟨(xOK_pure (xs_dup (show decode cX11_init 8 = .ok (.dup, 1) by decide +kernel))),
  List.forall_mem_cons.mpr ⟨(xcm mi_17 ⟨⟨(by decide +kernel), (by decide +kernel), (by decide +kernel)⟩, (by decide), xw_156, xw_119, Or.inr (Or.inr (Or.inl ⟨rfl, _, (show decode cX11_init 9 = .ok (.invokespecial 9, 3) by decide +kernel), rfl, xw_154, xw_155, rfl⟩))⟩),
  List.forall_mem_cons.mpr ⟨(xs_putF (k := 0) xcl_11 (by decide) rfl rfl rfl (show decode cX11_init 12 = .ok (.putfield 10, 3) by decide +kernel) xw_446),
  List.forall_mem_cons.mpr ⟨(xOK_pure (xs_aload_n (k := 0) rfl (show decode cX11_init 15 = .ok (.aload_n 0, 1) by decide +kernel))),
  List.forall_mem_cons.mpr ⟨(xs_new xcl_10 (by decide +kernel) (show decode cX11_init 16 = .ok (.new 16, 3) by decide +kernel) xw_211 xw_212 xw_120),
  List.forall_mem_cons.mpr ⟨(xOK_pure (xs_dup (show decode cX11_init 19 = .ok (.dup, 1) by decide +kernel))),
  List.forall_mem_cons.mpr ⟨(xOK_pure (xs_aload_n (k := 0) rfl (show decode cX11_init 20 = .ok (.aload_n 0, 1) by decide +kernel))),
  List.forall_mem_cons.mpr ⟨(xOK_pure (xs_getf xcl_11 (by decide) (show decode cX11_init 21 = .ok (.getfield 10, 3) by decide +kernel) xw_446)),
  List.forall_mem_cons.mpr ⟨(xcm mi_95 ⟨⟨(by decide +kernel), (by decide +kernel), (by decide +kernel)⟩, (by decide), xw_215, xw_120, Or.inr (Or.inr (Or.inl ⟨rfl, _, (show decode cX11_init 24 = .ok (.invokespecial 18, 3) by decide +kernel), rfl, xw_213, xw_214, rfl⟩))⟩),
  List.forall_mem_cons.mpr ⟨(xs_putF (k := 1) xcl_11 (by decide) rfl rfl rfl (show decode cX11_init 27 = .ok (.putfield 21, 3) by decide +kernel) xw_447),
  List.forall_mem_cons.mpr ⟨(xOK_pure (xs_aload_n (k := 0) rfl (show decode cX11_init 30 = .ok (.aload_n 0, 1) by decide +kernel))),
  List.forall_mem_cons.mpr ⟨(xs_new xcl_7 (by decide +kernel) (show decode cX11_init 31 = .ok (.new 25, 3) by decide +kernel) xw_381 xw_382 xw_123),
  List.forall_mem_cons.mpr ⟨(xOK_pure (xs_dup (show decode cX11_init 34 = .ok (.dup, 1) by decide +kernel))),
  List.forall_mem_cons.mpr ⟨(xcm mi_77 ⟨⟨(by decide +kernel), (by decide +kernel), (by decide +kernel)⟩, (by decide), xw_385, xw_123, Or.inr (Or.inr (Or.inl ⟨rfl, _, (show decode cX11_init 35 = .ok (.invokespecial 27, 3) by decide +kernel), rfl, xw_383, xw_384, rfl⟩))⟩),
  List.forall_mem_cons.mpr ⟨(xs_putF (k := 2) xcl_11 (by decide) rfl rfl rfl (show decode cX11_init 38 = .ok (.putfield 28, 3) by decide +kernel) xw_448),
  List.forall_mem_cons.mpr ⟨(xOK_pure (xs_aload_n (k := 0) rfl (show decode cX11_init 41 = .ok (.aload_n 0, 1) by decide +kernel))),
  (fun _ h => absurd h List.not_mem_nil)⟩⟩⟩⟩⟩⟩⟩⟩⟩⟩⟩⟩⟩⟩⟩⟩⟩⟩⟩⟩
def pX11_init_1 (ev : xEv) : List (Nat × xEn) := [(42, .inl (xo_new 4 10 [.null, .int 0, .null, .int 0, .null, .int 0, .int 0, .int 0, .int 0, .int 0])), (45, .inl (xop xf_dup)), (46, .inr (.inl (2, 41, 0, 4))), (49, .inl (xo_putf 11 3 (.object "AirMail$Parser"))), (52, .inl (xop (xf_aload 0 1))), (53, .inl (xop (xf_push (.int 41) 2))), (55, .inl (xo_newa (ev.1 1) (.inr (.inl (fun _ => 0))))), (57, .inl (xo_putf 11 4 (.array .long))), (60, .inl (xop (xf_aload 0 1))), (61, .inl (xop (xf_push (.int 100) 2))), (63, .inl (xo_newa (ev.1 0) (.inl (fun _ => 0)))), (65, .inl (xo_putf 11 5 (.array .int))), (68, .inl (xop (xf_aload 0 1))), (69, .inl (xop (xf_push (.int 32) 2))), (71, .inl (xo_newa (ev.1 0) (.inl (fun _ => 0)))), (73, .inl (xo_putf 11 7 (.array .int))), (76, .inr (.inr 0))]
set_option maxRecDepth 20000 in
theorem okpX11_init_1 (ev : xEv) : ∀ q ∈ pX11_init_1 ev, xEnOK ev xmi yX11_init.cls yX11_init.name cX11_init 1 none q :=
  List.forall_mem_cons.mpr ⟨(xs_new xcl_4 (by decide +kernel) (show decode cX11_init 42 = .ok (.new 32, 3) by decide +kernel) xw_407 xw_408 xw_124),
  List.forall_mem_cons.mpr ⟨(xOK_pure (xs_dup (show decode cX11_init 45 = .ok (.dup, 1) by decide +kernel))),
  List.forall_mem_cons.mpr ⟨(xcm mi_41 ⟨⟨(by decide +kernel), (by decide +kernel), (by decide +kernel)⟩, (by decide), xw_411, xw_124, Or.inr (Or.inr (Or.inl ⟨rfl, _, (show decode cX11_init 46 = .ok (.invokespecial 34, 3) by decide +kernel), rfl, xw_409, xw_410, rfl⟩))⟩),
  List.forall_mem_cons.mpr ⟨(xs_putF (k := 3) xcl_11 (by decide) rfl rfl rfl (show decode cX11_init 49 = .ok (.putfield 35, 3) by decide +kernel) xw_449),
  List.forall_mem_cons.mpr ⟨(xOK_pure (xs_aload_n (k := 0) rfl (show decode cX11_init 52 = .ok (.aload_n 0, 1) by decide +kernel))),
  List.forall_mem_cons.mpr ⟨(xOK_pure (xs_bipush (n := 41) (show decode cX11_init 53 = .ok (.bipush 41, 2) by decide +kernel) (by decide))),
  List.forall_mem_cons.mpr ⟨(xs_newa (t := 1) (ty := .long) rfl rfl (fun _ _ => rfl) (by decide) (show decode cX11_init 55 = .ok (.newarray .long, 2) by decide +kernel) xw_406),
  List.forall_mem_cons.mpr ⟨(xs_putF (k := 4) xcl_11 (by decide) rfl rfl rfl (show decode cX11_init 57 = .ok (.putfield 39, 3) by decide +kernel) xw_450),
  List.forall_mem_cons.mpr ⟨(xOK_pure (xs_aload_n (k := 0) rfl (show decode cX11_init 60 = .ok (.aload_n 0, 1) by decide +kernel))),
  List.forall_mem_cons.mpr ⟨(xOK_pure (xs_bipush (n := 100) (show decode cX11_init 61 = .ok (.bipush 100, 2) by decide +kernel) (by decide))),
  List.forall_mem_cons.mpr ⟨(xs_newa (t := 0) (ty := .int) rfl rfl (fun _ _ => rfl) (by decide) (show decode cX11_init 63 = .ok (.newarray .int, 2) by decide +kernel) xw_209),
  List.forall_mem_cons.mpr ⟨(xs_putF (k := 5) xcl_11 (by decide) rfl rfl rfl (show decode cX11_init 65 = .ok (.putfield 43, 3) by decide +kernel) xw_451),
  List.forall_mem_cons.mpr ⟨(xOK_pure (xs_aload_n (k := 0) rfl (show decode cX11_init 68 = .ok (.aload_n 0, 1) by decide +kernel))),
  List.forall_mem_cons.mpr ⟨(xOK_pure (xs_bipush (n := 32) (show decode cX11_init 69 = .ok (.bipush 32, 2) by decide +kernel) (by decide))),
  List.forall_mem_cons.mpr ⟨(xs_newa (t := 0) (ty := .int) rfl rfl (fun _ _ => rfl) (by decide) (show decode cX11_init 71 = .ok (.newarray .int, 2) by decide +kernel) xw_209),
  List.forall_mem_cons.mpr ⟨(xs_putF (k := 7) xcl_11 (by decide) rfl rfl rfl (show decode cX11_init 73 = .ok (.putfield 49, 3) by decide +kernel) xw_453),
  List.forall_mem_cons.mpr ⟨(Or.inl ⟨rfl, (show decode cX11_init 76 = .ok (.return_, 1) by decide +kernel), rfl⟩),
  (fun _ h => absurd h List.not_mem_nil)⟩⟩⟩⟩⟩⟩⟩⟩⟩⟩⟩⟩⟩⟩⟩⟩⟩
def pX11_init (ev : xEv) : List (Nat × xEn) := pX11_init_0 ev ++ (pX11_init_1 ev)
theorem okpX11_init (ev : xEv) : ∀ q ∈ pX11_init ev, xEnOK ev xmi yX11_init.cls yX11_init.name cX11_init 1 none q := List.forall_mem_append.mpr ⟨okpX11_init_0 ev, okpX11_init_1 ev⟩
theorem omX11_init (ev : xEv) : xMethOK ev xmi yX11_init.cls yX11_init.name 127 (pX11_init ev) := xMethOK.of mi_127 (by decide +kernel) (okpX11_init ev)
def pX11_field_0 (ev : xEv) : List (Nat × xEn) := [(0, .inl (xop (xf_iload 1 1))), (1, .inl (xop (xf_push (.int 0) 1))), (2, .inl (xop (xf_push (.int 99) 2))), (4, .inr (.inl (1, 183, 3, 11))), (7, .inl (xop (xf_if_eq 32))), (10, .inl (xop (xf_iload 3 1))), (11, .inl (xop (xf_push (.int 0) 1))), (12, .inl (xop (xf_push (.int 9) 2))), (14, .inr (.inl (1, 183, 3, 11))), (17, .inl (xop (xf_if_eq 32))), (20, .inl (xop (xf_aload 0 1))), (21, .inl (xop (xf_getf 11 0))), (24, .inl (xop (xf_getf 2 3))), (27, .inl (xop (xf_push (.int 8) 2))), (29, .inl (xop (xf_icmp_lt 34))), (32, .inl (xop (xf_push (.int (-1)) 1))), (33, .inr (.inr 1)), (34, .inl (xop (xf_aload 0 1))), (35, .inl (xop (xf_getf 11 0))), (38, .inl (xop (xf_iload 1 1)))]
set_option maxRecDepth 20000 in
theorem okpX11_field_0 (ev : xEv) : ∀ q ∈ pX11_field_0 ev, xEnOK ev xmi yX11_field.cls yX11_field.name cX11_field 4 (some .int) q :=
  List.forall_mem_cons.mpr ⟨(xOK_pure (xs_iload_n (k := 1) rfl (show decode cX11_field 0 = .ok (.iload_n 1, 1) by decide +kernel))),
  List.forall_mem_cons.mpr ⟨(xOK_pure (xs_iconst (n := 0) (show decode cX11_field 1 = .ok (.iconst 0, 1) by decide +kernel) (by decide))),
  List.forall_mem_cons.mpr ⟨(xOK_pure (xs_bipush (n := 99) (show decode cX11_field 2 = .ok (.bipush 99, 2) by decide +kernel) (by decide))),
  List.forall_mem_cons.mpr ⟨(xcm mi_183 ⟨⟨(by decide +kernel), (by decide +kernel), (by decide +kernel)⟩, (by decide), xw_480, xw_118, Or.inr (Or.inl ⟨rfl, _, (show decode cX11_field 4 = .ok (.invokestatic 52, 3) by decide +kernel), xw_478, xw_479⟩)⟩),
  List.forall_mem_cons.mpr ⟨(xOK_pure (xs_if_eq (show decode cX11_field 7 = .ok (.ifCond .eq 25, 3) by decide +kernel) (by decide))),
  List.forall_mem_cons.mpr ⟨(xOK_pure (xs_iload_n (k := 3) rfl (show decode cX11_field 10 = .ok (.iload_n 3, 1) by decide +kernel))),
  List.forall_mem_cons.mpr ⟨(xOK_pure (xs_iconst (n := 0) (show decode cX11_field 11 = .ok (.iconst 0, 1) by decide +kernel) (by decide))),
  List.forall_mem_cons.mpr ⟨(xOK_pure (xs_bipush (n := 9) (show decode cX11_field 12 = .ok (.bipush 9, 2) by decide +kernel) (by decide))),
  List.forall_mem_cons.mpr ⟨(xcm mi_183 ⟨⟨(by decide +kernel), (by decide +kernel), (by decide +kernel)⟩, (by decide), xw_480, xw_118, Or.inr (Or.inl ⟨rfl, _, (show decode cX11_field 14 = .ok (.invokestatic 52, 3) by decide +kernel), xw_478, xw_479⟩)⟩),
  List.forall_mem_cons.mpr ⟨(xOK_pure (xs_if_eq (show decode cX11_field 17 = .ok (.ifCond .eq 15, 3) by decide +kernel) (by decide))),
  List.forall_mem_cons.mpr ⟨(xOK_pure (xs_aload_n (k := 0) rfl (show decode cX11_field 20 = .ok (.aload_n 0, 1) by decide +kernel))),
  List.forall_mem_cons.mpr ⟨(xOK_pure (xs_getf xcl_11 (by decide) (show decode cX11_field 21 = .ok (.getfield 10, 3) by decide +kernel) xw_446)),
  List.forall_mem_cons.mpr ⟨(xOK_pure (xs_getf xcl_2 (by decide) (show decode cX11_field 24 = .ok (.getfield 56, 3) by decide +kernel) xw_170)),
  List.forall_mem_cons.mpr ⟨(xOK_pure (xs_bipush (n := 8) (show decode cX11_field 27 = .ok (.bipush 8, 2) by decide +kernel) (by decide))),
  List.forall_mem_cons.mpr ⟨(xOK_pure (xs_icmp_lt (show decode cX11_field 29 = .ok (.if_icmp .lt 5, 3) by decide +kernel) (by decide))),
  List.forall_mem_cons.mpr ⟨(xOK_pure (xs_iconst (n := (-1)) (show decode cX11_field 32 = .ok (.iconst (-1), 1) by decide +kernel) (by decide))),
  List.forall_mem_cons.mpr ⟨(Or.inr (Or.inl ⟨rfl, (show decode cX11_field 33 = .ok (.ireturn, 1) by decide +kernel), rfl⟩)),
  List.forall_mem_cons.mpr ⟨(xOK_pure (xs_aload_n (k := 0) rfl (show decode cX11_field 34 = .ok (.aload_n 0, 1) by decide +kernel))),
  List.forall_mem_cons.mpr ⟨(xOK_pure (xs_getf xcl_11 (by decide) (show decode cX11_field 35 = .ok (.getfield 10, 3) by decide +kernel) xw_446)),
  List.forall_mem_cons.mpr ⟨(xOK_pure (xs_iload_n (k := 1) rfl (show decode cX11_field 38 = .ok (.iload_n 1, 1) by decide +kernel))),
  (fun _ h => absurd h List.not_mem_nil)⟩⟩⟩⟩⟩⟩⟩⟩⟩⟩⟩⟩⟩⟩⟩⟩⟩⟩⟩⟩
def pX11_field_1 (ev : xEv) : List (Nat × xEn) := [(39, .inl (xop (xf_iload 2 1))), (40, .inl (xop (xf_iload 3 1))), (41, .inr (.inl (0, 18, 3, 2))), (44, .inr (.inr 1))]
set_option maxRecDepth 20000 in
theorem okpX11_field_1 (ev : xEv) : ∀ q ∈ pX11_field_1 ev, xEnOK ev xmi yX11_field.cls yX11_field.name cX11_field 4 (some .int) q :=
  List.forall_mem_cons.mpr ⟨(xOK_pure (xs_iload_n (k := 2) rfl (show decode cX11_field 39 = .ok (.iload_n 2, 1) by decide +kernel))),
  List.forall_mem_cons.mpr ⟨(xOK_pure (xs_iload_n (k := 3) rfl (show decode cX11_field 40 = .ok (.iload_n 3, 1) by decide +kernel))),
  List.forall_mem_cons.mpr ⟨(xcm mi_18 ⟨⟨(by decide +kernel), (by decide +kernel), (by decide +kernel)⟩, (by decide), xw_484, xw_119, Or.inl ⟨rfl, _, _, _, _, (show decode cX11_field 41 = .ok (.invokevirtual 60, 3) by decide +kernel), xw_481, xw_482, xw_483, rfl⟩⟩),
  List.forall_mem_cons.mpr ⟨(Or.inr (Or.inl ⟨rfl, (show decode cX11_field 44 = .ok (.ireturn, 1) by decide +kernel), rfl⟩)),
  (fun _ h => absurd h List.not_mem_nil)⟩⟩⟩⟩
def pX11_field (ev : xEv) : List (Nat × xEn) := pX11_field_0 ev ++ (pX11_field_1 ev)
theorem okpX11_field (ev : xEv) : ∀ q ∈ pX11_field ev, xEnOK ev xmi yX11_field.cls yX11_field.name cX11_field 4 (some .int) q := List.forall_mem_append.mpr ⟨okpX11_field_0 ev, okpX11_field_1 ev⟩
theorem omX11_field (ev : xEv) : xMethOK ev xmi yX11_field.cls yX11_field.name 128 (pX11_field ev) := xMethOK.of mi_128 (by decide +kernel) (okpX11_field ev)
def pX11_lamp (ev : xEv) : List (Nat × xEn) := [(0, .inl (xop (xf_aload 0 1))), (1, .inl (xop (xf_iload 1 1))), (2, .inr (.inl (0, 173, 1, 11))), (5, .inl (xop (xf_if_ne 10))), (8, .inl (xop (xf_push (.int 0) 1))), (9, .inr (.inr 4)), (10, .inl (xop (xf_aload 0 1))), (11, .inl (xop (xf_getf 11 0))), (14, .inl (xop (xf_getf 2 1))), (17, .inl (xop (xf_iload 1 1))), (18, .inl (xop (xf_iload 2 1))), (19, .inl (xo_ast (ev.1 2) (vp_nar .boolean))), (20, .inl (xop (xf_push (.int 1) 1))), (21, .inr (.inr 4))]
set_option maxRecDepth 20000 in
theorem okpX11_lamp (ev : xEv) : ∀ q ∈ pX11_lamp ev, xEnOK ev xmi yX11_lamp.cls yX11_lamp.name cX11_lamp 3 (some .boolean) q :=
  List.forall_mem_cons.mpr ⟨(xOK_pure (xs_aload_n (k := 0) rfl (show decode cX11_lamp 0 = .ok (.aload_n 0, 1) by decide +kernel))),
  List.forall_mem_cons.mpr ⟨(xOK_pure (xs_iload_n (k := 1) rfl (show decode cX11_lamp 1 = .ok (.iload_n 1, 1) by decide +kernel))),
  List.forall_mem_cons.mpr ⟨(xcm mi_173 ⟨⟨(by decide +kernel), (by decide +kernel), (by decide +kernel)⟩, (by decide), xw_492, xw_118, Or.inl ⟨rfl, _, _, _, _, (show decode cX11_lamp 2 = .ok (.invokevirtual 64, 3) by decide +kernel), xw_489, xw_491, xw_0, rfl⟩⟩),
  List.forall_mem_cons.mpr ⟨(xOK_pure (xs_if_ne (show decode cX11_lamp 5 = .ok (.ifCond .ne 5, 3) by decide +kernel) (by decide))),
  List.forall_mem_cons.mpr ⟨(xOK_pure (xs_iconst (n := 0) (show decode cX11_lamp 8 = .ok (.iconst 0, 1) by decide +kernel) (by decide))),
  List.forall_mem_cons.mpr ⟨(Or.inr (Or.inr (Or.inr (Or.inr (Or.inl ⟨rfl, (show decode cX11_lamp 9 = .ok (.ireturn, 1) by decide +kernel), rfl⟩))))),
  List.forall_mem_cons.mpr ⟨(xOK_pure (xs_aload_n (k := 0) rfl (show decode cX11_lamp 10 = .ok (.aload_n 0, 1) by decide +kernel))),
  List.forall_mem_cons.mpr ⟨(xOK_pure (xs_getf xcl_11 (by decide) (show decode cX11_lamp 11 = .ok (.getfield 10, 3) by decide +kernel) xw_446)),
  List.forall_mem_cons.mpr ⟨(xOK_pure (xs_getf xcl_2 (by decide) (show decode cX11_lamp 14 = .ok (.getfield 68, 3) by decide +kernel) xw_164)),
  List.forall_mem_cons.mpr ⟨(xOK_pure (xs_iload_n (k := 1) rfl (show decode cX11_lamp 17 = .ok (.iload_n 1, 1) by decide +kernel))),
  List.forall_mem_cons.mpr ⟨(xOK_pure (xs_iload_n (k := 2) rfl (show decode cX11_lamp 18 = .ok (.iload_n 2, 1) by decide +kernel))),
  List.forall_mem_cons.mpr ⟨(xs_zast (show decode cX11_lamp 19 = .ok (.bastore, 1) by decide +kernel)),
  List.forall_mem_cons.mpr ⟨(xOK_pure (xs_iconst (n := 1) (show decode cX11_lamp 20 = .ok (.iconst 1, 1) by decide +kernel) (by decide))),
  List.forall_mem_cons.mpr ⟨(Or.inr (Or.inr (Or.inr (Or.inr (Or.inl ⟨rfl, (show decode cX11_lamp 21 = .ok (.ireturn, 1) by decide +kernel), rfl⟩))))),
  (fun _ h => absurd h List.not_mem_nil)⟩⟩⟩⟩⟩⟩⟩⟩⟩⟩⟩⟩⟩⟩
theorem omX11_lamp (ev : xEv) : xMethOK ev xmi yX11_lamp.cls yX11_lamp.name 129 (pX11_lamp ev) := xMethOK.of mi_129 (by decide +kernel) (okpX11_lamp ev)
def pX11_leg_0 (ev : xEv) : List (Nat × xEn) := [(0, .inl (xop (xf_aload 0 1))), (1, .inl (xop (xf_iload 1 1))), (2, .inr (.inl (0, 173, 1, 11))), (5, .inl (xop (xf_if_eq 33))), (8, .inl (xop (xf_aload 0 1))), (9, .inl (xop (xf_iload 2 1))), (10, .inr (.inl (0, 173, 1, 11))), (13, .inl (xop (xf_if_eq 33))), (16, .inl (xop (xf_iload 1 1))), (17, .inl (xop (xf_iload 2 1))), (18, .inl (xop (xf_icmp_eq 33))), (21, .inl (xop (xf_aload 0 1))), (22, .inl (xop (xf_getf 11 0))), (25, .inl (xop (xf_getf 2 5))), (28, .inl (xop (xf_push (.int 12) 2))), (30, .inl (xop (xf_icmp_lt 35))), (33, .inl (xop (xf_push (.int (-1)) 1))), (34, .inr (.inr 1)), (35, .inl (xop (xf_iload 3 1))), (36, .inl (xop (xf_push (.int 10) 2)))]
set_option maxRecDepth 20000 in
theorem okpX11_leg_0 (ev : xEv) : ∀ q ∈ pX11_leg_0 ev, xEnOK ev xmi yX11_leg.cls yX11_leg.name cX11_leg 5 (some .int) q :=
  List.forall_mem_cons.mpr ⟨(xOK_pure (xs_aload_n (k := 0) rfl (show decode cX11_leg 0 = .ok (.aload_n 0, 1) by decide +kernel))),
  List.forall_mem_cons.mpr ⟨(xOK_pure (xs_iload_n (k := 1) rfl (show decode cX11_leg 1 = .ok (.iload_n 1, 1) by decide +kernel))),
  List.forall_mem_cons.mpr ⟨(xcm mi_173 ⟨⟨(by decide +kernel), (by decide +kernel), (by decide +kernel)⟩, (by decide), xw_492, xw_118, Or.inl ⟨rfl, _, _, _, _, (show decode cX11_leg 2 = .ok (.invokevirtual 64, 3) by decide +kernel), xw_489, xw_491, xw_0, rfl⟩⟩),
  List.forall_mem_cons.mpr ⟨(xOK_pure (xs_if_eq (show decode cX11_leg 5 = .ok (.ifCond .eq 28, 3) by decide +kernel) (by decide))),
  List.forall_mem_cons.mpr ⟨(xOK_pure (xs_aload_n (k := 0) rfl (show decode cX11_leg 8 = .ok (.aload_n 0, 1) by decide +kernel))),
  List.forall_mem_cons.mpr ⟨(xOK_pure (xs_iload_n (k := 2) rfl (show decode cX11_leg 9 = .ok (.iload_n 2, 1) by decide +kernel))),
  List.forall_mem_cons.mpr ⟨(xcm mi_173 ⟨⟨(by decide +kernel), (by decide +kernel), (by decide +kernel)⟩, (by decide), xw_492, xw_118, Or.inl ⟨rfl, _, _, _, _, (show decode cX11_leg 10 = .ok (.invokevirtual 64, 3) by decide +kernel), xw_489, xw_491, xw_0, rfl⟩⟩),
  List.forall_mem_cons.mpr ⟨(xOK_pure (xs_if_eq (show decode cX11_leg 13 = .ok (.ifCond .eq 20, 3) by decide +kernel) (by decide))),
  List.forall_mem_cons.mpr ⟨(xOK_pure (xs_iload_n (k := 1) rfl (show decode cX11_leg 16 = .ok (.iload_n 1, 1) by decide +kernel))),
  List.forall_mem_cons.mpr ⟨(xOK_pure (xs_iload_n (k := 2) rfl (show decode cX11_leg 17 = .ok (.iload_n 2, 1) by decide +kernel))),
  List.forall_mem_cons.mpr ⟨(xOK_pure (xs_icmp_eq (show decode cX11_leg 18 = .ok (.if_icmp .eq 15, 3) by decide +kernel) (by decide))),
  List.forall_mem_cons.mpr ⟨(xOK_pure (xs_aload_n (k := 0) rfl (show decode cX11_leg 21 = .ok (.aload_n 0, 1) by decide +kernel))),
  List.forall_mem_cons.mpr ⟨(xOK_pure (xs_getf xcl_11 (by decide) (show decode cX11_leg 22 = .ok (.getfield 10, 3) by decide +kernel) xw_446)),
  List.forall_mem_cons.mpr ⟨(xOK_pure (xs_getf xcl_2 (by decide) (show decode cX11_leg 25 = .ok (.getfield 72, 3) by decide +kernel) xw_176)),
  List.forall_mem_cons.mpr ⟨(xOK_pure (xs_bipush (n := 12) (show decode cX11_leg 28 = .ok (.bipush 12, 2) by decide +kernel) (by decide))),
  List.forall_mem_cons.mpr ⟨(xOK_pure (xs_icmp_lt (show decode cX11_leg 30 = .ok (.if_icmp .lt 5, 3) by decide +kernel) (by decide))),
  List.forall_mem_cons.mpr ⟨(xOK_pure (xs_iconst (n := (-1)) (show decode cX11_leg 33 = .ok (.iconst (-1), 1) by decide +kernel) (by decide))),
  List.forall_mem_cons.mpr ⟨(Or.inr (Or.inl ⟨rfl, (show decode cX11_leg 34 = .ok (.ireturn, 1) by decide +kernel), rfl⟩)),
  List.forall_mem_cons.mpr ⟨(xOK_pure (xs_iload_n (k := 3) rfl (show decode cX11_leg 35 = .ok (.iload_n 3, 1) by decide +kernel))),
  List.forall_mem_cons.mpr ⟨(xOK_pure (xs_bipush (n := 10) (show decode cX11_leg 36 = .ok (.bipush 10, 2) by decide +kernel) (by decide))),
  (fun _ h => absurd h List.not_mem_nil)⟩⟩⟩⟩⟩⟩⟩⟩⟩⟩⟩⟩⟩⟩⟩⟩⟩⟩⟩⟩
def pX11_leg_1 (ev : xEv) : List (Nat × xEn) := [(38, .inl (xop (xf_push (.int 400) 3))), (41, .inr (.inl (1, 183, 3, 11))), (44, .inl (xop (xf_if_eq 59))), (47, .inl (xop (xf_iload 4 2))), (49, .inl (xop (xf_push (.int 0) 1))), (50, .inl (xop (xf_push (.int 150) 3))), (53, .inr (.inl (1, 183, 3, 11))), (56, .inl (xop (xf_if_ne 61))), (59, .inl (xop (xf_push (.int (-1)) 1))), (60, .inr (.inr 1)), (61, .inl (xop (xf_aload 0 1))), (62, .inl (xop (xf_getf 11 0))), (65, .inl (xop (xf_iload 1 1))), (66, .inl (xop (xf_iload 2 1))), (67, .inl (xop (xf_iload 3 1))), (68, .inl (xop (xf_iload 4 2))), (70, .inr (.inl (0, 19, 4, 2))), (73, .inr (.inr 1))]
set_option maxRecDepth 20000 in
theorem okpX11_leg_1 (ev : xEv) : ∀ q ∈ pX11_leg_1 ev, xEnOK ev xmi yX11_leg.cls yX11_leg.name cX11_leg 5 (some .int) q :=
  List.forall_mem_cons.mpr ⟨(xOK_pure (xs_sipush (n := 400) (show decode cX11_leg 38 = .ok (.sipush 400, 3) by decide +kernel) (by decide))),
  List.forall_mem_cons.mpr ⟨(xcm mi_183 ⟨⟨(by decide +kernel), (by decide +kernel), (by decide +kernel)⟩, (by decide), xw_480, xw_118, Or.inr (Or.inl ⟨rfl, _, (show decode cX11_leg 41 = .ok (.invokestatic 52, 3) by decide +kernel), xw_478, xw_479⟩)⟩),
  List.forall_mem_cons.mpr ⟨(xOK_pure (xs_if_eq (show decode cX11_leg 44 = .ok (.ifCond .eq 15, 3) by decide +kernel) (by decide))),
  List.forall_mem_cons.mpr ⟨(xOK_pure (xs_iload (show decode cX11_leg 47 = .ok (.iload 4, 2) by decide +kernel))),
  List.forall_mem_cons.mpr ⟨(xOK_pure (xs_iconst (n := 0) (show decode cX11_leg 49 = .ok (.iconst 0, 1) by decide +kernel) (by decide))),
  List.forall_mem_cons.mpr ⟨(xOK_pure (xs_sipush (n := 150) (show decode cX11_leg 50 = .ok (.sipush 150, 3) by decide +kernel) (by decide))),
  List.forall_mem_cons.mpr ⟨(xcm mi_183 ⟨⟨(by decide +kernel), (by decide +kernel), (by decide +kernel)⟩, (by decide), xw_480, xw_118, Or.inr (Or.inl ⟨rfl, _, (show decode cX11_leg 53 = .ok (.invokestatic 52, 3) by decide +kernel), xw_478, xw_479⟩)⟩),
  List.forall_mem_cons.mpr ⟨(xOK_pure (xs_if_ne (show decode cX11_leg 56 = .ok (.ifCond .ne 5, 3) by decide +kernel) (by decide))),
  List.forall_mem_cons.mpr ⟨(xOK_pure (xs_iconst (n := (-1)) (show decode cX11_leg 59 = .ok (.iconst (-1), 1) by decide +kernel) (by decide))),
  List.forall_mem_cons.mpr ⟨(Or.inr (Or.inl ⟨rfl, (show decode cX11_leg 60 = .ok (.ireturn, 1) by decide +kernel), rfl⟩)),
  List.forall_mem_cons.mpr ⟨(xOK_pure (xs_aload_n (k := 0) rfl (show decode cX11_leg 61 = .ok (.aload_n 0, 1) by decide +kernel))),
  List.forall_mem_cons.mpr ⟨(xOK_pure (xs_getf xcl_11 (by decide) (show decode cX11_leg 62 = .ok (.getfield 10, 3) by decide +kernel) xw_446)),
  List.forall_mem_cons.mpr ⟨(xOK_pure (xs_iload_n (k := 1) rfl (show decode cX11_leg 65 = .ok (.iload_n 1, 1) by decide +kernel))),
  List.forall_mem_cons.mpr ⟨(xOK_pure (xs_iload_n (k := 2) rfl (show decode cX11_leg 66 = .ok (.iload_n 2, 1) by decide +kernel))),
  List.forall_mem_cons.mpr ⟨(xOK_pure (xs_iload_n (k := 3) rfl (show decode cX11_leg 67 = .ok (.iload_n 3, 1) by decide +kernel))),
  List.forall_mem_cons.mpr ⟨(xOK_pure (xs_iload (show decode cX11_leg 68 = .ok (.iload 4, 2) by decide +kernel))),
  List.forall_mem_cons.mpr ⟨(xcm mi_19 ⟨⟨(by decide +kernel), (by decide +kernel), (by decide +kernel)⟩, (by decide), xw_500, xw_119, Or.inl ⟨rfl, _, _, _, _, (show decode cX11_leg 70 = .ok (.invokevirtual 75, 3) by decide +kernel), xw_497, xw_498, xw_499, rfl⟩⟩),
  List.forall_mem_cons.mpr ⟨(Or.inr (Or.inl ⟨rfl, (show decode cX11_leg 73 = .ok (.ireturn, 1) by decide +kernel), rfl⟩)),
  (fun _ h => absurd h List.not_mem_nil)⟩⟩⟩⟩⟩⟩⟩⟩⟩⟩⟩⟩⟩⟩⟩⟩⟩⟩
def pX11_leg (ev : xEv) : List (Nat × xEn) := pX11_leg_0 ev ++ (pX11_leg_1 ev)
theorem okpX11_leg (ev : xEv) : ∀ q ∈ pX11_leg ev, xEnOK ev xmi yX11_leg.cls yX11_leg.name cX11_leg 5 (some .int) q := List.forall_mem_append.mpr ⟨okpX11_leg_0 ev, okpX11_leg_1 ev⟩
theorem omX11_leg (ev : xEv) : xMethOK ev xmi yX11_leg.cls yX11_leg.name 130 (pX11_leg ev) := xMethOK.of mi_130 (by decide +kernel) (okpX11_leg ev)
def pX11_ground_0 (ev : xEv) : List (Nat × xEn) := [(0, .inl (xop (xf_aload 0 1))), (1, .inl (xop (xf_iload 1 1))), (2, .inr (.inl (0, 174, 1, 11))), (5, .inl (xop (xf_if_eq 17))), (8, .inl (xop (xf_iload 3 1))), (9, .inl (xop (xf_push (.int 0) 1))), (10, .inl (xop (xf_push (.int 3) 1))), (11, .inr (.inl (1, 183, 3, 11))), (14, .inl (xop (xf_if_ne 19))), (17, .inl (xop (xf_push (.int (-1)) 1))), (18, .inr (.inr 1)), (19, .inl (xop (xf_aload 0 1))), (20, .inl (xop (xf_getf 11 0))), (23, .inl (xop (xf_getf 2 4))), (26, .inl (xop (xf_iload 1 1))), (27, .inl (xop (xf_aald (ev.1 4)))), (28, .inl (xop (xf_astore 4 2))), (30, .inl (xop (xf_iload 2 1))), (31, .inl (xop (xf_push (.int 1) 1))), (32, .inl (xop (xf_aload 4 2)))]
set_option maxRecDepth 20000 in
theorem okpX11_ground_0 (ev : xEv) : ∀ q ∈ pX11_ground_0 ev, xEnOK ev xmi yX11_ground.cls yX11_ground.name cX11_ground 5 (some .int) q :=
  List.forall_mem_cons.mpr ⟨(xOK_pure (xs_aload_n (k := 0) rfl (show decode cX11_ground 0 = .ok (.aload_n 0, 1) by decide +kernel))),
  List.forall_mem_cons.mpr ⟨(xOK_pure (xs_iload_n (k := 1) rfl (show decode cX11_ground 1 = .ok (.iload_n 1, 1) by decide +kernel))),
  List.forall_mem_cons.mpr ⟨(xcm mi_174 ⟨⟨(by decide +kernel), (by decide +kernel), (by decide +kernel)⟩, (by decide), xw_550, xw_118, Or.inl ⟨rfl, _, _, _, _, (show decode cX11_ground 2 = .ok (.invokevirtual 79, 3) by decide +kernel), xw_547, xw_549, xw_1, rfl⟩⟩),
  List.forall_mem_cons.mpr ⟨(xOK_pure (xs_if_eq (show decode cX11_ground 5 = .ok (.ifCond .eq 12, 3) by decide +kernel) (by decide))),
  List.forall_mem_cons.mpr ⟨(xOK_pure (xs_iload_n (k := 3) rfl (show decode cX11_ground 8 = .ok (.iload_n 3, 1) by decide +kernel))),
  List.forall_mem_cons.mpr ⟨(xOK_pure (xs_iconst (n := 0) (show decode cX11_ground 9 = .ok (.iconst 0, 1) by decide +kernel) (by decide))),
  List.forall_mem_cons.mpr ⟨(xOK_pure (xs_iconst (n := 3) (show decode cX11_ground 10 = .ok (.iconst 3, 1) by decide +kernel) (by decide))),
  List.forall_mem_cons.mpr ⟨(xcm mi_183 ⟨⟨(by decide +kernel), (by decide +kernel), (by decide +kernel)⟩, (by decide), xw_480, xw_118, Or.inr (Or.inl ⟨rfl, _, (show decode cX11_ground 11 = .ok (.invokestatic 52, 3) by decide +kernel), xw_478, xw_479⟩)⟩),
  List.forall_mem_cons.mpr ⟨(xOK_pure (xs_if_ne (show decode cX11_ground 14 = .ok (.ifCond .ne 5, 3) by decide +kernel) (by decide))),
  List.forall_mem_cons.mpr ⟨(xOK_pure (xs_iconst (n := (-1)) (show decode cX11_ground 17 = .ok (.iconst (-1), 1) by decide +kernel) (by decide))),
  List.forall_mem_cons.mpr ⟨(Or.inr (Or.inl ⟨rfl, (show decode cX11_ground 18 = .ok (.ireturn, 1) by decide +kernel), rfl⟩)),
  List.forall_mem_cons.mpr ⟨(xOK_pure (xs_aload_n (k := 0) rfl (show decode cX11_ground 19 = .ok (.aload_n 0, 1) by decide +kernel))),
  List.forall_mem_cons.mpr ⟨(xOK_pure (xs_getf xcl_11 (by decide) (show decode cX11_ground 20 = .ok (.getfield 10, 3) by decide +kernel) xw_446)),
  List.forall_mem_cons.mpr ⟨(xOK_pure (xs_getf xcl_2 (by decide) (show decode cX11_ground 23 = .ok (.getfield 82, 3) by decide +kernel) xw_173)),
  List.forall_mem_cons.mpr ⟨(xOK_pure (xs_iload_n (k := 1) rfl (show decode cX11_ground 26 = .ok (.iload_n 1, 1) by decide +kernel))),
  List.forall_mem_cons.mpr ⟨(xOK_pure (xs_aald (t := 4) rfl (show decode cX11_ground 27 = .ok (.aaload, 1) by decide +kernel))),
  List.forall_mem_cons.mpr ⟨(xOK_pure (xs_astore (show decode cX11_ground 28 = .ok (.astore 4, 2) by decide +kernel) (by decide))),
  List.forall_mem_cons.mpr ⟨(xOK_pure (xs_iload_n (k := 2) rfl (show decode cX11_ground 30 = .ok (.iload_n 2, 1) by decide +kernel))),
  List.forall_mem_cons.mpr ⟨(xOK_pure (xs_iconst (n := 1) (show decode cX11_ground 31 = .ok (.iconst 1, 1) by decide +kernel) (by decide))),
  List.forall_mem_cons.mpr ⟨(xOK_pure (xs_aload (show decode cX11_ground 32 = .ok (.aload 4, 2) by decide +kernel))),
  (fun _ h => absurd h List.not_mem_nil)⟩⟩⟩⟩⟩⟩⟩⟩⟩⟩⟩⟩⟩⟩⟩⟩⟩⟩⟩⟩
def pX11_ground_1 (ev : xEv) : List (Nat × xEn) := [(34, .inl (xop (xf_getf 3 2))), (37, .inl (xop (xf_push (.int 1) 1))), (38, .inl (xop (xf_bin (fun x y => x - y)))), (39, .inr (.inl (1, 183, 3, 11))), (42, .inl (xop (xf_if_eq 54))), (45, .inl (xop (xf_aload 4 2))), (47, .inl (xop (xf_getf 3 4))), (50, .inl (xop (xf_push (.int 4) 1))), (51, .inl (xop (xf_icmp_lt 56))), (54, .inl (xop (xf_push (.int (-1)) 1))), (55, .inr (.inr 1)), (56, .inl (xop (xf_aload 4 2))), (58, .inl (xop (xf_iload 2 1))), (59, .inl (xop (xf_iload 3 1))), (60, .inr (.inl (0, 30, 2, 3))), (63, .inr (.inr 1))]
set_option maxRecDepth 20000 in
theorem okpX11_ground_1 (ev : xEv) : ∀ q ∈ pX11_ground_1 ev, xEnOK ev xmi yX11_ground.cls yX11_ground.name cX11_ground 5 (some .int) q :=
  List.forall_mem_cons.mpr ⟨(xOK_pure (xs_getf xcl_3 (by decide) (show decode cX11_ground 34 = .ok (.getfield 86, 3) by decide +kernel) xw_513)),
  List.forall_mem_cons.mpr ⟨(xOK_pure (xs_iconst (n := 1) (show decode cX11_ground 37 = .ok (.iconst 1, 1) by decide +kernel) (by decide))),
  List.forall_mem_cons.mpr ⟨(xOK_pure (xs_isub (show decode cX11_ground 38 = .ok (.isub, 1) by decide +kernel))),
  List.forall_mem_cons.mpr ⟨(xcm mi_183 ⟨⟨(by decide +kernel), (by decide +kernel), (by decide +kernel)⟩, (by decide), xw_480, xw_118, Or.inr (Or.inl ⟨rfl, _, (show decode cX11_ground 39 = .ok (.invokestatic 52, 3) by decide +kernel), xw_478, xw_479⟩)⟩),
  List.forall_mem_cons.mpr ⟨(xOK_pure (xs_if_eq (show decode cX11_ground 42 = .ok (.ifCond .eq 12, 3) by decide +kernel) (by decide))),
  List.forall_mem_cons.mpr ⟨(xOK_pure (xs_aload (show decode cX11_ground 45 = .ok (.aload 4, 2) by decide +kernel))),
  List.forall_mem_cons.mpr ⟨(xOK_pure (xs_getf xcl_3 (by decide) (show decode cX11_ground 47 = .ok (.getfield 91, 3) by decide +kernel) xw_518)),
  List.forall_mem_cons.mpr ⟨(xOK_pure (xs_iconst (n := 4) (show decode cX11_ground 50 = .ok (.iconst 4, 1) by decide +kernel) (by decide))),
  List.forall_mem_cons.mpr ⟨(xOK_pure (xs_icmp_lt (show decode cX11_ground 51 = .ok (.if_icmp .lt 5, 3) by decide +kernel) (by decide))),
  List.forall_mem_cons.mpr ⟨(xOK_pure (xs_iconst (n := (-1)) (show decode cX11_ground 54 = .ok (.iconst (-1), 1) by decide +kernel) (by decide))),
  List.forall_mem_cons.mpr ⟨(Or.inr (Or.inl ⟨rfl, (show decode cX11_ground 55 = .ok (.ireturn, 1) by decide +kernel), rfl⟩)),
  List.forall_mem_cons.mpr ⟨(xOK_pure (xs_aload (show decode cX11_ground 56 = .ok (.aload 4, 2) by decide +kernel))),
  List.forall_mem_cons.mpr ⟨(xOK_pure (xs_iload_n (k := 2) rfl (show decode cX11_ground 58 = .ok (.iload_n 2, 1) by decide +kernel))),
  List.forall_mem_cons.mpr ⟨(xOK_pure (xs_iload_n (k := 3) rfl (show decode cX11_ground 59 = .ok (.iload_n 3, 1) by decide +kernel))),
  List.forall_mem_cons.mpr ⟨(xcm mi_30 ⟨⟨(by decide +kernel), (by decide +kernel), (by decide +kernel)⟩, (by decide), xw_554, xw_126, Or.inl ⟨rfl, _, _, _, _, (show decode cX11_ground 60 = .ok (.invokevirtual 94, 3) by decide +kernel), xw_551, xw_552, xw_553, rfl⟩⟩),
  List.forall_mem_cons.mpr ⟨(Or.inr (Or.inl ⟨rfl, (show decode cX11_ground 63 = .ok (.ireturn, 1) by decide +kernel), rfl⟩)),
  (fun _ h => absurd h List.not_mem_nil)⟩⟩⟩⟩⟩⟩⟩⟩⟩⟩⟩⟩⟩⟩⟩⟩
def pX11_ground (ev : xEv) : List (Nat × xEn) := pX11_ground_0 ev ++ (pX11_ground_1 ev)
theorem okpX11_ground (ev : xEv) : ∀ q ∈ pX11_ground ev, xEnOK ev xmi yX11_ground.cls yX11_ground.name cX11_ground 5 (some .int) q := List.forall_mem_append.mpr ⟨okpX11_ground_0 ev, okpX11_ground_1 ev⟩
theorem omX11_ground (ev : xEv) : xMethOK ev xmi yX11_ground.cls yX11_ground.name 131 (pX11_ground ev) := xMethOK.of mi_131 (by decide +kernel) (okpX11_ground ev)
def pX11_far_0 (ev : xEv) : List (Nat × xEn) := [(0, .inl (xop (xf_aload 0 1))), (1, .inl (xop (xf_iload 1 1))), (2, .inr (.inl (0, 173, 1, 11))), (5, .inl (xop (xf_if_eq 16))), (8, .inl (xop (xf_aload 0 1))), (9, .inl (xop (xf_iload 2 1))), (10, .inr (.inl (0, 173, 1, 11))), (13, .inl (xop (xf_if_ne 18))), (16, .inl (xop (xf_push (.int (-1)) 1))), (17, .inr (.inr 1)), (18, .inl (xop (xf_aload 0 1))), (19, .inl (xop (xf_getf 11 0))), (22, .inl (xop (xf_iload 1 1))), (23, .inl (xop (xf_iload 2 1))), (24, .inr (.inl (0, 20, 2, 2))), (27, .inl (xop (xf_istore 3 1))), (28, .inl (xop (xf_iload 3 1))), (29, .inl (xop (xf_push (.int 1000000) 2))), (31, .inl (xop (xf_icmp_lt 38))), (34, .inl (xop (xf_push (.int (-1)) 1)))]
set_option maxRecDepth 20000 in
theorem okpX11_far_0 (ev : xEv) : ∀ q ∈ pX11_far_0 ev, xEnOK ev xmi yX11_far.cls yX11_far.name cX11_far 4 (some .int) q :=
  List.forall_mem_cons.mpr ⟨(xOK_pure (xs_aload_n (k := 0) rfl (show decode cX11_far 0 = .ok (.aload_n 0, 1) by decide +kernel))),
  List.forall_mem_cons.mpr ⟨(xOK_pure (xs_iload_n (k := 1) rfl (show decode cX11_far 1 = .ok (.iload_n 1, 1) by decide +kernel))),
  List.forall_mem_cons.mpr ⟨(xcm mi_173 ⟨⟨(by decide +kernel), (by decide +kernel), (by decide +kernel)⟩, (by decide), xw_492, xw_118, Or.inl ⟨rfl, _, _, _, _, (show decode cX11_far 2 = .ok (.invokevirtual 64, 3) by decide +kernel), xw_489, xw_491, xw_0, rfl⟩⟩),
  List.forall_mem_cons.mpr ⟨(xOK_pure (xs_if_eq (show decode cX11_far 5 = .ok (.ifCond .eq 11, 3) by decide +kernel) (by decide))),
  List.forall_mem_cons.mpr ⟨(xOK_pure (xs_aload_n (k := 0) rfl (show decode cX11_far 8 = .ok (.aload_n 0, 1) by decide +kernel))),
  List.forall_mem_cons.mpr ⟨(xOK_pure (xs_iload_n (k := 2) rfl (show decode cX11_far 9 = .ok (.iload_n 2, 1) by decide +kernel))),
  List.forall_mem_cons.mpr ⟨(xcm mi_173 ⟨⟨(by decide +kernel), (by decide +kernel), (by decide +kernel)⟩, (by decide), xw_492, xw_118, Or.inl ⟨rfl, _, _, _, _, (show decode cX11_far 10 = .ok (.invokevirtual 64, 3) by decide +kernel), xw_489, xw_491, xw_0, rfl⟩⟩),
  List.forall_mem_cons.mpr ⟨(xOK_pure (xs_if_ne (show decode cX11_far 13 = .ok (.ifCond .ne 5, 3) by decide +kernel) (by decide))),
  List.forall_mem_cons.mpr ⟨(xOK_pure (xs_iconst (n := (-1)) (show decode cX11_far 16 = .ok (.iconst (-1), 1) by decide +kernel) (by decide))),
  List.forall_mem_cons.mpr ⟨(Or.inr (Or.inl ⟨rfl, (show decode cX11_far 17 = .ok (.ireturn, 1) by decide +kernel), rfl⟩)),
  List.forall_mem_cons.mpr ⟨(xOK_pure (xs_aload_n (k := 0) rfl (show decode cX11_far 18 = .ok (.aload_n 0, 1) by decide +kernel))),
  List.forall_mem_cons.mpr ⟨(xOK_pure (xs_getf xcl_11 (by decide) (show decode cX11_far 19 = .ok (.getfield 10, 3) by decide +kernel) xw_446)),
  List.forall_mem_cons.mpr ⟨(xOK_pure (xs_iload_n (k := 1) rfl (show decode cX11_far 22 = .ok (.iload_n 1, 1) by decide +kernel))),
  List.forall_mem_cons.mpr ⟨(xOK_pure (xs_iload_n (k := 2) rfl (show decode cX11_far 23 = .ok (.iload_n 2, 1) by decide +kernel))),
  List.forall_mem_cons.mpr ⟨(xcm mi_20 ⟨⟨(by decide +kernel), (by decide +kernel), (by decide +kernel)⟩, (by decide), xw_539, xw_119, Or.inl ⟨rfl, _, _, _, _, (show decode cX11_far 24 = .ok (.invokevirtual 98, 3) by decide +kernel), xw_559, xw_537, xw_538, rfl⟩⟩),
  List.forall_mem_cons.mpr ⟨(xOK_pure (xs_istore_n (k := 3) rfl (show decode cX11_far 27 = .ok (.istore_n 3, 1) by decide +kernel) (by decide))),
  List.forall_mem_cons.mpr ⟨(xOK_pure (xs_iload_n (k := 3) rfl (show decode cX11_far 28 = .ok (.iload_n 3, 1) by decide +kernel))),
  List.forall_mem_cons.mpr ⟨(xOK_pure (xs_ldc (show decode cX11_far 29 = .ok (.ldc 101, 2) by decide +kernel) xw_560)),
  List.forall_mem_cons.mpr ⟨(xOK_pure (xs_icmp_lt (show decode cX11_far 31 = .ok (.if_icmp .lt 7, 3) by decide +kernel) (by decide))),
  List.forall_mem_cons.mpr ⟨(xOK_pure (xs_iconst (n := (-1)) (show decode cX11_far 34 = .ok (.iconst (-1), 1) by decide +kernel) (by decide))),
  (fun _ h => absurd h List.not_mem_nil)⟩⟩⟩⟩⟩⟩⟩⟩⟩⟩⟩⟩⟩⟩⟩⟩⟩⟩⟩⟩
def pX11_far_1 (ev : xEv) : List (Nat × xEn) := [(35, .inl (xop (xf_goto 39))), (38, .inl (xop (xf_iload 3 1))), (39, .inr (.inr 1))]
set_option maxRecDepth 20000 in
theorem okpX11_far_1 (ev : xEv) : ∀ q ∈ pX11_far_1 ev, xEnOK ev xmi yX11_far.cls yX11_far.name cX11_far 4 (some .int) q :=
  List.forall_mem_cons.mpr ⟨(xOK_pure (xs_goto (show decode cX11_far 35 = .ok (.goto 4, 3) by decide +kernel) (by decide))),
  List.forall_mem_cons.mpr ⟨(xOK_pure (xs_iload_n (k := 3) rfl (show decode cX11_far 38 = .ok (.iload_n 3, 1) by decide +kernel))),
  List.forall_mem_cons.mpr ⟨(Or.inr (Or.inl ⟨rfl, (show decode cX11_far 39 = .ok (.ireturn, 1) by decide +kernel), rfl⟩)),
  (fun _ h => absurd h List.not_mem_nil)⟩⟩⟩
def pX11_far (ev : xEv) : List (Nat × xEn) := pX11_far_0 ev ++ (pX11_far_1 ev)
theorem okpX11_far (ev : xEv) : ∀ q ∈ pX11_far ev, xEnOK ev xmi yX11_far.cls yX11_far.name cX11_far 4 (some .int) q := List.forall_mem_append.mpr ⟨okpX11_far_0 ev, okpX11_far_1 ev⟩
theorem omX11_far (ev : xEv) : xMethOK ev xmi yX11_far.cls yX11_far.name 132 (pX11_far ev) := xMethOK.of mi_132 (by decide +kernel) (okpX11_far ev)
def pX11_weather_0 (ev : xEv) : List (Nat × xEn) := [(0, .inl (xop (xf_aload 0 1))), (1, .inl (xop (xf_iload 1 1))), (2, .inr (.inl (0, 174, 1, 11))), (5, .inl (xop (xf_if_eq 36))), (8, .inl (xop (xf_iload 2 1))), (9, .inr (.inl (1, 181, 1, 11))), (12, .inl (xop (xf_if_eq 36))), (15, .inl (xop (xf_iload 3 1))), (16, .inl (xop (xf_iload 4 2))), (18, .inr (.inl (1, 182, 2, 11))), (21, .inl (xop (xf_if_eq 36))), (24, .inl (xop (xf_aload 0 1))), (25, .inl (xop (xf_getf 11 0))), (28, .inl (xop (xf_getf 2 6))), (31, .inl (xop (xf_push (.int 60) 2))), (33, .inl (xop (xf_icmp_lt 38))), (36, .inl (xop (xf_push (.int (-1)) 1))), (37, .inr (.inr 1)), (38, .inl (xop (xf_aload 0 1))), (39, .inl (xop (xf_getf 11 0)))]
set_option maxRecDepth 20000 in
theorem okpX11_weather_0 (ev : xEv) : ∀ q ∈ pX11_weather_0 ev, xEnOK ev xmi yX11_weather.cls yX11_weather.name cX11_weather 5 (some .int) q :=
  List.forall_mem_cons.mpr ⟨(xOK_pure (xs_aload_n (k := 0) rfl (show decode cX11_weather 0 = .ok (.aload_n 0, 1) by decide +kernel))),
  List.forall_mem_cons.mpr ⟨(xOK_pure (xs_iload_n (k := 1) rfl (show decode cX11_weather 1 = .ok (.iload_n 1, 1) by decide +kernel))),
  List.forall_mem_cons.mpr ⟨(xcm mi_174 ⟨⟨(by decide +kernel), (by decide +kernel), (by decide +kernel)⟩, (by decide), xw_550, xw_118, Or.inl ⟨rfl, _, _, _, _, (show decode cX11_weather 2 = .ok (.invokevirtual 79, 3) by decide +kernel), xw_547, xw_549, xw_1, rfl⟩⟩),
  List.forall_mem_cons.mpr ⟨(xOK_pure (xs_if_eq (show decode cX11_weather 5 = .ok (.ifCond .eq 31, 3) by decide +kernel) (by decide))),
  List.forall_mem_cons.mpr ⟨(xOK_pure (xs_iload_n (k := 2) rfl (show decode cX11_weather 8 = .ok (.iload_n 2, 1) by decide +kernel))),
  List.forall_mem_cons.mpr ⟨(xcm mi_181 ⟨⟨(by decide +kernel), (by decide +kernel), (by decide +kernel)⟩, (by decide), xw_567, xw_118, Or.inr (Or.inl ⟨rfl, _, (show decode cX11_weather 9 = .ok (.invokestatic 102, 3) by decide +kernel), xw_565, xw_566⟩)⟩),
  List.forall_mem_cons.mpr ⟨(xOK_pure (xs_if_eq (show decode cX11_weather 12 = .ok (.ifCond .eq 24, 3) by decide +kernel) (by decide))),
  List.forall_mem_cons.mpr ⟨(xOK_pure (xs_iload_n (k := 3) rfl (show decode cX11_weather 15 = .ok (.iload_n 3, 1) by decide +kernel))),
  List.forall_mem_cons.mpr ⟨(xOK_pure (xs_iload (show decode cX11_weather 16 = .ok (.iload 4, 2) by decide +kernel))),
  List.forall_mem_cons.mpr ⟨(xcm mi_182 ⟨⟨(by decide +kernel), (by decide +kernel), (by decide +kernel)⟩, (by decide), xw_570, xw_118, Or.inr (Or.inl ⟨rfl, _, (show decode cX11_weather 18 = .ok (.invokestatic 105, 3) by decide +kernel), xw_568, xw_569⟩)⟩),
  List.forall_mem_cons.mpr ⟨(xOK_pure (xs_if_eq (show decode cX11_weather 21 = .ok (.ifCond .eq 15, 3) by decide +kernel) (by decide))),
  List.forall_mem_cons.mpr ⟨(xOK_pure (xs_aload_n (k := 0) rfl (show decode cX11_weather 24 = .ok (.aload_n 0, 1) by decide +kernel))),
  List.forall_mem_cons.mpr ⟨(xOK_pure (xs_getf xcl_11 (by decide) (show decode cX11_weather 25 = .ok (.getfield 10, 3) by decide +kernel) xw_446)),
  List.forall_mem_cons.mpr ⟨(xOK_pure (xs_getf xcl_2 (by decide) (show decode cX11_weather 28 = .ok (.getfield 109, 3) by decide +kernel) xw_178)),
  List.forall_mem_cons.mpr ⟨(xOK_pure (xs_bipush (n := 60) (show decode cX11_weather 31 = .ok (.bipush 60, 2) by decide +kernel) (by decide))),
  List.forall_mem_cons.mpr ⟨(xOK_pure (xs_icmp_lt (show decode cX11_weather 33 = .ok (.if_icmp .lt 5, 3) by decide +kernel) (by decide))),
  List.forall_mem_cons.mpr ⟨(xOK_pure (xs_iconst (n := (-1)) (show decode cX11_weather 36 = .ok (.iconst (-1), 1) by decide +kernel) (by decide))),
  List.forall_mem_cons.mpr ⟨(Or.inr (Or.inl ⟨rfl, (show decode cX11_weather 37 = .ok (.ireturn, 1) by decide +kernel), rfl⟩)),
  List.forall_mem_cons.mpr ⟨(xOK_pure (xs_aload_n (k := 0) rfl (show decode cX11_weather 38 = .ok (.aload_n 0, 1) by decide +kernel))),
  List.forall_mem_cons.mpr ⟨(xOK_pure (xs_getf xcl_11 (by decide) (show decode cX11_weather 39 = .ok (.getfield 10, 3) by decide +kernel) xw_446)),
  (fun _ h => absurd h List.not_mem_nil)⟩⟩⟩⟩⟩⟩⟩⟩⟩⟩⟩⟩⟩⟩⟩⟩⟩⟩⟩⟩
def pX11_weather_1 (ev : xEv) : List (Nat × xEn) := [(42, .inl (xop (xf_iload 1 1))), (43, .inl (xop (xf_iload 2 1))), (44, .inl (xop (xf_iload 3 1))), (45, .inl (xop (xf_iload 4 2))), (47, .inr (.inl (0, 21, 4, 2))), (50, .inr (.inr 1))]
set_option maxRecDepth 20000 in
theorem okpX11_weather_1 (ev : xEv) : ∀ q ∈ pX11_weather_1 ev, xEnOK ev xmi yX11_weather.cls yX11_weather.name cX11_weather 5 (some .int) q :=
  List.forall_mem_cons.mpr ⟨(xOK_pure (xs_iload_n (k := 1) rfl (show decode cX11_weather 42 = .ok (.iload_n 1, 1) by decide +kernel))),
  List.forall_mem_cons.mpr ⟨(xOK_pure (xs_iload_n (k := 2) rfl (show decode cX11_weather 43 = .ok (.iload_n 2, 1) by decide +kernel))),
  List.forall_mem_cons.mpr ⟨(xOK_pure (xs_iload_n (k := 3) rfl (show decode cX11_weather 44 = .ok (.iload_n 3, 1) by decide +kernel))),
  List.forall_mem_cons.mpr ⟨(xOK_pure (xs_iload (show decode cX11_weather 45 = .ok (.iload 4, 2) by decide +kernel))),
  List.forall_mem_cons.mpr ⟨(xcm mi_21 ⟨⟨(by decide +kernel), (by decide +kernel), (by decide +kernel)⟩, (by decide), xw_574, xw_119, Or.inl ⟨rfl, _, _, _, _, (show decode cX11_weather 47 = .ok (.invokevirtual 112, 3) by decide +kernel), xw_571, xw_572, xw_573, rfl⟩⟩),
  List.forall_mem_cons.mpr ⟨(Or.inr (Or.inl ⟨rfl, (show decode cX11_weather 50 = .ok (.ireturn, 1) by decide +kernel), rfl⟩)),
  (fun _ h => absurd h List.not_mem_nil)⟩⟩⟩⟩⟩⟩
def pX11_weather (ev : xEv) : List (Nat × xEn) := pX11_weather_0 ev ++ (pX11_weather_1 ev)
theorem okpX11_weather (ev : xEv) : ∀ q ∈ pX11_weather ev, xEnOK ev xmi yX11_weather.cls yX11_weather.name cX11_weather 5 (some .int) q := List.forall_mem_append.mpr ⟨okpX11_weather_0 ev, okpX11_weather_1 ev⟩
theorem omX11_weather (ev : xEv) : xMethOK ev xmi yX11_weather.cls yX11_weather.name 133 (pX11_weather ev) := xMethOK.of mi_133 (by decide +kernel) (okpX11_weather ev)
def pX11_sky_0 (ev : xEv) : List (Nat × xEn) := [(0, .inl (xop (xf_aload 0 1))), (1, .inl (xop (xf_iload 1 1))), (2, .inr (.inl (0, 174, 1, 11))), (5, .inl (xop (xf_if_eq 24))), (8, .inl (xop (xf_iload 2 1))), (9, .inr (.inl (1, 181, 1, 11))), (12, .inl (xop (xf_if_eq 24))), (15, .inl (xop (xf_iload 3 1))), (16, .inl (xop (xf_push (.int 0) 1))), (17, .inl (xop (xf_push (.int 1) 1))), (18, .inr (.inl (1, 183, 3, 11))), (21, .inl (xop (xf_if_ne 34))), (24, .inl (xop xf_none)), (27, .inl (xop xf_dup)), (28, .inl (xop (xf_push (.ref (ev.2.1 4)) 2))), (30, .inl (xop xf_none)), (33, .inl (xop xf_none)), (34, .inl (xop (xf_iload 3 1))), (35, .inl (xop (xf_if_ne 50))), (38, .inl (xop (xf_aload 0 1)))]
set_option maxRecDepth 20000 in
theorem okpX11_sky_0 (ev : xEv) : ∀ q ∈ pX11_sky_0 ev, xEnOK ev xmi yX11_sky.cls yX11_sky.name cX11_sky 4 (some .int) q :=
  List.forall_mem_cons.mpr ⟨(xOK_pure (xs_aload_n (k := 0) rfl (show decode cX11_sky 0 = .ok (.aload_n 0, 1) by decide +kernel))),
  List.forall_mem_cons.mpr ⟨(xOK_pure (xs_iload_n (k := 1) rfl (show decode cX11_sky 1 = .ok (.iload_n 1, 1) by decide +kernel))),
  List.forall_mem_cons.mpr ⟨(xcm mi_174 ⟨⟨(by decide +kernel), (by decide +kernel), (by decide +kernel)⟩, (by decide), xw_550, xw_118, Or.inl ⟨rfl, _, _, _, _, (show decode cX11_sky 2 = .ok (.invokevirtual 79, 3) by decide +kernel), xw_547, xw_549, xw_1, rfl⟩⟩),
  List.forall_mem_cons.mpr ⟨(xOK_pure (xs_if_eq (show decode cX11_sky 5 = .ok (.ifCond .eq 19, 3) by decide +kernel) (by decide))),
  List.forall_mem_cons.mpr ⟨(xOK_pure (xs_iload_n (k := 2) rfl (show decode cX11_sky 8 = .ok (.iload_n 2, 1) by decide +kernel))),
  List.forall_mem_cons.mpr ⟨(xcm mi_181 ⟨⟨(by decide +kernel), (by decide +kernel), (by decide +kernel)⟩, (by decide), xw_567, xw_118, Or.inr (Or.inl ⟨rfl, _, (show decode cX11_sky 9 = .ok (.invokestatic 102, 3) by decide +kernel), xw_565, xw_566⟩)⟩),
  List.forall_mem_cons.mpr ⟨(xOK_pure (xs_if_eq (show decode cX11_sky 12 = .ok (.ifCond .eq 12, 3) by decide +kernel) (by decide))),
  List.forall_mem_cons.mpr ⟨(xOK_pure (xs_iload_n (k := 3) rfl (show decode cX11_sky 15 = .ok (.iload_n 3, 1) by decide +kernel))),
  List.forall_mem_cons.mpr ⟨(xOK_pure (xs_iconst (n := 0) (show decode cX11_sky 16 = .ok (.iconst 0, 1) by decide +kernel) (by decide))),
  List.forall_mem_cons.mpr ⟨(xOK_pure (xs_iconst (n := 1) (show decode cX11_sky 17 = .ok (.iconst 1, 1) by decide +kernel) (by decide))),
  List.forall_mem_cons.mpr ⟨(xcm mi_183 ⟨⟨(by decide +kernel), (by decide +kernel), (by decide +kernel)⟩, (by decide), xw_480, xw_118, Or.inr (Or.inl ⟨rfl, _, (show decode cX11_sky 18 = .ok (.invokestatic 52, 3) by decide +kernel), xw_478, xw_479⟩)⟩),
  List.forall_mem_cons.mpr ⟨(xOK_pure (xs_if_ne (show decode cX11_sky 21 = .ok (.ifCond .ne 13, 3) by decide +kernel) (by decide))),
  List.forall_mem_cons.mpr ⟨(xOK_pure xs_none),
  List.forall_mem_cons.mpr ⟨(xOK_pure (xs_dup (show decode cX11_sky 27 = .ok (.dup, 1) by decide +kernel))),
  List.forall_mem_cons.mpr ⟨(xOK_pure (xs_ldcS (show decode cX11_sky 28 = .ok (.ldc 117, 2) by decide +kernel) (List.mem_of_getElem? (i := 4) rfl))),
  List.forall_mem_cons.mpr ⟨(xOK_pure xs_none),
  List.forall_mem_cons.mpr ⟨(xOK_pure xs_none),
  List.forall_mem_cons.mpr ⟨(xOK_pure (xs_iload_n (k := 3) rfl (show decode cX11_sky 34 = .ok (.iload_n 3, 1) by decide +kernel))),
  List.forall_mem_cons.mpr ⟨(xOK_pure (xs_if_ne (show decode cX11_sky 35 = .ok (.ifCond .ne 15, 3) by decide +kernel) (by decide))),
  List.forall_mem_cons.mpr ⟨(xOK_pure (xs_aload_n (k := 0) rfl (show decode cX11_sky 38 = .ok (.aload_n 0, 1) by decide +kernel))),
  (fun _ h => absurd h List.not_mem_nil)⟩⟩⟩⟩⟩⟩⟩⟩⟩⟩⟩⟩⟩⟩⟩⟩⟩⟩⟩⟩
def pX11_sky_1 (ev : xEv) : List (Nat × xEn) := [(39, .inl (xop (xf_getf 11 0))), (42, .inl (xop (xf_iload 1 1))), (43, .inl (xop (xf_iload 2 1))), (44, .inr (.inl (0, 22, 2, 2))), (47, .inl (xop (xf_goto 59))), (50, .inl (xop (xf_aload 0 1))), (51, .inl (xop (xf_getf 11 0))), (54, .inl (xop (xf_iload 1 1))), (55, .inl (xop (xf_iload 2 1))), (56, .inr (.inl (0, 23, 2, 2))), (59, .inr (.inr 1))]
set_option maxRecDepth 20000 in
theorem okpX11_sky_1 (ev : xEv) : ∀ q ∈ pX11_sky_1 ev, xEnOK ev xmi yX11_sky.cls yX11_sky.name cX11_sky 4 (some .int) q :=
  List.forall_mem_cons.mpr ⟨(xOK_pure (xs_getf xcl_11 (by decide) (show decode cX11_sky 39 = .ok (.getfield 10, 3) by decide +kernel) xw_446)),
  List.forall_mem_cons.mpr ⟨(xOK_pure (xs_iload_n (k := 1) rfl (show decode cX11_sky 42 = .ok (.iload_n 1, 1) by decide +kernel))),
  List.forall_mem_cons.mpr ⟨(xOK_pure (xs_iload_n (k := 2) rfl (show decode cX11_sky 43 = .ok (.iload_n 2, 1) by decide +kernel))),
  List.forall_mem_cons.mpr ⟨(xcm mi_22 ⟨⟨(by decide +kernel), (by decide +kernel), (by decide +kernel)⟩, (by decide), xw_1260, xw_119, Or.inl ⟨rfl, _, _, _, _, (show decode cX11_sky 44 = .ok (.invokevirtual 122, 3) by decide +kernel), xw_1638, xw_1258, xw_1259, rfl⟩⟩),
  List.forall_mem_cons.mpr ⟨(xOK_pure (xs_goto (show decode cX11_sky 47 = .ok (.goto 12, 3) by decide +kernel) (by decide))),
  List.forall_mem_cons.mpr ⟨(xOK_pure (xs_aload_n (k := 0) rfl (show decode cX11_sky 50 = .ok (.aload_n 0, 1) by decide +kernel))),
  List.forall_mem_cons.mpr ⟨(xOK_pure (xs_getf xcl_11 (by decide) (show decode cX11_sky 51 = .ok (.getfield 10, 3) by decide +kernel) xw_446)),
  List.forall_mem_cons.mpr ⟨(xOK_pure (xs_iload_n (k := 1) rfl (show decode cX11_sky 54 = .ok (.iload_n 1, 1) by decide +kernel))),
  List.forall_mem_cons.mpr ⟨(xOK_pure (xs_iload_n (k := 2) rfl (show decode cX11_sky 55 = .ok (.iload_n 2, 1) by decide +kernel))),
  List.forall_mem_cons.mpr ⟨(xcm mi_23 ⟨⟨(by decide +kernel), (by decide +kernel), (by decide +kernel)⟩, (by decide), xw_1272, xw_119, Or.inl ⟨rfl, _, _, _, _, (show decode cX11_sky 56 = .ok (.invokevirtual 125, 3) by decide +kernel), xw_1639, xw_1270, xw_1271, rfl⟩⟩),
  List.forall_mem_cons.mpr ⟨(Or.inr (Or.inl ⟨rfl, (show decode cX11_sky 59 = .ok (.ireturn, 1) by decide +kernel), rfl⟩)),
  (fun _ h => absurd h List.not_mem_nil)⟩⟩⟩⟩⟩⟩⟩⟩⟩⟩⟩
def pX11_sky (ev : xEv) : List (Nat × xEn) := pX11_sky_0 ev ++ (pX11_sky_1 ev)
theorem okpX11_sky (ev : xEv) : ∀ q ∈ pX11_sky ev, xEnOK ev xmi yX11_sky.cls yX11_sky.name cX11_sky 4 (some .int) q := List.forall_mem_append.mpr ⟨okpX11_sky_0 ev, okpX11_sky_1 ev⟩
theorem omX11_sky (ev : xEv) : xMethOK ev xmi yX11_sky.cls yX11_sky.name 134 (pX11_sky ev) := xMethOK.of mi_134 (by decide +kernel) (okpX11_sky ev)
def pX11_word_0 (ev : xEv) : List (Nat × xEn) := [(0, .inl (xop (xf_aload 0 1))), (1, .inl (xop (xf_iload 1 1))), (2, .inr (.inl (0, 173, 1, 11))), (5, .inl (xop (xf_if_eq 41))), (8, .inl (xop (xf_aload 0 1))), (9, .inl (xop (xf_iload 2 1))), (10, .inr (.inl (0, 174, 1, 11))), (13, .inl (xop (xf_if_eq 41))), (16, .inl (xop (xf_iload 3 1))), (17, .inl (xop (xf_push (.int 0) 1))), (18, .inl (xop (xf_aload 0 1))), (19, .inl (xop (xf_getf 11 1))), (22, .inl (xop (xf_getf 10 13))), (25, .inr (.inl (1, 183, 3, 11))), (28, .inl (xop (xf_if_eq 41))), (31, .inl (xop (xf_iload 4 2))), (33, .inl (xop (xf_iload 5 2))), (35, .inr (.inl (1, 182, 2, 11))), (38, .inl (xop (xf_if_ne 43))), (41, .inl (xop (xf_push (.int (-1)) 1)))]
set_option maxRecDepth 20000 in
theorem okpX11_word_0 (ev : xEv) : ∀ q ∈ pX11_word_0 ev, xEnOK ev xmi yX11_word.cls yX11_word.name cX11_word 6 (some .int) q :=
  List.forall_mem_cons.mpr ⟨(xOK_pure (xs_aload_n (k := 0) rfl (show decode cX11_word 0 = .ok (.aload_n 0, 1) by decide +kernel))),
  List.forall_mem_cons.mpr ⟨(xOK_pure (xs_iload_n (k := 1) rfl (show decode cX11_word 1 = .ok (.iload_n 1, 1) by decide +kernel))),
  List.forall_mem_cons.mpr ⟨(xcm mi_173 ⟨⟨(by decide +kernel), (by decide +kernel), (by decide +kernel)⟩, (by decide), xw_492, xw_118, Or.inl ⟨rfl, _, _, _, _, (show decode cX11_word 2 = .ok (.invokevirtual 64, 3) by decide +kernel), xw_489, xw_491, xw_0, rfl⟩⟩),
  List.forall_mem_cons.mpr ⟨(xOK_pure (xs_if_eq (show decode cX11_word 5 = .ok (.ifCond .eq 36, 3) by decide +kernel) (by decide))),
  List.forall_mem_cons.mpr ⟨(xOK_pure (xs_aload_n (k := 0) rfl (show decode cX11_word 8 = .ok (.aload_n 0, 1) by decide +kernel))),
  List.forall_mem_cons.mpr ⟨(xOK_pure (xs_iload_n (k := 2) rfl (show decode cX11_word 9 = .ok (.iload_n 2, 1) by decide +kernel))),
  List.forall_mem_cons.mpr ⟨(xcm mi_174 ⟨⟨(by decide +kernel), (by decide +kernel), (by decide +kernel)⟩, (by decide), xw_550, xw_118, Or.inl ⟨rfl, _, _, _, _, (show decode cX11_word 10 = .ok (.invokevirtual 79, 3) by decide +kernel), xw_547, xw_549, xw_1, rfl⟩⟩),
  List.forall_mem_cons.mpr ⟨(xOK_pure (xs_if_eq (show decode cX11_word 13 = .ok (.ifCond .eq 28, 3) by decide +kernel) (by decide))),
  List.forall_mem_cons.mpr ⟨(xOK_pure (xs_iload_n (k := 3) rfl (show decode cX11_word 16 = .ok (.iload_n 3, 1) by decide +kernel))),
  List.forall_mem_cons.mpr ⟨(xOK_pure (xs_iconst (n := 0) (show decode cX11_word 17 = .ok (.iconst 0, 1) by decide +kernel) (by decide))),
  List.forall_mem_cons.mpr ⟨(xOK_pure (xs_aload_n (k := 0) rfl (show decode cX11_word 18 = .ok (.aload_n 0, 1) by decide +kernel))),
  List.forall_mem_cons.mpr ⟨(xOK_pure (xs_getf xcl_11 (by decide) (show decode cX11_word 19 = .ok (.getfield 21, 3) by decide +kernel) xw_447)),
  List.forall_mem_cons.mpr ⟨(xOK_pure (xs_getf xcl_10 (by decide) (show decode cX11_word 22 = .ok (.getfield 128, 3) by decide +kernel) xw_330)),
  List.forall_mem_cons.mpr ⟨(xcm mi_183 ⟨⟨(by decide +kernel), (by decide +kernel), (by decide +kernel)⟩, (by decide), xw_480, xw_118, Or.inr (Or.inl ⟨rfl, _, (show decode cX11_word 25 = .ok (.invokestatic 52, 3) by decide +kernel), xw_478, xw_479⟩)⟩),
  List.forall_mem_cons.mpr ⟨(xOK_pure (xs_if_eq (show decode cX11_word 28 = .ok (.ifCond .eq 13, 3) by decide +kernel) (by decide))),
  List.forall_mem_cons.mpr ⟨(xOK_pure (xs_iload (show decode cX11_word 31 = .ok (.iload 4, 2) by decide +kernel))),
  List.forall_mem_cons.mpr ⟨(xOK_pure (xs_iload (show decode cX11_word 33 = .ok (.iload 5, 2) by decide +kernel))),
  List.forall_mem_cons.mpr ⟨(xcm mi_182 ⟨⟨(by decide +kernel), (by decide +kernel), (by decide +kernel)⟩, (by decide), xw_570, xw_118, Or.inr (Or.inl ⟨rfl, _, (show decode cX11_word 35 = .ok (.invokestatic 105, 3) by decide +kernel), xw_568, xw_569⟩)⟩),
  List.forall_mem_cons.mpr ⟨(xOK_pure (xs_if_ne (show decode cX11_word 38 = .ok (.ifCond .ne 5, 3) by decide +kernel) (by decide))),
  List.forall_mem_cons.mpr ⟨(xOK_pure (xs_iconst (n := (-1)) (show decode cX11_word 41 = .ok (.iconst (-1), 1) by decide +kernel) (by decide))),
  (fun _ h => absurd h List.not_mem_nil)⟩⟩⟩⟩⟩⟩⟩⟩⟩⟩⟩⟩⟩⟩⟩⟩⟩⟩⟩⟩
def pX11_word_1 (ev : xEv) : List (Nat × xEn) := [(42, .inr (.inr 1)), (43, .inl (xop (xf_aload 0 1))), (44, .inl (xop (xf_getf 11 1))), (47, .inl (xop (xf_getf 10 1))), (50, .inl (xop (xf_getf 9 1))), (53, .inl (xop (xf_push (.int 120) 2))), (55, .inl (xop (xf_icmp_lt 60))), (58, .inl (xop (xf_push (.int (-1)) 1))), (59, .inr (.inr 1)), (60, .inl (xop (xf_aload 0 1))), (61, .inl (xop (xf_getf 11 1))), (64, .inl (xop (xf_getf 10 1))), (67, .inl (xop (xf_iload 1 1))), (68, .inl (xop (xf_aload 0 1))), (69, .inl (xop (xf_getf 11 1))), (72, .inl (xop (xf_getf 10 13))), (75, .inl (xop (xf_iload 2 1))), (76, .inl (xop (xf_iload 3 1))), (77, .inl (xop (xf_iload 4 2))), (79, .inl (xop (xf_iload 5 2)))]
set_option maxRecDepth 20000 in
theorem okpX11_word_1 (ev : xEv) : ∀ q ∈ pX11_word_1 ev, xEnOK ev xmi yX11_word.cls yX11_word.name cX11_word 6 (some .int) q :=
  List.forall_mem_cons.mpr ⟨(Or.inr (Or.inl ⟨rfl, (show decode cX11_word 42 = .ok (.ireturn, 1) by decide +kernel), rfl⟩)),
  List.forall_mem_cons.mpr ⟨(xOK_pure (xs_aload_n (k := 0) rfl (show decode cX11_word 43 = .ok (.aload_n 0, 1) by decide +kernel))),
  List.forall_mem_cons.mpr ⟨(xOK_pure (xs_getf xcl_11 (by decide) (show decode cX11_word 44 = .ok (.getfield 21, 3) by decide +kernel) xw_447)),
  List.forall_mem_cons.mpr ⟨(xOK_pure (xs_getf xcl_10 (by decide) (show decode cX11_word 47 = .ok (.getfield 131, 3) by decide +kernel) xw_304)),
  List.forall_mem_cons.mpr ⟨(xOK_pure (xs_getf xcl_9 (by decide) (show decode cX11_word 50 = .ok (.getfield 135, 3) by decide +kernel) xw_226)),
  List.forall_mem_cons.mpr ⟨(xOK_pure (xs_bipush (n := 120) (show decode cX11_word 53 = .ok (.bipush 120, 2) by decide +kernel) (by decide))),
  List.forall_mem_cons.mpr ⟨(xOK_pure (xs_icmp_lt (show decode cX11_word 55 = .ok (.if_icmp .lt 5, 3) by decide +kernel) (by decide))),
  List.forall_mem_cons.mpr ⟨(xOK_pure (xs_iconst (n := (-1)) (show decode cX11_word 58 = .ok (.iconst (-1), 1) by decide +kernel) (by decide))),
  List.forall_mem_cons.mpr ⟨(Or.inr (Or.inl ⟨rfl, (show decode cX11_word 59 = .ok (.ireturn, 1) by decide +kernel), rfl⟩)),
  List.forall_mem_cons.mpr ⟨(xOK_pure (xs_aload_n (k := 0) rfl (show decode cX11_word 60 = .ok (.aload_n 0, 1) by decide +kernel))),
  List.forall_mem_cons.mpr ⟨(xOK_pure (xs_getf xcl_11 (by decide) (show decode cX11_word 61 = .ok (.getfield 21, 3) by decide +kernel) xw_447)),
  List.forall_mem_cons.mpr ⟨(xOK_pure (xs_getf xcl_10 (by decide) (show decode cX11_word 64 = .ok (.getfield 131, 3) by decide +kernel) xw_304)),
  List.forall_mem_cons.mpr ⟨(xOK_pure (xs_iload_n (k := 1) rfl (show decode cX11_word 67 = .ok (.iload_n 1, 1) by decide +kernel))),
  List.forall_mem_cons.mpr ⟨(xOK_pure (xs_aload_n (k := 0) rfl (show decode cX11_word 68 = .ok (.aload_n 0, 1) by decide +kernel))),
  List.forall_mem_cons.mpr ⟨(xOK_pure (xs_getf xcl_11 (by decide) (show decode cX11_word 69 = .ok (.getfield 21, 3) by decide +kernel) xw_447)),
  List.forall_mem_cons.mpr ⟨(xOK_pure (xs_getf xcl_10 (by decide) (show decode cX11_word 72 = .ok (.getfield 128, 3) by decide +kernel) xw_330)),
  List.forall_mem_cons.mpr ⟨(xOK_pure (xs_iload_n (k := 2) rfl (show decode cX11_word 75 = .ok (.iload_n 2, 1) by decide +kernel))),
  List.forall_mem_cons.mpr ⟨(xOK_pure (xs_iload_n (k := 3) rfl (show decode cX11_word 76 = .ok (.iload_n 3, 1) by decide +kernel))),
  List.forall_mem_cons.mpr ⟨(xOK_pure (xs_iload (show decode cX11_word 77 = .ok (.iload 4, 2) by decide +kernel))),
  List.forall_mem_cons.mpr ⟨(xOK_pure (xs_iload (show decode cX11_word 79 = .ok (.iload 5, 2) by decide +kernel))),
  (fun _ h => absurd h List.not_mem_nil)⟩⟩⟩⟩⟩⟩⟩⟩⟩⟩⟩⟩⟩⟩⟩⟩⟩⟩⟩⟩
def pX11_word_2 (ev : xEv) : List (Nat × xEn) := [(81, .inr (.inl (0, 93, 6, 9))), (84, .inl (xop (xf_aload 0 1))), (85, .inl (xop (xf_getf 11 1))), (88, .inl (xop (xf_getf 10 1))), (91, .inl (xop (xf_getf 9 1))), (94, .inr (.inr 1))]
set_option maxRecDepth 20000 in
theorem okpX11_word_2 (ev : xEv) : ∀ q ∈ pX11_word_2 ev, xEnOK ev xmi yX11_word.cls yX11_word.name cX11_word 6 (some .int) q :=
  List.forall_mem_cons.mpr ⟨(xcm mi_93 ⟨⟨(by decide +kernel), (by decide +kernel), (by decide +kernel)⟩, (by decide), xw_582, xw_121, Or.inl ⟨rfl, _, _, _, _, (show decode cX11_word 81 = .ok (.invokevirtual 140, 3) by decide +kernel), xw_579, xw_580, xw_581, rfl⟩⟩),
  List.forall_mem_cons.mpr ⟨(xOK_pure (xs_aload_n (k := 0) rfl (show decode cX11_word 84 = .ok (.aload_n 0, 1) by decide +kernel))),
  List.forall_mem_cons.mpr ⟨(xOK_pure (xs_getf xcl_11 (by decide) (show decode cX11_word 85 = .ok (.getfield 21, 3) by decide +kernel) xw_447)),
  List.forall_mem_cons.mpr ⟨(xOK_pure (xs_getf xcl_10 (by decide) (show decode cX11_word 88 = .ok (.getfield 131, 3) by decide +kernel) xw_304)),
  List.forall_mem_cons.mpr ⟨(xOK_pure (xs_getf xcl_9 (by decide) (show decode cX11_word 91 = .ok (.getfield 135, 3) by decide +kernel) xw_226)),
  List.forall_mem_cons.mpr ⟨(Or.inr (Or.inl ⟨rfl, (show decode cX11_word 94 = .ok (.ireturn, 1) by decide +kernel), rfl⟩)),
  (fun _ h => absurd h List.not_mem_nil)⟩⟩⟩⟩⟩⟩
def pX11_word (ev : xEv) : List (Nat × xEn) := pX11_word_0 ev ++ (pX11_word_1 ev ++ (pX11_word_2 ev))
theorem okpX11_word (ev : xEv) : ∀ q ∈ pX11_word ev, xEnOK ev xmi yX11_word.cls yX11_word.name cX11_word 6 (some .int) q := List.forall_mem_append.mpr ⟨okpX11_word_0 ev, List.forall_mem_append.mpr ⟨okpX11_word_1 ev, okpX11_word_2 ev⟩⟩
theorem omX11_word (ev : xEv) : xMethOK ev xmi yX11_word.cls yX11_word.name 135 (pX11_word ev) := xMethOK.of mi_135 (by decide +kernel) (okpX11_word ev)
def pX11_heard_0 (ev : xEv) : List (Nat × xEn) := [(0, .inl (xop (xf_aload 0 1))), (1, .inl (xop (xf_iload 1 1))), (2, .inr (.inl (0, 173, 1, 11))), (5, .inl (xop (xf_if_eq 33))), (8, .inl (xop (xf_aload 0 1))), (9, .inl (xop (xf_iload 2 1))), (10, .inr (.inl (0, 174, 1, 11))), (13, .inl (xop (xf_if_eq 33))), (16, .inl (xop (xf_iload 3 1))), (17, .inr (.inl (1, 181, 1, 11))), (20, .inl (xop (xf_if_eq 33))), (23, .inl (xop (xf_iload 4 2))), (25, .inl (xop (xf_push (.int 0) 1))), (26, .inl (xop (xf_push (.int 2) 1))), (27, .inr (.inl (1, 183, 3, 11))), (30, .inl (xop (xf_if_ne 43))), (33, .inl (xop xf_none)), (36, .inl (xop xf_dup)), (37, .inl (xop (xf_push (.ref (ev.2.1 5)) 2))), (39, .inl (xop xf_none))]
set_option maxRecDepth 20000 in
theorem okpX11_heard_0 (ev : xEv) : ∀ q ∈ pX11_heard_0 ev, xEnOK ev xmi yX11_heard.cls yX11_heard.name cX11_heard 6 (some .int) q :=
  List.forall_mem_cons.mpr ⟨(xOK_pure (xs_aload_n (k := 0) rfl (show decode cX11_heard 0 = .ok (.aload_n 0, 1) by decide +kernel))),
  List.forall_mem_cons.mpr ⟨(xOK_pure (xs_iload_n (k := 1) rfl (show decode cX11_heard 1 = .ok (.iload_n 1, 1) by decide +kernel))),
  List.forall_mem_cons.mpr ⟨(xcm mi_173 ⟨⟨(by decide +kernel), (by decide +kernel), (by decide +kernel)⟩, (by decide), xw_492, xw_118, Or.inl ⟨rfl, _, _, _, _, (show decode cX11_heard 2 = .ok (.invokevirtual 64, 3) by decide +kernel), xw_489, xw_491, xw_0, rfl⟩⟩),
  List.forall_mem_cons.mpr ⟨(xOK_pure (xs_if_eq (show decode cX11_heard 5 = .ok (.ifCond .eq 28, 3) by decide +kernel) (by decide))),
  List.forall_mem_cons.mpr ⟨(xOK_pure (xs_aload_n (k := 0) rfl (show decode cX11_heard 8 = .ok (.aload_n 0, 1) by decide +kernel))),
  List.forall_mem_cons.mpr ⟨(xOK_pure (xs_iload_n (k := 2) rfl (show decode cX11_heard 9 = .ok (.iload_n 2, 1) by decide +kernel))),
  List.forall_mem_cons.mpr ⟨(xcm mi_174 ⟨⟨(by decide +kernel), (by decide +kernel), (by decide +kernel)⟩, (by decide), xw_550, xw_118, Or.inl ⟨rfl, _, _, _, _, (show decode cX11_heard 10 = .ok (.invokevirtual 79, 3) by decide +kernel), xw_547, xw_549, xw_1, rfl⟩⟩),
  List.forall_mem_cons.mpr ⟨(xOK_pure (xs_if_eq (show decode cX11_heard 13 = .ok (.ifCond .eq 20, 3) by decide +kernel) (by decide))),
  List.forall_mem_cons.mpr ⟨(xOK_pure (xs_iload_n (k := 3) rfl (show decode cX11_heard 16 = .ok (.iload_n 3, 1) by decide +kernel))),
  List.forall_mem_cons.mpr ⟨(xcm mi_181 ⟨⟨(by decide +kernel), (by decide +kernel), (by decide +kernel)⟩, (by decide), xw_567, xw_118, Or.inr (Or.inl ⟨rfl, _, (show decode cX11_heard 17 = .ok (.invokestatic 102, 3) by decide +kernel), xw_565, xw_566⟩)⟩),
  List.forall_mem_cons.mpr ⟨(xOK_pure (xs_if_eq (show decode cX11_heard 20 = .ok (.ifCond .eq 13, 3) by decide +kernel) (by decide))),
  List.forall_mem_cons.mpr ⟨(xOK_pure (xs_iload (show decode cX11_heard 23 = .ok (.iload 4, 2) by decide +kernel))),
  List.forall_mem_cons.mpr ⟨(xOK_pure (xs_iconst (n := 0) (show decode cX11_heard 25 = .ok (.iconst 0, 1) by decide +kernel) (by decide))),
  List.forall_mem_cons.mpr ⟨(xOK_pure (xs_iconst (n := 2) (show decode cX11_heard 26 = .ok (.iconst 2, 1) by decide +kernel) (by decide))),
  List.forall_mem_cons.mpr ⟨(xcm mi_183 ⟨⟨(by decide +kernel), (by decide +kernel), (by decide +kernel)⟩, (by decide), xw_480, xw_118, Or.inr (Or.inl ⟨rfl, _, (show decode cX11_heard 27 = .ok (.invokestatic 52, 3) by decide +kernel), xw_478, xw_479⟩)⟩),
  List.forall_mem_cons.mpr ⟨(xOK_pure (xs_if_ne (show decode cX11_heard 30 = .ok (.ifCond .ne 13, 3) by decide +kernel) (by decide))),
  List.forall_mem_cons.mpr ⟨(xOK_pure xs_none),
  List.forall_mem_cons.mpr ⟨(xOK_pure (xs_dup (show decode cX11_heard 36 = .ok (.dup, 1) by decide +kernel))),
  List.forall_mem_cons.mpr ⟨(xOK_pure (xs_ldcS (show decode cX11_heard 37 = .ok (.ldc 144, 2) by decide +kernel) (List.mem_of_getElem? (i := 5) rfl))),
  List.forall_mem_cons.mpr ⟨(xOK_pure xs_none),
  (fun _ h => absurd h List.not_mem_nil)⟩⟩⟩⟩⟩⟩⟩⟩⟩⟩⟩⟩⟩⟩⟩⟩⟩⟩⟩⟩
def pX11_heard_1 (ev : xEv) : List (Nat × xEn) := [(42, .inl (xop xf_none)), (43, .inl (xop (xf_aload 0 1))), (44, .inl (xop (xf_getf 11 1))), (47, .inl (xop (xf_getf 10 1))), (50, .inl (xop (xf_iload 1 1))), (51, .inl (xop (xf_iload 2 1))), (52, .inl (xop (xf_iload 3 1))), (53, .inr (.inl (0, 94, 3, 9))), (56, .inl (xop (xf_istore 5 2))), (58, .inl (xop (xf_iload 5 2))), (60, .inl (xop (xf_push (.int (-1)) 1))), (61, .inl (xop (xf_icmp_ne 74))), (64, .inl (xop xf_none)), (67, .inl (xop xf_dup)), (68, .inl (xop (xf_push (.ref (ev.2.1 6)) 2))), (70, .inl (xop xf_none)), (73, .inl (xop xf_none)), (74, .inl (xop (xf_iload 4 2))), (76, .inl (xop (xf_sw (xlsw [(0, 104), (1, 118)] 132)))), (104, .inl (xop (xf_aload 0 1)))]
set_option maxRecDepth 20000 in
theorem okpX11_heard_1 (ev : xEv) : ∀ q ∈ pX11_heard_1 ev, xEnOK ev xmi yX11_heard.cls yX11_heard.name cX11_heard 6 (some .int) q :=
  List.forall_mem_cons.mpr ⟨(xOK_pure xs_none),
  List.forall_mem_cons.mpr ⟨(xOK_pure (xs_aload_n (k := 0) rfl (show decode cX11_heard 43 = .ok (.aload_n 0, 1) by decide +kernel))),
  List.forall_mem_cons.mpr ⟨(xOK_pure (xs_getf xcl_11 (by decide) (show decode cX11_heard 44 = .ok (.getfield 21, 3) by decide +kernel) xw_447)),
  List.forall_mem_cons.mpr ⟨(xOK_pure (xs_getf xcl_10 (by decide) (show decode cX11_heard 47 = .ok (.getfield 131, 3) by decide +kernel) xw_304)),
  List.forall_mem_cons.mpr ⟨(xOK_pure (xs_iload_n (k := 1) rfl (show decode cX11_heard 50 = .ok (.iload_n 1, 1) by decide +kernel))),
  List.forall_mem_cons.mpr ⟨(xOK_pure (xs_iload_n (k := 2) rfl (show decode cX11_heard 51 = .ok (.iload_n 2, 1) by decide +kernel))),
  List.forall_mem_cons.mpr ⟨(xOK_pure (xs_iload_n (k := 3) rfl (show decode cX11_heard 52 = .ok (.iload_n 3, 1) by decide +kernel))),
  List.forall_mem_cons.mpr ⟨(xcm mi_94 ⟨⟨(by decide +kernel), (by decide +kernel), (by decide +kernel)⟩, (by decide), xw_1167, xw_121, Or.inl ⟨rfl, _, _, _, _, (show decode cX11_heard 53 = .ok (.invokevirtual 146, 3) by decide +kernel), xw_1648, xw_1165, xw_1166, rfl⟩⟩),
  List.forall_mem_cons.mpr ⟨(xOK_pure (xs_istore (show decode cX11_heard 56 = .ok (.istore 5, 2) by decide +kernel) (by decide))),
  List.forall_mem_cons.mpr ⟨(xOK_pure (xs_iload (show decode cX11_heard 58 = .ok (.iload 5, 2) by decide +kernel))),
  List.forall_mem_cons.mpr ⟨(xOK_pure (xs_iconst (n := (-1)) (show decode cX11_heard 60 = .ok (.iconst (-1), 1) by decide +kernel) (by decide))),
  List.forall_mem_cons.mpr ⟨(xOK_pure (xs_icmp_ne (show decode cX11_heard 61 = .ok (.if_icmp .ne 13, 3) by decide +kernel) (by decide))),
  List.forall_mem_cons.mpr ⟨(xOK_pure xs_none),
  List.forall_mem_cons.mpr ⟨(xOK_pure (xs_dup (show decode cX11_heard 67 = .ok (.dup, 1) by decide +kernel))),
  List.forall_mem_cons.mpr ⟨(xOK_pure (xs_ldcS (show decode cX11_heard 68 = .ok (.ldc 150, 2) by decide +kernel) (List.mem_of_getElem? (i := 6) rfl))),
  List.forall_mem_cons.mpr ⟨(xOK_pure xs_none),
  List.forall_mem_cons.mpr ⟨(xOK_pure xs_none),
  List.forall_mem_cons.mpr ⟨(xOK_pure (xs_iload (show decode cX11_heard 74 = .ok (.iload 4, 2) by decide +kernel))),
  List.forall_mem_cons.mpr ⟨(xOK_pure (xs_lsw (show decode cX11_heard 76 = .ok (.lookupswitch 56 #[(0, 28), (1, 42)], 28) by decide +kernel) (by decide) (by decide) (by decide))),
  List.forall_mem_cons.mpr ⟨(xOK_pure (xs_aload_n (k := 0) rfl (show decode cX11_heard 104 = .ok (.aload_n 0, 1) by decide +kernel))),
  (fun _ h => absurd h List.not_mem_nil)⟩⟩⟩⟩⟩⟩⟩⟩⟩⟩⟩⟩⟩⟩⟩⟩⟩⟩⟩⟩
def pX11_heard_2 (ev : xEv) : List (Nat × xEn) := [(105, .inl (xop (xf_getf 11 1))), (108, .inl (xop (xf_getf 10 1))), (111, .inl (xop (xf_getf 9 2))), (114, .inl (xop (xf_iload 5 2))), (116, .inl (xop (xf_ald (ev.1 0)))), (117, .inr (.inr 1)), (118, .inl (xop (xf_aload 0 1))), (119, .inl (xop (xf_getf 11 1))), (122, .inl (xop (xf_getf 10 1))), (125, .inl (xop (xf_getf 9 3))), (128, .inl (xop (xf_iload 5 2))), (130, .inl (xop (xf_ald (ev.1 0)))), (131, .inr (.inr 1)), (132, .inl (xop (xf_aload 0 1))), (133, .inl (xop (xf_getf 11 1))), (136, .inl (xop (xf_getf 10 1))), (139, .inl (xop (xf_getf 9 4))), (142, .inl (xop (xf_iload 5 2))), (144, .inl (xop (xf_ald (ev.1 0)))), (145, .inr (.inr 1))]
set_option maxRecDepth 20000 in
theorem okpX11_heard_2 (ev : xEv) : ∀ q ∈ pX11_heard_2 ev, xEnOK ev xmi yX11_heard.cls yX11_heard.name cX11_heard 6 (some .int) q :=
  List.forall_mem_cons.mpr ⟨(xOK_pure (xs_getf xcl_11 (by decide) (show decode cX11_heard 105 = .ok (.getfield 21, 3) by decide +kernel) xw_447)),
  List.forall_mem_cons.mpr ⟨(xOK_pure (xs_getf xcl_10 (by decide) (show decode cX11_heard 108 = .ok (.getfield 131, 3) by decide +kernel) xw_304)),
  List.forall_mem_cons.mpr ⟨(xOK_pure (xs_getf xcl_9 (by decide) (show decode cX11_heard 111 = .ok (.getfield 152, 3) by decide +kernel) xw_229)),
  List.forall_mem_cons.mpr ⟨(xOK_pure (xs_iload (show decode cX11_heard 114 = .ok (.iload 5, 2) by decide +kernel))),
  List.forall_mem_cons.mpr ⟨(xOK_pure (xs_iald (show decode cX11_heard 116 = .ok (.iaload, 1) by decide +kernel))),
  List.forall_mem_cons.mpr ⟨(Or.inr (Or.inl ⟨rfl, (show decode cX11_heard 117 = .ok (.ireturn, 1) by decide +kernel), rfl⟩)),
  List.forall_mem_cons.mpr ⟨(xOK_pure (xs_aload_n (k := 0) rfl (show decode cX11_heard 118 = .ok (.aload_n 0, 1) by decide +kernel))),
  List.forall_mem_cons.mpr ⟨(xOK_pure (xs_getf xcl_11 (by decide) (show decode cX11_heard 119 = .ok (.getfield 21, 3) by decide +kernel) xw_447)),
  List.forall_mem_cons.mpr ⟨(xOK_pure (xs_getf xcl_10 (by decide) (show decode cX11_heard 122 = .ok (.getfield 131, 3) by decide +kernel) xw_304)),
  List.forall_mem_cons.mpr ⟨(xOK_pure (xs_getf xcl_9 (by decide) (show decode cX11_heard 125 = .ok (.getfield 155, 3) by decide +kernel) xw_233)),
  List.forall_mem_cons.mpr ⟨(xOK_pure (xs_iload (show decode cX11_heard 128 = .ok (.iload 5, 2) by decide +kernel))),
  List.forall_mem_cons.mpr ⟨(xOK_pure (xs_iald (show decode cX11_heard 130 = .ok (.iaload, 1) by decide +kernel))),
  List.forall_mem_cons.mpr ⟨(Or.inr (Or.inl ⟨rfl, (show decode cX11_heard 131 = .ok (.ireturn, 1) by decide +kernel), rfl⟩)),
  List.forall_mem_cons.mpr ⟨(xOK_pure (xs_aload_n (k := 0) rfl (show decode cX11_heard 132 = .ok (.aload_n 0, 1) by decide +kernel))),
  List.forall_mem_cons.mpr ⟨(xOK_pure (xs_getf xcl_11 (by decide) (show decode cX11_heard 133 = .ok (.getfield 21, 3) by decide +kernel) xw_447)),
  List.forall_mem_cons.mpr ⟨(xOK_pure (xs_getf xcl_10 (by decide) (show decode cX11_heard 136 = .ok (.getfield 131, 3) by decide +kernel) xw_304)),
  List.forall_mem_cons.mpr ⟨(xOK_pure (xs_getf xcl_9 (by decide) (show decode cX11_heard 139 = .ok (.getfield 158, 3) by decide +kernel) xw_236)),
  List.forall_mem_cons.mpr ⟨(xOK_pure (xs_iload (show decode cX11_heard 142 = .ok (.iload 5, 2) by decide +kernel))),
  List.forall_mem_cons.mpr ⟨(xOK_pure (xs_iald (show decode cX11_heard 144 = .ok (.iaload, 1) by decide +kernel))),
  List.forall_mem_cons.mpr ⟨(Or.inr (Or.inl ⟨rfl, (show decode cX11_heard 145 = .ok (.ireturn, 1) by decide +kernel), rfl⟩)),
  (fun _ h => absurd h List.not_mem_nil)⟩⟩⟩⟩⟩⟩⟩⟩⟩⟩⟩⟩⟩⟩⟩⟩⟩⟩⟩⟩
def pX11_heard (ev : xEv) : List (Nat × xEn) := pX11_heard_0 ev ++ (pX11_heard_1 ev ++ (pX11_heard_2 ev))
theorem okpX11_heard (ev : xEv) : ∀ q ∈ pX11_heard ev, xEnOK ev xmi yX11_heard.cls yX11_heard.name cX11_heard 6 (some .int) q := List.forall_mem_append.mpr ⟨okpX11_heard_0 ev, List.forall_mem_append.mpr ⟨okpX11_heard_1 ev, okpX11_heard_2 ev⟩⟩
theorem omX11_heard (ev : xEv) : xMethOK ev xmi yX11_heard.cls yX11_heard.name 136 (pX11_heard ev) := xMethOK.of mi_136 (by decide +kernel) (okpX11_heard ev)
def pX11_plane_0 (ev : xEv) : List (Nat × xEn) := [(0, .inl (xop (xf_aload 0 1))), (1, .inl (xop (xf_iload 1 1))), (2, .inr (.inl (0, 173, 1, 11))), (5, .inl (xop (xf_if_eq 30))), (8, .inl (xop (xf_iload 2 1))), (9, .inl (xop (xf_push (.int 5) 1))), (10, .inl (xop (xf_push (.int 60) 2))), (12, .inr (.inl (1, 183, 3, 11))), (15, .inl (xop (xf_if_eq 30))), (18, .inl (xop (xf_iload 3 1))), (19, .inl (xop (xf_push (.int 50) 2))), (21, .inl (xop (xf_push (.int 3000) 3))), (24, .inr (.inl (1, 183, 3, 11))), (27, .inl (xop (xf_if_ne 32))), (30, .inl (xop (xf_push (.int (-1)) 1))), (31, .inr (.inr 1)), (32, .inl (xop (xf_iload 4 2))), (34, .inl (xop (xf_push (.int 20) 2))), (36, .inl (xop (xf_push (.int 250) 3))), (39, .inr (.inl (1, 183, 3, 11)))]
set_option maxRecDepth 20000 in
theorem okpX11_plane_0 (ev : xEv) : ∀ q ∈ pX11_plane_0 ev, xEnOK ev xmi yX11_plane.cls yX11_plane.name cX11_plane 7 (some .int) q :=
  List.forall_mem_cons.mpr ⟨(xOK_pure (xs_aload_n (k := 0) rfl (show decode cX11_plane 0 = .ok (.aload_n 0, 1) by decide +kernel))),
  List.forall_mem_cons.mpr ⟨(xOK_pure (xs_iload_n (k := 1) rfl (show decode cX11_plane 1 = .ok (.iload_n 1, 1) by decide +kernel))),
  List.forall_mem_cons.mpr ⟨(xcm mi_173 ⟨⟨(by decide +kernel), (by decide +kernel), (by decide +kernel)⟩, (by decide), xw_492, xw_118, Or.inl ⟨rfl, _, _, _, _, (show decode cX11_plane 2 = .ok (.invokevirtual 64, 3) by decide +kernel), xw_489, xw_491, xw_0, rfl⟩⟩),
  List.forall_mem_cons.mpr ⟨(xOK_pure (xs_if_eq (show decode cX11_plane 5 = .ok (.ifCond .eq 25, 3) by decide +kernel) (by decide))),
  List.forall_mem_cons.mpr ⟨(xOK_pure (xs_iload_n (k := 2) rfl (show decode cX11_plane 8 = .ok (.iload_n 2, 1) by decide +kernel))),
  List.forall_mem_cons.mpr ⟨(xOK_pure (xs_iconst (n := 5) (show decode cX11_plane 9 = .ok (.iconst 5, 1) by decide +kernel) (by decide))),
  List.forall_mem_cons.mpr ⟨(xOK_pure (xs_bipush (n := 60) (show decode cX11_plane 10 = .ok (.bipush 60, 2) by decide +kernel) (by decide))),
  List.forall_mem_cons.mpr ⟨(xcm mi_183 ⟨⟨(by decide +kernel), (by decide +kernel), (by decide +kernel)⟩, (by decide), xw_480, xw_118, Or.inr (Or.inl ⟨rfl, _, (show decode cX11_plane 12 = .ok (.invokestatic 52, 3) by decide +kernel), xw_478, xw_479⟩)⟩),
  List.forall_mem_cons.mpr ⟨(xOK_pure (xs_if_eq (show decode cX11_plane 15 = .ok (.ifCond .eq 15, 3) by decide +kernel) (by decide))),
  List.forall_mem_cons.mpr ⟨(xOK_pure (xs_iload_n (k := 3) rfl (show decode cX11_plane 18 = .ok (.iload_n 3, 1) by decide +kernel))),
  List.forall_mem_cons.mpr ⟨(xOK_pure (xs_bipush (n := 50) (show decode cX11_plane 19 = .ok (.bipush 50, 2) by decide +kernel) (by decide))),
  List.forall_mem_cons.mpr ⟨(xOK_pure (xs_sipush (n := 3000) (show decode cX11_plane 21 = .ok (.sipush 3000, 3) by decide +kernel) (by decide))),
  List.forall_mem_cons.mpr ⟨(xcm mi_183 ⟨⟨(by decide +kernel), (by decide +kernel), (by decide +kernel)⟩, (by decide), xw_480, xw_118, Or.inr (Or.inl ⟨rfl, _, (show decode cX11_plane 24 = .ok (.invokestatic 52, 3) by decide +kernel), xw_478, xw_479⟩)⟩),
  List.forall_mem_cons.mpr ⟨(xOK_pure (xs_if_ne (show decode cX11_plane 27 = .ok (.ifCond .ne 5, 3) by decide +kernel) (by decide))),
  List.forall_mem_cons.mpr ⟨(xOK_pure (xs_iconst (n := (-1)) (show decode cX11_plane 30 = .ok (.iconst (-1), 1) by decide +kernel) (by decide))),
  List.forall_mem_cons.mpr ⟨(Or.inr (Or.inl ⟨rfl, (show decode cX11_plane 31 = .ok (.ireturn, 1) by decide +kernel), rfl⟩)),
  List.forall_mem_cons.mpr ⟨(xOK_pure (xs_iload (show decode cX11_plane 32 = .ok (.iload 4, 2) by decide +kernel))),
  List.forall_mem_cons.mpr ⟨(xOK_pure (xs_bipush (n := 20) (show decode cX11_plane 34 = .ok (.bipush 20, 2) by decide +kernel) (by decide))),
  List.forall_mem_cons.mpr ⟨(xOK_pure (xs_sipush (n := 250) (show decode cX11_plane 36 = .ok (.sipush 250, 3) by decide +kernel) (by decide))),
  List.forall_mem_cons.mpr ⟨(xcm mi_183 ⟨⟨(by decide +kernel), (by decide +kernel), (by decide +kernel)⟩, (by decide), xw_480, xw_118, Or.inr (Or.inl ⟨rfl, _, (show decode cX11_plane 39 = .ok (.invokestatic 52, 3) by decide +kernel), xw_478, xw_479⟩)⟩),
  (fun _ h => absurd h List.not_mem_nil)⟩⟩⟩⟩⟩⟩⟩⟩⟩⟩⟩⟩⟩⟩⟩⟩⟩⟩⟩⟩
def pX11_plane_1 (ev : xEv) : List (Nat × xEn) := [(42, .inl (xop (xf_if_eq 68))), (45, .inl (xop (xf_iload 5 2))), (47, .inl (xop (xf_push (.int 1) 1))), (48, .inl (xop (xf_push (.int 60) 2))), (50, .inr (.inl (1, 183, 3, 11))), (53, .inl (xop (xf_if_eq 68))), (56, .inl (xop (xf_aload 0 1))), (57, .inl (xop (xf_getf 11 1))), (60, .inl (xop (xf_getf 10 5))), (63, .inl (xop (xf_push (.int 8) 2))), (65, .inl (xop (xf_icmp_lt 70))), (68, .inl (xop (xf_push (.int (-1)) 1))), (69, .inr (.inr 1)), (70, .inl (xop (xf_aload 0 1))), (71, .inl (xop (xf_getf 11 1))), (74, .inl (xop (xf_getf 10 4))), (77, .inl (xop (xf_aload 0 1))), (78, .inl (xop (xf_getf 11 1))), (81, .inl (xop (xf_getf 10 5))), (84, .inl (xo_new 6 21 [.int 0, .int 0, .int 0, .int 0, .int 0, .int 0, .int 0, .int 0, .int 0, .int 0, .int 0, .int 0, .int 0, .int 0, .int 0, .int 0, .int 0, .int 0, .int 0, .null, .null]))]
set_option maxRecDepth 20000 in
theorem okpX11_plane_1 (ev : xEv) : ∀ q ∈ pX11_plane_1 ev, xEnOK ev xmi yX11_plane.cls yX11_plane.name cX11_plane 7 (some .int) q :=
  List.forall_mem_cons.mpr ⟨(xOK_pure (xs_if_eq (show decode cX11_plane 42 = .ok (.ifCond .eq 26, 3) by decide +kernel) (by decide))),
  List.forall_mem_cons.mpr ⟨(xOK_pure (xs_iload (show decode cX11_plane 45 = .ok (.iload 5, 2) by decide +kernel))),
  List.forall_mem_cons.mpr ⟨(xOK_pure (xs_iconst (n := 1) (show decode cX11_plane 47 = .ok (.iconst 1, 1) by decide +kernel) (by decide))),
  List.forall_mem_cons.mpr ⟨(xOK_pure (xs_bipush (n := 60) (show decode cX11_plane 48 = .ok (.bipush 60, 2) by decide +kernel) (by decide))),
  List.forall_mem_cons.mpr ⟨(xcm mi_183 ⟨⟨(by decide +kernel), (by decide +kernel), (by decide +kernel)⟩, (by decide), xw_480, xw_118, Or.inr (Or.inl ⟨rfl, _, (show decode cX11_plane 50 = .ok (.invokestatic 52, 3) by decide +kernel), xw_478, xw_479⟩)⟩),
  List.forall_mem_cons.mpr ⟨(xOK_pure (xs_if_eq (show decode cX11_plane 53 = .ok (.ifCond .eq 15, 3) by decide +kernel) (by decide))),
  List.forall_mem_cons.mpr ⟨(xOK_pure (xs_aload_n (k := 0) rfl (show decode cX11_plane 56 = .ok (.aload_n 0, 1) by decide +kernel))),
  List.forall_mem_cons.mpr ⟨(xOK_pure (xs_getf xcl_11 (by decide) (show decode cX11_plane 57 = .ok (.getfield 21, 3) by decide +kernel) xw_447)),
  List.forall_mem_cons.mpr ⟨(xOK_pure (xs_getf xcl_10 (by decide) (show decode cX11_plane 60 = .ok (.getfield 161, 3) by decide +kernel) xw_314)),
  List.forall_mem_cons.mpr ⟨(xOK_pure (xs_bipush (n := 8) (show decode cX11_plane 63 = .ok (.bipush 8, 2) by decide +kernel) (by decide))),
  List.forall_mem_cons.mpr ⟨(xOK_pure (xs_icmp_lt (show decode cX11_plane 65 = .ok (.if_icmp .lt 5, 3) by decide +kernel) (by decide))),
  List.forall_mem_cons.mpr ⟨(xOK_pure (xs_iconst (n := (-1)) (show decode cX11_plane 68 = .ok (.iconst (-1), 1) by decide +kernel) (by decide))),
  List.forall_mem_cons.mpr ⟨(Or.inr (Or.inl ⟨rfl, (show decode cX11_plane 69 = .ok (.ireturn, 1) by decide +kernel), rfl⟩)),
  List.forall_mem_cons.mpr ⟨(xOK_pure (xs_aload_n (k := 0) rfl (show decode cX11_plane 70 = .ok (.aload_n 0, 1) by decide +kernel))),
  List.forall_mem_cons.mpr ⟨(xOK_pure (xs_getf xcl_11 (by decide) (show decode cX11_plane 71 = .ok (.getfield 21, 3) by decide +kernel) xw_447)),
  List.forall_mem_cons.mpr ⟨(xOK_pure (xs_getf xcl_10 (by decide) (show decode cX11_plane 74 = .ok (.getfield 164, 3) by decide +kernel) xw_311)),
  List.forall_mem_cons.mpr ⟨(xOK_pure (xs_aload_n (k := 0) rfl (show decode cX11_plane 77 = .ok (.aload_n 0, 1) by decide +kernel))),
  List.forall_mem_cons.mpr ⟨(xOK_pure (xs_getf xcl_11 (by decide) (show decode cX11_plane 78 = .ok (.getfield 21, 3) by decide +kernel) xw_447)),
  List.forall_mem_cons.mpr ⟨(xOK_pure (xs_getf xcl_10 (by decide) (show decode cX11_plane 81 = .ok (.getfield 161, 3) by decide +kernel) xw_314)),
  List.forall_mem_cons.mpr ⟨(xs_new xcl_6 (by decide +kernel) (show decode cX11_plane 84 = .ok (.new 168, 3) by decide +kernel) xw_587 xw_588 xw_132),
  (fun _ h => absurd h List.not_mem_nil)⟩⟩⟩⟩⟩⟩⟩⟩⟩⟩⟩⟩⟩⟩⟩⟩⟩⟩⟩⟩
def pX11_plane_2 (ev : xEv) : List (Nat × xEn) := [(87, .inl (xop xf_dup)), (88, .inl (xop (xf_iload 1 1))), (89, .inl (xop (xf_iload 2 1))), (90, .inl (xop (xf_iload 3 1))), (91, .inl (xop (xf_iload 4 2))), (93, .inl (xop (xf_iload 5 2))), (95, .inl (xop (xf_iload 6 2))), (97, .inr (.inl (2, 68, 6, 6))), (100, .inl (xo_aast (ev.1 5) 6)), (101, .inl (xop (xf_aload 0 1))), (102, .inl (xop (xf_getf 11 1))), (105, .inl (xop xf_dup)), (106, .inl (xop (xf_getf 10 5))), (109, .inl (xop xf_dupx1)), (110, .inl (xop (xf_push (.int 1) 1))), (111, .inl (xop (xf_bin (fun x y => x + y)))), (112, .inl (xo_putf 10 5 .int)), (115, .inr (.inr 1))]
set_option maxRecDepth 20000 in
theorem okpX11_plane_2 (ev : xEv) : ∀ q ∈ pX11_plane_2 ev, xEnOK ev xmi yX11_plane.cls yX11_plane.name cX11_plane 7 (some .int) q :=
  List.forall_mem_cons.mpr ⟨(xOK_pure (xs_dup (show decode cX11_plane 87 = .ok (.dup, 1) by decide +kernel))),
  List.forall_mem_cons.mpr ⟨(xOK_pure (xs_iload_n (k := 1) rfl (show decode cX11_plane 88 = .ok (.iload_n 1, 1) by decide +kernel))),
  List.forall_mem_cons.mpr ⟨(xOK_pure (xs_iload_n (k := 2) rfl (show decode cX11_plane 89 = .ok (.iload_n 2, 1) by decide +kernel))),
  List.forall_mem_cons.mpr ⟨(xOK_pure (xs_iload_n (k := 3) rfl (show decode cX11_plane 90 = .ok (.iload_n 3, 1) by decide +kernel))),
  List.forall_mem_cons.mpr ⟨(xOK_pure (xs_iload (show decode cX11_plane 91 = .ok (.iload 4, 2) by decide +kernel))),
  List.forall_mem_cons.mpr ⟨(xOK_pure (xs_iload (show decode cX11_plane 93 = .ok (.iload 5, 2) by decide +kernel))),
  List.forall_mem_cons.mpr ⟨(xOK_pure (xs_iload (show decode cX11_plane 95 = .ok (.iload 6, 2) by decide +kernel))),
  List.forall_mem_cons.mpr ⟨(xcm mi_68 ⟨⟨(by decide +kernel), (by decide +kernel), (by decide +kernel)⟩, (by decide), xw_591, xw_132, Or.inr (Or.inr (Or.inl ⟨rfl, _, (show decode cX11_plane 97 = .ok (.invokespecial 170, 3) by decide +kernel), rfl, xw_589, xw_590, rfl⟩))⟩),
  List.forall_mem_cons.mpr ⟨(xs_aast (t := 5) (ci := 6) (r0 := (RX6, TX6, 21)) rfl rfl (show decode cX11_plane 100 = .ok (.aastore, 1) by decide +kernel)),
  List.forall_mem_cons.mpr ⟨(xOK_pure (xs_aload_n (k := 0) rfl (show decode cX11_plane 101 = .ok (.aload_n 0, 1) by decide +kernel))),
  List.forall_mem_cons.mpr ⟨(xOK_pure (xs_getf xcl_11 (by decide) (show decode cX11_plane 102 = .ok (.getfield 21, 3) by decide +kernel) xw_447)),
  List.forall_mem_cons.mpr ⟨(xOK_pure (xs_dup (show decode cX11_plane 105 = .ok (.dup, 1) by decide +kernel))),
  List.forall_mem_cons.mpr ⟨(xOK_pure (xs_getf xcl_10 (by decide) (show decode cX11_plane 106 = .ok (.getfield 161, 3) by decide +kernel) xw_314)),
  List.forall_mem_cons.mpr ⟨(xOK_pure (xs_dupx1 (show decode cX11_plane 109 = .ok (.dup_x1, 1) by decide +kernel))),
  List.forall_mem_cons.mpr ⟨(xOK_pure (xs_iconst (n := 1) (show decode cX11_plane 110 = .ok (.iconst 1, 1) by decide +kernel) (by decide))),
  List.forall_mem_cons.mpr ⟨(xOK_pure (xs_iadd (show decode cX11_plane 111 = .ok (.iadd, 1) by decide +kernel))),
  List.forall_mem_cons.mpr ⟨(xs_putf (k := 5) xcl_10 (by decide) rfl (show decode cX11_plane 112 = .ok (.putfield 161, 3) by decide +kernel) xw_314),
  List.forall_mem_cons.mpr ⟨(Or.inr (Or.inl ⟨rfl, (show decode cX11_plane 115 = .ok (.ireturn, 1) by decide +kernel), rfl⟩)),
  (fun _ h => absurd h List.not_mem_nil)⟩⟩⟩⟩⟩⟩⟩⟩⟩⟩⟩⟩⟩⟩⟩⟩⟩⟩
def pX11_plane (ev : xEv) : List (Nat × xEn) := pX11_plane_0 ev ++ (pX11_plane_1 ev ++ (pX11_plane_2 ev))
theorem okpX11_plane (ev : xEv) : ∀ q ∈ pX11_plane ev, xEnOK ev xmi yX11_plane.cls yX11_plane.name cX11_plane 7 (some .int) q := List.forall_mem_append.mpr ⟨okpX11_plane_0 ev, List.forall_mem_append.mpr ⟨okpX11_plane_1 ev, okpX11_plane_2 ev⟩⟩
theorem omX11_plane (ev : xEv) : xMethOK ev xmi yX11_plane.cls yX11_plane.name 137 (pX11_plane ev) := xMethOK.of mi_137 (by decide +kernel) (okpX11_plane ev)
def pX11_engine_0 (ev : xEv) : List (Nat × xEn) := [(0, .inl (xop (xf_aload 0 1))), (1, .inl (xop (xf_iload 1 1))), (2, .inr (.inl (0, 175, 1, 11))), (5, .inl (xop (xf_if_eq 42))), (8, .inl (xop (xf_iload 2 1))), (9, .inl (xop (xf_push (.int 0) 1))), (10, .inl (xop (xf_push (.int 999) 3))), (13, .inr (.inl (1, 183, 3, 11))), (16, .inl (xop (xf_if_eq 42))), (19, .inl (xop (xf_iload 3 1))), (20, .inl (xop (xf_push (.int 1) 1))), (21, .inl (xop (xf_push (.int 999) 3))), (24, .inr (.inl (1, 183, 3, 11))), (27, .inl (xop (xf_if_eq 42))), (30, .inl (xop (xf_iload 4 2))), (32, .inl (xop (xf_push (.int 0) 1))), (33, .inl (xop (xf_push (.int 999) 3))), (36, .inr (.inl (1, 183, 3, 11))), (39, .inl (xop (xf_if_ne 44))), (42, .inl (xop (xf_push (.int 0) 1)))]
set_option maxRecDepth 20000 in
theorem okpX11_engine_0 (ev : xEv) : ∀ q ∈ pX11_engine_0 ev, xEnOK ev xmi yX11_engine.cls yX11_engine.name cX11_engine 6 (some .boolean) q :=
  List.forall_mem_cons.mpr ⟨(xOK_pure (xs_aload_n (k := 0) rfl (show decode cX11_engine 0 = .ok (.aload_n 0, 1) by decide +kernel))),
  List.forall_mem_cons.mpr ⟨(xOK_pure (xs_iload_n (k := 1) rfl (show decode cX11_engine 1 = .ok (.iload_n 1, 1) by decide +kernel))),
  List.forall_mem_cons.mpr ⟨(xcm mi_175 ⟨⟨(by decide +kernel), (by decide +kernel), (by decide +kernel)⟩, (by decide), xw_701, xw_118, Or.inl ⟨rfl, _, _, _, _, (show decode cX11_engine 2 = .ok (.invokevirtual 173, 3) by decide +kernel), xw_698, xw_700, xw_2, rfl⟩⟩),
  List.forall_mem_cons.mpr ⟨(xOK_pure (xs_if_eq (show decode cX11_engine 5 = .ok (.ifCond .eq 37, 3) by decide +kernel) (by decide))),
  List.forall_mem_cons.mpr ⟨(xOK_pure (xs_iload_n (k := 2) rfl (show decode cX11_engine 8 = .ok (.iload_n 2, 1) by decide +kernel))),
  List.forall_mem_cons.mpr ⟨(xOK_pure (xs_iconst (n := 0) (show decode cX11_engine 9 = .ok (.iconst 0, 1) by decide +kernel) (by decide))),
  List.forall_mem_cons.mpr ⟨(xOK_pure (xs_sipush (n := 999) (show decode cX11_engine 10 = .ok (.sipush 999, 3) by decide +kernel) (by decide))),
  List.forall_mem_cons.mpr ⟨(xcm mi_183 ⟨⟨(by decide +kernel), (by decide +kernel), (by decide +kernel)⟩, (by decide), xw_480, xw_118, Or.inr (Or.inl ⟨rfl, _, (show decode cX11_engine 13 = .ok (.invokestatic 52, 3) by decide +kernel), xw_478, xw_479⟩)⟩),
  List.forall_mem_cons.mpr ⟨(xOK_pure (xs_if_eq (show decode cX11_engine 16 = .ok (.ifCond .eq 26, 3) by decide +kernel) (by decide))),
  List.forall_mem_cons.mpr ⟨(xOK_pure (xs_iload_n (k := 3) rfl (show decode cX11_engine 19 = .ok (.iload_n 3, 1) by decide +kernel))),
  List.forall_mem_cons.mpr ⟨(xOK_pure (xs_iconst (n := 1) (show decode cX11_engine 20 = .ok (.iconst 1, 1) by decide +kernel) (by decide))),
  List.forall_mem_cons.mpr ⟨(xOK_pure (xs_sipush (n := 999) (show decode cX11_engine 21 = .ok (.sipush 999, 3) by decide +kernel) (by decide))),
  List.forall_mem_cons.mpr ⟨(xcm mi_183 ⟨⟨(by decide +kernel), (by decide +kernel), (by decide +kernel)⟩, (by decide), xw_480, xw_118, Or.inr (Or.inl ⟨rfl, _, (show decode cX11_engine 24 = .ok (.invokestatic 52, 3) by decide +kernel), xw_478, xw_479⟩)⟩),
  List.forall_mem_cons.mpr ⟨(xOK_pure (xs_if_eq (show decode cX11_engine 27 = .ok (.ifCond .eq 15, 3) by decide +kernel) (by decide))),
  List.forall_mem_cons.mpr ⟨(xOK_pure (xs_iload (show decode cX11_engine 30 = .ok (.iload 4, 2) by decide +kernel))),
  List.forall_mem_cons.mpr ⟨(xOK_pure (xs_iconst (n := 0) (show decode cX11_engine 32 = .ok (.iconst 0, 1) by decide +kernel) (by decide))),
  List.forall_mem_cons.mpr ⟨(xOK_pure (xs_sipush (n := 999) (show decode cX11_engine 33 = .ok (.sipush 999, 3) by decide +kernel) (by decide))),
  List.forall_mem_cons.mpr ⟨(xcm mi_183 ⟨⟨(by decide +kernel), (by decide +kernel), (by decide +kernel)⟩, (by decide), xw_480, xw_118, Or.inr (Or.inl ⟨rfl, _, (show decode cX11_engine 36 = .ok (.invokestatic 52, 3) by decide +kernel), xw_478, xw_479⟩)⟩),
  List.forall_mem_cons.mpr ⟨(xOK_pure (xs_if_ne (show decode cX11_engine 39 = .ok (.ifCond .ne 5, 3) by decide +kernel) (by decide))),
  List.forall_mem_cons.mpr ⟨(xOK_pure (xs_iconst (n := 0) (show decode cX11_engine 42 = .ok (.iconst 0, 1) by decide +kernel) (by decide))),
  (fun _ h => absurd h List.not_mem_nil)⟩⟩⟩⟩⟩⟩⟩⟩⟩⟩⟩⟩⟩⟩⟩⟩⟩⟩⟩⟩
def pX11_engine_1 (ev : xEv) : List (Nat × xEn) := [(43, .inr (.inr 4)), (44, .inl (xop (xf_aload 0 1))), (45, .inl (xop (xf_getf 11 1))), (48, .inl (xop (xf_getf 10 4))), (51, .inl (xop (xf_iload 1 1))), (52, .inl (xop (xf_aald (ev.1 5)))), (53, .inl (xop (xf_astore 5 2))), (55, .inl (xop (xf_aload 5 2))), (57, .inl (xop (xf_iload 2 1))), (58, .inl (xo_putf 6 5 .int)), (61, .inl (xop (xf_aload 5 2))), (63, .inl (xop (xf_iload 3 1))), (64, .inl (xo_putf 6 6 .int)), (67, .inl (xop (xf_aload 5 2))), (69, .inl (xop (xf_iload 4 2))), (71, .inl (xo_putf 6 7 .int)), (74, .inl (xop (xf_push (.int 1) 1))), (75, .inr (.inr 4))]
set_option maxRecDepth 20000 in
theorem okpX11_engine_1 (ev : xEv) : ∀ q ∈ pX11_engine_1 ev, xEnOK ev xmi yX11_engine.cls yX11_engine.name cX11_engine 6 (some .boolean) q :=
  List.forall_mem_cons.mpr ⟨(Or.inr (Or.inr (Or.inr (Or.inr (Or.inl ⟨rfl, (show decode cX11_engine 43 = .ok (.ireturn, 1) by decide +kernel), rfl⟩))))),
  List.forall_mem_cons.mpr ⟨(xOK_pure (xs_aload_n (k := 0) rfl (show decode cX11_engine 44 = .ok (.aload_n 0, 1) by decide +kernel))),
  List.forall_mem_cons.mpr ⟨(xOK_pure (xs_getf xcl_11 (by decide) (show decode cX11_engine 45 = .ok (.getfield 21, 3) by decide +kernel) xw_447)),
  List.forall_mem_cons.mpr ⟨(xOK_pure (xs_getf xcl_10 (by decide) (show decode cX11_engine 48 = .ok (.getfield 164, 3) by decide +kernel) xw_311)),
  List.forall_mem_cons.mpr ⟨(xOK_pure (xs_iload_n (k := 1) rfl (show decode cX11_engine 51 = .ok (.iload_n 1, 1) by decide +kernel))),
  List.forall_mem_cons.mpr ⟨(xOK_pure (xs_aald (t := 5) rfl (show decode cX11_engine 52 = .ok (.aaload, 1) by decide +kernel))),
  List.forall_mem_cons.mpr ⟨(xOK_pure (xs_astore (show decode cX11_engine 53 = .ok (.astore 5, 2) by decide +kernel) (by decide))),
  List.forall_mem_cons.mpr ⟨(xOK_pure (xs_aload (show decode cX11_engine 55 = .ok (.aload 5, 2) by decide +kernel))),
  List.forall_mem_cons.mpr ⟨(xOK_pure (xs_iload_n (k := 2) rfl (show decode cX11_engine 57 = .ok (.iload_n 2, 1) by decide +kernel))),
  List.forall_mem_cons.mpr ⟨(xs_putf (k := 5) xcl_6 (by decide) rfl (show decode cX11_engine 58 = .ok (.putfield 176, 3) by decide +kernel) xw_606),
  List.forall_mem_cons.mpr ⟨(xOK_pure (xs_aload (show decode cX11_engine 61 = .ok (.aload 5, 2) by decide +kernel))),
  List.forall_mem_cons.mpr ⟨(xOK_pure (xs_iload_n (k := 3) rfl (show decode cX11_engine 63 = .ok (.iload_n 3, 1) by decide +kernel))),
  List.forall_mem_cons.mpr ⟨(xs_putf (k := 6) xcl_6 (by decide) rfl (show decode cX11_engine 64 = .ok (.putfield 179, 3) by decide +kernel) xw_610),
  List.forall_mem_cons.mpr ⟨(xOK_pure (xs_aload (show decode cX11_engine 67 = .ok (.aload 5, 2) by decide +kernel))),
  List.forall_mem_cons.mpr ⟨(xOK_pure (xs_iload (show decode cX11_engine 69 = .ok (.iload 4, 2) by decide +kernel))),
  List.forall_mem_cons.mpr ⟨(xs_putf (k := 7) xcl_6 (by decide) rfl (show decode cX11_engine 71 = .ok (.putfield 182, 3) by decide +kernel) xw_612),
  List.forall_mem_cons.mpr ⟨(xOK_pure (xs_iconst (n := 1) (show decode cX11_engine 74 = .ok (.iconst 1, 1) by decide +kernel) (by decide))),
  List.forall_mem_cons.mpr ⟨(Or.inr (Or.inr (Or.inr (Or.inr (Or.inl ⟨rfl, (show decode cX11_engine 75 = .ok (.ireturn, 1) by decide +kernel), rfl⟩))))),
  (fun _ h => absurd h List.not_mem_nil)⟩⟩⟩⟩⟩⟩⟩⟩⟩⟩⟩⟩⟩⟩⟩⟩⟩⟩
def pX11_engine (ev : xEv) : List (Nat × xEn) := pX11_engine_0 ev ++ (pX11_engine_1 ev)
theorem okpX11_engine (ev : xEv) : ∀ q ∈ pX11_engine ev, xEnOK ev xmi yX11_engine.cls yX11_engine.name cX11_engine 6 (some .boolean) q := List.forall_mem_append.mpr ⟨okpX11_engine_0 ev, okpX11_engine_1 ev⟩
theorem omX11_engine (ev : xEv) : xMethOK ev xmi yX11_engine.cls yX11_engine.name 138 (pX11_engine ev) := xMethOK.of mi_138 (by decide +kernel) (okpX11_engine ev)
def pX11_pilot_0 (ev : xEv) : List (Nat × xEn) := [(0, .inl (xop (xf_push (.int 1) 1))), (1, .inl (xop (xf_aload 0 1))), (2, .inl (xop (xf_getf 11 0))), (5, .inl (xop (xf_getf 2 5))), (8, .inl (xop (xf_bin (fun x y => x <<< (y &&& 31))))), (9, .inl (xop (xf_push (.int 1) 1))), (10, .inl (xop (xf_bin (fun x y => x - y)))), (11, .inl (xop (xf_istore 3 1))), (12, .inl (xop (xf_aload 0 1))), (13, .inl (xop (xf_iload 1 1))), (14, .inr (.inl (0, 173, 1, 11))), (17, .inl (xop (xf_if_eq 41))), (20, .inl (xop (xf_iload 2 1))), (21, .inl (xop (xf_push (.int 0) 1))), (22, .inl (xop (xf_iload 3 1))), (23, .inr (.inl (1, 183, 3, 11))), (26, .inl (xop (xf_if_eq 41))), (29, .inl (xop (xf_aload 0 1))), (30, .inl (xop (xf_getf 11 1))), (33, .inl (xop (xf_getf 10 7)))]
set_option maxRecDepth 20000 in
theorem okpX11_pilot_0 (ev : xEv) : ∀ q ∈ pX11_pilot_0 ev, xEnOK ev xmi yX11_pilot.cls yX11_pilot.name cX11_pilot 4 (some .int) q :=
  List.forall_mem_cons.mpr ⟨(xOK_pure (xs_iconst (n := 1) (show decode cX11_pilot 0 = .ok (.iconst 1, 1) by decide +kernel) (by decide))),
  List.forall_mem_cons.mpr ⟨(xOK_pure (xs_aload_n (k := 0) rfl (show decode cX11_pilot 1 = .ok (.aload_n 0, 1) by decide +kernel))),
  List.forall_mem_cons.mpr ⟨(xOK_pure (xs_getf xcl_11 (by decide) (show decode cX11_pilot 2 = .ok (.getfield 10, 3) by decide +kernel) xw_446)),
  List.forall_mem_cons.mpr ⟨(xOK_pure (xs_getf xcl_2 (by decide) (show decode cX11_pilot 5 = .ok (.getfield 72, 3) by decide +kernel) xw_176)),
  List.forall_mem_cons.mpr ⟨(xOK_pure (xs_ishl (show decode cX11_pilot 8 = .ok (.ishl, 1) by decide +kernel))),
  List.forall_mem_cons.mpr ⟨(xOK_pure (xs_iconst (n := 1) (show decode cX11_pilot 9 = .ok (.iconst 1, 1) by decide +kernel) (by decide))),
  List.forall_mem_cons.mpr ⟨(xOK_pure (xs_isub (show decode cX11_pilot 10 = .ok (.isub, 1) by decide +kernel))),
  List.forall_mem_cons.mpr ⟨(xOK_pure (xs_istore_n (k := 3) rfl (show decode cX11_pilot 11 = .ok (.istore_n 3, 1) by decide +kernel) (by decide))),
  List.forall_mem_cons.mpr ⟨(xOK_pure (xs_aload_n (k := 0) rfl (show decode cX11_pilot 12 = .ok (.aload_n 0, 1) by decide +kernel))),
  List.forall_mem_cons.mpr ⟨(xOK_pure (xs_iload_n (k := 1) rfl (show decode cX11_pilot 13 = .ok (.iload_n 1, 1) by decide +kernel))),
  List.forall_mem_cons.mpr ⟨(xcm mi_173 ⟨⟨(by decide +kernel), (by decide +kernel), (by decide +kernel)⟩, (by decide), xw_492, xw_118, Or.inl ⟨rfl, _, _, _, _, (show decode cX11_pilot 14 = .ok (.invokevirtual 64, 3) by decide +kernel), xw_489, xw_491, xw_0, rfl⟩⟩),
  List.forall_mem_cons.mpr ⟨(xOK_pure (xs_if_eq (show decode cX11_pilot 17 = .ok (.ifCond .eq 24, 3) by decide +kernel) (by decide))),
  List.forall_mem_cons.mpr ⟨(xOK_pure (xs_iload_n (k := 2) rfl (show decode cX11_pilot 20 = .ok (.iload_n 2, 1) by decide +kernel))),
  List.forall_mem_cons.mpr ⟨(xOK_pure (xs_iconst (n := 0) (show decode cX11_pilot 21 = .ok (.iconst 0, 1) by decide +kernel) (by decide))),
  List.forall_mem_cons.mpr ⟨(xOK_pure (xs_iload_n (k := 3) rfl (show decode cX11_pilot 22 = .ok (.iload_n 3, 1) by decide +kernel))),
  List.forall_mem_cons.mpr ⟨(xcm mi_183 ⟨⟨(by decide +kernel), (by decide +kernel), (by decide +kernel)⟩, (by decide), xw_480, xw_118, Or.inr (Or.inl ⟨rfl, _, (show decode cX11_pilot 23 = .ok (.invokestatic 52, 3) by decide +kernel), xw_478, xw_479⟩)⟩),
  List.forall_mem_cons.mpr ⟨(xOK_pure (xs_if_eq (show decode cX11_pilot 26 = .ok (.ifCond .eq 15, 3) by decide +kernel) (by decide))),
  List.forall_mem_cons.mpr ⟨(xOK_pure (xs_aload_n (k := 0) rfl (show decode cX11_pilot 29 = .ok (.aload_n 0, 1) by decide +kernel))),
  List.forall_mem_cons.mpr ⟨(xOK_pure (xs_getf xcl_11 (by decide) (show decode cX11_pilot 30 = .ok (.getfield 21, 3) by decide +kernel) xw_447)),
  List.forall_mem_cons.mpr ⟨(xOK_pure (xs_getf xcl_10 (by decide) (show decode cX11_pilot 33 = .ok (.getfield 185, 3) by decide +kernel) xw_318)),
  (fun _ h => absurd h List.not_mem_nil)⟩⟩⟩⟩⟩⟩⟩⟩⟩⟩⟩⟩⟩⟩⟩⟩⟩⟩⟩⟩
def pX11_pilot_1 (ev : xEv) : List (Nat × xEn) := [(36, .inl (xop (xf_push (.int 8) 2))), (38, .inl (xop (xf_icmp_lt 43))), (41, .inl (xop (xf_push (.int (-1)) 1))), (42, .inr (.inr 1)), (43, .inl (xop (xf_aload 0 1))), (44, .inl (xop (xf_getf 11 1))), (47, .inl (xop (xf_getf 10 6))), (50, .inl (xop (xf_aload 0 1))), (51, .inl (xop (xf_getf 11 1))), (54, .inl (xop (xf_getf 10 7))), (57, .inl (xo_new 5 5 [.int 0, .int 0, .int 0, .int 0, .null])), (60, .inl (xop xf_dup)), (61, .inl (xop (xf_iload 1 1))), (62, .inl (xop (xf_iload 2 1))), (63, .inr (.inl (2, 63, 2, 5))), (66, .inl (xo_aast (ev.1 6) 5)), (67, .inl (xop (xf_aload 0 1))), (68, .inl (xop (xf_getf 11 1))), (71, .inl (xop xf_dup)), (72, .inl (xop (xf_getf 10 7)))]
set_option maxRecDepth 20000 in
theorem okpX11_pilot_1 (ev : xEv) : ∀ q ∈ pX11_pilot_1 ev, xEnOK ev xmi yX11_pilot.cls yX11_pilot.name cX11_pilot 4 (some .int) q :=
  List.forall_mem_cons.mpr ⟨(xOK_pure (xs_bipush (n := 8) (show decode cX11_pilot 36 = .ok (.bipush 8, 2) by decide +kernel) (by decide))),
  List.forall_mem_cons.mpr ⟨(xOK_pure (xs_icmp_lt (show decode cX11_pilot 38 = .ok (.if_icmp .lt 5, 3) by decide +kernel) (by decide))),
  List.forall_mem_cons.mpr ⟨(xOK_pure (xs_iconst (n := (-1)) (show decode cX11_pilot 41 = .ok (.iconst (-1), 1) by decide +kernel) (by decide))),
  List.forall_mem_cons.mpr ⟨(Or.inr (Or.inl ⟨rfl, (show decode cX11_pilot 42 = .ok (.ireturn, 1) by decide +kernel), rfl⟩)),
  List.forall_mem_cons.mpr ⟨(xOK_pure (xs_aload_n (k := 0) rfl (show decode cX11_pilot 43 = .ok (.aload_n 0, 1) by decide +kernel))),
  List.forall_mem_cons.mpr ⟨(xOK_pure (xs_getf xcl_11 (by decide) (show decode cX11_pilot 44 = .ok (.getfield 21, 3) by decide +kernel) xw_447)),
  List.forall_mem_cons.mpr ⟨(xOK_pure (xs_getf xcl_10 (by decide) (show decode cX11_pilot 47 = .ok (.getfield 188, 3) by decide +kernel) xw_316)),
  List.forall_mem_cons.mpr ⟨(xOK_pure (xs_aload_n (k := 0) rfl (show decode cX11_pilot 50 = .ok (.aload_n 0, 1) by decide +kernel))),
  List.forall_mem_cons.mpr ⟨(xOK_pure (xs_getf xcl_11 (by decide) (show decode cX11_pilot 51 = .ok (.getfield 21, 3) by decide +kernel) xw_447)),
  List.forall_mem_cons.mpr ⟨(xOK_pure (xs_getf xcl_10 (by decide) (show decode cX11_pilot 54 = .ok (.getfield 185, 3) by decide +kernel) xw_318)),
  List.forall_mem_cons.mpr ⟨(xs_new xcl_5 (by decide +kernel) (show decode cX11_pilot 57 = .ok (.new 192, 3) by decide +kernel) xw_706 xw_707 xw_133),
  List.forall_mem_cons.mpr ⟨(xOK_pure (xs_dup (show decode cX11_pilot 60 = .ok (.dup, 1) by decide +kernel))),
  List.forall_mem_cons.mpr ⟨(xOK_pure (xs_iload_n (k := 1) rfl (show decode cX11_pilot 61 = .ok (.iload_n 1, 1) by decide +kernel))),
  List.forall_mem_cons.mpr ⟨(xOK_pure (xs_iload_n (k := 2) rfl (show decode cX11_pilot 62 = .ok (.iload_n 2, 1) by decide +kernel))),
  List.forall_mem_cons.mpr ⟨(xcm mi_63 ⟨⟨(by decide +kernel), (by decide +kernel), (by decide +kernel)⟩, (by decide), xw_710, xw_133, Or.inr (Or.inr (Or.inl ⟨rfl, _, (show decode cX11_pilot 63 = .ok (.invokespecial 194, 3) by decide +kernel), rfl, xw_708, xw_709, rfl⟩))⟩),
  List.forall_mem_cons.mpr ⟨(xs_aast (t := 6) (ci := 5) (r0 := (RX5, TX5, 5)) rfl rfl (show decode cX11_pilot 66 = .ok (.aastore, 1) by decide +kernel)),
  List.forall_mem_cons.mpr ⟨(xOK_pure (xs_aload_n (k := 0) rfl (show decode cX11_pilot 67 = .ok (.aload_n 0, 1) by decide +kernel))),
  List.forall_mem_cons.mpr ⟨(xOK_pure (xs_getf xcl_11 (by decide) (show decode cX11_pilot 68 = .ok (.getfield 21, 3) by decide +kernel) xw_447)),
  List.forall_mem_cons.mpr ⟨(xOK_pure (xs_dup (show decode cX11_pilot 71 = .ok (.dup, 1) by decide +kernel))),
  List.forall_mem_cons.mpr ⟨(xOK_pure (xs_getf xcl_10 (by decide) (show decode cX11_pilot 72 = .ok (.getfield 185, 3) by decide +kernel) xw_318)),
  (fun _ h => absurd h List.not_mem_nil)⟩⟩⟩⟩⟩⟩⟩⟩⟩⟩⟩⟩⟩⟩⟩⟩⟩⟩⟩⟩
def pX11_pilot_2 (ev : xEv) : List (Nat × xEn) := [(75, .inl (xop xf_dupx1)), (76, .inl (xop (xf_push (.int 1) 1))), (77, .inl (xop (xf_bin (fun x y => x + y)))), (78, .inl (xo_putf 10 7 .int)), (81, .inr (.inr 1))]
set_option maxRecDepth 20000 in
theorem okpX11_pilot_2 (ev : xEv) : ∀ q ∈ pX11_pilot_2 ev, xEnOK ev xmi yX11_pilot.cls yX11_pilot.name cX11_pilot 4 (some .int) q :=
  List.forall_mem_cons.mpr ⟨(xOK_pure (xs_dupx1 (show decode cX11_pilot 75 = .ok (.dup_x1, 1) by decide +kernel))),
  List.forall_mem_cons.mpr ⟨(xOK_pure (xs_iconst (n := 1) (show decode cX11_pilot 76 = .ok (.iconst 1, 1) by decide +kernel) (by decide))),
  List.forall_mem_cons.mpr ⟨(xOK_pure (xs_iadd (show decode cX11_pilot 77 = .ok (.iadd, 1) by decide +kernel))),
  List.forall_mem_cons.mpr ⟨(xs_putf (k := 7) xcl_10 (by decide) rfl (show decode cX11_pilot 78 = .ok (.putfield 185, 3) by decide +kernel) xw_318),
  List.forall_mem_cons.mpr ⟨(Or.inr (Or.inl ⟨rfl, (show decode cX11_pilot 81 = .ok (.ireturn, 1) by decide +kernel), rfl⟩)),
  (fun _ h => absurd h List.not_mem_nil)⟩⟩⟩⟩⟩
def pX11_pilot (ev : xEv) : List (Nat × xEn) := pX11_pilot_0 ev ++ (pX11_pilot_1 ev ++ (pX11_pilot_2 ev))
theorem okpX11_pilot (ev : xEv) : ∀ q ∈ pX11_pilot ev, xEnOK ev xmi yX11_pilot.cls yX11_pilot.name cX11_pilot 4 (some .int) q := List.forall_mem_append.mpr ⟨okpX11_pilot_0 ev, List.forall_mem_append.mpr ⟨okpX11_pilot_1 ev, okpX11_pilot_2 ev⟩⟩
theorem omX11_pilot (ev : xEv) : xMethOK ev xmi yX11_pilot.cls yX11_pilot.name 139 (pX11_pilot ev) := xMethOK.of mi_139 (by decide +kernel) (okpX11_pilot ev)
def pX11_learns_0 (ev : xEv) : List (Nat × xEn) := [(0, .inl (xop (xf_aload 0 1))), (1, .inl (xop (xf_iload 1 1))), (2, .inr (.inl (0, 176, 1, 11))), (5, .inl (xop (xf_if_eq 16))), (8, .inl (xop (xf_aload 0 1))), (9, .inl (xop (xf_iload 2 1))), (10, .inr (.inl (0, 174, 1, 11))), (13, .inl (xop (xf_if_ne 18))), (16, .inl (xop (xf_push (.int 0) 1))), (17, .inr (.inr 4)), (18, .inl (xop (xf_aload 0 1))), (19, .inl (xop (xf_getf 11 1))), (22, .inl (xop (xf_getf 10 6))), (25, .inl (xop (xf_iload 1 1))), (26, .inl (xop (xf_aald (ev.1 6)))), (27, .inl (xop xf_dup)), (28, .inl (xop (xf_getf 5 3))), (31, .inl (xop (xf_push (.int 1) 1))), (32, .inl (xop (xf_iload 2 1))), (33, .inl (xop (xf_bin (fun x y => x <<< (y &&& 31)))))]
set_option maxRecDepth 20000 in
theorem okpX11_learns_0 (ev : xEv) : ∀ q ∈ pX11_learns_0 ev, xEnOK ev xmi yX11_learns.cls yX11_learns.name cX11_learns 3 (some .boolean) q :=
  List.forall_mem_cons.mpr ⟨(xOK_pure (xs_aload_n (k := 0) rfl (show decode cX11_learns 0 = .ok (.aload_n 0, 1) by decide +kernel))),
  List.forall_mem_cons.mpr ⟨(xOK_pure (xs_iload_n (k := 1) rfl (show decode cX11_learns 1 = .ok (.iload_n 1, 1) by decide +kernel))),
  List.forall_mem_cons.mpr ⟨(xcm mi_176 ⟨⟨(by decide +kernel), (by decide +kernel), (by decide +kernel)⟩, (by decide), xw_742, xw_118, Or.inl ⟨rfl, _, _, _, _, (show decode cX11_learns 2 = .ok (.invokevirtual 197, 3) by decide +kernel), xw_739, xw_741, xw_3, rfl⟩⟩),
  List.forall_mem_cons.mpr ⟨(xOK_pure (xs_if_eq (show decode cX11_learns 5 = .ok (.ifCond .eq 11, 3) by decide +kernel) (by decide))),
  List.forall_mem_cons.mpr ⟨(xOK_pure (xs_aload_n (k := 0) rfl (show decode cX11_learns 8 = .ok (.aload_n 0, 1) by decide +kernel))),
  List.forall_mem_cons.mpr ⟨(xOK_pure (xs_iload_n (k := 2) rfl (show decode cX11_learns 9 = .ok (.iload_n 2, 1) by decide +kernel))),
  List.forall_mem_cons.mpr ⟨(xcm mi_174 ⟨⟨(by decide +kernel), (by decide +kernel), (by decide +kernel)⟩, (by decide), xw_550, xw_118, Or.inl ⟨rfl, _, _, _, _, (show decode cX11_learns 10 = .ok (.invokevirtual 79, 3) by decide +kernel), xw_547, xw_549, xw_1, rfl⟩⟩),
  List.forall_mem_cons.mpr ⟨(xOK_pure (xs_if_ne (show decode cX11_learns 13 = .ok (.ifCond .ne 5, 3) by decide +kernel) (by decide))),
  List.forall_mem_cons.mpr ⟨(xOK_pure (xs_iconst (n := 0) (show decode cX11_learns 16 = .ok (.iconst 0, 1) by decide +kernel) (by decide))),
  List.forall_mem_cons.mpr ⟨(Or.inr (Or.inr (Or.inr (Or.inr (Or.inl ⟨rfl, (show decode cX11_learns 17 = .ok (.ireturn, 1) by decide +kernel), rfl⟩))))),
  List.forall_mem_cons.mpr ⟨(xOK_pure (xs_aload_n (k := 0) rfl (show decode cX11_learns 18 = .ok (.aload_n 0, 1) by decide +kernel))),
  List.forall_mem_cons.mpr ⟨(xOK_pure (xs_getf xcl_11 (by decide) (show decode cX11_learns 19 = .ok (.getfield 21, 3) by decide +kernel) xw_447)),
  List.forall_mem_cons.mpr ⟨(xOK_pure (xs_getf xcl_10 (by decide) (show decode cX11_learns 22 = .ok (.getfield 188, 3) by decide +kernel) xw_316)),
  List.forall_mem_cons.mpr ⟨(xOK_pure (xs_iload_n (k := 1) rfl (show decode cX11_learns 25 = .ok (.iload_n 1, 1) by decide +kernel))),
  List.forall_mem_cons.mpr ⟨(xOK_pure (xs_aald (t := 6) rfl (show decode cX11_learns 26 = .ok (.aaload, 1) by decide +kernel))),
  List.forall_mem_cons.mpr ⟨(xOK_pure (xs_dup (show decode cX11_learns 27 = .ok (.dup, 1) by decide +kernel))),
  List.forall_mem_cons.mpr ⟨(xOK_pure (xs_getf xcl_5 (by decide) (show decode cX11_learns 28 = .ok (.getfield 200, 3) by decide +kernel) xw_722)),
  List.forall_mem_cons.mpr ⟨(xOK_pure (xs_iconst (n := 1) (show decode cX11_learns 31 = .ok (.iconst 1, 1) by decide +kernel) (by decide))),
  List.forall_mem_cons.mpr ⟨(xOK_pure (xs_iload_n (k := 2) rfl (show decode cX11_learns 32 = .ok (.iload_n 2, 1) by decide +kernel))),
  List.forall_mem_cons.mpr ⟨(xOK_pure (xs_ishl (show decode cX11_learns 33 = .ok (.ishl, 1) by decide +kernel))),
  (fun _ h => absurd h List.not_mem_nil)⟩⟩⟩⟩⟩⟩⟩⟩⟩⟩⟩⟩⟩⟩⟩⟩⟩⟩⟩⟩
def pX11_learns_1 (ev : xEv) : List (Nat × xEn) := [(34, .inl (xop (xf_bin (fun x y => x ||| y)))), (35, .inl (xo_putf 5 3 .int)), (38, .inl (xop (xf_push (.int 1) 1))), (39, .inr (.inr 4))]
set_option maxRecDepth 20000 in
theorem okpX11_learns_1 (ev : xEv) : ∀ q ∈ pX11_learns_1 ev, xEnOK ev xmi yX11_learns.cls yX11_learns.name cX11_learns 3 (some .boolean) q :=
  List.forall_mem_cons.mpr ⟨(xOK_pure (xs_ior (show decode cX11_learns 34 = .ok (.ior, 1) by decide +kernel))),
  List.forall_mem_cons.mpr ⟨(xs_putf (k := 3) xcl_5 (by decide) rfl (show decode cX11_learns 35 = .ok (.putfield 200, 3) by decide +kernel) xw_722),
  List.forall_mem_cons.mpr ⟨(xOK_pure (xs_iconst (n := 1) (show decode cX11_learns 38 = .ok (.iconst 1, 1) by decide +kernel) (by decide))),
  List.forall_mem_cons.mpr ⟨(Or.inr (Or.inr (Or.inr (Or.inr (Or.inl ⟨rfl, (show decode cX11_learns 39 = .ok (.ireturn, 1) by decide +kernel), rfl⟩))))),
  (fun _ h => absurd h List.not_mem_nil)⟩⟩⟩⟩
def pX11_learns (ev : xEv) : List (Nat × xEn) := pX11_learns_0 ev ++ (pX11_learns_1 ev)
theorem okpX11_learns (ev : xEv) : ∀ q ∈ pX11_learns ev, xEnOK ev xmi yX11_learns.cls yX11_learns.name cX11_learns 3 (some .boolean) q := List.forall_mem_append.mpr ⟨okpX11_learns_0 ev, okpX11_learns_1 ev⟩
theorem omX11_learns (ev : xEv) : xMethOK ev xmi yX11_learns.cls yX11_learns.name 140 (pX11_learns ev) := xMethOK.of mi_140 (by decide +kernel) (okpX11_learns ev)
def pX11_bag_0 (ev : xEv) : List (Nat × xEn) := [(0, .inl (xop (xf_aload 0 1))), (1, .inl (xop (xf_iload 1 1))), (2, .inr (.inl (0, 173, 1, 11))), (5, .inl (xop (xf_if_eq 32))), (8, .inl (xop (xf_aload 0 1))), (9, .inl (xop (xf_iload 2 1))), (10, .inr (.inl (0, 173, 1, 11))), (13, .inl (xop (xf_if_eq 32))), (16, .inl (xop (xf_iload 1 1))), (17, .inl (xop (xf_iload 2 1))), (18, .inl (xop (xf_icmp_eq 32))), (21, .inl (xop (xf_iload 3 1))), (22, .inl (xop (xf_push (.int 1) 1))), (23, .inl (xop (xf_push (.int 500) 3))), (26, .inr (.inl (1, 183, 3, 11))), (29, .inl (xop (xf_if_ne 34))), (32, .inl (xop (xf_push (.int (-1)) 1))), (33, .inr (.inr 1)), (34, .inl (xop (xf_iload 4 2))), (36, .inl (xop (xf_push (.int 0) 1)))]
set_option maxRecDepth 20000 in
theorem okpX11_bag_0 (ev : xEv) : ∀ q ∈ pX11_bag_0 ev, xEnOK ev xmi yX11_bag.cls yX11_bag.name cX11_bag 6 (some .int) q :=
  List.forall_mem_cons.mpr ⟨(xOK_pure (xs_aload_n (k := 0) rfl (show decode cX11_bag 0 = .ok (.aload_n 0, 1) by decide +kernel))),
  List.forall_mem_cons.mpr ⟨(xOK_pure (xs_iload_n (k := 1) rfl (show decode cX11_bag 1 = .ok (.iload_n 1, 1) by decide +kernel))),
  List.forall_mem_cons.mpr ⟨(xcm mi_173 ⟨⟨(by decide +kernel), (by decide +kernel), (by decide +kernel)⟩, (by decide), xw_492, xw_118, Or.inl ⟨rfl, _, _, _, _, (show decode cX11_bag 2 = .ok (.invokevirtual 64, 3) by decide +kernel), xw_489, xw_491, xw_0, rfl⟩⟩),
  List.forall_mem_cons.mpr ⟨(xOK_pure (xs_if_eq (show decode cX11_bag 5 = .ok (.ifCond .eq 27, 3) by decide +kernel) (by decide))),
  List.forall_mem_cons.mpr ⟨(xOK_pure (xs_aload_n (k := 0) rfl (show decode cX11_bag 8 = .ok (.aload_n 0, 1) by decide +kernel))),
  List.forall_mem_cons.mpr ⟨(xOK_pure (xs_iload_n (k := 2) rfl (show decode cX11_bag 9 = .ok (.iload_n 2, 1) by decide +kernel))),
  List.forall_mem_cons.mpr ⟨(xcm mi_173 ⟨⟨(by decide +kernel), (by decide +kernel), (by decide +kernel)⟩, (by decide), xw_492, xw_118, Or.inl ⟨rfl, _, _, _, _, (show decode cX11_bag 10 = .ok (.invokevirtual 64, 3) by decide +kernel), xw_489, xw_491, xw_0, rfl⟩⟩),
  List.forall_mem_cons.mpr ⟨(xOK_pure (xs_if_eq (show decode cX11_bag 13 = .ok (.ifCond .eq 19, 3) by decide +kernel) (by decide))),
  List.forall_mem_cons.mpr ⟨(xOK_pure (xs_iload_n (k := 1) rfl (show decode cX11_bag 16 = .ok (.iload_n 1, 1) by decide +kernel))),
  List.forall_mem_cons.mpr ⟨(xOK_pure (xs_iload_n (k := 2) rfl (show decode cX11_bag 17 = .ok (.iload_n 2, 1) by decide +kernel))),
  List.forall_mem_cons.mpr ⟨(xOK_pure (xs_icmp_eq (show decode cX11_bag 18 = .ok (.if_icmp .eq 14, 3) by decide +kernel) (by decide))),
  List.forall_mem_cons.mpr ⟨(xOK_pure (xs_iload_n (k := 3) rfl (show decode cX11_bag 21 = .ok (.iload_n 3, 1) by decide +kernel))),
  List.forall_mem_cons.mpr ⟨(xOK_pure (xs_iconst (n := 1) (show decode cX11_bag 22 = .ok (.iconst 1, 1) by decide +kernel) (by decide))),
  List.forall_mem_cons.mpr ⟨(xOK_pure (xs_sipush (n := 500) (show decode cX11_bag 23 = .ok (.sipush 500, 3) by decide +kernel) (by decide))),
  List.forall_mem_cons.mpr ⟨(xcm mi_183 ⟨⟨(by decide +kernel), (by decide +kernel), (by decide +kernel)⟩, (by decide), xw_480, xw_118, Or.inr (Or.inl ⟨rfl, _, (show decode cX11_bag 26 = .ok (.invokestatic 52, 3) by decide +kernel), xw_478, xw_479⟩)⟩),
  List.forall_mem_cons.mpr ⟨(xOK_pure (xs_if_ne (show decode cX11_bag 29 = .ok (.ifCond .ne 5, 3) by decide +kernel) (by decide))),
  List.forall_mem_cons.mpr ⟨(xOK_pure (xs_iconst (n := (-1)) (show decode cX11_bag 32 = .ok (.iconst (-1), 1) by decide +kernel) (by decide))),
  List.forall_mem_cons.mpr ⟨(Or.inr (Or.inl ⟨rfl, (show decode cX11_bag 33 = .ok (.ireturn, 1) by decide +kernel), rfl⟩)),
  List.forall_mem_cons.mpr ⟨(xOK_pure (xs_iload (show decode cX11_bag 34 = .ok (.iload 4, 2) by decide +kernel))),
  List.forall_mem_cons.mpr ⟨(xOK_pure (xs_iconst (n := 0) (show decode cX11_bag 36 = .ok (.iconst 0, 1) by decide +kernel) (by decide))),
  (fun _ h => absurd h List.not_mem_nil)⟩⟩⟩⟩⟩⟩⟩⟩⟩⟩⟩⟩⟩⟩⟩⟩⟩⟩⟩⟩
def pX11_bag_1 (ev : xEv) : List (Nat × xEn) := [(37, .inl (xop (xf_push (.int 9) 2))), (39, .inr (.inl (1, 183, 3, 11))), (42, .inl (xop (xf_if_eq 65))), (45, .inl (xop (xf_iload 5 2))), (47, .inr (.inl (1, 181, 1, 11))), (50, .inl (xop (xf_if_eq 65))), (53, .inl (xop (xf_aload 0 1))), (54, .inl (xop (xf_getf 11 1))), (57, .inl (xop (xf_getf 10 9))), (60, .inl (xop (xf_push (.int 30) 2))), (62, .inl (xop (xf_icmp_lt 67))), (65, .inl (xop (xf_push (.int (-1)) 1))), (66, .inr (.inr 1)), (67, .inl (xop (xf_aload 0 1))), (68, .inl (xop (xf_getf 11 0))), (71, .inl (xop (xf_iload 1 1))), (72, .inl (xop (xf_iload 2 1))), (73, .inr (.inl (0, 20, 2, 2))), (76, .inl (xop (xf_push (.int 1000000) 2))), (78, .inl (xop (xf_icmp_lt 83)))]
set_option maxRecDepth 20000 in
theorem okpX11_bag_1 (ev : xEv) : ∀ q ∈ pX11_bag_1 ev, xEnOK ev xmi yX11_bag.cls yX11_bag.name cX11_bag 6 (some .int) q :=
  List.forall_mem_cons.mpr ⟨(xOK_pure (xs_bipush (n := 9) (show decode cX11_bag 37 = .ok (.bipush 9, 2) by decide +kernel) (by decide))),
  List.forall_mem_cons.mpr ⟨(xcm mi_183 ⟨⟨(by decide +kernel), (by decide +kernel), (by decide +kernel)⟩, (by decide), xw_480, xw_118, Or.inr (Or.inl ⟨rfl, _, (show decode cX11_bag 39 = .ok (.invokestatic 52, 3) by decide +kernel), xw_478, xw_479⟩)⟩),
  List.forall_mem_cons.mpr ⟨(xOK_pure (xs_if_eq (show decode cX11_bag 42 = .ok (.ifCond .eq 23, 3) by decide +kernel) (by decide))),
  List.forall_mem_cons.mpr ⟨(xOK_pure (xs_iload (show decode cX11_bag 45 = .ok (.iload 5, 2) by decide +kernel))),
  List.forall_mem_cons.mpr ⟨(xcm mi_181 ⟨⟨(by decide +kernel), (by decide +kernel), (by decide +kernel)⟩, (by decide), xw_567, xw_118, Or.inr (Or.inl ⟨rfl, _, (show decode cX11_bag 47 = .ok (.invokestatic 102, 3) by decide +kernel), xw_565, xw_566⟩)⟩),
  List.forall_mem_cons.mpr ⟨(xOK_pure (xs_if_eq (show decode cX11_bag 50 = .ok (.ifCond .eq 15, 3) by decide +kernel) (by decide))),
  List.forall_mem_cons.mpr ⟨(xOK_pure (xs_aload_n (k := 0) rfl (show decode cX11_bag 53 = .ok (.aload_n 0, 1) by decide +kernel))),
  List.forall_mem_cons.mpr ⟨(xOK_pure (xs_getf xcl_11 (by decide) (show decode cX11_bag 54 = .ok (.getfield 21, 3) by decide +kernel) xw_447)),
  List.forall_mem_cons.mpr ⟨(xOK_pure (xs_getf xcl_10 (by decide) (show decode cX11_bag 57 = .ok (.getfield 203, 3) by decide +kernel) xw_322)),
  List.forall_mem_cons.mpr ⟨(xOK_pure (xs_bipush (n := 30) (show decode cX11_bag 60 = .ok (.bipush 30, 2) by decide +kernel) (by decide))),
  List.forall_mem_cons.mpr ⟨(xOK_pure (xs_icmp_lt (show decode cX11_bag 62 = .ok (.if_icmp .lt 5, 3) by decide +kernel) (by decide))),
  List.forall_mem_cons.mpr ⟨(xOK_pure (xs_iconst (n := (-1)) (show decode cX11_bag 65 = .ok (.iconst (-1), 1) by decide +kernel) (by decide))),
  List.forall_mem_cons.mpr ⟨(Or.inr (Or.inl ⟨rfl, (show decode cX11_bag 66 = .ok (.ireturn, 1) by decide +kernel), rfl⟩)),
  List.forall_mem_cons.mpr ⟨(xOK_pure (xs_aload_n (k := 0) rfl (show decode cX11_bag 67 = .ok (.aload_n 0, 1) by decide +kernel))),
  List.forall_mem_cons.mpr ⟨(xOK_pure (xs_getf xcl_11 (by decide) (show decode cX11_bag 68 = .ok (.getfield 10, 3) by decide +kernel) xw_446)),
  List.forall_mem_cons.mpr ⟨(xOK_pure (xs_iload_n (k := 1) rfl (show decode cX11_bag 71 = .ok (.iload_n 1, 1) by decide +kernel))),
  List.forall_mem_cons.mpr ⟨(xOK_pure (xs_iload_n (k := 2) rfl (show decode cX11_bag 72 = .ok (.iload_n 2, 1) by decide +kernel))),
  List.forall_mem_cons.mpr ⟨(xcm mi_20 ⟨⟨(by decide +kernel), (by decide +kernel), (by decide +kernel)⟩, (by decide), xw_539, xw_119, Or.inl ⟨rfl, _, _, _, _, (show decode cX11_bag 73 = .ok (.invokevirtual 98, 3) by decide +kernel), xw_559, xw_537, xw_538, rfl⟩⟩),
  List.forall_mem_cons.mpr ⟨(xOK_pure (xs_ldc (show decode cX11_bag 76 = .ok (.ldc 101, 2) by decide +kernel) xw_560)),
  List.forall_mem_cons.mpr ⟨(xOK_pure (xs_icmp_lt (show decode cX11_bag 78 = .ok (.if_icmp .lt 5, 3) by decide +kernel) (by decide))),
  (fun _ h => absurd h List.not_mem_nil)⟩⟩⟩⟩⟩⟩⟩⟩⟩⟩⟩⟩⟩⟩⟩⟩⟩⟩⟩⟩
def pX11_bag_2 (ev : xEv) : List (Nat × xEn) := [(81, .inl (xop (xf_push (.int (-1)) 1))), (82, .inr (.inr 1)), (83, .inl (xop (xf_aload 0 1))), (84, .inl (xop (xf_getf 11 1))), (87, .inl (xo_new 0 12 [.int 0, .int 0, .int 0, .int 0, .int 0, .int 0, .int 0, .int 0, .int 0, .null, .int 0, .null])), (90, .inl (xop xf_dup)), (91, .inl (xop (xf_iload 1 1))), (92, .inl (xop (xf_iload 2 1))), (93, .inl (xop (xf_iload 3 1))), (94, .inl (xop (xf_iload 4 2))), (96, .inl (xop (xf_iload 5 2))), (98, .inr (.inl (2, 0, 5, 0))), (101, .inr (.inl (0, 96, 1, 10))), (104, .inr (.inr 1))]
set_option maxRecDepth 20000 in
theorem okpX11_bag_2 (ev : xEv) : ∀ q ∈ pX11_bag_2 ev, xEnOK ev xmi yX11_bag.cls yX11_bag.name cX11_bag 6 (some .int) q :=
  List.forall_mem_cons.mpr ⟨(xOK_pure (xs_iconst (n := (-1)) (show decode cX11_bag 81 = .ok (.iconst (-1), 1) by decide +kernel) (by decide))),
  List.forall_mem_cons.mpr ⟨(Or.inr (Or.inl ⟨rfl, (show decode cX11_bag 82 = .ok (.ireturn, 1) by decide +kernel), rfl⟩)),
  List.forall_mem_cons.mpr ⟨(xOK_pure (xs_aload_n (k := 0) rfl (show decode cX11_bag 83 = .ok (.aload_n 0, 1) by decide +kernel))),
  List.forall_mem_cons.mpr ⟨(xOK_pure (xs_getf xcl_11 (by decide) (show decode cX11_bag 84 = .ok (.getfield 21, 3) by decide +kernel) xw_447)),
  List.forall_mem_cons.mpr ⟨(xs_new xcl_0 (by decide +kernel) (show decode cX11_bag 87 = .ok (.new 47, 3) by decide +kernel) xw_747 xw_748 xw_134),
  List.forall_mem_cons.mpr ⟨(xOK_pure (xs_dup (show decode cX11_bag 90 = .ok (.dup, 1) by decide +kernel))),
  List.forall_mem_cons.mpr ⟨(xOK_pure (xs_iload_n (k := 1) rfl (show decode cX11_bag 91 = .ok (.iload_n 1, 1) by decide +kernel))),
  List.forall_mem_cons.mpr ⟨(xOK_pure (xs_iload_n (k := 2) rfl (show decode cX11_bag 92 = .ok (.iload_n 2, 1) by decide +kernel))),
  List.forall_mem_cons.mpr ⟨(xOK_pure (xs_iload_n (k := 3) rfl (show decode cX11_bag 93 = .ok (.iload_n 3, 1) by decide +kernel))),
  List.forall_mem_cons.mpr ⟨(xOK_pure (xs_iload (show decode cX11_bag 94 = .ok (.iload 4, 2) by decide +kernel))),
  List.forall_mem_cons.mpr ⟨(xOK_pure (xs_iload (show decode cX11_bag 96 = .ok (.iload 5, 2) by decide +kernel))),
  List.forall_mem_cons.mpr ⟨(xcm mi_0 ⟨⟨(by decide +kernel), (by decide +kernel), (by decide +kernel)⟩, (by decide), xw_751, xw_134, Or.inr (Or.inr (Or.inl ⟨rfl, _, (show decode cX11_bag 98 = .ok (.invokespecial 206, 3) by decide +kernel), rfl, xw_749, xw_750, rfl⟩))⟩),
  List.forall_mem_cons.mpr ⟨(xcm mi_96 ⟨⟨(by decide +kernel), (by decide +kernel), (by decide +kernel)⟩, (by decide), xw_808, xw_120, Or.inl ⟨rfl, _, _, _, _, (show decode cX11_bag 101 = .ok (.invokevirtual 209, 3) by decide +kernel), xw_805, xw_806, xw_807, rfl⟩⟩),
  List.forall_mem_cons.mpr ⟨(Or.inr (Or.inl ⟨rfl, (show decode cX11_bag 104 = .ok (.ireturn, 1) by decide +kernel), rfl⟩)),
  (fun _ h => absurd h List.not_mem_nil)⟩⟩⟩⟩⟩⟩⟩⟩⟩⟩⟩⟩⟩⟩
def pX11_bag (ev : xEv) : List (Nat × xEn) := pX11_bag_0 ev ++ (pX11_bag_1 ev ++ (pX11_bag_2 ev))
theorem okpX11_bag (ev : xEv) : ∀ q ∈ pX11_bag ev, xEnOK ev xmi yX11_bag.cls yX11_bag.name cX11_bag 6 (some .int) q := List.forall_mem_append.mpr ⟨okpX11_bag_0 ev, List.forall_mem_append.mpr ⟨okpX11_bag_1 ev, okpX11_bag_2 ev⟩⟩
theorem omX11_bag (ev : xEv) : xMethOK ev xmi yX11_bag.cls yX11_bag.name 141 (pX11_bag ev) := xMethOK.of mi_141 (by decide +kernel) (okpX11_bag ev)
def pX11_train_0 (ev : xEv) : List (Nat × xEn) := [(0, .inl (xop (xf_aload 0 1))), (1, .inl (xop (xf_iload 1 1))), (2, .inr (.inl (0, 177, 1, 11))), (5, .inl (xop (xf_if_eq 24))), (8, .inl (xop (xf_aload 0 1))), (9, .inl (xop (xf_getf 11 1))), (12, .inl (xop (xf_getf 10 8))), (15, .inl (xop (xf_iload 1 1))), (16, .inl (xop (xf_aald (ev.1 7)))), (17, .inl (xop (xf_getf 0 5))), (20, .inl (xop (xf_push (.int (-1)) 1))), (21, .inl (xop (xf_icmp_ne 26))), (24, .inl (xop (xf_push (.int (-1)) 1))), (25, .inr (.inr 1)), (26, .inl (xop (xf_aload 0 1))), (27, .inl (xop (xf_getf 11 1))), (30, .inl (xop (xf_getf 10 8))), (33, .inl (xop (xf_iload 1 1))), (34, .inl (xop (xf_aald (ev.1 7)))), (35, .inl (xop (xf_astore 2 1)))]
set_option maxRecDepth 20000 in
theorem okpX11_train_0 (ev : xEv) : ∀ q ∈ pX11_train_0 ev, xEnOK ev xmi yX11_train.cls yX11_train.name cX11_train 4 (some .int) q :=
  List.forall_mem_cons.mpr ⟨(xOK_pure (xs_aload_n (k := 0) rfl (show decode cX11_train 0 = .ok (.aload_n 0, 1) by decide +kernel))),
  List.forall_mem_cons.mpr ⟨(xOK_pure (xs_iload_n (k := 1) rfl (show decode cX11_train 1 = .ok (.iload_n 1, 1) by decide +kernel))),
  List.forall_mem_cons.mpr ⟨(xcm mi_177 ⟨⟨(by decide +kernel), (by decide +kernel), (by decide +kernel)⟩, (by decide), xw_824, xw_118, Or.inl ⟨rfl, _, _, _, _, (show decode cX11_train 2 = .ok (.invokevirtual 213, 3) by decide +kernel), xw_821, xw_823, xw_4, rfl⟩⟩),
  List.forall_mem_cons.mpr ⟨(xOK_pure (xs_if_eq (show decode cX11_train 5 = .ok (.ifCond .eq 19, 3) by decide +kernel) (by decide))),
  List.forall_mem_cons.mpr ⟨(xOK_pure (xs_aload_n (k := 0) rfl (show decode cX11_train 8 = .ok (.aload_n 0, 1) by decide +kernel))),
  List.forall_mem_cons.mpr ⟨(xOK_pure (xs_getf xcl_11 (by decide) (show decode cX11_train 9 = .ok (.getfield 21, 3) by decide +kernel) xw_447)),
  List.forall_mem_cons.mpr ⟨(xOK_pure (xs_getf xcl_10 (by decide) (show decode cX11_train 12 = .ok (.getfield 216, 3) by decide +kernel) xw_320)),
  List.forall_mem_cons.mpr ⟨(xOK_pure (xs_iload_n (k := 1) rfl (show decode cX11_train 15 = .ok (.iload_n 1, 1) by decide +kernel))),
  List.forall_mem_cons.mpr ⟨(xOK_pure (xs_aald (t := 7) rfl (show decode cX11_train 16 = .ok (.aaload, 1) by decide +kernel))),
  List.forall_mem_cons.mpr ⟨(xOK_pure (xs_getf xcl_0 (by decide) (show decode cX11_train 17 = .ok (.getfield 220, 3) by decide +kernel) xw_765)),
  List.forall_mem_cons.mpr ⟨(xOK_pure (xs_iconst (n := (-1)) (show decode cX11_train 20 = .ok (.iconst (-1), 1) by decide +kernel) (by decide))),
  List.forall_mem_cons.mpr ⟨(xOK_pure (xs_icmp_ne (show decode cX11_train 21 = .ok (.if_icmp .ne 5, 3) by decide +kernel) (by decide))),
  List.forall_mem_cons.mpr ⟨(xOK_pure (xs_iconst (n := (-1)) (show decode cX11_train 24 = .ok (.iconst (-1), 1) by decide +kernel) (by decide))),
  List.forall_mem_cons.mpr ⟨(Or.inr (Or.inl ⟨rfl, (show decode cX11_train 25 = .ok (.ireturn, 1) by decide +kernel), rfl⟩)),
  List.forall_mem_cons.mpr ⟨(xOK_pure (xs_aload_n (k := 0) rfl (show decode cX11_train 26 = .ok (.aload_n 0, 1) by decide +kernel))),
  List.forall_mem_cons.mpr ⟨(xOK_pure (xs_getf xcl_11 (by decide) (show decode cX11_train 27 = .ok (.getfield 21, 3) by decide +kernel) xw_447)),
  List.forall_mem_cons.mpr ⟨(xOK_pure (xs_getf xcl_10 (by decide) (show decode cX11_train 30 = .ok (.getfield 216, 3) by decide +kernel) xw_320)),
  List.forall_mem_cons.mpr ⟨(xOK_pure (xs_iload_n (k := 1) rfl (show decode cX11_train 33 = .ok (.iload_n 1, 1) by decide +kernel))),
  List.forall_mem_cons.mpr ⟨(xOK_pure (xs_aald (t := 7) rfl (show decode cX11_train 34 = .ok (.aaload, 1) by decide +kernel))),
  List.forall_mem_cons.mpr ⟨(xOK_pure (xs_astore_n (k := 2) rfl (show decode cX11_train 35 = .ok (.astore_n 2, 1) by decide +kernel) (by decide))),
  (fun _ h => absurd h List.not_mem_nil)⟩⟩⟩⟩⟩⟩⟩⟩⟩⟩⟩⟩⟩⟩⟩⟩⟩⟩⟩⟩
def pX11_train_1 (ev : xEv) : List (Nat × xEn) := [(36, .inl (xop (xf_push (.int 1) 1))), (37, .inl (xop (xf_aload 0 1))), (38, .inl (xop (xf_getf 11 0))), (41, .inl (xop (xf_aload 2 1))), (42, .inl (xop (xf_getf 0 5))), (45, .inl (xop (xf_aload 2 1))), (46, .inl (xop (xf_getf 0 1))), (49, .inr (.inl (0, 20, 2, 2))), (52, .inl (xop (xf_push (.int 4) 1))), (53, .inr (.inl (1, 184, 2, 11))), (56, .inl (xop (xf_m2 (fun x y => if x < y then y else x)))), (59, .inl (xop (xf_istore 3 1))), (60, .inl (xop (xf_aload 2 1))), (61, .inl (xop (xf_aload 0 1))), (62, .inl (xop (xf_getf 11 1))), (65, .inl (xop (xf_getf 10 13))), (68, .inl (xop (xf_aload 0 1))), (69, .inl (xop (xf_getf 11 1))), (72, .inl (xop (xf_getf 10 13))), (75, .inl (xop (xf_iload 3 1)))]
set_option maxRecDepth 20000 in
theorem okpX11_train_1 (ev : xEv) : ∀ q ∈ pX11_train_1 ev, xEnOK ev xmi yX11_train.cls yX11_train.name cX11_train 4 (some .int) q :=
  List.forall_mem_cons.mpr ⟨(xOK_pure (xs_iconst (n := 1) (show decode cX11_train 36 = .ok (.iconst 1, 1) by decide +kernel) (by decide))),
  List.forall_mem_cons.mpr ⟨(xOK_pure (xs_aload_n (k := 0) rfl (show decode cX11_train 37 = .ok (.aload_n 0, 1) by decide +kernel))),
  List.forall_mem_cons.mpr ⟨(xOK_pure (xs_getf xcl_11 (by decide) (show decode cX11_train 38 = .ok (.getfield 10, 3) by decide +kernel) xw_446)),
  List.forall_mem_cons.mpr ⟨(xOK_pure (xs_aload_n (k := 2) rfl (show decode cX11_train 41 = .ok (.aload_n 2, 1) by decide +kernel))),
  List.forall_mem_cons.mpr ⟨(xOK_pure (xs_getf xcl_0 (by decide) (show decode cX11_train 42 = .ok (.getfield 220, 3) by decide +kernel) xw_765)),
  List.forall_mem_cons.mpr ⟨(xOK_pure (xs_aload_n (k := 2) rfl (show decode cX11_train 45 = .ok (.aload_n 2, 1) by decide +kernel))),
  List.forall_mem_cons.mpr ⟨(xOK_pure (xs_getf xcl_0 (by decide) (show decode cX11_train 46 = .ok (.getfield 223, 3) by decide +kernel) xw_757)),
  List.forall_mem_cons.mpr ⟨(xcm mi_20 ⟨⟨(by decide +kernel), (by decide +kernel), (by decide +kernel)⟩, (by decide), xw_539, xw_119, Or.inl ⟨rfl, _, _, _, _, (show decode cX11_train 49 = .ok (.invokevirtual 98, 3) by decide +kernel), xw_559, xw_537, xw_538, rfl⟩⟩),
  List.forall_mem_cons.mpr ⟨(xOK_pure (xs_iconst (n := 4) (show decode cX11_train 52 = .ok (.iconst 4, 1) by decide +kernel) (by decide))),
  List.forall_mem_cons.mpr ⟨(xcm mi_184 ⟨⟨(by decide +kernel), (by decide +kernel), (by decide +kernel)⟩, (by decide), xw_827, xw_118, Or.inr (Or.inl ⟨rfl, _, (show decode cX11_train 53 = .ok (.invokestatic 226, 3) by decide +kernel), xw_825, xw_826⟩)⟩),
  List.forall_mem_cons.mpr ⟨(xOK_pure (xs_mmax (show decode cX11_train 56 = .ok (.invokestatic 229, 3) by decide +kernel) xw_828 xw_829 xw_127 xw_830)),
  List.forall_mem_cons.mpr ⟨(xOK_pure (xs_istore_n (k := 3) rfl (show decode cX11_train 59 = .ok (.istore_n 3, 1) by decide +kernel) (by decide))),
  List.forall_mem_cons.mpr ⟨(xOK_pure (xs_aload_n (k := 2) rfl (show decode cX11_train 60 = .ok (.aload_n 2, 1) by decide +kernel))),
  List.forall_mem_cons.mpr ⟨(xOK_pure (xs_aload_n (k := 0) rfl (show decode cX11_train 61 = .ok (.aload_n 0, 1) by decide +kernel))),
  List.forall_mem_cons.mpr ⟨(xOK_pure (xs_getf xcl_11 (by decide) (show decode cX11_train 62 = .ok (.getfield 21, 3) by decide +kernel) xw_447)),
  List.forall_mem_cons.mpr ⟨(xOK_pure (xs_getf xcl_10 (by decide) (show decode cX11_train 65 = .ok (.getfield 128, 3) by decide +kernel) xw_330)),
  List.forall_mem_cons.mpr ⟨(xOK_pure (xs_aload_n (k := 0) rfl (show decode cX11_train 68 = .ok (.aload_n 0, 1) by decide +kernel))),
  List.forall_mem_cons.mpr ⟨(xOK_pure (xs_getf xcl_11 (by decide) (show decode cX11_train 69 = .ok (.getfield 21, 3) by decide +kernel) xw_447)),
  List.forall_mem_cons.mpr ⟨(xOK_pure (xs_getf xcl_10 (by decide) (show decode cX11_train 72 = .ok (.getfield 128, 3) by decide +kernel) xw_330)),
  List.forall_mem_cons.mpr ⟨(xOK_pure (xs_iload_n (k := 3) rfl (show decode cX11_train 75 = .ok (.iload_n 3, 1) by decide +kernel))),
  (fun _ h => absurd h List.not_mem_nil)⟩⟩⟩⟩⟩⟩⟩⟩⟩⟩⟩⟩⟩⟩⟩⟩⟩⟩⟩⟩
def pX11_train_2 (ev : xEv) : List (Nat × xEn) := [(76, .inl (xop (xf_bin (fun x y => x + y)))), (77, .inr (.inl (0, 5, 2, 0))), (80, .inl (xop (xf_aload 2 1))), (81, .inl (xop (xf_getf 0 7))), (84, .inr (.inr 1))]
set_option maxRecDepth 20000 in
theorem okpX11_train_2 (ev : xEv) : ∀ q ∈ pX11_train_2 ev, xEnOK ev xmi yX11_train.cls yX11_train.name cX11_train 4 (some .int) q :=
  List.forall_mem_cons.mpr ⟨(xOK_pure (xs_iadd (show decode cX11_train 76 = .ok (.iadd, 1) by decide +kernel))),
  List.forall_mem_cons.mpr ⟨(xcm mi_5 ⟨⟨(by decide +kernel), (by decide +kernel), (by decide +kernel)⟩, (by decide), xw_834, xw_134, Or.inl ⟨rfl, _, _, _, _, (show decode cX11_train 77 = .ok (.invokevirtual 234, 3) by decide +kernel), xw_831, xw_832, xw_833, rfl⟩⟩),
  List.forall_mem_cons.mpr ⟨(xOK_pure (xs_aload_n (k := 2) rfl (show decode cX11_train 80 = .ok (.aload_n 2, 1) by decide +kernel))),
  List.forall_mem_cons.mpr ⟨(xOK_pure (xs_getf xcl_0 (by decide) (show decode cX11_train 81 = .ok (.getfield 237, 3) by decide +kernel) xw_771)),
  List.forall_mem_cons.mpr ⟨(Or.inr (Or.inl ⟨rfl, (show decode cX11_train 84 = .ok (.ireturn, 1) by decide +kernel), rfl⟩)),
  (fun _ h => absurd h List.not_mem_nil)⟩⟩⟩⟩⟩
def pX11_train (ev : xEv) : List (Nat × xEn) := pX11_train_0 ev ++ (pX11_train_1 ev ++ (pX11_train_2 ev))
theorem okpX11_train (ev : xEv) : ∀ q ∈ pX11_train ev, xEnOK ev xmi yX11_train.cls yX11_train.name cX11_train 4 (some .int) q := List.forall_mem_append.mpr ⟨okpX11_train_0 ev, List.forall_mem_append.mpr ⟨okpX11_train_1 ev, okpX11_train_2 ev⟩⟩
theorem omX11_train (ev : xEv) : xMethOK ev xmi yX11_train.cls yX11_train.name 142 (pX11_train ev) := xMethOK.of mi_142 (by decide +kernel) (okpX11_train ev)
def pX11_set_0 (ev : xEv) : List (Nat × xEn) := [(0, .inl (xop (xf_push (.int (-1)) 1))), (1, .inl (xop (xf_istore 3 1))), (2, .inl (xop (xf_iload 1 1))), (3, .inl (xop (xf_if_ne 41))), (6, .inl (xop (xf_iload 2 1))), (7, .inl (xop (xf_push (.int 0) 1))), (8, .inl (xop (xf_push (.int 20) 2))), (10, .inr (.inl (1, 183, 3, 11))), (13, .inl (xop (xf_if_eq 41))), (16, .inl (xop (xf_aload 0 1))), (17, .inl (xop (xf_getf 11 1))), (20, .inl (xop (xf_getf 10 1))), (23, .inl (xop (xf_getf 9 0))), (26, .inl (xop (xf_istore 3 1))), (27, .inl (xop (xf_aload 0 1))), (28, .inl (xop (xf_getf 11 1))), (31, .inl (xop (xf_getf 10 1))), (34, .inl (xop (xf_iload 2 1))), (35, .inl (xo_putf 9 0 .int)), (38, .inl (xop (xf_goto 106)))]
set_option maxRecDepth 20000 in
theorem okpX11_set_0 (ev : xEv) : ∀ q ∈ pX11_set_0 ev, xEnOK ev xmi yX11_set.cls yX11_set.name cX11_set 4 (some .int) q :=
  List.forall_mem_cons.mpr ⟨(xOK_pure (xs_iconst (n := (-1)) (show decode cX11_set 0 = .ok (.iconst (-1), 1) by decide +kernel) (by decide))),
  List.forall_mem_cons.mpr ⟨(xOK_pure (xs_istore_n (k := 3) rfl (show decode cX11_set 1 = .ok (.istore_n 3, 1) by decide +kernel) (by decide))),
  List.forall_mem_cons.mpr ⟨(xOK_pure (xs_iload_n (k := 1) rfl (show decode cX11_set 2 = .ok (.iload_n 1, 1) by decide +kernel))),
  List.forall_mem_cons.mpr ⟨(xOK_pure (xs_if_ne (show decode cX11_set 3 = .ok (.ifCond .ne 38, 3) by decide +kernel) (by decide))),
  List.forall_mem_cons.mpr ⟨(xOK_pure (xs_iload_n (k := 2) rfl (show decode cX11_set 6 = .ok (.iload_n 2, 1) by decide +kernel))),
  List.forall_mem_cons.mpr ⟨(xOK_pure (xs_iconst (n := 0) (show decode cX11_set 7 = .ok (.iconst 0, 1) by decide +kernel) (by decide))),
  List.forall_mem_cons.mpr ⟨(xOK_pure (xs_bipush (n := 20) (show decode cX11_set 8 = .ok (.bipush 20, 2) by decide +kernel) (by decide))),
  List.forall_mem_cons.mpr ⟨(xcm mi_183 ⟨⟨(by decide +kernel), (by decide +kernel), (by decide +kernel)⟩, (by decide), xw_480, xw_118, Or.inr (Or.inl ⟨rfl, _, (show decode cX11_set 10 = .ok (.invokestatic 52, 3) by decide +kernel), xw_478, xw_479⟩)⟩),
  List.forall_mem_cons.mpr ⟨(xOK_pure (xs_if_eq (show decode cX11_set 13 = .ok (.ifCond .eq 28, 3) by decide +kernel) (by decide))),
  List.forall_mem_cons.mpr ⟨(xOK_pure (xs_aload_n (k := 0) rfl (show decode cX11_set 16 = .ok (.aload_n 0, 1) by decide +kernel))),
  List.forall_mem_cons.mpr ⟨(xOK_pure (xs_getf xcl_11 (by decide) (show decode cX11_set 17 = .ok (.getfield 21, 3) by decide +kernel) xw_447)),
  List.forall_mem_cons.mpr ⟨(xOK_pure (xs_getf xcl_10 (by decide) (show decode cX11_set 20 = .ok (.getfield 131, 3) by decide +kernel) xw_304)),
  List.forall_mem_cons.mpr ⟨(xOK_pure (xs_getf xcl_9 (by decide) (show decode cX11_set 23 = .ok (.getfield 240, 3) by decide +kernel) xw_224)),
  List.forall_mem_cons.mpr ⟨(xOK_pure (xs_istore_n (k := 3) rfl (show decode cX11_set 26 = .ok (.istore_n 3, 1) by decide +kernel) (by decide))),
  List.forall_mem_cons.mpr ⟨(xOK_pure (xs_aload_n (k := 0) rfl (show decode cX11_set 27 = .ok (.aload_n 0, 1) by decide +kernel))),
  List.forall_mem_cons.mpr ⟨(xOK_pure (xs_getf xcl_11 (by decide) (show decode cX11_set 28 = .ok (.getfield 21, 3) by decide +kernel) xw_447)),
  List.forall_mem_cons.mpr ⟨(xOK_pure (xs_getf xcl_10 (by decide) (show decode cX11_set 31 = .ok (.getfield 131, 3) by decide +kernel) xw_304)),
  List.forall_mem_cons.mpr ⟨(xOK_pure (xs_iload_n (k := 2) rfl (show decode cX11_set 34 = .ok (.iload_n 2, 1) by decide +kernel))),
  List.forall_mem_cons.mpr ⟨(xs_putf (k := 0) xcl_9 (by decide) rfl (show decode cX11_set 35 = .ok (.putfield 240, 3) by decide +kernel) xw_224),
  List.forall_mem_cons.mpr ⟨(xOK_pure (xs_goto (show decode cX11_set 38 = .ok (.goto 68, 3) by decide +kernel) (by decide))),
  (fun _ h => absurd h List.not_mem_nil)⟩⟩⟩⟩⟩⟩⟩⟩⟩⟩⟩⟩⟩⟩⟩⟩⟩⟩⟩⟩
def pX11_set_1 (ev : xEv) : List (Nat × xEn) := [(41, .inl (xop (xf_iload 1 1))), (42, .inl (xop (xf_push (.int 1) 1))), (43, .inl (xop (xf_icmp_ne 75))), (46, .inl (xop (xf_iload 2 1))), (47, .inl (xop (xf_push (.int 0) 1))), (48, .inl (xop (xf_push (.int 50) 2))), (50, .inr (.inl (1, 183, 3, 11))), (53, .inl (xop (xf_if_eq 75))), (56, .inl (xop (xf_aload 0 1))), (57, .inl (xop (xf_getf 11 1))), (60, .inl (xop (xf_getf 10 15))), (63, .inl (xop (xf_istore 3 1))), (64, .inl (xop (xf_aload 0 1))), (65, .inl (xop (xf_getf 11 1))), (68, .inl (xop (xf_iload 2 1))), (69, .inl (xo_putf 10 15 .int)), (72, .inl (xop (xf_goto 106))), (75, .inl (xop (xf_iload 1 1))), (76, .inl (xop (xf_push (.int 2) 1))), (77, .inl (xop (xf_icmp_ne 106)))]
set_option maxRecDepth 20000 in
theorem okpX11_set_1 (ev : xEv) : ∀ q ∈ pX11_set_1 ev, xEnOK ev xmi yX11_set.cls yX11_set.name cX11_set 4 (some .int) q :=
  List.forall_mem_cons.mpr ⟨(xOK_pure (xs_iload_n (k := 1) rfl (show decode cX11_set 41 = .ok (.iload_n 1, 1) by decide +kernel))),
  List.forall_mem_cons.mpr ⟨(xOK_pure (xs_iconst (n := 1) (show decode cX11_set 42 = .ok (.iconst 1, 1) by decide +kernel) (by decide))),
  List.forall_mem_cons.mpr ⟨(xOK_pure (xs_icmp_ne (show decode cX11_set 43 = .ok (.if_icmp .ne 32, 3) by decide +kernel) (by decide))),
  List.forall_mem_cons.mpr ⟨(xOK_pure (xs_iload_n (k := 2) rfl (show decode cX11_set 46 = .ok (.iload_n 2, 1) by decide +kernel))),
  List.forall_mem_cons.mpr ⟨(xOK_pure (xs_iconst (n := 0) (show decode cX11_set 47 = .ok (.iconst 0, 1) by decide +kernel) (by decide))),
  List.forall_mem_cons.mpr ⟨(xOK_pure (xs_bipush (n := 50) (show decode cX11_set 48 = .ok (.bipush 50, 2) by decide +kernel) (by decide))),
  List.forall_mem_cons.mpr ⟨(xcm mi_183 ⟨⟨(by decide +kernel), (by decide +kernel), (by decide +kernel)⟩, (by decide), xw_480, xw_118, Or.inr (Or.inl ⟨rfl, _, (show decode cX11_set 50 = .ok (.invokestatic 52, 3) by decide +kernel), xw_478, xw_479⟩)⟩),
  List.forall_mem_cons.mpr ⟨(xOK_pure (xs_if_eq (show decode cX11_set 53 = .ok (.ifCond .eq 22, 3) by decide +kernel) (by decide))),
  List.forall_mem_cons.mpr ⟨(xOK_pure (xs_aload_n (k := 0) rfl (show decode cX11_set 56 = .ok (.aload_n 0, 1) by decide +kernel))),
  List.forall_mem_cons.mpr ⟨(xOK_pure (xs_getf xcl_11 (by decide) (show decode cX11_set 57 = .ok (.getfield 21, 3) by decide +kernel) xw_447)),
  List.forall_mem_cons.mpr ⟨(xOK_pure (xs_getf xcl_10 (by decide) (show decode cX11_set 60 = .ok (.getfield 243, 3) by decide +kernel) xw_334)),
  List.forall_mem_cons.mpr ⟨(xOK_pure (xs_istore_n (k := 3) rfl (show decode cX11_set 63 = .ok (.istore_n 3, 1) by decide +kernel) (by decide))),
  List.forall_mem_cons.mpr ⟨(xOK_pure (xs_aload_n (k := 0) rfl (show decode cX11_set 64 = .ok (.aload_n 0, 1) by decide +kernel))),
  List.forall_mem_cons.mpr ⟨(xOK_pure (xs_getf xcl_11 (by decide) (show decode cX11_set 65 = .ok (.getfield 21, 3) by decide +kernel) xw_447)),
  List.forall_mem_cons.mpr ⟨(xOK_pure (xs_iload_n (k := 2) rfl (show decode cX11_set 68 = .ok (.iload_n 2, 1) by decide +kernel))),
  List.forall_mem_cons.mpr ⟨(xs_putf (k := 15) xcl_10 (by decide) rfl (show decode cX11_set 69 = .ok (.putfield 243, 3) by decide +kernel) xw_334),
  List.forall_mem_cons.mpr ⟨(xOK_pure (xs_goto (show decode cX11_set 72 = .ok (.goto 34, 3) by decide +kernel) (by decide))),
  List.forall_mem_cons.mpr ⟨(xOK_pure (xs_iload_n (k := 1) rfl (show decode cX11_set 75 = .ok (.iload_n 1, 1) by decide +kernel))),
  List.forall_mem_cons.mpr ⟨(xOK_pure (xs_iconst (n := 2) (show decode cX11_set 76 = .ok (.iconst 2, 1) by decide +kernel) (by decide))),
  List.forall_mem_cons.mpr ⟨(xOK_pure (xs_icmp_ne (show decode cX11_set 77 = .ok (.if_icmp .ne 29, 3) by decide +kernel) (by decide))),
  (fun _ h => absurd h List.not_mem_nil)⟩⟩⟩⟩⟩⟩⟩⟩⟩⟩⟩⟩⟩⟩⟩⟩⟩⟩⟩⟩
def pX11_set_2 (ev : xEv) : List (Nat × xEn) := [(80, .inl (xop (xf_iload 2 1))), (81, .inl (xop (xf_push (.int 0) 1))), (82, .inl (xop (xf_push (.int 99) 2))), (84, .inr (.inl (1, 183, 3, 11))), (87, .inl (xop (xf_if_eq 106))), (90, .inl (xop (xf_aload 0 1))), (91, .inl (xop (xf_getf 11 1))), (94, .inl (xop (xf_getf 10 16))), (97, .inl (xop (xf_istore 3 1))), (98, .inl (xop (xf_aload 0 1))), (99, .inl (xop (xf_getf 11 1))), (102, .inl (xop (xf_iload 2 1))), (103, .inl (xo_putf 10 16 .int)), (106, .inl (xop (xf_iload 3 1))), (107, .inr (.inr 1))]
set_option maxRecDepth 20000 in
theorem okpX11_set_2 (ev : xEv) : ∀ q ∈ pX11_set_2 ev, xEnOK ev xmi yX11_set.cls yX11_set.name cX11_set 4 (some .int) q :=
  List.forall_mem_cons.mpr ⟨(xOK_pure (xs_iload_n (k := 2) rfl (show decode cX11_set 80 = .ok (.iload_n 2, 1) by decide +kernel))),
  List.forall_mem_cons.mpr ⟨(xOK_pure (xs_iconst (n := 0) (show decode cX11_set 81 = .ok (.iconst 0, 1) by decide +kernel) (by decide))),
  List.forall_mem_cons.mpr ⟨(xOK_pure (xs_bipush (n := 99) (show decode cX11_set 82 = .ok (.bipush 99, 2) by decide +kernel) (by decide))),
  List.forall_mem_cons.mpr ⟨(xcm mi_183 ⟨⟨(by decide +kernel), (by decide +kernel), (by decide +kernel)⟩, (by decide), xw_480, xw_118, Or.inr (Or.inl ⟨rfl, _, (show decode cX11_set 84 = .ok (.invokestatic 52, 3) by decide +kernel), xw_478, xw_479⟩)⟩),
  List.forall_mem_cons.mpr ⟨(xOK_pure (xs_if_eq (show decode cX11_set 87 = .ok (.ifCond .eq 19, 3) by decide +kernel) (by decide))),
  List.forall_mem_cons.mpr ⟨(xOK_pure (xs_aload_n (k := 0) rfl (show decode cX11_set 90 = .ok (.aload_n 0, 1) by decide +kernel))),
  List.forall_mem_cons.mpr ⟨(xOK_pure (xs_getf xcl_11 (by decide) (show decode cX11_set 91 = .ok (.getfield 21, 3) by decide +kernel) xw_447)),
  List.forall_mem_cons.mpr ⟨(xOK_pure (xs_getf xcl_10 (by decide) (show decode cX11_set 94 = .ok (.getfield 246, 3) by decide +kernel) xw_336)),
  List.forall_mem_cons.mpr ⟨(xOK_pure (xs_istore_n (k := 3) rfl (show decode cX11_set 97 = .ok (.istore_n 3, 1) by decide +kernel) (by decide))),
  List.forall_mem_cons.mpr ⟨(xOK_pure (xs_aload_n (k := 0) rfl (show decode cX11_set 98 = .ok (.aload_n 0, 1) by decide +kernel))),
  List.forall_mem_cons.mpr ⟨(xOK_pure (xs_getf xcl_11 (by decide) (show decode cX11_set 99 = .ok (.getfield 21, 3) by decide +kernel) xw_447)),
  List.forall_mem_cons.mpr ⟨(xOK_pure (xs_iload_n (k := 2) rfl (show decode cX11_set 102 = .ok (.iload_n 2, 1) by decide +kernel))),
  List.forall_mem_cons.mpr ⟨(xs_putf (k := 16) xcl_10 (by decide) rfl (show decode cX11_set 103 = .ok (.putfield 246, 3) by decide +kernel) xw_336),
  List.forall_mem_cons.mpr ⟨(xOK_pure (xs_iload_n (k := 3) rfl (show decode cX11_set 106 = .ok (.iload_n 3, 1) by decide +kernel))),
  List.forall_mem_cons.mpr ⟨(Or.inr (Or.inl ⟨rfl, (show decode cX11_set 107 = .ok (.ireturn, 1) by decide +kernel), rfl⟩)),
  (fun _ h => absurd h List.not_mem_nil)⟩⟩⟩⟩⟩⟩⟩⟩⟩⟩⟩⟩⟩⟩⟩
def pX11_set (ev : xEv) : List (Nat × xEn) := pX11_set_0 ev ++ (pX11_set_1 ev ++ (pX11_set_2 ev))
theorem okpX11_set (ev : xEv) : ∀ q ∈ pX11_set ev, xEnOK ev xmi yX11_set.cls yX11_set.name cX11_set 4 (some .int) q := List.forall_mem_append.mpr ⟨okpX11_set_0 ev, List.forall_mem_append.mpr ⟨okpX11_set_1 ev, okpX11_set_2 ev⟩⟩
theorem omX11_set (ev : xEv) : xMethOK ev xmi yX11_set.cls yX11_set.name 143 (pX11_set ev) := xMethOK.of mi_143 (by decide +kernel) (okpX11_set ev)
def pX11_sign_0 (ev : xEv) : List (Nat × xEn) := [(0, .inl (xop (xf_aload 0 1))), (1, .inl (xop (xf_getf 11 6))), (4, .inl (xop (xf_push (.int 4) 1))), (5, .inl (xop (xf_bin (fun x y => x + y)))), (6, .inl (xop (xf_push (.int 100) 2))), (8, .inl (xop (xf_icmp_le 13))), (11, .inl (xop (xf_push (.int (-1)) 1))), (12, .inr (.inr 1)), (13, .inl (xop (xf_push (.int 24) 2))), (15, .inl (xop (xf_istore 2 1))), (16, .inl (xop (xf_iload 2 1))), (17, .inl (xop (xf_if_lt 52))), (20, .inl (xop (xf_aload 0 1))), (21, .inl (xop (xf_getf 11 5))), (24, .inl (xop (xf_aload 0 1))), (25, .inl (xop (xf_getf 11 6))), (28, .inl (xop (xf_iload 1 1))), (29, .inl (xop (xf_iload 2 1))), (30, .inl (xop (xf_bin (fun x y => (x.toUInt32 >>> (y.toUInt32 &&& Int32.toUInt32 31)).toInt32)))), (31, .inl (xop (xf_push (.int 255) 3)))]
set_option maxRecDepth 20000 in
theorem okpX11_sign_0 (ev : xEv) : ∀ q ∈ pX11_sign_0 ev, xEnOK ev xmi yX11_sign.cls yX11_sign.name cX11_sign 3 (some .int) q :=
  List.forall_mem_cons.mpr ⟨(xOK_pure (xs_aload_n (k := 0) rfl (show decode cX11_sign 0 = .ok (.aload_n 0, 1) by decide +kernel))),
  List.forall_mem_cons.mpr ⟨(xOK_pure (xs_getf xcl_11 (by decide) (show decode cX11_sign 1 = .ok (.getfield 249, 3) by decide +kernel) xw_452)),
  List.forall_mem_cons.mpr ⟨(xOK_pure (xs_iconst (n := 4) (show decode cX11_sign 4 = .ok (.iconst 4, 1) by decide +kernel) (by decide))),
  List.forall_mem_cons.mpr ⟨(xOK_pure (xs_iadd (show decode cX11_sign 5 = .ok (.iadd, 1) by decide +kernel))),
  List.forall_mem_cons.mpr ⟨(xOK_pure (xs_bipush (n := 100) (show decode cX11_sign 6 = .ok (.bipush 100, 2) by decide +kernel) (by decide))),
  List.forall_mem_cons.mpr ⟨(xOK_pure (xs_icmp_le (show decode cX11_sign 8 = .ok (.if_icmp .le 5, 3) by decide +kernel) (by decide))),
  List.forall_mem_cons.mpr ⟨(xOK_pure (xs_iconst (n := (-1)) (show decode cX11_sign 11 = .ok (.iconst (-1), 1) by decide +kernel) (by decide))),
  List.forall_mem_cons.mpr ⟨(Or.inr (Or.inl ⟨rfl, (show decode cX11_sign 12 = .ok (.ireturn, 1) by decide +kernel), rfl⟩)),
  List.forall_mem_cons.mpr ⟨(xOK_pure (xs_bipush (n := 24) (show decode cX11_sign 13 = .ok (.bipush 24, 2) by decide +kernel) (by decide))),
  List.forall_mem_cons.mpr ⟨(xOK_pure (xs_istore_n (k := 2) rfl (show decode cX11_sign 15 = .ok (.istore_n 2, 1) by decide +kernel) (by decide))),
  List.forall_mem_cons.mpr ⟨(xOK_pure (xs_iload_n (k := 2) rfl (show decode cX11_sign 16 = .ok (.iload_n 2, 1) by decide +kernel))),
  List.forall_mem_cons.mpr ⟨(xOK_pure (xs_if_lt (show decode cX11_sign 17 = .ok (.ifCond .lt 35, 3) by decide +kernel) (by decide))),
  List.forall_mem_cons.mpr ⟨(xOK_pure (xs_aload_n (k := 0) rfl (show decode cX11_sign 20 = .ok (.aload_n 0, 1) by decide +kernel))),
  List.forall_mem_cons.mpr ⟨(xOK_pure (xs_getf xcl_11 (by decide) (show decode cX11_sign 21 = .ok (.getfield 43, 3) by decide +kernel) xw_451)),
  List.forall_mem_cons.mpr ⟨(xOK_pure (xs_aload_n (k := 0) rfl (show decode cX11_sign 24 = .ok (.aload_n 0, 1) by decide +kernel))),
  List.forall_mem_cons.mpr ⟨(xOK_pure (xs_getf xcl_11 (by decide) (show decode cX11_sign 25 = .ok (.getfield 249, 3) by decide +kernel) xw_452)),
  List.forall_mem_cons.mpr ⟨(xOK_pure (xs_iload_n (k := 1) rfl (show decode cX11_sign 28 = .ok (.iload_n 1, 1) by decide +kernel))),
  List.forall_mem_cons.mpr ⟨(xOK_pure (xs_iload_n (k := 2) rfl (show decode cX11_sign 29 = .ok (.iload_n 2, 1) by decide +kernel))),
  List.forall_mem_cons.mpr ⟨(xOK_pure (xs_iushr (show decode cX11_sign 30 = .ok (.iushr, 1) by decide +kernel))),
  List.forall_mem_cons.mpr ⟨(xOK_pure (xs_sipush (n := 255) (show decode cX11_sign 31 = .ok (.sipush 255, 3) by decide +kernel) (by decide))),
  (fun _ h => absurd h List.not_mem_nil)⟩⟩⟩⟩⟩⟩⟩⟩⟩⟩⟩⟩⟩⟩⟩⟩⟩⟩⟩⟩
def pX11_sign_1 (ev : xEv) : List (Nat × xEn) := [(34, .inl (xop (xf_bin (fun x y => x &&& y)))), (35, .inl (xo_ast (ev.1 0) (fun x => x))), (36, .inl (xop (xf_aload 0 1))), (37, .inl (xop xf_dup)), (38, .inl (xop (xf_getf 11 6))), (41, .inl (xop (xf_push (.int 1) 1))), (42, .inl (xop (xf_bin (fun x y => x + y)))), (43, .inl (xo_putf 11 6 .int)), (46, .inl (xop (xf_iinc 2 (-8)))), (49, .inl (xop (xf_goto 16))), (52, .inl (xop (xf_aload 0 1))), (53, .inl (xop (xf_getf 11 6))), (56, .inr (.inr 1))]
set_option maxRecDepth 20000 in
theorem okpX11_sign_1 (ev : xEv) : ∀ q ∈ pX11_sign_1 ev, xEnOK ev xmi yX11_sign.cls yX11_sign.name cX11_sign 3 (some .int) q :=
  List.forall_mem_cons.mpr ⟨(xOK_pure (xs_iand (show decode cX11_sign 34 = .ok (.iand, 1) by decide +kernel))),
  List.forall_mem_cons.mpr ⟨(xs_iast (show decode cX11_sign 35 = .ok (.iastore, 1) by decide +kernel)),
  List.forall_mem_cons.mpr ⟨(xOK_pure (xs_aload_n (k := 0) rfl (show decode cX11_sign 36 = .ok (.aload_n 0, 1) by decide +kernel))),
  List.forall_mem_cons.mpr ⟨(xOK_pure (xs_dup (show decode cX11_sign 37 = .ok (.dup, 1) by decide +kernel))),
  List.forall_mem_cons.mpr ⟨(xOK_pure (xs_getf xcl_11 (by decide) (show decode cX11_sign 38 = .ok (.getfield 249, 3) by decide +kernel) xw_452)),
  List.forall_mem_cons.mpr ⟨(xOK_pure (xs_iconst (n := 1) (show decode cX11_sign 41 = .ok (.iconst 1, 1) by decide +kernel) (by decide))),
  List.forall_mem_cons.mpr ⟨(xOK_pure (xs_iadd (show decode cX11_sign 42 = .ok (.iadd, 1) by decide +kernel))),
  List.forall_mem_cons.mpr ⟨(xs_putf (k := 6) xcl_11 (by decide) rfl (show decode cX11_sign 43 = .ok (.putfield 249, 3) by decide +kernel) xw_452),
  List.forall_mem_cons.mpr ⟨(xOK_pure (xs_iinc (n := (-8)) (show decode cX11_sign 46 = .ok (.iinc 2 (-8), 3) by decide +kernel) (by decide) (by decide))),
  List.forall_mem_cons.mpr ⟨(xOK_pure (xs_goto (show decode cX11_sign 49 = .ok (.goto (-33), 3) by decide +kernel) (by decide))),
  List.forall_mem_cons.mpr ⟨(xOK_pure (xs_aload_n (k := 0) rfl (show decode cX11_sign 52 = .ok (.aload_n 0, 1) by decide +kernel))),
  List.forall_mem_cons.mpr ⟨(xOK_pure (xs_getf xcl_11 (by decide) (show decode cX11_sign 53 = .ok (.getfield 249, 3) by decide +kernel) xw_452)),
  List.forall_mem_cons.mpr ⟨(Or.inr (Or.inl ⟨rfl, (show decode cX11_sign 56 = .ok (.ireturn, 1) by decide +kernel), rfl⟩)),
  (fun _ h => absurd h List.not_mem_nil)⟩⟩⟩⟩⟩⟩⟩⟩⟩⟩⟩⟩⟩
def pX11_sign (ev : xEv) : List (Nat × xEn) := pX11_sign_0 ev ++ (pX11_sign_1 ev)
theorem okpX11_sign (ev : xEv) : ∀ q ∈ pX11_sign ev, xEnOK ev xmi yX11_sign.cls yX11_sign.name cX11_sign 3 (some .int) q := List.forall_mem_append.mpr ⟨okpX11_sign_0 ev, okpX11_sign_1 ev⟩
theorem omX11_sign (ev : xEv) : xMethOK ev xmi yX11_sign.cls yX11_sign.name 144 (pX11_sign ev) := xMethOK.of mi_144 (by decide +kernel) (okpX11_sign ev)
def pX11_end (ev : xEv) : List (Nat × xEn) := [(0, .inl (xop (xf_iload 1 1))), (1, .inl (xop (xf_push (.int 0) 1))), (2, .inl (xop (xf_aload 0 1))), (3, .inl (xop (xf_getf 11 6))), (6, .inr (.inl (1, 183, 3, 11))), (9, .inl (xop (xf_if_ne 14))), (12, .inl (xop (xf_push (.int 0) 1))), (13, .inr (.inr 4)), (14, .inl (xop (xf_aload 0 1))), (15, .inl (xop (xf_iload 1 1))), (16, .inl (xo_putf 11 6 .int)), (19, .inl (xop (xf_push (.int 1) 1))), (20, .inr (.inr 4))]
set_option maxRecDepth 20000 in
theorem okpX11_end (ev : xEv) : ∀ q ∈ pX11_end ev, xEnOK ev xmi yX11_end.cls yX11_end.name cX11_end 2 (some .boolean) q :=
  List.forall_mem_cons.mpr ⟨(xOK_pure (xs_iload_n (k := 1) rfl (show decode cX11_end 0 = .ok (.iload_n 1, 1) by decide +kernel))),
  List.forall_mem_cons.mpr ⟨(xOK_pure (xs_iconst (n := 0) (show decode cX11_end 1 = .ok (.iconst 0, 1) by decide +kernel) (by decide))),
  List.forall_mem_cons.mpr ⟨(xOK_pure (xs_aload_n (k := 0) rfl (show decode cX11_end 2 = .ok (.aload_n 0, 1) by decide +kernel))),
  List.forall_mem_cons.mpr ⟨(xOK_pure (xs_getf xcl_11 (by decide) (show decode cX11_end 3 = .ok (.getfield 249, 3) by decide +kernel) xw_452)),
  List.forall_mem_cons.mpr ⟨(xcm mi_183 ⟨⟨(by decide +kernel), (by decide +kernel), (by decide +kernel)⟩, (by decide), xw_480, xw_118, Or.inr (Or.inl ⟨rfl, _, (show decode cX11_end 6 = .ok (.invokestatic 52, 3) by decide +kernel), xw_478, xw_479⟩)⟩),
  List.forall_mem_cons.mpr ⟨(xOK_pure (xs_if_ne (show decode cX11_end 9 = .ok (.ifCond .ne 5, 3) by decide +kernel) (by decide))),
  List.forall_mem_cons.mpr ⟨(xOK_pure (xs_iconst (n := 0) (show decode cX11_end 12 = .ok (.iconst 0, 1) by decide +kernel) (by decide))),
  List.forall_mem_cons.mpr ⟨(Or.inr (Or.inr (Or.inr (Or.inr (Or.inl ⟨rfl, (show decode cX11_end 13 = .ok (.ireturn, 1) by decide +kernel), rfl⟩))))),
  List.forall_mem_cons.mpr ⟨(xOK_pure (xs_aload_n (k := 0) rfl (show decode cX11_end 14 = .ok (.aload_n 0, 1) by decide +kernel))),
  List.forall_mem_cons.mpr ⟨(xOK_pure (xs_iload_n (k := 1) rfl (show decode cX11_end 15 = .ok (.iload_n 1, 1) by decide +kernel))),
  List.forall_mem_cons.mpr ⟨(xs_putf (k := 6) xcl_11 (by decide) rfl (show decode cX11_end 16 = .ok (.putfield 249, 3) by decide +kernel) xw_452),
  List.forall_mem_cons.mpr ⟨(xOK_pure (xs_iconst (n := 1) (show decode cX11_end 19 = .ok (.iconst 1, 1) by decide +kernel) (by decide))),
  List.forall_mem_cons.mpr ⟨(Or.inr (Or.inr (Or.inr (Or.inr (Or.inl ⟨rfl, (show decode cX11_end 20 = .ok (.ireturn, 1) by decide +kernel), rfl⟩))))),
  (fun _ h => absurd h List.not_mem_nil)⟩⟩⟩⟩⟩⟩⟩⟩⟩⟩⟩⟩⟩
theorem omX11_end (ev : xEv) : xMethOK ev xmi yX11_end.cls yX11_end.name 145 (pX11_end ev) := xMethOK.of mi_145 (by decide +kernel) (okpX11_end ev)
def pX11_force_0 (ev : xEv) : List (Nat × xEn) := [(0, .inl (xop (xf_aload 0 1))), (1, .inl (xop (xf_getf 11 6))), (4, .inl (xop (xf_istore 3 1))), (5, .inl (xop (xf_aload 0 1))), (6, .inl (xop (xf_push (.int 0) 1))), (7, .inl (xo_putf 11 6 .int)), (10, .inl (xop (xf_aload 0 1))), (11, .inl (xop (xf_iload 1 1))), (12, .inl (xop (xf_iload 2 1))), (13, .inr (.inl (0, 147, 2, 11))), (16, .inl (xop (xf_if_ne 22))), (19, .inl (xop (xf_push (.int (-100)) 2))), (21, .inr (.inr 1)), (22, .inl (xop (xf_aload 0 1))), (23, .inl (xop (xf_getf 11 3))), (26, .inl (xop (xf_aload 0 1))), (27, .inl (xop (xf_getf 11 5))), (30, .inl (xop (xf_iload 3 1))), (31, .inl (xop (xf_iload 1 1))), (32, .inr (.inl (0, 42, 3, 4)))]
set_option maxRecDepth 20000 in
theorem okpX11_force_0 (ev : xEv) : ∀ q ∈ pX11_force_0 ev, xEnOK ev xmi yX11_force.cls yX11_force.name cX11_force 6 (some .int) q :=
  List.forall_mem_cons.mpr ⟨(xOK_pure (xs_aload_n (k := 0) rfl (show decode cX11_force 0 = .ok (.aload_n 0, 1) by decide +kernel))),
  List.forall_mem_cons.mpr ⟨(xOK_pure (xs_getf xcl_11 (by decide) (show decode cX11_force 1 = .ok (.getfield 249, 3) by decide +kernel) xw_452)),
  List.forall_mem_cons.mpr ⟨(xOK_pure (xs_istore_n (k := 3) rfl (show decode cX11_force 4 = .ok (.istore_n 3, 1) by decide +kernel) (by decide))),
  List.forall_mem_cons.mpr ⟨(xOK_pure (xs_aload_n (k := 0) rfl (show decode cX11_force 5 = .ok (.aload_n 0, 1) by decide +kernel))),
  List.forall_mem_cons.mpr ⟨(xOK_pure (xs_iconst (n := 0) (show decode cX11_force 6 = .ok (.iconst 0, 1) by decide +kernel) (by decide))),
  List.forall_mem_cons.mpr ⟨(xs_putf (k := 6) xcl_11 (by decide) rfl (show decode cX11_force 7 = .ok (.putfield 249, 3) by decide +kernel) xw_452),
  List.forall_mem_cons.mpr ⟨(xOK_pure (xs_aload_n (k := 0) rfl (show decode cX11_force 10 = .ok (.aload_n 0, 1) by decide +kernel))),
  List.forall_mem_cons.mpr ⟨(xOK_pure (xs_iload_n (k := 1) rfl (show decode cX11_force 11 = .ok (.iload_n 1, 1) by decide +kernel))),
  List.forall_mem_cons.mpr ⟨(xOK_pure (xs_iload_n (k := 2) rfl (show decode cX11_force 12 = .ok (.iload_n 2, 1) by decide +kernel))),
  List.forall_mem_cons.mpr ⟨(xcm mi_147 ⟨⟨(by decide +kernel), (by decide +kernel), (by decide +kernel)⟩, (by decide), xw_855, xw_118, Or.inl ⟨rfl, _, _, _, _, (show decode cX11_force 13 = .ok (.invokevirtual 252, 3) by decide +kernel), xw_852, xw_854, xw_5, rfl⟩⟩),
  List.forall_mem_cons.mpr ⟨(xOK_pure (xs_if_ne (show decode cX11_force 16 = .ok (.ifCond .ne 6, 3) by decide +kernel) (by decide))),
  List.forall_mem_cons.mpr ⟨(xOK_pure (xs_bipush (n := (-100)) (show decode cX11_force 19 = .ok (.bipush (-100), 2) by decide +kernel) (by decide))),
  List.forall_mem_cons.mpr ⟨(Or.inr (Or.inl ⟨rfl, (show decode cX11_force 21 = .ok (.ireturn, 1) by decide +kernel), rfl⟩)),
  List.forall_mem_cons.mpr ⟨(xOK_pure (xs_aload_n (k := 0) rfl (show decode cX11_force 22 = .ok (.aload_n 0, 1) by decide +kernel))),
  List.forall_mem_cons.mpr ⟨(xOK_pure (xs_getf xcl_11 (by decide) (show decode cX11_force 23 = .ok (.getfield 35, 3) by decide +kernel) xw_449)),
  List.forall_mem_cons.mpr ⟨(xOK_pure (xs_aload_n (k := 0) rfl (show decode cX11_force 26 = .ok (.aload_n 0, 1) by decide +kernel))),
  List.forall_mem_cons.mpr ⟨(xOK_pure (xs_getf xcl_11 (by decide) (show decode cX11_force 27 = .ok (.getfield 43, 3) by decide +kernel) xw_451)),
  List.forall_mem_cons.mpr ⟨(xOK_pure (xs_iload_n (k := 3) rfl (show decode cX11_force 30 = .ok (.iload_n 3, 1) by decide +kernel))),
  List.forall_mem_cons.mpr ⟨(xOK_pure (xs_iload_n (k := 1) rfl (show decode cX11_force 31 = .ok (.iload_n 1, 1) by decide +kernel))),
  List.forall_mem_cons.mpr ⟨(xcm mi_42 ⟨⟨(by decide +kernel), (by decide +kernel), (by decide +kernel)⟩, (by decide), xw_863, xw_124, Or.inl ⟨rfl, _, _, _, _, (show decode cX11_force 32 = .ok (.invokevirtual 255, 3) by decide +kernel), xw_860, xw_861, xw_862, rfl⟩⟩),
  (fun _ h => absurd h List.not_mem_nil)⟩⟩⟩⟩⟩⟩⟩⟩⟩⟩⟩⟩⟩⟩⟩⟩⟩⟩⟩⟩
def pX11_force_1 (ev : xEv) : List (Nat × xEn) := [(35, .inl (xop (xf_istore 4 2))), (37, .inl (xop (xf_iload 4 2))), (39, .inl (xop (xf_push (.int (-1)) 1))), (40, .inl (xop (xf_icmp_eq 48))), (43, .inl (xop (xf_push (.int (-1)) 1))), (44, .inl (xop (xf_iload 4 2))), (46, .inl (xop (xf_bin (fun x y => x - y)))), (47, .inr (.inr 1)), (48, .inl (xop (xf_iload 1 1))), (49, .inl (xop (xf_push (.int 2) 1))), (50, .inl (xop (xf_icmp_ne 63))), (53, .inl (xop (xf_aload 0 1))), (54, .inl (xop (xf_getf 11 1))), (57, .inl (xop (xf_getf 10 3))), (60, .inl (xop (xf_goto 70))), (63, .inl (xop (xf_aload 0 1))), (64, .inl (xop (xf_getf 11 1))), (67, .inl (xop (xf_getf 10 2))), (70, .inl (xop (xf_astore 5 2))), (72, .inl (xop (xf_aload 5 2)))]
set_option maxRecDepth 20000 in
theorem okpX11_force_1 (ev : xEv) : ∀ q ∈ pX11_force_1 ev, xEnOK ev xmi yX11_force.cls yX11_force.name cX11_force 6 (some .int) q :=
  List.forall_mem_cons.mpr ⟨(xOK_pure (xs_istore (show decode cX11_force 35 = .ok (.istore 4, 2) by decide +kernel) (by decide))),
  List.forall_mem_cons.mpr ⟨(xOK_pure (xs_iload (show decode cX11_force 37 = .ok (.iload 4, 2) by decide +kernel))),
  List.forall_mem_cons.mpr ⟨(xOK_pure (xs_iconst (n := (-1)) (show decode cX11_force 39 = .ok (.iconst (-1), 1) by decide +kernel) (by decide))),
  List.forall_mem_cons.mpr ⟨(xOK_pure (xs_icmp_eq (show decode cX11_force 40 = .ok (.if_icmp .eq 8, 3) by decide +kernel) (by decide))),
  List.forall_mem_cons.mpr ⟨(xOK_pure (xs_iconst (n := (-1)) (show decode cX11_force 43 = .ok (.iconst (-1), 1) by decide +kernel) (by decide))),
  List.forall_mem_cons.mpr ⟨(xOK_pure (xs_iload (show decode cX11_force 44 = .ok (.iload 4, 2) by decide +kernel))),
  List.forall_mem_cons.mpr ⟨(xOK_pure (xs_isub (show decode cX11_force 46 = .ok (.isub, 1) by decide +kernel))),
  List.forall_mem_cons.mpr ⟨(Or.inr (Or.inl ⟨rfl, (show decode cX11_force 47 = .ok (.ireturn, 1) by decide +kernel), rfl⟩)),
  List.forall_mem_cons.mpr ⟨(xOK_pure (xs_iload_n (k := 1) rfl (show decode cX11_force 48 = .ok (.iload_n 1, 1) by decide +kernel))),
  List.forall_mem_cons.mpr ⟨(xOK_pure (xs_iconst (n := 2) (show decode cX11_force 49 = .ok (.iconst 2, 1) by decide +kernel) (by decide))),
  List.forall_mem_cons.mpr ⟨(xOK_pure (xs_icmp_ne (show decode cX11_force 50 = .ok (.if_icmp .ne 13, 3) by decide +kernel) (by decide))),
  List.forall_mem_cons.mpr ⟨(xOK_pure (xs_aload_n (k := 0) rfl (show decode cX11_force 53 = .ok (.aload_n 0, 1) by decide +kernel))),
  List.forall_mem_cons.mpr ⟨(xOK_pure (xs_getf xcl_11 (by decide) (show decode cX11_force 54 = .ok (.getfield 21, 3) by decide +kernel) xw_447)),
  List.forall_mem_cons.mpr ⟨(xOK_pure (xs_getf xcl_10 (by decide) (show decode cX11_force 57 = .ok (.getfield 259, 3) by decide +kernel) xw_308)),
  List.forall_mem_cons.mpr ⟨(xOK_pure (xs_goto (show decode cX11_force 60 = .ok (.goto 10, 3) by decide +kernel) (by decide))),
  List.forall_mem_cons.mpr ⟨(xOK_pure (xs_aload_n (k := 0) rfl (show decode cX11_force 63 = .ok (.aload_n 0, 1) by decide +kernel))),
  List.forall_mem_cons.mpr ⟨(xOK_pure (xs_getf xcl_11 (by decide) (show decode cX11_force 64 = .ok (.getfield 21, 3) by decide +kernel) xw_447)),
  List.forall_mem_cons.mpr ⟨(xOK_pure (xs_getf xcl_10 (by decide) (show decode cX11_force 67 = .ok (.getfield 263, 3) by decide +kernel) xw_306)),
  List.forall_mem_cons.mpr ⟨(xOK_pure (xs_astore (show decode cX11_force 70 = .ok (.astore 5, 2) by decide +kernel) (by decide))),
  List.forall_mem_cons.mpr ⟨(xOK_pure (xs_aload (show decode cX11_force 72 = .ok (.aload 5, 2) by decide +kernel))),
  (fun _ h => absurd h List.not_mem_nil)⟩⟩⟩⟩⟩⟩⟩⟩⟩⟩⟩⟩⟩⟩⟩⟩⟩⟩⟩⟩
def pX11_force_2 (ev : xEv) : List (Nat × xEn) := [(74, .inl (xop (xf_iload 1 1))), (75, .inl (xop (xf_iload 2 1))), (76, .inl (xop (xf_aload 0 1))), (77, .inl (xop (xf_getf 11 3))), (80, .inl (xop (xf_getf 4 0))), (83, .inl (xop (xf_aload 0 1))), (84, .inl (xop (xf_getf 11 3))), (87, .inl (xop (xf_getf 4 1))), (90, .inr (.inl (0, 86, 4, 8))), (93, .inr (.inr 1))]
set_option maxRecDepth 20000 in
theorem okpX11_force_2 (ev : xEv) : ∀ q ∈ pX11_force_2 ev, xEnOK ev xmi yX11_force.cls yX11_force.name cX11_force 6 (some .int) q :=
  List.forall_mem_cons.mpr ⟨(xOK_pure (xs_iload_n (k := 1) rfl (show decode cX11_force 74 = .ok (.iload_n 1, 1) by decide +kernel))),
  List.forall_mem_cons.mpr ⟨(xOK_pure (xs_iload_n (k := 2) rfl (show decode cX11_force 75 = .ok (.iload_n 2, 1) by decide +kernel))),
  List.forall_mem_cons.mpr ⟨(xOK_pure (xs_aload_n (k := 0) rfl (show decode cX11_force 76 = .ok (.aload_n 0, 1) by decide +kernel))),
  List.forall_mem_cons.mpr ⟨(xOK_pure (xs_getf xcl_11 (by decide) (show decode cX11_force 77 = .ok (.getfield 35, 3) by decide +kernel) xw_449)),
  List.forall_mem_cons.mpr ⟨(xOK_pure (xs_getf xcl_4 (by decide) (show decode cX11_force 80 = .ok (.getfield 266, 3) by decide +kernel) xw_414)),
  List.forall_mem_cons.mpr ⟨(xOK_pure (xs_aload_n (k := 0) rfl (show decode cX11_force 83 = .ok (.aload_n 0, 1) by decide +kernel))),
  List.forall_mem_cons.mpr ⟨(xOK_pure (xs_getf xcl_11 (by decide) (show decode cX11_force 84 = .ok (.getfield 35, 3) by decide +kernel) xw_449)),
  List.forall_mem_cons.mpr ⟨(xOK_pure (xs_getf xcl_4 (by decide) (show decode cX11_force 87 = .ok (.getfield 269, 3) by decide +kernel) xw_416)),
  List.forall_mem_cons.mpr ⟨(xcm mi_86 ⟨⟨(by decide +kernel), (by decide +kernel), (by decide +kernel)⟩, (by decide), xw_1032, xw_122, Or.inl ⟨rfl, _, _, _, _, (show decode cX11_force 90 = .ok (.invokevirtual 272, 3) by decide +kernel), xw_1029, xw_1030, xw_1031, rfl⟩⟩),
  List.forall_mem_cons.mpr ⟨(Or.inr (Or.inl ⟨rfl, (show decode cX11_force 93 = .ok (.ireturn, 1) by decide +kernel), rfl⟩)),
  (fun _ h => absurd h List.not_mem_nil)⟩⟩⟩⟩⟩⟩⟩⟩⟩⟩
def pX11_force (ev : xEv) : List (Nat × xEn) := pX11_force_0 ev ++ (pX11_force_1 ev ++ (pX11_force_2 ev))
theorem okpX11_force (ev : xEv) : ∀ q ∈ pX11_force ev, xEnOK ev xmi yX11_force.cls yX11_force.name cX11_force 6 (some .int) q := List.forall_mem_append.mpr ⟨okpX11_force_0 ev, List.forall_mem_append.mpr ⟨okpX11_force_1 ev, okpX11_force_2 ev⟩⟩
theorem omX11_force (ev : xEv) : xMethOK ev xmi yX11_force.cls yX11_force.name 146 (pX11_force ev) := xMethOK.of mi_146 (by decide +kernel) (okpX11_force ev)
def pX11_mayForce_0 (ev : xEv) : List (Nat × xEn) := [(0, .inl (xop (xf_iload 1 1))), (1, .inl (xop (xf_push (.int 2) 1))), (2, .inl (xop (xf_icmp_ne 34))), (5, .inl (xop (xf_iload 2 1))), (6, .inl (xop (xf_push (.int 0) 1))), (7, .inl (xop (xf_push (.int 99) 2))), (9, .inr (.inl (1, 183, 3, 11))), (12, .inl (xop (xf_if_eq 32))), (15, .inl (xop (xf_aload 0 1))), (16, .inl (xop (xf_getf 11 1))), (19, .inl (xop (xf_getf 10 3))), (22, .inr (.inl (0, 85, 0, 8))), (25, .inl (xop (xf_if_ne 32))), (28, .inl (xop (xf_push (.int 1) 1))), (29, .inl (xop (xf_goto 33))), (32, .inl (xop (xf_push (.int 0) 1))), (33, .inr (.inr 4)), (34, .inl (xop (xf_iload 1 1))), (35, .inl (xop (xf_push (.int 0) 1))), (36, .inl (xop (xf_push (.int 1) 1)))]
set_option maxRecDepth 20000 in
theorem okpX11_mayForce_0 (ev : xEv) : ∀ q ∈ pX11_mayForce_0 ev, xEnOK ev xmi yX11_mayForce.cls yX11_mayForce.name cX11_mayForce 3 (some .boolean) q :=
  List.forall_mem_cons.mpr ⟨(xOK_pure (xs_iload_n (k := 1) rfl (show decode cX11_mayForce 0 = .ok (.iload_n 1, 1) by decide +kernel))),
  List.forall_mem_cons.mpr ⟨(xOK_pure (xs_iconst (n := 2) (show decode cX11_mayForce 1 = .ok (.iconst 2, 1) by decide +kernel) (by decide))),
  List.forall_mem_cons.mpr ⟨(xOK_pure (xs_icmp_ne (show decode cX11_mayForce 2 = .ok (.if_icmp .ne 32, 3) by decide +kernel) (by decide))),
  List.forall_mem_cons.mpr ⟨(xOK_pure (xs_iload_n (k := 2) rfl (show decode cX11_mayForce 5 = .ok (.iload_n 2, 1) by decide +kernel))),
  List.forall_mem_cons.mpr ⟨(xOK_pure (xs_iconst (n := 0) (show decode cX11_mayForce 6 = .ok (.iconst 0, 1) by decide +kernel) (by decide))),
  List.forall_mem_cons.mpr ⟨(xOK_pure (xs_bipush (n := 99) (show decode cX11_mayForce 7 = .ok (.bipush 99, 2) by decide +kernel) (by decide))),
  List.forall_mem_cons.mpr ⟨(xcm mi_183 ⟨⟨(by decide +kernel), (by decide +kernel), (by decide +kernel)⟩, (by decide), xw_480, xw_118, Or.inr (Or.inl ⟨rfl, _, (show decode cX11_mayForce 9 = .ok (.invokestatic 52, 3) by decide +kernel), xw_478, xw_479⟩)⟩),
  List.forall_mem_cons.mpr ⟨(xOK_pure (xs_if_eq (show decode cX11_mayForce 12 = .ok (.ifCond .eq 20, 3) by decide +kernel) (by decide))),
  List.forall_mem_cons.mpr ⟨(xOK_pure (xs_aload_n (k := 0) rfl (show decode cX11_mayForce 15 = .ok (.aload_n 0, 1) by decide +kernel))),
  List.forall_mem_cons.mpr ⟨(xOK_pure (xs_getf xcl_11 (by decide) (show decode cX11_mayForce 16 = .ok (.getfield 21, 3) by decide +kernel) xw_447)),
  List.forall_mem_cons.mpr ⟨(xOK_pure (xs_getf xcl_10 (by decide) (show decode cX11_mayForce 19 = .ok (.getfield 259, 3) by decide +kernel) xw_308)),
  List.forall_mem_cons.mpr ⟨(xcm mi_85 ⟨⟨(by decide +kernel), (by decide +kernel), (by decide +kernel)⟩, (by decide), xw_859, xw_122, Or.inl ⟨rfl, _, _, _, _, (show decode cX11_mayForce 22 = .ok (.invokevirtual 278, 3) by decide +kernel), xw_856, xw_857, xw_858, rfl⟩⟩),
  List.forall_mem_cons.mpr ⟨(xOK_pure (xs_if_ne (show decode cX11_mayForce 25 = .ok (.ifCond .ne 7, 3) by decide +kernel) (by decide))),
  List.forall_mem_cons.mpr ⟨(xOK_pure (xs_iconst (n := 1) (show decode cX11_mayForce 28 = .ok (.iconst 1, 1) by decide +kernel) (by decide))),
  List.forall_mem_cons.mpr ⟨(xOK_pure (xs_goto (show decode cX11_mayForce 29 = .ok (.goto 4, 3) by decide +kernel) (by decide))),
  List.forall_mem_cons.mpr ⟨(xOK_pure (xs_iconst (n := 0) (show decode cX11_mayForce 32 = .ok (.iconst 0, 1) by decide +kernel) (by decide))),
  List.forall_mem_cons.mpr ⟨(Or.inr (Or.inr (Or.inr (Or.inr (Or.inl ⟨rfl, (show decode cX11_mayForce 33 = .ok (.ireturn, 1) by decide +kernel), rfl⟩))))),
  List.forall_mem_cons.mpr ⟨(xOK_pure (xs_iload_n (k := 1) rfl (show decode cX11_mayForce 34 = .ok (.iload_n 1, 1) by decide +kernel))),
  List.forall_mem_cons.mpr ⟨(xOK_pure (xs_iconst (n := 0) (show decode cX11_mayForce 35 = .ok (.iconst 0, 1) by decide +kernel) (by decide))),
  List.forall_mem_cons.mpr ⟨(xOK_pure (xs_iconst (n := 1) (show decode cX11_mayForce 36 = .ok (.iconst 1, 1) by decide +kernel) (by decide))),
  (fun _ h => absurd h List.not_mem_nil)⟩⟩⟩⟩⟩⟩⟩⟩⟩⟩⟩⟩⟩⟩⟩⟩⟩⟩⟩⟩
def pX11_mayForce_1 (ev : xEv) : List (Nat × xEn) := [(37, .inr (.inl (1, 183, 3, 11))), (40, .inl (xop (xf_if_eq 67))), (43, .inl (xop (xf_iload 2 1))), (44, .inr (.inl (1, 181, 1, 11))), (47, .inl (xop (xf_if_eq 67))), (50, .inl (xop (xf_aload 0 1))), (51, .inl (xop (xf_getf 11 1))), (54, .inl (xop (xf_getf 10 2))), (57, .inr (.inl (0, 85, 0, 8))), (60, .inl (xop (xf_if_ne 67))), (63, .inl (xop (xf_push (.int 1) 1))), (64, .inl (xop (xf_goto 68))), (67, .inl (xop (xf_push (.int 0) 1))), (68, .inr (.inr 4))]
set_option maxRecDepth 20000 in
theorem okpX11_mayForce_1 (ev : xEv) : ∀ q ∈ pX11_mayForce_1 ev, xEnOK ev xmi yX11_mayForce.cls yX11_mayForce.name cX11_mayForce 3 (some .boolean) q :=
  List.forall_mem_cons.mpr ⟨(xcm mi_183 ⟨⟨(by decide +kernel), (by decide +kernel), (by decide +kernel)⟩, (by decide), xw_480, xw_118, Or.inr (Or.inl ⟨rfl, _, (show decode cX11_mayForce 37 = .ok (.invokestatic 52, 3) by decide +kernel), xw_478, xw_479⟩)⟩),
  List.forall_mem_cons.mpr ⟨(xOK_pure (xs_if_eq (show decode cX11_mayForce 40 = .ok (.ifCond .eq 27, 3) by decide +kernel) (by decide))),
  List.forall_mem_cons.mpr ⟨(xOK_pure (xs_iload_n (k := 2) rfl (show decode cX11_mayForce 43 = .ok (.iload_n 2, 1) by decide +kernel))),
  List.forall_mem_cons.mpr ⟨(xcm mi_181 ⟨⟨(by decide +kernel), (by decide +kernel), (by decide +kernel)⟩, (by decide), xw_567, xw_118, Or.inr (Or.inl ⟨rfl, _, (show decode cX11_mayForce 44 = .ok (.invokestatic 102, 3) by decide +kernel), xw_565, xw_566⟩)⟩),
  List.forall_mem_cons.mpr ⟨(xOK_pure (xs_if_eq (show decode cX11_mayForce 47 = .ok (.ifCond .eq 20, 3) by decide +kernel) (by decide))),
  List.forall_mem_cons.mpr ⟨(xOK_pure (xs_aload_n (k := 0) rfl (show decode cX11_mayForce 50 = .ok (.aload_n 0, 1) by decide +kernel))),
  List.forall_mem_cons.mpr ⟨(xOK_pure (xs_getf xcl_11 (by decide) (show decode cX11_mayForce 51 = .ok (.getfield 21, 3) by decide +kernel) xw_447)),
  List.forall_mem_cons.mpr ⟨(xOK_pure (xs_getf xcl_10 (by decide) (show decode cX11_mayForce 54 = .ok (.getfield 263, 3) by decide +kernel) xw_306)),
  List.forall_mem_cons.mpr ⟨(xcm mi_85 ⟨⟨(by decide +kernel), (by decide +kernel), (by decide +kernel)⟩, (by decide), xw_859, xw_122, Or.inl ⟨rfl, _, _, _, _, (show decode cX11_mayForce 57 = .ok (.invokevirtual 278, 3) by decide +kernel), xw_856, xw_857, xw_858, rfl⟩⟩),
  List.forall_mem_cons.mpr ⟨(xOK_pure (xs_if_ne (show decode cX11_mayForce 60 = .ok (.ifCond .ne 7, 3) by decide +kernel) (by decide))),
  List.forall_mem_cons.mpr ⟨(xOK_pure (xs_iconst (n := 1) (show decode cX11_mayForce 63 = .ok (.iconst 1, 1) by decide +kernel) (by decide))),
  List.forall_mem_cons.mpr ⟨(xOK_pure (xs_goto (show decode cX11_mayForce 64 = .ok (.goto 4, 3) by decide +kernel) (by decide))),
  List.forall_mem_cons.mpr ⟨(xOK_pure (xs_iconst (n := 0) (show decode cX11_mayForce 67 = .ok (.iconst 0, 1) by decide +kernel) (by decide))),
  List.forall_mem_cons.mpr ⟨(Or.inr (Or.inr (Or.inr (Or.inr (Or.inl ⟨rfl, (show decode cX11_mayForce 68 = .ok (.ireturn, 1) by decide +kernel), rfl⟩))))),
  (fun _ h => absurd h List.not_mem_nil)⟩⟩⟩⟩⟩⟩⟩⟩⟩⟩⟩⟩⟩⟩
def pX11_mayForce (ev : xEv) : List (Nat × xEn) := pX11_mayForce_0 ev ++ (pX11_mayForce_1 ev)
theorem okpX11_mayForce (ev : xEv) : ∀ q ∈ pX11_mayForce ev, xEnOK ev xmi yX11_mayForce.cls yX11_mayForce.name cX11_mayForce 3 (some .boolean) q := List.forall_mem_append.mpr ⟨okpX11_mayForce_0 ev, okpX11_mayForce_1 ev⟩
theorem omX11_mayForce (ev : xEv) : xMethOK ev xmi yX11_mayForce.cls yX11_mayForce.name 147 (pX11_mayForce ev) := xMethOK.of mi_147 (by decide +kernel) (okpX11_mayForce ev)
def pX11_flight_0 (ev : xEv) : List (Nat × xEn) := [(0, .inl (xop (xf_aload 0 1))), (1, .inl (xop (xf_iload 1 1))), (2, .inr (.inl (0, 175, 1, 11))), (5, .inl (xop (xf_if_eq 24))), (8, .inl (xop (xf_aload 0 1))), (9, .inl (xop (xf_iload 2 1))), (10, .inr (.inl (0, 176, 1, 11))), (13, .inl (xop (xf_if_eq 24))), (16, .inl (xop (xf_aload 0 1))), (17, .inl (xop (xf_iload 3 1))), (18, .inr (.inl (0, 174, 1, 11))), (21, .inl (xop (xf_if_ne 26))), (24, .inl (xop (xf_push (.int (-1)) 1))), (25, .inr (.inr 1)), (26, .inl (xop (xf_iload 4 2))), (28, .inl (xop (xf_aload 0 1))), (29, .inl (xop (xf_getf 11 1))), (32, .inl (xop (xf_getf 10 13))), (35, .inl (xop (xf_push (.int 3000) 3))), (38, .inr (.inl (1, 183, 3, 11)))]
set_option maxRecDepth 20000 in
theorem okpX11_flight_0 (ev : xEv) : ∀ q ∈ pX11_flight_0 ev, xEnOK ev xmi yX11_flight.cls yX11_flight.name cX11_flight 5 (some .int) q :=
  List.forall_mem_cons.mpr ⟨(xOK_pure (xs_aload_n (k := 0) rfl (show decode cX11_flight 0 = .ok (.aload_n 0, 1) by decide +kernel))),
  List.forall_mem_cons.mpr ⟨(xOK_pure (xs_iload_n (k := 1) rfl (show decode cX11_flight 1 = .ok (.iload_n 1, 1) by decide +kernel))),
  List.forall_mem_cons.mpr ⟨(xcm mi_175 ⟨⟨(by decide +kernel), (by decide +kernel), (by decide +kernel)⟩, (by decide), xw_701, xw_118, Or.inl ⟨rfl, _, _, _, _, (show decode cX11_flight 2 = .ok (.invokevirtual 173, 3) by decide +kernel), xw_698, xw_700, xw_2, rfl⟩⟩),
  List.forall_mem_cons.mpr ⟨(xOK_pure (xs_if_eq (show decode cX11_flight 5 = .ok (.ifCond .eq 19, 3) by decide +kernel) (by decide))),
  List.forall_mem_cons.mpr ⟨(xOK_pure (xs_aload_n (k := 0) rfl (show decode cX11_flight 8 = .ok (.aload_n 0, 1) by decide +kernel))),
  List.forall_mem_cons.mpr ⟨(xOK_pure (xs_iload_n (k := 2) rfl (show decode cX11_flight 9 = .ok (.iload_n 2, 1) by decide +kernel))),
  List.forall_mem_cons.mpr ⟨(xcm mi_176 ⟨⟨(by decide +kernel), (by decide +kernel), (by decide +kernel)⟩, (by decide), xw_742, xw_118, Or.inl ⟨rfl, _, _, _, _, (show decode cX11_flight 10 = .ok (.invokevirtual 197, 3) by decide +kernel), xw_739, xw_741, xw_3, rfl⟩⟩),
  List.forall_mem_cons.mpr ⟨(xOK_pure (xs_if_eq (show decode cX11_flight 13 = .ok (.ifCond .eq 11, 3) by decide +kernel) (by decide))),
  List.forall_mem_cons.mpr ⟨(xOK_pure (xs_aload_n (k := 0) rfl (show decode cX11_flight 16 = .ok (.aload_n 0, 1) by decide +kernel))),
  List.forall_mem_cons.mpr ⟨(xOK_pure (xs_iload_n (k := 3) rfl (show decode cX11_flight 17 = .ok (.iload_n 3, 1) by decide +kernel))),
  List.forall_mem_cons.mpr ⟨(xcm mi_174 ⟨⟨(by decide +kernel), (by decide +kernel), (by decide +kernel)⟩, (by decide), xw_550, xw_118, Or.inl ⟨rfl, _, _, _, _, (show decode cX11_flight 18 = .ok (.invokevirtual 79, 3) by decide +kernel), xw_547, xw_549, xw_1, rfl⟩⟩),
  List.forall_mem_cons.mpr ⟨(xOK_pure (xs_if_ne (show decode cX11_flight 21 = .ok (.ifCond .ne 5, 3) by decide +kernel) (by decide))),
  List.forall_mem_cons.mpr ⟨(xOK_pure (xs_iconst (n := (-1)) (show decode cX11_flight 24 = .ok (.iconst (-1), 1) by decide +kernel) (by decide))),
  List.forall_mem_cons.mpr ⟨(Or.inr (Or.inl ⟨rfl, (show decode cX11_flight 25 = .ok (.ireturn, 1) by decide +kernel), rfl⟩)),
  List.forall_mem_cons.mpr ⟨(xOK_pure (xs_iload (show decode cX11_flight 26 = .ok (.iload 4, 2) by decide +kernel))),
  List.forall_mem_cons.mpr ⟨(xOK_pure (xs_aload_n (k := 0) rfl (show decode cX11_flight 28 = .ok (.aload_n 0, 1) by decide +kernel))),
  List.forall_mem_cons.mpr ⟨(xOK_pure (xs_getf xcl_11 (by decide) (show decode cX11_flight 29 = .ok (.getfield 21, 3) by decide +kernel) xw_447)),
  List.forall_mem_cons.mpr ⟨(xOK_pure (xs_getf xcl_10 (by decide) (show decode cX11_flight 32 = .ok (.getfield 128, 3) by decide +kernel) xw_330)),
  List.forall_mem_cons.mpr ⟨(xOK_pure (xs_sipush (n := 3000) (show decode cX11_flight 35 = .ok (.sipush 3000, 3) by decide +kernel) (by decide))),
  List.forall_mem_cons.mpr ⟨(xcm mi_183 ⟨⟨(by decide +kernel), (by decide +kernel), (by decide +kernel)⟩, (by decide), xw_480, xw_118, Or.inr (Or.inl ⟨rfl, _, (show decode cX11_flight 38 = .ok (.invokestatic 52, 3) by decide +kernel), xw_478, xw_479⟩)⟩),
  (fun _ h => absurd h List.not_mem_nil)⟩⟩⟩⟩⟩⟩⟩⟩⟩⟩⟩⟩⟩⟩⟩⟩⟩⟩⟩⟩
def pX11_flight_1 (ev : xEv) : List (Nat × xEn) := [(41, .inl (xop (xf_if_eq 56))), (44, .inl (xop (xf_aload 0 1))), (45, .inl (xop (xf_getf 11 1))), (48, .inl (xop (xf_getf 10 12))), (51, .inl (xop (xf_push (.int 24) 2))), (53, .inl (xop (xf_icmp_lt 58))), (56, .inl (xop (xf_push (.int (-1)) 1))), (57, .inr (.inr 1)), (58, .inl (xop (xf_aload 0 1))), (59, .inl (xop (xf_getf 11 1))), (62, .inl (xop (xf_getf 10 11))), (65, .inl (xop (xf_aload 0 1))), (66, .inl (xop (xf_getf 11 1))), (69, .inl (xop (xf_getf 10 12))), (72, .inl (xo_new 1 11 [.int 0, .int 0, .int 0, .int 0, .int 0, .int 0, .int 0, .int 0, .int 0, .int 0, .null])), (75, .inl (xop xf_dup)), (76, .inl (xop (xf_iload 1 1))), (77, .inl (xop (xf_iload 2 1))), (78, .inl (xop (xf_iload 3 1))), (79, .inl (xop (xf_iload 4 2)))]
set_option maxRecDepth 20000 in
theorem okpX11_flight_1 (ev : xEv) : ∀ q ∈ pX11_flight_1 ev, xEnOK ev xmi yX11_flight.cls yX11_flight.name cX11_flight 5 (some .int) q :=
  List.forall_mem_cons.mpr ⟨(xOK_pure (xs_if_eq (show decode cX11_flight 41 = .ok (.ifCond .eq 15, 3) by decide +kernel) (by decide))),
  List.forall_mem_cons.mpr ⟨(xOK_pure (xs_aload_n (k := 0) rfl (show decode cX11_flight 44 = .ok (.aload_n 0, 1) by decide +kernel))),
  List.forall_mem_cons.mpr ⟨(xOK_pure (xs_getf xcl_11 (by decide) (show decode cX11_flight 45 = .ok (.getfield 21, 3) by decide +kernel) xw_447)),
  List.forall_mem_cons.mpr ⟨(xOK_pure (xs_getf xcl_10 (by decide) (show decode cX11_flight 48 = .ok (.getfield 282, 3) by decide +kernel) xw_327)),
  List.forall_mem_cons.mpr ⟨(xOK_pure (xs_bipush (n := 24) (show decode cX11_flight 51 = .ok (.bipush 24, 2) by decide +kernel) (by decide))),
  List.forall_mem_cons.mpr ⟨(xOK_pure (xs_icmp_lt (show decode cX11_flight 53 = .ok (.if_icmp .lt 5, 3) by decide +kernel) (by decide))),
  List.forall_mem_cons.mpr ⟨(xOK_pure (xs_iconst (n := (-1)) (show decode cX11_flight 56 = .ok (.iconst (-1), 1) by decide +kernel) (by decide))),
  List.forall_mem_cons.mpr ⟨(Or.inr (Or.inl ⟨rfl, (show decode cX11_flight 57 = .ok (.ireturn, 1) by decide +kernel), rfl⟩)),
  List.forall_mem_cons.mpr ⟨(xOK_pure (xs_aload_n (k := 0) rfl (show decode cX11_flight 58 = .ok (.aload_n 0, 1) by decide +kernel))),
  List.forall_mem_cons.mpr ⟨(xOK_pure (xs_getf xcl_11 (by decide) (show decode cX11_flight 59 = .ok (.getfield 21, 3) by decide +kernel) xw_447)),
  List.forall_mem_cons.mpr ⟨(xOK_pure (xs_getf xcl_10 (by decide) (show decode cX11_flight 62 = .ok (.getfield 285, 3) by decide +kernel) xw_325)),
  List.forall_mem_cons.mpr ⟨(xOK_pure (xs_aload_n (k := 0) rfl (show decode cX11_flight 65 = .ok (.aload_n 0, 1) by decide +kernel))),
  List.forall_mem_cons.mpr ⟨(xOK_pure (xs_getf xcl_11 (by decide) (show decode cX11_flight 66 = .ok (.getfield 21, 3) by decide +kernel) xw_447)),
  List.forall_mem_cons.mpr ⟨(xOK_pure (xs_getf xcl_10 (by decide) (show decode cX11_flight 69 = .ok (.getfield 282, 3) by decide +kernel) xw_327)),
  List.forall_mem_cons.mpr ⟨(xs_new xcl_1 (by decide +kernel) (show decode cX11_flight 72 = .ok (.new 289, 3) by decide +kernel) xw_1041 xw_1042 xw_141),
  List.forall_mem_cons.mpr ⟨(xOK_pure (xs_dup (show decode cX11_flight 75 = .ok (.dup, 1) by decide +kernel))),
  List.forall_mem_cons.mpr ⟨(xOK_pure (xs_iload_n (k := 1) rfl (show decode cX11_flight 76 = .ok (.iload_n 1, 1) by decide +kernel))),
  List.forall_mem_cons.mpr ⟨(xOK_pure (xs_iload_n (k := 2) rfl (show decode cX11_flight 77 = .ok (.iload_n 2, 1) by decide +kernel))),
  List.forall_mem_cons.mpr ⟨(xOK_pure (xs_iload_n (k := 3) rfl (show decode cX11_flight 78 = .ok (.iload_n 3, 1) by decide +kernel))),
  List.forall_mem_cons.mpr ⟨(xOK_pure (xs_iload (show decode cX11_flight 79 = .ok (.iload 4, 2) by decide +kernel))),
  (fun _ h => absurd h List.not_mem_nil)⟩⟩⟩⟩⟩⟩⟩⟩⟩⟩⟩⟩⟩⟩⟩⟩⟩⟩⟩⟩
def pX11_flight_2 (ev : xEv) : List (Nat × xEn) := [(81, .inr (.inl (2, 10, 4, 1))), (84, .inl (xo_aast (ev.1 8) 1)), (85, .inl (xop (xf_aload 0 1))), (86, .inl (xop (xf_getf 11 1))), (89, .inl (xop xf_dup)), (90, .inl (xop (xf_getf 10 12))), (93, .inl (xop xf_dupx1)), (94, .inl (xop (xf_push (.int 1) 1))), (95, .inl (xop (xf_bin (fun x y => x + y)))), (96, .inl (xo_putf 10 12 .int)), (99, .inr (.inr 1))]
set_option maxRecDepth 20000 in
theorem okpX11_flight_2 (ev : xEv) : ∀ q ∈ pX11_flight_2 ev, xEnOK ev xmi yX11_flight.cls yX11_flight.name cX11_flight 5 (some .int) q :=
  List.forall_mem_cons.mpr ⟨(xcm mi_10 ⟨⟨(by decide +kernel), (by decide +kernel), (by decide +kernel)⟩, (by decide), xw_1045, xw_141, Or.inr (Or.inr (Or.inl ⟨rfl, _, (show decode cX11_flight 81 = .ok (.invokespecial 291, 3) by decide +kernel), rfl, xw_1043, xw_1044, rfl⟩))⟩),
  List.forall_mem_cons.mpr ⟨(xs_aast (t := 8) (ci := 1) (r0 := (RX1, TX1, 11)) rfl rfl (show decode cX11_flight 84 = .ok (.aastore, 1) by decide +kernel)),
  List.forall_mem_cons.mpr ⟨(xOK_pure (xs_aload_n (k := 0) rfl (show decode cX11_flight 85 = .ok (.aload_n 0, 1) by decide +kernel))),
  List.forall_mem_cons.mpr ⟨(xOK_pure (xs_getf xcl_11 (by decide) (show decode cX11_flight 86 = .ok (.getfield 21, 3) by decide +kernel) xw_447)),
  List.forall_mem_cons.mpr ⟨(xOK_pure (xs_dup (show decode cX11_flight 89 = .ok (.dup, 1) by decide +kernel))),
  List.forall_mem_cons.mpr ⟨(xOK_pure (xs_getf xcl_10 (by decide) (show decode cX11_flight 90 = .ok (.getfield 282, 3) by decide +kernel) xw_327)),
  List.forall_mem_cons.mpr ⟨(xOK_pure (xs_dupx1 (show decode cX11_flight 93 = .ok (.dup_x1, 1) by decide +kernel))),
  List.forall_mem_cons.mpr ⟨(xOK_pure (xs_iconst (n := 1) (show decode cX11_flight 94 = .ok (.iconst 1, 1) by decide +kernel) (by decide))),
  List.forall_mem_cons.mpr ⟨(xOK_pure (xs_iadd (show decode cX11_flight 95 = .ok (.iadd, 1) by decide +kernel))),
  List.forall_mem_cons.mpr ⟨(xs_putf (k := 12) xcl_10 (by decide) rfl (show decode cX11_flight 96 = .ok (.putfield 282, 3) by decide +kernel) xw_327),
  List.forall_mem_cons.mpr ⟨(Or.inr (Or.inl ⟨rfl, (show decode cX11_flight 99 = .ok (.ireturn, 1) by decide +kernel), rfl⟩)),
  (fun _ h => absurd h List.not_mem_nil)⟩⟩⟩⟩⟩⟩⟩⟩⟩⟩⟩
def pX11_flight (ev : xEv) : List (Nat × xEn) := pX11_flight_0 ev ++ (pX11_flight_1 ev ++ (pX11_flight_2 ev))
theorem okpX11_flight (ev : xEv) : ∀ q ∈ pX11_flight ev, xEnOK ev xmi yX11_flight.cls yX11_flight.name cX11_flight 5 (some .int) q := List.forall_mem_append.mpr ⟨okpX11_flight_0 ev, List.forall_mem_append.mpr ⟨okpX11_flight_1 ev, okpX11_flight_2 ev⟩⟩
theorem omX11_flight (ev : xEv) : xMethOK ev xmi yX11_flight.cls yX11_flight.name 148 (pX11_flight ev) := xMethOK.of mi_148 (by decide +kernel) (okpX11_flight ev)
def pX11_cancel_0 (ev : xEv) : List (Nat × xEn) := [(0, .inl (xop (xf_aload 0 1))), (1, .inl (xop (xf_iload 1 1))), (2, .inr (.inl (0, 178, 1, 11))), (5, .inl (xop (xf_if_eq 23))), (8, .inl (xop (xf_aload 0 1))), (9, .inl (xop (xf_getf 11 1))), (12, .inl (xop (xf_getf 10 11))), (15, .inl (xop (xf_iload 1 1))), (16, .inl (xop (xf_aald (ev.1 8)))), (17, .inr (.inl (0, 11, 0, 1))), (20, .inl (xop (xf_if_ne 25))), (23, .inl (xop (xf_push (.int 0) 1))), (24, .inr (.inr 4)), (25, .inl (xop (xf_aload 0 1))), (26, .inl (xop (xf_getf 11 1))), (29, .inl (xop (xf_getf 10 11))), (32, .inl (xop (xf_iload 1 1))), (33, .inl (xop (xf_aald (ev.1 8)))), (34, .inl (xop (xf_push (.int 3) 1))), (35, .inl (xop (xf_aload 0 1)))]
set_option maxRecDepth 20000 in
theorem okpX11_cancel_0 (ev : xEv) : ∀ q ∈ pX11_cancel_0 ev, xEnOK ev xmi yX11_cancel.cls yX11_cancel.name cX11_cancel 2 (some .boolean) q :=
  List.forall_mem_cons.mpr ⟨(xOK_pure (xs_aload_n (k := 0) rfl (show decode cX11_cancel 0 = .ok (.aload_n 0, 1) by decide +kernel))),
  List.forall_mem_cons.mpr ⟨(xOK_pure (xs_iload_n (k := 1) rfl (show decode cX11_cancel 1 = .ok (.iload_n 1, 1) by decide +kernel))),
  List.forall_mem_cons.mpr ⟨(xcm mi_178 ⟨⟨(by decide +kernel), (by decide +kernel), (by decide +kernel)⟩, (by decide), xw_1102, xw_118, Or.inl ⟨rfl, _, _, _, _, (show decode cX11_cancel 2 = .ok (.invokevirtual 294, 3) by decide +kernel), xw_1099, xw_1101, xw_24, rfl⟩⟩),
  List.forall_mem_cons.mpr ⟨(xOK_pure (xs_if_eq (show decode cX11_cancel 5 = .ok (.ifCond .eq 18, 3) by decide +kernel) (by decide))),
  List.forall_mem_cons.mpr ⟨(xOK_pure (xs_aload_n (k := 0) rfl (show decode cX11_cancel 8 = .ok (.aload_n 0, 1) by decide +kernel))),
  List.forall_mem_cons.mpr ⟨(xOK_pure (xs_getf xcl_11 (by decide) (show decode cX11_cancel 9 = .ok (.getfield 21, 3) by decide +kernel) xw_447)),
  List.forall_mem_cons.mpr ⟨(xOK_pure (xs_getf xcl_10 (by decide) (show decode cX11_cancel 12 = .ok (.getfield 285, 3) by decide +kernel) xw_325)),
  List.forall_mem_cons.mpr ⟨(xOK_pure (xs_iload_n (k := 1) rfl (show decode cX11_cancel 15 = .ok (.iload_n 1, 1) by decide +kernel))),
  List.forall_mem_cons.mpr ⟨(xOK_pure (xs_aald (t := 8) rfl (show decode cX11_cancel 16 = .ok (.aaload, 1) by decide +kernel))),
  List.forall_mem_cons.mpr ⟨(xcm mi_11 ⟨⟨(by decide +kernel), (by decide +kernel), (by decide +kernel)⟩, (by decide), xw_1106, xw_141, Or.inl ⟨rfl, _, _, _, _, (show decode cX11_cancel 17 = .ok (.invokevirtual 297, 3) by decide +kernel), xw_1103, xw_1104, xw_1105, rfl⟩⟩),
  List.forall_mem_cons.mpr ⟨(xOK_pure (xs_if_ne (show decode cX11_cancel 20 = .ok (.ifCond .ne 5, 3) by decide +kernel) (by decide))),
  List.forall_mem_cons.mpr ⟨(xOK_pure (xs_iconst (n := 0) (show decode cX11_cancel 23 = .ok (.iconst 0, 1) by decide +kernel) (by decide))),
  List.forall_mem_cons.mpr ⟨(Or.inr (Or.inr (Or.inr (Or.inr (Or.inl ⟨rfl, (show decode cX11_cancel 24 = .ok (.ireturn, 1) by decide +kernel), rfl⟩))))),
  List.forall_mem_cons.mpr ⟨(xOK_pure (xs_aload_n (k := 0) rfl (show decode cX11_cancel 25 = .ok (.aload_n 0, 1) by decide +kernel))),
  List.forall_mem_cons.mpr ⟨(xOK_pure (xs_getf xcl_11 (by decide) (show decode cX11_cancel 26 = .ok (.getfield 21, 3) by decide +kernel) xw_447)),
  List.forall_mem_cons.mpr ⟨(xOK_pure (xs_getf xcl_10 (by decide) (show decode cX11_cancel 29 = .ok (.getfield 285, 3) by decide +kernel) xw_325)),
  List.forall_mem_cons.mpr ⟨(xOK_pure (xs_iload_n (k := 1) rfl (show decode cX11_cancel 32 = .ok (.iload_n 1, 1) by decide +kernel))),
  List.forall_mem_cons.mpr ⟨(xOK_pure (xs_aald (t := 8) rfl (show decode cX11_cancel 33 = .ok (.aaload, 1) by decide +kernel))),
  List.forall_mem_cons.mpr ⟨(xOK_pure (xs_iconst (n := 3) (show decode cX11_cancel 34 = .ok (.iconst 3, 1) by decide +kernel) (by decide))),
  List.forall_mem_cons.mpr ⟨(xOK_pure (xs_aload_n (k := 0) rfl (show decode cX11_cancel 35 = .ok (.aload_n 0, 1) by decide +kernel))),
  (fun _ h => absurd h List.not_mem_nil)⟩⟩⟩⟩⟩⟩⟩⟩⟩⟩⟩⟩⟩⟩⟩⟩⟩⟩⟩⟩
def pX11_cancel_1 (ev : xEv) : List (Nat × xEn) := [(36, .inl (xop (xf_getf 11 1))), (39, .inl (xop (xf_getf 10 13))), (42, .inr (.inl (0, 13, 2, 1))), (45, .inl (xop (xf_push (.int 1) 1))), (46, .inr (.inr 4))]
set_option maxRecDepth 20000 in
theorem okpX11_cancel_1 (ev : xEv) : ∀ q ∈ pX11_cancel_1 ev, xEnOK ev xmi yX11_cancel.cls yX11_cancel.name cX11_cancel 2 (some .boolean) q :=
  List.forall_mem_cons.mpr ⟨(xOK_pure (xs_getf xcl_11 (by decide) (show decode cX11_cancel 36 = .ok (.getfield 21, 3) by decide +kernel) xw_447)),
  List.forall_mem_cons.mpr ⟨(xOK_pure (xs_getf xcl_10 (by decide) (show decode cX11_cancel 39 = .ok (.getfield 128, 3) by decide +kernel) xw_330)),
  List.forall_mem_cons.mpr ⟨(xcm mi_13 ⟨⟨(by decide +kernel), (by decide +kernel), (by decide +kernel)⟩, (by decide), xw_1110, xw_141, Or.inl ⟨rfl, _, _, _, _, (show decode cX11_cancel 42 = .ok (.invokevirtual 300, 3) by decide +kernel), xw_1107, xw_1108, xw_1109, rfl⟩⟩),
  List.forall_mem_cons.mpr ⟨(xOK_pure (xs_iconst (n := 1) (show decode cX11_cancel 45 = .ok (.iconst 1, 1) by decide +kernel) (by decide))),
  List.forall_mem_cons.mpr ⟨(Or.inr (Or.inr (Or.inr (Or.inr (Or.inl ⟨rfl, (show decode cX11_cancel 46 = .ok (.ireturn, 1) by decide +kernel), rfl⟩))))),
  (fun _ h => absurd h List.not_mem_nil)⟩⟩⟩⟩⟩
def pX11_cancel (ev : xEv) : List (Nat × xEn) := pX11_cancel_0 ev ++ (pX11_cancel_1 ev)
theorem okpX11_cancel (ev : xEv) : ∀ q ∈ pX11_cancel ev, xEnOK ev xmi yX11_cancel.cls yX11_cancel.name cX11_cancel 2 (some .boolean) q := List.forall_mem_append.mpr ⟨okpX11_cancel_0 ev, okpX11_cancel_1 ev⟩
theorem omX11_cancel (ev : xEv) : xMethOK ev xmi yX11_cancel.cls yX11_cancel.name 149 (pX11_cancel ev) := xMethOK.of mi_149 (by decide +kernel) (okpX11_cancel ev)
def pX11_step_0 (ev : xEv) : List (Nat × xEn) := [(0, .inl (xop (xf_iload 1 1))), (1, .inl (xop (xf_push (.int 0) 1))), (2, .inl (xop (xf_push (.int 400) 3))), (5, .inr (.inl (1, 183, 3, 11))), (8, .inl (xop (xf_if_eq 26))), (11, .inl (xop (xf_aload 0 1))), (12, .inl (xop (xf_getf 11 1))), (15, .inl (xop (xf_getf 10 13))), (18, .inl (xop (xf_iload 1 1))), (19, .inl (xop (xf_bin (fun x y => x + y)))), (20, .inl (xop (xf_push (.int 3000) 3))), (23, .inl (xop (xf_icmp_le 28))), (26, .inl (xop (xf_push (.int (-1)) 1))), (27, .inr (.inr 1)), (28, .inl (xop (xf_aload 0 1))), (29, .inl (xop (xf_getf 11 1))), (32, .inl (xop (xf_iload 1 1))), (33, .inr (.inl (0, 97, 1, 10))), (36, .inl (xop (xf_aload 0 1))), (37, .inl (xop (xf_getf 11 1)))]
set_option maxRecDepth 20000 in
theorem okpX11_step_0 (ev : xEv) : ∀ q ∈ pX11_step_0 ev, xEnOK ev xmi yX11_step.cls yX11_step.name cX11_step 2 (some .int) q :=
  List.forall_mem_cons.mpr ⟨(xOK_pure (xs_iload_n (k := 1) rfl (show decode cX11_step 0 = .ok (.iload_n 1, 1) by decide +kernel))),
  List.forall_mem_cons.mpr ⟨(xOK_pure (xs_iconst (n := 0) (show decode cX11_step 1 = .ok (.iconst 0, 1) by decide +kernel) (by decide))),
  List.forall_mem_cons.mpr ⟨(xOK_pure (xs_sipush (n := 400) (show decode cX11_step 2 = .ok (.sipush 400, 3) by decide +kernel) (by decide))),
  List.forall_mem_cons.mpr ⟨(xcm mi_183 ⟨⟨(by decide +kernel), (by decide +kernel), (by decide +kernel)⟩, (by decide), xw_480, xw_118, Or.inr (Or.inl ⟨rfl, _, (show decode cX11_step 5 = .ok (.invokestatic 52, 3) by decide +kernel), xw_478, xw_479⟩)⟩),
  List.forall_mem_cons.mpr ⟨(xOK_pure (xs_if_eq (show decode cX11_step 8 = .ok (.ifCond .eq 18, 3) by decide +kernel) (by decide))),
  List.forall_mem_cons.mpr ⟨(xOK_pure (xs_aload_n (k := 0) rfl (show decode cX11_step 11 = .ok (.aload_n 0, 1) by decide +kernel))),
  List.forall_mem_cons.mpr ⟨(xOK_pure (xs_getf xcl_11 (by decide) (show decode cX11_step 12 = .ok (.getfield 21, 3) by decide +kernel) xw_447)),
  List.forall_mem_cons.mpr ⟨(xOK_pure (xs_getf xcl_10 (by decide) (show decode cX11_step 15 = .ok (.getfield 128, 3) by decide +kernel) xw_330)),
  List.forall_mem_cons.mpr ⟨(xOK_pure (xs_iload_n (k := 1) rfl (show decode cX11_step 18 = .ok (.iload_n 1, 1) by decide +kernel))),
  List.forall_mem_cons.mpr ⟨(xOK_pure (xs_iadd (show decode cX11_step 19 = .ok (.iadd, 1) by decide +kernel))),
  List.forall_mem_cons.mpr ⟨(xOK_pure (xs_sipush (n := 3000) (show decode cX11_step 20 = .ok (.sipush 3000, 3) by decide +kernel) (by decide))),
  List.forall_mem_cons.mpr ⟨(xOK_pure (xs_icmp_le (show decode cX11_step 23 = .ok (.if_icmp .le 5, 3) by decide +kernel) (by decide))),
  List.forall_mem_cons.mpr ⟨(xOK_pure (xs_iconst (n := (-1)) (show decode cX11_step 26 = .ok (.iconst (-1), 1) by decide +kernel) (by decide))),
  List.forall_mem_cons.mpr ⟨(Or.inr (Or.inl ⟨rfl, (show decode cX11_step 27 = .ok (.ireturn, 1) by decide +kernel), rfl⟩)),
  List.forall_mem_cons.mpr ⟨(xOK_pure (xs_aload_n (k := 0) rfl (show decode cX11_step 28 = .ok (.aload_n 0, 1) by decide +kernel))),
  List.forall_mem_cons.mpr ⟨(xOK_pure (xs_getf xcl_11 (by decide) (show decode cX11_step 29 = .ok (.getfield 21, 3) by decide +kernel) xw_447)),
  List.forall_mem_cons.mpr ⟨(xOK_pure (xs_iload_n (k := 1) rfl (show decode cX11_step 32 = .ok (.iload_n 1, 1) by decide +kernel))),
  List.forall_mem_cons.mpr ⟨(xcm mi_97 ⟨⟨(by decide +kernel), (by decide +kernel), (by decide +kernel)⟩, (by decide), xw_1118, xw_120, Or.inl ⟨rfl, _, _, _, _, (show decode cX11_step 33 = .ok (.invokevirtual 303, 3) by decide +kernel), xw_1115, xw_1116, xw_1117, rfl⟩⟩),
  List.forall_mem_cons.mpr ⟨(xOK_pure (xs_aload_n (k := 0) rfl (show decode cX11_step 36 = .ok (.aload_n 0, 1) by decide +kernel))),
  List.forall_mem_cons.mpr ⟨(xOK_pure (xs_getf xcl_11 (by decide) (show decode cX11_step 37 = .ok (.getfield 21, 3) by decide +kernel) xw_447)),
  (fun _ h => absurd h List.not_mem_nil)⟩⟩⟩⟩⟩⟩⟩⟩⟩⟩⟩⟩⟩⟩⟩⟩⟩⟩⟩⟩
def pX11_step_1 (ev : xEv) : List (Nat × xEn) := [(40, .inl (xop (xf_getf 10 13))), (43, .inr (.inr 1))]
set_option maxRecDepth 20000 in
theorem okpX11_step_1 (ev : xEv) : ∀ q ∈ pX11_step_1 ev, xEnOK ev xmi yX11_step.cls yX11_step.name cX11_step 2 (some .int) q :=
  List.forall_mem_cons.mpr ⟨(xOK_pure (xs_getf xcl_10 (by decide) (show decode cX11_step 40 = .ok (.getfield 128, 3) by decide +kernel) xw_330)),
  List.forall_mem_cons.mpr ⟨(Or.inr (Or.inl ⟨rfl, (show decode cX11_step 43 = .ok (.ireturn, 1) by decide +kernel), rfl⟩)),
  (fun _ h => absurd h List.not_mem_nil)⟩⟩
def pX11_step (ev : xEv) : List (Nat × xEn) := pX11_step_0 ev ++ (pX11_step_1 ev)
theorem okpX11_step (ev : xEv) : ∀ q ∈ pX11_step ev, xEnOK ev xmi yX11_step.cls yX11_step.name cX11_step 2 (some .int) q := List.forall_mem_append.mpr ⟨okpX11_step_0 ev, okpX11_step_1 ev⟩
theorem omX11_step (ev : xEv) : xMethOK ev xmi yX11_step.cls yX11_step.name 150 (pX11_step ev) := xMethOK.of mi_150 (by decide +kernel) (okpX11_step ev)
def pX11_may_0 (ev : xEv) : List (Nat × xEn) := [(0, .inl (xop (xf_aload 0 1))), (1, .inl (xop (xf_iload 1 1))), (2, .inr (.inl (0, 178, 1, 11))), (5, .inl (xop (xf_if_eq 23))), (8, .inl (xop (xf_aload 0 1))), (9, .inl (xop (xf_getf 11 1))), (12, .inl (xop (xf_getf 10 11))), (15, .inl (xop (xf_iload 1 1))), (16, .inl (xop (xf_aald (ev.1 8)))), (17, .inr (.inl (0, 11, 0, 1))), (20, .inl (xop (xf_if_ne 25))), (23, .inl (xop (xf_push (.int (-1)) 1))), (24, .inr (.inr 1)), (25, .inl (xop (xf_aload 0 1))), (26, .inl (xop (xf_getf 11 1))), (29, .inl (xop (xf_aload 0 1))), (30, .inl (xop (xf_getf 11 1))), (33, .inl (xop (xf_getf 10 11))), (36, .inl (xop (xf_iload 1 1))), (37, .inl (xop (xf_aald (ev.1 8))))]
set_option maxRecDepth 20000 in
theorem okpX11_may_0 (ev : xEv) : ∀ q ∈ pX11_may_0 ev, xEnOK ev xmi yX11_may.cls yX11_may.name cX11_may 3 (some .int) q :=
  List.forall_mem_cons.mpr ⟨(xOK_pure (xs_aload_n (k := 0) rfl (show decode cX11_may 0 = .ok (.aload_n 0, 1) by decide +kernel))),
  List.forall_mem_cons.mpr ⟨(xOK_pure (xs_iload_n (k := 1) rfl (show decode cX11_may 1 = .ok (.iload_n 1, 1) by decide +kernel))),
  List.forall_mem_cons.mpr ⟨(xcm mi_178 ⟨⟨(by decide +kernel), (by decide +kernel), (by decide +kernel)⟩, (by decide), xw_1102, xw_118, Or.inl ⟨rfl, _, _, _, _, (show decode cX11_may 2 = .ok (.invokevirtual 294, 3) by decide +kernel), xw_1099, xw_1101, xw_24, rfl⟩⟩),
  List.forall_mem_cons.mpr ⟨(xOK_pure (xs_if_eq (show decode cX11_may 5 = .ok (.ifCond .eq 18, 3) by decide +kernel) (by decide))),
  List.forall_mem_cons.mpr ⟨(xOK_pure (xs_aload_n (k := 0) rfl (show decode cX11_may 8 = .ok (.aload_n 0, 1) by decide +kernel))),
  List.forall_mem_cons.mpr ⟨(xOK_pure (xs_getf xcl_11 (by decide) (show decode cX11_may 9 = .ok (.getfield 21, 3) by decide +kernel) xw_447)),
  List.forall_mem_cons.mpr ⟨(xOK_pure (xs_getf xcl_10 (by decide) (show decode cX11_may 12 = .ok (.getfield 285, 3) by decide +kernel) xw_325)),
  List.forall_mem_cons.mpr ⟨(xOK_pure (xs_iload_n (k := 1) rfl (show decode cX11_may 15 = .ok (.iload_n 1, 1) by decide +kernel))),
  List.forall_mem_cons.mpr ⟨(xOK_pure (xs_aald (t := 8) rfl (show decode cX11_may 16 = .ok (.aaload, 1) by decide +kernel))),
  List.forall_mem_cons.mpr ⟨(xcm mi_11 ⟨⟨(by decide +kernel), (by decide +kernel), (by decide +kernel)⟩, (by decide), xw_1106, xw_141, Or.inl ⟨rfl, _, _, _, _, (show decode cX11_may 17 = .ok (.invokevirtual 297, 3) by decide +kernel), xw_1103, xw_1104, xw_1105, rfl⟩⟩),
  List.forall_mem_cons.mpr ⟨(xOK_pure (xs_if_ne (show decode cX11_may 20 = .ok (.ifCond .ne 5, 3) by decide +kernel) (by decide))),
  List.forall_mem_cons.mpr ⟨(xOK_pure (xs_iconst (n := (-1)) (show decode cX11_may 23 = .ok (.iconst (-1), 1) by decide +kernel) (by decide))),
  List.forall_mem_cons.mpr ⟨(Or.inr (Or.inl ⟨rfl, (show decode cX11_may 24 = .ok (.ireturn, 1) by decide +kernel), rfl⟩)),
  List.forall_mem_cons.mpr ⟨(xOK_pure (xs_aload_n (k := 0) rfl (show decode cX11_may 25 = .ok (.aload_n 0, 1) by decide +kernel))),
  List.forall_mem_cons.mpr ⟨(xOK_pure (xs_getf xcl_11 (by decide) (show decode cX11_may 26 = .ok (.getfield 21, 3) by decide +kernel) xw_447)),
  List.forall_mem_cons.mpr ⟨(xOK_pure (xs_aload_n (k := 0) rfl (show decode cX11_may 29 = .ok (.aload_n 0, 1) by decide +kernel))),
  List.forall_mem_cons.mpr ⟨(xOK_pure (xs_getf xcl_11 (by decide) (show decode cX11_may 30 = .ok (.getfield 21, 3) by decide +kernel) xw_447)),
  List.forall_mem_cons.mpr ⟨(xOK_pure (xs_getf xcl_10 (by decide) (show decode cX11_may 33 = .ok (.getfield 285, 3) by decide +kernel) xw_325)),
  List.forall_mem_cons.mpr ⟨(xOK_pure (xs_iload_n (k := 1) rfl (show decode cX11_may 36 = .ok (.iload_n 1, 1) by decide +kernel))),
  List.forall_mem_cons.mpr ⟨(xOK_pure (xs_aald (t := 8) rfl (show decode cX11_may 37 = .ok (.aaload, 1) by decide +kernel))),
  (fun _ h => absurd h List.not_mem_nil)⟩⟩⟩⟩⟩⟩⟩⟩⟩⟩⟩⟩⟩⟩⟩⟩⟩⟩⟩⟩
def pX11_may_1 (ev : xEv) : List (Nat × xEn) := [(38, .inr (.inl (0, 102, 1, 10))), (41, .inl (xop (xf_istore 2 1))), (42, .inl (xop (xf_iload 2 1))), (43, .inl (xop (xf_if_eq 48))), (46, .inl (xop (xf_iload 2 1))), (47, .inr (.inr 1)), (48, .inl (xop (xf_aload 0 1))), (49, .inl (xop (xf_getf 11 1))), (52, .inl (xop (xf_aload 0 1))), (53, .inl (xop (xf_getf 11 1))), (56, .inl (xop (xf_getf 10 11))), (59, .inl (xop (xf_iload 1 1))), (60, .inl (xop (xf_aald (ev.1 8)))), (61, .inr (.inl (0, 104, 1, 10))), (64, .inl (xop (xf_push (.int 71) 2))), (66, .inl (xop (xf_icmp_ne 73))), (69, .inl (xop (xf_push (.int 0) 1))), (70, .inl (xop (xf_goto 75))), (73, .inl (xop (xf_push (.int 7) 2))), (75, .inr (.inr 1))]
set_option maxRecDepth 20000 in
theorem okpX11_may_1 (ev : xEv) : ∀ q ∈ pX11_may_1 ev, xEnOK ev xmi yX11_may.cls yX11_may.name cX11_may 3 (some .int) q :=
  List.forall_mem_cons.mpr ⟨(xcm mi_102 ⟨⟨(by decide +kernel), (by decide +kernel), (by decide +kernel)⟩, (by decide), xw_1147, xw_120, Or.inl ⟨rfl, _, _, _, _, (show decode cX11_may 38 = .ok (.invokevirtual 307, 3) by decide +kernel), xw_1298, xw_1145, xw_1146, rfl⟩⟩),
  List.forall_mem_cons.mpr ⟨(xOK_pure (xs_istore_n (k := 2) rfl (show decode cX11_may 41 = .ok (.istore_n 2, 1) by decide +kernel) (by decide))),
  List.forall_mem_cons.mpr ⟨(xOK_pure (xs_iload_n (k := 2) rfl (show decode cX11_may 42 = .ok (.iload_n 2, 1) by decide +kernel))),
  List.forall_mem_cons.mpr ⟨(xOK_pure (xs_if_eq (show decode cX11_may 43 = .ok (.ifCond .eq 5, 3) by decide +kernel) (by decide))),
  List.forall_mem_cons.mpr ⟨(xOK_pure (xs_iload_n (k := 2) rfl (show decode cX11_may 46 = .ok (.iload_n 2, 1) by decide +kernel))),
  List.forall_mem_cons.mpr ⟨(Or.inr (Or.inl ⟨rfl, (show decode cX11_may 47 = .ok (.ireturn, 1) by decide +kernel), rfl⟩)),
  List.forall_mem_cons.mpr ⟨(xOK_pure (xs_aload_n (k := 0) rfl (show decode cX11_may 48 = .ok (.aload_n 0, 1) by decide +kernel))),
  List.forall_mem_cons.mpr ⟨(xOK_pure (xs_getf xcl_11 (by decide) (show decode cX11_may 49 = .ok (.getfield 21, 3) by decide +kernel) xw_447)),
  List.forall_mem_cons.mpr ⟨(xOK_pure (xs_aload_n (k := 0) rfl (show decode cX11_may 52 = .ok (.aload_n 0, 1) by decide +kernel))),
  List.forall_mem_cons.mpr ⟨(xOK_pure (xs_getf xcl_11 (by decide) (show decode cX11_may 53 = .ok (.getfield 21, 3) by decide +kernel) xw_447)),
  List.forall_mem_cons.mpr ⟨(xOK_pure (xs_getf xcl_10 (by decide) (show decode cX11_may 56 = .ok (.getfield 285, 3) by decide +kernel) xw_325)),
  List.forall_mem_cons.mpr ⟨(xOK_pure (xs_iload_n (k := 1) rfl (show decode cX11_may 59 = .ok (.iload_n 1, 1) by decide +kernel))),
  List.forall_mem_cons.mpr ⟨(xOK_pure (xs_aald (t := 8) rfl (show decode cX11_may 60 = .ok (.aaload, 1) by decide +kernel))),
  List.forall_mem_cons.mpr ⟨(xcm mi_104 ⟨⟨(by decide +kernel), (by decide +kernel), (by decide +kernel)⟩, (by decide), xw_1163, xw_120, Or.inl ⟨rfl, _, _, _, _, (show decode cX11_may 61 = .ok (.invokevirtual 311, 3) by decide +kernel), xw_1299, xw_1161, xw_1162, rfl⟩⟩),
  List.forall_mem_cons.mpr ⟨(xOK_pure (xs_bipush (n := 71) (show decode cX11_may 64 = .ok (.bipush 71, 2) by decide +kernel) (by decide))),
  List.forall_mem_cons.mpr ⟨(xOK_pure (xs_icmp_ne (show decode cX11_may 66 = .ok (.if_icmp .ne 7, 3) by decide +kernel) (by decide))),
  List.forall_mem_cons.mpr ⟨(xOK_pure (xs_iconst (n := 0) (show decode cX11_may 69 = .ok (.iconst 0, 1) by decide +kernel) (by decide))),
  List.forall_mem_cons.mpr ⟨(xOK_pure (xs_goto (show decode cX11_may 70 = .ok (.goto 5, 3) by decide +kernel) (by decide))),
  List.forall_mem_cons.mpr ⟨(xOK_pure (xs_bipush (n := 7) (show decode cX11_may 73 = .ok (.bipush 7, 2) by decide +kernel) (by decide))),
  List.forall_mem_cons.mpr ⟨(Or.inr (Or.inl ⟨rfl, (show decode cX11_may 75 = .ok (.ireturn, 1) by decide +kernel), rfl⟩)),
  (fun _ h => absurd h List.not_mem_nil)⟩⟩⟩⟩⟩⟩⟩⟩⟩⟩⟩⟩⟩⟩⟩⟩⟩⟩⟩⟩
def pX11_may (ev : xEv) : List (Nat × xEn) := pX11_may_0 ev ++ (pX11_may_1 ev)
theorem okpX11_may (ev : xEv) : ∀ q ∈ pX11_may ev, xEnOK ev xmi yX11_may.cls yX11_may.name cX11_may 3 (some .int) q := List.forall_mem_append.mpr ⟨okpX11_may_0 ev, okpX11_may_1 ev⟩
theorem omX11_may (ev : xEv) : xMethOK ev xmi yX11_may.cls yX11_may.name 151 (pX11_may ev) := xMethOK.of mi_151 (by decide +kernel) (okpX11_may ev)
def pX11_why_0 (ev : xEv) : List (Nat × xEn) := [(0, .inl (xop (xf_aload 0 1))), (1, .inl (xop (xf_iload 1 1))), (2, .inr (.inl (0, 178, 1, 11))), (5, .inl (xop (xf_if_eq 17))), (8, .inl (xop (xf_iload 2 1))), (9, .inl (xop (xf_push (.int 0) 1))), (10, .inl (xop (xf_push (.int 1) 1))), (11, .inr (.inl (1, 183, 3, 11))), (14, .inl (xop (xf_if_ne 19))), (17, .inl (xop (xf_push (.int (-1)) 1))), (18, .inr (.inr 1)), (19, .inl (xop (xf_aload 0 1))), (20, .inl (xop (xf_getf 11 1))), (23, .inl (xop (xf_getf 10 11))), (26, .inl (xop (xf_iload 1 1))), (27, .inl (xop (xf_aald (ev.1 8)))), (28, .inl (xop (xf_astore 3 1))), (29, .inl (xop (xf_iload 2 1))), (30, .inl (xop (xf_if_ne 40))), (33, .inl (xop (xf_aload 3 1)))]
set_option maxRecDepth 20000 in
theorem okpX11_why_0 (ev : xEv) : ∀ q ∈ pX11_why_0 ev, xEnOK ev xmi yX11_why.cls yX11_why.name cX11_why 4 (some .int) q :=
  List.forall_mem_cons.mpr ⟨(xOK_pure (xs_aload_n (k := 0) rfl (show decode cX11_why 0 = .ok (.aload_n 0, 1) by decide +kernel))),
  List.forall_mem_cons.mpr ⟨(xOK_pure (xs_iload_n (k := 1) rfl (show decode cX11_why 1 = .ok (.iload_n 1, 1) by decide +kernel))),
  List.forall_mem_cons.mpr ⟨(xcm mi_178 ⟨⟨(by decide +kernel), (by decide +kernel), (by decide +kernel)⟩, (by decide), xw_1102, xw_118, Or.inl ⟨rfl, _, _, _, _, (show decode cX11_why 2 = .ok (.invokevirtual 294, 3) by decide +kernel), xw_1099, xw_1101, xw_24, rfl⟩⟩),
  List.forall_mem_cons.mpr ⟨(xOK_pure (xs_if_eq (show decode cX11_why 5 = .ok (.ifCond .eq 12, 3) by decide +kernel) (by decide))),
  List.forall_mem_cons.mpr ⟨(xOK_pure (xs_iload_n (k := 2) rfl (show decode cX11_why 8 = .ok (.iload_n 2, 1) by decide +kernel))),
  List.forall_mem_cons.mpr ⟨(xOK_pure (xs_iconst (n := 0) (show decode cX11_why 9 = .ok (.iconst 0, 1) by decide +kernel) (by decide))),
  List.forall_mem_cons.mpr ⟨(xOK_pure (xs_iconst (n := 1) (show decode cX11_why 10 = .ok (.iconst 1, 1) by decide +kernel) (by decide))),
  List.forall_mem_cons.mpr ⟨(xcm mi_183 ⟨⟨(by decide +kernel), (by decide +kernel), (by decide +kernel)⟩, (by decide), xw_480, xw_118, Or.inr (Or.inl ⟨rfl, _, (show decode cX11_why 11 = .ok (.invokestatic 52, 3) by decide +kernel), xw_478, xw_479⟩)⟩),
  List.forall_mem_cons.mpr ⟨(xOK_pure (xs_if_ne (show decode cX11_why 14 = .ok (.ifCond .ne 5, 3) by decide +kernel) (by decide))),
  List.forall_mem_cons.mpr ⟨(xOK_pure (xs_iconst (n := (-1)) (show decode cX11_why 17 = .ok (.iconst (-1), 1) by decide +kernel) (by decide))),
  List.forall_mem_cons.mpr ⟨(Or.inr (Or.inl ⟨rfl, (show decode cX11_why 18 = .ok (.ireturn, 1) by decide +kernel), rfl⟩)),
  List.forall_mem_cons.mpr ⟨(xOK_pure (xs_aload_n (k := 0) rfl (show decode cX11_why 19 = .ok (.aload_n 0, 1) by decide +kernel))),
  List.forall_mem_cons.mpr ⟨(xOK_pure (xs_getf xcl_11 (by decide) (show decode cX11_why 20 = .ok (.getfield 21, 3) by decide +kernel) xw_447)),
  List.forall_mem_cons.mpr ⟨(xOK_pure (xs_getf xcl_10 (by decide) (show decode cX11_why 23 = .ok (.getfield 285, 3) by decide +kernel) xw_325)),
  List.forall_mem_cons.mpr ⟨(xOK_pure (xs_iload_n (k := 1) rfl (show decode cX11_why 26 = .ok (.iload_n 1, 1) by decide +kernel))),
  List.forall_mem_cons.mpr ⟨(xOK_pure (xs_aald (t := 8) rfl (show decode cX11_why 27 = .ok (.aaload, 1) by decide +kernel))),
  List.forall_mem_cons.mpr ⟨(xOK_pure (xs_astore_n (k := 3) rfl (show decode cX11_why 28 = .ok (.astore_n 3, 1) by decide +kernel) (by decide))),
  List.forall_mem_cons.mpr ⟨(xOK_pure (xs_iload_n (k := 2) rfl (show decode cX11_why 29 = .ok (.iload_n 2, 1) by decide +kernel))),
  List.forall_mem_cons.mpr ⟨(xOK_pure (xs_if_ne (show decode cX11_why 30 = .ok (.ifCond .ne 10, 3) by decide +kernel) (by decide))),
  List.forall_mem_cons.mpr ⟨(xOK_pure (xs_aload_n (k := 3) rfl (show decode cX11_why 33 = .ok (.aload_n 3, 1) by decide +kernel))),
  (fun _ h => absurd h List.not_mem_nil)⟩⟩⟩⟩⟩⟩⟩⟩⟩⟩⟩⟩⟩⟩⟩⟩⟩⟩⟩⟩
def pX11_why_1 (ev : xEv) : List (Nat × xEn) := [(34, .inl (xop (xf_getf 1 8))), (37, .inl (xop (xf_goto 44))), (40, .inl (xop (xf_aload 3 1))), (41, .inl (xop (xf_getf 1 9))), (44, .inr (.inr 1))]
set_option maxRecDepth 20000 in
theorem okpX11_why_1 (ev : xEv) : ∀ q ∈ pX11_why_1 ev, xEnOK ev xmi yX11_why.cls yX11_why.name cX11_why 4 (some .int) q :=
  List.forall_mem_cons.mpr ⟨(xOK_pure (xs_getf xcl_1 (by decide) (show decode cX11_why 34 = .ok (.getfield 314, 3) by decide +kernel) xw_1067)),
  List.forall_mem_cons.mpr ⟨(xOK_pure (xs_goto (show decode cX11_why 37 = .ok (.goto 7, 3) by decide +kernel) (by decide))),
  List.forall_mem_cons.mpr ⟨(xOK_pure (xs_aload_n (k := 3) rfl (show decode cX11_why 40 = .ok (.aload_n 3, 1) by decide +kernel))),
  List.forall_mem_cons.mpr ⟨(xOK_pure (xs_getf xcl_1 (by decide) (show decode cX11_why 41 = .ok (.getfield 317, 3) by decide +kernel) xw_1070)),
  List.forall_mem_cons.mpr ⟨(Or.inr (Or.inl ⟨rfl, (show decode cX11_why 44 = .ok (.ireturn, 1) by decide +kernel), rfl⟩)),
  (fun _ h => absurd h List.not_mem_nil)⟩⟩⟩⟩⟩
def pX11_why (ev : xEv) : List (Nat × xEn) := pX11_why_0 ev ++ (pX11_why_1 ev)
theorem okpX11_why (ev : xEv) : ∀ q ∈ pX11_why ev, xEnOK ev xmi yX11_why.cls yX11_why.name cX11_why 4 (some .int) q := List.forall_mem_append.mpr ⟨okpX11_why_0 ev, okpX11_why_1 ev⟩
theorem omX11_why (ev : xEv) : xMethOK ev xmi yX11_why.cls yX11_why.name 152 (pX11_why ev) := xMethOK.of mi_152 (by decide +kernel) (okpX11_why ev)
def pX11_count_0 (ev : xEv) : List (Nat × xEn) := [(0, .inl (xop (xf_iload 1 1))), (1, .inl (xop (xf_sw (xtsw 0 [68, 76, 84, 92, 100, 108, 116, 124, 135, 144, 152, 157, 162] 170)))), (68, .inl (xop (xf_aload 0 1))), (69, .inl (xop (xf_getf 11 1))), (72, .inl (xop (xf_getf 10 13))), (75, .inr (.inr 1)), (76, .inl (xop (xf_aload 0 1))), (77, .inl (xop (xf_getf 11 0))), (80, .inl (xop (xf_getf 2 3))), (83, .inr (.inr 1)), (84, .inl (xop (xf_aload 0 1))), (85, .inl (xop (xf_getf 11 0))), (88, .inl (xop (xf_getf 2 5))), (91, .inr (.inr 1)), (92, .inl (xop (xf_aload 0 1))), (93, .inl (xop (xf_getf 11 1))), (96, .inl (xop (xf_getf 10 5))), (99, .inr (.inr 1)), (100, .inl (xop (xf_aload 0 1))), (101, .inl (xop (xf_getf 11 1)))]
set_option maxRecDepth 20000 in
theorem okpX11_count_0 (ev : xEv) : ∀ q ∈ pX11_count_0 ev, xEnOK ev xmi yX11_count.cls yX11_count.name cX11_count 2 (some .int) q :=
  List.forall_mem_cons.mpr ⟨(xOK_pure (xs_iload_n (k := 1) rfl (show decode cX11_count 0 = .ok (.iload_n 1, 1) by decide +kernel))),
  List.forall_mem_cons.mpr ⟨(xOK_pure (xs_tsw (show decode cX11_count 1 = .ok (.tableswitch 169 0 12 #[67, 75, 83, 91, 99, 107, 115, 123, 134, 143, 151, 156, 161], 67) by decide +kernel) (by decide) (by decide) (by decide))),
  List.forall_mem_cons.mpr ⟨(xOK_pure (xs_aload_n (k := 0) rfl (show decode cX11_count 68 = .ok (.aload_n 0, 1) by decide +kernel))),
  List.forall_mem_cons.mpr ⟨(xOK_pure (xs_getf xcl_11 (by decide) (show decode cX11_count 69 = .ok (.getfield 21, 3) by decide +kernel) xw_447)),
  List.forall_mem_cons.mpr ⟨(xOK_pure (xs_getf xcl_10 (by decide) (show decode cX11_count 72 = .ok (.getfield 128, 3) by decide +kernel) xw_330)),
  List.forall_mem_cons.mpr ⟨(Or.inr (Or.inl ⟨rfl, (show decode cX11_count 75 = .ok (.ireturn, 1) by decide +kernel), rfl⟩)),
  List.forall_mem_cons.mpr ⟨(xOK_pure (xs_aload_n (k := 0) rfl (show decode cX11_count 76 = .ok (.aload_n 0, 1) by decide +kernel))),
  List.forall_mem_cons.mpr ⟨(xOK_pure (xs_getf xcl_11 (by decide) (show decode cX11_count 77 = .ok (.getfield 10, 3) by decide +kernel) xw_446)),
  List.forall_mem_cons.mpr ⟨(xOK_pure (xs_getf xcl_2 (by decide) (show decode cX11_count 80 = .ok (.getfield 56, 3) by decide +kernel) xw_170)),
  List.forall_mem_cons.mpr ⟨(Or.inr (Or.inl ⟨rfl, (show decode cX11_count 83 = .ok (.ireturn, 1) by decide +kernel), rfl⟩)),
  List.forall_mem_cons.mpr ⟨(xOK_pure (xs_aload_n (k := 0) rfl (show decode cX11_count 84 = .ok (.aload_n 0, 1) by decide +kernel))),
  List.forall_mem_cons.mpr ⟨(xOK_pure (xs_getf xcl_11 (by decide) (show decode cX11_count 85 = .ok (.getfield 10, 3) by decide +kernel) xw_446)),
  List.forall_mem_cons.mpr ⟨(xOK_pure (xs_getf xcl_2 (by decide) (show decode cX11_count 88 = .ok (.getfield 72, 3) by decide +kernel) xw_176)),
  List.forall_mem_cons.mpr ⟨(Or.inr (Or.inl ⟨rfl, (show decode cX11_count 91 = .ok (.ireturn, 1) by decide +kernel), rfl⟩)),
  List.forall_mem_cons.mpr ⟨(xOK_pure (xs_aload_n (k := 0) rfl (show decode cX11_count 92 = .ok (.aload_n 0, 1) by decide +kernel))),
  List.forall_mem_cons.mpr ⟨(xOK_pure (xs_getf xcl_11 (by decide) (show decode cX11_count 93 = .ok (.getfield 21, 3) by decide +kernel) xw_447)),
  List.forall_mem_cons.mpr ⟨(xOK_pure (xs_getf xcl_10 (by decide) (show decode cX11_count 96 = .ok (.getfield 161, 3) by decide +kernel) xw_314)),
  List.forall_mem_cons.mpr ⟨(Or.inr (Or.inl ⟨rfl, (show decode cX11_count 99 = .ok (.ireturn, 1) by decide +kernel), rfl⟩)),
  List.forall_mem_cons.mpr ⟨(xOK_pure (xs_aload_n (k := 0) rfl (show decode cX11_count 100 = .ok (.aload_n 0, 1) by decide +kernel))),
  List.forall_mem_cons.mpr ⟨(xOK_pure (xs_getf xcl_11 (by decide) (show decode cX11_count 101 = .ok (.getfield 21, 3) by decide +kernel) xw_447)),
  (fun _ h => absurd h List.not_mem_nil)⟩⟩⟩⟩⟩⟩⟩⟩⟩⟩⟩⟩⟩⟩⟩⟩⟩⟩⟩⟩
def pX11_count_1 (ev : xEv) : List (Nat × xEn) := [(104, .inl (xop (xf_getf 10 7))), (107, .inr (.inr 1)), (108, .inl (xop (xf_aload 0 1))), (109, .inl (xop (xf_getf 11 1))), (112, .inl (xop (xf_getf 10 9))), (115, .inr (.inr 1)), (116, .inl (xop (xf_aload 0 1))), (117, .inl (xop (xf_getf 11 1))), (120, .inl (xop (xf_getf 10 12))), (123, .inr (.inr 1)), (124, .inl (xop (xf_aload 0 1))), (125, .inl (xop (xf_getf 11 1))), (128, .inl (xop (xf_getf 10 1))), (131, .inl (xop (xf_getf 9 1))), (134, .inr (.inr 1)), (135, .inl (xop (xf_aload 0 1))), (136, .inl (xop (xf_getf 11 1))), (139, .inl (xop (xf_push (.int 0) 1))), (140, .inr (.inl (0, 117, 1, 10))), (143, .inr (.inr 1))]
set_option maxRecDepth 20000 in
theorem okpX11_count_1 (ev : xEv) : ∀ q ∈ pX11_count_1 ev, xEnOK ev xmi yX11_count.cls yX11_count.name cX11_count 2 (some .int) q :=
  List.forall_mem_cons.mpr ⟨(xOK_pure (xs_getf xcl_10 (by decide) (show decode cX11_count 104 = .ok (.getfield 185, 3) by decide +kernel) xw_318)),
  List.forall_mem_cons.mpr ⟨(Or.inr (Or.inl ⟨rfl, (show decode cX11_count 107 = .ok (.ireturn, 1) by decide +kernel), rfl⟩)),
  List.forall_mem_cons.mpr ⟨(xOK_pure (xs_aload_n (k := 0) rfl (show decode cX11_count 108 = .ok (.aload_n 0, 1) by decide +kernel))),
  List.forall_mem_cons.mpr ⟨(xOK_pure (xs_getf xcl_11 (by decide) (show decode cX11_count 109 = .ok (.getfield 21, 3) by decide +kernel) xw_447)),
  List.forall_mem_cons.mpr ⟨(xOK_pure (xs_getf xcl_10 (by decide) (show decode cX11_count 112 = .ok (.getfield 203, 3) by decide +kernel) xw_322)),
  List.forall_mem_cons.mpr ⟨(Or.inr (Or.inl ⟨rfl, (show decode cX11_count 115 = .ok (.ireturn, 1) by decide +kernel), rfl⟩)),
  List.forall_mem_cons.mpr ⟨(xOK_pure (xs_aload_n (k := 0) rfl (show decode cX11_count 116 = .ok (.aload_n 0, 1) by decide +kernel))),
  List.forall_mem_cons.mpr ⟨(xOK_pure (xs_getf xcl_11 (by decide) (show decode cX11_count 117 = .ok (.getfield 21, 3) by decide +kernel) xw_447)),
  List.forall_mem_cons.mpr ⟨(xOK_pure (xs_getf xcl_10 (by decide) (show decode cX11_count 120 = .ok (.getfield 282, 3) by decide +kernel) xw_327)),
  List.forall_mem_cons.mpr ⟨(Or.inr (Or.inl ⟨rfl, (show decode cX11_count 123 = .ok (.ireturn, 1) by decide +kernel), rfl⟩)),
  List.forall_mem_cons.mpr ⟨(xOK_pure (xs_aload_n (k := 0) rfl (show decode cX11_count 124 = .ok (.aload_n 0, 1) by decide +kernel))),
  List.forall_mem_cons.mpr ⟨(xOK_pure (xs_getf xcl_11 (by decide) (show decode cX11_count 125 = .ok (.getfield 21, 3) by decide +kernel) xw_447)),
  List.forall_mem_cons.mpr ⟨(xOK_pure (xs_getf xcl_10 (by decide) (show decode cX11_count 128 = .ok (.getfield 131, 3) by decide +kernel) xw_304)),
  List.forall_mem_cons.mpr ⟨(xOK_pure (xs_getf xcl_9 (by decide) (show decode cX11_count 131 = .ok (.getfield 135, 3) by decide +kernel) xw_226)),
  List.forall_mem_cons.mpr ⟨(Or.inr (Or.inl ⟨rfl, (show decode cX11_count 134 = .ok (.ireturn, 1) by decide +kernel), rfl⟩)),
  List.forall_mem_cons.mpr ⟨(xOK_pure (xs_aload_n (k := 0) rfl (show decode cX11_count 135 = .ok (.aload_n 0, 1) by decide +kernel))),
  List.forall_mem_cons.mpr ⟨(xOK_pure (xs_getf xcl_11 (by decide) (show decode cX11_count 136 = .ok (.getfield 21, 3) by decide +kernel) xw_447)),
  List.forall_mem_cons.mpr ⟨(xOK_pure (xs_iconst (n := 0) (show decode cX11_count 139 = .ok (.iconst 0, 1) by decide +kernel) (by decide))),
  List.forall_mem_cons.mpr ⟨(xcm mi_117 ⟨⟨(by decide +kernel), (by decide +kernel), (by decide +kernel)⟩, (by decide), xw_1311, xw_120, Or.inl ⟨rfl, _, _, _, _, (show decode cX11_count 140 = .ok (.invokevirtual 320, 3) by decide +kernel), xw_1308, xw_1309, xw_1310, rfl⟩⟩),
  List.forall_mem_cons.mpr ⟨(Or.inr (Or.inl ⟨rfl, (show decode cX11_count 143 = .ok (.ireturn, 1) by decide +kernel), rfl⟩)),
  (fun _ h => absurd h List.not_mem_nil)⟩⟩⟩⟩⟩⟩⟩⟩⟩⟩⟩⟩⟩⟩⟩⟩⟩⟩⟩⟩
def pX11_count_2 (ev : xEv) : List (Nat × xEn) := [(144, .inl (xop (xf_aload 0 1))), (145, .inl (xop (xf_getf 11 1))), (148, .inl (xop (xf_getf 10 14))), (151, .inr (.inr 1)), (152, .inl (xop (xf_aload 0 1))), (153, .inl (xop (xf_getf 11 8))), (156, .inr (.inr 1)), (157, .inl (xop (xf_aload 0 1))), (158, .inl (xop (xf_getf 11 6))), (161, .inr (.inr 1)), (162, .inl (xop (xf_aload 0 1))), (163, .inl (xop (xf_getf 11 1))), (166, .inr (.inl (0, 118, 0, 10))), (169, .inr (.inr 1)), (170, .inl (xop (xf_push (.int (-1)) 1))), (171, .inr (.inr 1))]
set_option maxRecDepth 20000 in
theorem okpX11_count_2 (ev : xEv) : ∀ q ∈ pX11_count_2 ev, xEnOK ev xmi yX11_count.cls yX11_count.name cX11_count 2 (some .int) q :=
  List.forall_mem_cons.mpr ⟨(xOK_pure (xs_aload_n (k := 0) rfl (show decode cX11_count 144 = .ok (.aload_n 0, 1) by decide +kernel))),
  List.forall_mem_cons.mpr ⟨(xOK_pure (xs_getf xcl_11 (by decide) (show decode cX11_count 145 = .ok (.getfield 21, 3) by decide +kernel) xw_447)),
  List.forall_mem_cons.mpr ⟨(xOK_pure (xs_getf xcl_10 (by decide) (show decode cX11_count 148 = .ok (.getfield 324, 3) by decide +kernel) xw_332)),
  List.forall_mem_cons.mpr ⟨(Or.inr (Or.inl ⟨rfl, (show decode cX11_count 151 = .ok (.ireturn, 1) by decide +kernel), rfl⟩)),
  List.forall_mem_cons.mpr ⟨(xOK_pure (xs_aload_n (k := 0) rfl (show decode cX11_count 152 = .ok (.aload_n 0, 1) by decide +kernel))),
  List.forall_mem_cons.mpr ⟨(xOK_pure (xs_getf xcl_11 (by decide) (show decode cX11_count 153 = .ok (.getfield 327, 3) by decide +kernel) xw_454)),
  List.forall_mem_cons.mpr ⟨(Or.inr (Or.inl ⟨rfl, (show decode cX11_count 156 = .ok (.ireturn, 1) by decide +kernel), rfl⟩)),
  List.forall_mem_cons.mpr ⟨(xOK_pure (xs_aload_n (k := 0) rfl (show decode cX11_count 157 = .ok (.aload_n 0, 1) by decide +kernel))),
  List.forall_mem_cons.mpr ⟨(xOK_pure (xs_getf xcl_11 (by decide) (show decode cX11_count 158 = .ok (.getfield 249, 3) by decide +kernel) xw_452)),
  List.forall_mem_cons.mpr ⟨(Or.inr (Or.inl ⟨rfl, (show decode cX11_count 161 = .ok (.ireturn, 1) by decide +kernel), rfl⟩)),
  List.forall_mem_cons.mpr ⟨(xOK_pure (xs_aload_n (k := 0) rfl (show decode cX11_count 162 = .ok (.aload_n 0, 1) by decide +kernel))),
  List.forall_mem_cons.mpr ⟨(xOK_pure (xs_getf xcl_11 (by decide) (show decode cX11_count 163 = .ok (.getfield 21, 3) by decide +kernel) xw_447)),
  List.forall_mem_cons.mpr ⟨(xcm mi_118 ⟨⟨(by decide +kernel), (by decide +kernel), (by decide +kernel)⟩, (by decide), xw_1320, xw_120, Or.inl ⟨rfl, _, _, _, _, (show decode cX11_count 166 = .ok (.invokevirtual 330, 3) by decide +kernel), xw_1317, xw_1318, xw_1319, rfl⟩⟩),
  List.forall_mem_cons.mpr ⟨(Or.inr (Or.inl ⟨rfl, (show decode cX11_count 169 = .ok (.ireturn, 1) by decide +kernel), rfl⟩)),
  List.forall_mem_cons.mpr ⟨(xOK_pure (xs_iconst (n := (-1)) (show decode cX11_count 170 = .ok (.iconst (-1), 1) by decide +kernel) (by decide))),
  List.forall_mem_cons.mpr ⟨(Or.inr (Or.inl ⟨rfl, (show decode cX11_count 171 = .ok (.ireturn, 1) by decide +kernel), rfl⟩)),
  (fun _ h => absurd h List.not_mem_nil)⟩⟩⟩⟩⟩⟩⟩⟩⟩⟩⟩⟩⟩⟩⟩⟩
def pX11_count (ev : xEv) : List (Nat × xEn) := pX11_count_0 ev ++ (pX11_count_1 ev ++ (pX11_count_2 ev))
theorem okpX11_count (ev : xEv) : ∀ q ∈ pX11_count ev, xEnOK ev xmi yX11_count.cls yX11_count.name cX11_count 2 (some .int) q := List.forall_mem_append.mpr ⟨okpX11_count_0 ev, List.forall_mem_append.mpr ⟨okpX11_count_1 ev, okpX11_count_2 ev⟩⟩
theorem omX11_count (ev : xEv) : xMethOK ev xmi yX11_count.cls yX11_count.name 153 (pX11_count ev) := xMethOK.of mi_153 (by decide +kernel) (okpX11_count ev)
