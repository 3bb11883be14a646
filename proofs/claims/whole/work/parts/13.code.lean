def pX4_begin_0 (ev : xEv) : List (Nat × xEn) := [(0, .inl (xop (xf_aload 0 1))), (1, .inl (xop (xf_iload 1 1))), (2, .inl (xo_putf 4 8 .int)), (5, .inl (xop (xf_aload 0 1))), (6, .inl (xop (xf_iload 1 1))), (7, .inl (xop (xf_push (.int 2) 1))), (8, .inl (xop (xf_icmp_ne 15))), (11, .inl (xop (xf_push (.int 1) 1))), (12, .inl (xop (xf_goto 16))), (15, .inl (xop (xf_push (.int 0) 1))), (16, .inl (xo_putf 4 9 .int)), (19, .inl (xop (xf_aload 0 1))), (20, .inl (xop (xf_push (.int 0) 1))), (21, .inl (xo_putf 4 1 .int)), (24, .inl (xop (xf_aload 0 1))), (25, .inl (xop (xf_push (.int 0) 1))), (26, .inl (xo_putf 4 3 .int)), (29, .inl (xop (xf_aload 0 1))), (30, .inl (xop (xf_push (.int 0) 1))), (31, .inl (xo_putf 4 5 .int))]
set_option maxRecDepth 20000 in
theorem okpX4_begin_0 (ev : xEv) : ∀ q ∈ pX4_begin_0 ev, xEnOK ev xmi yX4_begin.cls yX4_begin.name cX4_begin 2 none q :=
  List.forall_mem_cons.mpr ⟨(xOK_pure (xs_aload_n (k := 0) rfl (show decode cX4_begin 0 = .ok (.aload_n 0, 1) by decide +kernel))),
  List.forall_mem_cons.mpr ⟨(xOK_pure (xs_iload_n (k := 1) rfl (show decode cX4_begin 1 = .ok (.iload_n 1, 1) by decide +kernel))),
  List.forall_mem_cons.mpr ⟨(xs_putf (k := 8) xcl_4 (by decide) rfl (show decode cX4_begin 2 = .ok (.putfield 48, 3) by decide +kernel) xw_423),
  List.forall_mem_cons.mpr ⟨(xOK_pure (xs_aload_n (k := 0) rfl (show decode cX4_begin 5 = .ok (.aload_n 0, 1) by decide +kernel))),
  List.forall_mem_cons.mpr ⟨(xOK_pure (xs_iload_n (k := 1) rfl (show decode cX4_begin 6 = .ok (.iload_n 1, 1) by decide +kernel))),
  List.forall_mem_cons.mpr ⟨(xOK_pure (xs_iconst (n := 2) (show decode cX4_begin 7 = .ok (.iconst 2, 1) by decide +kernel) (by decide))),
  List.forall_mem_cons.mpr ⟨(xOK_pure (xs_icmp_ne (show decode cX4_begin 8 = .ok (.if_icmp .ne 7, 3) by decide +kernel) (by decide))),
  List.forall_mem_cons.mpr ⟨(xOK_pure (xs_iconst (n := 1) (show decode cX4_begin 11 = .ok (.iconst 1, 1) by decide +kernel) (by decide))),
  List.forall_mem_cons.mpr ⟨(xOK_pure (xs_goto (show decode cX4_begin 12 = .ok (.goto 4, 3) by decide +kernel) (by decide))),
  List.forall_mem_cons.mpr ⟨(xOK_pure (xs_iconst (n := 0) (show decode cX4_begin 15 = .ok (.iconst 0, 1) by decide +kernel) (by decide))),
  List.forall_mem_cons.mpr ⟨(xs_putf (k := 9) xcl_4 (by decide) rfl (show decode cX4_begin 16 = .ok (.putfield 52, 3) by decide +kernel) xw_424),
  List.forall_mem_cons.mpr ⟨(xOK_pure (xs_aload_n (k := 0) rfl (show decode cX4_begin 19 = .ok (.aload_n 0, 1) by decide +kernel))),
  List.forall_mem_cons.mpr ⟨(xOK_pure (xs_iconst (n := 0) (show decode cX4_begin 20 = .ok (.iconst 0, 1) by decide +kernel) (by decide))),
  List.forall_mem_cons.mpr ⟨(xs_putf (k := 1) xcl_4 (by decide) rfl (show decode cX4_begin 21 = .ok (.putfield 55, 3) by decide +kernel) xw_415),
  List.forall_mem_cons.mpr ⟨(xOK_pure (xs_aload_n (k := 0) rfl (show decode cX4_begin 24 = .ok (.aload_n 0, 1) by decide +kernel))),
  List.forall_mem_cons.mpr ⟨(xOK_pure (xs_iconst (n := 0) (show decode cX4_begin 25 = .ok (.iconst 0, 1) by decide +kernel) (by decide))),
  List.forall_mem_cons.mpr ⟨(xs_putf (k := 3) xcl_4 (by decide) rfl (show decode cX4_begin 26 = .ok (.putfield 58, 3) by decide +kernel) xw_418),
  List.forall_mem_cons.mpr ⟨(xOK_pure (xs_aload_n (k := 0) rfl (show decode cX4_begin 29 = .ok (.aload_n 0, 1) by decide +kernel))),
  List.forall_mem_cons.mpr ⟨(xOK_pure (xs_iconst (n := 0) (show decode cX4_begin 30 = .ok (.iconst 0, 1) by decide +kernel) (by decide))),
  List.forall_mem_cons.mpr ⟨(xs_putf (k := 5) xcl_4 (by decide) rfl (show decode cX4_begin 31 = .ok (.putfield 61, 3) by decide +kernel) xw_420),
  (fun _ h => absurd h List.not_mem_nil)⟩⟩⟩⟩⟩⟩⟩⟩⟩⟩⟩⟩⟩⟩⟩⟩⟩⟩⟩⟩
def pX4_begin_1 (ev : xEv) : List (Nat × xEn) := [(34, .inl (xop (xf_aload 0 1))), (35, .inl (xop (xf_push (.int 0) 1))), (36, .inl (xo_putf 4 6 .int)), (39, .inl (xop (xf_aload 0 1))), (40, .inl (xop (xf_push (.int 0) 1))), (41, .inl (xo_putf 4 7 .int)), (44, .inl (xop (xf_aload 0 1))), (45, .inl (xop (xf_getf 4 4))), (48, .inl (xop (xf_push (.int 0) 1))), (49, .inl (xop (xf_push (.int 0) 1))), (50, .inl (xo_ast (ev.1 2) (vp_nar .boolean))), (51, .inr (.inr 0))]
set_option maxRecDepth 20000 in
theorem okpX4_begin_1 (ev : xEv) : ∀ q ∈ pX4_begin_1 ev, xEnOK ev xmi yX4_begin.cls yX4_begin.name cX4_begin 2 none q :=
  List.forall_mem_cons.mpr ⟨(xOK_pure (xs_aload_n (k := 0) rfl (show decode cX4_begin 34 = .ok (.aload_n 0, 1) by decide +kernel))),
  List.forall_mem_cons.mpr ⟨(xOK_pure (xs_iconst (n := 0) (show decode cX4_begin 35 = .ok (.iconst 0, 1) by decide +kernel) (by decide))),
  List.forall_mem_cons.mpr ⟨(xs_putf (k := 6) xcl_4 (by decide) rfl (show decode cX4_begin 36 = .ok (.putfield 64, 3) by decide +kernel) xw_421),
  List.forall_mem_cons.mpr ⟨(xOK_pure (xs_aload_n (k := 0) rfl (show decode cX4_begin 39 = .ok (.aload_n 0, 1) by decide +kernel))),
  List.forall_mem_cons.mpr ⟨(xOK_pure (xs_iconst (n := 0) (show decode cX4_begin 40 = .ok (.iconst 0, 1) by decide +kernel) (by decide))),
  List.forall_mem_cons.mpr ⟨(xs_putf (k := 7) xcl_4 (by decide) rfl (show decode cX4_begin 41 = .ok (.putfield 67, 3) by decide +kernel) xw_422),
  List.forall_mem_cons.mpr ⟨(xOK_pure (xs_aload_n (k := 0) rfl (show decode cX4_begin 44 = .ok (.aload_n 0, 1) by decide +kernel))),
  List.forall_mem_cons.mpr ⟨(xOK_pure (xs_getf xcl_4 (by decide) (show decode cX4_begin 45 = .ok (.getfield 18, 3) by decide +kernel) xw_419)),
  List.forall_mem_cons.mpr ⟨(xOK_pure (xs_iconst (n := 0) (show decode cX4_begin 48 = .ok (.iconst 0, 1) by decide +kernel) (by decide))),
  List.forall_mem_cons.mpr ⟨(xOK_pure (xs_iconst (n := 0) (show decode cX4_begin 49 = .ok (.iconst 0, 1) by decide +kernel) (by decide))),
  List.forall_mem_cons.mpr ⟨(xs_zast (show decode cX4_begin 50 = .ok (.bastore, 1) by decide +kernel)),
  List.forall_mem_cons.mpr ⟨(Or.inl ⟨rfl, (show decode cX4_begin 51 = .ok (.return_, 1) by decide +kernel), rfl⟩),
  (fun _ h => absurd h List.not_mem_nil)⟩⟩⟩⟩⟩⟩⟩⟩⟩⟩⟩⟩
def pX4_begin (ev : xEv) : List (Nat × xEn) := pX4_begin_0 ev ++ (pX4_begin_1 ev)
theorem okpX4_begin (ev : xEv) : ∀ q ∈ pX4_begin ev, xEnOK ev xmi yX4_begin.cls yX4_begin.name cX4_begin 2 none q := List.forall_mem_append.mpr ⟨okpX4_begin_0 ev, okpX4_begin_1 ev⟩
theorem omX4_begin (ev : xEv) : xMethOK ev xmi yX4_begin.cls yX4_begin.name 43 (pX4_begin ev) := xMethOK.of mi_43 (by decide +kernel) (okpX4_begin ev)
def pX4_mayEnd_0 (ev : xEv) : List (Nat × xEn) := [(0, .inl (xop (xf_aload 0 1))), (1, .inl (xop (xf_getf 4 8))), (4, .inl (xop (xf_push (.int 2) 1))), (5, .inl (xop (xf_icmp_ne 36))), (8, .inl (xop (xf_aload 0 1))), (9, .inl (xop (xf_getf 4 9))), (12, .inl (xop (xf_push (.int 2) 1))), (13, .inl (xop (xf_icmp_ne 34))), (16, .inl (xop (xf_aload 0 1))), (17, .inl (xop (xf_getf 4 5))), (20, .inl (xop (xf_if_ne 34))), (23, .inl (xop (xf_aload 0 1))), (24, .inl (xop (xf_getf 4 7))), (27, .inl (xop (xf_if_ne 34))), (30, .inl (xop (xf_push (.int 1) 1))), (31, .inl (xop (xf_goto 35))), (34, .inl (xop (xf_push (.int 0) 1))), (35, .inr (.inr 4)), (36, .inl (xop (xf_aload 0 1))), (37, .inl (xop (xf_getf 4 9)))]
set_option maxRecDepth 20000 in
theorem okpX4_mayEnd_0 (ev : xEv) : ∀ q ∈ pX4_mayEnd_0 ev, xEnOK ev xmi yX4_mayEnd.cls yX4_mayEnd.name cX4_mayEnd 1 (some .boolean) q :=
  List.forall_mem_cons.mpr ⟨(xOK_pure (xs_aload_n (k := 0) rfl (show decode cX4_mayEnd 0 = .ok (.aload_n 0, 1) by decide +kernel))),
  List.forall_mem_cons.mpr ⟨(xOK_pure (xs_getf xcl_4 (by decide) (show decode cX4_mayEnd 1 = .ok (.getfield 48, 3) by decide +kernel) xw_423)),
  List.forall_mem_cons.mpr ⟨(xOK_pure (xs_iconst (n := 2) (show decode cX4_mayEnd 4 = .ok (.iconst 2, 1) by decide +kernel) (by decide))),
  List.forall_mem_cons.mpr ⟨(xOK_pure (xs_icmp_ne (show decode cX4_mayEnd 5 = .ok (.if_icmp .ne 31, 3) by decide +kernel) (by decide))),
  List.forall_mem_cons.mpr ⟨(xOK_pure (xs_aload_n (k := 0) rfl (show decode cX4_mayEnd 8 = .ok (.aload_n 0, 1) by decide +kernel))),
  List.forall_mem_cons.mpr ⟨(xOK_pure (xs_getf xcl_4 (by decide) (show decode cX4_mayEnd 9 = .ok (.getfield 52, 3) by decide +kernel) xw_424)),
  List.forall_mem_cons.mpr ⟨(xOK_pure (xs_iconst (n := 2) (show decode cX4_mayEnd 12 = .ok (.iconst 2, 1) by decide +kernel) (by decide))),
  List.forall_mem_cons.mpr ⟨(xOK_pure (xs_icmp_ne (show decode cX4_mayEnd 13 = .ok (.if_icmp .ne 21, 3) by decide +kernel) (by decide))),
  List.forall_mem_cons.mpr ⟨(xOK_pure (xs_aload_n (k := 0) rfl (show decode cX4_mayEnd 16 = .ok (.aload_n 0, 1) by decide +kernel))),
  List.forall_mem_cons.mpr ⟨(xOK_pure (xs_getf xcl_4 (by decide) (show decode cX4_mayEnd 17 = .ok (.getfield 61, 3) by decide +kernel) xw_420)),
  List.forall_mem_cons.mpr ⟨(xOK_pure (xs_if_ne (show decode cX4_mayEnd 20 = .ok (.ifCond .ne 14, 3) by decide +kernel) (by decide))),
  List.forall_mem_cons.mpr ⟨(xOK_pure (xs_aload_n (k := 0) rfl (show decode cX4_mayEnd 23 = .ok (.aload_n 0, 1) by decide +kernel))),
  List.forall_mem_cons.mpr ⟨(xOK_pure (xs_getf xcl_4 (by decide) (show decode cX4_mayEnd 24 = .ok (.getfield 67, 3) by decide +kernel) xw_422)),
  List.forall_mem_cons.mpr ⟨(xOK_pure (xs_if_ne (show decode cX4_mayEnd 27 = .ok (.ifCond .ne 7, 3) by decide +kernel) (by decide))),
  List.forall_mem_cons.mpr ⟨(xOK_pure (xs_iconst (n := 1) (show decode cX4_mayEnd 30 = .ok (.iconst 1, 1) by decide +kernel) (by decide))),
  List.forall_mem_cons.mpr ⟨(xOK_pure (xs_goto (show decode cX4_mayEnd 31 = .ok (.goto 4, 3) by decide +kernel) (by decide))),
  List.forall_mem_cons.mpr ⟨(xOK_pure (xs_iconst (n := 0) (show decode cX4_mayEnd 34 = .ok (.iconst 0, 1) by decide +kernel) (by decide))),
  List.forall_mem_cons.mpr ⟨(Or.inr (Or.inr (Or.inr (Or.inr (Or.inl ⟨rfl, (show decode cX4_mayEnd 35 = .ok (.ireturn, 1) by decide +kernel), rfl⟩))))),
  List.forall_mem_cons.mpr ⟨(xOK_pure (xs_aload_n (k := 0) rfl (show decode cX4_mayEnd 36 = .ok (.aload_n 0, 1) by decide +kernel))),
  List.forall_mem_cons.mpr ⟨(xOK_pure (xs_getf xcl_4 (by decide) (show decode cX4_mayEnd 37 = .ok (.getfield 52, 3) by decide +kernel) xw_424)),
  (fun _ h => absurd h List.not_mem_nil)⟩⟩⟩⟩⟩⟩⟩⟩⟩⟩⟩⟩⟩⟩⟩⟩⟩⟩⟩⟩
def pX4_mayEnd_1 (ev : xEv) : List (Nat × xEn) := [(40, .inl (xop (xf_push (.int 4) 1))), (41, .inl (xop (xf_icmp_ne 48))), (44, .inl (xop (xf_push (.int 1) 1))), (45, .inl (xop (xf_goto 49))), (48, .inl (xop (xf_push (.int 0) 1))), (49, .inr (.inr 4))]
set_option maxRecDepth 20000 in
theorem okpX4_mayEnd_1 (ev : xEv) : ∀ q ∈ pX4_mayEnd_1 ev, xEnOK ev xmi yX4_mayEnd.cls yX4_mayEnd.name cX4_mayEnd 1 (some .boolean) q :=
  List.forall_mem_cons.mpr ⟨(xOK_pure (xs_iconst (n := 4) (show decode cX4_mayEnd 40 = .ok (.iconst 4, 1) by decide +kernel) (by decide))),
  List.forall_mem_cons.mpr ⟨(xOK_pure (xs_icmp_ne (show decode cX4_mayEnd 41 = .ok (.if_icmp .ne 7, 3) by decide +kernel) (by decide))),
  List.forall_mem_cons.mpr ⟨(xOK_pure (xs_iconst (n := 1) (show decode cX4_mayEnd 44 = .ok (.iconst 1, 1) by decide +kernel) (by decide))),
  List.forall_mem_cons.mpr ⟨(xOK_pure (xs_goto (show decode cX4_mayEnd 45 = .ok (.goto 4, 3) by decide +kernel) (by decide))),
  List.forall_mem_cons.mpr ⟨(xOK_pure (xs_iconst (n := 0) (show decode cX4_mayEnd 48 = .ok (.iconst 0, 1) by decide +kernel) (by decide))),
  List.forall_mem_cons.mpr ⟨(Or.inr (Or.inr (Or.inr (Or.inr (Or.inl ⟨rfl, (show decode cX4_mayEnd 49 = .ok (.ireturn, 1) by decide +kernel), rfl⟩))))),
  (fun _ h => absurd h List.not_mem_nil)⟩⟩⟩⟩⟩⟩
def pX4_mayEnd (ev : xEv) : List (Nat × xEn) := pX4_mayEnd_0 ev ++ (pX4_mayEnd_1 ev)
theorem okpX4_mayEnd (ev : xEv) : ∀ q ∈ pX4_mayEnd ev, xEnOK ev xmi yX4_mayEnd.cls yX4_mayEnd.name cX4_mayEnd 1 (some .boolean) q := List.forall_mem_append.mpr ⟨okpX4_mayEnd_0 ev, okpX4_mayEnd_1 ev⟩
theorem omX4_mayEnd (ev : xEv) : xMethOK ev xmi yX4_mayEnd.cls yX4_mayEnd.name 44 (pX4_mayEnd ev) := xMethOK.of mi_44 (by decide +kernel) (okpX4_mayEnd ev)
def pX4_takes_0 (ev : xEv) : List (Nat × xEn) := [(0, .inl (xop (xf_aload 0 1))), (1, .inl (xop (xf_getf 4 9))), (4, .inl (xop (xf_sw (xtsw 0 [36, 55, 61, 67] 73)))), (36, .inl (xop (xf_iload 1 1))), (37, .inl (xop (xf_push (.int 58) 2))), (39, .inl (xop (xf_icmp_ne 49))), (42, .inl (xop (xf_aload 0 1))), (43, .inr (.inl (0, 46, 0, 4))), (46, .inl (xop (xf_goto 54))), (49, .inl (xop (xf_aload 0 1))), (50, .inl (xop (xf_iload 1 1))), (51, .inr (.inl (0, 47, 1, 4))), (54, .inr (.inr 4)), (55, .inl (xop (xf_aload 0 1))), (56, .inl (xop (xf_iload 1 1))), (57, .inr (.inl (0, 47, 1, 4))), (60, .inr (.inr 4)), (61, .inl (xop (xf_aload 0 1))), (62, .inl (xop (xf_iload 1 1))), (63, .inr (.inl (0, 48, 1, 4)))]
set_option maxRecDepth 20000 in
theorem okpX4_takes_0 (ev : xEv) : ∀ q ∈ pX4_takes_0 ev, xEnOK ev xmi yX4_takes.cls yX4_takes.name cX4_takes 2 (some .boolean) q :=
  List.forall_mem_cons.mpr ⟨(xOK_pure (xs_aload_n (k := 0) rfl (show decode cX4_takes 0 = .ok (.aload_n 0, 1) by decide +kernel))),
  List.forall_mem_cons.mpr ⟨(xOK_pure (xs_getf xcl_4 (by decide) (show decode cX4_takes 1 = .ok (.getfield 52, 3) by decide +kernel) xw_424)),
  List.forall_mem_cons.mpr ⟨(xOK_pure (xs_tsw (show decode cX4_takes 4 = .ok (.tableswitch 69 0 3 #[32, 51, 57, 63], 32) by decide +kernel) (by decide) (by decide) (by decide))),
  List.forall_mem_cons.mpr ⟨(xOK_pure (xs_iload_n (k := 1) rfl (show decode cX4_takes 36 = .ok (.iload_n 1, 1) by decide +kernel))),
  List.forall_mem_cons.mpr ⟨(xOK_pure (xs_bipush (n := 58) (show decode cX4_takes 37 = .ok (.bipush 58, 2) by decide +kernel) (by decide))),
  List.forall_mem_cons.mpr ⟨(xOK_pure (xs_icmp_ne (show decode cX4_takes 39 = .ok (.if_icmp .ne 10, 3) by decide +kernel) (by decide))),
  List.forall_mem_cons.mpr ⟨(xOK_pure (xs_aload_n (k := 0) rfl (show decode cX4_takes 42 = .ok (.aload_n 0, 1) by decide +kernel))),
  List.forall_mem_cons.mpr ⟨(xcm mi_46 ⟨⟨(by decide +kernel), (by decide +kernel), (by decide +kernel)⟩, (by decide), xw_876, xw_124, Or.inl ⟨rfl, _, _, _, _, (show decode cX4_takes 43 = .ok (.invokevirtual 70, 3) by decide +kernel), xw_873, xw_875, xw_8, rfl⟩⟩),
  List.forall_mem_cons.mpr ⟨(xOK_pure (xs_goto (show decode cX4_takes 46 = .ok (.goto 8, 3) by decide +kernel) (by decide))),
  List.forall_mem_cons.mpr ⟨(xOK_pure (xs_aload_n (k := 0) rfl (show decode cX4_takes 49 = .ok (.aload_n 0, 1) by decide +kernel))),
  List.forall_mem_cons.mpr ⟨(xOK_pure (xs_iload_n (k := 1) rfl (show decode cX4_takes 50 = .ok (.iload_n 1, 1) by decide +kernel))),
  List.forall_mem_cons.mpr ⟨(xcm mi_47 ⟨⟨(by decide +kernel), (by decide +kernel), (by decide +kernel)⟩, (by decide), xw_884, xw_124, Or.inl ⟨rfl, _, _, _, _, (show decode cX4_takes 51 = .ok (.invokevirtual 73, 3) by decide +kernel), xw_881, xw_883, xw_10, rfl⟩⟩),
  List.forall_mem_cons.mpr ⟨(Or.inr (Or.inr (Or.inr (Or.inr (Or.inl ⟨rfl, (show decode cX4_takes 54 = .ok (.ireturn, 1) by decide +kernel), rfl⟩))))),
  List.forall_mem_cons.mpr ⟨(xOK_pure (xs_aload_n (k := 0) rfl (show decode cX4_takes 55 = .ok (.aload_n 0, 1) by decide +kernel))),
  List.forall_mem_cons.mpr ⟨(xOK_pure (xs_iload_n (k := 1) rfl (show decode cX4_takes 56 = .ok (.iload_n 1, 1) by decide +kernel))),
  List.forall_mem_cons.mpr ⟨(xcm mi_47 ⟨⟨(by decide +kernel), (by decide +kernel), (by decide +kernel)⟩, (by decide), xw_884, xw_124, Or.inl ⟨rfl, _, _, _, _, (show decode cX4_takes 57 = .ok (.invokevirtual 73, 3) by decide +kernel), xw_881, xw_883, xw_10, rfl⟩⟩),
  List.forall_mem_cons.mpr ⟨(Or.inr (Or.inr (Or.inr (Or.inr (Or.inl ⟨rfl, (show decode cX4_takes 60 = .ok (.ireturn, 1) by decide +kernel), rfl⟩))))),
  List.forall_mem_cons.mpr ⟨(xOK_pure (xs_aload_n (k := 0) rfl (show decode cX4_takes 61 = .ok (.aload_n 0, 1) by decide +kernel))),
  List.forall_mem_cons.mpr ⟨(xOK_pure (xs_iload_n (k := 1) rfl (show decode cX4_takes 62 = .ok (.iload_n 1, 1) by decide +kernel))),
  List.forall_mem_cons.mpr ⟨(xcm mi_48 ⟨⟨(by decide +kernel), (by decide +kernel), (by decide +kernel)⟩, (by decide), xw_983, xw_124, Or.inl ⟨rfl, _, _, _, _, (show decode cX4_takes 63 = .ok (.invokevirtual 76, 3) by decide +kernel), xw_980, xw_982, xw_13, rfl⟩⟩),
  (fun _ h => absurd h List.not_mem_nil)⟩⟩⟩⟩⟩⟩⟩⟩⟩⟩⟩⟩⟩⟩⟩⟩⟩⟩⟩⟩
def pX4_takes_1 (ev : xEv) : List (Nat × xEn) := [(66, .inr (.inr 4)), (67, .inl (xop (xf_aload 0 1))), (68, .inl (xop (xf_iload 1 1))), (69, .inr (.inl (0, 55, 1, 4))), (72, .inr (.inr 4)), (73, .inl (xop (xf_aload 0 1))), (74, .inl (xop (xf_push (.int 0) 1))), (75, .inl (xo_putf 4 9 .int)), (78, .inl (xop (xf_iload 1 1))), (79, .inl (xop (xf_push (.int 59) 2))), (81, .inl (xop (xf_icmp_ne 88))), (84, .inl (xop (xf_push (.int 1) 1))), (85, .inl (xop (xf_goto 89))), (88, .inl (xop (xf_push (.int 0) 1))), (89, .inr (.inr 4))]
set_option maxRecDepth 20000 in
theorem okpX4_takes_1 (ev : xEv) : ∀ q ∈ pX4_takes_1 ev, xEnOK ev xmi yX4_takes.cls yX4_takes.name cX4_takes 2 (some .boolean) q :=
  List.forall_mem_cons.mpr ⟨(Or.inr (Or.inr (Or.inr (Or.inr (Or.inl ⟨rfl, (show decode cX4_takes 66 = .ok (.ireturn, 1) by decide +kernel), rfl⟩))))),
  List.forall_mem_cons.mpr ⟨(xOK_pure (xs_aload_n (k := 0) rfl (show decode cX4_takes 67 = .ok (.aload_n 0, 1) by decide +kernel))),
  List.forall_mem_cons.mpr ⟨(xOK_pure (xs_iload_n (k := 1) rfl (show decode cX4_takes 68 = .ok (.iload_n 1, 1) by decide +kernel))),
  List.forall_mem_cons.mpr ⟨(xcm mi_55 ⟨⟨(by decide +kernel), (by decide +kernel), (by decide +kernel)⟩, (by decide), xw_1022, xw_124, Or.inl ⟨rfl, _, _, _, _, (show decode cX4_takes 69 = .ok (.invokevirtual 79, 3) by decide +kernel), xw_1019, xw_1021, xw_22, rfl⟩⟩),
  List.forall_mem_cons.mpr ⟨(Or.inr (Or.inr (Or.inr (Or.inr (Or.inl ⟨rfl, (show decode cX4_takes 72 = .ok (.ireturn, 1) by decide +kernel), rfl⟩))))),
  List.forall_mem_cons.mpr ⟨(xOK_pure (xs_aload_n (k := 0) rfl (show decode cX4_takes 73 = .ok (.aload_n 0, 1) by decide +kernel))),
  List.forall_mem_cons.mpr ⟨(xOK_pure (xs_iconst (n := 0) (show decode cX4_takes 74 = .ok (.iconst 0, 1) by decide +kernel) (by decide))),
  List.forall_mem_cons.mpr ⟨(xs_putf (k := 9) xcl_4 (by decide) rfl (show decode cX4_takes 75 = .ok (.putfield 52, 3) by decide +kernel) xw_424),
  List.forall_mem_cons.mpr ⟨(xOK_pure (xs_iload_n (k := 1) rfl (show decode cX4_takes 78 = .ok (.iload_n 1, 1) by decide +kernel))),
  List.forall_mem_cons.mpr ⟨(xOK_pure (xs_bipush (n := 59) (show decode cX4_takes 79 = .ok (.bipush 59, 2) by decide +kernel) (by decide))),
  List.forall_mem_cons.mpr ⟨(xOK_pure (xs_icmp_ne (show decode cX4_takes 81 = .ok (.if_icmp .ne 7, 3) by decide +kernel) (by decide))),
  List.forall_mem_cons.mpr ⟨(xOK_pure (xs_iconst (n := 1) (show decode cX4_takes 84 = .ok (.iconst 1, 1) by decide +kernel) (by decide))),
  List.forall_mem_cons.mpr ⟨(xOK_pure (xs_goto (show decode cX4_takes 85 = .ok (.goto 4, 3) by decide +kernel) (by decide))),
  List.forall_mem_cons.mpr ⟨(xOK_pure (xs_iconst (n := 0) (show decode cX4_takes 88 = .ok (.iconst 0, 1) by decide +kernel) (by decide))),
  List.forall_mem_cons.mpr ⟨(Or.inr (Or.inr (Or.inr (Or.inr (Or.inl ⟨rfl, (show decode cX4_takes 89 = .ok (.ireturn, 1) by decide +kernel), rfl⟩))))),
  (fun _ h => absurd h List.not_mem_nil)⟩⟩⟩⟩⟩⟩⟩⟩⟩⟩⟩⟩⟩⟩⟩
def pX4_takes (ev : xEv) : List (Nat × xEn) := pX4_takes_0 ev ++ (pX4_takes_1 ev)
theorem okpX4_takes (ev : xEv) : ∀ q ∈ pX4_takes ev, xEnOK ev xmi yX4_takes.cls yX4_takes.name cX4_takes 2 (some .boolean) q := List.forall_mem_append.mpr ⟨okpX4_takes_0 ev, okpX4_takes_1 ev⟩
theorem omX4_takes (ev : xEv) : xMethOK ev xmi yX4_takes.cls yX4_takes.name 45 (pX4_takes ev) := xMethOK.of mi_45 (by decide +kernel) (okpX4_takes ev)
def pX4_takesEmptyCondition (ev : xEv) : List (Nat × xEn) := [(0, .inl (xop (xf_aload 0 1))), (1, .inl (xop (xf_push (.int 1) 1))), (2, .inr (.inl (0, 60, 1, 4))), (5, .inl (xop (xf_aload 0 1))), (6, .inl (xop (xf_push (.int 3) 1))), (7, .inl (xo_putf 4 9 .int)), (10, .inl (xop (xf_push (.int 1) 1))), (11, .inr (.inr 4))]
set_option maxRecDepth 20000 in
theorem okpX4_takesEmptyCondition (ev : xEv) : ∀ q ∈ pX4_takesEmptyCondition ev, xEnOK ev xmi yX4_takesEmptyCondition.cls yX4_takesEmptyCondition.name cX4_takesEmptyCondition 1 (some .boolean) q :=
  List.forall_mem_cons.mpr ⟨(xOK_pure (xs_aload_n (k := 0) rfl (show decode cX4_takesEmptyCondition 0 = .ok (.aload_n 0, 1) by decide +kernel))),
  List.forall_mem_cons.mpr ⟨(xOK_pure (xs_iconst (n := 1) (show decode cX4_takesEmptyCondition 1 = .ok (.iconst 1, 1) by decide +kernel) (by decide))),
  List.forall_mem_cons.mpr ⟨(xcm mi_60 ⟨⟨(by decide +kernel), (by decide +kernel), (by decide +kernel)⟩, (by decide), xw_880, xw_124, Or.inl ⟨rfl, _, _, _, _, (show decode cX4_takesEmptyCondition 2 = .ok (.invokevirtual 82, 3) by decide +kernel), xw_877, xw_879, xw_9, rfl⟩⟩),
  List.forall_mem_cons.mpr ⟨(xOK_pure (xs_aload_n (k := 0) rfl (show decode cX4_takesEmptyCondition 5 = .ok (.aload_n 0, 1) by decide +kernel))),
  List.forall_mem_cons.mpr ⟨(xOK_pure (xs_iconst (n := 3) (show decode cX4_takesEmptyCondition 6 = .ok (.iconst 3, 1) by decide +kernel) (by decide))),
  List.forall_mem_cons.mpr ⟨(xs_putf (k := 9) xcl_4 (by decide) rfl (show decode cX4_takesEmptyCondition 7 = .ok (.putfield 52, 3) by decide +kernel) xw_424),
  List.forall_mem_cons.mpr ⟨(xOK_pure (xs_iconst (n := 1) (show decode cX4_takesEmptyCondition 10 = .ok (.iconst 1, 1) by decide +kernel) (by decide))),
  List.forall_mem_cons.mpr ⟨(Or.inr (Or.inr (Or.inr (Or.inr (Or.inl ⟨rfl, (show decode cX4_takesEmptyCondition 11 = .ok (.ireturn, 1) by decide +kernel), rfl⟩))))),
  (fun _ h => absurd h List.not_mem_nil)⟩⟩⟩⟩⟩⟩⟩⟩
theorem omX4_takesEmptyCondition (ev : xEv) : xMethOK ev xmi yX4_takesEmptyCondition.cls yX4_takesEmptyCondition.name 46 (pX4_takesEmptyCondition ev) := xMethOK.of mi_46 (by decide +kernel) (okpX4_takesEmptyCondition ev)
def pX4_takesThing_0 (ev : xEv) : List (Nat × xEn) := [(0, .inl (xop (xf_aload 0 1))), (1, .inl (xop (xf_getf 4 8))), (4, .inl (xop (xf_push (.int 2) 1))), (5, .inl (xop (xf_icmp_ne 13))), (8, .inl (xop (xf_push (.ref (ev.2.1 0)) 2))), (10, .inl (xop (xf_goto 15))), (13, .inl (xop (xf_push (.ref (ev.2.1 1)) 2))), (15, .inl (xop (xf_astore 2 1))), (16, .inl (xop (xf_iload 1 1))), (17, .inr (.inl (1, 61, 1, 4))), (20, .inl (xop (xf_if_eq 44))), (23, .inl (xop (xf_aload 0 1))), (24, .inl (xop (xf_iload 1 1))), (25, .inl (xop (xf_push (.int 48) 2))), (27, .inl (xop (xf_bin (fun x y => x - y)))), (28, .inr (.inl (0, 60, 1, 4))), (31, .inl (xop (xf_aload 0 1))), (32, .inl (xop (xf_push (.int 1) 1))), (33, .inl (xo_putf 4 6 .int)), (36, .inl (xop (xf_aload 0 1)))]
set_option maxRecDepth 20000 in
theorem okpX4_takesThing_0 (ev : xEv) : ∀ q ∈ pX4_takesThing_0 ev, xEnOK ev xmi yX4_takesThing.cls yX4_takesThing.name cX4_takesThing 3 (some .boolean) q :=
  List.forall_mem_cons.mpr ⟨(xOK_pure (xs_aload_n (k := 0) rfl (show decode cX4_takesThing 0 = .ok (.aload_n 0, 1) by decide +kernel))),
  List.forall_mem_cons.mpr ⟨(xOK_pure (xs_getf xcl_4 (by decide) (show decode cX4_takesThing 1 = .ok (.getfield 48, 3) by decide +kernel) xw_423)),
  List.forall_mem_cons.mpr ⟨(xOK_pure (xs_iconst (n := 2) (show decode cX4_takesThing 4 = .ok (.iconst 2, 1) by decide +kernel) (by decide))),
  List.forall_mem_cons.mpr ⟨(xOK_pure (xs_icmp_ne (show decode cX4_takesThing 5 = .ok (.if_icmp .ne 8, 3) by decide +kernel) (by decide))),
  List.forall_mem_cons.mpr ⟨(xOK_pure (xs_ldcS (show decode cX4_takesThing 8 = .ok (.ldc 85, 2) by decide +kernel) (List.mem_of_getElem? (i := 0) rfl))),
  List.forall_mem_cons.mpr ⟨(xOK_pure (xs_goto (show decode cX4_takesThing 10 = .ok (.goto 5, 3) by decide +kernel) (by decide))),
  List.forall_mem_cons.mpr ⟨(xOK_pure (xs_ldcS (show decode cX4_takesThing 13 = .ok (.ldc 87, 2) by decide +kernel) (List.mem_of_getElem? (i := 1) rfl))),
  List.forall_mem_cons.mpr ⟨(xOK_pure (xs_astore_n (k := 2) rfl (show decode cX4_takesThing 15 = .ok (.astore_n 2, 1) by decide +kernel) (by decide))),
  List.forall_mem_cons.mpr ⟨(xOK_pure (xs_iload_n (k := 1) rfl (show decode cX4_takesThing 16 = .ok (.iload_n 1, 1) by decide +kernel))),
  List.forall_mem_cons.mpr ⟨(xcm mi_61 ⟨⟨(by decide +kernel), (by decide +kernel), (by decide +kernel)⟩, (by decide), xw_889, xw_124, Or.inr (Or.inl ⟨rfl, _, (show decode cX4_takesThing 17 = .ok (.invokestatic 89, 3) by decide +kernel), xw_887, xw_888⟩)⟩),
  List.forall_mem_cons.mpr ⟨(xOK_pure (xs_if_eq (show decode cX4_takesThing 20 = .ok (.ifCond .eq 24, 3) by decide +kernel) (by decide))),
  List.forall_mem_cons.mpr ⟨(xOK_pure (xs_aload_n (k := 0) rfl (show decode cX4_takesThing 23 = .ok (.aload_n 0, 1) by decide +kernel))),
  List.forall_mem_cons.mpr ⟨(xOK_pure (xs_iload_n (k := 1) rfl (show decode cX4_takesThing 24 = .ok (.iload_n 1, 1) by decide +kernel))),
  List.forall_mem_cons.mpr ⟨(xOK_pure (xs_bipush (n := 48) (show decode cX4_takesThing 25 = .ok (.bipush 48, 2) by decide +kernel) (by decide))),
  List.forall_mem_cons.mpr ⟨(xOK_pure (xs_isub (show decode cX4_takesThing 27 = .ok (.isub, 1) by decide +kernel))),
  List.forall_mem_cons.mpr ⟨(xcm mi_60 ⟨⟨(by decide +kernel), (by decide +kernel), (by decide +kernel)⟩, (by decide), xw_880, xw_124, Or.inl ⟨rfl, _, _, _, _, (show decode cX4_takesThing 28 = .ok (.invokevirtual 82, 3) by decide +kernel), xw_877, xw_879, xw_9, rfl⟩⟩),
  List.forall_mem_cons.mpr ⟨(xOK_pure (xs_aload_n (k := 0) rfl (show decode cX4_takesThing 31 = .ok (.aload_n 0, 1) by decide +kernel))),
  List.forall_mem_cons.mpr ⟨(xOK_pure (xs_iconst (n := 1) (show decode cX4_takesThing 32 = .ok (.iconst 1, 1) by decide +kernel) (by decide))),
  List.forall_mem_cons.mpr ⟨(xs_putf (k := 6) xcl_4 (by decide) rfl (show decode cX4_takesThing 33 = .ok (.putfield 64, 3) by decide +kernel) xw_421),
  List.forall_mem_cons.mpr ⟨(xOK_pure (xs_aload_n (k := 0) rfl (show decode cX4_takesThing 36 = .ok (.aload_n 0, 1) by decide +kernel))),
  (fun _ h => absurd h List.not_mem_nil)⟩⟩⟩⟩⟩⟩⟩⟩⟩⟩⟩⟩⟩⟩⟩⟩⟩⟩⟩⟩
def pX4_takesThing_1 (ev : xEv) : List (Nat × xEn) := [(37, .inl (xop (xf_push (.int 2) 1))), (38, .inl (xo_putf 4 9 .int)), (41, .inl (xop (xf_goto 165))), (44, .inl (xop (xf_aload 2 1))), (45, .inl (xop (xf_iload 1 1))), (46, .inl (xop (xf_un (fun x => (x.toUInt32 % 65536).toInt32)))), (47, .inr (.inl (4, 302, 1, 99))), (50, .inl (xop (xf_if_lt 77))), (53, .inl (xop (xf_aload 0 1))), (54, .inl (xop (xf_push (.int 1000) 3))), (57, .inl (xop (xf_iload 1 1))), (58, .inl (xop (xf_bin (fun x y => x + y)))), (59, .inl (xop (xf_push (.int 97) 2))), (61, .inl (xop (xf_bin (fun x y => x - y)))), (62, .inr (.inl (0, 60, 1, 4))), (65, .inl (xop (xf_aload 0 1))), (66, .inr (.inl (0, 50, 0, 4))), (69, .inl (xop (xf_aload 0 1))), (70, .inl (xop (xf_push (.int 2) 1))), (71, .inl (xo_putf 4 9 .int))]
set_option maxRecDepth 20000 in
theorem okpX4_takesThing_1 (ev : xEv) : ∀ q ∈ pX4_takesThing_1 ev, xEnOK ev xmi yX4_takesThing.cls yX4_takesThing.name cX4_takesThing 3 (some .boolean) q :=
  List.forall_mem_cons.mpr ⟨(xOK_pure (xs_iconst (n := 2) (show decode cX4_takesThing 37 = .ok (.iconst 2, 1) by decide +kernel) (by decide))),
  List.forall_mem_cons.mpr ⟨(xs_putf (k := 9) xcl_4 (by decide) rfl (show decode cX4_takesThing 38 = .ok (.putfield 52, 3) by decide +kernel) xw_424),
  List.forall_mem_cons.mpr ⟨(xOK_pure (xs_goto (show decode cX4_takesThing 41 = .ok (.goto 124, 3) by decide +kernel) (by decide))),
  List.forall_mem_cons.mpr ⟨(xOK_pure (xs_aload_n (k := 2) rfl (show decode cX4_takesThing 44 = .ok (.aload_n 2, 1) by decide +kernel))),
  List.forall_mem_cons.mpr ⟨(xOK_pure (xs_iload_n (k := 1) rfl (show decode cX4_takesThing 45 = .ok (.iload_n 1, 1) by decide +kernel))),
  List.forall_mem_cons.mpr ⟨(xOK_pure (xs_i2c (show decode cX4_takesThing 46 = .ok (.i2c, 1) by decide +kernel))),
  List.forall_mem_cons.mpr ⟨(xcm mi_302 ⟨⟨(by decide +kernel), (by decide +kernel), (by decide +kernel)⟩, (by decide), xw_893, xw_135, Or.inr (Or.inr (Or.inr (Or.inr ⟨rfl, _, (show decode cX4_takesThing 47 = .ok (.invokevirtual 92, 3) by decide +kernel), xw_890, xw_891, xw_892⟩)))⟩),
  List.forall_mem_cons.mpr ⟨(xOK_pure (xs_if_lt (show decode cX4_takesThing 50 = .ok (.ifCond .lt 27, 3) by decide +kernel) (by decide))),
  List.forall_mem_cons.mpr ⟨(xOK_pure (xs_aload_n (k := 0) rfl (show decode cX4_takesThing 53 = .ok (.aload_n 0, 1) by decide +kernel))),
  List.forall_mem_cons.mpr ⟨(xOK_pure (xs_sipush (n := 1000) (show decode cX4_takesThing 54 = .ok (.sipush 1000, 3) by decide +kernel) (by decide))),
  List.forall_mem_cons.mpr ⟨(xOK_pure (xs_iload_n (k := 1) rfl (show decode cX4_takesThing 57 = .ok (.iload_n 1, 1) by decide +kernel))),
  List.forall_mem_cons.mpr ⟨(xOK_pure (xs_iadd (show decode cX4_takesThing 58 = .ok (.iadd, 1) by decide +kernel))),
  List.forall_mem_cons.mpr ⟨(xOK_pure (xs_bipush (n := 97) (show decode cX4_takesThing 59 = .ok (.bipush 97, 2) by decide +kernel) (by decide))),
  List.forall_mem_cons.mpr ⟨(xOK_pure (xs_isub (show decode cX4_takesThing 61 = .ok (.isub, 1) by decide +kernel))),
  List.forall_mem_cons.mpr ⟨(xcm mi_60 ⟨⟨(by decide +kernel), (by decide +kernel), (by decide +kernel)⟩, (by decide), xw_880, xw_124, Or.inl ⟨rfl, _, _, _, _, (show decode cX4_takesThing 62 = .ok (.invokevirtual 82, 3) by decide +kernel), xw_877, xw_879, xw_9, rfl⟩⟩),
  List.forall_mem_cons.mpr ⟨(xOK_pure (xs_aload_n (k := 0) rfl (show decode cX4_takesThing 65 = .ok (.aload_n 0, 1) by decide +kernel))),
  List.forall_mem_cons.mpr ⟨(xcm mi_50 ⟨⟨(by decide +kernel), (by decide +kernel), (by decide +kernel)⟩, (by decide), xw_975, xw_124, Or.inl ⟨rfl, _, _, _, _, (show decode cX4_takesThing 66 = .ok (.invokevirtual 98, 3) by decide +kernel), xw_972, xw_974, xw_11, rfl⟩⟩),
  List.forall_mem_cons.mpr ⟨(xOK_pure (xs_aload_n (k := 0) rfl (show decode cX4_takesThing 69 = .ok (.aload_n 0, 1) by decide +kernel))),
  List.forall_mem_cons.mpr ⟨(xOK_pure (xs_iconst (n := 2) (show decode cX4_takesThing 70 = .ok (.iconst 2, 1) by decide +kernel) (by decide))),
  List.forall_mem_cons.mpr ⟨(xs_putf (k := 9) xcl_4 (by decide) rfl (show decode cX4_takesThing 71 = .ok (.putfield 52, 3) by decide +kernel) xw_424),
  (fun _ h => absurd h List.not_mem_nil)⟩⟩⟩⟩⟩⟩⟩⟩⟩⟩⟩⟩⟩⟩⟩⟩⟩⟩⟩⟩
def pX4_takesThing_2 (ev : xEv) : List (Nat × xEn) := [(74, .inl (xop (xf_goto 165))), (77, .inl (xop (xf_iload 1 1))), (78, .inl (xop (xf_push (.int 33) 2))), (80, .inl (xop (xf_icmp_eq 89))), (83, .inl (xop (xf_iload 1 1))), (84, .inl (xop (xf_push (.int 45) 2))), (86, .inl (xop (xf_icmp_ne 114))), (89, .inl (xop (xf_aload 0 1))), (90, .inl (xop (xf_iload 1 1))), (91, .inl (xop (xf_push (.int 33) 2))), (93, .inl (xop (xf_icmp_ne 101))), (96, .inl (xop (xf_push (.int 33) 2))), (98, .inl (xop (xf_goto 103))), (101, .inl (xop (xf_push (.int 126) 2))), (103, .inr (.inl (0, 58, 1, 4))), (106, .inl (xop (xf_aload 0 1))), (107, .inl (xop (xf_push (.int 1) 1))), (108, .inl (xo_putf 4 9 .int)), (111, .inl (xop (xf_goto 165))), (114, .inl (xop (xf_iload 1 1)))]
set_option maxRecDepth 20000 in
theorem okpX4_takesThing_2 (ev : xEv) : ∀ q ∈ pX4_takesThing_2 ev, xEnOK ev xmi yX4_takesThing.cls yX4_takesThing.name cX4_takesThing 3 (some .boolean) q :=
  List.forall_mem_cons.mpr ⟨(xOK_pure (xs_goto (show decode cX4_takesThing 74 = .ok (.goto 91, 3) by decide +kernel) (by decide))),
  List.forall_mem_cons.mpr ⟨(xOK_pure (xs_iload_n (k := 1) rfl (show decode cX4_takesThing 77 = .ok (.iload_n 1, 1) by decide +kernel))),
  List.forall_mem_cons.mpr ⟨(xOK_pure (xs_bipush (n := 33) (show decode cX4_takesThing 78 = .ok (.bipush 33, 2) by decide +kernel) (by decide))),
  List.forall_mem_cons.mpr ⟨(xOK_pure (xs_icmp_eq (show decode cX4_takesThing 80 = .ok (.if_icmp .eq 9, 3) by decide +kernel) (by decide))),
  List.forall_mem_cons.mpr ⟨(xOK_pure (xs_iload_n (k := 1) rfl (show decode cX4_takesThing 83 = .ok (.iload_n 1, 1) by decide +kernel))),
  List.forall_mem_cons.mpr ⟨(xOK_pure (xs_bipush (n := 45) (show decode cX4_takesThing 84 = .ok (.bipush 45, 2) by decide +kernel) (by decide))),
  List.forall_mem_cons.mpr ⟨(xOK_pure (xs_icmp_ne (show decode cX4_takesThing 86 = .ok (.if_icmp .ne 28, 3) by decide +kernel) (by decide))),
  List.forall_mem_cons.mpr ⟨(xOK_pure (xs_aload_n (k := 0) rfl (show decode cX4_takesThing 89 = .ok (.aload_n 0, 1) by decide +kernel))),
  List.forall_mem_cons.mpr ⟨(xOK_pure (xs_iload_n (k := 1) rfl (show decode cX4_takesThing 90 = .ok (.iload_n 1, 1) by decide +kernel))),
  List.forall_mem_cons.mpr ⟨(xOK_pure (xs_bipush (n := 33) (show decode cX4_takesThing 91 = .ok (.bipush 33, 2) by decide +kernel) (by decide))),
  List.forall_mem_cons.mpr ⟨(xOK_pure (xs_icmp_ne (show decode cX4_takesThing 93 = .ok (.if_icmp .ne 8, 3) by decide +kernel) (by decide))),
  List.forall_mem_cons.mpr ⟨(xOK_pure (xs_bipush (n := 33) (show decode cX4_takesThing 96 = .ok (.bipush 33, 2) by decide +kernel) (by decide))),
  List.forall_mem_cons.mpr ⟨(xOK_pure (xs_goto (show decode cX4_takesThing 98 = .ok (.goto 5, 3) by decide +kernel) (by decide))),
  List.forall_mem_cons.mpr ⟨(xOK_pure (xs_bipush (n := 126) (show decode cX4_takesThing 101 = .ok (.bipush 126, 2) by decide +kernel) (by decide))),
  List.forall_mem_cons.mpr ⟨(xcm mi_58 ⟨⟨(by decide +kernel), (by decide +kernel), (by decide +kernel)⟩, (by decide), xw_979, xw_124, Or.inl ⟨rfl, _, _, _, _, (show decode cX4_takesThing 103 = .ok (.invokevirtual 101, 3) by decide +kernel), xw_976, xw_978, xw_12, rfl⟩⟩),
  List.forall_mem_cons.mpr ⟨(xOK_pure (xs_aload_n (k := 0) rfl (show decode cX4_takesThing 106 = .ok (.aload_n 0, 1) by decide +kernel))),
  List.forall_mem_cons.mpr ⟨(xOK_pure (xs_iconst (n := 1) (show decode cX4_takesThing 107 = .ok (.iconst 1, 1) by decide +kernel) (by decide))),
  List.forall_mem_cons.mpr ⟨(xs_putf (k := 9) xcl_4 (by decide) rfl (show decode cX4_takesThing 108 = .ok (.putfield 52, 3) by decide +kernel) xw_424),
  List.forall_mem_cons.mpr ⟨(xOK_pure (xs_goto (show decode cX4_takesThing 111 = .ok (.goto 54, 3) by decide +kernel) (by decide))),
  List.forall_mem_cons.mpr ⟨(xOK_pure (xs_iload_n (k := 1) rfl (show decode cX4_takesThing 114 = .ok (.iload_n 1, 1) by decide +kernel))),
  (fun _ h => absurd h List.not_mem_nil)⟩⟩⟩⟩⟩⟩⟩⟩⟩⟩⟩⟩⟩⟩⟩⟩⟩⟩⟩⟩
def pX4_takesThing_3 (ev : xEv) : List (Nat × xEn) := [(115, .inl (xop (xf_push (.int 40) 2))), (117, .inl (xop (xf_icmp_ne 163))), (120, .inl (xop (xf_aload 0 1))), (121, .inl (xop (xf_getf 4 5))), (124, .inl (xop (xf_push (.int 60) 2))), (126, .inl (xop (xf_icmp_ge 163))), (129, .inl (xop (xf_aload 0 1))), (130, .inl (xop (xf_push (.int 40) 2))), (132, .inr (.inl (0, 58, 1, 4))), (135, .inl (xop (xf_aload 0 1))), (136, .inl (xop xf_dup)), (137, .inl (xop (xf_getf 4 5))), (140, .inl (xop (xf_push (.int 1) 1))), (141, .inl (xop (xf_bin (fun x y => x + y)))), (142, .inl (xo_putf 4 5 .int)), (145, .inl (xop (xf_aload 0 1))), (146, .inl (xop (xf_getf 4 4))), (149, .inl (xop (xf_aload 0 1))), (150, .inl (xop (xf_getf 4 5))), (153, .inl (xop (xf_push (.int 0) 1)))]
set_option maxRecDepth 20000 in
theorem okpX4_takesThing_3 (ev : xEv) : ∀ q ∈ pX4_takesThing_3 ev, xEnOK ev xmi yX4_takesThing.cls yX4_takesThing.name cX4_takesThing 3 (some .boolean) q :=
  List.forall_mem_cons.mpr ⟨(xOK_pure (xs_bipush (n := 40) (show decode cX4_takesThing 115 = .ok (.bipush 40, 2) by decide +kernel) (by decide))),
  List.forall_mem_cons.mpr ⟨(xOK_pure (xs_icmp_ne (show decode cX4_takesThing 117 = .ok (.if_icmp .ne 46, 3) by decide +kernel) (by decide))),
  List.forall_mem_cons.mpr ⟨(xOK_pure (xs_aload_n (k := 0) rfl (show decode cX4_takesThing 120 = .ok (.aload_n 0, 1) by decide +kernel))),
  List.forall_mem_cons.mpr ⟨(xOK_pure (xs_getf xcl_4 (by decide) (show decode cX4_takesThing 121 = .ok (.getfield 61, 3) by decide +kernel) xw_420)),
  List.forall_mem_cons.mpr ⟨(xOK_pure (xs_bipush (n := 60) (show decode cX4_takesThing 124 = .ok (.bipush 60, 2) by decide +kernel) (by decide))),
  List.forall_mem_cons.mpr ⟨(xOK_pure (xs_icmp_ge (show decode cX4_takesThing 126 = .ok (.if_icmp .ge 37, 3) by decide +kernel) (by decide))),
  List.forall_mem_cons.mpr ⟨(xOK_pure (xs_aload_n (k := 0) rfl (show decode cX4_takesThing 129 = .ok (.aload_n 0, 1) by decide +kernel))),
  List.forall_mem_cons.mpr ⟨(xOK_pure (xs_bipush (n := 40) (show decode cX4_takesThing 130 = .ok (.bipush 40, 2) by decide +kernel) (by decide))),
  List.forall_mem_cons.mpr ⟨(xcm mi_58 ⟨⟨(by decide +kernel), (by decide +kernel), (by decide +kernel)⟩, (by decide), xw_979, xw_124, Or.inl ⟨rfl, _, _, _, _, (show decode cX4_takesThing 132 = .ok (.invokevirtual 101, 3) by decide +kernel), xw_976, xw_978, xw_12, rfl⟩⟩),
  List.forall_mem_cons.mpr ⟨(xOK_pure (xs_aload_n (k := 0) rfl (show decode cX4_takesThing 135 = .ok (.aload_n 0, 1) by decide +kernel))),
  List.forall_mem_cons.mpr ⟨(xOK_pure (xs_dup (show decode cX4_takesThing 136 = .ok (.dup, 1) by decide +kernel))),
  List.forall_mem_cons.mpr ⟨(xOK_pure (xs_getf xcl_4 (by decide) (show decode cX4_takesThing 137 = .ok (.getfield 61, 3) by decide +kernel) xw_420)),
  List.forall_mem_cons.mpr ⟨(xOK_pure (xs_iconst (n := 1) (show decode cX4_takesThing 140 = .ok (.iconst 1, 1) by decide +kernel) (by decide))),
  List.forall_mem_cons.mpr ⟨(xOK_pure (xs_iadd (show decode cX4_takesThing 141 = .ok (.iadd, 1) by decide +kernel))),
  List.forall_mem_cons.mpr ⟨(xs_putf (k := 5) xcl_4 (by decide) rfl (show decode cX4_takesThing 142 = .ok (.putfield 61, 3) by decide +kernel) xw_420),
  List.forall_mem_cons.mpr ⟨(xOK_pure (xs_aload_n (k := 0) rfl (show decode cX4_takesThing 145 = .ok (.aload_n 0, 1) by decide +kernel))),
  List.forall_mem_cons.mpr ⟨(xOK_pure (xs_getf xcl_4 (by decide) (show decode cX4_takesThing 146 = .ok (.getfield 18, 3) by decide +kernel) xw_419)),
  List.forall_mem_cons.mpr ⟨(xOK_pure (xs_aload_n (k := 0) rfl (show decode cX4_takesThing 149 = .ok (.aload_n 0, 1) by decide +kernel))),
  List.forall_mem_cons.mpr ⟨(xOK_pure (xs_getf xcl_4 (by decide) (show decode cX4_takesThing 150 = .ok (.getfield 61, 3) by decide +kernel) xw_420)),
  List.forall_mem_cons.mpr ⟨(xOK_pure (xs_iconst (n := 0) (show decode cX4_takesThing 153 = .ok (.iconst 0, 1) by decide +kernel) (by decide))),
  (fun _ h => absurd h List.not_mem_nil)⟩⟩⟩⟩⟩⟩⟩⟩⟩⟩⟩⟩⟩⟩⟩⟩⟩⟩⟩⟩
def pX4_takesThing_4 (ev : xEv) : List (Nat × xEn) := [(154, .inl (xo_ast (ev.1 2) (vp_nar .boolean))), (155, .inl (xop (xf_aload 0 1))), (156, .inl (xop (xf_push (.int 1) 1))), (157, .inl (xo_putf 4 9 .int)), (160, .inl (xop (xf_goto 165))), (163, .inl (xop (xf_push (.int 0) 1))), (164, .inr (.inr 4)), (165, .inl (xop (xf_push (.int 1) 1))), (166, .inr (.inr 4))]
set_option maxRecDepth 20000 in
theorem okpX4_takesThing_4 (ev : xEv) : ∀ q ∈ pX4_takesThing_4 ev, xEnOK ev xmi yX4_takesThing.cls yX4_takesThing.name cX4_takesThing 3 (some .boolean) q :=
  List.forall_mem_cons.mpr ⟨(xs_zast (show decode cX4_takesThing 154 = .ok (.bastore, 1) by decide +kernel)),
  List.forall_mem_cons.mpr ⟨(xOK_pure (xs_aload_n (k := 0) rfl (show decode cX4_takesThing 155 = .ok (.aload_n 0, 1) by decide +kernel))),
  List.forall_mem_cons.mpr ⟨(xOK_pure (xs_iconst (n := 1) (show decode cX4_takesThing 156 = .ok (.iconst 1, 1) by decide +kernel) (by decide))),
  List.forall_mem_cons.mpr ⟨(xs_putf (k := 9) xcl_4 (by decide) rfl (show decode cX4_takesThing 157 = .ok (.putfield 52, 3) by decide +kernel) xw_424),
  List.forall_mem_cons.mpr ⟨(xOK_pure (xs_goto (show decode cX4_takesThing 160 = .ok (.goto 5, 3) by decide +kernel) (by decide))),
  List.forall_mem_cons.mpr ⟨(xOK_pure (xs_iconst (n := 0) (show decode cX4_takesThing 163 = .ok (.iconst 0, 1) by decide +kernel) (by decide))),
  List.forall_mem_cons.mpr ⟨(Or.inr (Or.inr (Or.inr (Or.inr (Or.inl ⟨rfl, (show decode cX4_takesThing 164 = .ok (.ireturn, 1) by decide +kernel), rfl⟩))))),
  List.forall_mem_cons.mpr ⟨(xOK_pure (xs_iconst (n := 1) (show decode cX4_takesThing 165 = .ok (.iconst 1, 1) by decide +kernel) (by decide))),
  List.forall_mem_cons.mpr ⟨(Or.inr (Or.inr (Or.inr (Or.inr (Or.inl ⟨rfl, (show decode cX4_takesThing 166 = .ok (.ireturn, 1) by decide +kernel), rfl⟩))))),
  (fun _ h => absurd h List.not_mem_nil)⟩⟩⟩⟩⟩⟩⟩⟩⟩
def pX4_takesThing (ev : xEv) : List (Nat × xEn) := pX4_takesThing_0 ev ++ (pX4_takesThing_1 ev ++ (pX4_takesThing_2 ev ++ (pX4_takesThing_3 ev ++ (pX4_takesThing_4 ev))))
theorem okpX4_takesThing (ev : xEv) : ∀ q ∈ pX4_takesThing ev, xEnOK ev xmi yX4_takesThing.cls yX4_takesThing.name cX4_takesThing 3 (some .boolean) q := List.forall_mem_append.mpr ⟨okpX4_takesThing_0 ev, List.forall_mem_append.mpr ⟨okpX4_takesThing_1 ev, List.forall_mem_append.mpr ⟨okpX4_takesThing_2 ev, List.forall_mem_append.mpr ⟨okpX4_takesThing_3 ev, okpX4_takesThing_4 ev⟩⟩⟩⟩
theorem omX4_takesThing (ev : xEv) : xMethOK ev xmi yX4_takesThing.cls yX4_takesThing.name 47 (pX4_takesThing ev) := xMethOK.of mi_47 (by decide +kernel) (okpX4_takesThing ev)
def pX4_takesBehindThing_0 (ev : xEv) : List (Nat × xEn) := [(0, .inl (xop (xf_iload 1 1))), (1, .inr (.inl (1, 61, 1, 4))), (4, .inl (xop (xf_if_eq 16))), (7, .inl (xop (xf_aload 0 1))), (8, .inl (xop (xf_iload 1 1))), (9, .inl (xop (xf_push (.int 48) 2))), (11, .inl (xop (xf_bin (fun x y => x - y)))), (12, .inr (.inl (0, 49, 1, 4))), (15, .inr (.inr 4)), (16, .inl (xop (xf_iload 1 1))), (17, .inl (xop (xf_push (.int 41) 2))), (19, .inl (xop (xf_icmp_ne 27))), (22, .inl (xop (xf_aload 0 1))), (23, .inr (.inl (0, 51, 0, 4))), (26, .inr (.inr 4)), (27, .inl (xop (xf_iload 1 1))), (28, .inl (xop (xf_push (.int 58) 2))), (30, .inl (xop (xf_icmp_eq 39))), (33, .inl (xop (xf_iload 1 1))), (34, .inl (xop (xf_push (.int 63) 2)))]
set_option maxRecDepth 20000 in
theorem okpX4_takesBehindThing_0 (ev : xEv) : ∀ q ∈ pX4_takesBehindThing_0 ev, xEnOK ev xmi yX4_takesBehindThing.cls yX4_takesBehindThing.name cX4_takesBehindThing 2 (some .boolean) q :=
  List.forall_mem_cons.mpr ⟨(xOK_pure (xs_iload_n (k := 1) rfl (show decode cX4_takesBehindThing 0 = .ok (.iload_n 1, 1) by decide +kernel))),
  List.forall_mem_cons.mpr ⟨(xcm mi_61 ⟨⟨(by decide +kernel), (by decide +kernel), (by decide +kernel)⟩, (by decide), xw_889, xw_124, Or.inr (Or.inl ⟨rfl, _, (show decode cX4_takesBehindThing 1 = .ok (.invokestatic 89, 3) by decide +kernel), xw_887, xw_888⟩)⟩),
  List.forall_mem_cons.mpr ⟨(xOK_pure (xs_if_eq (show decode cX4_takesBehindThing 4 = .ok (.ifCond .eq 12, 3) by decide +kernel) (by decide))),
  List.forall_mem_cons.mpr ⟨(xOK_pure (xs_aload_n (k := 0) rfl (show decode cX4_takesBehindThing 7 = .ok (.aload_n 0, 1) by decide +kernel))),
  List.forall_mem_cons.mpr ⟨(xOK_pure (xs_iload_n (k := 1) rfl (show decode cX4_takesBehindThing 8 = .ok (.iload_n 1, 1) by decide +kernel))),
  List.forall_mem_cons.mpr ⟨(xOK_pure (xs_bipush (n := 48) (show decode cX4_takesBehindThing 9 = .ok (.bipush 48, 2) by decide +kernel) (by decide))),
  List.forall_mem_cons.mpr ⟨(xOK_pure (xs_isub (show decode cX4_takesBehindThing 11 = .ok (.isub, 1) by decide +kernel))),
  List.forall_mem_cons.mpr ⟨(xcm mi_49 ⟨⟨(by decide +kernel), (by decide +kernel), (by decide +kernel)⟩, (by decide), xw_987, xw_124, Or.inl ⟨rfl, _, _, _, _, (show decode cX4_takesBehindThing 12 = .ok (.invokevirtual 104, 3) by decide +kernel), xw_984, xw_986, xw_14, rfl⟩⟩),
  List.forall_mem_cons.mpr ⟨(Or.inr (Or.inr (Or.inr (Or.inr (Or.inl ⟨rfl, (show decode cX4_takesBehindThing 15 = .ok (.ireturn, 1) by decide +kernel), rfl⟩))))),
  List.forall_mem_cons.mpr ⟨(xOK_pure (xs_iload_n (k := 1) rfl (show decode cX4_takesBehindThing 16 = .ok (.iload_n 1, 1) by decide +kernel))),
  List.forall_mem_cons.mpr ⟨(xOK_pure (xs_bipush (n := 41) (show decode cX4_takesBehindThing 17 = .ok (.bipush 41, 2) by decide +kernel) (by decide))),
  List.forall_mem_cons.mpr ⟨(xOK_pure (xs_icmp_ne (show decode cX4_takesBehindThing 19 = .ok (.if_icmp .ne 8, 3) by decide +kernel) (by decide))),
  List.forall_mem_cons.mpr ⟨(xOK_pure (xs_aload_n (k := 0) rfl (show decode cX4_takesBehindThing 22 = .ok (.aload_n 0, 1) by decide +kernel))),
  List.forall_mem_cons.mpr ⟨(xcm mi_51 ⟨⟨(by decide +kernel), (by decide +kernel), (by decide +kernel)⟩, (by decide), xw_991, xw_124, Or.inl ⟨rfl, _, _, _, _, (show decode cX4_takesBehindThing 23 = .ok (.invokevirtual 107, 3) by decide +kernel), xw_988, xw_990, xw_15, rfl⟩⟩),
  List.forall_mem_cons.mpr ⟨(Or.inr (Or.inr (Or.inr (Or.inr (Or.inl ⟨rfl, (show decode cX4_takesBehindThing 26 = .ok (.ireturn, 1) by decide +kernel), rfl⟩))))),
  List.forall_mem_cons.mpr ⟨(xOK_pure (xs_iload_n (k := 1) rfl (show decode cX4_takesBehindThing 27 = .ok (.iload_n 1, 1) by decide +kernel))),
  List.forall_mem_cons.mpr ⟨(xOK_pure (xs_bipush (n := 58) (show decode cX4_takesBehindThing 28 = .ok (.bipush 58, 2) by decide +kernel) (by decide))),
  List.forall_mem_cons.mpr ⟨(xOK_pure (xs_icmp_eq (show decode cX4_takesBehindThing 30 = .ok (.if_icmp .eq 9, 3) by decide +kernel) (by decide))),
  List.forall_mem_cons.mpr ⟨(xOK_pure (xs_iload_n (k := 1) rfl (show decode cX4_takesBehindThing 33 = .ok (.iload_n 1, 1) by decide +kernel))),
  List.forall_mem_cons.mpr ⟨(xOK_pure (xs_bipush (n := 63) (show decode cX4_takesBehindThing 34 = .ok (.bipush 63, 2) by decide +kernel) (by decide))),
  (fun _ h => absurd h List.not_mem_nil)⟩⟩⟩⟩⟩⟩⟩⟩⟩⟩⟩⟩⟩⟩⟩⟩⟩⟩⟩⟩
def pX4_takesBehindThing_1 (ev : xEv) : List (Nat × xEn) := [(36, .inl (xop (xf_icmp_ne 79))), (39, .inl (xop (xf_aload 0 1))), (40, .inl (xop (xf_getf 4 5))), (43, .inl (xop (xf_if_ne 77))), (46, .inl (xop (xf_aload 0 1))), (47, .inl (xop (xf_getf 4 8))), (50, .inl (xop (xf_push (.int 2) 1))), (51, .inl (xop (xf_icmp_ne 65))), (54, .inl (xop (xf_aload 0 1))), (55, .inl (xop (xf_iload 1 1))), (56, .inr (.inl (0, 53, 1, 4))), (59, .inl (xop (xf_if_eq 77))), (62, .inl (xop (xf_goto 73))), (65, .inl (xop (xf_aload 0 1))), (66, .inl (xop (xf_iload 1 1))), (67, .inr (.inl (0, 52, 1, 4))), (70, .inl (xop (xf_if_eq 77))), (73, .inl (xop (xf_push (.int 1) 1))), (74, .inl (xop (xf_goto 78))), (77, .inl (xop (xf_push (.int 0) 1)))]
set_option maxRecDepth 20000 in
theorem okpX4_takesBehindThing_1 (ev : xEv) : ∀ q ∈ pX4_takesBehindThing_1 ev, xEnOK ev xmi yX4_takesBehindThing.cls yX4_takesBehindThing.name cX4_takesBehindThing 2 (some .boolean) q :=
  List.forall_mem_cons.mpr ⟨(xOK_pure (xs_icmp_ne (show decode cX4_takesBehindThing 36 = .ok (.if_icmp .ne 43, 3) by decide +kernel) (by decide))),
  List.forall_mem_cons.mpr ⟨(xOK_pure (xs_aload_n (k := 0) rfl (show decode cX4_takesBehindThing 39 = .ok (.aload_n 0, 1) by decide +kernel))),
  List.forall_mem_cons.mpr ⟨(xOK_pure (xs_getf xcl_4 (by decide) (show decode cX4_takesBehindThing 40 = .ok (.getfield 61, 3) by decide +kernel) xw_420)),
  List.forall_mem_cons.mpr ⟨(xOK_pure (xs_if_ne (show decode cX4_takesBehindThing 43 = .ok (.ifCond .ne 34, 3) by decide +kernel) (by decide))),
  List.forall_mem_cons.mpr ⟨(xOK_pure (xs_aload_n (k := 0) rfl (show decode cX4_takesBehindThing 46 = .ok (.aload_n 0, 1) by decide +kernel))),
  List.forall_mem_cons.mpr ⟨(xOK_pure (xs_getf xcl_4 (by decide) (show decode cX4_takesBehindThing 47 = .ok (.getfield 48, 3) by decide +kernel) xw_423)),
  List.forall_mem_cons.mpr ⟨(xOK_pure (xs_iconst (n := 2) (show decode cX4_takesBehindThing 50 = .ok (.iconst 2, 1) by decide +kernel) (by decide))),
  List.forall_mem_cons.mpr ⟨(xOK_pure (xs_icmp_ne (show decode cX4_takesBehindThing 51 = .ok (.if_icmp .ne 14, 3) by decide +kernel) (by decide))),
  List.forall_mem_cons.mpr ⟨(xOK_pure (xs_aload_n (k := 0) rfl (show decode cX4_takesBehindThing 54 = .ok (.aload_n 0, 1) by decide +kernel))),
  List.forall_mem_cons.mpr ⟨(xOK_pure (xs_iload_n (k := 1) rfl (show decode cX4_takesBehindThing 55 = .ok (.iload_n 1, 1) by decide +kernel))),
  List.forall_mem_cons.mpr ⟨(xcm mi_53 ⟨⟨(by decide +kernel), (by decide +kernel), (by decide +kernel)⟩, (by decide), xw_1006, xw_124, Or.inl ⟨rfl, _, _, _, _, (show decode cX4_takesBehindThing 56 = .ok (.invokevirtual 110, 3) by decide +kernel), xw_1003, xw_1005, xw_18, rfl⟩⟩),
  List.forall_mem_cons.mpr ⟨(xOK_pure (xs_if_eq (show decode cX4_takesBehindThing 59 = .ok (.ifCond .eq 18, 3) by decide +kernel) (by decide))),
  List.forall_mem_cons.mpr ⟨(xOK_pure (xs_goto (show decode cX4_takesBehindThing 62 = .ok (.goto 11, 3) by decide +kernel) (by decide))),
  List.forall_mem_cons.mpr ⟨(xOK_pure (xs_aload_n (k := 0) rfl (show decode cX4_takesBehindThing 65 = .ok (.aload_n 0, 1) by decide +kernel))),
  List.forall_mem_cons.mpr ⟨(xOK_pure (xs_iload_n (k := 1) rfl (show decode cX4_takesBehindThing 66 = .ok (.iload_n 1, 1) by decide +kernel))),
  List.forall_mem_cons.mpr ⟨(xcm mi_52 ⟨⟨(by decide +kernel), (by decide +kernel), (by decide +kernel)⟩, (by decide), xw_1014, xw_124, Or.inl ⟨rfl, _, _, _, _, (show decode cX4_takesBehindThing 67 = .ok (.invokevirtual 113, 3) by decide +kernel), xw_1011, xw_1013, xw_20, rfl⟩⟩),
  List.forall_mem_cons.mpr ⟨(xOK_pure (xs_if_eq (show decode cX4_takesBehindThing 70 = .ok (.ifCond .eq 7, 3) by decide +kernel) (by decide))),
  List.forall_mem_cons.mpr ⟨(xOK_pure (xs_iconst (n := 1) (show decode cX4_takesBehindThing 73 = .ok (.iconst 1, 1) by decide +kernel) (by decide))),
  List.forall_mem_cons.mpr ⟨(xOK_pure (xs_goto (show decode cX4_takesBehindThing 74 = .ok (.goto 4, 3) by decide +kernel) (by decide))),
  List.forall_mem_cons.mpr ⟨(xOK_pure (xs_iconst (n := 0) (show decode cX4_takesBehindThing 77 = .ok (.iconst 0, 1) by decide +kernel) (by decide))),
  (fun _ h => absurd h List.not_mem_nil)⟩⟩⟩⟩⟩⟩⟩⟩⟩⟩⟩⟩⟩⟩⟩⟩⟩⟩⟩⟩
def pX4_takesBehindThing_2 (ev : xEv) : List (Nat × xEn) := [(78, .inr (.inr 4)), (79, .inl (xop (xf_aload 0 1))), (80, .inl (xop (xf_iload 1 1))), (81, .inr (.inl (0, 54, 1, 4))), (84, .inr (.inr 4))]
set_option maxRecDepth 20000 in
theorem okpX4_takesBehindThing_2 (ev : xEv) : ∀ q ∈ pX4_takesBehindThing_2 ev, xEnOK ev xmi yX4_takesBehindThing.cls yX4_takesBehindThing.name cX4_takesBehindThing 2 (some .boolean) q :=
  List.forall_mem_cons.mpr ⟨(Or.inr (Or.inr (Or.inr (Or.inr (Or.inl ⟨rfl, (show decode cX4_takesBehindThing 78 = .ok (.ireturn, 1) by decide +kernel), rfl⟩))))),
  List.forall_mem_cons.mpr ⟨(xOK_pure (xs_aload_n (k := 0) rfl (show decode cX4_takesBehindThing 79 = .ok (.aload_n 0, 1) by decide +kernel))),
  List.forall_mem_cons.mpr ⟨(xOK_pure (xs_iload_n (k := 1) rfl (show decode cX4_takesBehindThing 80 = .ok (.iload_n 1, 1) by decide +kernel))),
  List.forall_mem_cons.mpr ⟨(xcm mi_54 ⟨⟨(by decide +kernel), (by decide +kernel), (by decide +kernel)⟩, (by decide), xw_1018, xw_124, Or.inl ⟨rfl, _, _, _, _, (show decode cX4_takesBehindThing 81 = .ok (.invokevirtual 116, 3) by decide +kernel), xw_1015, xw_1017, xw_21, rfl⟩⟩),
  List.forall_mem_cons.mpr ⟨(Or.inr (Or.inr (Or.inr (Or.inr (Or.inl ⟨rfl, (show decode cX4_takesBehindThing 84 = .ok (.ireturn, 1) by decide +kernel), rfl⟩))))),
  (fun _ h => absurd h List.not_mem_nil)⟩⟩⟩⟩⟩
def pX4_takesBehindThing (ev : xEv) : List (Nat × xEn) := pX4_takesBehindThing_0 ev ++ (pX4_takesBehindThing_1 ev ++ (pX4_takesBehindThing_2 ev))
theorem okpX4_takesBehindThing (ev : xEv) : ∀ q ∈ pX4_takesBehindThing ev, xEnOK ev xmi yX4_takesBehindThing.cls yX4_takesBehindThing.name cX4_takesBehindThing 2 (some .boolean) q := List.forall_mem_append.mpr ⟨okpX4_takesBehindThing_0 ev, List.forall_mem_append.mpr ⟨okpX4_takesBehindThing_1 ev, okpX4_takesBehindThing_2 ev⟩⟩
theorem omX4_takesBehindThing (ev : xEv) : xMethOK ev xmi yX4_takesBehindThing.cls yX4_takesBehindThing.name 48 (pX4_takesBehindThing ev) := xMethOK.of mi_48 (by decide +kernel) (okpX4_takesBehindThing ev)
def pX4_takesNextDigit_0 (ev : xEv) : List (Nat × xEn) := [(0, .inl (xop (xf_aload 0 1))), (1, .inl (xop (xf_getf 4 6))), (4, .inl (xop (xf_push (.int 3) 1))), (5, .inl (xop (xf_icmp_ge 16))), (8, .inl (xop (xf_aload 0 1))), (9, .inl (xop (xf_getf 4 1))), (12, .inl (xop (xf_push (.int 1) 1))), (13, .inl (xop (xf_icmp_ge 18))), (16, .inl (xop (xf_push (.int 0) 1))), (17, .inr (.inr 4)), (18, .inl (xop (xf_aload 0 1))), (19, .inl (xop (xf_getf 4 0))), (22, .inl (xop (xf_aload 0 1))), (23, .inl (xop (xf_getf 4 1))), (26, .inl (xop (xf_push (.int 1) 1))), (27, .inl (xop (xf_bin (fun x y => x - y)))), (28, .inl (xop (xf_aload 0 1))), (29, .inl (xop (xf_getf 4 0))), (32, .inl (xop (xf_aload 0 1))), (33, .inl (xop (xf_getf 4 1)))]
set_option maxRecDepth 20000 in
theorem okpX4_takesNextDigit_0 (ev : xEv) : ∀ q ∈ pX4_takesNextDigit_0 ev, xEnOK ev xmi yX4_takesNextDigit.cls yX4_takesNextDigit.name cX4_takesNextDigit 2 (some .boolean) q :=
  List.forall_mem_cons.mpr ⟨(xOK_pure (xs_aload_n (k := 0) rfl (show decode cX4_takesNextDigit 0 = .ok (.aload_n 0, 1) by decide +kernel))),
  List.forall_mem_cons.mpr ⟨(xOK_pure (xs_getf xcl_4 (by decide) (show decode cX4_takesNextDigit 1 = .ok (.getfield 64, 3) by decide +kernel) xw_421)),
  List.forall_mem_cons.mpr ⟨(xOK_pure (xs_iconst (n := 3) (show decode cX4_takesNextDigit 4 = .ok (.iconst 3, 1) by decide +kernel) (by decide))),
  List.forall_mem_cons.mpr ⟨(xOK_pure (xs_icmp_ge (show decode cX4_takesNextDigit 5 = .ok (.if_icmp .ge 11, 3) by decide +kernel) (by decide))),
  List.forall_mem_cons.mpr ⟨(xOK_pure (xs_aload_n (k := 0) rfl (show decode cX4_takesNextDigit 8 = .ok (.aload_n 0, 1) by decide +kernel))),
  List.forall_mem_cons.mpr ⟨(xOK_pure (xs_getf xcl_4 (by decide) (show decode cX4_takesNextDigit 9 = .ok (.getfield 55, 3) by decide +kernel) xw_415)),
  List.forall_mem_cons.mpr ⟨(xOK_pure (xs_iconst (n := 1) (show decode cX4_takesNextDigit 12 = .ok (.iconst 1, 1) by decide +kernel) (by decide))),
  List.forall_mem_cons.mpr ⟨(xOK_pure (xs_icmp_ge (show decode cX4_takesNextDigit 13 = .ok (.if_icmp .ge 5, 3) by decide +kernel) (by decide))),
  List.forall_mem_cons.mpr ⟨(xOK_pure (xs_iconst (n := 0) (show decode cX4_takesNextDigit 16 = .ok (.iconst 0, 1) by decide +kernel) (by decide))),
  List.forall_mem_cons.mpr ⟨(Or.inr (Or.inr (Or.inr (Or.inr (Or.inl ⟨rfl, (show decode cX4_takesNextDigit 17 = .ok (.ireturn, 1) by decide +kernel), rfl⟩))))),
  List.forall_mem_cons.mpr ⟨(xOK_pure (xs_aload_n (k := 0) rfl (show decode cX4_takesNextDigit 18 = .ok (.aload_n 0, 1) by decide +kernel))),
  List.forall_mem_cons.mpr ⟨(xOK_pure (xs_getf xcl_4 (by decide) (show decode cX4_takesNextDigit 19 = .ok (.getfield 9, 3) by decide +kernel) xw_413)),
  List.forall_mem_cons.mpr ⟨(xOK_pure (xs_aload_n (k := 0) rfl (show decode cX4_takesNextDigit 22 = .ok (.aload_n 0, 1) by decide +kernel))),
  List.forall_mem_cons.mpr ⟨(xOK_pure (xs_getf xcl_4 (by decide) (show decode cX4_takesNextDigit 23 = .ok (.getfield 55, 3) by decide +kernel) xw_415)),
  List.forall_mem_cons.mpr ⟨(xOK_pure (xs_iconst (n := 1) (show decode cX4_takesNextDigit 26 = .ok (.iconst 1, 1) by decide +kernel) (by decide))),
  List.forall_mem_cons.mpr ⟨(xOK_pure (xs_isub (show decode cX4_takesNextDigit 27 = .ok (.isub, 1) by decide +kernel))),
  List.forall_mem_cons.mpr ⟨(xOK_pure (xs_aload_n (k := 0) rfl (show decode cX4_takesNextDigit 28 = .ok (.aload_n 0, 1) by decide +kernel))),
  List.forall_mem_cons.mpr ⟨(xOK_pure (xs_getf xcl_4 (by decide) (show decode cX4_takesNextDigit 29 = .ok (.getfield 9, 3) by decide +kernel) xw_413)),
  List.forall_mem_cons.mpr ⟨(xOK_pure (xs_aload_n (k := 0) rfl (show decode cX4_takesNextDigit 32 = .ok (.aload_n 0, 1) by decide +kernel))),
  List.forall_mem_cons.mpr ⟨(xOK_pure (xs_getf xcl_4 (by decide) (show decode cX4_takesNextDigit 33 = .ok (.getfield 55, 3) by decide +kernel) xw_415)),
  (fun _ h => absurd h List.not_mem_nil)⟩⟩⟩⟩⟩⟩⟩⟩⟩⟩⟩⟩⟩⟩⟩⟩⟩⟩⟩⟩
def pX4_takesNextDigit_1 (ev : xEv) : List (Nat × xEn) := [(36, .inl (xop (xf_push (.int 1) 1))), (37, .inl (xop (xf_bin (fun x y => x - y)))), (38, .inl (xop (xf_ald (ev.1 0)))), (39, .inl (xop (xf_push (.int 10) 2))), (41, .inl (xop (xf_bin (fun x y => x * y)))), (42, .inl (xop (xf_iload 1 1))), (43, .inl (xop (xf_bin (fun x y => x + y)))), (44, .inl (xo_ast (ev.1 0) (fun x => x))), (45, .inl (xop (xf_aload 0 1))), (46, .inl (xop xf_dup)), (47, .inl (xop (xf_getf 4 6))), (50, .inl (xop (xf_push (.int 1) 1))), (51, .inl (xop (xf_bin (fun x y => x + y)))), (52, .inl (xo_putf 4 6 .int)), (55, .inl (xop (xf_push (.int 1) 1))), (56, .inr (.inr 4))]
set_option maxRecDepth 20000 in
theorem okpX4_takesNextDigit_1 (ev : xEv) : ∀ q ∈ pX4_takesNextDigit_1 ev, xEnOK ev xmi yX4_takesNextDigit.cls yX4_takesNextDigit.name cX4_takesNextDigit 2 (some .boolean) q :=
  List.forall_mem_cons.mpr ⟨(xOK_pure (xs_iconst (n := 1) (show decode cX4_takesNextDigit 36 = .ok (.iconst 1, 1) by decide +kernel) (by decide))),
  List.forall_mem_cons.mpr ⟨(xOK_pure (xs_isub (show decode cX4_takesNextDigit 37 = .ok (.isub, 1) by decide +kernel))),
  List.forall_mem_cons.mpr ⟨(xOK_pure (xs_iald (show decode cX4_takesNextDigit 38 = .ok (.iaload, 1) by decide +kernel))),
  List.forall_mem_cons.mpr ⟨(xOK_pure (xs_bipush (n := 10) (show decode cX4_takesNextDigit 39 = .ok (.bipush 10, 2) by decide +kernel) (by decide))),
  List.forall_mem_cons.mpr ⟨(xOK_pure (xs_imul (show decode cX4_takesNextDigit 41 = .ok (.imul, 1) by decide +kernel))),
  List.forall_mem_cons.mpr ⟨(xOK_pure (xs_iload_n (k := 1) rfl (show decode cX4_takesNextDigit 42 = .ok (.iload_n 1, 1) by decide +kernel))),
  List.forall_mem_cons.mpr ⟨(xOK_pure (xs_iadd (show decode cX4_takesNextDigit 43 = .ok (.iadd, 1) by decide +kernel))),
  List.forall_mem_cons.mpr ⟨(xs_iast (show decode cX4_takesNextDigit 44 = .ok (.iastore, 1) by decide +kernel)),
  List.forall_mem_cons.mpr ⟨(xOK_pure (xs_aload_n (k := 0) rfl (show decode cX4_takesNextDigit 45 = .ok (.aload_n 0, 1) by decide +kernel))),
  List.forall_mem_cons.mpr ⟨(xOK_pure (xs_dup (show decode cX4_takesNextDigit 46 = .ok (.dup, 1) by decide +kernel))),
  List.forall_mem_cons.mpr ⟨(xOK_pure (xs_getf xcl_4 (by decide) (show decode cX4_takesNextDigit 47 = .ok (.getfield 64, 3) by decide +kernel) xw_421)),
  List.forall_mem_cons.mpr ⟨(xOK_pure (xs_iconst (n := 1) (show decode cX4_takesNextDigit 50 = .ok (.iconst 1, 1) by decide +kernel) (by decide))),
  List.forall_mem_cons.mpr ⟨(xOK_pure (xs_iadd (show decode cX4_takesNextDigit 51 = .ok (.iadd, 1) by decide +kernel))),
  List.forall_mem_cons.mpr ⟨(xs_putf (k := 6) xcl_4 (by decide) rfl (show decode cX4_takesNextDigit 52 = .ok (.putfield 64, 3) by decide +kernel) xw_421),
  List.forall_mem_cons.mpr ⟨(xOK_pure (xs_iconst (n := 1) (show decode cX4_takesNextDigit 55 = .ok (.iconst 1, 1) by decide +kernel) (by decide))),
  List.forall_mem_cons.mpr ⟨(Or.inr (Or.inr (Or.inr (Or.inr (Or.inl ⟨rfl, (show decode cX4_takesNextDigit 56 = .ok (.ireturn, 1) by decide +kernel), rfl⟩))))),
  (fun _ h => absurd h List.not_mem_nil)⟩⟩⟩⟩⟩⟩⟩⟩⟩⟩⟩⟩⟩⟩⟩⟩
def pX4_takesNextDigit (ev : xEv) : List (Nat × xEn) := pX4_takesNextDigit_0 ev ++ (pX4_takesNextDigit_1 ev)
theorem okpX4_takesNextDigit (ev : xEv) : ∀ q ∈ pX4_takesNextDigit ev, xEnOK ev xmi yX4_takesNextDigit.cls yX4_takesNextDigit.name cX4_takesNextDigit 2 (some .boolean) q := List.forall_mem_append.mpr ⟨okpX4_takesNextDigit_0 ev, okpX4_takesNextDigit_1 ev⟩
theorem omX4_takesNextDigit (ev : xEv) : xMethOK ev xmi yX4_takesNextDigit.cls yX4_takesNextDigit.name 49 (pX4_takesNextDigit ev) := xMethOK.of mi_49 (by decide +kernel) (okpX4_takesNextDigit ev)
def pX4_takeNoDigits (ev : xEv) : List (Nat × xEn) := [(0, .inl (xop (xf_aload 0 1))), (1, .inl (xop (xf_push (.int 3) 1))), (2, .inl (xo_putf 4 6 .int)), (5, .inr (.inr 0))]
set_option maxRecDepth 20000 in
theorem okpX4_takeNoDigits (ev : xEv) : ∀ q ∈ pX4_takeNoDigits ev, xEnOK ev xmi yX4_takeNoDigits.cls yX4_takeNoDigits.name cX4_takeNoDigits 1 none q :=
  List.forall_mem_cons.mpr ⟨(xOK_pure (xs_aload_n (k := 0) rfl (show decode cX4_takeNoDigits 0 = .ok (.aload_n 0, 1) by decide +kernel))),
  List.forall_mem_cons.mpr ⟨(xOK_pure (xs_iconst (n := 3) (show decode cX4_takeNoDigits 1 = .ok (.iconst 3, 1) by decide +kernel) (by decide))),
  List.forall_mem_cons.mpr ⟨(xs_putf (k := 6) xcl_4 (by decide) rfl (show decode cX4_takeNoDigits 2 = .ok (.putfield 64, 3) by decide +kernel) xw_421),
  List.forall_mem_cons.mpr ⟨(Or.inl ⟨rfl, (show decode cX4_takeNoDigits 5 = .ok (.return_, 1) by decide +kernel), rfl⟩),
  (fun _ h => absurd h List.not_mem_nil)⟩⟩⟩⟩
theorem omX4_takeNoDigits (ev : xEv) : xMethOK ev xmi yX4_takeNoDigits.cls yX4_takeNoDigits.name 50 (pX4_takeNoDigits ev) := xMethOK.of mi_50 (by decide +kernel) (okpX4_takeNoDigits ev)
def pX4_takesClose (ev : xEv) : List (Nat × xEn) := [(0, .inl (xop (xf_aload 0 1))), (1, .inl (xop (xf_getf 4 5))), (4, .inl (xop (xf_if_ne 9))), (7, .inl (xop (xf_push (.int 0) 1))), (8, .inr (.inr 4)), (9, .inl (xop (xf_aload 0 1))), (10, .inl (xop (xf_push (.int 1) 1))), (11, .inr (.inl (0, 56, 1, 4))), (14, .inl (xop (xf_aload 0 1))), (15, .inr (.inl (0, 59, 0, 4))), (18, .inl (xop (xf_aload 0 1))), (19, .inl (xop xf_dup)), (20, .inl (xop (xf_getf 4 5))), (23, .inl (xop (xf_push (.int 1) 1))), (24, .inl (xop (xf_bin (fun x y => x - y)))), (25, .inl (xo_putf 4 5 .int)), (28, .inl (xop (xf_aload 0 1))), (29, .inr (.inl (0, 50, 0, 4))), (32, .inl (xop (xf_push (.int 1) 1))), (33, .inr (.inr 4))]
set_option maxRecDepth 20000 in
theorem okpX4_takesClose (ev : xEv) : ∀ q ∈ pX4_takesClose ev, xEnOK ev xmi yX4_takesClose.cls yX4_takesClose.name cX4_takesClose 1 (some .boolean) q :=
  List.forall_mem_cons.mpr ⟨(xOK_pure (xs_aload_n (k := 0) rfl (show decode cX4_takesClose 0 = .ok (.aload_n 0, 1) by decide +kernel))),
  List.forall_mem_cons.mpr ⟨(xOK_pure (xs_getf xcl_4 (by decide) (show decode cX4_takesClose 1 = .ok (.getfield 61, 3) by decide +kernel) xw_420)),
  List.forall_mem_cons.mpr ⟨(xOK_pure (xs_if_ne (show decode cX4_takesClose 4 = .ok (.ifCond .ne 5, 3) by decide +kernel) (by decide))),
  List.forall_mem_cons.mpr ⟨(xOK_pure (xs_iconst (n := 0) (show decode cX4_takesClose 7 = .ok (.iconst 0, 1) by decide +kernel) (by decide))),
  List.forall_mem_cons.mpr ⟨(Or.inr (Or.inr (Or.inr (Or.inr (Or.inl ⟨rfl, (show decode cX4_takesClose 8 = .ok (.ireturn, 1) by decide +kernel), rfl⟩))))),
  List.forall_mem_cons.mpr ⟨(xOK_pure (xs_aload_n (k := 0) rfl (show decode cX4_takesClose 9 = .ok (.aload_n 0, 1) by decide +kernel))),
  List.forall_mem_cons.mpr ⟨(xOK_pure (xs_iconst (n := 1) (show decode cX4_takesClose 10 = .ok (.iconst 1, 1) by decide +kernel) (by decide))),
  List.forall_mem_cons.mpr ⟨(xcm mi_56 ⟨⟨(by decide +kernel), (by decide +kernel), (by decide +kernel)⟩, (by decide), xw_995, xw_124, Or.inl ⟨rfl, _, _, _, _, (show decode cX4_takesClose 11 = .ok (.invokevirtual 42, 3) by decide +kernel), xw_992, xw_994, xw_16, rfl⟩⟩),
  List.forall_mem_cons.mpr ⟨(xOK_pure (xs_aload_n (k := 0) rfl (show decode cX4_takesClose 14 = .ok (.aload_n 0, 1) by decide +kernel))),
  List.forall_mem_cons.mpr ⟨(xcm mi_59 ⟨⟨(by decide +kernel), (by decide +kernel), (by decide +kernel)⟩, (by decide), xw_1002, xw_124, Or.inl ⟨rfl, _, _, _, _, (show decode cX4_takesClose 15 = .ok (.invokevirtual 119, 3) by decide +kernel), xw_999, xw_1001, xw_17, rfl⟩⟩),
  List.forall_mem_cons.mpr ⟨(xOK_pure (xs_aload_n (k := 0) rfl (show decode cX4_takesClose 18 = .ok (.aload_n 0, 1) by decide +kernel))),
  List.forall_mem_cons.mpr ⟨(xOK_pure (xs_dup (show decode cX4_takesClose 19 = .ok (.dup, 1) by decide +kernel))),
  List.forall_mem_cons.mpr ⟨(xOK_pure (xs_getf xcl_4 (by decide) (show decode cX4_takesClose 20 = .ok (.getfield 61, 3) by decide +kernel) xw_420)),
  List.forall_mem_cons.mpr ⟨(xOK_pure (xs_iconst (n := 1) (show decode cX4_takesClose 23 = .ok (.iconst 1, 1) by decide +kernel) (by decide))),
  List.forall_mem_cons.mpr ⟨(xOK_pure (xs_isub (show decode cX4_takesClose 24 = .ok (.isub, 1) by decide +kernel))),
  List.forall_mem_cons.mpr ⟨(xs_putf (k := 5) xcl_4 (by decide) rfl (show decode cX4_takesClose 25 = .ok (.putfield 61, 3) by decide +kernel) xw_420),
  List.forall_mem_cons.mpr ⟨(xOK_pure (xs_aload_n (k := 0) rfl (show decode cX4_takesClose 28 = .ok (.aload_n 0, 1) by decide +kernel))),
  List.forall_mem_cons.mpr ⟨(xcm mi_50 ⟨⟨(by decide +kernel), (by decide +kernel), (by decide +kernel)⟩, (by decide), xw_975, xw_124, Or.inl ⟨rfl, _, _, _, _, (show decode cX4_takesClose 29 = .ok (.invokevirtual 98, 3) by decide +kernel), xw_972, xw_974, xw_11, rfl⟩⟩),
  List.forall_mem_cons.mpr ⟨(xOK_pure (xs_iconst (n := 1) (show decode cX4_takesClose 32 = .ok (.iconst 1, 1) by decide +kernel) (by decide))),
  List.forall_mem_cons.mpr ⟨(Or.inr (Or.inr (Or.inr (Or.inr (Or.inl ⟨rfl, (show decode cX4_takesClose 33 = .ok (.ireturn, 1) by decide +kernel), rfl⟩))))),
  (fun _ h => absurd h List.not_mem_nil)⟩⟩⟩⟩⟩⟩⟩⟩⟩⟩⟩⟩⟩⟩⟩⟩⟩⟩⟩⟩
theorem omX4_takesClose (ev : xEv) : xMethOK ev xmi yX4_takesClose.cls yX4_takesClose.name 51 (pX4_takesClose ev) := xMethOK.of mi_51 (by decide +kernel) (okpX4_takesClose ev)
def pX4_takesConditionEnd (ev : xEv) : List (Nat × xEn) := [(0, .inl (xop (xf_iload 1 1))), (1, .inl (xop (xf_push (.int 58) 2))), (3, .inl (xop (xf_icmp_eq 8))), (6, .inl (xop (xf_push (.int 0) 1))), (7, .inr (.inr 4)), (8, .inl (xop (xf_aload 0 1))), (9, .inl (xop (xf_push (.int 1) 1))), (10, .inr (.inl (0, 56, 1, 4))), (13, .inl (xop (xf_aload 0 1))), (14, .inl (xop (xf_getf 4 4))), (17, .inl (xop (xf_push (.int 0) 1))), (18, .inl (xop (xf_push (.int 0) 1))), (19, .inl (xo_ast (ev.1 2) (vp_nar .boolean))), (20, .inl (xop (xf_aload 0 1))), (21, .inl (xop (xf_push (.int 3) 1))), (22, .inl (xo_putf 4 9 .int)), (25, .inl (xop (xf_push (.int 1) 1))), (26, .inr (.inr 4))]
set_option maxRecDepth 20000 in
theorem okpX4_takesConditionEnd (ev : xEv) : ∀ q ∈ pX4_takesConditionEnd ev, xEnOK ev xmi yX4_takesConditionEnd.cls yX4_takesConditionEnd.name cX4_takesConditionEnd 2 (some .boolean) q :=
  List.forall_mem_cons.mpr ⟨(xOK_pure (xs_iload_n (k := 1) rfl (show decode cX4_takesConditionEnd 0 = .ok (.iload_n 1, 1) by decide +kernel))),
  List.forall_mem_cons.mpr ⟨(xOK_pure (xs_bipush (n := 58) (show decode cX4_takesConditionEnd 1 = .ok (.bipush 58, 2) by decide +kernel) (by decide))),
  List.forall_mem_cons.mpr ⟨(xOK_pure (xs_icmp_eq (show decode cX4_takesConditionEnd 3 = .ok (.if_icmp .eq 5, 3) by decide +kernel) (by decide))),
  List.forall_mem_cons.mpr ⟨(xOK_pure (xs_iconst (n := 0) (show decode cX4_takesConditionEnd 6 = .ok (.iconst 0, 1) by decide +kernel) (by decide))),
  List.forall_mem_cons.mpr ⟨(Or.inr (Or.inr (Or.inr (Or.inr (Or.inl ⟨rfl, (show decode cX4_takesConditionEnd 7 = .ok (.ireturn, 1) by decide +kernel), rfl⟩))))),
  List.forall_mem_cons.mpr ⟨(xOK_pure (xs_aload_n (k := 0) rfl (show decode cX4_takesConditionEnd 8 = .ok (.aload_n 0, 1) by decide +kernel))),
  List.forall_mem_cons.mpr ⟨(xOK_pure (xs_iconst (n := 1) (show decode cX4_takesConditionEnd 9 = .ok (.iconst 1, 1) by decide +kernel) (by decide))),
  List.forall_mem_cons.mpr ⟨(xcm mi_56 ⟨⟨(by decide +kernel), (by decide +kernel), (by decide +kernel)⟩, (by decide), xw_995, xw_124, Or.inl ⟨rfl, _, _, _, _, (show decode cX4_takesConditionEnd 10 = .ok (.invokevirtual 42, 3) by decide +kernel), xw_992, xw_994, xw_16, rfl⟩⟩),
  List.forall_mem_cons.mpr ⟨(xOK_pure (xs_aload_n (k := 0) rfl (show decode cX4_takesConditionEnd 13 = .ok (.aload_n 0, 1) by decide +kernel))),
  List.forall_mem_cons.mpr ⟨(xOK_pure (xs_getf xcl_4 (by decide) (show decode cX4_takesConditionEnd 14 = .ok (.getfield 18, 3) by decide +kernel) xw_419)),
  List.forall_mem_cons.mpr ⟨(xOK_pure (xs_iconst (n := 0) (show decode cX4_takesConditionEnd 17 = .ok (.iconst 0, 1) by decide +kernel) (by decide))),
  List.forall_mem_cons.mpr ⟨(xOK_pure (xs_iconst (n := 0) (show decode cX4_takesConditionEnd 18 = .ok (.iconst 0, 1) by decide +kernel) (by decide))),
  List.forall_mem_cons.mpr ⟨(xs_zast (show decode cX4_takesConditionEnd 19 = .ok (.bastore, 1) by decide +kernel)),
  List.forall_mem_cons.mpr ⟨(xOK_pure (xs_aload_n (k := 0) rfl (show decode cX4_takesConditionEnd 20 = .ok (.aload_n 0, 1) by decide +kernel))),
  List.forall_mem_cons.mpr ⟨(xOK_pure (xs_iconst (n := 3) (show decode cX4_takesConditionEnd 21 = .ok (.iconst 3, 1) by decide +kernel) (by decide))),
  List.forall_mem_cons.mpr ⟨(xs_putf (k := 9) xcl_4 (by decide) rfl (show decode cX4_takesConditionEnd 22 = .ok (.putfield 52, 3) by decide +kernel) xw_424),
  List.forall_mem_cons.mpr ⟨(xOK_pure (xs_iconst (n := 1) (show decode cX4_takesConditionEnd 25 = .ok (.iconst 1, 1) by decide +kernel) (by decide))),
  List.forall_mem_cons.mpr ⟨(Or.inr (Or.inr (Or.inr (Or.inr (Or.inl ⟨rfl, (show decode cX4_takesConditionEnd 26 = .ok (.ireturn, 1) by decide +kernel), rfl⟩))))),
  (fun _ h => absurd h List.not_mem_nil)⟩⟩⟩⟩⟩⟩⟩⟩⟩⟩⟩⟩⟩⟩⟩⟩⟩⟩
theorem omX4_takesConditionEnd (ev : xEv) : xMethOK ev xmi yX4_takesConditionEnd.cls yX4_takesConditionEnd.name 52 (pX4_takesConditionEnd ev) := xMethOK.of mi_52 (by decide +kernel) (okpX4_takesConditionEnd ev)
def pX4_takesChoice_0 (ev : xEv) : List (Nat × xEn) := [(0, .inl (xop (xf_iload 1 1))), (1, .inl (xop (xf_push (.int 58) 2))), (3, .inl (xop (xf_icmp_ne 15))), (6, .inl (xop (xf_aload 0 1))), (7, .inl (xop (xf_getf 4 7))), (10, .inl (xop (xf_if_ne 15))), (13, .inl (xop (xf_push (.int 0) 1))), (14, .inr (.inr 4)), (15, .inl (xop (xf_aload 0 1))), (16, .inl (xop (xf_push (.int 1) 1))), (17, .inr (.inl (0, 56, 1, 4))), (20, .inl (xop (xf_iload 1 1))), (21, .inl (xop (xf_push (.int 63) 2))), (23, .inl (xop (xf_icmp_ne 39))), (26, .inl (xop (xf_aload 0 1))), (27, .inl (xop xf_dup)), (28, .inl (xop (xf_getf 4 7))), (31, .inl (xop (xf_push (.int 1) 1))), (32, .inl (xop (xf_bin (fun x y => x + y)))), (33, .inl (xo_putf 4 7 .int))]
set_option maxRecDepth 20000 in
theorem okpX4_takesChoice_0 (ev : xEv) : ∀ q ∈ pX4_takesChoice_0 ev, xEnOK ev xmi yX4_takesChoice.cls yX4_takesChoice.name cX4_takesChoice 2 (some .boolean) q :=
  List.forall_mem_cons.mpr ⟨(xOK_pure (xs_iload_n (k := 1) rfl (show decode cX4_takesChoice 0 = .ok (.iload_n 1, 1) by decide +kernel))),
  List.forall_mem_cons.mpr ⟨(xOK_pure (xs_bipush (n := 58) (show decode cX4_takesChoice 1 = .ok (.bipush 58, 2) by decide +kernel) (by decide))),
  List.forall_mem_cons.mpr ⟨(xOK_pure (xs_icmp_ne (show decode cX4_takesChoice 3 = .ok (.if_icmp .ne 12, 3) by decide +kernel) (by decide))),
  List.forall_mem_cons.mpr ⟨(xOK_pure (xs_aload_n (k := 0) rfl (show decode cX4_takesChoice 6 = .ok (.aload_n 0, 1) by decide +kernel))),
  List.forall_mem_cons.mpr ⟨(xOK_pure (xs_getf xcl_4 (by decide) (show decode cX4_takesChoice 7 = .ok (.getfield 67, 3) by decide +kernel) xw_422)),
  List.forall_mem_cons.mpr ⟨(xOK_pure (xs_if_ne (show decode cX4_takesChoice 10 = .ok (.ifCond .ne 5, 3) by decide +kernel) (by decide))),
  List.forall_mem_cons.mpr ⟨(xOK_pure (xs_iconst (n := 0) (show decode cX4_takesChoice 13 = .ok (.iconst 0, 1) by decide +kernel) (by decide))),
  List.forall_mem_cons.mpr ⟨(Or.inr (Or.inr (Or.inr (Or.inr (Or.inl ⟨rfl, (show decode cX4_takesChoice 14 = .ok (.ireturn, 1) by decide +kernel), rfl⟩))))),
  List.forall_mem_cons.mpr ⟨(xOK_pure (xs_aload_n (k := 0) rfl (show decode cX4_takesChoice 15 = .ok (.aload_n 0, 1) by decide +kernel))),
  List.forall_mem_cons.mpr ⟨(xOK_pure (xs_iconst (n := 1) (show decode cX4_takesChoice 16 = .ok (.iconst 1, 1) by decide +kernel) (by decide))),
  List.forall_mem_cons.mpr ⟨(xcm mi_56 ⟨⟨(by decide +kernel), (by decide +kernel), (by decide +kernel)⟩, (by decide), xw_995, xw_124, Or.inl ⟨rfl, _, _, _, _, (show decode cX4_takesChoice 17 = .ok (.invokevirtual 42, 3) by decide +kernel), xw_992, xw_994, xw_16, rfl⟩⟩),
  List.forall_mem_cons.mpr ⟨(xOK_pure (xs_iload_n (k := 1) rfl (show decode cX4_takesChoice 20 = .ok (.iload_n 1, 1) by decide +kernel))),
  List.forall_mem_cons.mpr ⟨(xOK_pure (xs_bipush (n := 63) (show decode cX4_takesChoice 21 = .ok (.bipush 63, 2) by decide +kernel) (by decide))),
  List.forall_mem_cons.mpr ⟨(xOK_pure (xs_icmp_ne (show decode cX4_takesChoice 23 = .ok (.if_icmp .ne 16, 3) by decide +kernel) (by decide))),
  List.forall_mem_cons.mpr ⟨(xOK_pure (xs_aload_n (k := 0) rfl (show decode cX4_takesChoice 26 = .ok (.aload_n 0, 1) by decide +kernel))),
  List.forall_mem_cons.mpr ⟨(xOK_pure (xs_dup (show decode cX4_takesChoice 27 = .ok (.dup, 1) by decide +kernel))),
  List.forall_mem_cons.mpr ⟨(xOK_pure (xs_getf xcl_4 (by decide) (show decode cX4_takesChoice 28 = .ok (.getfield 67, 3) by decide +kernel) xw_422)),
  List.forall_mem_cons.mpr ⟨(xOK_pure (xs_iconst (n := 1) (show decode cX4_takesChoice 31 = .ok (.iconst 1, 1) by decide +kernel) (by decide))),
  List.forall_mem_cons.mpr ⟨(xOK_pure (xs_iadd (show decode cX4_takesChoice 32 = .ok (.iadd, 1) by decide +kernel))),
  List.forall_mem_cons.mpr ⟨(xs_putf (k := 7) xcl_4 (by decide) rfl (show decode cX4_takesChoice 33 = .ok (.putfield 67, 3) by decide +kernel) xw_422),
  (fun _ h => absurd h List.not_mem_nil)⟩⟩⟩⟩⟩⟩⟩⟩⟩⟩⟩⟩⟩⟩⟩⟩⟩⟩⟩⟩
def pX4_takesChoice_1 (ev : xEv) : List (Nat × xEn) := [(36, .inl (xop (xf_goto 57))), (39, .inl (xop (xf_aload 0 1))), (40, .inr (.inl (0, 57, 0, 4))), (43, .inl (xop (xf_aload 0 1))), (44, .inr (.inl (0, 59, 0, 4))), (47, .inl (xop (xf_aload 0 1))), (48, .inl (xop xf_dup)), (49, .inl (xop (xf_getf 4 7))), (52, .inl (xop (xf_push (.int 1) 1))), (53, .inl (xop (xf_bin (fun x y => x - y)))), (54, .inl (xo_putf 4 7 .int)), (57, .inl (xop (xf_aload 0 1))), (58, .inl (xop (xf_iload 1 1))), (59, .inr (.inl (0, 58, 1, 4))), (62, .inl (xop (xf_aload 0 1))), (63, .inl (xop (xf_getf 4 4))), (66, .inl (xop (xf_push (.int 0) 1))), (67, .inl (xop (xf_push (.int 0) 1))), (68, .inl (xo_ast (ev.1 2) (vp_nar .boolean))), (69, .inl (xop (xf_aload 0 1)))]
set_option maxRecDepth 20000 in
theorem okpX4_takesChoice_1 (ev : xEv) : ∀ q ∈ pX4_takesChoice_1 ev, xEnOK ev xmi yX4_takesChoice.cls yX4_takesChoice.name cX4_takesChoice 2 (some .boolean) q :=
  List.forall_mem_cons.mpr ⟨(xOK_pure (xs_goto (show decode cX4_takesChoice 36 = .ok (.goto 21, 3) by decide +kernel) (by decide))),
  List.forall_mem_cons.mpr ⟨(xOK_pure (xs_aload_n (k := 0) rfl (show decode cX4_takesChoice 39 = .ok (.aload_n 0, 1) by decide +kernel))),
  List.forall_mem_cons.mpr ⟨(xcm mi_57 ⟨⟨(by decide +kernel), (by decide +kernel), (by decide +kernel)⟩, (by decide), xw_1010, xw_124, Or.inl ⟨rfl, _, _, _, _, (show decode cX4_takesChoice 40 = .ok (.invokevirtual 45, 3) by decide +kernel), xw_1007, xw_1009, xw_19, rfl⟩⟩),
  List.forall_mem_cons.mpr ⟨(xOK_pure (xs_aload_n (k := 0) rfl (show decode cX4_takesChoice 43 = .ok (.aload_n 0, 1) by decide +kernel))),
  List.forall_mem_cons.mpr ⟨(xcm mi_59 ⟨⟨(by decide +kernel), (by decide +kernel), (by decide +kernel)⟩, (by decide), xw_1002, xw_124, Or.inl ⟨rfl, _, _, _, _, (show decode cX4_takesChoice 44 = .ok (.invokevirtual 119, 3) by decide +kernel), xw_999, xw_1001, xw_17, rfl⟩⟩),
  List.forall_mem_cons.mpr ⟨(xOK_pure (xs_aload_n (k := 0) rfl (show decode cX4_takesChoice 47 = .ok (.aload_n 0, 1) by decide +kernel))),
  List.forall_mem_cons.mpr ⟨(xOK_pure (xs_dup (show decode cX4_takesChoice 48 = .ok (.dup, 1) by decide +kernel))),
  List.forall_mem_cons.mpr ⟨(xOK_pure (xs_getf xcl_4 (by decide) (show decode cX4_takesChoice 49 = .ok (.getfield 67, 3) by decide +kernel) xw_422)),
  List.forall_mem_cons.mpr ⟨(xOK_pure (xs_iconst (n := 1) (show decode cX4_takesChoice 52 = .ok (.iconst 1, 1) by decide +kernel) (by decide))),
  List.forall_mem_cons.mpr ⟨(xOK_pure (xs_isub (show decode cX4_takesChoice 53 = .ok (.isub, 1) by decide +kernel))),
  List.forall_mem_cons.mpr ⟨(xs_putf (k := 7) xcl_4 (by decide) rfl (show decode cX4_takesChoice 54 = .ok (.putfield 67, 3) by decide +kernel) xw_422),
  List.forall_mem_cons.mpr ⟨(xOK_pure (xs_aload_n (k := 0) rfl (show decode cX4_takesChoice 57 = .ok (.aload_n 0, 1) by decide +kernel))),
  List.forall_mem_cons.mpr ⟨(xOK_pure (xs_iload_n (k := 1) rfl (show decode cX4_takesChoice 58 = .ok (.iload_n 1, 1) by decide +kernel))),
  List.forall_mem_cons.mpr ⟨(xcm mi_58 ⟨⟨(by decide +kernel), (by decide +kernel), (by decide +kernel)⟩, (by decide), xw_979, xw_124, Or.inl ⟨rfl, _, _, _, _, (show decode cX4_takesChoice 59 = .ok (.invokevirtual 101, 3) by decide +kernel), xw_976, xw_978, xw_12, rfl⟩⟩),
  List.forall_mem_cons.mpr ⟨(xOK_pure (xs_aload_n (k := 0) rfl (show decode cX4_takesChoice 62 = .ok (.aload_n 0, 1) by decide +kernel))),
  List.forall_mem_cons.mpr ⟨(xOK_pure (xs_getf xcl_4 (by decide) (show decode cX4_takesChoice 63 = .ok (.getfield 18, 3) by decide +kernel) xw_419)),
  List.forall_mem_cons.mpr ⟨(xOK_pure (xs_iconst (n := 0) (show decode cX4_takesChoice 66 = .ok (.iconst 0, 1) by decide +kernel) (by decide))),
  List.forall_mem_cons.mpr ⟨(xOK_pure (xs_iconst (n := 0) (show decode cX4_takesChoice 67 = .ok (.iconst 0, 1) by decide +kernel) (by decide))),
  List.forall_mem_cons.mpr ⟨(xs_zast (show decode cX4_takesChoice 68 = .ok (.bastore, 1) by decide +kernel)),
  List.forall_mem_cons.mpr ⟨(xOK_pure (xs_aload_n (k := 0) rfl (show decode cX4_takesChoice 69 = .ok (.aload_n 0, 1) by decide +kernel))),
  (fun _ h => absurd h List.not_mem_nil)⟩⟩⟩⟩⟩⟩⟩⟩⟩⟩⟩⟩⟩⟩⟩⟩⟩⟩⟩⟩
def pX4_takesChoice_2 (ev : xEv) : List (Nat × xEn) := [(70, .inl (xop (xf_push (.int 1) 1))), (71, .inl (xo_putf 4 9 .int)), (74, .inl (xop (xf_push (.int 1) 1))), (75, .inr (.inr 4))]
set_option maxRecDepth 20000 in
theorem okpX4_takesChoice_2 (ev : xEv) : ∀ q ∈ pX4_takesChoice_2 ev, xEnOK ev xmi yX4_takesChoice.cls yX4_takesChoice.name cX4_takesChoice 2 (some .boolean) q :=
  List.forall_mem_cons.mpr ⟨(xOK_pure (xs_iconst (n := 1) (show decode cX4_takesChoice 70 = .ok (.iconst 1, 1) by decide +kernel) (by decide))),
  List.forall_mem_cons.mpr ⟨(xs_putf (k := 9) xcl_4 (by decide) rfl (show decode cX4_takesChoice 71 = .ok (.putfield 52, 3) by decide +kernel) xw_424),
  List.forall_mem_cons.mpr ⟨(xOK_pure (xs_iconst (n := 1) (show decode cX4_takesChoice 74 = .ok (.iconst 1, 1) by decide +kernel) (by decide))),
  List.forall_mem_cons.mpr ⟨(Or.inr (Or.inr (Or.inr (Or.inr (Or.inl ⟨rfl, (show decode cX4_takesChoice 75 = .ok (.ireturn, 1) by decide +kernel), rfl⟩))))),
  (fun _ h => absurd h List.not_mem_nil)⟩⟩⟩⟩
def pX4_takesChoice (ev : xEv) : List (Nat × xEn) := pX4_takesChoice_0 ev ++ (pX4_takesChoice_1 ev ++ (pX4_takesChoice_2 ev))
theorem okpX4_takesChoice (ev : xEv) : ∀ q ∈ pX4_takesChoice ev, xEnOK ev xmi yX4_takesChoice.cls yX4_takesChoice.name cX4_takesChoice 2 (some .boolean) q := List.forall_mem_append.mpr ⟨okpX4_takesChoice_0 ev, List.forall_mem_append.mpr ⟨okpX4_takesChoice_1 ev, okpX4_takesChoice_2 ev⟩⟩
theorem omX4_takesChoice (ev : xEv) : xMethOK ev xmi yX4_takesChoice.cls yX4_takesChoice.name 53 (pX4_takesChoice ev) := xMethOK.of mi_53 (by decide +kernel) (okpX4_takesChoice ev)
def pX4_takesOperator_0 (ev : xEv) : List (Nat × xEn) := [(0, .inl (xop (xf_iload 1 1))), (1, .inr (.inl (1, 62, 1, 4))), (4, .inl (xop (xf_istore 2 1))), (5, .inl (xop (xf_iload 2 1))), (6, .inl (xop (xf_if_eq 14))), (9, .inl (xop (xf_iload 2 1))), (10, .inl (xop (xf_push (.int 5) 1))), (11, .inl (xop (xf_icmp_le 16))), (14, .inl (xop (xf_push (.int 0) 1))), (15, .inr (.inr 4)), (16, .inl (xop (xf_iload 2 1))), (17, .inl (xop (xf_push (.int 3) 1))), (18, .inl (xop (xf_icmp_ne 25))), (21, .inl (xop (xf_push (.int 1) 1))), (22, .inl (xop (xf_goto 26))), (25, .inl (xop (xf_push (.int 0) 1))), (26, .inl (xop (xf_istore 3 1))), (27, .inl (xop (xf_iload 3 1))), (28, .inl (xop (xf_if_eq 45))), (31, .inl (xop (xf_aload 0 1)))]
set_option maxRecDepth 20000 in
theorem okpX4_takesOperator_0 (ev : xEv) : ∀ q ∈ pX4_takesOperator_0 ev, xEnOK ev xmi yX4_takesOperator.cls yX4_takesOperator.name cX4_takesOperator 4 (some .boolean) q :=
  List.forall_mem_cons.mpr ⟨(xOK_pure (xs_iload_n (k := 1) rfl (show decode cX4_takesOperator 0 = .ok (.iload_n 1, 1) by decide +kernel))),
  List.forall_mem_cons.mpr ⟨(xcm mi_62 ⟨⟨(by decide +kernel), (by decide +kernel), (by decide +kernel)⟩, (by decide), xw_998, xw_124, Or.inr (Or.inl ⟨rfl, _, (show decode cX4_takesOperator 1 = .ok (.invokestatic 122, 3) by decide +kernel), xw_996, xw_997⟩)⟩),
  List.forall_mem_cons.mpr ⟨(xOK_pure (xs_istore_n (k := 2) rfl (show decode cX4_takesOperator 4 = .ok (.istore_n 2, 1) by decide +kernel) (by decide))),
  List.forall_mem_cons.mpr ⟨(xOK_pure (xs_iload_n (k := 2) rfl (show decode cX4_takesOperator 5 = .ok (.iload_n 2, 1) by decide +kernel))),
  List.forall_mem_cons.mpr ⟨(xOK_pure (xs_if_eq (show decode cX4_takesOperator 6 = .ok (.ifCond .eq 8, 3) by decide +kernel) (by decide))),
  List.forall_mem_cons.mpr ⟨(xOK_pure (xs_iload_n (k := 2) rfl (show decode cX4_takesOperator 9 = .ok (.iload_n 2, 1) by decide +kernel))),
  List.forall_mem_cons.mpr ⟨(xOK_pure (xs_iconst (n := 5) (show decode cX4_takesOperator 10 = .ok (.iconst 5, 1) by decide +kernel) (by decide))),
  List.forall_mem_cons.mpr ⟨(xOK_pure (xs_icmp_le (show decode cX4_takesOperator 11 = .ok (.if_icmp .le 5, 3) by decide +kernel) (by decide))),
  List.forall_mem_cons.mpr ⟨(xOK_pure (xs_iconst (n := 0) (show decode cX4_takesOperator 14 = .ok (.iconst 0, 1) by decide +kernel) (by decide))),
  List.forall_mem_cons.mpr ⟨(Or.inr (Or.inr (Or.inr (Or.inr (Or.inl ⟨rfl, (show decode cX4_takesOperator 15 = .ok (.ireturn, 1) by decide +kernel), rfl⟩))))),
  List.forall_mem_cons.mpr ⟨(xOK_pure (xs_iload_n (k := 2) rfl (show decode cX4_takesOperator 16 = .ok (.iload_n 2, 1) by decide +kernel))),
  List.forall_mem_cons.mpr ⟨(xOK_pure (xs_iconst (n := 3) (show decode cX4_takesOperator 17 = .ok (.iconst 3, 1) by decide +kernel) (by decide))),
  List.forall_mem_cons.mpr ⟨(xOK_pure (xs_icmp_ne (show decode cX4_takesOperator 18 = .ok (.if_icmp .ne 7, 3) by decide +kernel) (by decide))),
  List.forall_mem_cons.mpr ⟨(xOK_pure (xs_iconst (n := 1) (show decode cX4_takesOperator 21 = .ok (.iconst 1, 1) by decide +kernel) (by decide))),
  List.forall_mem_cons.mpr ⟨(xOK_pure (xs_goto (show decode cX4_takesOperator 22 = .ok (.goto 4, 3) by decide +kernel) (by decide))),
  List.forall_mem_cons.mpr ⟨(xOK_pure (xs_iconst (n := 0) (show decode cX4_takesOperator 25 = .ok (.iconst 0, 1) by decide +kernel) (by decide))),
  List.forall_mem_cons.mpr ⟨(xOK_pure (xs_istore_n (k := 3) rfl (show decode cX4_takesOperator 26 = .ok (.istore_n 3, 1) by decide +kernel) (by decide))),
  List.forall_mem_cons.mpr ⟨(xOK_pure (xs_iload_n (k := 3) rfl (show decode cX4_takesOperator 27 = .ok (.iload_n 3, 1) by decide +kernel))),
  List.forall_mem_cons.mpr ⟨(xOK_pure (xs_if_eq (show decode cX4_takesOperator 28 = .ok (.ifCond .eq 17, 3) by decide +kernel) (by decide))),
  List.forall_mem_cons.mpr ⟨(xOK_pure (xs_aload_n (k := 0) rfl (show decode cX4_takesOperator 31 = .ok (.aload_n 0, 1) by decide +kernel))),
  (fun _ h => absurd h List.not_mem_nil)⟩⟩⟩⟩⟩⟩⟩⟩⟩⟩⟩⟩⟩⟩⟩⟩⟩⟩⟩⟩
def pX4_takesOperator_1 (ev : xEv) : List (Nat × xEn) := [(32, .inl (xop (xf_getf 4 4))), (35, .inl (xop (xf_aload 0 1))), (36, .inl (xop (xf_getf 4 5))), (39, .inl (xop (xf_ald (ev.1 2)))), (40, .inl (xop (xf_if_eq 45))), (43, .inl (xop (xf_push (.int 0) 1))), (44, .inr (.inr 4)), (45, .inl (xop (xf_aload 0 1))), (46, .inl (xop (xf_iload 2 1))), (47, .inr (.inl (0, 56, 1, 4))), (50, .inl (xop (xf_iload 2 1))), (51, .inl (xop (xf_push (.int 3) 1))), (52, .inl (xop (xf_icmp_gt 65))), (55, .inl (xop (xf_aload 0 1))), (56, .inl (xop (xf_getf 4 4))), (59, .inl (xop (xf_aload 0 1))), (60, .inl (xop (xf_getf 4 5))), (63, .inl (xop (xf_iload 3 1))), (64, .inl (xo_ast (ev.1 2) (vp_nar .boolean))), (65, .inl (xop (xf_aload 0 1)))]
set_option maxRecDepth 20000 in
theorem okpX4_takesOperator_1 (ev : xEv) : ∀ q ∈ pX4_takesOperator_1 ev, xEnOK ev xmi yX4_takesOperator.cls yX4_takesOperator.name cX4_takesOperator 4 (some .boolean) q :=
  List.forall_mem_cons.mpr ⟨(xOK_pure (xs_getf xcl_4 (by decide) (show decode cX4_takesOperator 32 = .ok (.getfield 18, 3) by decide +kernel) xw_419)),
  List.forall_mem_cons.mpr ⟨(xOK_pure (xs_aload_n (k := 0) rfl (show decode cX4_takesOperator 35 = .ok (.aload_n 0, 1) by decide +kernel))),
  List.forall_mem_cons.mpr ⟨(xOK_pure (xs_getf xcl_4 (by decide) (show decode cX4_takesOperator 36 = .ok (.getfield 61, 3) by decide +kernel) xw_420)),
  List.forall_mem_cons.mpr ⟨(xOK_pure (xs_zald (show decode cX4_takesOperator 39 = .ok (.baload, 1) by decide +kernel))),
  List.forall_mem_cons.mpr ⟨(xOK_pure (xs_if_eq (show decode cX4_takesOperator 40 = .ok (.ifCond .eq 5, 3) by decide +kernel) (by decide))),
  List.forall_mem_cons.mpr ⟨(xOK_pure (xs_iconst (n := 0) (show decode cX4_takesOperator 43 = .ok (.iconst 0, 1) by decide +kernel) (by decide))),
  List.forall_mem_cons.mpr ⟨(Or.inr (Or.inr (Or.inr (Or.inr (Or.inl ⟨rfl, (show decode cX4_takesOperator 44 = .ok (.ireturn, 1) by decide +kernel), rfl⟩))))),
  List.forall_mem_cons.mpr ⟨(xOK_pure (xs_aload_n (k := 0) rfl (show decode cX4_takesOperator 45 = .ok (.aload_n 0, 1) by decide +kernel))),
  List.forall_mem_cons.mpr ⟨(xOK_pure (xs_iload_n (k := 2) rfl (show decode cX4_takesOperator 46 = .ok (.iload_n 2, 1) by decide +kernel))),
  List.forall_mem_cons.mpr ⟨(xcm mi_56 ⟨⟨(by decide +kernel), (by decide +kernel), (by decide +kernel)⟩, (by decide), xw_995, xw_124, Or.inl ⟨rfl, _, _, _, _, (show decode cX4_takesOperator 47 = .ok (.invokevirtual 42, 3) by decide +kernel), xw_992, xw_994, xw_16, rfl⟩⟩),
  List.forall_mem_cons.mpr ⟨(xOK_pure (xs_iload_n (k := 2) rfl (show decode cX4_takesOperator 50 = .ok (.iload_n 2, 1) by decide +kernel))),
  List.forall_mem_cons.mpr ⟨(xOK_pure (xs_iconst (n := 3) (show decode cX4_takesOperator 51 = .ok (.iconst 3, 1) by decide +kernel) (by decide))),
  List.forall_mem_cons.mpr ⟨(xOK_pure (xs_icmp_gt (show decode cX4_takesOperator 52 = .ok (.if_icmp .gt 13, 3) by decide +kernel) (by decide))),
  List.forall_mem_cons.mpr ⟨(xOK_pure (xs_aload_n (k := 0) rfl (show decode cX4_takesOperator 55 = .ok (.aload_n 0, 1) by decide +kernel))),
  List.forall_mem_cons.mpr ⟨(xOK_pure (xs_getf xcl_4 (by decide) (show decode cX4_takesOperator 56 = .ok (.getfield 18, 3) by decide +kernel) xw_419)),
  List.forall_mem_cons.mpr ⟨(xOK_pure (xs_aload_n (k := 0) rfl (show decode cX4_takesOperator 59 = .ok (.aload_n 0, 1) by decide +kernel))),
  List.forall_mem_cons.mpr ⟨(xOK_pure (xs_getf xcl_4 (by decide) (show decode cX4_takesOperator 60 = .ok (.getfield 61, 3) by decide +kernel) xw_420)),
  List.forall_mem_cons.mpr ⟨(xOK_pure (xs_iload_n (k := 3) rfl (show decode cX4_takesOperator 63 = .ok (.iload_n 3, 1) by decide +kernel))),
  List.forall_mem_cons.mpr ⟨(xs_zast (show decode cX4_takesOperator 64 = .ok (.bastore, 1) by decide +kernel)),
  List.forall_mem_cons.mpr ⟨(xOK_pure (xs_aload_n (k := 0) rfl (show decode cX4_takesOperator 65 = .ok (.aload_n 0, 1) by decide +kernel))),
  (fun _ h => absurd h List.not_mem_nil)⟩⟩⟩⟩⟩⟩⟩⟩⟩⟩⟩⟩⟩⟩⟩⟩⟩⟩⟩⟩
def pX4_takesOperator_2 (ev : xEv) : List (Nat × xEn) := [(66, .inl (xop (xf_iload 1 1))), (67, .inr (.inl (0, 58, 1, 4))), (70, .inl (xop (xf_aload 0 1))), (71, .inl (xop (xf_push (.int 1) 1))), (72, .inl (xo_putf 4 9 .int)), (75, .inl (xop (xf_push (.int 1) 1))), (76, .inr (.inr 4))]
set_option maxRecDepth 20000 in
theorem okpX4_takesOperator_2 (ev : xEv) : ∀ q ∈ pX4_takesOperator_2 ev, xEnOK ev xmi yX4_takesOperator.cls yX4_takesOperator.name cX4_takesOperator 4 (some .boolean) q :=
  List.forall_mem_cons.mpr ⟨(xOK_pure (xs_iload_n (k := 1) rfl (show decode cX4_takesOperator 66 = .ok (.iload_n 1, 1) by decide +kernel))),
  List.forall_mem_cons.mpr ⟨(xcm mi_58 ⟨⟨(by decide +kernel), (by decide +kernel), (by decide +kernel)⟩, (by decide), xw_979, xw_124, Or.inl ⟨rfl, _, _, _, _, (show decode cX4_takesOperator 67 = .ok (.invokevirtual 101, 3) by decide +kernel), xw_976, xw_978, xw_12, rfl⟩⟩),
  List.forall_mem_cons.mpr ⟨(xOK_pure (xs_aload_n (k := 0) rfl (show decode cX4_takesOperator 70 = .ok (.aload_n 0, 1) by decide +kernel))),
  List.forall_mem_cons.mpr ⟨(xOK_pure (xs_iconst (n := 1) (show decode cX4_takesOperator 71 = .ok (.iconst 1, 1) by decide +kernel) (by decide))),
  List.forall_mem_cons.mpr ⟨(xs_putf (k := 9) xcl_4 (by decide) rfl (show decode cX4_takesOperator 72 = .ok (.putfield 52, 3) by decide +kernel) xw_424),
  List.forall_mem_cons.mpr ⟨(xOK_pure (xs_iconst (n := 1) (show decode cX4_takesOperator 75 = .ok (.iconst 1, 1) by decide +kernel) (by decide))),
  List.forall_mem_cons.mpr ⟨(Or.inr (Or.inr (Or.inr (Or.inr (Or.inl ⟨rfl, (show decode cX4_takesOperator 76 = .ok (.ireturn, 1) by decide +kernel), rfl⟩))))),
  (fun _ h => absurd h List.not_mem_nil)⟩⟩⟩⟩⟩⟩⟩
def pX4_takesOperator (ev : xEv) : List (Nat × xEn) := pX4_takesOperator_0 ev ++ (pX4_takesOperator_1 ev ++ (pX4_takesOperator_2 ev))
theorem okpX4_takesOperator (ev : xEv) : ∀ q ∈ pX4_takesOperator ev, xEnOK ev xmi yX4_takesOperator.cls yX4_takesOperator.name cX4_takesOperator 4 (some .boolean) q := List.forall_mem_append.mpr ⟨okpX4_takesOperator_0 ev, List.forall_mem_append.mpr ⟨okpX4_takesOperator_1 ev, okpX4_takesOperator_2 ev⟩⟩
theorem omX4_takesOperator (ev : xEv) : xMethOK ev xmi yX4_takesOperator.cls yX4_takesOperator.name 54 (pX4_takesOperator ev) := xMethOK.of mi_54 (by decide +kernel) (okpX4_takesOperator ev)
def pX4_takesAct_0 (ev : xEv) : List (Nat × xEn) := [(0, .inl (xop (xf_aload 0 1))), (1, .inl (xop (xf_getf 4 8))), (4, .inl (xop (xf_if_ne 12))), (7, .inl (xop (xf_push (.ref (ev.2.1 2)) 2))), (9, .inl (xop (xf_goto 14))), (12, .inl (xop (xf_push (.ref (ev.2.1 3)) 2))), (14, .inl (xop (xf_astore 2 1))), (15, .inl (xop (xf_aload 2 1))), (16, .inl (xop (xf_iload 1 1))), (17, .inl (xop (xf_un (fun x => (x.toUInt32 % 65536).toInt32)))), (18, .inr (.inl (4, 302, 1, 99))), (21, .inl (xop (xf_if_ge 26))), (24, .inl (xop (xf_push (.int 0) 1))), (25, .inr (.inr 4)), (26, .inl (xop (xf_aload 0 1))), (27, .inl (xop (xf_push (.int 3000) 3))), (30, .inl (xop (xf_iload 1 1))), (31, .inl (xop (xf_bin (fun x y => x + y)))), (32, .inr (.inl (0, 60, 1, 4))), (35, .inl (xop (xf_aload 0 1)))]
set_option maxRecDepth 20000 in
theorem okpX4_takesAct_0 (ev : xEv) : ∀ q ∈ pX4_takesAct_0 ev, xEnOK ev xmi yX4_takesAct.cls yX4_takesAct.name cX4_takesAct 3 (some .boolean) q :=
  List.forall_mem_cons.mpr ⟨(xOK_pure (xs_aload_n (k := 0) rfl (show decode cX4_takesAct 0 = .ok (.aload_n 0, 1) by decide +kernel))),
  List.forall_mem_cons.mpr ⟨(xOK_pure (xs_getf xcl_4 (by decide) (show decode cX4_takesAct 1 = .ok (.getfield 48, 3) by decide +kernel) xw_423)),
  List.forall_mem_cons.mpr ⟨(xOK_pure (xs_if_ne (show decode cX4_takesAct 4 = .ok (.ifCond .ne 8, 3) by decide +kernel) (by decide))),
  List.forall_mem_cons.mpr ⟨(xOK_pure (xs_ldcS (show decode cX4_takesAct 7 = .ok (.ldc 125, 2) by decide +kernel) (List.mem_of_getElem? (i := 2) rfl))),
  List.forall_mem_cons.mpr ⟨(xOK_pure (xs_goto (show decode cX4_takesAct 9 = .ok (.goto 5, 3) by decide +kernel) (by decide))),
  List.forall_mem_cons.mpr ⟨(xOK_pure (xs_ldcS (show decode cX4_takesAct 12 = .ok (.ldc 127, 2) by decide +kernel) (List.mem_of_getElem? (i := 3) rfl))),
  List.forall_mem_cons.mpr ⟨(xOK_pure (xs_astore_n (k := 2) rfl (show decode cX4_takesAct 14 = .ok (.astore_n 2, 1) by decide +kernel) (by decide))),
  List.forall_mem_cons.mpr ⟨(xOK_pure (xs_aload_n (k := 2) rfl (show decode cX4_takesAct 15 = .ok (.aload_n 2, 1) by decide +kernel))),
  List.forall_mem_cons.mpr ⟨(xOK_pure (xs_iload_n (k := 1) rfl (show decode cX4_takesAct 16 = .ok (.iload_n 1, 1) by decide +kernel))),
  List.forall_mem_cons.mpr ⟨(xOK_pure (xs_i2c (show decode cX4_takesAct 17 = .ok (.i2c, 1) by decide +kernel))),
  List.forall_mem_cons.mpr ⟨(xcm mi_302 ⟨⟨(by decide +kernel), (by decide +kernel), (by decide +kernel)⟩, (by decide), xw_893, xw_135, Or.inr (Or.inr (Or.inr (Or.inr ⟨rfl, _, (show decode cX4_takesAct 18 = .ok (.invokevirtual 92, 3) by decide +kernel), xw_890, xw_891, xw_892⟩)))⟩),
  List.forall_mem_cons.mpr ⟨(xOK_pure (xs_if_ge (show decode cX4_takesAct 21 = .ok (.ifCond .ge 5, 3) by decide +kernel) (by decide))),
  List.forall_mem_cons.mpr ⟨(xOK_pure (xs_iconst (n := 0) (show decode cX4_takesAct 24 = .ok (.iconst 0, 1) by decide +kernel) (by decide))),
  List.forall_mem_cons.mpr ⟨(Or.inr (Or.inr (Or.inr (Or.inr (Or.inl ⟨rfl, (show decode cX4_takesAct 25 = .ok (.ireturn, 1) by decide +kernel), rfl⟩))))),
  List.forall_mem_cons.mpr ⟨(xOK_pure (xs_aload_n (k := 0) rfl (show decode cX4_takesAct 26 = .ok (.aload_n 0, 1) by decide +kernel))),
  List.forall_mem_cons.mpr ⟨(xOK_pure (xs_sipush (n := 3000) (show decode cX4_takesAct 27 = .ok (.sipush 3000, 3) by decide +kernel) (by decide))),
  List.forall_mem_cons.mpr ⟨(xOK_pure (xs_iload_n (k := 1) rfl (show decode cX4_takesAct 30 = .ok (.iload_n 1, 1) by decide +kernel))),
  List.forall_mem_cons.mpr ⟨(xOK_pure (xs_iadd (show decode cX4_takesAct 31 = .ok (.iadd, 1) by decide +kernel))),
  List.forall_mem_cons.mpr ⟨(xcm mi_60 ⟨⟨(by decide +kernel), (by decide +kernel), (by decide +kernel)⟩, (by decide), xw_880, xw_124, Or.inl ⟨rfl, _, _, _, _, (show decode cX4_takesAct 32 = .ok (.invokevirtual 82, 3) by decide +kernel), xw_877, xw_879, xw_9, rfl⟩⟩),
  List.forall_mem_cons.mpr ⟨(xOK_pure (xs_aload_n (k := 0) rfl (show decode cX4_takesAct 35 = .ok (.aload_n 0, 1) by decide +kernel))),
  (fun _ h => absurd h List.not_mem_nil)⟩⟩⟩⟩⟩⟩⟩⟩⟩⟩⟩⟩⟩⟩⟩⟩⟩⟩⟩⟩
def pX4_takesAct_1 (ev : xEv) : List (Nat × xEn) := [(36, .inl (xop (xf_push (.int 4) 1))), (37, .inl (xo_putf 4 9 .int)), (40, .inl (xop (xf_push (.int 1) 1))), (41, .inr (.inr 4))]
set_option maxRecDepth 20000 in
theorem okpX4_takesAct_1 (ev : xEv) : ∀ q ∈ pX4_takesAct_1 ev, xEnOK ev xmi yX4_takesAct.cls yX4_takesAct.name cX4_takesAct 3 (some .boolean) q :=
  List.forall_mem_cons.mpr ⟨(xOK_pure (xs_iconst (n := 4) (show decode cX4_takesAct 36 = .ok (.iconst 4, 1) by decide +kernel) (by decide))),
  List.forall_mem_cons.mpr ⟨(xs_putf (k := 9) xcl_4 (by decide) rfl (show decode cX4_takesAct 37 = .ok (.putfield 52, 3) by decide +kernel) xw_424),
  List.forall_mem_cons.mpr ⟨(xOK_pure (xs_iconst (n := 1) (show decode cX4_takesAct 40 = .ok (.iconst 1, 1) by decide +kernel) (by decide))),
  List.forall_mem_cons.mpr ⟨(Or.inr (Or.inr (Or.inr (Or.inr (Or.inl ⟨rfl, (show decode cX4_takesAct 41 = .ok (.ireturn, 1) by decide +kernel), rfl⟩))))),
  (fun _ h => absurd h List.not_mem_nil)⟩⟩⟩⟩
def pX4_takesAct (ev : xEv) : List (Nat × xEn) := pX4_takesAct_0 ev ++ (pX4_takesAct_1 ev)
theorem okpX4_takesAct (ev : xEv) : ∀ q ∈ pX4_takesAct ev, xEnOK ev xmi yX4_takesAct.cls yX4_takesAct.name cX4_takesAct 3 (some .boolean) q := List.forall_mem_append.mpr ⟨okpX4_takesAct_0 ev, okpX4_takesAct_1 ev⟩
theorem omX4_takesAct (ev : xEv) : xMethOK ev xmi yX4_takesAct.cls yX4_takesAct.name 55 (pX4_takesAct ev) := xMethOK.of mi_55 (by decide +kernel) (okpX4_takesAct ev)
def pX4_releaseDownTo_0 (ev : xEv) : List (Nat × xEn) := [(0, .inl (xop (xf_aload 0 1))), (1, .inl (xop (xf_getf 4 3))), (4, .inl (xop (xf_push (.int 1) 1))), (5, .inl (xop (xf_bin (fun x y => x - y)))), (6, .inl (xop (xf_istore 2 1))), (7, .inl (xop (xf_iload 2 1))), (8, .inl (xop (xf_if_lt 49))), (11, .inl (xop (xf_aload 0 1))), (12, .inl (xop (xf_getf 4 2))), (15, .inl (xop (xf_iload 2 1))), (16, .inl (xop (xf_ald (ev.1 0)))), (17, .inr (.inl (1, 62, 1, 4))), (20, .inl (xop (xf_iload 1 1))), (21, .inl (xop (xf_icmp_lt 49))), (24, .inl (xop (xf_aload 0 1))), (25, .inl (xop (xf_push (.int 2000) 3))), (28, .inl (xop (xf_aload 0 1))), (29, .inl (xop (xf_getf 4 2))), (32, .inl (xop (xf_iload 2 1))), (33, .inl (xop (xf_ald (ev.1 0))))]
set_option maxRecDepth 20000 in
theorem okpX4_releaseDownTo_0 (ev : xEv) : ∀ q ∈ pX4_releaseDownTo_0 ev, xEnOK ev xmi yX4_releaseDownTo.cls yX4_releaseDownTo.name cX4_releaseDownTo 3 none q :=
  List.forall_mem_cons.mpr ⟨(xOK_pure (xs_aload_n (k := 0) rfl (show decode cX4_releaseDownTo 0 = .ok (.aload_n 0, 1) by decide +kernel))),
  List.forall_mem_cons.mpr ⟨(xOK_pure (xs_getf xcl_4 (by decide) (show decode cX4_releaseDownTo 1 = .ok (.getfield 58, 3) by decide +kernel) xw_418)),
  List.forall_mem_cons.mpr ⟨(xOK_pure (xs_iconst (n := 1) (show decode cX4_releaseDownTo 4 = .ok (.iconst 1, 1) by decide +kernel) (by decide))),
  List.forall_mem_cons.mpr ⟨(xOK_pure (xs_isub (show decode cX4_releaseDownTo 5 = .ok (.isub, 1) by decide +kernel))),
  List.forall_mem_cons.mpr ⟨(xOK_pure (xs_istore_n (k := 2) rfl (show decode cX4_releaseDownTo 6 = .ok (.istore_n 2, 1) by decide +kernel) (by decide))),
  List.forall_mem_cons.mpr ⟨(xOK_pure (xs_iload_n (k := 2) rfl (show decode cX4_releaseDownTo 7 = .ok (.iload_n 2, 1) by decide +kernel))),
  List.forall_mem_cons.mpr ⟨(xOK_pure (xs_if_lt (show decode cX4_releaseDownTo 8 = .ok (.ifCond .lt 41, 3) by decide +kernel) (by decide))),
  List.forall_mem_cons.mpr ⟨(xOK_pure (xs_aload_n (k := 0) rfl (show decode cX4_releaseDownTo 11 = .ok (.aload_n 0, 1) by decide +kernel))),
  List.forall_mem_cons.mpr ⟨(xOK_pure (xs_getf xcl_4 (by decide) (show decode cX4_releaseDownTo 12 = .ok (.getfield 15, 3) by decide +kernel) xw_417)),
  List.forall_mem_cons.mpr ⟨(xOK_pure (xs_iload_n (k := 2) rfl (show decode cX4_releaseDownTo 15 = .ok (.iload_n 2, 1) by decide +kernel))),
  List.forall_mem_cons.mpr ⟨(xOK_pure (xs_iald (show decode cX4_releaseDownTo 16 = .ok (.iaload, 1) by decide +kernel))),
  List.forall_mem_cons.mpr ⟨(xcm mi_62 ⟨⟨(by decide +kernel), (by decide +kernel), (by decide +kernel)⟩, (by decide), xw_998, xw_124, Or.inr (Or.inl ⟨rfl, _, (show decode cX4_releaseDownTo 17 = .ok (.invokestatic 122, 3) by decide +kernel), xw_996, xw_997⟩)⟩),
  List.forall_mem_cons.mpr ⟨(xOK_pure (xs_iload_n (k := 1) rfl (show decode cX4_releaseDownTo 20 = .ok (.iload_n 1, 1) by decide +kernel))),
  List.forall_mem_cons.mpr ⟨(xOK_pure (xs_icmp_lt (show decode cX4_releaseDownTo 21 = .ok (.if_icmp .lt 28, 3) by decide +kernel) (by decide))),
  List.forall_mem_cons.mpr ⟨(xOK_pure (xs_aload_n (k := 0) rfl (show decode cX4_releaseDownTo 24 = .ok (.aload_n 0, 1) by decide +kernel))),
  List.forall_mem_cons.mpr ⟨(xOK_pure (xs_sipush (n := 2000) (show decode cX4_releaseDownTo 25 = .ok (.sipush 2000, 3) by decide +kernel) (by decide))),
  List.forall_mem_cons.mpr ⟨(xOK_pure (xs_aload_n (k := 0) rfl (show decode cX4_releaseDownTo 28 = .ok (.aload_n 0, 1) by decide +kernel))),
  List.forall_mem_cons.mpr ⟨(xOK_pure (xs_getf xcl_4 (by decide) (show decode cX4_releaseDownTo 29 = .ok (.getfield 15, 3) by decide +kernel) xw_417)),
  List.forall_mem_cons.mpr ⟨(xOK_pure (xs_iload_n (k := 2) rfl (show decode cX4_releaseDownTo 32 = .ok (.iload_n 2, 1) by decide +kernel))),
  List.forall_mem_cons.mpr ⟨(xOK_pure (xs_iald (show decode cX4_releaseDownTo 33 = .ok (.iaload, 1) by decide +kernel))),
  (fun _ h => absurd h List.not_mem_nil)⟩⟩⟩⟩⟩⟩⟩⟩⟩⟩⟩⟩⟩⟩⟩⟩⟩⟩⟩⟩
def pX4_releaseDownTo_1 (ev : xEv) : List (Nat × xEn) := [(34, .inl (xop (xf_bin (fun x y => x + y)))), (35, .inr (.inl (0, 60, 1, 4))), (38, .inl (xop (xf_aload 0 1))), (39, .inl (xop (xf_iload 2 1))), (40, .inl (xo_putf 4 3 .int)), (43, .inl (xop (xf_iinc 2 (-1)))), (46, .inl (xop (xf_goto 7))), (49, .inr (.inr 0))]
set_option maxRecDepth 20000 in
theorem okpX4_releaseDownTo_1 (ev : xEv) : ∀ q ∈ pX4_releaseDownTo_1 ev, xEnOK ev xmi yX4_releaseDownTo.cls yX4_releaseDownTo.name cX4_releaseDownTo 3 none q :=
  List.forall_mem_cons.mpr ⟨(xOK_pure (xs_iadd (show decode cX4_releaseDownTo 34 = .ok (.iadd, 1) by decide +kernel))),
  List.forall_mem_cons.mpr ⟨(xcm mi_60 ⟨⟨(by decide +kernel), (by decide +kernel), (by decide +kernel)⟩, (by decide), xw_880, xw_124, Or.inl ⟨rfl, _, _, _, _, (show decode cX4_releaseDownTo 35 = .ok (.invokevirtual 82, 3) by decide +kernel), xw_877, xw_879, xw_9, rfl⟩⟩),
  List.forall_mem_cons.mpr ⟨(xOK_pure (xs_aload_n (k := 0) rfl (show decode cX4_releaseDownTo 38 = .ok (.aload_n 0, 1) by decide +kernel))),
  List.forall_mem_cons.mpr ⟨(xOK_pure (xs_iload_n (k := 2) rfl (show decode cX4_releaseDownTo 39 = .ok (.iload_n 2, 1) by decide +kernel))),
  List.forall_mem_cons.mpr ⟨(xs_putf (k := 3) xcl_4 (by decide) rfl (show decode cX4_releaseDownTo 40 = .ok (.putfield 58, 3) by decide +kernel) xw_418),
  List.forall_mem_cons.mpr ⟨(xOK_pure (xs_iinc (n := (-1)) (show decode cX4_releaseDownTo 43 = .ok (.iinc 2 (-1), 3) by decide +kernel) (by decide) (by decide))),
  List.forall_mem_cons.mpr ⟨(xOK_pure (xs_goto (show decode cX4_releaseDownTo 46 = .ok (.goto (-39), 3) by decide +kernel) (by decide))),
  List.forall_mem_cons.mpr ⟨(Or.inl ⟨rfl, (show decode cX4_releaseDownTo 49 = .ok (.return_, 1) by decide +kernel), rfl⟩),
  (fun _ h => absurd h List.not_mem_nil)⟩⟩⟩⟩⟩⟩⟩⟩
def pX4_releaseDownTo (ev : xEv) : List (Nat × xEn) := pX4_releaseDownTo_0 ev ++ (pX4_releaseDownTo_1 ev)
theorem okpX4_releaseDownTo (ev : xEv) : ∀ q ∈ pX4_releaseDownTo ev, xEnOK ev xmi yX4_releaseDownTo.cls yX4_releaseDownTo.name cX4_releaseDownTo 3 none q := List.forall_mem_append.mpr ⟨okpX4_releaseDownTo_0 ev, okpX4_releaseDownTo_1 ev⟩
theorem omX4_releaseDownTo (ev : xEv) : xMethOK ev xmi yX4_releaseDownTo.cls yX4_releaseDownTo.name 56 (pX4_releaseDownTo ev) := xMethOK.of mi_56 (by decide +kernel) (okpX4_releaseDownTo ev)
def pX4_closeChoices_0 (ev : xEv) : List (Nat × xEn) := [(0, .inl (xop (xf_aload 0 1))), (1, .inl (xop (xf_getf 4 3))), (4, .inl (xop (xf_push (.int 1) 1))), (5, .inl (xop (xf_bin (fun x y => x - y)))), (6, .inl (xop (xf_istore 1 1))), (7, .inl (xop (xf_iload 1 1))), (8, .inl (xop (xf_if_lt 40))), (11, .inl (xop (xf_aload 0 1))), (12, .inl (xop (xf_getf 4 2))), (15, .inl (xop (xf_iload 1 1))), (16, .inl (xop (xf_ald (ev.1 0)))), (17, .inl (xop (xf_push (.int 58) 2))), (19, .inl (xop (xf_icmp_ne 40))), (22, .inl (xop (xf_aload 0 1))), (23, .inl (xop (xf_push (.int 2063) 3))), (26, .inr (.inl (0, 60, 1, 4))), (29, .inl (xop (xf_aload 0 1))), (30, .inl (xop (xf_iload 1 1))), (31, .inl (xo_putf 4 3 .int)), (34, .inl (xop (xf_iinc 1 (-1))))]
set_option maxRecDepth 20000 in
theorem okpX4_closeChoices_0 (ev : xEv) : ∀ q ∈ pX4_closeChoices_0 ev, xEnOK ev xmi yX4_closeChoices.cls yX4_closeChoices.name cX4_closeChoices 2 none q :=
  List.forall_mem_cons.mpr ⟨(xOK_pure (xs_aload_n (k := 0) rfl (show decode cX4_closeChoices 0 = .ok (.aload_n 0, 1) by decide +kernel))),
  List.forall_mem_cons.mpr ⟨(xOK_pure (xs_getf xcl_4 (by decide) (show decode cX4_closeChoices 1 = .ok (.getfield 58, 3) by decide +kernel) xw_418)),
  List.forall_mem_cons.mpr ⟨(xOK_pure (xs_iconst (n := 1) (show decode cX4_closeChoices 4 = .ok (.iconst 1, 1) by decide +kernel) (by decide))),
  List.forall_mem_cons.mpr ⟨(xOK_pure (xs_isub (show decode cX4_closeChoices 5 = .ok (.isub, 1) by decide +kernel))),
  List.forall_mem_cons.mpr ⟨(xOK_pure (xs_istore_n (k := 1) rfl (show decode cX4_closeChoices 6 = .ok (.istore_n 1, 1) by decide +kernel) (by decide))),
  List.forall_mem_cons.mpr ⟨(xOK_pure (xs_iload_n (k := 1) rfl (show decode cX4_closeChoices 7 = .ok (.iload_n 1, 1) by decide +kernel))),
  List.forall_mem_cons.mpr ⟨(xOK_pure (xs_if_lt (show decode cX4_closeChoices 8 = .ok (.ifCond .lt 32, 3) by decide +kernel) (by decide))),
  List.forall_mem_cons.mpr ⟨(xOK_pure (xs_aload_n (k := 0) rfl (show decode cX4_closeChoices 11 = .ok (.aload_n 0, 1) by decide +kernel))),
  List.forall_mem_cons.mpr ⟨(xOK_pure (xs_getf xcl_4 (by decide) (show decode cX4_closeChoices 12 = .ok (.getfield 15, 3) by decide +kernel) xw_417)),
  List.forall_mem_cons.mpr ⟨(xOK_pure (xs_iload_n (k := 1) rfl (show decode cX4_closeChoices 15 = .ok (.iload_n 1, 1) by decide +kernel))),
  List.forall_mem_cons.mpr ⟨(xOK_pure (xs_iald (show decode cX4_closeChoices 16 = .ok (.iaload, 1) by decide +kernel))),
  List.forall_mem_cons.mpr ⟨(xOK_pure (xs_bipush (n := 58) (show decode cX4_closeChoices 17 = .ok (.bipush 58, 2) by decide +kernel) (by decide))),
  List.forall_mem_cons.mpr ⟨(xOK_pure (xs_icmp_ne (show decode cX4_closeChoices 19 = .ok (.if_icmp .ne 21, 3) by decide +kernel) (by decide))),
  List.forall_mem_cons.mpr ⟨(xOK_pure (xs_aload_n (k := 0) rfl (show decode cX4_closeChoices 22 = .ok (.aload_n 0, 1) by decide +kernel))),
  List.forall_mem_cons.mpr ⟨(xOK_pure (xs_sipush (n := 2063) (show decode cX4_closeChoices 23 = .ok (.sipush 2063, 3) by decide +kernel) (by decide))),
  List.forall_mem_cons.mpr ⟨(xcm mi_60 ⟨⟨(by decide +kernel), (by decide +kernel), (by decide +kernel)⟩, (by decide), xw_880, xw_124, Or.inl ⟨rfl, _, _, _, _, (show decode cX4_closeChoices 26 = .ok (.invokevirtual 82, 3) by decide +kernel), xw_877, xw_879, xw_9, rfl⟩⟩),
  List.forall_mem_cons.mpr ⟨(xOK_pure (xs_aload_n (k := 0) rfl (show decode cX4_closeChoices 29 = .ok (.aload_n 0, 1) by decide +kernel))),
  List.forall_mem_cons.mpr ⟨(xOK_pure (xs_iload_n (k := 1) rfl (show decode cX4_closeChoices 30 = .ok (.iload_n 1, 1) by decide +kernel))),
  List.forall_mem_cons.mpr ⟨(xs_putf (k := 3) xcl_4 (by decide) rfl (show decode cX4_closeChoices 31 = .ok (.putfield 58, 3) by decide +kernel) xw_418),
  List.forall_mem_cons.mpr ⟨(xOK_pure (xs_iinc (n := (-1)) (show decode cX4_closeChoices 34 = .ok (.iinc 1 (-1), 3) by decide +kernel) (by decide) (by decide))),
  (fun _ h => absurd h List.not_mem_nil)⟩⟩⟩⟩⟩⟩⟩⟩⟩⟩⟩⟩⟩⟩⟩⟩⟩⟩⟩⟩
def pX4_closeChoices_1 (ev : xEv) : List (Nat × xEn) := [(37, .inl (xop (xf_goto 7))), (40, .inr (.inr 0))]
set_option maxRecDepth 20000 in
theorem okpX4_closeChoices_1 (ev : xEv) : ∀ q ∈ pX4_closeChoices_1 ev, xEnOK ev xmi yX4_closeChoices.cls yX4_closeChoices.name cX4_closeChoices 2 none q :=
  List.forall_mem_cons.mpr ⟨(xOK_pure (xs_goto (show decode cX4_closeChoices 37 = .ok (.goto (-30), 3) by decide +kernel) (by decide))),
  List.forall_mem_cons.mpr ⟨(Or.inl ⟨rfl, (show decode cX4_closeChoices 40 = .ok (.return_, 1) by decide +kernel), rfl⟩),
  (fun _ h => absurd h List.not_mem_nil)⟩⟩
def pX4_closeChoices (ev : xEv) : List (Nat × xEn) := pX4_closeChoices_0 ev ++ (pX4_closeChoices_1 ev)
theorem okpX4_closeChoices (ev : xEv) : ∀ q ∈ pX4_closeChoices ev, xEnOK ev xmi yX4_closeChoices.cls yX4_closeChoices.name cX4_closeChoices 2 none q := List.forall_mem_append.mpr ⟨okpX4_closeChoices_0 ev, okpX4_closeChoices_1 ev⟩
theorem omX4_closeChoices (ev : xEv) : xMethOK ev xmi yX4_closeChoices.cls yX4_closeChoices.name 57 (pX4_closeChoices ev) := xMethOK.of mi_57 (by decide +kernel) (okpX4_closeChoices ev)
def pX4_hold (ev : xEv) : List (Nat × xEn) := [(0, .inl (xop (xf_aload 0 1))), (1, .inl (xop (xf_getf 4 3))), (4, .inl (xop (xf_aload 0 1))), (5, .inl (xop (xf_getf 4 2))), (8, .inl (xop (xf_alen (ev.1 0)))), (9, .inl (xop (xf_icmp_ge 32))), (12, .inl (xop (xf_aload 0 1))), (13, .inl (xop (xf_getf 4 2))), (16, .inl (xop (xf_aload 0 1))), (17, .inl (xop (xf_getf 4 3))), (20, .inl (xop (xf_iload 1 1))), (21, .inl (xo_ast (ev.1 0) (fun x => x))), (22, .inl (xop (xf_aload 0 1))), (23, .inl (xop xf_dup)), (24, .inl (xop (xf_getf 4 3))), (27, .inl (xop (xf_push (.int 1) 1))), (28, .inl (xop (xf_bin (fun x y => x + y)))), (29, .inl (xo_putf 4 3 .int)), (32, .inr (.inr 0))]
set_option maxRecDepth 20000 in
theorem okpX4_hold (ev : xEv) : ∀ q ∈ pX4_hold ev, xEnOK ev xmi yX4_hold.cls yX4_hold.name cX4_hold 2 none q :=
  List.forall_mem_cons.mpr ⟨(xOK_pure (xs_aload_n (k := 0) rfl (show decode cX4_hold 0 = .ok (.aload_n 0, 1) by decide +kernel))),
  List.forall_mem_cons.mpr ⟨(xOK_pure (xs_getf xcl_4 (by decide) (show decode cX4_hold 1 = .ok (.getfield 58, 3) by decide +kernel) xw_418)),
  List.forall_mem_cons.mpr ⟨(xOK_pure (xs_aload_n (k := 0) rfl (show decode cX4_hold 4 = .ok (.aload_n 0, 1) by decide +kernel))),
  List.forall_mem_cons.mpr ⟨(xOK_pure (xs_getf xcl_4 (by decide) (show decode cX4_hold 5 = .ok (.getfield 15, 3) by decide +kernel) xw_417)),
  List.forall_mem_cons.mpr ⟨(xOK_pure (xs_alen (t := 0) rfl (show decode cX4_hold 8 = .ok (.arraylength, 1) by decide +kernel))),
  List.forall_mem_cons.mpr ⟨(xOK_pure (xs_icmp_ge (show decode cX4_hold 9 = .ok (.if_icmp .ge 23, 3) by decide +kernel) (by decide))),
  List.forall_mem_cons.mpr ⟨(xOK_pure (xs_aload_n (k := 0) rfl (show decode cX4_hold 12 = .ok (.aload_n 0, 1) by decide +kernel))),
  List.forall_mem_cons.mpr ⟨(xOK_pure (xs_getf xcl_4 (by decide) (show decode cX4_hold 13 = .ok (.getfield 15, 3) by decide +kernel) xw_417)),
  List.forall_mem_cons.mpr ⟨(xOK_pure (xs_aload_n (k := 0) rfl (show decode cX4_hold 16 = .ok (.aload_n 0, 1) by decide +kernel))),
  List.forall_mem_cons.mpr ⟨(xOK_pure (xs_getf xcl_4 (by decide) (show decode cX4_hold 17 = .ok (.getfield 58, 3) by decide +kernel) xw_418)),
  List.forall_mem_cons.mpr ⟨(xOK_pure (xs_iload_n (k := 1) rfl (show decode cX4_hold 20 = .ok (.iload_n 1, 1) by decide +kernel))),
  List.forall_mem_cons.mpr ⟨(xs_iast (show decode cX4_hold 21 = .ok (.iastore, 1) by decide +kernel)),
  List.forall_mem_cons.mpr ⟨(xOK_pure (xs_aload_n (k := 0) rfl (show decode cX4_hold 22 = .ok (.aload_n 0, 1) by decide +kernel))),
  List.forall_mem_cons.mpr ⟨(xOK_pure (xs_dup (show decode cX4_hold 23 = .ok (.dup, 1) by decide +kernel))),
  List.forall_mem_cons.mpr ⟨(xOK_pure (xs_getf xcl_4 (by decide) (show decode cX4_hold 24 = .ok (.getfield 58, 3) by decide +kernel) xw_418)),
  List.forall_mem_cons.mpr ⟨(xOK_pure (xs_iconst (n := 1) (show decode cX4_hold 27 = .ok (.iconst 1, 1) by decide +kernel) (by decide))),
  List.forall_mem_cons.mpr ⟨(xOK_pure (xs_iadd (show decode cX4_hold 28 = .ok (.iadd, 1) by decide +kernel))),
  List.forall_mem_cons.mpr ⟨(xs_putf (k := 3) xcl_4 (by decide) rfl (show decode cX4_hold 29 = .ok (.putfield 58, 3) by decide +kernel) xw_418),
  List.forall_mem_cons.mpr ⟨(Or.inl ⟨rfl, (show decode cX4_hold 32 = .ok (.return_, 1) by decide +kernel), rfl⟩),
  (fun _ h => absurd h List.not_mem_nil)⟩⟩⟩⟩⟩⟩⟩⟩⟩⟩⟩⟩⟩⟩⟩⟩⟩⟩⟩
theorem omX4_hold (ev : xEv) : xMethOK ev xmi yX4_hold.cls yX4_hold.name 58 (pX4_hold ev) := xMethOK.of mi_58 (by decide +kernel) (okpX4_hold ev)
def pX4_drop (ev : xEv) : List (Nat × xEn) := [(0, .inl (xop (xf_aload 0 1))), (1, .inl (xop (xf_getf 4 3))), (4, .inl (xop (xf_if_le 17))), (7, .inl (xop (xf_aload 0 1))), (8, .inl (xop xf_dup)), (9, .inl (xop (xf_getf 4 3))), (12, .inl (xop (xf_push (.int 1) 1))), (13, .inl (xop (xf_bin (fun x y => x - y)))), (14, .inl (xo_putf 4 3 .int)), (17, .inr (.inr 0))]
set_option maxRecDepth 20000 in
theorem okpX4_drop (ev : xEv) : ∀ q ∈ pX4_drop ev, xEnOK ev xmi yX4_drop.cls yX4_drop.name cX4_drop 1 none q :=
  List.forall_mem_cons.mpr ⟨(xOK_pure (xs_aload_n (k := 0) rfl (show decode cX4_drop 0 = .ok (.aload_n 0, 1) by decide +kernel))),
  List.forall_mem_cons.mpr ⟨(xOK_pure (xs_getf xcl_4 (by decide) (show decode cX4_drop 1 = .ok (.getfield 58, 3) by decide +kernel) xw_418)),
  List.forall_mem_cons.mpr ⟨(xOK_pure (xs_if_le (show decode cX4_drop 4 = .ok (.ifCond .le 13, 3) by decide +kernel) (by decide))),
  List.forall_mem_cons.mpr ⟨(xOK_pure (xs_aload_n (k := 0) rfl (show decode cX4_drop 7 = .ok (.aload_n 0, 1) by decide +kernel))),
  List.forall_mem_cons.mpr ⟨(xOK_pure (xs_dup (show decode cX4_drop 8 = .ok (.dup, 1) by decide +kernel))),
  List.forall_mem_cons.mpr ⟨(xOK_pure (xs_getf xcl_4 (by decide) (show decode cX4_drop 9 = .ok (.getfield 58, 3) by decide +kernel) xw_418)),
  List.forall_mem_cons.mpr ⟨(xOK_pure (xs_iconst (n := 1) (show decode cX4_drop 12 = .ok (.iconst 1, 1) by decide +kernel) (by decide))),
  List.forall_mem_cons.mpr ⟨(xOK_pure (xs_isub (show decode cX4_drop 13 = .ok (.isub, 1) by decide +kernel))),
  List.forall_mem_cons.mpr ⟨(xs_putf (k := 3) xcl_4 (by decide) rfl (show decode cX4_drop 14 = .ok (.putfield 58, 3) by decide +kernel) xw_418),
  List.forall_mem_cons.mpr ⟨(Or.inl ⟨rfl, (show decode cX4_drop 17 = .ok (.return_, 1) by decide +kernel), rfl⟩),
  (fun _ h => absurd h List.not_mem_nil)⟩⟩⟩⟩⟩⟩⟩⟩⟩⟩
theorem omX4_drop (ev : xEv) : xMethOK ev xmi yX4_drop.cls yX4_drop.name 59 (pX4_drop ev) := xMethOK.of mi_59 (by decide +kernel) (okpX4_drop ev)
def pX4_write (ev : xEv) : List (Nat × xEn) := [(0, .inl (xop (xf_aload 0 1))), (1, .inl (xop (xf_getf 4 1))), (4, .inl (xop (xf_aload 0 1))), (5, .inl (xop (xf_getf 4 0))), (8, .inl (xop (xf_alen (ev.1 0)))), (9, .inl (xop (xf_icmp_ge 32))), (12, .inl (xop (xf_aload 0 1))), (13, .inl (xop (xf_getf 4 0))), (16, .inl (xop (xf_aload 0 1))), (17, .inl (xop (xf_getf 4 1))), (20, .inl (xop (xf_iload 1 1))), (21, .inl (xo_ast (ev.1 0) (fun x => x))), (22, .inl (xop (xf_aload 0 1))), (23, .inl (xop xf_dup)), (24, .inl (xop (xf_getf 4 1))), (27, .inl (xop (xf_push (.int 1) 1))), (28, .inl (xop (xf_bin (fun x y => x + y)))), (29, .inl (xo_putf 4 1 .int)), (32, .inr (.inr 0))]
set_option maxRecDepth 20000 in
theorem okpX4_write (ev : xEv) : ∀ q ∈ pX4_write ev, xEnOK ev xmi yX4_write.cls yX4_write.name cX4_write 2 none q :=
  List.forall_mem_cons.mpr ⟨(xOK_pure (xs_aload_n (k := 0) rfl (show decode cX4_write 0 = .ok (.aload_n 0, 1) by decide +kernel))),
  List.forall_mem_cons.mpr ⟨(xOK_pure (xs_getf xcl_4 (by decide) (show decode cX4_write 1 = .ok (.getfield 55, 3) by decide +kernel) xw_415)),
  List.forall_mem_cons.mpr ⟨(xOK_pure (xs_aload_n (k := 0) rfl (show decode cX4_write 4 = .ok (.aload_n 0, 1) by decide +kernel))),
  List.forall_mem_cons.mpr ⟨(xOK_pure (xs_getf xcl_4 (by decide) (show decode cX4_write 5 = .ok (.getfield 9, 3) by decide +kernel) xw_413)),
  List.forall_mem_cons.mpr ⟨(xOK_pure (xs_alen (t := 0) rfl (show decode cX4_write 8 = .ok (.arraylength, 1) by decide +kernel))),
  List.forall_mem_cons.mpr ⟨(xOK_pure (xs_icmp_ge (show decode cX4_write 9 = .ok (.if_icmp .ge 23, 3) by decide +kernel) (by decide))),
  List.forall_mem_cons.mpr ⟨(xOK_pure (xs_aload_n (k := 0) rfl (show decode cX4_write 12 = .ok (.aload_n 0, 1) by decide +kernel))),
  List.forall_mem_cons.mpr ⟨(xOK_pure (xs_getf xcl_4 (by decide) (show decode cX4_write 13 = .ok (.getfield 9, 3) by decide +kernel) xw_413)),
  List.forall_mem_cons.mpr ⟨(xOK_pure (xs_aload_n (k := 0) rfl (show decode cX4_write 16 = .ok (.aload_n 0, 1) by decide +kernel))),
  List.forall_mem_cons.mpr ⟨(xOK_pure (xs_getf xcl_4 (by decide) (show decode cX4_write 17 = .ok (.getfield 55, 3) by decide +kernel) xw_415)),
  List.forall_mem_cons.mpr ⟨(xOK_pure (xs_iload_n (k := 1) rfl (show decode cX4_write 20 = .ok (.iload_n 1, 1) by decide +kernel))),
  List.forall_mem_cons.mpr ⟨(xs_iast (show decode cX4_write 21 = .ok (.iastore, 1) by decide +kernel)),
  List.forall_mem_cons.mpr ⟨(xOK_pure (xs_aload_n (k := 0) rfl (show decode cX4_write 22 = .ok (.aload_n 0, 1) by decide +kernel))),
  List.forall_mem_cons.mpr ⟨(xOK_pure (xs_dup (show decode cX4_write 23 = .ok (.dup, 1) by decide +kernel))),
  List.forall_mem_cons.mpr ⟨(xOK_pure (xs_getf xcl_4 (by decide) (show decode cX4_write 24 = .ok (.getfield 55, 3) by decide +kernel) xw_415)),
  List.forall_mem_cons.mpr ⟨(xOK_pure (xs_iconst (n := 1) (show decode cX4_write 27 = .ok (.iconst 1, 1) by decide +kernel) (by decide))),
  List.forall_mem_cons.mpr ⟨(xOK_pure (xs_iadd (show decode cX4_write 28 = .ok (.iadd, 1) by decide +kernel))),
  List.forall_mem_cons.mpr ⟨(xs_putf (k := 1) xcl_4 (by decide) rfl (show decode cX4_write 29 = .ok (.putfield 55, 3) by decide +kernel) xw_415),
  List.forall_mem_cons.mpr ⟨(Or.inl ⟨rfl, (show decode cX4_write 32 = .ok (.return_, 1) by decide +kernel), rfl⟩),
  (fun _ h => absurd h List.not_mem_nil)⟩⟩⟩⟩⟩⟩⟩⟩⟩⟩⟩⟩⟩⟩⟩⟩⟩⟩⟩
theorem omX4_write (ev : xEv) : xMethOK ev xmi yX4_write.cls yX4_write.name 60 (pX4_write ev) := xMethOK.of mi_60 (by decide +kernel) (okpX4_write ev)
def pX4_isDigit (ev : xEv) : List (Nat × xEn) := [(0, .inl (xop (xf_iload 0 1))), (1, .inl (xop (xf_push (.int 48) 2))), (3, .inl (xop (xf_icmp_lt 16))), (6, .inl (xop (xf_iload 0 1))), (7, .inl (xop (xf_push (.int 57) 2))), (9, .inl (xop (xf_icmp_gt 16))), (12, .inl (xop (xf_push (.int 1) 1))), (13, .inl (xop (xf_goto 17))), (16, .inl (xop (xf_push (.int 0) 1))), (17, .inr (.inr 4))]
set_option maxRecDepth 20000 in
theorem okpX4_isDigit (ev : xEv) : ∀ q ∈ pX4_isDigit ev, xEnOK ev xmi yX4_isDigit.cls yX4_isDigit.name cX4_isDigit 1 (some .boolean) q :=
  List.forall_mem_cons.mpr ⟨(xOK_pure (xs_iload_n (k := 0) rfl (show decode cX4_isDigit 0 = .ok (.iload_n 0, 1) by decide +kernel))),
  List.forall_mem_cons.mpr ⟨(xOK_pure (xs_bipush (n := 48) (show decode cX4_isDigit 1 = .ok (.bipush 48, 2) by decide +kernel) (by decide))),
  List.forall_mem_cons.mpr ⟨(xOK_pure (xs_icmp_lt (show decode cX4_isDigit 3 = .ok (.if_icmp .lt 13, 3) by decide +kernel) (by decide))),
  List.forall_mem_cons.mpr ⟨(xOK_pure (xs_iload_n (k := 0) rfl (show decode cX4_isDigit 6 = .ok (.iload_n 0, 1) by decide +kernel))),
  List.forall_mem_cons.mpr ⟨(xOK_pure (xs_bipush (n := 57) (show decode cX4_isDigit 7 = .ok (.bipush 57, 2) by decide +kernel) (by decide))),
  List.forall_mem_cons.mpr ⟨(xOK_pure (xs_icmp_gt (show decode cX4_isDigit 9 = .ok (.if_icmp .gt 7, 3) by decide +kernel) (by decide))),
  List.forall_mem_cons.mpr ⟨(xOK_pure (xs_iconst (n := 1) (show decode cX4_isDigit 12 = .ok (.iconst 1, 1) by decide +kernel) (by decide))),
  List.forall_mem_cons.mpr ⟨(xOK_pure (xs_goto (show decode cX4_isDigit 13 = .ok (.goto 4, 3) by decide +kernel) (by decide))),
  List.forall_mem_cons.mpr ⟨(xOK_pure (xs_iconst (n := 0) (show decode cX4_isDigit 16 = .ok (.iconst 0, 1) by decide +kernel) (by decide))),
  List.forall_mem_cons.mpr ⟨(Or.inr (Or.inr (Or.inr (Or.inr (Or.inl ⟨rfl, (show decode cX4_isDigit 17 = .ok (.ireturn, 1) by decide +kernel), rfl⟩))))),
  (fun _ h => absurd h List.not_mem_nil)⟩⟩⟩⟩⟩⟩⟩⟩⟩⟩
theorem omX4_isDigit (ev : xEv) : xMethOK ev xmi yX4_isDigit.cls yX4_isDigit.name 61 (pX4_isDigit ev) := xMethOK.of mi_61 (by decide +kernel) (okpX4_isDigit ev)
def pX4_strengthOf (ev : xEv) : List (Nat × xEn) := [(0, .inl (xop (xf_iload 0 1))), (1, .inl (xop (xf_sw (xlsw [(33, 102), (38, 94), (42, 100), (43, 98), (45, 98), (60, 96), (61, 96), (62, 96), (124, 92), (126, 102)] 105)))), (92, .inl (xop (xf_push (.int 1) 1))), (93, .inr (.inr 1)), (94, .inl (xop (xf_push (.int 2) 1))), (95, .inr (.inr 1)), (96, .inl (xop (xf_push (.int 3) 1))), (97, .inr (.inr 1)), (98, .inl (xop (xf_push (.int 4) 1))), (99, .inr (.inr 1)), (100, .inl (xop (xf_push (.int 5) 1))), (101, .inr (.inr 1)), (102, .inl (xop (xf_push (.int 6) 2))), (104, .inr (.inr 1)), (105, .inl (xop (xf_push (.int 0) 1))), (106, .inr (.inr 1))]
set_option maxRecDepth 20000 in
theorem okpX4_strengthOf (ev : xEv) : ∀ q ∈ pX4_strengthOf ev, xEnOK ev xmi yX4_strengthOf.cls yX4_strengthOf.name cX4_strengthOf 1 (some .int) q :=
  List.forall_mem_cons.mpr ⟨(xOK_pure (xs_iload_n (k := 0) rfl (show decode cX4_strengthOf 0 = .ok (.iload_n 0, 1) by decide +kernel))),
  List.forall_mem_cons.mpr ⟨(xOK_pure (xs_lsw (show decode cX4_strengthOf 1 = .ok (.lookupswitch 104 #[(33, 101), (38, 93), (42, 99), (43, 97), (45, 97), (60, 95), (61, 95), (62, 95), (124, 91), (126, 101)], 91) by decide +kernel) (by decide) (by decide) (by decide))),
  List.forall_mem_cons.mpr ⟨(xOK_pure (xs_iconst (n := 1) (show decode cX4_strengthOf 92 = .ok (.iconst 1, 1) by decide +kernel) (by decide))),
  List.forall_mem_cons.mpr ⟨(Or.inr (Or.inl ⟨rfl, (show decode cX4_strengthOf 93 = .ok (.ireturn, 1) by decide +kernel), rfl⟩)),
  List.forall_mem_cons.mpr ⟨(xOK_pure (xs_iconst (n := 2) (show decode cX4_strengthOf 94 = .ok (.iconst 2, 1) by decide +kernel) (by decide))),
  List.forall_mem_cons.mpr ⟨(Or.inr (Or.inl ⟨rfl, (show decode cX4_strengthOf 95 = .ok (.ireturn, 1) by decide +kernel), rfl⟩)),
  List.forall_mem_cons.mpr ⟨(xOK_pure (xs_iconst (n := 3) (show decode cX4_strengthOf 96 = .ok (.iconst 3, 1) by decide +kernel) (by decide))),
  List.forall_mem_cons.mpr ⟨(Or.inr (Or.inl ⟨rfl, (show decode cX4_strengthOf 97 = .ok (.ireturn, 1) by decide +kernel), rfl⟩)),
  List.forall_mem_cons.mpr ⟨(xOK_pure (xs_iconst (n := 4) (show decode cX4_strengthOf 98 = .ok (.iconst 4, 1) by decide +kernel) (by decide))),
  List.forall_mem_cons.mpr ⟨(Or.inr (Or.inl ⟨rfl, (show decode cX4_strengthOf 99 = .ok (.ireturn, 1) by decide +kernel), rfl⟩)),
  List.forall_mem_cons.mpr ⟨(xOK_pure (xs_iconst (n := 5) (show decode cX4_strengthOf 100 = .ok (.iconst 5, 1) by decide +kernel) (by decide))),
  List.forall_mem_cons.mpr ⟨(Or.inr (Or.inl ⟨rfl, (show decode cX4_strengthOf 101 = .ok (.ireturn, 1) by decide +kernel), rfl⟩)),
  List.forall_mem_cons.mpr ⟨(xOK_pure (xs_bipush (n := 6) (show decode cX4_strengthOf 102 = .ok (.bipush 6, 2) by decide +kernel) (by decide))),
  List.forall_mem_cons.mpr ⟨(Or.inr (Or.inl ⟨rfl, (show decode cX4_strengthOf 104 = .ok (.ireturn, 1) by decide +kernel), rfl⟩)),
  List.forall_mem_cons.mpr ⟨(xOK_pure (xs_iconst (n := 0) (show decode cX4_strengthOf 105 = .ok (.iconst 0, 1) by decide +kernel) (by decide))),
  List.forall_mem_cons.mpr ⟨(Or.inr (Or.inl ⟨rfl, (show decode cX4_strengthOf 106 = .ok (.ireturn, 1) by decide +kernel), rfl⟩)),
  (fun _ h => absurd h List.not_mem_nil)⟩⟩⟩⟩⟩⟩⟩⟩⟩⟩⟩⟩⟩⟩⟩⟩
theorem omX4_strengthOf (ev : xEv) : xMethOK ev xmi yX4_strengthOf.cls yX4_strengthOf.name 62 (pX4_strengthOf ev) := xMethOK.of mi_62 (by decide +kernel) (okpX4_strengthOf ev)
def pX10_init_0 (ev : xEv) : List (Nat × xEn) := [(0, .inl (xop (xf_aload 0 1))), (1, .inl (xop xf_objInit)), (4, .inl (xop (xf_aload 0 1))), (5, .inl (xo_new 9 9 [.int 0, .int 0, .null, .null, .null, .null, .null, .null, .null])), (8, .inl (xop xf_dup)), (9, .inr (.inl (2, 92, 0, 9))), (12, .inl (xo_putf 10 1 (.object "AirMail$Words"))), (15, .inl (xop (xf_aload 0 1))), (16, .inl (xo_new 8 8 [.int 0, .int 0, .null, .null, .null, .null, .null, .null])), (19, .inl (xop xf_dup)), (20, .inl (xop (xf_push (.int 20) 2))), (22, .inr (.inl (2, 84, 1, 8))), (25, .inl (xo_putf 10 2 (.object "AirMail$Texts"))), (28, .inl (xop (xf_aload 0 1))), (29, .inl (xo_new 8 8 [.int 0, .int 0, .null, .null, .null, .null, .null, .null])), (32, .inl (xop xf_dup)), (33, .inl (xop (xf_push (.int 12) 2))), (35, .inr (.inl (2, 84, 1, 8))), (38, .inl (xo_putf 10 3 (.object "AirMail$Texts"))), (41, .inl (xop (xf_aload 0 1)))]
set_option maxRecDepth 20000 in
theorem okpX10_init_0 (ev : xEv) : ∀ q ∈ pX10_init_0 ev, xEnOK ev xmi yX10_init.cls yX10_init.name cX10_init 2 none q :=
  List.forall_mem_cons.mpr ⟨(xOK_pure (xs_aload_n (k := 0) rfl (show decode cX10_init 0 = .ok (.aload_n 0, 1) by decide +kernel))),
  List.forall_mem_cons.mpr ⟨(xOK_pure (xs_objInit (show decode cX10_init 1 = .ok (.invokespecial 3, 3) by decide +kernel) xw_216 xw_150 xw_151)),
  List.forall_mem_cons.mpr ⟨(xOK_pure (xs_aload_n (k := 0) rfl (show decode cX10_init 4 = .ok (.aload_n 0, 1) by decide +kernel))),
  List.forall_mem_cons.mpr ⟨(xs_new xcl_9 (by decide +kernel) (show decode cX10_init 5 = .ok (.new 9, 3) by decide +kernel) xw_217 xw_218 xw_121),
  List.forall_mem_cons.mpr ⟨(xOK_pure (xs_dup (show decode cX10_init 8 = .ok (.dup, 1) by decide +kernel))),
  List.forall_mem_cons.mpr ⟨(xcm mi_92 ⟨⟨(by decide +kernel), (by decide +kernel), (by decide +kernel)⟩, (by decide), xw_221, xw_121, Or.inr (Or.inr (Or.inl ⟨rfl, _, (show decode cX10_init 9 = .ok (.invokespecial 11, 3) by decide +kernel), rfl, xw_219, xw_220, rfl⟩))⟩),
  List.forall_mem_cons.mpr ⟨(xs_putF (k := 1) xcl_10 (by decide) rfl rfl rfl (show decode cX10_init 12 = .ok (.putfield 12, 3) by decide +kernel) xw_303),
  List.forall_mem_cons.mpr ⟨(xOK_pure (xs_aload_n (k := 0) rfl (show decode cX10_init 15 = .ok (.aload_n 0, 1) by decide +kernel))),
  List.forall_mem_cons.mpr ⟨(xs_new xcl_8 (by decide +kernel) (show decode cX10_init 16 = .ok (.new 18, 3) by decide +kernel) xw_260 xw_261 xw_122),
  List.forall_mem_cons.mpr ⟨(xOK_pure (xs_dup (show decode cX10_init 19 = .ok (.dup, 1) by decide +kernel))),
  List.forall_mem_cons.mpr ⟨(xOK_pure (xs_bipush (n := 20) (show decode cX10_init 20 = .ok (.bipush 20, 2) by decide +kernel) (by decide))),
  List.forall_mem_cons.mpr ⟨(xcm mi_84 ⟨⟨(by decide +kernel), (by decide +kernel), (by decide +kernel)⟩, (by decide), xw_264, xw_122, Or.inr (Or.inr (Or.inl ⟨rfl, _, (show decode cX10_init 22 = .ok (.invokespecial 20, 3) by decide +kernel), rfl, xw_262, xw_263, rfl⟩))⟩),
  List.forall_mem_cons.mpr ⟨(xs_putF (k := 2) xcl_10 (by decide) rfl rfl rfl (show decode cX10_init 25 = .ok (.putfield 23, 3) by decide +kernel) xw_305),
  List.forall_mem_cons.mpr ⟨(xOK_pure (xs_aload_n (k := 0) rfl (show decode cX10_init 28 = .ok (.aload_n 0, 1) by decide +kernel))),
  List.forall_mem_cons.mpr ⟨(xs_new xcl_8 (by decide +kernel) (show decode cX10_init 29 = .ok (.new 18, 3) by decide +kernel) xw_260 xw_261 xw_122),
  List.forall_mem_cons.mpr ⟨(xOK_pure (xs_dup (show decode cX10_init 32 = .ok (.dup, 1) by decide +kernel))),
  List.forall_mem_cons.mpr ⟨(xOK_pure (xs_bipush (n := 12) (show decode cX10_init 33 = .ok (.bipush 12, 2) by decide +kernel) (by decide))),
  List.forall_mem_cons.mpr ⟨(xcm mi_84 ⟨⟨(by decide +kernel), (by decide +kernel), (by decide +kernel)⟩, (by decide), xw_264, xw_122, Or.inr (Or.inr (Or.inl ⟨rfl, _, (show decode cX10_init 35 = .ok (.invokespecial 20, 3) by decide +kernel), rfl, xw_262, xw_263, rfl⟩))⟩),
  List.forall_mem_cons.mpr ⟨(xs_putF (k := 3) xcl_10 (by decide) rfl rfl rfl (show decode cX10_init 38 = .ok (.putfield 27, 3) by decide +kernel) xw_307),
  List.forall_mem_cons.mpr ⟨(xOK_pure (xs_aload_n (k := 0) rfl (show decode cX10_init 41 = .ok (.aload_n 0, 1) by decide +kernel))),
  (fun _ h => absurd h List.not_mem_nil)⟩⟩⟩⟩⟩⟩⟩⟩⟩⟩⟩⟩⟩⟩⟩⟩⟩⟩⟩⟩
def pX10_init_1 (ev : xEv) : List (Nat × xEn) := [(42, .inl (xop (xf_push (.int 8) 2))), (44, .inl (xo_anew (ev.1 5))), (47, .inl (xo_putf 10 4 (.array (.object "AirMail$Plane")))), (50, .inl (xop (xf_aload 0 1))), (51, .inl (xop (xf_push (.int 8) 2))), (53, .inl (xo_anew (ev.1 6))), (56, .inl (xo_putf 10 6 (.array (.object "AirMail$Pilot")))), (59, .inl (xop (xf_aload 0 1))), (60, .inl (xop (xf_push (.int 30) 2))), (62, .inl (xo_anew (ev.1 7))), (65, .inl (xo_putf 10 8 (.array (.object "AirMail$Bag")))), (68, .inl (xop (xf_aload 0 1))), (69, .inl (xop (xf_push (.int 30) 2))), (71, .inl (xo_newa (ev.1 0) (.inl (fun _ => 0)))), (73, .inl (xo_putf 10 10 (.array .int))), (76, .inl (xop (xf_aload 0 1))), (77, .inl (xop (xf_push (.int 24) 2))), (79, .inl (xo_anew (ev.1 8))), (82, .inl (xo_putf 10 11 (.array (.object "AirMail$Flight")))), (85, .inl (xop (xf_aload 0 1)))]
set_option maxRecDepth 20000 in
theorem okpX10_init_1 (ev : xEv) : ∀ q ∈ pX10_init_1 ev, xEnOK ev xmi yX10_init.cls yX10_init.name cX10_init 2 none q :=
  List.forall_mem_cons.mpr ⟨(xOK_pure (xs_bipush (n := 8) (show decode cX10_init 42 = .ok (.bipush 8, 2) by decide +kernel) (by decide))),
  List.forall_mem_cons.mpr ⟨(xs_anew (t := 5) rfl (show decode cX10_init 44 = .ok (.anewarray 30, 3) by decide +kernel) xw_293 xwo_294),
  List.forall_mem_cons.mpr ⟨(xs_putF (k := 4) xcl_10 (by decide) rfl rfl rfl (show decode cX10_init 47 = .ok (.putfield 32, 3) by decide +kernel) xw_309),
  List.forall_mem_cons.mpr ⟨(xOK_pure (xs_aload_n (k := 0) rfl (show decode cX10_init 50 = .ok (.aload_n 0, 1) by decide +kernel))),
  List.forall_mem_cons.mpr ⟨(xOK_pure (xs_bipush (n := 8) (show decode cX10_init 51 = .ok (.bipush 8, 2) by decide +kernel) (by decide))),
  List.forall_mem_cons.mpr ⟨(xs_anew (t := 6) rfl (show decode cX10_init 53 = .ok (.anewarray 36, 3) by decide +kernel) xw_295 xwo_296),
  List.forall_mem_cons.mpr ⟨(xs_putF (k := 6) xcl_10 (by decide) rfl rfl rfl (show decode cX10_init 56 = .ok (.putfield 38, 3) by decide +kernel) xw_315),
  List.forall_mem_cons.mpr ⟨(xOK_pure (xs_aload_n (k := 0) rfl (show decode cX10_init 59 = .ok (.aload_n 0, 1) by decide +kernel))),
  List.forall_mem_cons.mpr ⟨(xOK_pure (xs_bipush (n := 30) (show decode cX10_init 60 = .ok (.bipush 30, 2) by decide +kernel) (by decide))),
  List.forall_mem_cons.mpr ⟨(xs_anew (t := 7) rfl (show decode cX10_init 62 = .ok (.anewarray 42, 3) by decide +kernel) xw_297 xwo_298),
  List.forall_mem_cons.mpr ⟨(xs_putF (k := 8) xcl_10 (by decide) rfl rfl rfl (show decode cX10_init 65 = .ok (.putfield 44, 3) by decide +kernel) xw_319),
  List.forall_mem_cons.mpr ⟨(xOK_pure (xs_aload_n (k := 0) rfl (show decode cX10_init 68 = .ok (.aload_n 0, 1) by decide +kernel))),
  List.forall_mem_cons.mpr ⟨(xOK_pure (xs_bipush (n := 30) (show decode cX10_init 69 = .ok (.bipush 30, 2) by decide +kernel) (by decide))),
  List.forall_mem_cons.mpr ⟨(xs_newa (t := 0) (ty := .int) rfl rfl (fun _ _ => rfl) (by decide) (show decode cX10_init 71 = .ok (.newarray .int, 2) by decide +kernel) xw_209),
  List.forall_mem_cons.mpr ⟨(xs_putF (k := 10) xcl_10 (by decide) rfl rfl rfl (show decode cX10_init 73 = .ok (.putfield 48, 3) by decide +kernel) xw_323),
  List.forall_mem_cons.mpr ⟨(xOK_pure (xs_aload_n (k := 0) rfl (show decode cX10_init 76 = .ok (.aload_n 0, 1) by decide +kernel))),
  List.forall_mem_cons.mpr ⟨(xOK_pure (xs_bipush (n := 24) (show decode cX10_init 77 = .ok (.bipush 24, 2) by decide +kernel) (by decide))),
  List.forall_mem_cons.mpr ⟨(xs_anew (t := 8) rfl (show decode cX10_init 79 = .ok (.anewarray 52, 3) by decide +kernel) xw_299 xwo_300),
  List.forall_mem_cons.mpr ⟨(xs_putF (k := 11) xcl_10 (by decide) rfl rfl rfl (show decode cX10_init 82 = .ok (.putfield 54, 3) by decide +kernel) xw_324),
  List.forall_mem_cons.mpr ⟨(xOK_pure (xs_aload_n (k := 0) rfl (show decode cX10_init 85 = .ok (.aload_n 0, 1) by decide +kernel))),
  (fun _ h => absurd h List.not_mem_nil)⟩⟩⟩⟩⟩⟩⟩⟩⟩⟩⟩⟩⟩⟩⟩⟩⟩⟩⟩⟩
def pX10_init_2 (ev : xEv) : List (Nat × xEn) := [(86, .inl (xop (xf_push (.int 6) 2))), (88, .inl (xo_putf 10 15 .int)), (91, .inl (xop (xf_aload 0 1))), (92, .inl (xop (xf_push (.int 1) 1))), (93, .inl (xo_putf 10 16 .int)), (96, .inl (xop (xf_aload 0 1))), (97, .inl (xop (xf_aload 1 1))), (98, .inl (xo_putf 10 0 (.object "AirMail$Land"))), (101, .inr (.inr 0))]
set_option maxRecDepth 20000 in
theorem okpX10_init_2 (ev : xEv) : ∀ q ∈ pX10_init_2 ev, xEnOK ev xmi yX10_init.cls yX10_init.name cX10_init 2 none q :=
  List.forall_mem_cons.mpr ⟨(xOK_pure (xs_bipush (n := 6) (show decode cX10_init 86 = .ok (.bipush 6, 2) by decide +kernel) (by decide))),
  List.forall_mem_cons.mpr ⟨(xs_putf (k := 15) xcl_10 (by decide) rfl (show decode cX10_init 88 = .ok (.putfield 58, 3) by decide +kernel) xw_333),
  List.forall_mem_cons.mpr ⟨(xOK_pure (xs_aload_n (k := 0) rfl (show decode cX10_init 91 = .ok (.aload_n 0, 1) by decide +kernel))),
  List.forall_mem_cons.mpr ⟨(xOK_pure (xs_iconst (n := 1) (show decode cX10_init 92 = .ok (.iconst 1, 1) by decide +kernel) (by decide))),
  List.forall_mem_cons.mpr ⟨(xs_putf (k := 16) xcl_10 (by decide) rfl (show decode cX10_init 93 = .ok (.putfield 62, 3) by decide +kernel) xw_335),
  List.forall_mem_cons.mpr ⟨(xOK_pure (xs_aload_n (k := 0) rfl (show decode cX10_init 96 = .ok (.aload_n 0, 1) by decide +kernel))),
  List.forall_mem_cons.mpr ⟨(xOK_pure (xs_aload_n (k := 1) rfl (show decode cX10_init 97 = .ok (.aload_n 1, 1) by decide +kernel))),
  List.forall_mem_cons.mpr ⟨(xs_putF (k := 0) xcl_10 (by decide) rfl rfl rfl (show decode cX10_init 98 = .ok (.putfield 65, 3) by decide +kernel) xw_301),
  List.forall_mem_cons.mpr ⟨(Or.inl ⟨rfl, (show decode cX10_init 101 = .ok (.return_, 1) by decide +kernel), rfl⟩),
  (fun _ h => absurd h List.not_mem_nil)⟩⟩⟩⟩⟩⟩⟩⟩⟩
def pX10_init (ev : xEv) : List (Nat × xEn) := pX10_init_0 ev ++ (pX10_init_1 ev ++ (pX10_init_2 ev))
theorem okpX10_init (ev : xEv) : ∀ q ∈ pX10_init ev, xEnOK ev xmi yX10_init.cls yX10_init.name cX10_init 2 none q := List.forall_mem_append.mpr ⟨okpX10_init_0 ev, List.forall_mem_append.mpr ⟨okpX10_init_1 ev, okpX10_init_2 ev⟩⟩
theorem omX10_init (ev : xEv) : xMethOK ev xmi yX10_init.cls yX10_init.name 95 (pX10_init ev) := xMethOK.of mi_95 (by decide +kernel) (okpX10_init ev)
def pX10_addBag_0 (ev : xEv) : List (Nat × xEn) := [(0, .inl (xop (xf_aload 1 1))), (1, .inl (xop (xf_aload 0 1))), (2, .inl (xop (xf_getf 10 13))), (5, .inl (xop (xf_aload 1 1))), (6, .inl (xop (xf_getf 0 0))), (9, .inr (.inl (0, 6, 2, 0))), (12, .inl (xop (xf_aload 0 1))), (13, .inl (xop (xf_getf 10 8))), (16, .inl (xop (xf_aload 0 1))), (17, .inl (xop (xf_getf 10 9))), (20, .inl (xop (xf_aload 1 1))), (21, .inl (xo_aast (ev.1 7) 0)), (22, .inl (xop (xf_aload 0 1))), (23, .inl (xop (xf_getf 10 9))), (26, .inl (xop (xf_istore 2 1))), (27, .inl (xop (xf_iload 2 1))), (28, .inl (xop (xf_if_le 71))), (31, .inl (xop (xf_aload 1 1))), (32, .inl (xop (xf_aload 0 1))), (33, .inl (xop (xf_getf 10 8)))]
set_option maxRecDepth 20000 in
theorem okpX10_addBag_0 (ev : xEv) : ∀ q ∈ pX10_addBag_0 ev, xEnOK ev xmi yX10_addBag.cls yX10_addBag.name cX10_addBag 3 (some .int) q :=
  List.forall_mem_cons.mpr ⟨(xOK_pure (xs_aload_n (k := 1) rfl (show decode cX10_addBag 0 = .ok (.aload_n 1, 1) by decide +kernel))),
  List.forall_mem_cons.mpr ⟨(xOK_pure (xs_aload_n (k := 0) rfl (show decode cX10_addBag 1 = .ok (.aload_n 0, 1) by decide +kernel))),
  List.forall_mem_cons.mpr ⟨(xOK_pure (xs_getf xcl_10 (by decide) (show decode cX10_addBag 2 = .ok (.getfield 69, 3) by decide +kernel) xw_328)),
  List.forall_mem_cons.mpr ⟨(xOK_pure (xs_aload_n (k := 1) rfl (show decode cX10_addBag 5 = .ok (.aload_n 1, 1) by decide +kernel))),
  List.forall_mem_cons.mpr ⟨(xOK_pure (xs_getf xcl_0 (by decide) (show decode cX10_addBag 6 = .ok (.getfield 72, 3) by decide +kernel) xw_754)),
  List.forall_mem_cons.mpr ⟨(xcm mi_6 ⟨⟨(by decide +kernel), (by decide +kernel), (by decide +kernel)⟩, (by decide), xw_812, xw_134, Or.inl ⟨rfl, _, _, _, _, (show decode cX10_addBag 9 = .ok (.invokevirtual 75, 3) by decide +kernel), xw_809, xw_810, xw_811, rfl⟩⟩),
  List.forall_mem_cons.mpr ⟨(xOK_pure (xs_aload_n (k := 0) rfl (show decode cX10_addBag 12 = .ok (.aload_n 0, 1) by decide +kernel))),
  List.forall_mem_cons.mpr ⟨(xOK_pure (xs_getf xcl_10 (by decide) (show decode cX10_addBag 13 = .ok (.getfield 44, 3) by decide +kernel) xw_319)),
  List.forall_mem_cons.mpr ⟨(xOK_pure (xs_aload_n (k := 0) rfl (show decode cX10_addBag 16 = .ok (.aload_n 0, 1) by decide +kernel))),
  List.forall_mem_cons.mpr ⟨(xOK_pure (xs_getf xcl_10 (by decide) (show decode cX10_addBag 17 = .ok (.getfield 79, 3) by decide +kernel) xw_321)),
  List.forall_mem_cons.mpr ⟨(xOK_pure (xs_aload_n (k := 1) rfl (show decode cX10_addBag 20 = .ok (.aload_n 1, 1) by decide +kernel))),
  List.forall_mem_cons.mpr ⟨(xs_aast (t := 7) (ci := 0) (r0 := (RX0, TX0, 12)) rfl rfl (show decode cX10_addBag 21 = .ok (.aastore, 1) by decide +kernel)),
  List.forall_mem_cons.mpr ⟨(xOK_pure (xs_aload_n (k := 0) rfl (show decode cX10_addBag 22 = .ok (.aload_n 0, 1) by decide +kernel))),
  List.forall_mem_cons.mpr ⟨(xOK_pure (xs_getf xcl_10 (by decide) (show decode cX10_addBag 23 = .ok (.getfield 79, 3) by decide +kernel) xw_321)),
  List.forall_mem_cons.mpr ⟨(xOK_pure (xs_istore_n (k := 2) rfl (show decode cX10_addBag 26 = .ok (.istore_n 2, 1) by decide +kernel) (by decide))),
  List.forall_mem_cons.mpr ⟨(xOK_pure (xs_iload_n (k := 2) rfl (show decode cX10_addBag 27 = .ok (.iload_n 2, 1) by decide +kernel))),
  List.forall_mem_cons.mpr ⟨(xOK_pure (xs_if_le (show decode cX10_addBag 28 = .ok (.ifCond .le 43, 3) by decide +kernel) (by decide))),
  List.forall_mem_cons.mpr ⟨(xOK_pure (xs_aload_n (k := 1) rfl (show decode cX10_addBag 31 = .ok (.aload_n 1, 1) by decide +kernel))),
  List.forall_mem_cons.mpr ⟨(xOK_pure (xs_aload_n (k := 0) rfl (show decode cX10_addBag 32 = .ok (.aload_n 0, 1) by decide +kernel))),
  List.forall_mem_cons.mpr ⟨(xOK_pure (xs_getf xcl_10 (by decide) (show decode cX10_addBag 33 = .ok (.getfield 44, 3) by decide +kernel) xw_319)),
  (fun _ h => absurd h List.not_mem_nil)⟩⟩⟩⟩⟩⟩⟩⟩⟩⟩⟩⟩⟩⟩⟩⟩⟩⟩⟩⟩
def pX10_addBag_1 (ev : xEv) : List (Nat × xEn) := [(36, .inl (xop (xf_aload 0 1))), (37, .inl (xop (xf_getf 10 10))), (40, .inl (xop (xf_iload 2 1))), (41, .inl (xop (xf_push (.int 1) 1))), (42, .inl (xop (xf_bin (fun x y => x - y)))), (43, .inl (xop (xf_ald (ev.1 0)))), (44, .inl (xop (xf_aald (ev.1 7)))), (45, .inr (.inl (0, 1, 1, 0))), (48, .inl (xop (xf_if_eq 71))), (51, .inl (xop (xf_aload 0 1))), (52, .inl (xop (xf_getf 10 10))), (55, .inl (xop (xf_iload 2 1))), (56, .inl (xop (xf_aload 0 1))), (57, .inl (xop (xf_getf 10 10))), (60, .inl (xop (xf_iload 2 1))), (61, .inl (xop (xf_push (.int 1) 1))), (62, .inl (xop (xf_bin (fun x y => x - y)))), (63, .inl (xop (xf_ald (ev.1 0)))), (64, .inl (xo_ast (ev.1 0) (fun x => x))), (65, .inl (xop (xf_iinc 2 (-1))))]
set_option maxRecDepth 20000 in
theorem okpX10_addBag_1 (ev : xEv) : ∀ q ∈ pX10_addBag_1 ev, xEnOK ev xmi yX10_addBag.cls yX10_addBag.name cX10_addBag 3 (some .int) q :=
  List.forall_mem_cons.mpr ⟨(xOK_pure (xs_aload_n (k := 0) rfl (show decode cX10_addBag 36 = .ok (.aload_n 0, 1) by decide +kernel))),
  List.forall_mem_cons.mpr ⟨(xOK_pure (xs_getf xcl_10 (by decide) (show decode cX10_addBag 37 = .ok (.getfield 48, 3) by decide +kernel) xw_323)),
  List.forall_mem_cons.mpr ⟨(xOK_pure (xs_iload_n (k := 2) rfl (show decode cX10_addBag 40 = .ok (.iload_n 2, 1) by decide +kernel))),
  List.forall_mem_cons.mpr ⟨(xOK_pure (xs_iconst (n := 1) (show decode cX10_addBag 41 = .ok (.iconst 1, 1) by decide +kernel) (by decide))),
  List.forall_mem_cons.mpr ⟨(xOK_pure (xs_isub (show decode cX10_addBag 42 = .ok (.isub, 1) by decide +kernel))),
  List.forall_mem_cons.mpr ⟨(xOK_pure (xs_iald (show decode cX10_addBag 43 = .ok (.iaload, 1) by decide +kernel))),
  List.forall_mem_cons.mpr ⟨(xOK_pure (xs_aald (t := 7) rfl (show decode cX10_addBag 44 = .ok (.aaload, 1) by decide +kernel))),
  List.forall_mem_cons.mpr ⟨(xcm mi_1 ⟨⟨(by decide +kernel), (by decide +kernel), (by decide +kernel)⟩, (by decide), xw_816, xw_134, Or.inl ⟨rfl, _, _, _, _, (show decode cX10_addBag 45 = .ok (.invokevirtual 82, 3) by decide +kernel), xw_813, xw_814, xw_815, rfl⟩⟩),
  List.forall_mem_cons.mpr ⟨(xOK_pure (xs_if_eq (show decode cX10_addBag 48 = .ok (.ifCond .eq 23, 3) by decide +kernel) (by decide))),
  List.forall_mem_cons.mpr ⟨(xOK_pure (xs_aload_n (k := 0) rfl (show decode cX10_addBag 51 = .ok (.aload_n 0, 1) by decide +kernel))),
  List.forall_mem_cons.mpr ⟨(xOK_pure (xs_getf xcl_10 (by decide) (show decode cX10_addBag 52 = .ok (.getfield 48, 3) by decide +kernel) xw_323)),
  List.forall_mem_cons.mpr ⟨(xOK_pure (xs_iload_n (k := 2) rfl (show decode cX10_addBag 55 = .ok (.iload_n 2, 1) by decide +kernel))),
  List.forall_mem_cons.mpr ⟨(xOK_pure (xs_aload_n (k := 0) rfl (show decode cX10_addBag 56 = .ok (.aload_n 0, 1) by decide +kernel))),
  List.forall_mem_cons.mpr ⟨(xOK_pure (xs_getf xcl_10 (by decide) (show decode cX10_addBag 57 = .ok (.getfield 48, 3) by decide +kernel) xw_323)),
  List.forall_mem_cons.mpr ⟨(xOK_pure (xs_iload_n (k := 2) rfl (show decode cX10_addBag 60 = .ok (.iload_n 2, 1) by decide +kernel))),
  List.forall_mem_cons.mpr ⟨(xOK_pure (xs_iconst (n := 1) (show decode cX10_addBag 61 = .ok (.iconst 1, 1) by decide +kernel) (by decide))),
  List.forall_mem_cons.mpr ⟨(xOK_pure (xs_isub (show decode cX10_addBag 62 = .ok (.isub, 1) by decide +kernel))),
  List.forall_mem_cons.mpr ⟨(xOK_pure (xs_iald (show decode cX10_addBag 63 = .ok (.iaload, 1) by decide +kernel))),
  List.forall_mem_cons.mpr ⟨(xs_iast (show decode cX10_addBag 64 = .ok (.iastore, 1) by decide +kernel)),
  List.forall_mem_cons.mpr ⟨(xOK_pure (xs_iinc (n := (-1)) (show decode cX10_addBag 65 = .ok (.iinc 2 (-1), 3) by decide +kernel) (by decide) (by decide))),
  (fun _ h => absurd h List.not_mem_nil)⟩⟩⟩⟩⟩⟩⟩⟩⟩⟩⟩⟩⟩⟩⟩⟩⟩⟩⟩⟩
def pX10_addBag_2 (ev : xEv) : List (Nat × xEn) := [(68, .inl (xop (xf_goto 27))), (71, .inl (xop (xf_aload 0 1))), (72, .inl (xop (xf_getf 10 10))), (75, .inl (xop (xf_iload 2 1))), (76, .inl (xop (xf_aload 0 1))), (77, .inl (xop (xf_getf 10 9))), (80, .inl (xo_ast (ev.1 0) (fun x => x))), (81, .inl (xop (xf_aload 0 1))), (82, .inl (xop xf_dup)), (83, .inl (xop (xf_getf 10 9))), (86, .inl (xop xf_dupx1)), (87, .inl (xop (xf_push (.int 1) 1))), (88, .inl (xop (xf_bin (fun x y => x + y)))), (89, .inl (xo_putf 10 9 .int)), (92, .inr (.inr 1))]
set_option maxRecDepth 20000 in
theorem okpX10_addBag_2 (ev : xEv) : ∀ q ∈ pX10_addBag_2 ev, xEnOK ev xmi yX10_addBag.cls yX10_addBag.name cX10_addBag 3 (some .int) q :=
  List.forall_mem_cons.mpr ⟨(xOK_pure (xs_goto (show decode cX10_addBag 68 = .ok (.goto (-41), 3) by decide +kernel) (by decide))),
  List.forall_mem_cons.mpr ⟨(xOK_pure (xs_aload_n (k := 0) rfl (show decode cX10_addBag 71 = .ok (.aload_n 0, 1) by decide +kernel))),
  List.forall_mem_cons.mpr ⟨(xOK_pure (xs_getf xcl_10 (by decide) (show decode cX10_addBag 72 = .ok (.getfield 48, 3) by decide +kernel) xw_323)),
  List.forall_mem_cons.mpr ⟨(xOK_pure (xs_iload_n (k := 2) rfl (show decode cX10_addBag 75 = .ok (.iload_n 2, 1) by decide +kernel))),
  List.forall_mem_cons.mpr ⟨(xOK_pure (xs_aload_n (k := 0) rfl (show decode cX10_addBag 76 = .ok (.aload_n 0, 1) by decide +kernel))),
  List.forall_mem_cons.mpr ⟨(xOK_pure (xs_getf xcl_10 (by decide) (show decode cX10_addBag 77 = .ok (.getfield 79, 3) by decide +kernel) xw_321)),
  List.forall_mem_cons.mpr ⟨(xs_iast (show decode cX10_addBag 80 = .ok (.iastore, 1) by decide +kernel)),
  List.forall_mem_cons.mpr ⟨(xOK_pure (xs_aload_n (k := 0) rfl (show decode cX10_addBag 81 = .ok (.aload_n 0, 1) by decide +kernel))),
  List.forall_mem_cons.mpr ⟨(xOK_pure (xs_dup (show decode cX10_addBag 82 = .ok (.dup, 1) by decide +kernel))),
  List.forall_mem_cons.mpr ⟨(xOK_pure (xs_getf xcl_10 (by decide) (show decode cX10_addBag 83 = .ok (.getfield 79, 3) by decide +kernel) xw_321)),
  List.forall_mem_cons.mpr ⟨(xOK_pure (xs_dupx1 (show decode cX10_addBag 86 = .ok (.dup_x1, 1) by decide +kernel))),
  List.forall_mem_cons.mpr ⟨(xOK_pure (xs_iconst (n := 1) (show decode cX10_addBag 87 = .ok (.iconst 1, 1) by decide +kernel) (by decide))),
  List.forall_mem_cons.mpr ⟨(xOK_pure (xs_iadd (show decode cX10_addBag 88 = .ok (.iadd, 1) by decide +kernel))),
  List.forall_mem_cons.mpr ⟨(xs_putf (k := 9) xcl_10 (by decide) rfl (show decode cX10_addBag 89 = .ok (.putfield 79, 3) by decide +kernel) xw_321),
  List.forall_mem_cons.mpr ⟨(Or.inr (Or.inl ⟨rfl, (show decode cX10_addBag 92 = .ok (.ireturn, 1) by decide +kernel), rfl⟩)),
  (fun _ h => absurd h List.not_mem_nil)⟩⟩⟩⟩⟩⟩⟩⟩⟩⟩⟩⟩⟩⟩⟩
def pX10_addBag (ev : xEv) : List (Nat × xEn) := pX10_addBag_0 ev ++ (pX10_addBag_1 ev ++ (pX10_addBag_2 ev))
theorem okpX10_addBag (ev : xEv) : ∀ q ∈ pX10_addBag ev, xEnOK ev xmi yX10_addBag.cls yX10_addBag.name cX10_addBag 3 (some .int) q := List.forall_mem_append.mpr ⟨okpX10_addBag_0 ev, List.forall_mem_append.mpr ⟨okpX10_addBag_1 ev, okpX10_addBag_2 ev⟩⟩
theorem omX10_addBag (ev : xEv) : xMethOK ev xmi yX10_addBag.cls yX10_addBag.name 96 (pX10_addBag ev) := xMethOK.of mi_96 (by decide +kernel) (okpX10_addBag ev)
def pX10_pass_0 (ev : xEv) : List (Nat × xEn) := [(0, .inl (xop (xf_aload 0 1))), (1, .inl (xop (xf_getf 10 13))), (4, .inl (xop (xf_iload 1 1))), (5, .inl (xop (xf_bin (fun x y => x + y)))), (6, .inl (xop (xf_istore 2 1))), (7, .inl (xop (xf_push (.int 0) 1))), (8, .inl (xop (xf_istore 3 1))), (9, .inl (xop (xf_iload 3 1))), (10, .inl (xop (xf_iload 1 1))), (11, .inl (xop (xf_icmp_ge 151))), (14, .inl (xop (xf_aload 0 1))), (15, .inl (xop (xf_getf 10 13))), (18, .inl (xop (xf_iload 2 1))), (19, .inl (xop (xf_icmp_ge 151))), (22, .inl (xop (xf_aload 0 1))), (23, .inl (xop (xf_aload 0 1))), (24, .inl (xop (xf_iload 2 1))), (25, .inr (.inl (0, 98, 1, 10))), (28, .inl (xo_putf 10 13 .int)), (31, .inl (xop (xf_aload 0 1)))]
set_option maxRecDepth 20000 in
theorem okpX10_pass_0 (ev : xEv) : ∀ q ∈ pX10_pass_0 ev, xEnOK ev xmi yX10_pass.cls yX10_pass.name cX10_pass 5 none q :=
  List.forall_mem_cons.mpr ⟨(xOK_pure (xs_aload_n (k := 0) rfl (show decode cX10_pass 0 = .ok (.aload_n 0, 1) by decide +kernel))),
  List.forall_mem_cons.mpr ⟨(xOK_pure (xs_getf xcl_10 (by decide) (show decode cX10_pass 1 = .ok (.getfield 69, 3) by decide +kernel) xw_328)),
  List.forall_mem_cons.mpr ⟨(xOK_pure (xs_iload_n (k := 1) rfl (show decode cX10_pass 4 = .ok (.iload_n 1, 1) by decide +kernel))),
  List.forall_mem_cons.mpr ⟨(xOK_pure (xs_iadd (show decode cX10_pass 5 = .ok (.iadd, 1) by decide +kernel))),
  List.forall_mem_cons.mpr ⟨(xOK_pure (xs_istore_n (k := 2) rfl (show decode cX10_pass 6 = .ok (.istore_n 2, 1) by decide +kernel) (by decide))),
  List.forall_mem_cons.mpr ⟨(xOK_pure (xs_iconst (n := 0) (show decode cX10_pass 7 = .ok (.iconst 0, 1) by decide +kernel) (by decide))),
  List.forall_mem_cons.mpr ⟨(xOK_pure (xs_istore_n (k := 3) rfl (show decode cX10_pass 8 = .ok (.istore_n 3, 1) by decide +kernel) (by decide))),
  List.forall_mem_cons.mpr ⟨(xOK_pure (xs_iload_n (k := 3) rfl (show decode cX10_pass 9 = .ok (.iload_n 3, 1) by decide +kernel))),
  List.forall_mem_cons.mpr ⟨(xOK_pure (xs_iload_n (k := 1) rfl (show decode cX10_pass 10 = .ok (.iload_n 1, 1) by decide +kernel))),
  List.forall_mem_cons.mpr ⟨(xOK_pure (xs_icmp_ge (show decode cX10_pass 11 = .ok (.if_icmp .ge 140, 3) by decide +kernel) (by decide))),
  List.forall_mem_cons.mpr ⟨(xOK_pure (xs_aload_n (k := 0) rfl (show decode cX10_pass 14 = .ok (.aload_n 0, 1) by decide +kernel))),
  List.forall_mem_cons.mpr ⟨(xOK_pure (xs_getf xcl_10 (by decide) (show decode cX10_pass 15 = .ok (.getfield 69, 3) by decide +kernel) xw_328)),
  List.forall_mem_cons.mpr ⟨(xOK_pure (xs_iload_n (k := 2) rfl (show decode cX10_pass 18 = .ok (.iload_n 2, 1) by decide +kernel))),
  List.forall_mem_cons.mpr ⟨(xOK_pure (xs_icmp_ge (show decode cX10_pass 19 = .ok (.if_icmp .ge 132, 3) by decide +kernel) (by decide))),
  List.forall_mem_cons.mpr ⟨(xOK_pure (xs_aload_n (k := 0) rfl (show decode cX10_pass 22 = .ok (.aload_n 0, 1) by decide +kernel))),
  List.forall_mem_cons.mpr ⟨(xOK_pure (xs_aload_n (k := 0) rfl (show decode cX10_pass 23 = .ok (.aload_n 0, 1) by decide +kernel))),
  List.forall_mem_cons.mpr ⟨(xOK_pure (xs_iload_n (k := 2) rfl (show decode cX10_pass 24 = .ok (.iload_n 2, 1) by decide +kernel))),
  List.forall_mem_cons.mpr ⟨(xcm mi_98 ⟨⟨(by decide +kernel), (by decide +kernel), (by decide +kernel)⟩, (by decide), xw_1122, xw_120, Or.inl ⟨rfl, _, _, _, _, (show decode cX10_pass 25 = .ok (.invokevirtual 86, 3) by decide +kernel), xw_1119, xw_1121, xw_25, rfl⟩⟩),
  List.forall_mem_cons.mpr ⟨(xs_putf (k := 13) xcl_10 (by decide) rfl (show decode cX10_pass 28 = .ok (.putfield 69, 3) by decide +kernel) xw_328),
  List.forall_mem_cons.mpr ⟨(xOK_pure (xs_aload_n (k := 0) rfl (show decode cX10_pass 31 = .ok (.aload_n 0, 1) by decide +kernel))),
  (fun _ h => absurd h List.not_mem_nil)⟩⟩⟩⟩⟩⟩⟩⟩⟩⟩⟩⟩⟩⟩⟩⟩⟩⟩⟩⟩
def pX10_pass_1 (ev : xEv) : List (Nat × xEn) := [(32, .inl (xop (xf_getf 10 13))), (35, .inl (xop (xf_iload 2 1))), (36, .inl (xop (xf_icmp_ne 40))), (39, .inr (.inr 0)), (40, .inl (xop (xf_aload 0 1))), (41, .inr (.inl (0, 99, 0, 10))), (44, .inl (xop (xf_push (.int 0) 1))), (45, .inl (xop (xf_istore 4 2))), (47, .inl (xop (xf_iload 4 2))), (49, .inl (xop (xf_aload 0 1))), (50, .inl (xop (xf_getf 10 12))), (53, .inl (xop (xf_icmp_ge 98))), (56, .inl (xop (xf_aload 0 1))), (57, .inl (xop (xf_getf 10 11))), (60, .inl (xop (xf_iload 4 2))), (62, .inl (xop (xf_aald (ev.1 8)))), (63, .inr (.inl (0, 11, 0, 1))), (66, .inl (xop (xf_if_eq 92))), (69, .inl (xop (xf_aload 0 1))), (70, .inl (xop (xf_getf 10 11)))]
set_option maxRecDepth 20000 in
theorem okpX10_pass_1 (ev : xEv) : ∀ q ∈ pX10_pass_1 ev, xEnOK ev xmi yX10_pass.cls yX10_pass.name cX10_pass 5 none q :=
  List.forall_mem_cons.mpr ⟨(xOK_pure (xs_getf xcl_10 (by decide) (show decode cX10_pass 32 = .ok (.getfield 69, 3) by decide +kernel) xw_328)),
  List.forall_mem_cons.mpr ⟨(xOK_pure (xs_iload_n (k := 2) rfl (show decode cX10_pass 35 = .ok (.iload_n 2, 1) by decide +kernel))),
  List.forall_mem_cons.mpr ⟨(xOK_pure (xs_icmp_ne (show decode cX10_pass 36 = .ok (.if_icmp .ne 4, 3) by decide +kernel) (by decide))),
  List.forall_mem_cons.mpr ⟨(Or.inl ⟨rfl, (show decode cX10_pass 39 = .ok (.return_, 1) by decide +kernel), rfl⟩),
  List.forall_mem_cons.mpr ⟨(xOK_pure (xs_aload_n (k := 0) rfl (show decode cX10_pass 40 = .ok (.aload_n 0, 1) by decide +kernel))),
  List.forall_mem_cons.mpr ⟨(xcm mi_99 ⟨⟨(by decide +kernel), (by decide +kernel), (by decide +kernel)⟩, (by decide), xw_1134, xw_120, Or.inl ⟨rfl, _, _, _, _, (show decode cX10_pass 41 = .ok (.invokevirtual 90, 3) by decide +kernel), xw_1131, xw_1133, xw_26, rfl⟩⟩),
  List.forall_mem_cons.mpr ⟨(xOK_pure (xs_iconst (n := 0) (show decode cX10_pass 44 = .ok (.iconst 0, 1) by decide +kernel) (by decide))),
  List.forall_mem_cons.mpr ⟨(xOK_pure (xs_istore (show decode cX10_pass 45 = .ok (.istore 4, 2) by decide +kernel) (by decide))),
  List.forall_mem_cons.mpr ⟨(xOK_pure (xs_iload (show decode cX10_pass 47 = .ok (.iload 4, 2) by decide +kernel))),
  List.forall_mem_cons.mpr ⟨(xOK_pure (xs_aload_n (k := 0) rfl (show decode cX10_pass 49 = .ok (.aload_n 0, 1) by decide +kernel))),
  List.forall_mem_cons.mpr ⟨(xOK_pure (xs_getf xcl_10 (by decide) (show decode cX10_pass 50 = .ok (.getfield 93, 3) by decide +kernel) xw_326)),
  List.forall_mem_cons.mpr ⟨(xOK_pure (xs_icmp_ge (show decode cX10_pass 53 = .ok (.if_icmp .ge 45, 3) by decide +kernel) (by decide))),
  List.forall_mem_cons.mpr ⟨(xOK_pure (xs_aload_n (k := 0) rfl (show decode cX10_pass 56 = .ok (.aload_n 0, 1) by decide +kernel))),
  List.forall_mem_cons.mpr ⟨(xOK_pure (xs_getf xcl_10 (by decide) (show decode cX10_pass 57 = .ok (.getfield 54, 3) by decide +kernel) xw_324)),
  List.forall_mem_cons.mpr ⟨(xOK_pure (xs_iload (show decode cX10_pass 60 = .ok (.iload 4, 2) by decide +kernel))),
  List.forall_mem_cons.mpr ⟨(xOK_pure (xs_aald (t := 8) rfl (show decode cX10_pass 62 = .ok (.aaload, 1) by decide +kernel))),
  List.forall_mem_cons.mpr ⟨(xcm mi_11 ⟨⟨(by decide +kernel), (by decide +kernel), (by decide +kernel)⟩, (by decide), xw_1106, xw_141, Or.inl ⟨rfl, _, _, _, _, (show decode cX10_pass 63 = .ok (.invokevirtual 96, 3) by decide +kernel), xw_1129, xw_1104, xw_1105, rfl⟩⟩),
  List.forall_mem_cons.mpr ⟨(xOK_pure (xs_if_eq (show decode cX10_pass 66 = .ok (.ifCond .eq 26, 3) by decide +kernel) (by decide))),
  List.forall_mem_cons.mpr ⟨(xOK_pure (xs_aload_n (k := 0) rfl (show decode cX10_pass 69 = .ok (.aload_n 0, 1) by decide +kernel))),
  List.forall_mem_cons.mpr ⟨(xOK_pure (xs_getf xcl_10 (by decide) (show decode cX10_pass 70 = .ok (.getfield 54, 3) by decide +kernel) xw_324)),
  (fun _ h => absurd h List.not_mem_nil)⟩⟩⟩⟩⟩⟩⟩⟩⟩⟩⟩⟩⟩⟩⟩⟩⟩⟩⟩⟩
def pX10_pass_2 (ev : xEv) : List (Nat × xEn) := [(73, .inl (xop (xf_iload 4 2))), (75, .inl (xop (xf_aald (ev.1 8)))), (76, .inl (xop (xf_getf 1 3))), (79, .inl (xop (xf_aload 0 1))), (80, .inl (xop (xf_getf 10 13))), (83, .inl (xop (xf_icmp_gt 92))), (86, .inl (xop (xf_aload 0 1))), (87, .inl (xop (xf_iload 4 2))), (89, .inr (.inl (0, 101, 1, 10))), (92, .inl (xop (xf_iinc 4 1))), (95, .inl (xop (xf_goto 47))), (98, .inl (xop (xf_push (.int 0) 1))), (99, .inl (xop (xf_istore 4 2))), (101, .inl (xop (xf_iload 4 2))), (103, .inl (xop (xf_aload 0 1))), (104, .inl (xop (xf_getf 10 5))), (107, .inl (xop (xf_icmp_ge 135))), (110, .inl (xop (xf_aload 0 1))), (111, .inl (xop (xf_getf 10 4))), (114, .inl (xop (xf_iload 4 2)))]
set_option maxRecDepth 20000 in
theorem okpX10_pass_2 (ev : xEv) : ∀ q ∈ pX10_pass_2 ev, xEnOK ev xmi yX10_pass.cls yX10_pass.name cX10_pass 5 none q :=
  List.forall_mem_cons.mpr ⟨(xOK_pure (xs_iload (show decode cX10_pass 73 = .ok (.iload 4, 2) by decide +kernel))),
  List.forall_mem_cons.mpr ⟨(xOK_pure (xs_aald (t := 8) rfl (show decode cX10_pass 75 = .ok (.aaload, 1) by decide +kernel))),
  List.forall_mem_cons.mpr ⟨(xOK_pure (xs_getf xcl_1 (by decide) (show decode cX10_pass 76 = .ok (.getfield 100, 3) by decide +kernel) xw_1056)),
  List.forall_mem_cons.mpr ⟨(xOK_pure (xs_aload_n (k := 0) rfl (show decode cX10_pass 79 = .ok (.aload_n 0, 1) by decide +kernel))),
  List.forall_mem_cons.mpr ⟨(xOK_pure (xs_getf xcl_10 (by decide) (show decode cX10_pass 80 = .ok (.getfield 69, 3) by decide +kernel) xw_328)),
  List.forall_mem_cons.mpr ⟨(xOK_pure (xs_icmp_gt (show decode cX10_pass 83 = .ok (.if_icmp .gt 9, 3) by decide +kernel) (by decide))),
  List.forall_mem_cons.mpr ⟨(xOK_pure (xs_aload_n (k := 0) rfl (show decode cX10_pass 86 = .ok (.aload_n 0, 1) by decide +kernel))),
  List.forall_mem_cons.mpr ⟨(xOK_pure (xs_iload (show decode cX10_pass 87 = .ok (.iload 4, 2) by decide +kernel))),
  List.forall_mem_cons.mpr ⟨(xcm mi_101 ⟨⟨(by decide +kernel), (by decide +kernel), (by decide +kernel)⟩, (by decide), xw_1142, xw_120, Or.inl ⟨rfl, _, _, _, _, (show decode cX10_pass 89 = .ok (.invokevirtual 103, 3) by decide +kernel), xw_1139, xw_1141, xw_27, rfl⟩⟩),
  List.forall_mem_cons.mpr ⟨(xOK_pure (xs_iinc (n := 1) (show decode cX10_pass 92 = .ok (.iinc 4 1, 3) by decide +kernel) (by decide) (by decide))),
  List.forall_mem_cons.mpr ⟨(xOK_pure (xs_goto (show decode cX10_pass 95 = .ok (.goto (-48), 3) by decide +kernel) (by decide))),
  List.forall_mem_cons.mpr ⟨(xOK_pure (xs_iconst (n := 0) (show decode cX10_pass 98 = .ok (.iconst 0, 1) by decide +kernel) (by decide))),
  List.forall_mem_cons.mpr ⟨(xOK_pure (xs_istore (show decode cX10_pass 99 = .ok (.istore 4, 2) by decide +kernel) (by decide))),
  List.forall_mem_cons.mpr ⟨(xOK_pure (xs_iload (show decode cX10_pass 101 = .ok (.iload 4, 2) by decide +kernel))),
  List.forall_mem_cons.mpr ⟨(xOK_pure (xs_aload_n (k := 0) rfl (show decode cX10_pass 103 = .ok (.aload_n 0, 1) by decide +kernel))),
  List.forall_mem_cons.mpr ⟨(xOK_pure (xs_getf xcl_10 (by decide) (show decode cX10_pass 104 = .ok (.getfield 106, 3) by decide +kernel) xw_313)),
  List.forall_mem_cons.mpr ⟨(xOK_pure (xs_icmp_ge (show decode cX10_pass 107 = .ok (.if_icmp .ge 28, 3) by decide +kernel) (by decide))),
  List.forall_mem_cons.mpr ⟨(xOK_pure (xs_aload_n (k := 0) rfl (show decode cX10_pass 110 = .ok (.aload_n 0, 1) by decide +kernel))),
  List.forall_mem_cons.mpr ⟨(xOK_pure (xs_getf xcl_10 (by decide) (show decode cX10_pass 111 = .ok (.getfield 32, 3) by decide +kernel) xw_309)),
  List.forall_mem_cons.mpr ⟨(xOK_pure (xs_iload (show decode cX10_pass 114 = .ok (.iload 4, 2) by decide +kernel))),
  (fun _ h => absurd h List.not_mem_nil)⟩⟩⟩⟩⟩⟩⟩⟩⟩⟩⟩⟩⟩⟩⟩⟩⟩⟩⟩⟩
def pX10_pass_3 (ev : xEv) : List (Nat × xEn) := [(116, .inl (xop (xf_aald (ev.1 5)))), (117, .inr (.inl (0, 69, 0, 6))), (120, .inl (xop (xf_if_eq 129))), (123, .inl (xop (xf_aload 0 1))), (124, .inl (xop (xf_iload 4 2))), (126, .inr (.inl (0, 109, 1, 10))), (129, .inl (xop (xf_iinc 4 1))), (132, .inl (xop (xf_goto 101))), (135, .inl (xop (xf_aload 0 1))), (136, .inl (xop xf_dup)), (137, .inl (xop (xf_getf 10 13))), (140, .inl (xop (xf_push (.int 1) 1))), (141, .inl (xop (xf_bin (fun x y => x + y)))), (142, .inl (xo_putf 10 13 .int)), (145, .inl (xop (xf_iinc 3 1))), (148, .inl (xop (xf_goto 9))), (151, .inr (.inr 0))]
set_option maxRecDepth 20000 in
theorem okpX10_pass_3 (ev : xEv) : ∀ q ∈ pX10_pass_3 ev, xEnOK ev xmi yX10_pass.cls yX10_pass.name cX10_pass 5 none q :=
  List.forall_mem_cons.mpr ⟨(xOK_pure (xs_aald (t := 5) rfl (show decode cX10_pass 116 = .ok (.aaload, 1) by decide +kernel))),
  List.forall_mem_cons.mpr ⟨(xcm mi_69 ⟨⟨(by decide +kernel), (by decide +kernel), (by decide +kernel)⟩, (by decide), xw_1128, xw_132, Or.inl ⟨rfl, _, _, _, _, (show decode cX10_pass 117 = .ok (.invokevirtual 109, 3) by decide +kernel), xw_1125, xw_1126, xw_1127, rfl⟩⟩),
  List.forall_mem_cons.mpr ⟨(xOK_pure (xs_if_eq (show decode cX10_pass 120 = .ok (.ifCond .eq 9, 3) by decide +kernel) (by decide))),
  List.forall_mem_cons.mpr ⟨(xOK_pure (xs_aload_n (k := 0) rfl (show decode cX10_pass 123 = .ok (.aload_n 0, 1) by decide +kernel))),
  List.forall_mem_cons.mpr ⟨(xOK_pure (xs_iload (show decode cX10_pass 124 = .ok (.iload 4, 2) by decide +kernel))),
  List.forall_mem_cons.mpr ⟨(xcm mi_109 ⟨⟨(by decide +kernel), (by decide +kernel), (by decide +kernel)⟩, (by decide), xw_1228, xw_120, Or.inl ⟨rfl, _, _, _, _, (show decode cX10_pass 126 = .ok (.invokevirtual 112, 3) by decide +kernel), xw_1225, xw_1227, xw_35, rfl⟩⟩),
  List.forall_mem_cons.mpr ⟨(xOK_pure (xs_iinc (n := 1) (show decode cX10_pass 129 = .ok (.iinc 4 1, 3) by decide +kernel) (by decide) (by decide))),
  List.forall_mem_cons.mpr ⟨(xOK_pure (xs_goto (show decode cX10_pass 132 = .ok (.goto (-31), 3) by decide +kernel) (by decide))),
  List.forall_mem_cons.mpr ⟨(xOK_pure (xs_aload_n (k := 0) rfl (show decode cX10_pass 135 = .ok (.aload_n 0, 1) by decide +kernel))),
  List.forall_mem_cons.mpr ⟨(xOK_pure (xs_dup (show decode cX10_pass 136 = .ok (.dup, 1) by decide +kernel))),
  List.forall_mem_cons.mpr ⟨(xOK_pure (xs_getf xcl_10 (by decide) (show decode cX10_pass 137 = .ok (.getfield 69, 3) by decide +kernel) xw_328)),
  List.forall_mem_cons.mpr ⟨(xOK_pure (xs_iconst (n := 1) (show decode cX10_pass 140 = .ok (.iconst 1, 1) by decide +kernel) (by decide))),
  List.forall_mem_cons.mpr ⟨(xOK_pure (xs_iadd (show decode cX10_pass 141 = .ok (.iadd, 1) by decide +kernel))),
  List.forall_mem_cons.mpr ⟨(xs_putf (k := 13) xcl_10 (by decide) rfl (show decode cX10_pass 142 = .ok (.putfield 69, 3) by decide +kernel) xw_328),
  List.forall_mem_cons.mpr ⟨(xOK_pure (xs_iinc (n := 1) (show decode cX10_pass 145 = .ok (.iinc 3 1, 3) by decide +kernel) (by decide) (by decide))),
  List.forall_mem_cons.mpr ⟨(xOK_pure (xs_goto (show decode cX10_pass 148 = .ok (.goto (-139), 3) by decide +kernel) (by decide))),
  List.forall_mem_cons.mpr ⟨(Or.inl ⟨rfl, (show decode cX10_pass 151 = .ok (.return_, 1) by decide +kernel), rfl⟩),
  (fun _ h => absurd h List.not_mem_nil)⟩⟩⟩⟩⟩⟩⟩⟩⟩⟩⟩⟩⟩⟩⟩⟩⟩
def pX10_pass (ev : xEv) : List (Nat × xEn) := pX10_pass_0 ev ++ (pX10_pass_1 ev ++ (pX10_pass_2 ev ++ (pX10_pass_3 ev)))
theorem okpX10_pass (ev : xEv) : ∀ q ∈ pX10_pass ev, xEnOK ev xmi yX10_pass.cls yX10_pass.name cX10_pass 5 none q := List.forall_mem_append.mpr ⟨okpX10_pass_0 ev, List.forall_mem_append.mpr ⟨okpX10_pass_1 ev, List.forall_mem_append.mpr ⟨okpX10_pass_2 ev, okpX10_pass_3 ev⟩⟩⟩
theorem omX10_pass (ev : xEv) : xMethOK ev xmi yX10_pass.cls yX10_pass.name 97 (pX10_pass ev) := xMethOK.of mi_97 (by decide +kernel) (okpX10_pass ev)
def pX10_nextBusy_0 (ev : xEv) : List (Nat × xEn) := [(0, .inl (xop (xf_iload 1 1))), (1, .inl (xop (xf_aload 0 1))), (2, .inl (xop (xf_getf 10 13))), (5, .inl (xop (xf_push (.int 96) 2))), (7, .inr (.inl (3, 184, 2, 11))), (10, .inl (xop (xf_push (.int 96) 2))), (12, .inl (xop (xf_bin (fun x y => x * y)))), (13, .inl (xop (xf_m2 (fun x y => if y < x then y else x)))), (16, .inl (xop (xf_istore 2 1))), (17, .inl (xop (xf_push (.int 0) 1))), (18, .inl (xop (xf_istore 3 1))), (19, .inl (xop (xf_iload 3 1))), (20, .inl (xop (xf_aload 0 1))), (21, .inl (xop (xf_getf 10 5))), (24, .inl (xop (xf_icmp_ge 50))), (27, .inl (xop (xf_aload 0 1))), (28, .inl (xop (xf_getf 10 4))), (31, .inl (xop (xf_iload 3 1))), (32, .inl (xop (xf_aald (ev.1 5)))), (33, .inr (.inl (0, 69, 0, 6)))]
set_option maxRecDepth 20000 in
theorem okpX10_nextBusy_0 (ev : xEv) : ∀ q ∈ pX10_nextBusy_0 ev, xEnOK ev xmi yX10_nextBusy.cls yX10_nextBusy.name cX10_nextBusy 4 (some .int) q :=
  List.forall_mem_cons.mpr ⟨(xOK_pure (xs_iload_n (k := 1) rfl (show decode cX10_nextBusy 0 = .ok (.iload_n 1, 1) by decide +kernel))),
  List.forall_mem_cons.mpr ⟨(xOK_pure (xs_aload_n (k := 0) rfl (show decode cX10_nextBusy 1 = .ok (.aload_n 0, 1) by decide +kernel))),
  List.forall_mem_cons.mpr ⟨(xOK_pure (xs_getf xcl_10 (by decide) (show decode cX10_nextBusy 2 = .ok (.getfield 69, 3) by decide +kernel) xw_328)),
  List.forall_mem_cons.mpr ⟨(xOK_pure (xs_bipush (n := 96) (show decode cX10_nextBusy 5 = .ok (.bipush 96, 2) by decide +kernel) (by decide))),
  List.forall_mem_cons.mpr ⟨(xcm mi_184 ⟨⟨(by decide +kernel), (by decide +kernel), (by decide +kernel)⟩, (by decide), xw_827, xw_118, Or.inr (Or.inr (Or.inr (Or.inl ⟨rfl, _, _, (show decode cX10_nextBusy 7 = .ok (.invokestatic 115, 3) by decide +kernel), xwn_1123, xw_826⟩)))⟩),
  List.forall_mem_cons.mpr ⟨(xOK_pure (xs_bipush (n := 96) (show decode cX10_nextBusy 10 = .ok (.bipush 96, 2) by decide +kernel) (by decide))),
  List.forall_mem_cons.mpr ⟨(xOK_pure (xs_imul (show decode cX10_nextBusy 12 = .ok (.imul, 1) by decide +kernel))),
  List.forall_mem_cons.mpr ⟨(xOK_pure (xs_mmin (show decode cX10_nextBusy 13 = .ok (.invokestatic 119, 3) by decide +kernel) xw_1124 xw_541 xw_127 xw_542)),
  List.forall_mem_cons.mpr ⟨(xOK_pure (xs_istore_n (k := 2) rfl (show decode cX10_nextBusy 16 = .ok (.istore_n 2, 1) by decide +kernel) (by decide))),
  List.forall_mem_cons.mpr ⟨(xOK_pure (xs_iconst (n := 0) (show decode cX10_nextBusy 17 = .ok (.iconst 0, 1) by decide +kernel) (by decide))),
  List.forall_mem_cons.mpr ⟨(xOK_pure (xs_istore_n (k := 3) rfl (show decode cX10_nextBusy 18 = .ok (.istore_n 3, 1) by decide +kernel) (by decide))),
  List.forall_mem_cons.mpr ⟨(xOK_pure (xs_iload_n (k := 3) rfl (show decode cX10_nextBusy 19 = .ok (.iload_n 3, 1) by decide +kernel))),
  List.forall_mem_cons.mpr ⟨(xOK_pure (xs_aload_n (k := 0) rfl (show decode cX10_nextBusy 20 = .ok (.aload_n 0, 1) by decide +kernel))),
  List.forall_mem_cons.mpr ⟨(xOK_pure (xs_getf xcl_10 (by decide) (show decode cX10_nextBusy 21 = .ok (.getfield 106, 3) by decide +kernel) xw_313)),
  List.forall_mem_cons.mpr ⟨(xOK_pure (xs_icmp_ge (show decode cX10_nextBusy 24 = .ok (.if_icmp .ge 26, 3) by decide +kernel) (by decide))),
  List.forall_mem_cons.mpr ⟨(xOK_pure (xs_aload_n (k := 0) rfl (show decode cX10_nextBusy 27 = .ok (.aload_n 0, 1) by decide +kernel))),
  List.forall_mem_cons.mpr ⟨(xOK_pure (xs_getf xcl_10 (by decide) (show decode cX10_nextBusy 28 = .ok (.getfield 32, 3) by decide +kernel) xw_309)),
  List.forall_mem_cons.mpr ⟨(xOK_pure (xs_iload_n (k := 3) rfl (show decode cX10_nextBusy 31 = .ok (.iload_n 3, 1) by decide +kernel))),
  List.forall_mem_cons.mpr ⟨(xOK_pure (xs_aald (t := 5) rfl (show decode cX10_nextBusy 32 = .ok (.aaload, 1) by decide +kernel))),
  List.forall_mem_cons.mpr ⟨(xcm mi_69 ⟨⟨(by decide +kernel), (by decide +kernel), (by decide +kernel)⟩, (by decide), xw_1128, xw_132, Or.inl ⟨rfl, _, _, _, _, (show decode cX10_nextBusy 33 = .ok (.invokevirtual 109, 3) by decide +kernel), xw_1125, xw_1126, xw_1127, rfl⟩⟩),
  (fun _ h => absurd h List.not_mem_nil)⟩⟩⟩⟩⟩⟩⟩⟩⟩⟩⟩⟩⟩⟩⟩⟩⟩⟩⟩⟩
def pX10_nextBusy_1 (ev : xEv) : List (Nat × xEn) := [(36, .inl (xop (xf_if_eq 44))), (39, .inl (xop (xf_aload 0 1))), (40, .inl (xop (xf_getf 10 13))), (43, .inr (.inr 1)), (44, .inl (xop (xf_iinc 3 1))), (47, .inl (xop (xf_goto 19))), (50, .inl (xop (xf_push (.int 0) 1))), (51, .inl (xop (xf_istore 3 1))), (52, .inl (xop (xf_iload 3 1))), (53, .inl (xop (xf_aload 0 1))), (54, .inl (xop (xf_getf 10 12))), (57, .inl (xop (xf_icmp_ge 92))), (60, .inl (xop (xf_aload 0 1))), (61, .inl (xop (xf_getf 10 11))), (64, .inl (xop (xf_iload 3 1))), (65, .inl (xop (xf_aald (ev.1 8)))), (66, .inr (.inl (0, 11, 0, 1))), (69, .inl (xop (xf_if_eq 86))), (72, .inl (xop (xf_iload 2 1))), (73, .inl (xop (xf_aload 0 1)))]
set_option maxRecDepth 20000 in
theorem okpX10_nextBusy_1 (ev : xEv) : ∀ q ∈ pX10_nextBusy_1 ev, xEnOK ev xmi yX10_nextBusy.cls yX10_nextBusy.name cX10_nextBusy 4 (some .int) q :=
  List.forall_mem_cons.mpr ⟨(xOK_pure (xs_if_eq (show decode cX10_nextBusy 36 = .ok (.ifCond .eq 8, 3) by decide +kernel) (by decide))),
  List.forall_mem_cons.mpr ⟨(xOK_pure (xs_aload_n (k := 0) rfl (show decode cX10_nextBusy 39 = .ok (.aload_n 0, 1) by decide +kernel))),
  List.forall_mem_cons.mpr ⟨(xOK_pure (xs_getf xcl_10 (by decide) (show decode cX10_nextBusy 40 = .ok (.getfield 69, 3) by decide +kernel) xw_328)),
  List.forall_mem_cons.mpr ⟨(Or.inr (Or.inl ⟨rfl, (show decode cX10_nextBusy 43 = .ok (.ireturn, 1) by decide +kernel), rfl⟩)),
  List.forall_mem_cons.mpr ⟨(xOK_pure (xs_iinc (n := 1) (show decode cX10_nextBusy 44 = .ok (.iinc 3 1, 3) by decide +kernel) (by decide) (by decide))),
  List.forall_mem_cons.mpr ⟨(xOK_pure (xs_goto (show decode cX10_nextBusy 47 = .ok (.goto (-28), 3) by decide +kernel) (by decide))),
  List.forall_mem_cons.mpr ⟨(xOK_pure (xs_iconst (n := 0) (show decode cX10_nextBusy 50 = .ok (.iconst 0, 1) by decide +kernel) (by decide))),
  List.forall_mem_cons.mpr ⟨(xOK_pure (xs_istore_n (k := 3) rfl (show decode cX10_nextBusy 51 = .ok (.istore_n 3, 1) by decide +kernel) (by decide))),
  List.forall_mem_cons.mpr ⟨(xOK_pure (xs_iload_n (k := 3) rfl (show decode cX10_nextBusy 52 = .ok (.iload_n 3, 1) by decide +kernel))),
  List.forall_mem_cons.mpr ⟨(xOK_pure (xs_aload_n (k := 0) rfl (show decode cX10_nextBusy 53 = .ok (.aload_n 0, 1) by decide +kernel))),
  List.forall_mem_cons.mpr ⟨(xOK_pure (xs_getf xcl_10 (by decide) (show decode cX10_nextBusy 54 = .ok (.getfield 93, 3) by decide +kernel) xw_326)),
  List.forall_mem_cons.mpr ⟨(xOK_pure (xs_icmp_ge (show decode cX10_nextBusy 57 = .ok (.if_icmp .ge 35, 3) by decide +kernel) (by decide))),
  List.forall_mem_cons.mpr ⟨(xOK_pure (xs_aload_n (k := 0) rfl (show decode cX10_nextBusy 60 = .ok (.aload_n 0, 1) by decide +kernel))),
  List.forall_mem_cons.mpr ⟨(xOK_pure (xs_getf xcl_10 (by decide) (show decode cX10_nextBusy 61 = .ok (.getfield 54, 3) by decide +kernel) xw_324)),
  List.forall_mem_cons.mpr ⟨(xOK_pure (xs_iload_n (k := 3) rfl (show decode cX10_nextBusy 64 = .ok (.iload_n 3, 1) by decide +kernel))),
  List.forall_mem_cons.mpr ⟨(xOK_pure (xs_aald (t := 8) rfl (show decode cX10_nextBusy 65 = .ok (.aaload, 1) by decide +kernel))),
  List.forall_mem_cons.mpr ⟨(xcm mi_11 ⟨⟨(by decide +kernel), (by decide +kernel), (by decide +kernel)⟩, (by decide), xw_1106, xw_141, Or.inl ⟨rfl, _, _, _, _, (show decode cX10_nextBusy 66 = .ok (.invokevirtual 96, 3) by decide +kernel), xw_1129, xw_1104, xw_1105, rfl⟩⟩),
  List.forall_mem_cons.mpr ⟨(xOK_pure (xs_if_eq (show decode cX10_nextBusy 69 = .ok (.ifCond .eq 17, 3) by decide +kernel) (by decide))),
  List.forall_mem_cons.mpr ⟨(xOK_pure (xs_iload_n (k := 2) rfl (show decode cX10_nextBusy 72 = .ok (.iload_n 2, 1) by decide +kernel))),
  List.forall_mem_cons.mpr ⟨(xOK_pure (xs_aload_n (k := 0) rfl (show decode cX10_nextBusy 73 = .ok (.aload_n 0, 1) by decide +kernel))),
  (fun _ h => absurd h List.not_mem_nil)⟩⟩⟩⟩⟩⟩⟩⟩⟩⟩⟩⟩⟩⟩⟩⟩⟩⟩⟩⟩
def pX10_nextBusy_2 (ev : xEv) : List (Nat × xEn) := [(74, .inl (xop (xf_getf 10 11))), (77, .inl (xop (xf_iload 3 1))), (78, .inl (xop (xf_aald (ev.1 8)))), (79, .inl (xop (xf_getf 1 3))), (82, .inl (xop (xf_m2 (fun x y => if y < x then y else x)))), (85, .inl (xop (xf_istore 2 1))), (86, .inl (xop (xf_iinc 3 1))), (89, .inl (xop (xf_goto 52))), (92, .inl (xop (xf_push (.int 0) 1))), (93, .inl (xop (xf_istore 3 1))), (94, .inl (xop (xf_iload 3 1))), (95, .inl (xop (xf_aload 0 1))), (96, .inl (xop (xf_getf 10 9))), (99, .inl (xop (xf_icmp_ge 135))), (102, .inl (xop (xf_aload 0 1))), (103, .inl (xop (xf_getf 10 8))), (106, .inl (xop (xf_iload 3 1))), (107, .inl (xop (xf_aald (ev.1 7)))), (108, .inl (xop (xf_getf 0 7))), (111, .inl (xop (xf_push (.int (-1)) 1)))]
set_option maxRecDepth 20000 in
theorem okpX10_nextBusy_2 (ev : xEv) : ∀ q ∈ pX10_nextBusy_2 ev, xEnOK ev xmi yX10_nextBusy.cls yX10_nextBusy.name cX10_nextBusy 4 (some .int) q :=
  List.forall_mem_cons.mpr ⟨(xOK_pure (xs_getf xcl_10 (by decide) (show decode cX10_nextBusy 74 = .ok (.getfield 54, 3) by decide +kernel) xw_324)),
  List.forall_mem_cons.mpr ⟨(xOK_pure (xs_iload_n (k := 3) rfl (show decode cX10_nextBusy 77 = .ok (.iload_n 3, 1) by decide +kernel))),
  List.forall_mem_cons.mpr ⟨(xOK_pure (xs_aald (t := 8) rfl (show decode cX10_nextBusy 78 = .ok (.aaload, 1) by decide +kernel))),
  List.forall_mem_cons.mpr ⟨(xOK_pure (xs_getf xcl_1 (by decide) (show decode cX10_nextBusy 79 = .ok (.getfield 100, 3) by decide +kernel) xw_1056)),
  List.forall_mem_cons.mpr ⟨(xOK_pure (xs_mmin (show decode cX10_nextBusy 82 = .ok (.invokestatic 119, 3) by decide +kernel) xw_1124 xw_541 xw_127 xw_542)),
  List.forall_mem_cons.mpr ⟨(xOK_pure (xs_istore_n (k := 2) rfl (show decode cX10_nextBusy 85 = .ok (.istore_n 2, 1) by decide +kernel) (by decide))),
  List.forall_mem_cons.mpr ⟨(xOK_pure (xs_iinc (n := 1) (show decode cX10_nextBusy 86 = .ok (.iinc 3 1, 3) by decide +kernel) (by decide) (by decide))),
  List.forall_mem_cons.mpr ⟨(xOK_pure (xs_goto (show decode cX10_nextBusy 89 = .ok (.goto (-37), 3) by decide +kernel) (by decide))),
  List.forall_mem_cons.mpr ⟨(xOK_pure (xs_iconst (n := 0) (show decode cX10_nextBusy 92 = .ok (.iconst 0, 1) by decide +kernel) (by decide))),
  List.forall_mem_cons.mpr ⟨(xOK_pure (xs_istore_n (k := 3) rfl (show decode cX10_nextBusy 93 = .ok (.istore_n 3, 1) by decide +kernel) (by decide))),
  List.forall_mem_cons.mpr ⟨(xOK_pure (xs_iload_n (k := 3) rfl (show decode cX10_nextBusy 94 = .ok (.iload_n 3, 1) by decide +kernel))),
  List.forall_mem_cons.mpr ⟨(xOK_pure (xs_aload_n (k := 0) rfl (show decode cX10_nextBusy 95 = .ok (.aload_n 0, 1) by decide +kernel))),
  List.forall_mem_cons.mpr ⟨(xOK_pure (xs_getf xcl_10 (by decide) (show decode cX10_nextBusy 96 = .ok (.getfield 79, 3) by decide +kernel) xw_321)),
  List.forall_mem_cons.mpr ⟨(xOK_pure (xs_icmp_ge (show decode cX10_nextBusy 99 = .ok (.if_icmp .ge 36, 3) by decide +kernel) (by decide))),
  List.forall_mem_cons.mpr ⟨(xOK_pure (xs_aload_n (k := 0) rfl (show decode cX10_nextBusy 102 = .ok (.aload_n 0, 1) by decide +kernel))),
  List.forall_mem_cons.mpr ⟨(xOK_pure (xs_getf xcl_10 (by decide) (show decode cX10_nextBusy 103 = .ok (.getfield 44, 3) by decide +kernel) xw_319)),
  List.forall_mem_cons.mpr ⟨(xOK_pure (xs_iload_n (k := 3) rfl (show decode cX10_nextBusy 106 = .ok (.iload_n 3, 1) by decide +kernel))),
  List.forall_mem_cons.mpr ⟨(xOK_pure (xs_aald (t := 7) rfl (show decode cX10_nextBusy 107 = .ok (.aaload, 1) by decide +kernel))),
  List.forall_mem_cons.mpr ⟨(xOK_pure (xs_getf xcl_0 (by decide) (show decode cX10_nextBusy 108 = .ok (.getfield 124, 3) by decide +kernel) xw_770)),
  List.forall_mem_cons.mpr ⟨(xOK_pure (xs_iconst (n := (-1)) (show decode cX10_nextBusy 111 = .ok (.iconst (-1), 1) by decide +kernel) (by decide))),
  (fun _ h => absurd h List.not_mem_nil)⟩⟩⟩⟩⟩⟩⟩⟩⟩⟩⟩⟩⟩⟩⟩⟩⟩⟩⟩⟩
def pX10_nextBusy_3 (ev : xEv) : List (Nat × xEn) := [(112, .inl (xop (xf_icmp_eq 129))), (115, .inl (xop (xf_iload 2 1))), (116, .inl (xop (xf_aload 0 1))), (117, .inl (xop (xf_getf 10 8))), (120, .inl (xop (xf_iload 3 1))), (121, .inl (xop (xf_aald (ev.1 7)))), (122, .inl (xop (xf_getf 0 7))), (125, .inl (xop (xf_m2 (fun x y => if y < x then y else x)))), (128, .inl (xop (xf_istore 2 1))), (129, .inl (xop (xf_iinc 3 1))), (132, .inl (xop (xf_goto 94))), (135, .inl (xop (xf_iload 2 1))), (136, .inl (xop (xf_aload 0 1))), (137, .inl (xop (xf_getf 10 13))), (140, .inl (xop (xf_m2 (fun x y => if x < y then y else x)))), (143, .inr (.inr 1))]
set_option maxRecDepth 20000 in
theorem okpX10_nextBusy_3 (ev : xEv) : ∀ q ∈ pX10_nextBusy_3 ev, xEnOK ev xmi yX10_nextBusy.cls yX10_nextBusy.name cX10_nextBusy 4 (some .int) q :=
  List.forall_mem_cons.mpr ⟨(xOK_pure (xs_icmp_eq (show decode cX10_nextBusy 112 = .ok (.if_icmp .eq 17, 3) by decide +kernel) (by decide))),
  List.forall_mem_cons.mpr ⟨(xOK_pure (xs_iload_n (k := 2) rfl (show decode cX10_nextBusy 115 = .ok (.iload_n 2, 1) by decide +kernel))),
  List.forall_mem_cons.mpr ⟨(xOK_pure (xs_aload_n (k := 0) rfl (show decode cX10_nextBusy 116 = .ok (.aload_n 0, 1) by decide +kernel))),
  List.forall_mem_cons.mpr ⟨(xOK_pure (xs_getf xcl_10 (by decide) (show decode cX10_nextBusy 117 = .ok (.getfield 44, 3) by decide +kernel) xw_319)),
  List.forall_mem_cons.mpr ⟨(xOK_pure (xs_iload_n (k := 3) rfl (show decode cX10_nextBusy 120 = .ok (.iload_n 3, 1) by decide +kernel))),
  List.forall_mem_cons.mpr ⟨(xOK_pure (xs_aald (t := 7) rfl (show decode cX10_nextBusy 121 = .ok (.aaload, 1) by decide +kernel))),
  List.forall_mem_cons.mpr ⟨(xOK_pure (xs_getf xcl_0 (by decide) (show decode cX10_nextBusy 122 = .ok (.getfield 124, 3) by decide +kernel) xw_770)),
  List.forall_mem_cons.mpr ⟨(xOK_pure (xs_mmin (show decode cX10_nextBusy 125 = .ok (.invokestatic 119, 3) by decide +kernel) xw_1124 xw_541 xw_127 xw_542)),
  List.forall_mem_cons.mpr ⟨(xOK_pure (xs_istore_n (k := 2) rfl (show decode cX10_nextBusy 128 = .ok (.istore_n 2, 1) by decide +kernel) (by decide))),
  List.forall_mem_cons.mpr ⟨(xOK_pure (xs_iinc (n := 1) (show decode cX10_nextBusy 129 = .ok (.iinc 3 1, 3) by decide +kernel) (by decide) (by decide))),
  List.forall_mem_cons.mpr ⟨(xOK_pure (xs_goto (show decode cX10_nextBusy 132 = .ok (.goto (-38), 3) by decide +kernel) (by decide))),
  List.forall_mem_cons.mpr ⟨(xOK_pure (xs_iload_n (k := 2) rfl (show decode cX10_nextBusy 135 = .ok (.iload_n 2, 1) by decide +kernel))),
  List.forall_mem_cons.mpr ⟨(xOK_pure (xs_aload_n (k := 0) rfl (show decode cX10_nextBusy 136 = .ok (.aload_n 0, 1) by decide +kernel))),
  List.forall_mem_cons.mpr ⟨(xOK_pure (xs_getf xcl_10 (by decide) (show decode cX10_nextBusy 137 = .ok (.getfield 69, 3) by decide +kernel) xw_328)),
  List.forall_mem_cons.mpr ⟨(xOK_pure (xs_mmax (show decode cX10_nextBusy 140 = .ok (.invokestatic 127, 3) by decide +kernel) xw_1130 xw_829 xw_127 xw_830)),
  List.forall_mem_cons.mpr ⟨(Or.inr (Or.inl ⟨rfl, (show decode cX10_nextBusy 143 = .ok (.ireturn, 1) by decide +kernel), rfl⟩)),
  (fun _ h => absurd h List.not_mem_nil)⟩⟩⟩⟩⟩⟩⟩⟩⟩⟩⟩⟩⟩⟩⟩⟩
def pX10_nextBusy (ev : xEv) : List (Nat × xEn) := pX10_nextBusy_0 ev ++ (pX10_nextBusy_1 ev ++ (pX10_nextBusy_2 ev ++ (pX10_nextBusy_3 ev)))
theorem okpX10_nextBusy (ev : xEv) : ∀ q ∈ pX10_nextBusy ev, xEnOK ev xmi yX10_nextBusy.cls yX10_nextBusy.name cX10_nextBusy 4 (some .int) q := List.forall_mem_append.mpr ⟨okpX10_nextBusy_0 ev, List.forall_mem_append.mpr ⟨okpX10_nextBusy_1 ev, List.forall_mem_append.mpr ⟨okpX10_nextBusy_2 ev, okpX10_nextBusy_3 ev⟩⟩⟩
theorem omX10_nextBusy (ev : xEv) : xMethOK ev xmi yX10_nextBusy.cls yX10_nextBusy.name 98 (pX10_nextBusy ev) := xMethOK.of mi_98 (by decide +kernel) (okpX10_nextBusy ev)
def pX10_beginQuarter_0 (ev : xEv) : List (Nat × xEn) := [(0, .inl (xop (xf_aload 0 1))), (1, .inl (xop (xf_getf 10 13))), (4, .inl (xop (xf_push (.int 96) 2))), (6, .inl (xop (xf_div (fun x y => x - x / y * y)))), (7, .inl (xop (xf_if_ne 36))), (10, .inl (xop (xf_push (.int 0) 1))), (11, .inl (xop (xf_istore 1 1))), (12, .inl (xop (xf_iload 1 1))), (13, .inl (xop (xf_aload 0 1))), (14, .inl (xop (xf_getf 10 7))), (17, .inl (xop (xf_icmp_ge 36))), (20, .inl (xop (xf_aload 0 1))), (21, .inl (xop (xf_getf 10 6))), (24, .inl (xop (xf_iload 1 1))), (25, .inl (xop (xf_aald (ev.1 6)))), (26, .inl (xop (xf_push (.int 0) 1))), (27, .inl (xo_putf 5 2 .int)), (30, .inl (xop (xf_iinc 1 1))), (33, .inl (xop (xf_goto 12))), (36, .inl (xop (xf_push (.int 0) 1)))]
set_option maxRecDepth 20000 in
theorem okpX10_beginQuarter_0 (ev : xEv) : ∀ q ∈ pX10_beginQuarter_0 ev, xEnOK ev xmi yX10_beginQuarter.cls yX10_beginQuarter.name cX10_beginQuarter 2 none q :=
  List.forall_mem_cons.mpr ⟨(xOK_pure (xs_aload_n (k := 0) rfl (show decode cX10_beginQuarter 0 = .ok (.aload_n 0, 1) by decide +kernel))),
  List.forall_mem_cons.mpr ⟨(xOK_pure (xs_getf xcl_10 (by decide) (show decode cX10_beginQuarter 1 = .ok (.getfield 69, 3) by decide +kernel) xw_328)),
  List.forall_mem_cons.mpr ⟨(xOK_pure (xs_bipush (n := 96) (show decode cX10_beginQuarter 4 = .ok (.bipush 96, 2) by decide +kernel) (by decide))),
  List.forall_mem_cons.mpr ⟨(xOK_pure (xs_irem (show decode cX10_beginQuarter 6 = .ok (.irem, 1) by decide +kernel))),
  List.forall_mem_cons.mpr ⟨(xOK_pure (xs_if_ne (show decode cX10_beginQuarter 7 = .ok (.ifCond .ne 29, 3) by decide +kernel) (by decide))),
  List.forall_mem_cons.mpr ⟨(xOK_pure (xs_iconst (n := 0) (show decode cX10_beginQuarter 10 = .ok (.iconst 0, 1) by decide +kernel) (by decide))),
  List.forall_mem_cons.mpr ⟨(xOK_pure (xs_istore_n (k := 1) rfl (show decode cX10_beginQuarter 11 = .ok (.istore_n 1, 1) by decide +kernel) (by decide))),
  List.forall_mem_cons.mpr ⟨(xOK_pure (xs_iload_n (k := 1) rfl (show decode cX10_beginQuarter 12 = .ok (.iload_n 1, 1) by decide +kernel))),
  List.forall_mem_cons.mpr ⟨(xOK_pure (xs_aload_n (k := 0) rfl (show decode cX10_beginQuarter 13 = .ok (.aload_n 0, 1) by decide +kernel))),
  List.forall_mem_cons.mpr ⟨(xOK_pure (xs_getf xcl_10 (by decide) (show decode cX10_beginQuarter 14 = .ok (.getfield 130, 3) by decide +kernel) xw_317)),
  List.forall_mem_cons.mpr ⟨(xOK_pure (xs_icmp_ge (show decode cX10_beginQuarter 17 = .ok (.if_icmp .ge 19, 3) by decide +kernel) (by decide))),
  List.forall_mem_cons.mpr ⟨(xOK_pure (xs_aload_n (k := 0) rfl (show decode cX10_beginQuarter 20 = .ok (.aload_n 0, 1) by decide +kernel))),
  List.forall_mem_cons.mpr ⟨(xOK_pure (xs_getf xcl_10 (by decide) (show decode cX10_beginQuarter 21 = .ok (.getfield 38, 3) by decide +kernel) xw_315)),
  List.forall_mem_cons.mpr ⟨(xOK_pure (xs_iload_n (k := 1) rfl (show decode cX10_beginQuarter 24 = .ok (.iload_n 1, 1) by decide +kernel))),
  List.forall_mem_cons.mpr ⟨(xOK_pure (xs_aald (t := 6) rfl (show decode cX10_beginQuarter 25 = .ok (.aaload, 1) by decide +kernel))),
  List.forall_mem_cons.mpr ⟨(xOK_pure (xs_iconst (n := 0) (show decode cX10_beginQuarter 26 = .ok (.iconst 0, 1) by decide +kernel) (by decide))),
  List.forall_mem_cons.mpr ⟨(xs_putf (k := 2) xcl_5 (by decide) rfl (show decode cX10_beginQuarter 27 = .ok (.putfield 133, 3) by decide +kernel) xw_719),
  List.forall_mem_cons.mpr ⟨(xOK_pure (xs_iinc (n := 1) (show decode cX10_beginQuarter 30 = .ok (.iinc 1 1, 3) by decide +kernel) (by decide) (by decide))),
  List.forall_mem_cons.mpr ⟨(xOK_pure (xs_goto (show decode cX10_beginQuarter 33 = .ok (.goto (-21), 3) by decide +kernel) (by decide))),
  List.forall_mem_cons.mpr ⟨(xOK_pure (xs_iconst (n := 0) (show decode cX10_beginQuarter 36 = .ok (.iconst 0, 1) by decide +kernel) (by decide))),
  (fun _ h => absurd h List.not_mem_nil)⟩⟩⟩⟩⟩⟩⟩⟩⟩⟩⟩⟩⟩⟩⟩⟩⟩⟩⟩⟩
def pX10_beginQuarter_1 (ev : xEv) : List (Nat × xEn) := [(37, .inl (xop (xf_istore 1 1))), (38, .inl (xop (xf_iload 1 1))), (39, .inl (xop (xf_aload 0 1))), (40, .inl (xop (xf_getf 10 9))), (43, .inl (xop (xf_icmp_ge 90))), (46, .inl (xop (xf_aload 0 1))), (47, .inl (xop (xf_getf 10 8))), (50, .inl (xop (xf_iload 1 1))), (51, .inl (xop (xf_aald (ev.1 7)))), (52, .inl (xop (xf_getf 0 7))), (55, .inl (xop (xf_aload 0 1))), (56, .inl (xop (xf_getf 10 13))), (59, .inl (xop (xf_icmp_ne 84))), (62, .inl (xop (xf_aload 0 1))), (63, .inl (xop (xf_getf 10 8))), (66, .inl (xop (xf_iload 1 1))), (67, .inl (xop (xf_aald (ev.1 7)))), (68, .inl (xop (xf_aload 0 1))), (69, .inl (xop (xf_getf 10 8))), (72, .inl (xop (xf_iload 1 1)))]
set_option maxRecDepth 20000 in
theorem okpX10_beginQuarter_1 (ev : xEv) : ∀ q ∈ pX10_beginQuarter_1 ev, xEnOK ev xmi yX10_beginQuarter.cls yX10_beginQuarter.name cX10_beginQuarter 2 none q :=
  List.forall_mem_cons.mpr ⟨(xOK_pure (xs_istore_n (k := 1) rfl (show decode cX10_beginQuarter 37 = .ok (.istore_n 1, 1) by decide +kernel) (by decide))),
  List.forall_mem_cons.mpr ⟨(xOK_pure (xs_iload_n (k := 1) rfl (show decode cX10_beginQuarter 38 = .ok (.iload_n 1, 1) by decide +kernel))),
  List.forall_mem_cons.mpr ⟨(xOK_pure (xs_aload_n (k := 0) rfl (show decode cX10_beginQuarter 39 = .ok (.aload_n 0, 1) by decide +kernel))),
  List.forall_mem_cons.mpr ⟨(xOK_pure (xs_getf xcl_10 (by decide) (show decode cX10_beginQuarter 40 = .ok (.getfield 79, 3) by decide +kernel) xw_321)),
  List.forall_mem_cons.mpr ⟨(xOK_pure (xs_icmp_ge (show decode cX10_beginQuarter 43 = .ok (.if_icmp .ge 47, 3) by decide +kernel) (by decide))),
  List.forall_mem_cons.mpr ⟨(xOK_pure (xs_aload_n (k := 0) rfl (show decode cX10_beginQuarter 46 = .ok (.aload_n 0, 1) by decide +kernel))),
  List.forall_mem_cons.mpr ⟨(xOK_pure (xs_getf xcl_10 (by decide) (show decode cX10_beginQuarter 47 = .ok (.getfield 44, 3) by decide +kernel) xw_319)),
  List.forall_mem_cons.mpr ⟨(xOK_pure (xs_iload_n (k := 1) rfl (show decode cX10_beginQuarter 50 = .ok (.iload_n 1, 1) by decide +kernel))),
  List.forall_mem_cons.mpr ⟨(xOK_pure (xs_aald (t := 7) rfl (show decode cX10_beginQuarter 51 = .ok (.aaload, 1) by decide +kernel))),
  List.forall_mem_cons.mpr ⟨(xOK_pure (xs_getf xcl_0 (by decide) (show decode cX10_beginQuarter 52 = .ok (.getfield 124, 3) by decide +kernel) xw_770)),
  List.forall_mem_cons.mpr ⟨(xOK_pure (xs_aload_n (k := 0) rfl (show decode cX10_beginQuarter 55 = .ok (.aload_n 0, 1) by decide +kernel))),
  List.forall_mem_cons.mpr ⟨(xOK_pure (xs_getf xcl_10 (by decide) (show decode cX10_beginQuarter 56 = .ok (.getfield 69, 3) by decide +kernel) xw_328)),
  List.forall_mem_cons.mpr ⟨(xOK_pure (xs_icmp_ne (show decode cX10_beginQuarter 59 = .ok (.if_icmp .ne 25, 3) by decide +kernel) (by decide))),
  List.forall_mem_cons.mpr ⟨(xOK_pure (xs_aload_n (k := 0) rfl (show decode cX10_beginQuarter 62 = .ok (.aload_n 0, 1) by decide +kernel))),
  List.forall_mem_cons.mpr ⟨(xOK_pure (xs_getf xcl_10 (by decide) (show decode cX10_beginQuarter 63 = .ok (.getfield 44, 3) by decide +kernel) xw_319)),
  List.forall_mem_cons.mpr ⟨(xOK_pure (xs_iload_n (k := 1) rfl (show decode cX10_beginQuarter 66 = .ok (.iload_n 1, 1) by decide +kernel))),
  List.forall_mem_cons.mpr ⟨(xOK_pure (xs_aald (t := 7) rfl (show decode cX10_beginQuarter 67 = .ok (.aaload, 1) by decide +kernel))),
  List.forall_mem_cons.mpr ⟨(xOK_pure (xs_aload_n (k := 0) rfl (show decode cX10_beginQuarter 68 = .ok (.aload_n 0, 1) by decide +kernel))),
  List.forall_mem_cons.mpr ⟨(xOK_pure (xs_getf xcl_10 (by decide) (show decode cX10_beginQuarter 69 = .ok (.getfield 44, 3) by decide +kernel) xw_319)),
  List.forall_mem_cons.mpr ⟨(xOK_pure (xs_iload_n (k := 1) rfl (show decode cX10_beginQuarter 72 = .ok (.iload_n 1, 1) by decide +kernel))),
  (fun _ h => absurd h List.not_mem_nil)⟩⟩⟩⟩⟩⟩⟩⟩⟩⟩⟩⟩⟩⟩⟩⟩⟩⟩⟩⟩
def pX10_beginQuarter_2 (ev : xEv) : List (Nat × xEn) := [(73, .inl (xop (xf_aald (ev.1 7)))), (74, .inl (xop (xf_getf 0 1))), (77, .inl (xop (xf_aload 0 1))), (78, .inl (xop (xf_getf 10 13))), (81, .inr (.inl (0, 3, 2, 0))), (84, .inl (xop (xf_iinc 1 1))), (87, .inl (xop (xf_goto 38))), (90, .inr (.inr 0))]
set_option maxRecDepth 20000 in
theorem okpX10_beginQuarter_2 (ev : xEv) : ∀ q ∈ pX10_beginQuarter_2 ev, xEnOK ev xmi yX10_beginQuarter.cls yX10_beginQuarter.name cX10_beginQuarter 2 none q :=
  List.forall_mem_cons.mpr ⟨(xOK_pure (xs_aald (t := 7) rfl (show decode cX10_beginQuarter 73 = .ok (.aaload, 1) by decide +kernel))),
  List.forall_mem_cons.mpr ⟨(xOK_pure (xs_getf xcl_0 (by decide) (show decode cX10_beginQuarter 74 = .ok (.getfield 136, 3) by decide +kernel) xw_756)),
  List.forall_mem_cons.mpr ⟨(xOK_pure (xs_aload_n (k := 0) rfl (show decode cX10_beginQuarter 77 = .ok (.aload_n 0, 1) by decide +kernel))),
  List.forall_mem_cons.mpr ⟨(xOK_pure (xs_getf xcl_10 (by decide) (show decode cX10_beginQuarter 78 = .ok (.getfield 69, 3) by decide +kernel) xw_328)),
  List.forall_mem_cons.mpr ⟨(xcm mi_3 ⟨⟨(by decide +kernel), (by decide +kernel), (by decide +kernel)⟩, (by decide), xw_1138, xw_134, Or.inl ⟨rfl, _, _, _, _, (show decode cX10_beginQuarter 81 = .ok (.invokevirtual 139, 3) by decide +kernel), xw_1135, xw_1136, xw_1137, rfl⟩⟩),
  List.forall_mem_cons.mpr ⟨(xOK_pure (xs_iinc (n := 1) (show decode cX10_beginQuarter 84 = .ok (.iinc 1 1, 3) by decide +kernel) (by decide) (by decide))),
  List.forall_mem_cons.mpr ⟨(xOK_pure (xs_goto (show decode cX10_beginQuarter 87 = .ok (.goto (-49), 3) by decide +kernel) (by decide))),
  List.forall_mem_cons.mpr ⟨(Or.inl ⟨rfl, (show decode cX10_beginQuarter 90 = .ok (.return_, 1) by decide +kernel), rfl⟩),
  (fun _ h => absurd h List.not_mem_nil)⟩⟩⟩⟩⟩⟩⟩⟩
def pX10_beginQuarter (ev : xEv) : List (Nat × xEn) := pX10_beginQuarter_0 ev ++ (pX10_beginQuarter_1 ev ++ (pX10_beginQuarter_2 ev))
theorem okpX10_beginQuarter (ev : xEv) : ∀ q ∈ pX10_beginQuarter ev, xEnOK ev xmi yX10_beginQuarter.cls yX10_beginQuarter.name cX10_beginQuarter 2 none q := List.forall_mem_append.mpr ⟨okpX10_beginQuarter_0 ev, List.forall_mem_append.mpr ⟨okpX10_beginQuarter_1 ev, okpX10_beginQuarter_2 ev⟩⟩
theorem omX10_beginQuarter (ev : xEv) : xMethOK ev xmi yX10_beginQuarter.cls yX10_beginQuarter.name 99 (pX10_beginQuarter ev) := xMethOK.of mi_99 (by decide +kernel) (okpX10_beginQuarter ev)
def pX10_isNight (ev : xEv) : List (Nat × xEn) := [(0, .inl (xop (xf_aload 0 1))), (1, .inl (xop (xf_getf 10 13))), (4, .inl (xop (xf_push (.int 96) 2))), (6, .inl (xop (xf_div (fun x y => x - x / y * y)))), (7, .inl (xop (xf_istore 1 1))), (8, .inl (xop (xf_iload 1 1))), (9, .inl (xop (xf_push (.int 24) 2))), (11, .inl (xop (xf_icmp_lt 20))), (14, .inl (xop (xf_iload 1 1))), (15, .inl (xop (xf_push (.int 72) 2))), (17, .inl (xop (xf_icmp_lt 24))), (20, .inl (xop (xf_push (.int 1) 1))), (21, .inl (xop (xf_goto 25))), (24, .inl (xop (xf_push (.int 0) 1))), (25, .inr (.inr 4))]
set_option maxRecDepth 20000 in
theorem okpX10_isNight (ev : xEv) : ∀ q ∈ pX10_isNight ev, xEnOK ev xmi yX10_isNight.cls yX10_isNight.name cX10_isNight 2 (some .boolean) q :=
  List.forall_mem_cons.mpr ⟨(xOK_pure (xs_aload_n (k := 0) rfl (show decode cX10_isNight 0 = .ok (.aload_n 0, 1) by decide +kernel))),
  List.forall_mem_cons.mpr ⟨(xOK_pure (xs_getf xcl_10 (by decide) (show decode cX10_isNight 1 = .ok (.getfield 69, 3) by decide +kernel) xw_328)),
  List.forall_mem_cons.mpr ⟨(xOK_pure (xs_bipush (n := 96) (show decode cX10_isNight 4 = .ok (.bipush 96, 2) by decide +kernel) (by decide))),
  List.forall_mem_cons.mpr ⟨(xOK_pure (xs_irem (show decode cX10_isNight 6 = .ok (.irem, 1) by decide +kernel))),
  List.forall_mem_cons.mpr ⟨(xOK_pure (xs_istore_n (k := 1) rfl (show decode cX10_isNight 7 = .ok (.istore_n 1, 1) by decide +kernel) (by decide))),
  List.forall_mem_cons.mpr ⟨(xOK_pure (xs_iload_n (k := 1) rfl (show decode cX10_isNight 8 = .ok (.iload_n 1, 1) by decide +kernel))),
  List.forall_mem_cons.mpr ⟨(xOK_pure (xs_bipush (n := 24) (show decode cX10_isNight 9 = .ok (.bipush 24, 2) by decide +kernel) (by decide))),
  List.forall_mem_cons.mpr ⟨(xOK_pure (xs_icmp_lt (show decode cX10_isNight 11 = .ok (.if_icmp .lt 9, 3) by decide +kernel) (by decide))),
  List.forall_mem_cons.mpr ⟨(xOK_pure (xs_iload_n (k := 1) rfl (show decode cX10_isNight 14 = .ok (.iload_n 1, 1) by decide +kernel))),
  List.forall_mem_cons.mpr ⟨(xOK_pure (xs_bipush (n := 72) (show decode cX10_isNight 15 = .ok (.bipush 72, 2) by decide +kernel) (by decide))),
  List.forall_mem_cons.mpr ⟨(xOK_pure (xs_icmp_lt (show decode cX10_isNight 17 = .ok (.if_icmp .lt 7, 3) by decide +kernel) (by decide))),
  List.forall_mem_cons.mpr ⟨(xOK_pure (xs_iconst (n := 1) (show decode cX10_isNight 20 = .ok (.iconst 1, 1) by decide +kernel) (by decide))),
  List.forall_mem_cons.mpr ⟨(xOK_pure (xs_goto (show decode cX10_isNight 21 = .ok (.goto 4, 3) by decide +kernel) (by decide))),
  List.forall_mem_cons.mpr ⟨(xOK_pure (xs_iconst (n := 0) (show decode cX10_isNight 24 = .ok (.iconst 0, 1) by decide +kernel) (by decide))),
  List.forall_mem_cons.mpr ⟨(Or.inr (Or.inr (Or.inr (Or.inr (Or.inl ⟨rfl, (show decode cX10_isNight 25 = .ok (.ireturn, 1) by decide +kernel), rfl⟩))))),
  (fun _ h => absurd h List.not_mem_nil)⟩⟩⟩⟩⟩⟩⟩⟩⟩⟩⟩⟩⟩⟩⟩
theorem omX10_isNight (ev : xEv) : xMethOK ev xmi yX10_isNight.cls yX10_isNight.name 100 (pX10_isNight ev) := xMethOK.of mi_100 (by decide +kernel) (okpX10_isNight ev)
def pX10_tryStart_0 (ev : xEv) : List (Nat × xEn) := [(0, .inl (xop (xf_aload 0 1))), (1, .inl (xop (xf_getf 10 11))), (4, .inl (xop (xf_iload 1 1))), (5, .inl (xop (xf_aald (ev.1 8)))), (6, .inl (xop (xf_astore 2 1))), (7, .inl (xop (xf_aload 2 1))), (8, .inl (xop (xf_getf 1 3))), (11, .inl (xop (xf_aload 0 1))), (12, .inl (xop (xf_getf 10 13))), (15, .inl (xop (xf_push (.int 16) 2))), (17, .inl (xop (xf_bin (fun x y => x - y)))), (18, .inl (xop (xf_icmp_gt 31))), (21, .inl (xop (xf_aload 2 1))), (22, .inl (xop (xf_push (.int 3) 1))), (23, .inl (xop (xf_aload 0 1))), (24, .inl (xop (xf_getf 10 13))), (27, .inr (.inl (0, 13, 2, 1))), (30, .inr (.inr 0)), (31, .inl (xop (xf_aload 0 1))), (32, .inl (xop (xf_aload 2 1)))]
set_option maxRecDepth 20000 in
theorem okpX10_tryStart_0 (ev : xEv) : ∀ q ∈ pX10_tryStart_0 ev, xEnOK ev xmi yX10_tryStart.cls yX10_tryStart.name cX10_tryStart 4 none q :=
  List.forall_mem_cons.mpr ⟨(xOK_pure (xs_aload_n (k := 0) rfl (show decode cX10_tryStart 0 = .ok (.aload_n 0, 1) by decide +kernel))),
  List.forall_mem_cons.mpr ⟨(xOK_pure (xs_getf xcl_10 (by decide) (show decode cX10_tryStart 1 = .ok (.getfield 54, 3) by decide +kernel) xw_324)),
  List.forall_mem_cons.mpr ⟨(xOK_pure (xs_iload_n (k := 1) rfl (show decode cX10_tryStart 4 = .ok (.iload_n 1, 1) by decide +kernel))),
  List.forall_mem_cons.mpr ⟨(xOK_pure (xs_aald (t := 8) rfl (show decode cX10_tryStart 5 = .ok (.aaload, 1) by decide +kernel))),
  List.forall_mem_cons.mpr ⟨(xOK_pure (xs_astore_n (k := 2) rfl (show decode cX10_tryStart 6 = .ok (.astore_n 2, 1) by decide +kernel) (by decide))),
  List.forall_mem_cons.mpr ⟨(xOK_pure (xs_aload_n (k := 2) rfl (show decode cX10_tryStart 7 = .ok (.aload_n 2, 1) by decide +kernel))),
  List.forall_mem_cons.mpr ⟨(xOK_pure (xs_getf xcl_1 (by decide) (show decode cX10_tryStart 8 = .ok (.getfield 100, 3) by decide +kernel) xw_1056)),
  List.forall_mem_cons.mpr ⟨(xOK_pure (xs_aload_n (k := 0) rfl (show decode cX10_tryStart 11 = .ok (.aload_n 0, 1) by decide +kernel))),
  List.forall_mem_cons.mpr ⟨(xOK_pure (xs_getf xcl_10 (by decide) (show decode cX10_tryStart 12 = .ok (.getfield 69, 3) by decide +kernel) xw_328)),
  List.forall_mem_cons.mpr ⟨(xOK_pure (xs_bipush (n := 16) (show decode cX10_tryStart 15 = .ok (.bipush 16, 2) by decide +kernel) (by decide))),
  List.forall_mem_cons.mpr ⟨(xOK_pure (xs_isub (show decode cX10_tryStart 17 = .ok (.isub, 1) by decide +kernel))),
  List.forall_mem_cons.mpr ⟨(xOK_pure (xs_icmp_gt (show decode cX10_tryStart 18 = .ok (.if_icmp .gt 13, 3) by decide +kernel) (by decide))),
  List.forall_mem_cons.mpr ⟨(xOK_pure (xs_aload_n (k := 2) rfl (show decode cX10_tryStart 21 = .ok (.aload_n 2, 1) by decide +kernel))),
  List.forall_mem_cons.mpr ⟨(xOK_pure (xs_iconst (n := 3) (show decode cX10_tryStart 22 = .ok (.iconst 3, 1) by decide +kernel) (by decide))),
  List.forall_mem_cons.mpr ⟨(xOK_pure (xs_aload_n (k := 0) rfl (show decode cX10_tryStart 23 = .ok (.aload_n 0, 1) by decide +kernel))),
  List.forall_mem_cons.mpr ⟨(xOK_pure (xs_getf xcl_10 (by decide) (show decode cX10_tryStart 24 = .ok (.getfield 69, 3) by decide +kernel) xw_328)),
  List.forall_mem_cons.mpr ⟨(xcm mi_13 ⟨⟨(by decide +kernel), (by decide +kernel), (by decide +kernel)⟩, (by decide), xw_1110, xw_141, Or.inl ⟨rfl, _, _, _, _, (show decode cX10_tryStart 27 = .ok (.invokevirtual 142, 3) by decide +kernel), xw_1143, xw_1108, xw_1109, rfl⟩⟩),
  List.forall_mem_cons.mpr ⟨(Or.inl ⟨rfl, (show decode cX10_tryStart 30 = .ok (.return_, 1) by decide +kernel), rfl⟩),
  List.forall_mem_cons.mpr ⟨(xOK_pure (xs_aload_n (k := 0) rfl (show decode cX10_tryStart 31 = .ok (.aload_n 0, 1) by decide +kernel))),
  List.forall_mem_cons.mpr ⟨(xOK_pure (xs_aload_n (k := 2) rfl (show decode cX10_tryStart 32 = .ok (.aload_n 2, 1) by decide +kernel))),
  (fun _ h => absurd h List.not_mem_nil)⟩⟩⟩⟩⟩⟩⟩⟩⟩⟩⟩⟩⟩⟩⟩⟩⟩⟩⟩⟩
def pX10_tryStart_1 (ev : xEv) : List (Nat × xEn) := [(33, .inr (.inl (0, 102, 1, 10))), (36, .inl (xop (xf_if_eq 40))), (39, .inr (.inr 0)), (40, .inl (xop (xf_aload 0 1))), (41, .inl (xop (xf_aload 2 1))), (42, .inr (.inl (0, 104, 1, 10))), (45, .inl (xop (xf_istore 3 1))), (46, .inl (xop (xf_aload 2 1))), (47, .inl (xop (xf_aload 0 1))), (48, .inl (xop (xf_getf 10 2))), (51, .inl (xop (xf_getf 8 1))), (54, .inl (xo_putf 1 8 .int)), (57, .inl (xop (xf_iload 3 1))), (58, .inl (xop (xf_push (.int 71) 2))), (60, .inl (xop (xf_icmp_ne 68))), (63, .inl (xop (xf_aload 0 1))), (64, .inl (xop (xf_iload 1 1))), (65, .inr (.inl (0, 106, 1, 10))), (68, .inr (.inr 0))]
set_option maxRecDepth 20000 in
theorem okpX10_tryStart_1 (ev : xEv) : ∀ q ∈ pX10_tryStart_1 ev, xEnOK ev xmi yX10_tryStart.cls yX10_tryStart.name cX10_tryStart 4 none q :=
  List.forall_mem_cons.mpr ⟨(xcm mi_102 ⟨⟨(by decide +kernel), (by decide +kernel), (by decide +kernel)⟩, (by decide), xw_1147, xw_120, Or.inl ⟨rfl, _, _, _, _, (show decode cX10_tryStart 33 = .ok (.invokevirtual 145, 3) by decide +kernel), xw_1144, xw_1145, xw_1146, rfl⟩⟩),
  List.forall_mem_cons.mpr ⟨(xOK_pure (xs_if_eq (show decode cX10_tryStart 36 = .ok (.ifCond .eq 4, 3) by decide +kernel) (by decide))),
  List.forall_mem_cons.mpr ⟨(Or.inl ⟨rfl, (show decode cX10_tryStart 39 = .ok (.return_, 1) by decide +kernel), rfl⟩),
  List.forall_mem_cons.mpr ⟨(xOK_pure (xs_aload_n (k := 0) rfl (show decode cX10_tryStart 40 = .ok (.aload_n 0, 1) by decide +kernel))),
  List.forall_mem_cons.mpr ⟨(xOK_pure (xs_aload_n (k := 2) rfl (show decode cX10_tryStart 41 = .ok (.aload_n 2, 1) by decide +kernel))),
  List.forall_mem_cons.mpr ⟨(xcm mi_104 ⟨⟨(by decide +kernel), (by decide +kernel), (by decide +kernel)⟩, (by decide), xw_1163, xw_120, Or.inl ⟨rfl, _, _, _, _, (show decode cX10_tryStart 42 = .ok (.invokevirtual 149, 3) by decide +kernel), xw_1160, xw_1161, xw_1162, rfl⟩⟩),
  List.forall_mem_cons.mpr ⟨(xOK_pure (xs_istore_n (k := 3) rfl (show decode cX10_tryStart 45 = .ok (.istore_n 3, 1) by decide +kernel) (by decide))),
  List.forall_mem_cons.mpr ⟨(xOK_pure (xs_aload_n (k := 2) rfl (show decode cX10_tryStart 46 = .ok (.aload_n 2, 1) by decide +kernel))),
  List.forall_mem_cons.mpr ⟨(xOK_pure (xs_aload_n (k := 0) rfl (show decode cX10_tryStart 47 = .ok (.aload_n 0, 1) by decide +kernel))),
  List.forall_mem_cons.mpr ⟨(xOK_pure (xs_getf xcl_10 (by decide) (show decode cX10_tryStart 48 = .ok (.getfield 23, 3) by decide +kernel) xw_305)),
  List.forall_mem_cons.mpr ⟨(xOK_pure (xs_getf xcl_8 (by decide) (show decode cX10_tryStart 51 = .ok (.getfield 152, 3) by decide +kernel) xw_269)),
  List.forall_mem_cons.mpr ⟨(xs_putf (k := 8) xcl_1 (by decide) rfl (show decode cX10_tryStart 54 = .ok (.putfield 155, 3) by decide +kernel) xw_1066),
  List.forall_mem_cons.mpr ⟨(xOK_pure (xs_iload_n (k := 3) rfl (show decode cX10_tryStart 57 = .ok (.iload_n 3, 1) by decide +kernel))),
  List.forall_mem_cons.mpr ⟨(xOK_pure (xs_bipush (n := 71) (show decode cX10_tryStart 58 = .ok (.bipush 71, 2) by decide +kernel) (by decide))),
  List.forall_mem_cons.mpr ⟨(xOK_pure (xs_icmp_ne (show decode cX10_tryStart 60 = .ok (.if_icmp .ne 8, 3) by decide +kernel) (by decide))),
  List.forall_mem_cons.mpr ⟨(xOK_pure (xs_aload_n (k := 0) rfl (show decode cX10_tryStart 63 = .ok (.aload_n 0, 1) by decide +kernel))),
  List.forall_mem_cons.mpr ⟨(xOK_pure (xs_iload_n (k := 1) rfl (show decode cX10_tryStart 64 = .ok (.iload_n 1, 1) by decide +kernel))),
  List.forall_mem_cons.mpr ⟨(xcm mi_106 ⟨⟨(by decide +kernel), (by decide +kernel), (by decide +kernel)⟩, (by decide), xw_1203, xw_120, Or.inl ⟨rfl, _, _, _, _, (show decode cX10_tryStart 65 = .ok (.invokevirtual 158, 3) by decide +kernel), xw_1200, xw_1202, xw_32, rfl⟩⟩),
  List.forall_mem_cons.mpr ⟨(Or.inl ⟨rfl, (show decode cX10_tryStart 68 = .ok (.return_, 1) by decide +kernel), rfl⟩),
  (fun _ h => absurd h List.not_mem_nil)⟩⟩⟩⟩⟩⟩⟩⟩⟩⟩⟩⟩⟩⟩⟩⟩⟩⟩⟩
def pX10_tryStart (ev : xEv) : List (Nat × xEn) := pX10_tryStart_0 ev ++ (pX10_tryStart_1 ev)
theorem okpX10_tryStart (ev : xEv) : ∀ q ∈ pX10_tryStart ev, xEnOK ev xmi yX10_tryStart.cls yX10_tryStart.name cX10_tryStart 4 none q := List.forall_mem_append.mpr ⟨okpX10_tryStart_0 ev, okpX10_tryStart_1 ev⟩
theorem omX10_tryStart (ev : xEv) : xMethOK ev xmi yX10_tryStart.cls yX10_tryStart.name 101 (pX10_tryStart ev) := xMethOK.of mi_101 (by decide +kernel) (okpX10_tryStart ev)
def pX10_hindrance_0 (ev : xEv) : List (Nat × xEn) := [(0, .inl (xop (xf_aload 0 1))), (1, .inl (xop (xf_getf 10 4))), (4, .inl (xop (xf_aload 1 1))), (5, .inl (xop (xf_getf 1 0))), (8, .inl (xop (xf_aald (ev.1 5)))), (9, .inl (xop (xf_astore 2 1))), (10, .inl (xop (xf_aload 0 1))), (11, .inl (xop (xf_getf 10 0))), (14, .inl (xop (xf_getf 2 4))), (17, .inl (xop (xf_aload 1 1))), (18, .inl (xop (xf_getf 1 2))), (21, .inl (xop (xf_aald (ev.1 4)))), (22, .inl (xop (xf_astore 3 1))), (23, .inl (xop (xf_aload 2 1))), (24, .inl (xop (xf_getf 6 8))), (27, .inl (xop (xf_push (.int (-1)) 1))), (28, .inl (xop (xf_icmp_eq 61))), (31, .inl (xop (xf_aload 2 1))), (32, .inl (xop (xf_getf 6 8))), (35, .inl (xop (xf_aload 0 1)))]
set_option maxRecDepth 20000 in
theorem okpX10_hindrance_0 (ev : xEv) : ∀ q ∈ pX10_hindrance_0 ev, xEnOK ev xmi yX10_hindrance.cls yX10_hindrance.name cX10_hindrance 4 (some .int) q :=
  List.forall_mem_cons.mpr ⟨(xOK_pure (xs_aload_n (k := 0) rfl (show decode cX10_hindrance 0 = .ok (.aload_n 0, 1) by decide +kernel))),
  List.forall_mem_cons.mpr ⟨(xOK_pure (xs_getf xcl_10 (by decide) (show decode cX10_hindrance 1 = .ok (.getfield 32, 3) by decide +kernel) xw_309)),
  List.forall_mem_cons.mpr ⟨(xOK_pure (xs_aload_n (k := 1) rfl (show decode cX10_hindrance 4 = .ok (.aload_n 1, 1) by decide +kernel))),
  List.forall_mem_cons.mpr ⟨(xOK_pure (xs_getf xcl_1 (by decide) (show decode cX10_hindrance 5 = .ok (.getfield 161, 3) by decide +kernel) xw_1048)),
  List.forall_mem_cons.mpr ⟨(xOK_pure (xs_aald (t := 5) rfl (show decode cX10_hindrance 8 = .ok (.aaload, 1) by decide +kernel))),
  List.forall_mem_cons.mpr ⟨(xOK_pure (xs_astore_n (k := 2) rfl (show decode cX10_hindrance 9 = .ok (.astore_n 2, 1) by decide +kernel) (by decide))),
  List.forall_mem_cons.mpr ⟨(xOK_pure (xs_aload_n (k := 0) rfl (show decode cX10_hindrance 10 = .ok (.aload_n 0, 1) by decide +kernel))),
  List.forall_mem_cons.mpr ⟨(xOK_pure (xs_getf xcl_10 (by decide) (show decode cX10_hindrance 11 = .ok (.getfield 65, 3) by decide +kernel) xw_301)),
  List.forall_mem_cons.mpr ⟨(xOK_pure (xs_getf xcl_2 (by decide) (show decode cX10_hindrance 14 = .ok (.getfield 164, 3) by decide +kernel) xw_174)),
  List.forall_mem_cons.mpr ⟨(xOK_pure (xs_aload_n (k := 1) rfl (show decode cX10_hindrance 17 = .ok (.aload_n 1, 1) by decide +kernel))),
  List.forall_mem_cons.mpr ⟨(xOK_pure (xs_getf xcl_1 (by decide) (show decode cX10_hindrance 18 = .ok (.getfield 170, 3) by decide +kernel) xw_1054)),
  List.forall_mem_cons.mpr ⟨(xOK_pure (xs_aald (t := 4) rfl (show decode cX10_hindrance 21 = .ok (.aaload, 1) by decide +kernel))),
  List.forall_mem_cons.mpr ⟨(xOK_pure (xs_astore_n (k := 3) rfl (show decode cX10_hindrance 22 = .ok (.astore_n 3, 1) by decide +kernel) (by decide))),
  List.forall_mem_cons.mpr ⟨(xOK_pure (xs_aload_n (k := 2) rfl (show decode cX10_hindrance 23 = .ok (.aload_n 2, 1) by decide +kernel))),
  List.forall_mem_cons.mpr ⟨(xOK_pure (xs_getf xcl_6 (by decide) (show decode cX10_hindrance 24 = .ok (.getfield 173, 3) by decide +kernel) xw_616)),
  List.forall_mem_cons.mpr ⟨(xOK_pure (xs_iconst (n := (-1)) (show decode cX10_hindrance 27 = .ok (.iconst (-1), 1) by decide +kernel) (by decide))),
  List.forall_mem_cons.mpr ⟨(xOK_pure (xs_icmp_eq (show decode cX10_hindrance 28 = .ok (.if_icmp .eq 33, 3) by decide +kernel) (by decide))),
  List.forall_mem_cons.mpr ⟨(xOK_pure (xs_aload_n (k := 2) rfl (show decode cX10_hindrance 31 = .ok (.aload_n 2, 1) by decide +kernel))),
  List.forall_mem_cons.mpr ⟨(xOK_pure (xs_getf xcl_6 (by decide) (show decode cX10_hindrance 32 = .ok (.getfield 173, 3) by decide +kernel) xw_616)),
  List.forall_mem_cons.mpr ⟨(xOK_pure (xs_aload_n (k := 0) rfl (show decode cX10_hindrance 35 = .ok (.aload_n 0, 1) by decide +kernel))),
  (fun _ h => absurd h List.not_mem_nil)⟩⟩⟩⟩⟩⟩⟩⟩⟩⟩⟩⟩⟩⟩⟩⟩⟩⟩⟩⟩
def pX10_hindrance_1 (ev : xEv) : List (Nat × xEn) := [(36, .inl (xop (xf_getf 10 6))), (39, .inl (xop (xf_aload 1 1))), (40, .inl (xop (xf_getf 1 1))), (43, .inl (xop (xf_aald (ev.1 6)))), (44, .inl (xop (xf_getf 5 0))), (47, .inl (xop (xf_icmp_ne 61))), (50, .inl (xop (xf_aload 3 1))), (51, .inl (xop (xf_aload 2 1))), (52, .inl (xop (xf_getf 6 8))), (55, .inr (.inl (0, 35, 1, 3))), (58, .inl (xop (xf_if_ne 63))), (61, .inl (xop (xf_push (.int 1) 1))), (62, .inr (.inr 1)), (63, .inl (xop (xf_aload 2 1))), (64, .inl (xop (xf_getf 6 13))), (67, .inl (xop (xf_if_eq 72))), (70, .inl (xop (xf_push (.int 2) 1))), (71, .inr (.inr 1)), (72, .inl (xop (xf_aload 2 1))), (73, .inl (xop (xf_getf 6 14)))]
set_option maxRecDepth 20000 in
theorem okpX10_hindrance_1 (ev : xEv) : ∀ q ∈ pX10_hindrance_1 ev, xEnOK ev xmi yX10_hindrance.cls yX10_hindrance.name cX10_hindrance 4 (some .int) q :=
  List.forall_mem_cons.mpr ⟨(xOK_pure (xs_getf xcl_10 (by decide) (show decode cX10_hindrance 36 = .ok (.getfield 38, 3) by decide +kernel) xw_315)),
  List.forall_mem_cons.mpr ⟨(xOK_pure (xs_aload_n (k := 1) rfl (show decode cX10_hindrance 39 = .ok (.aload_n 1, 1) by decide +kernel))),
  List.forall_mem_cons.mpr ⟨(xOK_pure (xs_getf xcl_1 (by decide) (show decode cX10_hindrance 40 = .ok (.getfield 176, 3) by decide +kernel) xw_1051)),
  List.forall_mem_cons.mpr ⟨(xOK_pure (xs_aald (t := 6) rfl (show decode cX10_hindrance 43 = .ok (.aaload, 1) by decide +kernel))),
  List.forall_mem_cons.mpr ⟨(xOK_pure (xs_getf xcl_5 (by decide) (show decode cX10_hindrance 44 = .ok (.getfield 179, 3) by decide +kernel) xw_713)),
  List.forall_mem_cons.mpr ⟨(xOK_pure (xs_icmp_ne (show decode cX10_hindrance 47 = .ok (.if_icmp .ne 14, 3) by decide +kernel) (by decide))),
  List.forall_mem_cons.mpr ⟨(xOK_pure (xs_aload_n (k := 3) rfl (show decode cX10_hindrance 50 = .ok (.aload_n 3, 1) by decide +kernel))),
  List.forall_mem_cons.mpr ⟨(xOK_pure (xs_aload_n (k := 2) rfl (show decode cX10_hindrance 51 = .ok (.aload_n 2, 1) by decide +kernel))),
  List.forall_mem_cons.mpr ⟨(xOK_pure (xs_getf xcl_6 (by decide) (show decode cX10_hindrance 52 = .ok (.getfield 173, 3) by decide +kernel) xw_616)),
  List.forall_mem_cons.mpr ⟨(xcm mi_35 ⟨⟨(by decide +kernel), (by decide +kernel), (by decide +kernel)⟩, (by decide), xw_1151, xw_126, Or.inl ⟨rfl, _, _, _, _, (show decode cX10_hindrance 55 = .ok (.invokevirtual 180, 3) by decide +kernel), xw_1148, xw_1149, xw_1150, rfl⟩⟩),
  List.forall_mem_cons.mpr ⟨(xOK_pure (xs_if_ne (show decode cX10_hindrance 58 = .ok (.ifCond .ne 5, 3) by decide +kernel) (by decide))),
  List.forall_mem_cons.mpr ⟨(xOK_pure (xs_iconst (n := 1) (show decode cX10_hindrance 61 = .ok (.iconst 1, 1) by decide +kernel) (by decide))),
  List.forall_mem_cons.mpr ⟨(Or.inr (Or.inl ⟨rfl, (show decode cX10_hindrance 62 = .ok (.ireturn, 1) by decide +kernel), rfl⟩)),
  List.forall_mem_cons.mpr ⟨(xOK_pure (xs_aload_n (k := 2) rfl (show decode cX10_hindrance 63 = .ok (.aload_n 2, 1) by decide +kernel))),
  List.forall_mem_cons.mpr ⟨(xOK_pure (xs_getf xcl_6 (by decide) (show decode cX10_hindrance 64 = .ok (.getfield 186, 3) by decide +kernel) xw_631)),
  List.forall_mem_cons.mpr ⟨(xOK_pure (xs_if_eq (show decode cX10_hindrance 67 = .ok (.ifCond .eq 5, 3) by decide +kernel) (by decide))),
  List.forall_mem_cons.mpr ⟨(xOK_pure (xs_iconst (n := 2) (show decode cX10_hindrance 70 = .ok (.iconst 2, 1) by decide +kernel) (by decide))),
  List.forall_mem_cons.mpr ⟨(Or.inr (Or.inl ⟨rfl, (show decode cX10_hindrance 71 = .ok (.ireturn, 1) by decide +kernel), rfl⟩)),
  List.forall_mem_cons.mpr ⟨(xOK_pure (xs_aload_n (k := 2) rfl (show decode cX10_hindrance 72 = .ok (.aload_n 2, 1) by decide +kernel))),
  List.forall_mem_cons.mpr ⟨(xOK_pure (xs_getf xcl_6 (by decide) (show decode cX10_hindrance 73 = .ok (.getfield 189, 3) by decide +kernel) xw_635)),
  (fun _ h => absurd h List.not_mem_nil)⟩⟩⟩⟩⟩⟩⟩⟩⟩⟩⟩⟩⟩⟩⟩⟩⟩⟩⟩⟩
def pX10_hindrance_2 (ev : xEv) : List (Nat × xEn) := [(76, .inl (xop (xf_aload 0 1))), (77, .inl (xop (xf_getf 10 13))), (80, .inl (xop (xf_icmp_le 85))), (83, .inl (xop (xf_push (.int 3) 1))), (84, .inr (.inr 1)), (85, .inl (xop (xf_aload 2 1))), (86, .inl (xop (xf_getf 6 5))), (89, .inl (xop (xf_aload 2 1))), (90, .inl (xop (xf_getf 6 6))), (93, .inl (xop (xf_icmp_lt 98))), (96, .inl (xop (xf_push (.int 4) 1))), (97, .inr (.inr 1)), (98, .inl (xop (xf_aload 0 1))), (99, .inr (.inl (0, 100, 0, 10))), (102, .inl (xop (xf_if_eq 114))), (105, .inl (xop (xf_aload 2 1))), (106, .inl (xop (xf_getf 6 4))), (109, .inl (xop (xf_if_ne 114))), (112, .inl (xop (xf_push (.int 5) 1))), (113, .inr (.inr 1))]
set_option maxRecDepth 20000 in
theorem okpX10_hindrance_2 (ev : xEv) : ∀ q ∈ pX10_hindrance_2 ev, xEnOK ev xmi yX10_hindrance.cls yX10_hindrance.name cX10_hindrance 4 (some .int) q :=
  List.forall_mem_cons.mpr ⟨(xOK_pure (xs_aload_n (k := 0) rfl (show decode cX10_hindrance 76 = .ok (.aload_n 0, 1) by decide +kernel))),
  List.forall_mem_cons.mpr ⟨(xOK_pure (xs_getf xcl_10 (by decide) (show decode cX10_hindrance 77 = .ok (.getfield 69, 3) by decide +kernel) xw_328)),
  List.forall_mem_cons.mpr ⟨(xOK_pure (xs_icmp_le (show decode cX10_hindrance 80 = .ok (.if_icmp .le 5, 3) by decide +kernel) (by decide))),
  List.forall_mem_cons.mpr ⟨(xOK_pure (xs_iconst (n := 3) (show decode cX10_hindrance 83 = .ok (.iconst 3, 1) by decide +kernel) (by decide))),
  List.forall_mem_cons.mpr ⟨(Or.inr (Or.inl ⟨rfl, (show decode cX10_hindrance 84 = .ok (.ireturn, 1) by decide +kernel), rfl⟩)),
  List.forall_mem_cons.mpr ⟨(xOK_pure (xs_aload_n (k := 2) rfl (show decode cX10_hindrance 85 = .ok (.aload_n 2, 1) by decide +kernel))),
  List.forall_mem_cons.mpr ⟨(xOK_pure (xs_getf xcl_6 (by decide) (show decode cX10_hindrance 86 = .ok (.getfield 192, 3) by decide +kernel) xw_604)),
  List.forall_mem_cons.mpr ⟨(xOK_pure (xs_aload_n (k := 2) rfl (show decode cX10_hindrance 89 = .ok (.aload_n 2, 1) by decide +kernel))),
  List.forall_mem_cons.mpr ⟨(xOK_pure (xs_getf xcl_6 (by decide) (show decode cX10_hindrance 90 = .ok (.getfield 195, 3) by decide +kernel) xw_609)),
  List.forall_mem_cons.mpr ⟨(xOK_pure (xs_icmp_lt (show decode cX10_hindrance 93 = .ok (.if_icmp .lt 5, 3) by decide +kernel) (by decide))),
  List.forall_mem_cons.mpr ⟨(xOK_pure (xs_iconst (n := 4) (show decode cX10_hindrance 96 = .ok (.iconst 4, 1) by decide +kernel) (by decide))),
  List.forall_mem_cons.mpr ⟨(Or.inr (Or.inl ⟨rfl, (show decode cX10_hindrance 97 = .ok (.ireturn, 1) by decide +kernel), rfl⟩)),
  List.forall_mem_cons.mpr ⟨(xOK_pure (xs_aload_n (k := 0) rfl (show decode cX10_hindrance 98 = .ok (.aload_n 0, 1) by decide +kernel))),
  List.forall_mem_cons.mpr ⟨(xcm mi_100 ⟨⟨(by decide +kernel), (by decide +kernel), (by decide +kernel)⟩, (by decide), xw_1155, xw_120, Or.inl ⟨rfl, _, _, _, _, (show decode cX10_hindrance 99 = .ok (.invokevirtual 198, 3) by decide +kernel), xw_1152, xw_1154, xw_28, rfl⟩⟩),
  List.forall_mem_cons.mpr ⟨(xOK_pure (xs_if_eq (show decode cX10_hindrance 102 = .ok (.ifCond .eq 12, 3) by decide +kernel) (by decide))),
  List.forall_mem_cons.mpr ⟨(xOK_pure (xs_aload_n (k := 2) rfl (show decode cX10_hindrance 105 = .ok (.aload_n 2, 1) by decide +kernel))),
  List.forall_mem_cons.mpr ⟨(xOK_pure (xs_getf xcl_6 (by decide) (show decode cX10_hindrance 106 = .ok (.getfield 201, 3) by decide +kernel) xw_602)),
  List.forall_mem_cons.mpr ⟨(xOK_pure (xs_if_ne (show decode cX10_hindrance 109 = .ok (.ifCond .ne 5, 3) by decide +kernel) (by decide))),
  List.forall_mem_cons.mpr ⟨(xOK_pure (xs_iconst (n := 5) (show decode cX10_hindrance 112 = .ok (.iconst 5, 1) by decide +kernel) (by decide))),
  List.forall_mem_cons.mpr ⟨(Or.inr (Or.inl ⟨rfl, (show decode cX10_hindrance 113 = .ok (.ireturn, 1) by decide +kernel), rfl⟩)),
  (fun _ h => absurd h List.not_mem_nil)⟩⟩⟩⟩⟩⟩⟩⟩⟩⟩⟩⟩⟩⟩⟩⟩⟩⟩⟩⟩
def pX10_hindrance_3 (ev : xEv) : List (Nat × xEn) := [(114, .inl (xop (xf_aload 0 1))), (115, .inl (xop (xf_aload 2 1))), (116, .inl (xop (xf_aload 3 1))), (117, .inr (.inl (0, 103, 2, 10))), (120, .inl (xop (xf_if_ge 128))), (123, .inl (xop (xf_push (.int 6) 2))), (125, .inl (xop (xf_goto 129))), (128, .inl (xop (xf_push (.int 0) 1))), (129, .inr (.inr 1))]
set_option maxRecDepth 20000 in
theorem okpX10_hindrance_3 (ev : xEv) : ∀ q ∈ pX10_hindrance_3 ev, xEnOK ev xmi yX10_hindrance.cls yX10_hindrance.name cX10_hindrance 4 (some .int) q :=
  List.forall_mem_cons.mpr ⟨(xOK_pure (xs_aload_n (k := 0) rfl (show decode cX10_hindrance 114 = .ok (.aload_n 0, 1) by decide +kernel))),
  List.forall_mem_cons.mpr ⟨(xOK_pure (xs_aload_n (k := 2) rfl (show decode cX10_hindrance 115 = .ok (.aload_n 2, 1) by decide +kernel))),
  List.forall_mem_cons.mpr ⟨(xOK_pure (xs_aload_n (k := 3) rfl (show decode cX10_hindrance 116 = .ok (.aload_n 3, 1) by decide +kernel))),
  List.forall_mem_cons.mpr ⟨(xcm mi_103 ⟨⟨(by decide +kernel), (by decide +kernel), (by decide +kernel)⟩, (by decide), xw_1159, xw_120, Or.inl ⟨rfl, _, _, _, _, (show decode cX10_hindrance 117 = .ok (.invokevirtual 205, 3) by decide +kernel), xw_1156, xw_1158, xw_29, rfl⟩⟩),
  List.forall_mem_cons.mpr ⟨(xOK_pure (xs_if_ge (show decode cX10_hindrance 120 = .ok (.ifCond .ge 8, 3) by decide +kernel) (by decide))),
  List.forall_mem_cons.mpr ⟨(xOK_pure (xs_bipush (n := 6) (show decode cX10_hindrance 123 = .ok (.bipush 6, 2) by decide +kernel) (by decide))),
  List.forall_mem_cons.mpr ⟨(xOK_pure (xs_goto (show decode cX10_hindrance 125 = .ok (.goto 4, 3) by decide +kernel) (by decide))),
  List.forall_mem_cons.mpr ⟨(xOK_pure (xs_iconst (n := 0) (show decode cX10_hindrance 128 = .ok (.iconst 0, 1) by decide +kernel) (by decide))),
  List.forall_mem_cons.mpr ⟨(Or.inr (Or.inl ⟨rfl, (show decode cX10_hindrance 129 = .ok (.ireturn, 1) by decide +kernel), rfl⟩)),
  (fun _ h => absurd h List.not_mem_nil)⟩⟩⟩⟩⟩⟩⟩⟩⟩
def pX10_hindrance (ev : xEv) : List (Nat × xEn) := pX10_hindrance_0 ev ++ (pX10_hindrance_1 ev ++ (pX10_hindrance_2 ev ++ (pX10_hindrance_3 ev)))
theorem okpX10_hindrance (ev : xEv) : ∀ q ∈ pX10_hindrance ev, xEnOK ev xmi yX10_hindrance.cls yX10_hindrance.name cX10_hindrance 4 (some .int) q := List.forall_mem_append.mpr ⟨okpX10_hindrance_0 ev, List.forall_mem_append.mpr ⟨okpX10_hindrance_1 ev, List.forall_mem_append.mpr ⟨okpX10_hindrance_2 ev, okpX10_hindrance_3 ev⟩⟩⟩
theorem omX10_hindrance (ev : xEv) : xMethOK ev xmi yX10_hindrance.cls yX10_hindrance.name 102 (pX10_hindrance ev) := xMethOK.of mi_102 (by decide +kernel) (okpX10_hindrance ev)
def pX10_carriedAtMost_0 (ev : xEv) : List (Nat × xEn) := [(0, .inl (xop (xf_aload 1 1))), (1, .inl (xop (xf_getf 6 1))), (4, .inl (xop (xf_push (.int 5) 1))), (5, .inl (xop (xf_aload 0 1))), (6, .inl (xop (xf_getf 10 0))), (9, .inl (xop (xf_getf 2 0))), (12, .inl (xop (xf_aload 1 1))), (13, .inl (xop (xf_getf 6 8))), (16, .inl (xop (xf_ald (ev.1 0)))), (17, .inl (xop (xf_bin (fun x y => x * y)))), (18, .inl (xop (xf_bin (fun x y => x - y)))), (19, .inl (xop (xf_istore 3 1))), (20, .inl (xop (xf_push (.int 50) 2))), (22, .inl (xop (xf_aload 1 1))), (23, .inl (xop (xf_getf 6 2))), (26, .inl (xop (xf_aload 1 1))), (27, .inl (xop (xf_getf 6 5))), (30, .inl (xop (xf_push (.int 20) 2))), (32, .inl (xop (xf_div (fun x y => x / y)))), (33, .inl (xop (xf_bin (fun x y => x - y))))]
set_option maxRecDepth 20000 in
theorem okpX10_carriedAtMost_0 (ev : xEv) : ∀ q ∈ pX10_carriedAtMost_0 ev, xEnOK ev xmi yX10_carriedAtMost.cls yX10_carriedAtMost.name cX10_carriedAtMost 5 (some .int) q :=
  List.forall_mem_cons.mpr ⟨(xOK_pure (xs_aload_n (k := 1) rfl (show decode cX10_carriedAtMost 0 = .ok (.aload_n 1, 1) by decide +kernel))),
  List.forall_mem_cons.mpr ⟨(xOK_pure (xs_getf xcl_6 (by decide) (show decode cX10_carriedAtMost 1 = .ok (.getfield 209, 3) by decide +kernel) xw_596)),
  List.forall_mem_cons.mpr ⟨(xOK_pure (xs_iconst (n := 5) (show decode cX10_carriedAtMost 4 = .ok (.iconst 5, 1) by decide +kernel) (by decide))),
  List.forall_mem_cons.mpr ⟨(xOK_pure (xs_aload_n (k := 0) rfl (show decode cX10_carriedAtMost 5 = .ok (.aload_n 0, 1) by decide +kernel))),
  List.forall_mem_cons.mpr ⟨(xOK_pure (xs_getf xcl_10 (by decide) (show decode cX10_carriedAtMost 6 = .ok (.getfield 65, 3) by decide +kernel) xw_301)),
  List.forall_mem_cons.mpr ⟨(xOK_pure (xs_getf xcl_2 (by decide) (show decode cX10_carriedAtMost 9 = .ok (.getfield 212, 3) by decide +kernel) xw_162)),
  List.forall_mem_cons.mpr ⟨(xOK_pure (xs_aload_n (k := 1) rfl (show decode cX10_carriedAtMost 12 = .ok (.aload_n 1, 1) by decide +kernel))),
  List.forall_mem_cons.mpr ⟨(xOK_pure (xs_getf xcl_6 (by decide) (show decode cX10_carriedAtMost 13 = .ok (.getfield 173, 3) by decide +kernel) xw_616)),
  List.forall_mem_cons.mpr ⟨(xOK_pure (xs_iald (show decode cX10_carriedAtMost 16 = .ok (.iaload, 1) by decide +kernel))),
  List.forall_mem_cons.mpr ⟨(xOK_pure (xs_imul (show decode cX10_carriedAtMost 17 = .ok (.imul, 1) by decide +kernel))),
  List.forall_mem_cons.mpr ⟨(xOK_pure (xs_isub (show decode cX10_carriedAtMost 18 = .ok (.isub, 1) by decide +kernel))),
  List.forall_mem_cons.mpr ⟨(xOK_pure (xs_istore_n (k := 3) rfl (show decode cX10_carriedAtMost 19 = .ok (.istore_n 3, 1) by decide +kernel) (by decide))),
  List.forall_mem_cons.mpr ⟨(xOK_pure (xs_bipush (n := 50) (show decode cX10_carriedAtMost 20 = .ok (.bipush 50, 2) by decide +kernel) (by decide))),
  List.forall_mem_cons.mpr ⟨(xOK_pure (xs_aload_n (k := 1) rfl (show decode cX10_carriedAtMost 22 = .ok (.aload_n 1, 1) by decide +kernel))),
  List.forall_mem_cons.mpr ⟨(xOK_pure (xs_getf xcl_6 (by decide) (show decode cX10_carriedAtMost 23 = .ok (.getfield 215, 3) by decide +kernel) xw_598)),
  List.forall_mem_cons.mpr ⟨(xOK_pure (xs_aload_n (k := 1) rfl (show decode cX10_carriedAtMost 26 = .ok (.aload_n 1, 1) by decide +kernel))),
  List.forall_mem_cons.mpr ⟨(xOK_pure (xs_getf xcl_6 (by decide) (show decode cX10_carriedAtMost 27 = .ok (.getfield 192, 3) by decide +kernel) xw_604)),
  List.forall_mem_cons.mpr ⟨(xOK_pure (xs_bipush (n := 20) (show decode cX10_carriedAtMost 30 = .ok (.bipush 20, 2) by decide +kernel) (by decide))),
  List.forall_mem_cons.mpr ⟨(xOK_pure (xs_idiv (show decode cX10_carriedAtMost 32 = .ok (.idiv, 1) by decide +kernel))),
  List.forall_mem_cons.mpr ⟨(xOK_pure (xs_isub (show decode cX10_carriedAtMost 33 = .ok (.isub, 1) by decide +kernel))),
  (fun _ h => absurd h List.not_mem_nil)⟩⟩⟩⟩⟩⟩⟩⟩⟩⟩⟩⟩⟩⟩⟩⟩⟩⟩⟩⟩
def pX10_carriedAtMost_1 (ev : xEv) : List (Nat × xEn) := [(34, .inl (xop (xf_aload 2 1))), (35, .inl (xop (xf_getf 3 3))), (38, .inl (xop (xf_bin (fun x y => x - y)))), (39, .inl (xop (xf_bin (fun x y => x * y)))), (40, .inl (xop (xf_istore 4 2))), (42, .inl (xop (xf_iload 3 1))), (43, .inl (xop (xf_iload 4 2))), (45, .inl (xop (xf_m2 (fun x y => if y < x then y else x)))), (48, .inr (.inr 1))]
set_option maxRecDepth 20000 in
theorem okpX10_carriedAtMost_1 (ev : xEv) : ∀ q ∈ pX10_carriedAtMost_1 ev, xEnOK ev xmi yX10_carriedAtMost.cls yX10_carriedAtMost.name cX10_carriedAtMost 5 (some .int) q :=
  List.forall_mem_cons.mpr ⟨(xOK_pure (xs_aload_n (k := 2) rfl (show decode cX10_carriedAtMost 34 = .ok (.aload_n 2, 1) by decide +kernel))),
  List.forall_mem_cons.mpr ⟨(xOK_pure (xs_getf xcl_3 (by decide) (show decode cX10_carriedAtMost 35 = .ok (.getfield 218, 3) by decide +kernel) xw_516)),
  List.forall_mem_cons.mpr ⟨(xOK_pure (xs_isub (show decode cX10_carriedAtMost 38 = .ok (.isub, 1) by decide +kernel))),
  List.forall_mem_cons.mpr ⟨(xOK_pure (xs_imul (show decode cX10_carriedAtMost 39 = .ok (.imul, 1) by decide +kernel))),
  List.forall_mem_cons.mpr ⟨(xOK_pure (xs_istore (show decode cX10_carriedAtMost 40 = .ok (.istore 4, 2) by decide +kernel) (by decide))),
  List.forall_mem_cons.mpr ⟨(xOK_pure (xs_iload_n (k := 3) rfl (show decode cX10_carriedAtMost 42 = .ok (.iload_n 3, 1) by decide +kernel))),
  List.forall_mem_cons.mpr ⟨(xOK_pure (xs_iload (show decode cX10_carriedAtMost 43 = .ok (.iload 4, 2) by decide +kernel))),
  List.forall_mem_cons.mpr ⟨(xOK_pure (xs_mmin (show decode cX10_carriedAtMost 45 = .ok (.invokestatic 119, 3) by decide +kernel) xw_1124 xw_541 xw_127 xw_542)),
  List.forall_mem_cons.mpr ⟨(Or.inr (Or.inl ⟨rfl, (show decode cX10_carriedAtMost 48 = .ok (.ireturn, 1) by decide +kernel), rfl⟩)),
  (fun _ h => absurd h List.not_mem_nil)⟩⟩⟩⟩⟩⟩⟩⟩⟩
def pX10_carriedAtMost (ev : xEv) : List (Nat × xEn) := pX10_carriedAtMost_0 ev ++ (pX10_carriedAtMost_1 ev)
theorem okpX10_carriedAtMost (ev : xEv) : ∀ q ∈ pX10_carriedAtMost ev, xEnOK ev xmi yX10_carriedAtMost.cls yX10_carriedAtMost.name cX10_carriedAtMost 5 (some .int) q := List.forall_mem_append.mpr ⟨okpX10_carriedAtMost_0 ev, okpX10_carriedAtMost_1 ev⟩
theorem omX10_carriedAtMost (ev : xEv) : xMethOK ev xmi yX10_carriedAtMost.cls yX10_carriedAtMost.name 103 (pX10_carriedAtMost ev) := xMethOK.of mi_103 (by decide +kernel) (okpX10_carriedAtMost ev)
