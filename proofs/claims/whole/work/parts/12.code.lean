def pX6_init_0 (ev : xEv) : List (Nat × xEn) := [(0, .inl (xop (xf_aload 0 1))), (1, .inl (xop xf_objInit)), (4, .inl (xop (xf_aload 0 1))), (5, .inl (xop (xf_push (.int 400) 3))), (8, .inl (xo_putf 6 6 .int)), (11, .inl (xop (xf_aload 0 1))), (12, .inl (xop (xf_push (.int (-1)) 1))), (13, .inl (xo_putf 6 9 .int)), (16, .inl (xop (xf_aload 0 1))), (17, .inl (xop (xf_push (.int (-1)) 1))), (18, .inl (xo_putf 6 10 .int)), (21, .inl (xop (xf_aload 0 1))), (22, .inl (xop (xf_push (.int (-1)) 1))), (23, .inl (xo_putf 6 16 .int)), (26, .inl (xop (xf_aload 0 1))), (27, .inl (xop (xf_push (.int (-1)) 1))), (28, .inl (xo_putf 6 17 .int)), (31, .inl (xop (xf_aload 0 1))), (32, .inl (xop (xf_push (.int 8) 2))), (34, .inl (xo_newa (ev.1 0) (.inl (fun _ => 0))))]
set_option maxRecDepth 20000 in
theorem okpX6_init_0 (ev : xEv) : ∀ q ∈ pX6_init_0 ev, xEnOK ev xmi yX6_init.cls yX6_init.name cX6_init 7 none q :=
  List.forall_mem_cons.mpr ⟨(xOK_pure (xs_aload_n (k := 0) rfl (show decode cX6_init 0 = .ok (.aload_n 0, 1) by decide +kernel))),
  List.forall_mem_cons.mpr ⟨(xOK_pure (xs_objInit (show decode cX6_init 1 = .ok (.invokespecial 3, 3) by decide +kernel) xw_592 xw_150 xw_151)),
  List.forall_mem_cons.mpr ⟨(xOK_pure (xs_aload_n (k := 0) rfl (show decode cX6_init 4 = .ok (.aload_n 0, 1) by decide +kernel))),
  List.forall_mem_cons.mpr ⟨(xOK_pure (xs_sipush (n := 400) (show decode cX6_init 5 = .ok (.sipush 400, 3) by decide +kernel) (by decide))),
  List.forall_mem_cons.mpr ⟨(xs_putf (k := 6) xcl_6 (by decide) rfl (show decode cX6_init 8 = .ok (.putfield 11, 3) by decide +kernel) xw_607),
  List.forall_mem_cons.mpr ⟨(xOK_pure (xs_aload_n (k := 0) rfl (show decode cX6_init 11 = .ok (.aload_n 0, 1) by decide +kernel))),
  List.forall_mem_cons.mpr ⟨(xOK_pure (xs_iconst (n := (-1)) (show decode cX6_init 12 = .ok (.iconst (-1), 1) by decide +kernel) (by decide))),
  List.forall_mem_cons.mpr ⟨(xs_putf (k := 9) xcl_6 (by decide) rfl (show decode cX6_init 13 = .ok (.putfield 15, 3) by decide +kernel) xw_618),
  List.forall_mem_cons.mpr ⟨(xOK_pure (xs_aload_n (k := 0) rfl (show decode cX6_init 16 = .ok (.aload_n 0, 1) by decide +kernel))),
  List.forall_mem_cons.mpr ⟨(xOK_pure (xs_iconst (n := (-1)) (show decode cX6_init 17 = .ok (.iconst (-1), 1) by decide +kernel) (by decide))),
  List.forall_mem_cons.mpr ⟨(xs_putf (k := 10) xcl_6 (by decide) rfl (show decode cX6_init 18 = .ok (.putfield 18, 3) by decide +kernel) xw_621),
  List.forall_mem_cons.mpr ⟨(xOK_pure (xs_aload_n (k := 0) rfl (show decode cX6_init 21 = .ok (.aload_n 0, 1) by decide +kernel))),
  List.forall_mem_cons.mpr ⟨(xOK_pure (xs_iconst (n := (-1)) (show decode cX6_init 22 = .ok (.iconst (-1), 1) by decide +kernel) (by decide))),
  List.forall_mem_cons.mpr ⟨(xs_putf (k := 16) xcl_6 (by decide) rfl (show decode cX6_init 23 = .ok (.putfield 21, 3) by decide +kernel) xw_641),
  List.forall_mem_cons.mpr ⟨(xOK_pure (xs_aload_n (k := 0) rfl (show decode cX6_init 26 = .ok (.aload_n 0, 1) by decide +kernel))),
  List.forall_mem_cons.mpr ⟨(xOK_pure (xs_iconst (n := (-1)) (show decode cX6_init 27 = .ok (.iconst (-1), 1) by decide +kernel) (by decide))),
  List.forall_mem_cons.mpr ⟨(xs_putf (k := 17) xcl_6 (by decide) rfl (show decode cX6_init 28 = .ok (.putfield 24, 3) by decide +kernel) xw_644),
  List.forall_mem_cons.mpr ⟨(xOK_pure (xs_aload_n (k := 0) rfl (show decode cX6_init 31 = .ok (.aload_n 0, 1) by decide +kernel))),
  List.forall_mem_cons.mpr ⟨(xOK_pure (xs_bipush (n := 8) (show decode cX6_init 32 = .ok (.bipush 8, 2) by decide +kernel) (by decide))),
  List.forall_mem_cons.mpr ⟨(xs_newa (t := 0) (ty := .int) rfl rfl (fun _ _ => rfl) (by decide) (show decode cX6_init 34 = .ok (.newarray .int, 2) by decide +kernel) xw_209),
  (fun _ h => absurd h List.not_mem_nil)⟩⟩⟩⟩⟩⟩⟩⟩⟩⟩⟩⟩⟩⟩⟩⟩⟩⟩⟩⟩
def pX6_init_1 (ev : xEv) : List (Nat × xEn) := [(36, .inl (xo_putf 6 19 (.array .int))), (39, .inl (xop (xf_aload 0 1))), (40, .inl (xop (xf_iload 1 1))), (41, .inl (xo_putf 6 8 .int)), (44, .inl (xop (xf_aload 0 1))), (45, .inl (xop (xf_iload 2 1))), (46, .inl (xo_putf 6 0 .int)), (49, .inl (xop (xf_aload 0 1))), (50, .inl (xop (xf_iload 3 1))), (51, .inl (xo_putf 6 1 .int)), (54, .inl (xop (xf_aload 0 1))), (55, .inl (xop (xf_iload 4 2))), (57, .inl (xo_putf 6 2 .int)), (60, .inl (xop (xf_aload 0 1))), (61, .inl (xop (xf_iload 5 2))), (63, .inl (xo_putf 6 3 .int)), (66, .inl (xop (xf_aload 0 1))), (67, .inl (xop (xf_iload 6 2))), (69, .inl (xo_putf 6 4 .boolean)), (72, .inr (.inr 0))]
set_option maxRecDepth 20000 in
theorem okpX6_init_1 (ev : xEv) : ∀ q ∈ pX6_init_1 ev, xEnOK ev xmi yX6_init.cls yX6_init.name cX6_init 7 none q :=
  List.forall_mem_cons.mpr ⟨(xs_putF (k := 19) xcl_6 (by decide) rfl rfl rfl (show decode cX6_init 36 = .ok (.putfield 27, 3) by decide +kernel) xw_649),
  List.forall_mem_cons.mpr ⟨(xOK_pure (xs_aload_n (k := 0) rfl (show decode cX6_init 39 = .ok (.aload_n 0, 1) by decide +kernel))),
  List.forall_mem_cons.mpr ⟨(xOK_pure (xs_iload_n (k := 1) rfl (show decode cX6_init 40 = .ok (.iload_n 1, 1) by decide +kernel))),
  List.forall_mem_cons.mpr ⟨(xs_putf (k := 8) xcl_6 (by decide) rfl (show decode cX6_init 41 = .ok (.putfield 31, 3) by decide +kernel) xw_614),
  List.forall_mem_cons.mpr ⟨(xOK_pure (xs_aload_n (k := 0) rfl (show decode cX6_init 44 = .ok (.aload_n 0, 1) by decide +kernel))),
  List.forall_mem_cons.mpr ⟨(xOK_pure (xs_iload_n (k := 2) rfl (show decode cX6_init 45 = .ok (.iload_n 2, 1) by decide +kernel))),
  List.forall_mem_cons.mpr ⟨(xs_putF (k := 0) xcl_6 (by decide) rfl rfl rfl (show decode cX6_init 46 = .ok (.putfield 34, 3) by decide +kernel) xw_593),
  List.forall_mem_cons.mpr ⟨(xOK_pure (xs_aload_n (k := 0) rfl (show decode cX6_init 49 = .ok (.aload_n 0, 1) by decide +kernel))),
  List.forall_mem_cons.mpr ⟨(xOK_pure (xs_iload_n (k := 3) rfl (show decode cX6_init 50 = .ok (.iload_n 3, 1) by decide +kernel))),
  List.forall_mem_cons.mpr ⟨(xs_putF (k := 1) xcl_6 (by decide) rfl rfl rfl (show decode cX6_init 51 = .ok (.putfield 37, 3) by decide +kernel) xw_595),
  List.forall_mem_cons.mpr ⟨(xOK_pure (xs_aload_n (k := 0) rfl (show decode cX6_init 54 = .ok (.aload_n 0, 1) by decide +kernel))),
  List.forall_mem_cons.mpr ⟨(xOK_pure (xs_iload (show decode cX6_init 55 = .ok (.iload 4, 2) by decide +kernel))),
  List.forall_mem_cons.mpr ⟨(xs_putF (k := 2) xcl_6 (by decide) rfl rfl rfl (show decode cX6_init 57 = .ok (.putfield 40, 3) by decide +kernel) xw_597),
  List.forall_mem_cons.mpr ⟨(xOK_pure (xs_aload_n (k := 0) rfl (show decode cX6_init 60 = .ok (.aload_n 0, 1) by decide +kernel))),
  List.forall_mem_cons.mpr ⟨(xOK_pure (xs_iload (show decode cX6_init 61 = .ok (.iload 5, 2) by decide +kernel))),
  List.forall_mem_cons.mpr ⟨(xs_putF (k := 3) xcl_6 (by decide) rfl rfl rfl (show decode cX6_init 63 = .ok (.putfield 43, 3) by decide +kernel) xw_599),
  List.forall_mem_cons.mpr ⟨(xOK_pure (xs_aload_n (k := 0) rfl (show decode cX6_init 66 = .ok (.aload_n 0, 1) by decide +kernel))),
  List.forall_mem_cons.mpr ⟨(xOK_pure (xs_iload (show decode cX6_init 67 = .ok (.iload 6, 2) by decide +kernel))),
  List.forall_mem_cons.mpr ⟨(xs_putF (k := 4) xcl_6 (by decide) rfl rfl rfl (show decode cX6_init 69 = .ok (.putfield 46, 3) by decide +kernel) xw_601),
  List.forall_mem_cons.mpr ⟨(Or.inl ⟨rfl, (show decode cX6_init 72 = .ok (.return_, 1) by decide +kernel), rfl⟩),
  (fun _ h => absurd h List.not_mem_nil)⟩⟩⟩⟩⟩⟩⟩⟩⟩⟩⟩⟩⟩⟩⟩⟩⟩⟩⟩⟩
def pX6_init (ev : xEv) : List (Nat × xEn) := pX6_init_0 ev ++ (pX6_init_1 ev)
theorem okpX6_init (ev : xEv) : ∀ q ∈ pX6_init ev, xEnOK ev xmi yX6_init.cls yX6_init.name cX6_init 7 none q := List.forall_mem_append.mpr ⟨okpX6_init_0 ev, okpX6_init_1 ev⟩
theorem omX6_init (ev : xEv) : xMethOK ev xmi yX6_init.cls yX6_init.name 68 (pX6_init ev) := xMethOK.of mi_68 (by decide +kernel) (okpX6_init ev)
def pX6_isAloft (ev : xEv) : List (Nat × xEn) := [(0, .inl (xop (xf_aload 0 1))), (1, .inl (xop (xf_getf 6 8))), (4, .inl (xop (xf_push (.int (-1)) 1))), (5, .inl (xop (xf_icmp_ne 19))), (8, .inl (xop (xf_aload 0 1))), (9, .inl (xop (xf_getf 6 12))), (12, .inl (xop (xf_if_ne 19))), (15, .inl (xop (xf_push (.int 1) 1))), (16, .inl (xop (xf_goto 20))), (19, .inl (xop (xf_push (.int 0) 1))), (20, .inr (.inr 4))]
set_option maxRecDepth 20000 in
theorem okpX6_isAloft (ev : xEv) : ∀ q ∈ pX6_isAloft ev, xEnOK ev xmi yX6_isAloft.cls yX6_isAloft.name cX6_isAloft 1 (some .boolean) q :=
  List.forall_mem_cons.mpr ⟨(xOK_pure (xs_aload_n (k := 0) rfl (show decode cX6_isAloft 0 = .ok (.aload_n 0, 1) by decide +kernel))),
  List.forall_mem_cons.mpr ⟨(xOK_pure (xs_getf xcl_6 (by decide) (show decode cX6_isAloft 1 = .ok (.getfield 31, 3) by decide +kernel) xw_614)),
  List.forall_mem_cons.mpr ⟨(xOK_pure (xs_iconst (n := (-1)) (show decode cX6_isAloft 4 = .ok (.iconst (-1), 1) by decide +kernel) (by decide))),
  List.forall_mem_cons.mpr ⟨(xOK_pure (xs_icmp_ne (show decode cX6_isAloft 5 = .ok (.if_icmp .ne 14, 3) by decide +kernel) (by decide))),
  List.forall_mem_cons.mpr ⟨(xOK_pure (xs_aload_n (k := 0) rfl (show decode cX6_isAloft 8 = .ok (.aload_n 0, 1) by decide +kernel))),
  List.forall_mem_cons.mpr ⟨(xOK_pure (xs_getf xcl_6 (by decide) (show decode cX6_isAloft 9 = .ok (.getfield 50, 3) by decide +kernel) xw_627)),
  List.forall_mem_cons.mpr ⟨(xOK_pure (xs_if_ne (show decode cX6_isAloft 12 = .ok (.ifCond .ne 7, 3) by decide +kernel) (by decide))),
  List.forall_mem_cons.mpr ⟨(xOK_pure (xs_iconst (n := 1) (show decode cX6_isAloft 15 = .ok (.iconst 1, 1) by decide +kernel) (by decide))),
  List.forall_mem_cons.mpr ⟨(xOK_pure (xs_goto (show decode cX6_isAloft 16 = .ok (.goto 4, 3) by decide +kernel) (by decide))),
  List.forall_mem_cons.mpr ⟨(xOK_pure (xs_iconst (n := 0) (show decode cX6_isAloft 19 = .ok (.iconst 0, 1) by decide +kernel) (by decide))),
  List.forall_mem_cons.mpr ⟨(Or.inr (Or.inr (Or.inr (Or.inr (Or.inl ⟨rfl, (show decode cX6_isAloft 20 = .ok (.ireturn, 1) by decide +kernel), rfl⟩))))),
  (fun _ h => absurd h List.not_mem_nil)⟩⟩⟩⟩⟩⟩⟩⟩⟩⟩⟩
theorem omX6_isAloft (ev : xEv) : xMethOK ev xmi yX6_isAloft.cls yX6_isAloft.name 69 (pX6_isAloft ev) := xMethOK.of mi_69 (by decide +kernel) (okpX6_isAloft ev)
def pX6_takeOff_0 (ev : xEv) : List (Nat × xEn) := [(0, .inl (xop (xf_aload 0 1))), (1, .inl (xop (xf_aload 0 1))), (2, .inl (xop (xf_getf 6 8))), (5, .inl (xop (xf_aload 3 1))), (6, .inl (xop (xf_getf 3 0))), (9, .inl (xop (xf_icmp_ne 16))), (12, .inl (xop (xf_push (.int 1) 1))), (13, .inl (xop (xf_goto 17))), (16, .inl (xop (xf_push (.int 0) 1))), (17, .inl (xo_putf 6 11 .boolean)), (20, .inl (xop (xf_aload 0 1))), (21, .inl (xop (xf_aload 2 1))), (22, .inl (xop (xf_getf 1 2))), (25, .inl (xo_putf 6 9 .int)), (28, .inl (xop (xf_aload 0 1))), (29, .inl (xop (xf_aload 0 1))), (30, .inl (xop (xf_getf 6 11))), (33, .inl (xop (xf_if_eq 40))), (36, .inl (xop (xf_push (.int 0) 1))), (37, .inl (xop (xf_goto 44)))]
set_option maxRecDepth 20000 in
theorem okpX6_takeOff_0 (ev : xEv) : ∀ q ∈ pX6_takeOff_0 ev, xEnOK ev xmi yX6_takeOff.cls yX6_takeOff.name cX6_takeOff 4 none q :=
  List.forall_mem_cons.mpr ⟨(xOK_pure (xs_aload_n (k := 0) rfl (show decode cX6_takeOff 0 = .ok (.aload_n 0, 1) by decide +kernel))),
  List.forall_mem_cons.mpr ⟨(xOK_pure (xs_aload_n (k := 0) rfl (show decode cX6_takeOff 1 = .ok (.aload_n 0, 1) by decide +kernel))),
  List.forall_mem_cons.mpr ⟨(xOK_pure (xs_getf xcl_6 (by decide) (show decode cX6_takeOff 2 = .ok (.getfield 31, 3) by decide +kernel) xw_614)),
  List.forall_mem_cons.mpr ⟨(xOK_pure (xs_aload_n (k := 3) rfl (show decode cX6_takeOff 5 = .ok (.aload_n 3, 1) by decide +kernel))),
  List.forall_mem_cons.mpr ⟨(xOK_pure (xs_getf xcl_3 (by decide) (show decode cX6_takeOff 6 = .ok (.getfield 53, 3) by decide +kernel) xw_507)),
  List.forall_mem_cons.mpr ⟨(xOK_pure (xs_icmp_ne (show decode cX6_takeOff 9 = .ok (.if_icmp .ne 7, 3) by decide +kernel) (by decide))),
  List.forall_mem_cons.mpr ⟨(xOK_pure (xs_iconst (n := 1) (show decode cX6_takeOff 12 = .ok (.iconst 1, 1) by decide +kernel) (by decide))),
  List.forall_mem_cons.mpr ⟨(xOK_pure (xs_goto (show decode cX6_takeOff 13 = .ok (.goto 4, 3) by decide +kernel) (by decide))),
  List.forall_mem_cons.mpr ⟨(xOK_pure (xs_iconst (n := 0) (show decode cX6_takeOff 16 = .ok (.iconst 0, 1) by decide +kernel) (by decide))),
  List.forall_mem_cons.mpr ⟨(xs_putf (k := 11) xcl_6 (by decide) rfl (show decode cX6_takeOff 17 = .ok (.putfield 58, 3) by decide +kernel) xw_624),
  List.forall_mem_cons.mpr ⟨(xOK_pure (xs_aload_n (k := 0) rfl (show decode cX6_takeOff 20 = .ok (.aload_n 0, 1) by decide +kernel))),
  List.forall_mem_cons.mpr ⟨(xOK_pure (xs_aload_n (k := 2) rfl (show decode cX6_takeOff 21 = .ok (.aload_n 2, 1) by decide +kernel))),
  List.forall_mem_cons.mpr ⟨(xOK_pure (xs_getf xcl_1 (by decide) (show decode cX6_takeOff 22 = .ok (.getfield 61, 3) by decide +kernel) xw_1053)),
  List.forall_mem_cons.mpr ⟨(xs_putf (k := 9) xcl_6 (by decide) rfl (show decode cX6_takeOff 25 = .ok (.putfield 15, 3) by decide +kernel) xw_618),
  List.forall_mem_cons.mpr ⟨(xOK_pure (xs_aload_n (k := 0) rfl (show decode cX6_takeOff 28 = .ok (.aload_n 0, 1) by decide +kernel))),
  List.forall_mem_cons.mpr ⟨(xOK_pure (xs_aload_n (k := 0) rfl (show decode cX6_takeOff 29 = .ok (.aload_n 0, 1) by decide +kernel))),
  List.forall_mem_cons.mpr ⟨(xOK_pure (xs_getf xcl_6 (by decide) (show decode cX6_takeOff 30 = .ok (.getfield 58, 3) by decide +kernel) xw_624)),
  List.forall_mem_cons.mpr ⟨(xOK_pure (xs_if_eq (show decode cX6_takeOff 33 = .ok (.ifCond .eq 7, 3) by decide +kernel) (by decide))),
  List.forall_mem_cons.mpr ⟨(xOK_pure (xs_iconst (n := 0) (show decode cX6_takeOff 36 = .ok (.iconst 0, 1) by decide +kernel) (by decide))),
  List.forall_mem_cons.mpr ⟨(xOK_pure (xs_goto (show decode cX6_takeOff 37 = .ok (.goto 7, 3) by decide +kernel) (by decide))),
  (fun _ h => absurd h List.not_mem_nil)⟩⟩⟩⟩⟩⟩⟩⟩⟩⟩⟩⟩⟩⟩⟩⟩⟩⟩⟩⟩
def pX6_takeOff_1 (ev : xEv) : List (Nat × xEn) := [(40, .inl (xop (xf_aload 3 1))), (41, .inl (xop (xf_getf 3 2))), (44, .inl (xo_putf 6 10 .int)), (47, .inl (xop (xf_aload 0 1))), (48, .inl (xop (xf_aload 0 1))), (49, .inl (xop (xf_getf 6 3))), (52, .inl (xo_putf 6 15 .int)), (55, .inl (xop (xf_aload 0 1))), (56, .inl (xop (xf_aload 2 1))), (57, .inl (xop (xf_getf 1 1))), (60, .inl (xo_putf 6 16 .int)), (63, .inl (xop (xf_aload 0 1))), (64, .inl (xop (xf_iload 1 1))), (65, .inl (xo_putf 6 17 .int)), (68, .inl (xop (xf_aload 0 1))), (69, .inl (xop (xf_push (.int (-1)) 1))), (70, .inl (xo_putf 6 8 .int)), (73, .inr (.inr 0))]
set_option maxRecDepth 20000 in
theorem okpX6_takeOff_1 (ev : xEv) : ∀ q ∈ pX6_takeOff_1 ev, xEnOK ev xmi yX6_takeOff.cls yX6_takeOff.name cX6_takeOff 4 none q :=
  List.forall_mem_cons.mpr ⟨(xOK_pure (xs_aload_n (k := 3) rfl (show decode cX6_takeOff 40 = .ok (.aload_n 3, 1) by decide +kernel))),
  List.forall_mem_cons.mpr ⟨(xOK_pure (xs_getf xcl_3 (by decide) (show decode cX6_takeOff 41 = .ok (.getfield 64, 3) by decide +kernel) xw_512)),
  List.forall_mem_cons.mpr ⟨(xs_putf (k := 10) xcl_6 (by decide) rfl (show decode cX6_takeOff 44 = .ok (.putfield 18, 3) by decide +kernel) xw_621),
  List.forall_mem_cons.mpr ⟨(xOK_pure (xs_aload_n (k := 0) rfl (show decode cX6_takeOff 47 = .ok (.aload_n 0, 1) by decide +kernel))),
  List.forall_mem_cons.mpr ⟨(xOK_pure (xs_aload_n (k := 0) rfl (show decode cX6_takeOff 48 = .ok (.aload_n 0, 1) by decide +kernel))),
  List.forall_mem_cons.mpr ⟨(xOK_pure (xs_getf xcl_6 (by decide) (show decode cX6_takeOff 49 = .ok (.getfield 43, 3) by decide +kernel) xw_599)),
  List.forall_mem_cons.mpr ⟨(xs_putf (k := 15) xcl_6 (by decide) rfl (show decode cX6_takeOff 52 = .ok (.putfield 67, 3) by decide +kernel) xw_638),
  List.forall_mem_cons.mpr ⟨(xOK_pure (xs_aload_n (k := 0) rfl (show decode cX6_takeOff 55 = .ok (.aload_n 0, 1) by decide +kernel))),
  List.forall_mem_cons.mpr ⟨(xOK_pure (xs_aload_n (k := 2) rfl (show decode cX6_takeOff 56 = .ok (.aload_n 2, 1) by decide +kernel))),
  List.forall_mem_cons.mpr ⟨(xOK_pure (xs_getf xcl_1 (by decide) (show decode cX6_takeOff 57 = .ok (.getfield 70, 3) by decide +kernel) xw_1050)),
  List.forall_mem_cons.mpr ⟨(xs_putf (k := 16) xcl_6 (by decide) rfl (show decode cX6_takeOff 60 = .ok (.putfield 21, 3) by decide +kernel) xw_641),
  List.forall_mem_cons.mpr ⟨(xOK_pure (xs_aload_n (k := 0) rfl (show decode cX6_takeOff 63 = .ok (.aload_n 0, 1) by decide +kernel))),
  List.forall_mem_cons.mpr ⟨(xOK_pure (xs_iload_n (k := 1) rfl (show decode cX6_takeOff 64 = .ok (.iload_n 1, 1) by decide +kernel))),
  List.forall_mem_cons.mpr ⟨(xs_putf (k := 17) xcl_6 (by decide) rfl (show decode cX6_takeOff 65 = .ok (.putfield 24, 3) by decide +kernel) xw_644),
  List.forall_mem_cons.mpr ⟨(xOK_pure (xs_aload_n (k := 0) rfl (show decode cX6_takeOff 68 = .ok (.aload_n 0, 1) by decide +kernel))),
  List.forall_mem_cons.mpr ⟨(xOK_pure (xs_iconst (n := (-1)) (show decode cX6_takeOff 69 = .ok (.iconst (-1), 1) by decide +kernel) (by decide))),
  List.forall_mem_cons.mpr ⟨(xs_putf (k := 8) xcl_6 (by decide) rfl (show decode cX6_takeOff 70 = .ok (.putfield 31, 3) by decide +kernel) xw_614),
  List.forall_mem_cons.mpr ⟨(Or.inl ⟨rfl, (show decode cX6_takeOff 73 = .ok (.return_, 1) by decide +kernel), rfl⟩),
  (fun _ h => absurd h List.not_mem_nil)⟩⟩⟩⟩⟩⟩⟩⟩⟩⟩⟩⟩⟩⟩⟩⟩⟩⟩
def pX6_takeOff (ev : xEv) : List (Nat × xEn) := pX6_takeOff_0 ev ++ (pX6_takeOff_1 ev)
theorem okpX6_takeOff (ev : xEv) : ∀ q ∈ pX6_takeOff ev, xEnOK ev xmi yX6_takeOff.cls yX6_takeOff.name cX6_takeOff 4 none q := List.forall_mem_append.mpr ⟨okpX6_takeOff_0 ev, okpX6_takeOff_1 ev⟩
theorem omX6_takeOff (ev : xEv) : xMethOK ev xmi yX6_takeOff.cls yX6_takeOff.name 70 (pX6_takeOff ev) := xMethOK.of mi_70 (by decide +kernel) (okpX6_takeOff ev)
def pX6_putAt (ev : xEv) : List (Nat × xEn) := [(0, .inl (xop (xf_aload 0 1))), (1, .inl (xop (xf_iload 1 1))), (2, .inl (xo_putf 6 8 .int)), (5, .inl (xop (xf_aload 0 1))), (6, .inl (xop (xf_push (.int (-1)) 1))), (7, .inl (xo_putf 6 9 .int)), (10, .inl (xop (xf_aload 0 1))), (11, .inl (xop (xf_push (.int (-1)) 1))), (12, .inl (xo_putf 6 10 .int)), (15, .inl (xop (xf_aload 0 1))), (16, .inl (xop (xf_push (.int 0) 1))), (17, .inl (xo_putf 6 12 .boolean)), (20, .inl (xop (xf_aload 0 1))), (21, .inl (xop (xf_push (.int 0) 1))), (22, .inl (xo_putf 6 15 .int)), (25, .inl (xop (xf_aload 0 1))), (26, .inl (xop (xf_push (.int (-1)) 1))), (27, .inl (xo_putf 6 16 .int)), (30, .inr (.inr 0))]
set_option maxRecDepth 20000 in
theorem okpX6_putAt (ev : xEv) : ∀ q ∈ pX6_putAt ev, xEnOK ev xmi yX6_putAt.cls yX6_putAt.name cX6_putAt 2 none q :=
  List.forall_mem_cons.mpr ⟨(xOK_pure (xs_aload_n (k := 0) rfl (show decode cX6_putAt 0 = .ok (.aload_n 0, 1) by decide +kernel))),
  List.forall_mem_cons.mpr ⟨(xOK_pure (xs_iload_n (k := 1) rfl (show decode cX6_putAt 1 = .ok (.iload_n 1, 1) by decide +kernel))),
  List.forall_mem_cons.mpr ⟨(xs_putf (k := 8) xcl_6 (by decide) rfl (show decode cX6_putAt 2 = .ok (.putfield 31, 3) by decide +kernel) xw_614),
  List.forall_mem_cons.mpr ⟨(xOK_pure (xs_aload_n (k := 0) rfl (show decode cX6_putAt 5 = .ok (.aload_n 0, 1) by decide +kernel))),
  List.forall_mem_cons.mpr ⟨(xOK_pure (xs_iconst (n := (-1)) (show decode cX6_putAt 6 = .ok (.iconst (-1), 1) by decide +kernel) (by decide))),
  List.forall_mem_cons.mpr ⟨(xs_putf (k := 9) xcl_6 (by decide) rfl (show decode cX6_putAt 7 = .ok (.putfield 15, 3) by decide +kernel) xw_618),
  List.forall_mem_cons.mpr ⟨(xOK_pure (xs_aload_n (k := 0) rfl (show decode cX6_putAt 10 = .ok (.aload_n 0, 1) by decide +kernel))),
  List.forall_mem_cons.mpr ⟨(xOK_pure (xs_iconst (n := (-1)) (show decode cX6_putAt 11 = .ok (.iconst (-1), 1) by decide +kernel) (by decide))),
  List.forall_mem_cons.mpr ⟨(xs_putf (k := 10) xcl_6 (by decide) rfl (show decode cX6_putAt 12 = .ok (.putfield 18, 3) by decide +kernel) xw_621),
  List.forall_mem_cons.mpr ⟨(xOK_pure (xs_aload_n (k := 0) rfl (show decode cX6_putAt 15 = .ok (.aload_n 0, 1) by decide +kernel))),
  List.forall_mem_cons.mpr ⟨(xOK_pure (xs_iconst (n := 0) (show decode cX6_putAt 16 = .ok (.iconst 0, 1) by decide +kernel) (by decide))),
  List.forall_mem_cons.mpr ⟨(xs_putf (k := 12) xcl_6 (by decide) rfl (show decode cX6_putAt 17 = .ok (.putfield 50, 3) by decide +kernel) xw_627),
  List.forall_mem_cons.mpr ⟨(xOK_pure (xs_aload_n (k := 0) rfl (show decode cX6_putAt 20 = .ok (.aload_n 0, 1) by decide +kernel))),
  List.forall_mem_cons.mpr ⟨(xOK_pure (xs_iconst (n := 0) (show decode cX6_putAt 21 = .ok (.iconst 0, 1) by decide +kernel) (by decide))),
  List.forall_mem_cons.mpr ⟨(xs_putf (k := 15) xcl_6 (by decide) rfl (show decode cX6_putAt 22 = .ok (.putfield 67, 3) by decide +kernel) xw_638),
  List.forall_mem_cons.mpr ⟨(xOK_pure (xs_aload_n (k := 0) rfl (show decode cX6_putAt 25 = .ok (.aload_n 0, 1) by decide +kernel))),
  List.forall_mem_cons.mpr ⟨(xOK_pure (xs_iconst (n := (-1)) (show decode cX6_putAt 26 = .ok (.iconst (-1), 1) by decide +kernel) (by decide))),
  List.forall_mem_cons.mpr ⟨(xs_putf (k := 16) xcl_6 (by decide) rfl (show decode cX6_putAt 27 = .ok (.putfield 21, 3) by decide +kernel) xw_641),
  List.forall_mem_cons.mpr ⟨(Or.inl ⟨rfl, (show decode cX6_putAt 30 = .ok (.return_, 1) by decide +kernel), rfl⟩),
  (fun _ h => absurd h List.not_mem_nil)⟩⟩⟩⟩⟩⟩⟩⟩⟩⟩⟩⟩⟩⟩⟩⟩⟩⟩⟩
theorem omX6_putAt (ev : xEv) : xMethOK ev xmi yX6_putAt.cls yX6_putAt.name 71 (pX6_putAt ev) := xMethOK.of mi_71 (by decide +kernel) (okpX6_putAt ev)
def pX6_addLook_0 (ev : xEv) : List (Nat × xEn) := [(0, .inl (xop (xf_aload 0 1))), (1, .inl (xop (xf_getf 6 19))), (4, .inl (xop (xf_push (.int 2) 1))), (5, .inl (xop (xf_aload 0 1))), (6, .inl (xop (xf_getf 6 18))), (9, .inl (xop (xf_bin (fun x y => x * y)))), (10, .inl (xop (xf_iload 1 1))), (11, .inl (xo_ast (ev.1 0) (fun x => x))), (12, .inl (xop (xf_aload 0 1))), (13, .inl (xop (xf_getf 6 19))), (16, .inl (xop (xf_push (.int 2) 1))), (17, .inl (xop (xf_aload 0 1))), (18, .inl (xop (xf_getf 6 18))), (21, .inl (xop (xf_bin (fun x y => x * y)))), (22, .inl (xop (xf_push (.int 1) 1))), (23, .inl (xop (xf_bin (fun x y => x + y)))), (24, .inl (xop (xf_iload 2 1))), (25, .inl (xo_ast (ev.1 0) (fun x => x))), (26, .inl (xop (xf_aload 0 1))), (27, .inl (xop xf_dup))]
set_option maxRecDepth 20000 in
theorem okpX6_addLook_0 (ev : xEv) : ∀ q ∈ pX6_addLook_0 ev, xEnOK ev xmi yX6_addLook.cls yX6_addLook.name cX6_addLook 3 (some .int) q :=
  List.forall_mem_cons.mpr ⟨(xOK_pure (xs_aload_n (k := 0) rfl (show decode cX6_addLook 0 = .ok (.aload_n 0, 1) by decide +kernel))),
  List.forall_mem_cons.mpr ⟨(xOK_pure (xs_getf xcl_6 (by decide) (show decode cX6_addLook 1 = .ok (.getfield 27, 3) by decide +kernel) xw_649)),
  List.forall_mem_cons.mpr ⟨(xOK_pure (xs_iconst (n := 2) (show decode cX6_addLook 4 = .ok (.iconst 2, 1) by decide +kernel) (by decide))),
  List.forall_mem_cons.mpr ⟨(xOK_pure (xs_aload_n (k := 0) rfl (show decode cX6_addLook 5 = .ok (.aload_n 0, 1) by decide +kernel))),
  List.forall_mem_cons.mpr ⟨(xOK_pure (xs_getf xcl_6 (by decide) (show decode cX6_addLook 6 = .ok (.getfield 71, 3) by decide +kernel) xw_647)),
  List.forall_mem_cons.mpr ⟨(xOK_pure (xs_imul (show decode cX6_addLook 9 = .ok (.imul, 1) by decide +kernel))),
  List.forall_mem_cons.mpr ⟨(xOK_pure (xs_iload_n (k := 1) rfl (show decode cX6_addLook 10 = .ok (.iload_n 1, 1) by decide +kernel))),
  List.forall_mem_cons.mpr ⟨(xs_iast (show decode cX6_addLook 11 = .ok (.iastore, 1) by decide +kernel)),
  List.forall_mem_cons.mpr ⟨(xOK_pure (xs_aload_n (k := 0) rfl (show decode cX6_addLook 12 = .ok (.aload_n 0, 1) by decide +kernel))),
  List.forall_mem_cons.mpr ⟨(xOK_pure (xs_getf xcl_6 (by decide) (show decode cX6_addLook 13 = .ok (.getfield 27, 3) by decide +kernel) xw_649)),
  List.forall_mem_cons.mpr ⟨(xOK_pure (xs_iconst (n := 2) (show decode cX6_addLook 16 = .ok (.iconst 2, 1) by decide +kernel) (by decide))),
  List.forall_mem_cons.mpr ⟨(xOK_pure (xs_aload_n (k := 0) rfl (show decode cX6_addLook 17 = .ok (.aload_n 0, 1) by decide +kernel))),
  List.forall_mem_cons.mpr ⟨(xOK_pure (xs_getf xcl_6 (by decide) (show decode cX6_addLook 18 = .ok (.getfield 71, 3) by decide +kernel) xw_647)),
  List.forall_mem_cons.mpr ⟨(xOK_pure (xs_imul (show decode cX6_addLook 21 = .ok (.imul, 1) by decide +kernel))),
  List.forall_mem_cons.mpr ⟨(xOK_pure (xs_iconst (n := 1) (show decode cX6_addLook 22 = .ok (.iconst 1, 1) by decide +kernel) (by decide))),
  List.forall_mem_cons.mpr ⟨(xOK_pure (xs_iadd (show decode cX6_addLook 23 = .ok (.iadd, 1) by decide +kernel))),
  List.forall_mem_cons.mpr ⟨(xOK_pure (xs_iload_n (k := 2) rfl (show decode cX6_addLook 24 = .ok (.iload_n 2, 1) by decide +kernel))),
  List.forall_mem_cons.mpr ⟨(xs_iast (show decode cX6_addLook 25 = .ok (.iastore, 1) by decide +kernel)),
  List.forall_mem_cons.mpr ⟨(xOK_pure (xs_aload_n (k := 0) rfl (show decode cX6_addLook 26 = .ok (.aload_n 0, 1) by decide +kernel))),
  List.forall_mem_cons.mpr ⟨(xOK_pure (xs_dup (show decode cX6_addLook 27 = .ok (.dup, 1) by decide +kernel))),
  (fun _ h => absurd h List.not_mem_nil)⟩⟩⟩⟩⟩⟩⟩⟩⟩⟩⟩⟩⟩⟩⟩⟩⟩⟩⟩⟩
def pX6_addLook_1 (ev : xEv) : List (Nat × xEn) := [(28, .inl (xop (xf_getf 6 18))), (31, .inl (xop (xf_push (.int 1) 1))), (32, .inl (xop (xf_bin (fun x y => x + y)))), (33, .inl (xo_putf 6 18 .int)), (36, .inl (xop (xf_aload 0 1))), (37, .inl (xop (xf_getf 6 18))), (40, .inr (.inr 1))]
set_option maxRecDepth 20000 in
theorem okpX6_addLook_1 (ev : xEv) : ∀ q ∈ pX6_addLook_1 ev, xEnOK ev xmi yX6_addLook.cls yX6_addLook.name cX6_addLook 3 (some .int) q :=
  List.forall_mem_cons.mpr ⟨(xOK_pure (xs_getf xcl_6 (by decide) (show decode cX6_addLook 28 = .ok (.getfield 71, 3) by decide +kernel) xw_647)),
  List.forall_mem_cons.mpr ⟨(xOK_pure (xs_iconst (n := 1) (show decode cX6_addLook 31 = .ok (.iconst 1, 1) by decide +kernel) (by decide))),
  List.forall_mem_cons.mpr ⟨(xOK_pure (xs_iadd (show decode cX6_addLook 32 = .ok (.iadd, 1) by decide +kernel))),
  List.forall_mem_cons.mpr ⟨(xs_putf (k := 18) xcl_6 (by decide) rfl (show decode cX6_addLook 33 = .ok (.putfield 71, 3) by decide +kernel) xw_647),
  List.forall_mem_cons.mpr ⟨(xOK_pure (xs_aload_n (k := 0) rfl (show decode cX6_addLook 36 = .ok (.aload_n 0, 1) by decide +kernel))),
  List.forall_mem_cons.mpr ⟨(xOK_pure (xs_getf xcl_6 (by decide) (show decode cX6_addLook 37 = .ok (.getfield 71, 3) by decide +kernel) xw_647)),
  List.forall_mem_cons.mpr ⟨(Or.inr (Or.inl ⟨rfl, (show decode cX6_addLook 40 = .ok (.ireturn, 1) by decide +kernel), rfl⟩)),
  (fun _ h => absurd h List.not_mem_nil)⟩⟩⟩⟩⟩⟩⟩
def pX6_addLook (ev : xEv) : List (Nat × xEn) := pX6_addLook_0 ev ++ (pX6_addLook_1 ev)
theorem okpX6_addLook (ev : xEv) : ∀ q ∈ pX6_addLook ev, xEnOK ev xmi yX6_addLook.cls yX6_addLook.name cX6_addLook 3 (some .int) q := List.forall_mem_append.mpr ⟨okpX6_addLook_0 ev, okpX6_addLook_1 ev⟩
theorem omX6_addLook (ev : xEv) : xMethOK ev xmi yX6_addLook.cls yX6_addLook.name 72 (pX6_addLook ev) := xMethOK.of mi_72 (by decide +kernel) (okpX6_addLook ev)
def pX6_weigh_0 (ev : xEv) : List (Nat × xEn) := [(0, .inl (xop (xf_aload 1 1))), (1, .inr (.inl (0, 39, 0, 3))), (4, .inl (xop (xf_aload 3 1))), (5, .inl (xop (xf_alen (ev.1 1)))), (6, .inl (xop (xf_m2 (fun x y => if y < x then y else x)))), (9, .inl (xop (xf_istore 4 2))), (11, .inl (xop (xf_aload 3 1))), (12, .inl (xop (xf_push (.long 0) 1))), (13, .inr (.inl (1, 309, 2, 99))), (16, .inl (xop (xf_push (.int 0) 1))), (17, .inl (xop (xf_istore 5 2))), (19, .inl (xop (xf_push (.int 1) 1))), (20, .inl (xop (xf_istore 6 2))), (22, .inl (xop (xf_iload 6 2))), (24, .inl (xop (xf_aload 0 1))), (25, .inl (xop (xf_getf 6 3))), (28, .inl (xop (xf_icmp_gt 94))), (31, .inl (xop (xf_aload 0 1))), (32, .inl (xop (xf_getf 6 0))), (35, .inl (xop (xf_iload 6 2)))]
set_option maxRecDepth 20000 in
theorem okpX6_weigh_0 (ev : xEv) : ∀ q ∈ pX6_weigh_0 ev, xEnOK ev xmi yX6_weigh.cls yX6_weigh.name cX6_weigh 10 none q :=
  List.forall_mem_cons.mpr ⟨(xOK_pure (xs_aload_n (k := 1) rfl (show decode cX6_weigh 0 = .ok (.aload_n 1, 1) by decide +kernel))),
  List.forall_mem_cons.mpr ⟨(xcm mi_39 ⟨⟨(by decide +kernel), (by decide +kernel), (by decide +kernel)⟩, (by decide), xw_1376, xw_126, Or.inl ⟨rfl, _, _, _, _, (show decode cX6_weigh 1 = .ok (.invokevirtual 74, 3) by decide +kernel), xw_1393, xw_1374, xw_1375, rfl⟩⟩),
  List.forall_mem_cons.mpr ⟨(xOK_pure (xs_aload_n (k := 3) rfl (show decode cX6_weigh 4 = .ok (.aload_n 3, 1) by decide +kernel))),
  List.forall_mem_cons.mpr ⟨(xOK_pure (xs_alen (t := 1) rfl (show decode cX6_weigh 5 = .ok (.arraylength, 1) by decide +kernel))),
  List.forall_mem_cons.mpr ⟨(xOK_pure (xs_mmin (show decode cX6_weigh 6 = .ok (.invokestatic 78, 3) by decide +kernel) xw_1394 xw_541 xw_127 xw_542)),
  List.forall_mem_cons.mpr ⟨(xOK_pure (xs_istore (show decode cX6_weigh 9 = .ok (.istore 4, 2) by decide +kernel) (by decide))),
  List.forall_mem_cons.mpr ⟨(xOK_pure (xs_aload_n (k := 3) rfl (show decode cX6_weigh 11 = .ok (.aload_n 3, 1) by decide +kernel))),
  List.forall_mem_cons.mpr ⟨(xOK_pure (xs_lconst (n := 0) (show decode cX6_weigh 12 = .ok (.lconst 0, 1) by decide +kernel) (by decide))),
  List.forall_mem_cons.mpr ⟨(xcm mi_309 ⟨⟨(by decide +kernel), (by decide +kernel), (by decide +kernel)⟩, (by decide), xw_1397, xw_142, Or.inr (Or.inl ⟨rfl, _, (show decode cX6_weigh 13 = .ok (.invokestatic 84, 3) by decide +kernel), xw_1395, xw_1396⟩)⟩),
  List.forall_mem_cons.mpr ⟨(xOK_pure (xs_iconst (n := 0) (show decode cX6_weigh 16 = .ok (.iconst 0, 1) by decide +kernel) (by decide))),
  List.forall_mem_cons.mpr ⟨(xOK_pure (xs_istore (show decode cX6_weigh 17 = .ok (.istore 5, 2) by decide +kernel) (by decide))),
  List.forall_mem_cons.mpr ⟨(xOK_pure (xs_iconst (n := 1) (show decode cX6_weigh 19 = .ok (.iconst 1, 1) by decide +kernel) (by decide))),
  List.forall_mem_cons.mpr ⟨(xOK_pure (xs_istore (show decode cX6_weigh 20 = .ok (.istore 6, 2) by decide +kernel) (by decide))),
  List.forall_mem_cons.mpr ⟨(xOK_pure (xs_iload (show decode cX6_weigh 22 = .ok (.iload 6, 2) by decide +kernel))),
  List.forall_mem_cons.mpr ⟨(xOK_pure (xs_aload_n (k := 0) rfl (show decode cX6_weigh 24 = .ok (.aload_n 0, 1) by decide +kernel))),
  List.forall_mem_cons.mpr ⟨(xOK_pure (xs_getf xcl_6 (by decide) (show decode cX6_weigh 25 = .ok (.getfield 43, 3) by decide +kernel) xw_599)),
  List.forall_mem_cons.mpr ⟨(xOK_pure (xs_icmp_gt (show decode cX6_weigh 28 = .ok (.if_icmp .gt 66, 3) by decide +kernel) (by decide))),
  List.forall_mem_cons.mpr ⟨(xOK_pure (xs_aload_n (k := 0) rfl (show decode cX6_weigh 31 = .ok (.aload_n 0, 1) by decide +kernel))),
  List.forall_mem_cons.mpr ⟨(xOK_pure (xs_getf xcl_6 (by decide) (show decode cX6_weigh 32 = .ok (.getfield 34, 3) by decide +kernel) xw_593)),
  List.forall_mem_cons.mpr ⟨(xOK_pure (xs_iload (show decode cX6_weigh 35 = .ok (.iload 6, 2) by decide +kernel))),
  (fun _ h => absurd h List.not_mem_nil)⟩⟩⟩⟩⟩⟩⟩⟩⟩⟩⟩⟩⟩⟩⟩⟩⟩⟩⟩⟩
def pX6_weigh_1 (ev : xEv) : List (Nat × xEn) := [(37, .inl (xop (xf_bin (fun x y => x * y)))), (38, .inl (xop (xf_aload 1 1))), (39, .inl (xop (xf_getf 3 2))), (42, .inl (xop (xf_icmp_ge 94))), (45, .inl (xop (xf_aload 1 1))), (46, .inl (xop (xf_iload 2 1))), (47, .inl (xop (xf_if_eq 60))), (50, .inl (xop (xf_aload 0 1))), (51, .inl (xop (xf_getf 6 0))), (54, .inl (xop (xf_iload 6 2))), (56, .inl (xop (xf_bin (fun x y => x * y)))), (57, .inl (xop (xf_goto 72))), (60, .inl (xop (xf_aload 1 1))), (61, .inl (xop (xf_getf 3 2))), (64, .inl (xop (xf_aload 0 1))), (65, .inl (xop (xf_getf 6 0))), (68, .inl (xop (xf_iload 6 2))), (70, .inl (xop (xf_bin (fun x y => x * y)))), (71, .inl (xop (xf_bin (fun x y => x - y)))), (72, .inr (.inl (0, 40, 1, 3)))]
set_option maxRecDepth 20000 in
theorem okpX6_weigh_1 (ev : xEv) : ∀ q ∈ pX6_weigh_1 ev, xEnOK ev xmi yX6_weigh.cls yX6_weigh.name cX6_weigh 10 none q :=
  List.forall_mem_cons.mpr ⟨(xOK_pure (xs_imul (show decode cX6_weigh 37 = .ok (.imul, 1) by decide +kernel))),
  List.forall_mem_cons.mpr ⟨(xOK_pure (xs_aload_n (k := 1) rfl (show decode cX6_weigh 38 = .ok (.aload_n 1, 1) by decide +kernel))),
  List.forall_mem_cons.mpr ⟨(xOK_pure (xs_getf xcl_3 (by decide) (show decode cX6_weigh 39 = .ok (.getfield 64, 3) by decide +kernel) xw_512)),
  List.forall_mem_cons.mpr ⟨(xOK_pure (xs_icmp_ge (show decode cX6_weigh 42 = .ok (.if_icmp .ge 52, 3) by decide +kernel) (by decide))),
  List.forall_mem_cons.mpr ⟨(xOK_pure (xs_aload_n (k := 1) rfl (show decode cX6_weigh 45 = .ok (.aload_n 1, 1) by decide +kernel))),
  List.forall_mem_cons.mpr ⟨(xOK_pure (xs_iload_n (k := 2) rfl (show decode cX6_weigh 46 = .ok (.iload_n 2, 1) by decide +kernel))),
  List.forall_mem_cons.mpr ⟨(xOK_pure (xs_if_eq (show decode cX6_weigh 47 = .ok (.ifCond .eq 13, 3) by decide +kernel) (by decide))),
  List.forall_mem_cons.mpr ⟨(xOK_pure (xs_aload_n (k := 0) rfl (show decode cX6_weigh 50 = .ok (.aload_n 0, 1) by decide +kernel))),
  List.forall_mem_cons.mpr ⟨(xOK_pure (xs_getf xcl_6 (by decide) (show decode cX6_weigh 51 = .ok (.getfield 34, 3) by decide +kernel) xw_593)),
  List.forall_mem_cons.mpr ⟨(xOK_pure (xs_iload (show decode cX6_weigh 54 = .ok (.iload 6, 2) by decide +kernel))),
  List.forall_mem_cons.mpr ⟨(xOK_pure (xs_imul (show decode cX6_weigh 56 = .ok (.imul, 1) by decide +kernel))),
  List.forall_mem_cons.mpr ⟨(xOK_pure (xs_goto (show decode cX6_weigh 57 = .ok (.goto 15, 3) by decide +kernel) (by decide))),
  List.forall_mem_cons.mpr ⟨(xOK_pure (xs_aload_n (k := 1) rfl (show decode cX6_weigh 60 = .ok (.aload_n 1, 1) by decide +kernel))),
  List.forall_mem_cons.mpr ⟨(xOK_pure (xs_getf xcl_3 (by decide) (show decode cX6_weigh 61 = .ok (.getfield 64, 3) by decide +kernel) xw_512)),
  List.forall_mem_cons.mpr ⟨(xOK_pure (xs_aload_n (k := 0) rfl (show decode cX6_weigh 64 = .ok (.aload_n 0, 1) by decide +kernel))),
  List.forall_mem_cons.mpr ⟨(xOK_pure (xs_getf xcl_6 (by decide) (show decode cX6_weigh 65 = .ok (.getfield 34, 3) by decide +kernel) xw_593)),
  List.forall_mem_cons.mpr ⟨(xOK_pure (xs_iload (show decode cX6_weigh 68 = .ok (.iload 6, 2) by decide +kernel))),
  List.forall_mem_cons.mpr ⟨(xOK_pure (xs_imul (show decode cX6_weigh 70 = .ok (.imul, 1) by decide +kernel))),
  List.forall_mem_cons.mpr ⟨(xOK_pure (xs_isub (show decode cX6_weigh 71 = .ok (.isub, 1) by decide +kernel))),
  List.forall_mem_cons.mpr ⟨(xcm mi_40 ⟨⟨(by decide +kernel), (by decide +kernel), (by decide +kernel)⟩, (by decide), xw_1401, xw_126, Or.inl ⟨rfl, _, _, _, _, (show decode cX6_weigh 72 = .ok (.invokevirtual 90, 3) by decide +kernel), xw_1398, xw_1399, xw_1400, rfl⟩⟩),
  (fun _ h => absurd h List.not_mem_nil)⟩⟩⟩⟩⟩⟩⟩⟩⟩⟩⟩⟩⟩⟩⟩⟩⟩⟩⟩⟩
def pX6_weigh_2 (ev : xEv) : List (Nat × xEn) := [(75, .inl (xop (xf_istore 7 2))), (77, .inl (xop (xf_aload 3 1))), (78, .inl (xop (xf_iload 7 2))), (80, .inl (xop xf_dup2)), (81, .inl (xop (xf_lald (ev.1 1)))), (82, .inl (xop (xf_push (.long 1) 1))), (83, .inl (xop (xf_lbin (fun x y => x + y)))), (84, .inl (xo_last (ev.1 1))), (85, .inl (xop (xf_push (.int 1) 1))), (86, .inl (xop (xf_istore 5 2))), (88, .inl (xop (xf_iinc 6 1))), (91, .inl (xop (xf_goto 22))), (94, .inl (xop (xf_push (.int 0) 1))), (95, .inl (xop (xf_istore 6 2))), (97, .inl (xop (xf_iload 6 2))), (99, .inl (xop (xf_iload 4 2))), (101, .inl (xop (xf_icmp_ge 189))), (104, .inl (xop (xf_iload 5 2))), (106, .inl (xop (xf_if_eq 116))), (109, .inl (xop (xf_aload 3 1)))]
set_option maxRecDepth 20000 in
theorem okpX6_weigh_2 (ev : xEv) : ∀ q ∈ pX6_weigh_2 ev, xEnOK ev xmi yX6_weigh.cls yX6_weigh.name cX6_weigh 10 none q :=
  List.forall_mem_cons.mpr ⟨(xOK_pure (xs_istore (show decode cX6_weigh 75 = .ok (.istore 7, 2) by decide +kernel) (by decide))),
  List.forall_mem_cons.mpr ⟨(xOK_pure (xs_aload_n (k := 3) rfl (show decode cX6_weigh 77 = .ok (.aload_n 3, 1) by decide +kernel))),
  List.forall_mem_cons.mpr ⟨(xOK_pure (xs_iload (show decode cX6_weigh 78 = .ok (.iload 7, 2) by decide +kernel))),
  List.forall_mem_cons.mpr ⟨(xOK_pure (xs_dup2 (show decode cX6_weigh 80 = .ok (.dup2, 1) by decide +kernel))),
  List.forall_mem_cons.mpr ⟨(xOK_pure (xs_lald (show decode cX6_weigh 81 = .ok (.laload, 1) by decide +kernel))),
  List.forall_mem_cons.mpr ⟨(xOK_pure (xs_lconst (n := 1) (show decode cX6_weigh 82 = .ok (.lconst 1, 1) by decide +kernel) (by decide))),
  List.forall_mem_cons.mpr ⟨(xOK_pure (xs_ladd (show decode cX6_weigh 83 = .ok (.ladd, 1) by decide +kernel))),
  List.forall_mem_cons.mpr ⟨(xs_last (show decode cX6_weigh 84 = .ok (.lastore, 1) by decide +kernel)),
  List.forall_mem_cons.mpr ⟨(xOK_pure (xs_iconst (n := 1) (show decode cX6_weigh 85 = .ok (.iconst 1, 1) by decide +kernel) (by decide))),
  List.forall_mem_cons.mpr ⟨(xOK_pure (xs_istore (show decode cX6_weigh 86 = .ok (.istore 5, 2) by decide +kernel) (by decide))),
  List.forall_mem_cons.mpr ⟨(xOK_pure (xs_iinc (n := 1) (show decode cX6_weigh 88 = .ok (.iinc 6 1, 3) by decide +kernel) (by decide) (by decide))),
  List.forall_mem_cons.mpr ⟨(xOK_pure (xs_goto (show decode cX6_weigh 91 = .ok (.goto (-69), 3) by decide +kernel) (by decide))),
  List.forall_mem_cons.mpr ⟨(xOK_pure (xs_iconst (n := 0) (show decode cX6_weigh 94 = .ok (.iconst 0, 1) by decide +kernel) (by decide))),
  List.forall_mem_cons.mpr ⟨(xOK_pure (xs_istore (show decode cX6_weigh 95 = .ok (.istore 6, 2) by decide +kernel) (by decide))),
  List.forall_mem_cons.mpr ⟨(xOK_pure (xs_iload (show decode cX6_weigh 97 = .ok (.iload 6, 2) by decide +kernel))),
  List.forall_mem_cons.mpr ⟨(xOK_pure (xs_iload (show decode cX6_weigh 99 = .ok (.iload 4, 2) by decide +kernel))),
  List.forall_mem_cons.mpr ⟨(xOK_pure (xs_icmp_ge (show decode cX6_weigh 101 = .ok (.if_icmp .ge 88, 3) by decide +kernel) (by decide))),
  List.forall_mem_cons.mpr ⟨(xOK_pure (xs_iload (show decode cX6_weigh 104 = .ok (.iload 5, 2) by decide +kernel))),
  List.forall_mem_cons.mpr ⟨(xOK_pure (xs_if_eq (show decode cX6_weigh 106 = .ok (.ifCond .eq 10, 3) by decide +kernel) (by decide))),
  List.forall_mem_cons.mpr ⟨(xOK_pure (xs_aload_n (k := 3) rfl (show decode cX6_weigh 109 = .ok (.aload_n 3, 1) by decide +kernel))),
  (fun _ h => absurd h List.not_mem_nil)⟩⟩⟩⟩⟩⟩⟩⟩⟩⟩⟩⟩⟩⟩⟩⟩⟩⟩⟩⟩
def pX6_weigh_3 (ev : xEv) : List (Nat × xEn) := [(110, .inl (xop (xf_iload 6 2))), (112, .inl (xop (xf_lald (ev.1 1)))), (113, .inl (xop (xf_goto 117))), (116, .inl (xop (xf_push (.long 1) 1))), (117, .inl (xop (xf_lstore 7 2))), (119, .inl (xop (xf_push (.int 0) 1))), (120, .inl (xop (xf_istore 9 2))), (122, .inl (xop (xf_iload 9 2))), (124, .inl (xop (xf_aload 0 1))), (125, .inl (xop (xf_getf 6 18))), (128, .inl (xop (xf_icmp_ge 177))), (131, .inl (xop (xf_lload 7 2))), (133, .inl (xop (xf_aload 0 1))), (134, .inl (xop (xf_getf 6 19))), (137, .inl (xop (xf_push (.int 2) 1))), (138, .inl (xop (xf_iload 9 2))), (140, .inl (xop (xf_bin (fun x y => x * y)))), (141, .inl (xop (xf_ald (ev.1 0)))), (142, .inl (xop (xf_iload 6 2))), (144, .inl (xop (xf_icmp_ne 165)))]
set_option maxRecDepth 20000 in
theorem okpX6_weigh_3 (ev : xEv) : ∀ q ∈ pX6_weigh_3 ev, xEnOK ev xmi yX6_weigh.cls yX6_weigh.name cX6_weigh 10 none q :=
  List.forall_mem_cons.mpr ⟨(xOK_pure (xs_iload (show decode cX6_weigh 110 = .ok (.iload 6, 2) by decide +kernel))),
  List.forall_mem_cons.mpr ⟨(xOK_pure (xs_lald (show decode cX6_weigh 112 = .ok (.laload, 1) by decide +kernel))),
  List.forall_mem_cons.mpr ⟨(xOK_pure (xs_goto (show decode cX6_weigh 113 = .ok (.goto 4, 3) by decide +kernel) (by decide))),
  List.forall_mem_cons.mpr ⟨(xOK_pure (xs_lconst (n := 1) (show decode cX6_weigh 116 = .ok (.lconst 1, 1) by decide +kernel) (by decide))),
  List.forall_mem_cons.mpr ⟨(xOK_pure (xs_lstore (show decode cX6_weigh 117 = .ok (.lstore 7, 2) by decide +kernel) (by decide))),
  List.forall_mem_cons.mpr ⟨(xOK_pure (xs_iconst (n := 0) (show decode cX6_weigh 119 = .ok (.iconst 0, 1) by decide +kernel) (by decide))),
  List.forall_mem_cons.mpr ⟨(xOK_pure (xs_istore (show decode cX6_weigh 120 = .ok (.istore 9, 2) by decide +kernel) (by decide))),
  List.forall_mem_cons.mpr ⟨(xOK_pure (xs_iload (show decode cX6_weigh 122 = .ok (.iload 9, 2) by decide +kernel))),
  List.forall_mem_cons.mpr ⟨(xOK_pure (xs_aload_n (k := 0) rfl (show decode cX6_weigh 124 = .ok (.aload_n 0, 1) by decide +kernel))),
  List.forall_mem_cons.mpr ⟨(xOK_pure (xs_getf xcl_6 (by decide) (show decode cX6_weigh 125 = .ok (.getfield 71, 3) by decide +kernel) xw_647)),
  List.forall_mem_cons.mpr ⟨(xOK_pure (xs_icmp_ge (show decode cX6_weigh 128 = .ok (.if_icmp .ge 49, 3) by decide +kernel) (by decide))),
  List.forall_mem_cons.mpr ⟨(xOK_pure (xs_lload (show decode cX6_weigh 131 = .ok (.lload 7, 2) by decide +kernel))),
  List.forall_mem_cons.mpr ⟨(xOK_pure (xs_aload_n (k := 0) rfl (show decode cX6_weigh 133 = .ok (.aload_n 0, 1) by decide +kernel))),
  List.forall_mem_cons.mpr ⟨(xOK_pure (xs_getf xcl_6 (by decide) (show decode cX6_weigh 134 = .ok (.getfield 27, 3) by decide +kernel) xw_649)),
  List.forall_mem_cons.mpr ⟨(xOK_pure (xs_iconst (n := 2) (show decode cX6_weigh 137 = .ok (.iconst 2, 1) by decide +kernel) (by decide))),
  List.forall_mem_cons.mpr ⟨(xOK_pure (xs_iload (show decode cX6_weigh 138 = .ok (.iload 9, 2) by decide +kernel))),
  List.forall_mem_cons.mpr ⟨(xOK_pure (xs_imul (show decode cX6_weigh 140 = .ok (.imul, 1) by decide +kernel))),
  List.forall_mem_cons.mpr ⟨(xOK_pure (xs_iald (show decode cX6_weigh 141 = .ok (.iaload, 1) by decide +kernel))),
  List.forall_mem_cons.mpr ⟨(xOK_pure (xs_iload (show decode cX6_weigh 142 = .ok (.iload 6, 2) by decide +kernel))),
  List.forall_mem_cons.mpr ⟨(xOK_pure (xs_icmp_ne (show decode cX6_weigh 144 = .ok (.if_icmp .ne 21, 3) by decide +kernel) (by decide))),
  (fun _ h => absurd h List.not_mem_nil)⟩⟩⟩⟩⟩⟩⟩⟩⟩⟩⟩⟩⟩⟩⟩⟩⟩⟩⟩⟩
def pX6_weigh_4 (ev : xEv) : List (Nat × xEn) := [(147, .inl (xop (xf_push (.int 100) 2))), (149, .inl (xop (xf_aload 0 1))), (150, .inl (xop (xf_getf 6 19))), (153, .inl (xop (xf_push (.int 2) 1))), (154, .inl (xop (xf_iload 9 2))), (156, .inl (xop (xf_bin (fun x y => x * y)))), (157, .inl (xop (xf_push (.int 1) 1))), (158, .inl (xop (xf_bin (fun x y => x + y)))), (159, .inl (xop (xf_ald (ev.1 0)))), (160, .inl (xop (xf_bin (fun x y => x - y)))), (161, .inl (xop xf_i2l)), (162, .inl (xop (xf_goto 168))), (165, .inl (xop (xf_push (.long 100) 3))), (168, .inl (xop (xf_lbin (fun x y => x * y)))), (169, .inl (xop (xf_lstore 7 2))), (171, .inl (xop (xf_iinc 9 1))), (174, .inl (xop (xf_goto 122))), (177, .inl (xop (xf_aload 3 1))), (178, .inl (xop (xf_iload 6 2))), (180, .inl (xop (xf_lload 7 2)))]
set_option maxRecDepth 20000 in
theorem okpX6_weigh_4 (ev : xEv) : ∀ q ∈ pX6_weigh_4 ev, xEnOK ev xmi yX6_weigh.cls yX6_weigh.name cX6_weigh 10 none q :=
  List.forall_mem_cons.mpr ⟨(xOK_pure (xs_bipush (n := 100) (show decode cX6_weigh 147 = .ok (.bipush 100, 2) by decide +kernel) (by decide))),
  List.forall_mem_cons.mpr ⟨(xOK_pure (xs_aload_n (k := 0) rfl (show decode cX6_weigh 149 = .ok (.aload_n 0, 1) by decide +kernel))),
  List.forall_mem_cons.mpr ⟨(xOK_pure (xs_getf xcl_6 (by decide) (show decode cX6_weigh 150 = .ok (.getfield 27, 3) by decide +kernel) xw_649)),
  List.forall_mem_cons.mpr ⟨(xOK_pure (xs_iconst (n := 2) (show decode cX6_weigh 153 = .ok (.iconst 2, 1) by decide +kernel) (by decide))),
  List.forall_mem_cons.mpr ⟨(xOK_pure (xs_iload (show decode cX6_weigh 154 = .ok (.iload 9, 2) by decide +kernel))),
  List.forall_mem_cons.mpr ⟨(xOK_pure (xs_imul (show decode cX6_weigh 156 = .ok (.imul, 1) by decide +kernel))),
  List.forall_mem_cons.mpr ⟨(xOK_pure (xs_iconst (n := 1) (show decode cX6_weigh 157 = .ok (.iconst 1, 1) by decide +kernel) (by decide))),
  List.forall_mem_cons.mpr ⟨(xOK_pure (xs_iadd (show decode cX6_weigh 158 = .ok (.iadd, 1) by decide +kernel))),
  List.forall_mem_cons.mpr ⟨(xOK_pure (xs_iald (show decode cX6_weigh 159 = .ok (.iaload, 1) by decide +kernel))),
  List.forall_mem_cons.mpr ⟨(xOK_pure (xs_isub (show decode cX6_weigh 160 = .ok (.isub, 1) by decide +kernel))),
  List.forall_mem_cons.mpr ⟨(xOK_pure (xs_i2l (show decode cX6_weigh 161 = .ok (.i2l, 1) by decide +kernel))),
  List.forall_mem_cons.mpr ⟨(xOK_pure (xs_goto (show decode cX6_weigh 162 = .ok (.goto 6, 3) by decide +kernel) (by decide))),
  List.forall_mem_cons.mpr ⟨(xOK_pure (xs_ldc2 (show decode cX6_weigh 165 = .ok (.ldc2_w 94, 3) by decide +kernel) xw_1402)),
  List.forall_mem_cons.mpr ⟨(xOK_pure (xs_lmul (show decode cX6_weigh 168 = .ok (.lmul, 1) by decide +kernel))),
  List.forall_mem_cons.mpr ⟨(xOK_pure (xs_lstore (show decode cX6_weigh 169 = .ok (.lstore 7, 2) by decide +kernel) (by decide))),
  List.forall_mem_cons.mpr ⟨(xOK_pure (xs_iinc (n := 1) (show decode cX6_weigh 171 = .ok (.iinc 9 1, 3) by decide +kernel) (by decide) (by decide))),
  List.forall_mem_cons.mpr ⟨(xOK_pure (xs_goto (show decode cX6_weigh 174 = .ok (.goto (-52), 3) by decide +kernel) (by decide))),
  List.forall_mem_cons.mpr ⟨(xOK_pure (xs_aload_n (k := 3) rfl (show decode cX6_weigh 177 = .ok (.aload_n 3, 1) by decide +kernel))),
  List.forall_mem_cons.mpr ⟨(xOK_pure (xs_iload (show decode cX6_weigh 178 = .ok (.iload 6, 2) by decide +kernel))),
  List.forall_mem_cons.mpr ⟨(xOK_pure (xs_lload (show decode cX6_weigh 180 = .ok (.lload 7, 2) by decide +kernel))),
  (fun _ h => absurd h List.not_mem_nil)⟩⟩⟩⟩⟩⟩⟩⟩⟩⟩⟩⟩⟩⟩⟩⟩⟩⟩⟩⟩
def pX6_weigh_5 (ev : xEv) : List (Nat × xEn) := [(182, .inl (xo_last (ev.1 1))), (183, .inl (xop (xf_iinc 6 1))), (186, .inl (xop (xf_goto 97))), (189, .inr (.inr 0))]
set_option maxRecDepth 20000 in
theorem okpX6_weigh_5 (ev : xEv) : ∀ q ∈ pX6_weigh_5 ev, xEnOK ev xmi yX6_weigh.cls yX6_weigh.name cX6_weigh 10 none q :=
  List.forall_mem_cons.mpr ⟨(xs_last (show decode cX6_weigh 182 = .ok (.lastore, 1) by decide +kernel)),
  List.forall_mem_cons.mpr ⟨(xOK_pure (xs_iinc (n := 1) (show decode cX6_weigh 183 = .ok (.iinc 6 1, 3) by decide +kernel) (by decide) (by decide))),
  List.forall_mem_cons.mpr ⟨(xOK_pure (xs_goto (show decode cX6_weigh 186 = .ok (.goto (-89), 3) by decide +kernel) (by decide))),
  List.forall_mem_cons.mpr ⟨(Or.inl ⟨rfl, (show decode cX6_weigh 189 = .ok (.return_, 1) by decide +kernel), rfl⟩),
  (fun _ h => absurd h List.not_mem_nil)⟩⟩⟩⟩
def pX6_weigh (ev : xEv) : List (Nat × xEn) := pX6_weigh_0 ev ++ (pX6_weigh_1 ev ++ (pX6_weigh_2 ev ++ (pX6_weigh_3 ev ++ (pX6_weigh_4 ev ++ (pX6_weigh_5 ev)))))
theorem okpX6_weigh (ev : xEv) : ∀ q ∈ pX6_weigh ev, xEnOK ev xmi yX6_weigh.cls yX6_weigh.name cX6_weigh 10 none q := List.forall_mem_append.mpr ⟨okpX6_weigh_0 ev, List.forall_mem_append.mpr ⟨okpX6_weigh_1 ev, List.forall_mem_append.mpr ⟨okpX6_weigh_2 ev, List.forall_mem_append.mpr ⟨okpX6_weigh_3 ev, List.forall_mem_append.mpr ⟨okpX6_weigh_4 ev, okpX6_weigh_5 ev⟩⟩⟩⟩⟩
theorem omX6_weigh (ev : xEv) : xMethOK ev xmi yX6_weigh.cls yX6_weigh.name 73 (pX6_weigh ev) := xMethOK.of mi_73 (by decide +kernel) (okpX6_weigh ev)
def pX6_keep_0 (ev : xEv) : List (Nat × xEn) := [(0, .inl (xop (xf_aload 0 1))), (1, .inl (xop (xf_getf 6 20))), (4, .inl (xop (xf_ifnonnull 42))), (7, .inl (xop (xf_aload 0 1))), (8, .inl (xo_new 6 21 [.int 0, .int 0, .int 0, .int 0, .int 0, .int 0, .int 0, .int 0, .int 0, .int 0, .int 0, .int 0, .int 0, .int 0, .int 0, .int 0, .int 0, .int 0, .int 0, .null, .null])), (11, .inl (xop xf_dup)), (12, .inl (xop (xf_aload 0 1))), (13, .inl (xop (xf_getf 6 8))), (16, .inl (xop (xf_aload 0 1))), (17, .inl (xop (xf_getf 6 0))), (20, .inl (xop (xf_aload 0 1))), (21, .inl (xop (xf_getf 6 1))), (24, .inl (xop (xf_aload 0 1))), (25, .inl (xop (xf_getf 6 2))), (28, .inl (xop (xf_aload 0 1))), (29, .inl (xop (xf_getf 6 3))), (32, .inl (xop (xf_aload 0 1))), (33, .inl (xop (xf_getf 6 4))), (36, .inr (.inl (2, 68, 6, 6))), (39, .inl (xo_putf 6 20 (.object "AirMail$Plane")))]
set_option maxRecDepth 20000 in
theorem okpX6_keep_0 (ev : xEv) : ∀ q ∈ pX6_keep_0 ev, xEnOK ev xmi yX6_keep.cls yX6_keep.name cX6_keep 1 none q :=
  List.forall_mem_cons.mpr ⟨(xOK_pure (xs_aload_n (k := 0) rfl (show decode cX6_keep 0 = .ok (.aload_n 0, 1) by decide +kernel))),
  List.forall_mem_cons.mpr ⟨(xOK_pure (xs_getf xcl_6 (by decide) (show decode cX6_keep 1 = .ok (.getfield 96, 3) by decide +kernel) xw_650)),
  List.forall_mem_cons.mpr ⟨(xOK_pure (xs_ifnonnull (show decode cX6_keep 4 = .ok (.ifnonnull 38, 3) by decide +kernel) (by decide))),
  List.forall_mem_cons.mpr ⟨(xOK_pure (xs_aload_n (k := 0) rfl (show decode cX6_keep 7 = .ok (.aload_n 0, 1) by decide +kernel))),
  List.forall_mem_cons.mpr ⟨(xs_new xcl_6 (by decide +kernel) (show decode cX6_keep 8 = .ok (.new 9, 3) by decide +kernel) xw_1480 xw_588 xw_132),
  List.forall_mem_cons.mpr ⟨(xOK_pure (xs_dup (show decode cX6_keep 11 = .ok (.dup, 1) by decide +kernel))),
  List.forall_mem_cons.mpr ⟨(xOK_pure (xs_aload_n (k := 0) rfl (show decode cX6_keep 12 = .ok (.aload_n 0, 1) by decide +kernel))),
  List.forall_mem_cons.mpr ⟨(xOK_pure (xs_getf xcl_6 (by decide) (show decode cX6_keep 13 = .ok (.getfield 31, 3) by decide +kernel) xw_614)),
  List.forall_mem_cons.mpr ⟨(xOK_pure (xs_aload_n (k := 0) rfl (show decode cX6_keep 16 = .ok (.aload_n 0, 1) by decide +kernel))),
  List.forall_mem_cons.mpr ⟨(xOK_pure (xs_getf xcl_6 (by decide) (show decode cX6_keep 17 = .ok (.getfield 34, 3) by decide +kernel) xw_593)),
  List.forall_mem_cons.mpr ⟨(xOK_pure (xs_aload_n (k := 0) rfl (show decode cX6_keep 20 = .ok (.aload_n 0, 1) by decide +kernel))),
  List.forall_mem_cons.mpr ⟨(xOK_pure (xs_getf xcl_6 (by decide) (show decode cX6_keep 21 = .ok (.getfield 37, 3) by decide +kernel) xw_595)),
  List.forall_mem_cons.mpr ⟨(xOK_pure (xs_aload_n (k := 0) rfl (show decode cX6_keep 24 = .ok (.aload_n 0, 1) by decide +kernel))),
  List.forall_mem_cons.mpr ⟨(xOK_pure (xs_getf xcl_6 (by decide) (show decode cX6_keep 25 = .ok (.getfield 40, 3) by decide +kernel) xw_597)),
  List.forall_mem_cons.mpr ⟨(xOK_pure (xs_aload_n (k := 0) rfl (show decode cX6_keep 28 = .ok (.aload_n 0, 1) by decide +kernel))),
  List.forall_mem_cons.mpr ⟨(xOK_pure (xs_getf xcl_6 (by decide) (show decode cX6_keep 29 = .ok (.getfield 43, 3) by decide +kernel) xw_599)),
  List.forall_mem_cons.mpr ⟨(xOK_pure (xs_aload_n (k := 0) rfl (show decode cX6_keep 32 = .ok (.aload_n 0, 1) by decide +kernel))),
  List.forall_mem_cons.mpr ⟨(xOK_pure (xs_getf xcl_6 (by decide) (show decode cX6_keep 33 = .ok (.getfield 46, 3) by decide +kernel) xw_601)),
  List.forall_mem_cons.mpr ⟨(xcm mi_68 ⟨⟨(by decide +kernel), (by decide +kernel), (by decide +kernel)⟩, (by decide), xw_591, xw_132, Or.inr (Or.inr (Or.inl ⟨rfl, _, (show decode cX6_keep 36 = .ok (.invokespecial 100, 3) by decide +kernel), rfl, xw_1481, xw_590, rfl⟩))⟩),
  List.forall_mem_cons.mpr ⟨(xs_putf (k := 20) xcl_6 (by decide) rfl (show decode cX6_keep 39 = .ok (.putfield 96, 3) by decide +kernel) xw_650),
  (fun _ h => absurd h List.not_mem_nil)⟩⟩⟩⟩⟩⟩⟩⟩⟩⟩⟩⟩⟩⟩⟩⟩⟩⟩⟩⟩
def pX6_keep_1 (ev : xEv) : List (Nat × xEn) := [(42, .inl (xop (xf_aload 0 1))), (43, .inl (xop (xf_aload 0 1))), (44, .inl (xop (xf_getf 6 20))), (47, .inr (.inl (1, 76, 2, 6))), (50, .inr (.inr 0))]
set_option maxRecDepth 20000 in
theorem okpX6_keep_1 (ev : xEv) : ∀ q ∈ pX6_keep_1 ev, xEnOK ev xmi yX6_keep.cls yX6_keep.name cX6_keep 1 none q :=
  List.forall_mem_cons.mpr ⟨(xOK_pure (xs_aload_n (k := 0) rfl (show decode cX6_keep 42 = .ok (.aload_n 0, 1) by decide +kernel))),
  List.forall_mem_cons.mpr ⟨(xOK_pure (xs_aload_n (k := 0) rfl (show decode cX6_keep 43 = .ok (.aload_n 0, 1) by decide +kernel))),
  List.forall_mem_cons.mpr ⟨(xOK_pure (xs_getf xcl_6 (by decide) (show decode cX6_keep 44 = .ok (.getfield 96, 3) by decide +kernel) xw_650)),
  List.forall_mem_cons.mpr ⟨(xcm mi_76 ⟨⟨(by decide +kernel), (by decide +kernel), (by decide +kernel)⟩, (by decide), xw_1484, xw_132, Or.inr (Or.inl ⟨rfl, _, (show decode cX6_keep 47 = .ok (.invokestatic 103, 3) by decide +kernel), xw_1482, xw_1483⟩)⟩),
  List.forall_mem_cons.mpr ⟨(Or.inl ⟨rfl, (show decode cX6_keep 50 = .ok (.return_, 1) by decide +kernel), rfl⟩),
  (fun _ h => absurd h List.not_mem_nil)⟩⟩⟩⟩⟩
def pX6_keep (ev : xEv) : List (Nat × xEn) := pX6_keep_0 ev ++ (pX6_keep_1 ev)
theorem okpX6_keep (ev : xEv) : ∀ q ∈ pX6_keep ev, xEnOK ev xmi yX6_keep.cls yX6_keep.name cX6_keep 1 none q := List.forall_mem_append.mpr ⟨okpX6_keep_0 ev, okpX6_keep_1 ev⟩
theorem omX6_keep (ev : xEv) : xMethOK ev xmi yX6_keep.cls yX6_keep.name 74 (pX6_keep ev) := xMethOK.of mi_74 (by decide +kernel) (okpX6_keep ev)
def pX6_giveBack (ev : xEv) : List (Nat × xEn) := [(0, .inl (xop (xf_aload 0 1))), (1, .inl (xop (xf_getf 6 20))), (4, .inl (xop (xf_ifnull 15))), (7, .inl (xop (xf_aload 0 1))), (8, .inl (xop (xf_getf 6 20))), (11, .inl (xop (xf_aload 0 1))), (12, .inr (.inl (1, 76, 2, 6))), (15, .inr (.inr 0))]
set_option maxRecDepth 20000 in
theorem okpX6_giveBack (ev : xEv) : ∀ q ∈ pX6_giveBack ev, xEnOK ev xmi yX6_giveBack.cls yX6_giveBack.name cX6_giveBack 1 none q :=
  List.forall_mem_cons.mpr ⟨(xOK_pure (xs_aload_n (k := 0) rfl (show decode cX6_giveBack 0 = .ok (.aload_n 0, 1) by decide +kernel))),
  List.forall_mem_cons.mpr ⟨(xOK_pure (xs_getf xcl_6 (by decide) (show decode cX6_giveBack 1 = .ok (.getfield 96, 3) by decide +kernel) xw_650)),
  List.forall_mem_cons.mpr ⟨(xOK_pure (xs_ifnull (show decode cX6_giveBack 4 = .ok (.ifnull 11, 3) by decide +kernel) (by decide))),
  List.forall_mem_cons.mpr ⟨(xOK_pure (xs_aload_n (k := 0) rfl (show decode cX6_giveBack 7 = .ok (.aload_n 0, 1) by decide +kernel))),
  List.forall_mem_cons.mpr ⟨(xOK_pure (xs_getf xcl_6 (by decide) (show decode cX6_giveBack 8 = .ok (.getfield 96, 3) by decide +kernel) xw_650)),
  List.forall_mem_cons.mpr ⟨(xOK_pure (xs_aload_n (k := 0) rfl (show decode cX6_giveBack 11 = .ok (.aload_n 0, 1) by decide +kernel))),
  List.forall_mem_cons.mpr ⟨(xcm mi_76 ⟨⟨(by decide +kernel), (by decide +kernel), (by decide +kernel)⟩, (by decide), xw_1484, xw_132, Or.inr (Or.inl ⟨rfl, _, (show decode cX6_giveBack 12 = .ok (.invokestatic 103, 3) by decide +kernel), xw_1482, xw_1483⟩)⟩),
  List.forall_mem_cons.mpr ⟨(Or.inl ⟨rfl, (show decode cX6_giveBack 15 = .ok (.return_, 1) by decide +kernel), rfl⟩),
  (fun _ h => absurd h List.not_mem_nil)⟩⟩⟩⟩⟩⟩⟩⟩
theorem omX6_giveBack (ev : xEv) : xMethOK ev xmi yX6_giveBack.cls yX6_giveBack.name 75 (pX6_giveBack ev) := xMethOK.of mi_75 (by decide +kernel) (okpX6_giveBack ev)
def pX6_copy_0 (ev : xEv) : List (Nat × xEn) := [(0, .inl (xop (xf_aload 1 1))), (1, .inl (xop (xf_aload 0 1))), (2, .inl (xop (xf_getf 6 5))), (5, .inl (xo_putf 6 5 .int)), (8, .inl (xop (xf_aload 1 1))), (9, .inl (xop (xf_aload 0 1))), (10, .inl (xop (xf_getf 6 7))), (13, .inl (xo_putf 6 7 .int)), (16, .inl (xop (xf_aload 1 1))), (17, .inl (xop (xf_aload 0 1))), (18, .inl (xop (xf_getf 6 8))), (21, .inl (xo_putf 6 8 .int)), (24, .inl (xop (xf_aload 1 1))), (25, .inl (xop (xf_aload 0 1))), (26, .inl (xop (xf_getf 6 9))), (29, .inl (xo_putf 6 9 .int)), (32, .inl (xop (xf_aload 1 1))), (33, .inl (xop (xf_aload 0 1))), (34, .inl (xop (xf_getf 6 10))), (37, .inl (xo_putf 6 10 .int))]
set_option maxRecDepth 20000 in
theorem okpX6_copy_0 (ev : xEv) : ∀ q ∈ pX6_copy_0 ev, xEnOK ev xmi yX6_copy.cls yX6_copy.name cX6_copy 2 none q :=
  List.forall_mem_cons.mpr ⟨(xOK_pure (xs_aload_n (k := 1) rfl (show decode cX6_copy 0 = .ok (.aload_n 1, 1) by decide +kernel))),
  List.forall_mem_cons.mpr ⟨(xOK_pure (xs_aload_n (k := 0) rfl (show decode cX6_copy 1 = .ok (.aload_n 0, 1) by decide +kernel))),
  List.forall_mem_cons.mpr ⟨(xOK_pure (xs_getf xcl_6 (by decide) (show decode cX6_copy 2 = .ok (.getfield 107, 3) by decide +kernel) xw_605)),
  List.forall_mem_cons.mpr ⟨(xs_putf (k := 5) xcl_6 (by decide) rfl (show decode cX6_copy 5 = .ok (.putfield 107, 3) by decide +kernel) xw_605),
  List.forall_mem_cons.mpr ⟨(xOK_pure (xs_aload_n (k := 1) rfl (show decode cX6_copy 8 = .ok (.aload_n 1, 1) by decide +kernel))),
  List.forall_mem_cons.mpr ⟨(xOK_pure (xs_aload_n (k := 0) rfl (show decode cX6_copy 9 = .ok (.aload_n 0, 1) by decide +kernel))),
  List.forall_mem_cons.mpr ⟨(xOK_pure (xs_getf xcl_6 (by decide) (show decode cX6_copy 10 = .ok (.getfield 110, 3) by decide +kernel) xw_611)),
  List.forall_mem_cons.mpr ⟨(xs_putf (k := 7) xcl_6 (by decide) rfl (show decode cX6_copy 13 = .ok (.putfield 110, 3) by decide +kernel) xw_611),
  List.forall_mem_cons.mpr ⟨(xOK_pure (xs_aload_n (k := 1) rfl (show decode cX6_copy 16 = .ok (.aload_n 1, 1) by decide +kernel))),
  List.forall_mem_cons.mpr ⟨(xOK_pure (xs_aload_n (k := 0) rfl (show decode cX6_copy 17 = .ok (.aload_n 0, 1) by decide +kernel))),
  List.forall_mem_cons.mpr ⟨(xOK_pure (xs_getf xcl_6 (by decide) (show decode cX6_copy 18 = .ok (.getfield 31, 3) by decide +kernel) xw_614)),
  List.forall_mem_cons.mpr ⟨(xs_putf (k := 8) xcl_6 (by decide) rfl (show decode cX6_copy 21 = .ok (.putfield 31, 3) by decide +kernel) xw_614),
  List.forall_mem_cons.mpr ⟨(xOK_pure (xs_aload_n (k := 1) rfl (show decode cX6_copy 24 = .ok (.aload_n 1, 1) by decide +kernel))),
  List.forall_mem_cons.mpr ⟨(xOK_pure (xs_aload_n (k := 0) rfl (show decode cX6_copy 25 = .ok (.aload_n 0, 1) by decide +kernel))),
  List.forall_mem_cons.mpr ⟨(xOK_pure (xs_getf xcl_6 (by decide) (show decode cX6_copy 26 = .ok (.getfield 15, 3) by decide +kernel) xw_618)),
  List.forall_mem_cons.mpr ⟨(xs_putf (k := 9) xcl_6 (by decide) rfl (show decode cX6_copy 29 = .ok (.putfield 15, 3) by decide +kernel) xw_618),
  List.forall_mem_cons.mpr ⟨(xOK_pure (xs_aload_n (k := 1) rfl (show decode cX6_copy 32 = .ok (.aload_n 1, 1) by decide +kernel))),
  List.forall_mem_cons.mpr ⟨(xOK_pure (xs_aload_n (k := 0) rfl (show decode cX6_copy 33 = .ok (.aload_n 0, 1) by decide +kernel))),
  List.forall_mem_cons.mpr ⟨(xOK_pure (xs_getf xcl_6 (by decide) (show decode cX6_copy 34 = .ok (.getfield 18, 3) by decide +kernel) xw_621)),
  List.forall_mem_cons.mpr ⟨(xs_putf (k := 10) xcl_6 (by decide) rfl (show decode cX6_copy 37 = .ok (.putfield 18, 3) by decide +kernel) xw_621),
  (fun _ h => absurd h List.not_mem_nil)⟩⟩⟩⟩⟩⟩⟩⟩⟩⟩⟩⟩⟩⟩⟩⟩⟩⟩⟩⟩
def pX6_copy_1 (ev : xEv) : List (Nat × xEn) := [(40, .inl (xop (xf_aload 1 1))), (41, .inl (xop (xf_aload 0 1))), (42, .inl (xop (xf_getf 6 11))), (45, .inl (xo_putf 6 11 .boolean)), (48, .inl (xop (xf_aload 1 1))), (49, .inl (xop (xf_aload 0 1))), (50, .inl (xop (xf_getf 6 12))), (53, .inl (xo_putf 6 12 .boolean)), (56, .inl (xop (xf_aload 1 1))), (57, .inl (xop (xf_aload 0 1))), (58, .inl (xop (xf_getf 6 13))), (61, .inl (xo_putf 6 13 .int)), (64, .inl (xop (xf_aload 1 1))), (65, .inl (xop (xf_aload 0 1))), (66, .inl (xop (xf_getf 6 14))), (69, .inl (xo_putf 6 14 .int)), (72, .inl (xop (xf_aload 1 1))), (73, .inl (xop (xf_aload 0 1))), (74, .inl (xop (xf_getf 6 15))), (77, .inl (xo_putf 6 15 .int))]
set_option maxRecDepth 20000 in
theorem okpX6_copy_1 (ev : xEv) : ∀ q ∈ pX6_copy_1 ev, xEnOK ev xmi yX6_copy.cls yX6_copy.name cX6_copy 2 none q :=
  List.forall_mem_cons.mpr ⟨(xOK_pure (xs_aload_n (k := 1) rfl (show decode cX6_copy 40 = .ok (.aload_n 1, 1) by decide +kernel))),
  List.forall_mem_cons.mpr ⟨(xOK_pure (xs_aload_n (k := 0) rfl (show decode cX6_copy 41 = .ok (.aload_n 0, 1) by decide +kernel))),
  List.forall_mem_cons.mpr ⟨(xOK_pure (xs_getf xcl_6 (by decide) (show decode cX6_copy 42 = .ok (.getfield 58, 3) by decide +kernel) xw_624)),
  List.forall_mem_cons.mpr ⟨(xs_putf (k := 11) xcl_6 (by decide) rfl (show decode cX6_copy 45 = .ok (.putfield 58, 3) by decide +kernel) xw_624),
  List.forall_mem_cons.mpr ⟨(xOK_pure (xs_aload_n (k := 1) rfl (show decode cX6_copy 48 = .ok (.aload_n 1, 1) by decide +kernel))),
  List.forall_mem_cons.mpr ⟨(xOK_pure (xs_aload_n (k := 0) rfl (show decode cX6_copy 49 = .ok (.aload_n 0, 1) by decide +kernel))),
  List.forall_mem_cons.mpr ⟨(xOK_pure (xs_getf xcl_6 (by decide) (show decode cX6_copy 50 = .ok (.getfield 50, 3) by decide +kernel) xw_627)),
  List.forall_mem_cons.mpr ⟨(xs_putf (k := 12) xcl_6 (by decide) rfl (show decode cX6_copy 53 = .ok (.putfield 50, 3) by decide +kernel) xw_627),
  List.forall_mem_cons.mpr ⟨(xOK_pure (xs_aload_n (k := 1) rfl (show decode cX6_copy 56 = .ok (.aload_n 1, 1) by decide +kernel))),
  List.forall_mem_cons.mpr ⟨(xOK_pure (xs_aload_n (k := 0) rfl (show decode cX6_copy 57 = .ok (.aload_n 0, 1) by decide +kernel))),
  List.forall_mem_cons.mpr ⟨(xOK_pure (xs_getf xcl_6 (by decide) (show decode cX6_copy 58 = .ok (.getfield 113, 3) by decide +kernel) xw_632)),
  List.forall_mem_cons.mpr ⟨(xs_putf (k := 13) xcl_6 (by decide) rfl (show decode cX6_copy 61 = .ok (.putfield 113, 3) by decide +kernel) xw_632),
  List.forall_mem_cons.mpr ⟨(xOK_pure (xs_aload_n (k := 1) rfl (show decode cX6_copy 64 = .ok (.aload_n 1, 1) by decide +kernel))),
  List.forall_mem_cons.mpr ⟨(xOK_pure (xs_aload_n (k := 0) rfl (show decode cX6_copy 65 = .ok (.aload_n 0, 1) by decide +kernel))),
  List.forall_mem_cons.mpr ⟨(xOK_pure (xs_getf xcl_6 (by decide) (show decode cX6_copy 66 = .ok (.getfield 116, 3) by decide +kernel) xw_636)),
  List.forall_mem_cons.mpr ⟨(xs_putf (k := 14) xcl_6 (by decide) rfl (show decode cX6_copy 69 = .ok (.putfield 116, 3) by decide +kernel) xw_636),
  List.forall_mem_cons.mpr ⟨(xOK_pure (xs_aload_n (k := 1) rfl (show decode cX6_copy 72 = .ok (.aload_n 1, 1) by decide +kernel))),
  List.forall_mem_cons.mpr ⟨(xOK_pure (xs_aload_n (k := 0) rfl (show decode cX6_copy 73 = .ok (.aload_n 0, 1) by decide +kernel))),
  List.forall_mem_cons.mpr ⟨(xOK_pure (xs_getf xcl_6 (by decide) (show decode cX6_copy 74 = .ok (.getfield 67, 3) by decide +kernel) xw_638)),
  List.forall_mem_cons.mpr ⟨(xs_putf (k := 15) xcl_6 (by decide) rfl (show decode cX6_copy 77 = .ok (.putfield 67, 3) by decide +kernel) xw_638),
  (fun _ h => absurd h List.not_mem_nil)⟩⟩⟩⟩⟩⟩⟩⟩⟩⟩⟩⟩⟩⟩⟩⟩⟩⟩⟩⟩
def pX6_copy_2 (ev : xEv) : List (Nat × xEn) := [(80, .inl (xop (xf_aload 1 1))), (81, .inl (xop (xf_aload 0 1))), (82, .inl (xop (xf_getf 6 16))), (85, .inl (xo_putf 6 16 .int)), (88, .inl (xop (xf_aload 1 1))), (89, .inl (xop (xf_aload 0 1))), (90, .inl (xop (xf_getf 6 17))), (93, .inl (xo_putf 6 17 .int)), (96, .inr (.inr 0))]
set_option maxRecDepth 20000 in
theorem okpX6_copy_2 (ev : xEv) : ∀ q ∈ pX6_copy_2 ev, xEnOK ev xmi yX6_copy.cls yX6_copy.name cX6_copy 2 none q :=
  List.forall_mem_cons.mpr ⟨(xOK_pure (xs_aload_n (k := 1) rfl (show decode cX6_copy 80 = .ok (.aload_n 1, 1) by decide +kernel))),
  List.forall_mem_cons.mpr ⟨(xOK_pure (xs_aload_n (k := 0) rfl (show decode cX6_copy 81 = .ok (.aload_n 0, 1) by decide +kernel))),
  List.forall_mem_cons.mpr ⟨(xOK_pure (xs_getf xcl_6 (by decide) (show decode cX6_copy 82 = .ok (.getfield 21, 3) by decide +kernel) xw_641)),
  List.forall_mem_cons.mpr ⟨(xs_putf (k := 16) xcl_6 (by decide) rfl (show decode cX6_copy 85 = .ok (.putfield 21, 3) by decide +kernel) xw_641),
  List.forall_mem_cons.mpr ⟨(xOK_pure (xs_aload_n (k := 1) rfl (show decode cX6_copy 88 = .ok (.aload_n 1, 1) by decide +kernel))),
  List.forall_mem_cons.mpr ⟨(xOK_pure (xs_aload_n (k := 0) rfl (show decode cX6_copy 89 = .ok (.aload_n 0, 1) by decide +kernel))),
  List.forall_mem_cons.mpr ⟨(xOK_pure (xs_getf xcl_6 (by decide) (show decode cX6_copy 90 = .ok (.getfield 24, 3) by decide +kernel) xw_644)),
  List.forall_mem_cons.mpr ⟨(xs_putf (k := 17) xcl_6 (by decide) rfl (show decode cX6_copy 93 = .ok (.putfield 24, 3) by decide +kernel) xw_644),
  List.forall_mem_cons.mpr ⟨(Or.inl ⟨rfl, (show decode cX6_copy 96 = .ok (.return_, 1) by decide +kernel), rfl⟩),
  (fun _ h => absurd h List.not_mem_nil)⟩⟩⟩⟩⟩⟩⟩⟩⟩
def pX6_copy (ev : xEv) : List (Nat × xEn) := pX6_copy_0 ev ++ (pX6_copy_1 ev ++ (pX6_copy_2 ev))
theorem okpX6_copy (ev : xEv) : ∀ q ∈ pX6_copy ev, xEnOK ev xmi yX6_copy.cls yX6_copy.name cX6_copy 2 none q := List.forall_mem_append.mpr ⟨okpX6_copy_0 ev, List.forall_mem_append.mpr ⟨okpX6_copy_1 ev, okpX6_copy_2 ev⟩⟩
theorem omX6_copy (ev : xEv) : xMethOK ev xmi yX6_copy.cls yX6_copy.name 76 (pX6_copy ev) := xMethOK.of mi_76 (by decide +kernel) (okpX6_copy ev)
def pX7_init (ev : xEv) : List (Nat × xEn) := [(0, .inl (xop (xf_aload 0 1))), (1, .inl (xop xf_objInit)), (4, .inl (xop (xf_aload 0 1))), (5, .inl (xop (xf_push (.int 8) 2))), (7, .inl (xo_newa (ev.1 0) (.inl (fun _ => 0)))), (9, .inl (xo_putf 7 0 (.array .int))), (12, .inl (xop (xf_aload 0 1))), (13, .inl (xop (xf_push (.int 8) 2))), (15, .inl (xo_newa (ev.1 0) (.inl (fun _ => 0)))), (17, .inl (xo_putf 7 1 (.array .int))), (20, .inl (xop (xf_aload 0 1))), (21, .inl (xop (xf_push (.int 8) 2))), (23, .inl (xo_newa (ev.1 1) (.inr (.inl (fun _ => 0))))), (25, .inl (xo_putf 7 3 (.array .long))), (28, .inl (xop (xf_aload 0 1))), (29, .inl (xop (xf_push (.int 256) 3))), (32, .inl (xo_newa (ev.1 1) (.inr (.inl (fun _ => 0))))), (34, .inl (xo_putf 7 4 (.array .long))), (37, .inr (.inr 0))]
set_option maxRecDepth 20000 in
theorem okpX7_init (ev : xEv) : ∀ q ∈ pX7_init ev, xEnOK ev xmi yX7_init.cls yX7_init.name cX7_init 1 none q :=
  List.forall_mem_cons.mpr ⟨(xOK_pure (xs_aload_n (k := 0) rfl (show decode cX7_init 0 = .ok (.aload_n 0, 1) by decide +kernel))),
  List.forall_mem_cons.mpr ⟨(xOK_pure (xs_objInit (show decode cX7_init 1 = .ok (.invokespecial 5, 3) by decide +kernel) xw_386 xw_150 xw_151)),
  List.forall_mem_cons.mpr ⟨(xOK_pure (xs_aload_n (k := 0) rfl (show decode cX7_init 4 = .ok (.aload_n 0, 1) by decide +kernel))),
  List.forall_mem_cons.mpr ⟨(xOK_pure (xs_bipush (n := 8) (show decode cX7_init 5 = .ok (.bipush 8, 2) by decide +kernel) (by decide))),
  List.forall_mem_cons.mpr ⟨(xs_newa (t := 0) (ty := .int) rfl rfl (fun _ _ => rfl) (by decide) (show decode cX7_init 7 = .ok (.newarray .int, 2) by decide +kernel) xw_209),
  List.forall_mem_cons.mpr ⟨(xs_putF (k := 0) xcl_7 (by decide) rfl rfl rfl (show decode cX7_init 9 = .ok (.putfield 11, 3) by decide +kernel) xw_387),
  List.forall_mem_cons.mpr ⟨(xOK_pure (xs_aload_n (k := 0) rfl (show decode cX7_init 12 = .ok (.aload_n 0, 1) by decide +kernel))),
  List.forall_mem_cons.mpr ⟨(xOK_pure (xs_bipush (n := 8) (show decode cX7_init 13 = .ok (.bipush 8, 2) by decide +kernel) (by decide))),
  List.forall_mem_cons.mpr ⟨(xs_newa (t := 0) (ty := .int) rfl rfl (fun _ _ => rfl) (by decide) (show decode cX7_init 15 = .ok (.newarray .int, 2) by decide +kernel) xw_209),
  List.forall_mem_cons.mpr ⟨(xs_putF (k := 1) xcl_7 (by decide) rfl rfl rfl (show decode cX7_init 17 = .ok (.putfield 15, 3) by decide +kernel) xw_389),
  List.forall_mem_cons.mpr ⟨(xOK_pure (xs_aload_n (k := 0) rfl (show decode cX7_init 20 = .ok (.aload_n 0, 1) by decide +kernel))),
  List.forall_mem_cons.mpr ⟨(xOK_pure (xs_bipush (n := 8) (show decode cX7_init 21 = .ok (.bipush 8, 2) by decide +kernel) (by decide))),
  List.forall_mem_cons.mpr ⟨(xs_newa (t := 1) (ty := .long) rfl rfl (fun _ _ => rfl) (by decide) (show decode cX7_init 23 = .ok (.newarray .long, 2) by decide +kernel) xw_406),
  List.forall_mem_cons.mpr ⟨(xs_putF (k := 3) xcl_7 (by decide) rfl rfl rfl (show decode cX7_init 25 = .ok (.putfield 18, 3) by decide +kernel) xw_393),
  List.forall_mem_cons.mpr ⟨(xOK_pure (xs_aload_n (k := 0) rfl (show decode cX7_init 28 = .ok (.aload_n 0, 1) by decide +kernel))),
  List.forall_mem_cons.mpr ⟨(xOK_pure (xs_sipush (n := 256) (show decode cX7_init 29 = .ok (.sipush 256, 3) by decide +kernel) (by decide))),
  List.forall_mem_cons.mpr ⟨(xs_newa (t := 1) (ty := .long) rfl rfl (fun _ _ => rfl) (by decide) (show decode cX7_init 32 = .ok (.newarray .long, 2) by decide +kernel) xw_406),
  List.forall_mem_cons.mpr ⟨(xs_putF (k := 4) xcl_7 (by decide) rfl rfl rfl (show decode cX7_init 34 = .ok (.putfield 22, 3) by decide +kernel) xw_394),
  List.forall_mem_cons.mpr ⟨(Or.inl ⟨rfl, (show decode cX7_init 37 = .ok (.return_, 1) by decide +kernel), rfl⟩),
  (fun _ h => absurd h List.not_mem_nil)⟩⟩⟩⟩⟩⟩⟩⟩⟩⟩⟩⟩⟩⟩⟩⟩⟩⟩⟩
theorem omX7_init (ev : xEv) : xMethOK ev xmi yX7_init.cls yX7_init.name 77 (pX7_init ev) := xMethOK.of mi_77 (by decide +kernel) (okpX7_init ev)
def pX7_quarters (ev : xEv) : List (Nat × xEn) := [(0, .inl (xop (xf_aload 0 1))), (1, .inl (xop (xf_iload 1 1))), (2, .inl (xop (xf_iload 2 1))), (3, .inr (.inl (0, 20, 2, 2))), (6, .inl (xop (xf_push (.int 8) 2))), (8, .inr (.inl (3, 184, 2, 11))), (11, .inr (.inr 1))]
set_option maxRecDepth 20000 in
theorem okpX7_quarters (ev : xEv) : ∀ q ∈ pX7_quarters ev, xEnOK ev xmi yX7_quarters.cls yX7_quarters.name cX7_quarters 3 (some .int) q :=
  List.forall_mem_cons.mpr ⟨(xOK_pure (xs_aload_n (k := 0) rfl (show decode cX7_quarters 0 = .ok (.aload_n 0, 1) by decide +kernel))),
  List.forall_mem_cons.mpr ⟨(xOK_pure (xs_iload_n (k := 1) rfl (show decode cX7_quarters 1 = .ok (.iload_n 1, 1) by decide +kernel))),
  List.forall_mem_cons.mpr ⟨(xOK_pure (xs_iload_n (k := 2) rfl (show decode cX7_quarters 2 = .ok (.iload_n 2, 1) by decide +kernel))),
  List.forall_mem_cons.mpr ⟨(xcm mi_20 ⟨⟨(by decide +kernel), (by decide +kernel), (by decide +kernel)⟩, (by decide), xw_539, xw_119, Or.inl ⟨rfl, _, _, _, _, (show decode cX7_quarters 3 = .ok (.invokevirtual 25, 3) by decide +kernel), xw_1427, xw_537, xw_538, rfl⟩⟩),
  List.forall_mem_cons.mpr ⟨(xOK_pure (xs_bipush (n := 8) (show decode cX7_quarters 6 = .ok (.bipush 8, 2) by decide +kernel) (by decide))),
  List.forall_mem_cons.mpr ⟨(xcm mi_184 ⟨⟨(by decide +kernel), (by decide +kernel), (by decide +kernel)⟩, (by decide), xw_827, xw_118, Or.inr (Or.inr (Or.inr (Or.inl ⟨rfl, _, _, (show decode cX7_quarters 8 = .ok (.invokestatic 31, 3) by decide +kernel), xwn_1432, xw_826⟩)))⟩),
  List.forall_mem_cons.mpr ⟨(Or.inr (Or.inl ⟨rfl, (show decode cX7_quarters 11 = .ok (.ireturn, 1) by decide +kernel), rfl⟩)),
  (fun _ h => absurd h List.not_mem_nil)⟩⟩⟩⟩⟩⟩⟩
theorem omX7_quarters (ev : xEv) : xMethOK ev xmi yX7_quarters.cls yX7_quarters.name 78 (pX7_quarters ev) := xMethOK.of mi_78 (by decide +kernel) (okpX7_quarters ev)
def pX7_listNeeding_0 (ev : xEv) : List (Nat × xEn) := [(0, .inl (xop (xf_aload 0 1))), (1, .inl (xop (xf_push (.int 0) 1))), (2, .inl (xo_putf 7 2 .int)), (5, .inl (xop (xf_push (.int 0) 1))), (6, .inl (xop (xf_istore 2 1))), (7, .inl (xop (xf_iload 2 1))), (8, .inl (xop (xf_aload 1 1))), (9, .inl (xop (xf_getf 10 5))), (12, .inl (xop (xf_icmp_ge 97))), (15, .inl (xop (xf_aload 1 1))), (16, .inl (xop (xf_getf 10 4))), (19, .inl (xop (xf_iload 2 1))), (20, .inl (xop (xf_aald (ev.1 5)))), (21, .inl (xop (xf_astore 3 1))), (22, .inl (xop (xf_aload 3 1))), (23, .inl (xop (xf_getf 6 13))), (26, .inl (xop (xf_if_ne 40))), (29, .inl (xop (xf_aload 3 1))), (30, .inl (xop (xf_getf 6 5))), (33, .inl (xop (xf_aload 3 1)))]
set_option maxRecDepth 20000 in
theorem okpX7_listNeeding_0 (ev : xEv) : ∀ q ∈ pX7_listNeeding_0 ev, xEnOK ev xmi yX7_listNeeding.cls yX7_listNeeding.name cX7_listNeeding 5 (some .int) q :=
  List.forall_mem_cons.mpr ⟨(xOK_pure (xs_aload_n (k := 0) rfl (show decode cX7_listNeeding 0 = .ok (.aload_n 0, 1) by decide +kernel))),
  List.forall_mem_cons.mpr ⟨(xOK_pure (xs_iconst (n := 0) (show decode cX7_listNeeding 1 = .ok (.iconst 0, 1) by decide +kernel) (by decide))),
  List.forall_mem_cons.mpr ⟨(xs_putf (k := 2) xcl_7 (by decide) rfl (show decode cX7_listNeeding 2 = .ok (.putfield 34, 3) by decide +kernel) xw_391),
  List.forall_mem_cons.mpr ⟨(xOK_pure (xs_iconst (n := 0) (show decode cX7_listNeeding 5 = .ok (.iconst 0, 1) by decide +kernel) (by decide))),
  List.forall_mem_cons.mpr ⟨(xOK_pure (xs_istore_n (k := 2) rfl (show decode cX7_listNeeding 6 = .ok (.istore_n 2, 1) by decide +kernel) (by decide))),
  List.forall_mem_cons.mpr ⟨(xOK_pure (xs_iload_n (k := 2) rfl (show decode cX7_listNeeding 7 = .ok (.iload_n 2, 1) by decide +kernel))),
  List.forall_mem_cons.mpr ⟨(xOK_pure (xs_aload_n (k := 1) rfl (show decode cX7_listNeeding 8 = .ok (.aload_n 1, 1) by decide +kernel))),
  List.forall_mem_cons.mpr ⟨(xOK_pure (xs_getf xcl_10 (by decide) (show decode cX7_listNeeding 9 = .ok (.getfield 38, 3) by decide +kernel) xw_312)),
  List.forall_mem_cons.mpr ⟨(xOK_pure (xs_icmp_ge (show decode cX7_listNeeding 12 = .ok (.if_icmp .ge 85, 3) by decide +kernel) (by decide))),
  List.forall_mem_cons.mpr ⟨(xOK_pure (xs_aload_n (k := 1) rfl (show decode cX7_listNeeding 15 = .ok (.aload_n 1, 1) by decide +kernel))),
  List.forall_mem_cons.mpr ⟨(xOK_pure (xs_getf xcl_10 (by decide) (show decode cX7_listNeeding 16 = .ok (.getfield 43, 3) by decide +kernel) xw_310)),
  List.forall_mem_cons.mpr ⟨(xOK_pure (xs_iload_n (k := 2) rfl (show decode cX7_listNeeding 19 = .ok (.iload_n 2, 1) by decide +kernel))),
  List.forall_mem_cons.mpr ⟨(xOK_pure (xs_aald (t := 5) rfl (show decode cX7_listNeeding 20 = .ok (.aaload, 1) by decide +kernel))),
  List.forall_mem_cons.mpr ⟨(xOK_pure (xs_astore_n (k := 3) rfl (show decode cX7_listNeeding 21 = .ok (.astore_n 3, 1) by decide +kernel) (by decide))),
  List.forall_mem_cons.mpr ⟨(xOK_pure (xs_aload_n (k := 3) rfl (show decode cX7_listNeeding 22 = .ok (.aload_n 3, 1) by decide +kernel))),
  List.forall_mem_cons.mpr ⟨(xOK_pure (xs_getf xcl_6 (by decide) (show decode cX7_listNeeding 23 = .ok (.getfield 47, 3) by decide +kernel) xw_630)),
  List.forall_mem_cons.mpr ⟨(xOK_pure (xs_if_ne (show decode cX7_listNeeding 26 = .ok (.ifCond .ne 14, 3) by decide +kernel) (by decide))),
  List.forall_mem_cons.mpr ⟨(xOK_pure (xs_aload_n (k := 3) rfl (show decode cX7_listNeeding 29 = .ok (.aload_n 3, 1) by decide +kernel))),
  List.forall_mem_cons.mpr ⟨(xOK_pure (xs_getf xcl_6 (by decide) (show decode cX7_listNeeding 30 = .ok (.getfield 52, 3) by decide +kernel) xw_603)),
  List.forall_mem_cons.mpr ⟨(xOK_pure (xs_aload_n (k := 3) rfl (show decode cX7_listNeeding 33 = .ok (.aload_n 3, 1) by decide +kernel))),
  (fun _ h => absurd h List.not_mem_nil)⟩⟩⟩⟩⟩⟩⟩⟩⟩⟩⟩⟩⟩⟩⟩⟩⟩⟩⟩⟩
def pX7_listNeeding_1 (ev : xEv) : List (Nat × xEn) := [(34, .inl (xop (xf_getf 6 6))), (37, .inl (xop (xf_icmp_lt 44))), (40, .inl (xop (xf_push (.int 1) 1))), (41, .inl (xop (xf_goto 45))), (44, .inl (xop (xf_push (.int 0) 1))), (45, .inl (xop (xf_istore 4 2))), (47, .inl (xop (xf_aload 3 1))), (48, .inl (xop (xf_getf 6 8))), (51, .inl (xop (xf_push (.int (-1)) 1))), (52, .inl (xop (xf_icmp_eq 91))), (55, .inl (xop (xf_iload 4 2))), (57, .inl (xop (xf_if_eq 91))), (60, .inl (xop (xf_aload 3 1))), (61, .inl (xop (xf_getf 6 14))), (64, .inl (xop (xf_aload 1 1))), (65, .inl (xop (xf_getf 10 13))), (68, .inl (xop (xf_icmp_gt 91))), (71, .inl (xop (xf_aload 0 1))), (72, .inl (xop (xf_getf 7 0))), (75, .inl (xop (xf_aload 0 1)))]
set_option maxRecDepth 20000 in
theorem okpX7_listNeeding_1 (ev : xEv) : ∀ q ∈ pX7_listNeeding_1 ev, xEnOK ev xmi yX7_listNeeding.cls yX7_listNeeding.name cX7_listNeeding 5 (some .int) q :=
  List.forall_mem_cons.mpr ⟨(xOK_pure (xs_getf xcl_6 (by decide) (show decode cX7_listNeeding 34 = .ok (.getfield 55, 3) by decide +kernel) xw_608)),
  List.forall_mem_cons.mpr ⟨(xOK_pure (xs_icmp_lt (show decode cX7_listNeeding 37 = .ok (.if_icmp .lt 7, 3) by decide +kernel) (by decide))),
  List.forall_mem_cons.mpr ⟨(xOK_pure (xs_iconst (n := 1) (show decode cX7_listNeeding 40 = .ok (.iconst 1, 1) by decide +kernel) (by decide))),
  List.forall_mem_cons.mpr ⟨(xOK_pure (xs_goto (show decode cX7_listNeeding 41 = .ok (.goto 4, 3) by decide +kernel) (by decide))),
  List.forall_mem_cons.mpr ⟨(xOK_pure (xs_iconst (n := 0) (show decode cX7_listNeeding 44 = .ok (.iconst 0, 1) by decide +kernel) (by decide))),
  List.forall_mem_cons.mpr ⟨(xOK_pure (xs_istore (show decode cX7_listNeeding 45 = .ok (.istore 4, 2) by decide +kernel) (by decide))),
  List.forall_mem_cons.mpr ⟨(xOK_pure (xs_aload_n (k := 3) rfl (show decode cX7_listNeeding 47 = .ok (.aload_n 3, 1) by decide +kernel))),
  List.forall_mem_cons.mpr ⟨(xOK_pure (xs_getf xcl_6 (by decide) (show decode cX7_listNeeding 48 = .ok (.getfield 58, 3) by decide +kernel) xw_615)),
  List.forall_mem_cons.mpr ⟨(xOK_pure (xs_iconst (n := (-1)) (show decode cX7_listNeeding 51 = .ok (.iconst (-1), 1) by decide +kernel) (by decide))),
  List.forall_mem_cons.mpr ⟨(xOK_pure (xs_icmp_eq (show decode cX7_listNeeding 52 = .ok (.if_icmp .eq 39, 3) by decide +kernel) (by decide))),
  List.forall_mem_cons.mpr ⟨(xOK_pure (xs_iload (show decode cX7_listNeeding 55 = .ok (.iload 4, 2) by decide +kernel))),
  List.forall_mem_cons.mpr ⟨(xOK_pure (xs_if_eq (show decode cX7_listNeeding 57 = .ok (.ifCond .eq 34, 3) by decide +kernel) (by decide))),
  List.forall_mem_cons.mpr ⟨(xOK_pure (xs_aload_n (k := 3) rfl (show decode cX7_listNeeding 60 = .ok (.aload_n 3, 1) by decide +kernel))),
  List.forall_mem_cons.mpr ⟨(xOK_pure (xs_getf xcl_6 (by decide) (show decode cX7_listNeeding 61 = .ok (.getfield 61, 3) by decide +kernel) xw_634)),
  List.forall_mem_cons.mpr ⟨(xOK_pure (xs_aload_n (k := 1) rfl (show decode cX7_listNeeding 64 = .ok (.aload_n 1, 1) by decide +kernel))),
  List.forall_mem_cons.mpr ⟨(xOK_pure (xs_getf xcl_10 (by decide) (show decode cX7_listNeeding 65 = .ok (.getfield 64, 3) by decide +kernel) xw_329)),
  List.forall_mem_cons.mpr ⟨(xOK_pure (xs_icmp_gt (show decode cX7_listNeeding 68 = .ok (.if_icmp .gt 23, 3) by decide +kernel) (by decide))),
  List.forall_mem_cons.mpr ⟨(xOK_pure (xs_aload_n (k := 0) rfl (show decode cX7_listNeeding 71 = .ok (.aload_n 0, 1) by decide +kernel))),
  List.forall_mem_cons.mpr ⟨(xOK_pure (xs_getf xcl_7 (by decide) (show decode cX7_listNeeding 72 = .ok (.getfield 11, 3) by decide +kernel) xw_387)),
  List.forall_mem_cons.mpr ⟨(xOK_pure (xs_aload_n (k := 0) rfl (show decode cX7_listNeeding 75 = .ok (.aload_n 0, 1) by decide +kernel))),
  (fun _ h => absurd h List.not_mem_nil)⟩⟩⟩⟩⟩⟩⟩⟩⟩⟩⟩⟩⟩⟩⟩⟩⟩⟩⟩⟩
def pX7_listNeeding_2 (ev : xEv) : List (Nat × xEn) := [(76, .inl (xop (xf_getf 7 2))), (79, .inl (xop (xf_iload 2 1))), (80, .inl (xo_ast (ev.1 0) (fun x => x))), (81, .inl (xop (xf_aload 0 1))), (82, .inl (xop xf_dup)), (83, .inl (xop (xf_getf 7 2))), (86, .inl (xop (xf_push (.int 1) 1))), (87, .inl (xop (xf_bin (fun x y => x + y)))), (88, .inl (xo_putf 7 2 .int)), (91, .inl (xop (xf_iinc 2 1))), (94, .inl (xop (xf_goto 7))), (97, .inl (xop (xf_aload 0 1))), (98, .inl (xop (xf_getf 7 2))), (101, .inr (.inr 1))]
set_option maxRecDepth 20000 in
theorem okpX7_listNeeding_2 (ev : xEv) : ∀ q ∈ pX7_listNeeding_2 ev, xEnOK ev xmi yX7_listNeeding.cls yX7_listNeeding.name cX7_listNeeding 5 (some .int) q :=
  List.forall_mem_cons.mpr ⟨(xOK_pure (xs_getf xcl_7 (by decide) (show decode cX7_listNeeding 76 = .ok (.getfield 34, 3) by decide +kernel) xw_391)),
  List.forall_mem_cons.mpr ⟨(xOK_pure (xs_iload_n (k := 2) rfl (show decode cX7_listNeeding 79 = .ok (.iload_n 2, 1) by decide +kernel))),
  List.forall_mem_cons.mpr ⟨(xs_iast (show decode cX7_listNeeding 80 = .ok (.iastore, 1) by decide +kernel)),
  List.forall_mem_cons.mpr ⟨(xOK_pure (xs_aload_n (k := 0) rfl (show decode cX7_listNeeding 81 = .ok (.aload_n 0, 1) by decide +kernel))),
  List.forall_mem_cons.mpr ⟨(xOK_pure (xs_dup (show decode cX7_listNeeding 82 = .ok (.dup, 1) by decide +kernel))),
  List.forall_mem_cons.mpr ⟨(xOK_pure (xs_getf xcl_7 (by decide) (show decode cX7_listNeeding 83 = .ok (.getfield 34, 3) by decide +kernel) xw_391)),
  List.forall_mem_cons.mpr ⟨(xOK_pure (xs_iconst (n := 1) (show decode cX7_listNeeding 86 = .ok (.iconst 1, 1) by decide +kernel) (by decide))),
  List.forall_mem_cons.mpr ⟨(xOK_pure (xs_iadd (show decode cX7_listNeeding 87 = .ok (.iadd, 1) by decide +kernel))),
  List.forall_mem_cons.mpr ⟨(xs_putf (k := 2) xcl_7 (by decide) rfl (show decode cX7_listNeeding 88 = .ok (.putfield 34, 3) by decide +kernel) xw_391),
  List.forall_mem_cons.mpr ⟨(xOK_pure (xs_iinc (n := 1) (show decode cX7_listNeeding 91 = .ok (.iinc 2 1, 3) by decide +kernel) (by decide) (by decide))),
  List.forall_mem_cons.mpr ⟨(xOK_pure (xs_goto (show decode cX7_listNeeding 94 = .ok (.goto (-87), 3) by decide +kernel) (by decide))),
  List.forall_mem_cons.mpr ⟨(xOK_pure (xs_aload_n (k := 0) rfl (show decode cX7_listNeeding 97 = .ok (.aload_n 0, 1) by decide +kernel))),
  List.forall_mem_cons.mpr ⟨(xOK_pure (xs_getf xcl_7 (by decide) (show decode cX7_listNeeding 98 = .ok (.getfield 34, 3) by decide +kernel) xw_391)),
  List.forall_mem_cons.mpr ⟨(Or.inr (Or.inl ⟨rfl, (show decode cX7_listNeeding 101 = .ok (.ireturn, 1) by decide +kernel), rfl⟩)),
  (fun _ h => absurd h List.not_mem_nil)⟩⟩⟩⟩⟩⟩⟩⟩⟩⟩⟩⟩⟩⟩
def pX7_listNeeding (ev : xEv) : List (Nat × xEn) := pX7_listNeeding_0 ev ++ (pX7_listNeeding_1 ev ++ (pX7_listNeeding_2 ev))
theorem okpX7_listNeeding (ev : xEv) : ∀ q ∈ pX7_listNeeding ev, xEnOK ev xmi yX7_listNeeding.cls yX7_listNeeding.name cX7_listNeeding 5 (some .int) q := List.forall_mem_append.mpr ⟨okpX7_listNeeding_0 ev, List.forall_mem_append.mpr ⟨okpX7_listNeeding_1 ev, okpX7_listNeeding_2 ev⟩⟩
theorem omX7_listNeeding (ev : xEv) : xMethOK ev xmi yX7_listNeeding.cls yX7_listNeeding.name 79 (pX7_listNeeding ev) := xMethOK.of mi_79 (by decide +kernel) (okpX7_listNeeding ev)
def pX7_share_0 (ev : xEv) : List (Nat × xEn) := [(0, .inl (xop (xf_aload 0 1))), (1, .inl (xop (xf_aload 1 1))), (2, .inr (.inl (0, 79, 1, 7))), (5, .inl (xop xf_pop)), (6, .inl (xop (xf_aload 0 1))), (7, .inl (xop (xf_getf 7 4))), (10, .inl (xop (xf_push (.long 1152921504606846976) 3))), (13, .inr (.inl (1, 309, 2, 99))), (16, .inl (xop (xf_aload 0 1))), (17, .inl (xop (xf_getf 7 4))), (20, .inl (xop (xf_push (.int 0) 1))), (21, .inl (xop (xf_push (.long 0) 1))), (22, .inl (xo_last (ev.1 1))), (23, .inl (xop (xf_push (.int 0) 1))), (24, .inl (xop (xf_istore 2 1))), (25, .inl (xop (xf_iload 2 1))), (26, .inl (xop (xf_aload 1 1))), (27, .inl (xop (xf_getf 10 0))), (30, .inl (xop (xf_getf 2 3))), (33, .inl (xop (xf_icmp_ge 81)))]
set_option maxRecDepth 20000 in
theorem okpX7_share_0 (ev : xEv) : ∀ q ∈ pX7_share_0 ev, xEnOK ev xmi yX7_share.cls yX7_share.name cX7_share 4 (some .int) q :=
  List.forall_mem_cons.mpr ⟨(xOK_pure (xs_aload_n (k := 0) rfl (show decode cX7_share 0 = .ok (.aload_n 0, 1) by decide +kernel))),
  List.forall_mem_cons.mpr ⟨(xOK_pure (xs_aload_n (k := 1) rfl (show decode cX7_share 1 = .ok (.aload_n 1, 1) by decide +kernel))),
  List.forall_mem_cons.mpr ⟨(xcm mi_79 ⟨⟨(by decide +kernel), (by decide +kernel), (by decide +kernel)⟩, (by decide), xw_1411, xw_123, Or.inl ⟨rfl, _, _, _, _, (show decode cX7_share 2 = .ok (.invokevirtual 67, 3) by decide +kernel), xw_1420, xw_1409, xw_1410, rfl⟩⟩),
  List.forall_mem_cons.mpr ⟨(xOK_pure (xs_pop (show decode cX7_share 5 = .ok (.pop, 1) by decide +kernel))),
  List.forall_mem_cons.mpr ⟨(xOK_pure (xs_aload_n (k := 0) rfl (show decode cX7_share 6 = .ok (.aload_n 0, 1) by decide +kernel))),
  List.forall_mem_cons.mpr ⟨(xOK_pure (xs_getf xcl_7 (by decide) (show decode cX7_share 7 = .ok (.getfield 22, 3) by decide +kernel) xw_394)),
  List.forall_mem_cons.mpr ⟨(xOK_pure (xs_ldc2 (show decode cX7_share 10 = .ok (.ldc2_w 71, 3) by decide +kernel) xw_1421)),
  List.forall_mem_cons.mpr ⟨(xcm mi_309 ⟨⟨(by decide +kernel), (by decide +kernel), (by decide +kernel)⟩, (by decide), xw_1397, xw_142, Or.inr (Or.inl ⟨rfl, _, (show decode cX7_share 13 = .ok (.invokestatic 73, 3) by decide +kernel), xw_1422, xw_1396⟩)⟩),
  List.forall_mem_cons.mpr ⟨(xOK_pure (xs_aload_n (k := 0) rfl (show decode cX7_share 16 = .ok (.aload_n 0, 1) by decide +kernel))),
  List.forall_mem_cons.mpr ⟨(xOK_pure (xs_getf xcl_7 (by decide) (show decode cX7_share 17 = .ok (.getfield 22, 3) by decide +kernel) xw_394)),
  List.forall_mem_cons.mpr ⟨(xOK_pure (xs_iconst (n := 0) (show decode cX7_share 20 = .ok (.iconst 0, 1) by decide +kernel) (by decide))),
  List.forall_mem_cons.mpr ⟨(xOK_pure (xs_lconst (n := 0) (show decode cX7_share 21 = .ok (.lconst 0, 1) by decide +kernel) (by decide))),
  List.forall_mem_cons.mpr ⟨(xs_last (show decode cX7_share 22 = .ok (.lastore, 1) by decide +kernel)),
  List.forall_mem_cons.mpr ⟨(xOK_pure (xs_iconst (n := 0) (show decode cX7_share 23 = .ok (.iconst 0, 1) by decide +kernel) (by decide))),
  List.forall_mem_cons.mpr ⟨(xOK_pure (xs_istore_n (k := 2) rfl (show decode cX7_share 24 = .ok (.istore_n 2, 1) by decide +kernel) (by decide))),
  List.forall_mem_cons.mpr ⟨(xOK_pure (xs_iload_n (k := 2) rfl (show decode cX7_share 25 = .ok (.iload_n 2, 1) by decide +kernel))),
  List.forall_mem_cons.mpr ⟨(xOK_pure (xs_aload_n (k := 1) rfl (show decode cX7_share 26 = .ok (.aload_n 1, 1) by decide +kernel))),
  List.forall_mem_cons.mpr ⟨(xOK_pure (xs_getf xcl_10 (by decide) (show decode cX7_share 27 = .ok (.getfield 79, 3) by decide +kernel) xw_302)),
  List.forall_mem_cons.mpr ⟨(xOK_pure (xs_getf xcl_2 (by decide) (show decode cX7_share 30 = .ok (.getfield 83, 3) by decide +kernel) xw_171)),
  List.forall_mem_cons.mpr ⟨(xOK_pure (xs_icmp_ge (show decode cX7_share 33 = .ok (.if_icmp .ge 48, 3) by decide +kernel) (by decide))),
  (fun _ h => absurd h List.not_mem_nil)⟩⟩⟩⟩⟩⟩⟩⟩⟩⟩⟩⟩⟩⟩⟩⟩⟩⟩⟩⟩
def pX7_share_1 (ev : xEv) : List (Nat × xEn) := [(36, .inl (xop (xf_aload 0 1))), (37, .inl (xop (xf_aload 1 1))), (38, .inl (xop (xf_iload 2 1))), (39, .inr (.inl (0, 81, 2, 7))), (42, .inl (xop (xf_push (.int 0) 1))), (43, .inl (xop (xf_istore 3 1))), (44, .inl (xop (xf_iload 3 1))), (45, .inl (xop (xf_aload 1 1))), (46, .inl (xop (xf_getf 10 0))), (49, .inl (xop (xf_getf 2 2))), (52, .inl (xop (xf_iload 2 1))), (53, .inl (xop (xf_ald (ev.1 0)))), (54, .inl (xop (xf_icmp_ge 75))), (57, .inl (xop (xf_iload 3 1))), (58, .inl (xop (xf_aload 0 1))), (59, .inl (xop (xf_getf 7 2))), (62, .inl (xop (xf_icmp_ge 75))), (65, .inl (xop (xf_aload 0 1))), (66, .inr (.inl (0, 82, 0, 7))), (69, .inl (xop (xf_iinc 3 1)))]
set_option maxRecDepth 20000 in
theorem okpX7_share_1 (ev : xEv) : ∀ q ∈ pX7_share_1 ev, xEnOK ev xmi yX7_share.cls yX7_share.name cX7_share 4 (some .int) q :=
  List.forall_mem_cons.mpr ⟨(xOK_pure (xs_aload_n (k := 0) rfl (show decode cX7_share 36 = .ok (.aload_n 0, 1) by decide +kernel))),
  List.forall_mem_cons.mpr ⟨(xOK_pure (xs_aload_n (k := 1) rfl (show decode cX7_share 37 = .ok (.aload_n 1, 1) by decide +kernel))),
  List.forall_mem_cons.mpr ⟨(xOK_pure (xs_iload_n (k := 2) rfl (show decode cX7_share 38 = .ok (.iload_n 2, 1) by decide +kernel))),
  List.forall_mem_cons.mpr ⟨(xcm mi_81 ⟨⟨(by decide +kernel), (by decide +kernel), (by decide +kernel)⟩, (by decide), xw_1426, xw_123, Or.inl ⟨rfl, _, _, _, _, (show decode cX7_share 39 = .ok (.invokevirtual 86, 3) by decide +kernel), xw_1423, xw_1425, xw_46, rfl⟩⟩),
  List.forall_mem_cons.mpr ⟨(xOK_pure (xs_iconst (n := 0) (show decode cX7_share 42 = .ok (.iconst 0, 1) by decide +kernel) (by decide))),
  List.forall_mem_cons.mpr ⟨(xOK_pure (xs_istore_n (k := 3) rfl (show decode cX7_share 43 = .ok (.istore_n 3, 1) by decide +kernel) (by decide))),
  List.forall_mem_cons.mpr ⟨(xOK_pure (xs_iload_n (k := 3) rfl (show decode cX7_share 44 = .ok (.iload_n 3, 1) by decide +kernel))),
  List.forall_mem_cons.mpr ⟨(xOK_pure (xs_aload_n (k := 1) rfl (show decode cX7_share 45 = .ok (.aload_n 1, 1) by decide +kernel))),
  List.forall_mem_cons.mpr ⟨(xOK_pure (xs_getf xcl_10 (by decide) (show decode cX7_share 46 = .ok (.getfield 79, 3) by decide +kernel) xw_302)),
  List.forall_mem_cons.mpr ⟨(xOK_pure (xs_getf xcl_2 (by decide) (show decode cX7_share 49 = .ok (.getfield 90, 3) by decide +kernel) xw_167)),
  List.forall_mem_cons.mpr ⟨(xOK_pure (xs_iload_n (k := 2) rfl (show decode cX7_share 52 = .ok (.iload_n 2, 1) by decide +kernel))),
  List.forall_mem_cons.mpr ⟨(xOK_pure (xs_iald (show decode cX7_share 53 = .ok (.iaload, 1) by decide +kernel))),
  List.forall_mem_cons.mpr ⟨(xOK_pure (xs_icmp_ge (show decode cX7_share 54 = .ok (.if_icmp .ge 21, 3) by decide +kernel) (by decide))),
  List.forall_mem_cons.mpr ⟨(xOK_pure (xs_iload_n (k := 3) rfl (show decode cX7_share 57 = .ok (.iload_n 3, 1) by decide +kernel))),
  List.forall_mem_cons.mpr ⟨(xOK_pure (xs_aload_n (k := 0) rfl (show decode cX7_share 58 = .ok (.aload_n 0, 1) by decide +kernel))),
  List.forall_mem_cons.mpr ⟨(xOK_pure (xs_getf xcl_7 (by decide) (show decode cX7_share 59 = .ok (.getfield 34, 3) by decide +kernel) xw_391)),
  List.forall_mem_cons.mpr ⟨(xOK_pure (xs_icmp_ge (show decode cX7_share 62 = .ok (.if_icmp .ge 13, 3) by decide +kernel) (by decide))),
  List.forall_mem_cons.mpr ⟨(xOK_pure (xs_aload_n (k := 0) rfl (show decode cX7_share 65 = .ok (.aload_n 0, 1) by decide +kernel))),
  List.forall_mem_cons.mpr ⟨(xcm mi_82 ⟨⟨(by decide +kernel), (by decide +kernel), (by decide +kernel)⟩, (by decide), xw_1439, xw_123, Or.inl ⟨rfl, _, _, _, _, (show decode cX7_share 66 = .ok (.invokevirtual 93, 3) by decide +kernel), xw_1436, xw_1438, xw_47, rfl⟩⟩),
  List.forall_mem_cons.mpr ⟨(xOK_pure (xs_iinc (n := 1) (show decode cX7_share 69 = .ok (.iinc 3 1, 3) by decide +kernel) (by decide) (by decide))),
  (fun _ h => absurd h List.not_mem_nil)⟩⟩⟩⟩⟩⟩⟩⟩⟩⟩⟩⟩⟩⟩⟩⟩⟩⟩⟩⟩
def pX7_share_2 (ev : xEv) : List (Nat × xEn) := [(72, .inl (xop (xf_goto 44))), (75, .inl (xop (xf_iinc 2 1))), (78, .inl (xop (xf_goto 25))), (81, .inl (xop (xf_aload 0 1))), (82, .inr (.inl (0, 83, 0, 7))), (85, .inl (xop (xf_lstore 2 1))), (86, .inl (xop (xf_aload 0 1))), (87, .inl (xop (xf_lload 2 1))), (88, .inr (.inl (0, 310, 1, 7))), (91, .inl (xop (xf_lload 2 1))), (92, .inl (xop (xf_push (.long 43046721) 3))), (95, .inl (xop (xf_ldiv (fun x y => x / y)))), (96, .inl (xop (xf_push (.long 4096) 3))), (99, .inl (xop (xf_ldiv (fun x y => x - x / y * y)))), (100, .inl (xop xf_l2i)), (101, .inr (.inr 1))]
set_option maxRecDepth 20000 in
theorem okpX7_share_2 (ev : xEv) : ∀ q ∈ pX7_share_2 ev, xEnOK ev xmi yX7_share.cls yX7_share.name cX7_share 4 (some .int) q :=
  List.forall_mem_cons.mpr ⟨(xOK_pure (xs_goto (show decode cX7_share 72 = .ok (.goto (-28), 3) by decide +kernel) (by decide))),
  List.forall_mem_cons.mpr ⟨(xOK_pure (xs_iinc (n := 1) (show decode cX7_share 75 = .ok (.iinc 2 1, 3) by decide +kernel) (by decide) (by decide))),
  List.forall_mem_cons.mpr ⟨(xOK_pure (xs_goto (show decode cX7_share 78 = .ok (.goto (-53), 3) by decide +kernel) (by decide))),
  List.forall_mem_cons.mpr ⟨(xOK_pure (xs_aload_n (k := 0) rfl (show decode cX7_share 81 = .ok (.aload_n 0, 1) by decide +kernel))),
  List.forall_mem_cons.mpr ⟨(xcm mi_83 ⟨⟨(by decide +kernel), (by decide +kernel), (by decide +kernel)⟩, (by decide), xw_1446, xw_123, Or.inl ⟨rfl, _, _, _, _, (show decode cX7_share 82 = .ok (.invokevirtual 96, 3) by decide +kernel), xw_1443, xw_1445, xw_48, rfl⟩⟩),
  List.forall_mem_cons.mpr ⟨(xOK_pure (xs_lstore_n (k := 2) rfl (show decode cX7_share 85 = .ok (.lstore_n 2, 1) by decide +kernel) (by decide))),
  List.forall_mem_cons.mpr ⟨(xOK_pure (xs_aload_n (k := 0) rfl (show decode cX7_share 86 = .ok (.aload_n 0, 1) by decide +kernel))),
  List.forall_mem_cons.mpr ⟨(xOK_pure (xs_lload_n (k := 2) rfl (show decode cX7_share 87 = .ok (.lload_n 2, 1) by decide +kernel))),
  List.forall_mem_cons.mpr ⟨(xcm mi_310 ⟨⟨(by decide +kernel), (by decide +kernel), (by decide +kernel)⟩, (by decide), xw_1452, xw_123, Or.inl ⟨rfl, _, _, _, _, (show decode cX7_share 88 = .ok (.invokevirtual 100, 3) by decide +kernel), xw_1449, xw_1451, xw_49, rfl⟩⟩),
  List.forall_mem_cons.mpr ⟨(xOK_pure (xs_lload_n (k := 2) rfl (show decode cX7_share 91 = .ok (.lload_n 2, 1) by decide +kernel))),
  List.forall_mem_cons.mpr ⟨(xOK_pure (xs_ldc2 (show decode cX7_share 92 = .ok (.ldc2_w 104, 3) by decide +kernel) xw_1433)),
  List.forall_mem_cons.mpr ⟨(xOK_pure (xs_ldiv (show decode cX7_share 95 = .ok (.ldiv, 1) by decide +kernel))),
  List.forall_mem_cons.mpr ⟨(xOK_pure (xs_ldc2 (show decode cX7_share 96 = .ok (.ldc2_w 106, 3) by decide +kernel) xw_1454)),
  List.forall_mem_cons.mpr ⟨(xOK_pure (xs_lrem (show decode cX7_share 99 = .ok (.lrem, 1) by decide +kernel))),
  List.forall_mem_cons.mpr ⟨(xOK_pure (xs_l2i (show decode cX7_share 100 = .ok (.l2i, 1) by decide +kernel))),
  List.forall_mem_cons.mpr ⟨(Or.inr (Or.inl ⟨rfl, (show decode cX7_share 101 = .ok (.ireturn, 1) by decide +kernel), rfl⟩)),
  (fun _ h => absurd h List.not_mem_nil)⟩⟩⟩⟩⟩⟩⟩⟩⟩⟩⟩⟩⟩⟩⟩⟩
def pX7_share (ev : xEv) : List (Nat × xEn) := pX7_share_0 ev ++ (pX7_share_1 ev ++ (pX7_share_2 ev))
theorem okpX7_share (ev : xEv) : ∀ q ∈ pX7_share ev, xEnOK ev xmi yX7_share.cls yX7_share.name cX7_share 4 (some .int) q := List.forall_mem_append.mpr ⟨okpX7_share_0 ev, List.forall_mem_append.mpr ⟨okpX7_share_1 ev, okpX7_share_2 ev⟩⟩
theorem omX7_share (ev : xEv) : xMethOK ev xmi yX7_share.cls yX7_share.name 80 (pX7_share ev) := xMethOK.of mi_80 (by decide +kernel) (okpX7_share ev)
def pX7_price_0 (ev : xEv) : List (Nat × xEn) := [(0, .inl (xop (xf_push (.int 0) 1))), (1, .inl (xop (xf_istore 3 1))), (2, .inl (xop (xf_iload 3 1))), (3, .inl (xop (xf_aload 0 1))), (4, .inl (xop (xf_getf 7 2))), (7, .inl (xop (xf_icmp_ge 99))), (10, .inl (xop (xf_aload 1 1))), (11, .inl (xop (xf_getf 10 4))), (14, .inl (xop (xf_aload 0 1))), (15, .inl (xop (xf_getf 7 0))), (18, .inl (xop (xf_iload 3 1))), (19, .inl (xop (xf_ald (ev.1 0)))), (20, .inl (xop (xf_aald (ev.1 5)))), (21, .inl (xop (xf_getf 6 8))), (24, .inl (xop (xf_istore 4 2))), (26, .inl (xop (xf_aload 1 1))), (27, .inl (xop (xf_getf 10 0))), (30, .inl (xop (xf_iload 2 1))), (31, .inl (xop (xf_iload 4 2))), (33, .inr (.inl (0, 20, 2, 2)))]
set_option maxRecDepth 20000 in
theorem okpX7_price_0 (ev : xEv) : ∀ q ∈ pX7_price_0 ev, xEnOK ev xmi yX7_price.cls yX7_price.name cX7_price 8 none q :=
  List.forall_mem_cons.mpr ⟨(xOK_pure (xs_iconst (n := 0) (show decode cX7_price 0 = .ok (.iconst 0, 1) by decide +kernel) (by decide))),
  List.forall_mem_cons.mpr ⟨(xOK_pure (xs_istore_n (k := 3) rfl (show decode cX7_price 1 = .ok (.istore_n 3, 1) by decide +kernel) (by decide))),
  List.forall_mem_cons.mpr ⟨(xOK_pure (xs_iload_n (k := 3) rfl (show decode cX7_price 2 = .ok (.iload_n 3, 1) by decide +kernel))),
  List.forall_mem_cons.mpr ⟨(xOK_pure (xs_aload_n (k := 0) rfl (show decode cX7_price 3 = .ok (.aload_n 0, 1) by decide +kernel))),
  List.forall_mem_cons.mpr ⟨(xOK_pure (xs_getf xcl_7 (by decide) (show decode cX7_price 4 = .ok (.getfield 34, 3) by decide +kernel) xw_391)),
  List.forall_mem_cons.mpr ⟨(xOK_pure (xs_icmp_ge (show decode cX7_price 7 = .ok (.if_icmp .ge 92, 3) by decide +kernel) (by decide))),
  List.forall_mem_cons.mpr ⟨(xOK_pure (xs_aload_n (k := 1) rfl (show decode cX7_price 10 = .ok (.aload_n 1, 1) by decide +kernel))),
  List.forall_mem_cons.mpr ⟨(xOK_pure (xs_getf xcl_10 (by decide) (show decode cX7_price 11 = .ok (.getfield 43, 3) by decide +kernel) xw_310)),
  List.forall_mem_cons.mpr ⟨(xOK_pure (xs_aload_n (k := 0) rfl (show decode cX7_price 14 = .ok (.aload_n 0, 1) by decide +kernel))),
  List.forall_mem_cons.mpr ⟨(xOK_pure (xs_getf xcl_7 (by decide) (show decode cX7_price 15 = .ok (.getfield 11, 3) by decide +kernel) xw_387)),
  List.forall_mem_cons.mpr ⟨(xOK_pure (xs_iload_n (k := 3) rfl (show decode cX7_price 18 = .ok (.iload_n 3, 1) by decide +kernel))),
  List.forall_mem_cons.mpr ⟨(xOK_pure (xs_iald (show decode cX7_price 19 = .ok (.iaload, 1) by decide +kernel))),
  List.forall_mem_cons.mpr ⟨(xOK_pure (xs_aald (t := 5) rfl (show decode cX7_price 20 = .ok (.aaload, 1) by decide +kernel))),
  List.forall_mem_cons.mpr ⟨(xOK_pure (xs_getf xcl_6 (by decide) (show decode cX7_price 21 = .ok (.getfield 58, 3) by decide +kernel) xw_615)),
  List.forall_mem_cons.mpr ⟨(xOK_pure (xs_istore (show decode cX7_price 24 = .ok (.istore 4, 2) by decide +kernel) (by decide))),
  List.forall_mem_cons.mpr ⟨(xOK_pure (xs_aload_n (k := 1) rfl (show decode cX7_price 26 = .ok (.aload_n 1, 1) by decide +kernel))),
  List.forall_mem_cons.mpr ⟨(xOK_pure (xs_getf xcl_10 (by decide) (show decode cX7_price 27 = .ok (.getfield 79, 3) by decide +kernel) xw_302)),
  List.forall_mem_cons.mpr ⟨(xOK_pure (xs_iload_n (k := 2) rfl (show decode cX7_price 30 = .ok (.iload_n 2, 1) by decide +kernel))),
  List.forall_mem_cons.mpr ⟨(xOK_pure (xs_iload (show decode cX7_price 31 = .ok (.iload 4, 2) by decide +kernel))),
  List.forall_mem_cons.mpr ⟨(xcm mi_20 ⟨⟨(by decide +kernel), (by decide +kernel), (by decide +kernel)⟩, (by decide), xw_539, xw_119, Or.inl ⟨rfl, _, _, _, _, (show decode cX7_price 33 = .ok (.invokevirtual 25, 3) by decide +kernel), xw_1427, xw_537, xw_538, rfl⟩⟩),
  (fun _ h => absurd h List.not_mem_nil)⟩⟩⟩⟩⟩⟩⟩⟩⟩⟩⟩⟩⟩⟩⟩⟩⟩⟩⟩⟩
def pX7_price_1 (ev : xEv) : List (Nat × xEn) := [(36, .inl (xop (xf_push (.int 1000000) 2))), (38, .inl (xop (xf_icmp_ge 45))), (41, .inl (xop (xf_push (.int 1) 1))), (42, .inl (xop (xf_goto 46))), (45, .inl (xop (xf_push (.int 0) 1))), (46, .inl (xop (xf_istore 5 2))), (48, .inl (xop (xf_aload 1 1))), (49, .inl (xop (xf_getf 10 0))), (52, .inl (xop (xf_iload 2 1))), (53, .inl (xop (xf_iload 4 2))), (55, .inr (.inl (1, 78, 3, 7))), (58, .inl (xop xf_i2l)), (59, .inl (xop (xf_push (.long 43046721) 3))), (62, .inl (xop (xf_lbin (fun x y => x * y)))), (63, .inl (xop (xf_lstore 6 2))), (65, .inl (xop (xf_aload 0 1))), (66, .inl (xop (xf_getf 7 3))), (69, .inl (xop (xf_iload 3 1))), (70, .inl (xop (xf_iload 5 2))), (72, .inl (xop (xf_if_eq 89)))]
set_option maxRecDepth 20000 in
theorem okpX7_price_1 (ev : xEv) : ∀ q ∈ pX7_price_1 ev, xEnOK ev xmi yX7_price.cls yX7_price.name cX7_price 8 none q :=
  List.forall_mem_cons.mpr ⟨(xOK_pure (xs_ldc (show decode cX7_price 36 = .ok (.ldc 110, 2) by decide +kernel) xw_1428)),
  List.forall_mem_cons.mpr ⟨(xOK_pure (xs_icmp_ge (show decode cX7_price 38 = .ok (.if_icmp .ge 7, 3) by decide +kernel) (by decide))),
  List.forall_mem_cons.mpr ⟨(xOK_pure (xs_iconst (n := 1) (show decode cX7_price 41 = .ok (.iconst 1, 1) by decide +kernel) (by decide))),
  List.forall_mem_cons.mpr ⟨(xOK_pure (xs_goto (show decode cX7_price 42 = .ok (.goto 4, 3) by decide +kernel) (by decide))),
  List.forall_mem_cons.mpr ⟨(xOK_pure (xs_iconst (n := 0) (show decode cX7_price 45 = .ok (.iconst 0, 1) by decide +kernel) (by decide))),
  List.forall_mem_cons.mpr ⟨(xOK_pure (xs_istore (show decode cX7_price 46 = .ok (.istore 5, 2) by decide +kernel) (by decide))),
  List.forall_mem_cons.mpr ⟨(xOK_pure (xs_aload_n (k := 1) rfl (show decode cX7_price 48 = .ok (.aload_n 1, 1) by decide +kernel))),
  List.forall_mem_cons.mpr ⟨(xOK_pure (xs_getf xcl_10 (by decide) (show decode cX7_price 49 = .ok (.getfield 79, 3) by decide +kernel) xw_302)),
  List.forall_mem_cons.mpr ⟨(xOK_pure (xs_iload_n (k := 2) rfl (show decode cX7_price 52 = .ok (.iload_n 2, 1) by decide +kernel))),
  List.forall_mem_cons.mpr ⟨(xOK_pure (xs_iload (show decode cX7_price 53 = .ok (.iload 4, 2) by decide +kernel))),
  List.forall_mem_cons.mpr ⟨(xcm mi_78 ⟨⟨(by decide +kernel), (by decide +kernel), (by decide +kernel)⟩, (by decide), xw_1431, xw_123, Or.inr (Or.inl ⟨rfl, _, (show decode cX7_price 55 = .ok (.invokestatic 111, 3) by decide +kernel), xw_1429, xw_1430⟩)⟩),
  List.forall_mem_cons.mpr ⟨(xOK_pure (xs_i2l (show decode cX7_price 58 = .ok (.i2l, 1) by decide +kernel))),
  List.forall_mem_cons.mpr ⟨(xOK_pure (xs_ldc2 (show decode cX7_price 59 = .ok (.ldc2_w 104, 3) by decide +kernel) xw_1433)),
  List.forall_mem_cons.mpr ⟨(xOK_pure (xs_lmul (show decode cX7_price 62 = .ok (.lmul, 1) by decide +kernel))),
  List.forall_mem_cons.mpr ⟨(xOK_pure (xs_lstore (show decode cX7_price 63 = .ok (.lstore 6, 2) by decide +kernel) (by decide))),
  List.forall_mem_cons.mpr ⟨(xOK_pure (xs_aload_n (k := 0) rfl (show decode cX7_price 65 = .ok (.aload_n 0, 1) by decide +kernel))),
  List.forall_mem_cons.mpr ⟨(xOK_pure (xs_getf xcl_7 (by decide) (show decode cX7_price 66 = .ok (.getfield 18, 3) by decide +kernel) xw_393)),
  List.forall_mem_cons.mpr ⟨(xOK_pure (xs_iload_n (k := 3) rfl (show decode cX7_price 69 = .ok (.iload_n 3, 1) by decide +kernel))),
  List.forall_mem_cons.mpr ⟨(xOK_pure (xs_iload (show decode cX7_price 70 = .ok (.iload 5, 2) by decide +kernel))),
  List.forall_mem_cons.mpr ⟨(xOK_pure (xs_if_eq (show decode cX7_price 72 = .ok (.ifCond .eq 17, 3) by decide +kernel) (by decide))),
  (fun _ h => absurd h List.not_mem_nil)⟩⟩⟩⟩⟩⟩⟩⟩⟩⟩⟩⟩⟩⟩⟩⟩⟩⟩⟩⟩
def pX7_price_2 (ev : xEv) : List (Nat × xEn) := [(75, .inl (xop (xf_lload 6 2))), (77, .inl (xop (xf_iload 2 1))), (78, .inl (xop xf_i2l)), (79, .inl (xop (xf_push (.ref ev.2.2.2.1) 3))), (82, .inl (xop (xf_iload 3 1))), (83, .inl (xop (xf_laldP ev.2.2.2.1))), (84, .inl (xop (xf_lbin (fun x y => x * y)))), (85, .inl (xop (xf_lbin (fun x y => x + y)))), (86, .inl (xop (xf_goto 92))), (89, .inl (xop (xf_push (.long 1152921504606846976) 3))), (92, .inl (xo_last (ev.1 1))), (93, .inl (xop (xf_iinc 3 1))), (96, .inl (xop (xf_goto 2))), (99, .inr (.inr 0))]
set_option maxRecDepth 20000 in
theorem okpX7_price_2 (ev : xEv) : ∀ q ∈ pX7_price_2 ev, xEnOK ev xmi yX7_price.cls yX7_price.name cX7_price 8 none q :=
  List.forall_mem_cons.mpr ⟨(xOK_pure (xs_lload (show decode cX7_price 75 = .ok (.lload 6, 2) by decide +kernel))),
  List.forall_mem_cons.mpr ⟨(xOK_pure (xs_iload_n (k := 2) rfl (show decode cX7_price 77 = .ok (.iload_n 2, 1) by decide +kernel))),
  List.forall_mem_cons.mpr ⟨(xOK_pure (xs_i2l (show decode cX7_price 78 = .ok (.i2l, 1) by decide +kernel))),
  List.forall_mem_cons.mpr ⟨(xOK_pure (xs_places (show decode cX7_price 79 = .ok (.getstatic 115, 3) by decide +kernel) xw_1434)),
  List.forall_mem_cons.mpr ⟨(xOK_pure (xs_iload_n (k := 3) rfl (show decode cX7_price 82 = .ok (.iload_n 3, 1) by decide +kernel))),
  List.forall_mem_cons.mpr ⟨(xOK_pure (xs_laldP (show decode cX7_price 83 = .ok (.laload, 1) by decide +kernel))),
  List.forall_mem_cons.mpr ⟨(xOK_pure (xs_lmul (show decode cX7_price 84 = .ok (.lmul, 1) by decide +kernel))),
  List.forall_mem_cons.mpr ⟨(xOK_pure (xs_ladd (show decode cX7_price 85 = .ok (.ladd, 1) by decide +kernel))),
  List.forall_mem_cons.mpr ⟨(xOK_pure (xs_goto (show decode cX7_price 86 = .ok (.goto 6, 3) by decide +kernel) (by decide))),
  List.forall_mem_cons.mpr ⟨(xOK_pure (xs_ldc2 (show decode cX7_price 89 = .ok (.ldc2_w 71, 3) by decide +kernel) xw_1421)),
  List.forall_mem_cons.mpr ⟨(xs_last (show decode cX7_price 92 = .ok (.lastore, 1) by decide +kernel)),
  List.forall_mem_cons.mpr ⟨(xOK_pure (xs_iinc (n := 1) (show decode cX7_price 93 = .ok (.iinc 3 1, 3) by decide +kernel) (by decide) (by decide))),
  List.forall_mem_cons.mpr ⟨(xOK_pure (xs_goto (show decode cX7_price 96 = .ok (.goto (-94), 3) by decide +kernel) (by decide))),
  List.forall_mem_cons.mpr ⟨(Or.inl ⟨rfl, (show decode cX7_price 99 = .ok (.return_, 1) by decide +kernel), rfl⟩),
  (fun _ h => absurd h List.not_mem_nil)⟩⟩⟩⟩⟩⟩⟩⟩⟩⟩⟩⟩⟩⟩
def pX7_price (ev : xEv) : List (Nat × xEn) := pX7_price_0 ev ++ (pX7_price_1 ev ++ (pX7_price_2 ev))
theorem okpX7_price (ev : xEv) : ∀ q ∈ pX7_price ev, xEnOK ev xmi yX7_price.cls yX7_price.name cX7_price 8 none q := List.forall_mem_append.mpr ⟨okpX7_price_0 ev, List.forall_mem_append.mpr ⟨okpX7_price_1 ev, okpX7_price_2 ev⟩⟩
theorem omX7_price (ev : xEv) : xMethOK ev xmi yX7_price.cls yX7_price.name 81 (pX7_price ev) := xMethOK.of mi_81 (by decide +kernel) (okpX7_price ev)
def pX7_offer_0 (ev : xEv) : List (Nat × xEn) := [(0, .inl (xop (xf_push (.int 1) 1))), (1, .inl (xop (xf_aload 0 1))), (2, .inl (xop (xf_getf 7 2))), (5, .inl (xop (xf_bin (fun x y => x <<< (y &&& 31))))), (6, .inl (xop (xf_push (.int 1) 1))), (7, .inl (xop (xf_bin (fun x y => x - y)))), (8, .inl (xop (xf_istore 1 1))), (9, .inl (xop (xf_iload 1 1))), (10, .inl (xop (xf_if_le 76))), (13, .inl (xop (xf_push (.int 0) 1))), (14, .inl (xop (xf_istore 2 1))), (15, .inl (xop (xf_iload 2 1))), (16, .inl (xop (xf_aload 0 1))), (17, .inl (xop (xf_getf 7 2))), (20, .inl (xop (xf_icmp_ge 70))), (23, .inl (xop (xf_iload 1 1))), (24, .inl (xop (xf_iload 2 1))), (25, .inl (xop (xf_bin (fun x y => x >>> (y &&& 31))))), (26, .inl (xop (xf_push (.int 1) 1))), (27, .inl (xop (xf_bin (fun x y => x &&& y))))]
set_option maxRecDepth 20000 in
theorem okpX7_offer_0 (ev : xEv) : ∀ q ∈ pX7_offer_0 ev, xEnOK ev xmi yX7_offer.cls yX7_offer.name cX7_offer 3 none q :=
  List.forall_mem_cons.mpr ⟨(xOK_pure (xs_iconst (n := 1) (show decode cX7_offer 0 = .ok (.iconst 1, 1) by decide +kernel) (by decide))),
  List.forall_mem_cons.mpr ⟨(xOK_pure (xs_aload_n (k := 0) rfl (show decode cX7_offer 1 = .ok (.aload_n 0, 1) by decide +kernel))),
  List.forall_mem_cons.mpr ⟨(xOK_pure (xs_getf xcl_7 (by decide) (show decode cX7_offer 2 = .ok (.getfield 34, 3) by decide +kernel) xw_391)),
  List.forall_mem_cons.mpr ⟨(xOK_pure (xs_ishl (show decode cX7_offer 5 = .ok (.ishl, 1) by decide +kernel))),
  List.forall_mem_cons.mpr ⟨(xOK_pure (xs_iconst (n := 1) (show decode cX7_offer 6 = .ok (.iconst 1, 1) by decide +kernel) (by decide))),
  List.forall_mem_cons.mpr ⟨(xOK_pure (xs_isub (show decode cX7_offer 7 = .ok (.isub, 1) by decide +kernel))),
  List.forall_mem_cons.mpr ⟨(xOK_pure (xs_istore_n (k := 1) rfl (show decode cX7_offer 8 = .ok (.istore_n 1, 1) by decide +kernel) (by decide))),
  List.forall_mem_cons.mpr ⟨(xOK_pure (xs_iload_n (k := 1) rfl (show decode cX7_offer 9 = .ok (.iload_n 1, 1) by decide +kernel))),
  List.forall_mem_cons.mpr ⟨(xOK_pure (xs_if_le (show decode cX7_offer 10 = .ok (.ifCond .le 66, 3) by decide +kernel) (by decide))),
  List.forall_mem_cons.mpr ⟨(xOK_pure (xs_iconst (n := 0) (show decode cX7_offer 13 = .ok (.iconst 0, 1) by decide +kernel) (by decide))),
  List.forall_mem_cons.mpr ⟨(xOK_pure (xs_istore_n (k := 2) rfl (show decode cX7_offer 14 = .ok (.istore_n 2, 1) by decide +kernel) (by decide))),
  List.forall_mem_cons.mpr ⟨(xOK_pure (xs_iload_n (k := 2) rfl (show decode cX7_offer 15 = .ok (.iload_n 2, 1) by decide +kernel))),
  List.forall_mem_cons.mpr ⟨(xOK_pure (xs_aload_n (k := 0) rfl (show decode cX7_offer 16 = .ok (.aload_n 0, 1) by decide +kernel))),
  List.forall_mem_cons.mpr ⟨(xOK_pure (xs_getf xcl_7 (by decide) (show decode cX7_offer 17 = .ok (.getfield 34, 3) by decide +kernel) xw_391)),
  List.forall_mem_cons.mpr ⟨(xOK_pure (xs_icmp_ge (show decode cX7_offer 20 = .ok (.if_icmp .ge 50, 3) by decide +kernel) (by decide))),
  List.forall_mem_cons.mpr ⟨(xOK_pure (xs_iload_n (k := 1) rfl (show decode cX7_offer 23 = .ok (.iload_n 1, 1) by decide +kernel))),
  List.forall_mem_cons.mpr ⟨(xOK_pure (xs_iload_n (k := 2) rfl (show decode cX7_offer 24 = .ok (.iload_n 2, 1) by decide +kernel))),
  List.forall_mem_cons.mpr ⟨(xOK_pure (xs_ishr (show decode cX7_offer 25 = .ok (.ishr, 1) by decide +kernel))),
  List.forall_mem_cons.mpr ⟨(xOK_pure (xs_iconst (n := 1) (show decode cX7_offer 26 = .ok (.iconst 1, 1) by decide +kernel) (by decide))),
  List.forall_mem_cons.mpr ⟨(xOK_pure (xs_iand (show decode cX7_offer 27 = .ok (.iand, 1) by decide +kernel))),
  (fun _ h => absurd h List.not_mem_nil)⟩⟩⟩⟩⟩⟩⟩⟩⟩⟩⟩⟩⟩⟩⟩⟩⟩⟩⟩⟩
def pX7_offer_1 (ev : xEv) : List (Nat × xEn) := [(28, .inl (xop (xf_push (.int 1) 1))), (29, .inl (xop (xf_icmp_ne 64))), (32, .inl (xop (xf_aload 0 1))), (33, .inl (xop (xf_getf 7 4))), (36, .inl (xop (xf_iload 1 1))), (37, .inl (xop (xf_aload 0 1))), (38, .inl (xop (xf_getf 7 4))), (41, .inl (xop (xf_iload 1 1))), (42, .inl (xop (xf_lald (ev.1 1)))), (43, .inl (xop (xf_aload 0 1))), (44, .inl (xop (xf_getf 7 4))), (47, .inl (xop (xf_iload 1 1))), (48, .inl (xop (xf_push (.int 1) 1))), (49, .inl (xop (xf_iload 2 1))), (50, .inl (xop (xf_bin (fun x y => x <<< (y &&& 31))))), (51, .inl (xop (xf_bin (fun x y => x - y)))), (52, .inl (xop (xf_lald (ev.1 1)))), (53, .inl (xop (xf_aload 0 1))), (54, .inl (xop (xf_getf 7 3))), (57, .inl (xop (xf_iload 2 1)))]
set_option maxRecDepth 20000 in
theorem okpX7_offer_1 (ev : xEv) : ∀ q ∈ pX7_offer_1 ev, xEnOK ev xmi yX7_offer.cls yX7_offer.name cX7_offer 3 none q :=
  List.forall_mem_cons.mpr ⟨(xOK_pure (xs_iconst (n := 1) (show decode cX7_offer 28 = .ok (.iconst 1, 1) by decide +kernel) (by decide))),
  List.forall_mem_cons.mpr ⟨(xOK_pure (xs_icmp_ne (show decode cX7_offer 29 = .ok (.if_icmp .ne 35, 3) by decide +kernel) (by decide))),
  List.forall_mem_cons.mpr ⟨(xOK_pure (xs_aload_n (k := 0) rfl (show decode cX7_offer 32 = .ok (.aload_n 0, 1) by decide +kernel))),
  List.forall_mem_cons.mpr ⟨(xOK_pure (xs_getf xcl_7 (by decide) (show decode cX7_offer 33 = .ok (.getfield 22, 3) by decide +kernel) xw_394)),
  List.forall_mem_cons.mpr ⟨(xOK_pure (xs_iload_n (k := 1) rfl (show decode cX7_offer 36 = .ok (.iload_n 1, 1) by decide +kernel))),
  List.forall_mem_cons.mpr ⟨(xOK_pure (xs_aload_n (k := 0) rfl (show decode cX7_offer 37 = .ok (.aload_n 0, 1) by decide +kernel))),
  List.forall_mem_cons.mpr ⟨(xOK_pure (xs_getf xcl_7 (by decide) (show decode cX7_offer 38 = .ok (.getfield 22, 3) by decide +kernel) xw_394)),
  List.forall_mem_cons.mpr ⟨(xOK_pure (xs_iload_n (k := 1) rfl (show decode cX7_offer 41 = .ok (.iload_n 1, 1) by decide +kernel))),
  List.forall_mem_cons.mpr ⟨(xOK_pure (xs_lald (show decode cX7_offer 42 = .ok (.laload, 1) by decide +kernel))),
  List.forall_mem_cons.mpr ⟨(xOK_pure (xs_aload_n (k := 0) rfl (show decode cX7_offer 43 = .ok (.aload_n 0, 1) by decide +kernel))),
  List.forall_mem_cons.mpr ⟨(xOK_pure (xs_getf xcl_7 (by decide) (show decode cX7_offer 44 = .ok (.getfield 22, 3) by decide +kernel) xw_394)),
  List.forall_mem_cons.mpr ⟨(xOK_pure (xs_iload_n (k := 1) rfl (show decode cX7_offer 47 = .ok (.iload_n 1, 1) by decide +kernel))),
  List.forall_mem_cons.mpr ⟨(xOK_pure (xs_iconst (n := 1) (show decode cX7_offer 48 = .ok (.iconst 1, 1) by decide +kernel) (by decide))),
  List.forall_mem_cons.mpr ⟨(xOK_pure (xs_iload_n (k := 2) rfl (show decode cX7_offer 49 = .ok (.iload_n 2, 1) by decide +kernel))),
  List.forall_mem_cons.mpr ⟨(xOK_pure (xs_ishl (show decode cX7_offer 50 = .ok (.ishl, 1) by decide +kernel))),
  List.forall_mem_cons.mpr ⟨(xOK_pure (xs_isub (show decode cX7_offer 51 = .ok (.isub, 1) by decide +kernel))),
  List.forall_mem_cons.mpr ⟨(xOK_pure (xs_lald (show decode cX7_offer 52 = .ok (.laload, 1) by decide +kernel))),
  List.forall_mem_cons.mpr ⟨(xOK_pure (xs_aload_n (k := 0) rfl (show decode cX7_offer 53 = .ok (.aload_n 0, 1) by decide +kernel))),
  List.forall_mem_cons.mpr ⟨(xOK_pure (xs_getf xcl_7 (by decide) (show decode cX7_offer 54 = .ok (.getfield 18, 3) by decide +kernel) xw_393)),
  List.forall_mem_cons.mpr ⟨(xOK_pure (xs_iload_n (k := 2) rfl (show decode cX7_offer 57 = .ok (.iload_n 2, 1) by decide +kernel))),
  (fun _ h => absurd h List.not_mem_nil)⟩⟩⟩⟩⟩⟩⟩⟩⟩⟩⟩⟩⟩⟩⟩⟩⟩⟩⟩⟩
def pX7_offer_2 (ev : xEv) : List (Nat × xEn) := [(58, .inl (xop (xf_lald (ev.1 1)))), (59, .inl (xop (xf_lbin (fun x y => x + y)))), (60, .inl (xop (xf_m2l (fun x y => if y < x then y else x)))), (63, .inl (xo_last (ev.1 1))), (64, .inl (xop (xf_iinc 2 1))), (67, .inl (xop (xf_goto 15))), (70, .inl (xop (xf_iinc 1 (-1)))), (73, .inl (xop (xf_goto 9))), (76, .inr (.inr 0))]
set_option maxRecDepth 20000 in
theorem okpX7_offer_2 (ev : xEv) : ∀ q ∈ pX7_offer_2 ev, xEnOK ev xmi yX7_offer.cls yX7_offer.name cX7_offer 3 none q :=
  List.forall_mem_cons.mpr ⟨(xOK_pure (xs_lald (show decode cX7_offer 58 = .ok (.laload, 1) by decide +kernel))),
  List.forall_mem_cons.mpr ⟨(xOK_pure (xs_ladd (show decode cX7_offer 59 = .ok (.ladd, 1) by decide +kernel))),
  List.forall_mem_cons.mpr ⟨(xOK_pure (xs_mmin_long (show decode cX7_offer 60 = .ok (.invokestatic 118, 3) by decide +kernel) xw_1440 xw_1441 xw_127 xw_1442)),
  List.forall_mem_cons.mpr ⟨(xs_last (show decode cX7_offer 63 = .ok (.lastore, 1) by decide +kernel)),
  List.forall_mem_cons.mpr ⟨(xOK_pure (xs_iinc (n := 1) (show decode cX7_offer 64 = .ok (.iinc 2 1, 3) by decide +kernel) (by decide) (by decide))),
  List.forall_mem_cons.mpr ⟨(xOK_pure (xs_goto (show decode cX7_offer 67 = .ok (.goto (-52), 3) by decide +kernel) (by decide))),
  List.forall_mem_cons.mpr ⟨(xOK_pure (xs_iinc (n := (-1)) (show decode cX7_offer 70 = .ok (.iinc 1 (-1), 3) by decide +kernel) (by decide) (by decide))),
  List.forall_mem_cons.mpr ⟨(xOK_pure (xs_goto (show decode cX7_offer 73 = .ok (.goto (-64), 3) by decide +kernel) (by decide))),
  List.forall_mem_cons.mpr ⟨(Or.inl ⟨rfl, (show decode cX7_offer 76 = .ok (.return_, 1) by decide +kernel), rfl⟩),
  (fun _ h => absurd h List.not_mem_nil)⟩⟩⟩⟩⟩⟩⟩⟩⟩
def pX7_offer (ev : xEv) : List (Nat × xEn) := pX7_offer_0 ev ++ (pX7_offer_1 ev ++ (pX7_offer_2 ev))
theorem okpX7_offer (ev : xEv) : ∀ q ∈ pX7_offer ev, xEnOK ev xmi yX7_offer.cls yX7_offer.name cX7_offer 3 none q := List.forall_mem_append.mpr ⟨okpX7_offer_0 ev, List.forall_mem_append.mpr ⟨okpX7_offer_1 ev, okpX7_offer_2 ev⟩⟩
theorem omX7_offer (ev : xEv) : xMethOK ev xmi yX7_offer.cls yX7_offer.name 82 (pX7_offer ev) := xMethOK.of mi_82 (by decide +kernel) (okpX7_offer ev)
def pX7_leastOfAll_0 (ev : xEv) : List (Nat × xEn) := [(0, .inl (xop (xf_push (.long 1152921504606846976) 3))), (3, .inl (xop (xf_lstore 1 1))), (4, .inl (xop (xf_push (.int 0) 1))), (5, .inl (xop (xf_istore 3 1))), (6, .inl (xop (xf_iload 3 1))), (7, .inl (xop (xf_push (.int 1) 1))), (8, .inl (xop (xf_aload 0 1))), (9, .inl (xop (xf_getf 7 2))), (12, .inl (xop (xf_bin (fun x y => x <<< (y &&& 31))))), (13, .inl (xop (xf_icmp_ge 88))), (16, .inl (xop (xf_aload 0 1))), (17, .inl (xop (xf_getf 7 4))), (20, .inl (xop (xf_iload 3 1))), (21, .inl (xop (xf_lald (ev.1 1)))), (22, .inl (xop (xf_lstore 4 2))), (24, .inl (xop (xf_push (.int 0) 1))), (25, .inl (xop (xf_istore 6 2))), (27, .inl (xop (xf_iload 6 2))), (29, .inl (xop (xf_aload 0 1))), (30, .inl (xop (xf_getf 7 2)))]
set_option maxRecDepth 20000 in
theorem okpX7_leastOfAll_0 (ev : xEv) : ∀ q ∈ pX7_leastOfAll_0 ev, xEnOK ev xmi yX7_leastOfAll.cls yX7_leastOfAll.name cX7_leastOfAll 7 (some .long) q :=
  List.forall_mem_cons.mpr ⟨(xOK_pure (xs_ldc2 (show decode cX7_leastOfAll 0 = .ok (.ldc2_w 71, 3) by decide +kernel) xw_1421)),
  List.forall_mem_cons.mpr ⟨(xOK_pure (xs_lstore_n (k := 1) rfl (show decode cX7_leastOfAll 3 = .ok (.lstore_n 1, 1) by decide +kernel) (by decide))),
  List.forall_mem_cons.mpr ⟨(xOK_pure (xs_iconst (n := 0) (show decode cX7_leastOfAll 4 = .ok (.iconst 0, 1) by decide +kernel) (by decide))),
  List.forall_mem_cons.mpr ⟨(xOK_pure (xs_istore_n (k := 3) rfl (show decode cX7_leastOfAll 5 = .ok (.istore_n 3, 1) by decide +kernel) (by decide))),
  List.forall_mem_cons.mpr ⟨(xOK_pure (xs_iload_n (k := 3) rfl (show decode cX7_leastOfAll 6 = .ok (.iload_n 3, 1) by decide +kernel))),
  List.forall_mem_cons.mpr ⟨(xOK_pure (xs_iconst (n := 1) (show decode cX7_leastOfAll 7 = .ok (.iconst 1, 1) by decide +kernel) (by decide))),
  List.forall_mem_cons.mpr ⟨(xOK_pure (xs_aload_n (k := 0) rfl (show decode cX7_leastOfAll 8 = .ok (.aload_n 0, 1) by decide +kernel))),
  List.forall_mem_cons.mpr ⟨(xOK_pure (xs_getf xcl_7 (by decide) (show decode cX7_leastOfAll 9 = .ok (.getfield 34, 3) by decide +kernel) xw_391)),
  List.forall_mem_cons.mpr ⟨(xOK_pure (xs_ishl (show decode cX7_leastOfAll 12 = .ok (.ishl, 1) by decide +kernel))),
  List.forall_mem_cons.mpr ⟨(xOK_pure (xs_icmp_ge (show decode cX7_leastOfAll 13 = .ok (.if_icmp .ge 75, 3) by decide +kernel) (by decide))),
  List.forall_mem_cons.mpr ⟨(xOK_pure (xs_aload_n (k := 0) rfl (show decode cX7_leastOfAll 16 = .ok (.aload_n 0, 1) by decide +kernel))),
  List.forall_mem_cons.mpr ⟨(xOK_pure (xs_getf xcl_7 (by decide) (show decode cX7_leastOfAll 17 = .ok (.getfield 22, 3) by decide +kernel) xw_394)),
  List.forall_mem_cons.mpr ⟨(xOK_pure (xs_iload_n (k := 3) rfl (show decode cX7_leastOfAll 20 = .ok (.iload_n 3, 1) by decide +kernel))),
  List.forall_mem_cons.mpr ⟨(xOK_pure (xs_lald (show decode cX7_leastOfAll 21 = .ok (.laload, 1) by decide +kernel))),
  List.forall_mem_cons.mpr ⟨(xOK_pure (xs_lstore (show decode cX7_leastOfAll 22 = .ok (.lstore 4, 2) by decide +kernel) (by decide))),
  List.forall_mem_cons.mpr ⟨(xOK_pure (xs_iconst (n := 0) (show decode cX7_leastOfAll 24 = .ok (.iconst 0, 1) by decide +kernel) (by decide))),
  List.forall_mem_cons.mpr ⟨(xOK_pure (xs_istore (show decode cX7_leastOfAll 25 = .ok (.istore 6, 2) by decide +kernel) (by decide))),
  List.forall_mem_cons.mpr ⟨(xOK_pure (xs_iload (show decode cX7_leastOfAll 27 = .ok (.iload 6, 2) by decide +kernel))),
  List.forall_mem_cons.mpr ⟨(xOK_pure (xs_aload_n (k := 0) rfl (show decode cX7_leastOfAll 29 = .ok (.aload_n 0, 1) by decide +kernel))),
  List.forall_mem_cons.mpr ⟨(xOK_pure (xs_getf xcl_7 (by decide) (show decode cX7_leastOfAll 30 = .ok (.getfield 34, 3) by decide +kernel) xw_391)),
  (fun _ h => absurd h List.not_mem_nil)⟩⟩⟩⟩⟩⟩⟩⟩⟩⟩⟩⟩⟩⟩⟩⟩⟩⟩⟩⟩
def pX7_leastOfAll_1 (ev : xEv) : List (Nat × xEn) := [(33, .inl (xop (xf_icmp_ge 75))), (36, .inl (xop (xf_lload 4 2))), (38, .inl (xop (xf_iload 3 1))), (39, .inl (xop (xf_iload 6 2))), (41, .inl (xop (xf_bin (fun x y => x >>> (y &&& 31))))), (42, .inl (xop (xf_push (.int 1) 1))), (43, .inl (xop (xf_bin (fun x y => x &&& y)))), (44, .inl (xop (xf_push (.int 1) 1))), (45, .inl (xop (xf_icmp_ne 52))), (48, .inl (xop (xf_push (.long 0) 1))), (49, .inl (xop (xf_goto 66))), (52, .inl (xop (xf_push (.long 176319369216) 3))), (55, .inl (xop (xf_push (.long 8) 3))), (58, .inl (xop (xf_push (.ref ev.2.2.2.1) 3))), (61, .inl (xop (xf_iload 6 2))), (63, .inl (xop (xf_laldP ev.2.2.2.1))), (64, .inl (xop (xf_lbin (fun x y => x * y)))), (65, .inl (xop (xf_lbin (fun x y => x + y)))), (66, .inl (xop (xf_lbin (fun x y => x + y)))), (67, .inl (xop (xf_lstore 4 2)))]
set_option maxRecDepth 20000 in
theorem okpX7_leastOfAll_1 (ev : xEv) : ∀ q ∈ pX7_leastOfAll_1 ev, xEnOK ev xmi yX7_leastOfAll.cls yX7_leastOfAll.name cX7_leastOfAll 7 (some .long) q :=
  List.forall_mem_cons.mpr ⟨(xOK_pure (xs_icmp_ge (show decode cX7_leastOfAll 33 = .ok (.if_icmp .ge 42, 3) by decide +kernel) (by decide))),
  List.forall_mem_cons.mpr ⟨(xOK_pure (xs_lload (show decode cX7_leastOfAll 36 = .ok (.lload 4, 2) by decide +kernel))),
  List.forall_mem_cons.mpr ⟨(xOK_pure (xs_iload_n (k := 3) rfl (show decode cX7_leastOfAll 38 = .ok (.iload_n 3, 1) by decide +kernel))),
  List.forall_mem_cons.mpr ⟨(xOK_pure (xs_iload (show decode cX7_leastOfAll 39 = .ok (.iload 6, 2) by decide +kernel))),
  List.forall_mem_cons.mpr ⟨(xOK_pure (xs_ishr (show decode cX7_leastOfAll 41 = .ok (.ishr, 1) by decide +kernel))),
  List.forall_mem_cons.mpr ⟨(xOK_pure (xs_iconst (n := 1) (show decode cX7_leastOfAll 42 = .ok (.iconst 1, 1) by decide +kernel) (by decide))),
  List.forall_mem_cons.mpr ⟨(xOK_pure (xs_iand (show decode cX7_leastOfAll 43 = .ok (.iand, 1) by decide +kernel))),
  List.forall_mem_cons.mpr ⟨(xOK_pure (xs_iconst (n := 1) (show decode cX7_leastOfAll 44 = .ok (.iconst 1, 1) by decide +kernel) (by decide))),
  List.forall_mem_cons.mpr ⟨(xOK_pure (xs_icmp_ne (show decode cX7_leastOfAll 45 = .ok (.if_icmp .ne 7, 3) by decide +kernel) (by decide))),
  List.forall_mem_cons.mpr ⟨(xOK_pure (xs_lconst (n := 0) (show decode cX7_leastOfAll 48 = .ok (.lconst 0, 1) by decide +kernel) (by decide))),
  List.forall_mem_cons.mpr ⟨(xOK_pure (xs_goto (show decode cX7_leastOfAll 49 = .ok (.goto 17, 3) by decide +kernel) (by decide))),
  List.forall_mem_cons.mpr ⟨(xOK_pure (xs_ldc2 (show decode cX7_leastOfAll 52 = .ok (.ldc2_w 124, 3) by decide +kernel) xw_1447)),
  List.forall_mem_cons.mpr ⟨(xOK_pure (xs_ldc2 (show decode cX7_leastOfAll 55 = .ok (.ldc2_w 126, 3) by decide +kernel) xw_1448)),
  List.forall_mem_cons.mpr ⟨(xOK_pure (xs_places (show decode cX7_leastOfAll 58 = .ok (.getstatic 115, 3) by decide +kernel) xw_1434)),
  List.forall_mem_cons.mpr ⟨(xOK_pure (xs_iload (show decode cX7_leastOfAll 61 = .ok (.iload 6, 2) by decide +kernel))),
  List.forall_mem_cons.mpr ⟨(xOK_pure (xs_laldP (show decode cX7_leastOfAll 63 = .ok (.laload, 1) by decide +kernel))),
  List.forall_mem_cons.mpr ⟨(xOK_pure (xs_lmul (show decode cX7_leastOfAll 64 = .ok (.lmul, 1) by decide +kernel))),
  List.forall_mem_cons.mpr ⟨(xOK_pure (xs_ladd (show decode cX7_leastOfAll 65 = .ok (.ladd, 1) by decide +kernel))),
  List.forall_mem_cons.mpr ⟨(xOK_pure (xs_ladd (show decode cX7_leastOfAll 66 = .ok (.ladd, 1) by decide +kernel))),
  List.forall_mem_cons.mpr ⟨(xOK_pure (xs_lstore (show decode cX7_leastOfAll 67 = .ok (.lstore 4, 2) by decide +kernel) (by decide))),
  (fun _ h => absurd h List.not_mem_nil)⟩⟩⟩⟩⟩⟩⟩⟩⟩⟩⟩⟩⟩⟩⟩⟩⟩⟩⟩⟩
def pX7_leastOfAll_2 (ev : xEv) : List (Nat × xEn) := [(69, .inl (xop (xf_iinc 6 1))), (72, .inl (xop (xf_goto 27))), (75, .inl (xop (xf_lload 1 1))), (76, .inl (xop (xf_lload 4 2))), (78, .inl (xop (xf_m2l (fun x y => if y < x then y else x)))), (81, .inl (xop (xf_lstore 1 1))), (82, .inl (xop (xf_iinc 3 1))), (85, .inl (xop (xf_goto 6))), (88, .inl (xop (xf_lload 1 1))), (89, .inr (.inr 2))]
set_option maxRecDepth 20000 in
theorem okpX7_leastOfAll_2 (ev : xEv) : ∀ q ∈ pX7_leastOfAll_2 ev, xEnOK ev xmi yX7_leastOfAll.cls yX7_leastOfAll.name cX7_leastOfAll 7 (some .long) q :=
  List.forall_mem_cons.mpr ⟨(xOK_pure (xs_iinc (n := 1) (show decode cX7_leastOfAll 69 = .ok (.iinc 6 1, 3) by decide +kernel) (by decide) (by decide))),
  List.forall_mem_cons.mpr ⟨(xOK_pure (xs_goto (show decode cX7_leastOfAll 72 = .ok (.goto (-45), 3) by decide +kernel) (by decide))),
  List.forall_mem_cons.mpr ⟨(xOK_pure (xs_lload_n (k := 1) rfl (show decode cX7_leastOfAll 75 = .ok (.lload_n 1, 1) by decide +kernel))),
  List.forall_mem_cons.mpr ⟨(xOK_pure (xs_lload (show decode cX7_leastOfAll 76 = .ok (.lload 4, 2) by decide +kernel))),
  List.forall_mem_cons.mpr ⟨(xOK_pure (xs_mmin_long (show decode cX7_leastOfAll 78 = .ok (.invokestatic 118, 3) by decide +kernel) xw_1440 xw_1441 xw_127 xw_1442)),
  List.forall_mem_cons.mpr ⟨(xOK_pure (xs_lstore_n (k := 1) rfl (show decode cX7_leastOfAll 81 = .ok (.lstore_n 1, 1) by decide +kernel) (by decide))),
  List.forall_mem_cons.mpr ⟨(xOK_pure (xs_iinc (n := 1) (show decode cX7_leastOfAll 82 = .ok (.iinc 3 1, 3) by decide +kernel) (by decide) (by decide))),
  List.forall_mem_cons.mpr ⟨(xOK_pure (xs_goto (show decode cX7_leastOfAll 85 = .ok (.goto (-79), 3) by decide +kernel) (by decide))),
  List.forall_mem_cons.mpr ⟨(xOK_pure (xs_lload_n (k := 1) rfl (show decode cX7_leastOfAll 88 = .ok (.lload_n 1, 1) by decide +kernel))),
  List.forall_mem_cons.mpr ⟨(Or.inr (Or.inr (Or.inl ⟨rfl, (show decode cX7_leastOfAll 89 = .ok (.lreturn, 1) by decide +kernel), rfl⟩))),
  (fun _ h => absurd h List.not_mem_nil)⟩⟩⟩⟩⟩⟩⟩⟩⟩⟩
def pX7_leastOfAll (ev : xEv) : List (Nat × xEn) := pX7_leastOfAll_0 ev ++ (pX7_leastOfAll_1 ev ++ (pX7_leastOfAll_2 ev))
theorem okpX7_leastOfAll (ev : xEv) : ∀ q ∈ pX7_leastOfAll ev, xEnOK ev xmi yX7_leastOfAll.cls yX7_leastOfAll.name cX7_leastOfAll 7 (some .long) q := List.forall_mem_append.mpr ⟨okpX7_leastOfAll_0 ev, List.forall_mem_append.mpr ⟨okpX7_leastOfAll_1 ev, okpX7_leastOfAll_2 ev⟩⟩
theorem omX7_leastOfAll (ev : xEv) : xMethOK ev xmi yX7_leastOfAll.cls yX7_leastOfAll.name 83 (pX7_leastOfAll ev) := xMethOK.of mi_83 (by decide +kernel) (okpX7_leastOfAll ev)
def pX7_readFields_0 (ev : xEv) : List (Nat × xEn) := [(0, .inl (xop (xf_lload 1 1))), (1, .inl (xop (xf_lstore 3 1))), (2, .inl (xop (xf_push (.int 7) 2))), (4, .inl (xop (xf_istore 5 2))), (6, .inl (xop (xf_iload 5 2))), (8, .inl (xop (xf_if_lt 51))), (11, .inl (xop (xf_lload 3 1))), (12, .inl (xop (xf_push (.long 9) 3))), (15, .inl (xop (xf_ldiv (fun x y => x - x / y * y)))), (16, .inl (xop xf_l2i)), (17, .inl (xop (xf_istore 6 2))), (19, .inl (xop (xf_aload 0 1))), (20, .inl (xop (xf_getf 7 1))), (23, .inl (xop (xf_iload 5 2))), (25, .inl (xop (xf_iload 6 2))), (27, .inl (xop (xf_push (.int 8) 2))), (29, .inl (xop (xf_icmp_ne 36))), (32, .inl (xop (xf_push (.int (-1)) 1))), (33, .inl (xop (xf_goto 38))), (36, .inl (xop (xf_iload 6 2)))]
set_option maxRecDepth 20000 in
theorem okpX7_readFields_0 (ev : xEv) : ∀ q ∈ pX7_readFields_0 ev, xEnOK ev xmi yX7_readFields.cls yX7_readFields.name cX7_readFields 7 none q :=
  List.forall_mem_cons.mpr ⟨(xOK_pure (xs_lload_n (k := 1) rfl (show decode cX7_readFields 0 = .ok (.lload_n 1, 1) by decide +kernel))),
  List.forall_mem_cons.mpr ⟨(xOK_pure (xs_lstore_n (k := 3) rfl (show decode cX7_readFields 1 = .ok (.lstore_n 3, 1) by decide +kernel) (by decide))),
  List.forall_mem_cons.mpr ⟨(xOK_pure (xs_bipush (n := 7) (show decode cX7_readFields 2 = .ok (.bipush 7, 2) by decide +kernel) (by decide))),
  List.forall_mem_cons.mpr ⟨(xOK_pure (xs_istore (show decode cX7_readFields 4 = .ok (.istore 5, 2) by decide +kernel) (by decide))),
  List.forall_mem_cons.mpr ⟨(xOK_pure (xs_iload (show decode cX7_readFields 6 = .ok (.iload 5, 2) by decide +kernel))),
  List.forall_mem_cons.mpr ⟨(xOK_pure (xs_if_lt (show decode cX7_readFields 8 = .ok (.ifCond .lt 43, 3) by decide +kernel) (by decide))),
  List.forall_mem_cons.mpr ⟨(xOK_pure (xs_lload_n (k := 3) rfl (show decode cX7_readFields 11 = .ok (.lload_n 3, 1) by decide +kernel))),
  List.forall_mem_cons.mpr ⟨(xOK_pure (xs_ldc2 (show decode cX7_readFields 12 = .ok (.ldc2_w 108, 3) by decide +kernel) xw_1453)),
  List.forall_mem_cons.mpr ⟨(xOK_pure (xs_lrem (show decode cX7_readFields 15 = .ok (.lrem, 1) by decide +kernel))),
  List.forall_mem_cons.mpr ⟨(xOK_pure (xs_l2i (show decode cX7_readFields 16 = .ok (.l2i, 1) by decide +kernel))),
  List.forall_mem_cons.mpr ⟨(xOK_pure (xs_istore (show decode cX7_readFields 17 = .ok (.istore 6, 2) by decide +kernel) (by decide))),
  List.forall_mem_cons.mpr ⟨(xOK_pure (xs_aload_n (k := 0) rfl (show decode cX7_readFields 19 = .ok (.aload_n 0, 1) by decide +kernel))),
  List.forall_mem_cons.mpr ⟨(xOK_pure (xs_getf xcl_7 (by decide) (show decode cX7_readFields 20 = .ok (.getfield 15, 3) by decide +kernel) xw_389)),
  List.forall_mem_cons.mpr ⟨(xOK_pure (xs_iload (show decode cX7_readFields 23 = .ok (.iload 5, 2) by decide +kernel))),
  List.forall_mem_cons.mpr ⟨(xOK_pure (xs_iload (show decode cX7_readFields 25 = .ok (.iload 6, 2) by decide +kernel))),
  List.forall_mem_cons.mpr ⟨(xOK_pure (xs_bipush (n := 8) (show decode cX7_readFields 27 = .ok (.bipush 8, 2) by decide +kernel) (by decide))),
  List.forall_mem_cons.mpr ⟨(xOK_pure (xs_icmp_ne (show decode cX7_readFields 29 = .ok (.if_icmp .ne 7, 3) by decide +kernel) (by decide))),
  List.forall_mem_cons.mpr ⟨(xOK_pure (xs_iconst (n := (-1)) (show decode cX7_readFields 32 = .ok (.iconst (-1), 1) by decide +kernel) (by decide))),
  List.forall_mem_cons.mpr ⟨(xOK_pure (xs_goto (show decode cX7_readFields 33 = .ok (.goto 5, 3) by decide +kernel) (by decide))),
  List.forall_mem_cons.mpr ⟨(xOK_pure (xs_iload (show decode cX7_readFields 36 = .ok (.iload 6, 2) by decide +kernel))),
  (fun _ h => absurd h List.not_mem_nil)⟩⟩⟩⟩⟩⟩⟩⟩⟩⟩⟩⟩⟩⟩⟩⟩⟩⟩⟩⟩
def pX7_readFields_1 (ev : xEv) : List (Nat × xEn) := [(38, .inl (xo_ast (ev.1 0) (fun x => x))), (39, .inl (xop (xf_lload 3 1))), (40, .inl (xop (xf_push (.long 9) 3))), (43, .inl (xop (xf_ldiv (fun x y => x / y)))), (44, .inl (xop (xf_lstore 3 1))), (45, .inl (xop (xf_iinc 5 (-1)))), (48, .inl (xop (xf_goto 6))), (51, .inr (.inr 0))]
set_option maxRecDepth 20000 in
theorem okpX7_readFields_1 (ev : xEv) : ∀ q ∈ pX7_readFields_1 ev, xEnOK ev xmi yX7_readFields.cls yX7_readFields.name cX7_readFields 7 none q :=
  List.forall_mem_cons.mpr ⟨(xs_iast (show decode cX7_readFields 38 = .ok (.iastore, 1) by decide +kernel)),
  List.forall_mem_cons.mpr ⟨(xOK_pure (xs_lload_n (k := 3) rfl (show decode cX7_readFields 39 = .ok (.lload_n 3, 1) by decide +kernel))),
  List.forall_mem_cons.mpr ⟨(xOK_pure (xs_ldc2 (show decode cX7_readFields 40 = .ok (.ldc2_w 108, 3) by decide +kernel) xw_1453)),
  List.forall_mem_cons.mpr ⟨(xOK_pure (xs_ldiv (show decode cX7_readFields 43 = .ok (.ldiv, 1) by decide +kernel))),
  List.forall_mem_cons.mpr ⟨(xOK_pure (xs_lstore_n (k := 3) rfl (show decode cX7_readFields 44 = .ok (.lstore_n 3, 1) by decide +kernel) (by decide))),
  List.forall_mem_cons.mpr ⟨(xOK_pure (xs_iinc (n := (-1)) (show decode cX7_readFields 45 = .ok (.iinc 5 (-1), 3) by decide +kernel) (by decide) (by decide))),
  List.forall_mem_cons.mpr ⟨(xOK_pure (xs_goto (show decode cX7_readFields 48 = .ok (.goto (-42), 3) by decide +kernel) (by decide))),
  List.forall_mem_cons.mpr ⟨(Or.inl ⟨rfl, (show decode cX7_readFields 51 = .ok (.return_, 1) by decide +kernel), rfl⟩),
  (fun _ h => absurd h List.not_mem_nil)⟩⟩⟩⟩⟩⟩⟩⟩
def pX7_readFields (ev : xEv) : List (Nat × xEn) := pX7_readFields_0 ev ++ (pX7_readFields_1 ev)
theorem okpX7_readFields (ev : xEv) : ∀ q ∈ pX7_readFields ev, xEnOK ev xmi yX7_readFields.cls yX7_readFields.name cX7_readFields 7 none q := List.forall_mem_append.mpr ⟨okpX7_readFields_0 ev, okpX7_readFields_1 ev⟩
theorem omX7_readFields (ev : xEv) : xMethOK ev xmi yX7_readFields.cls yX7_readFields.name 310 (pX7_readFields ev) := xMethOK.of mi_310 (by decide +kernel) (okpX7_readFields ev)
def pX8_init_0 (ev : xEv) : List (Nat × xEn) := [(0, .inl (xop (xf_aload 0 1))), (1, .inl (xop xf_objInit)), (4, .inl (xop (xf_aload 0 1))), (5, .inl (xop (xf_push (.int (-2)) 2))), (7, .inl (xo_putf 8 1 .int)), (10, .inl (xop (xf_aload 0 1))), (11, .inl (xop (xf_push (.int 26) 2))), (13, .inl (xo_newa (ev.1 0) (.inl (fun _ => 0)))), (15, .inl (xo_putf 8 2 (.array .int))), (18, .inl (xop (xf_aload 0 1))), (19, .inl (xop (xf_push (.int 60) 2))), (21, .inl (xo_newa (ev.1 0) (.inl (fun _ => 0)))), (23, .inl (xo_putf 8 7 (.array .int))), (26, .inl (xop (xf_aload 0 1))), (27, .inl (xop (xf_iload 1 1))), (28, .inl (xo_newa (ev.1 0) (.inl (fun _ => 0)))), (30, .inl (xo_putf 8 3 (.array .int))), (33, .inl (xop (xf_aload 0 1))), (34, .inl (xop (xf_iload 1 1))), (35, .inl (xo_newa (ev.1 0) (.inl (fun _ => 0))))]
set_option maxRecDepth 20000 in
theorem okpX8_init_0 (ev : xEv) : ∀ q ∈ pX8_init_0 ev, xEnOK ev xmi yX8_init.cls yX8_init.name cX8_init 2 none q :=
  List.forall_mem_cons.mpr ⟨(xOK_pure (xs_aload_n (k := 0) rfl (show decode cX8_init 0 = .ok (.aload_n 0, 1) by decide +kernel))),
  List.forall_mem_cons.mpr ⟨(xOK_pure (xs_objInit (show decode cX8_init 1 = .ok (.invokespecial 3, 3) by decide +kernel) xw_265 xw_150 xw_151)),
  List.forall_mem_cons.mpr ⟨(xOK_pure (xs_aload_n (k := 0) rfl (show decode cX8_init 4 = .ok (.aload_n 0, 1) by decide +kernel))),
  List.forall_mem_cons.mpr ⟨(xOK_pure (xs_bipush (n := (-2)) (show decode cX8_init 5 = .ok (.bipush (-2), 2) by decide +kernel) (by decide))),
  List.forall_mem_cons.mpr ⟨(xs_putf (k := 1) xcl_8 (by decide) rfl (show decode cX8_init 7 = .ok (.putfield 11, 3) by decide +kernel) xw_268),
  List.forall_mem_cons.mpr ⟨(xOK_pure (xs_aload_n (k := 0) rfl (show decode cX8_init 10 = .ok (.aload_n 0, 1) by decide +kernel))),
  List.forall_mem_cons.mpr ⟨(xOK_pure (xs_bipush (n := 26) (show decode cX8_init 11 = .ok (.bipush 26, 2) by decide +kernel) (by decide))),
  List.forall_mem_cons.mpr ⟨(xs_newa (t := 0) (ty := .int) rfl rfl (fun _ _ => rfl) (by decide) (show decode cX8_init 13 = .ok (.newarray .int, 2) by decide +kernel) xw_209),
  List.forall_mem_cons.mpr ⟨(xs_putF (k := 2) xcl_8 (by decide) rfl rfl rfl (show decode cX8_init 15 = .ok (.putfield 15, 3) by decide +kernel) xw_270),
  List.forall_mem_cons.mpr ⟨(xOK_pure (xs_aload_n (k := 0) rfl (show decode cX8_init 18 = .ok (.aload_n 0, 1) by decide +kernel))),
  List.forall_mem_cons.mpr ⟨(xOK_pure (xs_bipush (n := 60) (show decode cX8_init 19 = .ok (.bipush 60, 2) by decide +kernel) (by decide))),
  List.forall_mem_cons.mpr ⟨(xs_newa (t := 0) (ty := .int) rfl rfl (fun _ _ => rfl) (by decide) (show decode cX8_init 21 = .ok (.newarray .int, 2) by decide +kernel) xw_209),
  List.forall_mem_cons.mpr ⟨(xs_putF (k := 7) xcl_8 (by decide) rfl rfl rfl (show decode cX8_init 23 = .ok (.putfield 19, 3) by decide +kernel) xw_275),
  List.forall_mem_cons.mpr ⟨(xOK_pure (xs_aload_n (k := 0) rfl (show decode cX8_init 26 = .ok (.aload_n 0, 1) by decide +kernel))),
  List.forall_mem_cons.mpr ⟨(xOK_pure (xs_iload_n (k := 1) rfl (show decode cX8_init 27 = .ok (.iload_n 1, 1) by decide +kernel))),
  List.forall_mem_cons.mpr ⟨(xs_newa (t := 0) (ty := .int) rfl rfl (fun _ _ => rfl) (by decide) (show decode cX8_init 28 = .ok (.newarray .int, 2) by decide +kernel) xw_209),
  List.forall_mem_cons.mpr ⟨(xs_putF (k := 3) xcl_8 (by decide) rfl rfl rfl (show decode cX8_init 30 = .ok (.putfield 22, 3) by decide +kernel) xw_271),
  List.forall_mem_cons.mpr ⟨(xOK_pure (xs_aload_n (k := 0) rfl (show decode cX8_init 33 = .ok (.aload_n 0, 1) by decide +kernel))),
  List.forall_mem_cons.mpr ⟨(xOK_pure (xs_iload_n (k := 1) rfl (show decode cX8_init 34 = .ok (.iload_n 1, 1) by decide +kernel))),
  List.forall_mem_cons.mpr ⟨(xs_newa (t := 0) (ty := .int) rfl rfl (fun _ _ => rfl) (by decide) (show decode cX8_init 35 = .ok (.newarray .int, 2) by decide +kernel) xw_209),
  (fun _ h => absurd h List.not_mem_nil)⟩⟩⟩⟩⟩⟩⟩⟩⟩⟩⟩⟩⟩⟩⟩⟩⟩⟩⟩⟩
def pX8_init_1 (ev : xEv) : List (Nat × xEn) := [(37, .inl (xo_putf 8 4 (.array .int))), (40, .inl (xop (xf_aload 0 1))), (41, .inl (xop (xf_iload 1 1))), (42, .inl (xo_newa (ev.1 0) (.inl (fun _ => 0)))), (44, .inl (xo_putf 8 5 (.array .int))), (47, .inl (xop (xf_aload 0 1))), (48, .inl (xop (xf_iload 1 1))), (49, .inl (xop (xf_push (.int 60) 2))), (51, .inl (xop (xf_bin (fun x y => x * y)))), (52, .inl (xo_newa (ev.1 0) (.inl (fun _ => 0)))), (54, .inl (xo_putf 8 6 (.array .int))), (57, .inr (.inr 0))]
set_option maxRecDepth 20000 in
theorem okpX8_init_1 (ev : xEv) : ∀ q ∈ pX8_init_1 ev, xEnOK ev xmi yX8_init.cls yX8_init.name cX8_init 2 none q :=
  List.forall_mem_cons.mpr ⟨(xs_putF (k := 4) xcl_8 (by decide) rfl rfl rfl (show decode cX8_init 37 = .ok (.putfield 25, 3) by decide +kernel) xw_272),
  List.forall_mem_cons.mpr ⟨(xOK_pure (xs_aload_n (k := 0) rfl (show decode cX8_init 40 = .ok (.aload_n 0, 1) by decide +kernel))),
  List.forall_mem_cons.mpr ⟨(xOK_pure (xs_iload_n (k := 1) rfl (show decode cX8_init 41 = .ok (.iload_n 1, 1) by decide +kernel))),
  List.forall_mem_cons.mpr ⟨(xs_newa (t := 0) (ty := .int) rfl rfl (fun _ _ => rfl) (by decide) (show decode cX8_init 42 = .ok (.newarray .int, 2) by decide +kernel) xw_209),
  List.forall_mem_cons.mpr ⟨(xs_putF (k := 5) xcl_8 (by decide) rfl rfl rfl (show decode cX8_init 44 = .ok (.putfield 28, 3) by decide +kernel) xw_273),
  List.forall_mem_cons.mpr ⟨(xOK_pure (xs_aload_n (k := 0) rfl (show decode cX8_init 47 = .ok (.aload_n 0, 1) by decide +kernel))),
  List.forall_mem_cons.mpr ⟨(xOK_pure (xs_iload_n (k := 1) rfl (show decode cX8_init 48 = .ok (.iload_n 1, 1) by decide +kernel))),
  List.forall_mem_cons.mpr ⟨(xOK_pure (xs_bipush (n := 60) (show decode cX8_init 49 = .ok (.bipush 60, 2) by decide +kernel) (by decide))),
  List.forall_mem_cons.mpr ⟨(xOK_pure (xs_imul (show decode cX8_init 51 = .ok (.imul, 1) by decide +kernel))),
  List.forall_mem_cons.mpr ⟨(xs_newa (t := 0) (ty := .int) rfl rfl (fun _ _ => rfl) (by decide) (show decode cX8_init 52 = .ok (.newarray .int, 2) by decide +kernel) xw_209),
  List.forall_mem_cons.mpr ⟨(xs_putF (k := 6) xcl_8 (by decide) rfl rfl rfl (show decode cX8_init 54 = .ok (.putfield 31, 3) by decide +kernel) xw_274),
  List.forall_mem_cons.mpr ⟨(Or.inl ⟨rfl, (show decode cX8_init 57 = .ok (.return_, 1) by decide +kernel), rfl⟩),
  (fun _ h => absurd h List.not_mem_nil)⟩⟩⟩⟩⟩⟩⟩⟩⟩⟩⟩⟩
def pX8_init (ev : xEv) : List (Nat × xEn) := pX8_init_0 ev ++ (pX8_init_1 ev)
theorem okpX8_init (ev : xEv) : ∀ q ∈ pX8_init ev, xEnOK ev xmi yX8_init.cls yX8_init.name cX8_init 2 none q := List.forall_mem_append.mpr ⟨okpX8_init_0 ev, okpX8_init_1 ev⟩
theorem omX8_init (ev : xEv) : xMethOK ev xmi yX8_init.cls yX8_init.name 84 (pX8_init ev) := xMethOK.of mi_84 (by decide +kernel) (okpX8_init ev)
def pX8_isFull (ev : xEv) : List (Nat × xEn) := [(0, .inl (xop (xf_aload 0 1))), (1, .inl (xop (xf_getf 8 0))), (4, .inl (xop (xf_aload 0 1))), (5, .inl (xop (xf_getf 8 3))), (8, .inl (xop (xf_alen (ev.1 0)))), (9, .inl (xop (xf_icmp_lt 16))), (12, .inl (xop (xf_push (.int 1) 1))), (13, .inl (xop (xf_goto 17))), (16, .inl (xop (xf_push (.int 0) 1))), (17, .inr (.inr 4))]
set_option maxRecDepth 20000 in
theorem okpX8_isFull (ev : xEv) : ∀ q ∈ pX8_isFull ev, xEnOK ev xmi yX8_isFull.cls yX8_isFull.name cX8_isFull 1 (some .boolean) q :=
  List.forall_mem_cons.mpr ⟨(xOK_pure (xs_aload_n (k := 0) rfl (show decode cX8_isFull 0 = .ok (.aload_n 0, 1) by decide +kernel))),
  List.forall_mem_cons.mpr ⟨(xOK_pure (xs_getf xcl_8 (by decide) (show decode cX8_isFull 1 = .ok (.getfield 34, 3) by decide +kernel) xw_266)),
  List.forall_mem_cons.mpr ⟨(xOK_pure (xs_aload_n (k := 0) rfl (show decode cX8_isFull 4 = .ok (.aload_n 0, 1) by decide +kernel))),
  List.forall_mem_cons.mpr ⟨(xOK_pure (xs_getf xcl_8 (by decide) (show decode cX8_isFull 5 = .ok (.getfield 22, 3) by decide +kernel) xw_271)),
  List.forall_mem_cons.mpr ⟨(xOK_pure (xs_alen (t := 0) rfl (show decode cX8_isFull 8 = .ok (.arraylength, 1) by decide +kernel))),
  List.forall_mem_cons.mpr ⟨(xOK_pure (xs_icmp_lt (show decode cX8_isFull 9 = .ok (.if_icmp .lt 7, 3) by decide +kernel) (by decide))),
  List.forall_mem_cons.mpr ⟨(xOK_pure (xs_iconst (n := 1) (show decode cX8_isFull 12 = .ok (.iconst 1, 1) by decide +kernel) (by decide))),
  List.forall_mem_cons.mpr ⟨(xOK_pure (xs_goto (show decode cX8_isFull 13 = .ok (.goto 4, 3) by decide +kernel) (by decide))),
  List.forall_mem_cons.mpr ⟨(xOK_pure (xs_iconst (n := 0) (show decode cX8_isFull 16 = .ok (.iconst 0, 1) by decide +kernel) (by decide))),
  List.forall_mem_cons.mpr ⟨(Or.inr (Or.inr (Or.inr (Or.inr (Or.inl ⟨rfl, (show decode cX8_isFull 17 = .ok (.ireturn, 1) by decide +kernel), rfl⟩))))),
  (fun _ h => absurd h List.not_mem_nil)⟩⟩⟩⟩⟩⟩⟩⟩⟩⟩
theorem omX8_isFull (ev : xEv) : xMethOK ev xmi yX8_isFull.cls yX8_isFull.name 85 (pX8_isFull ev) := xMethOK.of mi_85 (by decide +kernel) (okpX8_isFull ev)
def pX8_add_0 (ev : xEv) : List (Nat × xEn) := [(0, .inl (xop (xf_aload 0 1))), (1, .inl (xop (xf_getf 8 3))), (4, .inl (xop (xf_aload 0 1))), (5, .inl (xop (xf_getf 8 0))), (8, .inl (xop (xf_iload 1 1))), (9, .inl (xo_ast (ev.1 0) (fun x => x))), (10, .inl (xop (xf_aload 0 1))), (11, .inl (xop (xf_getf 8 4))), (14, .inl (xop (xf_aload 0 1))), (15, .inl (xop (xf_getf 8 0))), (18, .inl (xop (xf_iload 2 1))), (19, .inl (xo_ast (ev.1 0) (fun x => x))), (20, .inl (xop (xf_aload 0 1))), (21, .inl (xop (xf_getf 8 5))), (24, .inl (xop (xf_aload 0 1))), (25, .inl (xop (xf_getf 8 0))), (28, .inl (xop (xf_iload 4 2))), (30, .inl (xo_ast (ev.1 0) (fun x => x))), (31, .inl (xop (xf_aload 3 1))), (32, .inl (xop (xf_push (.int 0) 1)))]
set_option maxRecDepth 20000 in
theorem okpX8_add_0 (ev : xEv) : ∀ q ∈ pX8_add_0 ev, xEnOK ev xmi yX8_add.cls yX8_add.name cX8_add 5 (some .int) q :=
  List.forall_mem_cons.mpr ⟨(xOK_pure (xs_aload_n (k := 0) rfl (show decode cX8_add 0 = .ok (.aload_n 0, 1) by decide +kernel))),
  List.forall_mem_cons.mpr ⟨(xOK_pure (xs_getf xcl_8 (by decide) (show decode cX8_add 1 = .ok (.getfield 22, 3) by decide +kernel) xw_271)),
  List.forall_mem_cons.mpr ⟨(xOK_pure (xs_aload_n (k := 0) rfl (show decode cX8_add 4 = .ok (.aload_n 0, 1) by decide +kernel))),
  List.forall_mem_cons.mpr ⟨(xOK_pure (xs_getf xcl_8 (by decide) (show decode cX8_add 5 = .ok (.getfield 34, 3) by decide +kernel) xw_266)),
  List.forall_mem_cons.mpr ⟨(xOK_pure (xs_iload_n (k := 1) rfl (show decode cX8_add 8 = .ok (.iload_n 1, 1) by decide +kernel))),
  List.forall_mem_cons.mpr ⟨(xs_iast (show decode cX8_add 9 = .ok (.iastore, 1) by decide +kernel)),
  List.forall_mem_cons.mpr ⟨(xOK_pure (xs_aload_n (k := 0) rfl (show decode cX8_add 10 = .ok (.aload_n 0, 1) by decide +kernel))),
  List.forall_mem_cons.mpr ⟨(xOK_pure (xs_getf xcl_8 (by decide) (show decode cX8_add 11 = .ok (.getfield 25, 3) by decide +kernel) xw_272)),
  List.forall_mem_cons.mpr ⟨(xOK_pure (xs_aload_n (k := 0) rfl (show decode cX8_add 14 = .ok (.aload_n 0, 1) by decide +kernel))),
  List.forall_mem_cons.mpr ⟨(xOK_pure (xs_getf xcl_8 (by decide) (show decode cX8_add 15 = .ok (.getfield 34, 3) by decide +kernel) xw_266)),
  List.forall_mem_cons.mpr ⟨(xOK_pure (xs_iload_n (k := 2) rfl (show decode cX8_add 18 = .ok (.iload_n 2, 1) by decide +kernel))),
  List.forall_mem_cons.mpr ⟨(xs_iast (show decode cX8_add 19 = .ok (.iastore, 1) by decide +kernel)),
  List.forall_mem_cons.mpr ⟨(xOK_pure (xs_aload_n (k := 0) rfl (show decode cX8_add 20 = .ok (.aload_n 0, 1) by decide +kernel))),
  List.forall_mem_cons.mpr ⟨(xOK_pure (xs_getf xcl_8 (by decide) (show decode cX8_add 21 = .ok (.getfield 28, 3) by decide +kernel) xw_273)),
  List.forall_mem_cons.mpr ⟨(xOK_pure (xs_aload_n (k := 0) rfl (show decode cX8_add 24 = .ok (.aload_n 0, 1) by decide +kernel))),
  List.forall_mem_cons.mpr ⟨(xOK_pure (xs_getf xcl_8 (by decide) (show decode cX8_add 25 = .ok (.getfield 34, 3) by decide +kernel) xw_266)),
  List.forall_mem_cons.mpr ⟨(xOK_pure (xs_iload (show decode cX8_add 28 = .ok (.iload 4, 2) by decide +kernel))),
  List.forall_mem_cons.mpr ⟨(xs_iast (show decode cX8_add 30 = .ok (.iastore, 1) by decide +kernel)),
  List.forall_mem_cons.mpr ⟨(xOK_pure (xs_aload_n (k := 3) rfl (show decode cX8_add 31 = .ok (.aload_n 3, 1) by decide +kernel))),
  List.forall_mem_cons.mpr ⟨(xOK_pure (xs_iconst (n := 0) (show decode cX8_add 32 = .ok (.iconst 0, 1) by decide +kernel) (by decide))),
  (fun _ h => absurd h List.not_mem_nil)⟩⟩⟩⟩⟩⟩⟩⟩⟩⟩⟩⟩⟩⟩⟩⟩⟩⟩⟩⟩
def pX8_add_1 (ev : xEv) : List (Nat × xEn) := [(33, .inl (xop (xf_aload 0 1))), (34, .inl (xop (xf_getf 8 6))), (37, .inl (xop (xf_aload 0 1))), (38, .inl (xop (xf_getf 8 0))), (41, .inl (xop (xf_push (.int 60) 2))), (43, .inl (xop (xf_bin (fun x y => x * y)))), (44, .inl (xop (xf_iload 4 2))), (46, .inl (xo_copy (ev.1 0))), (49, .inl (xop (xf_aload 0 1))), (50, .inl (xop xf_dup)), (51, .inl (xop (xf_getf 8 0))), (54, .inl (xop (xf_push (.int 1) 1))), (55, .inl (xop (xf_bin (fun x y => x + y)))), (56, .inl (xo_putf 8 0 .int)), (59, .inl (xop (xf_aload 0 1))), (60, .inl (xop (xf_getf 8 0))), (63, .inr (.inr 1))]
set_option maxRecDepth 20000 in
theorem okpX8_add_1 (ev : xEv) : ∀ q ∈ pX8_add_1 ev, xEnOK ev xmi yX8_add.cls yX8_add.name cX8_add 5 (some .int) q :=
  List.forall_mem_cons.mpr ⟨(xOK_pure (xs_aload_n (k := 0) rfl (show decode cX8_add 33 = .ok (.aload_n 0, 1) by decide +kernel))),
  List.forall_mem_cons.mpr ⟨(xOK_pure (xs_getf xcl_8 (by decide) (show decode cX8_add 34 = .ok (.getfield 31, 3) by decide +kernel) xw_274)),
  List.forall_mem_cons.mpr ⟨(xOK_pure (xs_aload_n (k := 0) rfl (show decode cX8_add 37 = .ok (.aload_n 0, 1) by decide +kernel))),
  List.forall_mem_cons.mpr ⟨(xOK_pure (xs_getf xcl_8 (by decide) (show decode cX8_add 38 = .ok (.getfield 34, 3) by decide +kernel) xw_266)),
  List.forall_mem_cons.mpr ⟨(xOK_pure (xs_bipush (n := 60) (show decode cX8_add 41 = .ok (.bipush 60, 2) by decide +kernel) (by decide))),
  List.forall_mem_cons.mpr ⟨(xOK_pure (xs_imul (show decode cX8_add 43 = .ok (.imul, 1) by decide +kernel))),
  List.forall_mem_cons.mpr ⟨(xOK_pure (xs_iload (show decode cX8_add 44 = .ok (.iload 4, 2) by decide +kernel))),
  List.forall_mem_cons.mpr ⟨(xs_copy (show decode cX8_add 46 = .ok (.invokestatic 37, 3) by decide +kernel) xw_1033 xw_1035 xw_1034 xw_140),
  List.forall_mem_cons.mpr ⟨(xOK_pure (xs_aload_n (k := 0) rfl (show decode cX8_add 49 = .ok (.aload_n 0, 1) by decide +kernel))),
  List.forall_mem_cons.mpr ⟨(xOK_pure (xs_dup (show decode cX8_add 50 = .ok (.dup, 1) by decide +kernel))),
  List.forall_mem_cons.mpr ⟨(xOK_pure (xs_getf xcl_8 (by decide) (show decode cX8_add 51 = .ok (.getfield 34, 3) by decide +kernel) xw_266)),
  List.forall_mem_cons.mpr ⟨(xOK_pure (xs_iconst (n := 1) (show decode cX8_add 54 = .ok (.iconst 1, 1) by decide +kernel) (by decide))),
  List.forall_mem_cons.mpr ⟨(xOK_pure (xs_iadd (show decode cX8_add 55 = .ok (.iadd, 1) by decide +kernel))),
  List.forall_mem_cons.mpr ⟨(xs_putf (k := 0) xcl_8 (by decide) rfl (show decode cX8_add 56 = .ok (.putfield 34, 3) by decide +kernel) xw_266),
  List.forall_mem_cons.mpr ⟨(xOK_pure (xs_aload_n (k := 0) rfl (show decode cX8_add 59 = .ok (.aload_n 0, 1) by decide +kernel))),
  List.forall_mem_cons.mpr ⟨(xOK_pure (xs_getf xcl_8 (by decide) (show decode cX8_add 60 = .ok (.getfield 34, 3) by decide +kernel) xw_266)),
  List.forall_mem_cons.mpr ⟨(Or.inr (Or.inl ⟨rfl, (show decode cX8_add 63 = .ok (.ireturn, 1) by decide +kernel), rfl⟩)),
  (fun _ h => absurd h List.not_mem_nil)⟩⟩⟩⟩⟩⟩⟩⟩⟩⟩⟩⟩⟩⟩⟩⟩⟩
def pX8_add (ev : xEv) : List (Nat × xEn) := pX8_add_0 ev ++ (pX8_add_1 ev)
theorem okpX8_add (ev : xEv) : ∀ q ∈ pX8_add ev, xEnOK ev xmi yX8_add.cls yX8_add.name cX8_add 5 (some .int) q := List.forall_mem_append.mpr ⟨okpX8_add_0 ev, okpX8_add_1 ev⟩
theorem omX8_add (ev : xEv) : xMethOK ev xmi yX8_add.cls yX8_add.name 86 (pX8_add ev) := xMethOK.of mi_86 (by decide +kernel) (okpX8_add ev)
def pX8_inForce_0 (ev : xEv) : List (Nat × xEn) := [(0, .inl (xop (xf_push (.int (-1)) 1))), (1, .inl (xop (xf_istore 3 1))), (2, .inl (xop (xf_push (.int 0) 1))), (3, .inl (xop (xf_istore 4 2))), (5, .inl (xop (xf_iload 4 2))), (7, .inl (xop (xf_aload 0 1))), (8, .inl (xop (xf_getf 8 0))), (11, .inl (xop (xf_icmp_ge 78))), (14, .inl (xop (xf_aload 0 1))), (15, .inl (xop (xf_getf 8 3))), (18, .inl (xop (xf_iload 4 2))), (20, .inl (xop (xf_ald (ev.1 0)))), (21, .inl (xop (xf_iload 1 1))), (22, .inl (xop (xf_icmp_ne 40))), (25, .inl (xop (xf_aload 0 1))), (26, .inl (xop (xf_getf 8 4))), (29, .inl (xop (xf_iload 4 2))), (31, .inl (xop (xf_ald (ev.1 0)))), (32, .inl (xop (xf_iload 2 1))), (33, .inl (xop (xf_icmp_gt 40)))]
set_option maxRecDepth 20000 in
theorem okpX8_inForce_0 (ev : xEv) : ∀ q ∈ pX8_inForce_0 ev, xEnOK ev xmi yX8_inForce.cls yX8_inForce.name cX8_inForce 6 (some .int) q :=
  List.forall_mem_cons.mpr ⟨(xOK_pure (xs_iconst (n := (-1)) (show decode cX8_inForce 0 = .ok (.iconst (-1), 1) by decide +kernel) (by decide))),
  List.forall_mem_cons.mpr ⟨(xOK_pure (xs_istore_n (k := 3) rfl (show decode cX8_inForce 1 = .ok (.istore_n 3, 1) by decide +kernel) (by decide))),
  List.forall_mem_cons.mpr ⟨(xOK_pure (xs_iconst (n := 0) (show decode cX8_inForce 2 = .ok (.iconst 0, 1) by decide +kernel) (by decide))),
  List.forall_mem_cons.mpr ⟨(xOK_pure (xs_istore (show decode cX8_inForce 3 = .ok (.istore 4, 2) by decide +kernel) (by decide))),
  List.forall_mem_cons.mpr ⟨(xOK_pure (xs_iload (show decode cX8_inForce 5 = .ok (.iload 4, 2) by decide +kernel))),
  List.forall_mem_cons.mpr ⟨(xOK_pure (xs_aload_n (k := 0) rfl (show decode cX8_inForce 7 = .ok (.aload_n 0, 1) by decide +kernel))),
  List.forall_mem_cons.mpr ⟨(xOK_pure (xs_getf xcl_8 (by decide) (show decode cX8_inForce 8 = .ok (.getfield 34, 3) by decide +kernel) xw_266)),
  List.forall_mem_cons.mpr ⟨(xOK_pure (xs_icmp_ge (show decode cX8_inForce 11 = .ok (.if_icmp .ge 67, 3) by decide +kernel) (by decide))),
  List.forall_mem_cons.mpr ⟨(xOK_pure (xs_aload_n (k := 0) rfl (show decode cX8_inForce 14 = .ok (.aload_n 0, 1) by decide +kernel))),
  List.forall_mem_cons.mpr ⟨(xOK_pure (xs_getf xcl_8 (by decide) (show decode cX8_inForce 15 = .ok (.getfield 22, 3) by decide +kernel) xw_271)),
  List.forall_mem_cons.mpr ⟨(xOK_pure (xs_iload (show decode cX8_inForce 18 = .ok (.iload 4, 2) by decide +kernel))),
  List.forall_mem_cons.mpr ⟨(xOK_pure (xs_iald (show decode cX8_inForce 20 = .ok (.iaload, 1) by decide +kernel))),
  List.forall_mem_cons.mpr ⟨(xOK_pure (xs_iload_n (k := 1) rfl (show decode cX8_inForce 21 = .ok (.iload_n 1, 1) by decide +kernel))),
  List.forall_mem_cons.mpr ⟨(xOK_pure (xs_icmp_ne (show decode cX8_inForce 22 = .ok (.if_icmp .ne 18, 3) by decide +kernel) (by decide))),
  List.forall_mem_cons.mpr ⟨(xOK_pure (xs_aload_n (k := 0) rfl (show decode cX8_inForce 25 = .ok (.aload_n 0, 1) by decide +kernel))),
  List.forall_mem_cons.mpr ⟨(xOK_pure (xs_getf xcl_8 (by decide) (show decode cX8_inForce 26 = .ok (.getfield 25, 3) by decide +kernel) xw_272)),
  List.forall_mem_cons.mpr ⟨(xOK_pure (xs_iload (show decode cX8_inForce 29 = .ok (.iload 4, 2) by decide +kernel))),
  List.forall_mem_cons.mpr ⟨(xOK_pure (xs_iald (show decode cX8_inForce 31 = .ok (.iaload, 1) by decide +kernel))),
  List.forall_mem_cons.mpr ⟨(xOK_pure (xs_iload_n (k := 2) rfl (show decode cX8_inForce 32 = .ok (.iload_n 2, 1) by decide +kernel))),
  List.forall_mem_cons.mpr ⟨(xOK_pure (xs_icmp_gt (show decode cX8_inForce 33 = .ok (.if_icmp .gt 7, 3) by decide +kernel) (by decide))),
  (fun _ h => absurd h List.not_mem_nil)⟩⟩⟩⟩⟩⟩⟩⟩⟩⟩⟩⟩⟩⟩⟩⟩⟩⟩⟩⟩
def pX8_inForce_1 (ev : xEv) : List (Nat × xEn) := [(36, .inl (xop (xf_push (.int 1) 1))), (37, .inl (xop (xf_goto 41))), (40, .inl (xop (xf_push (.int 0) 1))), (41, .inl (xop (xf_istore 5 2))), (43, .inl (xop (xf_iload 5 2))), (45, .inl (xop (xf_if_eq 72))), (48, .inl (xop (xf_iload 3 1))), (49, .inl (xop (xf_push (.int (-1)) 1))), (50, .inl (xop (xf_icmp_eq 69))), (53, .inl (xop (xf_aload 0 1))), (54, .inl (xop (xf_getf 8 4))), (57, .inl (xop (xf_iload 4 2))), (59, .inl (xop (xf_ald (ev.1 0)))), (60, .inl (xop (xf_aload 0 1))), (61, .inl (xop (xf_getf 8 4))), (64, .inl (xop (xf_iload 3 1))), (65, .inl (xop (xf_ald (ev.1 0)))), (66, .inl (xop (xf_icmp_lt 72))), (69, .inl (xop (xf_iload 4 2))), (71, .inl (xop (xf_istore 3 1)))]
set_option maxRecDepth 20000 in
theorem okpX8_inForce_1 (ev : xEv) : ∀ q ∈ pX8_inForce_1 ev, xEnOK ev xmi yX8_inForce.cls yX8_inForce.name cX8_inForce 6 (some .int) q :=
  List.forall_mem_cons.mpr ⟨(xOK_pure (xs_iconst (n := 1) (show decode cX8_inForce 36 = .ok (.iconst 1, 1) by decide +kernel) (by decide))),
  List.forall_mem_cons.mpr ⟨(xOK_pure (xs_goto (show decode cX8_inForce 37 = .ok (.goto 4, 3) by decide +kernel) (by decide))),
  List.forall_mem_cons.mpr ⟨(xOK_pure (xs_iconst (n := 0) (show decode cX8_inForce 40 = .ok (.iconst 0, 1) by decide +kernel) (by decide))),
  List.forall_mem_cons.mpr ⟨(xOK_pure (xs_istore (show decode cX8_inForce 41 = .ok (.istore 5, 2) by decide +kernel) (by decide))),
  List.forall_mem_cons.mpr ⟨(xOK_pure (xs_iload (show decode cX8_inForce 43 = .ok (.iload 5, 2) by decide +kernel))),
  List.forall_mem_cons.mpr ⟨(xOK_pure (xs_if_eq (show decode cX8_inForce 45 = .ok (.ifCond .eq 27, 3) by decide +kernel) (by decide))),
  List.forall_mem_cons.mpr ⟨(xOK_pure (xs_iload_n (k := 3) rfl (show decode cX8_inForce 48 = .ok (.iload_n 3, 1) by decide +kernel))),
  List.forall_mem_cons.mpr ⟨(xOK_pure (xs_iconst (n := (-1)) (show decode cX8_inForce 49 = .ok (.iconst (-1), 1) by decide +kernel) (by decide))),
  List.forall_mem_cons.mpr ⟨(xOK_pure (xs_icmp_eq (show decode cX8_inForce 50 = .ok (.if_icmp .eq 19, 3) by decide +kernel) (by decide))),
  List.forall_mem_cons.mpr ⟨(xOK_pure (xs_aload_n (k := 0) rfl (show decode cX8_inForce 53 = .ok (.aload_n 0, 1) by decide +kernel))),
  List.forall_mem_cons.mpr ⟨(xOK_pure (xs_getf xcl_8 (by decide) (show decode cX8_inForce 54 = .ok (.getfield 25, 3) by decide +kernel) xw_272)),
  List.forall_mem_cons.mpr ⟨(xOK_pure (xs_iload (show decode cX8_inForce 57 = .ok (.iload 4, 2) by decide +kernel))),
  List.forall_mem_cons.mpr ⟨(xOK_pure (xs_iald (show decode cX8_inForce 59 = .ok (.iaload, 1) by decide +kernel))),
  List.forall_mem_cons.mpr ⟨(xOK_pure (xs_aload_n (k := 0) rfl (show decode cX8_inForce 60 = .ok (.aload_n 0, 1) by decide +kernel))),
  List.forall_mem_cons.mpr ⟨(xOK_pure (xs_getf xcl_8 (by decide) (show decode cX8_inForce 61 = .ok (.getfield 25, 3) by decide +kernel) xw_272)),
  List.forall_mem_cons.mpr ⟨(xOK_pure (xs_iload_n (k := 3) rfl (show decode cX8_inForce 64 = .ok (.iload_n 3, 1) by decide +kernel))),
  List.forall_mem_cons.mpr ⟨(xOK_pure (xs_iald (show decode cX8_inForce 65 = .ok (.iaload, 1) by decide +kernel))),
  List.forall_mem_cons.mpr ⟨(xOK_pure (xs_icmp_lt (show decode cX8_inForce 66 = .ok (.if_icmp .lt 6, 3) by decide +kernel) (by decide))),
  List.forall_mem_cons.mpr ⟨(xOK_pure (xs_iload (show decode cX8_inForce 69 = .ok (.iload 4, 2) by decide +kernel))),
  List.forall_mem_cons.mpr ⟨(xOK_pure (xs_istore_n (k := 3) rfl (show decode cX8_inForce 71 = .ok (.istore_n 3, 1) by decide +kernel) (by decide))),
  (fun _ h => absurd h List.not_mem_nil)⟩⟩⟩⟩⟩⟩⟩⟩⟩⟩⟩⟩⟩⟩⟩⟩⟩⟩⟩⟩
def pX8_inForce_2 (ev : xEv) : List (Nat × xEn) := [(72, .inl (xop (xf_iinc 4 1))), (75, .inl (xop (xf_goto 5))), (78, .inl (xop (xf_iload 3 1))), (79, .inr (.inr 1))]
set_option maxRecDepth 20000 in
theorem okpX8_inForce_2 (ev : xEv) : ∀ q ∈ pX8_inForce_2 ev, xEnOK ev xmi yX8_inForce.cls yX8_inForce.name cX8_inForce 6 (some .int) q :=
  List.forall_mem_cons.mpr ⟨(xOK_pure (xs_iinc (n := 1) (show decode cX8_inForce 72 = .ok (.iinc 4 1, 3) by decide +kernel) (by decide) (by decide))),
  List.forall_mem_cons.mpr ⟨(xOK_pure (xs_goto (show decode cX8_inForce 75 = .ok (.goto (-70), 3) by decide +kernel) (by decide))),
  List.forall_mem_cons.mpr ⟨(xOK_pure (xs_iload_n (k := 3) rfl (show decode cX8_inForce 78 = .ok (.iload_n 3, 1) by decide +kernel))),
  List.forall_mem_cons.mpr ⟨(Or.inr (Or.inl ⟨rfl, (show decode cX8_inForce 79 = .ok (.ireturn, 1) by decide +kernel), rfl⟩)),
  (fun _ h => absurd h List.not_mem_nil)⟩⟩⟩⟩
def pX8_inForce (ev : xEv) : List (Nat × xEn) := pX8_inForce_0 ev ++ (pX8_inForce_1 ev ++ (pX8_inForce_2 ev))
theorem okpX8_inForce (ev : xEv) : ∀ q ∈ pX8_inForce ev, xEnOK ev xmi yX8_inForce.cls yX8_inForce.name cX8_inForce 6 (some .int) q := List.forall_mem_append.mpr ⟨okpX8_inForce_0 ev, List.forall_mem_append.mpr ⟨okpX8_inForce_1 ev, okpX8_inForce_2 ev⟩⟩
theorem omX8_inForce (ev : xEv) : xMethOK ev xmi yX8_inForce.cls yX8_inForce.name 87 (pX8_inForce ev) := xMethOK.of mi_87 (by decide +kernel) (okpX8_inForce ev)
def pX8_put (ev : xEv) : List (Nat × xEn) := [(0, .inl (xop (xf_iload 1 1))), (1, .inl (xop (xf_push (.int 97) 2))), (3, .inl (xop (xf_bin (fun x y => x - y)))), (4, .inl (xop (xf_istore 3 1))), (5, .inl (xop (xf_iload 3 1))), (6, .inl (xop (xf_if_lt 22))), (9, .inl (xop (xf_iload 3 1))), (10, .inl (xop (xf_push (.int 26) 2))), (12, .inl (xop (xf_icmp_ge 22))), (15, .inl (xop (xf_aload 0 1))), (16, .inl (xop (xf_getf 8 2))), (19, .inl (xop (xf_iload 3 1))), (20, .inl (xop (xf_iload 2 1))), (21, .inl (xo_ast (ev.1 0) (fun x => x))), (22, .inr (.inr 0))]
set_option maxRecDepth 20000 in
theorem okpX8_put (ev : xEv) : ∀ q ∈ pX8_put ev, xEnOK ev xmi yX8_put.cls yX8_put.name cX8_put 4 none q :=
  List.forall_mem_cons.mpr ⟨(xOK_pure (xs_iload_n (k := 1) rfl (show decode cX8_put 0 = .ok (.iload_n 1, 1) by decide +kernel))),
  List.forall_mem_cons.mpr ⟨(xOK_pure (xs_bipush (n := 97) (show decode cX8_put 1 = .ok (.bipush 97, 2) by decide +kernel) (by decide))),
  List.forall_mem_cons.mpr ⟨(xOK_pure (xs_isub (show decode cX8_put 3 = .ok (.isub, 1) by decide +kernel))),
  List.forall_mem_cons.mpr ⟨(xOK_pure (xs_istore_n (k := 3) rfl (show decode cX8_put 4 = .ok (.istore_n 3, 1) by decide +kernel) (by decide))),
  List.forall_mem_cons.mpr ⟨(xOK_pure (xs_iload_n (k := 3) rfl (show decode cX8_put 5 = .ok (.iload_n 3, 1) by decide +kernel))),
  List.forall_mem_cons.mpr ⟨(xOK_pure (xs_if_lt (show decode cX8_put 6 = .ok (.ifCond .lt 16, 3) by decide +kernel) (by decide))),
  List.forall_mem_cons.mpr ⟨(xOK_pure (xs_iload_n (k := 3) rfl (show decode cX8_put 9 = .ok (.iload_n 3, 1) by decide +kernel))),
  List.forall_mem_cons.mpr ⟨(xOK_pure (xs_bipush (n := 26) (show decode cX8_put 10 = .ok (.bipush 26, 2) by decide +kernel) (by decide))),
  List.forall_mem_cons.mpr ⟨(xOK_pure (xs_icmp_ge (show decode cX8_put 12 = .ok (.if_icmp .ge 10, 3) by decide +kernel) (by decide))),
  List.forall_mem_cons.mpr ⟨(xOK_pure (xs_aload_n (k := 0) rfl (show decode cX8_put 15 = .ok (.aload_n 0, 1) by decide +kernel))),
  List.forall_mem_cons.mpr ⟨(xOK_pure (xs_getf xcl_8 (by decide) (show decode cX8_put 16 = .ok (.getfield 15, 3) by decide +kernel) xw_270)),
  List.forall_mem_cons.mpr ⟨(xOK_pure (xs_iload_n (k := 3) rfl (show decode cX8_put 19 = .ok (.iload_n 3, 1) by decide +kernel))),
  List.forall_mem_cons.mpr ⟨(xOK_pure (xs_iload_n (k := 2) rfl (show decode cX8_put 20 = .ok (.iload_n 2, 1) by decide +kernel))),
  List.forall_mem_cons.mpr ⟨(xs_iast (show decode cX8_put 21 = .ok (.iastore, 1) by decide +kernel)),
  List.forall_mem_cons.mpr ⟨(Or.inl ⟨rfl, (show decode cX8_put 22 = .ok (.return_, 1) by decide +kernel), rfl⟩),
  (fun _ h => absurd h List.not_mem_nil)⟩⟩⟩⟩⟩⟩⟩⟩⟩⟩⟩⟩⟩⟩⟩
theorem omX8_put (ev : xEv) : xMethOK ev xmi yX8_put.cls yX8_put.name 88 (pX8_put ev) := xMethOK.of mi_88 (by decide +kernel) (okpX8_put ev)
def pX8_run_0 (ev : xEv) : List (Nat × xEn) := [(0, .inl (xop (xf_aload 0 1))), (1, .inl (xop (xf_push (.int (-2)) 2))), (3, .inl (xo_putf 8 1 .int)), (6, .inl (xop (xf_iload 1 1))), (7, .inl (xop (xf_push (.int 0) 1))), (8, .inl (xop (xf_aload 0 1))), (9, .inl (xop (xf_getf 8 0))), (12, .inl (xop (xf_push (.int 1) 1))), (13, .inl (xop (xf_bin (fun x y => x - y)))), (14, .inr (.inl (3, 183, 3, 11))), (17, .inl (xop (xf_if_ne 22))), (20, .inl (xop (xf_iload 2 1))), (21, .inr (.inr 1)), (22, .inl (xop (xf_push (.int 0) 1))), (23, .inl (xop (xf_istore 3 1))), (24, .inl (xop (xf_push (.int 0) 1))), (25, .inl (xop (xf_istore 4 2))), (27, .inl (xop (xf_push (.int 0) 1))), (28, .inl (xop (xf_istore 5 2))), (30, .inl (xop (xf_iload 5 2)))]
set_option maxRecDepth 20000 in
theorem okpX8_run_0 (ev : xEv) : ∀ q ∈ pX8_run_0 ev, xEnOK ev xmi yX8_run.cls yX8_run.name cX8_run 7 (some .int) q :=
  List.forall_mem_cons.mpr ⟨(xOK_pure (xs_aload_n (k := 0) rfl (show decode cX8_run 0 = .ok (.aload_n 0, 1) by decide +kernel))),
  List.forall_mem_cons.mpr ⟨(xOK_pure (xs_bipush (n := (-2)) (show decode cX8_run 1 = .ok (.bipush (-2), 2) by decide +kernel) (by decide))),
  List.forall_mem_cons.mpr ⟨(xs_putf (k := 1) xcl_8 (by decide) rfl (show decode cX8_run 3 = .ok (.putfield 11, 3) by decide +kernel) xw_268),
  List.forall_mem_cons.mpr ⟨(xOK_pure (xs_iload_n (k := 1) rfl (show decode cX8_run 6 = .ok (.iload_n 1, 1) by decide +kernel))),
  List.forall_mem_cons.mpr ⟨(xOK_pure (xs_iconst (n := 0) (show decode cX8_run 7 = .ok (.iconst 0, 1) by decide +kernel) (by decide))),
  List.forall_mem_cons.mpr ⟨(xOK_pure (xs_aload_n (k := 0) rfl (show decode cX8_run 8 = .ok (.aload_n 0, 1) by decide +kernel))),
  List.forall_mem_cons.mpr ⟨(xOK_pure (xs_getf xcl_8 (by decide) (show decode cX8_run 9 = .ok (.getfield 34, 3) by decide +kernel) xw_266)),
  List.forall_mem_cons.mpr ⟨(xOK_pure (xs_iconst (n := 1) (show decode cX8_run 12 = .ok (.iconst 1, 1) by decide +kernel) (by decide))),
  List.forall_mem_cons.mpr ⟨(xOK_pure (xs_isub (show decode cX8_run 13 = .ok (.isub, 1) by decide +kernel))),
  List.forall_mem_cons.mpr ⟨(xcm mi_183 ⟨⟨(by decide +kernel), (by decide +kernel), (by decide +kernel)⟩, (by decide), xw_480, xw_118, Or.inr (Or.inr (Or.inr (Or.inl ⟨rfl, _, _, (show decode cX8_run 14 = .ok (.invokestatic 43, 3) by decide +kernel), xwn_1192, xw_479⟩)))⟩),
  List.forall_mem_cons.mpr ⟨(xOK_pure (xs_if_ne (show decode cX8_run 17 = .ok (.ifCond .ne 5, 3) by decide +kernel) (by decide))),
  List.forall_mem_cons.mpr ⟨(xOK_pure (xs_iload_n (k := 2) rfl (show decode cX8_run 20 = .ok (.iload_n 2, 1) by decide +kernel))),
  List.forall_mem_cons.mpr ⟨(Or.inr (Or.inl ⟨rfl, (show decode cX8_run 21 = .ok (.ireturn, 1) by decide +kernel), rfl⟩)),
  List.forall_mem_cons.mpr ⟨(xOK_pure (xs_iconst (n := 0) (show decode cX8_run 22 = .ok (.iconst 0, 1) by decide +kernel) (by decide))),
  List.forall_mem_cons.mpr ⟨(xOK_pure (xs_istore_n (k := 3) rfl (show decode cX8_run 23 = .ok (.istore_n 3, 1) by decide +kernel) (by decide))),
  List.forall_mem_cons.mpr ⟨(xOK_pure (xs_iconst (n := 0) (show decode cX8_run 24 = .ok (.iconst 0, 1) by decide +kernel) (by decide))),
  List.forall_mem_cons.mpr ⟨(xOK_pure (xs_istore (show decode cX8_run 25 = .ok (.istore 4, 2) by decide +kernel) (by decide))),
  List.forall_mem_cons.mpr ⟨(xOK_pure (xs_iconst (n := 0) (show decode cX8_run 27 = .ok (.iconst 0, 1) by decide +kernel) (by decide))),
  List.forall_mem_cons.mpr ⟨(xOK_pure (xs_istore (show decode cX8_run 28 = .ok (.istore 5, 2) by decide +kernel) (by decide))),
  List.forall_mem_cons.mpr ⟨(xOK_pure (xs_iload (show decode cX8_run 30 = .ok (.iload 5, 2) by decide +kernel))),
  (fun _ h => absurd h List.not_mem_nil)⟩⟩⟩⟩⟩⟩⟩⟩⟩⟩⟩⟩⟩⟩⟩⟩⟩⟩⟩⟩
def pX8_run_1 (ev : xEv) : List (Nat × xEn) := [(32, .inl (xop (xf_aload 0 1))), (33, .inl (xop (xf_getf 8 5))), (36, .inl (xop (xf_iload 1 1))), (37, .inl (xop (xf_ald (ev.1 0)))), (38, .inl (xop (xf_icmp_ge 113))), (41, .inl (xop (xf_aload 0 1))), (42, .inl (xop (xf_getf 8 6))), (45, .inl (xop (xf_iload 1 1))), (46, .inl (xop (xf_push (.int 60) 2))), (48, .inl (xop (xf_bin (fun x y => x * y)))), (49, .inl (xop (xf_iload 5 2))), (51, .inl (xop (xf_bin (fun x y => x + y)))), (52, .inl (xop (xf_ald (ev.1 0)))), (53, .inl (xop (xf_istore 6 2))), (55, .inl (xop (xf_iload 6 2))), (57, .inl (xop (xf_push (.int 3000) 3))), (60, .inl (xop (xf_icmp_ge 74))), (63, .inl (xop (xf_aload 0 1))), (64, .inl (xop (xf_iload 6 2))), (66, .inl (xop (xf_iload 3 1)))]
set_option maxRecDepth 20000 in
theorem okpX8_run_1 (ev : xEv) : ∀ q ∈ pX8_run_1 ev, xEnOK ev xmi yX8_run.cls yX8_run.name cX8_run 7 (some .int) q :=
  List.forall_mem_cons.mpr ⟨(xOK_pure (xs_aload_n (k := 0) rfl (show decode cX8_run 32 = .ok (.aload_n 0, 1) by decide +kernel))),
  List.forall_mem_cons.mpr ⟨(xOK_pure (xs_getf xcl_8 (by decide) (show decode cX8_run 33 = .ok (.getfield 28, 3) by decide +kernel) xw_273)),
  List.forall_mem_cons.mpr ⟨(xOK_pure (xs_iload_n (k := 1) rfl (show decode cX8_run 36 = .ok (.iload_n 1, 1) by decide +kernel))),
  List.forall_mem_cons.mpr ⟨(xOK_pure (xs_iald (show decode cX8_run 37 = .ok (.iaload, 1) by decide +kernel))),
  List.forall_mem_cons.mpr ⟨(xOK_pure (xs_icmp_ge (show decode cX8_run 38 = .ok (.if_icmp .ge 75, 3) by decide +kernel) (by decide))),
  List.forall_mem_cons.mpr ⟨(xOK_pure (xs_aload_n (k := 0) rfl (show decode cX8_run 41 = .ok (.aload_n 0, 1) by decide +kernel))),
  List.forall_mem_cons.mpr ⟨(xOK_pure (xs_getf xcl_8 (by decide) (show decode cX8_run 42 = .ok (.getfield 31, 3) by decide +kernel) xw_274)),
  List.forall_mem_cons.mpr ⟨(xOK_pure (xs_iload_n (k := 1) rfl (show decode cX8_run 45 = .ok (.iload_n 1, 1) by decide +kernel))),
  List.forall_mem_cons.mpr ⟨(xOK_pure (xs_bipush (n := 60) (show decode cX8_run 46 = .ok (.bipush 60, 2) by decide +kernel) (by decide))),
  List.forall_mem_cons.mpr ⟨(xOK_pure (xs_imul (show decode cX8_run 48 = .ok (.imul, 1) by decide +kernel))),
  List.forall_mem_cons.mpr ⟨(xOK_pure (xs_iload (show decode cX8_run 49 = .ok (.iload 5, 2) by decide +kernel))),
  List.forall_mem_cons.mpr ⟨(xOK_pure (xs_iadd (show decode cX8_run 51 = .ok (.iadd, 1) by decide +kernel))),
  List.forall_mem_cons.mpr ⟨(xOK_pure (xs_iald (show decode cX8_run 52 = .ok (.iaload, 1) by decide +kernel))),
  List.forall_mem_cons.mpr ⟨(xOK_pure (xs_istore (show decode cX8_run 53 = .ok (.istore 6, 2) by decide +kernel) (by decide))),
  List.forall_mem_cons.mpr ⟨(xOK_pure (xs_iload (show decode cX8_run 55 = .ok (.iload 6, 2) by decide +kernel))),
  List.forall_mem_cons.mpr ⟨(xOK_pure (xs_sipush (n := 3000) (show decode cX8_run 57 = .ok (.sipush 3000, 3) by decide +kernel) (by decide))),
  List.forall_mem_cons.mpr ⟨(xOK_pure (xs_icmp_ge (show decode cX8_run 60 = .ok (.if_icmp .ge 14, 3) by decide +kernel) (by decide))),
  List.forall_mem_cons.mpr ⟨(xOK_pure (xs_aload_n (k := 0) rfl (show decode cX8_run 63 = .ok (.aload_n 0, 1) by decide +kernel))),
  List.forall_mem_cons.mpr ⟨(xOK_pure (xs_iload (show decode cX8_run 64 = .ok (.iload 6, 2) by decide +kernel))),
  List.forall_mem_cons.mpr ⟨(xOK_pure (xs_iload_n (k := 3) rfl (show decode cX8_run 66 = .ok (.iload_n 3, 1) by decide +kernel))),
  (fun _ h => absurd h List.not_mem_nil)⟩⟩⟩⟩⟩⟩⟩⟩⟩⟩⟩⟩⟩⟩⟩⟩⟩⟩⟩⟩
def pX8_run_2 (ev : xEv) : List (Nat × xEn) := [(67, .inr (.inl (0, 90, 2, 8))), (70, .inl (xop (xf_istore 3 1))), (71, .inl (xop (xf_goto 107))), (74, .inl (xop (xf_iload 3 1))), (75, .inl (xop (xf_if_le 102))), (78, .inl (xop (xf_aload 0 1))), (79, .inl (xop (xf_getf 8 7))), (82, .inl (xop (xf_iload 3 1))), (83, .inl (xop (xf_push (.int 1) 1))), (84, .inl (xop (xf_bin (fun x y => x - y)))), (85, .inl (xop (xf_ald (ev.1 0)))), (86, .inl (xop (xf_if_eq 102))), (89, .inl (xop (xf_aload 0 1))), (90, .inl (xop (xf_iload 4 2))), (92, .inl (xo_putf 8 1 .int)), (95, .inl (xop (xf_iload 6 2))), (97, .inl (xop (xf_push (.int 3000) 3))), (100, .inl (xop (xf_bin (fun x y => x - y)))), (101, .inr (.inr 1)), (102, .inl (xop (xf_push (.int 0) 1)))]
set_option maxRecDepth 20000 in
theorem okpX8_run_2 (ev : xEv) : ∀ q ∈ pX8_run_2 ev, xEnOK ev xmi yX8_run.cls yX8_run.name cX8_run 7 (some .int) q :=
  List.forall_mem_cons.mpr ⟨(xcm mi_90 ⟨⟨(by decide +kernel), (by decide +kernel), (by decide +kernel)⟩, (by decide), xw_1196, xw_122, Or.inl ⟨rfl, _, _, _, _, (show decode cX8_run 67 = .ok (.invokevirtual 47, 3) by decide +kernel), xw_1193, xw_1195, xw_31, rfl⟩⟩),
  List.forall_mem_cons.mpr ⟨(xOK_pure (xs_istore_n (k := 3) rfl (show decode cX8_run 70 = .ok (.istore_n 3, 1) by decide +kernel) (by decide))),
  List.forall_mem_cons.mpr ⟨(xOK_pure (xs_goto (show decode cX8_run 71 = .ok (.goto 36, 3) by decide +kernel) (by decide))),
  List.forall_mem_cons.mpr ⟨(xOK_pure (xs_iload_n (k := 3) rfl (show decode cX8_run 74 = .ok (.iload_n 3, 1) by decide +kernel))),
  List.forall_mem_cons.mpr ⟨(xOK_pure (xs_if_le (show decode cX8_run 75 = .ok (.ifCond .le 27, 3) by decide +kernel) (by decide))),
  List.forall_mem_cons.mpr ⟨(xOK_pure (xs_aload_n (k := 0) rfl (show decode cX8_run 78 = .ok (.aload_n 0, 1) by decide +kernel))),
  List.forall_mem_cons.mpr ⟨(xOK_pure (xs_getf xcl_8 (by decide) (show decode cX8_run 79 = .ok (.getfield 19, 3) by decide +kernel) xw_275)),
  List.forall_mem_cons.mpr ⟨(xOK_pure (xs_iload_n (k := 3) rfl (show decode cX8_run 82 = .ok (.iload_n 3, 1) by decide +kernel))),
  List.forall_mem_cons.mpr ⟨(xOK_pure (xs_iconst (n := 1) (show decode cX8_run 83 = .ok (.iconst 1, 1) by decide +kernel) (by decide))),
  List.forall_mem_cons.mpr ⟨(xOK_pure (xs_isub (show decode cX8_run 84 = .ok (.isub, 1) by decide +kernel))),
  List.forall_mem_cons.mpr ⟨(xOK_pure (xs_iald (show decode cX8_run 85 = .ok (.iaload, 1) by decide +kernel))),
  List.forall_mem_cons.mpr ⟨(xOK_pure (xs_if_eq (show decode cX8_run 86 = .ok (.ifCond .eq 16, 3) by decide +kernel) (by decide))),
  List.forall_mem_cons.mpr ⟨(xOK_pure (xs_aload_n (k := 0) rfl (show decode cX8_run 89 = .ok (.aload_n 0, 1) by decide +kernel))),
  List.forall_mem_cons.mpr ⟨(xOK_pure (xs_iload (show decode cX8_run 90 = .ok (.iload 4, 2) by decide +kernel))),
  List.forall_mem_cons.mpr ⟨(xs_putf (k := 1) xcl_8 (by decide) rfl (show decode cX8_run 92 = .ok (.putfield 11, 3) by decide +kernel) xw_268),
  List.forall_mem_cons.mpr ⟨(xOK_pure (xs_iload (show decode cX8_run 95 = .ok (.iload 6, 2) by decide +kernel))),
  List.forall_mem_cons.mpr ⟨(xOK_pure (xs_sipush (n := 3000) (show decode cX8_run 97 = .ok (.sipush 3000, 3) by decide +kernel) (by decide))),
  List.forall_mem_cons.mpr ⟨(xOK_pure (xs_isub (show decode cX8_run 100 = .ok (.isub, 1) by decide +kernel))),
  List.forall_mem_cons.mpr ⟨(Or.inr (Or.inl ⟨rfl, (show decode cX8_run 101 = .ok (.ireturn, 1) by decide +kernel), rfl⟩)),
  List.forall_mem_cons.mpr ⟨(xOK_pure (xs_iconst (n := 0) (show decode cX8_run 102 = .ok (.iconst 0, 1) by decide +kernel) (by decide))),
  (fun _ h => absurd h List.not_mem_nil)⟩⟩⟩⟩⟩⟩⟩⟩⟩⟩⟩⟩⟩⟩⟩⟩⟩⟩⟩⟩
def pX8_run_3 (ev : xEv) : List (Nat × xEn) := [(103, .inl (xop (xf_istore 3 1))), (104, .inl (xop (xf_iinc 4 1))), (107, .inl (xop (xf_iinc 5 1))), (110, .inl (xop (xf_goto 30))), (113, .inl (xop (xf_iload 3 1))), (114, .inl (xop (xf_if_le 128))), (117, .inl (xop (xf_aload 0 1))), (118, .inl (xop (xf_getf 8 7))), (121, .inl (xop (xf_iload 3 1))), (122, .inl (xop (xf_push (.int 1) 1))), (123, .inl (xop (xf_bin (fun x y => x - y)))), (124, .inl (xop (xf_ald (ev.1 0)))), (125, .inl (xop (xf_goto 129))), (128, .inl (xop (xf_iload 2 1))), (129, .inr (.inr 1))]
set_option maxRecDepth 20000 in
theorem okpX8_run_3 (ev : xEv) : ∀ q ∈ pX8_run_3 ev, xEnOK ev xmi yX8_run.cls yX8_run.name cX8_run 7 (some .int) q :=
  List.forall_mem_cons.mpr ⟨(xOK_pure (xs_istore_n (k := 3) rfl (show decode cX8_run 103 = .ok (.istore_n 3, 1) by decide +kernel) (by decide))),
  List.forall_mem_cons.mpr ⟨(xOK_pure (xs_iinc (n := 1) (show decode cX8_run 104 = .ok (.iinc 4 1, 3) by decide +kernel) (by decide) (by decide))),
  List.forall_mem_cons.mpr ⟨(xOK_pure (xs_iinc (n := 1) (show decode cX8_run 107 = .ok (.iinc 5 1, 3) by decide +kernel) (by decide) (by decide))),
  List.forall_mem_cons.mpr ⟨(xOK_pure (xs_goto (show decode cX8_run 110 = .ok (.goto (-80), 3) by decide +kernel) (by decide))),
  List.forall_mem_cons.mpr ⟨(xOK_pure (xs_iload_n (k := 3) rfl (show decode cX8_run 113 = .ok (.iload_n 3, 1) by decide +kernel))),
  List.forall_mem_cons.mpr ⟨(xOK_pure (xs_if_le (show decode cX8_run 114 = .ok (.ifCond .le 14, 3) by decide +kernel) (by decide))),
  List.forall_mem_cons.mpr ⟨(xOK_pure (xs_aload_n (k := 0) rfl (show decode cX8_run 117 = .ok (.aload_n 0, 1) by decide +kernel))),
  List.forall_mem_cons.mpr ⟨(xOK_pure (xs_getf xcl_8 (by decide) (show decode cX8_run 118 = .ok (.getfield 19, 3) by decide +kernel) xw_275)),
  List.forall_mem_cons.mpr ⟨(xOK_pure (xs_iload_n (k := 3) rfl (show decode cX8_run 121 = .ok (.iload_n 3, 1) by decide +kernel))),
  List.forall_mem_cons.mpr ⟨(xOK_pure (xs_iconst (n := 1) (show decode cX8_run 122 = .ok (.iconst 1, 1) by decide +kernel) (by decide))),
  List.forall_mem_cons.mpr ⟨(xOK_pure (xs_isub (show decode cX8_run 123 = .ok (.isub, 1) by decide +kernel))),
  List.forall_mem_cons.mpr ⟨(xOK_pure (xs_iald (show decode cX8_run 124 = .ok (.iaload, 1) by decide +kernel))),
  List.forall_mem_cons.mpr ⟨(xOK_pure (xs_goto (show decode cX8_run 125 = .ok (.goto 4, 3) by decide +kernel) (by decide))),
  List.forall_mem_cons.mpr ⟨(xOK_pure (xs_iload_n (k := 2) rfl (show decode cX8_run 128 = .ok (.iload_n 2, 1) by decide +kernel))),
  List.forall_mem_cons.mpr ⟨(Or.inr (Or.inl ⟨rfl, (show decode cX8_run 129 = .ok (.ireturn, 1) by decide +kernel), rfl⟩)),
  (fun _ h => absurd h List.not_mem_nil)⟩⟩⟩⟩⟩⟩⟩⟩⟩⟩⟩⟩⟩⟩⟩
def pX8_run (ev : xEv) : List (Nat × xEn) := pX8_run_0 ev ++ (pX8_run_1 ev ++ (pX8_run_2 ev ++ (pX8_run_3 ev)))
theorem okpX8_run (ev : xEv) : ∀ q ∈ pX8_run ev, xEnOK ev xmi yX8_run.cls yX8_run.name cX8_run 7 (some .int) q := List.forall_mem_append.mpr ⟨okpX8_run_0 ev, List.forall_mem_append.mpr ⟨okpX8_run_1 ev, List.forall_mem_append.mpr ⟨okpX8_run_2 ev, okpX8_run_3 ev⟩⟩⟩
theorem omX8_run (ev : xEv) : xMethOK ev xmi yX8_run.cls yX8_run.name 89 (pX8_run ev) := xMethOK.of mi_89 (by decide +kernel) (okpX8_run ev)
def pX8_work_0 (ev : xEv) : List (Nat × xEn) := [(0, .inl (xop (xf_iload 1 1))), (1, .inl (xop (xf_push (.int 2000) 3))), (4, .inl (xop (xf_icmp_ge 49))), (7, .inl (xop (xf_iload 2 1))), (8, .inl (xop (xf_aload 0 1))), (9, .inl (xop (xf_getf 8 7))), (12, .inl (xop (xf_alen (ev.1 0)))), (13, .inl (xop (xf_icmp_lt 18))), (16, .inl (xop (xf_iload 2 1))), (17, .inr (.inr 1)), (18, .inl (xop (xf_aload 0 1))), (19, .inl (xop (xf_getf 8 7))), (22, .inl (xop (xf_iload 2 1))), (23, .inl (xop (xf_iload 1 1))), (24, .inl (xop (xf_push (.int 1000) 3))), (27, .inl (xop (xf_icmp_ge 34))), (30, .inl (xop (xf_iload 1 1))), (31, .inl (xop (xf_goto 44))), (34, .inl (xop (xf_aload 0 1))), (35, .inl (xop (xf_getf 8 2)))]
set_option maxRecDepth 20000 in
theorem okpX8_work_0 (ev : xEv) : ∀ q ∈ pX8_work_0 ev, xEnOK ev xmi yX8_work.cls yX8_work.name cX8_work 4 (some .int) q :=
  List.forall_mem_cons.mpr ⟨(xOK_pure (xs_iload_n (k := 1) rfl (show decode cX8_work 0 = .ok (.iload_n 1, 1) by decide +kernel))),
  List.forall_mem_cons.mpr ⟨(xOK_pure (xs_sipush (n := 2000) (show decode cX8_work 1 = .ok (.sipush 2000, 3) by decide +kernel) (by decide))),
  List.forall_mem_cons.mpr ⟨(xOK_pure (xs_icmp_ge (show decode cX8_work 4 = .ok (.if_icmp .ge 45, 3) by decide +kernel) (by decide))),
  List.forall_mem_cons.mpr ⟨(xOK_pure (xs_iload_n (k := 2) rfl (show decode cX8_work 7 = .ok (.iload_n 2, 1) by decide +kernel))),
  List.forall_mem_cons.mpr ⟨(xOK_pure (xs_aload_n (k := 0) rfl (show decode cX8_work 8 = .ok (.aload_n 0, 1) by decide +kernel))),
  List.forall_mem_cons.mpr ⟨(xOK_pure (xs_getf xcl_8 (by decide) (show decode cX8_work 9 = .ok (.getfield 19, 3) by decide +kernel) xw_275)),
  List.forall_mem_cons.mpr ⟨(xOK_pure (xs_alen (t := 0) rfl (show decode cX8_work 12 = .ok (.arraylength, 1) by decide +kernel))),
  List.forall_mem_cons.mpr ⟨(xOK_pure (xs_icmp_lt (show decode cX8_work 13 = .ok (.if_icmp .lt 5, 3) by decide +kernel) (by decide))),
  List.forall_mem_cons.mpr ⟨(xOK_pure (xs_iload_n (k := 2) rfl (show decode cX8_work 16 = .ok (.iload_n 2, 1) by decide +kernel))),
  List.forall_mem_cons.mpr ⟨(Or.inr (Or.inl ⟨rfl, (show decode cX8_work 17 = .ok (.ireturn, 1) by decide +kernel), rfl⟩)),
  List.forall_mem_cons.mpr ⟨(xOK_pure (xs_aload_n (k := 0) rfl (show decode cX8_work 18 = .ok (.aload_n 0, 1) by decide +kernel))),
  List.forall_mem_cons.mpr ⟨(xOK_pure (xs_getf xcl_8 (by decide) (show decode cX8_work 19 = .ok (.getfield 19, 3) by decide +kernel) xw_275)),
  List.forall_mem_cons.mpr ⟨(xOK_pure (xs_iload_n (k := 2) rfl (show decode cX8_work 22 = .ok (.iload_n 2, 1) by decide +kernel))),
  List.forall_mem_cons.mpr ⟨(xOK_pure (xs_iload_n (k := 1) rfl (show decode cX8_work 23 = .ok (.iload_n 1, 1) by decide +kernel))),
  List.forall_mem_cons.mpr ⟨(xOK_pure (xs_sipush (n := 1000) (show decode cX8_work 24 = .ok (.sipush 1000, 3) by decide +kernel) (by decide))),
  List.forall_mem_cons.mpr ⟨(xOK_pure (xs_icmp_ge (show decode cX8_work 27 = .ok (.if_icmp .ge 7, 3) by decide +kernel) (by decide))),
  List.forall_mem_cons.mpr ⟨(xOK_pure (xs_iload_n (k := 1) rfl (show decode cX8_work 30 = .ok (.iload_n 1, 1) by decide +kernel))),
  List.forall_mem_cons.mpr ⟨(xOK_pure (xs_goto (show decode cX8_work 31 = .ok (.goto 13, 3) by decide +kernel) (by decide))),
  List.forall_mem_cons.mpr ⟨(xOK_pure (xs_aload_n (k := 0) rfl (show decode cX8_work 34 = .ok (.aload_n 0, 1) by decide +kernel))),
  List.forall_mem_cons.mpr ⟨(xOK_pure (xs_getf xcl_8 (by decide) (show decode cX8_work 35 = .ok (.getfield 15, 3) by decide +kernel) xw_270)),
  (fun _ h => absurd h List.not_mem_nil)⟩⟩⟩⟩⟩⟩⟩⟩⟩⟩⟩⟩⟩⟩⟩⟩⟩⟩⟩⟩
def pX8_work_1 (ev : xEv) : List (Nat × xEn) := [(38, .inl (xop (xf_iload 1 1))), (39, .inl (xop (xf_push (.int 1000) 3))), (42, .inl (xop (xf_bin (fun x y => x - y)))), (43, .inl (xop (xf_ald (ev.1 0)))), (44, .inl (xo_ast (ev.1 0) (fun x => x))), (45, .inl (xop (xf_iload 2 1))), (46, .inl (xop (xf_push (.int 1) 1))), (47, .inl (xop (xf_bin (fun x y => x + y)))), (48, .inr (.inr 1)), (49, .inl (xop (xf_iload 1 1))), (50, .inl (xop (xf_push (.int 2000) 3))), (53, .inl (xop (xf_bin (fun x y => x - y)))), (54, .inl (xop (xf_istore 3 1))), (55, .inl (xop (xf_iload 3 1))), (56, .inl (xop (xf_push (.int 33) 2))), (58, .inl (xop (xf_icmp_eq 67))), (61, .inl (xop (xf_iload 3 1))), (62, .inl (xop (xf_push (.int 126) 2))), (64, .inl (xop (xf_icmp_ne 115))), (67, .inl (xop (xf_iload 2 1)))]
set_option maxRecDepth 20000 in
theorem okpX8_work_1 (ev : xEv) : ∀ q ∈ pX8_work_1 ev, xEnOK ev xmi yX8_work.cls yX8_work.name cX8_work 4 (some .int) q :=
  List.forall_mem_cons.mpr ⟨(xOK_pure (xs_iload_n (k := 1) rfl (show decode cX8_work 38 = .ok (.iload_n 1, 1) by decide +kernel))),
  List.forall_mem_cons.mpr ⟨(xOK_pure (xs_sipush (n := 1000) (show decode cX8_work 39 = .ok (.sipush 1000, 3) by decide +kernel) (by decide))),
  List.forall_mem_cons.mpr ⟨(xOK_pure (xs_isub (show decode cX8_work 42 = .ok (.isub, 1) by decide +kernel))),
  List.forall_mem_cons.mpr ⟨(xOK_pure (xs_iald (show decode cX8_work 43 = .ok (.iaload, 1) by decide +kernel))),
  List.forall_mem_cons.mpr ⟨(xs_iast (show decode cX8_work 44 = .ok (.iastore, 1) by decide +kernel)),
  List.forall_mem_cons.mpr ⟨(xOK_pure (xs_iload_n (k := 2) rfl (show decode cX8_work 45 = .ok (.iload_n 2, 1) by decide +kernel))),
  List.forall_mem_cons.mpr ⟨(xOK_pure (xs_iconst (n := 1) (show decode cX8_work 46 = .ok (.iconst 1, 1) by decide +kernel) (by decide))),
  List.forall_mem_cons.mpr ⟨(xOK_pure (xs_iadd (show decode cX8_work 47 = .ok (.iadd, 1) by decide +kernel))),
  List.forall_mem_cons.mpr ⟨(Or.inr (Or.inl ⟨rfl, (show decode cX8_work 48 = .ok (.ireturn, 1) by decide +kernel), rfl⟩)),
  List.forall_mem_cons.mpr ⟨(xOK_pure (xs_iload_n (k := 1) rfl (show decode cX8_work 49 = .ok (.iload_n 1, 1) by decide +kernel))),
  List.forall_mem_cons.mpr ⟨(xOK_pure (xs_sipush (n := 2000) (show decode cX8_work 50 = .ok (.sipush 2000, 3) by decide +kernel) (by decide))),
  List.forall_mem_cons.mpr ⟨(xOK_pure (xs_isub (show decode cX8_work 53 = .ok (.isub, 1) by decide +kernel))),
  List.forall_mem_cons.mpr ⟨(xOK_pure (xs_istore_n (k := 3) rfl (show decode cX8_work 54 = .ok (.istore_n 3, 1) by decide +kernel) (by decide))),
  List.forall_mem_cons.mpr ⟨(xOK_pure (xs_iload_n (k := 3) rfl (show decode cX8_work 55 = .ok (.iload_n 3, 1) by decide +kernel))),
  List.forall_mem_cons.mpr ⟨(xOK_pure (xs_bipush (n := 33) (show decode cX8_work 56 = .ok (.bipush 33, 2) by decide +kernel) (by decide))),
  List.forall_mem_cons.mpr ⟨(xOK_pure (xs_icmp_eq (show decode cX8_work 58 = .ok (.if_icmp .eq 9, 3) by decide +kernel) (by decide))),
  List.forall_mem_cons.mpr ⟨(xOK_pure (xs_iload_n (k := 3) rfl (show decode cX8_work 61 = .ok (.iload_n 3, 1) by decide +kernel))),
  List.forall_mem_cons.mpr ⟨(xOK_pure (xs_bipush (n := 126) (show decode cX8_work 62 = .ok (.bipush 126, 2) by decide +kernel) (by decide))),
  List.forall_mem_cons.mpr ⟨(xOK_pure (xs_icmp_ne (show decode cX8_work 64 = .ok (.if_icmp .ne 51, 3) by decide +kernel) (by decide))),
  List.forall_mem_cons.mpr ⟨(xOK_pure (xs_iload_n (k := 2) rfl (show decode cX8_work 67 = .ok (.iload_n 2, 1) by decide +kernel))),
  (fun _ h => absurd h List.not_mem_nil)⟩⟩⟩⟩⟩⟩⟩⟩⟩⟩⟩⟩⟩⟩⟩⟩⟩⟩⟩⟩
def pX8_work_2 (ev : xEv) : List (Nat × xEn) := [(68, .inl (xop (xf_if_le 113))), (71, .inl (xop (xf_aload 0 1))), (72, .inl (xop (xf_getf 8 7))), (75, .inl (xop (xf_iload 2 1))), (76, .inl (xop (xf_push (.int 1) 1))), (77, .inl (xop (xf_bin (fun x y => x - y)))), (78, .inl (xop (xf_iload 3 1))), (79, .inl (xop (xf_push (.int 126) 2))), (81, .inl (xop (xf_icmp_ne 96))), (84, .inl (xop (xf_aload 0 1))), (85, .inl (xop (xf_getf 8 7))), (88, .inl (xop (xf_iload 2 1))), (89, .inl (xop (xf_push (.int 1) 1))), (90, .inl (xop (xf_bin (fun x y => x - y)))), (91, .inl (xop (xf_ald (ev.1 0)))), (92, .inl (xop (xf_un (fun x => -x)))), (93, .inl (xop (xf_goto 112))), (96, .inl (xop (xf_aload 0 1))), (97, .inl (xop (xf_getf 8 7))), (100, .inl (xop (xf_iload 2 1)))]
set_option maxRecDepth 20000 in
theorem okpX8_work_2 (ev : xEv) : ∀ q ∈ pX8_work_2 ev, xEnOK ev xmi yX8_work.cls yX8_work.name cX8_work 4 (some .int) q :=
  List.forall_mem_cons.mpr ⟨(xOK_pure (xs_if_le (show decode cX8_work 68 = .ok (.ifCond .le 45, 3) by decide +kernel) (by decide))),
  List.forall_mem_cons.mpr ⟨(xOK_pure (xs_aload_n (k := 0) rfl (show decode cX8_work 71 = .ok (.aload_n 0, 1) by decide +kernel))),
  List.forall_mem_cons.mpr ⟨(xOK_pure (xs_getf xcl_8 (by decide) (show decode cX8_work 72 = .ok (.getfield 19, 3) by decide +kernel) xw_275)),
  List.forall_mem_cons.mpr ⟨(xOK_pure (xs_iload_n (k := 2) rfl (show decode cX8_work 75 = .ok (.iload_n 2, 1) by decide +kernel))),
  List.forall_mem_cons.mpr ⟨(xOK_pure (xs_iconst (n := 1) (show decode cX8_work 76 = .ok (.iconst 1, 1) by decide +kernel) (by decide))),
  List.forall_mem_cons.mpr ⟨(xOK_pure (xs_isub (show decode cX8_work 77 = .ok (.isub, 1) by decide +kernel))),
  List.forall_mem_cons.mpr ⟨(xOK_pure (xs_iload_n (k := 3) rfl (show decode cX8_work 78 = .ok (.iload_n 3, 1) by decide +kernel))),
  List.forall_mem_cons.mpr ⟨(xOK_pure (xs_bipush (n := 126) (show decode cX8_work 79 = .ok (.bipush 126, 2) by decide +kernel) (by decide))),
  List.forall_mem_cons.mpr ⟨(xOK_pure (xs_icmp_ne (show decode cX8_work 81 = .ok (.if_icmp .ne 15, 3) by decide +kernel) (by decide))),
  List.forall_mem_cons.mpr ⟨(xOK_pure (xs_aload_n (k := 0) rfl (show decode cX8_work 84 = .ok (.aload_n 0, 1) by decide +kernel))),
  List.forall_mem_cons.mpr ⟨(xOK_pure (xs_getf xcl_8 (by decide) (show decode cX8_work 85 = .ok (.getfield 19, 3) by decide +kernel) xw_275)),
  List.forall_mem_cons.mpr ⟨(xOK_pure (xs_iload_n (k := 2) rfl (show decode cX8_work 88 = .ok (.iload_n 2, 1) by decide +kernel))),
  List.forall_mem_cons.mpr ⟨(xOK_pure (xs_iconst (n := 1) (show decode cX8_work 89 = .ok (.iconst 1, 1) by decide +kernel) (by decide))),
  List.forall_mem_cons.mpr ⟨(xOK_pure (xs_isub (show decode cX8_work 90 = .ok (.isub, 1) by decide +kernel))),
  List.forall_mem_cons.mpr ⟨(xOK_pure (xs_iald (show decode cX8_work 91 = .ok (.iaload, 1) by decide +kernel))),
  List.forall_mem_cons.mpr ⟨(xOK_pure (xs_ineg (show decode cX8_work 92 = .ok (.ineg, 1) by decide +kernel))),
  List.forall_mem_cons.mpr ⟨(xOK_pure (xs_goto (show decode cX8_work 93 = .ok (.goto 19, 3) by decide +kernel) (by decide))),
  List.forall_mem_cons.mpr ⟨(xOK_pure (xs_aload_n (k := 0) rfl (show decode cX8_work 96 = .ok (.aload_n 0, 1) by decide +kernel))),
  List.forall_mem_cons.mpr ⟨(xOK_pure (xs_getf xcl_8 (by decide) (show decode cX8_work 97 = .ok (.getfield 19, 3) by decide +kernel) xw_275)),
  List.forall_mem_cons.mpr ⟨(xOK_pure (xs_iload_n (k := 2) rfl (show decode cX8_work 100 = .ok (.iload_n 2, 1) by decide +kernel))),
  (fun _ h => absurd h List.not_mem_nil)⟩⟩⟩⟩⟩⟩⟩⟩⟩⟩⟩⟩⟩⟩⟩⟩⟩⟩⟩⟩
def pX8_work_3 (ev : xEv) : List (Nat × xEn) := [(101, .inl (xop (xf_push (.int 1) 1))), (102, .inl (xop (xf_bin (fun x y => x - y)))), (103, .inl (xop (xf_ald (ev.1 0)))), (104, .inl (xop (xf_if_ne 111))), (107, .inl (xop (xf_push (.int 1) 1))), (108, .inl (xop (xf_goto 112))), (111, .inl (xop (xf_push (.int 0) 1))), (112, .inl (xo_ast (ev.1 0) (fun x => x))), (113, .inl (xop (xf_iload 2 1))), (114, .inr (.inr 1)), (115, .inl (xop (xf_iload 3 1))), (116, .inl (xop (xf_push (.int 63) 2))), (118, .inl (xop (xf_icmp_ne 168))), (121, .inl (xop (xf_iload 2 1))), (122, .inl (xop (xf_push (.int 2) 1))), (123, .inl (xop (xf_icmp_le 164))), (126, .inl (xop (xf_aload 0 1))), (127, .inl (xop (xf_getf 8 7))), (130, .inl (xop (xf_iload 2 1))), (131, .inl (xop (xf_push (.int 3) 1)))]
set_option maxRecDepth 20000 in
theorem okpX8_work_3 (ev : xEv) : ∀ q ∈ pX8_work_3 ev, xEnOK ev xmi yX8_work.cls yX8_work.name cX8_work 4 (some .int) q :=
  List.forall_mem_cons.mpr ⟨(xOK_pure (xs_iconst (n := 1) (show decode cX8_work 101 = .ok (.iconst 1, 1) by decide +kernel) (by decide))),
  List.forall_mem_cons.mpr ⟨(xOK_pure (xs_isub (show decode cX8_work 102 = .ok (.isub, 1) by decide +kernel))),
  List.forall_mem_cons.mpr ⟨(xOK_pure (xs_iald (show decode cX8_work 103 = .ok (.iaload, 1) by decide +kernel))),
  List.forall_mem_cons.mpr ⟨(xOK_pure (xs_if_ne (show decode cX8_work 104 = .ok (.ifCond .ne 7, 3) by decide +kernel) (by decide))),
  List.forall_mem_cons.mpr ⟨(xOK_pure (xs_iconst (n := 1) (show decode cX8_work 107 = .ok (.iconst 1, 1) by decide +kernel) (by decide))),
  List.forall_mem_cons.mpr ⟨(xOK_pure (xs_goto (show decode cX8_work 108 = .ok (.goto 4, 3) by decide +kernel) (by decide))),
  List.forall_mem_cons.mpr ⟨(xOK_pure (xs_iconst (n := 0) (show decode cX8_work 111 = .ok (.iconst 0, 1) by decide +kernel) (by decide))),
  List.forall_mem_cons.mpr ⟨(xs_iast (show decode cX8_work 112 = .ok (.iastore, 1) by decide +kernel)),
  List.forall_mem_cons.mpr ⟨(xOK_pure (xs_iload_n (k := 2) rfl (show decode cX8_work 113 = .ok (.iload_n 2, 1) by decide +kernel))),
  List.forall_mem_cons.mpr ⟨(Or.inr (Or.inl ⟨rfl, (show decode cX8_work 114 = .ok (.ireturn, 1) by decide +kernel), rfl⟩)),
  List.forall_mem_cons.mpr ⟨(xOK_pure (xs_iload_n (k := 3) rfl (show decode cX8_work 115 = .ok (.iload_n 3, 1) by decide +kernel))),
  List.forall_mem_cons.mpr ⟨(xOK_pure (xs_bipush (n := 63) (show decode cX8_work 116 = .ok (.bipush 63, 2) by decide +kernel) (by decide))),
  List.forall_mem_cons.mpr ⟨(xOK_pure (xs_icmp_ne (show decode cX8_work 118 = .ok (.if_icmp .ne 50, 3) by decide +kernel) (by decide))),
  List.forall_mem_cons.mpr ⟨(xOK_pure (xs_iload_n (k := 2) rfl (show decode cX8_work 121 = .ok (.iload_n 2, 1) by decide +kernel))),
  List.forall_mem_cons.mpr ⟨(xOK_pure (xs_iconst (n := 2) (show decode cX8_work 122 = .ok (.iconst 2, 1) by decide +kernel) (by decide))),
  List.forall_mem_cons.mpr ⟨(xOK_pure (xs_icmp_le (show decode cX8_work 123 = .ok (.if_icmp .le 41, 3) by decide +kernel) (by decide))),
  List.forall_mem_cons.mpr ⟨(xOK_pure (xs_aload_n (k := 0) rfl (show decode cX8_work 126 = .ok (.aload_n 0, 1) by decide +kernel))),
  List.forall_mem_cons.mpr ⟨(xOK_pure (xs_getf xcl_8 (by decide) (show decode cX8_work 127 = .ok (.getfield 19, 3) by decide +kernel) xw_275)),
  List.forall_mem_cons.mpr ⟨(xOK_pure (xs_iload_n (k := 2) rfl (show decode cX8_work 130 = .ok (.iload_n 2, 1) by decide +kernel))),
  List.forall_mem_cons.mpr ⟨(xOK_pure (xs_iconst (n := 3) (show decode cX8_work 131 = .ok (.iconst 3, 1) by decide +kernel) (by decide))),
  (fun _ h => absurd h List.not_mem_nil)⟩⟩⟩⟩⟩⟩⟩⟩⟩⟩⟩⟩⟩⟩⟩⟩⟩⟩⟩⟩
def pX8_work_4 (ev : xEv) : List (Nat × xEn) := [(132, .inl (xop (xf_bin (fun x y => x - y)))), (133, .inl (xop (xf_aload 0 1))), (134, .inl (xop (xf_getf 8 7))), (137, .inl (xop (xf_iload 2 1))), (138, .inl (xop (xf_push (.int 3) 1))), (139, .inl (xop (xf_bin (fun x y => x - y)))), (140, .inl (xop (xf_ald (ev.1 0)))), (141, .inl (xop (xf_if_eq 155))), (144, .inl (xop (xf_aload 0 1))), (145, .inl (xop (xf_getf 8 7))), (148, .inl (xop (xf_iload 2 1))), (149, .inl (xop (xf_push (.int 2) 1))), (150, .inl (xop (xf_bin (fun x y => x - y)))), (151, .inl (xop (xf_ald (ev.1 0)))), (152, .inl (xop (xf_goto 163))), (155, .inl (xop (xf_aload 0 1))), (156, .inl (xop (xf_getf 8 7))), (159, .inl (xop (xf_iload 2 1))), (160, .inl (xop (xf_push (.int 1) 1))), (161, .inl (xop (xf_bin (fun x y => x - y))))]
set_option maxRecDepth 20000 in
theorem okpX8_work_4 (ev : xEv) : ∀ q ∈ pX8_work_4 ev, xEnOK ev xmi yX8_work.cls yX8_work.name cX8_work 4 (some .int) q :=
  List.forall_mem_cons.mpr ⟨(xOK_pure (xs_isub (show decode cX8_work 132 = .ok (.isub, 1) by decide +kernel))),
  List.forall_mem_cons.mpr ⟨(xOK_pure (xs_aload_n (k := 0) rfl (show decode cX8_work 133 = .ok (.aload_n 0, 1) by decide +kernel))),
  List.forall_mem_cons.mpr ⟨(xOK_pure (xs_getf xcl_8 (by decide) (show decode cX8_work 134 = .ok (.getfield 19, 3) by decide +kernel) xw_275)),
  List.forall_mem_cons.mpr ⟨(xOK_pure (xs_iload_n (k := 2) rfl (show decode cX8_work 137 = .ok (.iload_n 2, 1) by decide +kernel))),
  List.forall_mem_cons.mpr ⟨(xOK_pure (xs_iconst (n := 3) (show decode cX8_work 138 = .ok (.iconst 3, 1) by decide +kernel) (by decide))),
  List.forall_mem_cons.mpr ⟨(xOK_pure (xs_isub (show decode cX8_work 139 = .ok (.isub, 1) by decide +kernel))),
  List.forall_mem_cons.mpr ⟨(xOK_pure (xs_iald (show decode cX8_work 140 = .ok (.iaload, 1) by decide +kernel))),
  List.forall_mem_cons.mpr ⟨(xOK_pure (xs_if_eq (show decode cX8_work 141 = .ok (.ifCond .eq 14, 3) by decide +kernel) (by decide))),
  List.forall_mem_cons.mpr ⟨(xOK_pure (xs_aload_n (k := 0) rfl (show decode cX8_work 144 = .ok (.aload_n 0, 1) by decide +kernel))),
  List.forall_mem_cons.mpr ⟨(xOK_pure (xs_getf xcl_8 (by decide) (show decode cX8_work 145 = .ok (.getfield 19, 3) by decide +kernel) xw_275)),
  List.forall_mem_cons.mpr ⟨(xOK_pure (xs_iload_n (k := 2) rfl (show decode cX8_work 148 = .ok (.iload_n 2, 1) by decide +kernel))),
  List.forall_mem_cons.mpr ⟨(xOK_pure (xs_iconst (n := 2) (show decode cX8_work 149 = .ok (.iconst 2, 1) by decide +kernel) (by decide))),
  List.forall_mem_cons.mpr ⟨(xOK_pure (xs_isub (show decode cX8_work 150 = .ok (.isub, 1) by decide +kernel))),
  List.forall_mem_cons.mpr ⟨(xOK_pure (xs_iald (show decode cX8_work 151 = .ok (.iaload, 1) by decide +kernel))),
  List.forall_mem_cons.mpr ⟨(xOK_pure (xs_goto (show decode cX8_work 152 = .ok (.goto 11, 3) by decide +kernel) (by decide))),
  List.forall_mem_cons.mpr ⟨(xOK_pure (xs_aload_n (k := 0) rfl (show decode cX8_work 155 = .ok (.aload_n 0, 1) by decide +kernel))),
  List.forall_mem_cons.mpr ⟨(xOK_pure (xs_getf xcl_8 (by decide) (show decode cX8_work 156 = .ok (.getfield 19, 3) by decide +kernel) xw_275)),
  List.forall_mem_cons.mpr ⟨(xOK_pure (xs_iload_n (k := 2) rfl (show decode cX8_work 159 = .ok (.iload_n 2, 1) by decide +kernel))),
  List.forall_mem_cons.mpr ⟨(xOK_pure (xs_iconst (n := 1) (show decode cX8_work 160 = .ok (.iconst 1, 1) by decide +kernel) (by decide))),
  List.forall_mem_cons.mpr ⟨(xOK_pure (xs_isub (show decode cX8_work 161 = .ok (.isub, 1) by decide +kernel))),
  (fun _ h => absurd h List.not_mem_nil)⟩⟩⟩⟩⟩⟩⟩⟩⟩⟩⟩⟩⟩⟩⟩⟩⟩⟩⟩⟩
def pX8_work_5 (ev : xEv) : List (Nat × xEn) := [(162, .inl (xop (xf_ald (ev.1 0)))), (163, .inl (xo_ast (ev.1 0) (fun x => x))), (164, .inl (xop (xf_iload 2 1))), (165, .inl (xop (xf_push (.int 2) 1))), (166, .inl (xop (xf_bin (fun x y => x - y)))), (167, .inr (.inr 1)), (168, .inl (xop (xf_iload 2 1))), (169, .inl (xop (xf_push (.int 1) 1))), (170, .inl (xop (xf_icmp_le 201))), (173, .inl (xop (xf_aload 0 1))), (174, .inl (xop (xf_getf 8 7))), (177, .inl (xop (xf_iload 2 1))), (178, .inl (xop (xf_push (.int 2) 1))), (179, .inl (xop (xf_bin (fun x y => x - y)))), (180, .inl (xop (xf_iload 3 1))), (181, .inl (xop (xf_aload 0 1))), (182, .inl (xop (xf_getf 8 7))), (185, .inl (xop (xf_iload 2 1))), (186, .inl (xop (xf_push (.int 2) 1))), (187, .inl (xop (xf_bin (fun x y => x - y))))]
set_option maxRecDepth 20000 in
theorem okpX8_work_5 (ev : xEv) : ∀ q ∈ pX8_work_5 ev, xEnOK ev xmi yX8_work.cls yX8_work.name cX8_work 4 (some .int) q :=
  List.forall_mem_cons.mpr ⟨(xOK_pure (xs_iald (show decode cX8_work 162 = .ok (.iaload, 1) by decide +kernel))),
  List.forall_mem_cons.mpr ⟨(xs_iast (show decode cX8_work 163 = .ok (.iastore, 1) by decide +kernel)),
  List.forall_mem_cons.mpr ⟨(xOK_pure (xs_iload_n (k := 2) rfl (show decode cX8_work 164 = .ok (.iload_n 2, 1) by decide +kernel))),
  List.forall_mem_cons.mpr ⟨(xOK_pure (xs_iconst (n := 2) (show decode cX8_work 165 = .ok (.iconst 2, 1) by decide +kernel) (by decide))),
  List.forall_mem_cons.mpr ⟨(xOK_pure (xs_isub (show decode cX8_work 166 = .ok (.isub, 1) by decide +kernel))),
  List.forall_mem_cons.mpr ⟨(Or.inr (Or.inl ⟨rfl, (show decode cX8_work 167 = .ok (.ireturn, 1) by decide +kernel), rfl⟩)),
  List.forall_mem_cons.mpr ⟨(xOK_pure (xs_iload_n (k := 2) rfl (show decode cX8_work 168 = .ok (.iload_n 2, 1) by decide +kernel))),
  List.forall_mem_cons.mpr ⟨(xOK_pure (xs_iconst (n := 1) (show decode cX8_work 169 = .ok (.iconst 1, 1) by decide +kernel) (by decide))),
  List.forall_mem_cons.mpr ⟨(xOK_pure (xs_icmp_le (show decode cX8_work 170 = .ok (.if_icmp .le 31, 3) by decide +kernel) (by decide))),
  List.forall_mem_cons.mpr ⟨(xOK_pure (xs_aload_n (k := 0) rfl (show decode cX8_work 173 = .ok (.aload_n 0, 1) by decide +kernel))),
  List.forall_mem_cons.mpr ⟨(xOK_pure (xs_getf xcl_8 (by decide) (show decode cX8_work 174 = .ok (.getfield 19, 3) by decide +kernel) xw_275)),
  List.forall_mem_cons.mpr ⟨(xOK_pure (xs_iload_n (k := 2) rfl (show decode cX8_work 177 = .ok (.iload_n 2, 1) by decide +kernel))),
  List.forall_mem_cons.mpr ⟨(xOK_pure (xs_iconst (n := 2) (show decode cX8_work 178 = .ok (.iconst 2, 1) by decide +kernel) (by decide))),
  List.forall_mem_cons.mpr ⟨(xOK_pure (xs_isub (show decode cX8_work 179 = .ok (.isub, 1) by decide +kernel))),
  List.forall_mem_cons.mpr ⟨(xOK_pure (xs_iload_n (k := 3) rfl (show decode cX8_work 180 = .ok (.iload_n 3, 1) by decide +kernel))),
  List.forall_mem_cons.mpr ⟨(xOK_pure (xs_aload_n (k := 0) rfl (show decode cX8_work 181 = .ok (.aload_n 0, 1) by decide +kernel))),
  List.forall_mem_cons.mpr ⟨(xOK_pure (xs_getf xcl_8 (by decide) (show decode cX8_work 182 = .ok (.getfield 19, 3) by decide +kernel) xw_275)),
  List.forall_mem_cons.mpr ⟨(xOK_pure (xs_iload_n (k := 2) rfl (show decode cX8_work 185 = .ok (.iload_n 2, 1) by decide +kernel))),
  List.forall_mem_cons.mpr ⟨(xOK_pure (xs_iconst (n := 2) (show decode cX8_work 186 = .ok (.iconst 2, 1) by decide +kernel) (by decide))),
  List.forall_mem_cons.mpr ⟨(xOK_pure (xs_isub (show decode cX8_work 187 = .ok (.isub, 1) by decide +kernel))),
  (fun _ h => absurd h List.not_mem_nil)⟩⟩⟩⟩⟩⟩⟩⟩⟩⟩⟩⟩⟩⟩⟩⟩⟩⟩⟩⟩
def pX8_work_6 (ev : xEv) : List (Nat × xEn) := [(188, .inl (xop (xf_ald (ev.1 0)))), (189, .inl (xop (xf_aload 0 1))), (190, .inl (xop (xf_getf 8 7))), (193, .inl (xop (xf_iload 2 1))), (194, .inl (xop (xf_push (.int 1) 1))), (195, .inl (xop (xf_bin (fun x y => x - y)))), (196, .inl (xop (xf_ald (ev.1 0)))), (197, .inr (.inl (1, 91, 3, 8))), (200, .inl (xo_ast (ev.1 0) (fun x => x))), (201, .inl (xop (xf_iload 2 1))), (202, .inl (xop (xf_push (.int 1) 1))), (203, .inl (xop (xf_bin (fun x y => x - y)))), (204, .inr (.inr 1))]
set_option maxRecDepth 20000 in
theorem okpX8_work_6 (ev : xEv) : ∀ q ∈ pX8_work_6 ev, xEnOK ev xmi yX8_work.cls yX8_work.name cX8_work 4 (some .int) q :=
  List.forall_mem_cons.mpr ⟨(xOK_pure (xs_iald (show decode cX8_work 188 = .ok (.iaload, 1) by decide +kernel))),
  List.forall_mem_cons.mpr ⟨(xOK_pure (xs_aload_n (k := 0) rfl (show decode cX8_work 189 = .ok (.aload_n 0, 1) by decide +kernel))),
  List.forall_mem_cons.mpr ⟨(xOK_pure (xs_getf xcl_8 (by decide) (show decode cX8_work 190 = .ok (.getfield 19, 3) by decide +kernel) xw_275)),
  List.forall_mem_cons.mpr ⟨(xOK_pure (xs_iload_n (k := 2) rfl (show decode cX8_work 193 = .ok (.iload_n 2, 1) by decide +kernel))),
  List.forall_mem_cons.mpr ⟨(xOK_pure (xs_iconst (n := 1) (show decode cX8_work 194 = .ok (.iconst 1, 1) by decide +kernel) (by decide))),
  List.forall_mem_cons.mpr ⟨(xOK_pure (xs_isub (show decode cX8_work 195 = .ok (.isub, 1) by decide +kernel))),
  List.forall_mem_cons.mpr ⟨(xOK_pure (xs_iald (show decode cX8_work 196 = .ok (.iaload, 1) by decide +kernel))),
  List.forall_mem_cons.mpr ⟨(xcm mi_91 ⟨⟨(by decide +kernel), (by decide +kernel), (by decide +kernel)⟩, (by decide), xw_1199, xw_122, Or.inr (Or.inl ⟨rfl, _, (show decode cX8_work 197 = .ok (.invokestatic 51, 3) by decide +kernel), xw_1197, xw_1198⟩)⟩),
  List.forall_mem_cons.mpr ⟨(xs_iast (show decode cX8_work 200 = .ok (.iastore, 1) by decide +kernel)),
  List.forall_mem_cons.mpr ⟨(xOK_pure (xs_iload_n (k := 2) rfl (show decode cX8_work 201 = .ok (.iload_n 2, 1) by decide +kernel))),
  List.forall_mem_cons.mpr ⟨(xOK_pure (xs_iconst (n := 1) (show decode cX8_work 202 = .ok (.iconst 1, 1) by decide +kernel) (by decide))),
  List.forall_mem_cons.mpr ⟨(xOK_pure (xs_isub (show decode cX8_work 203 = .ok (.isub, 1) by decide +kernel))),
  List.forall_mem_cons.mpr ⟨(Or.inr (Or.inl ⟨rfl, (show decode cX8_work 204 = .ok (.ireturn, 1) by decide +kernel), rfl⟩)),
  (fun _ h => absurd h List.not_mem_nil)⟩⟩⟩⟩⟩⟩⟩⟩⟩⟩⟩⟩⟩
def pX8_work (ev : xEv) : List (Nat × xEn) := pX8_work_0 ev ++ (pX8_work_1 ev ++ (pX8_work_2 ev ++ (pX8_work_3 ev ++ (pX8_work_4 ev ++ (pX8_work_5 ev ++ (pX8_work_6 ev))))))
theorem okpX8_work (ev : xEv) : ∀ q ∈ pX8_work ev, xEnOK ev xmi yX8_work.cls yX8_work.name cX8_work 4 (some .int) q := List.forall_mem_append.mpr ⟨okpX8_work_0 ev, List.forall_mem_append.mpr ⟨okpX8_work_1 ev, List.forall_mem_append.mpr ⟨okpX8_work_2 ev, List.forall_mem_append.mpr ⟨okpX8_work_3 ev, List.forall_mem_append.mpr ⟨okpX8_work_4 ev, List.forall_mem_append.mpr ⟨okpX8_work_5 ev, okpX8_work_6 ev⟩⟩⟩⟩⟩⟩
theorem omX8_work (ev : xEv) : xMethOK ev xmi yX8_work.cls yX8_work.name 90 (pX8_work ev) := xMethOK.of mi_90 (by decide +kernel) (okpX8_work ev)
def pX8_join_0 (ev : xEv) : List (Nat × xEn) := [(0, .inl (xop (xf_iload 0 1))), (1, .inl (xop (xf_sw (xlsw [(38, 82), (43, 129), (45, 133), (60, 96), (61, 118), (62, 107), (124, 68)] 137)))), (68, .inl (xop (xf_iload 1 1))), (69, .inl (xop (xf_if_ne 76))), (72, .inl (xop (xf_iload 2 1))), (73, .inl (xop (xf_if_eq 80))), (76, .inl (xop (xf_push (.int 1) 1))), (77, .inl (xop (xf_goto 81))), (80, .inl (xop (xf_push (.int 0) 1))), (81, .inr (.inr 1)), (82, .inl (xop (xf_iload 1 1))), (83, .inl (xop (xf_if_eq 94))), (86, .inl (xop (xf_iload 2 1))), (87, .inl (xop (xf_if_eq 94))), (90, .inl (xop (xf_push (.int 1) 1))), (91, .inl (xop (xf_goto 95))), (94, .inl (xop (xf_push (.int 0) 1))), (95, .inr (.inr 1)), (96, .inl (xop (xf_iload 1 1))), (97, .inl (xop (xf_iload 2 1)))]
set_option maxRecDepth 20000 in
theorem okpX8_join_0 (ev : xEv) : ∀ q ∈ pX8_join_0 ev, xEnOK ev xmi yX8_join.cls yX8_join.name cX8_join 3 (some .int) q :=
  List.forall_mem_cons.mpr ⟨(xOK_pure (xs_iload_n (k := 0) rfl (show decode cX8_join 0 = .ok (.iload_n 0, 1) by decide +kernel))),
  List.forall_mem_cons.mpr ⟨(xOK_pure (xs_lsw (show decode cX8_join 1 = .ok (.lookupswitch 136 #[(38, 81), (43, 128), (45, 132), (60, 95), (61, 117), (62, 106), (124, 67)], 67) by decide +kernel) (by decide) (by decide) (by decide))),
  List.forall_mem_cons.mpr ⟨(xOK_pure (xs_iload_n (k := 1) rfl (show decode cX8_join 68 = .ok (.iload_n 1, 1) by decide +kernel))),
  List.forall_mem_cons.mpr ⟨(xOK_pure (xs_if_ne (show decode cX8_join 69 = .ok (.ifCond .ne 7, 3) by decide +kernel) (by decide))),
  List.forall_mem_cons.mpr ⟨(xOK_pure (xs_iload_n (k := 2) rfl (show decode cX8_join 72 = .ok (.iload_n 2, 1) by decide +kernel))),
  List.forall_mem_cons.mpr ⟨(xOK_pure (xs_if_eq (show decode cX8_join 73 = .ok (.ifCond .eq 7, 3) by decide +kernel) (by decide))),
  List.forall_mem_cons.mpr ⟨(xOK_pure (xs_iconst (n := 1) (show decode cX8_join 76 = .ok (.iconst 1, 1) by decide +kernel) (by decide))),
  List.forall_mem_cons.mpr ⟨(xOK_pure (xs_goto (show decode cX8_join 77 = .ok (.goto 4, 3) by decide +kernel) (by decide))),
  List.forall_mem_cons.mpr ⟨(xOK_pure (xs_iconst (n := 0) (show decode cX8_join 80 = .ok (.iconst 0, 1) by decide +kernel) (by decide))),
  List.forall_mem_cons.mpr ⟨(Or.inr (Or.inl ⟨rfl, (show decode cX8_join 81 = .ok (.ireturn, 1) by decide +kernel), rfl⟩)),
  List.forall_mem_cons.mpr ⟨(xOK_pure (xs_iload_n (k := 1) rfl (show decode cX8_join 82 = .ok (.iload_n 1, 1) by decide +kernel))),
  List.forall_mem_cons.mpr ⟨(xOK_pure (xs_if_eq (show decode cX8_join 83 = .ok (.ifCond .eq 11, 3) by decide +kernel) (by decide))),
  List.forall_mem_cons.mpr ⟨(xOK_pure (xs_iload_n (k := 2) rfl (show decode cX8_join 86 = .ok (.iload_n 2, 1) by decide +kernel))),
  List.forall_mem_cons.mpr ⟨(xOK_pure (xs_if_eq (show decode cX8_join 87 = .ok (.ifCond .eq 7, 3) by decide +kernel) (by decide))),
  List.forall_mem_cons.mpr ⟨(xOK_pure (xs_iconst (n := 1) (show decode cX8_join 90 = .ok (.iconst 1, 1) by decide +kernel) (by decide))),
  List.forall_mem_cons.mpr ⟨(xOK_pure (xs_goto (show decode cX8_join 91 = .ok (.goto 4, 3) by decide +kernel) (by decide))),
  List.forall_mem_cons.mpr ⟨(xOK_pure (xs_iconst (n := 0) (show decode cX8_join 94 = .ok (.iconst 0, 1) by decide +kernel) (by decide))),
  List.forall_mem_cons.mpr ⟨(Or.inr (Or.inl ⟨rfl, (show decode cX8_join 95 = .ok (.ireturn, 1) by decide +kernel), rfl⟩)),
  List.forall_mem_cons.mpr ⟨(xOK_pure (xs_iload_n (k := 1) rfl (show decode cX8_join 96 = .ok (.iload_n 1, 1) by decide +kernel))),
  List.forall_mem_cons.mpr ⟨(xOK_pure (xs_iload_n (k := 2) rfl (show decode cX8_join 97 = .ok (.iload_n 2, 1) by decide +kernel))),
  (fun _ h => absurd h List.not_mem_nil)⟩⟩⟩⟩⟩⟩⟩⟩⟩⟩⟩⟩⟩⟩⟩⟩⟩⟩⟩⟩
def pX8_join_1 (ev : xEv) : List (Nat × xEn) := [(98, .inl (xop (xf_icmp_ge 105))), (101, .inl (xop (xf_push (.int 1) 1))), (102, .inl (xop (xf_goto 106))), (105, .inl (xop (xf_push (.int 0) 1))), (106, .inr (.inr 1)), (107, .inl (xop (xf_iload 1 1))), (108, .inl (xop (xf_iload 2 1))), (109, .inl (xop (xf_icmp_le 116))), (112, .inl (xop (xf_push (.int 1) 1))), (113, .inl (xop (xf_goto 117))), (116, .inl (xop (xf_push (.int 0) 1))), (117, .inr (.inr 1)), (118, .inl (xop (xf_iload 1 1))), (119, .inl (xop (xf_iload 2 1))), (120, .inl (xop (xf_icmp_ne 127))), (123, .inl (xop (xf_push (.int 1) 1))), (124, .inl (xop (xf_goto 128))), (127, .inl (xop (xf_push (.int 0) 1))), (128, .inr (.inr 1)), (129, .inl (xop (xf_iload 1 1)))]
set_option maxRecDepth 20000 in
theorem okpX8_join_1 (ev : xEv) : ∀ q ∈ pX8_join_1 ev, xEnOK ev xmi yX8_join.cls yX8_join.name cX8_join 3 (some .int) q :=
  List.forall_mem_cons.mpr ⟨(xOK_pure (xs_icmp_ge (show decode cX8_join 98 = .ok (.if_icmp .ge 7, 3) by decide +kernel) (by decide))),
  List.forall_mem_cons.mpr ⟨(xOK_pure (xs_iconst (n := 1) (show decode cX8_join 101 = .ok (.iconst 1, 1) by decide +kernel) (by decide))),
  List.forall_mem_cons.mpr ⟨(xOK_pure (xs_goto (show decode cX8_join 102 = .ok (.goto 4, 3) by decide +kernel) (by decide))),
  List.forall_mem_cons.mpr ⟨(xOK_pure (xs_iconst (n := 0) (show decode cX8_join 105 = .ok (.iconst 0, 1) by decide +kernel) (by decide))),
  List.forall_mem_cons.mpr ⟨(Or.inr (Or.inl ⟨rfl, (show decode cX8_join 106 = .ok (.ireturn, 1) by decide +kernel), rfl⟩)),
  List.forall_mem_cons.mpr ⟨(xOK_pure (xs_iload_n (k := 1) rfl (show decode cX8_join 107 = .ok (.iload_n 1, 1) by decide +kernel))),
  List.forall_mem_cons.mpr ⟨(xOK_pure (xs_iload_n (k := 2) rfl (show decode cX8_join 108 = .ok (.iload_n 2, 1) by decide +kernel))),
  List.forall_mem_cons.mpr ⟨(xOK_pure (xs_icmp_le (show decode cX8_join 109 = .ok (.if_icmp .le 7, 3) by decide +kernel) (by decide))),
  List.forall_mem_cons.mpr ⟨(xOK_pure (xs_iconst (n := 1) (show decode cX8_join 112 = .ok (.iconst 1, 1) by decide +kernel) (by decide))),
  List.forall_mem_cons.mpr ⟨(xOK_pure (xs_goto (show decode cX8_join 113 = .ok (.goto 4, 3) by decide +kernel) (by decide))),
  List.forall_mem_cons.mpr ⟨(xOK_pure (xs_iconst (n := 0) (show decode cX8_join 116 = .ok (.iconst 0, 1) by decide +kernel) (by decide))),
  List.forall_mem_cons.mpr ⟨(Or.inr (Or.inl ⟨rfl, (show decode cX8_join 117 = .ok (.ireturn, 1) by decide +kernel), rfl⟩)),
  List.forall_mem_cons.mpr ⟨(xOK_pure (xs_iload_n (k := 1) rfl (show decode cX8_join 118 = .ok (.iload_n 1, 1) by decide +kernel))),
  List.forall_mem_cons.mpr ⟨(xOK_pure (xs_iload_n (k := 2) rfl (show decode cX8_join 119 = .ok (.iload_n 2, 1) by decide +kernel))),
  List.forall_mem_cons.mpr ⟨(xOK_pure (xs_icmp_ne (show decode cX8_join 120 = .ok (.if_icmp .ne 7, 3) by decide +kernel) (by decide))),
  List.forall_mem_cons.mpr ⟨(xOK_pure (xs_iconst (n := 1) (show decode cX8_join 123 = .ok (.iconst 1, 1) by decide +kernel) (by decide))),
  List.forall_mem_cons.mpr ⟨(xOK_pure (xs_goto (show decode cX8_join 124 = .ok (.goto 4, 3) by decide +kernel) (by decide))),
  List.forall_mem_cons.mpr ⟨(xOK_pure (xs_iconst (n := 0) (show decode cX8_join 127 = .ok (.iconst 0, 1) by decide +kernel) (by decide))),
  List.forall_mem_cons.mpr ⟨(Or.inr (Or.inl ⟨rfl, (show decode cX8_join 128 = .ok (.ireturn, 1) by decide +kernel), rfl⟩)),
  List.forall_mem_cons.mpr ⟨(xOK_pure (xs_iload_n (k := 1) rfl (show decode cX8_join 129 = .ok (.iload_n 1, 1) by decide +kernel))),
  (fun _ h => absurd h List.not_mem_nil)⟩⟩⟩⟩⟩⟩⟩⟩⟩⟩⟩⟩⟩⟩⟩⟩⟩⟩⟩⟩
def pX8_join_2 (ev : xEv) : List (Nat × xEn) := [(130, .inl (xop (xf_iload 2 1))), (131, .inl (xop (xf_bin (fun x y => x + y)))), (132, .inr (.inr 1)), (133, .inl (xop (xf_iload 1 1))), (134, .inl (xop (xf_iload 2 1))), (135, .inl (xop (xf_bin (fun x y => x - y)))), (136, .inr (.inr 1)), (137, .inl (xop (xf_iload 1 1))), (138, .inl (xop (xf_iload 2 1))), (139, .inl (xop (xf_bin (fun x y => x * y)))), (140, .inr (.inr 1))]
set_option maxRecDepth 20000 in
theorem okpX8_join_2 (ev : xEv) : ∀ q ∈ pX8_join_2 ev, xEnOK ev xmi yX8_join.cls yX8_join.name cX8_join 3 (some .int) q :=
  List.forall_mem_cons.mpr ⟨(xOK_pure (xs_iload_n (k := 2) rfl (show decode cX8_join 130 = .ok (.iload_n 2, 1) by decide +kernel))),
  List.forall_mem_cons.mpr ⟨(xOK_pure (xs_iadd (show decode cX8_join 131 = .ok (.iadd, 1) by decide +kernel))),
  List.forall_mem_cons.mpr ⟨(Or.inr (Or.inl ⟨rfl, (show decode cX8_join 132 = .ok (.ireturn, 1) by decide +kernel), rfl⟩)),
  List.forall_mem_cons.mpr ⟨(xOK_pure (xs_iload_n (k := 1) rfl (show decode cX8_join 133 = .ok (.iload_n 1, 1) by decide +kernel))),
  List.forall_mem_cons.mpr ⟨(xOK_pure (xs_iload_n (k := 2) rfl (show decode cX8_join 134 = .ok (.iload_n 2, 1) by decide +kernel))),
  List.forall_mem_cons.mpr ⟨(xOK_pure (xs_isub (show decode cX8_join 135 = .ok (.isub, 1) by decide +kernel))),
  List.forall_mem_cons.mpr ⟨(Or.inr (Or.inl ⟨rfl, (show decode cX8_join 136 = .ok (.ireturn, 1) by decide +kernel), rfl⟩)),
  List.forall_mem_cons.mpr ⟨(xOK_pure (xs_iload_n (k := 1) rfl (show decode cX8_join 137 = .ok (.iload_n 1, 1) by decide +kernel))),
  List.forall_mem_cons.mpr ⟨(xOK_pure (xs_iload_n (k := 2) rfl (show decode cX8_join 138 = .ok (.iload_n 2, 1) by decide +kernel))),
  List.forall_mem_cons.mpr ⟨(xOK_pure (xs_imul (show decode cX8_join 139 = .ok (.imul, 1) by decide +kernel))),
  List.forall_mem_cons.mpr ⟨(Or.inr (Or.inl ⟨rfl, (show decode cX8_join 140 = .ok (.ireturn, 1) by decide +kernel), rfl⟩)),
  (fun _ h => absurd h List.not_mem_nil)⟩⟩⟩⟩⟩⟩⟩⟩⟩⟩⟩
def pX8_join (ev : xEv) : List (Nat × xEn) := pX8_join_0 ev ++ (pX8_join_1 ev ++ (pX8_join_2 ev))
theorem okpX8_join (ev : xEv) : ∀ q ∈ pX8_join ev, xEnOK ev xmi yX8_join.cls yX8_join.name cX8_join 3 (some .int) q := List.forall_mem_append.mpr ⟨okpX8_join_0 ev, List.forall_mem_append.mpr ⟨okpX8_join_1 ev, okpX8_join_2 ev⟩⟩
theorem omX8_join (ev : xEv) : xMethOK ev xmi yX8_join.cls yX8_join.name 91 (pX8_join ev) := xMethOK.of mi_91 (by decide +kernel) (okpX8_join ev)
def pX4_init (ev : xEv) : List (Nat × xEn) := [(0, .inl (xop (xf_aload 0 1))), (1, .inl (xop xf_objInit)), (4, .inl (xop (xf_aload 0 1))), (5, .inl (xop (xf_push (.int 60) 2))), (7, .inl (xo_newa (ev.1 0) (.inl (fun _ => 0)))), (9, .inl (xo_putf 4 0 (.array .int))), (12, .inl (xop (xf_aload 0 1))), (13, .inl (xop (xf_push (.int 60) 2))), (15, .inl (xo_newa (ev.1 0) (.inl (fun _ => 0)))), (17, .inl (xo_putf 4 2 (.array .int))), (20, .inl (xop (xf_aload 0 1))), (21, .inl (xop (xf_push (.int 61) 2))), (23, .inl (xo_newa (ev.1 2) (.inl (fun _ => 0)))), (25, .inl (xo_putf 4 4 (.array .boolean))), (28, .inr (.inr 0))]
set_option maxRecDepth 20000 in
theorem okpX4_init (ev : xEv) : ∀ q ∈ pX4_init ev, xEnOK ev xmi yX4_init.cls yX4_init.name cX4_init 1 none q :=
  List.forall_mem_cons.mpr ⟨(xOK_pure (xs_aload_n (k := 0) rfl (show decode cX4_init 0 = .ok (.aload_n 0, 1) by decide +kernel))),
  List.forall_mem_cons.mpr ⟨(xOK_pure (xs_objInit (show decode cX4_init 1 = .ok (.invokespecial 3, 3) by decide +kernel) xw_412 xw_150 xw_151)),
  List.forall_mem_cons.mpr ⟨(xOK_pure (xs_aload_n (k := 0) rfl (show decode cX4_init 4 = .ok (.aload_n 0, 1) by decide +kernel))),
  List.forall_mem_cons.mpr ⟨(xOK_pure (xs_bipush (n := 60) (show decode cX4_init 5 = .ok (.bipush 60, 2) by decide +kernel) (by decide))),
  List.forall_mem_cons.mpr ⟨(xs_newa (t := 0) (ty := .int) rfl rfl (fun _ _ => rfl) (by decide) (show decode cX4_init 7 = .ok (.newarray .int, 2) by decide +kernel) xw_209),
  List.forall_mem_cons.mpr ⟨(xs_putF (k := 0) xcl_4 (by decide) rfl rfl rfl (show decode cX4_init 9 = .ok (.putfield 9, 3) by decide +kernel) xw_413),
  List.forall_mem_cons.mpr ⟨(xOK_pure (xs_aload_n (k := 0) rfl (show decode cX4_init 12 = .ok (.aload_n 0, 1) by decide +kernel))),
  List.forall_mem_cons.mpr ⟨(xOK_pure (xs_bipush (n := 60) (show decode cX4_init 13 = .ok (.bipush 60, 2) by decide +kernel) (by decide))),
  List.forall_mem_cons.mpr ⟨(xs_newa (t := 0) (ty := .int) rfl rfl (fun _ _ => rfl) (by decide) (show decode cX4_init 15 = .ok (.newarray .int, 2) by decide +kernel) xw_209),
  List.forall_mem_cons.mpr ⟨(xs_putF (k := 2) xcl_4 (by decide) rfl rfl rfl (show decode cX4_init 17 = .ok (.putfield 15, 3) by decide +kernel) xw_417),
  List.forall_mem_cons.mpr ⟨(xOK_pure (xs_aload_n (k := 0) rfl (show decode cX4_init 20 = .ok (.aload_n 0, 1) by decide +kernel))),
  List.forall_mem_cons.mpr ⟨(xOK_pure (xs_bipush (n := 61) (show decode cX4_init 21 = .ok (.bipush 61, 2) by decide +kernel) (by decide))),
  List.forall_mem_cons.mpr ⟨(xs_newa (t := 2) (ty := .boolean) rfl rfl (fun _ _ => rfl) (by decide) (show decode cX4_init 23 = .ok (.newarray .boolean, 2) by decide +kernel) xw_210),
  List.forall_mem_cons.mpr ⟨(xs_putF (k := 4) xcl_4 (by decide) rfl rfl rfl (show decode cX4_init 25 = .ok (.putfield 18, 3) by decide +kernel) xw_419),
  List.forall_mem_cons.mpr ⟨(Or.inl ⟨rfl, (show decode cX4_init 28 = .ok (.return_, 1) by decide +kernel), rfl⟩),
  (fun _ h => absurd h List.not_mem_nil)⟩⟩⟩⟩⟩⟩⟩⟩⟩⟩⟩⟩⟩⟩⟩
theorem omX4_init (ev : xEv) : xMethOK ev xmi yX4_init.cls yX4_init.name 41 (pX4_init ev) := xMethOK.of mi_41 (by decide +kernel) (okpX4_init ev)
def pX4_firstWrong_0 (ev : xEv) : List (Nat × xEn) := [(0, .inl (xop (xf_aload 0 1))), (1, .inl (xop (xf_iload 3 1))), (2, .inr (.inl (0, 43, 1, 4))), (5, .inl (xop (xf_iload 2 1))), (6, .inl (xop (xf_push (.int 60) 2))), (8, .inl (xop (xf_aload 1 1))), (9, .inl (xop (xf_alen (ev.1 0)))), (10, .inl (xop (xf_m2 (fun x y => if y < x then y else x)))), (13, .inl (xop (xf_m2 (fun x y => if y < x then y else x)))), (16, .inl (xop (xf_istore 4 2))), (18, .inl (xop (xf_push (.int 0) 1))), (19, .inl (xop (xf_istore 5 2))), (21, .inl (xop (xf_iload 5 2))), (23, .inl (xop (xf_iload 4 2))), (25, .inl (xop (xf_icmp_ge 48))), (28, .inl (xop (xf_aload 0 1))), (29, .inl (xop (xf_aload 1 1))), (30, .inl (xop (xf_iload 5 2))), (32, .inl (xop (xf_ald (ev.1 0)))), (33, .inr (.inl (0, 45, 1, 4)))]
set_option maxRecDepth 20000 in
theorem okpX4_firstWrong_0 (ev : xEv) : ∀ q ∈ pX4_firstWrong_0 ev, xEnOK ev xmi yX4_firstWrong.cls yX4_firstWrong.name cX4_firstWrong 6 (some .int) q :=
  List.forall_mem_cons.mpr ⟨(xOK_pure (xs_aload_n (k := 0) rfl (show decode cX4_firstWrong 0 = .ok (.aload_n 0, 1) by decide +kernel))),
  List.forall_mem_cons.mpr ⟨(xOK_pure (xs_iload_n (k := 3) rfl (show decode cX4_firstWrong 1 = .ok (.iload_n 3, 1) by decide +kernel))),
  List.forall_mem_cons.mpr ⟨(xcm mi_43 ⟨⟨(by decide +kernel), (by decide +kernel), (by decide +kernel)⟩, (by decide), xw_867, xw_124, Or.inl ⟨rfl, _, _, _, _, (show decode cX4_firstWrong 2 = .ok (.invokevirtual 22, 3) by decide +kernel), xw_864, xw_866, xw_6, rfl⟩⟩),
  List.forall_mem_cons.mpr ⟨(xOK_pure (xs_iload_n (k := 2) rfl (show decode cX4_firstWrong 5 = .ok (.iload_n 2, 1) by decide +kernel))),
  List.forall_mem_cons.mpr ⟨(xOK_pure (xs_bipush (n := 60) (show decode cX4_firstWrong 6 = .ok (.bipush 60, 2) by decide +kernel) (by decide))),
  List.forall_mem_cons.mpr ⟨(xOK_pure (xs_aload_n (k := 1) rfl (show decode cX4_firstWrong 8 = .ok (.aload_n 1, 1) by decide +kernel))),
  List.forall_mem_cons.mpr ⟨(xOK_pure (xs_alen (t := 0) rfl (show decode cX4_firstWrong 9 = .ok (.arraylength, 1) by decide +kernel))),
  List.forall_mem_cons.mpr ⟨(xOK_pure (xs_mmin (show decode cX4_firstWrong 10 = .ok (.invokestatic 26, 3) by decide +kernel) xw_868 xw_541 xw_127 xw_542)),
  List.forall_mem_cons.mpr ⟨(xOK_pure (xs_mmin (show decode cX4_firstWrong 13 = .ok (.invokestatic 26, 3) by decide +kernel) xw_868 xw_541 xw_127 xw_542)),
  List.forall_mem_cons.mpr ⟨(xOK_pure (xs_istore (show decode cX4_firstWrong 16 = .ok (.istore 4, 2) by decide +kernel) (by decide))),
  List.forall_mem_cons.mpr ⟨(xOK_pure (xs_iconst (n := 0) (show decode cX4_firstWrong 18 = .ok (.iconst 0, 1) by decide +kernel) (by decide))),
  List.forall_mem_cons.mpr ⟨(xOK_pure (xs_istore (show decode cX4_firstWrong 19 = .ok (.istore 5, 2) by decide +kernel) (by decide))),
  List.forall_mem_cons.mpr ⟨(xOK_pure (xs_iload (show decode cX4_firstWrong 21 = .ok (.iload 5, 2) by decide +kernel))),
  List.forall_mem_cons.mpr ⟨(xOK_pure (xs_iload (show decode cX4_firstWrong 23 = .ok (.iload 4, 2) by decide +kernel))),
  List.forall_mem_cons.mpr ⟨(xOK_pure (xs_icmp_ge (show decode cX4_firstWrong 25 = .ok (.if_icmp .ge 23, 3) by decide +kernel) (by decide))),
  List.forall_mem_cons.mpr ⟨(xOK_pure (xs_aload_n (k := 0) rfl (show decode cX4_firstWrong 28 = .ok (.aload_n 0, 1) by decide +kernel))),
  List.forall_mem_cons.mpr ⟨(xOK_pure (xs_aload_n (k := 1) rfl (show decode cX4_firstWrong 29 = .ok (.aload_n 1, 1) by decide +kernel))),
  List.forall_mem_cons.mpr ⟨(xOK_pure (xs_iload (show decode cX4_firstWrong 30 = .ok (.iload 5, 2) by decide +kernel))),
  List.forall_mem_cons.mpr ⟨(xOK_pure (xs_iald (show decode cX4_firstWrong 32 = .ok (.iaload, 1) by decide +kernel))),
  List.forall_mem_cons.mpr ⟨(xcm mi_45 ⟨⟨(by decide +kernel), (by decide +kernel), (by decide +kernel)⟩, (by decide), xw_872, xw_124, Or.inl ⟨rfl, _, _, _, _, (show decode cX4_firstWrong 33 = .ok (.invokevirtual 32, 3) by decide +kernel), xw_869, xw_871, xw_7, rfl⟩⟩),
  (fun _ h => absurd h List.not_mem_nil)⟩⟩⟩⟩⟩⟩⟩⟩⟩⟩⟩⟩⟩⟩⟩⟩⟩⟩⟩⟩
def pX4_firstWrong_1 (ev : xEv) : List (Nat × xEn) := [(36, .inl (xop (xf_if_ne 42))), (39, .inl (xop (xf_iload 5 2))), (41, .inr (.inr 1)), (42, .inl (xop (xf_iinc 5 1))), (45, .inl (xop (xf_goto 21))), (48, .inl (xop (xf_iload 2 1))), (49, .inl (xop (xf_iload 4 2))), (51, .inl (xop (xf_icmp_gt 61))), (54, .inl (xop (xf_aload 0 1))), (55, .inr (.inl (0, 44, 0, 4))), (58, .inl (xop (xf_if_ne 64))), (61, .inl (xop (xf_iload 4 2))), (63, .inr (.inr 1)), (64, .inl (xop (xf_aload 0 1))), (65, .inl (xop (xf_push (.int 1) 1))), (66, .inr (.inl (0, 56, 1, 4))), (69, .inl (xop (xf_aload 0 1))), (70, .inr (.inl (0, 57, 0, 4))), (73, .inl (xop (xf_push (.int (-1)) 1))), (74, .inr (.inr 1))]
set_option maxRecDepth 20000 in
theorem okpX4_firstWrong_1 (ev : xEv) : ∀ q ∈ pX4_firstWrong_1 ev, xEnOK ev xmi yX4_firstWrong.cls yX4_firstWrong.name cX4_firstWrong 6 (some .int) q :=
  List.forall_mem_cons.mpr ⟨(xOK_pure (xs_if_ne (show decode cX4_firstWrong 36 = .ok (.ifCond .ne 6, 3) by decide +kernel) (by decide))),
  List.forall_mem_cons.mpr ⟨(xOK_pure (xs_iload (show decode cX4_firstWrong 39 = .ok (.iload 5, 2) by decide +kernel))),
  List.forall_mem_cons.mpr ⟨(Or.inr (Or.inl ⟨rfl, (show decode cX4_firstWrong 41 = .ok (.ireturn, 1) by decide +kernel), rfl⟩)),
  List.forall_mem_cons.mpr ⟨(xOK_pure (xs_iinc (n := 1) (show decode cX4_firstWrong 42 = .ok (.iinc 5 1, 3) by decide +kernel) (by decide) (by decide))),
  List.forall_mem_cons.mpr ⟨(xOK_pure (xs_goto (show decode cX4_firstWrong 45 = .ok (.goto (-24), 3) by decide +kernel) (by decide))),
  List.forall_mem_cons.mpr ⟨(xOK_pure (xs_iload_n (k := 2) rfl (show decode cX4_firstWrong 48 = .ok (.iload_n 2, 1) by decide +kernel))),
  List.forall_mem_cons.mpr ⟨(xOK_pure (xs_iload (show decode cX4_firstWrong 49 = .ok (.iload 4, 2) by decide +kernel))),
  List.forall_mem_cons.mpr ⟨(xOK_pure (xs_icmp_gt (show decode cX4_firstWrong 51 = .ok (.if_icmp .gt 10, 3) by decide +kernel) (by decide))),
  List.forall_mem_cons.mpr ⟨(xOK_pure (xs_aload_n (k := 0) rfl (show decode cX4_firstWrong 54 = .ok (.aload_n 0, 1) by decide +kernel))),
  List.forall_mem_cons.mpr ⟨(xcm mi_44 ⟨⟨(by decide +kernel), (by decide +kernel), (by decide +kernel)⟩, (by decide), xw_1028, xw_124, Or.inl ⟨rfl, _, _, _, _, (show decode cX4_firstWrong 55 = .ok (.invokevirtual 36, 3) by decide +kernel), xw_1025, xw_1027, xw_23, rfl⟩⟩),
  List.forall_mem_cons.mpr ⟨(xOK_pure (xs_if_ne (show decode cX4_firstWrong 58 = .ok (.ifCond .ne 6, 3) by decide +kernel) (by decide))),
  List.forall_mem_cons.mpr ⟨(xOK_pure (xs_iload (show decode cX4_firstWrong 61 = .ok (.iload 4, 2) by decide +kernel))),
  List.forall_mem_cons.mpr ⟨(Or.inr (Or.inl ⟨rfl, (show decode cX4_firstWrong 63 = .ok (.ireturn, 1) by decide +kernel), rfl⟩)),
  List.forall_mem_cons.mpr ⟨(xOK_pure (xs_aload_n (k := 0) rfl (show decode cX4_firstWrong 64 = .ok (.aload_n 0, 1) by decide +kernel))),
  List.forall_mem_cons.mpr ⟨(xOK_pure (xs_iconst (n := 1) (show decode cX4_firstWrong 65 = .ok (.iconst 1, 1) by decide +kernel) (by decide))),
  List.forall_mem_cons.mpr ⟨(xcm mi_56 ⟨⟨(by decide +kernel), (by decide +kernel), (by decide +kernel)⟩, (by decide), xw_995, xw_124, Or.inl ⟨rfl, _, _, _, _, (show decode cX4_firstWrong 66 = .ok (.invokevirtual 42, 3) by decide +kernel), xw_992, xw_994, xw_16, rfl⟩⟩),
  List.forall_mem_cons.mpr ⟨(xOK_pure (xs_aload_n (k := 0) rfl (show decode cX4_firstWrong 69 = .ok (.aload_n 0, 1) by decide +kernel))),
  List.forall_mem_cons.mpr ⟨(xcm mi_57 ⟨⟨(by decide +kernel), (by decide +kernel), (by decide +kernel)⟩, (by decide), xw_1010, xw_124, Or.inl ⟨rfl, _, _, _, _, (show decode cX4_firstWrong 70 = .ok (.invokevirtual 45, 3) by decide +kernel), xw_1007, xw_1009, xw_19, rfl⟩⟩),
  List.forall_mem_cons.mpr ⟨(xOK_pure (xs_iconst (n := (-1)) (show decode cX4_firstWrong 73 = .ok (.iconst (-1), 1) by decide +kernel) (by decide))),
  List.forall_mem_cons.mpr ⟨(Or.inr (Or.inl ⟨rfl, (show decode cX4_firstWrong 74 = .ok (.ireturn, 1) by decide +kernel), rfl⟩)),
  (fun _ h => absurd h List.not_mem_nil)⟩⟩⟩⟩⟩⟩⟩⟩⟩⟩⟩⟩⟩⟩⟩⟩⟩⟩⟩⟩
def pX4_firstWrong (ev : xEv) : List (Nat × xEn) := pX4_firstWrong_0 ev ++ (pX4_firstWrong_1 ev)
theorem okpX4_firstWrong (ev : xEv) : ∀ q ∈ pX4_firstWrong ev, xEnOK ev xmi yX4_firstWrong.cls yX4_firstWrong.name cX4_firstWrong 6 (some .int) q := List.forall_mem_append.mpr ⟨okpX4_firstWrong_0 ev, okpX4_firstWrong_1 ev⟩
theorem omX4_firstWrong (ev : xEv) : xMethOK ev xmi yX4_firstWrong.cls yX4_firstWrong.name 42 (pX4_firstWrong ev) := xMethOK.of mi_42 (by decide +kernel) (okpX4_firstWrong ev)
