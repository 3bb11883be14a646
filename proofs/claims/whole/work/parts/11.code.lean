def pX0_init_0 (ev : xEv) : List (Nat × xEn) := [(0, .inl (xop (xf_aload 0 1))), (1, .inl (xop xf_objInit)), (4, .inl (xop (xf_aload 0 1))), (5, .inl (xop (xf_push (.int (-1)) 1))), (6, .inl (xo_putf 0 6 .int)), (9, .inl (xop (xf_aload 0 1))), (10, .inl (xop (xf_push (.int (-1)) 1))), (11, .inl (xo_putf 0 7 .int)), (14, .inl (xop (xf_aload 0 1))), (15, .inl (xop (xf_push (.int (-1)) 1))), (16, .inl (xo_putf 0 8 .int)), (19, .inl (xop (xf_aload 0 1))), (20, .inl (xop (xf_push (.int 32) 2))), (22, .inl (xo_newa (ev.1 0) (.inl (fun _ => 0)))), (24, .inl (xo_putf 0 9 (.array .int))), (27, .inl (xop (xf_aload 0 1))), (28, .inl (xop (xf_iload 1 1))), (29, .inl (xo_putf 0 0 .int)), (32, .inl (xop (xf_aload 0 1))), (33, .inl (xop (xf_iload 2 1)))]
set_option maxRecDepth 20000 in
theorem okpX0_init_0 (ev : xEv) : ∀ q ∈ pX0_init_0 ev, xEnOK ev xmi yX0_init.cls yX0_init.name cX0_init 6 none q :=
  List.forall_mem_cons.mpr ⟨(xOK_pure (xs_aload_n (k := 0) rfl (by decide +kernel))),
  List.forall_mem_cons.mpr ⟨(xOK_pure (xs_objInit (by decide +kernel) xw_751 xw_149 xw_150)),
  List.forall_mem_cons.mpr ⟨(xOK_pure (xs_aload_n (k := 0) rfl (by decide +kernel))),
  List.forall_mem_cons.mpr ⟨(xOK_pure (xs_iconst (n := (-1)) (by decide +kernel) (by decide))),
  List.forall_mem_cons.mpr ⟨(xs_putf (k := 6) xcl_0 (by decide) rfl (by decide +kernel) xw_765),
  List.forall_mem_cons.mpr ⟨(xOK_pure (xs_aload_n (k := 0) rfl (by decide +kernel))),
  List.forall_mem_cons.mpr ⟨(xOK_pure (xs_iconst (n := (-1)) (by decide +kernel) (by decide))),
  List.forall_mem_cons.mpr ⟨(xs_putf (k := 7) xcl_0 (by decide) rfl (by decide +kernel) xw_768),
  List.forall_mem_cons.mpr ⟨(xOK_pure (xs_aload_n (k := 0) rfl (by decide +kernel))),
  List.forall_mem_cons.mpr ⟨(xOK_pure (xs_iconst (n := (-1)) (by decide +kernel) (by decide))),
  List.forall_mem_cons.mpr ⟨(xs_putf (k := 8) xcl_0 (by decide) rfl (by decide +kernel) xw_771),
  List.forall_mem_cons.mpr ⟨(xOK_pure (xs_aload_n (k := 0) rfl (by decide +kernel))),
  List.forall_mem_cons.mpr ⟨(xOK_pure (xs_bipush (n := 32) (by decide +kernel) (by decide))),
  List.forall_mem_cons.mpr ⟨(xs_newa (t := 0) (ty := .int) rfl rfl (fun _ _ => rfl) (by decide) (by decide +kernel) xw_208),
  List.forall_mem_cons.mpr ⟨(xs_putF (k := 9) xcl_0 (by decide) rfl rfl rfl (by decide +kernel) xw_774),
  List.forall_mem_cons.mpr ⟨(xOK_pure (xs_aload_n (k := 0) rfl (by decide +kernel))),
  List.forall_mem_cons.mpr ⟨(xOK_pure (xs_iload_n (k := 1) rfl (by decide +kernel))),
  List.forall_mem_cons.mpr ⟨(xs_putF (k := 0) xcl_0 (by decide) rfl rfl rfl (by decide +kernel) xw_752),
  List.forall_mem_cons.mpr ⟨(xOK_pure (xs_aload_n (k := 0) rfl (by decide +kernel))),
  List.forall_mem_cons.mpr ⟨(xOK_pure (xs_iload_n (k := 2) rfl (by decide +kernel))),
  (fun _ h => absurd h List.not_mem_nil)⟩⟩⟩⟩⟩⟩⟩⟩⟩⟩⟩⟩⟩⟩⟩⟩⟩⟩⟩⟩
def pX0_init_1 (ev : xEv) : List (Nat × xEn) := [(34, .inl (xo_putf 0 1 .int)), (37, .inl (xop (xf_aload 0 1))), (38, .inl (xop (xf_iload 3 1))), (39, .inl (xo_putf 0 2 .int)), (42, .inl (xop (xf_aload 0 1))), (43, .inl (xop (xf_iload 4 2))), (45, .inl (xo_putf 0 3 .int)), (48, .inl (xop (xf_aload 0 1))), (49, .inl (xop (xf_iload 5 2))), (51, .inl (xo_putf 0 4 .int)), (54, .inl (xop (xf_aload 0 1))), (55, .inl (xop (xf_iload 1 1))), (56, .inl (xo_putf 0 5 .int)), (59, .inr (.inr 0))]
set_option maxRecDepth 20000 in
theorem okpX0_init_1 (ev : xEv) : ∀ q ∈ pX0_init_1 ev, xEnOK ev xmi yX0_init.cls yX0_init.name cX0_init 6 none q :=
  List.forall_mem_cons.mpr ⟨(xs_putF (k := 1) xcl_0 (by decide) rfl rfl rfl (by decide +kernel) xw_754),
  List.forall_mem_cons.mpr ⟨(xOK_pure (xs_aload_n (k := 0) rfl (by decide +kernel))),
  List.forall_mem_cons.mpr ⟨(xOK_pure (xs_iload_n (k := 3) rfl (by decide +kernel))),
  List.forall_mem_cons.mpr ⟨(xs_putF (k := 2) xcl_0 (by decide) rfl rfl rfl (by decide +kernel) xw_757),
  List.forall_mem_cons.mpr ⟨(xOK_pure (xs_aload_n (k := 0) rfl (by decide +kernel))),
  List.forall_mem_cons.mpr ⟨(xOK_pure (xs_iload (by decide +kernel))),
  List.forall_mem_cons.mpr ⟨(xs_putF (k := 3) xcl_0 (by decide) rfl rfl rfl (by decide +kernel) xw_759),
  List.forall_mem_cons.mpr ⟨(xOK_pure (xs_aload_n (k := 0) rfl (by decide +kernel))),
  List.forall_mem_cons.mpr ⟨(xOK_pure (xs_iload (by decide +kernel))),
  List.forall_mem_cons.mpr ⟨(xs_putF (k := 4) xcl_0 (by decide) rfl rfl rfl (by decide +kernel) xw_761),
  List.forall_mem_cons.mpr ⟨(xOK_pure (xs_aload_n (k := 0) rfl (by decide +kernel))),
  List.forall_mem_cons.mpr ⟨(xOK_pure (xs_iload_n (k := 1) rfl (by decide +kernel))),
  List.forall_mem_cons.mpr ⟨(xs_putf (k := 5) xcl_0 (by decide) rfl (by decide +kernel) xw_762),
  List.forall_mem_cons.mpr ⟨(Or.inl ⟨rfl, (by decide +kernel), rfl⟩),
  (fun _ h => absurd h List.not_mem_nil)⟩⟩⟩⟩⟩⟩⟩⟩⟩⟩⟩⟩⟩⟩
def pX0_init (ev : xEv) : List (Nat × xEn) := pX0_init_0 ev ++ (pX0_init_1 ev)
theorem okpX0_init (ev : xEv) : ∀ q ∈ pX0_init ev, xEnOK ev xmi yX0_init.cls yX0_init.name cX0_init 6 none q := List.forall_mem_append.mpr ⟨okpX0_init_0 ev, okpX0_init_1 ev⟩
theorem omX0_init (ev : xEv) : xMethOK ev xmi yX0_init.cls yX0_init.name 0 (pX0_init ev) := xMethOK.of mi_0 (by decide +kernel) (okpX0_init ev)
def pX0_isAheadOf (ev : xEv) : List (Nat × xEn) := [(0, .inl (xop (xf_aload 0 1))), (1, .inl (xop (xf_getf 0 3))), (4, .inl (xop (xf_aload 1 1))), (5, .inl (xop (xf_getf 0 3))), (8, .inl (xop (xf_icmp_lt 33))), (11, .inl (xop (xf_aload 0 1))), (12, .inl (xop (xf_getf 0 3))), (15, .inl (xop (xf_aload 1 1))), (16, .inl (xop (xf_getf 0 3))), (19, .inl (xop (xf_icmp_ne 37))), (22, .inl (xop (xf_aload 0 1))), (23, .inl (xop (xf_getf 0 4))), (26, .inl (xop (xf_aload 1 1))), (27, .inl (xop (xf_getf 0 4))), (30, .inl (xop (xf_icmp_ge 37))), (33, .inl (xop (xf_push (.int 1) 1))), (34, .inl (xop (xf_goto 38))), (37, .inl (xop (xf_push (.int 0) 1))), (38, .inr (.inr 4))]
set_option maxRecDepth 20000 in
theorem okpX0_isAheadOf (ev : xEv) : ∀ q ∈ pX0_isAheadOf ev, xEnOK ev xmi yX0_isAheadOf.cls yX0_isAheadOf.name cX0_isAheadOf 2 (some .boolean) q :=
  List.forall_mem_cons.mpr ⟨(xOK_pure (xs_aload_n (k := 0) rfl (by decide +kernel))),
  List.forall_mem_cons.mpr ⟨(xOK_pure (xs_getf xcl_0 (by decide) (by decide +kernel) xw_759)),
  List.forall_mem_cons.mpr ⟨(xOK_pure (xs_aload_n (k := 1) rfl (by decide +kernel))),
  List.forall_mem_cons.mpr ⟨(xOK_pure (xs_getf xcl_0 (by decide) (by decide +kernel) xw_759)),
  List.forall_mem_cons.mpr ⟨(xOK_pure (xs_icmp_lt (by decide +kernel) (by decide))),
  List.forall_mem_cons.mpr ⟨(xOK_pure (xs_aload_n (k := 0) rfl (by decide +kernel))),
  List.forall_mem_cons.mpr ⟨(xOK_pure (xs_getf xcl_0 (by decide) (by decide +kernel) xw_759)),
  List.forall_mem_cons.mpr ⟨(xOK_pure (xs_aload_n (k := 1) rfl (by decide +kernel))),
  List.forall_mem_cons.mpr ⟨(xOK_pure (xs_getf xcl_0 (by decide) (by decide +kernel) xw_759)),
  List.forall_mem_cons.mpr ⟨(xOK_pure (xs_icmp_ne (by decide +kernel) (by decide))),
  List.forall_mem_cons.mpr ⟨(xOK_pure (xs_aload_n (k := 0) rfl (by decide +kernel))),
  List.forall_mem_cons.mpr ⟨(xOK_pure (xs_getf xcl_0 (by decide) (by decide +kernel) xw_761)),
  List.forall_mem_cons.mpr ⟨(xOK_pure (xs_aload_n (k := 1) rfl (by decide +kernel))),
  List.forall_mem_cons.mpr ⟨(xOK_pure (xs_getf xcl_0 (by decide) (by decide +kernel) xw_761)),
  List.forall_mem_cons.mpr ⟨(xOK_pure (xs_icmp_ge (by decide +kernel) (by decide))),
  List.forall_mem_cons.mpr ⟨(xOK_pure (xs_iconst (n := 1) (by decide +kernel) (by decide))),
  List.forall_mem_cons.mpr ⟨(xOK_pure (xs_goto (by decide +kernel) (by decide))),
  List.forall_mem_cons.mpr ⟨(xOK_pure (xs_iconst (n := 0) (by decide +kernel) (by decide))),
  List.forall_mem_cons.mpr ⟨(Or.inr (Or.inr (Or.inr (Or.inr ⟨rfl, (by decide +kernel), rfl⟩)))),
  (fun _ h => absurd h List.not_mem_nil)⟩⟩⟩⟩⟩⟩⟩⟩⟩⟩⟩⟩⟩⟩⟩⟩⟩⟩⟩
theorem omX0_isAheadOf (ev : xEv) : xMethOK ev xmi yX0_isAheadOf.cls yX0_isAheadOf.name 1 (pX0_isAheadOf ev) := xMethOK.of mi_1 (by decide +kernel) (okpX0_isAheadOf ev)
def pX0_late (ev : xEv) : List (Nat × xEn) := [(0, .inl (xop (xf_push (.int 0) 1))), (1, .inl (xop (xf_aload 0 1))), (2, .inl (xop (xf_getf 0 8))), (5, .inl (xop (xf_aload 0 1))), (6, .inl (xop (xf_getf 0 4))), (9, .inl (xop (xf_bin (fun x y => x - y)))), (10, .inr (.inl (1, 302, 2, 99))), (13, .inr (.inr 1))]
set_option maxRecDepth 20000 in
theorem okpX0_late (ev : xEv) : ∀ q ∈ pX0_late ev, xEnOK ev xmi yX0_late.cls yX0_late.name cX0_late 1 (some .int) q :=
  List.forall_mem_cons.mpr ⟨(xOK_pure (xs_iconst (n := 0) (by decide +kernel) (by decide))),
  List.forall_mem_cons.mpr ⟨(xOK_pure (xs_aload_n (k := 0) rfl (by decide +kernel))),
  List.forall_mem_cons.mpr ⟨(xOK_pure (xs_getf xcl_0 (by decide) (by decide +kernel) xw_771)),
  List.forall_mem_cons.mpr ⟨(xOK_pure (xs_aload_n (k := 0) rfl (by decide +kernel))),
  List.forall_mem_cons.mpr ⟨(xOK_pure (xs_getf xcl_0 (by decide) (by decide +kernel) xw_761)),
  List.forall_mem_cons.mpr ⟨(xOK_pure (xs_isub (by decide +kernel))),
  List.forall_mem_cons.mpr ⟨(xcm mi_302 ⟨⟨(by decide +kernel), (by decide +kernel), (by decide +kernel)⟩, (by decide), xw_829, xw_126, Or.inr (Or.inl ⟨rfl, _, (by decide +kernel), xw_1315, xw_828⟩)⟩),
  List.forall_mem_cons.mpr ⟨(Or.inr (Or.inl ⟨rfl, (by decide +kernel), rfl⟩)),
  (fun _ h => absurd h List.not_mem_nil)⟩⟩⟩⟩⟩⟩⟩⟩
theorem omX0_late (ev : xEv) : xMethOK ev xmi yX0_late.cls yX0_late.name 2 (pX0_late ev) := xMethOK.of mi_2 (by decide +kernel) (okpX0_late ev)
def pX0_putAt_0 (ev : xEv) : List (Nat × xEn) := [(0, .inl (xop (xf_aload 0 1))), (1, .inl (xop (xf_push (.int (-1)) 1))), (2, .inl (xo_putf 0 6 .int)), (5, .inl (xop (xf_aload 0 1))), (6, .inl (xop (xf_push (.int (-1)) 1))), (7, .inl (xo_putf 0 7 .int)), (10, .inl (xop (xf_iload 1 1))), (11, .inl (xop (xf_aload 0 1))), (12, .inl (xop (xf_getf 0 1))), (15, .inl (xop (xf_icmp_ne 39))), (18, .inl (xop (xf_aload 0 1))), (19, .inl (xop (xf_push (.int (-1)) 1))), (20, .inl (xo_putf 0 5 .int)), (23, .inl (xop (xf_aload 0 1))), (24, .inl (xop (xf_iload 2 1))), (25, .inl (xo_putf 0 8 .int)), (28, .inl (xop (xf_aload 0 1))), (29, .inl (xop (xf_iload 2 1))), (30, .inl (xop (xf_push (.int 300) 3))), (33, .inr (.inl (0, 6, 2, 0)))]
set_option maxRecDepth 20000 in
theorem okpX0_putAt_0 (ev : xEv) : ∀ q ∈ pX0_putAt_0 ev, xEnOK ev xmi yX0_putAt.cls yX0_putAt.name cX0_putAt 3 none q :=
  List.forall_mem_cons.mpr ⟨(xOK_pure (xs_aload_n (k := 0) rfl (by decide +kernel))),
  List.forall_mem_cons.mpr ⟨(xOK_pure (xs_iconst (n := (-1)) (by decide +kernel) (by decide))),
  List.forall_mem_cons.mpr ⟨(xs_putf (k := 6) xcl_0 (by decide) rfl (by decide +kernel) xw_765),
  List.forall_mem_cons.mpr ⟨(xOK_pure (xs_aload_n (k := 0) rfl (by decide +kernel))),
  List.forall_mem_cons.mpr ⟨(xOK_pure (xs_iconst (n := (-1)) (by decide +kernel) (by decide))),
  List.forall_mem_cons.mpr ⟨(xs_putf (k := 7) xcl_0 (by decide) rfl (by decide +kernel) xw_768),
  List.forall_mem_cons.mpr ⟨(xOK_pure (xs_iload_n (k := 1) rfl (by decide +kernel))),
  List.forall_mem_cons.mpr ⟨(xOK_pure (xs_aload_n (k := 0) rfl (by decide +kernel))),
  List.forall_mem_cons.mpr ⟨(xOK_pure (xs_getf xcl_0 (by decide) (by decide +kernel) xw_754)),
  List.forall_mem_cons.mpr ⟨(xOK_pure (xs_icmp_ne (by decide +kernel) (by decide))),
  List.forall_mem_cons.mpr ⟨(xOK_pure (xs_aload_n (k := 0) rfl (by decide +kernel))),
  List.forall_mem_cons.mpr ⟨(xOK_pure (xs_iconst (n := (-1)) (by decide +kernel) (by decide))),
  List.forall_mem_cons.mpr ⟨(xs_putf (k := 5) xcl_0 (by decide) rfl (by decide +kernel) xw_762),
  List.forall_mem_cons.mpr ⟨(xOK_pure (xs_aload_n (k := 0) rfl (by decide +kernel))),
  List.forall_mem_cons.mpr ⟨(xOK_pure (xs_iload_n (k := 2) rfl (by decide +kernel))),
  List.forall_mem_cons.mpr ⟨(xs_putf (k := 8) xcl_0 (by decide) rfl (by decide +kernel) xw_771),
  List.forall_mem_cons.mpr ⟨(xOK_pure (xs_aload_n (k := 0) rfl (by decide +kernel))),
  List.forall_mem_cons.mpr ⟨(xOK_pure (xs_iload_n (k := 2) rfl (by decide +kernel))),
  List.forall_mem_cons.mpr ⟨(xOK_pure (xs_sipush (n := 300) (by decide +kernel) (by decide))),
  List.forall_mem_cons.mpr ⟨(xcm mi_6 ⟨⟨(by decide +kernel), (by decide +kernel), (by decide +kernel)⟩, (by decide), xw_811, xw_133, Or.inl ⟨rfl, _, _, _, _, (by decide +kernel), xw_834, xw_809, xw_810, rfl⟩⟩),
  (fun _ h => absurd h List.not_mem_nil)⟩⟩⟩⟩⟩⟩⟩⟩⟩⟩⟩⟩⟩⟩⟩⟩⟩⟩⟩⟩
def pX0_putAt_1 (ev : xEv) : List (Nat × xEn) := [(36, .inl (xop (xf_goto 50))), (39, .inl (xop (xf_aload 0 1))), (40, .inl (xop (xf_iload 1 1))), (41, .inl (xo_putf 0 5 .int)), (44, .inl (xop (xf_aload 0 1))), (45, .inl (xop (xf_iload 2 1))), (46, .inl (xop (xf_iload 1 1))), (47, .inr (.inl (0, 6, 2, 0))), (50, .inr (.inr 0))]
set_option maxRecDepth 20000 in
theorem okpX0_putAt_1 (ev : xEv) : ∀ q ∈ pX0_putAt_1 ev, xEnOK ev xmi yX0_putAt.cls yX0_putAt.name cX0_putAt 3 none q :=
  List.forall_mem_cons.mpr ⟨(xOK_pure (xs_goto (by decide +kernel) (by decide))),
  List.forall_mem_cons.mpr ⟨(xOK_pure (xs_aload_n (k := 0) rfl (by decide +kernel))),
  List.forall_mem_cons.mpr ⟨(xOK_pure (xs_iload_n (k := 1) rfl (by decide +kernel))),
  List.forall_mem_cons.mpr ⟨(xs_putf (k := 5) xcl_0 (by decide) rfl (by decide +kernel) xw_762),
  List.forall_mem_cons.mpr ⟨(xOK_pure (xs_aload_n (k := 0) rfl (by decide +kernel))),
  List.forall_mem_cons.mpr ⟨(xOK_pure (xs_iload_n (k := 2) rfl (by decide +kernel))),
  List.forall_mem_cons.mpr ⟨(xOK_pure (xs_iload_n (k := 1) rfl (by decide +kernel))),
  List.forall_mem_cons.mpr ⟨(xcm mi_6 ⟨⟨(by decide +kernel), (by decide +kernel), (by decide +kernel)⟩, (by decide), xw_811, xw_133, Or.inl ⟨rfl, _, _, _, _, (by decide +kernel), xw_834, xw_809, xw_810, rfl⟩⟩),
  List.forall_mem_cons.mpr ⟨(Or.inl ⟨rfl, (by decide +kernel), rfl⟩),
  (fun _ h => absurd h List.not_mem_nil)⟩⟩⟩⟩⟩⟩⟩⟩⟩
def pX0_putAt (ev : xEv) : List (Nat × xEn) := pX0_putAt_0 ev ++ (pX0_putAt_1 ev)
theorem okpX0_putAt (ev : xEv) : ∀ q ∈ pX0_putAt ev, xEnOK ev xmi yX0_putAt.cls yX0_putAt.name cX0_putAt 3 none q := List.forall_mem_append.mpr ⟨okpX0_putAt_0 ev, okpX0_putAt_1 ev⟩
theorem omX0_putAt (ev : xEv) : xMethOK ev xmi yX0_putAt.cls yX0_putAt.name 3 (pX0_putAt ev) := xMethOK.of mi_3 (by decide +kernel) (okpX0_putAt ev)
def pX0_embark (ev : xEv) : List (Nat × xEn) := [(0, .inl (xop (xf_aload 0 1))), (1, .inl (xop (xf_push (.int (-1)) 1))), (2, .inl (xo_putf 0 5 .int)), (5, .inl (xop (xf_aload 0 1))), (6, .inl (xop (xf_iload 1 1))), (7, .inl (xo_putf 0 6 .int)), (10, .inl (xop (xf_aload 0 1))), (11, .inl (xop (xf_iload 2 1))), (12, .inl (xop (xf_push (.int 100) 2))), (14, .inl (xop (xf_iload 1 1))), (15, .inl (xop (xf_bin (fun x y => x + y)))), (16, .inr (.inl (0, 6, 2, 0))), (19, .inr (.inr 0))]
set_option maxRecDepth 20000 in
theorem okpX0_embark (ev : xEv) : ∀ q ∈ pX0_embark ev, xEnOK ev xmi yX0_embark.cls yX0_embark.name cX0_embark 3 none q :=
  List.forall_mem_cons.mpr ⟨(xOK_pure (xs_aload_n (k := 0) rfl (by decide +kernel))),
  List.forall_mem_cons.mpr ⟨(xOK_pure (xs_iconst (n := (-1)) (by decide +kernel) (by decide))),
  List.forall_mem_cons.mpr ⟨(xs_putf (k := 5) xcl_0 (by decide) rfl (by decide +kernel) xw_762),
  List.forall_mem_cons.mpr ⟨(xOK_pure (xs_aload_n (k := 0) rfl (by decide +kernel))),
  List.forall_mem_cons.mpr ⟨(xOK_pure (xs_iload_n (k := 1) rfl (by decide +kernel))),
  List.forall_mem_cons.mpr ⟨(xs_putf (k := 6) xcl_0 (by decide) rfl (by decide +kernel) xw_765),
  List.forall_mem_cons.mpr ⟨(xOK_pure (xs_aload_n (k := 0) rfl (by decide +kernel))),
  List.forall_mem_cons.mpr ⟨(xOK_pure (xs_iload_n (k := 2) rfl (by decide +kernel))),
  List.forall_mem_cons.mpr ⟨(xOK_pure (xs_bipush (n := 100) (by decide +kernel) (by decide))),
  List.forall_mem_cons.mpr ⟨(xOK_pure (xs_iload_n (k := 1) rfl (by decide +kernel))),
  List.forall_mem_cons.mpr ⟨(xOK_pure (xs_iadd (by decide +kernel))),
  List.forall_mem_cons.mpr ⟨(xcm mi_6 ⟨⟨(by decide +kernel), (by decide +kernel), (by decide +kernel)⟩, (by decide), xw_811, xw_133, Or.inl ⟨rfl, _, _, _, _, (by decide +kernel), xw_834, xw_809, xw_810, rfl⟩⟩),
  List.forall_mem_cons.mpr ⟨(Or.inl ⟨rfl, (by decide +kernel), rfl⟩),
  (fun _ h => absurd h List.not_mem_nil)⟩⟩⟩⟩⟩⟩⟩⟩⟩⟩⟩⟩⟩
theorem omX0_embark (ev : xEv) : xMethOK ev xmi yX0_embark.cls yX0_embark.name 4 (pX0_embark ev) := xMethOK.of mi_4 (by decide +kernel) (okpX0_embark ev)
def pX0_entrain (ev : xEv) : List (Nat × xEn) := [(0, .inl (xop (xf_aload 0 1))), (1, .inl (xop (xf_push (.int (-1)) 1))), (2, .inl (xo_putf 0 5 .int)), (5, .inl (xop (xf_aload 0 1))), (6, .inl (xop (xf_iload 2 1))), (7, .inl (xo_putf 0 7 .int)), (10, .inl (xop (xf_aload 0 1))), (11, .inl (xop (xf_iload 1 1))), (12, .inl (xop (xf_push (.int 200) 3))), (15, .inr (.inl (0, 6, 2, 0))), (18, .inr (.inr 0))]
set_option maxRecDepth 20000 in
theorem okpX0_entrain (ev : xEv) : ∀ q ∈ pX0_entrain ev, xEnOK ev xmi yX0_entrain.cls yX0_entrain.name cX0_entrain 3 none q :=
  List.forall_mem_cons.mpr ⟨(xOK_pure (xs_aload_n (k := 0) rfl (by decide +kernel))),
  List.forall_mem_cons.mpr ⟨(xOK_pure (xs_iconst (n := (-1)) (by decide +kernel) (by decide))),
  List.forall_mem_cons.mpr ⟨(xs_putf (k := 5) xcl_0 (by decide) rfl (by decide +kernel) xw_762),
  List.forall_mem_cons.mpr ⟨(xOK_pure (xs_aload_n (k := 0) rfl (by decide +kernel))),
  List.forall_mem_cons.mpr ⟨(xOK_pure (xs_iload_n (k := 2) rfl (by decide +kernel))),
  List.forall_mem_cons.mpr ⟨(xs_putf (k := 7) xcl_0 (by decide) rfl (by decide +kernel) xw_768),
  List.forall_mem_cons.mpr ⟨(xOK_pure (xs_aload_n (k := 0) rfl (by decide +kernel))),
  List.forall_mem_cons.mpr ⟨(xOK_pure (xs_iload_n (k := 1) rfl (by decide +kernel))),
  List.forall_mem_cons.mpr ⟨(xOK_pure (xs_sipush (n := 200) (by decide +kernel) (by decide))),
  List.forall_mem_cons.mpr ⟨(xcm mi_6 ⟨⟨(by decide +kernel), (by decide +kernel), (by decide +kernel)⟩, (by decide), xw_811, xw_133, Or.inl ⟨rfl, _, _, _, _, (by decide +kernel), xw_834, xw_809, xw_810, rfl⟩⟩),
  List.forall_mem_cons.mpr ⟨(Or.inl ⟨rfl, (by decide +kernel), rfl⟩),
  (fun _ h => absurd h List.not_mem_nil)⟩⟩⟩⟩⟩⟩⟩⟩⟩⟩⟩
theorem omX0_entrain (ev : xEv) : xMethOK ev xmi yX0_entrain.cls yX0_entrain.name 5 (pX0_entrain ev) := xMethOK.of mi_5 (by decide +kernel) (okpX0_entrain ev)
def pX0_addStep_0 (ev : xEv) : List (Nat × xEn) := [(0, .inl (xop (xf_aload 0 1))), (1, .inl (xop (xf_getf 0 10))), (4, .inl (xop (xf_push (.int 16) 2))), (6, .inl (xop (xf_icmp_ge 45))), (9, .inl (xop (xf_aload 0 1))), (10, .inl (xop (xf_getf 0 9))), (13, .inl (xop (xf_push (.int 2) 1))), (14, .inl (xop (xf_aload 0 1))), (15, .inl (xop (xf_getf 0 10))), (18, .inl (xop (xf_bin (fun x y => x * y)))), (19, .inl (xop (xf_iload 1 1))), (20, .inl (xo_ast (ev.1 0) (fun x => x))), (21, .inl (xop (xf_aload 0 1))), (22, .inl (xop (xf_getf 0 9))), (25, .inl (xop (xf_push (.int 2) 1))), (26, .inl (xop (xf_aload 0 1))), (27, .inl (xop (xf_getf 0 10))), (30, .inl (xop (xf_bin (fun x y => x * y)))), (31, .inl (xop (xf_push (.int 1) 1))), (32, .inl (xop (xf_bin (fun x y => x + y))))]
set_option maxRecDepth 20000 in
theorem okpX0_addStep_0 (ev : xEv) : ∀ q ∈ pX0_addStep_0 ev, xEnOK ev xmi yX0_addStep.cls yX0_addStep.name cX0_addStep 3 none q :=
  List.forall_mem_cons.mpr ⟨(xOK_pure (xs_aload_n (k := 0) rfl (by decide +kernel))),
  List.forall_mem_cons.mpr ⟨(xOK_pure (xs_getf xcl_0 (by decide) (by decide +kernel) xw_776)),
  List.forall_mem_cons.mpr ⟨(xOK_pure (xs_bipush (n := 16) (by decide +kernel) (by decide))),
  List.forall_mem_cons.mpr ⟨(xOK_pure (xs_icmp_ge (by decide +kernel) (by decide))),
  List.forall_mem_cons.mpr ⟨(xOK_pure (xs_aload_n (k := 0) rfl (by decide +kernel))),
  List.forall_mem_cons.mpr ⟨(xOK_pure (xs_getf xcl_0 (by decide) (by decide +kernel) xw_774)),
  List.forall_mem_cons.mpr ⟨(xOK_pure (xs_iconst (n := 2) (by decide +kernel) (by decide))),
  List.forall_mem_cons.mpr ⟨(xOK_pure (xs_aload_n (k := 0) rfl (by decide +kernel))),
  List.forall_mem_cons.mpr ⟨(xOK_pure (xs_getf xcl_0 (by decide) (by decide +kernel) xw_776)),
  List.forall_mem_cons.mpr ⟨(xOK_pure (xs_imul (by decide +kernel))),
  List.forall_mem_cons.mpr ⟨(xOK_pure (xs_iload_n (k := 1) rfl (by decide +kernel))),
  List.forall_mem_cons.mpr ⟨(xs_iast (by decide +kernel)),
  List.forall_mem_cons.mpr ⟨(xOK_pure (xs_aload_n (k := 0) rfl (by decide +kernel))),
  List.forall_mem_cons.mpr ⟨(xOK_pure (xs_getf xcl_0 (by decide) (by decide +kernel) xw_774)),
  List.forall_mem_cons.mpr ⟨(xOK_pure (xs_iconst (n := 2) (by decide +kernel) (by decide))),
  List.forall_mem_cons.mpr ⟨(xOK_pure (xs_aload_n (k := 0) rfl (by decide +kernel))),
  List.forall_mem_cons.mpr ⟨(xOK_pure (xs_getf xcl_0 (by decide) (by decide +kernel) xw_776)),
  List.forall_mem_cons.mpr ⟨(xOK_pure (xs_imul (by decide +kernel))),
  List.forall_mem_cons.mpr ⟨(xOK_pure (xs_iconst (n := 1) (by decide +kernel) (by decide))),
  List.forall_mem_cons.mpr ⟨(xOK_pure (xs_iadd (by decide +kernel))),
  (fun _ h => absurd h List.not_mem_nil)⟩⟩⟩⟩⟩⟩⟩⟩⟩⟩⟩⟩⟩⟩⟩⟩⟩⟩⟩⟩
def pX0_addStep_1 (ev : xEv) : List (Nat × xEn) := [(33, .inl (xop (xf_iload 2 1))), (34, .inl (xo_ast (ev.1 0) (fun x => x))), (35, .inl (xop (xf_aload 0 1))), (36, .inl (xop xf_dup)), (37, .inl (xop (xf_getf 0 10))), (40, .inl (xop (xf_push (.int 1) 1))), (41, .inl (xop (xf_bin (fun x y => x + y)))), (42, .inl (xo_putf 0 10 .int)), (45, .inr (.inr 0))]
set_option maxRecDepth 20000 in
theorem okpX0_addStep_1 (ev : xEv) : ∀ q ∈ pX0_addStep_1 ev, xEnOK ev xmi yX0_addStep.cls yX0_addStep.name cX0_addStep 3 none q :=
  List.forall_mem_cons.mpr ⟨(xOK_pure (xs_iload_n (k := 2) rfl (by decide +kernel))),
  List.forall_mem_cons.mpr ⟨(xs_iast (by decide +kernel)),
  List.forall_mem_cons.mpr ⟨(xOK_pure (xs_aload_n (k := 0) rfl (by decide +kernel))),
  List.forall_mem_cons.mpr ⟨(xOK_pure (xs_dup (by decide +kernel))),
  List.forall_mem_cons.mpr ⟨(xOK_pure (xs_getf xcl_0 (by decide) (by decide +kernel) xw_776)),
  List.forall_mem_cons.mpr ⟨(xOK_pure (xs_iconst (n := 1) (by decide +kernel) (by decide))),
  List.forall_mem_cons.mpr ⟨(xOK_pure (xs_iadd (by decide +kernel))),
  List.forall_mem_cons.mpr ⟨(xs_putf (k := 10) xcl_0 (by decide) rfl (by decide +kernel) xw_776),
  List.forall_mem_cons.mpr ⟨(Or.inl ⟨rfl, (by decide +kernel), rfl⟩),
  (fun _ h => absurd h List.not_mem_nil)⟩⟩⟩⟩⟩⟩⟩⟩⟩
def pX0_addStep (ev : xEv) : List (Nat × xEn) := pX0_addStep_0 ev ++ (pX0_addStep_1 ev)
theorem okpX0_addStep (ev : xEv) : ∀ q ∈ pX0_addStep ev, xEnOK ev xmi yX0_addStep.cls yX0_addStep.name cX0_addStep 3 none q := List.forall_mem_append.mpr ⟨okpX0_addStep_0 ev, okpX0_addStep_1 ev⟩
theorem omX0_addStep (ev : xEv) : xMethOK ev xmi yX0_addStep.cls yX0_addStep.name 6 (pX0_addStep ev) := xMethOK.of mi_6 (by decide +kernel) (okpX0_addStep ev)
def pX0_keep_0 (ev : xEv) : List (Nat × xEn) := [(0, .inl (xop (xf_aload 0 1))), (1, .inl (xop (xf_getf 0 11))), (4, .inl (xop (xf_ifnonnull 38))), (7, .inl (xop (xf_aload 0 1))), (8, .inl (xo_new 0 12 [.int 0, .int 0, .int 0, .int 0, .int 0, .int 0, .int 0, .int 0, .int 0, .null, .int 0, .null])), (11, .inl (xop xf_dup)), (12, .inl (xop (xf_aload 0 1))), (13, .inl (xop (xf_getf 0 0))), (16, .inl (xop (xf_aload 0 1))), (17, .inl (xop (xf_getf 0 1))), (20, .inl (xop (xf_aload 0 1))), (21, .inl (xop (xf_getf 0 2))), (24, .inl (xop (xf_aload 0 1))), (25, .inl (xop (xf_getf 0 3))), (28, .inl (xop (xf_aload 0 1))), (29, .inl (xop (xf_getf 0 4))), (32, .inr (.inl (2, 0, 5, 0))), (35, .inl (xo_putf 0 11 (.object "AirMail$Bag"))), (38, .inl (xop (xf_aload 0 1))), (39, .inl (xop (xf_aload 0 1)))]
set_option maxRecDepth 20000 in
theorem okpX0_keep_0 (ev : xEv) : ∀ q ∈ pX0_keep_0 ev, xEnOK ev xmi yX0_keep.cls yX0_keep.name cX0_keep 1 none q :=
  List.forall_mem_cons.mpr ⟨(xOK_pure (xs_aload_n (k := 0) rfl (by decide +kernel))),
  List.forall_mem_cons.mpr ⟨(xOK_pure (xs_getf xcl_0 (by decide) (by decide +kernel) xw_778)),
  List.forall_mem_cons.mpr ⟨(xOK_pure (xs_ifnonnull (by decide +kernel) (by decide))),
  List.forall_mem_cons.mpr ⟨(xOK_pure (xs_aload_n (k := 0) rfl (by decide +kernel))),
  List.forall_mem_cons.mpr ⟨(xs_new xcl_0 (by decide +kernel) (by decide +kernel) xw_1493 xw_747 xw_133),
  List.forall_mem_cons.mpr ⟨(xOK_pure (xs_dup (by decide +kernel))),
  List.forall_mem_cons.mpr ⟨(xOK_pure (xs_aload_n (k := 0) rfl (by decide +kernel))),
  List.forall_mem_cons.mpr ⟨(xOK_pure (xs_getf xcl_0 (by decide) (by decide +kernel) xw_752)),
  List.forall_mem_cons.mpr ⟨(xOK_pure (xs_aload_n (k := 0) rfl (by decide +kernel))),
  List.forall_mem_cons.mpr ⟨(xOK_pure (xs_getf xcl_0 (by decide) (by decide +kernel) xw_754)),
  List.forall_mem_cons.mpr ⟨(xOK_pure (xs_aload_n (k := 0) rfl (by decide +kernel))),
  List.forall_mem_cons.mpr ⟨(xOK_pure (xs_getf xcl_0 (by decide) (by decide +kernel) xw_757)),
  List.forall_mem_cons.mpr ⟨(xOK_pure (xs_aload_n (k := 0) rfl (by decide +kernel))),
  List.forall_mem_cons.mpr ⟨(xOK_pure (xs_getf xcl_0 (by decide) (by decide +kernel) xw_759)),
  List.forall_mem_cons.mpr ⟨(xOK_pure (xs_aload_n (k := 0) rfl (by decide +kernel))),
  List.forall_mem_cons.mpr ⟨(xOK_pure (xs_getf xcl_0 (by decide) (by decide +kernel) xw_761)),
  List.forall_mem_cons.mpr ⟨(xcm mi_0 ⟨⟨(by decide +kernel), (by decide +kernel), (by decide +kernel)⟩, (by decide), xw_750, xw_133, Or.inr (Or.inr (Or.inl ⟨rfl, _, (by decide +kernel), rfl, xw_1494, xw_749, rfl⟩))⟩),
  List.forall_mem_cons.mpr ⟨(xs_putf (k := 11) xcl_0 (by decide) rfl (by decide +kernel) xw_778),
  List.forall_mem_cons.mpr ⟨(xOK_pure (xs_aload_n (k := 0) rfl (by decide +kernel))),
  List.forall_mem_cons.mpr ⟨(xOK_pure (xs_aload_n (k := 0) rfl (by decide +kernel))),
  (fun _ h => absurd h List.not_mem_nil)⟩⟩⟩⟩⟩⟩⟩⟩⟩⟩⟩⟩⟩⟩⟩⟩⟩⟩⟩⟩
def pX0_keep_1 (ev : xEv) : List (Nat × xEn) := [(40, .inl (xop (xf_getf 0 11))), (43, .inr (.inl (1, 9, 2, 0))), (46, .inr (.inr 0))]
set_option maxRecDepth 20000 in
theorem okpX0_keep_1 (ev : xEv) : ∀ q ∈ pX0_keep_1 ev, xEnOK ev xmi yX0_keep.cls yX0_keep.name cX0_keep 1 none q :=
  List.forall_mem_cons.mpr ⟨(xOK_pure (xs_getf xcl_0 (by decide) (by decide +kernel) xw_778)),
  List.forall_mem_cons.mpr ⟨(xcm mi_9 ⟨⟨(by decide +kernel), (by decide +kernel), (by decide +kernel)⟩, (by decide), xw_1497, xw_133, Or.inr (Or.inl ⟨rfl, _, (by decide +kernel), xw_1495, xw_1496⟩)⟩),
  List.forall_mem_cons.mpr ⟨(Or.inl ⟨rfl, (by decide +kernel), rfl⟩),
  (fun _ h => absurd h List.not_mem_nil)⟩⟩⟩
def pX0_keep (ev : xEv) : List (Nat × xEn) := pX0_keep_0 ev ++ (pX0_keep_1 ev)
theorem okpX0_keep (ev : xEv) : ∀ q ∈ pX0_keep ev, xEnOK ev xmi yX0_keep.cls yX0_keep.name cX0_keep 1 none q := List.forall_mem_append.mpr ⟨okpX0_keep_0 ev, okpX0_keep_1 ev⟩
theorem omX0_keep (ev : xEv) : xMethOK ev xmi yX0_keep.cls yX0_keep.name 7 (pX0_keep ev) := xMethOK.of mi_7 (by decide +kernel) (okpX0_keep ev)
def pX0_giveBack (ev : xEv) : List (Nat × xEn) := [(0, .inl (xop (xf_aload 0 1))), (1, .inl (xop (xf_getf 0 11))), (4, .inl (xop (xf_ifnull 15))), (7, .inl (xop (xf_aload 0 1))), (8, .inl (xop (xf_getf 0 11))), (11, .inl (xop (xf_aload 0 1))), (12, .inr (.inl (1, 9, 2, 0))), (15, .inr (.inr 0))]
set_option maxRecDepth 20000 in
theorem okpX0_giveBack (ev : xEv) : ∀ q ∈ pX0_giveBack ev, xEnOK ev xmi yX0_giveBack.cls yX0_giveBack.name cX0_giveBack 1 none q :=
  List.forall_mem_cons.mpr ⟨(xOK_pure (xs_aload_n (k := 0) rfl (by decide +kernel))),
  List.forall_mem_cons.mpr ⟨(xOK_pure (xs_getf xcl_0 (by decide) (by decide +kernel) xw_778)),
  List.forall_mem_cons.mpr ⟨(xOK_pure (xs_ifnull (by decide +kernel) (by decide))),
  List.forall_mem_cons.mpr ⟨(xOK_pure (xs_aload_n (k := 0) rfl (by decide +kernel))),
  List.forall_mem_cons.mpr ⟨(xOK_pure (xs_getf xcl_0 (by decide) (by decide +kernel) xw_778)),
  List.forall_mem_cons.mpr ⟨(xOK_pure (xs_aload_n (k := 0) rfl (by decide +kernel))),
  List.forall_mem_cons.mpr ⟨(xcm mi_9 ⟨⟨(by decide +kernel), (by decide +kernel), (by decide +kernel)⟩, (by decide), xw_1497, xw_133, Or.inr (Or.inl ⟨rfl, _, (by decide +kernel), xw_1495, xw_1496⟩)⟩),
  List.forall_mem_cons.mpr ⟨(Or.inl ⟨rfl, (by decide +kernel), rfl⟩),
  (fun _ h => absurd h List.not_mem_nil)⟩⟩⟩⟩⟩⟩⟩⟩
theorem omX0_giveBack (ev : xEv) : xMethOK ev xmi yX0_giveBack.cls yX0_giveBack.name 8 (pX0_giveBack ev) := xMethOK.of mi_8 (by decide +kernel) (okpX0_giveBack ev)
def pX0_copy_0 (ev : xEv) : List (Nat × xEn) := [(0, .inl (xop (xf_aload 1 1))), (1, .inl (xop (xf_aload 0 1))), (2, .inl (xop (xf_getf 0 5))), (5, .inl (xo_putf 0 5 .int)), (8, .inl (xop (xf_aload 1 1))), (9, .inl (xop (xf_aload 0 1))), (10, .inl (xop (xf_getf 0 6))), (13, .inl (xo_putf 0 6 .int)), (16, .inl (xop (xf_aload 1 1))), (17, .inl (xop (xf_aload 0 1))), (18, .inl (xop (xf_getf 0 7))), (21, .inl (xo_putf 0 7 .int)), (24, .inl (xop (xf_aload 1 1))), (25, .inl (xop (xf_aload 0 1))), (26, .inl (xop (xf_getf 0 8))), (29, .inl (xo_putf 0 8 .int)), (32, .inl (xop (xf_aload 1 1))), (33, .inl (xop (xf_aload 0 1))), (34, .inl (xop (xf_getf 0 10))), (37, .inl (xo_putf 0 10 .int))]
set_option maxRecDepth 20000 in
theorem okpX0_copy_0 (ev : xEv) : ∀ q ∈ pX0_copy_0 ev, xEnOK ev xmi yX0_copy.cls yX0_copy.name cX0_copy 2 none q :=
  List.forall_mem_cons.mpr ⟨(xOK_pure (xs_aload_n (k := 1) rfl (by decide +kernel))),
  List.forall_mem_cons.mpr ⟨(xOK_pure (xs_aload_n (k := 0) rfl (by decide +kernel))),
  List.forall_mem_cons.mpr ⟨(xOK_pure (xs_getf xcl_0 (by decide) (by decide +kernel) xw_762)),
  List.forall_mem_cons.mpr ⟨(xs_putf (k := 5) xcl_0 (by decide) rfl (by decide +kernel) xw_762),
  List.forall_mem_cons.mpr ⟨(xOK_pure (xs_aload_n (k := 1) rfl (by decide +kernel))),
  List.forall_mem_cons.mpr ⟨(xOK_pure (xs_aload_n (k := 0) rfl (by decide +kernel))),
  List.forall_mem_cons.mpr ⟨(xOK_pure (xs_getf xcl_0 (by decide) (by decide +kernel) xw_765)),
  List.forall_mem_cons.mpr ⟨(xs_putf (k := 6) xcl_0 (by decide) rfl (by decide +kernel) xw_765),
  List.forall_mem_cons.mpr ⟨(xOK_pure (xs_aload_n (k := 1) rfl (by decide +kernel))),
  List.forall_mem_cons.mpr ⟨(xOK_pure (xs_aload_n (k := 0) rfl (by decide +kernel))),
  List.forall_mem_cons.mpr ⟨(xOK_pure (xs_getf xcl_0 (by decide) (by decide +kernel) xw_768)),
  List.forall_mem_cons.mpr ⟨(xs_putf (k := 7) xcl_0 (by decide) rfl (by decide +kernel) xw_768),
  List.forall_mem_cons.mpr ⟨(xOK_pure (xs_aload_n (k := 1) rfl (by decide +kernel))),
  List.forall_mem_cons.mpr ⟨(xOK_pure (xs_aload_n (k := 0) rfl (by decide +kernel))),
  List.forall_mem_cons.mpr ⟨(xOK_pure (xs_getf xcl_0 (by decide) (by decide +kernel) xw_771)),
  List.forall_mem_cons.mpr ⟨(xs_putf (k := 8) xcl_0 (by decide) rfl (by decide +kernel) xw_771),
  List.forall_mem_cons.mpr ⟨(xOK_pure (xs_aload_n (k := 1) rfl (by decide +kernel))),
  List.forall_mem_cons.mpr ⟨(xOK_pure (xs_aload_n (k := 0) rfl (by decide +kernel))),
  List.forall_mem_cons.mpr ⟨(xOK_pure (xs_getf xcl_0 (by decide) (by decide +kernel) xw_776)),
  List.forall_mem_cons.mpr ⟨(xs_putf (k := 10) xcl_0 (by decide) rfl (by decide +kernel) xw_776),
  (fun _ h => absurd h List.not_mem_nil)⟩⟩⟩⟩⟩⟩⟩⟩⟩⟩⟩⟩⟩⟩⟩⟩⟩⟩⟩⟩
def pX0_copy_1 (ev : xEv) : List (Nat × xEn) := [(40, .inr (.inr 0))]
set_option maxRecDepth 20000 in
theorem okpX0_copy_1 (ev : xEv) : ∀ q ∈ pX0_copy_1 ev, xEnOK ev xmi yX0_copy.cls yX0_copy.name cX0_copy 2 none q :=
  List.forall_mem_cons.mpr ⟨(Or.inl ⟨rfl, (by decide +kernel), rfl⟩),
  (fun _ h => absurd h List.not_mem_nil)⟩
def pX0_copy (ev : xEv) : List (Nat × xEn) := pX0_copy_0 ev ++ (pX0_copy_1 ev)
theorem okpX0_copy (ev : xEv) : ∀ q ∈ pX0_copy ev, xEnOK ev xmi yX0_copy.cls yX0_copy.name cX0_copy 2 none q := List.forall_mem_append.mpr ⟨okpX0_copy_0 ev, okpX0_copy_1 ev⟩
theorem omX0_copy (ev : xEv) : xMethOK ev xmi yX0_copy.cls yX0_copy.name 9 (pX0_copy ev) := xMethOK.of mi_9 (by decide +kernel) (okpX0_copy ev)
def pX1_init_0 (ev : xEv) : List (Nat × xEn) := [(0, .inl (xop (xf_aload 0 1))), (1, .inl (xop xf_objInit)), (4, .inl (xop (xf_aload 0 1))), (5, .inl (xop (xf_push (.int 0) 1))), (6, .inl (xo_putf 1 4 .int)), (9, .inl (xop (xf_aload 0 1))), (10, .inl (xop (xf_push (.int (-1)) 1))), (11, .inl (xo_putf 1 5 .int)), (14, .inl (xop (xf_aload 0 1))), (15, .inl (xop (xf_push (.int (-1)) 1))), (16, .inl (xo_putf 1 6 .int)), (19, .inl (xop (xf_aload 0 1))), (20, .inl (xop (xf_push (.int (-1)) 1))), (21, .inl (xo_putf 1 7 .int)), (24, .inl (xop (xf_aload 0 1))), (25, .inl (xop (xf_push (.int (-3)) 2))), (27, .inl (xo_putf 1 8 .int)), (30, .inl (xop (xf_aload 0 1))), (31, .inl (xop (xf_push (.int (-3)) 2))), (33, .inl (xo_putf 1 9 .int))]
set_option maxRecDepth 20000 in
theorem okpX1_init_0 (ev : xEv) : ∀ q ∈ pX1_init_0 ev, xEnOK ev xmi yX1_init.cls yX1_init.name cX1_init 5 none q :=
  List.forall_mem_cons.mpr ⟨(xOK_pure (xs_aload_n (k := 0) rfl (by decide +kernel))),
  List.forall_mem_cons.mpr ⟨(xOK_pure (xs_objInit (by decide +kernel) xw_1045 xw_149 xw_150)),
  List.forall_mem_cons.mpr ⟨(xOK_pure (xs_aload_n (k := 0) rfl (by decide +kernel))),
  List.forall_mem_cons.mpr ⟨(xOK_pure (xs_iconst (n := 0) (by decide +kernel) (by decide))),
  List.forall_mem_cons.mpr ⟨(xs_putf (k := 4) xcl_1 (by decide) rfl (by decide +kernel) xw_1056),
  List.forall_mem_cons.mpr ⟨(xOK_pure (xs_aload_n (k := 0) rfl (by decide +kernel))),
  List.forall_mem_cons.mpr ⟨(xOK_pure (xs_iconst (n := (-1)) (by decide +kernel) (by decide))),
  List.forall_mem_cons.mpr ⟨(xs_putf (k := 5) xcl_1 (by decide) rfl (by decide +kernel) xw_1058),
  List.forall_mem_cons.mpr ⟨(xOK_pure (xs_aload_n (k := 0) rfl (by decide +kernel))),
  List.forall_mem_cons.mpr ⟨(xOK_pure (xs_iconst (n := (-1)) (by decide +kernel) (by decide))),
  List.forall_mem_cons.mpr ⟨(xs_putf (k := 6) xcl_1 (by decide) rfl (by decide +kernel) xw_1060),
  List.forall_mem_cons.mpr ⟨(xOK_pure (xs_aload_n (k := 0) rfl (by decide +kernel))),
  List.forall_mem_cons.mpr ⟨(xOK_pure (xs_iconst (n := (-1)) (by decide +kernel) (by decide))),
  List.forall_mem_cons.mpr ⟨(xs_putf (k := 7) xcl_1 (by decide) rfl (by decide +kernel) xw_1062),
  List.forall_mem_cons.mpr ⟨(xOK_pure (xs_aload_n (k := 0) rfl (by decide +kernel))),
  List.forall_mem_cons.mpr ⟨(xOK_pure (xs_bipush (n := (-3)) (by decide +kernel) (by decide))),
  List.forall_mem_cons.mpr ⟨(xs_putf (k := 8) xcl_1 (by decide) rfl (by decide +kernel) xw_1064),
  List.forall_mem_cons.mpr ⟨(xOK_pure (xs_aload_n (k := 0) rfl (by decide +kernel))),
  List.forall_mem_cons.mpr ⟨(xOK_pure (xs_bipush (n := (-3)) (by decide +kernel) (by decide))),
  List.forall_mem_cons.mpr ⟨(xs_putf (k := 9) xcl_1 (by decide) rfl (by decide +kernel) xw_1067),
  (fun _ h => absurd h List.not_mem_nil)⟩⟩⟩⟩⟩⟩⟩⟩⟩⟩⟩⟩⟩⟩⟩⟩⟩⟩⟩⟩
def pX1_init_1 (ev : xEv) : List (Nat × xEn) := [(36, .inl (xop (xf_aload 0 1))), (37, .inl (xop (xf_iload 1 1))), (38, .inl (xo_putf 1 0 .int)), (41, .inl (xop (xf_aload 0 1))), (42, .inl (xop (xf_iload 2 1))), (43, .inl (xo_putf 1 1 .int)), (46, .inl (xop (xf_aload 0 1))), (47, .inl (xop (xf_iload 3 1))), (48, .inl (xo_putf 1 2 .int)), (51, .inl (xop (xf_aload 0 1))), (52, .inl (xop (xf_iload 4 2))), (54, .inl (xo_putf 1 3 .int)), (57, .inr (.inr 0))]
set_option maxRecDepth 20000 in
theorem okpX1_init_1 (ev : xEv) : ∀ q ∈ pX1_init_1 ev, xEnOK ev xmi yX1_init.cls yX1_init.name cX1_init 5 none q :=
  List.forall_mem_cons.mpr ⟨(xOK_pure (xs_aload_n (k := 0) rfl (by decide +kernel))),
  List.forall_mem_cons.mpr ⟨(xOK_pure (xs_iload_n (k := 1) rfl (by decide +kernel))),
  List.forall_mem_cons.mpr ⟨(xs_putF (k := 0) xcl_1 (by decide) rfl rfl rfl (by decide +kernel) xw_1046),
  List.forall_mem_cons.mpr ⟨(xOK_pure (xs_aload_n (k := 0) rfl (by decide +kernel))),
  List.forall_mem_cons.mpr ⟨(xOK_pure (xs_iload_n (k := 2) rfl (by decide +kernel))),
  List.forall_mem_cons.mpr ⟨(xs_putF (k := 1) xcl_1 (by decide) rfl rfl rfl (by decide +kernel) xw_1048),
  List.forall_mem_cons.mpr ⟨(xOK_pure (xs_aload_n (k := 0) rfl (by decide +kernel))),
  List.forall_mem_cons.mpr ⟨(xOK_pure (xs_iload_n (k := 3) rfl (by decide +kernel))),
  List.forall_mem_cons.mpr ⟨(xs_putF (k := 2) xcl_1 (by decide) rfl rfl rfl (by decide +kernel) xw_1051),
  List.forall_mem_cons.mpr ⟨(xOK_pure (xs_aload_n (k := 0) rfl (by decide +kernel))),
  List.forall_mem_cons.mpr ⟨(xOK_pure (xs_iload (by decide +kernel))),
  List.forall_mem_cons.mpr ⟨(xs_putF (k := 3) xcl_1 (by decide) rfl rfl rfl (by decide +kernel) xw_1054),
  List.forall_mem_cons.mpr ⟨(Or.inl ⟨rfl, (by decide +kernel), rfl⟩),
  (fun _ h => absurd h List.not_mem_nil)⟩⟩⟩⟩⟩⟩⟩⟩⟩⟩⟩⟩⟩
def pX1_init (ev : xEv) : List (Nat × xEn) := pX1_init_0 ev ++ (pX1_init_1 ev)
theorem okpX1_init (ev : xEv) : ∀ q ∈ pX1_init ev, xEnOK ev xmi yX1_init.cls yX1_init.name cX1_init 5 none q := List.forall_mem_append.mpr ⟨okpX1_init_0 ev, okpX1_init_1 ev⟩
theorem omX1_init (ev : xEv) : xMethOK ev xmi yX1_init.cls yX1_init.name 10 (pX1_init ev) := xMethOK.of mi_10 (by decide +kernel) (okpX1_init ev)
def pX1_waits (ev : xEv) : List (Nat × xEn) := [(0, .inl (xop (xf_aload 0 1))), (1, .inl (xop (xf_getf 1 4))), (4, .inl (xop (xf_if_ne 11))), (7, .inl (xop (xf_push (.int 1) 1))), (8, .inl (xop (xf_goto 12))), (11, .inl (xop (xf_push (.int 0) 1))), (12, .inr (.inr 4))]
set_option maxRecDepth 20000 in
theorem okpX1_waits (ev : xEv) : ∀ q ∈ pX1_waits ev, xEnOK ev xmi yX1_waits.cls yX1_waits.name cX1_waits 1 (some .boolean) q :=
  List.forall_mem_cons.mpr ⟨(xOK_pure (xs_aload_n (k := 0) rfl (by decide +kernel))),
  List.forall_mem_cons.mpr ⟨(xOK_pure (xs_getf xcl_1 (by decide) (by decide +kernel) xw_1056)),
  List.forall_mem_cons.mpr ⟨(xOK_pure (xs_if_ne (by decide +kernel) (by decide))),
  List.forall_mem_cons.mpr ⟨(xOK_pure (xs_iconst (n := 1) (by decide +kernel) (by decide))),
  List.forall_mem_cons.mpr ⟨(xOK_pure (xs_goto (by decide +kernel) (by decide))),
  List.forall_mem_cons.mpr ⟨(xOK_pure (xs_iconst (n := 0) (by decide +kernel) (by decide))),
  List.forall_mem_cons.mpr ⟨(Or.inr (Or.inr (Or.inr (Or.inr ⟨rfl, (by decide +kernel), rfl⟩)))),
  (fun _ h => absurd h List.not_mem_nil)⟩⟩⟩⟩⟩⟩⟩
theorem omX1_waits (ev : xEv) : xMethOK ev xmi yX1_waits.cls yX1_waits.name 11 (pX1_waits ev) := xMethOK.of mi_11 (by decide +kernel) (okpX1_waits ev)
def pX1_begin (ev : xEv) : List (Nat × xEn) := [(0, .inl (xop (xf_aload 0 1))), (1, .inl (xop (xf_push (.int 1) 1))), (2, .inl (xo_putf 1 4 .int)), (5, .inl (xop (xf_aload 0 1))), (6, .inl (xop (xf_iload 1 1))), (7, .inl (xo_putf 1 5 .int)), (10, .inl (xop (xf_aload 0 1))), (11, .inl (xop (xf_iload 2 1))), (12, .inl (xo_putf 1 7 .int)), (15, .inr (.inr 0))]
set_option maxRecDepth 20000 in
theorem okpX1_begin (ev : xEv) : ∀ q ∈ pX1_begin ev, xEnOK ev xmi yX1_begin.cls yX1_begin.name cX1_begin 3 none q :=
  List.forall_mem_cons.mpr ⟨(xOK_pure (xs_aload_n (k := 0) rfl (by decide +kernel))),
  List.forall_mem_cons.mpr ⟨(xOK_pure (xs_iconst (n := 1) (by decide +kernel) (by decide))),
  List.forall_mem_cons.mpr ⟨(xs_putf (k := 4) xcl_1 (by decide) rfl (by decide +kernel) xw_1056),
  List.forall_mem_cons.mpr ⟨(xOK_pure (xs_aload_n (k := 0) rfl (by decide +kernel))),
  List.forall_mem_cons.mpr ⟨(xOK_pure (xs_iload_n (k := 1) rfl (by decide +kernel))),
  List.forall_mem_cons.mpr ⟨(xs_putf (k := 5) xcl_1 (by decide) rfl (by decide +kernel) xw_1058),
  List.forall_mem_cons.mpr ⟨(xOK_pure (xs_aload_n (k := 0) rfl (by decide +kernel))),
  List.forall_mem_cons.mpr ⟨(xOK_pure (xs_iload_n (k := 2) rfl (by decide +kernel))),
  List.forall_mem_cons.mpr ⟨(xs_putf (k := 7) xcl_1 (by decide) rfl (by decide +kernel) xw_1062),
  List.forall_mem_cons.mpr ⟨(Or.inl ⟨rfl, (by decide +kernel), rfl⟩),
  (fun _ h => absurd h List.not_mem_nil)⟩⟩⟩⟩⟩⟩⟩⟩⟩⟩
theorem omX1_begin (ev : xEv) : xMethOK ev xmi yX1_begin.cls yX1_begin.name 12 (pX1_begin ev) := xMethOK.of mi_12 (by decide +kernel) (okpX1_begin ev)
def pX1_finish (ev : xEv) : List (Nat × xEn) := [(0, .inl (xop (xf_aload 0 1))), (1, .inl (xop (xf_iload 1 1))), (2, .inl (xo_putf 1 4 .int)), (5, .inl (xop (xf_aload 0 1))), (6, .inl (xop (xf_iload 2 1))), (7, .inl (xo_putf 1 6 .int)), (10, .inr (.inr 0))]
set_option maxRecDepth 20000 in
theorem okpX1_finish (ev : xEv) : ∀ q ∈ pX1_finish ev, xEnOK ev xmi yX1_finish.cls yX1_finish.name cX1_finish 3 none q :=
  List.forall_mem_cons.mpr ⟨(xOK_pure (xs_aload_n (k := 0) rfl (by decide +kernel))),
  List.forall_mem_cons.mpr ⟨(xOK_pure (xs_iload_n (k := 1) rfl (by decide +kernel))),
  List.forall_mem_cons.mpr ⟨(xs_putf (k := 4) xcl_1 (by decide) rfl (by decide +kernel) xw_1056),
  List.forall_mem_cons.mpr ⟨(xOK_pure (xs_aload_n (k := 0) rfl (by decide +kernel))),
  List.forall_mem_cons.mpr ⟨(xOK_pure (xs_iload_n (k := 2) rfl (by decide +kernel))),
  List.forall_mem_cons.mpr ⟨(xs_putf (k := 6) xcl_1 (by decide) rfl (by decide +kernel) xw_1060),
  List.forall_mem_cons.mpr ⟨(Or.inl ⟨rfl, (by decide +kernel), rfl⟩),
  (fun _ h => absurd h List.not_mem_nil)⟩⟩⟩⟩⟩⟩⟩
theorem omX1_finish (ev : xEv) : xMethOK ev xmi yX1_finish.cls yX1_finish.name 13 (pX1_finish ev) := xMethOK.of mi_13 (by decide +kernel) (okpX1_finish ev)
def pX1_keep_0 (ev : xEv) : List (Nat × xEn) := [(0, .inl (xop (xf_aload 0 1))), (1, .inl (xop (xf_getf 1 10))), (4, .inl (xop (xf_ifnonnull 34))), (7, .inl (xop (xf_aload 0 1))), (8, .inl (xo_new 1 11 [.int 0, .int 0, .int 0, .int 0, .int 0, .int 0, .int 0, .int 0, .int 0, .int 0, .null])), (11, .inl (xop xf_dup)), (12, .inl (xop (xf_aload 0 1))), (13, .inl (xop (xf_getf 1 0))), (16, .inl (xop (xf_aload 0 1))), (17, .inl (xop (xf_getf 1 1))), (20, .inl (xop (xf_aload 0 1))), (21, .inl (xop (xf_getf 1 2))), (24, .inl (xop (xf_aload 0 1))), (25, .inl (xop (xf_getf 1 3))), (28, .inr (.inl (2, 10, 4, 1))), (31, .inl (xo_putf 1 10 (.object "AirMail$Flight"))), (34, .inl (xop (xf_aload 0 1))), (35, .inl (xop (xf_aload 0 1))), (36, .inl (xop (xf_getf 1 10))), (39, .inr (.inl (1, 16, 2, 1)))]
set_option maxRecDepth 20000 in
theorem okpX1_keep_0 (ev : xEv) : ∀ q ∈ pX1_keep_0 ev, xEnOK ev xmi yX1_keep.cls yX1_keep.name cX1_keep 1 none q :=
  List.forall_mem_cons.mpr ⟨(xOK_pure (xs_aload_n (k := 0) rfl (by decide +kernel))),
  List.forall_mem_cons.mpr ⟨(xOK_pure (xs_getf xcl_1 (by decide) (by decide +kernel) xw_1070)),
  List.forall_mem_cons.mpr ⟨(xOK_pure (xs_ifnonnull (by decide +kernel) (by decide))),
  List.forall_mem_cons.mpr ⟨(xOK_pure (xs_aload_n (k := 0) rfl (by decide +kernel))),
  List.forall_mem_cons.mpr ⟨(xs_new xcl_1 (by decide +kernel) (by decide +kernel) xw_1502 xw_1041 xw_140),
  List.forall_mem_cons.mpr ⟨(xOK_pure (xs_dup (by decide +kernel))),
  List.forall_mem_cons.mpr ⟨(xOK_pure (xs_aload_n (k := 0) rfl (by decide +kernel))),
  List.forall_mem_cons.mpr ⟨(xOK_pure (xs_getf xcl_1 (by decide) (by decide +kernel) xw_1046)),
  List.forall_mem_cons.mpr ⟨(xOK_pure (xs_aload_n (k := 0) rfl (by decide +kernel))),
  List.forall_mem_cons.mpr ⟨(xOK_pure (xs_getf xcl_1 (by decide) (by decide +kernel) xw_1048)),
  List.forall_mem_cons.mpr ⟨(xOK_pure (xs_aload_n (k := 0) rfl (by decide +kernel))),
  List.forall_mem_cons.mpr ⟨(xOK_pure (xs_getf xcl_1 (by decide) (by decide +kernel) xw_1051)),
  List.forall_mem_cons.mpr ⟨(xOK_pure (xs_aload_n (k := 0) rfl (by decide +kernel))),
  List.forall_mem_cons.mpr ⟨(xOK_pure (xs_getf xcl_1 (by decide) (by decide +kernel) xw_1054)),
  List.forall_mem_cons.mpr ⟨(xcm mi_10 ⟨⟨(by decide +kernel), (by decide +kernel), (by decide +kernel)⟩, (by decide), xw_1044, xw_140, Or.inr (Or.inr (Or.inl ⟨rfl, _, (by decide +kernel), rfl, xw_1503, xw_1043, rfl⟩))⟩),
  List.forall_mem_cons.mpr ⟨(xs_putf (k := 10) xcl_1 (by decide) rfl (by decide +kernel) xw_1070),
  List.forall_mem_cons.mpr ⟨(xOK_pure (xs_aload_n (k := 0) rfl (by decide +kernel))),
  List.forall_mem_cons.mpr ⟨(xOK_pure (xs_aload_n (k := 0) rfl (by decide +kernel))),
  List.forall_mem_cons.mpr ⟨(xOK_pure (xs_getf xcl_1 (by decide) (by decide +kernel) xw_1070)),
  List.forall_mem_cons.mpr ⟨(xcm mi_16 ⟨⟨(by decide +kernel), (by decide +kernel), (by decide +kernel)⟩, (by decide), xw_1506, xw_140, Or.inr (Or.inl ⟨rfl, _, (by decide +kernel), xw_1504, xw_1505⟩)⟩),
  (fun _ h => absurd h List.not_mem_nil)⟩⟩⟩⟩⟩⟩⟩⟩⟩⟩⟩⟩⟩⟩⟩⟩⟩⟩⟩⟩
def pX1_keep_1 (ev : xEv) : List (Nat × xEn) := [(42, .inr (.inr 0))]
set_option maxRecDepth 20000 in
theorem okpX1_keep_1 (ev : xEv) : ∀ q ∈ pX1_keep_1 ev, xEnOK ev xmi yX1_keep.cls yX1_keep.name cX1_keep 1 none q :=
  List.forall_mem_cons.mpr ⟨(Or.inl ⟨rfl, (by decide +kernel), rfl⟩),
  (fun _ h => absurd h List.not_mem_nil)⟩
def pX1_keep (ev : xEv) : List (Nat × xEn) := pX1_keep_0 ev ++ (pX1_keep_1 ev)
theorem okpX1_keep (ev : xEv) : ∀ q ∈ pX1_keep ev, xEnOK ev xmi yX1_keep.cls yX1_keep.name cX1_keep 1 none q := List.forall_mem_append.mpr ⟨okpX1_keep_0 ev, okpX1_keep_1 ev⟩
theorem omX1_keep (ev : xEv) : xMethOK ev xmi yX1_keep.cls yX1_keep.name 14 (pX1_keep ev) := xMethOK.of mi_14 (by decide +kernel) (okpX1_keep ev)
def pX1_giveBack (ev : xEv) : List (Nat × xEn) := [(0, .inl (xop (xf_aload 0 1))), (1, .inl (xop (xf_getf 1 10))), (4, .inl (xop (xf_ifnull 15))), (7, .inl (xop (xf_aload 0 1))), (8, .inl (xop (xf_getf 1 10))), (11, .inl (xop (xf_aload 0 1))), (12, .inr (.inl (1, 16, 2, 1))), (15, .inr (.inr 0))]
set_option maxRecDepth 20000 in
theorem okpX1_giveBack (ev : xEv) : ∀ q ∈ pX1_giveBack ev, xEnOK ev xmi yX1_giveBack.cls yX1_giveBack.name cX1_giveBack 1 none q :=
  List.forall_mem_cons.mpr ⟨(xOK_pure (xs_aload_n (k := 0) rfl (by decide +kernel))),
  List.forall_mem_cons.mpr ⟨(xOK_pure (xs_getf xcl_1 (by decide) (by decide +kernel) xw_1070)),
  List.forall_mem_cons.mpr ⟨(xOK_pure (xs_ifnull (by decide +kernel) (by decide))),
  List.forall_mem_cons.mpr ⟨(xOK_pure (xs_aload_n (k := 0) rfl (by decide +kernel))),
  List.forall_mem_cons.mpr ⟨(xOK_pure (xs_getf xcl_1 (by decide) (by decide +kernel) xw_1070)),
  List.forall_mem_cons.mpr ⟨(xOK_pure (xs_aload_n (k := 0) rfl (by decide +kernel))),
  List.forall_mem_cons.mpr ⟨(xcm mi_16 ⟨⟨(by decide +kernel), (by decide +kernel), (by decide +kernel)⟩, (by decide), xw_1506, xw_140, Or.inr (Or.inl ⟨rfl, _, (by decide +kernel), xw_1504, xw_1505⟩)⟩),
  List.forall_mem_cons.mpr ⟨(Or.inl ⟨rfl, (by decide +kernel), rfl⟩),
  (fun _ h => absurd h List.not_mem_nil)⟩⟩⟩⟩⟩⟩⟩⟩
theorem omX1_giveBack (ev : xEv) : xMethOK ev xmi yX1_giveBack.cls yX1_giveBack.name 15 (pX1_giveBack ev) := xMethOK.of mi_15 (by decide +kernel) (okpX1_giveBack ev)
def pX1_copy_0 (ev : xEv) : List (Nat × xEn) := [(0, .inl (xop (xf_aload 1 1))), (1, .inl (xop (xf_aload 0 1))), (2, .inl (xop (xf_getf 1 4))), (5, .inl (xo_putf 1 4 .int)), (8, .inl (xop (xf_aload 1 1))), (9, .inl (xop (xf_aload 0 1))), (10, .inl (xop (xf_getf 1 5))), (13, .inl (xo_putf 1 5 .int)), (16, .inl (xop (xf_aload 1 1))), (17, .inl (xop (xf_aload 0 1))), (18, .inl (xop (xf_getf 1 6))), (21, .inl (xo_putf 1 6 .int)), (24, .inl (xop (xf_aload 1 1))), (25, .inl (xop (xf_aload 0 1))), (26, .inl (xop (xf_getf 1 7))), (29, .inl (xo_putf 1 7 .int)), (32, .inl (xop (xf_aload 1 1))), (33, .inl (xop (xf_aload 0 1))), (34, .inl (xop (xf_getf 1 8))), (37, .inl (xo_putf 1 8 .int))]
set_option maxRecDepth 20000 in
theorem okpX1_copy_0 (ev : xEv) : ∀ q ∈ pX1_copy_0 ev, xEnOK ev xmi yX1_copy.cls yX1_copy.name cX1_copy 2 none q :=
  List.forall_mem_cons.mpr ⟨(xOK_pure (xs_aload_n (k := 1) rfl (by decide +kernel))),
  List.forall_mem_cons.mpr ⟨(xOK_pure (xs_aload_n (k := 0) rfl (by decide +kernel))),
  List.forall_mem_cons.mpr ⟨(xOK_pure (xs_getf xcl_1 (by decide) (by decide +kernel) xw_1056)),
  List.forall_mem_cons.mpr ⟨(xs_putf (k := 4) xcl_1 (by decide) rfl (by decide +kernel) xw_1056),
  List.forall_mem_cons.mpr ⟨(xOK_pure (xs_aload_n (k := 1) rfl (by decide +kernel))),
  List.forall_mem_cons.mpr ⟨(xOK_pure (xs_aload_n (k := 0) rfl (by decide +kernel))),
  List.forall_mem_cons.mpr ⟨(xOK_pure (xs_getf xcl_1 (by decide) (by decide +kernel) xw_1058)),
  List.forall_mem_cons.mpr ⟨(xs_putf (k := 5) xcl_1 (by decide) rfl (by decide +kernel) xw_1058),
  List.forall_mem_cons.mpr ⟨(xOK_pure (xs_aload_n (k := 1) rfl (by decide +kernel))),
  List.forall_mem_cons.mpr ⟨(xOK_pure (xs_aload_n (k := 0) rfl (by decide +kernel))),
  List.forall_mem_cons.mpr ⟨(xOK_pure (xs_getf xcl_1 (by decide) (by decide +kernel) xw_1060)),
  List.forall_mem_cons.mpr ⟨(xs_putf (k := 6) xcl_1 (by decide) rfl (by decide +kernel) xw_1060),
  List.forall_mem_cons.mpr ⟨(xOK_pure (xs_aload_n (k := 1) rfl (by decide +kernel))),
  List.forall_mem_cons.mpr ⟨(xOK_pure (xs_aload_n (k := 0) rfl (by decide +kernel))),
  List.forall_mem_cons.mpr ⟨(xOK_pure (xs_getf xcl_1 (by decide) (by decide +kernel) xw_1062)),
  List.forall_mem_cons.mpr ⟨(xs_putf (k := 7) xcl_1 (by decide) rfl (by decide +kernel) xw_1062),
  List.forall_mem_cons.mpr ⟨(xOK_pure (xs_aload_n (k := 1) rfl (by decide +kernel))),
  List.forall_mem_cons.mpr ⟨(xOK_pure (xs_aload_n (k := 0) rfl (by decide +kernel))),
  List.forall_mem_cons.mpr ⟨(xOK_pure (xs_getf xcl_1 (by decide) (by decide +kernel) xw_1064)),
  List.forall_mem_cons.mpr ⟨(xs_putf (k := 8) xcl_1 (by decide) rfl (by decide +kernel) xw_1064),
  (fun _ h => absurd h List.not_mem_nil)⟩⟩⟩⟩⟩⟩⟩⟩⟩⟩⟩⟩⟩⟩⟩⟩⟩⟩⟩⟩
def pX1_copy_1 (ev : xEv) : List (Nat × xEn) := [(40, .inl (xop (xf_aload 1 1))), (41, .inl (xop (xf_aload 0 1))), (42, .inl (xop (xf_getf 1 9))), (45, .inl (xo_putf 1 9 .int)), (48, .inr (.inr 0))]
set_option maxRecDepth 20000 in
theorem okpX1_copy_1 (ev : xEv) : ∀ q ∈ pX1_copy_1 ev, xEnOK ev xmi yX1_copy.cls yX1_copy.name cX1_copy 2 none q :=
  List.forall_mem_cons.mpr ⟨(xOK_pure (xs_aload_n (k := 1) rfl (by decide +kernel))),
  List.forall_mem_cons.mpr ⟨(xOK_pure (xs_aload_n (k := 0) rfl (by decide +kernel))),
  List.forall_mem_cons.mpr ⟨(xOK_pure (xs_getf xcl_1 (by decide) (by decide +kernel) xw_1067)),
  List.forall_mem_cons.mpr ⟨(xs_putf (k := 9) xcl_1 (by decide) rfl (by decide +kernel) xw_1067),
  List.forall_mem_cons.mpr ⟨(Or.inl ⟨rfl, (by decide +kernel), rfl⟩),
  (fun _ h => absurd h List.not_mem_nil)⟩⟩⟩⟩⟩
def pX1_copy (ev : xEv) : List (Nat × xEn) := pX1_copy_0 ev ++ (pX1_copy_1 ev)
theorem okpX1_copy (ev : xEv) : ∀ q ∈ pX1_copy ev, xEnOK ev xmi yX1_copy.cls yX1_copy.name cX1_copy 2 none q := List.forall_mem_append.mpr ⟨okpX1_copy_0 ev, okpX1_copy_1 ev⟩
theorem omX1_copy (ev : xEv) : xMethOK ev xmi yX1_copy.cls yX1_copy.name 16 (pX1_copy ev) := xMethOK.of mi_16 (by decide +kernel) (okpX1_copy ev)
def pX5_init (ev : xEv) : List (Nat × xEn) := [(0, .inl (xop (xf_aload 0 1))), (1, .inl (xop xf_objInit)), (4, .inl (xop (xf_aload 0 1))), (5, .inl (xop (xf_push (.int (-1)) 1))), (6, .inl (xo_putf 5 1 .int)), (9, .inl (xop (xf_aload 0 1))), (10, .inl (xop (xf_iload 1 1))), (11, .inl (xo_putf 5 0 .int)), (14, .inl (xop (xf_aload 0 1))), (15, .inl (xop (xf_iload 2 1))), (16, .inl (xo_putf 5 3 .int)), (19, .inr (.inr 0))]
set_option maxRecDepth 20000 in
theorem okpX5_init (ev : xEv) : ∀ q ∈ pX5_init ev, xEnOK ev xmi yX5_init.cls yX5_init.name cX5_init 3 none q :=
  List.forall_mem_cons.mpr ⟨(xOK_pure (xs_aload_n (k := 0) rfl (by decide +kernel))),
  List.forall_mem_cons.mpr ⟨(xOK_pure (xs_objInit (by decide +kernel) xw_710 xw_149 xw_150)),
  List.forall_mem_cons.mpr ⟨(xOK_pure (xs_aload_n (k := 0) rfl (by decide +kernel))),
  List.forall_mem_cons.mpr ⟨(xOK_pure (xs_iconst (n := (-1)) (by decide +kernel) (by decide))),
  List.forall_mem_cons.mpr ⟨(xs_putf (k := 1) xcl_5 (by decide) rfl (by decide +kernel) xw_714),
  List.forall_mem_cons.mpr ⟨(xOK_pure (xs_aload_n (k := 0) rfl (by decide +kernel))),
  List.forall_mem_cons.mpr ⟨(xOK_pure (xs_iload_n (k := 1) rfl (by decide +kernel))),
  List.forall_mem_cons.mpr ⟨(xs_putf (k := 0) xcl_5 (by decide) rfl (by decide +kernel) xw_711),
  List.forall_mem_cons.mpr ⟨(xOK_pure (xs_aload_n (k := 0) rfl (by decide +kernel))),
  List.forall_mem_cons.mpr ⟨(xOK_pure (xs_iload_n (k := 2) rfl (by decide +kernel))),
  List.forall_mem_cons.mpr ⟨(xs_putf (k := 3) xcl_5 (by decide) rfl (by decide +kernel) xw_720),
  List.forall_mem_cons.mpr ⟨(Or.inl ⟨rfl, (by decide +kernel), rfl⟩),
  (fun _ h => absurd h List.not_mem_nil)⟩⟩⟩⟩⟩⟩⟩⟩⟩⟩⟩⟩
theorem omX5_init (ev : xEv) : xMethOK ev xmi yX5_init.cls yX5_init.name 63 (pX5_init ev) := xMethOK.of mi_63 (by decide +kernel) (okpX5_init ev)
def pX5_knowsLeg (ev : xEv) : List (Nat × xEn) := [(0, .inl (xop (xf_aload 0 1))), (1, .inl (xop (xf_getf 5 3))), (4, .inl (xop (xf_iload 1 1))), (5, .inl (xop (xf_bin (fun x y => x >>> (y &&& 31))))), (6, .inl (xop (xf_push (.int 1) 1))), (7, .inl (xop (xf_bin (fun x y => x &&& y)))), (8, .inl (xop (xf_push (.int 1) 1))), (9, .inl (xop (xf_icmp_ne 16))), (12, .inl (xop (xf_push (.int 1) 1))), (13, .inl (xop (xf_goto 17))), (16, .inl (xop (xf_push (.int 0) 1))), (17, .inr (.inr 4))]
set_option maxRecDepth 20000 in
theorem okpX5_knowsLeg (ev : xEv) : ∀ q ∈ pX5_knowsLeg ev, xEnOK ev xmi yX5_knowsLeg.cls yX5_knowsLeg.name cX5_knowsLeg 2 (some .boolean) q :=
  List.forall_mem_cons.mpr ⟨(xOK_pure (xs_aload_n (k := 0) rfl (by decide +kernel))),
  List.forall_mem_cons.mpr ⟨(xOK_pure (xs_getf xcl_5 (by decide) (by decide +kernel) xw_720)),
  List.forall_mem_cons.mpr ⟨(xOK_pure (xs_iload_n (k := 1) rfl (by decide +kernel))),
  List.forall_mem_cons.mpr ⟨(xOK_pure (xs_ishr (by decide +kernel))),
  List.forall_mem_cons.mpr ⟨(xOK_pure (xs_iconst (n := 1) (by decide +kernel) (by decide))),
  List.forall_mem_cons.mpr ⟨(xOK_pure (xs_iand (by decide +kernel))),
  List.forall_mem_cons.mpr ⟨(xOK_pure (xs_iconst (n := 1) (by decide +kernel) (by decide))),
  List.forall_mem_cons.mpr ⟨(xOK_pure (xs_icmp_ne (by decide +kernel) (by decide))),
  List.forall_mem_cons.mpr ⟨(xOK_pure (xs_iconst (n := 1) (by decide +kernel) (by decide))),
  List.forall_mem_cons.mpr ⟨(xOK_pure (xs_goto (by decide +kernel) (by decide))),
  List.forall_mem_cons.mpr ⟨(xOK_pure (xs_iconst (n := 0) (by decide +kernel) (by decide))),
  List.forall_mem_cons.mpr ⟨(Or.inr (Or.inr (Or.inr (Or.inr ⟨rfl, (by decide +kernel), rfl⟩)))),
  (fun _ h => absurd h List.not_mem_nil)⟩⟩⟩⟩⟩⟩⟩⟩⟩⟩⟩⟩
theorem omX5_knowsLeg (ev : xEv) : xMethOK ev xmi yX5_knowsLeg.cls yX5_knowsLeg.name 64 (pX5_knowsLeg ev) := xMethOK.of mi_64 (by decide +kernel) (okpX5_knowsLeg ev)
def pX5_keep (ev : xEv) : List (Nat × xEn) := [(0, .inl (xop (xf_aload 0 1))), (1, .inl (xop (xf_getf 5 4))), (4, .inl (xop (xf_ifnonnull 26))), (7, .inl (xop (xf_aload 0 1))), (8, .inl (xo_new 5 5 [.int 0, .int 0, .int 0, .int 0, .null])), (11, .inl (xop xf_dup)), (12, .inl (xop (xf_aload 0 1))), (13, .inl (xop (xf_getf 5 0))), (16, .inl (xop (xf_aload 0 1))), (17, .inl (xop (xf_getf 5 3))), (20, .inr (.inl (2, 63, 2, 5))), (23, .inl (xo_putf 5 4 (.object "AirMail$Pilot"))), (26, .inl (xop (xf_aload 0 1))), (27, .inl (xop (xf_aload 0 1))), (28, .inl (xop (xf_getf 5 4))), (31, .inr (.inl (1, 67, 2, 5))), (34, .inr (.inr 0))]
set_option maxRecDepth 20000 in
theorem okpX5_keep (ev : xEv) : ∀ q ∈ pX5_keep ev, xEnOK ev xmi yX5_keep.cls yX5_keep.name cX5_keep 1 none q :=
  List.forall_mem_cons.mpr ⟨(xOK_pure (xs_aload_n (k := 0) rfl (by decide +kernel))),
  List.forall_mem_cons.mpr ⟨(xOK_pure (xs_getf xcl_5 (by decide) (by decide +kernel) xw_722)),
  List.forall_mem_cons.mpr ⟨(xOK_pure (xs_ifnonnull (by decide +kernel) (by decide))),
  List.forall_mem_cons.mpr ⟨(xOK_pure (xs_aload_n (k := 0) rfl (by decide +kernel))),
  List.forall_mem_cons.mpr ⟨(xs_new xcl_5 (by decide +kernel) (by decide +kernel) xw_1484 xw_706 xw_132),
  List.forall_mem_cons.mpr ⟨(xOK_pure (xs_dup (by decide +kernel))),
  List.forall_mem_cons.mpr ⟨(xOK_pure (xs_aload_n (k := 0) rfl (by decide +kernel))),
  List.forall_mem_cons.mpr ⟨(xOK_pure (xs_getf xcl_5 (by decide) (by decide +kernel) xw_711)),
  List.forall_mem_cons.mpr ⟨(xOK_pure (xs_aload_n (k := 0) rfl (by decide +kernel))),
  List.forall_mem_cons.mpr ⟨(xOK_pure (xs_getf xcl_5 (by decide) (by decide +kernel) xw_720)),
  List.forall_mem_cons.mpr ⟨(xcm mi_63 ⟨⟨(by decide +kernel), (by decide +kernel), (by decide +kernel)⟩, (by decide), xw_709, xw_132, Or.inr (Or.inr (Or.inl ⟨rfl, _, (by decide +kernel), rfl, xw_1485, xw_708, rfl⟩))⟩),
  List.forall_mem_cons.mpr ⟨(xs_putf (k := 4) xcl_5 (by decide) rfl (by decide +kernel) xw_722),
  List.forall_mem_cons.mpr ⟨(xOK_pure (xs_aload_n (k := 0) rfl (by decide +kernel))),
  List.forall_mem_cons.mpr ⟨(xOK_pure (xs_aload_n (k := 0) rfl (by decide +kernel))),
  List.forall_mem_cons.mpr ⟨(xOK_pure (xs_getf xcl_5 (by decide) (by decide +kernel) xw_722)),
  List.forall_mem_cons.mpr ⟨(xcm mi_67 ⟨⟨(by decide +kernel), (by decide +kernel), (by decide +kernel)⟩, (by decide), xw_1488, xw_132, Or.inr (Or.inl ⟨rfl, _, (by decide +kernel), xw_1486, xw_1487⟩)⟩),
  List.forall_mem_cons.mpr ⟨(Or.inl ⟨rfl, (by decide +kernel), rfl⟩),
  (fun _ h => absurd h List.not_mem_nil)⟩⟩⟩⟩⟩⟩⟩⟩⟩⟩⟩⟩⟩⟩⟩⟩⟩
theorem omX5_keep (ev : xEv) : xMethOK ev xmi yX5_keep.cls yX5_keep.name 65 (pX5_keep ev) := xMethOK.of mi_65 (by decide +kernel) (okpX5_keep ev)
def pX5_giveBack (ev : xEv) : List (Nat × xEn) := [(0, .inl (xop (xf_aload 0 1))), (1, .inl (xop (xf_getf 5 4))), (4, .inl (xop (xf_ifnull 15))), (7, .inl (xop (xf_aload 0 1))), (8, .inl (xop (xf_getf 5 4))), (11, .inl (xop (xf_aload 0 1))), (12, .inr (.inl (1, 67, 2, 5))), (15, .inr (.inr 0))]
set_option maxRecDepth 20000 in
theorem okpX5_giveBack (ev : xEv) : ∀ q ∈ pX5_giveBack ev, xEnOK ev xmi yX5_giveBack.cls yX5_giveBack.name cX5_giveBack 1 none q :=
  List.forall_mem_cons.mpr ⟨(xOK_pure (xs_aload_n (k := 0) rfl (by decide +kernel))),
  List.forall_mem_cons.mpr ⟨(xOK_pure (xs_getf xcl_5 (by decide) (by decide +kernel) xw_722)),
  List.forall_mem_cons.mpr ⟨(xOK_pure (xs_ifnull (by decide +kernel) (by decide))),
  List.forall_mem_cons.mpr ⟨(xOK_pure (xs_aload_n (k := 0) rfl (by decide +kernel))),
  List.forall_mem_cons.mpr ⟨(xOK_pure (xs_getf xcl_5 (by decide) (by decide +kernel) xw_722)),
  List.forall_mem_cons.mpr ⟨(xOK_pure (xs_aload_n (k := 0) rfl (by decide +kernel))),
  List.forall_mem_cons.mpr ⟨(xcm mi_67 ⟨⟨(by decide +kernel), (by decide +kernel), (by decide +kernel)⟩, (by decide), xw_1488, xw_132, Or.inr (Or.inl ⟨rfl, _, (by decide +kernel), xw_1486, xw_1487⟩)⟩),
  List.forall_mem_cons.mpr ⟨(Or.inl ⟨rfl, (by decide +kernel), rfl⟩),
  (fun _ h => absurd h List.not_mem_nil)⟩⟩⟩⟩⟩⟩⟩⟩
theorem omX5_giveBack (ev : xEv) : xMethOK ev xmi yX5_giveBack.cls yX5_giveBack.name 66 (pX5_giveBack ev) := xMethOK.of mi_66 (by decide +kernel) (okpX5_giveBack ev)
def pX5_copy (ev : xEv) : List (Nat × xEn) := [(0, .inl (xop (xf_aload 1 1))), (1, .inl (xop (xf_aload 0 1))), (2, .inl (xop (xf_getf 5 0))), (5, .inl (xo_putf 5 0 .int)), (8, .inl (xop (xf_aload 1 1))), (9, .inl (xop (xf_aload 0 1))), (10, .inl (xop (xf_getf 5 1))), (13, .inl (xo_putf 5 1 .int)), (16, .inl (xop (xf_aload 1 1))), (17, .inl (xop (xf_aload 0 1))), (18, .inl (xop (xf_getf 5 2))), (21, .inl (xo_putf 5 2 .int)), (24, .inr (.inr 0))]
set_option maxRecDepth 20000 in
theorem okpX5_copy (ev : xEv) : ∀ q ∈ pX5_copy ev, xEnOK ev xmi yX5_copy.cls yX5_copy.name cX5_copy 2 none q :=
  List.forall_mem_cons.mpr ⟨(xOK_pure (xs_aload_n (k := 1) rfl (by decide +kernel))),
  List.forall_mem_cons.mpr ⟨(xOK_pure (xs_aload_n (k := 0) rfl (by decide +kernel))),
  List.forall_mem_cons.mpr ⟨(xOK_pure (xs_getf xcl_5 (by decide) (by decide +kernel) xw_711)),
  List.forall_mem_cons.mpr ⟨(xs_putf (k := 0) xcl_5 (by decide) rfl (by decide +kernel) xw_711),
  List.forall_mem_cons.mpr ⟨(xOK_pure (xs_aload_n (k := 1) rfl (by decide +kernel))),
  List.forall_mem_cons.mpr ⟨(xOK_pure (xs_aload_n (k := 0) rfl (by decide +kernel))),
  List.forall_mem_cons.mpr ⟨(xOK_pure (xs_getf xcl_5 (by decide) (by decide +kernel) xw_714)),
  List.forall_mem_cons.mpr ⟨(xs_putf (k := 1) xcl_5 (by decide) rfl (by decide +kernel) xw_714),
  List.forall_mem_cons.mpr ⟨(xOK_pure (xs_aload_n (k := 1) rfl (by decide +kernel))),
  List.forall_mem_cons.mpr ⟨(xOK_pure (xs_aload_n (k := 0) rfl (by decide +kernel))),
  List.forall_mem_cons.mpr ⟨(xOK_pure (xs_getf xcl_5 (by decide) (by decide +kernel) xw_717)),
  List.forall_mem_cons.mpr ⟨(xs_putf (k := 2) xcl_5 (by decide) rfl (by decide +kernel) xw_717),
  List.forall_mem_cons.mpr ⟨(Or.inl ⟨rfl, (by decide +kernel), rfl⟩),
  (fun _ h => absurd h List.not_mem_nil)⟩⟩⟩⟩⟩⟩⟩⟩⟩⟩⟩⟩⟩
theorem omX5_copy (ev : xEv) : xMethOK ev xmi yX5_copy.cls yX5_copy.name 67 (pX5_copy ev) := xMethOK.of mi_67 (by decide +kernel) (okpX5_copy ev)
def pX9_init_0 (ev : xEv) : List (Nat × xEn) := [(0, .inl (xop (xf_aload 0 1))), (1, .inl (xop xf_objInit)), (4, .inl (xop (xf_aload 0 1))), (5, .inl (xop (xf_push (.int 4) 1))), (6, .inl (xo_putf 9 0 .int)), (9, .inl (xop (xf_aload 0 1))), (10, .inl (xop (xf_push (.int 120) 2))), (12, .inl (xo_newa (ev.1 0) (.inl (fun _ => 0)))), (14, .inl (xo_putf 9 2 (.array .int))), (17, .inl (xop (xf_aload 0 1))), (18, .inl (xop (xf_push (.int 120) 2))), (20, .inl (xo_newa (ev.1 0) (.inl (fun _ => 0)))), (22, .inl (xo_putf 9 3 (.array .int))), (25, .inl (xop (xf_aload 0 1))), (26, .inl (xop (xf_push (.int 120) 2))), (28, .inl (xo_newa (ev.1 0) (.inl (fun _ => 0)))), (30, .inl (xo_putf 9 4 (.array .int))), (33, .inl (xop (xf_aload 0 1))), (34, .inl (xop (xf_push (.int 120) 2))), (36, .inl (xo_newa (ev.1 0) (.inl (fun _ => 0))))]
set_option maxRecDepth 20000 in
theorem okpX9_init_0 (ev : xEv) : ∀ q ∈ pX9_init_0 ev, xEnOK ev xmi yX9_init.cls yX9_init.name cX9_init 1 none q :=
  List.forall_mem_cons.mpr ⟨(xOK_pure (xs_aload_n (k := 0) rfl (by decide +kernel))),
  List.forall_mem_cons.mpr ⟨(xOK_pure (xs_objInit (by decide +kernel) xw_221 xw_149 xw_150)),
  List.forall_mem_cons.mpr ⟨(xOK_pure (xs_aload_n (k := 0) rfl (by decide +kernel))),
  List.forall_mem_cons.mpr ⟨(xOK_pure (xs_iconst (n := 4) (by decide +kernel) (by decide))),
  List.forall_mem_cons.mpr ⟨(xs_putf (k := 0) xcl_9 (by decide) rfl (by decide +kernel) xw_222),
  List.forall_mem_cons.mpr ⟨(xOK_pure (xs_aload_n (k := 0) rfl (by decide +kernel))),
  List.forall_mem_cons.mpr ⟨(xOK_pure (xs_bipush (n := 120) (by decide +kernel) (by decide))),
  List.forall_mem_cons.mpr ⟨(xs_newa (t := 0) (ty := .int) rfl rfl (fun _ _ => rfl) (by decide) (by decide +kernel) xw_208),
  List.forall_mem_cons.mpr ⟨(xs_putF (k := 2) xcl_9 (by decide) rfl rfl rfl (by decide +kernel) xw_227),
  List.forall_mem_cons.mpr ⟨(xOK_pure (xs_aload_n (k := 0) rfl (by decide +kernel))),
  List.forall_mem_cons.mpr ⟨(xOK_pure (xs_bipush (n := 120) (by decide +kernel) (by decide))),
  List.forall_mem_cons.mpr ⟨(xs_newa (t := 0) (ty := .int) rfl rfl (fun _ _ => rfl) (by decide) (by decide +kernel) xw_208),
  List.forall_mem_cons.mpr ⟨(xs_putF (k := 3) xcl_9 (by decide) rfl rfl rfl (by decide +kernel) xw_230),
  List.forall_mem_cons.mpr ⟨(xOK_pure (xs_aload_n (k := 0) rfl (by decide +kernel))),
  List.forall_mem_cons.mpr ⟨(xOK_pure (xs_bipush (n := 120) (by decide +kernel) (by decide))),
  List.forall_mem_cons.mpr ⟨(xs_newa (t := 0) (ty := .int) rfl rfl (fun _ _ => rfl) (by decide) (by decide +kernel) xw_208),
  List.forall_mem_cons.mpr ⟨(xs_putF (k := 4) xcl_9 (by decide) rfl rfl rfl (by decide +kernel) xw_233),
  List.forall_mem_cons.mpr ⟨(xOK_pure (xs_aload_n (k := 0) rfl (by decide +kernel))),
  List.forall_mem_cons.mpr ⟨(xOK_pure (xs_bipush (n := 120) (by decide +kernel) (by decide))),
  List.forall_mem_cons.mpr ⟨(xs_newa (t := 0) (ty := .int) rfl rfl (fun _ _ => rfl) (by decide) (by decide +kernel) xw_208),
  (fun _ h => absurd h List.not_mem_nil)⟩⟩⟩⟩⟩⟩⟩⟩⟩⟩⟩⟩⟩⟩⟩⟩⟩⟩⟩⟩
def pX9_init_1 (ev : xEv) : List (Nat × xEn) := [(38, .inl (xo_putf 9 5 (.array .int))), (41, .inl (xop (xf_aload 0 1))), (42, .inl (xop (xf_push (.int 120) 2))), (44, .inl (xo_newa (ev.1 0) (.inl (fun _ => 0)))), (46, .inl (xo_putf 9 6 (.array .int))), (49, .inl (xop (xf_aload 0 1))), (50, .inl (xop (xf_push (.int 120) 2))), (52, .inl (xo_newa (ev.1 0) (.inl (fun _ => 0)))), (54, .inl (xo_putf 9 7 (.array .int))), (57, .inl (xop (xf_aload 0 1))), (58, .inl (xop (xf_push (.int 120) 2))), (60, .inl (xo_newa (ev.1 0) (.inl (fun _ => 0)))), (62, .inl (xo_putf 9 8 (.array .int))), (65, .inr (.inr 0))]
set_option maxRecDepth 20000 in
theorem okpX9_init_1 (ev : xEv) : ∀ q ∈ pX9_init_1 ev, xEnOK ev xmi yX9_init.cls yX9_init.name cX9_init 1 none q :=
  List.forall_mem_cons.mpr ⟨(xs_putF (k := 5) xcl_9 (by decide) rfl rfl rfl (by decide +kernel) xw_236),
  List.forall_mem_cons.mpr ⟨(xOK_pure (xs_aload_n (k := 0) rfl (by decide +kernel))),
  List.forall_mem_cons.mpr ⟨(xOK_pure (xs_bipush (n := 120) (by decide +kernel) (by decide))),
  List.forall_mem_cons.mpr ⟨(xs_newa (t := 0) (ty := .int) rfl rfl (fun _ _ => rfl) (by decide) (by decide +kernel) xw_208),
  List.forall_mem_cons.mpr ⟨(xs_putF (k := 6) xcl_9 (by decide) rfl rfl rfl (by decide +kernel) xw_237),
  List.forall_mem_cons.mpr ⟨(xOK_pure (xs_aload_n (k := 0) rfl (by decide +kernel))),
  List.forall_mem_cons.mpr ⟨(xOK_pure (xs_bipush (n := 120) (by decide +kernel) (by decide))),
  List.forall_mem_cons.mpr ⟨(xs_newa (t := 0) (ty := .int) rfl rfl (fun _ _ => rfl) (by decide) (by decide +kernel) xw_208),
  List.forall_mem_cons.mpr ⟨(xs_putF (k := 7) xcl_9 (by decide) rfl rfl rfl (by decide +kernel) xw_238),
  List.forall_mem_cons.mpr ⟨(xOK_pure (xs_aload_n (k := 0) rfl (by decide +kernel))),
  List.forall_mem_cons.mpr ⟨(xOK_pure (xs_bipush (n := 120) (by decide +kernel) (by decide))),
  List.forall_mem_cons.mpr ⟨(xs_newa (t := 0) (ty := .int) rfl rfl (fun _ _ => rfl) (by decide) (by decide +kernel) xw_208),
  List.forall_mem_cons.mpr ⟨(xs_putF (k := 8) xcl_9 (by decide) rfl rfl rfl (by decide +kernel) xw_239),
  List.forall_mem_cons.mpr ⟨(Or.inl ⟨rfl, (by decide +kernel), rfl⟩),
  (fun _ h => absurd h List.not_mem_nil)⟩⟩⟩⟩⟩⟩⟩⟩⟩⟩⟩⟩⟩⟩
def pX9_init (ev : xEv) : List (Nat × xEn) := pX9_init_0 ev ++ (pX9_init_1 ev)
theorem okpX9_init (ev : xEv) : ∀ q ∈ pX9_init ev, xEnOK ev xmi yX9_init.cls yX9_init.name cX9_init 1 none q := List.forall_mem_append.mpr ⟨okpX9_init_0 ev, okpX9_init_1 ev⟩
theorem omX9_init (ev : xEv) : xMethOK ev xmi yX9_init.cls yX9_init.name 92 (pX9_init ev) := xMethOK.of mi_92 (by decide +kernel) (okpX9_init ev)
def pX9_come_0 (ev : xEv) : List (Nat × xEn) := [(0, .inl (xop (xf_aload 0 1))), (1, .inl (xop (xf_getf 9 1))), (4, .inl (xop (xf_push (.int 120) 2))), (6, .inl (xop (xf_icmp_lt 10))), (9, .inr (.inr 0)), (10, .inl (xop (xf_aload 0 1))), (11, .inl (xop (xf_getf 9 6))), (14, .inl (xop (xf_aload 0 1))), (15, .inl (xop (xf_getf 9 1))), (18, .inl (xop (xf_iload 1 1))), (19, .inl (xo_ast (ev.1 0) (fun x => x))), (20, .inl (xop (xf_aload 0 1))), (21, .inl (xop (xf_getf 9 7))), (24, .inl (xop (xf_aload 0 1))), (25, .inl (xop (xf_getf 9 1))), (28, .inl (xop (xf_iload 2 1))), (29, .inl (xo_ast (ev.1 0) (fun x => x))), (30, .inl (xop (xf_aload 0 1))), (31, .inl (xop (xf_getf 9 8))), (34, .inl (xop (xf_aload 0 1)))]
set_option maxRecDepth 20000 in
theorem okpX9_come_0 (ev : xEv) : ∀ q ∈ pX9_come_0 ev, xEnOK ev xmi yX9_come.cls yX9_come.name cX9_come 7 none q :=
  List.forall_mem_cons.mpr ⟨(xOK_pure (xs_aload_n (k := 0) rfl (by decide +kernel))),
  List.forall_mem_cons.mpr ⟨(xOK_pure (xs_getf xcl_9 (by decide) (by decide +kernel) xw_224)),
  List.forall_mem_cons.mpr ⟨(xOK_pure (xs_bipush (n := 120) (by decide +kernel) (by decide))),
  List.forall_mem_cons.mpr ⟨(xOK_pure (xs_icmp_lt (by decide +kernel) (by decide))),
  List.forall_mem_cons.mpr ⟨(Or.inl ⟨rfl, (by decide +kernel), rfl⟩),
  List.forall_mem_cons.mpr ⟨(xOK_pure (xs_aload_n (k := 0) rfl (by decide +kernel))),
  List.forall_mem_cons.mpr ⟨(xOK_pure (xs_getf xcl_9 (by decide) (by decide +kernel) xw_237)),
  List.forall_mem_cons.mpr ⟨(xOK_pure (xs_aload_n (k := 0) rfl (by decide +kernel))),
  List.forall_mem_cons.mpr ⟨(xOK_pure (xs_getf xcl_9 (by decide) (by decide +kernel) xw_224)),
  List.forall_mem_cons.mpr ⟨(xOK_pure (xs_iload_n (k := 1) rfl (by decide +kernel))),
  List.forall_mem_cons.mpr ⟨(xs_iast (by decide +kernel)),
  List.forall_mem_cons.mpr ⟨(xOK_pure (xs_aload_n (k := 0) rfl (by decide +kernel))),
  List.forall_mem_cons.mpr ⟨(xOK_pure (xs_getf xcl_9 (by decide) (by decide +kernel) xw_238)),
  List.forall_mem_cons.mpr ⟨(xOK_pure (xs_aload_n (k := 0) rfl (by decide +kernel))),
  List.forall_mem_cons.mpr ⟨(xOK_pure (xs_getf xcl_9 (by decide) (by decide +kernel) xw_224)),
  List.forall_mem_cons.mpr ⟨(xOK_pure (xs_iload_n (k := 2) rfl (by decide +kernel))),
  List.forall_mem_cons.mpr ⟨(xs_iast (by decide +kernel)),
  List.forall_mem_cons.mpr ⟨(xOK_pure (xs_aload_n (k := 0) rfl (by decide +kernel))),
  List.forall_mem_cons.mpr ⟨(xOK_pure (xs_getf xcl_9 (by decide) (by decide +kernel) xw_239)),
  List.forall_mem_cons.mpr ⟨(xOK_pure (xs_aload_n (k := 0) rfl (by decide +kernel))),
  (fun _ h => absurd h List.not_mem_nil)⟩⟩⟩⟩⟩⟩⟩⟩⟩⟩⟩⟩⟩⟩⟩⟩⟩⟩⟩⟩
def pX9_come_1 (ev : xEv) : List (Nat × xEn) := [(35, .inl (xop (xf_getf 9 1))), (38, .inl (xop (xf_iload 2 1))), (39, .inl (xop (xf_aload 0 1))), (40, .inl (xop (xf_getf 9 0))), (43, .inl (xop (xf_bin (fun x y => x + y)))), (44, .inl (xo_ast (ev.1 0) (fun x => x))), (45, .inl (xop (xf_aload 0 1))), (46, .inl (xop (xf_getf 9 5))), (49, .inl (xop (xf_aload 0 1))), (50, .inl (xop (xf_getf 9 1))), (53, .inl (xop (xf_iload 3 1))), (54, .inl (xo_ast (ev.1 0) (fun x => x))), (55, .inl (xop (xf_aload 0 1))), (56, .inl (xop (xf_getf 9 2))), (59, .inl (xop (xf_aload 0 1))), (60, .inl (xop (xf_getf 9 1))), (63, .inl (xop (xf_iload 4 2))), (65, .inl (xo_ast (ev.1 0) (fun x => x))), (66, .inl (xop (xf_aload 0 1))), (67, .inl (xop (xf_getf 9 3)))]
set_option maxRecDepth 20000 in
theorem okpX9_come_1 (ev : xEv) : ∀ q ∈ pX9_come_1 ev, xEnOK ev xmi yX9_come.cls yX9_come.name cX9_come 7 none q :=
  List.forall_mem_cons.mpr ⟨(xOK_pure (xs_getf xcl_9 (by decide) (by decide +kernel) xw_224)),
  List.forall_mem_cons.mpr ⟨(xOK_pure (xs_iload_n (k := 2) rfl (by decide +kernel))),
  List.forall_mem_cons.mpr ⟨(xOK_pure (xs_aload_n (k := 0) rfl (by decide +kernel))),
  List.forall_mem_cons.mpr ⟨(xOK_pure (xs_getf xcl_9 (by decide) (by decide +kernel) xw_222)),
  List.forall_mem_cons.mpr ⟨(xOK_pure (xs_iadd (by decide +kernel))),
  List.forall_mem_cons.mpr ⟨(xs_iast (by decide +kernel)),
  List.forall_mem_cons.mpr ⟨(xOK_pure (xs_aload_n (k := 0) rfl (by decide +kernel))),
  List.forall_mem_cons.mpr ⟨(xOK_pure (xs_getf xcl_9 (by decide) (by decide +kernel) xw_236)),
  List.forall_mem_cons.mpr ⟨(xOK_pure (xs_aload_n (k := 0) rfl (by decide +kernel))),
  List.forall_mem_cons.mpr ⟨(xOK_pure (xs_getf xcl_9 (by decide) (by decide +kernel) xw_224)),
  List.forall_mem_cons.mpr ⟨(xOK_pure (xs_iload_n (k := 3) rfl (by decide +kernel))),
  List.forall_mem_cons.mpr ⟨(xs_iast (by decide +kernel)),
  List.forall_mem_cons.mpr ⟨(xOK_pure (xs_aload_n (k := 0) rfl (by decide +kernel))),
  List.forall_mem_cons.mpr ⟨(xOK_pure (xs_getf xcl_9 (by decide) (by decide +kernel) xw_227)),
  List.forall_mem_cons.mpr ⟨(xOK_pure (xs_aload_n (k := 0) rfl (by decide +kernel))),
  List.forall_mem_cons.mpr ⟨(xOK_pure (xs_getf xcl_9 (by decide) (by decide +kernel) xw_224)),
  List.forall_mem_cons.mpr ⟨(xOK_pure (xs_iload (by decide +kernel))),
  List.forall_mem_cons.mpr ⟨(xs_iast (by decide +kernel)),
  List.forall_mem_cons.mpr ⟨(xOK_pure (xs_aload_n (k := 0) rfl (by decide +kernel))),
  List.forall_mem_cons.mpr ⟨(xOK_pure (xs_getf xcl_9 (by decide) (by decide +kernel) xw_230)),
  (fun _ h => absurd h List.not_mem_nil)⟩⟩⟩⟩⟩⟩⟩⟩⟩⟩⟩⟩⟩⟩⟩⟩⟩⟩⟩⟩
def pX9_come_2 (ev : xEv) : List (Nat × xEn) := [(70, .inl (xop (xf_aload 0 1))), (71, .inl (xop (xf_getf 9 1))), (74, .inl (xop (xf_iload 5 2))), (76, .inl (xo_ast (ev.1 0) (fun x => x))), (77, .inl (xop (xf_aload 0 1))), (78, .inl (xop (xf_getf 9 4))), (81, .inl (xop (xf_aload 0 1))), (82, .inl (xop (xf_getf 9 1))), (85, .inl (xop (xf_iload 6 2))), (87, .inl (xo_ast (ev.1 0) (fun x => x))), (88, .inl (xop (xf_aload 0 1))), (89, .inl (xop xf_dup)), (90, .inl (xop (xf_getf 9 1))), (93, .inl (xop (xf_push (.int 1) 1))), (94, .inl (xop (xf_bin (fun x y => x + y)))), (95, .inl (xo_putf 9 1 .int)), (98, .inr (.inr 0))]
set_option maxRecDepth 20000 in
theorem okpX9_come_2 (ev : xEv) : ∀ q ∈ pX9_come_2 ev, xEnOK ev xmi yX9_come.cls yX9_come.name cX9_come 7 none q :=
  List.forall_mem_cons.mpr ⟨(xOK_pure (xs_aload_n (k := 0) rfl (by decide +kernel))),
  List.forall_mem_cons.mpr ⟨(xOK_pure (xs_getf xcl_9 (by decide) (by decide +kernel) xw_224)),
  List.forall_mem_cons.mpr ⟨(xOK_pure (xs_iload (by decide +kernel))),
  List.forall_mem_cons.mpr ⟨(xs_iast (by decide +kernel)),
  List.forall_mem_cons.mpr ⟨(xOK_pure (xs_aload_n (k := 0) rfl (by decide +kernel))),
  List.forall_mem_cons.mpr ⟨(xOK_pure (xs_getf xcl_9 (by decide) (by decide +kernel) xw_233)),
  List.forall_mem_cons.mpr ⟨(xOK_pure (xs_aload_n (k := 0) rfl (by decide +kernel))),
  List.forall_mem_cons.mpr ⟨(xOK_pure (xs_getf xcl_9 (by decide) (by decide +kernel) xw_224)),
  List.forall_mem_cons.mpr ⟨(xOK_pure (xs_iload (by decide +kernel))),
  List.forall_mem_cons.mpr ⟨(xs_iast (by decide +kernel)),
  List.forall_mem_cons.mpr ⟨(xOK_pure (xs_aload_n (k := 0) rfl (by decide +kernel))),
  List.forall_mem_cons.mpr ⟨(xOK_pure (xs_dup (by decide +kernel))),
  List.forall_mem_cons.mpr ⟨(xOK_pure (xs_getf xcl_9 (by decide) (by decide +kernel) xw_224)),
  List.forall_mem_cons.mpr ⟨(xOK_pure (xs_iconst (n := 1) (by decide +kernel) (by decide))),
  List.forall_mem_cons.mpr ⟨(xOK_pure (xs_iadd (by decide +kernel))),
  List.forall_mem_cons.mpr ⟨(xs_putf (k := 1) xcl_9 (by decide) rfl (by decide +kernel) xw_224),
  List.forall_mem_cons.mpr ⟨(Or.inl ⟨rfl, (by decide +kernel), rfl⟩),
  (fun _ h => absurd h List.not_mem_nil)⟩⟩⟩⟩⟩⟩⟩⟩⟩⟩⟩⟩⟩⟩⟩⟩⟩
def pX9_come (ev : xEv) : List (Nat × xEn) := pX9_come_0 ev ++ (pX9_come_1 ev ++ (pX9_come_2 ev))
theorem okpX9_come (ev : xEv) : ∀ q ∈ pX9_come ev, xEnOK ev xmi yX9_come.cls yX9_come.name cX9_come 7 none q := List.forall_mem_append.mpr ⟨okpX9_come_0 ev, List.forall_mem_append.mpr ⟨okpX9_come_1 ev, okpX9_come_2 ev⟩⟩
theorem omX9_come (ev : xEv) : xMethOK ev xmi yX9_come.cls yX9_come.name 93 (pX9_come ev) := xMethOK.of mi_93 (by decide +kernel) (okpX9_come ev)
def pX9_latest_0 (ev : xEv) : List (Nat × xEn) := [(0, .inl (xop (xf_push (.int (-1)) 1))), (1, .inl (xop (xf_istore 4 2))), (3, .inl (xop (xf_push (.int 0) 1))), (4, .inl (xop (xf_istore 5 2))), (6, .inl (xop (xf_iload 5 2))), (8, .inl (xop (xf_aload 0 1))), (9, .inl (xop (xf_getf 9 1))), (12, .inl (xop (xf_icmp_ge 95))), (15, .inl (xop (xf_aload 0 1))), (16, .inl (xop (xf_getf 9 6))), (19, .inl (xop (xf_iload 5 2))), (21, .inl (xop (xf_ald (ev.1 0)))), (22, .inl (xop (xf_iload 1 1))), (23, .inl (xop (xf_icmp_ne 36))), (26, .inl (xop (xf_aload 0 1))), (27, .inl (xop (xf_getf 9 7))), (30, .inl (xop (xf_iload 5 2))), (32, .inl (xop (xf_ald (ev.1 0)))), (33, .inl (xop (xf_goto 43))), (36, .inl (xop (xf_aload 0 1)))]
set_option maxRecDepth 20000 in
theorem okpX9_latest_0 (ev : xEv) : ∀ q ∈ pX9_latest_0 ev, xEnOK ev xmi yX9_latest.cls yX9_latest.name cX9_latest 7 (some .int) q :=
  List.forall_mem_cons.mpr ⟨(xOK_pure (xs_iconst (n := (-1)) (by decide +kernel) (by decide))),
  List.forall_mem_cons.mpr ⟨(xOK_pure (xs_istore (by decide +kernel) (by decide))),
  List.forall_mem_cons.mpr ⟨(xOK_pure (xs_iconst (n := 0) (by decide +kernel) (by decide))),
  List.forall_mem_cons.mpr ⟨(xOK_pure (xs_istore (by decide +kernel) (by decide))),
  List.forall_mem_cons.mpr ⟨(xOK_pure (xs_iload (by decide +kernel))),
  List.forall_mem_cons.mpr ⟨(xOK_pure (xs_aload_n (k := 0) rfl (by decide +kernel))),
  List.forall_mem_cons.mpr ⟨(xOK_pure (xs_getf xcl_9 (by decide) (by decide +kernel) xw_224)),
  List.forall_mem_cons.mpr ⟨(xOK_pure (xs_icmp_ge (by decide +kernel) (by decide))),
  List.forall_mem_cons.mpr ⟨(xOK_pure (xs_aload_n (k := 0) rfl (by decide +kernel))),
  List.forall_mem_cons.mpr ⟨(xOK_pure (xs_getf xcl_9 (by decide) (by decide +kernel) xw_237)),
  List.forall_mem_cons.mpr ⟨(xOK_pure (xs_iload (by decide +kernel))),
  List.forall_mem_cons.mpr ⟨(xOK_pure (xs_iald (by decide +kernel))),
  List.forall_mem_cons.mpr ⟨(xOK_pure (xs_iload_n (k := 1) rfl (by decide +kernel))),
  List.forall_mem_cons.mpr ⟨(xOK_pure (xs_icmp_ne (by decide +kernel) (by decide))),
  List.forall_mem_cons.mpr ⟨(xOK_pure (xs_aload_n (k := 0) rfl (by decide +kernel))),
  List.forall_mem_cons.mpr ⟨(xOK_pure (xs_getf xcl_9 (by decide) (by decide +kernel) xw_238)),
  List.forall_mem_cons.mpr ⟨(xOK_pure (xs_iload (by decide +kernel))),
  List.forall_mem_cons.mpr ⟨(xOK_pure (xs_iald (by decide +kernel))),
  List.forall_mem_cons.mpr ⟨(xOK_pure (xs_goto (by decide +kernel) (by decide))),
  List.forall_mem_cons.mpr ⟨(xOK_pure (xs_aload_n (k := 0) rfl (by decide +kernel))),
  (fun _ h => absurd h List.not_mem_nil)⟩⟩⟩⟩⟩⟩⟩⟩⟩⟩⟩⟩⟩⟩⟩⟩⟩⟩⟩⟩
def pX9_latest_1 (ev : xEv) : List (Nat × xEn) := [(37, .inl (xop (xf_getf 9 8))), (40, .inl (xop (xf_iload 5 2))), (42, .inl (xop (xf_ald (ev.1 0)))), (43, .inl (xop (xf_istore 6 2))), (45, .inl (xop (xf_aload 0 1))), (46, .inl (xop (xf_getf 9 5))), (49, .inl (xop (xf_iload 5 2))), (51, .inl (xop (xf_ald (ev.1 0)))), (52, .inl (xop (xf_iload 2 1))), (53, .inl (xop (xf_icmp_ne 89))), (56, .inl (xop (xf_iload 6 2))), (58, .inl (xop (xf_iload 3 1))), (59, .inl (xop (xf_icmp_gt 89))), (62, .inl (xop (xf_iload 4 2))), (64, .inl (xop (xf_push (.int (-1)) 1))), (65, .inl (xop (xf_icmp_eq 85))), (68, .inl (xop (xf_aload 0 1))), (69, .inl (xop (xf_getf 9 2))), (72, .inl (xop (xf_iload 5 2))), (74, .inl (xop (xf_ald (ev.1 0))))]
set_option maxRecDepth 20000 in
theorem okpX9_latest_1 (ev : xEv) : ∀ q ∈ pX9_latest_1 ev, xEnOK ev xmi yX9_latest.cls yX9_latest.name cX9_latest 7 (some .int) q :=
  List.forall_mem_cons.mpr ⟨(xOK_pure (xs_getf xcl_9 (by decide) (by decide +kernel) xw_239)),
  List.forall_mem_cons.mpr ⟨(xOK_pure (xs_iload (by decide +kernel))),
  List.forall_mem_cons.mpr ⟨(xOK_pure (xs_iald (by decide +kernel))),
  List.forall_mem_cons.mpr ⟨(xOK_pure (xs_istore (by decide +kernel) (by decide))),
  List.forall_mem_cons.mpr ⟨(xOK_pure (xs_aload_n (k := 0) rfl (by decide +kernel))),
  List.forall_mem_cons.mpr ⟨(xOK_pure (xs_getf xcl_9 (by decide) (by decide +kernel) xw_236)),
  List.forall_mem_cons.mpr ⟨(xOK_pure (xs_iload (by decide +kernel))),
  List.forall_mem_cons.mpr ⟨(xOK_pure (xs_iald (by decide +kernel))),
  List.forall_mem_cons.mpr ⟨(xOK_pure (xs_iload_n (k := 2) rfl (by decide +kernel))),
  List.forall_mem_cons.mpr ⟨(xOK_pure (xs_icmp_ne (by decide +kernel) (by decide))),
  List.forall_mem_cons.mpr ⟨(xOK_pure (xs_iload (by decide +kernel))),
  List.forall_mem_cons.mpr ⟨(xOK_pure (xs_iload_n (k := 3) rfl (by decide +kernel))),
  List.forall_mem_cons.mpr ⟨(xOK_pure (xs_icmp_gt (by decide +kernel) (by decide))),
  List.forall_mem_cons.mpr ⟨(xOK_pure (xs_iload (by decide +kernel))),
  List.forall_mem_cons.mpr ⟨(xOK_pure (xs_iconst (n := (-1)) (by decide +kernel) (by decide))),
  List.forall_mem_cons.mpr ⟨(xOK_pure (xs_icmp_eq (by decide +kernel) (by decide))),
  List.forall_mem_cons.mpr ⟨(xOK_pure (xs_aload_n (k := 0) rfl (by decide +kernel))),
  List.forall_mem_cons.mpr ⟨(xOK_pure (xs_getf xcl_9 (by decide) (by decide +kernel) xw_227)),
  List.forall_mem_cons.mpr ⟨(xOK_pure (xs_iload (by decide +kernel))),
  List.forall_mem_cons.mpr ⟨(xOK_pure (xs_iald (by decide +kernel))),
  (fun _ h => absurd h List.not_mem_nil)⟩⟩⟩⟩⟩⟩⟩⟩⟩⟩⟩⟩⟩⟩⟩⟩⟩⟩⟩⟩
def pX9_latest_2 (ev : xEv) : List (Nat × xEn) := [(75, .inl (xop (xf_aload 0 1))), (76, .inl (xop (xf_getf 9 2))), (79, .inl (xop (xf_iload 4 2))), (81, .inl (xop (xf_ald (ev.1 0)))), (82, .inl (xop (xf_icmp_lt 89))), (85, .inl (xop (xf_iload 5 2))), (87, .inl (xop (xf_istore 4 2))), (89, .inl (xop (xf_iinc 5 1))), (92, .inl (xop (xf_goto 6))), (95, .inl (xop (xf_iload 4 2))), (97, .inr (.inr 1))]
set_option maxRecDepth 20000 in
theorem okpX9_latest_2 (ev : xEv) : ∀ q ∈ pX9_latest_2 ev, xEnOK ev xmi yX9_latest.cls yX9_latest.name cX9_latest 7 (some .int) q :=
  List.forall_mem_cons.mpr ⟨(xOK_pure (xs_aload_n (k := 0) rfl (by decide +kernel))),
  List.forall_mem_cons.mpr ⟨(xOK_pure (xs_getf xcl_9 (by decide) (by decide +kernel) xw_227)),
  List.forall_mem_cons.mpr ⟨(xOK_pure (xs_iload (by decide +kernel))),
  List.forall_mem_cons.mpr ⟨(xOK_pure (xs_iald (by decide +kernel))),
  List.forall_mem_cons.mpr ⟨(xOK_pure (xs_icmp_lt (by decide +kernel) (by decide))),
  List.forall_mem_cons.mpr ⟨(xOK_pure (xs_iload (by decide +kernel))),
  List.forall_mem_cons.mpr ⟨(xOK_pure (xs_istore (by decide +kernel) (by decide))),
  List.forall_mem_cons.mpr ⟨(xOK_pure (xs_iinc (n := 1) (by decide +kernel) (by decide) (by decide))),
  List.forall_mem_cons.mpr ⟨(xOK_pure (xs_goto (by decide +kernel) (by decide))),
  List.forall_mem_cons.mpr ⟨(xOK_pure (xs_iload (by decide +kernel))),
  List.forall_mem_cons.mpr ⟨(Or.inr (Or.inl ⟨rfl, (by decide +kernel), rfl⟩)),
  (fun _ h => absurd h List.not_mem_nil)⟩⟩⟩⟩⟩⟩⟩⟩⟩⟩⟩
def pX9_latest (ev : xEv) : List (Nat × xEn) := pX9_latest_0 ev ++ (pX9_latest_1 ev ++ (pX9_latest_2 ev))
theorem okpX9_latest (ev : xEv) : ∀ q ∈ pX9_latest ev, xEnOK ev xmi yX9_latest.cls yX9_latest.name cX9_latest 7 (some .int) q := List.forall_mem_append.mpr ⟨okpX9_latest_0 ev, List.forall_mem_append.mpr ⟨okpX9_latest_1 ev, okpX9_latest_2 ev⟩⟩
theorem omX9_latest (ev : xEv) : xMethOK ev xmi yX9_latest.cls yX9_latest.name 94 (pX9_latest ev) := xMethOK.of mi_94 (by decide +kernel) (okpX9_latest ev)
def pX3_init_0 (ev : xEv) : List (Nat × xEn) := [(0, .inl (xop (xf_aload 0 1))), (1, .inl (xop xf_objInit)), (4, .inl (xop (xf_aload 0 1))), (5, .inl (xop (xf_push (.int 4) 1))), (6, .inl (xo_newa (ev.1 0) (.inl (fun _ => 0)))), (8, .inl (xo_putf 3 5 (.array .int))), (11, .inl (xop (xf_aload 0 1))), (12, .inl (xop (xf_push (.int 4) 1))), (13, .inl (xo_newa (ev.1 0) (.inl (fun _ => 0)))), (15, .inl (xo_putf 3 6 (.array .int))), (18, .inl (xop (xf_aload 0 1))), (19, .inl (xop (xf_iload 1 1))), (20, .inl (xo_putf 3 0 .int)), (23, .inl (xop (xf_aload 0 1))), (24, .inl (xop (xf_iload 2 1))), (25, .inl (xo_putf 3 1 .int)), (28, .inl (xop (xf_aload 0 1))), (29, .inl (xop (xf_iload 3 1))), (30, .inl (xo_putf 3 2 .int)), (33, .inl (xop (xf_aload 0 1)))]
set_option maxRecDepth 20000 in
theorem okpX3_init_0 (ev : xEv) : ∀ q ∈ pX3_init_0 ev, xEnOK ev xmi yX3_init.cls yX3_init.name cX3_init 5 none q :=
  List.forall_mem_cons.mpr ⟨(xOK_pure (xs_aload_n (k := 0) rfl (by decide +kernel))),
  List.forall_mem_cons.mpr ⟨(xOK_pure (xs_objInit (by decide +kernel) xw_504 xw_149 xw_150)),
  List.forall_mem_cons.mpr ⟨(xOK_pure (xs_aload_n (k := 0) rfl (by decide +kernel))),
  List.forall_mem_cons.mpr ⟨(xOK_pure (xs_iconst (n := 4) (by decide +kernel) (by decide))),
  List.forall_mem_cons.mpr ⟨(xs_newa (t := 0) (ty := .int) rfl rfl (fun _ _ => rfl) (by decide) (by decide +kernel) xw_208),
  List.forall_mem_cons.mpr ⟨(xs_putF (k := 5) xcl_3 (by decide) rfl rfl rfl (by decide +kernel) xw_518),
  List.forall_mem_cons.mpr ⟨(xOK_pure (xs_aload_n (k := 0) rfl (by decide +kernel))),
  List.forall_mem_cons.mpr ⟨(xOK_pure (xs_iconst (n := 4) (by decide +kernel) (by decide))),
  List.forall_mem_cons.mpr ⟨(xs_newa (t := 0) (ty := .int) rfl rfl (fun _ _ => rfl) (by decide) (by decide +kernel) xw_208),
  List.forall_mem_cons.mpr ⟨(xs_putF (k := 6) xcl_3 (by decide) rfl rfl rfl (by decide +kernel) xw_519),
  List.forall_mem_cons.mpr ⟨(xOK_pure (xs_aload_n (k := 0) rfl (by decide +kernel))),
  List.forall_mem_cons.mpr ⟨(xOK_pure (xs_iload_n (k := 1) rfl (by decide +kernel))),
  List.forall_mem_cons.mpr ⟨(xs_putF (k := 0) xcl_3 (by decide) rfl rfl rfl (by decide +kernel) xw_505),
  List.forall_mem_cons.mpr ⟨(xOK_pure (xs_aload_n (k := 0) rfl (by decide +kernel))),
  List.forall_mem_cons.mpr ⟨(xOK_pure (xs_iload_n (k := 2) rfl (by decide +kernel))),
  List.forall_mem_cons.mpr ⟨(xs_putF (k := 1) xcl_3 (by decide) rfl rfl rfl (by decide +kernel) xw_509),
  List.forall_mem_cons.mpr ⟨(xOK_pure (xs_aload_n (k := 0) rfl (by decide +kernel))),
  List.forall_mem_cons.mpr ⟨(xOK_pure (xs_iload_n (k := 3) rfl (by decide +kernel))),
  List.forall_mem_cons.mpr ⟨(xs_putF (k := 2) xcl_3 (by decide) rfl rfl rfl (by decide +kernel) xw_510),
  List.forall_mem_cons.mpr ⟨(xOK_pure (xs_aload_n (k := 0) rfl (by decide +kernel))),
  (fun _ h => absurd h List.not_mem_nil)⟩⟩⟩⟩⟩⟩⟩⟩⟩⟩⟩⟩⟩⟩⟩⟩⟩⟩⟩⟩
def pX3_init_1 (ev : xEv) : List (Nat × xEn) := [(34, .inl (xop (xf_iload 4 2))), (36, .inl (xo_putf 3 3 .int)), (39, .inr (.inr 0))]
set_option maxRecDepth 20000 in
theorem okpX3_init_1 (ev : xEv) : ∀ q ∈ pX3_init_1 ev, xEnOK ev xmi yX3_init.cls yX3_init.name cX3_init 5 none q :=
  List.forall_mem_cons.mpr ⟨(xOK_pure (xs_iload (by decide +kernel))),
  List.forall_mem_cons.mpr ⟨(xs_putF (k := 3) xcl_3 (by decide) rfl rfl rfl (by decide +kernel) xw_514),
  List.forall_mem_cons.mpr ⟨(Or.inl ⟨rfl, (by decide +kernel), rfl⟩),
  (fun _ h => absurd h List.not_mem_nil)⟩⟩⟩
def pX3_init (ev : xEv) : List (Nat × xEn) := pX3_init_0 ev ++ (pX3_init_1 ev)
theorem okpX3_init (ev : xEv) : ∀ q ∈ pX3_init ev, xEnOK ev xmi yX3_init.cls yX3_init.name cX3_init 5 none q := List.forall_mem_append.mpr ⟨okpX3_init_0 ev, okpX3_init_1 ev⟩
theorem omX3_init (ev : xEv) : xMethOK ev xmi yX3_init.cls yX3_init.name 29 (pX3_init ev) := xMethOK.of mi_29 (by decide +kernel) (okpX3_init ev)
def pX3_addGround_0 (ev : xEv) : List (Nat × xEn) := [(0, .inl (xop (xf_aload 0 1))), (1, .inl (xop (xf_getf 3 5))), (4, .inl (xop (xf_aload 0 1))), (5, .inl (xop (xf_getf 3 4))), (8, .inl (xop (xf_iload 1 1))), (9, .inl (xo_ast (ev.1 0) (fun x => x))), (10, .inl (xop (xf_aload 0 1))), (11, .inl (xop (xf_getf 3 6))), (14, .inl (xop (xf_aload 0 1))), (15, .inl (xop (xf_getf 3 4))), (18, .inl (xop (xf_iload 2 1))), (19, .inl (xo_ast (ev.1 0) (fun x => x))), (20, .inl (xop (xf_aload 0 1))), (21, .inl (xop xf_dup)), (22, .inl (xop (xf_getf 3 4))), (25, .inl (xop (xf_push (.int 1) 1))), (26, .inl (xop (xf_bin (fun x y => x + y)))), (27, .inl (xo_putf 3 4 .int)), (30, .inl (xop (xf_aload 0 1))), (31, .inl (xop (xf_getf 3 4)))]
set_option maxRecDepth 20000 in
theorem okpX3_addGround_0 (ev : xEv) : ∀ q ∈ pX3_addGround_0 ev, xEnOK ev xmi yX3_addGround.cls yX3_addGround.name cX3_addGround 3 (some .int) q :=
  List.forall_mem_cons.mpr ⟨(xOK_pure (xs_aload_n (k := 0) rfl (by decide +kernel))),
  List.forall_mem_cons.mpr ⟨(xOK_pure (xs_getf xcl_3 (by decide) (by decide +kernel) xw_518)),
  List.forall_mem_cons.mpr ⟨(xOK_pure (xs_aload_n (k := 0) rfl (by decide +kernel))),
  List.forall_mem_cons.mpr ⟨(xOK_pure (xs_getf xcl_3 (by decide) (by decide +kernel) xw_516)),
  List.forall_mem_cons.mpr ⟨(xOK_pure (xs_iload_n (k := 1) rfl (by decide +kernel))),
  List.forall_mem_cons.mpr ⟨(xs_iast (by decide +kernel)),
  List.forall_mem_cons.mpr ⟨(xOK_pure (xs_aload_n (k := 0) rfl (by decide +kernel))),
  List.forall_mem_cons.mpr ⟨(xOK_pure (xs_getf xcl_3 (by decide) (by decide +kernel) xw_519)),
  List.forall_mem_cons.mpr ⟨(xOK_pure (xs_aload_n (k := 0) rfl (by decide +kernel))),
  List.forall_mem_cons.mpr ⟨(xOK_pure (xs_getf xcl_3 (by decide) (by decide +kernel) xw_516)),
  List.forall_mem_cons.mpr ⟨(xOK_pure (xs_iload_n (k := 2) rfl (by decide +kernel))),
  List.forall_mem_cons.mpr ⟨(xs_iast (by decide +kernel)),
  List.forall_mem_cons.mpr ⟨(xOK_pure (xs_aload_n (k := 0) rfl (by decide +kernel))),
  List.forall_mem_cons.mpr ⟨(xOK_pure (xs_dup (by decide +kernel))),
  List.forall_mem_cons.mpr ⟨(xOK_pure (xs_getf xcl_3 (by decide) (by decide +kernel) xw_516)),
  List.forall_mem_cons.mpr ⟨(xOK_pure (xs_iconst (n := 1) (by decide +kernel) (by decide))),
  List.forall_mem_cons.mpr ⟨(xOK_pure (xs_iadd (by decide +kernel))),
  List.forall_mem_cons.mpr ⟨(xs_putf (k := 4) xcl_3 (by decide) rfl (by decide +kernel) xw_516),
  List.forall_mem_cons.mpr ⟨(xOK_pure (xs_aload_n (k := 0) rfl (by decide +kernel))),
  List.forall_mem_cons.mpr ⟨(xOK_pure (xs_getf xcl_3 (by decide) (by decide +kernel) xw_516)),
  (fun _ h => absurd h List.not_mem_nil)⟩⟩⟩⟩⟩⟩⟩⟩⟩⟩⟩⟩⟩⟩⟩⟩⟩⟩⟩⟩
def pX3_addGround_1 (ev : xEv) : List (Nat × xEn) := [(34, .inr (.inr 1))]
set_option maxRecDepth 20000 in
theorem okpX3_addGround_1 (ev : xEv) : ∀ q ∈ pX3_addGround_1 ev, xEnOK ev xmi yX3_addGround.cls yX3_addGround.name cX3_addGround 3 (some .int) q :=
  List.forall_mem_cons.mpr ⟨(Or.inr (Or.inl ⟨rfl, (by decide +kernel), rfl⟩)),
  (fun _ h => absurd h List.not_mem_nil)⟩
def pX3_addGround (ev : xEv) : List (Nat × xEn) := pX3_addGround_0 ev ++ (pX3_addGround_1 ev)
theorem okpX3_addGround (ev : xEv) : ∀ q ∈ pX3_addGround ev, xEnOK ev xmi yX3_addGround.cls yX3_addGround.name cX3_addGround 3 (some .int) q := List.forall_mem_append.mpr ⟨okpX3_addGround_0 ev, okpX3_addGround_1 ev⟩
theorem omX3_addGround (ev : xEv) : xMethOK ev xmi yX3_addGround.cls yX3_addGround.name 30 (pX3_addGround ev) := xMethOK.of mi_30 (by decide +kernel) (okpX3_addGround ev)
def pX3_bestGround_0 (ev : xEv) : List (Nat × xEn) := [(0, .inl (xop (xf_push (.int (-1)) 1))), (1, .inl (xop (xf_istore 3 1))), (2, .inl (xop (xf_push (.int 0) 1))), (3, .inl (xop (xf_istore 4 2))), (5, .inl (xop (xf_iload 4 2))), (7, .inl (xop (xf_aload 0 1))), (8, .inl (xop (xf_getf 3 4))), (11, .inl (xop (xf_icmp_ge 55))), (14, .inl (xop (xf_aload 0 1))), (15, .inl (xop (xf_getf 3 5))), (18, .inl (xop (xf_iload 4 2))), (20, .inl (xop (xf_ald (ev.1 0)))), (21, .inl (xop (xf_iload 1 1))), (22, .inl (xop (xf_bin (fun x y => x - y)))), (23, .inr (.inl (1, 301, 1, 99))), (26, .inl (xop (xf_iload 2 1))), (27, .inl (xop (xf_icmp_gt 49))), (30, .inl (xop (xf_iload 3 1))), (31, .inl (xop (xf_push (.int (-1)) 1))), (32, .inl (xop (xf_icmp_eq 46)))]
set_option maxRecDepth 20000 in
theorem okpX3_bestGround_0 (ev : xEv) : ∀ q ∈ pX3_bestGround_0 ev, xEnOK ev xmi yX3_bestGround.cls yX3_bestGround.name cX3_bestGround 5 (some .int) q :=
  List.forall_mem_cons.mpr ⟨(xOK_pure (xs_iconst (n := (-1)) (by decide +kernel) (by decide))),
  List.forall_mem_cons.mpr ⟨(xOK_pure (xs_istore_n (k := 3) rfl (by decide +kernel) (by decide))),
  List.forall_mem_cons.mpr ⟨(xOK_pure (xs_iconst (n := 0) (by decide +kernel) (by decide))),
  List.forall_mem_cons.mpr ⟨(xOK_pure (xs_istore (by decide +kernel) (by decide))),
  List.forall_mem_cons.mpr ⟨(xOK_pure (xs_iload (by decide +kernel))),
  List.forall_mem_cons.mpr ⟨(xOK_pure (xs_aload_n (k := 0) rfl (by decide +kernel))),
  List.forall_mem_cons.mpr ⟨(xOK_pure (xs_getf xcl_3 (by decide) (by decide +kernel) xw_516)),
  List.forall_mem_cons.mpr ⟨(xOK_pure (xs_icmp_ge (by decide +kernel) (by decide))),
  List.forall_mem_cons.mpr ⟨(xOK_pure (xs_aload_n (k := 0) rfl (by decide +kernel))),
  List.forall_mem_cons.mpr ⟨(xOK_pure (xs_getf xcl_3 (by decide) (by decide +kernel) xw_518)),
  List.forall_mem_cons.mpr ⟨(xOK_pure (xs_iload (by decide +kernel))),
  List.forall_mem_cons.mpr ⟨(xOK_pure (xs_iald (by decide +kernel))),
  List.forall_mem_cons.mpr ⟨(xOK_pure (xs_iload_n (k := 1) rfl (by decide +kernel))),
  List.forall_mem_cons.mpr ⟨(xOK_pure (xs_isub (by decide +kernel))),
  List.forall_mem_cons.mpr ⟨(xcm mi_301 ⟨⟨(by decide +kernel), (by decide +kernel), (by decide +kernel)⟩, (by decide), xw_1238, xw_126, Or.inr (Or.inl ⟨rfl, _, (by decide +kernel), xw_1236, xw_1237⟩)⟩),
  List.forall_mem_cons.mpr ⟨(xOK_pure (xs_iload_n (k := 2) rfl (by decide +kernel))),
  List.forall_mem_cons.mpr ⟨(xOK_pure (xs_icmp_gt (by decide +kernel) (by decide))),
  List.forall_mem_cons.mpr ⟨(xOK_pure (xs_iload_n (k := 3) rfl (by decide +kernel))),
  List.forall_mem_cons.mpr ⟨(xOK_pure (xs_iconst (n := (-1)) (by decide +kernel) (by decide))),
  List.forall_mem_cons.mpr ⟨(xOK_pure (xs_icmp_eq (by decide +kernel) (by decide))),
  (fun _ h => absurd h List.not_mem_nil)⟩⟩⟩⟩⟩⟩⟩⟩⟩⟩⟩⟩⟩⟩⟩⟩⟩⟩⟩⟩
def pX3_bestGround_1 (ev : xEv) : List (Nat × xEn) := [(35, .inl (xop (xf_aload 0 1))), (36, .inl (xop (xf_iload 4 2))), (38, .inl (xop (xf_iload 3 1))), (39, .inl (xop (xf_iload 1 1))), (40, .inr (.inl (0, 32, 3, 3))), (43, .inl (xop (xf_if_eq 49))), (46, .inl (xop (xf_iload 4 2))), (48, .inl (xop (xf_istore 3 1))), (49, .inl (xop (xf_iinc 4 1))), (52, .inl (xop (xf_goto 5))), (55, .inl (xop (xf_iload 3 1))), (56, .inr (.inr 1))]
set_option maxRecDepth 20000 in
theorem okpX3_bestGround_1 (ev : xEv) : ∀ q ∈ pX3_bestGround_1 ev, xEnOK ev xmi yX3_bestGround.cls yX3_bestGround.name cX3_bestGround 5 (some .int) q :=
  List.forall_mem_cons.mpr ⟨(xOK_pure (xs_aload_n (k := 0) rfl (by decide +kernel))),
  List.forall_mem_cons.mpr ⟨(xOK_pure (xs_iload (by decide +kernel))),
  List.forall_mem_cons.mpr ⟨(xOK_pure (xs_iload_n (k := 3) rfl (by decide +kernel))),
  List.forall_mem_cons.mpr ⟨(xOK_pure (xs_iload_n (k := 1) rfl (by decide +kernel))),
  List.forall_mem_cons.mpr ⟨(xcm mi_32 ⟨⟨(by decide +kernel), (by decide +kernel), (by decide +kernel)⟩, (by decide), xw_1242, xw_125, Or.inl ⟨rfl, _, _, _, _, (by decide +kernel), xw_1239, xw_1241, xw_37, rfl⟩⟩),
  List.forall_mem_cons.mpr ⟨(xOK_pure (xs_if_eq (by decide +kernel) (by decide))),
  List.forall_mem_cons.mpr ⟨(xOK_pure (xs_iload (by decide +kernel))),
  List.forall_mem_cons.mpr ⟨(xOK_pure (xs_istore_n (k := 3) rfl (by decide +kernel) (by decide))),
  List.forall_mem_cons.mpr ⟨(xOK_pure (xs_iinc (n := 1) (by decide +kernel) (by decide) (by decide))),
  List.forall_mem_cons.mpr ⟨(xOK_pure (xs_goto (by decide +kernel) (by decide))),
  List.forall_mem_cons.mpr ⟨(xOK_pure (xs_iload_n (k := 3) rfl (by decide +kernel))),
  List.forall_mem_cons.mpr ⟨(Or.inr (Or.inl ⟨rfl, (by decide +kernel), rfl⟩)),
  (fun _ h => absurd h List.not_mem_nil)⟩⟩⟩⟩⟩⟩⟩⟩⟩⟩⟩⟩
def pX3_bestGround (ev : xEv) : List (Nat × xEn) := pX3_bestGround_0 ev ++ (pX3_bestGround_1 ev)
theorem okpX3_bestGround (ev : xEv) : ∀ q ∈ pX3_bestGround ev, xEnOK ev xmi yX3_bestGround.cls yX3_bestGround.name cX3_bestGround 5 (some .int) q := List.forall_mem_append.mpr ⟨okpX3_bestGround_0 ev, okpX3_bestGround_1 ev⟩
theorem omX3_bestGround (ev : xEv) : xMethOK ev xmi yX3_bestGround.cls yX3_bestGround.name 31 (pX3_bestGround ev) := xMethOK.of mi_31 (by decide +kernel) (okpX3_bestGround ev)
def pX3_isBetter_0 (ev : xEv) : List (Nat × xEn) := [(0, .inl (xop (xf_aload 0 1))), (1, .inl (xop (xf_getf 3 6))), (4, .inl (xop (xf_iload 1 1))), (5, .inl (xop (xf_ald (ev.1 0)))), (6, .inl (xop (xf_aload 0 1))), (7, .inl (xop (xf_getf 3 6))), (10, .inl (xop (xf_iload 2 1))), (11, .inl (xop (xf_ald (ev.1 0)))), (12, .inl (xop (xf_icmp_eq 36))), (15, .inl (xop (xf_aload 0 1))), (16, .inl (xop (xf_getf 3 6))), (19, .inl (xop (xf_iload 1 1))), (20, .inl (xop (xf_ald (ev.1 0)))), (21, .inl (xop (xf_aload 0 1))), (22, .inl (xop (xf_getf 3 6))), (25, .inl (xop (xf_iload 2 1))), (26, .inl (xop (xf_ald (ev.1 0)))), (27, .inl (xop (xf_icmp_ge 34))), (30, .inl (xop (xf_push (.int 1) 1))), (31, .inl (xop (xf_goto 35)))]
set_option maxRecDepth 20000 in
theorem okpX3_isBetter_0 (ev : xEv) : ∀ q ∈ pX3_isBetter_0 ev, xEnOK ev xmi yX3_isBetter.cls yX3_isBetter.name cX3_isBetter 6 (some .boolean) q :=
  List.forall_mem_cons.mpr ⟨(xOK_pure (xs_aload_n (k := 0) rfl (by decide +kernel))),
  List.forall_mem_cons.mpr ⟨(xOK_pure (xs_getf xcl_3 (by decide) (by decide +kernel) xw_519)),
  List.forall_mem_cons.mpr ⟨(xOK_pure (xs_iload_n (k := 1) rfl (by decide +kernel))),
  List.forall_mem_cons.mpr ⟨(xOK_pure (xs_iald (by decide +kernel))),
  List.forall_mem_cons.mpr ⟨(xOK_pure (xs_aload_n (k := 0) rfl (by decide +kernel))),
  List.forall_mem_cons.mpr ⟨(xOK_pure (xs_getf xcl_3 (by decide) (by decide +kernel) xw_519)),
  List.forall_mem_cons.mpr ⟨(xOK_pure (xs_iload_n (k := 2) rfl (by decide +kernel))),
  List.forall_mem_cons.mpr ⟨(xOK_pure (xs_iald (by decide +kernel))),
  List.forall_mem_cons.mpr ⟨(xOK_pure (xs_icmp_eq (by decide +kernel) (by decide))),
  List.forall_mem_cons.mpr ⟨(xOK_pure (xs_aload_n (k := 0) rfl (by decide +kernel))),
  List.forall_mem_cons.mpr ⟨(xOK_pure (xs_getf xcl_3 (by decide) (by decide +kernel) xw_519)),
  List.forall_mem_cons.mpr ⟨(xOK_pure (xs_iload_n (k := 1) rfl (by decide +kernel))),
  List.forall_mem_cons.mpr ⟨(xOK_pure (xs_iald (by decide +kernel))),
  List.forall_mem_cons.mpr ⟨(xOK_pure (xs_aload_n (k := 0) rfl (by decide +kernel))),
  List.forall_mem_cons.mpr ⟨(xOK_pure (xs_getf xcl_3 (by decide) (by decide +kernel) xw_519)),
  List.forall_mem_cons.mpr ⟨(xOK_pure (xs_iload_n (k := 2) rfl (by decide +kernel))),
  List.forall_mem_cons.mpr ⟨(xOK_pure (xs_iald (by decide +kernel))),
  List.forall_mem_cons.mpr ⟨(xOK_pure (xs_icmp_ge (by decide +kernel) (by decide))),
  List.forall_mem_cons.mpr ⟨(xOK_pure (xs_iconst (n := 1) (by decide +kernel) (by decide))),
  List.forall_mem_cons.mpr ⟨(xOK_pure (xs_goto (by decide +kernel) (by decide))),
  (fun _ h => absurd h List.not_mem_nil)⟩⟩⟩⟩⟩⟩⟩⟩⟩⟩⟩⟩⟩⟩⟩⟩⟩⟩⟩⟩
def pX3_isBetter_1 (ev : xEv) : List (Nat × xEn) := [(34, .inl (xop (xf_push (.int 0) 1))), (35, .inr (.inr 4)), (36, .inl (xop (xf_aload 0 1))), (37, .inl (xop (xf_getf 3 5))), (40, .inl (xop (xf_iload 1 1))), (41, .inl (xop (xf_ald (ev.1 0)))), (42, .inl (xop (xf_iload 3 1))), (43, .inl (xop (xf_bin (fun x y => x - y)))), (44, .inr (.inl (1, 301, 1, 99))), (47, .inl (xop (xf_istore 4 2))), (49, .inl (xop (xf_aload 0 1))), (50, .inl (xop (xf_getf 3 5))), (53, .inl (xop (xf_iload 2 1))), (54, .inl (xop (xf_ald (ev.1 0)))), (55, .inl (xop (xf_iload 3 1))), (56, .inl (xop (xf_bin (fun x y => x - y)))), (57, .inr (.inl (1, 301, 1, 99))), (60, .inl (xop (xf_istore 5 2))), (62, .inl (xop (xf_iload 4 2))), (64, .inl (xop (xf_iload 5 2)))]
set_option maxRecDepth 20000 in
theorem okpX3_isBetter_1 (ev : xEv) : ∀ q ∈ pX3_isBetter_1 ev, xEnOK ev xmi yX3_isBetter.cls yX3_isBetter.name cX3_isBetter 6 (some .boolean) q :=
  List.forall_mem_cons.mpr ⟨(xOK_pure (xs_iconst (n := 0) (by decide +kernel) (by decide))),
  List.forall_mem_cons.mpr ⟨(Or.inr (Or.inr (Or.inr (Or.inr ⟨rfl, (by decide +kernel), rfl⟩)))),
  List.forall_mem_cons.mpr ⟨(xOK_pure (xs_aload_n (k := 0) rfl (by decide +kernel))),
  List.forall_mem_cons.mpr ⟨(xOK_pure (xs_getf xcl_3 (by decide) (by decide +kernel) xw_518)),
  List.forall_mem_cons.mpr ⟨(xOK_pure (xs_iload_n (k := 1) rfl (by decide +kernel))),
  List.forall_mem_cons.mpr ⟨(xOK_pure (xs_iald (by decide +kernel))),
  List.forall_mem_cons.mpr ⟨(xOK_pure (xs_iload_n (k := 3) rfl (by decide +kernel))),
  List.forall_mem_cons.mpr ⟨(xOK_pure (xs_isub (by decide +kernel))),
  List.forall_mem_cons.mpr ⟨(xcm mi_301 ⟨⟨(by decide +kernel), (by decide +kernel), (by decide +kernel)⟩, (by decide), xw_1238, xw_126, Or.inr (Or.inl ⟨rfl, _, (by decide +kernel), xw_1236, xw_1237⟩)⟩),
  List.forall_mem_cons.mpr ⟨(xOK_pure (xs_istore (by decide +kernel) (by decide))),
  List.forall_mem_cons.mpr ⟨(xOK_pure (xs_aload_n (k := 0) rfl (by decide +kernel))),
  List.forall_mem_cons.mpr ⟨(xOK_pure (xs_getf xcl_3 (by decide) (by decide +kernel) xw_518)),
  List.forall_mem_cons.mpr ⟨(xOK_pure (xs_iload_n (k := 2) rfl (by decide +kernel))),
  List.forall_mem_cons.mpr ⟨(xOK_pure (xs_iald (by decide +kernel))),
  List.forall_mem_cons.mpr ⟨(xOK_pure (xs_iload_n (k := 3) rfl (by decide +kernel))),
  List.forall_mem_cons.mpr ⟨(xOK_pure (xs_isub (by decide +kernel))),
  List.forall_mem_cons.mpr ⟨(xcm mi_301 ⟨⟨(by decide +kernel), (by decide +kernel), (by decide +kernel)⟩, (by decide), xw_1238, xw_126, Or.inr (Or.inl ⟨rfl, _, (by decide +kernel), xw_1236, xw_1237⟩)⟩),
  List.forall_mem_cons.mpr ⟨(xOK_pure (xs_istore (by decide +kernel) (by decide))),
  List.forall_mem_cons.mpr ⟨(xOK_pure (xs_iload (by decide +kernel))),
  List.forall_mem_cons.mpr ⟨(xOK_pure (xs_iload (by decide +kernel))),
  (fun _ h => absurd h List.not_mem_nil)⟩⟩⟩⟩⟩⟩⟩⟩⟩⟩⟩⟩⟩⟩⟩⟩⟩⟩⟩⟩
def pX3_isBetter_2 (ev : xEv) : List (Nat × xEn) := [(66, .inl (xop (xf_icmp_lt 91))), (69, .inl (xop (xf_iload 4 2))), (71, .inl (xop (xf_iload 5 2))), (73, .inl (xop (xf_icmp_ne 95))), (76, .inl (xop (xf_aload 0 1))), (77, .inl (xop (xf_getf 3 5))), (80, .inl (xop (xf_iload 1 1))), (81, .inl (xop (xf_ald (ev.1 0)))), (82, .inl (xop (xf_aload 0 1))), (83, .inl (xop (xf_getf 3 5))), (86, .inl (xop (xf_iload 2 1))), (87, .inl (xop (xf_ald (ev.1 0)))), (88, .inl (xop (xf_icmp_ge 95))), (91, .inl (xop (xf_push (.int 1) 1))), (92, .inl (xop (xf_goto 96))), (95, .inl (xop (xf_push (.int 0) 1))), (96, .inr (.inr 4))]
set_option maxRecDepth 20000 in
theorem okpX3_isBetter_2 (ev : xEv) : ∀ q ∈ pX3_isBetter_2 ev, xEnOK ev xmi yX3_isBetter.cls yX3_isBetter.name cX3_isBetter 6 (some .boolean) q :=
  List.forall_mem_cons.mpr ⟨(xOK_pure (xs_icmp_lt (by decide +kernel) (by decide))),
  List.forall_mem_cons.mpr ⟨(xOK_pure (xs_iload (by decide +kernel))),
  List.forall_mem_cons.mpr ⟨(xOK_pure (xs_iload (by decide +kernel))),
  List.forall_mem_cons.mpr ⟨(xOK_pure (xs_icmp_ne (by decide +kernel) (by decide))),
  List.forall_mem_cons.mpr ⟨(xOK_pure (xs_aload_n (k := 0) rfl (by decide +kernel))),
  List.forall_mem_cons.mpr ⟨(xOK_pure (xs_getf xcl_3 (by decide) (by decide +kernel) xw_518)),
  List.forall_mem_cons.mpr ⟨(xOK_pure (xs_iload_n (k := 1) rfl (by decide +kernel))),
  List.forall_mem_cons.mpr ⟨(xOK_pure (xs_iald (by decide +kernel))),
  List.forall_mem_cons.mpr ⟨(xOK_pure (xs_aload_n (k := 0) rfl (by decide +kernel))),
  List.forall_mem_cons.mpr ⟨(xOK_pure (xs_getf xcl_3 (by decide) (by decide +kernel) xw_518)),
  List.forall_mem_cons.mpr ⟨(xOK_pure (xs_iload_n (k := 2) rfl (by decide +kernel))),
  List.forall_mem_cons.mpr ⟨(xOK_pure (xs_iald (by decide +kernel))),
  List.forall_mem_cons.mpr ⟨(xOK_pure (xs_icmp_ge (by decide +kernel) (by decide))),
  List.forall_mem_cons.mpr ⟨(xOK_pure (xs_iconst (n := 1) (by decide +kernel) (by decide))),
  List.forall_mem_cons.mpr ⟨(xOK_pure (xs_goto (by decide +kernel) (by decide))),
  List.forall_mem_cons.mpr ⟨(xOK_pure (xs_iconst (n := 0) (by decide +kernel) (by decide))),
  List.forall_mem_cons.mpr ⟨(Or.inr (Or.inr (Or.inr (Or.inr ⟨rfl, (by decide +kernel), rfl⟩)))),
  (fun _ h => absurd h List.not_mem_nil)⟩⟩⟩⟩⟩⟩⟩⟩⟩⟩⟩⟩⟩⟩⟩⟩⟩
def pX3_isBetter (ev : xEv) : List (Nat × xEn) := pX3_isBetter_0 ev ++ (pX3_isBetter_1 ev ++ (pX3_isBetter_2 ev))
theorem okpX3_isBetter (ev : xEv) : ∀ q ∈ pX3_isBetter ev, xEnOK ev xmi yX3_isBetter.cls yX3_isBetter.name cX3_isBetter 6 (some .boolean) q := List.forall_mem_append.mpr ⟨okpX3_isBetter_0 ev, List.forall_mem_append.mpr ⟨okpX3_isBetter_1 ev, okpX3_isBetter_2 ev⟩⟩
theorem omX3_isBetter (ev : xEv) : xMethOK ev xmi yX3_isBetter.cls yX3_isBetter.name 32 (pX3_isBetter ev) := xMethOK.of mi_32 (by decide +kernel) (okpX3_isBetter ev)
def pX3_mileOf (ev : xEv) : List (Nat × xEn) := [(0, .inl (xop (xf_iload 1 1))), (1, .inl (xop (xf_push (.int 0) 1))), (2, .inl (xop (xf_aload 0 1))), (3, .inl (xop (xf_getf 3 4))), (6, .inl (xop (xf_push (.int 1) 1))), (7, .inl (xop (xf_bin (fun x y => x - y)))), (8, .inr (.inl (3, 183, 3, 11))), (11, .inl (xop (xf_if_eq 23))), (14, .inl (xop (xf_aload 0 1))), (15, .inl (xop (xf_getf 3 5))), (18, .inl (xop (xf_iload 1 1))), (19, .inl (xop (xf_ald (ev.1 0)))), (20, .inl (xop (xf_goto 24))), (23, .inl (xop (xf_push (.int (-1)) 1))), (24, .inr (.inr 1))]
set_option maxRecDepth 20000 in
theorem okpX3_mileOf (ev : xEv) : ∀ q ∈ pX3_mileOf ev, xEnOK ev xmi yX3_mileOf.cls yX3_mileOf.name cX3_mileOf 2 (some .int) q :=
  List.forall_mem_cons.mpr ⟨(xOK_pure (xs_iload_n (k := 1) rfl (by decide +kernel))),
  List.forall_mem_cons.mpr ⟨(xOK_pure (xs_iconst (n := 0) (by decide +kernel) (by decide))),
  List.forall_mem_cons.mpr ⟨(xOK_pure (xs_aload_n (k := 0) rfl (by decide +kernel))),
  List.forall_mem_cons.mpr ⟨(xOK_pure (xs_getf xcl_3 (by decide) (by decide +kernel) xw_516)),
  List.forall_mem_cons.mpr ⟨(xOK_pure (xs_iconst (n := 1) (by decide +kernel) (by decide))),
  List.forall_mem_cons.mpr ⟨(xOK_pure (xs_isub (by decide +kernel))),
  List.forall_mem_cons.mpr ⟨(xcm mi_183 ⟨⟨(by decide +kernel), (by decide +kernel), (by decide +kernel)⟩, (by decide), xw_479, xw_117, Or.inr (Or.inr (Or.inr (Or.inl ⟨rfl, _, _, (by decide +kernel), xwn_1247, xw_478⟩)))⟩),
  List.forall_mem_cons.mpr ⟨(xOK_pure (xs_if_eq (by decide +kernel) (by decide))),
  List.forall_mem_cons.mpr ⟨(xOK_pure (xs_aload_n (k := 0) rfl (by decide +kernel))),
  List.forall_mem_cons.mpr ⟨(xOK_pure (xs_getf xcl_3 (by decide) (by decide +kernel) xw_518)),
  List.forall_mem_cons.mpr ⟨(xOK_pure (xs_iload_n (k := 1) rfl (by decide +kernel))),
  List.forall_mem_cons.mpr ⟨(xOK_pure (xs_iald (by decide +kernel))),
  List.forall_mem_cons.mpr ⟨(xOK_pure (xs_goto (by decide +kernel) (by decide))),
  List.forall_mem_cons.mpr ⟨(xOK_pure (xs_iconst (n := (-1)) (by decide +kernel) (by decide))),
  List.forall_mem_cons.mpr ⟨(Or.inr (Or.inl ⟨rfl, (by decide +kernel), rfl⟩)),
  (fun _ h => absurd h List.not_mem_nil)⟩⟩⟩⟩⟩⟩⟩⟩⟩⟩⟩⟩⟩⟩⟩
theorem omX3_mileOf (ev : xEv) : xMethOK ev xmi yX3_mileOf.cls yX3_mileOf.name 33 (pX3_mileOf ev) := xMethOK.of mi_33 (by decide +kernel) (okpX3_mileOf ev)
def pX3_roughOf (ev : xEv) : List (Nat × xEn) := [(0, .inl (xop (xf_iload 1 1))), (1, .inl (xop (xf_push (.int 0) 1))), (2, .inl (xop (xf_aload 0 1))), (3, .inl (xop (xf_getf 3 4))), (6, .inl (xop (xf_push (.int 1) 1))), (7, .inl (xop (xf_bin (fun x y => x - y)))), (8, .inr (.inl (3, 183, 3, 11))), (11, .inl (xop (xf_if_eq 23))), (14, .inl (xop (xf_aload 0 1))), (15, .inl (xop (xf_getf 3 6))), (18, .inl (xop (xf_iload 1 1))), (19, .inl (xop (xf_ald (ev.1 0)))), (20, .inl (xop (xf_goto 24))), (23, .inl (xop (xf_push (.int (-1)) 1))), (24, .inr (.inr 1))]
set_option maxRecDepth 20000 in
theorem okpX3_roughOf (ev : xEv) : ∀ q ∈ pX3_roughOf ev, xEnOK ev xmi yX3_roughOf.cls yX3_roughOf.name cX3_roughOf 2 (some .int) q :=
  List.forall_mem_cons.mpr ⟨(xOK_pure (xs_iload_n (k := 1) rfl (by decide +kernel))),
  List.forall_mem_cons.mpr ⟨(xOK_pure (xs_iconst (n := 0) (by decide +kernel) (by decide))),
  List.forall_mem_cons.mpr ⟨(xOK_pure (xs_aload_n (k := 0) rfl (by decide +kernel))),
  List.forall_mem_cons.mpr ⟨(xOK_pure (xs_getf xcl_3 (by decide) (by decide +kernel) xw_516)),
  List.forall_mem_cons.mpr ⟨(xOK_pure (xs_iconst (n := 1) (by decide +kernel) (by decide))),
  List.forall_mem_cons.mpr ⟨(xOK_pure (xs_isub (by decide +kernel))),
  List.forall_mem_cons.mpr ⟨(xcm mi_183 ⟨⟨(by decide +kernel), (by decide +kernel), (by decide +kernel)⟩, (by decide), xw_479, xw_117, Or.inr (Or.inr (Or.inr (Or.inl ⟨rfl, _, _, (by decide +kernel), xwn_1247, xw_478⟩)))⟩),
  List.forall_mem_cons.mpr ⟨(xOK_pure (xs_if_eq (by decide +kernel) (by decide))),
  List.forall_mem_cons.mpr ⟨(xOK_pure (xs_aload_n (k := 0) rfl (by decide +kernel))),
  List.forall_mem_cons.mpr ⟨(xOK_pure (xs_getf xcl_3 (by decide) (by decide +kernel) xw_519)),
  List.forall_mem_cons.mpr ⟨(xOK_pure (xs_iload_n (k := 1) rfl (by decide +kernel))),
  List.forall_mem_cons.mpr ⟨(xOK_pure (xs_iald (by decide +kernel))),
  List.forall_mem_cons.mpr ⟨(xOK_pure (xs_goto (by decide +kernel) (by decide))),
  List.forall_mem_cons.mpr ⟨(xOK_pure (xs_iconst (n := (-1)) (by decide +kernel) (by decide))),
  List.forall_mem_cons.mpr ⟨(Or.inr (Or.inl ⟨rfl, (by decide +kernel), rfl⟩)),
  (fun _ h => absurd h List.not_mem_nil)⟩⟩⟩⟩⟩⟩⟩⟩⟩⟩⟩⟩⟩⟩⟩
theorem omX3_roughOf (ev : xEv) : xMethOK ev xmi yX3_roughOf.cls yX3_roughOf.name 34 (pX3_roughOf ev) := xMethOK.of mi_34 (by decide +kernel) (okpX3_roughOf ev)
def pX3_touches (ev : xEv) : List (Nat × xEn) := [(0, .inl (xop (xf_iload 1 1))), (1, .inl (xop (xf_aload 0 1))), (2, .inl (xop (xf_getf 3 0))), (5, .inl (xop (xf_icmp_eq 16))), (8, .inl (xop (xf_iload 1 1))), (9, .inl (xop (xf_aload 0 1))), (10, .inl (xop (xf_getf 3 1))), (13, .inl (xop (xf_icmp_ne 20))), (16, .inl (xop (xf_push (.int 1) 1))), (17, .inl (xop (xf_goto 21))), (20, .inl (xop (xf_push (.int 0) 1))), (21, .inr (.inr 4))]
set_option maxRecDepth 20000 in
theorem okpX3_touches (ev : xEv) : ∀ q ∈ pX3_touches ev, xEnOK ev xmi yX3_touches.cls yX3_touches.name cX3_touches 2 (some .boolean) q :=
  List.forall_mem_cons.mpr ⟨(xOK_pure (xs_iload_n (k := 1) rfl (by decide +kernel))),
  List.forall_mem_cons.mpr ⟨(xOK_pure (xs_aload_n (k := 0) rfl (by decide +kernel))),
  List.forall_mem_cons.mpr ⟨(xOK_pure (xs_getf xcl_3 (by decide) (by decide +kernel) xw_505)),
  List.forall_mem_cons.mpr ⟨(xOK_pure (xs_icmp_eq (by decide +kernel) (by decide))),
  List.forall_mem_cons.mpr ⟨(xOK_pure (xs_iload_n (k := 1) rfl (by decide +kernel))),
  List.forall_mem_cons.mpr ⟨(xOK_pure (xs_aload_n (k := 0) rfl (by decide +kernel))),
  List.forall_mem_cons.mpr ⟨(xOK_pure (xs_getf xcl_3 (by decide) (by decide +kernel) xw_509)),
  List.forall_mem_cons.mpr ⟨(xOK_pure (xs_icmp_ne (by decide +kernel) (by decide))),
  List.forall_mem_cons.mpr ⟨(xOK_pure (xs_iconst (n := 1) (by decide +kernel) (by decide))),
  List.forall_mem_cons.mpr ⟨(xOK_pure (xs_goto (by decide +kernel) (by decide))),
  List.forall_mem_cons.mpr ⟨(xOK_pure (xs_iconst (n := 0) (by decide +kernel) (by decide))),
  List.forall_mem_cons.mpr ⟨(Or.inr (Or.inr (Or.inr (Or.inr ⟨rfl, (by decide +kernel), rfl⟩)))),
  (fun _ h => absurd h List.not_mem_nil)⟩⟩⟩⟩⟩⟩⟩⟩⟩⟩⟩⟩
theorem omX3_touches (ev : xEv) : xMethOK ev xmi yX3_touches.cls yX3_touches.name 35 (pX3_touches ev) := xMethOK.of mi_35 (by decide +kernel) (okpX3_touches ev)
def pX3_goal (ev : xEv) : List (Nat × xEn) := [(0, .inl (xop (xf_iload 1 1))), (1, .inl (xop (xf_if_eq 11))), (4, .inl (xop (xf_aload 0 1))), (5, .inl (xop (xf_getf 3 1))), (8, .inl (xop (xf_goto 15))), (11, .inl (xop (xf_aload 0 1))), (12, .inl (xop (xf_getf 3 0))), (15, .inr (.inr 1))]
set_option maxRecDepth 20000 in
theorem okpX3_goal (ev : xEv) : ∀ q ∈ pX3_goal ev, xEnOK ev xmi yX3_goal.cls yX3_goal.name cX3_goal 2 (some .int) q :=
  List.forall_mem_cons.mpr ⟨(xOK_pure (xs_iload_n (k := 1) rfl (by decide +kernel))),
  List.forall_mem_cons.mpr ⟨(xOK_pure (xs_if_eq (by decide +kernel) (by decide))),
  List.forall_mem_cons.mpr ⟨(xOK_pure (xs_aload_n (k := 0) rfl (by decide +kernel))),
  List.forall_mem_cons.mpr ⟨(xOK_pure (xs_getf xcl_3 (by decide) (by decide +kernel) xw_509)),
  List.forall_mem_cons.mpr ⟨(xOK_pure (xs_goto (by decide +kernel) (by decide))),
  List.forall_mem_cons.mpr ⟨(xOK_pure (xs_aload_n (k := 0) rfl (by decide +kernel))),
  List.forall_mem_cons.mpr ⟨(xOK_pure (xs_getf xcl_3 (by decide) (by decide +kernel) xw_505)),
  List.forall_mem_cons.mpr ⟨(Or.inr (Or.inl ⟨rfl, (by decide +kernel), rfl⟩)),
  (fun _ h => absurd h List.not_mem_nil)⟩⟩⟩⟩⟩⟩⟩⟩
theorem omX3_goal (ev : xEv) : xMethOK ev xmi yX3_goal.cls yX3_goal.name 36 (pX3_goal ev) := xMethOK.of mi_36 (by decide +kernel) (okpX3_goal ev)
def pX3_nearer (ev : xEv) : List (Nat × xEn) := [(0, .inl (xop (xf_iload 1 1))), (1, .inl (xop (xf_aload 0 1))), (2, .inl (xop (xf_getf 3 2))), (5, .inl (xop (xf_iload 1 1))), (6, .inl (xop (xf_bin (fun x y => x - y)))), (7, .inl (xop (xf_icmp_gt 17))), (10, .inl (xop (xf_aload 0 1))), (11, .inl (xop (xf_getf 3 0))), (14, .inl (xop (xf_goto 21))), (17, .inl (xop (xf_aload 0 1))), (18, .inl (xop (xf_getf 3 1))), (21, .inr (.inr 1))]
set_option maxRecDepth 20000 in
theorem okpX3_nearer (ev : xEv) : ∀ q ∈ pX3_nearer ev, xEnOK ev xmi yX3_nearer.cls yX3_nearer.name cX3_nearer 2 (some .int) q :=
  List.forall_mem_cons.mpr ⟨(xOK_pure (xs_iload_n (k := 1) rfl (by decide +kernel))),
  List.forall_mem_cons.mpr ⟨(xOK_pure (xs_aload_n (k := 0) rfl (by decide +kernel))),
  List.forall_mem_cons.mpr ⟨(xOK_pure (xs_getf xcl_3 (by decide) (by decide +kernel) xw_510)),
  List.forall_mem_cons.mpr ⟨(xOK_pure (xs_iload_n (k := 1) rfl (by decide +kernel))),
  List.forall_mem_cons.mpr ⟨(xOK_pure (xs_isub (by decide +kernel))),
  List.forall_mem_cons.mpr ⟨(xOK_pure (xs_icmp_gt (by decide +kernel) (by decide))),
  List.forall_mem_cons.mpr ⟨(xOK_pure (xs_aload_n (k := 0) rfl (by decide +kernel))),
  List.forall_mem_cons.mpr ⟨(xOK_pure (xs_getf xcl_3 (by decide) (by decide +kernel) xw_505)),
  List.forall_mem_cons.mpr ⟨(xOK_pure (xs_goto (by decide +kernel) (by decide))),
  List.forall_mem_cons.mpr ⟨(xOK_pure (xs_aload_n (k := 0) rfl (by decide +kernel))),
  List.forall_mem_cons.mpr ⟨(xOK_pure (xs_getf xcl_3 (by decide) (by decide +kernel) xw_509)),
  List.forall_mem_cons.mpr ⟨(Or.inr (Or.inl ⟨rfl, (by decide +kernel), rfl⟩)),
  (fun _ h => absurd h List.not_mem_nil)⟩⟩⟩⟩⟩⟩⟩⟩⟩⟩⟩⟩
theorem omX3_nearer (ev : xEv) : xMethOK ev xmi yX3_nearer.cls yX3_nearer.name 37 (pX3_nearer ev) := xMethOK.of mi_37 (by decide +kernel) (okpX3_nearer ev)
def pX3_toGo (ev : xEv) : List (Nat × xEn) := [(0, .inl (xop (xf_iload 2 1))), (1, .inl (xop (xf_if_eq 13))), (4, .inl (xop (xf_aload 0 1))), (5, .inl (xop (xf_getf 3 2))), (8, .inl (xop (xf_iload 1 1))), (9, .inl (xop (xf_bin (fun x y => x - y)))), (10, .inl (xop (xf_goto 14))), (13, .inl (xop (xf_iload 1 1))), (14, .inr (.inr 1))]
set_option maxRecDepth 20000 in
theorem okpX3_toGo (ev : xEv) : ∀ q ∈ pX3_toGo ev, xEnOK ev xmi yX3_toGo.cls yX3_toGo.name cX3_toGo 3 (some .int) q :=
  List.forall_mem_cons.mpr ⟨(xOK_pure (xs_iload_n (k := 2) rfl (by decide +kernel))),
  List.forall_mem_cons.mpr ⟨(xOK_pure (xs_if_eq (by decide +kernel) (by decide))),
  List.forall_mem_cons.mpr ⟨(xOK_pure (xs_aload_n (k := 0) rfl (by decide +kernel))),
  List.forall_mem_cons.mpr ⟨(xOK_pure (xs_getf xcl_3 (by decide) (by decide +kernel) xw_510)),
  List.forall_mem_cons.mpr ⟨(xOK_pure (xs_iload_n (k := 1) rfl (by decide +kernel))),
  List.forall_mem_cons.mpr ⟨(xOK_pure (xs_isub (by decide +kernel))),
  List.forall_mem_cons.mpr ⟨(xOK_pure (xs_goto (by decide +kernel) (by decide))),
  List.forall_mem_cons.mpr ⟨(xOK_pure (xs_iload_n (k := 1) rfl (by decide +kernel))),
  List.forall_mem_cons.mpr ⟨(Or.inr (Or.inl ⟨rfl, (by decide +kernel), rfl⟩)),
  (fun _ h => absurd h List.not_mem_nil)⟩⟩⟩⟩⟩⟩⟩⟩⟩
theorem omX3_toGo (ev : xEv) : xMethOK ev xmi yX3_toGo.cls yX3_toGo.name 38 (pX3_toGo ev) := xMethOK.of mi_38 (by decide +kernel) (okpX3_toGo ev)
def pX3_cellCount (ev : xEv) : List (Nat × xEn) := [(0, .inl (xop (xf_aload 0 1))), (1, .inl (xop (xf_getf 3 2))), (4, .inl (xop (xf_push (.int 10) 2))), (6, .inl (xop (xf_div (fun x y => x / y)))), (7, .inl (xop (xf_push (.int 1) 1))), (8, .inl (xop (xf_bin (fun x y => x + y)))), (9, .inr (.inr 1))]
set_option maxRecDepth 20000 in
theorem okpX3_cellCount (ev : xEv) : ∀ q ∈ pX3_cellCount ev, xEnOK ev xmi yX3_cellCount.cls yX3_cellCount.name cX3_cellCount 1 (some .int) q :=
  List.forall_mem_cons.mpr ⟨(xOK_pure (xs_aload_n (k := 0) rfl (by decide +kernel))),
  List.forall_mem_cons.mpr ⟨(xOK_pure (xs_getf xcl_3 (by decide) (by decide +kernel) xw_510)),
  List.forall_mem_cons.mpr ⟨(xOK_pure (xs_bipush (n := 10) (by decide +kernel) (by decide))),
  List.forall_mem_cons.mpr ⟨(xOK_pure (xs_idiv (by decide +kernel))),
  List.forall_mem_cons.mpr ⟨(xOK_pure (xs_iconst (n := 1) (by decide +kernel) (by decide))),
  List.forall_mem_cons.mpr ⟨(xOK_pure (xs_iadd (by decide +kernel))),
  List.forall_mem_cons.mpr ⟨(Or.inr (Or.inl ⟨rfl, (by decide +kernel), rfl⟩)),
  (fun _ h => absurd h List.not_mem_nil)⟩⟩⟩⟩⟩⟩⟩
theorem omX3_cellCount (ev : xEv) : xMethOK ev xmi yX3_cellCount.cls yX3_cellCount.name 39 (pX3_cellCount ev) := xMethOK.of mi_39 (by decide +kernel) (okpX3_cellCount ev)
def pX3_cellAt (ev : xEv) : List (Nat × xEn) := [(0, .inl (xop (xf_iload 1 1))), (1, .inl (xop (xf_push (.int 10) 2))), (3, .inl (xop (xf_div (fun x y => x / y)))), (4, .inr (.inr 1))]
set_option maxRecDepth 20000 in
theorem okpX3_cellAt (ev : xEv) : ∀ q ∈ pX3_cellAt ev, xEnOK ev xmi yX3_cellAt.cls yX3_cellAt.name cX3_cellAt 2 (some .int) q :=
  List.forall_mem_cons.mpr ⟨(xOK_pure (xs_iload_n (k := 1) rfl (by decide +kernel))),
  List.forall_mem_cons.mpr ⟨(xOK_pure (xs_bipush (n := 10) (by decide +kernel) (by decide))),
  List.forall_mem_cons.mpr ⟨(xOK_pure (xs_idiv (by decide +kernel))),
  List.forall_mem_cons.mpr ⟨(Or.inr (Or.inl ⟨rfl, (by decide +kernel), rfl⟩)),
  (fun _ h => absurd h List.not_mem_nil)⟩⟩⟩⟩
theorem omX3_cellAt (ev : xEv) : xMethOK ev xmi yX3_cellAt.cls yX3_cellAt.name 40 (pX3_cellAt ev) := xMethOK.of mi_40 (by decide +kernel) (okpX3_cellAt ev)
def pX2_init_0 (ev : xEv) : List (Nat × xEn) := [(0, .inl (xop (xf_aload 0 1))), (1, .inl (xop xf_objInit)), (4, .inl (xop (xf_aload 0 1))), (5, .inl (xop (xf_push (.int 8) 2))), (7, .inl (xo_newa (ev.1 0) (.inl (fun _ => 0)))), (9, .inl (xo_putf 2 0 (.array .int))), (12, .inl (xop (xf_aload 0 1))), (13, .inl (xop (xf_push (.int 8) 2))), (15, .inl (xo_newa (ev.1 2) (.inl (fun _ => 0)))), (17, .inl (xo_putf 2 1 (.array .boolean))), (20, .inl (xop (xf_aload 0 1))), (21, .inl (xop (xf_push (.int 8) 2))), (23, .inl (xo_newa (ev.1 0) (.inl (fun _ => 0)))), (25, .inl (xo_putf 2 2 (.array .int))), (28, .inl (xop (xf_aload 0 1))), (29, .inl (xop (xf_push (.int 12) 2))), (31, .inl (xo_anew (ev.1 4))), (34, .inl (xo_putf 2 4 (.array (.object "AirMail$Leg")))), (37, .inl (xop (xf_aload 0 1))), (38, .inl (xop (xf_push (.int 64) 2)))]
set_option maxRecDepth 20000 in
theorem okpX2_init_0 (ev : xEv) : ∀ q ∈ pX2_init_0 ev, xEnOK ev xmi yX2_init.cls yX2_init.name cX2_init 2 none q :=
  List.forall_mem_cons.mpr ⟨(xOK_pure (xs_aload_n (k := 0) rfl (by decide +kernel))),
  List.forall_mem_cons.mpr ⟨(xOK_pure (xs_objInit (by decide +kernel) xw_156 xw_149 xw_150)),
  List.forall_mem_cons.mpr ⟨(xOK_pure (xs_aload_n (k := 0) rfl (by decide +kernel))),
  List.forall_mem_cons.mpr ⟨(xOK_pure (xs_bipush (n := 8) (by decide +kernel) (by decide))),
  List.forall_mem_cons.mpr ⟨(xs_newa (t := 0) (ty := .int) rfl rfl (fun _ _ => rfl) (by decide) (by decide +kernel) xw_208),
  List.forall_mem_cons.mpr ⟨(xs_putF (k := 0) xcl_2 (by decide) rfl rfl rfl (by decide +kernel) xw_160),
  List.forall_mem_cons.mpr ⟨(xOK_pure (xs_aload_n (k := 0) rfl (by decide +kernel))),
  List.forall_mem_cons.mpr ⟨(xOK_pure (xs_bipush (n := 8) (by decide +kernel) (by decide))),
  List.forall_mem_cons.mpr ⟨(xs_newa (t := 2) (ty := .boolean) rfl rfl (fun _ _ => rfl) (by decide) (by decide +kernel) xw_209),
  List.forall_mem_cons.mpr ⟨(xs_putF (k := 1) xcl_2 (by decide) rfl rfl rfl (by decide +kernel) xw_162),
  List.forall_mem_cons.mpr ⟨(xOK_pure (xs_aload_n (k := 0) rfl (by decide +kernel))),
  List.forall_mem_cons.mpr ⟨(xOK_pure (xs_bipush (n := 8) (by decide +kernel) (by decide))),
  List.forall_mem_cons.mpr ⟨(xs_newa (t := 0) (ty := .int) rfl rfl (fun _ _ => rfl) (by decide) (by decide +kernel) xw_208),
  List.forall_mem_cons.mpr ⟨(xs_putF (k := 2) xcl_2 (by decide) rfl rfl rfl (by decide +kernel) xw_165),
  List.forall_mem_cons.mpr ⟨(xOK_pure (xs_aload_n (k := 0) rfl (by decide +kernel))),
  List.forall_mem_cons.mpr ⟨(xOK_pure (xs_bipush (n := 12) (by decide +kernel) (by decide))),
  List.forall_mem_cons.mpr ⟨(xs_anew (t := 4) rfl (by decide +kernel) xw_157 xwo_158),
  List.forall_mem_cons.mpr ⟨(xs_putF (k := 4) xcl_2 (by decide) rfl rfl rfl (by decide +kernel) xw_171),
  List.forall_mem_cons.mpr ⟨(xOK_pure (xs_aload_n (k := 0) rfl (by decide +kernel))),
  List.forall_mem_cons.mpr ⟨(xOK_pure (xs_bipush (n := 64) (by decide +kernel) (by decide))),
  (fun _ h => absurd h List.not_mem_nil)⟩⟩⟩⟩⟩⟩⟩⟩⟩⟩⟩⟩⟩⟩⟩⟩⟩⟩⟩⟩
def pX2_init_1 (ev : xEv) : List (Nat × xEn) := [(40, .inl (xo_newa (ev.1 0) (.inl (fun _ => 0)))), (42, .inl (xo_putf 2 7 (.array .int))), (45, .inl (xop (xf_aload 0 1))), (46, .inl (xop (xf_push (.int 60) 2))), (48, .inl (xo_newa (ev.1 0) (.inl (fun _ => 0)))), (50, .inl (xo_putf 2 8 (.array .int))), (53, .inl (xop (xf_aload 0 1))), (54, .inl (xop (xf_push (.int 60) 2))), (56, .inl (xo_newa (ev.1 0) (.inl (fun _ => 0)))), (58, .inl (xo_putf 2 9 (.array .int))), (61, .inl (xop (xf_aload 0 1))), (62, .inl (xop (xf_push (.int 60) 2))), (64, .inl (xo_newa (ev.1 0) (.inl (fun _ => 0)))), (66, .inl (xo_putf 2 10 (.array .int))), (69, .inl (xop (xf_aload 0 1))), (70, .inl (xop (xf_push (.int 60) 2))), (72, .inl (xo_newa (ev.1 0) (.inl (fun _ => 0)))), (74, .inl (xo_putf 2 11 (.array .int))), (77, .inl (xop (xf_push (.int 0) 1))), (78, .inl (xop (xf_istore 1 1)))]
set_option maxRecDepth 20000 in
theorem okpX2_init_1 (ev : xEv) : ∀ q ∈ pX2_init_1 ev, xEnOK ev xmi yX2_init.cls yX2_init.name cX2_init 2 none q :=
  List.forall_mem_cons.mpr ⟨(xs_newa (t := 0) (ty := .int) rfl rfl (fun _ _ => rfl) (by decide) (by decide +kernel) xw_208),
  List.forall_mem_cons.mpr ⟨(xs_putF (k := 7) xcl_2 (by decide) rfl rfl rfl (by decide +kernel) xw_178),
  List.forall_mem_cons.mpr ⟨(xOK_pure (xs_aload_n (k := 0) rfl (by decide +kernel))),
  List.forall_mem_cons.mpr ⟨(xOK_pure (xs_bipush (n := 60) (by decide +kernel) (by decide))),
  List.forall_mem_cons.mpr ⟨(xs_newa (t := 0) (ty := .int) rfl rfl (fun _ _ => rfl) (by decide) (by decide +kernel) xw_208),
  List.forall_mem_cons.mpr ⟨(xs_putF (k := 8) xcl_2 (by decide) rfl rfl rfl (by decide +kernel) xw_179),
  List.forall_mem_cons.mpr ⟨(xOK_pure (xs_aload_n (k := 0) rfl (by decide +kernel))),
  List.forall_mem_cons.mpr ⟨(xOK_pure (xs_bipush (n := 60) (by decide +kernel) (by decide))),
  List.forall_mem_cons.mpr ⟨(xs_newa (t := 0) (ty := .int) rfl rfl (fun _ _ => rfl) (by decide) (by decide +kernel) xw_208),
  List.forall_mem_cons.mpr ⟨(xs_putF (k := 9) xcl_2 (by decide) rfl rfl rfl (by decide +kernel) xw_180),
  List.forall_mem_cons.mpr ⟨(xOK_pure (xs_aload_n (k := 0) rfl (by decide +kernel))),
  List.forall_mem_cons.mpr ⟨(xOK_pure (xs_bipush (n := 60) (by decide +kernel) (by decide))),
  List.forall_mem_cons.mpr ⟨(xs_newa (t := 0) (ty := .int) rfl rfl (fun _ _ => rfl) (by decide) (by decide +kernel) xw_208),
  List.forall_mem_cons.mpr ⟨(xs_putF (k := 10) xcl_2 (by decide) rfl rfl rfl (by decide +kernel) xw_181),
  List.forall_mem_cons.mpr ⟨(xOK_pure (xs_aload_n (k := 0) rfl (by decide +kernel))),
  List.forall_mem_cons.mpr ⟨(xOK_pure (xs_bipush (n := 60) (by decide +kernel) (by decide))),
  List.forall_mem_cons.mpr ⟨(xs_newa (t := 0) (ty := .int) rfl rfl (fun _ _ => rfl) (by decide) (by decide +kernel) xw_208),
  List.forall_mem_cons.mpr ⟨(xs_putF (k := 11) xcl_2 (by decide) rfl rfl rfl (by decide +kernel) xw_182),
  List.forall_mem_cons.mpr ⟨(xOK_pure (xs_iconst (n := 0) (by decide +kernel) (by decide))),
  List.forall_mem_cons.mpr ⟨(xOK_pure (xs_istore_n (k := 1) rfl (by decide +kernel) (by decide))),
  (fun _ h => absurd h List.not_mem_nil)⟩⟩⟩⟩⟩⟩⟩⟩⟩⟩⟩⟩⟩⟩⟩⟩⟩⟩⟩⟩
def pX2_init_2 (ev : xEv) : List (Nat × xEn) := [(79, .inl (xop (xf_iload 1 1))), (80, .inl (xop (xf_aload 0 1))), (81, .inl (xop (xf_getf 2 7))), (84, .inl (xop (xf_alen (ev.1 0)))), (85, .inl (xop (xf_icmp_ge 117))), (88, .inl (xop (xf_aload 0 1))), (89, .inl (xop (xf_getf 2 7))), (92, .inl (xop (xf_iload 1 1))), (93, .inl (xop (xf_iload 1 1))), (94, .inl (xop (xf_push (.int 8) 2))), (96, .inl (xop (xf_div (fun x y => x / y)))), (97, .inl (xop (xf_iload 1 1))), (98, .inl (xop (xf_push (.int 8) 2))), (100, .inl (xop (xf_div (fun x y => x - x / y * y)))), (101, .inl (xop (xf_icmp_ne 108))), (104, .inl (xop (xf_push (.int 0) 1))), (105, .inl (xop (xf_goto 110))), (108, .inl (xop (xf_push (.int 1000000) 2))), (110, .inl (xo_ast (ev.1 0) (fun x => x))), (111, .inl (xop (xf_iinc 1 1)))]
set_option maxRecDepth 20000 in
theorem okpX2_init_2 (ev : xEv) : ∀ q ∈ pX2_init_2 ev, xEnOK ev xmi yX2_init.cls yX2_init.name cX2_init 2 none q :=
  List.forall_mem_cons.mpr ⟨(xOK_pure (xs_iload_n (k := 1) rfl (by decide +kernel))),
  List.forall_mem_cons.mpr ⟨(xOK_pure (xs_aload_n (k := 0) rfl (by decide +kernel))),
  List.forall_mem_cons.mpr ⟨(xOK_pure (xs_getf xcl_2 (by decide) (by decide +kernel) xw_178)),
  List.forall_mem_cons.mpr ⟨(xOK_pure (xs_alen (t := 0) rfl (by decide +kernel))),
  List.forall_mem_cons.mpr ⟨(xOK_pure (xs_icmp_ge (by decide +kernel) (by decide))),
  List.forall_mem_cons.mpr ⟨(xOK_pure (xs_aload_n (k := 0) rfl (by decide +kernel))),
  List.forall_mem_cons.mpr ⟨(xOK_pure (xs_getf xcl_2 (by decide) (by decide +kernel) xw_178)),
  List.forall_mem_cons.mpr ⟨(xOK_pure (xs_iload_n (k := 1) rfl (by decide +kernel))),
  List.forall_mem_cons.mpr ⟨(xOK_pure (xs_iload_n (k := 1) rfl (by decide +kernel))),
  List.forall_mem_cons.mpr ⟨(xOK_pure (xs_bipush (n := 8) (by decide +kernel) (by decide))),
  List.forall_mem_cons.mpr ⟨(xOK_pure (xs_idiv (by decide +kernel))),
  List.forall_mem_cons.mpr ⟨(xOK_pure (xs_iload_n (k := 1) rfl (by decide +kernel))),
  List.forall_mem_cons.mpr ⟨(xOK_pure (xs_bipush (n := 8) (by decide +kernel) (by decide))),
  List.forall_mem_cons.mpr ⟨(xOK_pure (xs_irem (by decide +kernel))),
  List.forall_mem_cons.mpr ⟨(xOK_pure (xs_icmp_ne (by decide +kernel) (by decide))),
  List.forall_mem_cons.mpr ⟨(xOK_pure (xs_iconst (n := 0) (by decide +kernel) (by decide))),
  List.forall_mem_cons.mpr ⟨(xOK_pure (xs_goto (by decide +kernel) (by decide))),
  List.forall_mem_cons.mpr ⟨(xOK_pure (xs_ldc (by decide +kernel) xw_159)),
  List.forall_mem_cons.mpr ⟨(xs_iast (by decide +kernel)),
  List.forall_mem_cons.mpr ⟨(xOK_pure (xs_iinc (n := 1) (by decide +kernel) (by decide) (by decide))),
  (fun _ h => absurd h List.not_mem_nil)⟩⟩⟩⟩⟩⟩⟩⟩⟩⟩⟩⟩⟩⟩⟩⟩⟩⟩⟩⟩
def pX2_init_3 (ev : xEv) : List (Nat × xEn) := [(114, .inl (xop (xf_goto 79))), (117, .inr (.inr 0))]
set_option maxRecDepth 20000 in
theorem okpX2_init_3 (ev : xEv) : ∀ q ∈ pX2_init_3 ev, xEnOK ev xmi yX2_init.cls yX2_init.name cX2_init 2 none q :=
  List.forall_mem_cons.mpr ⟨(xOK_pure (xs_goto (by decide +kernel) (by decide))),
  List.forall_mem_cons.mpr ⟨(Or.inl ⟨rfl, (by decide +kernel), rfl⟩),
  (fun _ h => absurd h List.not_mem_nil)⟩⟩
def pX2_init (ev : xEv) : List (Nat × xEn) := pX2_init_0 ev ++ (pX2_init_1 ev ++ (pX2_init_2 ev ++ (pX2_init_3 ev)))
theorem okpX2_init (ev : xEv) : ∀ q ∈ pX2_init ev, xEnOK ev xmi yX2_init.cls yX2_init.name cX2_init 2 none q := List.forall_mem_append.mpr ⟨okpX2_init_0 ev, List.forall_mem_append.mpr ⟨okpX2_init_1 ev, List.forall_mem_append.mpr ⟨okpX2_init_2 ev, okpX2_init_3 ev⟩⟩⟩
theorem omX2_init (ev : xEv) : xMethOK ev xmi yX2_init.cls yX2_init.name 17 (pX2_init ev) := xMethOK.of mi_17 (by decide +kernel) (okpX2_init ev)
def pX2_addField_0 (ev : xEv) : List (Nat × xEn) := [(0, .inl (xop (xf_aload 0 1))), (1, .inl (xop (xf_getf 2 0))), (4, .inl (xop (xf_aload 0 1))), (5, .inl (xop (xf_getf 2 3))), (8, .inl (xop (xf_iload 1 1))), (9, .inl (xo_ast (ev.1 0) (fun x => x))), (10, .inl (xop (xf_aload 0 1))), (11, .inl (xop (xf_getf 2 1))), (14, .inl (xop (xf_aload 0 1))), (15, .inl (xop (xf_getf 2 3))), (18, .inl (xop (xf_iload 2 1))), (19, .inl (xo_ast (ev.1 2) (vp_nar .boolean))), (20, .inl (xop (xf_aload 0 1))), (21, .inl (xop (xf_getf 2 2))), (24, .inl (xop (xf_aload 0 1))), (25, .inl (xop (xf_getf 2 3))), (28, .inl (xop (xf_iload 3 1))), (29, .inl (xo_ast (ev.1 0) (fun x => x))), (30, .inl (xop (xf_aload 0 1))), (31, .inl (xop xf_dup))]
set_option maxRecDepth 20000 in
theorem okpX2_addField_0 (ev : xEv) : ∀ q ∈ pX2_addField_0 ev, xEnOK ev xmi yX2_addField.cls yX2_addField.name cX2_addField 4 (some .int) q :=
  List.forall_mem_cons.mpr ⟨(xOK_pure (xs_aload_n (k := 0) rfl (by decide +kernel))),
  List.forall_mem_cons.mpr ⟨(xOK_pure (xs_getf xcl_2 (by decide) (by decide +kernel) xw_160)),
  List.forall_mem_cons.mpr ⟨(xOK_pure (xs_aload_n (k := 0) rfl (by decide +kernel))),
  List.forall_mem_cons.mpr ⟨(xOK_pure (xs_getf xcl_2 (by decide) (by decide +kernel) xw_168)),
  List.forall_mem_cons.mpr ⟨(xOK_pure (xs_iload_n (k := 1) rfl (by decide +kernel))),
  List.forall_mem_cons.mpr ⟨(xs_iast (by decide +kernel)),
  List.forall_mem_cons.mpr ⟨(xOK_pure (xs_aload_n (k := 0) rfl (by decide +kernel))),
  List.forall_mem_cons.mpr ⟨(xOK_pure (xs_getf xcl_2 (by decide) (by decide +kernel) xw_162)),
  List.forall_mem_cons.mpr ⟨(xOK_pure (xs_aload_n (k := 0) rfl (by decide +kernel))),
  List.forall_mem_cons.mpr ⟨(xOK_pure (xs_getf xcl_2 (by decide) (by decide +kernel) xw_168)),
  List.forall_mem_cons.mpr ⟨(xOK_pure (xs_iload_n (k := 2) rfl (by decide +kernel))),
  List.forall_mem_cons.mpr ⟨(xs_zast (by decide +kernel)),
  List.forall_mem_cons.mpr ⟨(xOK_pure (xs_aload_n (k := 0) rfl (by decide +kernel))),
  List.forall_mem_cons.mpr ⟨(xOK_pure (xs_getf xcl_2 (by decide) (by decide +kernel) xw_165)),
  List.forall_mem_cons.mpr ⟨(xOK_pure (xs_aload_n (k := 0) rfl (by decide +kernel))),
  List.forall_mem_cons.mpr ⟨(xOK_pure (xs_getf xcl_2 (by decide) (by decide +kernel) xw_168)),
  List.forall_mem_cons.mpr ⟨(xOK_pure (xs_iload_n (k := 3) rfl (by decide +kernel))),
  List.forall_mem_cons.mpr ⟨(xs_iast (by decide +kernel)),
  List.forall_mem_cons.mpr ⟨(xOK_pure (xs_aload_n (k := 0) rfl (by decide +kernel))),
  List.forall_mem_cons.mpr ⟨(xOK_pure (xs_dup (by decide +kernel))),
  (fun _ h => absurd h List.not_mem_nil)⟩⟩⟩⟩⟩⟩⟩⟩⟩⟩⟩⟩⟩⟩⟩⟩⟩⟩⟩⟩
def pX2_addField_1 (ev : xEv) : List (Nat × xEn) := [(32, .inl (xop (xf_getf 2 3))), (35, .inl (xop xf_dupx1)), (36, .inl (xop (xf_push (.int 1) 1))), (37, .inl (xop (xf_bin (fun x y => x + y)))), (38, .inl (xo_putf 2 3 .int)), (41, .inr (.inr 1))]
set_option maxRecDepth 20000 in
theorem okpX2_addField_1 (ev : xEv) : ∀ q ∈ pX2_addField_1 ev, xEnOK ev xmi yX2_addField.cls yX2_addField.name cX2_addField 4 (some .int) q :=
  List.forall_mem_cons.mpr ⟨(xOK_pure (xs_getf xcl_2 (by decide) (by decide +kernel) xw_168)),
  List.forall_mem_cons.mpr ⟨(xOK_pure (xs_dupx1 (by decide +kernel))),
  List.forall_mem_cons.mpr ⟨(xOK_pure (xs_iconst (n := 1) (by decide +kernel) (by decide))),
  List.forall_mem_cons.mpr ⟨(xOK_pure (xs_iadd (by decide +kernel))),
  List.forall_mem_cons.mpr ⟨(xs_putf (k := 3) xcl_2 (by decide) rfl (by decide +kernel) xw_168),
  List.forall_mem_cons.mpr ⟨(Or.inr (Or.inl ⟨rfl, (by decide +kernel), rfl⟩)),
  (fun _ h => absurd h List.not_mem_nil)⟩⟩⟩⟩⟩⟩
def pX2_addField (ev : xEv) : List (Nat × xEn) := pX2_addField_0 ev ++ (pX2_addField_1 ev)
theorem okpX2_addField (ev : xEv) : ∀ q ∈ pX2_addField ev, xEnOK ev xmi yX2_addField.cls yX2_addField.name cX2_addField 4 (some .int) q := List.forall_mem_append.mpr ⟨okpX2_addField_0 ev, okpX2_addField_1 ev⟩
theorem omX2_addField (ev : xEv) : xMethOK ev xmi yX2_addField.cls yX2_addField.name 18 (pX2_addField ev) := xMethOK.of mi_18 (by decide +kernel) (okpX2_addField ev)
def pX2_addLeg_0 (ev : xEv) : List (Nat × xEn) := [(0, .inl (xop (xf_aload 0 1))), (1, .inl (xop (xf_getf 2 4))), (4, .inl (xop (xf_aload 0 1))), (5, .inl (xop (xf_getf 2 5))), (8, .inl (xo_new 3 7 [.int 0, .int 0, .int 0, .int 0, .int 0, .null, .null])), (11, .inl (xop xf_dup)), (12, .inl (xop (xf_iload 1 1))), (13, .inl (xop (xf_iload 2 1))), (14, .inl (xop (xf_iload 3 1))), (15, .inl (xop (xf_iload 4 2))), (17, .inr (.inl (2, 29, 4, 3))), (20, .inl (xo_aast (ev.1 4) 3)), (21, .inl (xop (xf_push (.int 0) 1))), (22, .inl (xop (xf_istore 5 2))), (24, .inl (xop (xf_iload 5 2))), (26, .inl (xop (xf_push (.int 8) 2))), (28, .inl (xop (xf_icmp_ge 126))), (31, .inl (xop (xf_push (.int 0) 1))), (32, .inl (xop (xf_istore 6 2))), (34, .inl (xop (xf_iload 6 2)))]
set_option maxRecDepth 20000 in
theorem okpX2_addLeg_0 (ev : xEv) : ∀ q ∈ pX2_addLeg_0 ev, xEnOK ev xmi yX2_addLeg.cls yX2_addLeg.name cX2_addLeg 10 (some .int) q :=
  List.forall_mem_cons.mpr ⟨(xOK_pure (xs_aload_n (k := 0) rfl (by decide +kernel))),
  List.forall_mem_cons.mpr ⟨(xOK_pure (xs_getf xcl_2 (by decide) (by decide +kernel) xw_171)),
  List.forall_mem_cons.mpr ⟨(xOK_pure (xs_aload_n (k := 0) rfl (by decide +kernel))),
  List.forall_mem_cons.mpr ⟨(xOK_pure (xs_getf xcl_2 (by decide) (by decide +kernel) xw_174)),
  List.forall_mem_cons.mpr ⟨(xs_new xcl_3 (by decide +kernel) (by decide +kernel) xw_157 xw_500 xw_125),
  List.forall_mem_cons.mpr ⟨(xOK_pure (xs_dup (by decide +kernel))),
  List.forall_mem_cons.mpr ⟨(xOK_pure (xs_iload_n (k := 1) rfl (by decide +kernel))),
  List.forall_mem_cons.mpr ⟨(xOK_pure (xs_iload_n (k := 2) rfl (by decide +kernel))),
  List.forall_mem_cons.mpr ⟨(xOK_pure (xs_iload_n (k := 3) rfl (by decide +kernel))),
  List.forall_mem_cons.mpr ⟨(xOK_pure (xs_iload (by decide +kernel))),
  List.forall_mem_cons.mpr ⟨(xcm mi_29 ⟨⟨(by decide +kernel), (by decide +kernel), (by decide +kernel)⟩, (by decide), xw_503, xw_125, Or.inr (Or.inr (Or.inl ⟨rfl, _, (by decide +kernel), rfl, xw_501, xw_502, rfl⟩))⟩),
  List.forall_mem_cons.mpr ⟨(xs_aast (t := 4) (ci := 3) (r0 := (RX3, TX3, 7)) rfl rfl (by decide +kernel)),
  List.forall_mem_cons.mpr ⟨(xOK_pure (xs_iconst (n := 0) (by decide +kernel) (by decide))),
  List.forall_mem_cons.mpr ⟨(xOK_pure (xs_istore (by decide +kernel) (by decide))),
  List.forall_mem_cons.mpr ⟨(xOK_pure (xs_iload (by decide +kernel))),
  List.forall_mem_cons.mpr ⟨(xOK_pure (xs_bipush (n := 8) (by decide +kernel) (by decide))),
  List.forall_mem_cons.mpr ⟨(xOK_pure (xs_icmp_ge (by decide +kernel) (by decide))),
  List.forall_mem_cons.mpr ⟨(xOK_pure (xs_iconst (n := 0) (by decide +kernel) (by decide))),
  List.forall_mem_cons.mpr ⟨(xOK_pure (xs_istore (by decide +kernel) (by decide))),
  List.forall_mem_cons.mpr ⟨(xOK_pure (xs_iload (by decide +kernel))),
  (fun _ h => absurd h List.not_mem_nil)⟩⟩⟩⟩⟩⟩⟩⟩⟩⟩⟩⟩⟩⟩⟩⟩⟩⟩⟩⟩
def pX2_addLeg_1 (ev : xEv) : List (Nat × xEn) := [(36, .inl (xop (xf_push (.int 8) 2))), (38, .inl (xop (xf_icmp_ge 120))), (41, .inl (xop (xf_aload 0 1))), (42, .inl (xop (xf_iload 5 2))), (44, .inl (xop (xf_iload 1 1))), (45, .inr (.inl (0, 20, 2, 2))), (48, .inl (xop (xf_iload 3 1))), (49, .inl (xop (xf_bin (fun x y => x + y)))), (50, .inl (xop (xf_aload 0 1))), (51, .inl (xop (xf_iload 2 1))), (52, .inl (xop (xf_iload 6 2))), (54, .inr (.inl (0, 20, 2, 2))), (57, .inl (xop (xf_bin (fun x y => x + y)))), (58, .inl (xop (xf_istore 7 2))), (60, .inl (xop (xf_aload 0 1))), (61, .inl (xop (xf_iload 5 2))), (63, .inl (xop (xf_iload 2 1))), (64, .inr (.inl (0, 20, 2, 2))), (67, .inl (xop (xf_iload 3 1))), (68, .inl (xop (xf_bin (fun x y => x + y))))]
set_option maxRecDepth 20000 in
theorem okpX2_addLeg_1 (ev : xEv) : ∀ q ∈ pX2_addLeg_1 ev, xEnOK ev xmi yX2_addLeg.cls yX2_addLeg.name cX2_addLeg 10 (some .int) q :=
  List.forall_mem_cons.mpr ⟨(xOK_pure (xs_bipush (n := 8) (by decide +kernel) (by decide))),
  List.forall_mem_cons.mpr ⟨(xOK_pure (xs_icmp_ge (by decide +kernel) (by decide))),
  List.forall_mem_cons.mpr ⟨(xOK_pure (xs_aload_n (k := 0) rfl (by decide +kernel))),
  List.forall_mem_cons.mpr ⟨(xOK_pure (xs_iload (by decide +kernel))),
  List.forall_mem_cons.mpr ⟨(xOK_pure (xs_iload_n (k := 1) rfl (by decide +kernel))),
  List.forall_mem_cons.mpr ⟨(xcm mi_20 ⟨⟨(by decide +kernel), (by decide +kernel), (by decide +kernel)⟩, (by decide), xw_538, xw_118, Or.inl ⟨rfl, _, _, _, _, (by decide +kernel), xw_535, xw_536, xw_537, rfl⟩⟩),
  List.forall_mem_cons.mpr ⟨(xOK_pure (xs_iload_n (k := 3) rfl (by decide +kernel))),
  List.forall_mem_cons.mpr ⟨(xOK_pure (xs_iadd (by decide +kernel))),
  List.forall_mem_cons.mpr ⟨(xOK_pure (xs_aload_n (k := 0) rfl (by decide +kernel))),
  List.forall_mem_cons.mpr ⟨(xOK_pure (xs_iload_n (k := 2) rfl (by decide +kernel))),
  List.forall_mem_cons.mpr ⟨(xOK_pure (xs_iload (by decide +kernel))),
  List.forall_mem_cons.mpr ⟨(xcm mi_20 ⟨⟨(by decide +kernel), (by decide +kernel), (by decide +kernel)⟩, (by decide), xw_538, xw_118, Or.inl ⟨rfl, _, _, _, _, (by decide +kernel), xw_535, xw_536, xw_537, rfl⟩⟩),
  List.forall_mem_cons.mpr ⟨(xOK_pure (xs_iadd (by decide +kernel))),
  List.forall_mem_cons.mpr ⟨(xOK_pure (xs_istore (by decide +kernel) (by decide))),
  List.forall_mem_cons.mpr ⟨(xOK_pure (xs_aload_n (k := 0) rfl (by decide +kernel))),
  List.forall_mem_cons.mpr ⟨(xOK_pure (xs_iload (by decide +kernel))),
  List.forall_mem_cons.mpr ⟨(xOK_pure (xs_iload_n (k := 2) rfl (by decide +kernel))),
  List.forall_mem_cons.mpr ⟨(xcm mi_20 ⟨⟨(by decide +kernel), (by decide +kernel), (by decide +kernel)⟩, (by decide), xw_538, xw_118, Or.inl ⟨rfl, _, _, _, _, (by decide +kernel), xw_535, xw_536, xw_537, rfl⟩⟩),
  List.forall_mem_cons.mpr ⟨(xOK_pure (xs_iload_n (k := 3) rfl (by decide +kernel))),
  List.forall_mem_cons.mpr ⟨(xOK_pure (xs_iadd (by decide +kernel))),
  (fun _ h => absurd h List.not_mem_nil)⟩⟩⟩⟩⟩⟩⟩⟩⟩⟩⟩⟩⟩⟩⟩⟩⟩⟩⟩⟩
def pX2_addLeg_2 (ev : xEv) : List (Nat × xEn) := [(69, .inl (xop (xf_aload 0 1))), (70, .inl (xop (xf_iload 1 1))), (71, .inl (xop (xf_iload 6 2))), (73, .inr (.inl (0, 20, 2, 2))), (76, .inl (xop (xf_bin (fun x y => x + y)))), (77, .inl (xop (xf_istore 8 2))), (79, .inl (xop (xf_aload 0 1))), (80, .inl (xop (xf_iload 5 2))), (82, .inl (xop (xf_iload 6 2))), (84, .inr (.inl (0, 20, 2, 2))), (87, .inl (xop (xf_iload 7 2))), (89, .inl (xop (xf_iload 8 2))), (91, .inr (.inl (1, 303, 2, 99))), (94, .inr (.inl (1, 303, 2, 99))), (97, .inl (xop (xf_istore 9 2))), (99, .inl (xop (xf_aload 0 1))), (100, .inl (xop (xf_getf 2 7))), (103, .inl (xop (xf_iload 5 2))), (105, .inl (xop (xf_push (.int 8) 2))), (107, .inl (xop (xf_bin (fun x y => x * y))))]
set_option maxRecDepth 20000 in
theorem okpX2_addLeg_2 (ev : xEv) : ∀ q ∈ pX2_addLeg_2 ev, xEnOK ev xmi yX2_addLeg.cls yX2_addLeg.name cX2_addLeg 10 (some .int) q :=
  List.forall_mem_cons.mpr ⟨(xOK_pure (xs_aload_n (k := 0) rfl (by decide +kernel))),
  List.forall_mem_cons.mpr ⟨(xOK_pure (xs_iload_n (k := 1) rfl (by decide +kernel))),
  List.forall_mem_cons.mpr ⟨(xOK_pure (xs_iload (by decide +kernel))),
  List.forall_mem_cons.mpr ⟨(xcm mi_20 ⟨⟨(by decide +kernel), (by decide +kernel), (by decide +kernel)⟩, (by decide), xw_538, xw_118, Or.inl ⟨rfl, _, _, _, _, (by decide +kernel), xw_535, xw_536, xw_537, rfl⟩⟩),
  List.forall_mem_cons.mpr ⟨(xOK_pure (xs_iadd (by decide +kernel))),
  List.forall_mem_cons.mpr ⟨(xOK_pure (xs_istore (by decide +kernel) (by decide))),
  List.forall_mem_cons.mpr ⟨(xOK_pure (xs_aload_n (k := 0) rfl (by decide +kernel))),
  List.forall_mem_cons.mpr ⟨(xOK_pure (xs_iload (by decide +kernel))),
  List.forall_mem_cons.mpr ⟨(xOK_pure (xs_iload (by decide +kernel))),
  List.forall_mem_cons.mpr ⟨(xcm mi_20 ⟨⟨(by decide +kernel), (by decide +kernel), (by decide +kernel)⟩, (by decide), xw_538, xw_118, Or.inl ⟨rfl, _, _, _, _, (by decide +kernel), xw_535, xw_536, xw_537, rfl⟩⟩),
  List.forall_mem_cons.mpr ⟨(xOK_pure (xs_iload (by decide +kernel))),
  List.forall_mem_cons.mpr ⟨(xOK_pure (xs_iload (by decide +kernel))),
  List.forall_mem_cons.mpr ⟨(xcm mi_303 ⟨⟨(by decide +kernel), (by decide +kernel), (by decide +kernel)⟩, (by decide), xw_541, xw_126, Or.inr (Or.inl ⟨rfl, _, (by decide +kernel), xw_539, xw_540⟩)⟩),
  List.forall_mem_cons.mpr ⟨(xcm mi_303 ⟨⟨(by decide +kernel), (by decide +kernel), (by decide +kernel)⟩, (by decide), xw_541, xw_126, Or.inr (Or.inl ⟨rfl, _, (by decide +kernel), xw_539, xw_540⟩)⟩),
  List.forall_mem_cons.mpr ⟨(xOK_pure (xs_istore (by decide +kernel) (by decide))),
  List.forall_mem_cons.mpr ⟨(xOK_pure (xs_aload_n (k := 0) rfl (by decide +kernel))),
  List.forall_mem_cons.mpr ⟨(xOK_pure (xs_getf xcl_2 (by decide) (by decide +kernel) xw_178)),
  List.forall_mem_cons.mpr ⟨(xOK_pure (xs_iload (by decide +kernel))),
  List.forall_mem_cons.mpr ⟨(xOK_pure (xs_bipush (n := 8) (by decide +kernel) (by decide))),
  List.forall_mem_cons.mpr ⟨(xOK_pure (xs_imul (by decide +kernel))),
  (fun _ h => absurd h List.not_mem_nil)⟩⟩⟩⟩⟩⟩⟩⟩⟩⟩⟩⟩⟩⟩⟩⟩⟩⟩⟩⟩
def pX2_addLeg_3 (ev : xEv) : List (Nat × xEn) := [(108, .inl (xop (xf_iload 6 2))), (110, .inl (xop (xf_bin (fun x y => x + y)))), (111, .inl (xop (xf_iload 9 2))), (113, .inl (xo_ast (ev.1 0) (fun x => x))), (114, .inl (xop (xf_iinc 6 1))), (117, .inl (xop (xf_goto 34))), (120, .inl (xop (xf_iinc 5 1))), (123, .inl (xop (xf_goto 24))), (126, .inl (xop (xf_aload 0 1))), (127, .inl (xop xf_dup)), (128, .inl (xop (xf_getf 2 5))), (131, .inl (xop xf_dupx1)), (132, .inl (xop (xf_push (.int 1) 1))), (133, .inl (xop (xf_bin (fun x y => x + y)))), (134, .inl (xo_putf 2 5 .int)), (137, .inr (.inr 1))]
set_option maxRecDepth 20000 in
theorem okpX2_addLeg_3 (ev : xEv) : ∀ q ∈ pX2_addLeg_3 ev, xEnOK ev xmi yX2_addLeg.cls yX2_addLeg.name cX2_addLeg 10 (some .int) q :=
  List.forall_mem_cons.mpr ⟨(xOK_pure (xs_iload (by decide +kernel))),
  List.forall_mem_cons.mpr ⟨(xOK_pure (xs_iadd (by decide +kernel))),
  List.forall_mem_cons.mpr ⟨(xOK_pure (xs_iload (by decide +kernel))),
  List.forall_mem_cons.mpr ⟨(xs_iast (by decide +kernel)),
  List.forall_mem_cons.mpr ⟨(xOK_pure (xs_iinc (n := 1) (by decide +kernel) (by decide) (by decide))),
  List.forall_mem_cons.mpr ⟨(xOK_pure (xs_goto (by decide +kernel) (by decide))),
  List.forall_mem_cons.mpr ⟨(xOK_pure (xs_iinc (n := 1) (by decide +kernel) (by decide) (by decide))),
  List.forall_mem_cons.mpr ⟨(xOK_pure (xs_goto (by decide +kernel) (by decide))),
  List.forall_mem_cons.mpr ⟨(xOK_pure (xs_aload_n (k := 0) rfl (by decide +kernel))),
  List.forall_mem_cons.mpr ⟨(xOK_pure (xs_dup (by decide +kernel))),
  List.forall_mem_cons.mpr ⟨(xOK_pure (xs_getf xcl_2 (by decide) (by decide +kernel) xw_174)),
  List.forall_mem_cons.mpr ⟨(xOK_pure (xs_dupx1 (by decide +kernel))),
  List.forall_mem_cons.mpr ⟨(xOK_pure (xs_iconst (n := 1) (by decide +kernel) (by decide))),
  List.forall_mem_cons.mpr ⟨(xOK_pure (xs_iadd (by decide +kernel))),
  List.forall_mem_cons.mpr ⟨(xs_putf (k := 5) xcl_2 (by decide) rfl (by decide +kernel) xw_174),
  List.forall_mem_cons.mpr ⟨(Or.inr (Or.inl ⟨rfl, (by decide +kernel), rfl⟩)),
  (fun _ h => absurd h List.not_mem_nil)⟩⟩⟩⟩⟩⟩⟩⟩⟩⟩⟩⟩⟩⟩⟩⟩
def pX2_addLeg (ev : xEv) : List (Nat × xEn) := pX2_addLeg_0 ev ++ (pX2_addLeg_1 ev ++ (pX2_addLeg_2 ev ++ (pX2_addLeg_3 ev)))
theorem okpX2_addLeg (ev : xEv) : ∀ q ∈ pX2_addLeg ev, xEnOK ev xmi yX2_addLeg.cls yX2_addLeg.name cX2_addLeg 10 (some .int) q := List.forall_mem_append.mpr ⟨okpX2_addLeg_0 ev, List.forall_mem_append.mpr ⟨okpX2_addLeg_1 ev, List.forall_mem_append.mpr ⟨okpX2_addLeg_2 ev, okpX2_addLeg_3 ev⟩⟩⟩
theorem omX2_addLeg (ev : xEv) : xMethOK ev xmi yX2_addLeg.cls yX2_addLeg.name 19 (pX2_addLeg ev) := xMethOK.of mi_19 (by decide +kernel) (okpX2_addLeg ev)
def pX2_milesBetween (ev : xEv) : List (Nat × xEn) := [(0, .inl (xop (xf_aload 0 1))), (1, .inl (xop (xf_getf 2 7))), (4, .inl (xop (xf_iload 1 1))), (5, .inl (xop (xf_push (.int 8) 2))), (7, .inl (xop (xf_bin (fun x y => x * y)))), (8, .inl (xop (xf_iload 2 1))), (9, .inl (xop (xf_bin (fun x y => x + y)))), (10, .inl (xop (xf_ald (ev.1 0)))), (11, .inr (.inr 1))]
set_option maxRecDepth 20000 in
theorem okpX2_milesBetween (ev : xEv) : ∀ q ∈ pX2_milesBetween ev, xEnOK ev xmi yX2_milesBetween.cls yX2_milesBetween.name cX2_milesBetween 3 (some .int) q :=
  List.forall_mem_cons.mpr ⟨(xOK_pure (xs_aload_n (k := 0) rfl (by decide +kernel))),
  List.forall_mem_cons.mpr ⟨(xOK_pure (xs_getf xcl_2 (by decide) (by decide +kernel) xw_178)),
  List.forall_mem_cons.mpr ⟨(xOK_pure (xs_iload_n (k := 1) rfl (by decide +kernel))),
  List.forall_mem_cons.mpr ⟨(xOK_pure (xs_bipush (n := 8) (by decide +kernel) (by decide))),
  List.forall_mem_cons.mpr ⟨(xOK_pure (xs_imul (by decide +kernel))),
  List.forall_mem_cons.mpr ⟨(xOK_pure (xs_iload_n (k := 2) rfl (by decide +kernel))),
  List.forall_mem_cons.mpr ⟨(xOK_pure (xs_iadd (by decide +kernel))),
  List.forall_mem_cons.mpr ⟨(xOK_pure (xs_iald (by decide +kernel))),
  List.forall_mem_cons.mpr ⟨(Or.inr (Or.inl ⟨rfl, (by decide +kernel), rfl⟩)),
  (fun _ h => absurd h List.not_mem_nil)⟩⟩⟩⟩⟩⟩⟩⟩⟩
theorem omX2_milesBetween (ev : xEv) : xMethOK ev xmi yX2_milesBetween.cls yX2_milesBetween.name 20 (pX2_milesBetween ev) := xMethOK.of mi_20 (by decide +kernel) (okpX2_milesBetween ev)
def pX2_tell_0 (ev : xEv) : List (Nat × xEn) := [(0, .inl (xop (xf_aload 0 1))), (1, .inl (xop (xf_getf 2 8))), (4, .inl (xop (xf_aload 0 1))), (5, .inl (xop (xf_getf 2 6))), (8, .inl (xop (xf_iload 1 1))), (9, .inl (xo_ast (ev.1 0) (fun x => x))), (10, .inl (xop (xf_aload 0 1))), (11, .inl (xop (xf_getf 2 9))), (14, .inl (xop (xf_aload 0 1))), (15, .inl (xop (xf_getf 2 6))), (18, .inl (xop (xf_iload 2 1))), (19, .inl (xo_ast (ev.1 0) (fun x => x))), (20, .inl (xop (xf_aload 0 1))), (21, .inl (xop (xf_getf 2 10))), (24, .inl (xop (xf_aload 0 1))), (25, .inl (xop (xf_getf 2 6))), (28, .inl (xop (xf_iload 3 1))), (29, .inl (xo_ast (ev.1 0) (fun x => x))), (30, .inl (xop (xf_aload 0 1))), (31, .inl (xop (xf_getf 2 11)))]
set_option maxRecDepth 20000 in
theorem okpX2_tell_0 (ev : xEv) : ∀ q ∈ pX2_tell_0 ev, xEnOK ev xmi yX2_tell.cls yX2_tell.name cX2_tell 5 (some .int) q :=
  List.forall_mem_cons.mpr ⟨(xOK_pure (xs_aload_n (k := 0) rfl (by decide +kernel))),
  List.forall_mem_cons.mpr ⟨(xOK_pure (xs_getf xcl_2 (by decide) (by decide +kernel) xw_179)),
  List.forall_mem_cons.mpr ⟨(xOK_pure (xs_aload_n (k := 0) rfl (by decide +kernel))),
  List.forall_mem_cons.mpr ⟨(xOK_pure (xs_getf xcl_2 (by decide) (by decide +kernel) xw_176)),
  List.forall_mem_cons.mpr ⟨(xOK_pure (xs_iload_n (k := 1) rfl (by decide +kernel))),
  List.forall_mem_cons.mpr ⟨(xs_iast (by decide +kernel)),
  List.forall_mem_cons.mpr ⟨(xOK_pure (xs_aload_n (k := 0) rfl (by decide +kernel))),
  List.forall_mem_cons.mpr ⟨(xOK_pure (xs_getf xcl_2 (by decide) (by decide +kernel) xw_180)),
  List.forall_mem_cons.mpr ⟨(xOK_pure (xs_aload_n (k := 0) rfl (by decide +kernel))),
  List.forall_mem_cons.mpr ⟨(xOK_pure (xs_getf xcl_2 (by decide) (by decide +kernel) xw_176)),
  List.forall_mem_cons.mpr ⟨(xOK_pure (xs_iload_n (k := 2) rfl (by decide +kernel))),
  List.forall_mem_cons.mpr ⟨(xs_iast (by decide +kernel)),
  List.forall_mem_cons.mpr ⟨(xOK_pure (xs_aload_n (k := 0) rfl (by decide +kernel))),
  List.forall_mem_cons.mpr ⟨(xOK_pure (xs_getf xcl_2 (by decide) (by decide +kernel) xw_181)),
  List.forall_mem_cons.mpr ⟨(xOK_pure (xs_aload_n (k := 0) rfl (by decide +kernel))),
  List.forall_mem_cons.mpr ⟨(xOK_pure (xs_getf xcl_2 (by decide) (by decide +kernel) xw_176)),
  List.forall_mem_cons.mpr ⟨(xOK_pure (xs_iload_n (k := 3) rfl (by decide +kernel))),
  List.forall_mem_cons.mpr ⟨(xs_iast (by decide +kernel)),
  List.forall_mem_cons.mpr ⟨(xOK_pure (xs_aload_n (k := 0) rfl (by decide +kernel))),
  List.forall_mem_cons.mpr ⟨(xOK_pure (xs_getf xcl_2 (by decide) (by decide +kernel) xw_182)),
  (fun _ h => absurd h List.not_mem_nil)⟩⟩⟩⟩⟩⟩⟩⟩⟩⟩⟩⟩⟩⟩⟩⟩⟩⟩⟩⟩
def pX2_tell_1 (ev : xEv) : List (Nat × xEn) := [(34, .inl (xop (xf_aload 0 1))), (35, .inl (xop (xf_getf 2 6))), (38, .inl (xop (xf_iload 4 2))), (40, .inl (xo_ast (ev.1 0) (fun x => x))), (41, .inl (xop (xf_aload 0 1))), (42, .inl (xop xf_dup)), (43, .inl (xop (xf_getf 2 6))), (46, .inl (xop (xf_push (.int 1) 1))), (47, .inl (xop (xf_bin (fun x y => x + y)))), (48, .inl (xo_putf 2 6 .int)), (51, .inl (xop (xf_aload 0 1))), (52, .inl (xop (xf_getf 2 6))), (55, .inr (.inr 1))]
set_option maxRecDepth 20000 in
theorem okpX2_tell_1 (ev : xEv) : ∀ q ∈ pX2_tell_1 ev, xEnOK ev xmi yX2_tell.cls yX2_tell.name cX2_tell 5 (some .int) q :=
  List.forall_mem_cons.mpr ⟨(xOK_pure (xs_aload_n (k := 0) rfl (by decide +kernel))),
  List.forall_mem_cons.mpr ⟨(xOK_pure (xs_getf xcl_2 (by decide) (by decide +kernel) xw_176)),
  List.forall_mem_cons.mpr ⟨(xOK_pure (xs_iload (by decide +kernel))),
  List.forall_mem_cons.mpr ⟨(xs_iast (by decide +kernel)),
  List.forall_mem_cons.mpr ⟨(xOK_pure (xs_aload_n (k := 0) rfl (by decide +kernel))),
  List.forall_mem_cons.mpr ⟨(xOK_pure (xs_dup (by decide +kernel))),
  List.forall_mem_cons.mpr ⟨(xOK_pure (xs_getf xcl_2 (by decide) (by decide +kernel) xw_176)),
  List.forall_mem_cons.mpr ⟨(xOK_pure (xs_iconst (n := 1) (by decide +kernel) (by decide))),
  List.forall_mem_cons.mpr ⟨(xOK_pure (xs_iadd (by decide +kernel))),
  List.forall_mem_cons.mpr ⟨(xs_putf (k := 6) xcl_2 (by decide) rfl (by decide +kernel) xw_176),
  List.forall_mem_cons.mpr ⟨(xOK_pure (xs_aload_n (k := 0) rfl (by decide +kernel))),
  List.forall_mem_cons.mpr ⟨(xOK_pure (xs_getf xcl_2 (by decide) (by decide +kernel) xw_176)),
  List.forall_mem_cons.mpr ⟨(Or.inr (Or.inl ⟨rfl, (by decide +kernel), rfl⟩)),
  (fun _ h => absurd h List.not_mem_nil)⟩⟩⟩⟩⟩⟩⟩⟩⟩⟩⟩⟩⟩
def pX2_tell (ev : xEv) : List (Nat × xEn) := pX2_tell_0 ev ++ (pX2_tell_1 ev)
theorem okpX2_tell (ev : xEv) : ∀ q ∈ pX2_tell ev, xEnOK ev xmi yX2_tell.cls yX2_tell.name cX2_tell 5 (some .int) q := List.forall_mem_append.mpr ⟨okpX2_tell_0 ev, okpX2_tell_1 ev⟩
theorem omX2_tell (ev : xEv) : xMethOK ev xmi yX2_tell.cls yX2_tell.name 21 (pX2_tell ev) := xMethOK.of mi_21 (by decide +kernel) (okpX2_tell ev)
def pX2_cloudAt (ev : xEv) : List (Nat × xEn) := [(0, .inl (xop (xf_aload 0 1))), (1, .inl (xop (xf_iload 1 1))), (2, .inl (xop (xf_iload 2 1))), (3, .inr (.inl (0, 24, 2, 2))), (6, .inl (xop (xf_istore 3 1))), (7, .inl (xop (xf_iload 3 1))), (8, .inl (xop (xf_push (.int (-1)) 1))), (9, .inl (xop (xf_icmp_ne 18))), (12, .inl (xop (xf_push (.int 200) 3))), (15, .inl (xop (xf_goto 24))), (18, .inl (xop (xf_aload 0 1))), (19, .inl (xop (xf_getf 2 10))), (22, .inl (xop (xf_iload 3 1))), (23, .inl (xop (xf_ald (ev.1 0)))), (24, .inr (.inr 1))]
set_option maxRecDepth 20000 in
theorem okpX2_cloudAt (ev : xEv) : ∀ q ∈ pX2_cloudAt ev, xEnOK ev xmi yX2_cloudAt.cls yX2_cloudAt.name cX2_cloudAt 4 (some .int) q :=
  List.forall_mem_cons.mpr ⟨(xOK_pure (xs_aload_n (k := 0) rfl (by decide +kernel))),
  List.forall_mem_cons.mpr ⟨(xOK_pure (xs_iload_n (k := 1) rfl (by decide +kernel))),
  List.forall_mem_cons.mpr ⟨(xOK_pure (xs_iload_n (k := 2) rfl (by decide +kernel))),
  List.forall_mem_cons.mpr ⟨(xcm mi_24 ⟨⟨(by decide +kernel), (by decide +kernel), (by decide +kernel)⟩, (by decide), xw_1263, xw_118, Or.inl ⟨rfl, _, _, _, _, (by decide +kernel), xw_1260, xw_1262, xw_39, rfl⟩⟩),
  List.forall_mem_cons.mpr ⟨(xOK_pure (xs_istore_n (k := 3) rfl (by decide +kernel) (by decide))),
  List.forall_mem_cons.mpr ⟨(xOK_pure (xs_iload_n (k := 3) rfl (by decide +kernel))),
  List.forall_mem_cons.mpr ⟨(xOK_pure (xs_iconst (n := (-1)) (by decide +kernel) (by decide))),
  List.forall_mem_cons.mpr ⟨(xOK_pure (xs_icmp_ne (by decide +kernel) (by decide))),
  List.forall_mem_cons.mpr ⟨(xOK_pure (xs_sipush (n := 200) (by decide +kernel) (by decide))),
  List.forall_mem_cons.mpr ⟨(xOK_pure (xs_goto (by decide +kernel) (by decide))),
  List.forall_mem_cons.mpr ⟨(xOK_pure (xs_aload_n (k := 0) rfl (by decide +kernel))),
  List.forall_mem_cons.mpr ⟨(xOK_pure (xs_getf xcl_2 (by decide) (by decide +kernel) xw_181)),
  List.forall_mem_cons.mpr ⟨(xOK_pure (xs_iload_n (k := 3) rfl (by decide +kernel))),
  List.forall_mem_cons.mpr ⟨(xOK_pure (xs_iald (by decide +kernel))),
  List.forall_mem_cons.mpr ⟨(Or.inr (Or.inl ⟨rfl, (by decide +kernel), rfl⟩)),
  (fun _ h => absurd h List.not_mem_nil)⟩⟩⟩⟩⟩⟩⟩⟩⟩⟩⟩⟩⟩⟩⟩
theorem omX2_cloudAt (ev : xEv) : xMethOK ev xmi yX2_cloudAt.cls yX2_cloudAt.name 22 (pX2_cloudAt ev) := xMethOK.of mi_22 (by decide +kernel) (okpX2_cloudAt ev)
def pX2_windAt (ev : xEv) : List (Nat × xEn) := [(0, .inl (xop (xf_aload 0 1))), (1, .inl (xop (xf_iload 1 1))), (2, .inl (xop (xf_iload 2 1))), (3, .inr (.inl (0, 24, 2, 2))), (6, .inl (xop (xf_istore 3 1))), (7, .inl (xop (xf_iload 3 1))), (8, .inl (xop (xf_push (.int (-1)) 1))), (9, .inl (xop (xf_icmp_ne 16))), (12, .inl (xop (xf_push (.int 0) 1))), (13, .inl (xop (xf_goto 22))), (16, .inl (xop (xf_aload 0 1))), (17, .inl (xop (xf_getf 2 11))), (20, .inl (xop (xf_iload 3 1))), (21, .inl (xop (xf_ald (ev.1 0)))), (22, .inr (.inr 1))]
set_option maxRecDepth 20000 in
theorem okpX2_windAt (ev : xEv) : ∀ q ∈ pX2_windAt ev, xEnOK ev xmi yX2_windAt.cls yX2_windAt.name cX2_windAt 4 (some .int) q :=
  List.forall_mem_cons.mpr ⟨(xOK_pure (xs_aload_n (k := 0) rfl (by decide +kernel))),
  List.forall_mem_cons.mpr ⟨(xOK_pure (xs_iload_n (k := 1) rfl (by decide +kernel))),
  List.forall_mem_cons.mpr ⟨(xOK_pure (xs_iload_n (k := 2) rfl (by decide +kernel))),
  List.forall_mem_cons.mpr ⟨(xcm mi_24 ⟨⟨(by decide +kernel), (by decide +kernel), (by decide +kernel)⟩, (by decide), xw_1263, xw_118, Or.inl ⟨rfl, _, _, _, _, (by decide +kernel), xw_1260, xw_1262, xw_39, rfl⟩⟩),
  List.forall_mem_cons.mpr ⟨(xOK_pure (xs_istore_n (k := 3) rfl (by decide +kernel) (by decide))),
  List.forall_mem_cons.mpr ⟨(xOK_pure (xs_iload_n (k := 3) rfl (by decide +kernel))),
  List.forall_mem_cons.mpr ⟨(xOK_pure (xs_iconst (n := (-1)) (by decide +kernel) (by decide))),
  List.forall_mem_cons.mpr ⟨(xOK_pure (xs_icmp_ne (by decide +kernel) (by decide))),
  List.forall_mem_cons.mpr ⟨(xOK_pure (xs_iconst (n := 0) (by decide +kernel) (by decide))),
  List.forall_mem_cons.mpr ⟨(xOK_pure (xs_goto (by decide +kernel) (by decide))),
  List.forall_mem_cons.mpr ⟨(xOK_pure (xs_aload_n (k := 0) rfl (by decide +kernel))),
  List.forall_mem_cons.mpr ⟨(xOK_pure (xs_getf xcl_2 (by decide) (by decide +kernel) xw_182)),
  List.forall_mem_cons.mpr ⟨(xOK_pure (xs_iload_n (k := 3) rfl (by decide +kernel))),
  List.forall_mem_cons.mpr ⟨(xOK_pure (xs_iald (by decide +kernel))),
  List.forall_mem_cons.mpr ⟨(Or.inr (Or.inl ⟨rfl, (by decide +kernel), rfl⟩)),
  (fun _ h => absurd h List.not_mem_nil)⟩⟩⟩⟩⟩⟩⟩⟩⟩⟩⟩⟩⟩⟩⟩
theorem omX2_windAt (ev : xEv) : xMethOK ev xmi yX2_windAt.cls yX2_windAt.name 23 (pX2_windAt ev) := xMethOK.of mi_23 (by decide +kernel) (okpX2_windAt ev)
def pX2_toldFor_0 (ev : xEv) : List (Nat × xEn) := [(0, .inl (xop (xf_push (.int (-1)) 1))), (1, .inl (xop (xf_istore 3 1))), (2, .inl (xop (xf_push (.int 0) 1))), (3, .inl (xop (xf_istore 4 2))), (5, .inl (xop (xf_iload 4 2))), (7, .inl (xop (xf_aload 0 1))), (8, .inl (xop (xf_getf 2 6))), (11, .inl (xop (xf_icmp_ge 78))), (14, .inl (xop (xf_aload 0 1))), (15, .inl (xop (xf_getf 2 8))), (18, .inl (xop (xf_iload 4 2))), (20, .inl (xop (xf_ald (ev.1 0)))), (21, .inl (xop (xf_iload 1 1))), (22, .inl (xop (xf_icmp_ne 40))), (25, .inl (xop (xf_aload 0 1))), (26, .inl (xop (xf_getf 2 9))), (29, .inl (xop (xf_iload 4 2))), (31, .inl (xop (xf_ald (ev.1 0)))), (32, .inl (xop (xf_iload 2 1))), (33, .inl (xop (xf_icmp_gt 40)))]
set_option maxRecDepth 20000 in
theorem okpX2_toldFor_0 (ev : xEv) : ∀ q ∈ pX2_toldFor_0 ev, xEnOK ev xmi yX2_toldFor.cls yX2_toldFor.name cX2_toldFor 6 (some .int) q :=
  List.forall_mem_cons.mpr ⟨(xOK_pure (xs_iconst (n := (-1)) (by decide +kernel) (by decide))),
  List.forall_mem_cons.mpr ⟨(xOK_pure (xs_istore_n (k := 3) rfl (by decide +kernel) (by decide))),
  List.forall_mem_cons.mpr ⟨(xOK_pure (xs_iconst (n := 0) (by decide +kernel) (by decide))),
  List.forall_mem_cons.mpr ⟨(xOK_pure (xs_istore (by decide +kernel) (by decide))),
  List.forall_mem_cons.mpr ⟨(xOK_pure (xs_iload (by decide +kernel))),
  List.forall_mem_cons.mpr ⟨(xOK_pure (xs_aload_n (k := 0) rfl (by decide +kernel))),
  List.forall_mem_cons.mpr ⟨(xOK_pure (xs_getf xcl_2 (by decide) (by decide +kernel) xw_176)),
  List.forall_mem_cons.mpr ⟨(xOK_pure (xs_icmp_ge (by decide +kernel) (by decide))),
  List.forall_mem_cons.mpr ⟨(xOK_pure (xs_aload_n (k := 0) rfl (by decide +kernel))),
  List.forall_mem_cons.mpr ⟨(xOK_pure (xs_getf xcl_2 (by decide) (by decide +kernel) xw_179)),
  List.forall_mem_cons.mpr ⟨(xOK_pure (xs_iload (by decide +kernel))),
  List.forall_mem_cons.mpr ⟨(xOK_pure (xs_iald (by decide +kernel))),
  List.forall_mem_cons.mpr ⟨(xOK_pure (xs_iload_n (k := 1) rfl (by decide +kernel))),
  List.forall_mem_cons.mpr ⟨(xOK_pure (xs_icmp_ne (by decide +kernel) (by decide))),
  List.forall_mem_cons.mpr ⟨(xOK_pure (xs_aload_n (k := 0) rfl (by decide +kernel))),
  List.forall_mem_cons.mpr ⟨(xOK_pure (xs_getf xcl_2 (by decide) (by decide +kernel) xw_180)),
  List.forall_mem_cons.mpr ⟨(xOK_pure (xs_iload (by decide +kernel))),
  List.forall_mem_cons.mpr ⟨(xOK_pure (xs_iald (by decide +kernel))),
  List.forall_mem_cons.mpr ⟨(xOK_pure (xs_iload_n (k := 2) rfl (by decide +kernel))),
  List.forall_mem_cons.mpr ⟨(xOK_pure (xs_icmp_gt (by decide +kernel) (by decide))),
  (fun _ h => absurd h List.not_mem_nil)⟩⟩⟩⟩⟩⟩⟩⟩⟩⟩⟩⟩⟩⟩⟩⟩⟩⟩⟩⟩
def pX2_toldFor_1 (ev : xEv) : List (Nat × xEn) := [(36, .inl (xop (xf_push (.int 1) 1))), (37, .inl (xop (xf_goto 41))), (40, .inl (xop (xf_push (.int 0) 1))), (41, .inl (xop (xf_istore 5 2))), (43, .inl (xop (xf_iload 5 2))), (45, .inl (xop (xf_if_eq 72))), (48, .inl (xop (xf_iload 3 1))), (49, .inl (xop (xf_push (.int (-1)) 1))), (50, .inl (xop (xf_icmp_eq 69))), (53, .inl (xop (xf_aload 0 1))), (54, .inl (xop (xf_getf 2 9))), (57, .inl (xop (xf_iload 4 2))), (59, .inl (xop (xf_ald (ev.1 0)))), (60, .inl (xop (xf_aload 0 1))), (61, .inl (xop (xf_getf 2 9))), (64, .inl (xop (xf_iload 3 1))), (65, .inl (xop (xf_ald (ev.1 0)))), (66, .inl (xop (xf_icmp_lt 72))), (69, .inl (xop (xf_iload 4 2))), (71, .inl (xop (xf_istore 3 1)))]
set_option maxRecDepth 20000 in
theorem okpX2_toldFor_1 (ev : xEv) : ∀ q ∈ pX2_toldFor_1 ev, xEnOK ev xmi yX2_toldFor.cls yX2_toldFor.name cX2_toldFor 6 (some .int) q :=
  List.forall_mem_cons.mpr ⟨(xOK_pure (xs_iconst (n := 1) (by decide +kernel) (by decide))),
  List.forall_mem_cons.mpr ⟨(xOK_pure (xs_goto (by decide +kernel) (by decide))),
  List.forall_mem_cons.mpr ⟨(xOK_pure (xs_iconst (n := 0) (by decide +kernel) (by decide))),
  List.forall_mem_cons.mpr ⟨(xOK_pure (xs_istore (by decide +kernel) (by decide))),
  List.forall_mem_cons.mpr ⟨(xOK_pure (xs_iload (by decide +kernel))),
  List.forall_mem_cons.mpr ⟨(xOK_pure (xs_if_eq (by decide +kernel) (by decide))),
  List.forall_mem_cons.mpr ⟨(xOK_pure (xs_iload_n (k := 3) rfl (by decide +kernel))),
  List.forall_mem_cons.mpr ⟨(xOK_pure (xs_iconst (n := (-1)) (by decide +kernel) (by decide))),
  List.forall_mem_cons.mpr ⟨(xOK_pure (xs_icmp_eq (by decide +kernel) (by decide))),
  List.forall_mem_cons.mpr ⟨(xOK_pure (xs_aload_n (k := 0) rfl (by decide +kernel))),
  List.forall_mem_cons.mpr ⟨(xOK_pure (xs_getf xcl_2 (by decide) (by decide +kernel) xw_180)),
  List.forall_mem_cons.mpr ⟨(xOK_pure (xs_iload (by decide +kernel))),
  List.forall_mem_cons.mpr ⟨(xOK_pure (xs_iald (by decide +kernel))),
  List.forall_mem_cons.mpr ⟨(xOK_pure (xs_aload_n (k := 0) rfl (by decide +kernel))),
  List.forall_mem_cons.mpr ⟨(xOK_pure (xs_getf xcl_2 (by decide) (by decide +kernel) xw_180)),
  List.forall_mem_cons.mpr ⟨(xOK_pure (xs_iload_n (k := 3) rfl (by decide +kernel))),
  List.forall_mem_cons.mpr ⟨(xOK_pure (xs_iald (by decide +kernel))),
  List.forall_mem_cons.mpr ⟨(xOK_pure (xs_icmp_lt (by decide +kernel) (by decide))),
  List.forall_mem_cons.mpr ⟨(xOK_pure (xs_iload (by decide +kernel))),
  List.forall_mem_cons.mpr ⟨(xOK_pure (xs_istore_n (k := 3) rfl (by decide +kernel) (by decide))),
  (fun _ h => absurd h List.not_mem_nil)⟩⟩⟩⟩⟩⟩⟩⟩⟩⟩⟩⟩⟩⟩⟩⟩⟩⟩⟩⟩
def pX2_toldFor_2 (ev : xEv) : List (Nat × xEn) := [(72, .inl (xop (xf_iinc 4 1))), (75, .inl (xop (xf_goto 5))), (78, .inl (xop (xf_iload 3 1))), (79, .inr (.inr 1))]
set_option maxRecDepth 20000 in
theorem okpX2_toldFor_2 (ev : xEv) : ∀ q ∈ pX2_toldFor_2 ev, xEnOK ev xmi yX2_toldFor.cls yX2_toldFor.name cX2_toldFor 6 (some .int) q :=
  List.forall_mem_cons.mpr ⟨(xOK_pure (xs_iinc (n := 1) (by decide +kernel) (by decide) (by decide))),
  List.forall_mem_cons.mpr ⟨(xOK_pure (xs_goto (by decide +kernel) (by decide))),
  List.forall_mem_cons.mpr ⟨(xOK_pure (xs_iload_n (k := 3) rfl (by decide +kernel))),
  List.forall_mem_cons.mpr ⟨(Or.inr (Or.inl ⟨rfl, (by decide +kernel), rfl⟩)),
  (fun _ h => absurd h List.not_mem_nil)⟩⟩⟩⟩
def pX2_toldFor (ev : xEv) : List (Nat × xEn) := pX2_toldFor_0 ev ++ (pX2_toldFor_1 ev ++ (pX2_toldFor_2 ev))
theorem okpX2_toldFor (ev : xEv) : ∀ q ∈ pX2_toldFor ev, xEnOK ev xmi yX2_toldFor.cls yX2_toldFor.name cX2_toldFor 6 (some .int) q := List.forall_mem_append.mpr ⟨okpX2_toldFor_0 ev, List.forall_mem_append.mpr ⟨okpX2_toldFor_1 ev, okpX2_toldFor_2 ev⟩⟩
theorem omX2_toldFor (ev : xEv) : xMethOK ev xmi yX2_toldFor.cls yX2_toldFor.name 24 (pX2_toldFor ev) := xMethOK.of mi_24 (by decide +kernel) (okpX2_toldFor ev)
def pX2_bitOf (ev : xEv) : List (Nat × xEn) := [(0, .inl (xop (xf_push (.int 1) 1))), (1, .inl (xop (xf_push (.int 7) 2))), (3, .inl (xop (xf_iload 0 1))), (4, .inl (xop (xf_bin (fun x y => x - y)))), (5, .inl (xop (xf_bin (fun x y => x <<< (y &&& 31))))), (6, .inr (.inr 1))]
set_option maxRecDepth 20000 in
theorem okpX2_bitOf (ev : xEv) : ∀ q ∈ pX2_bitOf ev, xEnOK ev xmi yX2_bitOf.cls yX2_bitOf.name cX2_bitOf 1 (some .int) q :=
  List.forall_mem_cons.mpr ⟨(xOK_pure (xs_iconst (n := 1) (by decide +kernel) (by decide))),
  List.forall_mem_cons.mpr ⟨(xOK_pure (xs_bipush (n := 7) (by decide +kernel) (by decide))),
  List.forall_mem_cons.mpr ⟨(xOK_pure (xs_iload_n (k := 0) rfl (by decide +kernel))),
  List.forall_mem_cons.mpr ⟨(xOK_pure (xs_isub (by decide +kernel))),
  List.forall_mem_cons.mpr ⟨(xOK_pure (xs_ishl (by decide +kernel))),
  List.forall_mem_cons.mpr ⟨(Or.inr (Or.inl ⟨rfl, (by decide +kernel), rfl⟩)),
  (fun _ h => absurd h List.not_mem_nil)⟩⟩⟩⟩⟩⟩
theorem omX2_bitOf (ev : xEv) : xMethOK ev xmi yX2_bitOf.cls yX2_bitOf.name 25 (pX2_bitOf ev) := xMethOK.of mi_25 (by decide +kernel) (okpX2_bitOf ev)
def pX2_darkFields_0 (ev : xEv) : List (Nat × xEn) := [(0, .inl (xop (xf_push (.int 0) 1))), (1, .inl (xop (xf_istore 1 1))), (2, .inl (xop (xf_push (.int 0) 1))), (3, .inl (xop (xf_istore 2 1))), (4, .inl (xop (xf_iload 2 1))), (5, .inl (xop (xf_aload 0 1))), (6, .inl (xop (xf_getf 2 3))), (9, .inl (xop (xf_icmp_ge 34))), (12, .inl (xop (xf_aload 0 1))), (13, .inl (xop (xf_getf 2 1))), (16, .inl (xop (xf_iload 2 1))), (17, .inl (xop (xf_ald (ev.1 2)))), (18, .inl (xop (xf_if_ne 28))), (21, .inl (xop (xf_iload 1 1))), (22, .inl (xop (xf_iload 2 1))), (23, .inr (.inl (1, 25, 1, 2))), (26, .inl (xop (xf_bin (fun x y => x ||| y)))), (27, .inl (xop (xf_istore 1 1))), (28, .inl (xop (xf_iinc 2 1))), (31, .inl (xop (xf_goto 4)))]
set_option maxRecDepth 20000 in
theorem okpX2_darkFields_0 (ev : xEv) : ∀ q ∈ pX2_darkFields_0 ev, xEnOK ev xmi yX2_darkFields.cls yX2_darkFields.name cX2_darkFields 3 (some .int) q :=
  List.forall_mem_cons.mpr ⟨(xOK_pure (xs_iconst (n := 0) (by decide +kernel) (by decide))),
  List.forall_mem_cons.mpr ⟨(xOK_pure (xs_istore_n (k := 1) rfl (by decide +kernel) (by decide))),
  List.forall_mem_cons.mpr ⟨(xOK_pure (xs_iconst (n := 0) (by decide +kernel) (by decide))),
  List.forall_mem_cons.mpr ⟨(xOK_pure (xs_istore_n (k := 2) rfl (by decide +kernel) (by decide))),
  List.forall_mem_cons.mpr ⟨(xOK_pure (xs_iload_n (k := 2) rfl (by decide +kernel))),
  List.forall_mem_cons.mpr ⟨(xOK_pure (xs_aload_n (k := 0) rfl (by decide +kernel))),
  List.forall_mem_cons.mpr ⟨(xOK_pure (xs_getf xcl_2 (by decide) (by decide +kernel) xw_168)),
  List.forall_mem_cons.mpr ⟨(xOK_pure (xs_icmp_ge (by decide +kernel) (by decide))),
  List.forall_mem_cons.mpr ⟨(xOK_pure (xs_aload_n (k := 0) rfl (by decide +kernel))),
  List.forall_mem_cons.mpr ⟨(xOK_pure (xs_getf xcl_2 (by decide) (by decide +kernel) xw_162)),
  List.forall_mem_cons.mpr ⟨(xOK_pure (xs_iload_n (k := 2) rfl (by decide +kernel))),
  List.forall_mem_cons.mpr ⟨(xOK_pure (xs_zald (by decide +kernel))),
  List.forall_mem_cons.mpr ⟨(xOK_pure (xs_if_ne (by decide +kernel) (by decide))),
  List.forall_mem_cons.mpr ⟨(xOK_pure (xs_iload_n (k := 1) rfl (by decide +kernel))),
  List.forall_mem_cons.mpr ⟨(xOK_pure (xs_iload_n (k := 2) rfl (by decide +kernel))),
  List.forall_mem_cons.mpr ⟨(xcm mi_25 ⟨⟨(by decide +kernel), (by decide +kernel), (by decide +kernel)⟩, (by decide), xw_1547, xw_118, Or.inr (Or.inl ⟨rfl, _, (by decide +kernel), xw_1545, xw_1546⟩)⟩),
  List.forall_mem_cons.mpr ⟨(xOK_pure (xs_ior (by decide +kernel))),
  List.forall_mem_cons.mpr ⟨(xOK_pure (xs_istore_n (k := 1) rfl (by decide +kernel) (by decide))),
  List.forall_mem_cons.mpr ⟨(xOK_pure (xs_iinc (n := 1) (by decide +kernel) (by decide) (by decide))),
  List.forall_mem_cons.mpr ⟨(xOK_pure (xs_goto (by decide +kernel) (by decide))),
  (fun _ h => absurd h List.not_mem_nil)⟩⟩⟩⟩⟩⟩⟩⟩⟩⟩⟩⟩⟩⟩⟩⟩⟩⟩⟩⟩
def pX2_darkFields_1 (ev : xEv) : List (Nat × xEn) := [(34, .inl (xop (xf_iload 1 1))), (35, .inr (.inr 1))]
set_option maxRecDepth 20000 in
theorem okpX2_darkFields_1 (ev : xEv) : ∀ q ∈ pX2_darkFields_1 ev, xEnOK ev xmi yX2_darkFields.cls yX2_darkFields.name cX2_darkFields 3 (some .int) q :=
  List.forall_mem_cons.mpr ⟨(xOK_pure (xs_iload_n (k := 1) rfl (by decide +kernel))),
  List.forall_mem_cons.mpr ⟨(Or.inr (Or.inl ⟨rfl, (by decide +kernel), rfl⟩)),
  (fun _ h => absurd h List.not_mem_nil)⟩⟩
def pX2_darkFields (ev : xEv) : List (Nat × xEn) := pX2_darkFields_0 ev ++ (pX2_darkFields_1 ev)
theorem okpX2_darkFields (ev : xEv) : ∀ q ∈ pX2_darkFields ev, xEnOK ev xmi yX2_darkFields.cls yX2_darkFields.name cX2_darkFields 3 (some .int) q := List.forall_mem_append.mpr ⟨okpX2_darkFields_0 ev, okpX2_darkFields_1 ev⟩
theorem omX2_darkFields (ev : xEv) : xMethOK ev xmi yX2_darkFields.cls yX2_darkFields.name 26 (pX2_darkFields ev) := xMethOK.of mi_26 (by decide +kernel) (okpX2_darkFields ev)
def pX2_light (ev : xEv) : List (Nat × xEn) := [(0, .inl (xop (xf_push (.int 0) 1))), (1, .inl (xop (xf_istore 3 1))), (2, .inl (xop (xf_iload 3 1))), (3, .inl (xop (xf_aload 0 1))), (4, .inl (xop (xf_getf 2 3))), (7, .inl (xop (xf_icmp_ge 32))), (10, .inl (xop (xf_iload 1 1))), (11, .inl (xop (xf_iload 3 1))), (12, .inr (.inl (1, 25, 1, 2))), (15, .inl (xop (xf_bin (fun x y => x &&& y)))), (16, .inl (xop (xf_if_eq 26))), (19, .inl (xop (xf_aload 0 1))), (20, .inl (xop (xf_getf 2 1))), (23, .inl (xop (xf_iload 3 1))), (24, .inl (xop (xf_iload 2 1))), (25, .inl (xo_ast (ev.1 2) (vp_nar .boolean))), (26, .inl (xop (xf_iinc 3 1))), (29, .inl (xop (xf_goto 2))), (32, .inr (.inr 0))]
set_option maxRecDepth 20000 in
theorem okpX2_light (ev : xEv) : ∀ q ∈ pX2_light ev, xEnOK ev xmi yX2_light.cls yX2_light.name cX2_light 4 none q :=
  List.forall_mem_cons.mpr ⟨(xOK_pure (xs_iconst (n := 0) (by decide +kernel) (by decide))),
  List.forall_mem_cons.mpr ⟨(xOK_pure (xs_istore_n (k := 3) rfl (by decide +kernel) (by decide))),
  List.forall_mem_cons.mpr ⟨(xOK_pure (xs_iload_n (k := 3) rfl (by decide +kernel))),
  List.forall_mem_cons.mpr ⟨(xOK_pure (xs_aload_n (k := 0) rfl (by decide +kernel))),
  List.forall_mem_cons.mpr ⟨(xOK_pure (xs_getf xcl_2 (by decide) (by decide +kernel) xw_168)),
  List.forall_mem_cons.mpr ⟨(xOK_pure (xs_icmp_ge (by decide +kernel) (by decide))),
  List.forall_mem_cons.mpr ⟨(xOK_pure (xs_iload_n (k := 1) rfl (by decide +kernel))),
  List.forall_mem_cons.mpr ⟨(xOK_pure (xs_iload_n (k := 3) rfl (by decide +kernel))),
  List.forall_mem_cons.mpr ⟨(xcm mi_25 ⟨⟨(by decide +kernel), (by decide +kernel), (by decide +kernel)⟩, (by decide), xw_1547, xw_118, Or.inr (Or.inl ⟨rfl, _, (by decide +kernel), xw_1545, xw_1546⟩)⟩),
  List.forall_mem_cons.mpr ⟨(xOK_pure (xs_iand (by decide +kernel))),
  List.forall_mem_cons.mpr ⟨(xOK_pure (xs_if_eq (by decide +kernel) (by decide))),
  List.forall_mem_cons.mpr ⟨(xOK_pure (xs_aload_n (k := 0) rfl (by decide +kernel))),
  List.forall_mem_cons.mpr ⟨(xOK_pure (xs_getf xcl_2 (by decide) (by decide +kernel) xw_162)),
  List.forall_mem_cons.mpr ⟨(xOK_pure (xs_iload_n (k := 3) rfl (by decide +kernel))),
  List.forall_mem_cons.mpr ⟨(xOK_pure (xs_iload_n (k := 2) rfl (by decide +kernel))),
  List.forall_mem_cons.mpr ⟨(xs_zast (by decide +kernel)),
  List.forall_mem_cons.mpr ⟨(xOK_pure (xs_iinc (n := 1) (by decide +kernel) (by decide) (by decide))),
  List.forall_mem_cons.mpr ⟨(xOK_pure (xs_goto (by decide +kernel) (by decide))),
  List.forall_mem_cons.mpr ⟨(Or.inl ⟨rfl, (by decide +kernel), rfl⟩),
  (fun _ h => absurd h List.not_mem_nil)⟩⟩⟩⟩⟩⟩⟩⟩⟩⟩⟩⟩⟩⟩⟩⟩⟩⟩⟩
theorem omX2_light (ev : xEv) : xMethOK ev xmi yX2_light.cls yX2_light.name 27 (pX2_light ev) := xMethOK.of mi_27 (by decide +kernel) (okpX2_light ev)
def pX2_listFields_0 (ev : xEv) : List (Nat × xEn) := [(0, .inl (xop (xf_push (.int 0) 1))), (1, .inl (xop (xf_istore 3 1))), (2, .inl (xop (xf_push (.int 0) 1))), (3, .inl (xop (xf_istore 4 2))), (5, .inl (xop (xf_iload 4 2))), (7, .inl (xop (xf_aload 0 1))), (8, .inl (xop (xf_getf 2 3))), (11, .inl (xop (xf_icmp_ge 44))), (14, .inl (xop (xf_iload 3 1))), (15, .inl (xop (xf_aload 2 1))), (16, .inl (xop (xf_alen (ev.1 0)))), (17, .inl (xop (xf_icmp_ge 44))), (20, .inl (xop (xf_iload 1 1))), (21, .inl (xop (xf_iload 4 2))), (23, .inr (.inl (1, 25, 1, 2))), (26, .inl (xop (xf_bin (fun x y => x &&& y)))), (27, .inl (xop (xf_if_eq 38))), (30, .inl (xop (xf_aload 2 1))), (31, .inl (xop (xf_iload 3 1))), (32, .inl (xop (xf_iload 4 2)))]
set_option maxRecDepth 20000 in
theorem okpX2_listFields_0 (ev : xEv) : ∀ q ∈ pX2_listFields_0 ev, xEnOK ev xmi yX2_listFields.cls yX2_listFields.name cX2_listFields 5 (some .int) q :=
  List.forall_mem_cons.mpr ⟨(xOK_pure (xs_iconst (n := 0) (by decide +kernel) (by decide))),
  List.forall_mem_cons.mpr ⟨(xOK_pure (xs_istore_n (k := 3) rfl (by decide +kernel) (by decide))),
  List.forall_mem_cons.mpr ⟨(xOK_pure (xs_iconst (n := 0) (by decide +kernel) (by decide))),
  List.forall_mem_cons.mpr ⟨(xOK_pure (xs_istore (by decide +kernel) (by decide))),
  List.forall_mem_cons.mpr ⟨(xOK_pure (xs_iload (by decide +kernel))),
  List.forall_mem_cons.mpr ⟨(xOK_pure (xs_aload_n (k := 0) rfl (by decide +kernel))),
  List.forall_mem_cons.mpr ⟨(xOK_pure (xs_getf xcl_2 (by decide) (by decide +kernel) xw_168)),
  List.forall_mem_cons.mpr ⟨(xOK_pure (xs_icmp_ge (by decide +kernel) (by decide))),
  List.forall_mem_cons.mpr ⟨(xOK_pure (xs_iload_n (k := 3) rfl (by decide +kernel))),
  List.forall_mem_cons.mpr ⟨(xOK_pure (xs_aload_n (k := 2) rfl (by decide +kernel))),
  List.forall_mem_cons.mpr ⟨(xOK_pure (xs_alen (t := 0) rfl (by decide +kernel))),
  List.forall_mem_cons.mpr ⟨(xOK_pure (xs_icmp_ge (by decide +kernel) (by decide))),
  List.forall_mem_cons.mpr ⟨(xOK_pure (xs_iload_n (k := 1) rfl (by decide +kernel))),
  List.forall_mem_cons.mpr ⟨(xOK_pure (xs_iload (by decide +kernel))),
  List.forall_mem_cons.mpr ⟨(xcm mi_25 ⟨⟨(by decide +kernel), (by decide +kernel), (by decide +kernel)⟩, (by decide), xw_1547, xw_118, Or.inr (Or.inl ⟨rfl, _, (by decide +kernel), xw_1545, xw_1546⟩)⟩),
  List.forall_mem_cons.mpr ⟨(xOK_pure (xs_iand (by decide +kernel))),
  List.forall_mem_cons.mpr ⟨(xOK_pure (xs_if_eq (by decide +kernel) (by decide))),
  List.forall_mem_cons.mpr ⟨(xOK_pure (xs_aload_n (k := 2) rfl (by decide +kernel))),
  List.forall_mem_cons.mpr ⟨(xOK_pure (xs_iload_n (k := 3) rfl (by decide +kernel))),
  List.forall_mem_cons.mpr ⟨(xOK_pure (xs_iload (by decide +kernel))),
  (fun _ h => absurd h List.not_mem_nil)⟩⟩⟩⟩⟩⟩⟩⟩⟩⟩⟩⟩⟩⟩⟩⟩⟩⟩⟩⟩
def pX2_listFields_1 (ev : xEv) : List (Nat × xEn) := [(34, .inl (xo_ast (ev.1 0) (fun x => x))), (35, .inl (xop (xf_iinc 3 1))), (38, .inl (xop (xf_iinc 4 1))), (41, .inl (xop (xf_goto 5))), (44, .inl (xop (xf_iload 3 1))), (45, .inr (.inr 1))]
set_option maxRecDepth 20000 in
theorem okpX2_listFields_1 (ev : xEv) : ∀ q ∈ pX2_listFields_1 ev, xEnOK ev xmi yX2_listFields.cls yX2_listFields.name cX2_listFields 5 (some .int) q :=
  List.forall_mem_cons.mpr ⟨(xs_iast (by decide +kernel)),
  List.forall_mem_cons.mpr ⟨(xOK_pure (xs_iinc (n := 1) (by decide +kernel) (by decide) (by decide))),
  List.forall_mem_cons.mpr ⟨(xOK_pure (xs_iinc (n := 1) (by decide +kernel) (by decide) (by decide))),
  List.forall_mem_cons.mpr ⟨(xOK_pure (xs_goto (by decide +kernel) (by decide))),
  List.forall_mem_cons.mpr ⟨(xOK_pure (xs_iload_n (k := 3) rfl (by decide +kernel))),
  List.forall_mem_cons.mpr ⟨(Or.inr (Or.inl ⟨rfl, (by decide +kernel), rfl⟩)),
  (fun _ h => absurd h List.not_mem_nil)⟩⟩⟩⟩⟩⟩
def pX2_listFields (ev : xEv) : List (Nat × xEn) := pX2_listFields_0 ev ++ (pX2_listFields_1 ev)
theorem okpX2_listFields (ev : xEv) : ∀ q ∈ pX2_listFields ev, xEnOK ev xmi yX2_listFields.cls yX2_listFields.name cX2_listFields 5 (some .int) q := List.forall_mem_append.mpr ⟨okpX2_listFields_0 ev, okpX2_listFields_1 ev⟩
theorem omX2_listFields (ev : xEv) : xMethOK ev xmi yX2_listFields.cls yX2_listFields.name 28 (pX2_listFields ev) := xMethOK.of mi_28 (by decide +kernel) (okpX2_listFields ev)
