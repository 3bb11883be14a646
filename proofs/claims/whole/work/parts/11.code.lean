def pX0_init_0 (ev : xEv) : List (Nat × xEn) := [(0, .inl (xop (xf_aload 0 1))), (1, .inl (xop xf_objInit)), (4, .inl (xop (xf_aload 0 1))), (5, .inl (xop (xf_push (.int (-1)) 1))), (6, .inl (xo_putf 0 6 .int)), (9, .inl (xop (xf_aload 0 1))), (10, .inl (xop (xf_push (.int (-1)) 1))), (11, .inl (xo_putf 0 7 .int)), (14, .inl (xop (xf_aload 0 1))), (15, .inl (xop (xf_push (.int (-1)) 1))), (16, .inl (xo_putf 0 8 .int)), (19, .inl (xop (xf_aload 0 1))), (20, .inl (xop (xf_push (.int 32) 2))), (22, .inl (xo_newa (ev.1 0) (.inl (fun _ => 0)))), (24, .inl (xo_putf 0 9 (.array .int))), (27, .inl (xop (xf_aload 0 1))), (28, .inl (xop (xf_iload 1 1))), (29, .inl (xo_putf 0 0 .int)), (32, .inl (xop (xf_aload 0 1))), (33, .inl (xop (xf_iload 2 1)))]
set_option maxRecDepth 20000 in
theorem okpX0_init_0 (ev : xEv) : ∀ q ∈ pX0_init_0 ev, xEnOK ev xmi yX0_init.cls yX0_init.name cX0_init 6 none q :=
  List.forall_mem_cons.mpr ⟨(xOK_pure (xs_aload_n (k := 0) rfl (show decode cX0_init 0 = .ok (.aload_n 0, 1) by decide +kernel))),
  List.forall_mem_cons.mpr ⟨(xOK_pure (xs_objInit (show decode cX0_init 1 = .ok (.invokespecial 3, 3) by decide +kernel) xw_752 xw_150 xw_151)),
  List.forall_mem_cons.mpr ⟨(xOK_pure (xs_aload_n (k := 0) rfl (show decode cX0_init 4 = .ok (.aload_n 0, 1) by decide +kernel))),
  List.forall_mem_cons.mpr ⟨(xOK_pure (xs_iconst (n := (-1)) (show decode cX0_init 5 = .ok (.iconst (-1), 1) by decide +kernel) (by decide))),
  List.forall_mem_cons.mpr ⟨(xs_putf (k := 6) xcl_0 (by decide) rfl (show decode cX0_init 6 = .ok (.putfield 9, 3) by decide +kernel) xw_766),
  List.forall_mem_cons.mpr ⟨(xOK_pure (xs_aload_n (k := 0) rfl (show decode cX0_init 9 = .ok (.aload_n 0, 1) by decide +kernel))),
  List.forall_mem_cons.mpr ⟨(xOK_pure (xs_iconst (n := (-1)) (show decode cX0_init 10 = .ok (.iconst (-1), 1) by decide +kernel) (by decide))),
  List.forall_mem_cons.mpr ⟨(xs_putf (k := 7) xcl_0 (by decide) rfl (show decode cX0_init 11 = .ok (.putfield 15, 3) by decide +kernel) xw_769),
  List.forall_mem_cons.mpr ⟨(xOK_pure (xs_aload_n (k := 0) rfl (show decode cX0_init 14 = .ok (.aload_n 0, 1) by decide +kernel))),
  List.forall_mem_cons.mpr ⟨(xOK_pure (xs_iconst (n := (-1)) (show decode cX0_init 15 = .ok (.iconst (-1), 1) by decide +kernel) (by decide))),
  List.forall_mem_cons.mpr ⟨(xs_putf (k := 8) xcl_0 (by decide) rfl (show decode cX0_init 16 = .ok (.putfield 18, 3) by decide +kernel) xw_772),
  List.forall_mem_cons.mpr ⟨(xOK_pure (xs_aload_n (k := 0) rfl (show decode cX0_init 19 = .ok (.aload_n 0, 1) by decide +kernel))),
  List.forall_mem_cons.mpr ⟨(xOK_pure (xs_bipush (n := 32) (show decode cX0_init 20 = .ok (.bipush 32, 2) by decide +kernel) (by decide))),
  List.forall_mem_cons.mpr ⟨(xs_newa (t := 0) (ty := .int) rfl rfl (fun _ _ => rfl) (by decide) (show decode cX0_init 22 = .ok (.newarray .int, 2) by decide +kernel) xw_209),
  List.forall_mem_cons.mpr ⟨(xs_putF (k := 9) xcl_0 (by decide) rfl rfl rfl (show decode cX0_init 24 = .ok (.putfield 21, 3) by decide +kernel) xw_775),
  List.forall_mem_cons.mpr ⟨(xOK_pure (xs_aload_n (k := 0) rfl (show decode cX0_init 27 = .ok (.aload_n 0, 1) by decide +kernel))),
  List.forall_mem_cons.mpr ⟨(xOK_pure (xs_iload_n (k := 1) rfl (show decode cX0_init 28 = .ok (.iload_n 1, 1) by decide +kernel))),
  List.forall_mem_cons.mpr ⟨(xs_putF (k := 0) xcl_0 (by decide) rfl rfl rfl (show decode cX0_init 29 = .ok (.putfield 25, 3) by decide +kernel) xw_753),
  List.forall_mem_cons.mpr ⟨(xOK_pure (xs_aload_n (k := 0) rfl (show decode cX0_init 32 = .ok (.aload_n 0, 1) by decide +kernel))),
  List.forall_mem_cons.mpr ⟨(xOK_pure (xs_iload_n (k := 2) rfl (show decode cX0_init 33 = .ok (.iload_n 2, 1) by decide +kernel))),
  (fun _ h => absurd h List.not_mem_nil)⟩⟩⟩⟩⟩⟩⟩⟩⟩⟩⟩⟩⟩⟩⟩⟩⟩⟩⟩⟩
def pX0_init_1 (ev : xEv) : List (Nat × xEn) := [(34, .inl (xo_putf 0 1 .int)), (37, .inl (xop (xf_aload 0 1))), (38, .inl (xop (xf_iload 3 1))), (39, .inl (xo_putf 0 2 .int)), (42, .inl (xop (xf_aload 0 1))), (43, .inl (xop (xf_iload 4 2))), (45, .inl (xo_putf 0 3 .int)), (48, .inl (xop (xf_aload 0 1))), (49, .inl (xop (xf_iload 5 2))), (51, .inl (xo_putf 0 4 .int)), (54, .inl (xop (xf_aload 0 1))), (55, .inl (xop (xf_iload 1 1))), (56, .inl (xo_putf 0 5 .int)), (59, .inr (.inr 0))]
set_option maxRecDepth 20000 in
theorem okpX0_init_1 (ev : xEv) : ∀ q ∈ pX0_init_1 ev, xEnOK ev xmi yX0_init.cls yX0_init.name cX0_init 6 none q :=
  List.forall_mem_cons.mpr ⟨(xs_putF (k := 1) xcl_0 (by decide) rfl rfl rfl (show decode cX0_init 34 = .ok (.putfield 28, 3) by decide +kernel) xw_755),
  List.forall_mem_cons.mpr ⟨(xOK_pure (xs_aload_n (k := 0) rfl (show decode cX0_init 37 = .ok (.aload_n 0, 1) by decide +kernel))),
  List.forall_mem_cons.mpr ⟨(xOK_pure (xs_iload_n (k := 3) rfl (show decode cX0_init 38 = .ok (.iload_n 3, 1) by decide +kernel))),
  List.forall_mem_cons.mpr ⟨(xs_putF (k := 2) xcl_0 (by decide) rfl rfl rfl (show decode cX0_init 39 = .ok (.putfield 31, 3) by decide +kernel) xw_758),
  List.forall_mem_cons.mpr ⟨(xOK_pure (xs_aload_n (k := 0) rfl (show decode cX0_init 42 = .ok (.aload_n 0, 1) by decide +kernel))),
  List.forall_mem_cons.mpr ⟨(xOK_pure (xs_iload (show decode cX0_init 43 = .ok (.iload 4, 2) by decide +kernel))),
  List.forall_mem_cons.mpr ⟨(xs_putF (k := 3) xcl_0 (by decide) rfl rfl rfl (show decode cX0_init 45 = .ok (.putfield 34, 3) by decide +kernel) xw_760),
  List.forall_mem_cons.mpr ⟨(xOK_pure (xs_aload_n (k := 0) rfl (show decode cX0_init 48 = .ok (.aload_n 0, 1) by decide +kernel))),
  List.forall_mem_cons.mpr ⟨(xOK_pure (xs_iload (show decode cX0_init 49 = .ok (.iload 5, 2) by decide +kernel))),
  List.forall_mem_cons.mpr ⟨(xs_putF (k := 4) xcl_0 (by decide) rfl rfl rfl (show decode cX0_init 51 = .ok (.putfield 37, 3) by decide +kernel) xw_762),
  List.forall_mem_cons.mpr ⟨(xOK_pure (xs_aload_n (k := 0) rfl (show decode cX0_init 54 = .ok (.aload_n 0, 1) by decide +kernel))),
  List.forall_mem_cons.mpr ⟨(xOK_pure (xs_iload_n (k := 1) rfl (show decode cX0_init 55 = .ok (.iload_n 1, 1) by decide +kernel))),
  List.forall_mem_cons.mpr ⟨(xs_putf (k := 5) xcl_0 (by decide) rfl (show decode cX0_init 56 = .ok (.putfield 40, 3) by decide +kernel) xw_763),
  List.forall_mem_cons.mpr ⟨(Or.inl ⟨rfl, (show decode cX0_init 59 = .ok (.return_, 1) by decide +kernel), rfl⟩),
  (fun _ h => absurd h List.not_mem_nil)⟩⟩⟩⟩⟩⟩⟩⟩⟩⟩⟩⟩⟩⟩
def pX0_init (ev : xEv) : List (Nat × xEn) := pX0_init_0 ev ++ (pX0_init_1 ev)
theorem okpX0_init (ev : xEv) : ∀ q ∈ pX0_init ev, xEnOK ev xmi yX0_init.cls yX0_init.name cX0_init 6 none q := List.forall_mem_append.mpr ⟨okpX0_init_0 ev, okpX0_init_1 ev⟩
theorem omX0_init (ev : xEv) : xMethOK ev xmi yX0_init.cls yX0_init.name 0 (pX0_init ev) := xMethOK.of mi_0 (by decide +kernel) (okpX0_init ev)
def pX0_isAheadOf (ev : xEv) : List (Nat × xEn) := [(0, .inl (xop (xf_aload 0 1))), (1, .inl (xop (xf_getf 0 3))), (4, .inl (xop (xf_aload 1 1))), (5, .inl (xop (xf_getf 0 3))), (8, .inl (xop (xf_icmp_lt 33))), (11, .inl (xop (xf_aload 0 1))), (12, .inl (xop (xf_getf 0 3))), (15, .inl (xop (xf_aload 1 1))), (16, .inl (xop (xf_getf 0 3))), (19, .inl (xop (xf_icmp_ne 37))), (22, .inl (xop (xf_aload 0 1))), (23, .inl (xop (xf_getf 0 4))), (26, .inl (xop (xf_aload 1 1))), (27, .inl (xop (xf_getf 0 4))), (30, .inl (xop (xf_icmp_ge 37))), (33, .inl (xop (xf_push (.int 1) 1))), (34, .inl (xop (xf_goto 38))), (37, .inl (xop (xf_push (.int 0) 1))), (38, .inr (.inr 4))]
set_option maxRecDepth 20000 in
theorem okpX0_isAheadOf (ev : xEv) : ∀ q ∈ pX0_isAheadOf ev, xEnOK ev xmi yX0_isAheadOf.cls yX0_isAheadOf.name cX0_isAheadOf 2 (some .boolean) q :=
  List.forall_mem_cons.mpr ⟨(xOK_pure (xs_aload_n (k := 0) rfl (show decode cX0_isAheadOf 0 = .ok (.aload_n 0, 1) by decide +kernel))),
  List.forall_mem_cons.mpr ⟨(xOK_pure (xs_getf xcl_0 (by decide) (show decode cX0_isAheadOf 1 = .ok (.getfield 34, 3) by decide +kernel) xw_760)),
  List.forall_mem_cons.mpr ⟨(xOK_pure (xs_aload_n (k := 1) rfl (show decode cX0_isAheadOf 4 = .ok (.aload_n 1, 1) by decide +kernel))),
  List.forall_mem_cons.mpr ⟨(xOK_pure (xs_getf xcl_0 (by decide) (show decode cX0_isAheadOf 5 = .ok (.getfield 34, 3) by decide +kernel) xw_760)),
  List.forall_mem_cons.mpr ⟨(xOK_pure (xs_icmp_lt (show decode cX0_isAheadOf 8 = .ok (.if_icmp .lt 25, 3) by decide +kernel) (by decide))),
  List.forall_mem_cons.mpr ⟨(xOK_pure (xs_aload_n (k := 0) rfl (show decode cX0_isAheadOf 11 = .ok (.aload_n 0, 1) by decide +kernel))),
  List.forall_mem_cons.mpr ⟨(xOK_pure (xs_getf xcl_0 (by decide) (show decode cX0_isAheadOf 12 = .ok (.getfield 34, 3) by decide +kernel) xw_760)),
  List.forall_mem_cons.mpr ⟨(xOK_pure (xs_aload_n (k := 1) rfl (show decode cX0_isAheadOf 15 = .ok (.aload_n 1, 1) by decide +kernel))),
  List.forall_mem_cons.mpr ⟨(xOK_pure (xs_getf xcl_0 (by decide) (show decode cX0_isAheadOf 16 = .ok (.getfield 34, 3) by decide +kernel) xw_760)),
  List.forall_mem_cons.mpr ⟨(xOK_pure (xs_icmp_ne (show decode cX0_isAheadOf 19 = .ok (.if_icmp .ne 18, 3) by decide +kernel) (by decide))),
  List.forall_mem_cons.mpr ⟨(xOK_pure (xs_aload_n (k := 0) rfl (show decode cX0_isAheadOf 22 = .ok (.aload_n 0, 1) by decide +kernel))),
  List.forall_mem_cons.mpr ⟨(xOK_pure (xs_getf xcl_0 (by decide) (show decode cX0_isAheadOf 23 = .ok (.getfield 37, 3) by decide +kernel) xw_762)),
  List.forall_mem_cons.mpr ⟨(xOK_pure (xs_aload_n (k := 1) rfl (show decode cX0_isAheadOf 26 = .ok (.aload_n 1, 1) by decide +kernel))),
  List.forall_mem_cons.mpr ⟨(xOK_pure (xs_getf xcl_0 (by decide) (show decode cX0_isAheadOf 27 = .ok (.getfield 37, 3) by decide +kernel) xw_762)),
  List.forall_mem_cons.mpr ⟨(xOK_pure (xs_icmp_ge (show decode cX0_isAheadOf 30 = .ok (.if_icmp .ge 7, 3) by decide +kernel) (by decide))),
  List.forall_mem_cons.mpr ⟨(xOK_pure (xs_iconst (n := 1) (show decode cX0_isAheadOf 33 = .ok (.iconst 1, 1) by decide +kernel) (by decide))),
  List.forall_mem_cons.mpr ⟨(xOK_pure (xs_goto (show decode cX0_isAheadOf 34 = .ok (.goto 4, 3) by decide +kernel) (by decide))),
  List.forall_mem_cons.mpr ⟨(xOK_pure (xs_iconst (n := 0) (show decode cX0_isAheadOf 37 = .ok (.iconst 0, 1) by decide +kernel) (by decide))),
  List.forall_mem_cons.mpr ⟨(Or.inr (Or.inr (Or.inr (Or.inr (Or.inl ⟨rfl, (show decode cX0_isAheadOf 38 = .ok (.ireturn, 1) by decide +kernel), rfl⟩))))),
  (fun _ h => absurd h List.not_mem_nil)⟩⟩⟩⟩⟩⟩⟩⟩⟩⟩⟩⟩⟩⟩⟩⟩⟩⟩⟩
theorem omX0_isAheadOf (ev : xEv) : xMethOK ev xmi yX0_isAheadOf.cls yX0_isAheadOf.name 1 (pX0_isAheadOf ev) := xMethOK.of mi_1 (by decide +kernel) (okpX0_isAheadOf ev)
def pX0_late (ev : xEv) : List (Nat × xEn) := [(0, .inl (xop (xf_push (.int 0) 1))), (1, .inl (xop (xf_aload 0 1))), (2, .inl (xop (xf_getf 0 8))), (5, .inl (xop (xf_aload 0 1))), (6, .inl (xop (xf_getf 0 4))), (9, .inl (xop (xf_bin (fun x y => x - y)))), (10, .inl (xop (xf_m2 (fun x y => if x < y then y else x)))), (13, .inr (.inr 1))]
set_option maxRecDepth 20000 in
theorem okpX0_late (ev : xEv) : ∀ q ∈ pX0_late ev, xEnOK ev xmi yX0_late.cls yX0_late.name cX0_late 1 (some .int) q :=
  List.forall_mem_cons.mpr ⟨(xOK_pure (xs_iconst (n := 0) (show decode cX0_late 0 = .ok (.iconst 0, 1) by decide +kernel) (by decide))),
  List.forall_mem_cons.mpr ⟨(xOK_pure (xs_aload_n (k := 0) rfl (show decode cX0_late 1 = .ok (.aload_n 0, 1) by decide +kernel))),
  List.forall_mem_cons.mpr ⟨(xOK_pure (xs_getf xcl_0 (by decide) (show decode cX0_late 2 = .ok (.getfield 18, 3) by decide +kernel) xw_772)),
  List.forall_mem_cons.mpr ⟨(xOK_pure (xs_aload_n (k := 0) rfl (show decode cX0_late 5 = .ok (.aload_n 0, 1) by decide +kernel))),
  List.forall_mem_cons.mpr ⟨(xOK_pure (xs_getf xcl_0 (by decide) (show decode cX0_late 6 = .ok (.getfield 37, 3) by decide +kernel) xw_762)),
  List.forall_mem_cons.mpr ⟨(xOK_pure (xs_isub (show decode cX0_late 9 = .ok (.isub, 1) by decide +kernel))),
  List.forall_mem_cons.mpr ⟨(xOK_pure (xs_mmax (show decode cX0_late 10 = .ok (.invokestatic 43, 3) by decide +kernel) xw_1316 xw_829 xw_127 xw_830)),
  List.forall_mem_cons.mpr ⟨(Or.inr (Or.inl ⟨rfl, (show decode cX0_late 13 = .ok (.ireturn, 1) by decide +kernel), rfl⟩)),
  (fun _ h => absurd h List.not_mem_nil)⟩⟩⟩⟩⟩⟩⟩⟩
theorem omX0_late (ev : xEv) : xMethOK ev xmi yX0_late.cls yX0_late.name 2 (pX0_late ev) := xMethOK.of mi_2 (by decide +kernel) (okpX0_late ev)
def pX0_putAt_0 (ev : xEv) : List (Nat × xEn) := [(0, .inl (xop (xf_aload 0 1))), (1, .inl (xop (xf_push (.int (-1)) 1))), (2, .inl (xo_putf 0 6 .int)), (5, .inl (xop (xf_aload 0 1))), (6, .inl (xop (xf_push (.int (-1)) 1))), (7, .inl (xo_putf 0 7 .int)), (10, .inl (xop (xf_iload 1 1))), (11, .inl (xop (xf_aload 0 1))), (12, .inl (xop (xf_getf 0 1))), (15, .inl (xop (xf_icmp_ne 39))), (18, .inl (xop (xf_aload 0 1))), (19, .inl (xop (xf_push (.int (-1)) 1))), (20, .inl (xo_putf 0 5 .int)), (23, .inl (xop (xf_aload 0 1))), (24, .inl (xop (xf_iload 2 1))), (25, .inl (xo_putf 0 8 .int)), (28, .inl (xop (xf_aload 0 1))), (29, .inl (xop (xf_iload 2 1))), (30, .inl (xop (xf_push (.int 300) 3))), (33, .inr (.inl (0, 6, 2, 0)))]
set_option maxRecDepth 20000 in
theorem okpX0_putAt_0 (ev : xEv) : ∀ q ∈ pX0_putAt_0 ev, xEnOK ev xmi yX0_putAt.cls yX0_putAt.name cX0_putAt 3 none q :=
  List.forall_mem_cons.mpr ⟨(xOK_pure (xs_aload_n (k := 0) rfl (show decode cX0_putAt 0 = .ok (.aload_n 0, 1) by decide +kernel))),
  List.forall_mem_cons.mpr ⟨(xOK_pure (xs_iconst (n := (-1)) (show decode cX0_putAt 1 = .ok (.iconst (-1), 1) by decide +kernel) (by decide))),
  List.forall_mem_cons.mpr ⟨(xs_putf (k := 6) xcl_0 (by decide) rfl (show decode cX0_putAt 2 = .ok (.putfield 9, 3) by decide +kernel) xw_766),
  List.forall_mem_cons.mpr ⟨(xOK_pure (xs_aload_n (k := 0) rfl (show decode cX0_putAt 5 = .ok (.aload_n 0, 1) by decide +kernel))),
  List.forall_mem_cons.mpr ⟨(xOK_pure (xs_iconst (n := (-1)) (show decode cX0_putAt 6 = .ok (.iconst (-1), 1) by decide +kernel) (by decide))),
  List.forall_mem_cons.mpr ⟨(xs_putf (k := 7) xcl_0 (by decide) rfl (show decode cX0_putAt 7 = .ok (.putfield 15, 3) by decide +kernel) xw_769),
  List.forall_mem_cons.mpr ⟨(xOK_pure (xs_iload_n (k := 1) rfl (show decode cX0_putAt 10 = .ok (.iload_n 1, 1) by decide +kernel))),
  List.forall_mem_cons.mpr ⟨(xOK_pure (xs_aload_n (k := 0) rfl (show decode cX0_putAt 11 = .ok (.aload_n 0, 1) by decide +kernel))),
  List.forall_mem_cons.mpr ⟨(xOK_pure (xs_getf xcl_0 (by decide) (show decode cX0_putAt 12 = .ok (.getfield 28, 3) by decide +kernel) xw_755)),
  List.forall_mem_cons.mpr ⟨(xOK_pure (xs_icmp_ne (show decode cX0_putAt 15 = .ok (.if_icmp .ne 24, 3) by decide +kernel) (by decide))),
  List.forall_mem_cons.mpr ⟨(xOK_pure (xs_aload_n (k := 0) rfl (show decode cX0_putAt 18 = .ok (.aload_n 0, 1) by decide +kernel))),
  List.forall_mem_cons.mpr ⟨(xOK_pure (xs_iconst (n := (-1)) (show decode cX0_putAt 19 = .ok (.iconst (-1), 1) by decide +kernel) (by decide))),
  List.forall_mem_cons.mpr ⟨(xs_putf (k := 5) xcl_0 (by decide) rfl (show decode cX0_putAt 20 = .ok (.putfield 40, 3) by decide +kernel) xw_763),
  List.forall_mem_cons.mpr ⟨(xOK_pure (xs_aload_n (k := 0) rfl (show decode cX0_putAt 23 = .ok (.aload_n 0, 1) by decide +kernel))),
  List.forall_mem_cons.mpr ⟨(xOK_pure (xs_iload_n (k := 2) rfl (show decode cX0_putAt 24 = .ok (.iload_n 2, 1) by decide +kernel))),
  List.forall_mem_cons.mpr ⟨(xs_putf (k := 8) xcl_0 (by decide) rfl (show decode cX0_putAt 25 = .ok (.putfield 18, 3) by decide +kernel) xw_772),
  List.forall_mem_cons.mpr ⟨(xOK_pure (xs_aload_n (k := 0) rfl (show decode cX0_putAt 28 = .ok (.aload_n 0, 1) by decide +kernel))),
  List.forall_mem_cons.mpr ⟨(xOK_pure (xs_iload_n (k := 2) rfl (show decode cX0_putAt 29 = .ok (.iload_n 2, 1) by decide +kernel))),
  List.forall_mem_cons.mpr ⟨(xOK_pure (xs_sipush (n := 300) (show decode cX0_putAt 30 = .ok (.sipush 300, 3) by decide +kernel) (by decide))),
  List.forall_mem_cons.mpr ⟨(xcm mi_6 ⟨⟨(by decide +kernel), (by decide +kernel), (by decide +kernel)⟩, (by decide), xw_812, xw_134, Or.inl ⟨rfl, _, _, _, _, (show decode cX0_putAt 33 = .ok (.invokevirtual 49, 3) by decide +kernel), xw_835, xw_810, xw_811, rfl⟩⟩),
  (fun _ h => absurd h List.not_mem_nil)⟩⟩⟩⟩⟩⟩⟩⟩⟩⟩⟩⟩⟩⟩⟩⟩⟩⟩⟩⟩
def pX0_putAt_1 (ev : xEv) : List (Nat × xEn) := [(36, .inl (xop (xf_goto 50))), (39, .inl (xop (xf_aload 0 1))), (40, .inl (xop (xf_iload 1 1))), (41, .inl (xo_putf 0 5 .int)), (44, .inl (xop (xf_aload 0 1))), (45, .inl (xop (xf_iload 2 1))), (46, .inl (xop (xf_iload 1 1))), (47, .inr (.inl (0, 6, 2, 0))), (50, .inr (.inr 0))]
set_option maxRecDepth 20000 in
theorem okpX0_putAt_1 (ev : xEv) : ∀ q ∈ pX0_putAt_1 ev, xEnOK ev xmi yX0_putAt.cls yX0_putAt.name cX0_putAt 3 none q :=
  List.forall_mem_cons.mpr ⟨(xOK_pure (xs_goto (show decode cX0_putAt 36 = .ok (.goto 14, 3) by decide +kernel) (by decide))),
  List.forall_mem_cons.mpr ⟨(xOK_pure (xs_aload_n (k := 0) rfl (show decode cX0_putAt 39 = .ok (.aload_n 0, 1) by decide +kernel))),
  List.forall_mem_cons.mpr ⟨(xOK_pure (xs_iload_n (k := 1) rfl (show decode cX0_putAt 40 = .ok (.iload_n 1, 1) by decide +kernel))),
  List.forall_mem_cons.mpr ⟨(xs_putf (k := 5) xcl_0 (by decide) rfl (show decode cX0_putAt 41 = .ok (.putfield 40, 3) by decide +kernel) xw_763),
  List.forall_mem_cons.mpr ⟨(xOK_pure (xs_aload_n (k := 0) rfl (show decode cX0_putAt 44 = .ok (.aload_n 0, 1) by decide +kernel))),
  List.forall_mem_cons.mpr ⟨(xOK_pure (xs_iload_n (k := 2) rfl (show decode cX0_putAt 45 = .ok (.iload_n 2, 1) by decide +kernel))),
  List.forall_mem_cons.mpr ⟨(xOK_pure (xs_iload_n (k := 1) rfl (show decode cX0_putAt 46 = .ok (.iload_n 1, 1) by decide +kernel))),
  List.forall_mem_cons.mpr ⟨(xcm mi_6 ⟨⟨(by decide +kernel), (by decide +kernel), (by decide +kernel)⟩, (by decide), xw_812, xw_134, Or.inl ⟨rfl, _, _, _, _, (show decode cX0_putAt 47 = .ok (.invokevirtual 49, 3) by decide +kernel), xw_835, xw_810, xw_811, rfl⟩⟩),
  List.forall_mem_cons.mpr ⟨(Or.inl ⟨rfl, (show decode cX0_putAt 50 = .ok (.return_, 1) by decide +kernel), rfl⟩),
  (fun _ h => absurd h List.not_mem_nil)⟩⟩⟩⟩⟩⟩⟩⟩⟩
def pX0_putAt (ev : xEv) : List (Nat × xEn) := pX0_putAt_0 ev ++ (pX0_putAt_1 ev)
theorem okpX0_putAt (ev : xEv) : ∀ q ∈ pX0_putAt ev, xEnOK ev xmi yX0_putAt.cls yX0_putAt.name cX0_putAt 3 none q := List.forall_mem_append.mpr ⟨okpX0_putAt_0 ev, okpX0_putAt_1 ev⟩
theorem omX0_putAt (ev : xEv) : xMethOK ev xmi yX0_putAt.cls yX0_putAt.name 3 (pX0_putAt ev) := xMethOK.of mi_3 (by decide +kernel) (okpX0_putAt ev)
def pX0_embark (ev : xEv) : List (Nat × xEn) := [(0, .inl (xop (xf_aload 0 1))), (1, .inl (xop (xf_push (.int (-1)) 1))), (2, .inl (xo_putf 0 5 .int)), (5, .inl (xop (xf_aload 0 1))), (6, .inl (xop (xf_iload 1 1))), (7, .inl (xo_putf 0 6 .int)), (10, .inl (xop (xf_aload 0 1))), (11, .inl (xop (xf_iload 2 1))), (12, .inl (xop (xf_push (.int 100) 2))), (14, .inl (xop (xf_iload 1 1))), (15, .inl (xop (xf_bin (fun x y => x + y)))), (16, .inr (.inl (0, 6, 2, 0))), (19, .inr (.inr 0))]
set_option maxRecDepth 20000 in
theorem okpX0_embark (ev : xEv) : ∀ q ∈ pX0_embark ev, xEnOK ev xmi yX0_embark.cls yX0_embark.name cX0_embark 3 none q :=
  List.forall_mem_cons.mpr ⟨(xOK_pure (xs_aload_n (k := 0) rfl (show decode cX0_embark 0 = .ok (.aload_n 0, 1) by decide +kernel))),
  List.forall_mem_cons.mpr ⟨(xOK_pure (xs_iconst (n := (-1)) (show decode cX0_embark 1 = .ok (.iconst (-1), 1) by decide +kernel) (by decide))),
  List.forall_mem_cons.mpr ⟨(xs_putf (k := 5) xcl_0 (by decide) rfl (show decode cX0_embark 2 = .ok (.putfield 40, 3) by decide +kernel) xw_763),
  List.forall_mem_cons.mpr ⟨(xOK_pure (xs_aload_n (k := 0) rfl (show decode cX0_embark 5 = .ok (.aload_n 0, 1) by decide +kernel))),
  List.forall_mem_cons.mpr ⟨(xOK_pure (xs_iload_n (k := 1) rfl (show decode cX0_embark 6 = .ok (.iload_n 1, 1) by decide +kernel))),
  List.forall_mem_cons.mpr ⟨(xs_putf (k := 6) xcl_0 (by decide) rfl (show decode cX0_embark 7 = .ok (.putfield 9, 3) by decide +kernel) xw_766),
  List.forall_mem_cons.mpr ⟨(xOK_pure (xs_aload_n (k := 0) rfl (show decode cX0_embark 10 = .ok (.aload_n 0, 1) by decide +kernel))),
  List.forall_mem_cons.mpr ⟨(xOK_pure (xs_iload_n (k := 2) rfl (show decode cX0_embark 11 = .ok (.iload_n 2, 1) by decide +kernel))),
  List.forall_mem_cons.mpr ⟨(xOK_pure (xs_bipush (n := 100) (show decode cX0_embark 12 = .ok (.bipush 100, 2) by decide +kernel) (by decide))),
  List.forall_mem_cons.mpr ⟨(xOK_pure (xs_iload_n (k := 1) rfl (show decode cX0_embark 14 = .ok (.iload_n 1, 1) by decide +kernel))),
  List.forall_mem_cons.mpr ⟨(xOK_pure (xs_iadd (show decode cX0_embark 15 = .ok (.iadd, 1) by decide +kernel))),
  List.forall_mem_cons.mpr ⟨(xcm mi_6 ⟨⟨(by decide +kernel), (by decide +kernel), (by decide +kernel)⟩, (by decide), xw_812, xw_134, Or.inl ⟨rfl, _, _, _, _, (show decode cX0_embark 16 = .ok (.invokevirtual 49, 3) by decide +kernel), xw_835, xw_810, xw_811, rfl⟩⟩),
  List.forall_mem_cons.mpr ⟨(Or.inl ⟨rfl, (show decode cX0_embark 19 = .ok (.return_, 1) by decide +kernel), rfl⟩),
  (fun _ h => absurd h List.not_mem_nil)⟩⟩⟩⟩⟩⟩⟩⟩⟩⟩⟩⟩⟩
theorem omX0_embark (ev : xEv) : xMethOK ev xmi yX0_embark.cls yX0_embark.name 4 (pX0_embark ev) := xMethOK.of mi_4 (by decide +kernel) (okpX0_embark ev)
def pX0_entrain (ev : xEv) : List (Nat × xEn) := [(0, .inl (xop (xf_aload 0 1))), (1, .inl (xop (xf_push (.int (-1)) 1))), (2, .inl (xo_putf 0 5 .int)), (5, .inl (xop (xf_aload 0 1))), (6, .inl (xop (xf_iload 2 1))), (7, .inl (xo_putf 0 7 .int)), (10, .inl (xop (xf_aload 0 1))), (11, .inl (xop (xf_iload 1 1))), (12, .inl (xop (xf_push (.int 200) 3))), (15, .inr (.inl (0, 6, 2, 0))), (18, .inr (.inr 0))]
set_option maxRecDepth 20000 in
theorem okpX0_entrain (ev : xEv) : ∀ q ∈ pX0_entrain ev, xEnOK ev xmi yX0_entrain.cls yX0_entrain.name cX0_entrain 3 none q :=
  List.forall_mem_cons.mpr ⟨(xOK_pure (xs_aload_n (k := 0) rfl (show decode cX0_entrain 0 = .ok (.aload_n 0, 1) by decide +kernel))),
  List.forall_mem_cons.mpr ⟨(xOK_pure (xs_iconst (n := (-1)) (show decode cX0_entrain 1 = .ok (.iconst (-1), 1) by decide +kernel) (by decide))),
  List.forall_mem_cons.mpr ⟨(xs_putf (k := 5) xcl_0 (by decide) rfl (show decode cX0_entrain 2 = .ok (.putfield 40, 3) by decide +kernel) xw_763),
  List.forall_mem_cons.mpr ⟨(xOK_pure (xs_aload_n (k := 0) rfl (show decode cX0_entrain 5 = .ok (.aload_n 0, 1) by decide +kernel))),
  List.forall_mem_cons.mpr ⟨(xOK_pure (xs_iload_n (k := 2) rfl (show decode cX0_entrain 6 = .ok (.iload_n 2, 1) by decide +kernel))),
  List.forall_mem_cons.mpr ⟨(xs_putf (k := 7) xcl_0 (by decide) rfl (show decode cX0_entrain 7 = .ok (.putfield 15, 3) by decide +kernel) xw_769),
  List.forall_mem_cons.mpr ⟨(xOK_pure (xs_aload_n (k := 0) rfl (show decode cX0_entrain 10 = .ok (.aload_n 0, 1) by decide +kernel))),
  List.forall_mem_cons.mpr ⟨(xOK_pure (xs_iload_n (k := 1) rfl (show decode cX0_entrain 11 = .ok (.iload_n 1, 1) by decide +kernel))),
  List.forall_mem_cons.mpr ⟨(xOK_pure (xs_sipush (n := 200) (show decode cX0_entrain 12 = .ok (.sipush 200, 3) by decide +kernel) (by decide))),
  List.forall_mem_cons.mpr ⟨(xcm mi_6 ⟨⟨(by decide +kernel), (by decide +kernel), (by decide +kernel)⟩, (by decide), xw_812, xw_134, Or.inl ⟨rfl, _, _, _, _, (show decode cX0_entrain 15 = .ok (.invokevirtual 49, 3) by decide +kernel), xw_835, xw_810, xw_811, rfl⟩⟩),
  List.forall_mem_cons.mpr ⟨(Or.inl ⟨rfl, (show decode cX0_entrain 18 = .ok (.return_, 1) by decide +kernel), rfl⟩),
  (fun _ h => absurd h List.not_mem_nil)⟩⟩⟩⟩⟩⟩⟩⟩⟩⟩⟩
theorem omX0_entrain (ev : xEv) : xMethOK ev xmi yX0_entrain.cls yX0_entrain.name 5 (pX0_entrain ev) := xMethOK.of mi_5 (by decide +kernel) (okpX0_entrain ev)
def pX0_addStep_0 (ev : xEv) : List (Nat × xEn) := [(0, .inl (xop (xf_aload 0 1))), (1, .inl (xop (xf_getf 0 10))), (4, .inl (xop (xf_push (.int 16) 2))), (6, .inl (xop (xf_icmp_ge 45))), (9, .inl (xop (xf_aload 0 1))), (10, .inl (xop (xf_getf 0 9))), (13, .inl (xop (xf_push (.int 2) 1))), (14, .inl (xop (xf_aload 0 1))), (15, .inl (xop (xf_getf 0 10))), (18, .inl (xop (xf_bin (fun x y => x * y)))), (19, .inl (xop (xf_iload 1 1))), (20, .inl (xo_ast (ev.1 0) (fun x => x))), (21, .inl (xop (xf_aload 0 1))), (22, .inl (xop (xf_getf 0 9))), (25, .inl (xop (xf_push (.int 2) 1))), (26, .inl (xop (xf_aload 0 1))), (27, .inl (xop (xf_getf 0 10))), (30, .inl (xop (xf_bin (fun x y => x * y)))), (31, .inl (xop (xf_push (.int 1) 1))), (32, .inl (xop (xf_bin (fun x y => x + y))))]
set_option maxRecDepth 20000 in
theorem okpX0_addStep_0 (ev : xEv) : ∀ q ∈ pX0_addStep_0 ev, xEnOK ev xmi yX0_addStep.cls yX0_addStep.name cX0_addStep 3 none q :=
  List.forall_mem_cons.mpr ⟨(xOK_pure (xs_aload_n (k := 0) rfl (show decode cX0_addStep 0 = .ok (.aload_n 0, 1) by decide +kernel))),
  List.forall_mem_cons.mpr ⟨(xOK_pure (xs_getf xcl_0 (by decide) (show decode cX0_addStep 1 = .ok (.getfield 53, 3) by decide +kernel) xw_777)),
  List.forall_mem_cons.mpr ⟨(xOK_pure (xs_bipush (n := 16) (show decode cX0_addStep 4 = .ok (.bipush 16, 2) by decide +kernel) (by decide))),
  List.forall_mem_cons.mpr ⟨(xOK_pure (xs_icmp_ge (show decode cX0_addStep 6 = .ok (.if_icmp .ge 39, 3) by decide +kernel) (by decide))),
  List.forall_mem_cons.mpr ⟨(xOK_pure (xs_aload_n (k := 0) rfl (show decode cX0_addStep 9 = .ok (.aload_n 0, 1) by decide +kernel))),
  List.forall_mem_cons.mpr ⟨(xOK_pure (xs_getf xcl_0 (by decide) (show decode cX0_addStep 10 = .ok (.getfield 21, 3) by decide +kernel) xw_775)),
  List.forall_mem_cons.mpr ⟨(xOK_pure (xs_iconst (n := 2) (show decode cX0_addStep 13 = .ok (.iconst 2, 1) by decide +kernel) (by decide))),
  List.forall_mem_cons.mpr ⟨(xOK_pure (xs_aload_n (k := 0) rfl (show decode cX0_addStep 14 = .ok (.aload_n 0, 1) by decide +kernel))),
  List.forall_mem_cons.mpr ⟨(xOK_pure (xs_getf xcl_0 (by decide) (show decode cX0_addStep 15 = .ok (.getfield 53, 3) by decide +kernel) xw_777)),
  List.forall_mem_cons.mpr ⟨(xOK_pure (xs_imul (show decode cX0_addStep 18 = .ok (.imul, 1) by decide +kernel))),
  List.forall_mem_cons.mpr ⟨(xOK_pure (xs_iload_n (k := 1) rfl (show decode cX0_addStep 19 = .ok (.iload_n 1, 1) by decide +kernel))),
  List.forall_mem_cons.mpr ⟨(xs_iast (show decode cX0_addStep 20 = .ok (.iastore, 1) by decide +kernel)),
  List.forall_mem_cons.mpr ⟨(xOK_pure (xs_aload_n (k := 0) rfl (show decode cX0_addStep 21 = .ok (.aload_n 0, 1) by decide +kernel))),
  List.forall_mem_cons.mpr ⟨(xOK_pure (xs_getf xcl_0 (by decide) (show decode cX0_addStep 22 = .ok (.getfield 21, 3) by decide +kernel) xw_775)),
  List.forall_mem_cons.mpr ⟨(xOK_pure (xs_iconst (n := 2) (show decode cX0_addStep 25 = .ok (.iconst 2, 1) by decide +kernel) (by decide))),
  List.forall_mem_cons.mpr ⟨(xOK_pure (xs_aload_n (k := 0) rfl (show decode cX0_addStep 26 = .ok (.aload_n 0, 1) by decide +kernel))),
  List.forall_mem_cons.mpr ⟨(xOK_pure (xs_getf xcl_0 (by decide) (show decode cX0_addStep 27 = .ok (.getfield 53, 3) by decide +kernel) xw_777)),
  List.forall_mem_cons.mpr ⟨(xOK_pure (xs_imul (show decode cX0_addStep 30 = .ok (.imul, 1) by decide +kernel))),
  List.forall_mem_cons.mpr ⟨(xOK_pure (xs_iconst (n := 1) (show decode cX0_addStep 31 = .ok (.iconst 1, 1) by decide +kernel) (by decide))),
  List.forall_mem_cons.mpr ⟨(xOK_pure (xs_iadd (show decode cX0_addStep 32 = .ok (.iadd, 1) by decide +kernel))),
  (fun _ h => absurd h List.not_mem_nil)⟩⟩⟩⟩⟩⟩⟩⟩⟩⟩⟩⟩⟩⟩⟩⟩⟩⟩⟩⟩
def pX0_addStep_1 (ev : xEv) : List (Nat × xEn) := [(33, .inl (xop (xf_iload 2 1))), (34, .inl (xo_ast (ev.1 0) (fun x => x))), (35, .inl (xop (xf_aload 0 1))), (36, .inl (xop xf_dup)), (37, .inl (xop (xf_getf 0 10))), (40, .inl (xop (xf_push (.int 1) 1))), (41, .inl (xop (xf_bin (fun x y => x + y)))), (42, .inl (xo_putf 0 10 .int)), (45, .inr (.inr 0))]
set_option maxRecDepth 20000 in
theorem okpX0_addStep_1 (ev : xEv) : ∀ q ∈ pX0_addStep_1 ev, xEnOK ev xmi yX0_addStep.cls yX0_addStep.name cX0_addStep 3 none q :=
  List.forall_mem_cons.mpr ⟨(xOK_pure (xs_iload_n (k := 2) rfl (show decode cX0_addStep 33 = .ok (.iload_n 2, 1) by decide +kernel))),
  List.forall_mem_cons.mpr ⟨(xs_iast (show decode cX0_addStep 34 = .ok (.iastore, 1) by decide +kernel)),
  List.forall_mem_cons.mpr ⟨(xOK_pure (xs_aload_n (k := 0) rfl (show decode cX0_addStep 35 = .ok (.aload_n 0, 1) by decide +kernel))),
  List.forall_mem_cons.mpr ⟨(xOK_pure (xs_dup (show decode cX0_addStep 36 = .ok (.dup, 1) by decide +kernel))),
  List.forall_mem_cons.mpr ⟨(xOK_pure (xs_getf xcl_0 (by decide) (show decode cX0_addStep 37 = .ok (.getfield 53, 3) by decide +kernel) xw_777)),
  List.forall_mem_cons.mpr ⟨(xOK_pure (xs_iconst (n := 1) (show decode cX0_addStep 40 = .ok (.iconst 1, 1) by decide +kernel) (by decide))),
  List.forall_mem_cons.mpr ⟨(xOK_pure (xs_iadd (show decode cX0_addStep 41 = .ok (.iadd, 1) by decide +kernel))),
  List.forall_mem_cons.mpr ⟨(xs_putf (k := 10) xcl_0 (by decide) rfl (show decode cX0_addStep 42 = .ok (.putfield 53, 3) by decide +kernel) xw_777),
  List.forall_mem_cons.mpr ⟨(Or.inl ⟨rfl, (show decode cX0_addStep 45 = .ok (.return_, 1) by decide +kernel), rfl⟩),
  (fun _ h => absurd h List.not_mem_nil)⟩⟩⟩⟩⟩⟩⟩⟩⟩
def pX0_addStep (ev : xEv) : List (Nat × xEn) := pX0_addStep_0 ev ++ (pX0_addStep_1 ev)
theorem okpX0_addStep (ev : xEv) : ∀ q ∈ pX0_addStep ev, xEnOK ev xmi yX0_addStep.cls yX0_addStep.name cX0_addStep 3 none q := List.forall_mem_append.mpr ⟨okpX0_addStep_0 ev, okpX0_addStep_1 ev⟩
theorem omX0_addStep (ev : xEv) : xMethOK ev xmi yX0_addStep.cls yX0_addStep.name 6 (pX0_addStep ev) := xMethOK.of mi_6 (by decide +kernel) (okpX0_addStep ev)
def pX0_keep_0 (ev : xEv) : List (Nat × xEn) := [(0, .inl (xop (xf_aload 0 1))), (1, .inl (xop (xf_getf 0 11))), (4, .inl (xop (xf_ifnonnull 38))), (7, .inl (xop (xf_aload 0 1))), (8, .inl (xo_new 0 12 [.int 0, .int 0, .int 0, .int 0, .int 0, .int 0, .int 0, .int 0, .int 0, .null, .int 0, .null])), (11, .inl (xop xf_dup)), (12, .inl (xop (xf_aload 0 1))), (13, .inl (xop (xf_getf 0 0))), (16, .inl (xop (xf_aload 0 1))), (17, .inl (xop (xf_getf 0 1))), (20, .inl (xop (xf_aload 0 1))), (21, .inl (xop (xf_getf 0 2))), (24, .inl (xop (xf_aload 0 1))), (25, .inl (xop (xf_getf 0 3))), (28, .inl (xop (xf_aload 0 1))), (29, .inl (xop (xf_getf 0 4))), (32, .inr (.inl (2, 0, 5, 0))), (35, .inl (xo_putf 0 11 (.object "AirMail$Bag"))), (38, .inl (xop (xf_aload 0 1))), (39, .inl (xop (xf_aload 0 1)))]
set_option maxRecDepth 20000 in
theorem okpX0_keep_0 (ev : xEv) : ∀ q ∈ pX0_keep_0 ev, xEnOK ev xmi yX0_keep.cls yX0_keep.name cX0_keep 1 none q :=
  List.forall_mem_cons.mpr ⟨(xOK_pure (xs_aload_n (k := 0) rfl (show decode cX0_keep 0 = .ok (.aload_n 0, 1) by decide +kernel))),
  List.forall_mem_cons.mpr ⟨(xOK_pure (xs_getf xcl_0 (by decide) (show decode cX0_keep 1 = .ok (.getfield 56, 3) by decide +kernel) xw_779)),
  List.forall_mem_cons.mpr ⟨(xOK_pure (xs_ifnonnull (show decode cX0_keep 4 = .ok (.ifnonnull 34, 3) by decide +kernel) (by decide))),
  List.forall_mem_cons.mpr ⟨(xOK_pure (xs_aload_n (k := 0) rfl (show decode cX0_keep 7 = .ok (.aload_n 0, 1) by decide +kernel))),
  List.forall_mem_cons.mpr ⟨(xs_new xcl_0 (by decide +kernel) (show decode cX0_keep 8 = .ok (.new 10, 3) by decide +kernel) xw_1498 xw_748 xw_134),
  List.forall_mem_cons.mpr ⟨(xOK_pure (xs_dup (show decode cX0_keep 11 = .ok (.dup, 1) by decide +kernel))),
  List.forall_mem_cons.mpr ⟨(xOK_pure (xs_aload_n (k := 0) rfl (show decode cX0_keep 12 = .ok (.aload_n 0, 1) by decide +kernel))),
  List.forall_mem_cons.mpr ⟨(xOK_pure (xs_getf xcl_0 (by decide) (show decode cX0_keep 13 = .ok (.getfield 25, 3) by decide +kernel) xw_753)),
  List.forall_mem_cons.mpr ⟨(xOK_pure (xs_aload_n (k := 0) rfl (show decode cX0_keep 16 = .ok (.aload_n 0, 1) by decide +kernel))),
  List.forall_mem_cons.mpr ⟨(xOK_pure (xs_getf xcl_0 (by decide) (show decode cX0_keep 17 = .ok (.getfield 28, 3) by decide +kernel) xw_755)),
  List.forall_mem_cons.mpr ⟨(xOK_pure (xs_aload_n (k := 0) rfl (show decode cX0_keep 20 = .ok (.aload_n 0, 1) by decide +kernel))),
  List.forall_mem_cons.mpr ⟨(xOK_pure (xs_getf xcl_0 (by decide) (show decode cX0_keep 21 = .ok (.getfield 31, 3) by decide +kernel) xw_758)),
  List.forall_mem_cons.mpr ⟨(xOK_pure (xs_aload_n (k := 0) rfl (show decode cX0_keep 24 = .ok (.aload_n 0, 1) by decide +kernel))),
  List.forall_mem_cons.mpr ⟨(xOK_pure (xs_getf xcl_0 (by decide) (show decode cX0_keep 25 = .ok (.getfield 34, 3) by decide +kernel) xw_760)),
  List.forall_mem_cons.mpr ⟨(xOK_pure (xs_aload_n (k := 0) rfl (show decode cX0_keep 28 = .ok (.aload_n 0, 1) by decide +kernel))),
  List.forall_mem_cons.mpr ⟨(xOK_pure (xs_getf xcl_0 (by decide) (show decode cX0_keep 29 = .ok (.getfield 37, 3) by decide +kernel) xw_762)),
  List.forall_mem_cons.mpr ⟨(xcm mi_0 ⟨⟨(by decide +kernel), (by decide +kernel), (by decide +kernel)⟩, (by decide), xw_751, xw_134, Or.inr (Or.inr (Or.inl ⟨rfl, _, (show decode cX0_keep 32 = .ok (.invokespecial 60, 3) by decide +kernel), rfl, xw_1499, xw_750, rfl⟩))⟩),
  List.forall_mem_cons.mpr ⟨(xs_putf (k := 11) xcl_0 (by decide) rfl (show decode cX0_keep 35 = .ok (.putfield 56, 3) by decide +kernel) xw_779),
  List.forall_mem_cons.mpr ⟨(xOK_pure (xs_aload_n (k := 0) rfl (show decode cX0_keep 38 = .ok (.aload_n 0, 1) by decide +kernel))),
  List.forall_mem_cons.mpr ⟨(xOK_pure (xs_aload_n (k := 0) rfl (show decode cX0_keep 39 = .ok (.aload_n 0, 1) by decide +kernel))),
  (fun _ h => absurd h List.not_mem_nil)⟩⟩⟩⟩⟩⟩⟩⟩⟩⟩⟩⟩⟩⟩⟩⟩⟩⟩⟩⟩
def pX0_keep_1 (ev : xEv) : List (Nat × xEn) := [(40, .inl (xop (xf_getf 0 11))), (43, .inr (.inl (1, 9, 2, 0))), (46, .inr (.inr 0))]
set_option maxRecDepth 20000 in
theorem okpX0_keep_1 (ev : xEv) : ∀ q ∈ pX0_keep_1 ev, xEnOK ev xmi yX0_keep.cls yX0_keep.name cX0_keep 1 none q :=
  List.forall_mem_cons.mpr ⟨(xOK_pure (xs_getf xcl_0 (by decide) (show decode cX0_keep 40 = .ok (.getfield 56, 3) by decide +kernel) xw_779)),
  List.forall_mem_cons.mpr ⟨(xcm mi_9 ⟨⟨(by decide +kernel), (by decide +kernel), (by decide +kernel)⟩, (by decide), xw_1502, xw_134, Or.inr (Or.inl ⟨rfl, _, (show decode cX0_keep 43 = .ok (.invokestatic 63, 3) by decide +kernel), xw_1500, xw_1501⟩)⟩),
  List.forall_mem_cons.mpr ⟨(Or.inl ⟨rfl, (show decode cX0_keep 46 = .ok (.return_, 1) by decide +kernel), rfl⟩),
  (fun _ h => absurd h List.not_mem_nil)⟩⟩⟩
def pX0_keep (ev : xEv) : List (Nat × xEn) := pX0_keep_0 ev ++ (pX0_keep_1 ev)
theorem okpX0_keep (ev : xEv) : ∀ q ∈ pX0_keep ev, xEnOK ev xmi yX0_keep.cls yX0_keep.name cX0_keep 1 none q := List.forall_mem_append.mpr ⟨okpX0_keep_0 ev, okpX0_keep_1 ev⟩
theorem omX0_keep (ev : xEv) : xMethOK ev xmi yX0_keep.cls yX0_keep.name 7 (pX0_keep ev) := xMethOK.of mi_7 (by decide +kernel) (okpX0_keep ev)
def pX0_giveBack (ev : xEv) : List (Nat × xEn) := [(0, .inl (xop (xf_aload 0 1))), (1, .inl (xop (xf_getf 0 11))), (4, .inl (xop (xf_ifnull 15))), (7, .inl (xop (xf_aload 0 1))), (8, .inl (xop (xf_getf 0 11))), (11, .inl (xop (xf_aload 0 1))), (12, .inr (.inl (1, 9, 2, 0))), (15, .inr (.inr 0))]
set_option maxRecDepth 20000 in
theorem okpX0_giveBack (ev : xEv) : ∀ q ∈ pX0_giveBack ev, xEnOK ev xmi yX0_giveBack.cls yX0_giveBack.name cX0_giveBack 1 none q :=
  List.forall_mem_cons.mpr ⟨(xOK_pure (xs_aload_n (k := 0) rfl (show decode cX0_giveBack 0 = .ok (.aload_n 0, 1) by decide +kernel))),
  List.forall_mem_cons.mpr ⟨(xOK_pure (xs_getf xcl_0 (by decide) (show decode cX0_giveBack 1 = .ok (.getfield 56, 3) by decide +kernel) xw_779)),
  List.forall_mem_cons.mpr ⟨(xOK_pure (xs_ifnull (show decode cX0_giveBack 4 = .ok (.ifnull 11, 3) by decide +kernel) (by decide))),
  List.forall_mem_cons.mpr ⟨(xOK_pure (xs_aload_n (k := 0) rfl (show decode cX0_giveBack 7 = .ok (.aload_n 0, 1) by decide +kernel))),
  List.forall_mem_cons.mpr ⟨(xOK_pure (xs_getf xcl_0 (by decide) (show decode cX0_giveBack 8 = .ok (.getfield 56, 3) by decide +kernel) xw_779)),
  List.forall_mem_cons.mpr ⟨(xOK_pure (xs_aload_n (k := 0) rfl (show decode cX0_giveBack 11 = .ok (.aload_n 0, 1) by decide +kernel))),
  List.forall_mem_cons.mpr ⟨(xcm mi_9 ⟨⟨(by decide +kernel), (by decide +kernel), (by decide +kernel)⟩, (by decide), xw_1502, xw_134, Or.inr (Or.inl ⟨rfl, _, (show decode cX0_giveBack 12 = .ok (.invokestatic 63, 3) by decide +kernel), xw_1500, xw_1501⟩)⟩),
  List.forall_mem_cons.mpr ⟨(Or.inl ⟨rfl, (show decode cX0_giveBack 15 = .ok (.return_, 1) by decide +kernel), rfl⟩),
  (fun _ h => absurd h List.not_mem_nil)⟩⟩⟩⟩⟩⟩⟩⟩
theorem omX0_giveBack (ev : xEv) : xMethOK ev xmi yX0_giveBack.cls yX0_giveBack.name 8 (pX0_giveBack ev) := xMethOK.of mi_8 (by decide +kernel) (okpX0_giveBack ev)
def pX0_copy_0 (ev : xEv) : List (Nat × xEn) := [(0, .inl (xop (xf_aload 1 1))), (1, .inl (xop (xf_aload 0 1))), (2, .inl (xop (xf_getf 0 5))), (5, .inl (xo_putf 0 5 .int)), (8, .inl (xop (xf_aload 1 1))), (9, .inl (xop (xf_aload 0 1))), (10, .inl (xop (xf_getf 0 6))), (13, .inl (xo_putf 0 6 .int)), (16, .inl (xop (xf_aload 1 1))), (17, .inl (xop (xf_aload 0 1))), (18, .inl (xop (xf_getf 0 7))), (21, .inl (xo_putf 0 7 .int)), (24, .inl (xop (xf_aload 1 1))), (25, .inl (xop (xf_aload 0 1))), (26, .inl (xop (xf_getf 0 8))), (29, .inl (xo_putf 0 8 .int)), (32, .inl (xop (xf_aload 1 1))), (33, .inl (xop (xf_aload 0 1))), (34, .inl (xop (xf_getf 0 10))), (37, .inl (xo_putf 0 10 .int))]
set_option maxRecDepth 20000 in
theorem okpX0_copy_0 (ev : xEv) : ∀ q ∈ pX0_copy_0 ev, xEnOK ev xmi yX0_copy.cls yX0_copy.name cX0_copy 2 none q :=
  List.forall_mem_cons.mpr ⟨(xOK_pure (xs_aload_n (k := 1) rfl (show decode cX0_copy 0 = .ok (.aload_n 1, 1) by decide +kernel))),
  List.forall_mem_cons.mpr ⟨(xOK_pure (xs_aload_n (k := 0) rfl (show decode cX0_copy 1 = .ok (.aload_n 0, 1) by decide +kernel))),
  List.forall_mem_cons.mpr ⟨(xOK_pure (xs_getf xcl_0 (by decide) (show decode cX0_copy 2 = .ok (.getfield 40, 3) by decide +kernel) xw_763)),
  List.forall_mem_cons.mpr ⟨(xs_putf (k := 5) xcl_0 (by decide) rfl (show decode cX0_copy 5 = .ok (.putfield 40, 3) by decide +kernel) xw_763),
  List.forall_mem_cons.mpr ⟨(xOK_pure (xs_aload_n (k := 1) rfl (show decode cX0_copy 8 = .ok (.aload_n 1, 1) by decide +kernel))),
  List.forall_mem_cons.mpr ⟨(xOK_pure (xs_aload_n (k := 0) rfl (show decode cX0_copy 9 = .ok (.aload_n 0, 1) by decide +kernel))),
  List.forall_mem_cons.mpr ⟨(xOK_pure (xs_getf xcl_0 (by decide) (show decode cX0_copy 10 = .ok (.getfield 9, 3) by decide +kernel) xw_766)),
  List.forall_mem_cons.mpr ⟨(xs_putf (k := 6) xcl_0 (by decide) rfl (show decode cX0_copy 13 = .ok (.putfield 9, 3) by decide +kernel) xw_766),
  List.forall_mem_cons.mpr ⟨(xOK_pure (xs_aload_n (k := 1) rfl (show decode cX0_copy 16 = .ok (.aload_n 1, 1) by decide +kernel))),
  List.forall_mem_cons.mpr ⟨(xOK_pure (xs_aload_n (k := 0) rfl (show decode cX0_copy 17 = .ok (.aload_n 0, 1) by decide +kernel))),
  List.forall_mem_cons.mpr ⟨(xOK_pure (xs_getf xcl_0 (by decide) (show decode cX0_copy 18 = .ok (.getfield 15, 3) by decide +kernel) xw_769)),
  List.forall_mem_cons.mpr ⟨(xs_putf (k := 7) xcl_0 (by decide) rfl (show decode cX0_copy 21 = .ok (.putfield 15, 3) by decide +kernel) xw_769),
  List.forall_mem_cons.mpr ⟨(xOK_pure (xs_aload_n (k := 1) rfl (show decode cX0_copy 24 = .ok (.aload_n 1, 1) by decide +kernel))),
  List.forall_mem_cons.mpr ⟨(xOK_pure (xs_aload_n (k := 0) rfl (show decode cX0_copy 25 = .ok (.aload_n 0, 1) by decide +kernel))),
  List.forall_mem_cons.mpr ⟨(xOK_pure (xs_getf xcl_0 (by decide) (show decode cX0_copy 26 = .ok (.getfield 18, 3) by decide +kernel) xw_772)),
  List.forall_mem_cons.mpr ⟨(xs_putf (k := 8) xcl_0 (by decide) rfl (show decode cX0_copy 29 = .ok (.putfield 18, 3) by decide +kernel) xw_772),
  List.forall_mem_cons.mpr ⟨(xOK_pure (xs_aload_n (k := 1) rfl (show decode cX0_copy 32 = .ok (.aload_n 1, 1) by decide +kernel))),
  List.forall_mem_cons.mpr ⟨(xOK_pure (xs_aload_n (k := 0) rfl (show decode cX0_copy 33 = .ok (.aload_n 0, 1) by decide +kernel))),
  List.forall_mem_cons.mpr ⟨(xOK_pure (xs_getf xcl_0 (by decide) (show decode cX0_copy 34 = .ok (.getfield 53, 3) by decide +kernel) xw_777)),
  List.forall_mem_cons.mpr ⟨(xs_putf (k := 10) xcl_0 (by decide) rfl (show decode cX0_copy 37 = .ok (.putfield 53, 3) by decide +kernel) xw_777),
  (fun _ h => absurd h List.not_mem_nil)⟩⟩⟩⟩⟩⟩⟩⟩⟩⟩⟩⟩⟩⟩⟩⟩⟩⟩⟩⟩
def pX0_copy_1 (ev : xEv) : List (Nat × xEn) := [(40, .inr (.inr 0))]
set_option maxRecDepth 20000 in
theorem okpX0_copy_1 (ev : xEv) : ∀ q ∈ pX0_copy_1 ev, xEnOK ev xmi yX0_copy.cls yX0_copy.name cX0_copy 2 none q :=
  List.forall_mem_cons.mpr ⟨(Or.inl ⟨rfl, (show decode cX0_copy 40 = .ok (.return_, 1) by decide +kernel), rfl⟩),
  (fun _ h => absurd h List.not_mem_nil)⟩
def pX0_copy (ev : xEv) : List (Nat × xEn) := pX0_copy_0 ev ++ (pX0_copy_1 ev)
theorem okpX0_copy (ev : xEv) : ∀ q ∈ pX0_copy ev, xEnOK ev xmi yX0_copy.cls yX0_copy.name cX0_copy 2 none q := List.forall_mem_append.mpr ⟨okpX0_copy_0 ev, okpX0_copy_1 ev⟩
theorem omX0_copy (ev : xEv) : xMethOK ev xmi yX0_copy.cls yX0_copy.name 9 (pX0_copy ev) := xMethOK.of mi_9 (by decide +kernel) (okpX0_copy ev)
def pX1_init_0 (ev : xEv) : List (Nat × xEn) := [(0, .inl (xop (xf_aload 0 1))), (1, .inl (xop xf_objInit)), (4, .inl (xop (xf_aload 0 1))), (5, .inl (xop (xf_push (.int 0) 1))), (6, .inl (xo_putf 1 4 .int)), (9, .inl (xop (xf_aload 0 1))), (10, .inl (xop (xf_push (.int (-1)) 1))), (11, .inl (xo_putf 1 5 .int)), (14, .inl (xop (xf_aload 0 1))), (15, .inl (xop (xf_push (.int (-1)) 1))), (16, .inl (xo_putf 1 6 .int)), (19, .inl (xop (xf_aload 0 1))), (20, .inl (xop (xf_push (.int (-1)) 1))), (21, .inl (xo_putf 1 7 .int)), (24, .inl (xop (xf_aload 0 1))), (25, .inl (xop (xf_push (.int (-3)) 2))), (27, .inl (xo_putf 1 8 .int)), (30, .inl (xop (xf_aload 0 1))), (31, .inl (xop (xf_push (.int (-3)) 2))), (33, .inl (xo_putf 1 9 .int))]
set_option maxRecDepth 20000 in
theorem okpX1_init_0 (ev : xEv) : ∀ q ∈ pX1_init_0 ev, xEnOK ev xmi yX1_init.cls yX1_init.name cX1_init 5 none q :=
  List.forall_mem_cons.mpr ⟨(xOK_pure (xs_aload_n (k := 0) rfl (show decode cX1_init 0 = .ok (.aload_n 0, 1) by decide +kernel))),
  List.forall_mem_cons.mpr ⟨(xOK_pure (xs_objInit (show decode cX1_init 1 = .ok (.invokespecial 3, 3) by decide +kernel) xw_1046 xw_150 xw_151)),
  List.forall_mem_cons.mpr ⟨(xOK_pure (xs_aload_n (k := 0) rfl (show decode cX1_init 4 = .ok (.aload_n 0, 1) by decide +kernel))),
  List.forall_mem_cons.mpr ⟨(xOK_pure (xs_iconst (n := 0) (show decode cX1_init 5 = .ok (.iconst 0, 1) by decide +kernel) (by decide))),
  List.forall_mem_cons.mpr ⟨(xs_putf (k := 4) xcl_1 (by decide) rfl (show decode cX1_init 6 = .ok (.putfield 11, 3) by decide +kernel) xw_1057),
  List.forall_mem_cons.mpr ⟨(xOK_pure (xs_aload_n (k := 0) rfl (show decode cX1_init 9 = .ok (.aload_n 0, 1) by decide +kernel))),
  List.forall_mem_cons.mpr ⟨(xOK_pure (xs_iconst (n := (-1)) (show decode cX1_init 10 = .ok (.iconst (-1), 1) by decide +kernel) (by decide))),
  List.forall_mem_cons.mpr ⟨(xs_putf (k := 5) xcl_1 (by decide) rfl (show decode cX1_init 11 = .ok (.putfield 15, 3) by decide +kernel) xw_1059),
  List.forall_mem_cons.mpr ⟨(xOK_pure (xs_aload_n (k := 0) rfl (show decode cX1_init 14 = .ok (.aload_n 0, 1) by decide +kernel))),
  List.forall_mem_cons.mpr ⟨(xOK_pure (xs_iconst (n := (-1)) (show decode cX1_init 15 = .ok (.iconst (-1), 1) by decide +kernel) (by decide))),
  List.forall_mem_cons.mpr ⟨(xs_putf (k := 6) xcl_1 (by decide) rfl (show decode cX1_init 16 = .ok (.putfield 18, 3) by decide +kernel) xw_1061),
  List.forall_mem_cons.mpr ⟨(xOK_pure (xs_aload_n (k := 0) rfl (show decode cX1_init 19 = .ok (.aload_n 0, 1) by decide +kernel))),
  List.forall_mem_cons.mpr ⟨(xOK_pure (xs_iconst (n := (-1)) (show decode cX1_init 20 = .ok (.iconst (-1), 1) by decide +kernel) (by decide))),
  List.forall_mem_cons.mpr ⟨(xs_putf (k := 7) xcl_1 (by decide) rfl (show decode cX1_init 21 = .ok (.putfield 21, 3) by decide +kernel) xw_1063),
  List.forall_mem_cons.mpr ⟨(xOK_pure (xs_aload_n (k := 0) rfl (show decode cX1_init 24 = .ok (.aload_n 0, 1) by decide +kernel))),
  List.forall_mem_cons.mpr ⟨(xOK_pure (xs_bipush (n := (-3)) (show decode cX1_init 25 = .ok (.bipush (-3), 2) by decide +kernel) (by decide))),
  List.forall_mem_cons.mpr ⟨(xs_putf (k := 8) xcl_1 (by decide) rfl (show decode cX1_init 27 = .ok (.putfield 24, 3) by decide +kernel) xw_1065),
  List.forall_mem_cons.mpr ⟨(xOK_pure (xs_aload_n (k := 0) rfl (show decode cX1_init 30 = .ok (.aload_n 0, 1) by decide +kernel))),
  List.forall_mem_cons.mpr ⟨(xOK_pure (xs_bipush (n := (-3)) (show decode cX1_init 31 = .ok (.bipush (-3), 2) by decide +kernel) (by decide))),
  List.forall_mem_cons.mpr ⟨(xs_putf (k := 9) xcl_1 (by decide) rfl (show decode cX1_init 33 = .ok (.putfield 27, 3) by decide +kernel) xw_1068),
  (fun _ h => absurd h List.not_mem_nil)⟩⟩⟩⟩⟩⟩⟩⟩⟩⟩⟩⟩⟩⟩⟩⟩⟩⟩⟩⟩
def pX1_init_1 (ev : xEv) : List (Nat × xEn) := [(36, .inl (xop (xf_aload 0 1))), (37, .inl (xop (xf_iload 1 1))), (38, .inl (xo_putf 1 0 .int)), (41, .inl (xop (xf_aload 0 1))), (42, .inl (xop (xf_iload 2 1))), (43, .inl (xo_putf 1 1 .int)), (46, .inl (xop (xf_aload 0 1))), (47, .inl (xop (xf_iload 3 1))), (48, .inl (xo_putf 1 2 .int)), (51, .inl (xop (xf_aload 0 1))), (52, .inl (xop (xf_iload 4 2))), (54, .inl (xo_putf 1 3 .int)), (57, .inr (.inr 0))]
set_option maxRecDepth 20000 in
theorem okpX1_init_1 (ev : xEv) : ∀ q ∈ pX1_init_1 ev, xEnOK ev xmi yX1_init.cls yX1_init.name cX1_init 5 none q :=
  List.forall_mem_cons.mpr ⟨(xOK_pure (xs_aload_n (k := 0) rfl (show decode cX1_init 36 = .ok (.aload_n 0, 1) by decide +kernel))),
  List.forall_mem_cons.mpr ⟨(xOK_pure (xs_iload_n (k := 1) rfl (show decode cX1_init 37 = .ok (.iload_n 1, 1) by decide +kernel))),
  List.forall_mem_cons.mpr ⟨(xs_putF (k := 0) xcl_1 (by decide) rfl rfl rfl (show decode cX1_init 38 = .ok (.putfield 30, 3) by decide +kernel) xw_1047),
  List.forall_mem_cons.mpr ⟨(xOK_pure (xs_aload_n (k := 0) rfl (show decode cX1_init 41 = .ok (.aload_n 0, 1) by decide +kernel))),
  List.forall_mem_cons.mpr ⟨(xOK_pure (xs_iload_n (k := 2) rfl (show decode cX1_init 42 = .ok (.iload_n 2, 1) by decide +kernel))),
  List.forall_mem_cons.mpr ⟨(xs_putF (k := 1) xcl_1 (by decide) rfl rfl rfl (show decode cX1_init 43 = .ok (.putfield 33, 3) by decide +kernel) xw_1049),
  List.forall_mem_cons.mpr ⟨(xOK_pure (xs_aload_n (k := 0) rfl (show decode cX1_init 46 = .ok (.aload_n 0, 1) by decide +kernel))),
  List.forall_mem_cons.mpr ⟨(xOK_pure (xs_iload_n (k := 3) rfl (show decode cX1_init 47 = .ok (.iload_n 3, 1) by decide +kernel))),
  List.forall_mem_cons.mpr ⟨(xs_putF (k := 2) xcl_1 (by decide) rfl rfl rfl (show decode cX1_init 48 = .ok (.putfield 36, 3) by decide +kernel) xw_1052),
  List.forall_mem_cons.mpr ⟨(xOK_pure (xs_aload_n (k := 0) rfl (show decode cX1_init 51 = .ok (.aload_n 0, 1) by decide +kernel))),
  List.forall_mem_cons.mpr ⟨(xOK_pure (xs_iload (show decode cX1_init 52 = .ok (.iload 4, 2) by decide +kernel))),
  List.forall_mem_cons.mpr ⟨(xs_putF (k := 3) xcl_1 (by decide) rfl rfl rfl (show decode cX1_init 54 = .ok (.putfield 39, 3) by decide +kernel) xw_1055),
  List.forall_mem_cons.mpr ⟨(Or.inl ⟨rfl, (show decode cX1_init 57 = .ok (.return_, 1) by decide +kernel), rfl⟩),
  (fun _ h => absurd h List.not_mem_nil)⟩⟩⟩⟩⟩⟩⟩⟩⟩⟩⟩⟩⟩
def pX1_init (ev : xEv) : List (Nat × xEn) := pX1_init_0 ev ++ (pX1_init_1 ev)
theorem okpX1_init (ev : xEv) : ∀ q ∈ pX1_init ev, xEnOK ev xmi yX1_init.cls yX1_init.name cX1_init 5 none q := List.forall_mem_append.mpr ⟨okpX1_init_0 ev, okpX1_init_1 ev⟩
theorem omX1_init (ev : xEv) : xMethOK ev xmi yX1_init.cls yX1_init.name 10 (pX1_init ev) := xMethOK.of mi_10 (by decide +kernel) (okpX1_init ev)
def pX1_waits (ev : xEv) : List (Nat × xEn) := [(0, .inl (xop (xf_aload 0 1))), (1, .inl (xop (xf_getf 1 4))), (4, .inl (xop (xf_if_ne 11))), (7, .inl (xop (xf_push (.int 1) 1))), (8, .inl (xop (xf_goto 12))), (11, .inl (xop (xf_push (.int 0) 1))), (12, .inr (.inr 4))]
set_option maxRecDepth 20000 in
theorem okpX1_waits (ev : xEv) : ∀ q ∈ pX1_waits ev, xEnOK ev xmi yX1_waits.cls yX1_waits.name cX1_waits 1 (some .boolean) q :=
  List.forall_mem_cons.mpr ⟨(xOK_pure (xs_aload_n (k := 0) rfl (show decode cX1_waits 0 = .ok (.aload_n 0, 1) by decide +kernel))),
  List.forall_mem_cons.mpr ⟨(xOK_pure (xs_getf xcl_1 (by decide) (show decode cX1_waits 1 = .ok (.getfield 11, 3) by decide +kernel) xw_1057)),
  List.forall_mem_cons.mpr ⟨(xOK_pure (xs_if_ne (show decode cX1_waits 4 = .ok (.ifCond .ne 7, 3) by decide +kernel) (by decide))),
  List.forall_mem_cons.mpr ⟨(xOK_pure (xs_iconst (n := 1) (show decode cX1_waits 7 = .ok (.iconst 1, 1) by decide +kernel) (by decide))),
  List.forall_mem_cons.mpr ⟨(xOK_pure (xs_goto (show decode cX1_waits 8 = .ok (.goto 4, 3) by decide +kernel) (by decide))),
  List.forall_mem_cons.mpr ⟨(xOK_pure (xs_iconst (n := 0) (show decode cX1_waits 11 = .ok (.iconst 0, 1) by decide +kernel) (by decide))),
  List.forall_mem_cons.mpr ⟨(Or.inr (Or.inr (Or.inr (Or.inr (Or.inl ⟨rfl, (show decode cX1_waits 12 = .ok (.ireturn, 1) by decide +kernel), rfl⟩))))),
  (fun _ h => absurd h List.not_mem_nil)⟩⟩⟩⟩⟩⟩⟩
theorem omX1_waits (ev : xEv) : xMethOK ev xmi yX1_waits.cls yX1_waits.name 11 (pX1_waits ev) := xMethOK.of mi_11 (by decide +kernel) (okpX1_waits ev)
def pX1_begin (ev : xEv) : List (Nat × xEn) := [(0, .inl (xop (xf_aload 0 1))), (1, .inl (xop (xf_push (.int 1) 1))), (2, .inl (xo_putf 1 4 .int)), (5, .inl (xop (xf_aload 0 1))), (6, .inl (xop (xf_iload 1 1))), (7, .inl (xo_putf 1 5 .int)), (10, .inl (xop (xf_aload 0 1))), (11, .inl (xop (xf_iload 2 1))), (12, .inl (xo_putf 1 7 .int)), (15, .inr (.inr 0))]
set_option maxRecDepth 20000 in
theorem okpX1_begin (ev : xEv) : ∀ q ∈ pX1_begin ev, xEnOK ev xmi yX1_begin.cls yX1_begin.name cX1_begin 3 none q :=
  List.forall_mem_cons.mpr ⟨(xOK_pure (xs_aload_n (k := 0) rfl (show decode cX1_begin 0 = .ok (.aload_n 0, 1) by decide +kernel))),
  List.forall_mem_cons.mpr ⟨(xOK_pure (xs_iconst (n := 1) (show decode cX1_begin 1 = .ok (.iconst 1, 1) by decide +kernel) (by decide))),
  List.forall_mem_cons.mpr ⟨(xs_putf (k := 4) xcl_1 (by decide) rfl (show decode cX1_begin 2 = .ok (.putfield 11, 3) by decide +kernel) xw_1057),
  List.forall_mem_cons.mpr ⟨(xOK_pure (xs_aload_n (k := 0) rfl (show decode cX1_begin 5 = .ok (.aload_n 0, 1) by decide +kernel))),
  List.forall_mem_cons.mpr ⟨(xOK_pure (xs_iload_n (k := 1) rfl (show decode cX1_begin 6 = .ok (.iload_n 1, 1) by decide +kernel))),
  List.forall_mem_cons.mpr ⟨(xs_putf (k := 5) xcl_1 (by decide) rfl (show decode cX1_begin 7 = .ok (.putfield 15, 3) by decide +kernel) xw_1059),
  List.forall_mem_cons.mpr ⟨(xOK_pure (xs_aload_n (k := 0) rfl (show decode cX1_begin 10 = .ok (.aload_n 0, 1) by decide +kernel))),
  List.forall_mem_cons.mpr ⟨(xOK_pure (xs_iload_n (k := 2) rfl (show decode cX1_begin 11 = .ok (.iload_n 2, 1) by decide +kernel))),
  List.forall_mem_cons.mpr ⟨(xs_putf (k := 7) xcl_1 (by decide) rfl (show decode cX1_begin 12 = .ok (.putfield 21, 3) by decide +kernel) xw_1063),
  List.forall_mem_cons.mpr ⟨(Or.inl ⟨rfl, (show decode cX1_begin 15 = .ok (.return_, 1) by decide +kernel), rfl⟩),
  (fun _ h => absurd h List.not_mem_nil)⟩⟩⟩⟩⟩⟩⟩⟩⟩⟩
theorem omX1_begin (ev : xEv) : xMethOK ev xmi yX1_begin.cls yX1_begin.name 12 (pX1_begin ev) := xMethOK.of mi_12 (by decide +kernel) (okpX1_begin ev)
def pX1_finish (ev : xEv) : List (Nat × xEn) := [(0, .inl (xop (xf_aload 0 1))), (1, .inl (xop (xf_iload 1 1))), (2, .inl (xo_putf 1 4 .int)), (5, .inl (xop (xf_aload 0 1))), (6, .inl (xop (xf_iload 2 1))), (7, .inl (xo_putf 1 6 .int)), (10, .inr (.inr 0))]
set_option maxRecDepth 20000 in
theorem okpX1_finish (ev : xEv) : ∀ q ∈ pX1_finish ev, xEnOK ev xmi yX1_finish.cls yX1_finish.name cX1_finish 3 none q :=
  List.forall_mem_cons.mpr ⟨(xOK_pure (xs_aload_n (k := 0) rfl (show decode cX1_finish 0 = .ok (.aload_n 0, 1) by decide +kernel))),
  List.forall_mem_cons.mpr ⟨(xOK_pure (xs_iload_n (k := 1) rfl (show decode cX1_finish 1 = .ok (.iload_n 1, 1) by decide +kernel))),
  List.forall_mem_cons.mpr ⟨(xs_putf (k := 4) xcl_1 (by decide) rfl (show decode cX1_finish 2 = .ok (.putfield 11, 3) by decide +kernel) xw_1057),
  List.forall_mem_cons.mpr ⟨(xOK_pure (xs_aload_n (k := 0) rfl (show decode cX1_finish 5 = .ok (.aload_n 0, 1) by decide +kernel))),
  List.forall_mem_cons.mpr ⟨(xOK_pure (xs_iload_n (k := 2) rfl (show decode cX1_finish 6 = .ok (.iload_n 2, 1) by decide +kernel))),
  List.forall_mem_cons.mpr ⟨(xs_putf (k := 6) xcl_1 (by decide) rfl (show decode cX1_finish 7 = .ok (.putfield 18, 3) by decide +kernel) xw_1061),
  List.forall_mem_cons.mpr ⟨(Or.inl ⟨rfl, (show decode cX1_finish 10 = .ok (.return_, 1) by decide +kernel), rfl⟩),
  (fun _ h => absurd h List.not_mem_nil)⟩⟩⟩⟩⟩⟩⟩
theorem omX1_finish (ev : xEv) : xMethOK ev xmi yX1_finish.cls yX1_finish.name 13 (pX1_finish ev) := xMethOK.of mi_13 (by decide +kernel) (okpX1_finish ev)
def pX1_keep_0 (ev : xEv) : List (Nat × xEn) := [(0, .inl (xop (xf_aload 0 1))), (1, .inl (xop (xf_getf 1 10))), (4, .inl (xop (xf_ifnonnull 34))), (7, .inl (xop (xf_aload 0 1))), (8, .inl (xo_new 1 11 [.int 0, .int 0, .int 0, .int 0, .int 0, .int 0, .int 0, .int 0, .int 0, .int 0, .null])), (11, .inl (xop xf_dup)), (12, .inl (xop (xf_aload 0 1))), (13, .inl (xop (xf_getf 1 0))), (16, .inl (xop (xf_aload 0 1))), (17, .inl (xop (xf_getf 1 1))), (20, .inl (xop (xf_aload 0 1))), (21, .inl (xop (xf_getf 1 2))), (24, .inl (xop (xf_aload 0 1))), (25, .inl (xop (xf_getf 1 3))), (28, .inr (.inl (2, 10, 4, 1))), (31, .inl (xo_putf 1 10 (.object "AirMail$Flight"))), (34, .inl (xop (xf_aload 0 1))), (35, .inl (xop (xf_aload 0 1))), (36, .inl (xop (xf_getf 1 10))), (39, .inr (.inl (1, 16, 2, 1)))]
set_option maxRecDepth 20000 in
theorem okpX1_keep_0 (ev : xEv) : ∀ q ∈ pX1_keep_0 ev, xEnOK ev xmi yX1_keep.cls yX1_keep.name cX1_keep 1 none q :=
  List.forall_mem_cons.mpr ⟨(xOK_pure (xs_aload_n (k := 0) rfl (show decode cX1_keep 0 = .ok (.aload_n 0, 1) by decide +kernel))),
  List.forall_mem_cons.mpr ⟨(xOK_pure (xs_getf xcl_1 (by decide) (show decode cX1_keep 1 = .ok (.getfield 42, 3) by decide +kernel) xw_1071)),
  List.forall_mem_cons.mpr ⟨(xOK_pure (xs_ifnonnull (show decode cX1_keep 4 = .ok (.ifnonnull 30, 3) by decide +kernel) (by decide))),
  List.forall_mem_cons.mpr ⟨(xOK_pure (xs_aload_n (k := 0) rfl (show decode cX1_keep 7 = .ok (.aload_n 0, 1) by decide +kernel))),
  List.forall_mem_cons.mpr ⟨(xs_new xcl_1 (by decide +kernel) (show decode cX1_keep 8 = .ok (.new 9, 3) by decide +kernel) xw_1507 xw_1042 xw_141),
  List.forall_mem_cons.mpr ⟨(xOK_pure (xs_dup (show decode cX1_keep 11 = .ok (.dup, 1) by decide +kernel))),
  List.forall_mem_cons.mpr ⟨(xOK_pure (xs_aload_n (k := 0) rfl (show decode cX1_keep 12 = .ok (.aload_n 0, 1) by decide +kernel))),
  List.forall_mem_cons.mpr ⟨(xOK_pure (xs_getf xcl_1 (by decide) (show decode cX1_keep 13 = .ok (.getfield 30, 3) by decide +kernel) xw_1047)),
  List.forall_mem_cons.mpr ⟨(xOK_pure (xs_aload_n (k := 0) rfl (show decode cX1_keep 16 = .ok (.aload_n 0, 1) by decide +kernel))),
  List.forall_mem_cons.mpr ⟨(xOK_pure (xs_getf xcl_1 (by decide) (show decode cX1_keep 17 = .ok (.getfield 33, 3) by decide +kernel) xw_1049)),
  List.forall_mem_cons.mpr ⟨(xOK_pure (xs_aload_n (k := 0) rfl (show decode cX1_keep 20 = .ok (.aload_n 0, 1) by decide +kernel))),
  List.forall_mem_cons.mpr ⟨(xOK_pure (xs_getf xcl_1 (by decide) (show decode cX1_keep 21 = .ok (.getfield 36, 3) by decide +kernel) xw_1052)),
  List.forall_mem_cons.mpr ⟨(xOK_pure (xs_aload_n (k := 0) rfl (show decode cX1_keep 24 = .ok (.aload_n 0, 1) by decide +kernel))),
  List.forall_mem_cons.mpr ⟨(xOK_pure (xs_getf xcl_1 (by decide) (show decode cX1_keep 25 = .ok (.getfield 39, 3) by decide +kernel) xw_1055)),
  List.forall_mem_cons.mpr ⟨(xcm mi_10 ⟨⟨(by decide +kernel), (by decide +kernel), (by decide +kernel)⟩, (by decide), xw_1045, xw_141, Or.inr (Or.inr (Or.inl ⟨rfl, _, (show decode cX1_keep 28 = .ok (.invokespecial 46, 3) by decide +kernel), rfl, xw_1508, xw_1044, rfl⟩))⟩),
  List.forall_mem_cons.mpr ⟨(xs_putf (k := 10) xcl_1 (by decide) rfl (show decode cX1_keep 31 = .ok (.putfield 42, 3) by decide +kernel) xw_1071),
  List.forall_mem_cons.mpr ⟨(xOK_pure (xs_aload_n (k := 0) rfl (show decode cX1_keep 34 = .ok (.aload_n 0, 1) by decide +kernel))),
  List.forall_mem_cons.mpr ⟨(xOK_pure (xs_aload_n (k := 0) rfl (show decode cX1_keep 35 = .ok (.aload_n 0, 1) by decide +kernel))),
  List.forall_mem_cons.mpr ⟨(xOK_pure (xs_getf xcl_1 (by decide) (show decode cX1_keep 36 = .ok (.getfield 42, 3) by decide +kernel) xw_1071)),
  List.forall_mem_cons.mpr ⟨(xcm mi_16 ⟨⟨(by decide +kernel), (by decide +kernel), (by decide +kernel)⟩, (by decide), xw_1511, xw_141, Or.inr (Or.inl ⟨rfl, _, (show decode cX1_keep 39 = .ok (.invokestatic 49, 3) by decide +kernel), xw_1509, xw_1510⟩)⟩),
  (fun _ h => absurd h List.not_mem_nil)⟩⟩⟩⟩⟩⟩⟩⟩⟩⟩⟩⟩⟩⟩⟩⟩⟩⟩⟩⟩
def pX1_keep_1 (ev : xEv) : List (Nat × xEn) := [(42, .inr (.inr 0))]
set_option maxRecDepth 20000 in
theorem okpX1_keep_1 (ev : xEv) : ∀ q ∈ pX1_keep_1 ev, xEnOK ev xmi yX1_keep.cls yX1_keep.name cX1_keep 1 none q :=
  List.forall_mem_cons.mpr ⟨(Or.inl ⟨rfl, (show decode cX1_keep 42 = .ok (.return_, 1) by decide +kernel), rfl⟩),
  (fun _ h => absurd h List.not_mem_nil)⟩
def pX1_keep (ev : xEv) : List (Nat × xEn) := pX1_keep_0 ev ++ (pX1_keep_1 ev)
theorem okpX1_keep (ev : xEv) : ∀ q ∈ pX1_keep ev, xEnOK ev xmi yX1_keep.cls yX1_keep.name cX1_keep 1 none q := List.forall_mem_append.mpr ⟨okpX1_keep_0 ev, okpX1_keep_1 ev⟩
theorem omX1_keep (ev : xEv) : xMethOK ev xmi yX1_keep.cls yX1_keep.name 14 (pX1_keep ev) := xMethOK.of mi_14 (by decide +kernel) (okpX1_keep ev)
def pX1_giveBack (ev : xEv) : List (Nat × xEn) := [(0, .inl (xop (xf_aload 0 1))), (1, .inl (xop (xf_getf 1 10))), (4, .inl (xop (xf_ifnull 15))), (7, .inl (xop (xf_aload 0 1))), (8, .inl (xop (xf_getf 1 10))), (11, .inl (xop (xf_aload 0 1))), (12, .inr (.inl (1, 16, 2, 1))), (15, .inr (.inr 0))]
set_option maxRecDepth 20000 in
theorem okpX1_giveBack (ev : xEv) : ∀ q ∈ pX1_giveBack ev, xEnOK ev xmi yX1_giveBack.cls yX1_giveBack.name cX1_giveBack 1 none q :=
  List.forall_mem_cons.mpr ⟨(xOK_pure (xs_aload_n (k := 0) rfl (show decode cX1_giveBack 0 = .ok (.aload_n 0, 1) by decide +kernel))),
  List.forall_mem_cons.mpr ⟨(xOK_pure (xs_getf xcl_1 (by decide) (show decode cX1_giveBack 1 = .ok (.getfield 42, 3) by decide +kernel) xw_1071)),
  List.forall_mem_cons.mpr ⟨(xOK_pure (xs_ifnull (show decode cX1_giveBack 4 = .ok (.ifnull 11, 3) by decide +kernel) (by decide))),
  List.forall_mem_cons.mpr ⟨(xOK_pure (xs_aload_n (k := 0) rfl (show decode cX1_giveBack 7 = .ok (.aload_n 0, 1) by decide +kernel))),
  List.forall_mem_cons.mpr ⟨(xOK_pure (xs_getf xcl_1 (by decide) (show decode cX1_giveBack 8 = .ok (.getfield 42, 3) by decide +kernel) xw_1071)),
  List.forall_mem_cons.mpr ⟨(xOK_pure (xs_aload_n (k := 0) rfl (show decode cX1_giveBack 11 = .ok (.aload_n 0, 1) by decide +kernel))),
  List.forall_mem_cons.mpr ⟨(xcm mi_16 ⟨⟨(by decide +kernel), (by decide +kernel), (by decide +kernel)⟩, (by decide), xw_1511, xw_141, Or.inr (Or.inl ⟨rfl, _, (show decode cX1_giveBack 12 = .ok (.invokestatic 49, 3) by decide +kernel), xw_1509, xw_1510⟩)⟩),
  List.forall_mem_cons.mpr ⟨(Or.inl ⟨rfl, (show decode cX1_giveBack 15 = .ok (.return_, 1) by decide +kernel), rfl⟩),
  (fun _ h => absurd h List.not_mem_nil)⟩⟩⟩⟩⟩⟩⟩⟩
theorem omX1_giveBack (ev : xEv) : xMethOK ev xmi yX1_giveBack.cls yX1_giveBack.name 15 (pX1_giveBack ev) := xMethOK.of mi_15 (by decide +kernel) (okpX1_giveBack ev)
def pX1_copy_0 (ev : xEv) : List (Nat × xEn) := [(0, .inl (xop (xf_aload 1 1))), (1, .inl (xop (xf_aload 0 1))), (2, .inl (xop (xf_getf 1 4))), (5, .inl (xo_putf 1 4 .int)), (8, .inl (xop (xf_aload 1 1))), (9, .inl (xop (xf_aload 0 1))), (10, .inl (xop (xf_getf 1 5))), (13, .inl (xo_putf 1 5 .int)), (16, .inl (xop (xf_aload 1 1))), (17, .inl (xop (xf_aload 0 1))), (18, .inl (xop (xf_getf 1 6))), (21, .inl (xo_putf 1 6 .int)), (24, .inl (xop (xf_aload 1 1))), (25, .inl (xop (xf_aload 0 1))), (26, .inl (xop (xf_getf 1 7))), (29, .inl (xo_putf 1 7 .int)), (32, .inl (xop (xf_aload 1 1))), (33, .inl (xop (xf_aload 0 1))), (34, .inl (xop (xf_getf 1 8))), (37, .inl (xo_putf 1 8 .int))]
set_option maxRecDepth 20000 in
theorem okpX1_copy_0 (ev : xEv) : ∀ q ∈ pX1_copy_0 ev, xEnOK ev xmi yX1_copy.cls yX1_copy.name cX1_copy 2 none q :=
  List.forall_mem_cons.mpr ⟨(xOK_pure (xs_aload_n (k := 1) rfl (show decode cX1_copy 0 = .ok (.aload_n 1, 1) by decide +kernel))),
  List.forall_mem_cons.mpr ⟨(xOK_pure (xs_aload_n (k := 0) rfl (show decode cX1_copy 1 = .ok (.aload_n 0, 1) by decide +kernel))),
  List.forall_mem_cons.mpr ⟨(xOK_pure (xs_getf xcl_1 (by decide) (show decode cX1_copy 2 = .ok (.getfield 11, 3) by decide +kernel) xw_1057)),
  List.forall_mem_cons.mpr ⟨(xs_putf (k := 4) xcl_1 (by decide) rfl (show decode cX1_copy 5 = .ok (.putfield 11, 3) by decide +kernel) xw_1057),
  List.forall_mem_cons.mpr ⟨(xOK_pure (xs_aload_n (k := 1) rfl (show decode cX1_copy 8 = .ok (.aload_n 1, 1) by decide +kernel))),
  List.forall_mem_cons.mpr ⟨(xOK_pure (xs_aload_n (k := 0) rfl (show decode cX1_copy 9 = .ok (.aload_n 0, 1) by decide +kernel))),
  List.forall_mem_cons.mpr ⟨(xOK_pure (xs_getf xcl_1 (by decide) (show decode cX1_copy 10 = .ok (.getfield 15, 3) by decide +kernel) xw_1059)),
  List.forall_mem_cons.mpr ⟨(xs_putf (k := 5) xcl_1 (by decide) rfl (show decode cX1_copy 13 = .ok (.putfield 15, 3) by decide +kernel) xw_1059),
  List.forall_mem_cons.mpr ⟨(xOK_pure (xs_aload_n (k := 1) rfl (show decode cX1_copy 16 = .ok (.aload_n 1, 1) by decide +kernel))),
  List.forall_mem_cons.mpr ⟨(xOK_pure (xs_aload_n (k := 0) rfl (show decode cX1_copy 17 = .ok (.aload_n 0, 1) by decide +kernel))),
  List.forall_mem_cons.mpr ⟨(xOK_pure (xs_getf xcl_1 (by decide) (show decode cX1_copy 18 = .ok (.getfield 18, 3) by decide +kernel) xw_1061)),
  List.forall_mem_cons.mpr ⟨(xs_putf (k := 6) xcl_1 (by decide) rfl (show decode cX1_copy 21 = .ok (.putfield 18, 3) by decide +kernel) xw_1061),
  List.forall_mem_cons.mpr ⟨(xOK_pure (xs_aload_n (k := 1) rfl (show decode cX1_copy 24 = .ok (.aload_n 1, 1) by decide +kernel))),
  List.forall_mem_cons.mpr ⟨(xOK_pure (xs_aload_n (k := 0) rfl (show decode cX1_copy 25 = .ok (.aload_n 0, 1) by decide +kernel))),
  List.forall_mem_cons.mpr ⟨(xOK_pure (xs_getf xcl_1 (by decide) (show decode cX1_copy 26 = .ok (.getfield 21, 3) by decide +kernel) xw_1063)),
  List.forall_mem_cons.mpr ⟨(xs_putf (k := 7) xcl_1 (by decide) rfl (show decode cX1_copy 29 = .ok (.putfield 21, 3) by decide +kernel) xw_1063),
  List.forall_mem_cons.mpr ⟨(xOK_pure (xs_aload_n (k := 1) rfl (show decode cX1_copy 32 = .ok (.aload_n 1, 1) by decide +kernel))),
  List.forall_mem_cons.mpr ⟨(xOK_pure (xs_aload_n (k := 0) rfl (show decode cX1_copy 33 = .ok (.aload_n 0, 1) by decide +kernel))),
  List.forall_mem_cons.mpr ⟨(xOK_pure (xs_getf xcl_1 (by decide) (show decode cX1_copy 34 = .ok (.getfield 24, 3) by decide +kernel) xw_1065)),
  List.forall_mem_cons.mpr ⟨(xs_putf (k := 8) xcl_1 (by decide) rfl (show decode cX1_copy 37 = .ok (.putfield 24, 3) by decide +kernel) xw_1065),
  (fun _ h => absurd h List.not_mem_nil)⟩⟩⟩⟩⟩⟩⟩⟩⟩⟩⟩⟩⟩⟩⟩⟩⟩⟩⟩⟩
def pX1_copy_1 (ev : xEv) : List (Nat × xEn) := [(40, .inl (xop (xf_aload 1 1))), (41, .inl (xop (xf_aload 0 1))), (42, .inl (xop (xf_getf 1 9))), (45, .inl (xo_putf 1 9 .int)), (48, .inr (.inr 0))]
set_option maxRecDepth 20000 in
theorem okpX1_copy_1 (ev : xEv) : ∀ q ∈ pX1_copy_1 ev, xEnOK ev xmi yX1_copy.cls yX1_copy.name cX1_copy 2 none q :=
  List.forall_mem_cons.mpr ⟨(xOK_pure (xs_aload_n (k := 1) rfl (show decode cX1_copy 40 = .ok (.aload_n 1, 1) by decide +kernel))),
  List.forall_mem_cons.mpr ⟨(xOK_pure (xs_aload_n (k := 0) rfl (show decode cX1_copy 41 = .ok (.aload_n 0, 1) by decide +kernel))),
  List.forall_mem_cons.mpr ⟨(xOK_pure (xs_getf xcl_1 (by decide) (show decode cX1_copy 42 = .ok (.getfield 27, 3) by decide +kernel) xw_1068)),
  List.forall_mem_cons.mpr ⟨(xs_putf (k := 9) xcl_1 (by decide) rfl (show decode cX1_copy 45 = .ok (.putfield 27, 3) by decide +kernel) xw_1068),
  List.forall_mem_cons.mpr ⟨(Or.inl ⟨rfl, (show decode cX1_copy 48 = .ok (.return_, 1) by decide +kernel), rfl⟩),
  (fun _ h => absurd h List.not_mem_nil)⟩⟩⟩⟩⟩
def pX1_copy (ev : xEv) : List (Nat × xEn) := pX1_copy_0 ev ++ (pX1_copy_1 ev)
theorem okpX1_copy (ev : xEv) : ∀ q ∈ pX1_copy ev, xEnOK ev xmi yX1_copy.cls yX1_copy.name cX1_copy 2 none q := List.forall_mem_append.mpr ⟨okpX1_copy_0 ev, okpX1_copy_1 ev⟩
theorem omX1_copy (ev : xEv) : xMethOK ev xmi yX1_copy.cls yX1_copy.name 16 (pX1_copy ev) := xMethOK.of mi_16 (by decide +kernel) (okpX1_copy ev)
def pX5_init (ev : xEv) : List (Nat × xEn) := [(0, .inl (xop (xf_aload 0 1))), (1, .inl (xop xf_objInit)), (4, .inl (xop (xf_aload 0 1))), (5, .inl (xop (xf_push (.int (-1)) 1))), (6, .inl (xo_putf 5 1 .int)), (9, .inl (xop (xf_aload 0 1))), (10, .inl (xop (xf_iload 1 1))), (11, .inl (xo_putf 5 0 .int)), (14, .inl (xop (xf_aload 0 1))), (15, .inl (xop (xf_iload 2 1))), (16, .inl (xo_putf 5 3 .int)), (19, .inr (.inr 0))]
set_option maxRecDepth 20000 in
theorem okpX5_init (ev : xEv) : ∀ q ∈ pX5_init ev, xEnOK ev xmi yX5_init.cls yX5_init.name cX5_init 3 none q :=
  List.forall_mem_cons.mpr ⟨(xOK_pure (xs_aload_n (k := 0) rfl (show decode cX5_init 0 = .ok (.aload_n 0, 1) by decide +kernel))),
  List.forall_mem_cons.mpr ⟨(xOK_pure (xs_objInit (show decode cX5_init 1 = .ok (.invokespecial 3, 3) by decide +kernel) xw_711 xw_150 xw_151)),
  List.forall_mem_cons.mpr ⟨(xOK_pure (xs_aload_n (k := 0) rfl (show decode cX5_init 4 = .ok (.aload_n 0, 1) by decide +kernel))),
  List.forall_mem_cons.mpr ⟨(xOK_pure (xs_iconst (n := (-1)) (show decode cX5_init 5 = .ok (.iconst (-1), 1) by decide +kernel) (by decide))),
  List.forall_mem_cons.mpr ⟨(xs_putf (k := 1) xcl_5 (by decide) rfl (show decode cX5_init 6 = .ok (.putfield 9, 3) by decide +kernel) xw_715),
  List.forall_mem_cons.mpr ⟨(xOK_pure (xs_aload_n (k := 0) rfl (show decode cX5_init 9 = .ok (.aload_n 0, 1) by decide +kernel))),
  List.forall_mem_cons.mpr ⟨(xOK_pure (xs_iload_n (k := 1) rfl (show decode cX5_init 10 = .ok (.iload_n 1, 1) by decide +kernel))),
  List.forall_mem_cons.mpr ⟨(xs_putf (k := 0) xcl_5 (by decide) rfl (show decode cX5_init 11 = .ok (.putfield 15, 3) by decide +kernel) xw_712),
  List.forall_mem_cons.mpr ⟨(xOK_pure (xs_aload_n (k := 0) rfl (show decode cX5_init 14 = .ok (.aload_n 0, 1) by decide +kernel))),
  List.forall_mem_cons.mpr ⟨(xOK_pure (xs_iload_n (k := 2) rfl (show decode cX5_init 15 = .ok (.iload_n 2, 1) by decide +kernel))),
  List.forall_mem_cons.mpr ⟨(xs_putf (k := 3) xcl_5 (by decide) rfl (show decode cX5_init 16 = .ok (.putfield 18, 3) by decide +kernel) xw_721),
  List.forall_mem_cons.mpr ⟨(Or.inl ⟨rfl, (show decode cX5_init 19 = .ok (.return_, 1) by decide +kernel), rfl⟩),
  (fun _ h => absurd h List.not_mem_nil)⟩⟩⟩⟩⟩⟩⟩⟩⟩⟩⟩⟩
theorem omX5_init (ev : xEv) : xMethOK ev xmi yX5_init.cls yX5_init.name 63 (pX5_init ev) := xMethOK.of mi_63 (by decide +kernel) (okpX5_init ev)
def pX5_knowsLeg (ev : xEv) : List (Nat × xEn) := [(0, .inl (xop (xf_aload 0 1))), (1, .inl (xop (xf_getf 5 3))), (4, .inl (xop (xf_iload 1 1))), (5, .inl (xop (xf_bin (fun x y => x >>> (y &&& 31))))), (6, .inl (xop (xf_push (.int 1) 1))), (7, .inl (xop (xf_bin (fun x y => x &&& y)))), (8, .inl (xop (xf_push (.int 1) 1))), (9, .inl (xop (xf_icmp_ne 16))), (12, .inl (xop (xf_push (.int 1) 1))), (13, .inl (xop (xf_goto 17))), (16, .inl (xop (xf_push (.int 0) 1))), (17, .inr (.inr 4))]
set_option maxRecDepth 20000 in
theorem okpX5_knowsLeg (ev : xEv) : ∀ q ∈ pX5_knowsLeg ev, xEnOK ev xmi yX5_knowsLeg.cls yX5_knowsLeg.name cX5_knowsLeg 2 (some .boolean) q :=
  List.forall_mem_cons.mpr ⟨(xOK_pure (xs_aload_n (k := 0) rfl (show decode cX5_knowsLeg 0 = .ok (.aload_n 0, 1) by decide +kernel))),
  List.forall_mem_cons.mpr ⟨(xOK_pure (xs_getf xcl_5 (by decide) (show decode cX5_knowsLeg 1 = .ok (.getfield 18, 3) by decide +kernel) xw_721)),
  List.forall_mem_cons.mpr ⟨(xOK_pure (xs_iload_n (k := 1) rfl (show decode cX5_knowsLeg 4 = .ok (.iload_n 1, 1) by decide +kernel))),
  List.forall_mem_cons.mpr ⟨(xOK_pure (xs_ishr (show decode cX5_knowsLeg 5 = .ok (.ishr, 1) by decide +kernel))),
  List.forall_mem_cons.mpr ⟨(xOK_pure (xs_iconst (n := 1) (show decode cX5_knowsLeg 6 = .ok (.iconst 1, 1) by decide +kernel) (by decide))),
  List.forall_mem_cons.mpr ⟨(xOK_pure (xs_iand (show decode cX5_knowsLeg 7 = .ok (.iand, 1) by decide +kernel))),
  List.forall_mem_cons.mpr ⟨(xOK_pure (xs_iconst (n := 1) (show decode cX5_knowsLeg 8 = .ok (.iconst 1, 1) by decide +kernel) (by decide))),
  List.forall_mem_cons.mpr ⟨(xOK_pure (xs_icmp_ne (show decode cX5_knowsLeg 9 = .ok (.if_icmp .ne 7, 3) by decide +kernel) (by decide))),
  List.forall_mem_cons.mpr ⟨(xOK_pure (xs_iconst (n := 1) (show decode cX5_knowsLeg 12 = .ok (.iconst 1, 1) by decide +kernel) (by decide))),
  List.forall_mem_cons.mpr ⟨(xOK_pure (xs_goto (show decode cX5_knowsLeg 13 = .ok (.goto 4, 3) by decide +kernel) (by decide))),
  List.forall_mem_cons.mpr ⟨(xOK_pure (xs_iconst (n := 0) (show decode cX5_knowsLeg 16 = .ok (.iconst 0, 1) by decide +kernel) (by decide))),
  List.forall_mem_cons.mpr ⟨(Or.inr (Or.inr (Or.inr (Or.inr (Or.inl ⟨rfl, (show decode cX5_knowsLeg 17 = .ok (.ireturn, 1) by decide +kernel), rfl⟩))))),
  (fun _ h => absurd h List.not_mem_nil)⟩⟩⟩⟩⟩⟩⟩⟩⟩⟩⟩⟩
theorem omX5_knowsLeg (ev : xEv) : xMethOK ev xmi yX5_knowsLeg.cls yX5_knowsLeg.name 64 (pX5_knowsLeg ev) := xMethOK.of mi_64 (by decide +kernel) (okpX5_knowsLeg ev)
def pX5_keep (ev : xEv) : List (Nat × xEn) := [(0, .inl (xop (xf_aload 0 1))), (1, .inl (xop (xf_getf 5 4))), (4, .inl (xop (xf_ifnonnull 26))), (7, .inl (xop (xf_aload 0 1))), (8, .inl (xo_new 5 5 [.int 0, .int 0, .int 0, .int 0, .null])), (11, .inl (xop xf_dup)), (12, .inl (xop (xf_aload 0 1))), (13, .inl (xop (xf_getf 5 0))), (16, .inl (xop (xf_aload 0 1))), (17, .inl (xop (xf_getf 5 3))), (20, .inr (.inl (2, 63, 2, 5))), (23, .inl (xo_putf 5 4 (.object "AirMail$Pilot"))), (26, .inl (xop (xf_aload 0 1))), (27, .inl (xop (xf_aload 0 1))), (28, .inl (xop (xf_getf 5 4))), (31, .inr (.inl (1, 67, 2, 5))), (34, .inr (.inr 0))]
set_option maxRecDepth 20000 in
theorem okpX5_keep (ev : xEv) : ∀ q ∈ pX5_keep ev, xEnOK ev xmi yX5_keep.cls yX5_keep.name cX5_keep 1 none q :=
  List.forall_mem_cons.mpr ⟨(xOK_pure (xs_aload_n (k := 0) rfl (show decode cX5_keep 0 = .ok (.aload_n 0, 1) by decide +kernel))),
  List.forall_mem_cons.mpr ⟨(xOK_pure (xs_getf xcl_5 (by decide) (show decode cX5_keep 1 = .ok (.getfield 21, 3) by decide +kernel) xw_723)),
  List.forall_mem_cons.mpr ⟨(xOK_pure (xs_ifnonnull (show decode cX5_keep 4 = .ok (.ifnonnull 22, 3) by decide +kernel) (by decide))),
  List.forall_mem_cons.mpr ⟨(xOK_pure (xs_aload_n (k := 0) rfl (show decode cX5_keep 7 = .ok (.aload_n 0, 1) by decide +kernel))),
  List.forall_mem_cons.mpr ⟨(xs_new xcl_5 (by decide +kernel) (show decode cX5_keep 8 = .ok (.new 10, 3) by decide +kernel) xw_1489 xw_707 xw_133),
  List.forall_mem_cons.mpr ⟨(xOK_pure (xs_dup (show decode cX5_keep 11 = .ok (.dup, 1) by decide +kernel))),
  List.forall_mem_cons.mpr ⟨(xOK_pure (xs_aload_n (k := 0) rfl (show decode cX5_keep 12 = .ok (.aload_n 0, 1) by decide +kernel))),
  List.forall_mem_cons.mpr ⟨(xOK_pure (xs_getf xcl_5 (by decide) (show decode cX5_keep 13 = .ok (.getfield 15, 3) by decide +kernel) xw_712)),
  List.forall_mem_cons.mpr ⟨(xOK_pure (xs_aload_n (k := 0) rfl (show decode cX5_keep 16 = .ok (.aload_n 0, 1) by decide +kernel))),
  List.forall_mem_cons.mpr ⟨(xOK_pure (xs_getf xcl_5 (by decide) (show decode cX5_keep 17 = .ok (.getfield 18, 3) by decide +kernel) xw_721)),
  List.forall_mem_cons.mpr ⟨(xcm mi_63 ⟨⟨(by decide +kernel), (by decide +kernel), (by decide +kernel)⟩, (by decide), xw_710, xw_133, Or.inr (Or.inr (Or.inl ⟨rfl, _, (show decode cX5_keep 20 = .ok (.invokespecial 25, 3) by decide +kernel), rfl, xw_1490, xw_709, rfl⟩))⟩),
  List.forall_mem_cons.mpr ⟨(xs_putf (k := 4) xcl_5 (by decide) rfl (show decode cX5_keep 23 = .ok (.putfield 21, 3) by decide +kernel) xw_723),
  List.forall_mem_cons.mpr ⟨(xOK_pure (xs_aload_n (k := 0) rfl (show decode cX5_keep 26 = .ok (.aload_n 0, 1) by decide +kernel))),
  List.forall_mem_cons.mpr ⟨(xOK_pure (xs_aload_n (k := 0) rfl (show decode cX5_keep 27 = .ok (.aload_n 0, 1) by decide +kernel))),
  List.forall_mem_cons.mpr ⟨(xOK_pure (xs_getf xcl_5 (by decide) (show decode cX5_keep 28 = .ok (.getfield 21, 3) by decide +kernel) xw_723)),
  List.forall_mem_cons.mpr ⟨(xcm mi_67 ⟨⟨(by decide +kernel), (by decide +kernel), (by decide +kernel)⟩, (by decide), xw_1493, xw_133, Or.inr (Or.inl ⟨rfl, _, (show decode cX5_keep 31 = .ok (.invokestatic 28, 3) by decide +kernel), xw_1491, xw_1492⟩)⟩),
  List.forall_mem_cons.mpr ⟨(Or.inl ⟨rfl, (show decode cX5_keep 34 = .ok (.return_, 1) by decide +kernel), rfl⟩),
  (fun _ h => absurd h List.not_mem_nil)⟩⟩⟩⟩⟩⟩⟩⟩⟩⟩⟩⟩⟩⟩⟩⟩⟩
theorem omX5_keep (ev : xEv) : xMethOK ev xmi yX5_keep.cls yX5_keep.name 65 (pX5_keep ev) := xMethOK.of mi_65 (by decide +kernel) (okpX5_keep ev)
def pX5_giveBack (ev : xEv) : List (Nat × xEn) := [(0, .inl (xop (xf_aload 0 1))), (1, .inl (xop (xf_getf 5 4))), (4, .inl (xop (xf_ifnull 15))), (7, .inl (xop (xf_aload 0 1))), (8, .inl (xop (xf_getf 5 4))), (11, .inl (xop (xf_aload 0 1))), (12, .inr (.inl (1, 67, 2, 5))), (15, .inr (.inr 0))]
set_option maxRecDepth 20000 in
theorem okpX5_giveBack (ev : xEv) : ∀ q ∈ pX5_giveBack ev, xEnOK ev xmi yX5_giveBack.cls yX5_giveBack.name cX5_giveBack 1 none q :=
  List.forall_mem_cons.mpr ⟨(xOK_pure (xs_aload_n (k := 0) rfl (show decode cX5_giveBack 0 = .ok (.aload_n 0, 1) by decide +kernel))),
  List.forall_mem_cons.mpr ⟨(xOK_pure (xs_getf xcl_5 (by decide) (show decode cX5_giveBack 1 = .ok (.getfield 21, 3) by decide +kernel) xw_723)),
  List.forall_mem_cons.mpr ⟨(xOK_pure (xs_ifnull (show decode cX5_giveBack 4 = .ok (.ifnull 11, 3) by decide +kernel) (by decide))),
  List.forall_mem_cons.mpr ⟨(xOK_pure (xs_aload_n (k := 0) rfl (show decode cX5_giveBack 7 = .ok (.aload_n 0, 1) by decide +kernel))),
  List.forall_mem_cons.mpr ⟨(xOK_pure (xs_getf xcl_5 (by decide) (show decode cX5_giveBack 8 = .ok (.getfield 21, 3) by decide +kernel) xw_723)),
  List.forall_mem_cons.mpr ⟨(xOK_pure (xs_aload_n (k := 0) rfl (show decode cX5_giveBack 11 = .ok (.aload_n 0, 1) by decide +kernel))),
  List.forall_mem_cons.mpr ⟨(xcm mi_67 ⟨⟨(by decide +kernel), (by decide +kernel), (by decide +kernel)⟩, (by decide), xw_1493, xw_133, Or.inr (Or.inl ⟨rfl, _, (show decode cX5_giveBack 12 = .ok (.invokestatic 28, 3) by decide +kernel), xw_1491, xw_1492⟩)⟩),
  List.forall_mem_cons.mpr ⟨(Or.inl ⟨rfl, (show decode cX5_giveBack 15 = .ok (.return_, 1) by decide +kernel), rfl⟩),
  (fun _ h => absurd h List.not_mem_nil)⟩⟩⟩⟩⟩⟩⟩⟩
theorem omX5_giveBack (ev : xEv) : xMethOK ev xmi yX5_giveBack.cls yX5_giveBack.name 66 (pX5_giveBack ev) := xMethOK.of mi_66 (by decide +kernel) (okpX5_giveBack ev)
def pX5_copy (ev : xEv) : List (Nat × xEn) := [(0, .inl (xop (xf_aload 1 1))), (1, .inl (xop (xf_aload 0 1))), (2, .inl (xop (xf_getf 5 0))), (5, .inl (xo_putf 5 0 .int)), (8, .inl (xop (xf_aload 1 1))), (9, .inl (xop (xf_aload 0 1))), (10, .inl (xop (xf_getf 5 1))), (13, .inl (xo_putf 5 1 .int)), (16, .inl (xop (xf_aload 1 1))), (17, .inl (xop (xf_aload 0 1))), (18, .inl (xop (xf_getf 5 2))), (21, .inl (xo_putf 5 2 .int)), (24, .inr (.inr 0))]
set_option maxRecDepth 20000 in
theorem okpX5_copy (ev : xEv) : ∀ q ∈ pX5_copy ev, xEnOK ev xmi yX5_copy.cls yX5_copy.name cX5_copy 2 none q :=
  List.forall_mem_cons.mpr ⟨(xOK_pure (xs_aload_n (k := 1) rfl (show decode cX5_copy 0 = .ok (.aload_n 1, 1) by decide +kernel))),
  List.forall_mem_cons.mpr ⟨(xOK_pure (xs_aload_n (k := 0) rfl (show decode cX5_copy 1 = .ok (.aload_n 0, 1) by decide +kernel))),
  List.forall_mem_cons.mpr ⟨(xOK_pure (xs_getf xcl_5 (by decide) (show decode cX5_copy 2 = .ok (.getfield 15, 3) by decide +kernel) xw_712)),
  List.forall_mem_cons.mpr ⟨(xs_putf (k := 0) xcl_5 (by decide) rfl (show decode cX5_copy 5 = .ok (.putfield 15, 3) by decide +kernel) xw_712),
  List.forall_mem_cons.mpr ⟨(xOK_pure (xs_aload_n (k := 1) rfl (show decode cX5_copy 8 = .ok (.aload_n 1, 1) by decide +kernel))),
  List.forall_mem_cons.mpr ⟨(xOK_pure (xs_aload_n (k := 0) rfl (show decode cX5_copy 9 = .ok (.aload_n 0, 1) by decide +kernel))),
  List.forall_mem_cons.mpr ⟨(xOK_pure (xs_getf xcl_5 (by decide) (show decode cX5_copy 10 = .ok (.getfield 9, 3) by decide +kernel) xw_715)),
  List.forall_mem_cons.mpr ⟨(xs_putf (k := 1) xcl_5 (by decide) rfl (show decode cX5_copy 13 = .ok (.putfield 9, 3) by decide +kernel) xw_715),
  List.forall_mem_cons.mpr ⟨(xOK_pure (xs_aload_n (k := 1) rfl (show decode cX5_copy 16 = .ok (.aload_n 1, 1) by decide +kernel))),
  List.forall_mem_cons.mpr ⟨(xOK_pure (xs_aload_n (k := 0) rfl (show decode cX5_copy 17 = .ok (.aload_n 0, 1) by decide +kernel))),
  List.forall_mem_cons.mpr ⟨(xOK_pure (xs_getf xcl_5 (by decide) (show decode cX5_copy 18 = .ok (.getfield 32, 3) by decide +kernel) xw_718)),
  List.forall_mem_cons.mpr ⟨(xs_putf (k := 2) xcl_5 (by decide) rfl (show decode cX5_copy 21 = .ok (.putfield 32, 3) by decide +kernel) xw_718),
  List.forall_mem_cons.mpr ⟨(Or.inl ⟨rfl, (show decode cX5_copy 24 = .ok (.return_, 1) by decide +kernel), rfl⟩),
  (fun _ h => absurd h List.not_mem_nil)⟩⟩⟩⟩⟩⟩⟩⟩⟩⟩⟩⟩⟩
theorem omX5_copy (ev : xEv) : xMethOK ev xmi yX5_copy.cls yX5_copy.name 67 (pX5_copy ev) := xMethOK.of mi_67 (by decide +kernel) (okpX5_copy ev)
def pX9_init_0 (ev : xEv) : List (Nat × xEn) := [(0, .inl (xop (xf_aload 0 1))), (1, .inl (xop xf_objInit)), (4, .inl (xop (xf_aload 0 1))), (5, .inl (xop (xf_push (.int 4) 1))), (6, .inl (xo_putf 9 0 .int)), (9, .inl (xop (xf_aload 0 1))), (10, .inl (xop (xf_push (.int 120) 2))), (12, .inl (xo_newa (ev.1 0) (.inl (fun _ => 0)))), (14, .inl (xo_putf 9 2 (.array .int))), (17, .inl (xop (xf_aload 0 1))), (18, .inl (xop (xf_push (.int 120) 2))), (20, .inl (xo_newa (ev.1 0) (.inl (fun _ => 0)))), (22, .inl (xo_putf 9 3 (.array .int))), (25, .inl (xop (xf_aload 0 1))), (26, .inl (xop (xf_push (.int 120) 2))), (28, .inl (xo_newa (ev.1 0) (.inl (fun _ => 0)))), (30, .inl (xo_putf 9 4 (.array .int))), (33, .inl (xop (xf_aload 0 1))), (34, .inl (xop (xf_push (.int 120) 2))), (36, .inl (xo_newa (ev.1 0) (.inl (fun _ => 0))))]
set_option maxRecDepth 20000 in
theorem okpX9_init_0 (ev : xEv) : ∀ q ∈ pX9_init_0 ev, xEnOK ev xmi yX9_init.cls yX9_init.name cX9_init 1 none q :=
  List.forall_mem_cons.mpr ⟨(xOK_pure (xs_aload_n (k := 0) rfl (show decode cX9_init 0 = .ok (.aload_n 0, 1) by decide +kernel))),
  List.forall_mem_cons.mpr ⟨(xOK_pure (xs_objInit (show decode cX9_init 1 = .ok (.invokespecial 3, 3) by decide +kernel) xw_222 xw_150 xw_151)),
  List.forall_mem_cons.mpr ⟨(xOK_pure (xs_aload_n (k := 0) rfl (show decode cX9_init 4 = .ok (.aload_n 0, 1) by decide +kernel))),
  List.forall_mem_cons.mpr ⟨(xOK_pure (xs_iconst (n := 4) (show decode cX9_init 5 = .ok (.iconst 4, 1) by decide +kernel) (by decide))),
  List.forall_mem_cons.mpr ⟨(xs_putf (k := 0) xcl_9 (by decide) rfl (show decode cX9_init 6 = .ok (.putfield 9, 3) by decide +kernel) xw_223),
  List.forall_mem_cons.mpr ⟨(xOK_pure (xs_aload_n (k := 0) rfl (show decode cX9_init 9 = .ok (.aload_n 0, 1) by decide +kernel))),
  List.forall_mem_cons.mpr ⟨(xOK_pure (xs_bipush (n := 120) (show decode cX9_init 10 = .ok (.bipush 120, 2) by decide +kernel) (by decide))),
  List.forall_mem_cons.mpr ⟨(xs_newa (t := 0) (ty := .int) rfl rfl (fun _ _ => rfl) (by decide) (show decode cX9_init 12 = .ok (.newarray .int, 2) by decide +kernel) xw_209),
  List.forall_mem_cons.mpr ⟨(xs_putF (k := 2) xcl_9 (by decide) rfl rfl rfl (show decode cX9_init 14 = .ok (.putfield 15, 3) by decide +kernel) xw_228),
  List.forall_mem_cons.mpr ⟨(xOK_pure (xs_aload_n (k := 0) rfl (show decode cX9_init 17 = .ok (.aload_n 0, 1) by decide +kernel))),
  List.forall_mem_cons.mpr ⟨(xOK_pure (xs_bipush (n := 120) (show decode cX9_init 18 = .ok (.bipush 120, 2) by decide +kernel) (by decide))),
  List.forall_mem_cons.mpr ⟨(xs_newa (t := 0) (ty := .int) rfl rfl (fun _ _ => rfl) (by decide) (show decode cX9_init 20 = .ok (.newarray .int, 2) by decide +kernel) xw_209),
  List.forall_mem_cons.mpr ⟨(xs_putF (k := 3) xcl_9 (by decide) rfl rfl rfl (show decode cX9_init 22 = .ok (.putfield 19, 3) by decide +kernel) xw_231),
  List.forall_mem_cons.mpr ⟨(xOK_pure (xs_aload_n (k := 0) rfl (show decode cX9_init 25 = .ok (.aload_n 0, 1) by decide +kernel))),
  List.forall_mem_cons.mpr ⟨(xOK_pure (xs_bipush (n := 120) (show decode cX9_init 26 = .ok (.bipush 120, 2) by decide +kernel) (by decide))),
  List.forall_mem_cons.mpr ⟨(xs_newa (t := 0) (ty := .int) rfl rfl (fun _ _ => rfl) (by decide) (show decode cX9_init 28 = .ok (.newarray .int, 2) by decide +kernel) xw_209),
  List.forall_mem_cons.mpr ⟨(xs_putF (k := 4) xcl_9 (by decide) rfl rfl rfl (show decode cX9_init 30 = .ok (.putfield 22, 3) by decide +kernel) xw_234),
  List.forall_mem_cons.mpr ⟨(xOK_pure (xs_aload_n (k := 0) rfl (show decode cX9_init 33 = .ok (.aload_n 0, 1) by decide +kernel))),
  List.forall_mem_cons.mpr ⟨(xOK_pure (xs_bipush (n := 120) (show decode cX9_init 34 = .ok (.bipush 120, 2) by decide +kernel) (by decide))),
  List.forall_mem_cons.mpr ⟨(xs_newa (t := 0) (ty := .int) rfl rfl (fun _ _ => rfl) (by decide) (show decode cX9_init 36 = .ok (.newarray .int, 2) by decide +kernel) xw_209),
  (fun _ h => absurd h List.not_mem_nil)⟩⟩⟩⟩⟩⟩⟩⟩⟩⟩⟩⟩⟩⟩⟩⟩⟩⟩⟩⟩
def pX9_init_1 (ev : xEv) : List (Nat × xEn) := [(38, .inl (xo_putf 9 5 (.array .int))), (41, .inl (xop (xf_aload 0 1))), (42, .inl (xop (xf_push (.int 120) 2))), (44, .inl (xo_newa (ev.1 0) (.inl (fun _ => 0)))), (46, .inl (xo_putf 9 6 (.array .int))), (49, .inl (xop (xf_aload 0 1))), (50, .inl (xop (xf_push (.int 120) 2))), (52, .inl (xo_newa (ev.1 0) (.inl (fun _ => 0)))), (54, .inl (xo_putf 9 7 (.array .int))), (57, .inl (xop (xf_aload 0 1))), (58, .inl (xop (xf_push (.int 120) 2))), (60, .inl (xo_newa (ev.1 0) (.inl (fun _ => 0)))), (62, .inl (xo_putf 9 8 (.array .int))), (65, .inr (.inr 0))]
set_option maxRecDepth 20000 in
theorem okpX9_init_1 (ev : xEv) : ∀ q ∈ pX9_init_1 ev, xEnOK ev xmi yX9_init.cls yX9_init.name cX9_init 1 none q :=
  List.forall_mem_cons.mpr ⟨(xs_putF (k := 5) xcl_9 (by decide) rfl rfl rfl (show decode cX9_init 38 = .ok (.putfield 25, 3) by decide +kernel) xw_237),
  List.forall_mem_cons.mpr ⟨(xOK_pure (xs_aload_n (k := 0) rfl (show decode cX9_init 41 = .ok (.aload_n 0, 1) by decide +kernel))),
  List.forall_mem_cons.mpr ⟨(xOK_pure (xs_bipush (n := 120) (show decode cX9_init 42 = .ok (.bipush 120, 2) by decide +kernel) (by decide))),
  List.forall_mem_cons.mpr ⟨(xs_newa (t := 0) (ty := .int) rfl rfl (fun _ _ => rfl) (by decide) (show decode cX9_init 44 = .ok (.newarray .int, 2) by decide +kernel) xw_209),
  List.forall_mem_cons.mpr ⟨(xs_putF (k := 6) xcl_9 (by decide) rfl rfl rfl (show decode cX9_init 46 = .ok (.putfield 28, 3) by decide +kernel) xw_238),
  List.forall_mem_cons.mpr ⟨(xOK_pure (xs_aload_n (k := 0) rfl (show decode cX9_init 49 = .ok (.aload_n 0, 1) by decide +kernel))),
  List.forall_mem_cons.mpr ⟨(xOK_pure (xs_bipush (n := 120) (show decode cX9_init 50 = .ok (.bipush 120, 2) by decide +kernel) (by decide))),
  List.forall_mem_cons.mpr ⟨(xs_newa (t := 0) (ty := .int) rfl rfl (fun _ _ => rfl) (by decide) (show decode cX9_init 52 = .ok (.newarray .int, 2) by decide +kernel) xw_209),
  List.forall_mem_cons.mpr ⟨(xs_putF (k := 7) xcl_9 (by decide) rfl rfl rfl (show decode cX9_init 54 = .ok (.putfield 31, 3) by decide +kernel) xw_239),
  List.forall_mem_cons.mpr ⟨(xOK_pure (xs_aload_n (k := 0) rfl (show decode cX9_init 57 = .ok (.aload_n 0, 1) by decide +kernel))),
  List.forall_mem_cons.mpr ⟨(xOK_pure (xs_bipush (n := 120) (show decode cX9_init 58 = .ok (.bipush 120, 2) by decide +kernel) (by decide))),
  List.forall_mem_cons.mpr ⟨(xs_newa (t := 0) (ty := .int) rfl rfl (fun _ _ => rfl) (by decide) (show decode cX9_init 60 = .ok (.newarray .int, 2) by decide +kernel) xw_209),
  List.forall_mem_cons.mpr ⟨(xs_putF (k := 8) xcl_9 (by decide) rfl rfl rfl (show decode cX9_init 62 = .ok (.putfield 34, 3) by decide +kernel) xw_240),
  List.forall_mem_cons.mpr ⟨(Or.inl ⟨rfl, (show decode cX9_init 65 = .ok (.return_, 1) by decide +kernel), rfl⟩),
  (fun _ h => absurd h List.not_mem_nil)⟩⟩⟩⟩⟩⟩⟩⟩⟩⟩⟩⟩⟩⟩
def pX9_init (ev : xEv) : List (Nat × xEn) := pX9_init_0 ev ++ (pX9_init_1 ev)
theorem okpX9_init (ev : xEv) : ∀ q ∈ pX9_init ev, xEnOK ev xmi yX9_init.cls yX9_init.name cX9_init 1 none q := List.forall_mem_append.mpr ⟨okpX9_init_0 ev, okpX9_init_1 ev⟩
theorem omX9_init (ev : xEv) : xMethOK ev xmi yX9_init.cls yX9_init.name 92 (pX9_init ev) := xMethOK.of mi_92 (by decide +kernel) (okpX9_init ev)
def pX9_come_0 (ev : xEv) : List (Nat × xEn) := [(0, .inl (xop (xf_aload 0 1))), (1, .inl (xop (xf_getf 9 1))), (4, .inl (xop (xf_push (.int 120) 2))), (6, .inl (xop (xf_icmp_lt 10))), (9, .inr (.inr 0)), (10, .inl (xop (xf_aload 0 1))), (11, .inl (xop (xf_getf 9 6))), (14, .inl (xop (xf_aload 0 1))), (15, .inl (xop (xf_getf 9 1))), (18, .inl (xop (xf_iload 1 1))), (19, .inl (xo_ast (ev.1 0) (fun x => x))), (20, .inl (xop (xf_aload 0 1))), (21, .inl (xop (xf_getf 9 7))), (24, .inl (xop (xf_aload 0 1))), (25, .inl (xop (xf_getf 9 1))), (28, .inl (xop (xf_iload 2 1))), (29, .inl (xo_ast (ev.1 0) (fun x => x))), (30, .inl (xop (xf_aload 0 1))), (31, .inl (xop (xf_getf 9 8))), (34, .inl (xop (xf_aload 0 1)))]
set_option maxRecDepth 20000 in
theorem okpX9_come_0 (ev : xEv) : ∀ q ∈ pX9_come_0 ev, xEnOK ev xmi yX9_come.cls yX9_come.name cX9_come 7 none q :=
  List.forall_mem_cons.mpr ⟨(xOK_pure (xs_aload_n (k := 0) rfl (show decode cX9_come 0 = .ok (.aload_n 0, 1) by decide +kernel))),
  List.forall_mem_cons.mpr ⟨(xOK_pure (xs_getf xcl_9 (by decide) (show decode cX9_come 1 = .ok (.getfield 37, 3) by decide +kernel) xw_225)),
  List.forall_mem_cons.mpr ⟨(xOK_pure (xs_bipush (n := 120) (show decode cX9_come 4 = .ok (.bipush 120, 2) by decide +kernel) (by decide))),
  List.forall_mem_cons.mpr ⟨(xOK_pure (xs_icmp_lt (show decode cX9_come 6 = .ok (.if_icmp .lt 4, 3) by decide +kernel) (by decide))),
  List.forall_mem_cons.mpr ⟨(Or.inl ⟨rfl, (show decode cX9_come 9 = .ok (.return_, 1) by decide +kernel), rfl⟩),
  List.forall_mem_cons.mpr ⟨(xOK_pure (xs_aload_n (k := 0) rfl (show decode cX9_come 10 = .ok (.aload_n 0, 1) by decide +kernel))),
  List.forall_mem_cons.mpr ⟨(xOK_pure (xs_getf xcl_9 (by decide) (show decode cX9_come 11 = .ok (.getfield 28, 3) by decide +kernel) xw_238)),
  List.forall_mem_cons.mpr ⟨(xOK_pure (xs_aload_n (k := 0) rfl (show decode cX9_come 14 = .ok (.aload_n 0, 1) by decide +kernel))),
  List.forall_mem_cons.mpr ⟨(xOK_pure (xs_getf xcl_9 (by decide) (show decode cX9_come 15 = .ok (.getfield 37, 3) by decide +kernel) xw_225)),
  List.forall_mem_cons.mpr ⟨(xOK_pure (xs_iload_n (k := 1) rfl (show decode cX9_come 18 = .ok (.iload_n 1, 1) by decide +kernel))),
  List.forall_mem_cons.mpr ⟨(xs_iast (show decode cX9_come 19 = .ok (.iastore, 1) by decide +kernel)),
  List.forall_mem_cons.mpr ⟨(xOK_pure (xs_aload_n (k := 0) rfl (show decode cX9_come 20 = .ok (.aload_n 0, 1) by decide +kernel))),
  List.forall_mem_cons.mpr ⟨(xOK_pure (xs_getf xcl_9 (by decide) (show decode cX9_come 21 = .ok (.getfield 31, 3) by decide +kernel) xw_239)),
  List.forall_mem_cons.mpr ⟨(xOK_pure (xs_aload_n (k := 0) rfl (show decode cX9_come 24 = .ok (.aload_n 0, 1) by decide +kernel))),
  List.forall_mem_cons.mpr ⟨(xOK_pure (xs_getf xcl_9 (by decide) (show decode cX9_come 25 = .ok (.getfield 37, 3) by decide +kernel) xw_225)),
  List.forall_mem_cons.mpr ⟨(xOK_pure (xs_iload_n (k := 2) rfl (show decode cX9_come 28 = .ok (.iload_n 2, 1) by decide +kernel))),
  List.forall_mem_cons.mpr ⟨(xs_iast (show decode cX9_come 29 = .ok (.iastore, 1) by decide +kernel)),
  List.forall_mem_cons.mpr ⟨(xOK_pure (xs_aload_n (k := 0) rfl (show decode cX9_come 30 = .ok (.aload_n 0, 1) by decide +kernel))),
  List.forall_mem_cons.mpr ⟨(xOK_pure (xs_getf xcl_9 (by decide) (show decode cX9_come 31 = .ok (.getfield 34, 3) by decide +kernel) xw_240)),
  List.forall_mem_cons.mpr ⟨(xOK_pure (xs_aload_n (k := 0) rfl (show decode cX9_come 34 = .ok (.aload_n 0, 1) by decide +kernel))),
  (fun _ h => absurd h List.not_mem_nil)⟩⟩⟩⟩⟩⟩⟩⟩⟩⟩⟩⟩⟩⟩⟩⟩⟩⟩⟩⟩
def pX9_come_1 (ev : xEv) : List (Nat × xEn) := [(35, .inl (xop (xf_getf 9 1))), (38, .inl (xop (xf_iload 2 1))), (39, .inl (xop (xf_aload 0 1))), (40, .inl (xop (xf_getf 9 0))), (43, .inl (xop (xf_bin (fun x y => x + y)))), (44, .inl (xo_ast (ev.1 0) (fun x => x))), (45, .inl (xop (xf_aload 0 1))), (46, .inl (xop (xf_getf 9 5))), (49, .inl (xop (xf_aload 0 1))), (50, .inl (xop (xf_getf 9 1))), (53, .inl (xop (xf_iload 3 1))), (54, .inl (xo_ast (ev.1 0) (fun x => x))), (55, .inl (xop (xf_aload 0 1))), (56, .inl (xop (xf_getf 9 2))), (59, .inl (xop (xf_aload 0 1))), (60, .inl (xop (xf_getf 9 1))), (63, .inl (xop (xf_iload 4 2))), (65, .inl (xo_ast (ev.1 0) (fun x => x))), (66, .inl (xop (xf_aload 0 1))), (67, .inl (xop (xf_getf 9 3)))]
set_option maxRecDepth 20000 in
theorem okpX9_come_1 (ev : xEv) : ∀ q ∈ pX9_come_1 ev, xEnOK ev xmi yX9_come.cls yX9_come.name cX9_come 7 none q :=
  List.forall_mem_cons.mpr ⟨(xOK_pure (xs_getf xcl_9 (by decide) (show decode cX9_come 35 = .ok (.getfield 37, 3) by decide +kernel) xw_225)),
  List.forall_mem_cons.mpr ⟨(xOK_pure (xs_iload_n (k := 2) rfl (show decode cX9_come 38 = .ok (.iload_n 2, 1) by decide +kernel))),
  List.forall_mem_cons.mpr ⟨(xOK_pure (xs_aload_n (k := 0) rfl (show decode cX9_come 39 = .ok (.aload_n 0, 1) by decide +kernel))),
  List.forall_mem_cons.mpr ⟨(xOK_pure (xs_getf xcl_9 (by decide) (show decode cX9_come 40 = .ok (.getfield 9, 3) by decide +kernel) xw_223)),
  List.forall_mem_cons.mpr ⟨(xOK_pure (xs_iadd (show decode cX9_come 43 = .ok (.iadd, 1) by decide +kernel))),
  List.forall_mem_cons.mpr ⟨(xs_iast (show decode cX9_come 44 = .ok (.iastore, 1) by decide +kernel)),
  List.forall_mem_cons.mpr ⟨(xOK_pure (xs_aload_n (k := 0) rfl (show decode cX9_come 45 = .ok (.aload_n 0, 1) by decide +kernel))),
  List.forall_mem_cons.mpr ⟨(xOK_pure (xs_getf xcl_9 (by decide) (show decode cX9_come 46 = .ok (.getfield 25, 3) by decide +kernel) xw_237)),
  List.forall_mem_cons.mpr ⟨(xOK_pure (xs_aload_n (k := 0) rfl (show decode cX9_come 49 = .ok (.aload_n 0, 1) by decide +kernel))),
  List.forall_mem_cons.mpr ⟨(xOK_pure (xs_getf xcl_9 (by decide) (show decode cX9_come 50 = .ok (.getfield 37, 3) by decide +kernel) xw_225)),
  List.forall_mem_cons.mpr ⟨(xOK_pure (xs_iload_n (k := 3) rfl (show decode cX9_come 53 = .ok (.iload_n 3, 1) by decide +kernel))),
  List.forall_mem_cons.mpr ⟨(xs_iast (show decode cX9_come 54 = .ok (.iastore, 1) by decide +kernel)),
  List.forall_mem_cons.mpr ⟨(xOK_pure (xs_aload_n (k := 0) rfl (show decode cX9_come 55 = .ok (.aload_n 0, 1) by decide +kernel))),
  List.forall_mem_cons.mpr ⟨(xOK_pure (xs_getf xcl_9 (by decide) (show decode cX9_come 56 = .ok (.getfield 15, 3) by decide +kernel) xw_228)),
  List.forall_mem_cons.mpr ⟨(xOK_pure (xs_aload_n (k := 0) rfl (show decode cX9_come 59 = .ok (.aload_n 0, 1) by decide +kernel))),
  List.forall_mem_cons.mpr ⟨(xOK_pure (xs_getf xcl_9 (by decide) (show decode cX9_come 60 = .ok (.getfield 37, 3) by decide +kernel) xw_225)),
  List.forall_mem_cons.mpr ⟨(xOK_pure (xs_iload (show decode cX9_come 63 = .ok (.iload 4, 2) by decide +kernel))),
  List.forall_mem_cons.mpr ⟨(xs_iast (show decode cX9_come 65 = .ok (.iastore, 1) by decide +kernel)),
  List.forall_mem_cons.mpr ⟨(xOK_pure (xs_aload_n (k := 0) rfl (show decode cX9_come 66 = .ok (.aload_n 0, 1) by decide +kernel))),
  List.forall_mem_cons.mpr ⟨(xOK_pure (xs_getf xcl_9 (by decide) (show decode cX9_come 67 = .ok (.getfield 19, 3) by decide +kernel) xw_231)),
  (fun _ h => absurd h List.not_mem_nil)⟩⟩⟩⟩⟩⟩⟩⟩⟩⟩⟩⟩⟩⟩⟩⟩⟩⟩⟩⟩
def pX9_come_2 (ev : xEv) : List (Nat × xEn) := [(70, .inl (xop (xf_aload 0 1))), (71, .inl (xop (xf_getf 9 1))), (74, .inl (xop (xf_iload 5 2))), (76, .inl (xo_ast (ev.1 0) (fun x => x))), (77, .inl (xop (xf_aload 0 1))), (78, .inl (xop (xf_getf 9 4))), (81, .inl (xop (xf_aload 0 1))), (82, .inl (xop (xf_getf 9 1))), (85, .inl (xop (xf_iload 6 2))), (87, .inl (xo_ast (ev.1 0) (fun x => x))), (88, .inl (xop (xf_aload 0 1))), (89, .inl (xop xf_dup)), (90, .inl (xop (xf_getf 9 1))), (93, .inl (xop (xf_push (.int 1) 1))), (94, .inl (xop (xf_bin (fun x y => x + y)))), (95, .inl (xo_putf 9 1 .int)), (98, .inr (.inr 0))]
set_option maxRecDepth 20000 in
theorem okpX9_come_2 (ev : xEv) : ∀ q ∈ pX9_come_2 ev, xEnOK ev xmi yX9_come.cls yX9_come.name cX9_come 7 none q :=
  List.forall_mem_cons.mpr ⟨(xOK_pure (xs_aload_n (k := 0) rfl (show decode cX9_come 70 = .ok (.aload_n 0, 1) by decide +kernel))),
  List.forall_mem_cons.mpr ⟨(xOK_pure (xs_getf xcl_9 (by decide) (show decode cX9_come 71 = .ok (.getfield 37, 3) by decide +kernel) xw_225)),
  List.forall_mem_cons.mpr ⟨(xOK_pure (xs_iload (show decode cX9_come 74 = .ok (.iload 5, 2) by decide +kernel))),
  List.forall_mem_cons.mpr ⟨(xs_iast (show decode cX9_come 76 = .ok (.iastore, 1) by decide +kernel)),
  List.forall_mem_cons.mpr ⟨(xOK_pure (xs_aload_n (k := 0) rfl (show decode cX9_come 77 = .ok (.aload_n 0, 1) by decide +kernel))),
  List.forall_mem_cons.mpr ⟨(xOK_pure (xs_getf xcl_9 (by decide) (show decode cX9_come 78 = .ok (.getfield 22, 3) by decide +kernel) xw_234)),
  List.forall_mem_cons.mpr ⟨(xOK_pure (xs_aload_n (k := 0) rfl (show decode cX9_come 81 = .ok (.aload_n 0, 1) by decide +kernel))),
  List.forall_mem_cons.mpr ⟨(xOK_pure (xs_getf xcl_9 (by decide) (show decode cX9_come 82 = .ok (.getfield 37, 3) by decide +kernel) xw_225)),
  List.forall_mem_cons.mpr ⟨(xOK_pure (xs_iload (show decode cX9_come 85 = .ok (.iload 6, 2) by decide +kernel))),
  List.forall_mem_cons.mpr ⟨(xs_iast (show decode cX9_come 87 = .ok (.iastore, 1) by decide +kernel)),
  List.forall_mem_cons.mpr ⟨(xOK_pure (xs_aload_n (k := 0) rfl (show decode cX9_come 88 = .ok (.aload_n 0, 1) by decide +kernel))),
  List.forall_mem_cons.mpr ⟨(xOK_pure (xs_dup (show decode cX9_come 89 = .ok (.dup, 1) by decide +kernel))),
  List.forall_mem_cons.mpr ⟨(xOK_pure (xs_getf xcl_9 (by decide) (show decode cX9_come 90 = .ok (.getfield 37, 3) by decide +kernel) xw_225)),
  List.forall_mem_cons.mpr ⟨(xOK_pure (xs_iconst (n := 1) (show decode cX9_come 93 = .ok (.iconst 1, 1) by decide +kernel) (by decide))),
  List.forall_mem_cons.mpr ⟨(xOK_pure (xs_iadd (show decode cX9_come 94 = .ok (.iadd, 1) by decide +kernel))),
  List.forall_mem_cons.mpr ⟨(xs_putf (k := 1) xcl_9 (by decide) rfl (show decode cX9_come 95 = .ok (.putfield 37, 3) by decide +kernel) xw_225),
  List.forall_mem_cons.mpr ⟨(Or.inl ⟨rfl, (show decode cX9_come 98 = .ok (.return_, 1) by decide +kernel), rfl⟩),
  (fun _ h => absurd h List.not_mem_nil)⟩⟩⟩⟩⟩⟩⟩⟩⟩⟩⟩⟩⟩⟩⟩⟩⟩
def pX9_come (ev : xEv) : List (Nat × xEn) := pX9_come_0 ev ++ (pX9_come_1 ev ++ (pX9_come_2 ev))
theorem okpX9_come (ev : xEv) : ∀ q ∈ pX9_come ev, xEnOK ev xmi yX9_come.cls yX9_come.name cX9_come 7 none q := List.forall_mem_append.mpr ⟨okpX9_come_0 ev, List.forall_mem_append.mpr ⟨okpX9_come_1 ev, okpX9_come_2 ev⟩⟩
theorem omX9_come (ev : xEv) : xMethOK ev xmi yX9_come.cls yX9_come.name 93 (pX9_come ev) := xMethOK.of mi_93 (by decide +kernel) (okpX9_come ev)
def pX9_latest_0 (ev : xEv) : List (Nat × xEn) := [(0, .inl (xop (xf_push (.int (-1)) 1))), (1, .inl (xop (xf_istore 4 2))), (3, .inl (xop (xf_push (.int 0) 1))), (4, .inl (xop (xf_istore 5 2))), (6, .inl (xop (xf_iload 5 2))), (8, .inl (xop (xf_aload 0 1))), (9, .inl (xop (xf_getf 9 1))), (12, .inl (xop (xf_icmp_ge 95))), (15, .inl (xop (xf_aload 0 1))), (16, .inl (xop (xf_getf 9 6))), (19, .inl (xop (xf_iload 5 2))), (21, .inl (xop (xf_ald (ev.1 0)))), (22, .inl (xop (xf_iload 1 1))), (23, .inl (xop (xf_icmp_ne 36))), (26, .inl (xop (xf_aload 0 1))), (27, .inl (xop (xf_getf 9 7))), (30, .inl (xop (xf_iload 5 2))), (32, .inl (xop (xf_ald (ev.1 0)))), (33, .inl (xop (xf_goto 43))), (36, .inl (xop (xf_aload 0 1)))]
set_option maxRecDepth 20000 in
theorem okpX9_latest_0 (ev : xEv) : ∀ q ∈ pX9_latest_0 ev, xEnOK ev xmi yX9_latest.cls yX9_latest.name cX9_latest 7 (some .int) q :=
  List.forall_mem_cons.mpr ⟨(xOK_pure (xs_iconst (n := (-1)) (show decode cX9_latest 0 = .ok (.iconst (-1), 1) by decide +kernel) (by decide))),
  List.forall_mem_cons.mpr ⟨(xOK_pure (xs_istore (show decode cX9_latest 1 = .ok (.istore 4, 2) by decide +kernel) (by decide))),
  List.forall_mem_cons.mpr ⟨(xOK_pure (xs_iconst (n := 0) (show decode cX9_latest 3 = .ok (.iconst 0, 1) by decide +kernel) (by decide))),
  List.forall_mem_cons.mpr ⟨(xOK_pure (xs_istore (show decode cX9_latest 4 = .ok (.istore 5, 2) by decide +kernel) (by decide))),
  List.forall_mem_cons.mpr ⟨(xOK_pure (xs_iload (show decode cX9_latest 6 = .ok (.iload 5, 2) by decide +kernel))),
  List.forall_mem_cons.mpr ⟨(xOK_pure (xs_aload_n (k := 0) rfl (show decode cX9_latest 8 = .ok (.aload_n 0, 1) by decide +kernel))),
  List.forall_mem_cons.mpr ⟨(xOK_pure (xs_getf xcl_9 (by decide) (show decode cX9_latest 9 = .ok (.getfield 37, 3) by decide +kernel) xw_225)),
  List.forall_mem_cons.mpr ⟨(xOK_pure (xs_icmp_ge (show decode cX9_latest 12 = .ok (.if_icmp .ge 83, 3) by decide +kernel) (by decide))),
  List.forall_mem_cons.mpr ⟨(xOK_pure (xs_aload_n (k := 0) rfl (show decode cX9_latest 15 = .ok (.aload_n 0, 1) by decide +kernel))),
  List.forall_mem_cons.mpr ⟨(xOK_pure (xs_getf xcl_9 (by decide) (show decode cX9_latest 16 = .ok (.getfield 28, 3) by decide +kernel) xw_238)),
  List.forall_mem_cons.mpr ⟨(xOK_pure (xs_iload (show decode cX9_latest 19 = .ok (.iload 5, 2) by decide +kernel))),
  List.forall_mem_cons.mpr ⟨(xOK_pure (xs_iald (show decode cX9_latest 21 = .ok (.iaload, 1) by decide +kernel))),
  List.forall_mem_cons.mpr ⟨(xOK_pure (xs_iload_n (k := 1) rfl (show decode cX9_latest 22 = .ok (.iload_n 1, 1) by decide +kernel))),
  List.forall_mem_cons.mpr ⟨(xOK_pure (xs_icmp_ne (show decode cX9_latest 23 = .ok (.if_icmp .ne 13, 3) by decide +kernel) (by decide))),
  List.forall_mem_cons.mpr ⟨(xOK_pure (xs_aload_n (k := 0) rfl (show decode cX9_latest 26 = .ok (.aload_n 0, 1) by decide +kernel))),
  List.forall_mem_cons.mpr ⟨(xOK_pure (xs_getf xcl_9 (by decide) (show decode cX9_latest 27 = .ok (.getfield 31, 3) by decide +kernel) xw_239)),
  List.forall_mem_cons.mpr ⟨(xOK_pure (xs_iload (show decode cX9_latest 30 = .ok (.iload 5, 2) by decide +kernel))),
  List.forall_mem_cons.mpr ⟨(xOK_pure (xs_iald (show decode cX9_latest 32 = .ok (.iaload, 1) by decide +kernel))),
  List.forall_mem_cons.mpr ⟨(xOK_pure (xs_goto (show decode cX9_latest 33 = .ok (.goto 10, 3) by decide +kernel) (by decide))),
  List.forall_mem_cons.mpr ⟨(xOK_pure (xs_aload_n (k := 0) rfl (show decode cX9_latest 36 = .ok (.aload_n 0, 1) by decide +kernel))),
  (fun _ h => absurd h List.not_mem_nil)⟩⟩⟩⟩⟩⟩⟩⟩⟩⟩⟩⟩⟩⟩⟩⟩⟩⟩⟩⟩
def pX9_latest_1 (ev : xEv) : List (Nat × xEn) := [(37, .inl (xop (xf_getf 9 8))), (40, .inl (xop (xf_iload 5 2))), (42, .inl (xop (xf_ald (ev.1 0)))), (43, .inl (xop (xf_istore 6 2))), (45, .inl (xop (xf_aload 0 1))), (46, .inl (xop (xf_getf 9 5))), (49, .inl (xop (xf_iload 5 2))), (51, .inl (xop (xf_ald (ev.1 0)))), (52, .inl (xop (xf_iload 2 1))), (53, .inl (xop (xf_icmp_ne 89))), (56, .inl (xop (xf_iload 6 2))), (58, .inl (xop (xf_iload 3 1))), (59, .inl (xop (xf_icmp_gt 89))), (62, .inl (xop (xf_iload 4 2))), (64, .inl (xop (xf_push (.int (-1)) 1))), (65, .inl (xop (xf_icmp_eq 85))), (68, .inl (xop (xf_aload 0 1))), (69, .inl (xop (xf_getf 9 2))), (72, .inl (xop (xf_iload 5 2))), (74, .inl (xop (xf_ald (ev.1 0))))]
set_option maxRecDepth 20000 in
theorem okpX9_latest_1 (ev : xEv) : ∀ q ∈ pX9_latest_1 ev, xEnOK ev xmi yX9_latest.cls yX9_latest.name cX9_latest 7 (some .int) q :=
  List.forall_mem_cons.mpr ⟨(xOK_pure (xs_getf xcl_9 (by decide) (show decode cX9_latest 37 = .ok (.getfield 34, 3) by decide +kernel) xw_240)),
  List.forall_mem_cons.mpr ⟨(xOK_pure (xs_iload (show decode cX9_latest 40 = .ok (.iload 5, 2) by decide +kernel))),
  List.forall_mem_cons.mpr ⟨(xOK_pure (xs_iald (show decode cX9_latest 42 = .ok (.iaload, 1) by decide +kernel))),
  List.forall_mem_cons.mpr ⟨(xOK_pure (xs_istore (show decode cX9_latest 43 = .ok (.istore 6, 2) by decide +kernel) (by decide))),
  List.forall_mem_cons.mpr ⟨(xOK_pure (xs_aload_n (k := 0) rfl (show decode cX9_latest 45 = .ok (.aload_n 0, 1) by decide +kernel))),
  List.forall_mem_cons.mpr ⟨(xOK_pure (xs_getf xcl_9 (by decide) (show decode cX9_latest 46 = .ok (.getfield 25, 3) by decide +kernel) xw_237)),
  List.forall_mem_cons.mpr ⟨(xOK_pure (xs_iload (show decode cX9_latest 49 = .ok (.iload 5, 2) by decide +kernel))),
  List.forall_mem_cons.mpr ⟨(xOK_pure (xs_iald (show decode cX9_latest 51 = .ok (.iaload, 1) by decide +kernel))),
  List.forall_mem_cons.mpr ⟨(xOK_pure (xs_iload_n (k := 2) rfl (show decode cX9_latest 52 = .ok (.iload_n 2, 1) by decide +kernel))),
  List.forall_mem_cons.mpr ⟨(xOK_pure (xs_icmp_ne (show decode cX9_latest 53 = .ok (.if_icmp .ne 36, 3) by decide +kernel) (by decide))),
  List.forall_mem_cons.mpr ⟨(xOK_pure (xs_iload (show decode cX9_latest 56 = .ok (.iload 6, 2) by decide +kernel))),
  List.forall_mem_cons.mpr ⟨(xOK_pure (xs_iload_n (k := 3) rfl (show decode cX9_latest 58 = .ok (.iload_n 3, 1) by decide +kernel))),
  List.forall_mem_cons.mpr ⟨(xOK_pure (xs_icmp_gt (show decode cX9_latest 59 = .ok (.if_icmp .gt 30, 3) by decide +kernel) (by decide))),
  List.forall_mem_cons.mpr ⟨(xOK_pure (xs_iload (show decode cX9_latest 62 = .ok (.iload 4, 2) by decide +kernel))),
  List.forall_mem_cons.mpr ⟨(xOK_pure (xs_iconst (n := (-1)) (show decode cX9_latest 64 = .ok (.iconst (-1), 1) by decide +kernel) (by decide))),
  List.forall_mem_cons.mpr ⟨(xOK_pure (xs_icmp_eq (show decode cX9_latest 65 = .ok (.if_icmp .eq 20, 3) by decide +kernel) (by decide))),
  List.forall_mem_cons.mpr ⟨(xOK_pure (xs_aload_n (k := 0) rfl (show decode cX9_latest 68 = .ok (.aload_n 0, 1) by decide +kernel))),
  List.forall_mem_cons.mpr ⟨(xOK_pure (xs_getf xcl_9 (by decide) (show decode cX9_latest 69 = .ok (.getfield 15, 3) by decide +kernel) xw_228)),
  List.forall_mem_cons.mpr ⟨(xOK_pure (xs_iload (show decode cX9_latest 72 = .ok (.iload 5, 2) by decide +kernel))),
  List.forall_mem_cons.mpr ⟨(xOK_pure (xs_iald (show decode cX9_latest 74 = .ok (.iaload, 1) by decide +kernel))),
  (fun _ h => absurd h List.not_mem_nil)⟩⟩⟩⟩⟩⟩⟩⟩⟩⟩⟩⟩⟩⟩⟩⟩⟩⟩⟩⟩
def pX9_latest_2 (ev : xEv) : List (Nat × xEn) := [(75, .inl (xop (xf_aload 0 1))), (76, .inl (xop (xf_getf 9 2))), (79, .inl (xop (xf_iload 4 2))), (81, .inl (xop (xf_ald (ev.1 0)))), (82, .inl (xop (xf_icmp_lt 89))), (85, .inl (xop (xf_iload 5 2))), (87, .inl (xop (xf_istore 4 2))), (89, .inl (xop (xf_iinc 5 1))), (92, .inl (xop (xf_goto 6))), (95, .inl (xop (xf_iload 4 2))), (97, .inr (.inr 1))]
set_option maxRecDepth 20000 in
theorem okpX9_latest_2 (ev : xEv) : ∀ q ∈ pX9_latest_2 ev, xEnOK ev xmi yX9_latest.cls yX9_latest.name cX9_latest 7 (some .int) q :=
  List.forall_mem_cons.mpr ⟨(xOK_pure (xs_aload_n (k := 0) rfl (show decode cX9_latest 75 = .ok (.aload_n 0, 1) by decide +kernel))),
  List.forall_mem_cons.mpr ⟨(xOK_pure (xs_getf xcl_9 (by decide) (show decode cX9_latest 76 = .ok (.getfield 15, 3) by decide +kernel) xw_228)),
  List.forall_mem_cons.mpr ⟨(xOK_pure (xs_iload (show decode cX9_latest 79 = .ok (.iload 4, 2) by decide +kernel))),
  List.forall_mem_cons.mpr ⟨(xOK_pure (xs_iald (show decode cX9_latest 81 = .ok (.iaload, 1) by decide +kernel))),
  List.forall_mem_cons.mpr ⟨(xOK_pure (xs_icmp_lt (show decode cX9_latest 82 = .ok (.if_icmp .lt 7, 3) by decide +kernel) (by decide))),
  List.forall_mem_cons.mpr ⟨(xOK_pure (xs_iload (show decode cX9_latest 85 = .ok (.iload 5, 2) by decide +kernel))),
  List.forall_mem_cons.mpr ⟨(xOK_pure (xs_istore (show decode cX9_latest 87 = .ok (.istore 4, 2) by decide +kernel) (by decide))),
  List.forall_mem_cons.mpr ⟨(xOK_pure (xs_iinc (n := 1) (show decode cX9_latest 89 = .ok (.iinc 5 1, 3) by decide +kernel) (by decide) (by decide))),
  List.forall_mem_cons.mpr ⟨(xOK_pure (xs_goto (show decode cX9_latest 92 = .ok (.goto (-86), 3) by decide +kernel) (by decide))),
  List.forall_mem_cons.mpr ⟨(xOK_pure (xs_iload (show decode cX9_latest 95 = .ok (.iload 4, 2) by decide +kernel))),
  List.forall_mem_cons.mpr ⟨(Or.inr (Or.inl ⟨rfl, (show decode cX9_latest 97 = .ok (.ireturn, 1) by decide +kernel), rfl⟩)),
  (fun _ h => absurd h List.not_mem_nil)⟩⟩⟩⟩⟩⟩⟩⟩⟩⟩⟩
def pX9_latest (ev : xEv) : List (Nat × xEn) := pX9_latest_0 ev ++ (pX9_latest_1 ev ++ (pX9_latest_2 ev))
theorem okpX9_latest (ev : xEv) : ∀ q ∈ pX9_latest ev, xEnOK ev xmi yX9_latest.cls yX9_latest.name cX9_latest 7 (some .int) q := List.forall_mem_append.mpr ⟨okpX9_latest_0 ev, List.forall_mem_append.mpr ⟨okpX9_latest_1 ev, okpX9_latest_2 ev⟩⟩
theorem omX9_latest (ev : xEv) : xMethOK ev xmi yX9_latest.cls yX9_latest.name 94 (pX9_latest ev) := xMethOK.of mi_94 (by decide +kernel) (okpX9_latest ev)
def pX3_init_0 (ev : xEv) : List (Nat × xEn) := [(0, .inl (xop (xf_aload 0 1))), (1, .inl (xop xf_objInit)), (4, .inl (xop (xf_aload 0 1))), (5, .inl (xop (xf_push (.int 4) 1))), (6, .inl (xo_newa (ev.1 0) (.inl (fun _ => 0)))), (8, .inl (xo_putf 3 5 (.array .int))), (11, .inl (xop (xf_aload 0 1))), (12, .inl (xop (xf_push (.int 4) 1))), (13, .inl (xo_newa (ev.1 0) (.inl (fun _ => 0)))), (15, .inl (xo_putf 3 6 (.array .int))), (18, .inl (xop (xf_aload 0 1))), (19, .inl (xop (xf_iload 1 1))), (20, .inl (xo_putf 3 0 .int)), (23, .inl (xop (xf_aload 0 1))), (24, .inl (xop (xf_iload 2 1))), (25, .inl (xo_putf 3 1 .int)), (28, .inl (xop (xf_aload 0 1))), (29, .inl (xop (xf_iload 3 1))), (30, .inl (xo_putf 3 2 .int)), (33, .inl (xop (xf_aload 0 1)))]
set_option maxRecDepth 20000 in
theorem okpX3_init_0 (ev : xEv) : ∀ q ∈ pX3_init_0 ev, xEnOK ev xmi yX3_init.cls yX3_init.name cX3_init 5 none q :=
  List.forall_mem_cons.mpr ⟨(xOK_pure (xs_aload_n (k := 0) rfl (show decode cX3_init 0 = .ok (.aload_n 0, 1) by decide +kernel))),
  List.forall_mem_cons.mpr ⟨(xOK_pure (xs_objInit (show decode cX3_init 1 = .ok (.invokespecial 3, 3) by decide +kernel) xw_505 xw_150 xw_151)),
  List.forall_mem_cons.mpr ⟨(xOK_pure (xs_aload_n (k := 0) rfl (show decode cX3_init 4 = .ok (.aload_n 0, 1) by decide +kernel))),
  List.forall_mem_cons.mpr ⟨(xOK_pure (xs_iconst (n := 4) (show decode cX3_init 5 = .ok (.iconst 4, 1) by decide +kernel) (by decide))),
  List.forall_mem_cons.mpr ⟨(xs_newa (t := 0) (ty := .int) rfl rfl (fun _ _ => rfl) (by decide) (show decode cX3_init 6 = .ok (.newarray .int, 2) by decide +kernel) xw_209),
  List.forall_mem_cons.mpr ⟨(xs_putF (k := 5) xcl_3 (by decide) rfl rfl rfl (show decode cX3_init 8 = .ok (.putfield 11, 3) by decide +kernel) xw_519),
  List.forall_mem_cons.mpr ⟨(xOK_pure (xs_aload_n (k := 0) rfl (show decode cX3_init 11 = .ok (.aload_n 0, 1) by decide +kernel))),
  List.forall_mem_cons.mpr ⟨(xOK_pure (xs_iconst (n := 4) (show decode cX3_init 12 = .ok (.iconst 4, 1) by decide +kernel) (by decide))),
  List.forall_mem_cons.mpr ⟨(xs_newa (t := 0) (ty := .int) rfl rfl (fun _ _ => rfl) (by decide) (show decode cX3_init 13 = .ok (.newarray .int, 2) by decide +kernel) xw_209),
  List.forall_mem_cons.mpr ⟨(xs_putF (k := 6) xcl_3 (by decide) rfl rfl rfl (show decode cX3_init 15 = .ok (.putfield 15, 3) by decide +kernel) xw_520),
  List.forall_mem_cons.mpr ⟨(xOK_pure (xs_aload_n (k := 0) rfl (show decode cX3_init 18 = .ok (.aload_n 0, 1) by decide +kernel))),
  List.forall_mem_cons.mpr ⟨(xOK_pure (xs_iload_n (k := 1) rfl (show decode cX3_init 19 = .ok (.iload_n 1, 1) by decide +kernel))),
  List.forall_mem_cons.mpr ⟨(xs_putF (k := 0) xcl_3 (by decide) rfl rfl rfl (show decode cX3_init 20 = .ok (.putfield 18, 3) by decide +kernel) xw_506),
  List.forall_mem_cons.mpr ⟨(xOK_pure (xs_aload_n (k := 0) rfl (show decode cX3_init 23 = .ok (.aload_n 0, 1) by decide +kernel))),
  List.forall_mem_cons.mpr ⟨(xOK_pure (xs_iload_n (k := 2) rfl (show decode cX3_init 24 = .ok (.iload_n 2, 1) by decide +kernel))),
  List.forall_mem_cons.mpr ⟨(xs_putF (k := 1) xcl_3 (by decide) rfl rfl rfl (show decode cX3_init 25 = .ok (.putfield 22, 3) by decide +kernel) xw_510),
  List.forall_mem_cons.mpr ⟨(xOK_pure (xs_aload_n (k := 0) rfl (show decode cX3_init 28 = .ok (.aload_n 0, 1) by decide +kernel))),
  List.forall_mem_cons.mpr ⟨(xOK_pure (xs_iload_n (k := 3) rfl (show decode cX3_init 29 = .ok (.iload_n 3, 1) by decide +kernel))),
  List.forall_mem_cons.mpr ⟨(xs_putF (k := 2) xcl_3 (by decide) rfl rfl rfl (show decode cX3_init 30 = .ok (.putfield 25, 3) by decide +kernel) xw_511),
  List.forall_mem_cons.mpr ⟨(xOK_pure (xs_aload_n (k := 0) rfl (show decode cX3_init 33 = .ok (.aload_n 0, 1) by decide +kernel))),
  (fun _ h => absurd h List.not_mem_nil)⟩⟩⟩⟩⟩⟩⟩⟩⟩⟩⟩⟩⟩⟩⟩⟩⟩⟩⟩⟩
def pX3_init_1 (ev : xEv) : List (Nat × xEn) := [(34, .inl (xop (xf_iload 4 2))), (36, .inl (xo_putf 3 3 .int)), (39, .inr (.inr 0))]
set_option maxRecDepth 20000 in
theorem okpX3_init_1 (ev : xEv) : ∀ q ∈ pX3_init_1 ev, xEnOK ev xmi yX3_init.cls yX3_init.name cX3_init 5 none q :=
  List.forall_mem_cons.mpr ⟨(xOK_pure (xs_iload (show decode cX3_init 34 = .ok (.iload 4, 2) by decide +kernel))),
  List.forall_mem_cons.mpr ⟨(xs_putF (k := 3) xcl_3 (by decide) rfl rfl rfl (show decode cX3_init 36 = .ok (.putfield 28, 3) by decide +kernel) xw_515),
  List.forall_mem_cons.mpr ⟨(Or.inl ⟨rfl, (show decode cX3_init 39 = .ok (.return_, 1) by decide +kernel), rfl⟩),
  (fun _ h => absurd h List.not_mem_nil)⟩⟩⟩
def pX3_init (ev : xEv) : List (Nat × xEn) := pX3_init_0 ev ++ (pX3_init_1 ev)
theorem okpX3_init (ev : xEv) : ∀ q ∈ pX3_init ev, xEnOK ev xmi yX3_init.cls yX3_init.name cX3_init 5 none q := List.forall_mem_append.mpr ⟨okpX3_init_0 ev, okpX3_init_1 ev⟩
theorem omX3_init (ev : xEv) : xMethOK ev xmi yX3_init.cls yX3_init.name 29 (pX3_init ev) := xMethOK.of mi_29 (by decide +kernel) (okpX3_init ev)
def pX3_addGround_0 (ev : xEv) : List (Nat × xEn) := [(0, .inl (xop (xf_aload 0 1))), (1, .inl (xop (xf_getf 3 5))), (4, .inl (xop (xf_aload 0 1))), (5, .inl (xop (xf_getf 3 4))), (8, .inl (xop (xf_iload 1 1))), (9, .inl (xo_ast (ev.1 0) (fun x => x))), (10, .inl (xop (xf_aload 0 1))), (11, .inl (xop (xf_getf 3 6))), (14, .inl (xop (xf_aload 0 1))), (15, .inl (xop (xf_getf 3 4))), (18, .inl (xop (xf_iload 2 1))), (19, .inl (xo_ast (ev.1 0) (fun x => x))), (20, .inl (xop (xf_aload 0 1))), (21, .inl (xop xf_dup)), (22, .inl (xop (xf_getf 3 4))), (25, .inl (xop (xf_push (.int 1) 1))), (26, .inl (xop (xf_bin (fun x y => x + y)))), (27, .inl (xo_putf 3 4 .int)), (30, .inl (xop (xf_aload 0 1))), (31, .inl (xop (xf_getf 3 4)))]
set_option maxRecDepth 20000 in
theorem okpX3_addGround_0 (ev : xEv) : ∀ q ∈ pX3_addGround_0 ev, xEnOK ev xmi yX3_addGround.cls yX3_addGround.name cX3_addGround 3 (some .int) q :=
  List.forall_mem_cons.mpr ⟨(xOK_pure (xs_aload_n (k := 0) rfl (show decode cX3_addGround 0 = .ok (.aload_n 0, 1) by decide +kernel))),
  List.forall_mem_cons.mpr ⟨(xOK_pure (xs_getf xcl_3 (by decide) (show decode cX3_addGround 1 = .ok (.getfield 11, 3) by decide +kernel) xw_519)),
  List.forall_mem_cons.mpr ⟨(xOK_pure (xs_aload_n (k := 0) rfl (show decode cX3_addGround 4 = .ok (.aload_n 0, 1) by decide +kernel))),
  List.forall_mem_cons.mpr ⟨(xOK_pure (xs_getf xcl_3 (by decide) (show decode cX3_addGround 5 = .ok (.getfield 31, 3) by decide +kernel) xw_517)),
  List.forall_mem_cons.mpr ⟨(xOK_pure (xs_iload_n (k := 1) rfl (show decode cX3_addGround 8 = .ok (.iload_n 1, 1) by decide +kernel))),
  List.forall_mem_cons.mpr ⟨(xs_iast (show decode cX3_addGround 9 = .ok (.iastore, 1) by decide +kernel)),
  List.forall_mem_cons.mpr ⟨(xOK_pure (xs_aload_n (k := 0) rfl (show decode cX3_addGround 10 = .ok (.aload_n 0, 1) by decide +kernel))),
  List.forall_mem_cons.mpr ⟨(xOK_pure (xs_getf xcl_3 (by decide) (show decode cX3_addGround 11 = .ok (.getfield 15, 3) by decide +kernel) xw_520)),
  List.forall_mem_cons.mpr ⟨(xOK_pure (xs_aload_n (k := 0) rfl (show decode cX3_addGround 14 = .ok (.aload_n 0, 1) by decide +kernel))),
  List.forall_mem_cons.mpr ⟨(xOK_pure (xs_getf xcl_3 (by decide) (show decode cX3_addGround 15 = .ok (.getfield 31, 3) by decide +kernel) xw_517)),
  List.forall_mem_cons.mpr ⟨(xOK_pure (xs_iload_n (k := 2) rfl (show decode cX3_addGround 18 = .ok (.iload_n 2, 1) by decide +kernel))),
  List.forall_mem_cons.mpr ⟨(xs_iast (show decode cX3_addGround 19 = .ok (.iastore, 1) by decide +kernel)),
  List.forall_mem_cons.mpr ⟨(xOK_pure (xs_aload_n (k := 0) rfl (show decode cX3_addGround 20 = .ok (.aload_n 0, 1) by decide +kernel))),
  List.forall_mem_cons.mpr ⟨(xOK_pure (xs_dup (show decode cX3_addGround 21 = .ok (.dup, 1) by decide +kernel))),
  List.forall_mem_cons.mpr ⟨(xOK_pure (xs_getf xcl_3 (by decide) (show decode cX3_addGround 22 = .ok (.getfield 31, 3) by decide +kernel) xw_517)),
  List.forall_mem_cons.mpr ⟨(xOK_pure (xs_iconst (n := 1) (show decode cX3_addGround 25 = .ok (.iconst 1, 1) by decide +kernel) (by decide))),
  List.forall_mem_cons.mpr ⟨(xOK_pure (xs_iadd (show decode cX3_addGround 26 = .ok (.iadd, 1) by decide +kernel))),
  List.forall_mem_cons.mpr ⟨(xs_putf (k := 4) xcl_3 (by decide) rfl (show decode cX3_addGround 27 = .ok (.putfield 31, 3) by decide +kernel) xw_517),
  List.forall_mem_cons.mpr ⟨(xOK_pure (xs_aload_n (k := 0) rfl (show decode cX3_addGround 30 = .ok (.aload_n 0, 1) by decide +kernel))),
  List.forall_mem_cons.mpr ⟨(xOK_pure (xs_getf xcl_3 (by decide) (show decode cX3_addGround 31 = .ok (.getfield 31, 3) by decide +kernel) xw_517)),
  (fun _ h => absurd h List.not_mem_nil)⟩⟩⟩⟩⟩⟩⟩⟩⟩⟩⟩⟩⟩⟩⟩⟩⟩⟩⟩⟩
def pX3_addGround_1 (ev : xEv) : List (Nat × xEn) := [(34, .inr (.inr 1))]
set_option maxRecDepth 20000 in
theorem okpX3_addGround_1 (ev : xEv) : ∀ q ∈ pX3_addGround_1 ev, xEnOK ev xmi yX3_addGround.cls yX3_addGround.name cX3_addGround 3 (some .int) q :=
  List.forall_mem_cons.mpr ⟨(Or.inr (Or.inl ⟨rfl, (show decode cX3_addGround 34 = .ok (.ireturn, 1) by decide +kernel), rfl⟩)),
  (fun _ h => absurd h List.not_mem_nil)⟩
def pX3_addGround (ev : xEv) : List (Nat × xEn) := pX3_addGround_0 ev ++ (pX3_addGround_1 ev)
theorem okpX3_addGround (ev : xEv) : ∀ q ∈ pX3_addGround ev, xEnOK ev xmi yX3_addGround.cls yX3_addGround.name cX3_addGround 3 (some .int) q := List.forall_mem_append.mpr ⟨okpX3_addGround_0 ev, okpX3_addGround_1 ev⟩
theorem omX3_addGround (ev : xEv) : xMethOK ev xmi yX3_addGround.cls yX3_addGround.name 30 (pX3_addGround ev) := xMethOK.of mi_30 (by decide +kernel) (okpX3_addGround ev)
def pX3_bestGround_0 (ev : xEv) : List (Nat × xEn) := [(0, .inl (xop (xf_push (.int (-1)) 1))), (1, .inl (xop (xf_istore 3 1))), (2, .inl (xop (xf_push (.int 0) 1))), (3, .inl (xop (xf_istore 4 2))), (5, .inl (xop (xf_iload 4 2))), (7, .inl (xop (xf_aload 0 1))), (8, .inl (xop (xf_getf 3 4))), (11, .inl (xop (xf_icmp_ge 55))), (14, .inl (xop (xf_aload 0 1))), (15, .inl (xop (xf_getf 3 5))), (18, .inl (xop (xf_iload 4 2))), (20, .inl (xop (xf_ald (ev.1 0)))), (21, .inl (xop (xf_iload 1 1))), (22, .inl (xop (xf_bin (fun x y => x - y)))), (23, .inl (xop (xf_m1 (fun x => if 0 ≤ x then x else 0 - x)))), (26, .inl (xop (xf_iload 2 1))), (27, .inl (xop (xf_icmp_gt 49))), (30, .inl (xop (xf_iload 3 1))), (31, .inl (xop (xf_push (.int (-1)) 1))), (32, .inl (xop (xf_icmp_eq 46)))]
set_option maxRecDepth 20000 in
theorem okpX3_bestGround_0 (ev : xEv) : ∀ q ∈ pX3_bestGround_0 ev, xEnOK ev xmi yX3_bestGround.cls yX3_bestGround.name cX3_bestGround 5 (some .int) q :=
  List.forall_mem_cons.mpr ⟨(xOK_pure (xs_iconst (n := (-1)) (show decode cX3_bestGround 0 = .ok (.iconst (-1), 1) by decide +kernel) (by decide))),
  List.forall_mem_cons.mpr ⟨(xOK_pure (xs_istore_n (k := 3) rfl (show decode cX3_bestGround 1 = .ok (.istore_n 3, 1) by decide +kernel) (by decide))),
  List.forall_mem_cons.mpr ⟨(xOK_pure (xs_iconst (n := 0) (show decode cX3_bestGround 2 = .ok (.iconst 0, 1) by decide +kernel) (by decide))),
  List.forall_mem_cons.mpr ⟨(xOK_pure (xs_istore (show decode cX3_bestGround 3 = .ok (.istore 4, 2) by decide +kernel) (by decide))),
  List.forall_mem_cons.mpr ⟨(xOK_pure (xs_iload (show decode cX3_bestGround 5 = .ok (.iload 4, 2) by decide +kernel))),
  List.forall_mem_cons.mpr ⟨(xOK_pure (xs_aload_n (k := 0) rfl (show decode cX3_bestGround 7 = .ok (.aload_n 0, 1) by decide +kernel))),
  List.forall_mem_cons.mpr ⟨(xOK_pure (xs_getf xcl_3 (by decide) (show decode cX3_bestGround 8 = .ok (.getfield 31, 3) by decide +kernel) xw_517)),
  List.forall_mem_cons.mpr ⟨(xOK_pure (xs_icmp_ge (show decode cX3_bestGround 11 = .ok (.if_icmp .ge 44, 3) by decide +kernel) (by decide))),
  List.forall_mem_cons.mpr ⟨(xOK_pure (xs_aload_n (k := 0) rfl (show decode cX3_bestGround 14 = .ok (.aload_n 0, 1) by decide +kernel))),
  List.forall_mem_cons.mpr ⟨(xOK_pure (xs_getf xcl_3 (by decide) (show decode cX3_bestGround 15 = .ok (.getfield 11, 3) by decide +kernel) xw_519)),
  List.forall_mem_cons.mpr ⟨(xOK_pure (xs_iload (show decode cX3_bestGround 18 = .ok (.iload 4, 2) by decide +kernel))),
  List.forall_mem_cons.mpr ⟨(xOK_pure (xs_iald (show decode cX3_bestGround 20 = .ok (.iaload, 1) by decide +kernel))),
  List.forall_mem_cons.mpr ⟨(xOK_pure (xs_iload_n (k := 1) rfl (show decode cX3_bestGround 21 = .ok (.iload_n 1, 1) by decide +kernel))),
  List.forall_mem_cons.mpr ⟨(xOK_pure (xs_isub (show decode cX3_bestGround 22 = .ok (.isub, 1) by decide +kernel))),
  List.forall_mem_cons.mpr ⟨(xOK_pure (xs_mabs (show decode cX3_bestGround 23 = .ok (.invokestatic 34, 3) by decide +kernel) xw_1237 xw_1238 xw_127 xw_1239)),
  List.forall_mem_cons.mpr ⟨(xOK_pure (xs_iload_n (k := 2) rfl (show decode cX3_bestGround 26 = .ok (.iload_n 2, 1) by decide +kernel))),
  List.forall_mem_cons.mpr ⟨(xOK_pure (xs_icmp_gt (show decode cX3_bestGround 27 = .ok (.if_icmp .gt 22, 3) by decide +kernel) (by decide))),
  List.forall_mem_cons.mpr ⟨(xOK_pure (xs_iload_n (k := 3) rfl (show decode cX3_bestGround 30 = .ok (.iload_n 3, 1) by decide +kernel))),
  List.forall_mem_cons.mpr ⟨(xOK_pure (xs_iconst (n := (-1)) (show decode cX3_bestGround 31 = .ok (.iconst (-1), 1) by decide +kernel) (by decide))),
  List.forall_mem_cons.mpr ⟨(xOK_pure (xs_icmp_eq (show decode cX3_bestGround 32 = .ok (.if_icmp .eq 14, 3) by decide +kernel) (by decide))),
  (fun _ h => absurd h List.not_mem_nil)⟩⟩⟩⟩⟩⟩⟩⟩⟩⟩⟩⟩⟩⟩⟩⟩⟩⟩⟩⟩
def pX3_bestGround_1 (ev : xEv) : List (Nat × xEn) := [(35, .inl (xop (xf_aload 0 1))), (36, .inl (xop (xf_iload 4 2))), (38, .inl (xop (xf_iload 3 1))), (39, .inl (xop (xf_iload 1 1))), (40, .inr (.inl (0, 32, 3, 3))), (43, .inl (xop (xf_if_eq 49))), (46, .inl (xop (xf_iload 4 2))), (48, .inl (xop (xf_istore 3 1))), (49, .inl (xop (xf_iinc 4 1))), (52, .inl (xop (xf_goto 5))), (55, .inl (xop (xf_iload 3 1))), (56, .inr (.inr 1))]
set_option maxRecDepth 20000 in
theorem okpX3_bestGround_1 (ev : xEv) : ∀ q ∈ pX3_bestGround_1 ev, xEnOK ev xmi yX3_bestGround.cls yX3_bestGround.name cX3_bestGround 5 (some .int) q :=
  List.forall_mem_cons.mpr ⟨(xOK_pure (xs_aload_n (k := 0) rfl (show decode cX3_bestGround 35 = .ok (.aload_n 0, 1) by decide +kernel))),
  List.forall_mem_cons.mpr ⟨(xOK_pure (xs_iload (show decode cX3_bestGround 36 = .ok (.iload 4, 2) by decide +kernel))),
  List.forall_mem_cons.mpr ⟨(xOK_pure (xs_iload_n (k := 3) rfl (show decode cX3_bestGround 38 = .ok (.iload_n 3, 1) by decide +kernel))),
  List.forall_mem_cons.mpr ⟨(xOK_pure (xs_iload_n (k := 1) rfl (show decode cX3_bestGround 39 = .ok (.iload_n 1, 1) by decide +kernel))),
  List.forall_mem_cons.mpr ⟨(xcm mi_32 ⟨⟨(by decide +kernel), (by decide +kernel), (by decide +kernel)⟩, (by decide), xw_1243, xw_126, Or.inl ⟨rfl, _, _, _, _, (show decode cX3_bestGround 40 = .ok (.invokevirtual 40, 3) by decide +kernel), xw_1240, xw_1242, xw_37, rfl⟩⟩),
  List.forall_mem_cons.mpr ⟨(xOK_pure (xs_if_eq (show decode cX3_bestGround 43 = .ok (.ifCond .eq 6, 3) by decide +kernel) (by decide))),
  List.forall_mem_cons.mpr ⟨(xOK_pure (xs_iload (show decode cX3_bestGround 46 = .ok (.iload 4, 2) by decide +kernel))),
  List.forall_mem_cons.mpr ⟨(xOK_pure (xs_istore_n (k := 3) rfl (show decode cX3_bestGround 48 = .ok (.istore_n 3, 1) by decide +kernel) (by decide))),
  List.forall_mem_cons.mpr ⟨(xOK_pure (xs_iinc (n := 1) (show decode cX3_bestGround 49 = .ok (.iinc 4 1, 3) by decide +kernel) (by decide) (by decide))),
  List.forall_mem_cons.mpr ⟨(xOK_pure (xs_goto (show decode cX3_bestGround 52 = .ok (.goto (-47), 3) by decide +kernel) (by decide))),
  List.forall_mem_cons.mpr ⟨(xOK_pure (xs_iload_n (k := 3) rfl (show decode cX3_bestGround 55 = .ok (.iload_n 3, 1) by decide +kernel))),
  List.forall_mem_cons.mpr ⟨(Or.inr (Or.inl ⟨rfl, (show decode cX3_bestGround 56 = .ok (.ireturn, 1) by decide +kernel), rfl⟩)),
  (fun _ h => absurd h List.not_mem_nil)⟩⟩⟩⟩⟩⟩⟩⟩⟩⟩⟩⟩
def pX3_bestGround (ev : xEv) : List (Nat × xEn) := pX3_bestGround_0 ev ++ (pX3_bestGround_1 ev)
theorem okpX3_bestGround (ev : xEv) : ∀ q ∈ pX3_bestGround ev, xEnOK ev xmi yX3_bestGround.cls yX3_bestGround.name cX3_bestGround 5 (some .int) q := List.forall_mem_append.mpr ⟨okpX3_bestGround_0 ev, okpX3_bestGround_1 ev⟩
theorem omX3_bestGround (ev : xEv) : xMethOK ev xmi yX3_bestGround.cls yX3_bestGround.name 31 (pX3_bestGround ev) := xMethOK.of mi_31 (by decide +kernel) (okpX3_bestGround ev)
def pX3_isBetter_0 (ev : xEv) : List (Nat × xEn) := [(0, .inl (xop (xf_aload 0 1))), (1, .inl (xop (xf_getf 3 6))), (4, .inl (xop (xf_iload 1 1))), (5, .inl (xop (xf_ald (ev.1 0)))), (6, .inl (xop (xf_aload 0 1))), (7, .inl (xop (xf_getf 3 6))), (10, .inl (xop (xf_iload 2 1))), (11, .inl (xop (xf_ald (ev.1 0)))), (12, .inl (xop (xf_icmp_eq 36))), (15, .inl (xop (xf_aload 0 1))), (16, .inl (xop (xf_getf 3 6))), (19, .inl (xop (xf_iload 1 1))), (20, .inl (xop (xf_ald (ev.1 0)))), (21, .inl (xop (xf_aload 0 1))), (22, .inl (xop (xf_getf 3 6))), (25, .inl (xop (xf_iload 2 1))), (26, .inl (xop (xf_ald (ev.1 0)))), (27, .inl (xop (xf_icmp_ge 34))), (30, .inl (xop (xf_push (.int 1) 1))), (31, .inl (xop (xf_goto 35)))]
set_option maxRecDepth 20000 in
theorem okpX3_isBetter_0 (ev : xEv) : ∀ q ∈ pX3_isBetter_0 ev, xEnOK ev xmi yX3_isBetter.cls yX3_isBetter.name cX3_isBetter 6 (some .boolean) q :=
  List.forall_mem_cons.mpr ⟨(xOK_pure (xs_aload_n (k := 0) rfl (show decode cX3_isBetter 0 = .ok (.aload_n 0, 1) by decide +kernel))),
  List.forall_mem_cons.mpr ⟨(xOK_pure (xs_getf xcl_3 (by decide) (show decode cX3_isBetter 1 = .ok (.getfield 15, 3) by decide +kernel) xw_520)),
  List.forall_mem_cons.mpr ⟨(xOK_pure (xs_iload_n (k := 1) rfl (show decode cX3_isBetter 4 = .ok (.iload_n 1, 1) by decide +kernel))),
  List.forall_mem_cons.mpr ⟨(xOK_pure (xs_iald (show decode cX3_isBetter 5 = .ok (.iaload, 1) by decide +kernel))),
  List.forall_mem_cons.mpr ⟨(xOK_pure (xs_aload_n (k := 0) rfl (show decode cX3_isBetter 6 = .ok (.aload_n 0, 1) by decide +kernel))),
  List.forall_mem_cons.mpr ⟨(xOK_pure (xs_getf xcl_3 (by decide) (show decode cX3_isBetter 7 = .ok (.getfield 15, 3) by decide +kernel) xw_520)),
  List.forall_mem_cons.mpr ⟨(xOK_pure (xs_iload_n (k := 2) rfl (show decode cX3_isBetter 10 = .ok (.iload_n 2, 1) by decide +kernel))),
  List.forall_mem_cons.mpr ⟨(xOK_pure (xs_iald (show decode cX3_isBetter 11 = .ok (.iaload, 1) by decide +kernel))),
  List.forall_mem_cons.mpr ⟨(xOK_pure (xs_icmp_eq (show decode cX3_isBetter 12 = .ok (.if_icmp .eq 24, 3) by decide +kernel) (by decide))),
  List.forall_mem_cons.mpr ⟨(xOK_pure (xs_aload_n (k := 0) rfl (show decode cX3_isBetter 15 = .ok (.aload_n 0, 1) by decide +kernel))),
  List.forall_mem_cons.mpr ⟨(xOK_pure (xs_getf xcl_3 (by decide) (show decode cX3_isBetter 16 = .ok (.getfield 15, 3) by decide +kernel) xw_520)),
  List.forall_mem_cons.mpr ⟨(xOK_pure (xs_iload_n (k := 1) rfl (show decode cX3_isBetter 19 = .ok (.iload_n 1, 1) by decide +kernel))),
  List.forall_mem_cons.mpr ⟨(xOK_pure (xs_iald (show decode cX3_isBetter 20 = .ok (.iaload, 1) by decide +kernel))),
  List.forall_mem_cons.mpr ⟨(xOK_pure (xs_aload_n (k := 0) rfl (show decode cX3_isBetter 21 = .ok (.aload_n 0, 1) by decide +kernel))),
  List.forall_mem_cons.mpr ⟨(xOK_pure (xs_getf xcl_3 (by decide) (show decode cX3_isBetter 22 = .ok (.getfield 15, 3) by decide +kernel) xw_520)),
  List.forall_mem_cons.mpr ⟨(xOK_pure (xs_iload_n (k := 2) rfl (show decode cX3_isBetter 25 = .ok (.iload_n 2, 1) by decide +kernel))),
  List.forall_mem_cons.mpr ⟨(xOK_pure (xs_iald (show decode cX3_isBetter 26 = .ok (.iaload, 1) by decide +kernel))),
  List.forall_mem_cons.mpr ⟨(xOK_pure (xs_icmp_ge (show decode cX3_isBetter 27 = .ok (.if_icmp .ge 7, 3) by decide +kernel) (by decide))),
  List.forall_mem_cons.mpr ⟨(xOK_pure (xs_iconst (n := 1) (show decode cX3_isBetter 30 = .ok (.iconst 1, 1) by decide +kernel) (by decide))),
  List.forall_mem_cons.mpr ⟨(xOK_pure (xs_goto (show decode cX3_isBetter 31 = .ok (.goto 4, 3) by decide +kernel) (by decide))),
  (fun _ h => absurd h List.not_mem_nil)⟩⟩⟩⟩⟩⟩⟩⟩⟩⟩⟩⟩⟩⟩⟩⟩⟩⟩⟩⟩
def pX3_isBetter_1 (ev : xEv) : List (Nat × xEn) := [(34, .inl (xop (xf_push (.int 0) 1))), (35, .inr (.inr 4)), (36, .inl (xop (xf_aload 0 1))), (37, .inl (xop (xf_getf 3 5))), (40, .inl (xop (xf_iload 1 1))), (41, .inl (xop (xf_ald (ev.1 0)))), (42, .inl (xop (xf_iload 3 1))), (43, .inl (xop (xf_bin (fun x y => x - y)))), (44, .inl (xop (xf_m1 (fun x => if 0 ≤ x then x else 0 - x)))), (47, .inl (xop (xf_istore 4 2))), (49, .inl (xop (xf_aload 0 1))), (50, .inl (xop (xf_getf 3 5))), (53, .inl (xop (xf_iload 2 1))), (54, .inl (xop (xf_ald (ev.1 0)))), (55, .inl (xop (xf_iload 3 1))), (56, .inl (xop (xf_bin (fun x y => x - y)))), (57, .inl (xop (xf_m1 (fun x => if 0 ≤ x then x else 0 - x)))), (60, .inl (xop (xf_istore 5 2))), (62, .inl (xop (xf_iload 4 2))), (64, .inl (xop (xf_iload 5 2)))]
set_option maxRecDepth 20000 in
theorem okpX3_isBetter_1 (ev : xEv) : ∀ q ∈ pX3_isBetter_1 ev, xEnOK ev xmi yX3_isBetter.cls yX3_isBetter.name cX3_isBetter 6 (some .boolean) q :=
  List.forall_mem_cons.mpr ⟨(xOK_pure (xs_iconst (n := 0) (show decode cX3_isBetter 34 = .ok (.iconst 0, 1) by decide +kernel) (by decide))),
  List.forall_mem_cons.mpr ⟨(Or.inr (Or.inr (Or.inr (Or.inr (Or.inl ⟨rfl, (show decode cX3_isBetter 35 = .ok (.ireturn, 1) by decide +kernel), rfl⟩))))),
  List.forall_mem_cons.mpr ⟨(xOK_pure (xs_aload_n (k := 0) rfl (show decode cX3_isBetter 36 = .ok (.aload_n 0, 1) by decide +kernel))),
  List.forall_mem_cons.mpr ⟨(xOK_pure (xs_getf xcl_3 (by decide) (show decode cX3_isBetter 37 = .ok (.getfield 11, 3) by decide +kernel) xw_519)),
  List.forall_mem_cons.mpr ⟨(xOK_pure (xs_iload_n (k := 1) rfl (show decode cX3_isBetter 40 = .ok (.iload_n 1, 1) by decide +kernel))),
  List.forall_mem_cons.mpr ⟨(xOK_pure (xs_iald (show decode cX3_isBetter 41 = .ok (.iaload, 1) by decide +kernel))),
  List.forall_mem_cons.mpr ⟨(xOK_pure (xs_iload_n (k := 3) rfl (show decode cX3_isBetter 42 = .ok (.iload_n 3, 1) by decide +kernel))),
  List.forall_mem_cons.mpr ⟨(xOK_pure (xs_isub (show decode cX3_isBetter 43 = .ok (.isub, 1) by decide +kernel))),
  List.forall_mem_cons.mpr ⟨(xOK_pure (xs_mabs (show decode cX3_isBetter 44 = .ok (.invokestatic 34, 3) by decide +kernel) xw_1237 xw_1238 xw_127 xw_1239)),
  List.forall_mem_cons.mpr ⟨(xOK_pure (xs_istore (show decode cX3_isBetter 47 = .ok (.istore 4, 2) by decide +kernel) (by decide))),
  List.forall_mem_cons.mpr ⟨(xOK_pure (xs_aload_n (k := 0) rfl (show decode cX3_isBetter 49 = .ok (.aload_n 0, 1) by decide +kernel))),
  List.forall_mem_cons.mpr ⟨(xOK_pure (xs_getf xcl_3 (by decide) (show decode cX3_isBetter 50 = .ok (.getfield 11, 3) by decide +kernel) xw_519)),
  List.forall_mem_cons.mpr ⟨(xOK_pure (xs_iload_n (k := 2) rfl (show decode cX3_isBetter 53 = .ok (.iload_n 2, 1) by decide +kernel))),
  List.forall_mem_cons.mpr ⟨(xOK_pure (xs_iald (show decode cX3_isBetter 54 = .ok (.iaload, 1) by decide +kernel))),
  List.forall_mem_cons.mpr ⟨(xOK_pure (xs_iload_n (k := 3) rfl (show decode cX3_isBetter 55 = .ok (.iload_n 3, 1) by decide +kernel))),
  List.forall_mem_cons.mpr ⟨(xOK_pure (xs_isub (show decode cX3_isBetter 56 = .ok (.isub, 1) by decide +kernel))),
  List.forall_mem_cons.mpr ⟨(xOK_pure (xs_mabs (show decode cX3_isBetter 57 = .ok (.invokestatic 34, 3) by decide +kernel) xw_1237 xw_1238 xw_127 xw_1239)),
  List.forall_mem_cons.mpr ⟨(xOK_pure (xs_istore (show decode cX3_isBetter 60 = .ok (.istore 5, 2) by decide +kernel) (by decide))),
  List.forall_mem_cons.mpr ⟨(xOK_pure (xs_iload (show decode cX3_isBetter 62 = .ok (.iload 4, 2) by decide +kernel))),
  List.forall_mem_cons.mpr ⟨(xOK_pure (xs_iload (show decode cX3_isBetter 64 = .ok (.iload 5, 2) by decide +kernel))),
  (fun _ h => absurd h List.not_mem_nil)⟩⟩⟩⟩⟩⟩⟩⟩⟩⟩⟩⟩⟩⟩⟩⟩⟩⟩⟩⟩
def pX3_isBetter_2 (ev : xEv) : List (Nat × xEn) := [(66, .inl (xop (xf_icmp_lt 91))), (69, .inl (xop (xf_iload 4 2))), (71, .inl (xop (xf_iload 5 2))), (73, .inl (xop (xf_icmp_ne 95))), (76, .inl (xop (xf_aload 0 1))), (77, .inl (xop (xf_getf 3 5))), (80, .inl (xop (xf_iload 1 1))), (81, .inl (xop (xf_ald (ev.1 0)))), (82, .inl (xop (xf_aload 0 1))), (83, .inl (xop (xf_getf 3 5))), (86, .inl (xop (xf_iload 2 1))), (87, .inl (xop (xf_ald (ev.1 0)))), (88, .inl (xop (xf_icmp_ge 95))), (91, .inl (xop (xf_push (.int 1) 1))), (92, .inl (xop (xf_goto 96))), (95, .inl (xop (xf_push (.int 0) 1))), (96, .inr (.inr 4))]
set_option maxRecDepth 20000 in
theorem okpX3_isBetter_2 (ev : xEv) : ∀ q ∈ pX3_isBetter_2 ev, xEnOK ev xmi yX3_isBetter.cls yX3_isBetter.name cX3_isBetter 6 (some .boolean) q :=
  List.forall_mem_cons.mpr ⟨(xOK_pure (xs_icmp_lt (show decode cX3_isBetter 66 = .ok (.if_icmp .lt 25, 3) by decide +kernel) (by decide))),
  List.forall_mem_cons.mpr ⟨(xOK_pure (xs_iload (show decode cX3_isBetter 69 = .ok (.iload 4, 2) by decide +kernel))),
  List.forall_mem_cons.mpr ⟨(xOK_pure (xs_iload (show decode cX3_isBetter 71 = .ok (.iload 5, 2) by decide +kernel))),
  List.forall_mem_cons.mpr ⟨(xOK_pure (xs_icmp_ne (show decode cX3_isBetter 73 = .ok (.if_icmp .ne 22, 3) by decide +kernel) (by decide))),
  List.forall_mem_cons.mpr ⟨(xOK_pure (xs_aload_n (k := 0) rfl (show decode cX3_isBetter 76 = .ok (.aload_n 0, 1) by decide +kernel))),
  List.forall_mem_cons.mpr ⟨(xOK_pure (xs_getf xcl_3 (by decide) (show decode cX3_isBetter 77 = .ok (.getfield 11, 3) by decide +kernel) xw_519)),
  List.forall_mem_cons.mpr ⟨(xOK_pure (xs_iload_n (k := 1) rfl (show decode cX3_isBetter 80 = .ok (.iload_n 1, 1) by decide +kernel))),
  List.forall_mem_cons.mpr ⟨(xOK_pure (xs_iald (show decode cX3_isBetter 81 = .ok (.iaload, 1) by decide +kernel))),
  List.forall_mem_cons.mpr ⟨(xOK_pure (xs_aload_n (k := 0) rfl (show decode cX3_isBetter 82 = .ok (.aload_n 0, 1) by decide +kernel))),
  List.forall_mem_cons.mpr ⟨(xOK_pure (xs_getf xcl_3 (by decide) (show decode cX3_isBetter 83 = .ok (.getfield 11, 3) by decide +kernel) xw_519)),
  List.forall_mem_cons.mpr ⟨(xOK_pure (xs_iload_n (k := 2) rfl (show decode cX3_isBetter 86 = .ok (.iload_n 2, 1) by decide +kernel))),
  List.forall_mem_cons.mpr ⟨(xOK_pure (xs_iald (show decode cX3_isBetter 87 = .ok (.iaload, 1) by decide +kernel))),
  List.forall_mem_cons.mpr ⟨(xOK_pure (xs_icmp_ge (show decode cX3_isBetter 88 = .ok (.if_icmp .ge 7, 3) by decide +kernel) (by decide))),
  List.forall_mem_cons.mpr ⟨(xOK_pure (xs_iconst (n := 1) (show decode cX3_isBetter 91 = .ok (.iconst 1, 1) by decide +kernel) (by decide))),
  List.forall_mem_cons.mpr ⟨(xOK_pure (xs_goto (show decode cX3_isBetter 92 = .ok (.goto 4, 3) by decide +kernel) (by decide))),
  List.forall_mem_cons.mpr ⟨(xOK_pure (xs_iconst (n := 0) (show decode cX3_isBetter 95 = .ok (.iconst 0, 1) by decide +kernel) (by decide))),
  List.forall_mem_cons.mpr ⟨(Or.inr (Or.inr (Or.inr (Or.inr (Or.inl ⟨rfl, (show decode cX3_isBetter 96 = .ok (.ireturn, 1) by decide +kernel), rfl⟩))))),
  (fun _ h => absurd h List.not_mem_nil)⟩⟩⟩⟩⟩⟩⟩⟩⟩⟩⟩⟩⟩⟩⟩⟩⟩
def pX3_isBetter (ev : xEv) : List (Nat × xEn) := pX3_isBetter_0 ev ++ (pX3_isBetter_1 ev ++ (pX3_isBetter_2 ev))
theorem okpX3_isBetter (ev : xEv) : ∀ q ∈ pX3_isBetter ev, xEnOK ev xmi yX3_isBetter.cls yX3_isBetter.name cX3_isBetter 6 (some .boolean) q := List.forall_mem_append.mpr ⟨okpX3_isBetter_0 ev, List.forall_mem_append.mpr ⟨okpX3_isBetter_1 ev, okpX3_isBetter_2 ev⟩⟩
theorem omX3_isBetter (ev : xEv) : xMethOK ev xmi yX3_isBetter.cls yX3_isBetter.name 32 (pX3_isBetter ev) := xMethOK.of mi_32 (by decide +kernel) (okpX3_isBetter ev)
def pX3_mileOf (ev : xEv) : List (Nat × xEn) := [(0, .inl (xop (xf_iload 1 1))), (1, .inl (xop (xf_push (.int 0) 1))), (2, .inl (xop (xf_aload 0 1))), (3, .inl (xop (xf_getf 3 4))), (6, .inl (xop (xf_push (.int 1) 1))), (7, .inl (xop (xf_bin (fun x y => x - y)))), (8, .inr (.inl (3, 183, 3, 11))), (11, .inl (xop (xf_if_eq 23))), (14, .inl (xop (xf_aload 0 1))), (15, .inl (xop (xf_getf 3 5))), (18, .inl (xop (xf_iload 1 1))), (19, .inl (xop (xf_ald (ev.1 0)))), (20, .inl (xop (xf_goto 24))), (23, .inl (xop (xf_push (.int (-1)) 1))), (24, .inr (.inr 1))]
set_option maxRecDepth 20000 in
theorem okpX3_mileOf (ev : xEv) : ∀ q ∈ pX3_mileOf ev, xEnOK ev xmi yX3_mileOf.cls yX3_mileOf.name cX3_mileOf 2 (some .int) q :=
  List.forall_mem_cons.mpr ⟨(xOK_pure (xs_iload_n (k := 1) rfl (show decode cX3_mileOf 0 = .ok (.iload_n 1, 1) by decide +kernel))),
  List.forall_mem_cons.mpr ⟨(xOK_pure (xs_iconst (n := 0) (show decode cX3_mileOf 1 = .ok (.iconst 0, 1) by decide +kernel) (by decide))),
  List.forall_mem_cons.mpr ⟨(xOK_pure (xs_aload_n (k := 0) rfl (show decode cX3_mileOf 2 = .ok (.aload_n 0, 1) by decide +kernel))),
  List.forall_mem_cons.mpr ⟨(xOK_pure (xs_getf xcl_3 (by decide) (show decode cX3_mileOf 3 = .ok (.getfield 31, 3) by decide +kernel) xw_517)),
  List.forall_mem_cons.mpr ⟨(xOK_pure (xs_iconst (n := 1) (show decode cX3_mileOf 6 = .ok (.iconst 1, 1) by decide +kernel) (by decide))),
  List.forall_mem_cons.mpr ⟨(xOK_pure (xs_isub (show decode cX3_mileOf 7 = .ok (.isub, 1) by decide +kernel))),
  List.forall_mem_cons.mpr ⟨(xcm mi_183 ⟨⟨(by decide +kernel), (by decide +kernel), (by decide +kernel)⟩, (by decide), xw_480, xw_118, Or.inr (Or.inr (Or.inr (Or.inl ⟨rfl, _, _, (show decode cX3_mileOf 8 = .ok (.invokestatic 44, 3) by decide +kernel), xwn_1248, xw_479⟩)))⟩),
  List.forall_mem_cons.mpr ⟨(xOK_pure (xs_if_eq (show decode cX3_mileOf 11 = .ok (.ifCond .eq 12, 3) by decide +kernel) (by decide))),
  List.forall_mem_cons.mpr ⟨(xOK_pure (xs_aload_n (k := 0) rfl (show decode cX3_mileOf 14 = .ok (.aload_n 0, 1) by decide +kernel))),
  List.forall_mem_cons.mpr ⟨(xOK_pure (xs_getf xcl_3 (by decide) (show decode cX3_mileOf 15 = .ok (.getfield 11, 3) by decide +kernel) xw_519)),
  List.forall_mem_cons.mpr ⟨(xOK_pure (xs_iload_n (k := 1) rfl (show decode cX3_mileOf 18 = .ok (.iload_n 1, 1) by decide +kernel))),
  List.forall_mem_cons.mpr ⟨(xOK_pure (xs_iald (show decode cX3_mileOf 19 = .ok (.iaload, 1) by decide +kernel))),
  List.forall_mem_cons.mpr ⟨(xOK_pure (xs_goto (show decode cX3_mileOf 20 = .ok (.goto 4, 3) by decide +kernel) (by decide))),
  List.forall_mem_cons.mpr ⟨(xOK_pure (xs_iconst (n := (-1)) (show decode cX3_mileOf 23 = .ok (.iconst (-1), 1) by decide +kernel) (by decide))),
  List.forall_mem_cons.mpr ⟨(Or.inr (Or.inl ⟨rfl, (show decode cX3_mileOf 24 = .ok (.ireturn, 1) by decide +kernel), rfl⟩)),
  (fun _ h => absurd h List.not_mem_nil)⟩⟩⟩⟩⟩⟩⟩⟩⟩⟩⟩⟩⟩⟩⟩
theorem omX3_mileOf (ev : xEv) : xMethOK ev xmi yX3_mileOf.cls yX3_mileOf.name 33 (pX3_mileOf ev) := xMethOK.of mi_33 (by decide +kernel) (okpX3_mileOf ev)
def pX3_roughOf (ev : xEv) : List (Nat × xEn) := [(0, .inl (xop (xf_iload 1 1))), (1, .inl (xop (xf_push (.int 0) 1))), (2, .inl (xop (xf_aload 0 1))), (3, .inl (xop (xf_getf 3 4))), (6, .inl (xop (xf_push (.int 1) 1))), (7, .inl (xop (xf_bin (fun x y => x - y)))), (8, .inr (.inl (3, 183, 3, 11))), (11, .inl (xop (xf_if_eq 23))), (14, .inl (xop (xf_aload 0 1))), (15, .inl (xop (xf_getf 3 6))), (18, .inl (xop (xf_iload 1 1))), (19, .inl (xop (xf_ald (ev.1 0)))), (20, .inl (xop (xf_goto 24))), (23, .inl (xop (xf_push (.int (-1)) 1))), (24, .inr (.inr 1))]
set_option maxRecDepth 20000 in
theorem okpX3_roughOf (ev : xEv) : ∀ q ∈ pX3_roughOf ev, xEnOK ev xmi yX3_roughOf.cls yX3_roughOf.name cX3_roughOf 2 (some .int) q :=
  List.forall_mem_cons.mpr ⟨(xOK_pure (xs_iload_n (k := 1) rfl (show decode cX3_roughOf 0 = .ok (.iload_n 1, 1) by decide +kernel))),
  List.forall_mem_cons.mpr ⟨(xOK_pure (xs_iconst (n := 0) (show decode cX3_roughOf 1 = .ok (.iconst 0, 1) by decide +kernel) (by decide))),
  List.forall_mem_cons.mpr ⟨(xOK_pure (xs_aload_n (k := 0) rfl (show decode cX3_roughOf 2 = .ok (.aload_n 0, 1) by decide +kernel))),
  List.forall_mem_cons.mpr ⟨(xOK_pure (xs_getf xcl_3 (by decide) (show decode cX3_roughOf 3 = .ok (.getfield 31, 3) by decide +kernel) xw_517)),
  List.forall_mem_cons.mpr ⟨(xOK_pure (xs_iconst (n := 1) (show decode cX3_roughOf 6 = .ok (.iconst 1, 1) by decide +kernel) (by decide))),
  List.forall_mem_cons.mpr ⟨(xOK_pure (xs_isub (show decode cX3_roughOf 7 = .ok (.isub, 1) by decide +kernel))),
  List.forall_mem_cons.mpr ⟨(xcm mi_183 ⟨⟨(by decide +kernel), (by decide +kernel), (by decide +kernel)⟩, (by decide), xw_480, xw_118, Or.inr (Or.inr (Or.inr (Or.inl ⟨rfl, _, _, (show decode cX3_roughOf 8 = .ok (.invokestatic 44, 3) by decide +kernel), xwn_1248, xw_479⟩)))⟩),
  List.forall_mem_cons.mpr ⟨(xOK_pure (xs_if_eq (show decode cX3_roughOf 11 = .ok (.ifCond .eq 12, 3) by decide +kernel) (by decide))),
  List.forall_mem_cons.mpr ⟨(xOK_pure (xs_aload_n (k := 0) rfl (show decode cX3_roughOf 14 = .ok (.aload_n 0, 1) by decide +kernel))),
  List.forall_mem_cons.mpr ⟨(xOK_pure (xs_getf xcl_3 (by decide) (show decode cX3_roughOf 15 = .ok (.getfield 15, 3) by decide +kernel) xw_520)),
  List.forall_mem_cons.mpr ⟨(xOK_pure (xs_iload_n (k := 1) rfl (show decode cX3_roughOf 18 = .ok (.iload_n 1, 1) by decide +kernel))),
  List.forall_mem_cons.mpr ⟨(xOK_pure (xs_iald (show decode cX3_roughOf 19 = .ok (.iaload, 1) by decide +kernel))),
  List.forall_mem_cons.mpr ⟨(xOK_pure (xs_goto (show decode cX3_roughOf 20 = .ok (.goto 4, 3) by decide +kernel) (by decide))),
  List.forall_mem_cons.mpr ⟨(xOK_pure (xs_iconst (n := (-1)) (show decode cX3_roughOf 23 = .ok (.iconst (-1), 1) by decide +kernel) (by decide))),
  List.forall_mem_cons.mpr ⟨(Or.inr (Or.inl ⟨rfl, (show decode cX3_roughOf 24 = .ok (.ireturn, 1) by decide +kernel), rfl⟩)),
  (fun _ h => absurd h List.not_mem_nil)⟩⟩⟩⟩⟩⟩⟩⟩⟩⟩⟩⟩⟩⟩⟩
theorem omX3_roughOf (ev : xEv) : xMethOK ev xmi yX3_roughOf.cls yX3_roughOf.name 34 (pX3_roughOf ev) := xMethOK.of mi_34 (by decide +kernel) (okpX3_roughOf ev)
def pX3_touches (ev : xEv) : List (Nat × xEn) := [(0, .inl (xop (xf_iload 1 1))), (1, .inl (xop (xf_aload 0 1))), (2, .inl (xop (xf_getf 3 0))), (5, .inl (xop (xf_icmp_eq 16))), (8, .inl (xop (xf_iload 1 1))), (9, .inl (xop (xf_aload 0 1))), (10, .inl (xop (xf_getf 3 1))), (13, .inl (xop (xf_icmp_ne 20))), (16, .inl (xop (xf_push (.int 1) 1))), (17, .inl (xop (xf_goto 21))), (20, .inl (xop (xf_push (.int 0) 1))), (21, .inr (.inr 4))]
set_option maxRecDepth 20000 in
theorem okpX3_touches (ev : xEv) : ∀ q ∈ pX3_touches ev, xEnOK ev xmi yX3_touches.cls yX3_touches.name cX3_touches 2 (some .boolean) q :=
  List.forall_mem_cons.mpr ⟨(xOK_pure (xs_iload_n (k := 1) rfl (show decode cX3_touches 0 = .ok (.iload_n 1, 1) by decide +kernel))),
  List.forall_mem_cons.mpr ⟨(xOK_pure (xs_aload_n (k := 0) rfl (show decode cX3_touches 1 = .ok (.aload_n 0, 1) by decide +kernel))),
  List.forall_mem_cons.mpr ⟨(xOK_pure (xs_getf xcl_3 (by decide) (show decode cX3_touches 2 = .ok (.getfield 18, 3) by decide +kernel) xw_506)),
  List.forall_mem_cons.mpr ⟨(xOK_pure (xs_icmp_eq (show decode cX3_touches 5 = .ok (.if_icmp .eq 11, 3) by decide +kernel) (by decide))),
  List.forall_mem_cons.mpr ⟨(xOK_pure (xs_iload_n (k := 1) rfl (show decode cX3_touches 8 = .ok (.iload_n 1, 1) by decide +kernel))),
  List.forall_mem_cons.mpr ⟨(xOK_pure (xs_aload_n (k := 0) rfl (show decode cX3_touches 9 = .ok (.aload_n 0, 1) by decide +kernel))),
  List.forall_mem_cons.mpr ⟨(xOK_pure (xs_getf xcl_3 (by decide) (show decode cX3_touches 10 = .ok (.getfield 22, 3) by decide +kernel) xw_510)),
  List.forall_mem_cons.mpr ⟨(xOK_pure (xs_icmp_ne (show decode cX3_touches 13 = .ok (.if_icmp .ne 7, 3) by decide +kernel) (by decide))),
  List.forall_mem_cons.mpr ⟨(xOK_pure (xs_iconst (n := 1) (show decode cX3_touches 16 = .ok (.iconst 1, 1) by decide +kernel) (by decide))),
  List.forall_mem_cons.mpr ⟨(xOK_pure (xs_goto (show decode cX3_touches 17 = .ok (.goto 4, 3) by decide +kernel) (by decide))),
  List.forall_mem_cons.mpr ⟨(xOK_pure (xs_iconst (n := 0) (show decode cX3_touches 20 = .ok (.iconst 0, 1) by decide +kernel) (by decide))),
  List.forall_mem_cons.mpr ⟨(Or.inr (Or.inr (Or.inr (Or.inr (Or.inl ⟨rfl, (show decode cX3_touches 21 = .ok (.ireturn, 1) by decide +kernel), rfl⟩))))),
  (fun _ h => absurd h List.not_mem_nil)⟩⟩⟩⟩⟩⟩⟩⟩⟩⟩⟩⟩
theorem omX3_touches (ev : xEv) : xMethOK ev xmi yX3_touches.cls yX3_touches.name 35 (pX3_touches ev) := xMethOK.of mi_35 (by decide +kernel) (okpX3_touches ev)
def pX3_goal (ev : xEv) : List (Nat × xEn) := [(0, .inl (xop (xf_iload 1 1))), (1, .inl (xop (xf_if_eq 11))), (4, .inl (xop (xf_aload 0 1))), (5, .inl (xop (xf_getf 3 1))), (8, .inl (xop (xf_goto 15))), (11, .inl (xop (xf_aload 0 1))), (12, .inl (xop (xf_getf 3 0))), (15, .inr (.inr 1))]
set_option maxRecDepth 20000 in
theorem okpX3_goal (ev : xEv) : ∀ q ∈ pX3_goal ev, xEnOK ev xmi yX3_goal.cls yX3_goal.name cX3_goal 2 (some .int) q :=
  List.forall_mem_cons.mpr ⟨(xOK_pure (xs_iload_n (k := 1) rfl (show decode cX3_goal 0 = .ok (.iload_n 1, 1) by decide +kernel))),
  List.forall_mem_cons.mpr ⟨(xOK_pure (xs_if_eq (show decode cX3_goal 1 = .ok (.ifCond .eq 10, 3) by decide +kernel) (by decide))),
  List.forall_mem_cons.mpr ⟨(xOK_pure (xs_aload_n (k := 0) rfl (show decode cX3_goal 4 = .ok (.aload_n 0, 1) by decide +kernel))),
  List.forall_mem_cons.mpr ⟨(xOK_pure (xs_getf xcl_3 (by decide) (show decode cX3_goal 5 = .ok (.getfield 22, 3) by decide +kernel) xw_510)),
  List.forall_mem_cons.mpr ⟨(xOK_pure (xs_goto (show decode cX3_goal 8 = .ok (.goto 7, 3) by decide +kernel) (by decide))),
  List.forall_mem_cons.mpr ⟨(xOK_pure (xs_aload_n (k := 0) rfl (show decode cX3_goal 11 = .ok (.aload_n 0, 1) by decide +kernel))),
  List.forall_mem_cons.mpr ⟨(xOK_pure (xs_getf xcl_3 (by decide) (show decode cX3_goal 12 = .ok (.getfield 18, 3) by decide +kernel) xw_506)),
  List.forall_mem_cons.mpr ⟨(Or.inr (Or.inl ⟨rfl, (show decode cX3_goal 15 = .ok (.ireturn, 1) by decide +kernel), rfl⟩)),
  (fun _ h => absurd h List.not_mem_nil)⟩⟩⟩⟩⟩⟩⟩⟩
theorem omX3_goal (ev : xEv) : xMethOK ev xmi yX3_goal.cls yX3_goal.name 36 (pX3_goal ev) := xMethOK.of mi_36 (by decide +kernel) (okpX3_goal ev)
def pX3_nearer (ev : xEv) : List (Nat × xEn) := [(0, .inl (xop (xf_iload 1 1))), (1, .inl (xop (xf_aload 0 1))), (2, .inl (xop (xf_getf 3 2))), (5, .inl (xop (xf_iload 1 1))), (6, .inl (xop (xf_bin (fun x y => x - y)))), (7, .inl (xop (xf_icmp_gt 17))), (10, .inl (xop (xf_aload 0 1))), (11, .inl (xop (xf_getf 3 0))), (14, .inl (xop (xf_goto 21))), (17, .inl (xop (xf_aload 0 1))), (18, .inl (xop (xf_getf 3 1))), (21, .inr (.inr 1))]
set_option maxRecDepth 20000 in
theorem okpX3_nearer (ev : xEv) : ∀ q ∈ pX3_nearer ev, xEnOK ev xmi yX3_nearer.cls yX3_nearer.name cX3_nearer 2 (some .int) q :=
  List.forall_mem_cons.mpr ⟨(xOK_pure (xs_iload_n (k := 1) rfl (show decode cX3_nearer 0 = .ok (.iload_n 1, 1) by decide +kernel))),
  List.forall_mem_cons.mpr ⟨(xOK_pure (xs_aload_n (k := 0) rfl (show decode cX3_nearer 1 = .ok (.aload_n 0, 1) by decide +kernel))),
  List.forall_mem_cons.mpr ⟨(xOK_pure (xs_getf xcl_3 (by decide) (show decode cX3_nearer 2 = .ok (.getfield 25, 3) by decide +kernel) xw_511)),
  List.forall_mem_cons.mpr ⟨(xOK_pure (xs_iload_n (k := 1) rfl (show decode cX3_nearer 5 = .ok (.iload_n 1, 1) by decide +kernel))),
  List.forall_mem_cons.mpr ⟨(xOK_pure (xs_isub (show decode cX3_nearer 6 = .ok (.isub, 1) by decide +kernel))),
  List.forall_mem_cons.mpr ⟨(xOK_pure (xs_icmp_gt (show decode cX3_nearer 7 = .ok (.if_icmp .gt 10, 3) by decide +kernel) (by decide))),
  List.forall_mem_cons.mpr ⟨(xOK_pure (xs_aload_n (k := 0) rfl (show decode cX3_nearer 10 = .ok (.aload_n 0, 1) by decide +kernel))),
  List.forall_mem_cons.mpr ⟨(xOK_pure (xs_getf xcl_3 (by decide) (show decode cX3_nearer 11 = .ok (.getfield 18, 3) by decide +kernel) xw_506)),
  List.forall_mem_cons.mpr ⟨(xOK_pure (xs_goto (show decode cX3_nearer 14 = .ok (.goto 7, 3) by decide +kernel) (by decide))),
  List.forall_mem_cons.mpr ⟨(xOK_pure (xs_aload_n (k := 0) rfl (show decode cX3_nearer 17 = .ok (.aload_n 0, 1) by decide +kernel))),
  List.forall_mem_cons.mpr ⟨(xOK_pure (xs_getf xcl_3 (by decide) (show decode cX3_nearer 18 = .ok (.getfield 22, 3) by decide +kernel) xw_510)),
  List.forall_mem_cons.mpr ⟨(Or.inr (Or.inl ⟨rfl, (show decode cX3_nearer 21 = .ok (.ireturn, 1) by decide +kernel), rfl⟩)),
  (fun _ h => absurd h List.not_mem_nil)⟩⟩⟩⟩⟩⟩⟩⟩⟩⟩⟩⟩
theorem omX3_nearer (ev : xEv) : xMethOK ev xmi yX3_nearer.cls yX3_nearer.name 37 (pX3_nearer ev) := xMethOK.of mi_37 (by decide +kernel) (okpX3_nearer ev)
def pX3_toGo (ev : xEv) : List (Nat × xEn) := [(0, .inl (xop (xf_iload 2 1))), (1, .inl (xop (xf_if_eq 13))), (4, .inl (xop (xf_aload 0 1))), (5, .inl (xop (xf_getf 3 2))), (8, .inl (xop (xf_iload 1 1))), (9, .inl (xop (xf_bin (fun x y => x - y)))), (10, .inl (xop (xf_goto 14))), (13, .inl (xop (xf_iload 1 1))), (14, .inr (.inr 1))]
set_option maxRecDepth 20000 in
theorem okpX3_toGo (ev : xEv) : ∀ q ∈ pX3_toGo ev, xEnOK ev xmi yX3_toGo.cls yX3_toGo.name cX3_toGo 3 (some .int) q :=
  List.forall_mem_cons.mpr ⟨(xOK_pure (xs_iload_n (k := 2) rfl (show decode cX3_toGo 0 = .ok (.iload_n 2, 1) by decide +kernel))),
  List.forall_mem_cons.mpr ⟨(xOK_pure (xs_if_eq (show decode cX3_toGo 1 = .ok (.ifCond .eq 12, 3) by decide +kernel) (by decide))),
  List.forall_mem_cons.mpr ⟨(xOK_pure (xs_aload_n (k := 0) rfl (show decode cX3_toGo 4 = .ok (.aload_n 0, 1) by decide +kernel))),
  List.forall_mem_cons.mpr ⟨(xOK_pure (xs_getf xcl_3 (by decide) (show decode cX3_toGo 5 = .ok (.getfield 25, 3) by decide +kernel) xw_511)),
  List.forall_mem_cons.mpr ⟨(xOK_pure (xs_iload_n (k := 1) rfl (show decode cX3_toGo 8 = .ok (.iload_n 1, 1) by decide +kernel))),
  List.forall_mem_cons.mpr ⟨(xOK_pure (xs_isub (show decode cX3_toGo 9 = .ok (.isub, 1) by decide +kernel))),
  List.forall_mem_cons.mpr ⟨(xOK_pure (xs_goto (show decode cX3_toGo 10 = .ok (.goto 4, 3) by decide +kernel) (by decide))),
  List.forall_mem_cons.mpr ⟨(xOK_pure (xs_iload_n (k := 1) rfl (show decode cX3_toGo 13 = .ok (.iload_n 1, 1) by decide +kernel))),
  List.forall_mem_cons.mpr ⟨(Or.inr (Or.inl ⟨rfl, (show decode cX3_toGo 14 = .ok (.ireturn, 1) by decide +kernel), rfl⟩)),
  (fun _ h => absurd h List.not_mem_nil)⟩⟩⟩⟩⟩⟩⟩⟩⟩
theorem omX3_toGo (ev : xEv) : xMethOK ev xmi yX3_toGo.cls yX3_toGo.name 38 (pX3_toGo ev) := xMethOK.of mi_38 (by decide +kernel) (okpX3_toGo ev)
def pX3_cellCount (ev : xEv) : List (Nat × xEn) := [(0, .inl (xop (xf_aload 0 1))), (1, .inl (xop (xf_getf 3 2))), (4, .inl (xop (xf_push (.int 10) 2))), (6, .inl (xop (xf_div (fun x y => x / y)))), (7, .inl (xop (xf_push (.int 1) 1))), (8, .inl (xop (xf_bin (fun x y => x + y)))), (9, .inr (.inr 1))]
set_option maxRecDepth 20000 in
theorem okpX3_cellCount (ev : xEv) : ∀ q ∈ pX3_cellCount ev, xEnOK ev xmi yX3_cellCount.cls yX3_cellCount.name cX3_cellCount 1 (some .int) q :=
  List.forall_mem_cons.mpr ⟨(xOK_pure (xs_aload_n (k := 0) rfl (show decode cX3_cellCount 0 = .ok (.aload_n 0, 1) by decide +kernel))),
  List.forall_mem_cons.mpr ⟨(xOK_pure (xs_getf xcl_3 (by decide) (show decode cX3_cellCount 1 = .ok (.getfield 25, 3) by decide +kernel) xw_511)),
  List.forall_mem_cons.mpr ⟨(xOK_pure (xs_bipush (n := 10) (show decode cX3_cellCount 4 = .ok (.bipush 10, 2) by decide +kernel) (by decide))),
  List.forall_mem_cons.mpr ⟨(xOK_pure (xs_idiv (show decode cX3_cellCount 6 = .ok (.idiv, 1) by decide +kernel))),
  List.forall_mem_cons.mpr ⟨(xOK_pure (xs_iconst (n := 1) (show decode cX3_cellCount 7 = .ok (.iconst 1, 1) by decide +kernel) (by decide))),
  List.forall_mem_cons.mpr ⟨(xOK_pure (xs_iadd (show decode cX3_cellCount 8 = .ok (.iadd, 1) by decide +kernel))),
  List.forall_mem_cons.mpr ⟨(Or.inr (Or.inl ⟨rfl, (show decode cX3_cellCount 9 = .ok (.ireturn, 1) by decide +kernel), rfl⟩)),
  (fun _ h => absurd h List.not_mem_nil)⟩⟩⟩⟩⟩⟩⟩
theorem omX3_cellCount (ev : xEv) : xMethOK ev xmi yX3_cellCount.cls yX3_cellCount.name 39 (pX3_cellCount ev) := xMethOK.of mi_39 (by decide +kernel) (okpX3_cellCount ev)
def pX3_cellAt (ev : xEv) : List (Nat × xEn) := [(0, .inl (xop (xf_iload 1 1))), (1, .inl (xop (xf_push (.int 10) 2))), (3, .inl (xop (xf_div (fun x y => x / y)))), (4, .inr (.inr 1))]
set_option maxRecDepth 20000 in
theorem okpX3_cellAt (ev : xEv) : ∀ q ∈ pX3_cellAt ev, xEnOK ev xmi yX3_cellAt.cls yX3_cellAt.name cX3_cellAt 2 (some .int) q :=
  List.forall_mem_cons.mpr ⟨(xOK_pure (xs_iload_n (k := 1) rfl (show decode cX3_cellAt 0 = .ok (.iload_n 1, 1) by decide +kernel))),
  List.forall_mem_cons.mpr ⟨(xOK_pure (xs_bipush (n := 10) (show decode cX3_cellAt 1 = .ok (.bipush 10, 2) by decide +kernel) (by decide))),
  List.forall_mem_cons.mpr ⟨(xOK_pure (xs_idiv (show decode cX3_cellAt 3 = .ok (.idiv, 1) by decide +kernel))),
  List.forall_mem_cons.mpr ⟨(Or.inr (Or.inl ⟨rfl, (show decode cX3_cellAt 4 = .ok (.ireturn, 1) by decide +kernel), rfl⟩)),
  (fun _ h => absurd h List.not_mem_nil)⟩⟩⟩⟩
theorem omX3_cellAt (ev : xEv) : xMethOK ev xmi yX3_cellAt.cls yX3_cellAt.name 40 (pX3_cellAt ev) := xMethOK.of mi_40 (by decide +kernel) (okpX3_cellAt ev)
def pX2_init_0 (ev : xEv) : List (Nat × xEn) := [(0, .inl (xop (xf_aload 0 1))), (1, .inl (xop xf_objInit)), (4, .inl (xop (xf_aload 0 1))), (5, .inl (xop (xf_push (.int 8) 2))), (7, .inl (xo_newa (ev.1 0) (.inl (fun _ => 0)))), (9, .inl (xo_putf 2 0 (.array .int))), (12, .inl (xop (xf_aload 0 1))), (13, .inl (xop (xf_push (.int 8) 2))), (15, .inl (xo_newa (ev.1 2) (.inl (fun _ => 0)))), (17, .inl (xo_putf 2 1 (.array .boolean))), (20, .inl (xop (xf_aload 0 1))), (21, .inl (xop (xf_push (.int 8) 2))), (23, .inl (xo_newa (ev.1 0) (.inl (fun _ => 0)))), (25, .inl (xo_putf 2 2 (.array .int))), (28, .inl (xop (xf_aload 0 1))), (29, .inl (xop (xf_push (.int 12) 2))), (31, .inl (xo_anew (ev.1 4))), (34, .inl (xo_putf 2 4 (.array (.object "AirMail$Leg")))), (37, .inl (xop (xf_aload 0 1))), (38, .inl (xop (xf_push (.int 64) 2)))]
set_option maxRecDepth 20000 in
theorem okpX2_init_0 (ev : xEv) : ∀ q ∈ pX2_init_0 ev, xEnOK ev xmi yX2_init.cls yX2_init.name cX2_init 2 none q :=
  List.forall_mem_cons.mpr ⟨(xOK_pure (xs_aload_n (k := 0) rfl (show decode cX2_init 0 = .ok (.aload_n 0, 1) by decide +kernel))),
  List.forall_mem_cons.mpr ⟨(xOK_pure (xs_objInit (show decode cX2_init 1 = .ok (.invokespecial 3, 3) by decide +kernel) xw_157 xw_150 xw_151)),
  List.forall_mem_cons.mpr ⟨(xOK_pure (xs_aload_n (k := 0) rfl (show decode cX2_init 4 = .ok (.aload_n 0, 1) by decide +kernel))),
  List.forall_mem_cons.mpr ⟨(xOK_pure (xs_bipush (n := 8) (show decode cX2_init 5 = .ok (.bipush 8, 2) by decide +kernel) (by decide))),
  List.forall_mem_cons.mpr ⟨(xs_newa (t := 0) (ty := .int) rfl rfl (fun _ _ => rfl) (by decide) (show decode cX2_init 7 = .ok (.newarray .int, 2) by decide +kernel) xw_209),
  List.forall_mem_cons.mpr ⟨(xs_putF (k := 0) xcl_2 (by decide) rfl rfl rfl (show decode cX2_init 9 = .ok (.putfield 9, 3) by decide +kernel) xw_161),
  List.forall_mem_cons.mpr ⟨(xOK_pure (xs_aload_n (k := 0) rfl (show decode cX2_init 12 = .ok (.aload_n 0, 1) by decide +kernel))),
  List.forall_mem_cons.mpr ⟨(xOK_pure (xs_bipush (n := 8) (show decode cX2_init 13 = .ok (.bipush 8, 2) by decide +kernel) (by decide))),
  List.forall_mem_cons.mpr ⟨(xs_newa (t := 2) (ty := .boolean) rfl rfl (fun _ _ => rfl) (by decide) (show decode cX2_init 15 = .ok (.newarray .boolean, 2) by decide +kernel) xw_210),
  List.forall_mem_cons.mpr ⟨(xs_putF (k := 1) xcl_2 (by decide) rfl rfl rfl (show decode cX2_init 17 = .ok (.putfield 15, 3) by decide +kernel) xw_163),
  List.forall_mem_cons.mpr ⟨(xOK_pure (xs_aload_n (k := 0) rfl (show decode cX2_init 20 = .ok (.aload_n 0, 1) by decide +kernel))),
  List.forall_mem_cons.mpr ⟨(xOK_pure (xs_bipush (n := 8) (show decode cX2_init 21 = .ok (.bipush 8, 2) by decide +kernel) (by decide))),
  List.forall_mem_cons.mpr ⟨(xs_newa (t := 0) (ty := .int) rfl rfl (fun _ _ => rfl) (by decide) (show decode cX2_init 23 = .ok (.newarray .int, 2) by decide +kernel) xw_209),
  List.forall_mem_cons.mpr ⟨(xs_putF (k := 2) xcl_2 (by decide) rfl rfl rfl (show decode cX2_init 25 = .ok (.putfield 19, 3) by decide +kernel) xw_166),
  List.forall_mem_cons.mpr ⟨(xOK_pure (xs_aload_n (k := 0) rfl (show decode cX2_init 28 = .ok (.aload_n 0, 1) by decide +kernel))),
  List.forall_mem_cons.mpr ⟨(xOK_pure (xs_bipush (n := 12) (show decode cX2_init 29 = .ok (.bipush 12, 2) by decide +kernel) (by decide))),
  List.forall_mem_cons.mpr ⟨(xs_anew (t := 4) rfl (show decode cX2_init 31 = .ok (.anewarray 22, 3) by decide +kernel) xw_158 xwo_159),
  List.forall_mem_cons.mpr ⟨(xs_putF (k := 4) xcl_2 (by decide) rfl rfl rfl (show decode cX2_init 34 = .ok (.putfield 24, 3) by decide +kernel) xw_172),
  List.forall_mem_cons.mpr ⟨(xOK_pure (xs_aload_n (k := 0) rfl (show decode cX2_init 37 = .ok (.aload_n 0, 1) by decide +kernel))),
  List.forall_mem_cons.mpr ⟨(xOK_pure (xs_bipush (n := 64) (show decode cX2_init 38 = .ok (.bipush 64, 2) by decide +kernel) (by decide))),
  (fun _ h => absurd h List.not_mem_nil)⟩⟩⟩⟩⟩⟩⟩⟩⟩⟩⟩⟩⟩⟩⟩⟩⟩⟩⟩⟩
def pX2_init_1 (ev : xEv) : List (Nat × xEn) := [(40, .inl (xo_newa (ev.1 0) (.inl (fun _ => 0)))), (42, .inl (xo_putf 2 7 (.array .int))), (45, .inl (xop (xf_aload 0 1))), (46, .inl (xop (xf_push (.int 60) 2))), (48, .inl (xo_newa (ev.1 0) (.inl (fun _ => 0)))), (50, .inl (xo_putf 2 8 (.array .int))), (53, .inl (xop (xf_aload 0 1))), (54, .inl (xop (xf_push (.int 60) 2))), (56, .inl (xo_newa (ev.1 0) (.inl (fun _ => 0)))), (58, .inl (xo_putf 2 9 (.array .int))), (61, .inl (xop (xf_aload 0 1))), (62, .inl (xop (xf_push (.int 60) 2))), (64, .inl (xo_newa (ev.1 0) (.inl (fun _ => 0)))), (66, .inl (xo_putf 2 10 (.array .int))), (69, .inl (xop (xf_aload 0 1))), (70, .inl (xop (xf_push (.int 60) 2))), (72, .inl (xo_newa (ev.1 0) (.inl (fun _ => 0)))), (74, .inl (xo_putf 2 11 (.array .int))), (77, .inl (xop (xf_push (.int 0) 1))), (78, .inl (xop (xf_istore 1 1)))]
set_option maxRecDepth 20000 in
theorem okpX2_init_1 (ev : xEv) : ∀ q ∈ pX2_init_1 ev, xEnOK ev xmi yX2_init.cls yX2_init.name cX2_init 2 none q :=
  List.forall_mem_cons.mpr ⟨(xs_newa (t := 0) (ty := .int) rfl rfl (fun _ _ => rfl) (by decide) (show decode cX2_init 40 = .ok (.newarray .int, 2) by decide +kernel) xw_209),
  List.forall_mem_cons.mpr ⟨(xs_putF (k := 7) xcl_2 (by decide) rfl rfl rfl (show decode cX2_init 42 = .ok (.putfield 28, 3) by decide +kernel) xw_179),
  List.forall_mem_cons.mpr ⟨(xOK_pure (xs_aload_n (k := 0) rfl (show decode cX2_init 45 = .ok (.aload_n 0, 1) by decide +kernel))),
  List.forall_mem_cons.mpr ⟨(xOK_pure (xs_bipush (n := 60) (show decode cX2_init 46 = .ok (.bipush 60, 2) by decide +kernel) (by decide))),
  List.forall_mem_cons.mpr ⟨(xs_newa (t := 0) (ty := .int) rfl rfl (fun _ _ => rfl) (by decide) (show decode cX2_init 48 = .ok (.newarray .int, 2) by decide +kernel) xw_209),
  List.forall_mem_cons.mpr ⟨(xs_putF (k := 8) xcl_2 (by decide) rfl rfl rfl (show decode cX2_init 50 = .ok (.putfield 31, 3) by decide +kernel) xw_180),
  List.forall_mem_cons.mpr ⟨(xOK_pure (xs_aload_n (k := 0) rfl (show decode cX2_init 53 = .ok (.aload_n 0, 1) by decide +kernel))),
  List.forall_mem_cons.mpr ⟨(xOK_pure (xs_bipush (n := 60) (show decode cX2_init 54 = .ok (.bipush 60, 2) by decide +kernel) (by decide))),
  List.forall_mem_cons.mpr ⟨(xs_newa (t := 0) (ty := .int) rfl rfl (fun _ _ => rfl) (by decide) (show decode cX2_init 56 = .ok (.newarray .int, 2) by decide +kernel) xw_209),
  List.forall_mem_cons.mpr ⟨(xs_putF (k := 9) xcl_2 (by decide) rfl rfl rfl (show decode cX2_init 58 = .ok (.putfield 34, 3) by decide +kernel) xw_181),
  List.forall_mem_cons.mpr ⟨(xOK_pure (xs_aload_n (k := 0) rfl (show decode cX2_init 61 = .ok (.aload_n 0, 1) by decide +kernel))),
  List.forall_mem_cons.mpr ⟨(xOK_pure (xs_bipush (n := 60) (show decode cX2_init 62 = .ok (.bipush 60, 2) by decide +kernel) (by decide))),
  List.forall_mem_cons.mpr ⟨(xs_newa (t := 0) (ty := .int) rfl rfl (fun _ _ => rfl) (by decide) (show decode cX2_init 64 = .ok (.newarray .int, 2) by decide +kernel) xw_209),
  List.forall_mem_cons.mpr ⟨(xs_putF (k := 10) xcl_2 (by decide) rfl rfl rfl (show decode cX2_init 66 = .ok (.putfield 37, 3) by decide +kernel) xw_182),
  List.forall_mem_cons.mpr ⟨(xOK_pure (xs_aload_n (k := 0) rfl (show decode cX2_init 69 = .ok (.aload_n 0, 1) by decide +kernel))),
  List.forall_mem_cons.mpr ⟨(xOK_pure (xs_bipush (n := 60) (show decode cX2_init 70 = .ok (.bipush 60, 2) by decide +kernel) (by decide))),
  List.forall_mem_cons.mpr ⟨(xs_newa (t := 0) (ty := .int) rfl rfl (fun _ _ => rfl) (by decide) (show decode cX2_init 72 = .ok (.newarray .int, 2) by decide +kernel) xw_209),
  List.forall_mem_cons.mpr ⟨(xs_putF (k := 11) xcl_2 (by decide) rfl rfl rfl (show decode cX2_init 74 = .ok (.putfield 40, 3) by decide +kernel) xw_183),
  List.forall_mem_cons.mpr ⟨(xOK_pure (xs_iconst (n := 0) (show decode cX2_init 77 = .ok (.iconst 0, 1) by decide +kernel) (by decide))),
  List.forall_mem_cons.mpr ⟨(xOK_pure (xs_istore_n (k := 1) rfl (show decode cX2_init 78 = .ok (.istore_n 1, 1) by decide +kernel) (by decide))),
  (fun _ h => absurd h List.not_mem_nil)⟩⟩⟩⟩⟩⟩⟩⟩⟩⟩⟩⟩⟩⟩⟩⟩⟩⟩⟩⟩
def pX2_init_2 (ev : xEv) : List (Nat × xEn) := [(79, .inl (xop (xf_iload 1 1))), (80, .inl (xop (xf_aload 0 1))), (81, .inl (xop (xf_getf 2 7))), (84, .inl (xop (xf_alen (ev.1 0)))), (85, .inl (xop (xf_icmp_ge 117))), (88, .inl (xop (xf_aload 0 1))), (89, .inl (xop (xf_getf 2 7))), (92, .inl (xop (xf_iload 1 1))), (93, .inl (xop (xf_iload 1 1))), (94, .inl (xop (xf_push (.int 8) 2))), (96, .inl (xop (xf_div (fun x y => x / y)))), (97, .inl (xop (xf_iload 1 1))), (98, .inl (xop (xf_push (.int 8) 2))), (100, .inl (xop (xf_div (fun x y => x - x / y * y)))), (101, .inl (xop (xf_icmp_ne 108))), (104, .inl (xop (xf_push (.int 0) 1))), (105, .inl (xop (xf_goto 110))), (108, .inl (xop (xf_push (.int 1000000) 2))), (110, .inl (xo_ast (ev.1 0) (fun x => x))), (111, .inl (xop (xf_iinc 1 1)))]
set_option maxRecDepth 20000 in
theorem okpX2_init_2 (ev : xEv) : ∀ q ∈ pX2_init_2 ev, xEnOK ev xmi yX2_init.cls yX2_init.name cX2_init 2 none q :=
  List.forall_mem_cons.mpr ⟨(xOK_pure (xs_iload_n (k := 1) rfl (show decode cX2_init 79 = .ok (.iload_n 1, 1) by decide +kernel))),
  List.forall_mem_cons.mpr ⟨(xOK_pure (xs_aload_n (k := 0) rfl (show decode cX2_init 80 = .ok (.aload_n 0, 1) by decide +kernel))),
  List.forall_mem_cons.mpr ⟨(xOK_pure (xs_getf xcl_2 (by decide) (show decode cX2_init 81 = .ok (.getfield 28, 3) by decide +kernel) xw_179)),
  List.forall_mem_cons.mpr ⟨(xOK_pure (xs_alen (t := 0) rfl (show decode cX2_init 84 = .ok (.arraylength, 1) by decide +kernel))),
  List.forall_mem_cons.mpr ⟨(xOK_pure (xs_icmp_ge (show decode cX2_init 85 = .ok (.if_icmp .ge 32, 3) by decide +kernel) (by decide))),
  List.forall_mem_cons.mpr ⟨(xOK_pure (xs_aload_n (k := 0) rfl (show decode cX2_init 88 = .ok (.aload_n 0, 1) by decide +kernel))),
  List.forall_mem_cons.mpr ⟨(xOK_pure (xs_getf xcl_2 (by decide) (show decode cX2_init 89 = .ok (.getfield 28, 3) by decide +kernel) xw_179)),
  List.forall_mem_cons.mpr ⟨(xOK_pure (xs_iload_n (k := 1) rfl (show decode cX2_init 92 = .ok (.iload_n 1, 1) by decide +kernel))),
  List.forall_mem_cons.mpr ⟨(xOK_pure (xs_iload_n (k := 1) rfl (show decode cX2_init 93 = .ok (.iload_n 1, 1) by decide +kernel))),
  List.forall_mem_cons.mpr ⟨(xOK_pure (xs_bipush (n := 8) (show decode cX2_init 94 = .ok (.bipush 8, 2) by decide +kernel) (by decide))),
  List.forall_mem_cons.mpr ⟨(xOK_pure (xs_idiv (show decode cX2_init 96 = .ok (.idiv, 1) by decide +kernel))),
  List.forall_mem_cons.mpr ⟨(xOK_pure (xs_iload_n (k := 1) rfl (show decode cX2_init 97 = .ok (.iload_n 1, 1) by decide +kernel))),
  List.forall_mem_cons.mpr ⟨(xOK_pure (xs_bipush (n := 8) (show decode cX2_init 98 = .ok (.bipush 8, 2) by decide +kernel) (by decide))),
  List.forall_mem_cons.mpr ⟨(xOK_pure (xs_irem (show decode cX2_init 100 = .ok (.irem, 1) by decide +kernel))),
  List.forall_mem_cons.mpr ⟨(xOK_pure (xs_icmp_ne (show decode cX2_init 101 = .ok (.if_icmp .ne 7, 3) by decide +kernel) (by decide))),
  List.forall_mem_cons.mpr ⟨(xOK_pure (xs_iconst (n := 0) (show decode cX2_init 104 = .ok (.iconst 0, 1) by decide +kernel) (by decide))),
  List.forall_mem_cons.mpr ⟨(xOK_pure (xs_goto (show decode cX2_init 105 = .ok (.goto 5, 3) by decide +kernel) (by decide))),
  List.forall_mem_cons.mpr ⟨(xOK_pure (xs_ldc (show decode cX2_init 108 = .ok (.ldc 43, 2) by decide +kernel) xw_160)),
  List.forall_mem_cons.mpr ⟨(xs_iast (show decode cX2_init 110 = .ok (.iastore, 1) by decide +kernel)),
  List.forall_mem_cons.mpr ⟨(xOK_pure (xs_iinc (n := 1) (show decode cX2_init 111 = .ok (.iinc 1 1, 3) by decide +kernel) (by decide) (by decide))),
  (fun _ h => absurd h List.not_mem_nil)⟩⟩⟩⟩⟩⟩⟩⟩⟩⟩⟩⟩⟩⟩⟩⟩⟩⟩⟩⟩
def pX2_init_3 (ev : xEv) : List (Nat × xEn) := [(114, .inl (xop (xf_goto 79))), (117, .inr (.inr 0))]
set_option maxRecDepth 20000 in
theorem okpX2_init_3 (ev : xEv) : ∀ q ∈ pX2_init_3 ev, xEnOK ev xmi yX2_init.cls yX2_init.name cX2_init 2 none q :=
  List.forall_mem_cons.mpr ⟨(xOK_pure (xs_goto (show decode cX2_init 114 = .ok (.goto (-35), 3) by decide +kernel) (by decide))),
  List.forall_mem_cons.mpr ⟨(Or.inl ⟨rfl, (show decode cX2_init 117 = .ok (.return_, 1) by decide +kernel), rfl⟩),
  (fun _ h => absurd h List.not_mem_nil)⟩⟩
def pX2_init (ev : xEv) : List (Nat × xEn) := pX2_init_0 ev ++ (pX2_init_1 ev ++ (pX2_init_2 ev ++ (pX2_init_3 ev)))
theorem okpX2_init (ev : xEv) : ∀ q ∈ pX2_init ev, xEnOK ev xmi yX2_init.cls yX2_init.name cX2_init 2 none q := List.forall_mem_append.mpr ⟨okpX2_init_0 ev, List.forall_mem_append.mpr ⟨okpX2_init_1 ev, List.forall_mem_append.mpr ⟨okpX2_init_2 ev, okpX2_init_3 ev⟩⟩⟩
theorem omX2_init (ev : xEv) : xMethOK ev xmi yX2_init.cls yX2_init.name 17 (pX2_init ev) := xMethOK.of mi_17 (by decide +kernel) (okpX2_init ev)
def pX2_addField_0 (ev : xEv) : List (Nat × xEn) := [(0, .inl (xop (xf_aload 0 1))), (1, .inl (xop (xf_getf 2 0))), (4, .inl (xop (xf_aload 0 1))), (5, .inl (xop (xf_getf 2 3))), (8, .inl (xop (xf_iload 1 1))), (9, .inl (xo_ast (ev.1 0) (fun x => x))), (10, .inl (xop (xf_aload 0 1))), (11, .inl (xop (xf_getf 2 1))), (14, .inl (xop (xf_aload 0 1))), (15, .inl (xop (xf_getf 2 3))), (18, .inl (xop (xf_iload 2 1))), (19, .inl (xo_ast (ev.1 2) (vp_nar .boolean))), (20, .inl (xop (xf_aload 0 1))), (21, .inl (xop (xf_getf 2 2))), (24, .inl (xop (xf_aload 0 1))), (25, .inl (xop (xf_getf 2 3))), (28, .inl (xop (xf_iload 3 1))), (29, .inl (xo_ast (ev.1 0) (fun x => x))), (30, .inl (xop (xf_aload 0 1))), (31, .inl (xop xf_dup))]
set_option maxRecDepth 20000 in
theorem okpX2_addField_0 (ev : xEv) : ∀ q ∈ pX2_addField_0 ev, xEnOK ev xmi yX2_addField.cls yX2_addField.name cX2_addField 4 (some .int) q :=
  List.forall_mem_cons.mpr ⟨(xOK_pure (xs_aload_n (k := 0) rfl (show decode cX2_addField 0 = .ok (.aload_n 0, 1) by decide +kernel))),
  List.forall_mem_cons.mpr ⟨(xOK_pure (xs_getf xcl_2 (by decide) (show decode cX2_addField 1 = .ok (.getfield 9, 3) by decide +kernel) xw_161)),
  List.forall_mem_cons.mpr ⟨(xOK_pure (xs_aload_n (k := 0) rfl (show decode cX2_addField 4 = .ok (.aload_n 0, 1) by decide +kernel))),
  List.forall_mem_cons.mpr ⟨(xOK_pure (xs_getf xcl_2 (by decide) (show decode cX2_addField 5 = .ok (.getfield 44, 3) by decide +kernel) xw_169)),
  List.forall_mem_cons.mpr ⟨(xOK_pure (xs_iload_n (k := 1) rfl (show decode cX2_addField 8 = .ok (.iload_n 1, 1) by decide +kernel))),
  List.forall_mem_cons.mpr ⟨(xs_iast (show decode cX2_addField 9 = .ok (.iastore, 1) by decide +kernel)),
  List.forall_mem_cons.mpr ⟨(xOK_pure (xs_aload_n (k := 0) rfl (show decode cX2_addField 10 = .ok (.aload_n 0, 1) by decide +kernel))),
  List.forall_mem_cons.mpr ⟨(xOK_pure (xs_getf xcl_2 (by decide) (show decode cX2_addField 11 = .ok (.getfield 15, 3) by decide +kernel) xw_163)),
  List.forall_mem_cons.mpr ⟨(xOK_pure (xs_aload_n (k := 0) rfl (show decode cX2_addField 14 = .ok (.aload_n 0, 1) by decide +kernel))),
  List.forall_mem_cons.mpr ⟨(xOK_pure (xs_getf xcl_2 (by decide) (show decode cX2_addField 15 = .ok (.getfield 44, 3) by decide +kernel) xw_169)),
  List.forall_mem_cons.mpr ⟨(xOK_pure (xs_iload_n (k := 2) rfl (show decode cX2_addField 18 = .ok (.iload_n 2, 1) by decide +kernel))),
  List.forall_mem_cons.mpr ⟨(xs_zast (show decode cX2_addField 19 = .ok (.bastore, 1) by decide +kernel)),
  List.forall_mem_cons.mpr ⟨(xOK_pure (xs_aload_n (k := 0) rfl (show decode cX2_addField 20 = .ok (.aload_n 0, 1) by decide +kernel))),
  List.forall_mem_cons.mpr ⟨(xOK_pure (xs_getf xcl_2 (by decide) (show decode cX2_addField 21 = .ok (.getfield 19, 3) by decide +kernel) xw_166)),
  List.forall_mem_cons.mpr ⟨(xOK_pure (xs_aload_n (k := 0) rfl (show decode cX2_addField 24 = .ok (.aload_n 0, 1) by decide +kernel))),
  List.forall_mem_cons.mpr ⟨(xOK_pure (xs_getf xcl_2 (by decide) (show decode cX2_addField 25 = .ok (.getfield 44, 3) by decide +kernel) xw_169)),
  List.forall_mem_cons.mpr ⟨(xOK_pure (xs_iload_n (k := 3) rfl (show decode cX2_addField 28 = .ok (.iload_n 3, 1) by decide +kernel))),
  List.forall_mem_cons.mpr ⟨(xs_iast (show decode cX2_addField 29 = .ok (.iastore, 1) by decide +kernel)),
  List.forall_mem_cons.mpr ⟨(xOK_pure (xs_aload_n (k := 0) rfl (show decode cX2_addField 30 = .ok (.aload_n 0, 1) by decide +kernel))),
  List.forall_mem_cons.mpr ⟨(xOK_pure (xs_dup (show decode cX2_addField 31 = .ok (.dup, 1) by decide +kernel))),
  (fun _ h => absurd h List.not_mem_nil)⟩⟩⟩⟩⟩⟩⟩⟩⟩⟩⟩⟩⟩⟩⟩⟩⟩⟩⟩⟩
def pX2_addField_1 (ev : xEv) : List (Nat × xEn) := [(32, .inl (xop (xf_getf 2 3))), (35, .inl (xop xf_dupx1)), (36, .inl (xop (xf_push (.int 1) 1))), (37, .inl (xop (xf_bin (fun x y => x + y)))), (38, .inl (xo_putf 2 3 .int)), (41, .inr (.inr 1))]
set_option maxRecDepth 20000 in
theorem okpX2_addField_1 (ev : xEv) : ∀ q ∈ pX2_addField_1 ev, xEnOK ev xmi yX2_addField.cls yX2_addField.name cX2_addField 4 (some .int) q :=
  List.forall_mem_cons.mpr ⟨(xOK_pure (xs_getf xcl_2 (by decide) (show decode cX2_addField 32 = .ok (.getfield 44, 3) by decide +kernel) xw_169)),
  List.forall_mem_cons.mpr ⟨(xOK_pure (xs_dupx1 (show decode cX2_addField 35 = .ok (.dup_x1, 1) by decide +kernel))),
  List.forall_mem_cons.mpr ⟨(xOK_pure (xs_iconst (n := 1) (show decode cX2_addField 36 = .ok (.iconst 1, 1) by decide +kernel) (by decide))),
  List.forall_mem_cons.mpr ⟨(xOK_pure (xs_iadd (show decode cX2_addField 37 = .ok (.iadd, 1) by decide +kernel))),
  List.forall_mem_cons.mpr ⟨(xs_putf (k := 3) xcl_2 (by decide) rfl (show decode cX2_addField 38 = .ok (.putfield 44, 3) by decide +kernel) xw_169),
  List.forall_mem_cons.mpr ⟨(Or.inr (Or.inl ⟨rfl, (show decode cX2_addField 41 = .ok (.ireturn, 1) by decide +kernel), rfl⟩)),
  (fun _ h => absurd h List.not_mem_nil)⟩⟩⟩⟩⟩⟩
def pX2_addField (ev : xEv) : List (Nat × xEn) := pX2_addField_0 ev ++ (pX2_addField_1 ev)
theorem okpX2_addField (ev : xEv) : ∀ q ∈ pX2_addField ev, xEnOK ev xmi yX2_addField.cls yX2_addField.name cX2_addField 4 (some .int) q := List.forall_mem_append.mpr ⟨okpX2_addField_0 ev, okpX2_addField_1 ev⟩
theorem omX2_addField (ev : xEv) : xMethOK ev xmi yX2_addField.cls yX2_addField.name 18 (pX2_addField ev) := xMethOK.of mi_18 (by decide +kernel) (okpX2_addField ev)
def pX2_addLeg_0 (ev : xEv) : List (Nat × xEn) := [(0, .inl (xop (xf_aload 0 1))), (1, .inl (xop (xf_getf 2 4))), (4, .inl (xop (xf_aload 0 1))), (5, .inl (xop (xf_getf 2 5))), (8, .inl (xo_new 3 7 [.int 0, .int 0, .int 0, .int 0, .int 0, .null, .null])), (11, .inl (xop xf_dup)), (12, .inl (xop (xf_iload 1 1))), (13, .inl (xop (xf_iload 2 1))), (14, .inl (xop (xf_iload 3 1))), (15, .inl (xop (xf_iload 4 2))), (17, .inr (.inl (2, 29, 4, 3))), (20, .inl (xo_aast (ev.1 4) 3)), (21, .inl (xop (xf_push (.int 0) 1))), (22, .inl (xop (xf_istore 5 2))), (24, .inl (xop (xf_iload 5 2))), (26, .inl (xop (xf_push (.int 8) 2))), (28, .inl (xop (xf_icmp_ge 126))), (31, .inl (xop (xf_push (.int 0) 1))), (32, .inl (xop (xf_istore 6 2))), (34, .inl (xop (xf_iload 6 2)))]
set_option maxRecDepth 20000 in
theorem okpX2_addLeg_0 (ev : xEv) : ∀ q ∈ pX2_addLeg_0 ev, xEnOK ev xmi yX2_addLeg.cls yX2_addLeg.name cX2_addLeg 10 (some .int) q :=
  List.forall_mem_cons.mpr ⟨(xOK_pure (xs_aload_n (k := 0) rfl (show decode cX2_addLeg 0 = .ok (.aload_n 0, 1) by decide +kernel))),
  List.forall_mem_cons.mpr ⟨(xOK_pure (xs_getf xcl_2 (by decide) (show decode cX2_addLeg 1 = .ok (.getfield 24, 3) by decide +kernel) xw_172)),
  List.forall_mem_cons.mpr ⟨(xOK_pure (xs_aload_n (k := 0) rfl (show decode cX2_addLeg 4 = .ok (.aload_n 0, 1) by decide +kernel))),
  List.forall_mem_cons.mpr ⟨(xOK_pure (xs_getf xcl_2 (by decide) (show decode cX2_addLeg 5 = .ok (.getfield 48, 3) by decide +kernel) xw_175)),
  List.forall_mem_cons.mpr ⟨(xs_new xcl_3 (by decide +kernel) (show decode cX2_addLeg 8 = .ok (.new 22, 3) by decide +kernel) xw_158 xw_501 xw_126),
  List.forall_mem_cons.mpr ⟨(xOK_pure (xs_dup (show decode cX2_addLeg 11 = .ok (.dup, 1) by decide +kernel))),
  List.forall_mem_cons.mpr ⟨(xOK_pure (xs_iload_n (k := 1) rfl (show decode cX2_addLeg 12 = .ok (.iload_n 1, 1) by decide +kernel))),
  List.forall_mem_cons.mpr ⟨(xOK_pure (xs_iload_n (k := 2) rfl (show decode cX2_addLeg 13 = .ok (.iload_n 2, 1) by decide +kernel))),
  List.forall_mem_cons.mpr ⟨(xOK_pure (xs_iload_n (k := 3) rfl (show decode cX2_addLeg 14 = .ok (.iload_n 3, 1) by decide +kernel))),
  List.forall_mem_cons.mpr ⟨(xOK_pure (xs_iload (show decode cX2_addLeg 15 = .ok (.iload 4, 2) by decide +kernel))),
  List.forall_mem_cons.mpr ⟨(xcm mi_29 ⟨⟨(by decide +kernel), (by decide +kernel), (by decide +kernel)⟩, (by decide), xw_504, xw_126, Or.inr (Or.inr (Or.inl ⟨rfl, _, (show decode cX2_addLeg 17 = .ok (.invokespecial 51, 3) by decide +kernel), rfl, xw_502, xw_503, rfl⟩))⟩),
  List.forall_mem_cons.mpr ⟨(xs_aast (t := 4) (ci := 3) (r0 := (RX3, TX3, 7)) rfl rfl (show decode cX2_addLeg 20 = .ok (.aastore, 1) by decide +kernel)),
  List.forall_mem_cons.mpr ⟨(xOK_pure (xs_iconst (n := 0) (show decode cX2_addLeg 21 = .ok (.iconst 0, 1) by decide +kernel) (by decide))),
  List.forall_mem_cons.mpr ⟨(xOK_pure (xs_istore (show decode cX2_addLeg 22 = .ok (.istore 5, 2) by decide +kernel) (by decide))),
  List.forall_mem_cons.mpr ⟨(xOK_pure (xs_iload (show decode cX2_addLeg 24 = .ok (.iload 5, 2) by decide +kernel))),
  List.forall_mem_cons.mpr ⟨(xOK_pure (xs_bipush (n := 8) (show decode cX2_addLeg 26 = .ok (.bipush 8, 2) by decide +kernel) (by decide))),
  List.forall_mem_cons.mpr ⟨(xOK_pure (xs_icmp_ge (show decode cX2_addLeg 28 = .ok (.if_icmp .ge 98, 3) by decide +kernel) (by decide))),
  List.forall_mem_cons.mpr ⟨(xOK_pure (xs_iconst (n := 0) (show decode cX2_addLeg 31 = .ok (.iconst 0, 1) by decide +kernel) (by decide))),
  List.forall_mem_cons.mpr ⟨(xOK_pure (xs_istore (show decode cX2_addLeg 32 = .ok (.istore 6, 2) by decide +kernel) (by decide))),
  List.forall_mem_cons.mpr ⟨(xOK_pure (xs_iload (show decode cX2_addLeg 34 = .ok (.iload 6, 2) by decide +kernel))),
  (fun _ h => absurd h List.not_mem_nil)⟩⟩⟩⟩⟩⟩⟩⟩⟩⟩⟩⟩⟩⟩⟩⟩⟩⟩⟩⟩
def pX2_addLeg_1 (ev : xEv) : List (Nat × xEn) := [(36, .inl (xop (xf_push (.int 8) 2))), (38, .inl (xop (xf_icmp_ge 120))), (41, .inl (xop (xf_aload 0 1))), (42, .inl (xop (xf_iload 5 2))), (44, .inl (xop (xf_iload 1 1))), (45, .inr (.inl (0, 20, 2, 2))), (48, .inl (xop (xf_iload 3 1))), (49, .inl (xop (xf_bin (fun x y => x + y)))), (50, .inl (xop (xf_aload 0 1))), (51, .inl (xop (xf_iload 2 1))), (52, .inl (xop (xf_iload 6 2))), (54, .inr (.inl (0, 20, 2, 2))), (57, .inl (xop (xf_bin (fun x y => x + y)))), (58, .inl (xop (xf_istore 7 2))), (60, .inl (xop (xf_aload 0 1))), (61, .inl (xop (xf_iload 5 2))), (63, .inl (xop (xf_iload 2 1))), (64, .inr (.inl (0, 20, 2, 2))), (67, .inl (xop (xf_iload 3 1))), (68, .inl (xop (xf_bin (fun x y => x + y))))]
set_option maxRecDepth 20000 in
theorem okpX2_addLeg_1 (ev : xEv) : ∀ q ∈ pX2_addLeg_1 ev, xEnOK ev xmi yX2_addLeg.cls yX2_addLeg.name cX2_addLeg 10 (some .int) q :=
  List.forall_mem_cons.mpr ⟨(xOK_pure (xs_bipush (n := 8) (show decode cX2_addLeg 36 = .ok (.bipush 8, 2) by decide +kernel) (by decide))),
  List.forall_mem_cons.mpr ⟨(xOK_pure (xs_icmp_ge (show decode cX2_addLeg 38 = .ok (.if_icmp .ge 82, 3) by decide +kernel) (by decide))),
  List.forall_mem_cons.mpr ⟨(xOK_pure (xs_aload_n (k := 0) rfl (show decode cX2_addLeg 41 = .ok (.aload_n 0, 1) by decide +kernel))),
  List.forall_mem_cons.mpr ⟨(xOK_pure (xs_iload (show decode cX2_addLeg 42 = .ok (.iload 5, 2) by decide +kernel))),
  List.forall_mem_cons.mpr ⟨(xOK_pure (xs_iload_n (k := 1) rfl (show decode cX2_addLeg 44 = .ok (.iload_n 1, 1) by decide +kernel))),
  List.forall_mem_cons.mpr ⟨(xcm mi_20 ⟨⟨(by decide +kernel), (by decide +kernel), (by decide +kernel)⟩, (by decide), xw_539, xw_119, Or.inl ⟨rfl, _, _, _, _, (show decode cX2_addLeg 45 = .ok (.invokevirtual 54, 3) by decide +kernel), xw_536, xw_537, xw_538, rfl⟩⟩),
  List.forall_mem_cons.mpr ⟨(xOK_pure (xs_iload_n (k := 3) rfl (show decode cX2_addLeg 48 = .ok (.iload_n 3, 1) by decide +kernel))),
  List.forall_mem_cons.mpr ⟨(xOK_pure (xs_iadd (show decode cX2_addLeg 49 = .ok (.iadd, 1) by decide +kernel))),
  List.forall_mem_cons.mpr ⟨(xOK_pure (xs_aload_n (k := 0) rfl (show decode cX2_addLeg 50 = .ok (.aload_n 0, 1) by decide +kernel))),
  List.forall_mem_cons.mpr ⟨(xOK_pure (xs_iload_n (k := 2) rfl (show decode cX2_addLeg 51 = .ok (.iload_n 2, 1) by decide +kernel))),
  List.forall_mem_cons.mpr ⟨(xOK_pure (xs_iload (show decode cX2_addLeg 52 = .ok (.iload 6, 2) by decide +kernel))),
  List.forall_mem_cons.mpr ⟨(xcm mi_20 ⟨⟨(by decide +kernel), (by decide +kernel), (by decide +kernel)⟩, (by decide), xw_539, xw_119, Or.inl ⟨rfl, _, _, _, _, (show decode cX2_addLeg 54 = .ok (.invokevirtual 54, 3) by decide +kernel), xw_536, xw_537, xw_538, rfl⟩⟩),
  List.forall_mem_cons.mpr ⟨(xOK_pure (xs_iadd (show decode cX2_addLeg 57 = .ok (.iadd, 1) by decide +kernel))),
  List.forall_mem_cons.mpr ⟨(xOK_pure (xs_istore (show decode cX2_addLeg 58 = .ok (.istore 7, 2) by decide +kernel) (by decide))),
  List.forall_mem_cons.mpr ⟨(xOK_pure (xs_aload_n (k := 0) rfl (show decode cX2_addLeg 60 = .ok (.aload_n 0, 1) by decide +kernel))),
  List.forall_mem_cons.mpr ⟨(xOK_pure (xs_iload (show decode cX2_addLeg 61 = .ok (.iload 5, 2) by decide +kernel))),
  List.forall_mem_cons.mpr ⟨(xOK_pure (xs_iload_n (k := 2) rfl (show decode cX2_addLeg 63 = .ok (.iload_n 2, 1) by decide +kernel))),
  List.forall_mem_cons.mpr ⟨(xcm mi_20 ⟨⟨(by decide +kernel), (by decide +kernel), (by decide +kernel)⟩, (by decide), xw_539, xw_119, Or.inl ⟨rfl, _, _, _, _, (show decode cX2_addLeg 64 = .ok (.invokevirtual 54, 3) by decide +kernel), xw_536, xw_537, xw_538, rfl⟩⟩),
  List.forall_mem_cons.mpr ⟨(xOK_pure (xs_iload_n (k := 3) rfl (show decode cX2_addLeg 67 = .ok (.iload_n 3, 1) by decide +kernel))),
  List.forall_mem_cons.mpr ⟨(xOK_pure (xs_iadd (show decode cX2_addLeg 68 = .ok (.iadd, 1) by decide +kernel))),
  (fun _ h => absurd h List.not_mem_nil)⟩⟩⟩⟩⟩⟩⟩⟩⟩⟩⟩⟩⟩⟩⟩⟩⟩⟩⟩⟩
def pX2_addLeg_2 (ev : xEv) : List (Nat × xEn) := [(69, .inl (xop (xf_aload 0 1))), (70, .inl (xop (xf_iload 1 1))), (71, .inl (xop (xf_iload 6 2))), (73, .inr (.inl (0, 20, 2, 2))), (76, .inl (xop (xf_bin (fun x y => x + y)))), (77, .inl (xop (xf_istore 8 2))), (79, .inl (xop (xf_aload 0 1))), (80, .inl (xop (xf_iload 5 2))), (82, .inl (xop (xf_iload 6 2))), (84, .inr (.inl (0, 20, 2, 2))), (87, .inl (xop (xf_iload 7 2))), (89, .inl (xop (xf_iload 8 2))), (91, .inl (xop (xf_m2 (fun x y => if y < x then y else x)))), (94, .inl (xop (xf_m2 (fun x y => if y < x then y else x)))), (97, .inl (xop (xf_istore 9 2))), (99, .inl (xop (xf_aload 0 1))), (100, .inl (xop (xf_getf 2 7))), (103, .inl (xop (xf_iload 5 2))), (105, .inl (xop (xf_push (.int 8) 2))), (107, .inl (xop (xf_bin (fun x y => x * y))))]
set_option maxRecDepth 20000 in
theorem okpX2_addLeg_2 (ev : xEv) : ∀ q ∈ pX2_addLeg_2 ev, xEnOK ev xmi yX2_addLeg.cls yX2_addLeg.name cX2_addLeg 10 (some .int) q :=
  List.forall_mem_cons.mpr ⟨(xOK_pure (xs_aload_n (k := 0) rfl (show decode cX2_addLeg 69 = .ok (.aload_n 0, 1) by decide +kernel))),
  List.forall_mem_cons.mpr ⟨(xOK_pure (xs_iload_n (k := 1) rfl (show decode cX2_addLeg 70 = .ok (.iload_n 1, 1) by decide +kernel))),
  List.forall_mem_cons.mpr ⟨(xOK_pure (xs_iload (show decode cX2_addLeg 71 = .ok (.iload 6, 2) by decide +kernel))),
  List.forall_mem_cons.mpr ⟨(xcm mi_20 ⟨⟨(by decide +kernel), (by decide +kernel), (by decide +kernel)⟩, (by decide), xw_539, xw_119, Or.inl ⟨rfl, _, _, _, _, (show decode cX2_addLeg 73 = .ok (.invokevirtual 54, 3) by decide +kernel), xw_536, xw_537, xw_538, rfl⟩⟩),
  List.forall_mem_cons.mpr ⟨(xOK_pure (xs_iadd (show decode cX2_addLeg 76 = .ok (.iadd, 1) by decide +kernel))),
  List.forall_mem_cons.mpr ⟨(xOK_pure (xs_istore (show decode cX2_addLeg 77 = .ok (.istore 8, 2) by decide +kernel) (by decide))),
  List.forall_mem_cons.mpr ⟨(xOK_pure (xs_aload_n (k := 0) rfl (show decode cX2_addLeg 79 = .ok (.aload_n 0, 1) by decide +kernel))),
  List.forall_mem_cons.mpr ⟨(xOK_pure (xs_iload (show decode cX2_addLeg 80 = .ok (.iload 5, 2) by decide +kernel))),
  List.forall_mem_cons.mpr ⟨(xOK_pure (xs_iload (show decode cX2_addLeg 82 = .ok (.iload 6, 2) by decide +kernel))),
  List.forall_mem_cons.mpr ⟨(xcm mi_20 ⟨⟨(by decide +kernel), (by decide +kernel), (by decide +kernel)⟩, (by decide), xw_539, xw_119, Or.inl ⟨rfl, _, _, _, _, (show decode cX2_addLeg 84 = .ok (.invokevirtual 54, 3) by decide +kernel), xw_536, xw_537, xw_538, rfl⟩⟩),
  List.forall_mem_cons.mpr ⟨(xOK_pure (xs_iload (show decode cX2_addLeg 87 = .ok (.iload 7, 2) by decide +kernel))),
  List.forall_mem_cons.mpr ⟨(xOK_pure (xs_iload (show decode cX2_addLeg 89 = .ok (.iload 8, 2) by decide +kernel))),
  List.forall_mem_cons.mpr ⟨(xOK_pure (xs_mmin (show decode cX2_addLeg 91 = .ok (.invokestatic 58, 3) by decide +kernel) xw_540 xw_541 xw_127 xw_542)),
  List.forall_mem_cons.mpr ⟨(xOK_pure (xs_mmin (show decode cX2_addLeg 94 = .ok (.invokestatic 58, 3) by decide +kernel) xw_540 xw_541 xw_127 xw_542)),
  List.forall_mem_cons.mpr ⟨(xOK_pure (xs_istore (show decode cX2_addLeg 97 = .ok (.istore 9, 2) by decide +kernel) (by decide))),
  List.forall_mem_cons.mpr ⟨(xOK_pure (xs_aload_n (k := 0) rfl (show decode cX2_addLeg 99 = .ok (.aload_n 0, 1) by decide +kernel))),
  List.forall_mem_cons.mpr ⟨(xOK_pure (xs_getf xcl_2 (by decide) (show decode cX2_addLeg 100 = .ok (.getfield 28, 3) by decide +kernel) xw_179)),
  List.forall_mem_cons.mpr ⟨(xOK_pure (xs_iload (show decode cX2_addLeg 103 = .ok (.iload 5, 2) by decide +kernel))),
  List.forall_mem_cons.mpr ⟨(xOK_pure (xs_bipush (n := 8) (show decode cX2_addLeg 105 = .ok (.bipush 8, 2) by decide +kernel) (by decide))),
  List.forall_mem_cons.mpr ⟨(xOK_pure (xs_imul (show decode cX2_addLeg 107 = .ok (.imul, 1) by decide +kernel))),
  (fun _ h => absurd h List.not_mem_nil)⟩⟩⟩⟩⟩⟩⟩⟩⟩⟩⟩⟩⟩⟩⟩⟩⟩⟩⟩⟩
def pX2_addLeg_3 (ev : xEv) : List (Nat × xEn) := [(108, .inl (xop (xf_iload 6 2))), (110, .inl (xop (xf_bin (fun x y => x + y)))), (111, .inl (xop (xf_iload 9 2))), (113, .inl (xo_ast (ev.1 0) (fun x => x))), (114, .inl (xop (xf_iinc 6 1))), (117, .inl (xop (xf_goto 34))), (120, .inl (xop (xf_iinc 5 1))), (123, .inl (xop (xf_goto 24))), (126, .inl (xop (xf_aload 0 1))), (127, .inl (xop xf_dup)), (128, .inl (xop (xf_getf 2 5))), (131, .inl (xop xf_dupx1)), (132, .inl (xop (xf_push (.int 1) 1))), (133, .inl (xop (xf_bin (fun x y => x + y)))), (134, .inl (xo_putf 2 5 .int)), (137, .inr (.inr 1))]
set_option maxRecDepth 20000 in
theorem okpX2_addLeg_3 (ev : xEv) : ∀ q ∈ pX2_addLeg_3 ev, xEnOK ev xmi yX2_addLeg.cls yX2_addLeg.name cX2_addLeg 10 (some .int) q :=
  List.forall_mem_cons.mpr ⟨(xOK_pure (xs_iload (show decode cX2_addLeg 108 = .ok (.iload 6, 2) by decide +kernel))),
  List.forall_mem_cons.mpr ⟨(xOK_pure (xs_iadd (show decode cX2_addLeg 110 = .ok (.iadd, 1) by decide +kernel))),
  List.forall_mem_cons.mpr ⟨(xOK_pure (xs_iload (show decode cX2_addLeg 111 = .ok (.iload 9, 2) by decide +kernel))),
  List.forall_mem_cons.mpr ⟨(xs_iast (show decode cX2_addLeg 113 = .ok (.iastore, 1) by decide +kernel)),
  List.forall_mem_cons.mpr ⟨(xOK_pure (xs_iinc (n := 1) (show decode cX2_addLeg 114 = .ok (.iinc 6 1, 3) by decide +kernel) (by decide) (by decide))),
  List.forall_mem_cons.mpr ⟨(xOK_pure (xs_goto (show decode cX2_addLeg 117 = .ok (.goto (-83), 3) by decide +kernel) (by decide))),
  List.forall_mem_cons.mpr ⟨(xOK_pure (xs_iinc (n := 1) (show decode cX2_addLeg 120 = .ok (.iinc 5 1, 3) by decide +kernel) (by decide) (by decide))),
  List.forall_mem_cons.mpr ⟨(xOK_pure (xs_goto (show decode cX2_addLeg 123 = .ok (.goto (-99), 3) by decide +kernel) (by decide))),
  List.forall_mem_cons.mpr ⟨(xOK_pure (xs_aload_n (k := 0) rfl (show decode cX2_addLeg 126 = .ok (.aload_n 0, 1) by decide +kernel))),
  List.forall_mem_cons.mpr ⟨(xOK_pure (xs_dup (show decode cX2_addLeg 127 = .ok (.dup, 1) by decide +kernel))),
  List.forall_mem_cons.mpr ⟨(xOK_pure (xs_getf xcl_2 (by decide) (show decode cX2_addLeg 128 = .ok (.getfield 48, 3) by decide +kernel) xw_175)),
  List.forall_mem_cons.mpr ⟨(xOK_pure (xs_dupx1 (show decode cX2_addLeg 131 = .ok (.dup_x1, 1) by decide +kernel))),
  List.forall_mem_cons.mpr ⟨(xOK_pure (xs_iconst (n := 1) (show decode cX2_addLeg 132 = .ok (.iconst 1, 1) by decide +kernel) (by decide))),
  List.forall_mem_cons.mpr ⟨(xOK_pure (xs_iadd (show decode cX2_addLeg 133 = .ok (.iadd, 1) by decide +kernel))),
  List.forall_mem_cons.mpr ⟨(xs_putf (k := 5) xcl_2 (by decide) rfl (show decode cX2_addLeg 134 = .ok (.putfield 48, 3) by decide +kernel) xw_175),
  List.forall_mem_cons.mpr ⟨(Or.inr (Or.inl ⟨rfl, (show decode cX2_addLeg 137 = .ok (.ireturn, 1) by decide +kernel), rfl⟩)),
  (fun _ h => absurd h List.not_mem_nil)⟩⟩⟩⟩⟩⟩⟩⟩⟩⟩⟩⟩⟩⟩⟩⟩
def pX2_addLeg (ev : xEv) : List (Nat × xEn) := pX2_addLeg_0 ev ++ (pX2_addLeg_1 ev ++ (pX2_addLeg_2 ev ++ (pX2_addLeg_3 ev)))
theorem okpX2_addLeg (ev : xEv) : ∀ q ∈ pX2_addLeg ev, xEnOK ev xmi yX2_addLeg.cls yX2_addLeg.name cX2_addLeg 10 (some .int) q := List.forall_mem_append.mpr ⟨okpX2_addLeg_0 ev, List.forall_mem_append.mpr ⟨okpX2_addLeg_1 ev, List.forall_mem_append.mpr ⟨okpX2_addLeg_2 ev, okpX2_addLeg_3 ev⟩⟩⟩
theorem omX2_addLeg (ev : xEv) : xMethOK ev xmi yX2_addLeg.cls yX2_addLeg.name 19 (pX2_addLeg ev) := xMethOK.of mi_19 (by decide +kernel) (okpX2_addLeg ev)
def pX2_milesBetween (ev : xEv) : List (Nat × xEn) := [(0, .inl (xop (xf_aload 0 1))), (1, .inl (xop (xf_getf 2 7))), (4, .inl (xop (xf_iload 1 1))), (5, .inl (xop (xf_push (.int 8) 2))), (7, .inl (xop (xf_bin (fun x y => x * y)))), (8, .inl (xop (xf_iload 2 1))), (9, .inl (xop (xf_bin (fun x y => x + y)))), (10, .inl (xop (xf_ald (ev.1 0)))), (11, .inr (.inr 1))]
set_option maxRecDepth 20000 in
theorem okpX2_milesBetween (ev : xEv) : ∀ q ∈ pX2_milesBetween ev, xEnOK ev xmi yX2_milesBetween.cls yX2_milesBetween.name cX2_milesBetween 3 (some .int) q :=
  List.forall_mem_cons.mpr ⟨(xOK_pure (xs_aload_n (k := 0) rfl (show decode cX2_milesBetween 0 = .ok (.aload_n 0, 1) by decide +kernel))),
  List.forall_mem_cons.mpr ⟨(xOK_pure (xs_getf xcl_2 (by decide) (show decode cX2_milesBetween 1 = .ok (.getfield 28, 3) by decide +kernel) xw_179)),
  List.forall_mem_cons.mpr ⟨(xOK_pure (xs_iload_n (k := 1) rfl (show decode cX2_milesBetween 4 = .ok (.iload_n 1, 1) by decide +kernel))),
  List.forall_mem_cons.mpr ⟨(xOK_pure (xs_bipush (n := 8) (show decode cX2_milesBetween 5 = .ok (.bipush 8, 2) by decide +kernel) (by decide))),
  List.forall_mem_cons.mpr ⟨(xOK_pure (xs_imul (show decode cX2_milesBetween 7 = .ok (.imul, 1) by decide +kernel))),
  List.forall_mem_cons.mpr ⟨(xOK_pure (xs_iload_n (k := 2) rfl (show decode cX2_milesBetween 8 = .ok (.iload_n 2, 1) by decide +kernel))),
  List.forall_mem_cons.mpr ⟨(xOK_pure (xs_iadd (show decode cX2_milesBetween 9 = .ok (.iadd, 1) by decide +kernel))),
  List.forall_mem_cons.mpr ⟨(xOK_pure (xs_iald (show decode cX2_milesBetween 10 = .ok (.iaload, 1) by decide +kernel))),
  List.forall_mem_cons.mpr ⟨(Or.inr (Or.inl ⟨rfl, (show decode cX2_milesBetween 11 = .ok (.ireturn, 1) by decide +kernel), rfl⟩)),
  (fun _ h => absurd h List.not_mem_nil)⟩⟩⟩⟩⟩⟩⟩⟩⟩
theorem omX2_milesBetween (ev : xEv) : xMethOK ev xmi yX2_milesBetween.cls yX2_milesBetween.name 20 (pX2_milesBetween ev) := xMethOK.of mi_20 (by decide +kernel) (okpX2_milesBetween ev)
def pX2_tell_0 (ev : xEv) : List (Nat × xEn) := [(0, .inl (xop (xf_aload 0 1))), (1, .inl (xop (xf_getf 2 8))), (4, .inl (xop (xf_aload 0 1))), (5, .inl (xop (xf_getf 2 6))), (8, .inl (xop (xf_iload 1 1))), (9, .inl (xo_ast (ev.1 0) (fun x => x))), (10, .inl (xop (xf_aload 0 1))), (11, .inl (xop (xf_getf 2 9))), (14, .inl (xop (xf_aload 0 1))), (15, .inl (xop (xf_getf 2 6))), (18, .inl (xop (xf_iload 2 1))), (19, .inl (xo_ast (ev.1 0) (fun x => x))), (20, .inl (xop (xf_aload 0 1))), (21, .inl (xop (xf_getf 2 10))), (24, .inl (xop (xf_aload 0 1))), (25, .inl (xop (xf_getf 2 6))), (28, .inl (xop (xf_iload 3 1))), (29, .inl (xo_ast (ev.1 0) (fun x => x))), (30, .inl (xop (xf_aload 0 1))), (31, .inl (xop (xf_getf 2 11)))]
set_option maxRecDepth 20000 in
theorem okpX2_tell_0 (ev : xEv) : ∀ q ∈ pX2_tell_0 ev, xEnOK ev xmi yX2_tell.cls yX2_tell.name cX2_tell 5 (some .int) q :=
  List.forall_mem_cons.mpr ⟨(xOK_pure (xs_aload_n (k := 0) rfl (show decode cX2_tell 0 = .ok (.aload_n 0, 1) by decide +kernel))),
  List.forall_mem_cons.mpr ⟨(xOK_pure (xs_getf xcl_2 (by decide) (show decode cX2_tell 1 = .ok (.getfield 31, 3) by decide +kernel) xw_180)),
  List.forall_mem_cons.mpr ⟨(xOK_pure (xs_aload_n (k := 0) rfl (show decode cX2_tell 4 = .ok (.aload_n 0, 1) by decide +kernel))),
  List.forall_mem_cons.mpr ⟨(xOK_pure (xs_getf xcl_2 (by decide) (show decode cX2_tell 5 = .ok (.getfield 63, 3) by decide +kernel) xw_177)),
  List.forall_mem_cons.mpr ⟨(xOK_pure (xs_iload_n (k := 1) rfl (show decode cX2_tell 8 = .ok (.iload_n 1, 1) by decide +kernel))),
  List.forall_mem_cons.mpr ⟨(xs_iast (show decode cX2_tell 9 = .ok (.iastore, 1) by decide +kernel)),
  List.forall_mem_cons.mpr ⟨(xOK_pure (xs_aload_n (k := 0) rfl (show decode cX2_tell 10 = .ok (.aload_n 0, 1) by decide +kernel))),
  List.forall_mem_cons.mpr ⟨(xOK_pure (xs_getf xcl_2 (by decide) (show decode cX2_tell 11 = .ok (.getfield 34, 3) by decide +kernel) xw_181)),
  List.forall_mem_cons.mpr ⟨(xOK_pure (xs_aload_n (k := 0) rfl (show decode cX2_tell 14 = .ok (.aload_n 0, 1) by decide +kernel))),
  List.forall_mem_cons.mpr ⟨(xOK_pure (xs_getf xcl_2 (by decide) (show decode cX2_tell 15 = .ok (.getfield 63, 3) by decide +kernel) xw_177)),
  List.forall_mem_cons.mpr ⟨(xOK_pure (xs_iload_n (k := 2) rfl (show decode cX2_tell 18 = .ok (.iload_n 2, 1) by decide +kernel))),
  List.forall_mem_cons.mpr ⟨(xs_iast (show decode cX2_tell 19 = .ok (.iastore, 1) by decide +kernel)),
  List.forall_mem_cons.mpr ⟨(xOK_pure (xs_aload_n (k := 0) rfl (show decode cX2_tell 20 = .ok (.aload_n 0, 1) by decide +kernel))),
  List.forall_mem_cons.mpr ⟨(xOK_pure (xs_getf xcl_2 (by decide) (show decode cX2_tell 21 = .ok (.getfield 37, 3) by decide +kernel) xw_182)),
  List.forall_mem_cons.mpr ⟨(xOK_pure (xs_aload_n (k := 0) rfl (show decode cX2_tell 24 = .ok (.aload_n 0, 1) by decide +kernel))),
  List.forall_mem_cons.mpr ⟨(xOK_pure (xs_getf xcl_2 (by decide) (show decode cX2_tell 25 = .ok (.getfield 63, 3) by decide +kernel) xw_177)),
  List.forall_mem_cons.mpr ⟨(xOK_pure (xs_iload_n (k := 3) rfl (show decode cX2_tell 28 = .ok (.iload_n 3, 1) by decide +kernel))),
  List.forall_mem_cons.mpr ⟨(xs_iast (show decode cX2_tell 29 = .ok (.iastore, 1) by decide +kernel)),
  List.forall_mem_cons.mpr ⟨(xOK_pure (xs_aload_n (k := 0) rfl (show decode cX2_tell 30 = .ok (.aload_n 0, 1) by decide +kernel))),
  List.forall_mem_cons.mpr ⟨(xOK_pure (xs_getf xcl_2 (by decide) (show decode cX2_tell 31 = .ok (.getfield 40, 3) by decide +kernel) xw_183)),
  (fun _ h => absurd h List.not_mem_nil)⟩⟩⟩⟩⟩⟩⟩⟩⟩⟩⟩⟩⟩⟩⟩⟩⟩⟩⟩⟩
def pX2_tell_1 (ev : xEv) : List (Nat × xEn) := [(34, .inl (xop (xf_aload 0 1))), (35, .inl (xop (xf_getf 2 6))), (38, .inl (xop (xf_iload 4 2))), (40, .inl (xo_ast (ev.1 0) (fun x => x))), (41, .inl (xop (xf_aload 0 1))), (42, .inl (xop xf_dup)), (43, .inl (xop (xf_getf 2 6))), (46, .inl (xop (xf_push (.int 1) 1))), (47, .inl (xop (xf_bin (fun x y => x + y)))), (48, .inl (xo_putf 2 6 .int)), (51, .inl (xop (xf_aload 0 1))), (52, .inl (xop (xf_getf 2 6))), (55, .inr (.inr 1))]
set_option maxRecDepth 20000 in
theorem okpX2_tell_1 (ev : xEv) : ∀ q ∈ pX2_tell_1 ev, xEnOK ev xmi yX2_tell.cls yX2_tell.name cX2_tell 5 (some .int) q :=
  List.forall_mem_cons.mpr ⟨(xOK_pure (xs_aload_n (k := 0) rfl (show decode cX2_tell 34 = .ok (.aload_n 0, 1) by decide +kernel))),
  List.forall_mem_cons.mpr ⟨(xOK_pure (xs_getf xcl_2 (by decide) (show decode cX2_tell 35 = .ok (.getfield 63, 3) by decide +kernel) xw_177)),
  List.forall_mem_cons.mpr ⟨(xOK_pure (xs_iload (show decode cX2_tell 38 = .ok (.iload 4, 2) by decide +kernel))),
  List.forall_mem_cons.mpr ⟨(xs_iast (show decode cX2_tell 40 = .ok (.iastore, 1) by decide +kernel)),
  List.forall_mem_cons.mpr ⟨(xOK_pure (xs_aload_n (k := 0) rfl (show decode cX2_tell 41 = .ok (.aload_n 0, 1) by decide +kernel))),
  List.forall_mem_cons.mpr ⟨(xOK_pure (xs_dup (show decode cX2_tell 42 = .ok (.dup, 1) by decide +kernel))),
  List.forall_mem_cons.mpr ⟨(xOK_pure (xs_getf xcl_2 (by decide) (show decode cX2_tell 43 = .ok (.getfield 63, 3) by decide +kernel) xw_177)),
  List.forall_mem_cons.mpr ⟨(xOK_pure (xs_iconst (n := 1) (show decode cX2_tell 46 = .ok (.iconst 1, 1) by decide +kernel) (by decide))),
  List.forall_mem_cons.mpr ⟨(xOK_pure (xs_iadd (show decode cX2_tell 47 = .ok (.iadd, 1) by decide +kernel))),
  List.forall_mem_cons.mpr ⟨(xs_putf (k := 6) xcl_2 (by decide) rfl (show decode cX2_tell 48 = .ok (.putfield 63, 3) by decide +kernel) xw_177),
  List.forall_mem_cons.mpr ⟨(xOK_pure (xs_aload_n (k := 0) rfl (show decode cX2_tell 51 = .ok (.aload_n 0, 1) by decide +kernel))),
  List.forall_mem_cons.mpr ⟨(xOK_pure (xs_getf xcl_2 (by decide) (show decode cX2_tell 52 = .ok (.getfield 63, 3) by decide +kernel) xw_177)),
  List.forall_mem_cons.mpr ⟨(Or.inr (Or.inl ⟨rfl, (show decode cX2_tell 55 = .ok (.ireturn, 1) by decide +kernel), rfl⟩)),
  (fun _ h => absurd h List.not_mem_nil)⟩⟩⟩⟩⟩⟩⟩⟩⟩⟩⟩⟩⟩
def pX2_tell (ev : xEv) : List (Nat × xEn) := pX2_tell_0 ev ++ (pX2_tell_1 ev)
theorem okpX2_tell (ev : xEv) : ∀ q ∈ pX2_tell ev, xEnOK ev xmi yX2_tell.cls yX2_tell.name cX2_tell 5 (some .int) q := List.forall_mem_append.mpr ⟨okpX2_tell_0 ev, okpX2_tell_1 ev⟩
theorem omX2_tell (ev : xEv) : xMethOK ev xmi yX2_tell.cls yX2_tell.name 21 (pX2_tell ev) := xMethOK.of mi_21 (by decide +kernel) (okpX2_tell ev)
def pX2_cloudAt (ev : xEv) : List (Nat × xEn) := [(0, .inl (xop (xf_aload 0 1))), (1, .inl (xop (xf_iload 1 1))), (2, .inl (xop (xf_iload 2 1))), (3, .inr (.inl (0, 24, 2, 2))), (6, .inl (xop (xf_istore 3 1))), (7, .inl (xop (xf_iload 3 1))), (8, .inl (xop (xf_push (.int (-1)) 1))), (9, .inl (xop (xf_icmp_ne 18))), (12, .inl (xop (xf_push (.int 200) 3))), (15, .inl (xop (xf_goto 24))), (18, .inl (xop (xf_aload 0 1))), (19, .inl (xop (xf_getf 2 10))), (22, .inl (xop (xf_iload 3 1))), (23, .inl (xop (xf_ald (ev.1 0)))), (24, .inr (.inr 1))]
set_option maxRecDepth 20000 in
theorem okpX2_cloudAt (ev : xEv) : ∀ q ∈ pX2_cloudAt ev, xEnOK ev xmi yX2_cloudAt.cls yX2_cloudAt.name cX2_cloudAt 4 (some .int) q :=
  List.forall_mem_cons.mpr ⟨(xOK_pure (xs_aload_n (k := 0) rfl (show decode cX2_cloudAt 0 = .ok (.aload_n 0, 1) by decide +kernel))),
  List.forall_mem_cons.mpr ⟨(xOK_pure (xs_iload_n (k := 1) rfl (show decode cX2_cloudAt 1 = .ok (.iload_n 1, 1) by decide +kernel))),
  List.forall_mem_cons.mpr ⟨(xOK_pure (xs_iload_n (k := 2) rfl (show decode cX2_cloudAt 2 = .ok (.iload_n 2, 1) by decide +kernel))),
  List.forall_mem_cons.mpr ⟨(xcm mi_24 ⟨⟨(by decide +kernel), (by decide +kernel), (by decide +kernel)⟩, (by decide), xw_1264, xw_119, Or.inl ⟨rfl, _, _, _, _, (show decode cX2_cloudAt 3 = .ok (.invokevirtual 66, 3) by decide +kernel), xw_1261, xw_1263, xw_39, rfl⟩⟩),
  List.forall_mem_cons.mpr ⟨(xOK_pure (xs_istore_n (k := 3) rfl (show decode cX2_cloudAt 6 = .ok (.istore_n 3, 1) by decide +kernel) (by decide))),
  List.forall_mem_cons.mpr ⟨(xOK_pure (xs_iload_n (k := 3) rfl (show decode cX2_cloudAt 7 = .ok (.iload_n 3, 1) by decide +kernel))),
  List.forall_mem_cons.mpr ⟨(xOK_pure (xs_iconst (n := (-1)) (show decode cX2_cloudAt 8 = .ok (.iconst (-1), 1) by decide +kernel) (by decide))),
  List.forall_mem_cons.mpr ⟨(xOK_pure (xs_icmp_ne (show decode cX2_cloudAt 9 = .ok (.if_icmp .ne 9, 3) by decide +kernel) (by decide))),
  List.forall_mem_cons.mpr ⟨(xOK_pure (xs_sipush (n := 200) (show decode cX2_cloudAt 12 = .ok (.sipush 200, 3) by decide +kernel) (by decide))),
  List.forall_mem_cons.mpr ⟨(xOK_pure (xs_goto (show decode cX2_cloudAt 15 = .ok (.goto 9, 3) by decide +kernel) (by decide))),
  List.forall_mem_cons.mpr ⟨(xOK_pure (xs_aload_n (k := 0) rfl (show decode cX2_cloudAt 18 = .ok (.aload_n 0, 1) by decide +kernel))),
  List.forall_mem_cons.mpr ⟨(xOK_pure (xs_getf xcl_2 (by decide) (show decode cX2_cloudAt 19 = .ok (.getfield 37, 3) by decide +kernel) xw_182)),
  List.forall_mem_cons.mpr ⟨(xOK_pure (xs_iload_n (k := 3) rfl (show decode cX2_cloudAt 22 = .ok (.iload_n 3, 1) by decide +kernel))),
  List.forall_mem_cons.mpr ⟨(xOK_pure (xs_iald (show decode cX2_cloudAt 23 = .ok (.iaload, 1) by decide +kernel))),
  List.forall_mem_cons.mpr ⟨(Or.inr (Or.inl ⟨rfl, (show decode cX2_cloudAt 24 = .ok (.ireturn, 1) by decide +kernel), rfl⟩)),
  (fun _ h => absurd h List.not_mem_nil)⟩⟩⟩⟩⟩⟩⟩⟩⟩⟩⟩⟩⟩⟩⟩
theorem omX2_cloudAt (ev : xEv) : xMethOK ev xmi yX2_cloudAt.cls yX2_cloudAt.name 22 (pX2_cloudAt ev) := xMethOK.of mi_22 (by decide +kernel) (okpX2_cloudAt ev)
def pX2_windAt (ev : xEv) : List (Nat × xEn) := [(0, .inl (xop (xf_aload 0 1))), (1, .inl (xop (xf_iload 1 1))), (2, .inl (xop (xf_iload 2 1))), (3, .inr (.inl (0, 24, 2, 2))), (6, .inl (xop (xf_istore 3 1))), (7, .inl (xop (xf_iload 3 1))), (8, .inl (xop (xf_push (.int (-1)) 1))), (9, .inl (xop (xf_icmp_ne 16))), (12, .inl (xop (xf_push (.int 0) 1))), (13, .inl (xop (xf_goto 22))), (16, .inl (xop (xf_aload 0 1))), (17, .inl (xop (xf_getf 2 11))), (20, .inl (xop (xf_iload 3 1))), (21, .inl (xop (xf_ald (ev.1 0)))), (22, .inr (.inr 1))]
set_option maxRecDepth 20000 in
theorem okpX2_windAt (ev : xEv) : ∀ q ∈ pX2_windAt ev, xEnOK ev xmi yX2_windAt.cls yX2_windAt.name cX2_windAt 4 (some .int) q :=
  List.forall_mem_cons.mpr ⟨(xOK_pure (xs_aload_n (k := 0) rfl (show decode cX2_windAt 0 = .ok (.aload_n 0, 1) by decide +kernel))),
  List.forall_mem_cons.mpr ⟨(xOK_pure (xs_iload_n (k := 1) rfl (show decode cX2_windAt 1 = .ok (.iload_n 1, 1) by decide +kernel))),
  List.forall_mem_cons.mpr ⟨(xOK_pure (xs_iload_n (k := 2) rfl (show decode cX2_windAt 2 = .ok (.iload_n 2, 1) by decide +kernel))),
  List.forall_mem_cons.mpr ⟨(xcm mi_24 ⟨⟨(by decide +kernel), (by decide +kernel), (by decide +kernel)⟩, (by decide), xw_1264, xw_119, Or.inl ⟨rfl, _, _, _, _, (show decode cX2_windAt 3 = .ok (.invokevirtual 66, 3) by decide +kernel), xw_1261, xw_1263, xw_39, rfl⟩⟩),
  List.forall_mem_cons.mpr ⟨(xOK_pure (xs_istore_n (k := 3) rfl (show decode cX2_windAt 6 = .ok (.istore_n 3, 1) by decide +kernel) (by decide))),
  List.forall_mem_cons.mpr ⟨(xOK_pure (xs_iload_n (k := 3) rfl (show decode cX2_windAt 7 = .ok (.iload_n 3, 1) by decide +kernel))),
  List.forall_mem_cons.mpr ⟨(xOK_pure (xs_iconst (n := (-1)) (show decode cX2_windAt 8 = .ok (.iconst (-1), 1) by decide +kernel) (by decide))),
  List.forall_mem_cons.mpr ⟨(xOK_pure (xs_icmp_ne (show decode cX2_windAt 9 = .ok (.if_icmp .ne 7, 3) by decide +kernel) (by decide))),
  List.forall_mem_cons.mpr ⟨(xOK_pure (xs_iconst (n := 0) (show decode cX2_windAt 12 = .ok (.iconst 0, 1) by decide +kernel) (by decide))),
  List.forall_mem_cons.mpr ⟨(xOK_pure (xs_goto (show decode cX2_windAt 13 = .ok (.goto 9, 3) by decide +kernel) (by decide))),
  List.forall_mem_cons.mpr ⟨(xOK_pure (xs_aload_n (k := 0) rfl (show decode cX2_windAt 16 = .ok (.aload_n 0, 1) by decide +kernel))),
  List.forall_mem_cons.mpr ⟨(xOK_pure (xs_getf xcl_2 (by decide) (show decode cX2_windAt 17 = .ok (.getfield 40, 3) by decide +kernel) xw_183)),
  List.forall_mem_cons.mpr ⟨(xOK_pure (xs_iload_n (k := 3) rfl (show decode cX2_windAt 20 = .ok (.iload_n 3, 1) by decide +kernel))),
  List.forall_mem_cons.mpr ⟨(xOK_pure (xs_iald (show decode cX2_windAt 21 = .ok (.iaload, 1) by decide +kernel))),
  List.forall_mem_cons.mpr ⟨(Or.inr (Or.inl ⟨rfl, (show decode cX2_windAt 22 = .ok (.ireturn, 1) by decide +kernel), rfl⟩)),
  (fun _ h => absurd h List.not_mem_nil)⟩⟩⟩⟩⟩⟩⟩⟩⟩⟩⟩⟩⟩⟩⟩
theorem omX2_windAt (ev : xEv) : xMethOK ev xmi yX2_windAt.cls yX2_windAt.name 23 (pX2_windAt ev) := xMethOK.of mi_23 (by decide +kernel) (okpX2_windAt ev)
def pX2_toldFor_0 (ev : xEv) : List (Nat × xEn) := [(0, .inl (xop (xf_push (.int (-1)) 1))), (1, .inl (xop (xf_istore 3 1))), (2, .inl (xop (xf_push (.int 0) 1))), (3, .inl (xop (xf_istore 4 2))), (5, .inl (xop (xf_iload 4 2))), (7, .inl (xop (xf_aload 0 1))), (8, .inl (xop (xf_getf 2 6))), (11, .inl (xop (xf_icmp_ge 78))), (14, .inl (xop (xf_aload 0 1))), (15, .inl (xop (xf_getf 2 8))), (18, .inl (xop (xf_iload 4 2))), (20, .inl (xop (xf_ald (ev.1 0)))), (21, .inl (xop (xf_iload 1 1))), (22, .inl (xop (xf_icmp_ne 40))), (25, .inl (xop (xf_aload 0 1))), (26, .inl (xop (xf_getf 2 9))), (29, .inl (xop (xf_iload 4 2))), (31, .inl (xop (xf_ald (ev.1 0)))), (32, .inl (xop (xf_iload 2 1))), (33, .inl (xop (xf_icmp_gt 40)))]
set_option maxRecDepth 20000 in
theorem okpX2_toldFor_0 (ev : xEv) : ∀ q ∈ pX2_toldFor_0 ev, xEnOK ev xmi yX2_toldFor.cls yX2_toldFor.name cX2_toldFor 6 (some .int) q :=
  List.forall_mem_cons.mpr ⟨(xOK_pure (xs_iconst (n := (-1)) (show decode cX2_toldFor 0 = .ok (.iconst (-1), 1) by decide +kernel) (by decide))),
  List.forall_mem_cons.mpr ⟨(xOK_pure (xs_istore_n (k := 3) rfl (show decode cX2_toldFor 1 = .ok (.istore_n 3, 1) by decide +kernel) (by decide))),
  List.forall_mem_cons.mpr ⟨(xOK_pure (xs_iconst (n := 0) (show decode cX2_toldFor 2 = .ok (.iconst 0, 1) by decide +kernel) (by decide))),
  List.forall_mem_cons.mpr ⟨(xOK_pure (xs_istore (show decode cX2_toldFor 3 = .ok (.istore 4, 2) by decide +kernel) (by decide))),
  List.forall_mem_cons.mpr ⟨(xOK_pure (xs_iload (show decode cX2_toldFor 5 = .ok (.iload 4, 2) by decide +kernel))),
  List.forall_mem_cons.mpr ⟨(xOK_pure (xs_aload_n (k := 0) rfl (show decode cX2_toldFor 7 = .ok (.aload_n 0, 1) by decide +kernel))),
  List.forall_mem_cons.mpr ⟨(xOK_pure (xs_getf xcl_2 (by decide) (show decode cX2_toldFor 8 = .ok (.getfield 63, 3) by decide +kernel) xw_177)),
  List.forall_mem_cons.mpr ⟨(xOK_pure (xs_icmp_ge (show decode cX2_toldFor 11 = .ok (.if_icmp .ge 67, 3) by decide +kernel) (by decide))),
  List.forall_mem_cons.mpr ⟨(xOK_pure (xs_aload_n (k := 0) rfl (show decode cX2_toldFor 14 = .ok (.aload_n 0, 1) by decide +kernel))),
  List.forall_mem_cons.mpr ⟨(xOK_pure (xs_getf xcl_2 (by decide) (show decode cX2_toldFor 15 = .ok (.getfield 31, 3) by decide +kernel) xw_180)),
  List.forall_mem_cons.mpr ⟨(xOK_pure (xs_iload (show decode cX2_toldFor 18 = .ok (.iload 4, 2) by decide +kernel))),
  List.forall_mem_cons.mpr ⟨(xOK_pure (xs_iald (show decode cX2_toldFor 20 = .ok (.iaload, 1) by decide +kernel))),
  List.forall_mem_cons.mpr ⟨(xOK_pure (xs_iload_n (k := 1) rfl (show decode cX2_toldFor 21 = .ok (.iload_n 1, 1) by decide +kernel))),
  List.forall_mem_cons.mpr ⟨(xOK_pure (xs_icmp_ne (show decode cX2_toldFor 22 = .ok (.if_icmp .ne 18, 3) by decide +kernel) (by decide))),
  List.forall_mem_cons.mpr ⟨(xOK_pure (xs_aload_n (k := 0) rfl (show decode cX2_toldFor 25 = .ok (.aload_n 0, 1) by decide +kernel))),
  List.forall_mem_cons.mpr ⟨(xOK_pure (xs_getf xcl_2 (by decide) (show decode cX2_toldFor 26 = .ok (.getfield 34, 3) by decide +kernel) xw_181)),
  List.forall_mem_cons.mpr ⟨(xOK_pure (xs_iload (show decode cX2_toldFor 29 = .ok (.iload 4, 2) by decide +kernel))),
  List.forall_mem_cons.mpr ⟨(xOK_pure (xs_iald (show decode cX2_toldFor 31 = .ok (.iaload, 1) by decide +kernel))),
  List.forall_mem_cons.mpr ⟨(xOK_pure (xs_iload_n (k := 2) rfl (show decode cX2_toldFor 32 = .ok (.iload_n 2, 1) by decide +kernel))),
  List.forall_mem_cons.mpr ⟨(xOK_pure (xs_icmp_gt (show decode cX2_toldFor 33 = .ok (.if_icmp .gt 7, 3) by decide +kernel) (by decide))),
  (fun _ h => absurd h List.not_mem_nil)⟩⟩⟩⟩⟩⟩⟩⟩⟩⟩⟩⟩⟩⟩⟩⟩⟩⟩⟩⟩
def pX2_toldFor_1 (ev : xEv) : List (Nat × xEn) := [(36, .inl (xop (xf_push (.int 1) 1))), (37, .inl (xop (xf_goto 41))), (40, .inl (xop (xf_push (.int 0) 1))), (41, .inl (xop (xf_istore 5 2))), (43, .inl (xop (xf_iload 5 2))), (45, .inl (xop (xf_if_eq 72))), (48, .inl (xop (xf_iload 3 1))), (49, .inl (xop (xf_push (.int (-1)) 1))), (50, .inl (xop (xf_icmp_eq 69))), (53, .inl (xop (xf_aload 0 1))), (54, .inl (xop (xf_getf 2 9))), (57, .inl (xop (xf_iload 4 2))), (59, .inl (xop (xf_ald (ev.1 0)))), (60, .inl (xop (xf_aload 0 1))), (61, .inl (xop (xf_getf 2 9))), (64, .inl (xop (xf_iload 3 1))), (65, .inl (xop (xf_ald (ev.1 0)))), (66, .inl (xop (xf_icmp_lt 72))), (69, .inl (xop (xf_iload 4 2))), (71, .inl (xop (xf_istore 3 1)))]
set_option maxRecDepth 20000 in
theorem okpX2_toldFor_1 (ev : xEv) : ∀ q ∈ pX2_toldFor_1 ev, xEnOK ev xmi yX2_toldFor.cls yX2_toldFor.name cX2_toldFor 6 (some .int) q :=
  List.forall_mem_cons.mpr ⟨(xOK_pure (xs_iconst (n := 1) (show decode cX2_toldFor 36 = .ok (.iconst 1, 1) by decide +kernel) (by decide))),
  List.forall_mem_cons.mpr ⟨(xOK_pure (xs_goto (show decode cX2_toldFor 37 = .ok (.goto 4, 3) by decide +kernel) (by decide))),
  List.forall_mem_cons.mpr ⟨(xOK_pure (xs_iconst (n := 0) (show decode cX2_toldFor 40 = .ok (.iconst 0, 1) by decide +kernel) (by decide))),
  List.forall_mem_cons.mpr ⟨(xOK_pure (xs_istore (show decode cX2_toldFor 41 = .ok (.istore 5, 2) by decide +kernel) (by decide))),
  List.forall_mem_cons.mpr ⟨(xOK_pure (xs_iload (show decode cX2_toldFor 43 = .ok (.iload 5, 2) by decide +kernel))),
  List.forall_mem_cons.mpr ⟨(xOK_pure (xs_if_eq (show decode cX2_toldFor 45 = .ok (.ifCond .eq 27, 3) by decide +kernel) (by decide))),
  List.forall_mem_cons.mpr ⟨(xOK_pure (xs_iload_n (k := 3) rfl (show decode cX2_toldFor 48 = .ok (.iload_n 3, 1) by decide +kernel))),
  List.forall_mem_cons.mpr ⟨(xOK_pure (xs_iconst (n := (-1)) (show decode cX2_toldFor 49 = .ok (.iconst (-1), 1) by decide +kernel) (by decide))),
  List.forall_mem_cons.mpr ⟨(xOK_pure (xs_icmp_eq (show decode cX2_toldFor 50 = .ok (.if_icmp .eq 19, 3) by decide +kernel) (by decide))),
  List.forall_mem_cons.mpr ⟨(xOK_pure (xs_aload_n (k := 0) rfl (show decode cX2_toldFor 53 = .ok (.aload_n 0, 1) by decide +kernel))),
  List.forall_mem_cons.mpr ⟨(xOK_pure (xs_getf xcl_2 (by decide) (show decode cX2_toldFor 54 = .ok (.getfield 34, 3) by decide +kernel) xw_181)),
  List.forall_mem_cons.mpr ⟨(xOK_pure (xs_iload (show decode cX2_toldFor 57 = .ok (.iload 4, 2) by decide +kernel))),
  List.forall_mem_cons.mpr ⟨(xOK_pure (xs_iald (show decode cX2_toldFor 59 = .ok (.iaload, 1) by decide +kernel))),
  List.forall_mem_cons.mpr ⟨(xOK_pure (xs_aload_n (k := 0) rfl (show decode cX2_toldFor 60 = .ok (.aload_n 0, 1) by decide +kernel))),
  List.forall_mem_cons.mpr ⟨(xOK_pure (xs_getf xcl_2 (by decide) (show decode cX2_toldFor 61 = .ok (.getfield 34, 3) by decide +kernel) xw_181)),
  List.forall_mem_cons.mpr ⟨(xOK_pure (xs_iload_n (k := 3) rfl (show decode cX2_toldFor 64 = .ok (.iload_n 3, 1) by decide +kernel))),
  List.forall_mem_cons.mpr ⟨(xOK_pure (xs_iald (show decode cX2_toldFor 65 = .ok (.iaload, 1) by decide +kernel))),
  List.forall_mem_cons.mpr ⟨(xOK_pure (xs_icmp_lt (show decode cX2_toldFor 66 = .ok (.if_icmp .lt 6, 3) by decide +kernel) (by decide))),
  List.forall_mem_cons.mpr ⟨(xOK_pure (xs_iload (show decode cX2_toldFor 69 = .ok (.iload 4, 2) by decide +kernel))),
  List.forall_mem_cons.mpr ⟨(xOK_pure (xs_istore_n (k := 3) rfl (show decode cX2_toldFor 71 = .ok (.istore_n 3, 1) by decide +kernel) (by decide))),
  (fun _ h => absurd h List.not_mem_nil)⟩⟩⟩⟩⟩⟩⟩⟩⟩⟩⟩⟩⟩⟩⟩⟩⟩⟩⟩⟩
def pX2_toldFor_2 (ev : xEv) : List (Nat × xEn) := [(72, .inl (xop (xf_iinc 4 1))), (75, .inl (xop (xf_goto 5))), (78, .inl (xop (xf_iload 3 1))), (79, .inr (.inr 1))]
set_option maxRecDepth 20000 in
theorem okpX2_toldFor_2 (ev : xEv) : ∀ q ∈ pX2_toldFor_2 ev, xEnOK ev xmi yX2_toldFor.cls yX2_toldFor.name cX2_toldFor 6 (some .int) q :=
  List.forall_mem_cons.mpr ⟨(xOK_pure (xs_iinc (n := 1) (show decode cX2_toldFor 72 = .ok (.iinc 4 1, 3) by decide +kernel) (by decide) (by decide))),
  List.forall_mem_cons.mpr ⟨(xOK_pure (xs_goto (show decode cX2_toldFor 75 = .ok (.goto (-70), 3) by decide +kernel) (by decide))),
  List.forall_mem_cons.mpr ⟨(xOK_pure (xs_iload_n (k := 3) rfl (show decode cX2_toldFor 78 = .ok (.iload_n 3, 1) by decide +kernel))),
  List.forall_mem_cons.mpr ⟨(Or.inr (Or.inl ⟨rfl, (show decode cX2_toldFor 79 = .ok (.ireturn, 1) by decide +kernel), rfl⟩)),
  (fun _ h => absurd h List.not_mem_nil)⟩⟩⟩⟩
def pX2_toldFor (ev : xEv) : List (Nat × xEn) := pX2_toldFor_0 ev ++ (pX2_toldFor_1 ev ++ (pX2_toldFor_2 ev))
theorem okpX2_toldFor (ev : xEv) : ∀ q ∈ pX2_toldFor ev, xEnOK ev xmi yX2_toldFor.cls yX2_toldFor.name cX2_toldFor 6 (some .int) q := List.forall_mem_append.mpr ⟨okpX2_toldFor_0 ev, List.forall_mem_append.mpr ⟨okpX2_toldFor_1 ev, okpX2_toldFor_2 ev⟩⟩
theorem omX2_toldFor (ev : xEv) : xMethOK ev xmi yX2_toldFor.cls yX2_toldFor.name 24 (pX2_toldFor ev) := xMethOK.of mi_24 (by decide +kernel) (okpX2_toldFor ev)
def pX2_bitOf (ev : xEv) : List (Nat × xEn) := [(0, .inl (xop (xf_push (.int 1) 1))), (1, .inl (xop (xf_push (.int 7) 2))), (3, .inl (xop (xf_iload 0 1))), (4, .inl (xop (xf_bin (fun x y => x - y)))), (5, .inl (xop (xf_bin (fun x y => x <<< (y &&& 31))))), (6, .inr (.inr 1))]
set_option maxRecDepth 20000 in
theorem okpX2_bitOf (ev : xEv) : ∀ q ∈ pX2_bitOf ev, xEnOK ev xmi yX2_bitOf.cls yX2_bitOf.name cX2_bitOf 1 (some .int) q :=
  List.forall_mem_cons.mpr ⟨(xOK_pure (xs_iconst (n := 1) (show decode cX2_bitOf 0 = .ok (.iconst 1, 1) by decide +kernel) (by decide))),
  List.forall_mem_cons.mpr ⟨(xOK_pure (xs_bipush (n := 7) (show decode cX2_bitOf 1 = .ok (.bipush 7, 2) by decide +kernel) (by decide))),
  List.forall_mem_cons.mpr ⟨(xOK_pure (xs_iload_n (k := 0) rfl (show decode cX2_bitOf 3 = .ok (.iload_n 0, 1) by decide +kernel))),
  List.forall_mem_cons.mpr ⟨(xOK_pure (xs_isub (show decode cX2_bitOf 4 = .ok (.isub, 1) by decide +kernel))),
  List.forall_mem_cons.mpr ⟨(xOK_pure (xs_ishl (show decode cX2_bitOf 5 = .ok (.ishl, 1) by decide +kernel))),
  List.forall_mem_cons.mpr ⟨(Or.inr (Or.inl ⟨rfl, (show decode cX2_bitOf 6 = .ok (.ireturn, 1) by decide +kernel), rfl⟩)),
  (fun _ h => absurd h List.not_mem_nil)⟩⟩⟩⟩⟩⟩
theorem omX2_bitOf (ev : xEv) : xMethOK ev xmi yX2_bitOf.cls yX2_bitOf.name 25 (pX2_bitOf ev) := xMethOK.of mi_25 (by decide +kernel) (okpX2_bitOf ev)
def pX2_darkFields_0 (ev : xEv) : List (Nat × xEn) := [(0, .inl (xop (xf_push (.int 0) 1))), (1, .inl (xop (xf_istore 1 1))), (2, .inl (xop (xf_push (.int 0) 1))), (3, .inl (xop (xf_istore 2 1))), (4, .inl (xop (xf_iload 2 1))), (5, .inl (xop (xf_aload 0 1))), (6, .inl (xop (xf_getf 2 3))), (9, .inl (xop (xf_icmp_ge 34))), (12, .inl (xop (xf_aload 0 1))), (13, .inl (xop (xf_getf 2 1))), (16, .inl (xop (xf_iload 2 1))), (17, .inl (xop (xf_ald (ev.1 2)))), (18, .inl (xop (xf_if_ne 28))), (21, .inl (xop (xf_iload 1 1))), (22, .inl (xop (xf_iload 2 1))), (23, .inr (.inl (1, 25, 1, 2))), (26, .inl (xop (xf_bin (fun x y => x ||| y)))), (27, .inl (xop (xf_istore 1 1))), (28, .inl (xop (xf_iinc 2 1))), (31, .inl (xop (xf_goto 4)))]
set_option maxRecDepth 20000 in
theorem okpX2_darkFields_0 (ev : xEv) : ∀ q ∈ pX2_darkFields_0 ev, xEnOK ev xmi yX2_darkFields.cls yX2_darkFields.name cX2_darkFields 3 (some .int) q :=
  List.forall_mem_cons.mpr ⟨(xOK_pure (xs_iconst (n := 0) (show decode cX2_darkFields 0 = .ok (.iconst 0, 1) by decide +kernel) (by decide))),
  List.forall_mem_cons.mpr ⟨(xOK_pure (xs_istore_n (k := 1) rfl (show decode cX2_darkFields 1 = .ok (.istore_n 1, 1) by decide +kernel) (by decide))),
  List.forall_mem_cons.mpr ⟨(xOK_pure (xs_iconst (n := 0) (show decode cX2_darkFields 2 = .ok (.iconst 0, 1) by decide +kernel) (by decide))),
  List.forall_mem_cons.mpr ⟨(xOK_pure (xs_istore_n (k := 2) rfl (show decode cX2_darkFields 3 = .ok (.istore_n 2, 1) by decide +kernel) (by decide))),
  List.forall_mem_cons.mpr ⟨(xOK_pure (xs_iload_n (k := 2) rfl (show decode cX2_darkFields 4 = .ok (.iload_n 2, 1) by decide +kernel))),
  List.forall_mem_cons.mpr ⟨(xOK_pure (xs_aload_n (k := 0) rfl (show decode cX2_darkFields 5 = .ok (.aload_n 0, 1) by decide +kernel))),
  List.forall_mem_cons.mpr ⟨(xOK_pure (xs_getf xcl_2 (by decide) (show decode cX2_darkFields 6 = .ok (.getfield 44, 3) by decide +kernel) xw_169)),
  List.forall_mem_cons.mpr ⟨(xOK_pure (xs_icmp_ge (show decode cX2_darkFields 9 = .ok (.if_icmp .ge 25, 3) by decide +kernel) (by decide))),
  List.forall_mem_cons.mpr ⟨(xOK_pure (xs_aload_n (k := 0) rfl (show decode cX2_darkFields 12 = .ok (.aload_n 0, 1) by decide +kernel))),
  List.forall_mem_cons.mpr ⟨(xOK_pure (xs_getf xcl_2 (by decide) (show decode cX2_darkFields 13 = .ok (.getfield 15, 3) by decide +kernel) xw_163)),
  List.forall_mem_cons.mpr ⟨(xOK_pure (xs_iload_n (k := 2) rfl (show decode cX2_darkFields 16 = .ok (.iload_n 2, 1) by decide +kernel))),
  List.forall_mem_cons.mpr ⟨(xOK_pure (xs_zald (show decode cX2_darkFields 17 = .ok (.baload, 1) by decide +kernel))),
  List.forall_mem_cons.mpr ⟨(xOK_pure (xs_if_ne (show decode cX2_darkFields 18 = .ok (.ifCond .ne 10, 3) by decide +kernel) (by decide))),
  List.forall_mem_cons.mpr ⟨(xOK_pure (xs_iload_n (k := 1) rfl (show decode cX2_darkFields 21 = .ok (.iload_n 1, 1) by decide +kernel))),
  List.forall_mem_cons.mpr ⟨(xOK_pure (xs_iload_n (k := 2) rfl (show decode cX2_darkFields 22 = .ok (.iload_n 2, 1) by decide +kernel))),
  List.forall_mem_cons.mpr ⟨(xcm mi_25 ⟨⟨(by decide +kernel), (by decide +kernel), (by decide +kernel)⟩, (by decide), xw_1552, xw_119, Or.inr (Or.inl ⟨rfl, _, (show decode cX2_darkFields 23 = .ok (.invokestatic 69, 3) by decide +kernel), xw_1550, xw_1551⟩)⟩),
  List.forall_mem_cons.mpr ⟨(xOK_pure (xs_ior (show decode cX2_darkFields 26 = .ok (.ior, 1) by decide +kernel))),
  List.forall_mem_cons.mpr ⟨(xOK_pure (xs_istore_n (k := 1) rfl (show decode cX2_darkFields 27 = .ok (.istore_n 1, 1) by decide +kernel) (by decide))),
  List.forall_mem_cons.mpr ⟨(xOK_pure (xs_iinc (n := 1) (show decode cX2_darkFields 28 = .ok (.iinc 2 1, 3) by decide +kernel) (by decide) (by decide))),
  List.forall_mem_cons.mpr ⟨(xOK_pure (xs_goto (show decode cX2_darkFields 31 = .ok (.goto (-27), 3) by decide +kernel) (by decide))),
  (fun _ h => absurd h List.not_mem_nil)⟩⟩⟩⟩⟩⟩⟩⟩⟩⟩⟩⟩⟩⟩⟩⟩⟩⟩⟩⟩
def pX2_darkFields_1 (ev : xEv) : List (Nat × xEn) := [(34, .inl (xop (xf_iload 1 1))), (35, .inr (.inr 1))]
set_option maxRecDepth 20000 in
theorem okpX2_darkFields_1 (ev : xEv) : ∀ q ∈ pX2_darkFields_1 ev, xEnOK ev xmi yX2_darkFields.cls yX2_darkFields.name cX2_darkFields 3 (some .int) q :=
  List.forall_mem_cons.mpr ⟨(xOK_pure (xs_iload_n (k := 1) rfl (show decode cX2_darkFields 34 = .ok (.iload_n 1, 1) by decide +kernel))),
  List.forall_mem_cons.mpr ⟨(Or.inr (Or.inl ⟨rfl, (show decode cX2_darkFields 35 = .ok (.ireturn, 1) by decide +kernel), rfl⟩)),
  (fun _ h => absurd h List.not_mem_nil)⟩⟩
def pX2_darkFields (ev : xEv) : List (Nat × xEn) := pX2_darkFields_0 ev ++ (pX2_darkFields_1 ev)
theorem okpX2_darkFields (ev : xEv) : ∀ q ∈ pX2_darkFields ev, xEnOK ev xmi yX2_darkFields.cls yX2_darkFields.name cX2_darkFields 3 (some .int) q := List.forall_mem_append.mpr ⟨okpX2_darkFields_0 ev, okpX2_darkFields_1 ev⟩
theorem omX2_darkFields (ev : xEv) : xMethOK ev xmi yX2_darkFields.cls yX2_darkFields.name 26 (pX2_darkFields ev) := xMethOK.of mi_26 (by decide +kernel) (okpX2_darkFields ev)
def pX2_light (ev : xEv) : List (Nat × xEn) := [(0, .inl (xop (xf_push (.int 0) 1))), (1, .inl (xop (xf_istore 3 1))), (2, .inl (xop (xf_iload 3 1))), (3, .inl (xop (xf_aload 0 1))), (4, .inl (xop (xf_getf 2 3))), (7, .inl (xop (xf_icmp_ge 32))), (10, .inl (xop (xf_iload 1 1))), (11, .inl (xop (xf_iload 3 1))), (12, .inr (.inl (1, 25, 1, 2))), (15, .inl (xop (xf_bin (fun x y => x &&& y)))), (16, .inl (xop (xf_if_eq 26))), (19, .inl (xop (xf_aload 0 1))), (20, .inl (xop (xf_getf 2 1))), (23, .inl (xop (xf_iload 3 1))), (24, .inl (xop (xf_iload 2 1))), (25, .inl (xo_ast (ev.1 2) (vp_nar .boolean))), (26, .inl (xop (xf_iinc 3 1))), (29, .inl (xop (xf_goto 2))), (32, .inr (.inr 0))]
set_option maxRecDepth 20000 in
theorem okpX2_light (ev : xEv) : ∀ q ∈ pX2_light ev, xEnOK ev xmi yX2_light.cls yX2_light.name cX2_light 4 none q :=
  List.forall_mem_cons.mpr ⟨(xOK_pure (xs_iconst (n := 0) (show decode cX2_light 0 = .ok (.iconst 0, 1) by decide +kernel) (by decide))),
  List.forall_mem_cons.mpr ⟨(xOK_pure (xs_istore_n (k := 3) rfl (show decode cX2_light 1 = .ok (.istore_n 3, 1) by decide +kernel) (by decide))),
  List.forall_mem_cons.mpr ⟨(xOK_pure (xs_iload_n (k := 3) rfl (show decode cX2_light 2 = .ok (.iload_n 3, 1) by decide +kernel))),
  List.forall_mem_cons.mpr ⟨(xOK_pure (xs_aload_n (k := 0) rfl (show decode cX2_light 3 = .ok (.aload_n 0, 1) by decide +kernel))),
  List.forall_mem_cons.mpr ⟨(xOK_pure (xs_getf xcl_2 (by decide) (show decode cX2_light 4 = .ok (.getfield 44, 3) by decide +kernel) xw_169)),
  List.forall_mem_cons.mpr ⟨(xOK_pure (xs_icmp_ge (show decode cX2_light 7 = .ok (.if_icmp .ge 25, 3) by decide +kernel) (by decide))),
  List.forall_mem_cons.mpr ⟨(xOK_pure (xs_iload_n (k := 1) rfl (show decode cX2_light 10 = .ok (.iload_n 1, 1) by decide +kernel))),
  List.forall_mem_cons.mpr ⟨(xOK_pure (xs_iload_n (k := 3) rfl (show decode cX2_light 11 = .ok (.iload_n 3, 1) by decide +kernel))),
  List.forall_mem_cons.mpr ⟨(xcm mi_25 ⟨⟨(by decide +kernel), (by decide +kernel), (by decide +kernel)⟩, (by decide), xw_1552, xw_119, Or.inr (Or.inl ⟨rfl, _, (show decode cX2_light 12 = .ok (.invokestatic 69, 3) by decide +kernel), xw_1550, xw_1551⟩)⟩),
  List.forall_mem_cons.mpr ⟨(xOK_pure (xs_iand (show decode cX2_light 15 = .ok (.iand, 1) by decide +kernel))),
  List.forall_mem_cons.mpr ⟨(xOK_pure (xs_if_eq (show decode cX2_light 16 = .ok (.ifCond .eq 10, 3) by decide +kernel) (by decide))),
  List.forall_mem_cons.mpr ⟨(xOK_pure (xs_aload_n (k := 0) rfl (show decode cX2_light 19 = .ok (.aload_n 0, 1) by decide +kernel))),
  List.forall_mem_cons.mpr ⟨(xOK_pure (xs_getf xcl_2 (by decide) (show decode cX2_light 20 = .ok (.getfield 15, 3) by decide +kernel) xw_163)),
  List.forall_mem_cons.mpr ⟨(xOK_pure (xs_iload_n (k := 3) rfl (show decode cX2_light 23 = .ok (.iload_n 3, 1) by decide +kernel))),
  List.forall_mem_cons.mpr ⟨(xOK_pure (xs_iload_n (k := 2) rfl (show decode cX2_light 24 = .ok (.iload_n 2, 1) by decide +kernel))),
  List.forall_mem_cons.mpr ⟨(xs_zast (show decode cX2_light 25 = .ok (.bastore, 1) by decide +kernel)),
  List.forall_mem_cons.mpr ⟨(xOK_pure (xs_iinc (n := 1) (show decode cX2_light 26 = .ok (.iinc 3 1, 3) by decide +kernel) (by decide) (by decide))),
  List.forall_mem_cons.mpr ⟨(xOK_pure (xs_goto (show decode cX2_light 29 = .ok (.goto (-27), 3) by decide +kernel) (by decide))),
  List.forall_mem_cons.mpr ⟨(Or.inl ⟨rfl, (show decode cX2_light 32 = .ok (.return_, 1) by decide +kernel), rfl⟩),
  (fun _ h => absurd h List.not_mem_nil)⟩⟩⟩⟩⟩⟩⟩⟩⟩⟩⟩⟩⟩⟩⟩⟩⟩⟩⟩
theorem omX2_light (ev : xEv) : xMethOK ev xmi yX2_light.cls yX2_light.name 27 (pX2_light ev) := xMethOK.of mi_27 (by decide +kernel) (okpX2_light ev)
def pX2_listFields_0 (ev : xEv) : List (Nat × xEn) := [(0, .inl (xop (xf_push (.int 0) 1))), (1, .inl (xop (xf_istore 3 1))), (2, .inl (xop (xf_push (.int 0) 1))), (3, .inl (xop (xf_istore 4 2))), (5, .inl (xop (xf_iload 4 2))), (7, .inl (xop (xf_aload 0 1))), (8, .inl (xop (xf_getf 2 3))), (11, .inl (xop (xf_icmp_ge 44))), (14, .inl (xop (xf_iload 3 1))), (15, .inl (xop (xf_aload 2 1))), (16, .inl (xop (xf_alen (ev.1 0)))), (17, .inl (xop (xf_icmp_ge 44))), (20, .inl (xop (xf_iload 1 1))), (21, .inl (xop (xf_iload 4 2))), (23, .inr (.inl (1, 25, 1, 2))), (26, .inl (xop (xf_bin (fun x y => x &&& y)))), (27, .inl (xop (xf_if_eq 38))), (30, .inl (xop (xf_aload 2 1))), (31, .inl (xop (xf_iload 3 1))), (32, .inl (xop (xf_iload 4 2)))]
set_option maxRecDepth 20000 in
theorem okpX2_listFields_0 (ev : xEv) : ∀ q ∈ pX2_listFields_0 ev, xEnOK ev xmi yX2_listFields.cls yX2_listFields.name cX2_listFields 5 (some .int) q :=
  List.forall_mem_cons.mpr ⟨(xOK_pure (xs_iconst (n := 0) (show decode cX2_listFields 0 = .ok (.iconst 0, 1) by decide +kernel) (by decide))),
  List.forall_mem_cons.mpr ⟨(xOK_pure (xs_istore_n (k := 3) rfl (show decode cX2_listFields 1 = .ok (.istore_n 3, 1) by decide +kernel) (by decide))),
  List.forall_mem_cons.mpr ⟨(xOK_pure (xs_iconst (n := 0) (show decode cX2_listFields 2 = .ok (.iconst 0, 1) by decide +kernel) (by decide))),
  List.forall_mem_cons.mpr ⟨(xOK_pure (xs_istore (show decode cX2_listFields 3 = .ok (.istore 4, 2) by decide +kernel) (by decide))),
  List.forall_mem_cons.mpr ⟨(xOK_pure (xs_iload (show decode cX2_listFields 5 = .ok (.iload 4, 2) by decide +kernel))),
  List.forall_mem_cons.mpr ⟨(xOK_pure (xs_aload_n (k := 0) rfl (show decode cX2_listFields 7 = .ok (.aload_n 0, 1) by decide +kernel))),
  List.forall_mem_cons.mpr ⟨(xOK_pure (xs_getf xcl_2 (by decide) (show decode cX2_listFields 8 = .ok (.getfield 44, 3) by decide +kernel) xw_169)),
  List.forall_mem_cons.mpr ⟨(xOK_pure (xs_icmp_ge (show decode cX2_listFields 11 = .ok (.if_icmp .ge 33, 3) by decide +kernel) (by decide))),
  List.forall_mem_cons.mpr ⟨(xOK_pure (xs_iload_n (k := 3) rfl (show decode cX2_listFields 14 = .ok (.iload_n 3, 1) by decide +kernel))),
  List.forall_mem_cons.mpr ⟨(xOK_pure (xs_aload_n (k := 2) rfl (show decode cX2_listFields 15 = .ok (.aload_n 2, 1) by decide +kernel))),
  List.forall_mem_cons.mpr ⟨(xOK_pure (xs_alen (t := 0) rfl (show decode cX2_listFields 16 = .ok (.arraylength, 1) by decide +kernel))),
  List.forall_mem_cons.mpr ⟨(xOK_pure (xs_icmp_ge (show decode cX2_listFields 17 = .ok (.if_icmp .ge 27, 3) by decide +kernel) (by decide))),
  List.forall_mem_cons.mpr ⟨(xOK_pure (xs_iload_n (k := 1) rfl (show decode cX2_listFields 20 = .ok (.iload_n 1, 1) by decide +kernel))),
  List.forall_mem_cons.mpr ⟨(xOK_pure (xs_iload (show decode cX2_listFields 21 = .ok (.iload 4, 2) by decide +kernel))),
  List.forall_mem_cons.mpr ⟨(xcm mi_25 ⟨⟨(by decide +kernel), (by decide +kernel), (by decide +kernel)⟩, (by decide), xw_1552, xw_119, Or.inr (Or.inl ⟨rfl, _, (show decode cX2_listFields 23 = .ok (.invokestatic 69, 3) by decide +kernel), xw_1550, xw_1551⟩)⟩),
  List.forall_mem_cons.mpr ⟨(xOK_pure (xs_iand (show decode cX2_listFields 26 = .ok (.iand, 1) by decide +kernel))),
  List.forall_mem_cons.mpr ⟨(xOK_pure (xs_if_eq (show decode cX2_listFields 27 = .ok (.ifCond .eq 11, 3) by decide +kernel) (by decide))),
  List.forall_mem_cons.mpr ⟨(xOK_pure (xs_aload_n (k := 2) rfl (show decode cX2_listFields 30 = .ok (.aload_n 2, 1) by decide +kernel))),
  List.forall_mem_cons.mpr ⟨(xOK_pure (xs_iload_n (k := 3) rfl (show decode cX2_listFields 31 = .ok (.iload_n 3, 1) by decide +kernel))),
  List.forall_mem_cons.mpr ⟨(xOK_pure (xs_iload (show decode cX2_listFields 32 = .ok (.iload 4, 2) by decide +kernel))),
  (fun _ h => absurd h List.not_mem_nil)⟩⟩⟩⟩⟩⟩⟩⟩⟩⟩⟩⟩⟩⟩⟩⟩⟩⟩⟩⟩
def pX2_listFields_1 (ev : xEv) : List (Nat × xEn) := [(34, .inl (xo_ast (ev.1 0) (fun x => x))), (35, .inl (xop (xf_iinc 3 1))), (38, .inl (xop (xf_iinc 4 1))), (41, .inl (xop (xf_goto 5))), (44, .inl (xop (xf_iload 3 1))), (45, .inr (.inr 1))]
set_option maxRecDepth 20000 in
theorem okpX2_listFields_1 (ev : xEv) : ∀ q ∈ pX2_listFields_1 ev, xEnOK ev xmi yX2_listFields.cls yX2_listFields.name cX2_listFields 5 (some .int) q :=
  List.forall_mem_cons.mpr ⟨(xs_iast (show decode cX2_listFields 34 = .ok (.iastore, 1) by decide +kernel)),
  List.forall_mem_cons.mpr ⟨(xOK_pure (xs_iinc (n := 1) (show decode cX2_listFields 35 = .ok (.iinc 3 1, 3) by decide +kernel) (by decide) (by decide))),
  List.forall_mem_cons.mpr ⟨(xOK_pure (xs_iinc (n := 1) (show decode cX2_listFields 38 = .ok (.iinc 4 1, 3) by decide +kernel) (by decide) (by decide))),
  List.forall_mem_cons.mpr ⟨(xOK_pure (xs_goto (show decode cX2_listFields 41 = .ok (.goto (-36), 3) by decide +kernel) (by decide))),
  List.forall_mem_cons.mpr ⟨(xOK_pure (xs_iload_n (k := 3) rfl (show decode cX2_listFields 44 = .ok (.iload_n 3, 1) by decide +kernel))),
  List.forall_mem_cons.mpr ⟨(Or.inr (Or.inl ⟨rfl, (show decode cX2_listFields 45 = .ok (.ireturn, 1) by decide +kernel), rfl⟩)),
  (fun _ h => absurd h List.not_mem_nil)⟩⟩⟩⟩⟩⟩
def pX2_listFields (ev : xEv) : List (Nat × xEn) := pX2_listFields_0 ev ++ (pX2_listFields_1 ev)
theorem okpX2_listFields (ev : xEv) : ∀ q ∈ pX2_listFields ev, xEnOK ev xmi yX2_listFields.cls yX2_listFields.name cX2_listFields 5 (some .int) q := List.forall_mem_append.mpr ⟨okpX2_listFields_0 ev, okpX2_listFields_1 ev⟩
theorem omX2_listFields (ev : xEv) : xMethOK ev xmi yX2_listFields.cls yX2_listFields.name 28 (pX2_listFields ev) := xMethOK.of mi_28 (by decide +kernel) (okpX2_listFields ev)
