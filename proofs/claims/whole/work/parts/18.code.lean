def pX12_heard_0 (ev : xEv) : List (Nat × xEn) := [(0, .inl (xop (xf_aload 0 1))), (1, .inl (xop (xf_push (.int 0) 1))), (2, .inl (xo_putf 12 47 .int)), (5, .inl (xop (xf_aload 0 1))), (6, .inl (xop (xf_iload 1 1))), (7, .inr (.inl (0, 190, 1, 12))), (10, .inl (xop (xf_if_eq 42))), (13, .inl (xop (xf_aload 0 1))), (14, .inl (xop (xf_iload 2 1))), (15, .inr (.inl (0, 191, 1, 12))), (18, .inl (xop (xf_if_eq 42))), (21, .inl (xop (xf_iload 3 1))), (22, .inl (xop (xf_push (.int 0) 1))), (23, .inl (xop (xf_push (.int 3000) 3))), (26, .inr (.inl (1, 188, 3, 12))), (29, .inl (xop (xf_if_eq 42))), (32, .inl (xop (xf_iload 4 2))), (34, .inl (xop (xf_push (.int 0) 1))), (35, .inl (xop (xf_push (.int 2) 1))), (36, .inr (.inl (1, 188, 3, 12)))]
set_option maxRecDepth 20000 in
theorem okpX12_heard_0 (ev : xEv) : ∀ q ∈ pX12_heard_0 ev, xEnOK ev xmi yX12_heard.cls yX12_heard.name cX12_heard 6 (some .int) q :=
  List.forall_mem_cons.mpr ⟨(xOK_pure (xs_aload_n (k := 0) rfl (show decode cX12_heard 0 = .ok (.aload_n 0, 1) by decide +kernel))),
  List.forall_mem_cons.mpr ⟨(xOK_pure (xs_iconst (n := 0) (show decode cX12_heard 1 = .ok (.iconst 0, 1) by decide +kernel) (by decide))),
  List.forall_mem_cons.mpr ⟨(xs_putf (k := 47) xcl_12 (by decide) rfl (show decode cX12_heard 2 = .ok (.putfield 140, 3) by decide +kernel) xw_1756),
  List.forall_mem_cons.mpr ⟨(xOK_pure (xs_aload_n (k := 0) rfl (show decode cX12_heard 5 = .ok (.aload_n 0, 1) by decide +kernel))),
  List.forall_mem_cons.mpr ⟨(xOK_pure (xs_iload_n (k := 1) rfl (show decode cX12_heard 6 = .ok (.iload_n 1, 1) by decide +kernel))),
  List.forall_mem_cons.mpr ⟨(xcm mi_190 ⟨⟨(by decide +kernel), (by decide +kernel), (by decide +kernel)⟩, (by decide), xw_1920, xw_125, Or.inl ⟨rfl, _, _, _, _, (show decode cX12_heard 7 = .ok (.invokevirtual 162, 3) by decide +kernel), xw_1917, xw_1919, xw_52, rfl⟩⟩),
  List.forall_mem_cons.mpr ⟨(xOK_pure (xs_if_eq (show decode cX12_heard 10 = .ok (.ifCond .eq 32, 3) by decide +kernel) (by decide))),
  List.forall_mem_cons.mpr ⟨(xOK_pure (xs_aload_n (k := 0) rfl (show decode cX12_heard 13 = .ok (.aload_n 0, 1) by decide +kernel))),
  List.forall_mem_cons.mpr ⟨(xOK_pure (xs_iload_n (k := 2) rfl (show decode cX12_heard 14 = .ok (.iload_n 2, 1) by decide +kernel))),
  List.forall_mem_cons.mpr ⟨(xcm mi_191 ⟨⟨(by decide +kernel), (by decide +kernel), (by decide +kernel)⟩, (by decide), xw_1933, xw_125, Or.inl ⟨rfl, _, _, _, _, (show decode cX12_heard 15 = .ok (.invokevirtual 172, 3) by decide +kernel), xw_1930, xw_1932, xw_53, rfl⟩⟩),
  List.forall_mem_cons.mpr ⟨(xOK_pure (xs_if_eq (show decode cX12_heard 18 = .ok (.ifCond .eq 24, 3) by decide +kernel) (by decide))),
  List.forall_mem_cons.mpr ⟨(xOK_pure (xs_iload_n (k := 3) rfl (show decode cX12_heard 21 = .ok (.iload_n 3, 1) by decide +kernel))),
  List.forall_mem_cons.mpr ⟨(xOK_pure (xs_iconst (n := 0) (show decode cX12_heard 22 = .ok (.iconst 0, 1) by decide +kernel) (by decide))),
  List.forall_mem_cons.mpr ⟨(xOK_pure (xs_sipush (n := 3000) (show decode cX12_heard 23 = .ok (.sipush 3000, 3) by decide +kernel) (by decide))),
  List.forall_mem_cons.mpr ⟨(xcm mi_188 ⟨⟨(by decide +kernel), (by decide +kernel), (by decide +kernel)⟩, (by decide), xw_1912, xw_125, Or.inr (Or.inl ⟨rfl, _, (show decode cX12_heard 26 = .ok (.invokestatic 146, 3) by decide +kernel), xw_1910, xw_1911⟩)⟩),
  List.forall_mem_cons.mpr ⟨(xOK_pure (xs_if_eq (show decode cX12_heard 29 = .ok (.ifCond .eq 13, 3) by decide +kernel) (by decide))),
  List.forall_mem_cons.mpr ⟨(xOK_pure (xs_iload (show decode cX12_heard 32 = .ok (.iload 4, 2) by decide +kernel))),
  List.forall_mem_cons.mpr ⟨(xOK_pure (xs_iconst (n := 0) (show decode cX12_heard 34 = .ok (.iconst 0, 1) by decide +kernel) (by decide))),
  List.forall_mem_cons.mpr ⟨(xOK_pure (xs_iconst (n := 2) (show decode cX12_heard 35 = .ok (.iconst 2, 1) by decide +kernel) (by decide))),
  List.forall_mem_cons.mpr ⟨(xcm mi_188 ⟨⟨(by decide +kernel), (by decide +kernel), (by decide +kernel)⟩, (by decide), xw_1912, xw_125, Or.inr (Or.inl ⟨rfl, _, (show decode cX12_heard 36 = .ok (.invokestatic 146, 3) by decide +kernel), xw_1910, xw_1911⟩)⟩),
  (fun _ h => absurd h List.not_mem_nil)⟩⟩⟩⟩⟩⟩⟩⟩⟩⟩⟩⟩⟩⟩⟩⟩⟩⟩⟩⟩
def pX12_heard_1 (ev : xEv) : List (Nat × xEn) := [(39, .inl (xop (xf_if_ne 47))), (42, .inl (xop (xf_aload 0 1))), (43, .inr (.inl (0, 189, 0, 12))), (46, .inr (.inr 1)), (47, .inl (xop (xf_aload 0 1))), (48, .inl (xop (xf_iload 1 1))), (49, .inl (xop (xf_iload 2 1))), (50, .inl (xop (xf_iload 3 1))), (51, .inr (.inl (0, 217, 3, 12))), (54, .inl (xop (xf_istore 5 2))), (56, .inl (xop (xf_iload 5 2))), (58, .inl (xop (xf_push (.int (-1)) 1))), (59, .inl (xop (xf_icmp_ne 67))), (62, .inl (xop (xf_aload 0 1))), (63, .inr (.inl (0, 189, 0, 12))), (66, .inr (.inr 1)), (67, .inl (xop (xf_aload 0 1))), (68, .inl (xop (xf_getf 12 48))), (71, .inl (xop (xf_iload 5 2))), (73, .inl (xop (xf_iload 4 2)))]
set_option maxRecDepth 20000 in
theorem okpX12_heard_1 (ev : xEv) : ∀ q ∈ pX12_heard_1 ev, xEnOK ev xmi yX12_heard.cls yX12_heard.name cX12_heard 6 (some .int) q :=
  List.forall_mem_cons.mpr ⟨(xOK_pure (xs_if_ne (show decode cX12_heard 39 = .ok (.ifCond .ne 8, 3) by decide +kernel) (by decide))),
  List.forall_mem_cons.mpr ⟨(xOK_pure (xs_aload_n (k := 0) rfl (show decode cX12_heard 42 = .ok (.aload_n 0, 1) by decide +kernel))),
  List.forall_mem_cons.mpr ⟨(xcm mi_189 ⟨⟨(by decide +kernel), (by decide +kernel), (by decide +kernel)⟩, (by decide), xw_1949, xw_125, Or.inl ⟨rfl, _, _, _, _, (show decode cX12_heard 43 = .ok (.invokevirtual 181, 3) by decide +kernel), xw_1946, xw_1948, xw_54, rfl⟩⟩),
  List.forall_mem_cons.mpr ⟨(Or.inr (Or.inl ⟨rfl, (show decode cX12_heard 46 = .ok (.ireturn, 1) by decide +kernel), rfl⟩)),
  List.forall_mem_cons.mpr ⟨(xOK_pure (xs_aload_n (k := 0) rfl (show decode cX12_heard 47 = .ok (.aload_n 0, 1) by decide +kernel))),
  List.forall_mem_cons.mpr ⟨(xOK_pure (xs_iload_n (k := 1) rfl (show decode cX12_heard 48 = .ok (.iload_n 1, 1) by decide +kernel))),
  List.forall_mem_cons.mpr ⟨(xOK_pure (xs_iload_n (k := 2) rfl (show decode cX12_heard 49 = .ok (.iload_n 2, 1) by decide +kernel))),
  List.forall_mem_cons.mpr ⟨(xOK_pure (xs_iload_n (k := 3) rfl (show decode cX12_heard 50 = .ok (.iload_n 3, 1) by decide +kernel))),
  List.forall_mem_cons.mpr ⟨(xcm mi_217 ⟨⟨(by decide +kernel), (by decide +kernel), (by decide +kernel)⟩, (by decide), xw_1977, xw_125, Or.inl ⟨rfl, _, _, _, _, (show decode cX12_heard 51 = .ok (.invokevirtual 195, 3) by decide +kernel), xw_1974, xw_1976, xw_59, rfl⟩⟩),
  List.forall_mem_cons.mpr ⟨(xOK_pure (xs_istore (show decode cX12_heard 54 = .ok (.istore 5, 2) by decide +kernel) (by decide))),
  List.forall_mem_cons.mpr ⟨(xOK_pure (xs_iload (show decode cX12_heard 56 = .ok (.iload 5, 2) by decide +kernel))),
  List.forall_mem_cons.mpr ⟨(xOK_pure (xs_iconst (n := (-1)) (show decode cX12_heard 58 = .ok (.iconst (-1), 1) by decide +kernel) (by decide))),
  List.forall_mem_cons.mpr ⟨(xOK_pure (xs_icmp_ne (show decode cX12_heard 59 = .ok (.if_icmp .ne 8, 3) by decide +kernel) (by decide))),
  List.forall_mem_cons.mpr ⟨(xOK_pure (xs_aload_n (k := 0) rfl (show decode cX12_heard 62 = .ok (.aload_n 0, 1) by decide +kernel))),
  List.forall_mem_cons.mpr ⟨(xcm mi_189 ⟨⟨(by decide +kernel), (by decide +kernel), (by decide +kernel)⟩, (by decide), xw_1949, xw_125, Or.inl ⟨rfl, _, _, _, _, (show decode cX12_heard 63 = .ok (.invokevirtual 181, 3) by decide +kernel), xw_1946, xw_1948, xw_54, rfl⟩⟩),
  List.forall_mem_cons.mpr ⟨(Or.inr (Or.inl ⟨rfl, (show decode cX12_heard 66 = .ok (.ireturn, 1) by decide +kernel), rfl⟩)),
  List.forall_mem_cons.mpr ⟨(xOK_pure (xs_aload_n (k := 0) rfl (show decode cX12_heard 67 = .ok (.aload_n 0, 1) by decide +kernel))),
  List.forall_mem_cons.mpr ⟨(xOK_pure (xs_getf xcl_12 (by decide) (show decode cX12_heard 68 = .ok (.getfield 121, 3) by decide +kernel) xw_1757)),
  List.forall_mem_cons.mpr ⟨(xOK_pure (xs_iload (show decode cX12_heard 71 = .ok (.iload 5, 2) by decide +kernel))),
  List.forall_mem_cons.mpr ⟨(xOK_pure (xs_iload (show decode cX12_heard 73 = .ok (.iload 4, 2) by decide +kernel))),
  (fun _ h => absurd h List.not_mem_nil)⟩⟩⟩⟩⟩⟩⟩⟩⟩⟩⟩⟩⟩⟩⟩⟩⟩⟩⟩⟩
def pX12_heard_2 (ev : xEv) : List (Nat × xEn) := [(75, .inl (xop (xf_if_ne 82))), (78, .inl (xop (xf_push (.int 1) 1))), (79, .inl (xop (xf_goto 93))), (82, .inl (xop (xf_iload 4 2))), (84, .inl (xop (xf_push (.int 1) 1))), (85, .inl (xop (xf_icmp_ne 92))), (88, .inl (xop (xf_push (.int 2) 1))), (89, .inl (xop (xf_goto 93))), (92, .inl (xop (xf_push (.int 3) 1))), (93, .inl (xop (xf_bin (fun x y => x + y)))), (94, .inl (xop (xf_ald (ev.1 0)))), (95, .inr (.inr 1))]
set_option maxRecDepth 20000 in
theorem okpX12_heard_2 (ev : xEv) : ∀ q ∈ pX12_heard_2 ev, xEnOK ev xmi yX12_heard.cls yX12_heard.name cX12_heard 6 (some .int) q :=
  List.forall_mem_cons.mpr ⟨(xOK_pure (xs_if_ne (show decode cX12_heard 75 = .ok (.ifCond .ne 7, 3) by decide +kernel) (by decide))),
  List.forall_mem_cons.mpr ⟨(xOK_pure (xs_iconst (n := 1) (show decode cX12_heard 78 = .ok (.iconst 1, 1) by decide +kernel) (by decide))),
  List.forall_mem_cons.mpr ⟨(xOK_pure (xs_goto (show decode cX12_heard 79 = .ok (.goto 14, 3) by decide +kernel) (by decide))),
  List.forall_mem_cons.mpr ⟨(xOK_pure (xs_iload (show decode cX12_heard 82 = .ok (.iload 4, 2) by decide +kernel))),
  List.forall_mem_cons.mpr ⟨(xOK_pure (xs_iconst (n := 1) (show decode cX12_heard 84 = .ok (.iconst 1, 1) by decide +kernel) (by decide))),
  List.forall_mem_cons.mpr ⟨(xOK_pure (xs_icmp_ne (show decode cX12_heard 85 = .ok (.if_icmp .ne 7, 3) by decide +kernel) (by decide))),
  List.forall_mem_cons.mpr ⟨(xOK_pure (xs_iconst (n := 2) (show decode cX12_heard 88 = .ok (.iconst 2, 1) by decide +kernel) (by decide))),
  List.forall_mem_cons.mpr ⟨(xOK_pure (xs_goto (show decode cX12_heard 89 = .ok (.goto 4, 3) by decide +kernel) (by decide))),
  List.forall_mem_cons.mpr ⟨(xOK_pure (xs_iconst (n := 3) (show decode cX12_heard 92 = .ok (.iconst 3, 1) by decide +kernel) (by decide))),
  List.forall_mem_cons.mpr ⟨(xOK_pure (xs_iadd (show decode cX12_heard 93 = .ok (.iadd, 1) by decide +kernel))),
  List.forall_mem_cons.mpr ⟨(xOK_pure (xs_iald (show decode cX12_heard 94 = .ok (.iaload, 1) by decide +kernel))),
  List.forall_mem_cons.mpr ⟨(Or.inr (Or.inl ⟨rfl, (show decode cX12_heard 95 = .ok (.ireturn, 1) by decide +kernel), rfl⟩)),
  (fun _ h => absurd h List.not_mem_nil)⟩⟩⟩⟩⟩⟩⟩⟩⟩⟩⟩⟩
def pX12_heard (ev : xEv) : List (Nat × xEn) := pX12_heard_0 ev ++ (pX12_heard_1 ev ++ (pX12_heard_2 ev))
theorem okpX12_heard (ev : xEv) : ∀ q ∈ pX12_heard ev, xEnOK ev xmi yX12_heard.cls yX12_heard.name cX12_heard 6 (some .int) q := List.forall_mem_append.mpr ⟨okpX12_heard_0 ev, List.forall_mem_append.mpr ⟨okpX12_heard_1 ev, okpX12_heard_2 ev⟩⟩
theorem omX12_heard (ev : xEv) : xMethOK ev xmi yX12_heard.cls yX12_heard.name 218 (pX12_heard ev) := xMethOK.of mi_218 (by decide +kernel) (okpX12_heard ev)
def pX12_plane___0 (ev : xEv) : List (Nat × xEn) := [(0, .inl (xop (xf_aload 0 1))), (1, .inl (xop (xf_push (.int 0) 1))), (2, .inl (xo_putf 12 47 .int)), (5, .inl (xop (xf_aload 0 1))), (6, .inl (xop (xf_iload 1 1))), (7, .inr (.inl (0, 190, 1, 12))), (10, .inl (xop (xf_if_eq 68))), (13, .inl (xop (xf_iload 2 1))), (14, .inl (xop (xf_push (.int 5) 1))), (15, .inl (xop (xf_push (.int 60) 2))), (17, .inr (.inl (1, 188, 3, 12))), (20, .inl (xop (xf_if_eq 68))), (23, .inl (xop (xf_iload 3 1))), (24, .inl (xop (xf_push (.int 50) 2))), (26, .inl (xop (xf_push (.int 3000) 3))), (29, .inr (.inl (1, 188, 3, 12))), (32, .inl (xop (xf_if_eq 68))), (35, .inl (xop (xf_iload 4 2))), (37, .inl (xop (xf_push (.int 20) 2))), (39, .inl (xop (xf_push (.int 250) 3)))]
set_option maxRecDepth 20000 in
theorem okpX12_plane___0 (ev : xEv) : ∀ q ∈ pX12_plane___0 ev, xEnOK ev xmi yX12_plane__.cls yX12_plane__.name cX12_plane__ 8 (some .int) q :=
  List.forall_mem_cons.mpr ⟨(xOK_pure (xs_aload_n (k := 0) rfl (show decode cX12_plane__ 0 = .ok (.aload_n 0, 1) by decide +kernel))),
  List.forall_mem_cons.mpr ⟨(xOK_pure (xs_iconst (n := 0) (show decode cX12_plane__ 1 = .ok (.iconst 0, 1) by decide +kernel) (by decide))),
  List.forall_mem_cons.mpr ⟨(xs_putf (k := 47) xcl_12 (by decide) rfl (show decode cX12_plane__ 2 = .ok (.putfield 140, 3) by decide +kernel) xw_1756),
  List.forall_mem_cons.mpr ⟨(xOK_pure (xs_aload_n (k := 0) rfl (show decode cX12_plane__ 5 = .ok (.aload_n 0, 1) by decide +kernel))),
  List.forall_mem_cons.mpr ⟨(xOK_pure (xs_iload_n (k := 1) rfl (show decode cX12_plane__ 6 = .ok (.iload_n 1, 1) by decide +kernel))),
  List.forall_mem_cons.mpr ⟨(xcm mi_190 ⟨⟨(by decide +kernel), (by decide +kernel), (by decide +kernel)⟩, (by decide), xw_1920, xw_125, Or.inl ⟨rfl, _, _, _, _, (show decode cX12_plane__ 7 = .ok (.invokevirtual 162, 3) by decide +kernel), xw_1917, xw_1919, xw_52, rfl⟩⟩),
  List.forall_mem_cons.mpr ⟨(xOK_pure (xs_if_eq (show decode cX12_plane__ 10 = .ok (.ifCond .eq 58, 3) by decide +kernel) (by decide))),
  List.forall_mem_cons.mpr ⟨(xOK_pure (xs_iload_n (k := 2) rfl (show decode cX12_plane__ 13 = .ok (.iload_n 2, 1) by decide +kernel))),
  List.forall_mem_cons.mpr ⟨(xOK_pure (xs_iconst (n := 5) (show decode cX12_plane__ 14 = .ok (.iconst 5, 1) by decide +kernel) (by decide))),
  List.forall_mem_cons.mpr ⟨(xOK_pure (xs_bipush (n := 60) (show decode cX12_plane__ 15 = .ok (.bipush 60, 2) by decide +kernel) (by decide))),
  List.forall_mem_cons.mpr ⟨(xcm mi_188 ⟨⟨(by decide +kernel), (by decide +kernel), (by decide +kernel)⟩, (by decide), xw_1912, xw_125, Or.inr (Or.inl ⟨rfl, _, (show decode cX12_plane__ 17 = .ok (.invokestatic 146, 3) by decide +kernel), xw_1910, xw_1911⟩)⟩),
  List.forall_mem_cons.mpr ⟨(xOK_pure (xs_if_eq (show decode cX12_plane__ 20 = .ok (.ifCond .eq 48, 3) by decide +kernel) (by decide))),
  List.forall_mem_cons.mpr ⟨(xOK_pure (xs_iload_n (k := 3) rfl (show decode cX12_plane__ 23 = .ok (.iload_n 3, 1) by decide +kernel))),
  List.forall_mem_cons.mpr ⟨(xOK_pure (xs_bipush (n := 50) (show decode cX12_plane__ 24 = .ok (.bipush 50, 2) by decide +kernel) (by decide))),
  List.forall_mem_cons.mpr ⟨(xOK_pure (xs_sipush (n := 3000) (show decode cX12_plane__ 26 = .ok (.sipush 3000, 3) by decide +kernel) (by decide))),
  List.forall_mem_cons.mpr ⟨(xcm mi_188 ⟨⟨(by decide +kernel), (by decide +kernel), (by decide +kernel)⟩, (by decide), xw_1912, xw_125, Or.inr (Or.inl ⟨rfl, _, (show decode cX12_plane__ 29 = .ok (.invokestatic 146, 3) by decide +kernel), xw_1910, xw_1911⟩)⟩),
  List.forall_mem_cons.mpr ⟨(xOK_pure (xs_if_eq (show decode cX12_plane__ 32 = .ok (.ifCond .eq 36, 3) by decide +kernel) (by decide))),
  List.forall_mem_cons.mpr ⟨(xOK_pure (xs_iload (show decode cX12_plane__ 35 = .ok (.iload 4, 2) by decide +kernel))),
  List.forall_mem_cons.mpr ⟨(xOK_pure (xs_bipush (n := 20) (show decode cX12_plane__ 37 = .ok (.bipush 20, 2) by decide +kernel) (by decide))),
  List.forall_mem_cons.mpr ⟨(xOK_pure (xs_sipush (n := 250) (show decode cX12_plane__ 39 = .ok (.sipush 250, 3) by decide +kernel) (by decide))),
  (fun _ h => absurd h List.not_mem_nil)⟩⟩⟩⟩⟩⟩⟩⟩⟩⟩⟩⟩⟩⟩⟩⟩⟩⟩⟩⟩
def pX12_plane___1 (ev : xEv) : List (Nat × xEn) := [(42, .inr (.inl (1, 188, 3, 12))), (45, .inl (xop (xf_if_eq 68))), (48, .inl (xop (xf_iload 5 2))), (50, .inl (xop (xf_push (.int 1) 1))), (51, .inl (xop (xf_push (.int 60) 2))), (53, .inr (.inl (1, 188, 3, 12))), (56, .inl (xop (xf_if_eq 68))), (59, .inl (xop (xf_aload 0 1))), (60, .inl (xop (xf_getf 12 21))), (63, .inl (xop (xf_push (.int 8) 2))), (65, .inl (xop (xf_icmp_ne 70))), (68, .inl (xop (xf_push (.int (-1)) 1))), (69, .inr (.inr 1)), (70, .inl (xop (xf_aload 0 1))), (71, .inl (xop (xf_getf 12 16))), (74, .inl (xop (xf_aload 0 1))), (75, .inl (xop (xf_getf 12 21))), (78, .inl (xop (xf_iload 2 1))), (79, .inl (xo_ast (ev.1 0) (fun x => x))), (80, .inl (xop (xf_aload 0 1)))]
set_option maxRecDepth 20000 in
theorem okpX12_plane___1 (ev : xEv) : ∀ q ∈ pX12_plane___1 ev, xEnOK ev xmi yX12_plane__.cls yX12_plane__.name cX12_plane__ 8 (some .int) q :=
  List.forall_mem_cons.mpr ⟨(xcm mi_188 ⟨⟨(by decide +kernel), (by decide +kernel), (by decide +kernel)⟩, (by decide), xw_1912, xw_125, Or.inr (Or.inl ⟨rfl, _, (show decode cX12_plane__ 42 = .ok (.invokestatic 146, 3) by decide +kernel), xw_1910, xw_1911⟩)⟩),
  List.forall_mem_cons.mpr ⟨(xOK_pure (xs_if_eq (show decode cX12_plane__ 45 = .ok (.ifCond .eq 23, 3) by decide +kernel) (by decide))),
  List.forall_mem_cons.mpr ⟨(xOK_pure (xs_iload (show decode cX12_plane__ 48 = .ok (.iload 5, 2) by decide +kernel))),
  List.forall_mem_cons.mpr ⟨(xOK_pure (xs_iconst (n := 1) (show decode cX12_plane__ 50 = .ok (.iconst 1, 1) by decide +kernel) (by decide))),
  List.forall_mem_cons.mpr ⟨(xOK_pure (xs_bipush (n := 60) (show decode cX12_plane__ 51 = .ok (.bipush 60, 2) by decide +kernel) (by decide))),
  List.forall_mem_cons.mpr ⟨(xcm mi_188 ⟨⟨(by decide +kernel), (by decide +kernel), (by decide +kernel)⟩, (by decide), xw_1912, xw_125, Or.inr (Or.inl ⟨rfl, _, (show decode cX12_plane__ 53 = .ok (.invokestatic 146, 3) by decide +kernel), xw_1910, xw_1911⟩)⟩),
  List.forall_mem_cons.mpr ⟨(xOK_pure (xs_if_eq (show decode cX12_plane__ 56 = .ok (.ifCond .eq 12, 3) by decide +kernel) (by decide))),
  List.forall_mem_cons.mpr ⟨(xOK_pure (xs_aload_n (k := 0) rfl (show decode cX12_plane__ 59 = .ok (.aload_n 0, 1) by decide +kernel))),
  List.forall_mem_cons.mpr ⟨(xOK_pure (xs_getf xcl_12 (by decide) (show decode cX12_plane__ 60 = .ok (.getfield 153, 3) by decide +kernel) xw_1730)),
  List.forall_mem_cons.mpr ⟨(xOK_pure (xs_bipush (n := 8) (show decode cX12_plane__ 63 = .ok (.bipush 8, 2) by decide +kernel) (by decide))),
  List.forall_mem_cons.mpr ⟨(xOK_pure (xs_icmp_ne (show decode cX12_plane__ 65 = .ok (.if_icmp .ne 5, 3) by decide +kernel) (by decide))),
  List.forall_mem_cons.mpr ⟨(xOK_pure (xs_iconst (n := (-1)) (show decode cX12_plane__ 68 = .ok (.iconst (-1), 1) by decide +kernel) (by decide))),
  List.forall_mem_cons.mpr ⟨(Or.inr (Or.inl ⟨rfl, (show decode cX12_plane__ 69 = .ok (.ireturn, 1) by decide +kernel), rfl⟩)),
  List.forall_mem_cons.mpr ⟨(xOK_pure (xs_aload_n (k := 0) rfl (show decode cX12_plane__ 70 = .ok (.aload_n 0, 1) by decide +kernel))),
  List.forall_mem_cons.mpr ⟨(xOK_pure (xs_getf xcl_12 (by decide) (show decode cX12_plane__ 71 = .ok (.getfield 49, 3) by decide +kernel) xw_1725)),
  List.forall_mem_cons.mpr ⟨(xOK_pure (xs_aload_n (k := 0) rfl (show decode cX12_plane__ 74 = .ok (.aload_n 0, 1) by decide +kernel))),
  List.forall_mem_cons.mpr ⟨(xOK_pure (xs_getf xcl_12 (by decide) (show decode cX12_plane__ 75 = .ok (.getfield 153, 3) by decide +kernel) xw_1730)),
  List.forall_mem_cons.mpr ⟨(xOK_pure (xs_iload_n (k := 2) rfl (show decode cX12_plane__ 78 = .ok (.iload_n 2, 1) by decide +kernel))),
  List.forall_mem_cons.mpr ⟨(xs_iast (show decode cX12_plane__ 79 = .ok (.iastore, 1) by decide +kernel)),
  List.forall_mem_cons.mpr ⟨(xOK_pure (xs_aload_n (k := 0) rfl (show decode cX12_plane__ 80 = .ok (.aload_n 0, 1) by decide +kernel))),
  (fun _ h => absurd h List.not_mem_nil)⟩⟩⟩⟩⟩⟩⟩⟩⟩⟩⟩⟩⟩⟩⟩⟩⟩⟩⟩⟩
def pX12_plane___2 (ev : xEv) : List (Nat × xEn) := [(81, .inl (xop (xf_getf 12 17))), (84, .inl (xop (xf_aload 0 1))), (85, .inl (xop (xf_getf 12 21))), (88, .inl (xop (xf_iload 3 1))), (89, .inl (xo_ast (ev.1 0) (fun x => x))), (90, .inl (xop (xf_aload 0 1))), (91, .inl (xop (xf_getf 12 18))), (94, .inl (xop (xf_aload 0 1))), (95, .inl (xop (xf_getf 12 21))), (98, .inl (xop (xf_iload 4 2))), (100, .inl (xo_ast (ev.1 0) (fun x => x))), (101, .inl (xop (xf_aload 0 1))), (102, .inl (xop (xf_getf 12 19))), (105, .inl (xop (xf_aload 0 1))), (106, .inl (xop (xf_getf 12 21))), (109, .inl (xop (xf_iload 5 2))), (111, .inl (xo_ast (ev.1 0) (fun x => x))), (112, .inl (xop (xf_aload 0 1))), (113, .inl (xop (xf_getf 12 20))), (116, .inl (xop (xf_aload 0 1)))]
set_option maxRecDepth 20000 in
theorem okpX12_plane___2 (ev : xEv) : ∀ q ∈ pX12_plane___2 ev, xEnOK ev xmi yX12_plane__.cls yX12_plane__.name cX12_plane__ 8 (some .int) q :=
  List.forall_mem_cons.mpr ⟨(xOK_pure (xs_getf xcl_12 (by decide) (show decode cX12_plane__ 81 = .ok (.getfield 52, 3) by decide +kernel) xw_1726)),
  List.forall_mem_cons.mpr ⟨(xOK_pure (xs_aload_n (k := 0) rfl (show decode cX12_plane__ 84 = .ok (.aload_n 0, 1) by decide +kernel))),
  List.forall_mem_cons.mpr ⟨(xOK_pure (xs_getf xcl_12 (by decide) (show decode cX12_plane__ 85 = .ok (.getfield 153, 3) by decide +kernel) xw_1730)),
  List.forall_mem_cons.mpr ⟨(xOK_pure (xs_iload_n (k := 3) rfl (show decode cX12_plane__ 88 = .ok (.iload_n 3, 1) by decide +kernel))),
  List.forall_mem_cons.mpr ⟨(xs_iast (show decode cX12_plane__ 89 = .ok (.iastore, 1) by decide +kernel)),
  List.forall_mem_cons.mpr ⟨(xOK_pure (xs_aload_n (k := 0) rfl (show decode cX12_plane__ 90 = .ok (.aload_n 0, 1) by decide +kernel))),
  List.forall_mem_cons.mpr ⟨(xOK_pure (xs_getf xcl_12 (by decide) (show decode cX12_plane__ 91 = .ok (.getfield 55, 3) by decide +kernel) xw_1727)),
  List.forall_mem_cons.mpr ⟨(xOK_pure (xs_aload_n (k := 0) rfl (show decode cX12_plane__ 94 = .ok (.aload_n 0, 1) by decide +kernel))),
  List.forall_mem_cons.mpr ⟨(xOK_pure (xs_getf xcl_12 (by decide) (show decode cX12_plane__ 95 = .ok (.getfield 153, 3) by decide +kernel) xw_1730)),
  List.forall_mem_cons.mpr ⟨(xOK_pure (xs_iload (show decode cX12_plane__ 98 = .ok (.iload 4, 2) by decide +kernel))),
  List.forall_mem_cons.mpr ⟨(xs_iast (show decode cX12_plane__ 100 = .ok (.iastore, 1) by decide +kernel)),
  List.forall_mem_cons.mpr ⟨(xOK_pure (xs_aload_n (k := 0) rfl (show decode cX12_plane__ 101 = .ok (.aload_n 0, 1) by decide +kernel))),
  List.forall_mem_cons.mpr ⟨(xOK_pure (xs_getf xcl_12 (by decide) (show decode cX12_plane__ 102 = .ok (.getfield 58, 3) by decide +kernel) xw_1728)),
  List.forall_mem_cons.mpr ⟨(xOK_pure (xs_aload_n (k := 0) rfl (show decode cX12_plane__ 105 = .ok (.aload_n 0, 1) by decide +kernel))),
  List.forall_mem_cons.mpr ⟨(xOK_pure (xs_getf xcl_12 (by decide) (show decode cX12_plane__ 106 = .ok (.getfield 153, 3) by decide +kernel) xw_1730)),
  List.forall_mem_cons.mpr ⟨(xOK_pure (xs_iload (show decode cX12_plane__ 109 = .ok (.iload 5, 2) by decide +kernel))),
  List.forall_mem_cons.mpr ⟨(xs_iast (show decode cX12_plane__ 111 = .ok (.iastore, 1) by decide +kernel)),
  List.forall_mem_cons.mpr ⟨(xOK_pure (xs_aload_n (k := 0) rfl (show decode cX12_plane__ 112 = .ok (.aload_n 0, 1) by decide +kernel))),
  List.forall_mem_cons.mpr ⟨(xOK_pure (xs_getf xcl_12 (by decide) (show decode cX12_plane__ 113 = .ok (.getfield 61, 3) by decide +kernel) xw_1729)),
  List.forall_mem_cons.mpr ⟨(xOK_pure (xs_aload_n (k := 0) rfl (show decode cX12_plane__ 116 = .ok (.aload_n 0, 1) by decide +kernel))),
  (fun _ h => absurd h List.not_mem_nil)⟩⟩⟩⟩⟩⟩⟩⟩⟩⟩⟩⟩⟩⟩⟩⟩⟩⟩⟩⟩
def pX12_plane___3 (ev : xEv) : List (Nat × xEn) := [(117, .inl (xop (xf_getf 12 21))), (120, .inl (xop (xf_iload 6 2))), (122, .inl (xo_ast (ev.1 2) (vp_nar .boolean))), (123, .inl (xop (xf_push (.int 0) 1))), (124, .inl (xop (xf_istore 7 2))), (126, .inl (xop (xf_iload 7 2))), (128, .inl (xop (xf_push (.int 23) 2))), (130, .inl (xop (xf_icmp_ge 150))), (133, .inl (xop (xf_aload 0 1))), (134, .inl (xop (xf_aload 0 1))), (135, .inl (xop (xf_getf 12 21))), (138, .inl (xop (xf_iload 7 2))), (140, .inl (xop (xf_push (.int 0) 1))), (141, .inr (.inl (0, 196, 3, 12))), (144, .inl (xop (xf_iinc 7 1))), (147, .inl (xop (xf_goto 126))), (150, .inl (xop (xf_aload 0 1))), (151, .inl (xop (xf_aload 0 1))), (152, .inl (xop (xf_getf 12 21))), (155, .inl (xop (xf_push (.int 0) 1)))]
set_option maxRecDepth 20000 in
theorem okpX12_plane___3 (ev : xEv) : ∀ q ∈ pX12_plane___3 ev, xEnOK ev xmi yX12_plane__.cls yX12_plane__.name cX12_plane__ 8 (some .int) q :=
  List.forall_mem_cons.mpr ⟨(xOK_pure (xs_getf xcl_12 (by decide) (show decode cX12_plane__ 117 = .ok (.getfield 153, 3) by decide +kernel) xw_1730)),
  List.forall_mem_cons.mpr ⟨(xOK_pure (xs_iload (show decode cX12_plane__ 120 = .ok (.iload 6, 2) by decide +kernel))),
  List.forall_mem_cons.mpr ⟨(xs_zast (show decode cX12_plane__ 122 = .ok (.bastore, 1) by decide +kernel)),
  List.forall_mem_cons.mpr ⟨(xOK_pure (xs_iconst (n := 0) (show decode cX12_plane__ 123 = .ok (.iconst 0, 1) by decide +kernel) (by decide))),
  List.forall_mem_cons.mpr ⟨(xOK_pure (xs_istore (show decode cX12_plane__ 124 = .ok (.istore 7, 2) by decide +kernel) (by decide))),
  List.forall_mem_cons.mpr ⟨(xOK_pure (xs_iload (show decode cX12_plane__ 126 = .ok (.iload 7, 2) by decide +kernel))),
  List.forall_mem_cons.mpr ⟨(xOK_pure (xs_bipush (n := 23) (show decode cX12_plane__ 128 = .ok (.bipush 23, 2) by decide +kernel) (by decide))),
  List.forall_mem_cons.mpr ⟨(xOK_pure (xs_icmp_ge (show decode cX12_plane__ 130 = .ok (.if_icmp .ge 20, 3) by decide +kernel) (by decide))),
  List.forall_mem_cons.mpr ⟨(xOK_pure (xs_aload_n (k := 0) rfl (show decode cX12_plane__ 133 = .ok (.aload_n 0, 1) by decide +kernel))),
  List.forall_mem_cons.mpr ⟨(xOK_pure (xs_aload_n (k := 0) rfl (show decode cX12_plane__ 134 = .ok (.aload_n 0, 1) by decide +kernel))),
  List.forall_mem_cons.mpr ⟨(xOK_pure (xs_getf xcl_12 (by decide) (show decode cX12_plane__ 135 = .ok (.getfield 153, 3) by decide +kernel) xw_1730)),
  List.forall_mem_cons.mpr ⟨(xOK_pure (xs_iload (show decode cX12_plane__ 138 = .ok (.iload 7, 2) by decide +kernel))),
  List.forall_mem_cons.mpr ⟨(xOK_pure (xs_iconst (n := 0) (show decode cX12_plane__ 140 = .ok (.iconst 0, 1) by decide +kernel) (by decide))),
  List.forall_mem_cons.mpr ⟨(xcm mi_196 ⟨⟨(by decide +kernel), (by decide +kernel), (by decide +kernel)⟩, (by decide), xw_1985, xw_125, Or.inl ⟨rfl, _, _, _, _, (show decode cX12_plane__ 141 = .ok (.invokevirtual 199, 3) by decide +kernel), xw_1982, xw_1984, xw_60, rfl⟩⟩),
  List.forall_mem_cons.mpr ⟨(xOK_pure (xs_iinc (n := 1) (show decode cX12_plane__ 144 = .ok (.iinc 7 1, 3) by decide +kernel) (by decide) (by decide))),
  List.forall_mem_cons.mpr ⟨(xOK_pure (xs_goto (show decode cX12_plane__ 147 = .ok (.goto (-21), 3) by decide +kernel) (by decide))),
  List.forall_mem_cons.mpr ⟨(xOK_pure (xs_aload_n (k := 0) rfl (show decode cX12_plane__ 150 = .ok (.aload_n 0, 1) by decide +kernel))),
  List.forall_mem_cons.mpr ⟨(xOK_pure (xs_aload_n (k := 0) rfl (show decode cX12_plane__ 151 = .ok (.aload_n 0, 1) by decide +kernel))),
  List.forall_mem_cons.mpr ⟨(xOK_pure (xs_getf xcl_12 (by decide) (show decode cX12_plane__ 152 = .ok (.getfield 153, 3) by decide +kernel) xw_1730)),
  List.forall_mem_cons.mpr ⟨(xOK_pure (xs_iconst (n := 0) (show decode cX12_plane__ 155 = .ok (.iconst 0, 1) by decide +kernel) (by decide))),
  (fun _ h => absurd h List.not_mem_nil)⟩⟩⟩⟩⟩⟩⟩⟩⟩⟩⟩⟩⟩⟩⟩⟩⟩⟩⟩⟩
def pX12_plane___4 (ev : xEv) : List (Nat × xEn) := [(156, .inl (xop (xf_iload 1 1))), (157, .inr (.inl (0, 196, 3, 12))), (160, .inl (xop (xf_aload 0 1))), (161, .inl (xop (xf_aload 0 1))), (162, .inl (xop (xf_getf 12 21))), (165, .inl (xop (xf_push (.int 1) 1))), (166, .inl (xop (xf_push (.int (-1)) 1))), (167, .inr (.inl (0, 196, 3, 12))), (170, .inl (xop (xf_aload 0 1))), (171, .inl (xop (xf_aload 0 1))), (172, .inl (xop (xf_getf 12 21))), (175, .inl (xop (xf_push (.int 2) 1))), (176, .inl (xop (xf_push (.int (-1)) 1))), (177, .inr (.inl (0, 196, 3, 12))), (180, .inl (xop (xf_aload 0 1))), (181, .inl (xop (xf_aload 0 1))), (182, .inl (xop (xf_getf 12 21))), (185, .inl (xop (xf_push (.int 6) 2))), (187, .inl (xop (xf_push (.int 400) 3))), (190, .inr (.inl (0, 196, 3, 12)))]
set_option maxRecDepth 20000 in
theorem okpX12_plane___4 (ev : xEv) : ∀ q ∈ pX12_plane___4 ev, xEnOK ev xmi yX12_plane__.cls yX12_plane__.name cX12_plane__ 8 (some .int) q :=
  List.forall_mem_cons.mpr ⟨(xOK_pure (xs_iload_n (k := 1) rfl (show decode cX12_plane__ 156 = .ok (.iload_n 1, 1) by decide +kernel))),
  List.forall_mem_cons.mpr ⟨(xcm mi_196 ⟨⟨(by decide +kernel), (by decide +kernel), (by decide +kernel)⟩, (by decide), xw_1985, xw_125, Or.inl ⟨rfl, _, _, _, _, (show decode cX12_plane__ 157 = .ok (.invokevirtual 199, 3) by decide +kernel), xw_1982, xw_1984, xw_60, rfl⟩⟩),
  List.forall_mem_cons.mpr ⟨(xOK_pure (xs_aload_n (k := 0) rfl (show decode cX12_plane__ 160 = .ok (.aload_n 0, 1) by decide +kernel))),
  List.forall_mem_cons.mpr ⟨(xOK_pure (xs_aload_n (k := 0) rfl (show decode cX12_plane__ 161 = .ok (.aload_n 0, 1) by decide +kernel))),
  List.forall_mem_cons.mpr ⟨(xOK_pure (xs_getf xcl_12 (by decide) (show decode cX12_plane__ 162 = .ok (.getfield 153, 3) by decide +kernel) xw_1730)),
  List.forall_mem_cons.mpr ⟨(xOK_pure (xs_iconst (n := 1) (show decode cX12_plane__ 165 = .ok (.iconst 1, 1) by decide +kernel) (by decide))),
  List.forall_mem_cons.mpr ⟨(xOK_pure (xs_iconst (n := (-1)) (show decode cX12_plane__ 166 = .ok (.iconst (-1), 1) by decide +kernel) (by decide))),
  List.forall_mem_cons.mpr ⟨(xcm mi_196 ⟨⟨(by decide +kernel), (by decide +kernel), (by decide +kernel)⟩, (by decide), xw_1985, xw_125, Or.inl ⟨rfl, _, _, _, _, (show decode cX12_plane__ 167 = .ok (.invokevirtual 199, 3) by decide +kernel), xw_1982, xw_1984, xw_60, rfl⟩⟩),
  List.forall_mem_cons.mpr ⟨(xOK_pure (xs_aload_n (k := 0) rfl (show decode cX12_plane__ 170 = .ok (.aload_n 0, 1) by decide +kernel))),
  List.forall_mem_cons.mpr ⟨(xOK_pure (xs_aload_n (k := 0) rfl (show decode cX12_plane__ 171 = .ok (.aload_n 0, 1) by decide +kernel))),
  List.forall_mem_cons.mpr ⟨(xOK_pure (xs_getf xcl_12 (by decide) (show decode cX12_plane__ 172 = .ok (.getfield 153, 3) by decide +kernel) xw_1730)),
  List.forall_mem_cons.mpr ⟨(xOK_pure (xs_iconst (n := 2) (show decode cX12_plane__ 175 = .ok (.iconst 2, 1) by decide +kernel) (by decide))),
  List.forall_mem_cons.mpr ⟨(xOK_pure (xs_iconst (n := (-1)) (show decode cX12_plane__ 176 = .ok (.iconst (-1), 1) by decide +kernel) (by decide))),
  List.forall_mem_cons.mpr ⟨(xcm mi_196 ⟨⟨(by decide +kernel), (by decide +kernel), (by decide +kernel)⟩, (by decide), xw_1985, xw_125, Or.inl ⟨rfl, _, _, _, _, (show decode cX12_plane__ 177 = .ok (.invokevirtual 199, 3) by decide +kernel), xw_1982, xw_1984, xw_60, rfl⟩⟩),
  List.forall_mem_cons.mpr ⟨(xOK_pure (xs_aload_n (k := 0) rfl (show decode cX12_plane__ 180 = .ok (.aload_n 0, 1) by decide +kernel))),
  List.forall_mem_cons.mpr ⟨(xOK_pure (xs_aload_n (k := 0) rfl (show decode cX12_plane__ 181 = .ok (.aload_n 0, 1) by decide +kernel))),
  List.forall_mem_cons.mpr ⟨(xOK_pure (xs_getf xcl_12 (by decide) (show decode cX12_plane__ 182 = .ok (.getfield 153, 3) by decide +kernel) xw_1730)),
  List.forall_mem_cons.mpr ⟨(xOK_pure (xs_bipush (n := 6) (show decode cX12_plane__ 185 = .ok (.bipush 6, 2) by decide +kernel) (by decide))),
  List.forall_mem_cons.mpr ⟨(xOK_pure (xs_sipush (n := 400) (show decode cX12_plane__ 187 = .ok (.sipush 400, 3) by decide +kernel) (by decide))),
  List.forall_mem_cons.mpr ⟨(xcm mi_196 ⟨⟨(by decide +kernel), (by decide +kernel), (by decide +kernel)⟩, (by decide), xw_1985, xw_125, Or.inl ⟨rfl, _, _, _, _, (show decode cX12_plane__ 190 = .ok (.invokevirtual 199, 3) by decide +kernel), xw_1982, xw_1984, xw_60, rfl⟩⟩),
  (fun _ h => absurd h List.not_mem_nil)⟩⟩⟩⟩⟩⟩⟩⟩⟩⟩⟩⟩⟩⟩⟩⟩⟩⟩⟩⟩
def pX12_plane___5 (ev : xEv) : List (Nat × xEn) := [(193, .inl (xop (xf_aload 0 1))), (194, .inl (xop (xf_aload 0 1))), (195, .inl (xop (xf_getf 12 21))), (198, .inl (xop (xf_push (.int 11) 2))), (200, .inl (xop (xf_push (.int (-1)) 1))), (201, .inr (.inl (0, 196, 3, 12))), (204, .inl (xop (xf_aload 0 1))), (205, .inl (xop (xf_aload 0 1))), (206, .inl (xop (xf_getf 12 21))), (209, .inl (xop (xf_push (.int 12) 2))), (211, .inl (xop (xf_push (.int (-1)) 1))), (212, .inr (.inl (0, 196, 3, 12))), (215, .inl (xop (xf_aload 0 1))), (216, .inl (xop xf_dup)), (217, .inl (xop (xf_getf 12 21))), (220, .inl (xop (xf_push (.int 1) 1))), (221, .inl (xop (xf_bin (fun x y => x + y)))), (222, .inl (xo_putf 12 21 .int)), (225, .inl (xop (xf_aload 0 1))), (226, .inl (xop (xf_getf 12 21)))]
set_option maxRecDepth 20000 in
theorem okpX12_plane___5 (ev : xEv) : ∀ q ∈ pX12_plane___5 ev, xEnOK ev xmi yX12_plane__.cls yX12_plane__.name cX12_plane__ 8 (some .int) q :=
  List.forall_mem_cons.mpr ⟨(xOK_pure (xs_aload_n (k := 0) rfl (show decode cX12_plane__ 193 = .ok (.aload_n 0, 1) by decide +kernel))),
  List.forall_mem_cons.mpr ⟨(xOK_pure (xs_aload_n (k := 0) rfl (show decode cX12_plane__ 194 = .ok (.aload_n 0, 1) by decide +kernel))),
  List.forall_mem_cons.mpr ⟨(xOK_pure (xs_getf xcl_12 (by decide) (show decode cX12_plane__ 195 = .ok (.getfield 153, 3) by decide +kernel) xw_1730)),
  List.forall_mem_cons.mpr ⟨(xOK_pure (xs_bipush (n := 11) (show decode cX12_plane__ 198 = .ok (.bipush 11, 2) by decide +kernel) (by decide))),
  List.forall_mem_cons.mpr ⟨(xOK_pure (xs_iconst (n := (-1)) (show decode cX12_plane__ 200 = .ok (.iconst (-1), 1) by decide +kernel) (by decide))),
  List.forall_mem_cons.mpr ⟨(xcm mi_196 ⟨⟨(by decide +kernel), (by decide +kernel), (by decide +kernel)⟩, (by decide), xw_1985, xw_125, Or.inl ⟨rfl, _, _, _, _, (show decode cX12_plane__ 201 = .ok (.invokevirtual 199, 3) by decide +kernel), xw_1982, xw_1984, xw_60, rfl⟩⟩),
  List.forall_mem_cons.mpr ⟨(xOK_pure (xs_aload_n (k := 0) rfl (show decode cX12_plane__ 204 = .ok (.aload_n 0, 1) by decide +kernel))),
  List.forall_mem_cons.mpr ⟨(xOK_pure (xs_aload_n (k := 0) rfl (show decode cX12_plane__ 205 = .ok (.aload_n 0, 1) by decide +kernel))),
  List.forall_mem_cons.mpr ⟨(xOK_pure (xs_getf xcl_12 (by decide) (show decode cX12_plane__ 206 = .ok (.getfield 153, 3) by decide +kernel) xw_1730)),
  List.forall_mem_cons.mpr ⟨(xOK_pure (xs_bipush (n := 12) (show decode cX12_plane__ 209 = .ok (.bipush 12, 2) by decide +kernel) (by decide))),
  List.forall_mem_cons.mpr ⟨(xOK_pure (xs_iconst (n := (-1)) (show decode cX12_plane__ 211 = .ok (.iconst (-1), 1) by decide +kernel) (by decide))),
  List.forall_mem_cons.mpr ⟨(xcm mi_196 ⟨⟨(by decide +kernel), (by decide +kernel), (by decide +kernel)⟩, (by decide), xw_1985, xw_125, Or.inl ⟨rfl, _, _, _, _, (show decode cX12_plane__ 212 = .ok (.invokevirtual 199, 3) by decide +kernel), xw_1982, xw_1984, xw_60, rfl⟩⟩),
  List.forall_mem_cons.mpr ⟨(xOK_pure (xs_aload_n (k := 0) rfl (show decode cX12_plane__ 215 = .ok (.aload_n 0, 1) by decide +kernel))),
  List.forall_mem_cons.mpr ⟨(xOK_pure (xs_dup (show decode cX12_plane__ 216 = .ok (.dup, 1) by decide +kernel))),
  List.forall_mem_cons.mpr ⟨(xOK_pure (xs_getf xcl_12 (by decide) (show decode cX12_plane__ 217 = .ok (.getfield 153, 3) by decide +kernel) xw_1730)),
  List.forall_mem_cons.mpr ⟨(xOK_pure (xs_iconst (n := 1) (show decode cX12_plane__ 220 = .ok (.iconst 1, 1) by decide +kernel) (by decide))),
  List.forall_mem_cons.mpr ⟨(xOK_pure (xs_iadd (show decode cX12_plane__ 221 = .ok (.iadd, 1) by decide +kernel))),
  List.forall_mem_cons.mpr ⟨(xs_putf (k := 21) xcl_12 (by decide) rfl (show decode cX12_plane__ 222 = .ok (.putfield 153, 3) by decide +kernel) xw_1730),
  List.forall_mem_cons.mpr ⟨(xOK_pure (xs_aload_n (k := 0) rfl (show decode cX12_plane__ 225 = .ok (.aload_n 0, 1) by decide +kernel))),
  List.forall_mem_cons.mpr ⟨(xOK_pure (xs_getf xcl_12 (by decide) (show decode cX12_plane__ 226 = .ok (.getfield 153, 3) by decide +kernel) xw_1730)),
  (fun _ h => absurd h List.not_mem_nil)⟩⟩⟩⟩⟩⟩⟩⟩⟩⟩⟩⟩⟩⟩⟩⟩⟩⟩⟩⟩
def pX12_plane___6 (ev : xEv) : List (Nat × xEn) := [(229, .inl (xop (xf_push (.int 1) 1))), (230, .inl (xop (xf_bin (fun x y => x - y)))), (231, .inr (.inr 1))]
set_option maxRecDepth 20000 in
theorem okpX12_plane___6 (ev : xEv) : ∀ q ∈ pX12_plane___6 ev, xEnOK ev xmi yX12_plane__.cls yX12_plane__.name cX12_plane__ 8 (some .int) q :=
  List.forall_mem_cons.mpr ⟨(xOK_pure (xs_iconst (n := 1) (show decode cX12_plane__ 229 = .ok (.iconst 1, 1) by decide +kernel) (by decide))),
  List.forall_mem_cons.mpr ⟨(xOK_pure (xs_isub (show decode cX12_plane__ 230 = .ok (.isub, 1) by decide +kernel))),
  List.forall_mem_cons.mpr ⟨(Or.inr (Or.inl ⟨rfl, (show decode cX12_plane__ 231 = .ok (.ireturn, 1) by decide +kernel), rfl⟩)),
  (fun _ h => absurd h List.not_mem_nil)⟩⟩⟩
def pX12_plane__ (ev : xEv) : List (Nat × xEn) := pX12_plane___0 ev ++ (pX12_plane___1 ev ++ (pX12_plane___2 ev ++ (pX12_plane___3 ev ++ (pX12_plane___4 ev ++ (pX12_plane___5 ev ++ (pX12_plane___6 ev))))))
theorem okpX12_plane__ (ev : xEv) : ∀ q ∈ pX12_plane__ ev, xEnOK ev xmi yX12_plane__.cls yX12_plane__.name cX12_plane__ 8 (some .int) q := List.forall_mem_append.mpr ⟨okpX12_plane___0 ev, List.forall_mem_append.mpr ⟨okpX12_plane___1 ev, List.forall_mem_append.mpr ⟨okpX12_plane___2 ev, List.forall_mem_append.mpr ⟨okpX12_plane___3 ev, List.forall_mem_append.mpr ⟨okpX12_plane___4 ev, List.forall_mem_append.mpr ⟨okpX12_plane___5 ev, okpX12_plane___6 ev⟩⟩⟩⟩⟩⟩
theorem omX12_plane__ (ev : xEv) : xMethOK ev xmi yX12_plane__.cls yX12_plane__.name 219 (pX12_plane__ ev) := xMethOK.of mi_219 (by decide +kernel) (okpX12_plane__ ev)
def pX12_engine_0 (ev : xEv) : List (Nat × xEn) := [(0, .inl (xop (xf_aload 0 1))), (1, .inl (xop (xf_push (.int 0) 1))), (2, .inl (xo_putf 12 47 .int)), (5, .inl (xop (xf_aload 0 1))), (6, .inl (xop (xf_iload 1 1))), (7, .inr (.inl (0, 192, 1, 12))), (10, .inl (xop (xf_if_eq 47))), (13, .inl (xop (xf_iload 2 1))), (14, .inl (xop (xf_push (.int 0) 1))), (15, .inl (xop (xf_push (.int 999) 3))), (18, .inr (.inl (1, 188, 3, 12))), (21, .inl (xop (xf_if_eq 47))), (24, .inl (xop (xf_iload 3 1))), (25, .inl (xop (xf_push (.int 1) 1))), (26, .inl (xop (xf_push (.int 999) 3))), (29, .inr (.inl (1, 188, 3, 12))), (32, .inl (xop (xf_if_eq 47))), (35, .inl (xop (xf_iload 4 2))), (37, .inl (xop (xf_push (.int 0) 1))), (38, .inl (xop (xf_push (.int 999) 3)))]
set_option maxRecDepth 20000 in
theorem okpX12_engine_0 (ev : xEv) : ∀ q ∈ pX12_engine_0 ev, xEnOK ev xmi yX12_engine.cls yX12_engine.name cX12_engine 5 (some .boolean) q :=
  List.forall_mem_cons.mpr ⟨(xOK_pure (xs_aload_n (k := 0) rfl (show decode cX12_engine 0 = .ok (.aload_n 0, 1) by decide +kernel))),
  List.forall_mem_cons.mpr ⟨(xOK_pure (xs_iconst (n := 0) (show decode cX12_engine 1 = .ok (.iconst 0, 1) by decide +kernel) (by decide))),
  List.forall_mem_cons.mpr ⟨(xs_putf (k := 47) xcl_12 (by decide) rfl (show decode cX12_engine 2 = .ok (.putfield 140, 3) by decide +kernel) xw_1756),
  List.forall_mem_cons.mpr ⟨(xOK_pure (xs_aload_n (k := 0) rfl (show decode cX12_engine 5 = .ok (.aload_n 0, 1) by decide +kernel))),
  List.forall_mem_cons.mpr ⟨(xOK_pure (xs_iload_n (k := 1) rfl (show decode cX12_engine 6 = .ok (.iload_n 1, 1) by decide +kernel))),
  List.forall_mem_cons.mpr ⟨(xcm mi_192 ⟨⟨(by decide +kernel), (by decide +kernel), (by decide +kernel)⟩, (by decide), xw_1993, xw_125, Or.inl ⟨rfl, _, _, _, _, (show decode cX12_engine 7 = .ok (.invokevirtual 203, 3) by decide +kernel), xw_1990, xw_1992, xw_61, rfl⟩⟩),
  List.forall_mem_cons.mpr ⟨(xOK_pure (xs_if_eq (show decode cX12_engine 10 = .ok (.ifCond .eq 37, 3) by decide +kernel) (by decide))),
  List.forall_mem_cons.mpr ⟨(xOK_pure (xs_iload_n (k := 2) rfl (show decode cX12_engine 13 = .ok (.iload_n 2, 1) by decide +kernel))),
  List.forall_mem_cons.mpr ⟨(xOK_pure (xs_iconst (n := 0) (show decode cX12_engine 14 = .ok (.iconst 0, 1) by decide +kernel) (by decide))),
  List.forall_mem_cons.mpr ⟨(xOK_pure (xs_sipush (n := 999) (show decode cX12_engine 15 = .ok (.sipush 999, 3) by decide +kernel) (by decide))),
  List.forall_mem_cons.mpr ⟨(xcm mi_188 ⟨⟨(by decide +kernel), (by decide +kernel), (by decide +kernel)⟩, (by decide), xw_1912, xw_125, Or.inr (Or.inl ⟨rfl, _, (show decode cX12_engine 18 = .ok (.invokestatic 146, 3) by decide +kernel), xw_1910, xw_1911⟩)⟩),
  List.forall_mem_cons.mpr ⟨(xOK_pure (xs_if_eq (show decode cX12_engine 21 = .ok (.ifCond .eq 26, 3) by decide +kernel) (by decide))),
  List.forall_mem_cons.mpr ⟨(xOK_pure (xs_iload_n (k := 3) rfl (show decode cX12_engine 24 = .ok (.iload_n 3, 1) by decide +kernel))),
  List.forall_mem_cons.mpr ⟨(xOK_pure (xs_iconst (n := 1) (show decode cX12_engine 25 = .ok (.iconst 1, 1) by decide +kernel) (by decide))),
  List.forall_mem_cons.mpr ⟨(xOK_pure (xs_sipush (n := 999) (show decode cX12_engine 26 = .ok (.sipush 999, 3) by decide +kernel) (by decide))),
  List.forall_mem_cons.mpr ⟨(xcm mi_188 ⟨⟨(by decide +kernel), (by decide +kernel), (by decide +kernel)⟩, (by decide), xw_1912, xw_125, Or.inr (Or.inl ⟨rfl, _, (show decode cX12_engine 29 = .ok (.invokestatic 146, 3) by decide +kernel), xw_1910, xw_1911⟩)⟩),
  List.forall_mem_cons.mpr ⟨(xOK_pure (xs_if_eq (show decode cX12_engine 32 = .ok (.ifCond .eq 15, 3) by decide +kernel) (by decide))),
  List.forall_mem_cons.mpr ⟨(xOK_pure (xs_iload (show decode cX12_engine 35 = .ok (.iload 4, 2) by decide +kernel))),
  List.forall_mem_cons.mpr ⟨(xOK_pure (xs_iconst (n := 0) (show decode cX12_engine 37 = .ok (.iconst 0, 1) by decide +kernel) (by decide))),
  List.forall_mem_cons.mpr ⟨(xOK_pure (xs_sipush (n := 999) (show decode cX12_engine 38 = .ok (.sipush 999, 3) by decide +kernel) (by decide))),
  (fun _ h => absurd h List.not_mem_nil)⟩⟩⟩⟩⟩⟩⟩⟩⟩⟩⟩⟩⟩⟩⟩⟩⟩⟩⟩⟩
def pX12_engine_1 (ev : xEv) : List (Nat × xEn) := [(41, .inr (.inl (1, 188, 3, 12))), (44, .inl (xop (xf_if_ne 49))), (47, .inl (xop (xf_push (.int 0) 1))), (48, .inr (.inr 4)), (49, .inl (xop (xf_aload 0 1))), (50, .inl (xop (xf_iload 1 1))), (51, .inl (xop (xf_push (.int 5) 1))), (52, .inl (xop (xf_iload 2 1))), (53, .inr (.inl (0, 196, 3, 12))), (56, .inl (xop (xf_aload 0 1))), (57, .inl (xop (xf_iload 1 1))), (58, .inl (xop (xf_push (.int 6) 2))), (60, .inl (xop (xf_iload 3 1))), (61, .inr (.inl (0, 196, 3, 12))), (64, .inl (xop (xf_aload 0 1))), (65, .inl (xop (xf_iload 1 1))), (66, .inl (xop (xf_push (.int 7) 2))), (68, .inl (xop (xf_iload 4 2))), (70, .inr (.inl (0, 196, 3, 12))), (73, .inl (xop (xf_push (.int 1) 1)))]
set_option maxRecDepth 20000 in
theorem okpX12_engine_1 (ev : xEv) : ∀ q ∈ pX12_engine_1 ev, xEnOK ev xmi yX12_engine.cls yX12_engine.name cX12_engine 5 (some .boolean) q :=
  List.forall_mem_cons.mpr ⟨(xcm mi_188 ⟨⟨(by decide +kernel), (by decide +kernel), (by decide +kernel)⟩, (by decide), xw_1912, xw_125, Or.inr (Or.inl ⟨rfl, _, (show decode cX12_engine 41 = .ok (.invokestatic 146, 3) by decide +kernel), xw_1910, xw_1911⟩)⟩),
  List.forall_mem_cons.mpr ⟨(xOK_pure (xs_if_ne (show decode cX12_engine 44 = .ok (.ifCond .ne 5, 3) by decide +kernel) (by decide))),
  List.forall_mem_cons.mpr ⟨(xOK_pure (xs_iconst (n := 0) (show decode cX12_engine 47 = .ok (.iconst 0, 1) by decide +kernel) (by decide))),
  List.forall_mem_cons.mpr ⟨(Or.inr (Or.inr (Or.inr (Or.inr (Or.inl ⟨rfl, (show decode cX12_engine 48 = .ok (.ireturn, 1) by decide +kernel), rfl⟩))))),
  List.forall_mem_cons.mpr ⟨(xOK_pure (xs_aload_n (k := 0) rfl (show decode cX12_engine 49 = .ok (.aload_n 0, 1) by decide +kernel))),
  List.forall_mem_cons.mpr ⟨(xOK_pure (xs_iload_n (k := 1) rfl (show decode cX12_engine 50 = .ok (.iload_n 1, 1) by decide +kernel))),
  List.forall_mem_cons.mpr ⟨(xOK_pure (xs_iconst (n := 5) (show decode cX12_engine 51 = .ok (.iconst 5, 1) by decide +kernel) (by decide))),
  List.forall_mem_cons.mpr ⟨(xOK_pure (xs_iload_n (k := 2) rfl (show decode cX12_engine 52 = .ok (.iload_n 2, 1) by decide +kernel))),
  List.forall_mem_cons.mpr ⟨(xcm mi_196 ⟨⟨(by decide +kernel), (by decide +kernel), (by decide +kernel)⟩, (by decide), xw_1985, xw_125, Or.inl ⟨rfl, _, _, _, _, (show decode cX12_engine 53 = .ok (.invokevirtual 199, 3) by decide +kernel), xw_1982, xw_1984, xw_60, rfl⟩⟩),
  List.forall_mem_cons.mpr ⟨(xOK_pure (xs_aload_n (k := 0) rfl (show decode cX12_engine 56 = .ok (.aload_n 0, 1) by decide +kernel))),
  List.forall_mem_cons.mpr ⟨(xOK_pure (xs_iload_n (k := 1) rfl (show decode cX12_engine 57 = .ok (.iload_n 1, 1) by decide +kernel))),
  List.forall_mem_cons.mpr ⟨(xOK_pure (xs_bipush (n := 6) (show decode cX12_engine 58 = .ok (.bipush 6, 2) by decide +kernel) (by decide))),
  List.forall_mem_cons.mpr ⟨(xOK_pure (xs_iload_n (k := 3) rfl (show decode cX12_engine 60 = .ok (.iload_n 3, 1) by decide +kernel))),
  List.forall_mem_cons.mpr ⟨(xcm mi_196 ⟨⟨(by decide +kernel), (by decide +kernel), (by decide +kernel)⟩, (by decide), xw_1985, xw_125, Or.inl ⟨rfl, _, _, _, _, (show decode cX12_engine 61 = .ok (.invokevirtual 199, 3) by decide +kernel), xw_1982, xw_1984, xw_60, rfl⟩⟩),
  List.forall_mem_cons.mpr ⟨(xOK_pure (xs_aload_n (k := 0) rfl (show decode cX12_engine 64 = .ok (.aload_n 0, 1) by decide +kernel))),
  List.forall_mem_cons.mpr ⟨(xOK_pure (xs_iload_n (k := 1) rfl (show decode cX12_engine 65 = .ok (.iload_n 1, 1) by decide +kernel))),
  List.forall_mem_cons.mpr ⟨(xOK_pure (xs_bipush (n := 7) (show decode cX12_engine 66 = .ok (.bipush 7, 2) by decide +kernel) (by decide))),
  List.forall_mem_cons.mpr ⟨(xOK_pure (xs_iload (show decode cX12_engine 68 = .ok (.iload 4, 2) by decide +kernel))),
  List.forall_mem_cons.mpr ⟨(xcm mi_196 ⟨⟨(by decide +kernel), (by decide +kernel), (by decide +kernel)⟩, (by decide), xw_1985, xw_125, Or.inl ⟨rfl, _, _, _, _, (show decode cX12_engine 70 = .ok (.invokevirtual 199, 3) by decide +kernel), xw_1982, xw_1984, xw_60, rfl⟩⟩),
  List.forall_mem_cons.mpr ⟨(xOK_pure (xs_iconst (n := 1) (show decode cX12_engine 73 = .ok (.iconst 1, 1) by decide +kernel) (by decide))),
  (fun _ h => absurd h List.not_mem_nil)⟩⟩⟩⟩⟩⟩⟩⟩⟩⟩⟩⟩⟩⟩⟩⟩⟩⟩⟩⟩
def pX12_engine_2 (ev : xEv) : List (Nat × xEn) := [(74, .inr (.inr 4))]
set_option maxRecDepth 20000 in
theorem okpX12_engine_2 (ev : xEv) : ∀ q ∈ pX12_engine_2 ev, xEnOK ev xmi yX12_engine.cls yX12_engine.name cX12_engine 5 (some .boolean) q :=
  List.forall_mem_cons.mpr ⟨(Or.inr (Or.inr (Or.inr (Or.inr (Or.inl ⟨rfl, (show decode cX12_engine 74 = .ok (.ireturn, 1) by decide +kernel), rfl⟩))))),
  (fun _ h => absurd h List.not_mem_nil)⟩
def pX12_engine (ev : xEv) : List (Nat × xEn) := pX12_engine_0 ev ++ (pX12_engine_1 ev ++ (pX12_engine_2 ev))
theorem okpX12_engine (ev : xEv) : ∀ q ∈ pX12_engine ev, xEnOK ev xmi yX12_engine.cls yX12_engine.name cX12_engine 5 (some .boolean) q := List.forall_mem_append.mpr ⟨okpX12_engine_0 ev, List.forall_mem_append.mpr ⟨okpX12_engine_1 ev, okpX12_engine_2 ev⟩⟩
theorem omX12_engine (ev : xEv) : xMethOK ev xmi yX12_engine.cls yX12_engine.name 220 (pX12_engine ev) := xMethOK.of mi_220 (by decide +kernel) (okpX12_engine ev)
def pX12_pilot_0 (ev : xEv) : List (Nat × xEn) := [(0, .inl (xop (xf_aload 0 1))), (1, .inl (xop (xf_push (.int 0) 1))), (2, .inl (xo_putf 12 47 .int)), (5, .inl (xop (xf_aload 0 1))), (6, .inl (xop (xf_iload 1 1))), (7, .inr (.inl (0, 190, 1, 12))), (10, .inl (xop (xf_if_eq 38))), (13, .inl (xop (xf_iload 2 1))), (14, .inl (xop (xf_push (.int 0) 1))), (15, .inl (xop (xf_push (.int 1) 1))), (16, .inl (xop (xf_aload 0 1))), (17, .inl (xop (xf_getf 12 9))), (20, .inl (xop (xf_bin (fun x y => x <<< (y &&& 31))))), (21, .inl (xop (xf_push (.int 1) 1))), (22, .inl (xop (xf_bin (fun x y => x - y)))), (23, .inr (.inl (1, 188, 3, 12))), (26, .inl (xop (xf_if_eq 38))), (29, .inl (xop (xf_aload 0 1))), (30, .inl (xop (xf_getf 12 22))), (33, .inl (xop (xf_push (.int 8) 2)))]
set_option maxRecDepth 20000 in
theorem okpX12_pilot_0 (ev : xEv) : ∀ q ∈ pX12_pilot_0 ev, xEnOK ev xmi yX12_pilot.cls yX12_pilot.name cX12_pilot 3 (some .int) q :=
  List.forall_mem_cons.mpr ⟨(xOK_pure (xs_aload_n (k := 0) rfl (show decode cX12_pilot 0 = .ok (.aload_n 0, 1) by decide +kernel))),
  List.forall_mem_cons.mpr ⟨(xOK_pure (xs_iconst (n := 0) (show decode cX12_pilot 1 = .ok (.iconst 0, 1) by decide +kernel) (by decide))),
  List.forall_mem_cons.mpr ⟨(xs_putf (k := 47) xcl_12 (by decide) rfl (show decode cX12_pilot 2 = .ok (.putfield 140, 3) by decide +kernel) xw_1756),
  List.forall_mem_cons.mpr ⟨(xOK_pure (xs_aload_n (k := 0) rfl (show decode cX12_pilot 5 = .ok (.aload_n 0, 1) by decide +kernel))),
  List.forall_mem_cons.mpr ⟨(xOK_pure (xs_iload_n (k := 1) rfl (show decode cX12_pilot 6 = .ok (.iload_n 1, 1) by decide +kernel))),
  List.forall_mem_cons.mpr ⟨(xcm mi_190 ⟨⟨(by decide +kernel), (by decide +kernel), (by decide +kernel)⟩, (by decide), xw_1920, xw_125, Or.inl ⟨rfl, _, _, _, _, (show decode cX12_pilot 7 = .ok (.invokevirtual 162, 3) by decide +kernel), xw_1917, xw_1919, xw_52, rfl⟩⟩),
  List.forall_mem_cons.mpr ⟨(xOK_pure (xs_if_eq (show decode cX12_pilot 10 = .ok (.ifCond .eq 28, 3) by decide +kernel) (by decide))),
  List.forall_mem_cons.mpr ⟨(xOK_pure (xs_iload_n (k := 2) rfl (show decode cX12_pilot 13 = .ok (.iload_n 2, 1) by decide +kernel))),
  List.forall_mem_cons.mpr ⟨(xOK_pure (xs_iconst (n := 0) (show decode cX12_pilot 14 = .ok (.iconst 0, 1) by decide +kernel) (by decide))),
  List.forall_mem_cons.mpr ⟨(xOK_pure (xs_iconst (n := 1) (show decode cX12_pilot 15 = .ok (.iconst 1, 1) by decide +kernel) (by decide))),
  List.forall_mem_cons.mpr ⟨(xOK_pure (xs_aload_n (k := 0) rfl (show decode cX12_pilot 16 = .ok (.aload_n 0, 1) by decide +kernel))),
  List.forall_mem_cons.mpr ⟨(xOK_pure (xs_getf xcl_12 (by decide) (show decode cX12_pilot 17 = .ok (.getfield 150, 3) by decide +kernel) xw_1718)),
  List.forall_mem_cons.mpr ⟨(xOK_pure (xs_ishl (show decode cX12_pilot 20 = .ok (.ishl, 1) by decide +kernel))),
  List.forall_mem_cons.mpr ⟨(xOK_pure (xs_iconst (n := 1) (show decode cX12_pilot 21 = .ok (.iconst 1, 1) by decide +kernel) (by decide))),
  List.forall_mem_cons.mpr ⟨(xOK_pure (xs_isub (show decode cX12_pilot 22 = .ok (.isub, 1) by decide +kernel))),
  List.forall_mem_cons.mpr ⟨(xcm mi_188 ⟨⟨(by decide +kernel), (by decide +kernel), (by decide +kernel)⟩, (by decide), xw_1912, xw_125, Or.inr (Or.inl ⟨rfl, _, (show decode cX12_pilot 23 = .ok (.invokestatic 146, 3) by decide +kernel), xw_1910, xw_1911⟩)⟩),
  List.forall_mem_cons.mpr ⟨(xOK_pure (xs_if_eq (show decode cX12_pilot 26 = .ok (.ifCond .eq 12, 3) by decide +kernel) (by decide))),
  List.forall_mem_cons.mpr ⟨(xOK_pure (xs_aload_n (k := 0) rfl (show decode cX12_pilot 29 = .ok (.aload_n 0, 1) by decide +kernel))),
  List.forall_mem_cons.mpr ⟨(xOK_pure (xs_getf xcl_12 (by decide) (show decode cX12_pilot 30 = .ok (.getfield 156, 3) by decide +kernel) xw_1731)),
  List.forall_mem_cons.mpr ⟨(xOK_pure (xs_bipush (n := 8) (show decode cX12_pilot 33 = .ok (.bipush 8, 2) by decide +kernel) (by decide))),
  (fun _ h => absurd h List.not_mem_nil)⟩⟩⟩⟩⟩⟩⟩⟩⟩⟩⟩⟩⟩⟩⟩⟩⟩⟩⟩⟩
def pX12_pilot_1 (ev : xEv) : List (Nat × xEn) := [(35, .inl (xop (xf_icmp_ne 40))), (38, .inl (xop (xf_push (.int (-1)) 1))), (39, .inr (.inr 1)), (40, .inl (xop (xf_aload 0 1))), (41, .inl (xop (xf_aload 0 1))), (42, .inl (xop (xf_getf 12 22))), (45, .inl (xop (xf_push (.int 0) 1))), (46, .inl (xop (xf_iload 1 1))), (47, .inr (.inl (0, 198, 3, 12))), (50, .inl (xop (xf_aload 0 1))), (51, .inl (xop (xf_aload 0 1))), (52, .inl (xop (xf_getf 12 22))), (55, .inl (xop (xf_push (.int 1) 1))), (56, .inl (xop (xf_push (.int (-1)) 1))), (57, .inr (.inl (0, 198, 3, 12))), (60, .inl (xop (xf_aload 0 1))), (61, .inl (xop (xf_aload 0 1))), (62, .inl (xop (xf_getf 12 22))), (65, .inl (xop (xf_push (.int 2) 1))), (66, .inl (xop (xf_push (.int 0) 1)))]
set_option maxRecDepth 20000 in
theorem okpX12_pilot_1 (ev : xEv) : ∀ q ∈ pX12_pilot_1 ev, xEnOK ev xmi yX12_pilot.cls yX12_pilot.name cX12_pilot 3 (some .int) q :=
  List.forall_mem_cons.mpr ⟨(xOK_pure (xs_icmp_ne (show decode cX12_pilot 35 = .ok (.if_icmp .ne 5, 3) by decide +kernel) (by decide))),
  List.forall_mem_cons.mpr ⟨(xOK_pure (xs_iconst (n := (-1)) (show decode cX12_pilot 38 = .ok (.iconst (-1), 1) by decide +kernel) (by decide))),
  List.forall_mem_cons.mpr ⟨(Or.inr (Or.inl ⟨rfl, (show decode cX12_pilot 39 = .ok (.ireturn, 1) by decide +kernel), rfl⟩)),
  List.forall_mem_cons.mpr ⟨(xOK_pure (xs_aload_n (k := 0) rfl (show decode cX12_pilot 40 = .ok (.aload_n 0, 1) by decide +kernel))),
  List.forall_mem_cons.mpr ⟨(xOK_pure (xs_aload_n (k := 0) rfl (show decode cX12_pilot 41 = .ok (.aload_n 0, 1) by decide +kernel))),
  List.forall_mem_cons.mpr ⟨(xOK_pure (xs_getf xcl_12 (by decide) (show decode cX12_pilot 42 = .ok (.getfield 156, 3) by decide +kernel) xw_1731)),
  List.forall_mem_cons.mpr ⟨(xOK_pure (xs_iconst (n := 0) (show decode cX12_pilot 45 = .ok (.iconst 0, 1) by decide +kernel) (by decide))),
  List.forall_mem_cons.mpr ⟨(xOK_pure (xs_iload_n (k := 1) rfl (show decode cX12_pilot 46 = .ok (.iload_n 1, 1) by decide +kernel))),
  List.forall_mem_cons.mpr ⟨(xcm mi_198 ⟨⟨(by decide +kernel), (by decide +kernel), (by decide +kernel)⟩, (by decide), xw_2001, xw_125, Or.inl ⟨rfl, _, _, _, _, (show decode cX12_pilot 47 = .ok (.invokevirtual 206, 3) by decide +kernel), xw_1998, xw_2000, xw_62, rfl⟩⟩),
  List.forall_mem_cons.mpr ⟨(xOK_pure (xs_aload_n (k := 0) rfl (show decode cX12_pilot 50 = .ok (.aload_n 0, 1) by decide +kernel))),
  List.forall_mem_cons.mpr ⟨(xOK_pure (xs_aload_n (k := 0) rfl (show decode cX12_pilot 51 = .ok (.aload_n 0, 1) by decide +kernel))),
  List.forall_mem_cons.mpr ⟨(xOK_pure (xs_getf xcl_12 (by decide) (show decode cX12_pilot 52 = .ok (.getfield 156, 3) by decide +kernel) xw_1731)),
  List.forall_mem_cons.mpr ⟨(xOK_pure (xs_iconst (n := 1) (show decode cX12_pilot 55 = .ok (.iconst 1, 1) by decide +kernel) (by decide))),
  List.forall_mem_cons.mpr ⟨(xOK_pure (xs_iconst (n := (-1)) (show decode cX12_pilot 56 = .ok (.iconst (-1), 1) by decide +kernel) (by decide))),
  List.forall_mem_cons.mpr ⟨(xcm mi_198 ⟨⟨(by decide +kernel), (by decide +kernel), (by decide +kernel)⟩, (by decide), xw_2001, xw_125, Or.inl ⟨rfl, _, _, _, _, (show decode cX12_pilot 57 = .ok (.invokevirtual 206, 3) by decide +kernel), xw_1998, xw_2000, xw_62, rfl⟩⟩),
  List.forall_mem_cons.mpr ⟨(xOK_pure (xs_aload_n (k := 0) rfl (show decode cX12_pilot 60 = .ok (.aload_n 0, 1) by decide +kernel))),
  List.forall_mem_cons.mpr ⟨(xOK_pure (xs_aload_n (k := 0) rfl (show decode cX12_pilot 61 = .ok (.aload_n 0, 1) by decide +kernel))),
  List.forall_mem_cons.mpr ⟨(xOK_pure (xs_getf xcl_12 (by decide) (show decode cX12_pilot 62 = .ok (.getfield 156, 3) by decide +kernel) xw_1731)),
  List.forall_mem_cons.mpr ⟨(xOK_pure (xs_iconst (n := 2) (show decode cX12_pilot 65 = .ok (.iconst 2, 1) by decide +kernel) (by decide))),
  List.forall_mem_cons.mpr ⟨(xOK_pure (xs_iconst (n := 0) (show decode cX12_pilot 66 = .ok (.iconst 0, 1) by decide +kernel) (by decide))),
  (fun _ h => absurd h List.not_mem_nil)⟩⟩⟩⟩⟩⟩⟩⟩⟩⟩⟩⟩⟩⟩⟩⟩⟩⟩⟩⟩
def pX12_pilot_2 (ev : xEv) : List (Nat × xEn) := [(67, .inr (.inl (0, 198, 3, 12))), (70, .inl (xop (xf_aload 0 1))), (71, .inl (xop (xf_aload 0 1))), (72, .inl (xop (xf_getf 12 22))), (75, .inl (xop (xf_push (.int 3) 1))), (76, .inl (xop (xf_iload 2 1))), (77, .inr (.inl (0, 198, 3, 12))), (80, .inl (xop (xf_aload 0 1))), (81, .inl (xop xf_dup)), (82, .inl (xop (xf_getf 12 22))), (85, .inl (xop (xf_push (.int 1) 1))), (86, .inl (xop (xf_bin (fun x y => x + y)))), (87, .inl (xo_putf 12 22 .int)), (90, .inl (xop (xf_aload 0 1))), (91, .inl (xop (xf_getf 12 22))), (94, .inl (xop (xf_push (.int 1) 1))), (95, .inl (xop (xf_bin (fun x y => x - y)))), (96, .inr (.inr 1))]
set_option maxRecDepth 20000 in
theorem okpX12_pilot_2 (ev : xEv) : ∀ q ∈ pX12_pilot_2 ev, xEnOK ev xmi yX12_pilot.cls yX12_pilot.name cX12_pilot 3 (some .int) q :=
  List.forall_mem_cons.mpr ⟨(xcm mi_198 ⟨⟨(by decide +kernel), (by decide +kernel), (by decide +kernel)⟩, (by decide), xw_2001, xw_125, Or.inl ⟨rfl, _, _, _, _, (show decode cX12_pilot 67 = .ok (.invokevirtual 206, 3) by decide +kernel), xw_1998, xw_2000, xw_62, rfl⟩⟩),
  List.forall_mem_cons.mpr ⟨(xOK_pure (xs_aload_n (k := 0) rfl (show decode cX12_pilot 70 = .ok (.aload_n 0, 1) by decide +kernel))),
  List.forall_mem_cons.mpr ⟨(xOK_pure (xs_aload_n (k := 0) rfl (show decode cX12_pilot 71 = .ok (.aload_n 0, 1) by decide +kernel))),
  List.forall_mem_cons.mpr ⟨(xOK_pure (xs_getf xcl_12 (by decide) (show decode cX12_pilot 72 = .ok (.getfield 156, 3) by decide +kernel) xw_1731)),
  List.forall_mem_cons.mpr ⟨(xOK_pure (xs_iconst (n := 3) (show decode cX12_pilot 75 = .ok (.iconst 3, 1) by decide +kernel) (by decide))),
  List.forall_mem_cons.mpr ⟨(xOK_pure (xs_iload_n (k := 2) rfl (show decode cX12_pilot 76 = .ok (.iload_n 2, 1) by decide +kernel))),
  List.forall_mem_cons.mpr ⟨(xcm mi_198 ⟨⟨(by decide +kernel), (by decide +kernel), (by decide +kernel)⟩, (by decide), xw_2001, xw_125, Or.inl ⟨rfl, _, _, _, _, (show decode cX12_pilot 77 = .ok (.invokevirtual 206, 3) by decide +kernel), xw_1998, xw_2000, xw_62, rfl⟩⟩),
  List.forall_mem_cons.mpr ⟨(xOK_pure (xs_aload_n (k := 0) rfl (show decode cX12_pilot 80 = .ok (.aload_n 0, 1) by decide +kernel))),
  List.forall_mem_cons.mpr ⟨(xOK_pure (xs_dup (show decode cX12_pilot 81 = .ok (.dup, 1) by decide +kernel))),
  List.forall_mem_cons.mpr ⟨(xOK_pure (xs_getf xcl_12 (by decide) (show decode cX12_pilot 82 = .ok (.getfield 156, 3) by decide +kernel) xw_1731)),
  List.forall_mem_cons.mpr ⟨(xOK_pure (xs_iconst (n := 1) (show decode cX12_pilot 85 = .ok (.iconst 1, 1) by decide +kernel) (by decide))),
  List.forall_mem_cons.mpr ⟨(xOK_pure (xs_iadd (show decode cX12_pilot 86 = .ok (.iadd, 1) by decide +kernel))),
  List.forall_mem_cons.mpr ⟨(xs_putf (k := 22) xcl_12 (by decide) rfl (show decode cX12_pilot 87 = .ok (.putfield 156, 3) by decide +kernel) xw_1731),
  List.forall_mem_cons.mpr ⟨(xOK_pure (xs_aload_n (k := 0) rfl (show decode cX12_pilot 90 = .ok (.aload_n 0, 1) by decide +kernel))),
  List.forall_mem_cons.mpr ⟨(xOK_pure (xs_getf xcl_12 (by decide) (show decode cX12_pilot 91 = .ok (.getfield 156, 3) by decide +kernel) xw_1731)),
  List.forall_mem_cons.mpr ⟨(xOK_pure (xs_iconst (n := 1) (show decode cX12_pilot 94 = .ok (.iconst 1, 1) by decide +kernel) (by decide))),
  List.forall_mem_cons.mpr ⟨(xOK_pure (xs_isub (show decode cX12_pilot 95 = .ok (.isub, 1) by decide +kernel))),
  List.forall_mem_cons.mpr ⟨(Or.inr (Or.inl ⟨rfl, (show decode cX12_pilot 96 = .ok (.ireturn, 1) by decide +kernel), rfl⟩)),
  (fun _ h => absurd h List.not_mem_nil)⟩⟩⟩⟩⟩⟩⟩⟩⟩⟩⟩⟩⟩⟩⟩⟩⟩⟩
def pX12_pilot (ev : xEv) : List (Nat × xEn) := pX12_pilot_0 ev ++ (pX12_pilot_1 ev ++ (pX12_pilot_2 ev))
theorem okpX12_pilot (ev : xEv) : ∀ q ∈ pX12_pilot ev, xEnOK ev xmi yX12_pilot.cls yX12_pilot.name cX12_pilot 3 (some .int) q := List.forall_mem_append.mpr ⟨okpX12_pilot_0 ev, List.forall_mem_append.mpr ⟨okpX12_pilot_1 ev, okpX12_pilot_2 ev⟩⟩
theorem omX12_pilot (ev : xEv) : xMethOK ev xmi yX12_pilot.cls yX12_pilot.name 221 (pX12_pilot ev) := xMethOK.of mi_221 (by decide +kernel) (okpX12_pilot ev)
def pX12_learns_0 (ev : xEv) : List (Nat × xEn) := [(0, .inl (xop (xf_aload 0 1))), (1, .inl (xop (xf_push (.int 0) 1))), (2, .inl (xo_putf 12 47 .int)), (5, .inl (xop (xf_aload 0 1))), (6, .inl (xop (xf_iload 1 1))), (7, .inr (.inl (0, 193, 1, 12))), (10, .inl (xop (xf_if_eq 21))), (13, .inl (xop (xf_aload 0 1))), (14, .inl (xop (xf_iload 2 1))), (15, .inr (.inl (0, 191, 1, 12))), (18, .inl (xop (xf_if_ne 23))), (21, .inl (xop (xf_push (.int 0) 1))), (22, .inr (.inr 4)), (23, .inl (xop (xf_aload 0 1))), (24, .inl (xop (xf_iload 1 1))), (25, .inl (xop (xf_push (.int 3) 1))), (26, .inl (xop (xf_aload 0 1))), (27, .inl (xop (xf_iload 1 1))), (28, .inl (xop (xf_push (.int 3) 1))), (29, .inr (.inl (0, 197, 2, 12)))]
set_option maxRecDepth 20000 in
theorem okpX12_learns_0 (ev : xEv) : ∀ q ∈ pX12_learns_0 ev, xEnOK ev xmi yX12_learns.cls yX12_learns.name cX12_learns 3 (some .boolean) q :=
  List.forall_mem_cons.mpr ⟨(xOK_pure (xs_aload_n (k := 0) rfl (show decode cX12_learns 0 = .ok (.aload_n 0, 1) by decide +kernel))),
  List.forall_mem_cons.mpr ⟨(xOK_pure (xs_iconst (n := 0) (show decode cX12_learns 1 = .ok (.iconst 0, 1) by decide +kernel) (by decide))),
  List.forall_mem_cons.mpr ⟨(xs_putf (k := 47) xcl_12 (by decide) rfl (show decode cX12_learns 2 = .ok (.putfield 140, 3) by decide +kernel) xw_1756),
  List.forall_mem_cons.mpr ⟨(xOK_pure (xs_aload_n (k := 0) rfl (show decode cX12_learns 5 = .ok (.aload_n 0, 1) by decide +kernel))),
  List.forall_mem_cons.mpr ⟨(xOK_pure (xs_iload_n (k := 1) rfl (show decode cX12_learns 6 = .ok (.iload_n 1, 1) by decide +kernel))),
  List.forall_mem_cons.mpr ⟨(xcm mi_193 ⟨⟨(by decide +kernel), (by decide +kernel), (by decide +kernel)⟩, (by decide), xw_2009, xw_125, Or.inl ⟨rfl, _, _, _, _, (show decode cX12_learns 7 = .ok (.invokevirtual 209, 3) by decide +kernel), xw_2006, xw_2008, xw_63, rfl⟩⟩),
  List.forall_mem_cons.mpr ⟨(xOK_pure (xs_if_eq (show decode cX12_learns 10 = .ok (.ifCond .eq 11, 3) by decide +kernel) (by decide))),
  List.forall_mem_cons.mpr ⟨(xOK_pure (xs_aload_n (k := 0) rfl (show decode cX12_learns 13 = .ok (.aload_n 0, 1) by decide +kernel))),
  List.forall_mem_cons.mpr ⟨(xOK_pure (xs_iload_n (k := 2) rfl (show decode cX12_learns 14 = .ok (.iload_n 2, 1) by decide +kernel))),
  List.forall_mem_cons.mpr ⟨(xcm mi_191 ⟨⟨(by decide +kernel), (by decide +kernel), (by decide +kernel)⟩, (by decide), xw_1933, xw_125, Or.inl ⟨rfl, _, _, _, _, (show decode cX12_learns 15 = .ok (.invokevirtual 172, 3) by decide +kernel), xw_1930, xw_1932, xw_53, rfl⟩⟩),
  List.forall_mem_cons.mpr ⟨(xOK_pure (xs_if_ne (show decode cX12_learns 18 = .ok (.ifCond .ne 5, 3) by decide +kernel) (by decide))),
  List.forall_mem_cons.mpr ⟨(xOK_pure (xs_iconst (n := 0) (show decode cX12_learns 21 = .ok (.iconst 0, 1) by decide +kernel) (by decide))),
  List.forall_mem_cons.mpr ⟨(Or.inr (Or.inr (Or.inr (Or.inr (Or.inl ⟨rfl, (show decode cX12_learns 22 = .ok (.ireturn, 1) by decide +kernel), rfl⟩))))),
  List.forall_mem_cons.mpr ⟨(xOK_pure (xs_aload_n (k := 0) rfl (show decode cX12_learns 23 = .ok (.aload_n 0, 1) by decide +kernel))),
  List.forall_mem_cons.mpr ⟨(xOK_pure (xs_iload_n (k := 1) rfl (show decode cX12_learns 24 = .ok (.iload_n 1, 1) by decide +kernel))),
  List.forall_mem_cons.mpr ⟨(xOK_pure (xs_iconst (n := 3) (show decode cX12_learns 25 = .ok (.iconst 3, 1) by decide +kernel) (by decide))),
  List.forall_mem_cons.mpr ⟨(xOK_pure (xs_aload_n (k := 0) rfl (show decode cX12_learns 26 = .ok (.aload_n 0, 1) by decide +kernel))),
  List.forall_mem_cons.mpr ⟨(xOK_pure (xs_iload_n (k := 1) rfl (show decode cX12_learns 27 = .ok (.iload_n 1, 1) by decide +kernel))),
  List.forall_mem_cons.mpr ⟨(xOK_pure (xs_iconst (n := 3) (show decode cX12_learns 28 = .ok (.iconst 3, 1) by decide +kernel) (by decide))),
  List.forall_mem_cons.mpr ⟨(xcm mi_197 ⟨⟨(by decide +kernel), (by decide +kernel), (by decide +kernel)⟩, (by decide), xw_2013, xw_125, Or.inl ⟨rfl, _, _, _, _, (show decode cX12_learns 29 = .ok (.invokevirtual 212, 3) by decide +kernel), xw_2010, xw_2012, xw_64, rfl⟩⟩),
  (fun _ h => absurd h List.not_mem_nil)⟩⟩⟩⟩⟩⟩⟩⟩⟩⟩⟩⟩⟩⟩⟩⟩⟩⟩⟩⟩
def pX12_learns_1 (ev : xEv) : List (Nat × xEn) := [(32, .inl (xop (xf_push (.int 1) 1))), (33, .inl (xop (xf_iload 2 1))), (34, .inl (xop (xf_bin (fun x y => x <<< (y &&& 31))))), (35, .inl (xop (xf_bin (fun x y => x ||| y)))), (36, .inr (.inl (0, 198, 3, 12))), (39, .inl (xop (xf_push (.int 1) 1))), (40, .inr (.inr 4))]
set_option maxRecDepth 20000 in
theorem okpX12_learns_1 (ev : xEv) : ∀ q ∈ pX12_learns_1 ev, xEnOK ev xmi yX12_learns.cls yX12_learns.name cX12_learns 3 (some .boolean) q :=
  List.forall_mem_cons.mpr ⟨(xOK_pure (xs_iconst (n := 1) (show decode cX12_learns 32 = .ok (.iconst 1, 1) by decide +kernel) (by decide))),
  List.forall_mem_cons.mpr ⟨(xOK_pure (xs_iload_n (k := 2) rfl (show decode cX12_learns 33 = .ok (.iload_n 2, 1) by decide +kernel))),
  List.forall_mem_cons.mpr ⟨(xOK_pure (xs_ishl (show decode cX12_learns 34 = .ok (.ishl, 1) by decide +kernel))),
  List.forall_mem_cons.mpr ⟨(xOK_pure (xs_ior (show decode cX12_learns 35 = .ok (.ior, 1) by decide +kernel))),
  List.forall_mem_cons.mpr ⟨(xcm mi_198 ⟨⟨(by decide +kernel), (by decide +kernel), (by decide +kernel)⟩, (by decide), xw_2001, xw_125, Or.inl ⟨rfl, _, _, _, _, (show decode cX12_learns 36 = .ok (.invokevirtual 206, 3) by decide +kernel), xw_1998, xw_2000, xw_62, rfl⟩⟩),
  List.forall_mem_cons.mpr ⟨(xOK_pure (xs_iconst (n := 1) (show decode cX12_learns 39 = .ok (.iconst 1, 1) by decide +kernel) (by decide))),
  List.forall_mem_cons.mpr ⟨(Or.inr (Or.inr (Or.inr (Or.inr (Or.inl ⟨rfl, (show decode cX12_learns 40 = .ok (.ireturn, 1) by decide +kernel), rfl⟩))))),
  (fun _ h => absurd h List.not_mem_nil)⟩⟩⟩⟩⟩⟩⟩
def pX12_learns (ev : xEv) : List (Nat × xEn) := pX12_learns_0 ev ++ (pX12_learns_1 ev)
theorem okpX12_learns (ev : xEv) : ∀ q ∈ pX12_learns ev, xEnOK ev xmi yX12_learns.cls yX12_learns.name cX12_learns 3 (some .boolean) q := List.forall_mem_append.mpr ⟨okpX12_learns_0 ev, okpX12_learns_1 ev⟩
theorem omX12_learns (ev : xEv) : xMethOK ev xmi yX12_learns.cls yX12_learns.name 222 (pX12_learns ev) := xMethOK.of mi_222 (by decide +kernel) (okpX12_learns ev)
def pX12_led_0 (ev : xEv) : List (Nat × xEn) := [(0, .inl (xop (xf_aload 0 1))), (1, .inl (xop (xf_iload 1 1))), (2, .inl (xop (xf_push (.int 4) 1))), (3, .inr (.inl (0, 199, 2, 12))), (6, .inl (xop (xf_istore 3 1))), (7, .inl (xop (xf_iload 3 1))), (8, .inl (xop (xf_push (.int 16) 2))), (10, .inl (xop (xf_icmp_ne 14))), (13, .inr (.inr 0)), (14, .inl (xop (xf_aload 0 1))), (15, .inl (xop (xf_iload 1 1))), (16, .inl (xop (xf_push (.int 5) 1))), (17, .inl (xop (xf_push (.int 2) 1))), (18, .inl (xop (xf_iload 3 1))), (19, .inl (xop (xf_bin (fun x y => x * y)))), (20, .inl (xop (xf_bin (fun x y => x + y)))), (21, .inl (xop (xf_aload 0 1))), (22, .inl (xop (xf_getf 12 48))), (25, .inl (xop (xf_push (.int 0) 1))), (26, .inl (xop (xf_ald (ev.1 0))))]
set_option maxRecDepth 20000 in
theorem okpX12_led_0 (ev : xEv) : ∀ q ∈ pX12_led_0 ev, xEnOK ev xmi yX12_led.cls yX12_led.name cX12_led 4 none q :=
  List.forall_mem_cons.mpr ⟨(xOK_pure (xs_aload_n (k := 0) rfl (show decode cX12_led 0 = .ok (.aload_n 0, 1) by decide +kernel))),
  List.forall_mem_cons.mpr ⟨(xOK_pure (xs_iload_n (k := 1) rfl (show decode cX12_led 1 = .ok (.iload_n 1, 1) by decide +kernel))),
  List.forall_mem_cons.mpr ⟨(xOK_pure (xs_iconst (n := 4) (show decode cX12_led 2 = .ok (.iconst 4, 1) by decide +kernel) (by decide))),
  List.forall_mem_cons.mpr ⟨(xcm mi_199 ⟨⟨(by decide +kernel), (by decide +kernel), (by decide +kernel)⟩, (by decide), xw_2029, xw_125, Or.inl ⟨rfl, _, _, _, _, (show decode cX12_led 3 = .ok (.invokevirtual 215, 3) by decide +kernel), xw_2026, xw_2028, xw_67, rfl⟩⟩),
  List.forall_mem_cons.mpr ⟨(xOK_pure (xs_istore_n (k := 3) rfl (show decode cX12_led 6 = .ok (.istore_n 3, 1) by decide +kernel) (by decide))),
  List.forall_mem_cons.mpr ⟨(xOK_pure (xs_iload_n (k := 3) rfl (show decode cX12_led 7 = .ok (.iload_n 3, 1) by decide +kernel))),
  List.forall_mem_cons.mpr ⟨(xOK_pure (xs_bipush (n := 16) (show decode cX12_led 8 = .ok (.bipush 16, 2) by decide +kernel) (by decide))),
  List.forall_mem_cons.mpr ⟨(xOK_pure (xs_icmp_ne (show decode cX12_led 10 = .ok (.if_icmp .ne 4, 3) by decide +kernel) (by decide))),
  List.forall_mem_cons.mpr ⟨(Or.inl ⟨rfl, (show decode cX12_led 13 = .ok (.return_, 1) by decide +kernel), rfl⟩),
  List.forall_mem_cons.mpr ⟨(xOK_pure (xs_aload_n (k := 0) rfl (show decode cX12_led 14 = .ok (.aload_n 0, 1) by decide +kernel))),
  List.forall_mem_cons.mpr ⟨(xOK_pure (xs_iload_n (k := 1) rfl (show decode cX12_led 15 = .ok (.iload_n 1, 1) by decide +kernel))),
  List.forall_mem_cons.mpr ⟨(xOK_pure (xs_iconst (n := 5) (show decode cX12_led 16 = .ok (.iconst 5, 1) by decide +kernel) (by decide))),
  List.forall_mem_cons.mpr ⟨(xOK_pure (xs_iconst (n := 2) (show decode cX12_led 17 = .ok (.iconst 2, 1) by decide +kernel) (by decide))),
  List.forall_mem_cons.mpr ⟨(xOK_pure (xs_iload_n (k := 3) rfl (show decode cX12_led 18 = .ok (.iload_n 3, 1) by decide +kernel))),
  List.forall_mem_cons.mpr ⟨(xOK_pure (xs_imul (show decode cX12_led 19 = .ok (.imul, 1) by decide +kernel))),
  List.forall_mem_cons.mpr ⟨(xOK_pure (xs_iadd (show decode cX12_led 20 = .ok (.iadd, 1) by decide +kernel))),
  List.forall_mem_cons.mpr ⟨(xOK_pure (xs_aload_n (k := 0) rfl (show decode cX12_led 21 = .ok (.aload_n 0, 1) by decide +kernel))),
  List.forall_mem_cons.mpr ⟨(xOK_pure (xs_getf xcl_12 (by decide) (show decode cX12_led 22 = .ok (.getfield 121, 3) by decide +kernel) xw_1757)),
  List.forall_mem_cons.mpr ⟨(xOK_pure (xs_iconst (n := 0) (show decode cX12_led 25 = .ok (.iconst 0, 1) by decide +kernel) (by decide))),
  List.forall_mem_cons.mpr ⟨(xOK_pure (xs_iald (show decode cX12_led 26 = .ok (.iaload, 1) by decide +kernel))),
  (fun _ h => absurd h List.not_mem_nil)⟩⟩⟩⟩⟩⟩⟩⟩⟩⟩⟩⟩⟩⟩⟩⟩⟩⟩⟩⟩
def pX12_led_1 (ev : xEv) : List (Nat × xEn) := [(27, .inr (.inl (0, 200, 3, 12))), (30, .inl (xop (xf_aload 0 1))), (31, .inl (xop (xf_iload 1 1))), (32, .inl (xop (xf_push (.int 5) 1))), (33, .inl (xop (xf_push (.int 2) 1))), (34, .inl (xop (xf_iload 3 1))), (35, .inl (xop (xf_bin (fun x y => x * y)))), (36, .inl (xop (xf_bin (fun x y => x + y)))), (37, .inl (xop (xf_push (.int 1) 1))), (38, .inl (xop (xf_bin (fun x y => x + y)))), (39, .inl (xop (xf_iload 2 1))), (40, .inr (.inl (0, 200, 3, 12))), (43, .inl (xop (xf_aload 0 1))), (44, .inl (xop (xf_iload 1 1))), (45, .inl (xop (xf_push (.int 4) 1))), (46, .inl (xop (xf_iload 3 1))), (47, .inl (xop (xf_push (.int 1) 1))), (48, .inl (xop (xf_bin (fun x y => x + y)))), (49, .inr (.inl (0, 200, 3, 12))), (52, .inr (.inr 0))]
set_option maxRecDepth 20000 in
theorem okpX12_led_1 (ev : xEv) : ∀ q ∈ pX12_led_1 ev, xEnOK ev xmi yX12_led.cls yX12_led.name cX12_led 4 none q :=
  List.forall_mem_cons.mpr ⟨(xcm mi_200 ⟨⟨(by decide +kernel), (by decide +kernel), (by decide +kernel)⟩, (by decide), xw_2021, xw_125, Or.inl ⟨rfl, _, _, _, _, (show decode cX12_led 27 = .ok (.invokevirtual 218, 3) by decide +kernel), xw_2018, xw_2020, xw_65, rfl⟩⟩),
  List.forall_mem_cons.mpr ⟨(xOK_pure (xs_aload_n (k := 0) rfl (show decode cX12_led 30 = .ok (.aload_n 0, 1) by decide +kernel))),
  List.forall_mem_cons.mpr ⟨(xOK_pure (xs_iload_n (k := 1) rfl (show decode cX12_led 31 = .ok (.iload_n 1, 1) by decide +kernel))),
  List.forall_mem_cons.mpr ⟨(xOK_pure (xs_iconst (n := 5) (show decode cX12_led 32 = .ok (.iconst 5, 1) by decide +kernel) (by decide))),
  List.forall_mem_cons.mpr ⟨(xOK_pure (xs_iconst (n := 2) (show decode cX12_led 33 = .ok (.iconst 2, 1) by decide +kernel) (by decide))),
  List.forall_mem_cons.mpr ⟨(xOK_pure (xs_iload_n (k := 3) rfl (show decode cX12_led 34 = .ok (.iload_n 3, 1) by decide +kernel))),
  List.forall_mem_cons.mpr ⟨(xOK_pure (xs_imul (show decode cX12_led 35 = .ok (.imul, 1) by decide +kernel))),
  List.forall_mem_cons.mpr ⟨(xOK_pure (xs_iadd (show decode cX12_led 36 = .ok (.iadd, 1) by decide +kernel))),
  List.forall_mem_cons.mpr ⟨(xOK_pure (xs_iconst (n := 1) (show decode cX12_led 37 = .ok (.iconst 1, 1) by decide +kernel) (by decide))),
  List.forall_mem_cons.mpr ⟨(xOK_pure (xs_iadd (show decode cX12_led 38 = .ok (.iadd, 1) by decide +kernel))),
  List.forall_mem_cons.mpr ⟨(xOK_pure (xs_iload_n (k := 2) rfl (show decode cX12_led 39 = .ok (.iload_n 2, 1) by decide +kernel))),
  List.forall_mem_cons.mpr ⟨(xcm mi_200 ⟨⟨(by decide +kernel), (by decide +kernel), (by decide +kernel)⟩, (by decide), xw_2021, xw_125, Or.inl ⟨rfl, _, _, _, _, (show decode cX12_led 40 = .ok (.invokevirtual 218, 3) by decide +kernel), xw_2018, xw_2020, xw_65, rfl⟩⟩),
  List.forall_mem_cons.mpr ⟨(xOK_pure (xs_aload_n (k := 0) rfl (show decode cX12_led 43 = .ok (.aload_n 0, 1) by decide +kernel))),
  List.forall_mem_cons.mpr ⟨(xOK_pure (xs_iload_n (k := 1) rfl (show decode cX12_led 44 = .ok (.iload_n 1, 1) by decide +kernel))),
  List.forall_mem_cons.mpr ⟨(xOK_pure (xs_iconst (n := 4) (show decode cX12_led 45 = .ok (.iconst 4, 1) by decide +kernel) (by decide))),
  List.forall_mem_cons.mpr ⟨(xOK_pure (xs_iload_n (k := 3) rfl (show decode cX12_led 46 = .ok (.iload_n 3, 1) by decide +kernel))),
  List.forall_mem_cons.mpr ⟨(xOK_pure (xs_iconst (n := 1) (show decode cX12_led 47 = .ok (.iconst 1, 1) by decide +kernel) (by decide))),
  List.forall_mem_cons.mpr ⟨(xOK_pure (xs_iadd (show decode cX12_led 48 = .ok (.iadd, 1) by decide +kernel))),
  List.forall_mem_cons.mpr ⟨(xcm mi_200 ⟨⟨(by decide +kernel), (by decide +kernel), (by decide +kernel)⟩, (by decide), xw_2021, xw_125, Or.inl ⟨rfl, _, _, _, _, (show decode cX12_led 49 = .ok (.invokevirtual 218, 3) by decide +kernel), xw_2018, xw_2020, xw_65, rfl⟩⟩),
  List.forall_mem_cons.mpr ⟨(Or.inl ⟨rfl, (show decode cX12_led 52 = .ok (.return_, 1) by decide +kernel), rfl⟩),
  (fun _ h => absurd h List.not_mem_nil)⟩⟩⟩⟩⟩⟩⟩⟩⟩⟩⟩⟩⟩⟩⟩⟩⟩⟩⟩⟩
def pX12_led (ev : xEv) : List (Nat × xEn) := pX12_led_0 ev ++ (pX12_led_1 ev)
theorem okpX12_led (ev : xEv) : ∀ q ∈ pX12_led ev, xEnOK ev xmi yX12_led.cls yX12_led.name cX12_led 4 none q := List.forall_mem_append.mpr ⟨okpX12_led_0 ev, okpX12_led_1 ev⟩
theorem omX12_led (ev : xEv) : xMethOK ev xmi yX12_led.cls yX12_led.name 223 (pX12_led ev) := xMethOK.of mi_223 (by decide +kernel) (okpX12_led ev)
def pX12_bag_0 (ev : xEv) : List (Nat × xEn) := [(0, .inl (xop (xf_aload 0 1))), (1, .inl (xop (xf_push (.int 0) 1))), (2, .inl (xo_putf 12 47 .int)), (5, .inl (xop (xf_aload 0 1))), (6, .inl (xop (xf_iload 1 1))), (7, .inr (.inl (0, 190, 1, 12))), (10, .inl (xop (xf_if_eq 85))), (13, .inl (xop (xf_aload 0 1))), (14, .inl (xop (xf_iload 2 1))), (15, .inr (.inl (0, 190, 1, 12))), (18, .inl (xop (xf_if_eq 85))), (21, .inl (xop (xf_iload 1 1))), (22, .inl (xop (xf_iload 2 1))), (23, .inl (xop (xf_icmp_eq 85))), (26, .inl (xop (xf_aload 0 1))), (27, .inl (xop (xf_getf 12 10))), (30, .inl (xop (xf_push (.int 8) 2))), (32, .inl (xop (xf_iload 1 1))), (33, .inl (xop (xf_bin (fun x y => x * y)))), (34, .inl (xop (xf_iload 2 1)))]
set_option maxRecDepth 20000 in
theorem okpX12_bag_0 (ev : xEv) : ∀ q ∈ pX12_bag_0 ev, xEnOK ev xmi yX12_bag.cls yX12_bag.name cX12_bag 6 (some .int) q :=
  List.forall_mem_cons.mpr ⟨(xOK_pure (xs_aload_n (k := 0) rfl (show decode cX12_bag 0 = .ok (.aload_n 0, 1) by decide +kernel))),
  List.forall_mem_cons.mpr ⟨(xOK_pure (xs_iconst (n := 0) (show decode cX12_bag 1 = .ok (.iconst 0, 1) by decide +kernel) (by decide))),
  List.forall_mem_cons.mpr ⟨(xs_putf (k := 47) xcl_12 (by decide) rfl (show decode cX12_bag 2 = .ok (.putfield 140, 3) by decide +kernel) xw_1756),
  List.forall_mem_cons.mpr ⟨(xOK_pure (xs_aload_n (k := 0) rfl (show decode cX12_bag 5 = .ok (.aload_n 0, 1) by decide +kernel))),
  List.forall_mem_cons.mpr ⟨(xOK_pure (xs_iload_n (k := 1) rfl (show decode cX12_bag 6 = .ok (.iload_n 1, 1) by decide +kernel))),
  List.forall_mem_cons.mpr ⟨(xcm mi_190 ⟨⟨(by decide +kernel), (by decide +kernel), (by decide +kernel)⟩, (by decide), xw_1920, xw_125, Or.inl ⟨rfl, _, _, _, _, (show decode cX12_bag 7 = .ok (.invokevirtual 162, 3) by decide +kernel), xw_1917, xw_1919, xw_52, rfl⟩⟩),
  List.forall_mem_cons.mpr ⟨(xOK_pure (xs_if_eq (show decode cX12_bag 10 = .ok (.ifCond .eq 75, 3) by decide +kernel) (by decide))),
  List.forall_mem_cons.mpr ⟨(xOK_pure (xs_aload_n (k := 0) rfl (show decode cX12_bag 13 = .ok (.aload_n 0, 1) by decide +kernel))),
  List.forall_mem_cons.mpr ⟨(xOK_pure (xs_iload_n (k := 2) rfl (show decode cX12_bag 14 = .ok (.iload_n 2, 1) by decide +kernel))),
  List.forall_mem_cons.mpr ⟨(xcm mi_190 ⟨⟨(by decide +kernel), (by decide +kernel), (by decide +kernel)⟩, (by decide), xw_1920, xw_125, Or.inl ⟨rfl, _, _, _, _, (show decode cX12_bag 15 = .ok (.invokevirtual 162, 3) by decide +kernel), xw_1917, xw_1919, xw_52, rfl⟩⟩),
  List.forall_mem_cons.mpr ⟨(xOK_pure (xs_if_eq (show decode cX12_bag 18 = .ok (.ifCond .eq 67, 3) by decide +kernel) (by decide))),
  List.forall_mem_cons.mpr ⟨(xOK_pure (xs_iload_n (k := 1) rfl (show decode cX12_bag 21 = .ok (.iload_n 1, 1) by decide +kernel))),
  List.forall_mem_cons.mpr ⟨(xOK_pure (xs_iload_n (k := 2) rfl (show decode cX12_bag 22 = .ok (.iload_n 2, 1) by decide +kernel))),
  List.forall_mem_cons.mpr ⟨(xOK_pure (xs_icmp_eq (show decode cX12_bag 23 = .ok (.if_icmp .eq 62, 3) by decide +kernel) (by decide))),
  List.forall_mem_cons.mpr ⟨(xOK_pure (xs_aload_n (k := 0) rfl (show decode cX12_bag 26 = .ok (.aload_n 0, 1) by decide +kernel))),
  List.forall_mem_cons.mpr ⟨(xOK_pure (xs_getf xcl_12 (by decide) (show decode cX12_bag 27 = .ok (.getfield 34, 3) by decide +kernel) xw_1719)),
  List.forall_mem_cons.mpr ⟨(xOK_pure (xs_bipush (n := 8) (show decode cX12_bag 30 = .ok (.bipush 8, 2) by decide +kernel) (by decide))),
  List.forall_mem_cons.mpr ⟨(xOK_pure (xs_iload_n (k := 1) rfl (show decode cX12_bag 32 = .ok (.iload_n 1, 1) by decide +kernel))),
  List.forall_mem_cons.mpr ⟨(xOK_pure (xs_imul (show decode cX12_bag 33 = .ok (.imul, 1) by decide +kernel))),
  List.forall_mem_cons.mpr ⟨(xOK_pure (xs_iload_n (k := 2) rfl (show decode cX12_bag 34 = .ok (.iload_n 2, 1) by decide +kernel))),
  (fun _ h => absurd h List.not_mem_nil)⟩⟩⟩⟩⟩⟩⟩⟩⟩⟩⟩⟩⟩⟩⟩⟩⟩⟩⟩⟩
def pX12_bag_1 (ev : xEv) : List (Nat × xEn) := [(35, .inl (xop (xf_bin (fun x y => x + y)))), (36, .inl (xop (xf_ald (ev.1 0)))), (37, .inl (xop (xf_push (.int 268435456) 2))), (39, .inl (xop (xf_icmp_ge 85))), (42, .inl (xop (xf_iload 3 1))), (43, .inl (xop (xf_push (.int 1) 1))), (44, .inl (xop (xf_push (.int 500) 3))), (47, .inr (.inl (1, 188, 3, 12))), (50, .inl (xop (xf_if_eq 85))), (53, .inl (xop (xf_iload 4 2))), (55, .inl (xop (xf_push (.int 0) 1))), (56, .inl (xop (xf_push (.int 9) 2))), (58, .inr (.inl (1, 188, 3, 12))), (61, .inl (xop (xf_if_eq 85))), (64, .inl (xop (xf_iload 5 2))), (66, .inl (xop (xf_push (.int 0) 1))), (67, .inl (xop (xf_push (.int 3000) 3))), (70, .inr (.inl (1, 188, 3, 12))), (73, .inl (xop (xf_if_eq 85))), (76, .inl (xop (xf_aload 0 1)))]
set_option maxRecDepth 20000 in
theorem okpX12_bag_1 (ev : xEv) : ∀ q ∈ pX12_bag_1 ev, xEnOK ev xmi yX12_bag.cls yX12_bag.name cX12_bag 6 (some .int) q :=
  List.forall_mem_cons.mpr ⟨(xOK_pure (xs_iadd (show decode cX12_bag 35 = .ok (.iadd, 1) by decide +kernel))),
  List.forall_mem_cons.mpr ⟨(xOK_pure (xs_iald (show decode cX12_bag 36 = .ok (.iaload, 1) by decide +kernel))),
  List.forall_mem_cons.mpr ⟨(xOK_pure (xs_ldc (show decode cX12_bag 37 = .ok (.ldc 139, 2) by decide +kernel) xw_1708)),
  List.forall_mem_cons.mpr ⟨(xOK_pure (xs_icmp_ge (show decode cX12_bag 39 = .ok (.if_icmp .ge 46, 3) by decide +kernel) (by decide))),
  List.forall_mem_cons.mpr ⟨(xOK_pure (xs_iload_n (k := 3) rfl (show decode cX12_bag 42 = .ok (.iload_n 3, 1) by decide +kernel))),
  List.forall_mem_cons.mpr ⟨(xOK_pure (xs_iconst (n := 1) (show decode cX12_bag 43 = .ok (.iconst 1, 1) by decide +kernel) (by decide))),
  List.forall_mem_cons.mpr ⟨(xOK_pure (xs_sipush (n := 500) (show decode cX12_bag 44 = .ok (.sipush 500, 3) by decide +kernel) (by decide))),
  List.forall_mem_cons.mpr ⟨(xcm mi_188 ⟨⟨(by decide +kernel), (by decide +kernel), (by decide +kernel)⟩, (by decide), xw_1912, xw_125, Or.inr (Or.inl ⟨rfl, _, (show decode cX12_bag 47 = .ok (.invokestatic 146, 3) by decide +kernel), xw_1910, xw_1911⟩)⟩),
  List.forall_mem_cons.mpr ⟨(xOK_pure (xs_if_eq (show decode cX12_bag 50 = .ok (.ifCond .eq 35, 3) by decide +kernel) (by decide))),
  List.forall_mem_cons.mpr ⟨(xOK_pure (xs_iload (show decode cX12_bag 53 = .ok (.iload 4, 2) by decide +kernel))),
  List.forall_mem_cons.mpr ⟨(xOK_pure (xs_iconst (n := 0) (show decode cX12_bag 55 = .ok (.iconst 0, 1) by decide +kernel) (by decide))),
  List.forall_mem_cons.mpr ⟨(xOK_pure (xs_bipush (n := 9) (show decode cX12_bag 56 = .ok (.bipush 9, 2) by decide +kernel) (by decide))),
  List.forall_mem_cons.mpr ⟨(xcm mi_188 ⟨⟨(by decide +kernel), (by decide +kernel), (by decide +kernel)⟩, (by decide), xw_1912, xw_125, Or.inr (Or.inl ⟨rfl, _, (show decode cX12_bag 58 = .ok (.invokestatic 146, 3) by decide +kernel), xw_1910, xw_1911⟩)⟩),
  List.forall_mem_cons.mpr ⟨(xOK_pure (xs_if_eq (show decode cX12_bag 61 = .ok (.ifCond .eq 24, 3) by decide +kernel) (by decide))),
  List.forall_mem_cons.mpr ⟨(xOK_pure (xs_iload (show decode cX12_bag 64 = .ok (.iload 5, 2) by decide +kernel))),
  List.forall_mem_cons.mpr ⟨(xOK_pure (xs_iconst (n := 0) (show decode cX12_bag 66 = .ok (.iconst 0, 1) by decide +kernel) (by decide))),
  List.forall_mem_cons.mpr ⟨(xOK_pure (xs_sipush (n := 3000) (show decode cX12_bag 67 = .ok (.sipush 3000, 3) by decide +kernel) (by decide))),
  List.forall_mem_cons.mpr ⟨(xcm mi_188 ⟨⟨(by decide +kernel), (by decide +kernel), (by decide +kernel)⟩, (by decide), xw_1912, xw_125, Or.inr (Or.inl ⟨rfl, _, (show decode cX12_bag 70 = .ok (.invokestatic 146, 3) by decide +kernel), xw_1910, xw_1911⟩)⟩),
  List.forall_mem_cons.mpr ⟨(xOK_pure (xs_if_eq (show decode cX12_bag 73 = .ok (.ifCond .eq 12, 3) by decide +kernel) (by decide))),
  List.forall_mem_cons.mpr ⟨(xOK_pure (xs_aload_n (k := 0) rfl (show decode cX12_bag 76 = .ok (.aload_n 0, 1) by decide +kernel))),
  (fun _ h => absurd h List.not_mem_nil)⟩⟩⟩⟩⟩⟩⟩⟩⟩⟩⟩⟩⟩⟩⟩⟩⟩⟩⟩⟩
def pX12_bag_2 (ev : xEv) : List (Nat × xEn) := [(77, .inl (xop (xf_getf 12 28))), (80, .inl (xop (xf_push (.int 30) 2))), (82, .inl (xop (xf_icmp_ne 87))), (85, .inl (xop (xf_push (.int (-1)) 1))), (86, .inr (.inr 1)), (87, .inl (xop (xf_aload 0 1))), (88, .inl (xop (xf_getf 12 23))), (91, .inl (xop (xf_aload 0 1))), (92, .inl (xop (xf_getf 12 28))), (95, .inl (xop (xf_iload 1 1))), (96, .inl (xo_ast (ev.1 0) (fun x => x))), (97, .inl (xop (xf_aload 0 1))), (98, .inl (xop (xf_getf 12 24))), (101, .inl (xop (xf_aload 0 1))), (102, .inl (xop (xf_getf 12 28))), (105, .inl (xop (xf_iload 2 1))), (106, .inl (xo_ast (ev.1 0) (fun x => x))), (107, .inl (xop (xf_aload 0 1))), (108, .inl (xop (xf_getf 12 25))), (111, .inl (xop (xf_aload 0 1)))]
set_option maxRecDepth 20000 in
theorem okpX12_bag_2 (ev : xEv) : ∀ q ∈ pX12_bag_2 ev, xEnOK ev xmi yX12_bag.cls yX12_bag.name cX12_bag 6 (some .int) q :=
  List.forall_mem_cons.mpr ⟨(xOK_pure (xs_getf xcl_12 (by decide) (show decode cX12_bag 77 = .ok (.getfield 159, 3) by decide +kernel) xw_1737)),
  List.forall_mem_cons.mpr ⟨(xOK_pure (xs_bipush (n := 30) (show decode cX12_bag 80 = .ok (.bipush 30, 2) by decide +kernel) (by decide))),
  List.forall_mem_cons.mpr ⟨(xOK_pure (xs_icmp_ne (show decode cX12_bag 82 = .ok (.if_icmp .ne 5, 3) by decide +kernel) (by decide))),
  List.forall_mem_cons.mpr ⟨(xOK_pure (xs_iconst (n := (-1)) (show decode cX12_bag 85 = .ok (.iconst (-1), 1) by decide +kernel) (by decide))),
  List.forall_mem_cons.mpr ⟨(Or.inr (Or.inl ⟨rfl, (show decode cX12_bag 86 = .ok (.ireturn, 1) by decide +kernel), rfl⟩)),
  List.forall_mem_cons.mpr ⟨(xOK_pure (xs_aload_n (k := 0) rfl (show decode cX12_bag 87 = .ok (.aload_n 0, 1) by decide +kernel))),
  List.forall_mem_cons.mpr ⟨(xOK_pure (xs_getf xcl_12 (by decide) (show decode cX12_bag 88 = .ok (.getfield 65, 3) by decide +kernel) xw_1732)),
  List.forall_mem_cons.mpr ⟨(xOK_pure (xs_aload_n (k := 0) rfl (show decode cX12_bag 91 = .ok (.aload_n 0, 1) by decide +kernel))),
  List.forall_mem_cons.mpr ⟨(xOK_pure (xs_getf xcl_12 (by decide) (show decode cX12_bag 92 = .ok (.getfield 159, 3) by decide +kernel) xw_1737)),
  List.forall_mem_cons.mpr ⟨(xOK_pure (xs_iload_n (k := 1) rfl (show decode cX12_bag 95 = .ok (.iload_n 1, 1) by decide +kernel))),
  List.forall_mem_cons.mpr ⟨(xs_iast (show decode cX12_bag 96 = .ok (.iastore, 1) by decide +kernel)),
  List.forall_mem_cons.mpr ⟨(xOK_pure (xs_aload_n (k := 0) rfl (show decode cX12_bag 97 = .ok (.aload_n 0, 1) by decide +kernel))),
  List.forall_mem_cons.mpr ⟨(xOK_pure (xs_getf xcl_12 (by decide) (show decode cX12_bag 98 = .ok (.getfield 68, 3) by decide +kernel) xw_1733)),
  List.forall_mem_cons.mpr ⟨(xOK_pure (xs_aload_n (k := 0) rfl (show decode cX12_bag 101 = .ok (.aload_n 0, 1) by decide +kernel))),
  List.forall_mem_cons.mpr ⟨(xOK_pure (xs_getf xcl_12 (by decide) (show decode cX12_bag 102 = .ok (.getfield 159, 3) by decide +kernel) xw_1737)),
  List.forall_mem_cons.mpr ⟨(xOK_pure (xs_iload_n (k := 2) rfl (show decode cX12_bag 105 = .ok (.iload_n 2, 1) by decide +kernel))),
  List.forall_mem_cons.mpr ⟨(xs_iast (show decode cX12_bag 106 = .ok (.iastore, 1) by decide +kernel)),
  List.forall_mem_cons.mpr ⟨(xOK_pure (xs_aload_n (k := 0) rfl (show decode cX12_bag 107 = .ok (.aload_n 0, 1) by decide +kernel))),
  List.forall_mem_cons.mpr ⟨(xOK_pure (xs_getf xcl_12 (by decide) (show decode cX12_bag 108 = .ok (.getfield 71, 3) by decide +kernel) xw_1734)),
  List.forall_mem_cons.mpr ⟨(xOK_pure (xs_aload_n (k := 0) rfl (show decode cX12_bag 111 = .ok (.aload_n 0, 1) by decide +kernel))),
  (fun _ h => absurd h List.not_mem_nil)⟩⟩⟩⟩⟩⟩⟩⟩⟩⟩⟩⟩⟩⟩⟩⟩⟩⟩⟩⟩
def pX12_bag_3 (ev : xEv) : List (Nat × xEn) := [(112, .inl (xop (xf_getf 12 28))), (115, .inl (xop (xf_iload 3 1))), (116, .inl (xo_ast (ev.1 0) (fun x => x))), (117, .inl (xop (xf_aload 0 1))), (118, .inl (xop (xf_getf 12 26))), (121, .inl (xop (xf_aload 0 1))), (122, .inl (xop (xf_getf 12 28))), (125, .inl (xop (xf_iload 4 2))), (127, .inl (xo_ast (ev.1 0) (fun x => x))), (128, .inl (xop (xf_aload 0 1))), (129, .inl (xop (xf_getf 12 27))), (132, .inl (xop (xf_aload 0 1))), (133, .inl (xop (xf_getf 12 28))), (136, .inl (xop (xf_iload 5 2))), (138, .inl (xo_ast (ev.1 0) (fun x => x))), (139, .inl (xop (xf_aload 0 1))), (140, .inl (xop (xf_aload 0 1))), (141, .inl (xop (xf_getf 12 28))), (144, .inl (xop (xf_push (.int 0) 1))), (145, .inl (xop (xf_iload 1 1)))]
set_option maxRecDepth 20000 in
theorem okpX12_bag_3 (ev : xEv) : ∀ q ∈ pX12_bag_3 ev, xEnOK ev xmi yX12_bag.cls yX12_bag.name cX12_bag 6 (some .int) q :=
  List.forall_mem_cons.mpr ⟨(xOK_pure (xs_getf xcl_12 (by decide) (show decode cX12_bag 112 = .ok (.getfield 159, 3) by decide +kernel) xw_1737)),
  List.forall_mem_cons.mpr ⟨(xOK_pure (xs_iload_n (k := 3) rfl (show decode cX12_bag 115 = .ok (.iload_n 3, 1) by decide +kernel))),
  List.forall_mem_cons.mpr ⟨(xs_iast (show decode cX12_bag 116 = .ok (.iastore, 1) by decide +kernel)),
  List.forall_mem_cons.mpr ⟨(xOK_pure (xs_aload_n (k := 0) rfl (show decode cX12_bag 117 = .ok (.aload_n 0, 1) by decide +kernel))),
  List.forall_mem_cons.mpr ⟨(xOK_pure (xs_getf xcl_12 (by decide) (show decode cX12_bag 118 = .ok (.getfield 74, 3) by decide +kernel) xw_1735)),
  List.forall_mem_cons.mpr ⟨(xOK_pure (xs_aload_n (k := 0) rfl (show decode cX12_bag 121 = .ok (.aload_n 0, 1) by decide +kernel))),
  List.forall_mem_cons.mpr ⟨(xOK_pure (xs_getf xcl_12 (by decide) (show decode cX12_bag 122 = .ok (.getfield 159, 3) by decide +kernel) xw_1737)),
  List.forall_mem_cons.mpr ⟨(xOK_pure (xs_iload (show decode cX12_bag 125 = .ok (.iload 4, 2) by decide +kernel))),
  List.forall_mem_cons.mpr ⟨(xs_iast (show decode cX12_bag 127 = .ok (.iastore, 1) by decide +kernel)),
  List.forall_mem_cons.mpr ⟨(xOK_pure (xs_aload_n (k := 0) rfl (show decode cX12_bag 128 = .ok (.aload_n 0, 1) by decide +kernel))),
  List.forall_mem_cons.mpr ⟨(xOK_pure (xs_getf xcl_12 (by decide) (show decode cX12_bag 129 = .ok (.getfield 77, 3) by decide +kernel) xw_1736)),
  List.forall_mem_cons.mpr ⟨(xOK_pure (xs_aload_n (k := 0) rfl (show decode cX12_bag 132 = .ok (.aload_n 0, 1) by decide +kernel))),
  List.forall_mem_cons.mpr ⟨(xOK_pure (xs_getf xcl_12 (by decide) (show decode cX12_bag 133 = .ok (.getfield 159, 3) by decide +kernel) xw_1737)),
  List.forall_mem_cons.mpr ⟨(xOK_pure (xs_iload (show decode cX12_bag 136 = .ok (.iload 5, 2) by decide +kernel))),
  List.forall_mem_cons.mpr ⟨(xs_iast (show decode cX12_bag 138 = .ok (.iastore, 1) by decide +kernel)),
  List.forall_mem_cons.mpr ⟨(xOK_pure (xs_aload_n (k := 0) rfl (show decode cX12_bag 139 = .ok (.aload_n 0, 1) by decide +kernel))),
  List.forall_mem_cons.mpr ⟨(xOK_pure (xs_aload_n (k := 0) rfl (show decode cX12_bag 140 = .ok (.aload_n 0, 1) by decide +kernel))),
  List.forall_mem_cons.mpr ⟨(xOK_pure (xs_getf xcl_12 (by decide) (show decode cX12_bag 141 = .ok (.getfield 159, 3) by decide +kernel) xw_1737)),
  List.forall_mem_cons.mpr ⟨(xOK_pure (xs_iconst (n := 0) (show decode cX12_bag 144 = .ok (.iconst 0, 1) by decide +kernel) (by decide))),
  List.forall_mem_cons.mpr ⟨(xOK_pure (xs_iload_n (k := 1) rfl (show decode cX12_bag 145 = .ok (.iload_n 1, 1) by decide +kernel))),
  (fun _ h => absurd h List.not_mem_nil)⟩⟩⟩⟩⟩⟩⟩⟩⟩⟩⟩⟩⟩⟩⟩⟩⟩⟩⟩⟩
def pX12_bag_4 (ev : xEv) : List (Nat × xEn) := [(146, .inr (.inl (0, 200, 3, 12))), (149, .inl (xop (xf_aload 0 1))), (150, .inl (xop (xf_aload 0 1))), (151, .inl (xop (xf_getf 12 28))), (154, .inl (xop (xf_push (.int 1) 1))), (155, .inl (xop (xf_push (.int (-1)) 1))), (156, .inr (.inl (0, 200, 3, 12))), (159, .inl (xop (xf_aload 0 1))), (160, .inl (xop (xf_aload 0 1))), (161, .inl (xop (xf_getf 12 28))), (164, .inl (xop (xf_push (.int 2) 1))), (165, .inl (xop (xf_push (.int (-1)) 1))), (166, .inr (.inl (0, 200, 3, 12))), (169, .inl (xop (xf_aload 0 1))), (170, .inl (xop (xf_aload 0 1))), (171, .inl (xop (xf_getf 12 28))), (174, .inl (xop (xf_push (.int 3) 1))), (175, .inl (xop (xf_push (.int (-1)) 1))), (176, .inr (.inl (0, 200, 3, 12))), (179, .inl (xop (xf_aload 0 1)))]
set_option maxRecDepth 20000 in
theorem okpX12_bag_4 (ev : xEv) : ∀ q ∈ pX12_bag_4 ev, xEnOK ev xmi yX12_bag.cls yX12_bag.name cX12_bag 6 (some .int) q :=
  List.forall_mem_cons.mpr ⟨(xcm mi_200 ⟨⟨(by decide +kernel), (by decide +kernel), (by decide +kernel)⟩, (by decide), xw_2021, xw_125, Or.inl ⟨rfl, _, _, _, _, (show decode cX12_bag 146 = .ok (.invokevirtual 218, 3) by decide +kernel), xw_2018, xw_2020, xw_65, rfl⟩⟩),
  List.forall_mem_cons.mpr ⟨(xOK_pure (xs_aload_n (k := 0) rfl (show decode cX12_bag 149 = .ok (.aload_n 0, 1) by decide +kernel))),
  List.forall_mem_cons.mpr ⟨(xOK_pure (xs_aload_n (k := 0) rfl (show decode cX12_bag 150 = .ok (.aload_n 0, 1) by decide +kernel))),
  List.forall_mem_cons.mpr ⟨(xOK_pure (xs_getf xcl_12 (by decide) (show decode cX12_bag 151 = .ok (.getfield 159, 3) by decide +kernel) xw_1737)),
  List.forall_mem_cons.mpr ⟨(xOK_pure (xs_iconst (n := 1) (show decode cX12_bag 154 = .ok (.iconst 1, 1) by decide +kernel) (by decide))),
  List.forall_mem_cons.mpr ⟨(xOK_pure (xs_iconst (n := (-1)) (show decode cX12_bag 155 = .ok (.iconst (-1), 1) by decide +kernel) (by decide))),
  List.forall_mem_cons.mpr ⟨(xcm mi_200 ⟨⟨(by decide +kernel), (by decide +kernel), (by decide +kernel)⟩, (by decide), xw_2021, xw_125, Or.inl ⟨rfl, _, _, _, _, (show decode cX12_bag 156 = .ok (.invokevirtual 218, 3) by decide +kernel), xw_2018, xw_2020, xw_65, rfl⟩⟩),
  List.forall_mem_cons.mpr ⟨(xOK_pure (xs_aload_n (k := 0) rfl (show decode cX12_bag 159 = .ok (.aload_n 0, 1) by decide +kernel))),
  List.forall_mem_cons.mpr ⟨(xOK_pure (xs_aload_n (k := 0) rfl (show decode cX12_bag 160 = .ok (.aload_n 0, 1) by decide +kernel))),
  List.forall_mem_cons.mpr ⟨(xOK_pure (xs_getf xcl_12 (by decide) (show decode cX12_bag 161 = .ok (.getfield 159, 3) by decide +kernel) xw_1737)),
  List.forall_mem_cons.mpr ⟨(xOK_pure (xs_iconst (n := 2) (show decode cX12_bag 164 = .ok (.iconst 2, 1) by decide +kernel) (by decide))),
  List.forall_mem_cons.mpr ⟨(xOK_pure (xs_iconst (n := (-1)) (show decode cX12_bag 165 = .ok (.iconst (-1), 1) by decide +kernel) (by decide))),
  List.forall_mem_cons.mpr ⟨(xcm mi_200 ⟨⟨(by decide +kernel), (by decide +kernel), (by decide +kernel)⟩, (by decide), xw_2021, xw_125, Or.inl ⟨rfl, _, _, _, _, (show decode cX12_bag 166 = .ok (.invokevirtual 218, 3) by decide +kernel), xw_2018, xw_2020, xw_65, rfl⟩⟩),
  List.forall_mem_cons.mpr ⟨(xOK_pure (xs_aload_n (k := 0) rfl (show decode cX12_bag 169 = .ok (.aload_n 0, 1) by decide +kernel))),
  List.forall_mem_cons.mpr ⟨(xOK_pure (xs_aload_n (k := 0) rfl (show decode cX12_bag 170 = .ok (.aload_n 0, 1) by decide +kernel))),
  List.forall_mem_cons.mpr ⟨(xOK_pure (xs_getf xcl_12 (by decide) (show decode cX12_bag 171 = .ok (.getfield 159, 3) by decide +kernel) xw_1737)),
  List.forall_mem_cons.mpr ⟨(xOK_pure (xs_iconst (n := 3) (show decode cX12_bag 174 = .ok (.iconst 3, 1) by decide +kernel) (by decide))),
  List.forall_mem_cons.mpr ⟨(xOK_pure (xs_iconst (n := (-1)) (show decode cX12_bag 175 = .ok (.iconst (-1), 1) by decide +kernel) (by decide))),
  List.forall_mem_cons.mpr ⟨(xcm mi_200 ⟨⟨(by decide +kernel), (by decide +kernel), (by decide +kernel)⟩, (by decide), xw_2021, xw_125, Or.inl ⟨rfl, _, _, _, _, (show decode cX12_bag 176 = .ok (.invokevirtual 218, 3) by decide +kernel), xw_2018, xw_2020, xw_65, rfl⟩⟩),
  List.forall_mem_cons.mpr ⟨(xOK_pure (xs_aload_n (k := 0) rfl (show decode cX12_bag 179 = .ok (.aload_n 0, 1) by decide +kernel))),
  (fun _ h => absurd h List.not_mem_nil)⟩⟩⟩⟩⟩⟩⟩⟩⟩⟩⟩⟩⟩⟩⟩⟩⟩⟩⟩⟩
def pX12_bag_5 (ev : xEv) : List (Nat × xEn) := [(180, .inl (xop (xf_aload 0 1))), (181, .inl (xop (xf_getf 12 28))), (184, .inl (xop (xf_push (.int 4) 1))), (185, .inl (xop (xf_push (.int 0) 1))), (186, .inr (.inl (0, 200, 3, 12))), (189, .inl (xop (xf_aload 0 1))), (190, .inl (xop (xf_aload 0 1))), (191, .inl (xop (xf_getf 12 28))), (194, .inl (xop (xf_iload 1 1))), (195, .inr (.inl (0, 223, 2, 12))), (198, .inl (xop (xf_aload 0 1))), (199, .inl (xop xf_dup)), (200, .inl (xop (xf_getf 12 28))), (203, .inl (xop (xf_push (.int 1) 1))), (204, .inl (xop (xf_bin (fun x y => x + y)))), (205, .inl (xo_putf 12 28 .int)), (208, .inl (xop (xf_aload 0 1))), (209, .inl (xop (xf_getf 12 28))), (212, .inl (xop (xf_push (.int 1) 1))), (213, .inl (xop (xf_bin (fun x y => x - y))))]
set_option maxRecDepth 20000 in
theorem okpX12_bag_5 (ev : xEv) : ∀ q ∈ pX12_bag_5 ev, xEnOK ev xmi yX12_bag.cls yX12_bag.name cX12_bag 6 (some .int) q :=
  List.forall_mem_cons.mpr ⟨(xOK_pure (xs_aload_n (k := 0) rfl (show decode cX12_bag 180 = .ok (.aload_n 0, 1) by decide +kernel))),
  List.forall_mem_cons.mpr ⟨(xOK_pure (xs_getf xcl_12 (by decide) (show decode cX12_bag 181 = .ok (.getfield 159, 3) by decide +kernel) xw_1737)),
  List.forall_mem_cons.mpr ⟨(xOK_pure (xs_iconst (n := 4) (show decode cX12_bag 184 = .ok (.iconst 4, 1) by decide +kernel) (by decide))),
  List.forall_mem_cons.mpr ⟨(xOK_pure (xs_iconst (n := 0) (show decode cX12_bag 185 = .ok (.iconst 0, 1) by decide +kernel) (by decide))),
  List.forall_mem_cons.mpr ⟨(xcm mi_200 ⟨⟨(by decide +kernel), (by decide +kernel), (by decide +kernel)⟩, (by decide), xw_2021, xw_125, Or.inl ⟨rfl, _, _, _, _, (show decode cX12_bag 186 = .ok (.invokevirtual 218, 3) by decide +kernel), xw_2018, xw_2020, xw_65, rfl⟩⟩),
  List.forall_mem_cons.mpr ⟨(xOK_pure (xs_aload_n (k := 0) rfl (show decode cX12_bag 189 = .ok (.aload_n 0, 1) by decide +kernel))),
  List.forall_mem_cons.mpr ⟨(xOK_pure (xs_aload_n (k := 0) rfl (show decode cX12_bag 190 = .ok (.aload_n 0, 1) by decide +kernel))),
  List.forall_mem_cons.mpr ⟨(xOK_pure (xs_getf xcl_12 (by decide) (show decode cX12_bag 191 = .ok (.getfield 159, 3) by decide +kernel) xw_1737)),
  List.forall_mem_cons.mpr ⟨(xOK_pure (xs_iload_n (k := 1) rfl (show decode cX12_bag 194 = .ok (.iload_n 1, 1) by decide +kernel))),
  List.forall_mem_cons.mpr ⟨(xcm mi_223 ⟨⟨(by decide +kernel), (by decide +kernel), (by decide +kernel)⟩, (by decide), xw_2025, xw_125, Or.inl ⟨rfl, _, _, _, _, (show decode cX12_bag 195 = .ok (.invokevirtual 221, 3) by decide +kernel), xw_2022, xw_2024, xw_66, rfl⟩⟩),
  List.forall_mem_cons.mpr ⟨(xOK_pure (xs_aload_n (k := 0) rfl (show decode cX12_bag 198 = .ok (.aload_n 0, 1) by decide +kernel))),
  List.forall_mem_cons.mpr ⟨(xOK_pure (xs_dup (show decode cX12_bag 199 = .ok (.dup, 1) by decide +kernel))),
  List.forall_mem_cons.mpr ⟨(xOK_pure (xs_getf xcl_12 (by decide) (show decode cX12_bag 200 = .ok (.getfield 159, 3) by decide +kernel) xw_1737)),
  List.forall_mem_cons.mpr ⟨(xOK_pure (xs_iconst (n := 1) (show decode cX12_bag 203 = .ok (.iconst 1, 1) by decide +kernel) (by decide))),
  List.forall_mem_cons.mpr ⟨(xOK_pure (xs_iadd (show decode cX12_bag 204 = .ok (.iadd, 1) by decide +kernel))),
  List.forall_mem_cons.mpr ⟨(xs_putf (k := 28) xcl_12 (by decide) rfl (show decode cX12_bag 205 = .ok (.putfield 159, 3) by decide +kernel) xw_1737),
  List.forall_mem_cons.mpr ⟨(xOK_pure (xs_aload_n (k := 0) rfl (show decode cX12_bag 208 = .ok (.aload_n 0, 1) by decide +kernel))),
  List.forall_mem_cons.mpr ⟨(xOK_pure (xs_getf xcl_12 (by decide) (show decode cX12_bag 209 = .ok (.getfield 159, 3) by decide +kernel) xw_1737)),
  List.forall_mem_cons.mpr ⟨(xOK_pure (xs_iconst (n := 1) (show decode cX12_bag 212 = .ok (.iconst 1, 1) by decide +kernel) (by decide))),
  List.forall_mem_cons.mpr ⟨(xOK_pure (xs_isub (show decode cX12_bag 213 = .ok (.isub, 1) by decide +kernel))),
  (fun _ h => absurd h List.not_mem_nil)⟩⟩⟩⟩⟩⟩⟩⟩⟩⟩⟩⟩⟩⟩⟩⟩⟩⟩⟩⟩
def pX12_bag_6 (ev : xEv) : List (Nat × xEn) := [(214, .inr (.inr 1))]
set_option maxRecDepth 20000 in
theorem okpX12_bag_6 (ev : xEv) : ∀ q ∈ pX12_bag_6 ev, xEnOK ev xmi yX12_bag.cls yX12_bag.name cX12_bag 6 (some .int) q :=
  List.forall_mem_cons.mpr ⟨(Or.inr (Or.inl ⟨rfl, (show decode cX12_bag 214 = .ok (.ireturn, 1) by decide +kernel), rfl⟩)),
  (fun _ h => absurd h List.not_mem_nil)⟩
def pX12_bag (ev : xEv) : List (Nat × xEn) := pX12_bag_0 ev ++ (pX12_bag_1 ev ++ (pX12_bag_2 ev ++ (pX12_bag_3 ev ++ (pX12_bag_4 ev ++ (pX12_bag_5 ev ++ (pX12_bag_6 ev))))))
theorem okpX12_bag (ev : xEv) : ∀ q ∈ pX12_bag ev, xEnOK ev xmi yX12_bag.cls yX12_bag.name cX12_bag 6 (some .int) q := List.forall_mem_append.mpr ⟨okpX12_bag_0 ev, List.forall_mem_append.mpr ⟨okpX12_bag_1 ev, List.forall_mem_append.mpr ⟨okpX12_bag_2 ev, List.forall_mem_append.mpr ⟨okpX12_bag_3 ev, List.forall_mem_append.mpr ⟨okpX12_bag_4 ev, List.forall_mem_append.mpr ⟨okpX12_bag_5 ev, okpX12_bag_6 ev⟩⟩⟩⟩⟩⟩
theorem omX12_bag (ev : xEv) : xMethOK ev xmi yX12_bag.cls yX12_bag.name 224 (pX12_bag ev) := xMethOK.of mi_224 (by decide +kernel) (okpX12_bag ev)
def pX12_arrive_0 (ev : xEv) : List (Nat × xEn) := [(0, .inl (xop (xf_aload 0 1))), (1, .inl (xop (xf_iload 1 1))), (2, .inl (xop (xf_push (.int 1) 1))), (3, .inl (xop (xf_push (.int (-1)) 1))), (4, .inr (.inl (0, 200, 3, 12))), (7, .inl (xop (xf_aload 0 1))), (8, .inl (xop (xf_iload 1 1))), (9, .inl (xop (xf_push (.int 2) 1))), (10, .inl (xop (xf_push (.int (-1)) 1))), (11, .inr (.inl (0, 200, 3, 12))), (14, .inl (xop (xf_aload 0 1))), (15, .inl (xop (xf_getf 12 24))), (18, .inl (xop (xf_iload 1 1))), (19, .inl (xop (xf_ald (ev.1 0)))), (20, .inl (xop (xf_iload 2 1))), (21, .inl (xop (xf_icmp_ne 54))), (24, .inl (xop (xf_aload 0 1))), (25, .inl (xop (xf_iload 1 1))), (26, .inl (xop (xf_push (.int 0) 1))), (27, .inl (xop (xf_push (.int (-1)) 1)))]
set_option maxRecDepth 20000 in
theorem okpX12_arrive_0 (ev : xEv) : ∀ q ∈ pX12_arrive_0 ev, xEnOK ev xmi yX12_arrive.cls yX12_arrive.name cX12_arrive 3 none q :=
  List.forall_mem_cons.mpr ⟨(xOK_pure (xs_aload_n (k := 0) rfl (show decode cX12_arrive 0 = .ok (.aload_n 0, 1) by decide +kernel))),
  List.forall_mem_cons.mpr ⟨(xOK_pure (xs_iload_n (k := 1) rfl (show decode cX12_arrive 1 = .ok (.iload_n 1, 1) by decide +kernel))),
  List.forall_mem_cons.mpr ⟨(xOK_pure (xs_iconst (n := 1) (show decode cX12_arrive 2 = .ok (.iconst 1, 1) by decide +kernel) (by decide))),
  List.forall_mem_cons.mpr ⟨(xOK_pure (xs_iconst (n := (-1)) (show decode cX12_arrive 3 = .ok (.iconst (-1), 1) by decide +kernel) (by decide))),
  List.forall_mem_cons.mpr ⟨(xcm mi_200 ⟨⟨(by decide +kernel), (by decide +kernel), (by decide +kernel)⟩, (by decide), xw_2021, xw_125, Or.inl ⟨rfl, _, _, _, _, (show decode cX12_arrive 4 = .ok (.invokevirtual 218, 3) by decide +kernel), xw_2018, xw_2020, xw_65, rfl⟩⟩),
  List.forall_mem_cons.mpr ⟨(xOK_pure (xs_aload_n (k := 0) rfl (show decode cX12_arrive 7 = .ok (.aload_n 0, 1) by decide +kernel))),
  List.forall_mem_cons.mpr ⟨(xOK_pure (xs_iload_n (k := 1) rfl (show decode cX12_arrive 8 = .ok (.iload_n 1, 1) by decide +kernel))),
  List.forall_mem_cons.mpr ⟨(xOK_pure (xs_iconst (n := 2) (show decode cX12_arrive 9 = .ok (.iconst 2, 1) by decide +kernel) (by decide))),
  List.forall_mem_cons.mpr ⟨(xOK_pure (xs_iconst (n := (-1)) (show decode cX12_arrive 10 = .ok (.iconst (-1), 1) by decide +kernel) (by decide))),
  List.forall_mem_cons.mpr ⟨(xcm mi_200 ⟨⟨(by decide +kernel), (by decide +kernel), (by decide +kernel)⟩, (by decide), xw_2021, xw_125, Or.inl ⟨rfl, _, _, _, _, (show decode cX12_arrive 11 = .ok (.invokevirtual 218, 3) by decide +kernel), xw_2018, xw_2020, xw_65, rfl⟩⟩),
  List.forall_mem_cons.mpr ⟨(xOK_pure (xs_aload_n (k := 0) rfl (show decode cX12_arrive 14 = .ok (.aload_n 0, 1) by decide +kernel))),
  List.forall_mem_cons.mpr ⟨(xOK_pure (xs_getf xcl_12 (by decide) (show decode cX12_arrive 15 = .ok (.getfield 68, 3) by decide +kernel) xw_1733)),
  List.forall_mem_cons.mpr ⟨(xOK_pure (xs_iload_n (k := 1) rfl (show decode cX12_arrive 18 = .ok (.iload_n 1, 1) by decide +kernel))),
  List.forall_mem_cons.mpr ⟨(xOK_pure (xs_iald (show decode cX12_arrive 19 = .ok (.iaload, 1) by decide +kernel))),
  List.forall_mem_cons.mpr ⟨(xOK_pure (xs_iload_n (k := 2) rfl (show decode cX12_arrive 20 = .ok (.iload_n 2, 1) by decide +kernel))),
  List.forall_mem_cons.mpr ⟨(xOK_pure (xs_icmp_ne (show decode cX12_arrive 21 = .ok (.if_icmp .ne 33, 3) by decide +kernel) (by decide))),
  List.forall_mem_cons.mpr ⟨(xOK_pure (xs_aload_n (k := 0) rfl (show decode cX12_arrive 24 = .ok (.aload_n 0, 1) by decide +kernel))),
  List.forall_mem_cons.mpr ⟨(xOK_pure (xs_iload_n (k := 1) rfl (show decode cX12_arrive 25 = .ok (.iload_n 1, 1) by decide +kernel))),
  List.forall_mem_cons.mpr ⟨(xOK_pure (xs_iconst (n := 0) (show decode cX12_arrive 26 = .ok (.iconst 0, 1) by decide +kernel) (by decide))),
  List.forall_mem_cons.mpr ⟨(xOK_pure (xs_iconst (n := (-1)) (show decode cX12_arrive 27 = .ok (.iconst (-1), 1) by decide +kernel) (by decide))),
  (fun _ h => absurd h List.not_mem_nil)⟩⟩⟩⟩⟩⟩⟩⟩⟩⟩⟩⟩⟩⟩⟩⟩⟩⟩⟩⟩
def pX12_arrive_1 (ev : xEv) : List (Nat × xEn) := [(28, .inr (.inl (0, 200, 3, 12))), (31, .inl (xop (xf_aload 0 1))), (32, .inl (xop (xf_iload 1 1))), (33, .inl (xop (xf_push (.int 3) 1))), (34, .inl (xop (xf_aload 0 1))), (35, .inl (xop (xf_getf 12 48))), (38, .inl (xop (xf_push (.int 0) 1))), (39, .inl (xop (xf_ald (ev.1 0)))), (40, .inr (.inl (0, 200, 3, 12))), (43, .inl (xop (xf_aload 0 1))), (44, .inl (xop (xf_iload 1 1))), (45, .inl (xop (xf_push (.int 300) 3))), (48, .inr (.inl (0, 223, 2, 12))), (51, .inl (xop (xf_goto 67))), (54, .inl (xop (xf_aload 0 1))), (55, .inl (xop (xf_iload 1 1))), (56, .inl (xop (xf_push (.int 0) 1))), (57, .inl (xop (xf_iload 2 1))), (58, .inr (.inl (0, 200, 3, 12))), (61, .inl (xop (xf_aload 0 1)))]
set_option maxRecDepth 20000 in
theorem okpX12_arrive_1 (ev : xEv) : ∀ q ∈ pX12_arrive_1 ev, xEnOK ev xmi yX12_arrive.cls yX12_arrive.name cX12_arrive 3 none q :=
  List.forall_mem_cons.mpr ⟨(xcm mi_200 ⟨⟨(by decide +kernel), (by decide +kernel), (by decide +kernel)⟩, (by decide), xw_2021, xw_125, Or.inl ⟨rfl, _, _, _, _, (show decode cX12_arrive 28 = .ok (.invokevirtual 218, 3) by decide +kernel), xw_2018, xw_2020, xw_65, rfl⟩⟩),
  List.forall_mem_cons.mpr ⟨(xOK_pure (xs_aload_n (k := 0) rfl (show decode cX12_arrive 31 = .ok (.aload_n 0, 1) by decide +kernel))),
  List.forall_mem_cons.mpr ⟨(xOK_pure (xs_iload_n (k := 1) rfl (show decode cX12_arrive 32 = .ok (.iload_n 1, 1) by decide +kernel))),
  List.forall_mem_cons.mpr ⟨(xOK_pure (xs_iconst (n := 3) (show decode cX12_arrive 33 = .ok (.iconst 3, 1) by decide +kernel) (by decide))),
  List.forall_mem_cons.mpr ⟨(xOK_pure (xs_aload_n (k := 0) rfl (show decode cX12_arrive 34 = .ok (.aload_n 0, 1) by decide +kernel))),
  List.forall_mem_cons.mpr ⟨(xOK_pure (xs_getf xcl_12 (by decide) (show decode cX12_arrive 35 = .ok (.getfield 121, 3) by decide +kernel) xw_1757)),
  List.forall_mem_cons.mpr ⟨(xOK_pure (xs_iconst (n := 0) (show decode cX12_arrive 38 = .ok (.iconst 0, 1) by decide +kernel) (by decide))),
  List.forall_mem_cons.mpr ⟨(xOK_pure (xs_iald (show decode cX12_arrive 39 = .ok (.iaload, 1) by decide +kernel))),
  List.forall_mem_cons.mpr ⟨(xcm mi_200 ⟨⟨(by decide +kernel), (by decide +kernel), (by decide +kernel)⟩, (by decide), xw_2021, xw_125, Or.inl ⟨rfl, _, _, _, _, (show decode cX12_arrive 40 = .ok (.invokevirtual 218, 3) by decide +kernel), xw_2018, xw_2020, xw_65, rfl⟩⟩),
  List.forall_mem_cons.mpr ⟨(xOK_pure (xs_aload_n (k := 0) rfl (show decode cX12_arrive 43 = .ok (.aload_n 0, 1) by decide +kernel))),
  List.forall_mem_cons.mpr ⟨(xOK_pure (xs_iload_n (k := 1) rfl (show decode cX12_arrive 44 = .ok (.iload_n 1, 1) by decide +kernel))),
  List.forall_mem_cons.mpr ⟨(xOK_pure (xs_sipush (n := 300) (show decode cX12_arrive 45 = .ok (.sipush 300, 3) by decide +kernel) (by decide))),
  List.forall_mem_cons.mpr ⟨(xcm mi_223 ⟨⟨(by decide +kernel), (by decide +kernel), (by decide +kernel)⟩, (by decide), xw_2025, xw_125, Or.inl ⟨rfl, _, _, _, _, (show decode cX12_arrive 48 = .ok (.invokevirtual 221, 3) by decide +kernel), xw_2022, xw_2024, xw_66, rfl⟩⟩),
  List.forall_mem_cons.mpr ⟨(xOK_pure (xs_goto (show decode cX12_arrive 51 = .ok (.goto 16, 3) by decide +kernel) (by decide))),
  List.forall_mem_cons.mpr ⟨(xOK_pure (xs_aload_n (k := 0) rfl (show decode cX12_arrive 54 = .ok (.aload_n 0, 1) by decide +kernel))),
  List.forall_mem_cons.mpr ⟨(xOK_pure (xs_iload_n (k := 1) rfl (show decode cX12_arrive 55 = .ok (.iload_n 1, 1) by decide +kernel))),
  List.forall_mem_cons.mpr ⟨(xOK_pure (xs_iconst (n := 0) (show decode cX12_arrive 56 = .ok (.iconst 0, 1) by decide +kernel) (by decide))),
  List.forall_mem_cons.mpr ⟨(xOK_pure (xs_iload_n (k := 2) rfl (show decode cX12_arrive 57 = .ok (.iload_n 2, 1) by decide +kernel))),
  List.forall_mem_cons.mpr ⟨(xcm mi_200 ⟨⟨(by decide +kernel), (by decide +kernel), (by decide +kernel)⟩, (by decide), xw_2021, xw_125, Or.inl ⟨rfl, _, _, _, _, (show decode cX12_arrive 58 = .ok (.invokevirtual 218, 3) by decide +kernel), xw_2018, xw_2020, xw_65, rfl⟩⟩),
  List.forall_mem_cons.mpr ⟨(xOK_pure (xs_aload_n (k := 0) rfl (show decode cX12_arrive 61 = .ok (.aload_n 0, 1) by decide +kernel))),
  (fun _ h => absurd h List.not_mem_nil)⟩⟩⟩⟩⟩⟩⟩⟩⟩⟩⟩⟩⟩⟩⟩⟩⟩⟩⟩⟩
def pX12_arrive_2 (ev : xEv) : List (Nat × xEn) := [(62, .inl (xop (xf_iload 1 1))), (63, .inl (xop (xf_iload 2 1))), (64, .inr (.inl (0, 223, 2, 12))), (67, .inr (.inr 0))]
set_option maxRecDepth 20000 in
theorem okpX12_arrive_2 (ev : xEv) : ∀ q ∈ pX12_arrive_2 ev, xEnOK ev xmi yX12_arrive.cls yX12_arrive.name cX12_arrive 3 none q :=
  List.forall_mem_cons.mpr ⟨(xOK_pure (xs_iload_n (k := 1) rfl (show decode cX12_arrive 62 = .ok (.iload_n 1, 1) by decide +kernel))),
  List.forall_mem_cons.mpr ⟨(xOK_pure (xs_iload_n (k := 2) rfl (show decode cX12_arrive 63 = .ok (.iload_n 2, 1) by decide +kernel))),
  List.forall_mem_cons.mpr ⟨(xcm mi_223 ⟨⟨(by decide +kernel), (by decide +kernel), (by decide +kernel)⟩, (by decide), xw_2025, xw_125, Or.inl ⟨rfl, _, _, _, _, (show decode cX12_arrive 64 = .ok (.invokevirtual 221, 3) by decide +kernel), xw_2022, xw_2024, xw_66, rfl⟩⟩),
  List.forall_mem_cons.mpr ⟨(Or.inl ⟨rfl, (show decode cX12_arrive 67 = .ok (.return_, 1) by decide +kernel), rfl⟩),
  (fun _ h => absurd h List.not_mem_nil)⟩⟩⟩⟩
def pX12_arrive (ev : xEv) : List (Nat × xEn) := pX12_arrive_0 ev ++ (pX12_arrive_1 ev ++ (pX12_arrive_2 ev))
theorem okpX12_arrive (ev : xEv) : ∀ q ∈ pX12_arrive ev, xEnOK ev xmi yX12_arrive.cls yX12_arrive.name cX12_arrive 3 none q := List.forall_mem_append.mpr ⟨okpX12_arrive_0 ev, List.forall_mem_append.mpr ⟨okpX12_arrive_1 ev, okpX12_arrive_2 ev⟩⟩
theorem omX12_arrive (ev : xEv) : xMethOK ev xmi yX12_arrive.cls yX12_arrive.name 225 (pX12_arrive ev) := xMethOK.of mi_225 (by decide +kernel) (okpX12_arrive ev)
def pX12_up (ev : xEv) : List (Nat × xEn) := [(0, .inl (xop (xf_iload 0 1))), (1, .inl (xop (xf_iload 1 1))), (2, .inl (xop (xf_bin (fun x y => x + y)))), (3, .inl (xop (xf_push (.int 1) 1))), (4, .inl (xop (xf_bin (fun x y => x - y)))), (5, .inl (xop (xf_iload 1 1))), (6, .inl (xop (xf_div (fun x y => x / y)))), (7, .inr (.inr 1))]
set_option maxRecDepth 20000 in
theorem okpX12_up (ev : xEv) : ∀ q ∈ pX12_up ev, xEnOK ev xmi yX12_up.cls yX12_up.name cX12_up 2 (some .int) q :=
  List.forall_mem_cons.mpr ⟨(xOK_pure (xs_iload_n (k := 0) rfl (show decode cX12_up 0 = .ok (.iload_n 0, 1) by decide +kernel))),
  List.forall_mem_cons.mpr ⟨(xOK_pure (xs_iload_n (k := 1) rfl (show decode cX12_up 1 = .ok (.iload_n 1, 1) by decide +kernel))),
  List.forall_mem_cons.mpr ⟨(xOK_pure (xs_iadd (show decode cX12_up 2 = .ok (.iadd, 1) by decide +kernel))),
  List.forall_mem_cons.mpr ⟨(xOK_pure (xs_iconst (n := 1) (show decode cX12_up 3 = .ok (.iconst 1, 1) by decide +kernel) (by decide))),
  List.forall_mem_cons.mpr ⟨(xOK_pure (xs_isub (show decode cX12_up 4 = .ok (.isub, 1) by decide +kernel))),
  List.forall_mem_cons.mpr ⟨(xOK_pure (xs_iload_n (k := 1) rfl (show decode cX12_up 5 = .ok (.iload_n 1, 1) by decide +kernel))),
  List.forall_mem_cons.mpr ⟨(xOK_pure (xs_idiv (show decode cX12_up 6 = .ok (.idiv, 1) by decide +kernel))),
  List.forall_mem_cons.mpr ⟨(Or.inr (Or.inl ⟨rfl, (show decode cX12_up 7 = .ok (.ireturn, 1) by decide +kernel), rfl⟩)),
  (fun _ h => absurd h List.not_mem_nil)⟩⟩⟩⟩⟩⟩⟩⟩
theorem omX12_up (ev : xEv) : xMethOK ev xmi yX12_up.cls yX12_up.name 226 (pX12_up ev) := xMethOK.of mi_226 (by decide +kernel) (okpX12_up ev)
def pX12_train_0 (ev : xEv) : List (Nat × xEn) := [(0, .inl (xop (xf_aload 0 1))), (1, .inl (xop (xf_push (.int 0) 1))), (2, .inl (xo_putf 12 47 .int)), (5, .inl (xop (xf_aload 0 1))), (6, .inl (xop (xf_iload 1 1))), (7, .inr (.inl (0, 194, 1, 12))), (10, .inl (xop (xf_if_eq 23))), (13, .inl (xop (xf_aload 0 1))), (14, .inl (xop (xf_iload 1 1))), (15, .inl (xop (xf_push (.int 0) 1))), (16, .inr (.inl (0, 199, 2, 12))), (19, .inl (xop (xf_push (.int (-1)) 1))), (20, .inl (xop (xf_icmp_ne 25))), (23, .inl (xop (xf_push (.int (-1)) 1))), (24, .inr (.inr 1)), (25, .inl (xop (xf_aload 0 1))), (26, .inl (xop (xf_getf 12 48))), (29, .inl (xop (xf_push (.int 0) 1))), (30, .inl (xop (xf_ald (ev.1 0)))), (31, .inl (xop (xf_push (.int 1) 1)))]
set_option maxRecDepth 20000 in
theorem okpX12_train_0 (ev : xEv) : ∀ q ∈ pX12_train_0 ev, xEnOK ev xmi yX12_train.cls yX12_train.name cX12_train 3 (some .int) q :=
  List.forall_mem_cons.mpr ⟨(xOK_pure (xs_aload_n (k := 0) rfl (show decode cX12_train 0 = .ok (.aload_n 0, 1) by decide +kernel))),
  List.forall_mem_cons.mpr ⟨(xOK_pure (xs_iconst (n := 0) (show decode cX12_train 1 = .ok (.iconst 0, 1) by decide +kernel) (by decide))),
  List.forall_mem_cons.mpr ⟨(xs_putf (k := 47) xcl_12 (by decide) rfl (show decode cX12_train 2 = .ok (.putfield 140, 3) by decide +kernel) xw_1756),
  List.forall_mem_cons.mpr ⟨(xOK_pure (xs_aload_n (k := 0) rfl (show decode cX12_train 5 = .ok (.aload_n 0, 1) by decide +kernel))),
  List.forall_mem_cons.mpr ⟨(xOK_pure (xs_iload_n (k := 1) rfl (show decode cX12_train 6 = .ok (.iload_n 1, 1) by decide +kernel))),
  List.forall_mem_cons.mpr ⟨(xcm mi_194 ⟨⟨(by decide +kernel), (by decide +kernel), (by decide +kernel)⟩, (by decide), xw_2037, xw_125, Or.inl ⟨rfl, _, _, _, _, (show decode cX12_train 7 = .ok (.invokevirtual 225, 3) by decide +kernel), xw_2034, xw_2036, xw_68, rfl⟩⟩),
  List.forall_mem_cons.mpr ⟨(xOK_pure (xs_if_eq (show decode cX12_train 10 = .ok (.ifCond .eq 13, 3) by decide +kernel) (by decide))),
  List.forall_mem_cons.mpr ⟨(xOK_pure (xs_aload_n (k := 0) rfl (show decode cX12_train 13 = .ok (.aload_n 0, 1) by decide +kernel))),
  List.forall_mem_cons.mpr ⟨(xOK_pure (xs_iload_n (k := 1) rfl (show decode cX12_train 14 = .ok (.iload_n 1, 1) by decide +kernel))),
  List.forall_mem_cons.mpr ⟨(xOK_pure (xs_iconst (n := 0) (show decode cX12_train 15 = .ok (.iconst 0, 1) by decide +kernel) (by decide))),
  List.forall_mem_cons.mpr ⟨(xcm mi_199 ⟨⟨(by decide +kernel), (by decide +kernel), (by decide +kernel)⟩, (by decide), xw_2029, xw_125, Or.inl ⟨rfl, _, _, _, _, (show decode cX12_train 16 = .ok (.invokevirtual 215, 3) by decide +kernel), xw_2026, xw_2028, xw_67, rfl⟩⟩),
  List.forall_mem_cons.mpr ⟨(xOK_pure (xs_iconst (n := (-1)) (show decode cX12_train 19 = .ok (.iconst (-1), 1) by decide +kernel) (by decide))),
  List.forall_mem_cons.mpr ⟨(xOK_pure (xs_icmp_ne (show decode cX12_train 20 = .ok (.if_icmp .ne 5, 3) by decide +kernel) (by decide))),
  List.forall_mem_cons.mpr ⟨(xOK_pure (xs_iconst (n := (-1)) (show decode cX12_train 23 = .ok (.iconst (-1), 1) by decide +kernel) (by decide))),
  List.forall_mem_cons.mpr ⟨(Or.inr (Or.inl ⟨rfl, (show decode cX12_train 24 = .ok (.ireturn, 1) by decide +kernel), rfl⟩)),
  List.forall_mem_cons.mpr ⟨(xOK_pure (xs_aload_n (k := 0) rfl (show decode cX12_train 25 = .ok (.aload_n 0, 1) by decide +kernel))),
  List.forall_mem_cons.mpr ⟨(xOK_pure (xs_getf xcl_12 (by decide) (show decode cX12_train 26 = .ok (.getfield 121, 3) by decide +kernel) xw_1757)),
  List.forall_mem_cons.mpr ⟨(xOK_pure (xs_iconst (n := 0) (show decode cX12_train 29 = .ok (.iconst 0, 1) by decide +kernel) (by decide))),
  List.forall_mem_cons.mpr ⟨(xOK_pure (xs_iald (show decode cX12_train 30 = .ok (.iaload, 1) by decide +kernel))),
  List.forall_mem_cons.mpr ⟨(xOK_pure (xs_iconst (n := 1) (show decode cX12_train 31 = .ok (.iconst 1, 1) by decide +kernel) (by decide))),
  (fun _ h => absurd h List.not_mem_nil)⟩⟩⟩⟩⟩⟩⟩⟩⟩⟩⟩⟩⟩⟩⟩⟩⟩⟩⟩⟩
def pX12_train_1 (ev : xEv) : List (Nat × xEn) := [(32, .inl (xop (xf_aload 0 1))), (33, .inl (xop (xf_getf 12 10))), (36, .inl (xop (xf_push (.int 8) 2))), (38, .inl (xop (xf_aload 0 1))), (39, .inl (xop (xf_iload 1 1))), (40, .inl (xop (xf_push (.int 0) 1))), (41, .inr (.inl (0, 199, 2, 12))), (44, .inl (xop (xf_bin (fun x y => x * y)))), (45, .inl (xop (xf_aload 0 1))), (46, .inl (xop (xf_getf 12 24))), (49, .inl (xop (xf_iload 1 1))), (50, .inl (xop (xf_ald (ev.1 0)))), (51, .inl (xop (xf_bin (fun x y => x + y)))), (52, .inl (xop (xf_ald (ev.1 0)))), (53, .inl (xop (xf_push (.int 4) 1))), (54, .inr (.inl (1, 226, 2, 12))), (57, .inl (xop (xf_m2 (fun x y => if x < y then y else x)))), (60, .inl (xop (xf_bin (fun x y => x + y)))), (61, .inl (xop (xf_istore 2 1))), (62, .inl (xop (xf_aload 0 1)))]
set_option maxRecDepth 20000 in
theorem okpX12_train_1 (ev : xEv) : ∀ q ∈ pX12_train_1 ev, xEnOK ev xmi yX12_train.cls yX12_train.name cX12_train 3 (some .int) q :=
  List.forall_mem_cons.mpr ⟨(xOK_pure (xs_aload_n (k := 0) rfl (show decode cX12_train 32 = .ok (.aload_n 0, 1) by decide +kernel))),
  List.forall_mem_cons.mpr ⟨(xOK_pure (xs_getf xcl_12 (by decide) (show decode cX12_train 33 = .ok (.getfield 34, 3) by decide +kernel) xw_1719)),
  List.forall_mem_cons.mpr ⟨(xOK_pure (xs_bipush (n := 8) (show decode cX12_train 36 = .ok (.bipush 8, 2) by decide +kernel) (by decide))),
  List.forall_mem_cons.mpr ⟨(xOK_pure (xs_aload_n (k := 0) rfl (show decode cX12_train 38 = .ok (.aload_n 0, 1) by decide +kernel))),
  List.forall_mem_cons.mpr ⟨(xOK_pure (xs_iload_n (k := 1) rfl (show decode cX12_train 39 = .ok (.iload_n 1, 1) by decide +kernel))),
  List.forall_mem_cons.mpr ⟨(xOK_pure (xs_iconst (n := 0) (show decode cX12_train 40 = .ok (.iconst 0, 1) by decide +kernel) (by decide))),
  List.forall_mem_cons.mpr ⟨(xcm mi_199 ⟨⟨(by decide +kernel), (by decide +kernel), (by decide +kernel)⟩, (by decide), xw_2029, xw_125, Or.inl ⟨rfl, _, _, _, _, (show decode cX12_train 41 = .ok (.invokevirtual 215, 3) by decide +kernel), xw_2026, xw_2028, xw_67, rfl⟩⟩),
  List.forall_mem_cons.mpr ⟨(xOK_pure (xs_imul (show decode cX12_train 44 = .ok (.imul, 1) by decide +kernel))),
  List.forall_mem_cons.mpr ⟨(xOK_pure (xs_aload_n (k := 0) rfl (show decode cX12_train 45 = .ok (.aload_n 0, 1) by decide +kernel))),
  List.forall_mem_cons.mpr ⟨(xOK_pure (xs_getf xcl_12 (by decide) (show decode cX12_train 46 = .ok (.getfield 68, 3) by decide +kernel) xw_1733)),
  List.forall_mem_cons.mpr ⟨(xOK_pure (xs_iload_n (k := 1) rfl (show decode cX12_train 49 = .ok (.iload_n 1, 1) by decide +kernel))),
  List.forall_mem_cons.mpr ⟨(xOK_pure (xs_iald (show decode cX12_train 50 = .ok (.iaload, 1) by decide +kernel))),
  List.forall_mem_cons.mpr ⟨(xOK_pure (xs_iadd (show decode cX12_train 51 = .ok (.iadd, 1) by decide +kernel))),
  List.forall_mem_cons.mpr ⟨(xOK_pure (xs_iald (show decode cX12_train 52 = .ok (.iaload, 1) by decide +kernel))),
  List.forall_mem_cons.mpr ⟨(xOK_pure (xs_iconst (n := 4) (show decode cX12_train 53 = .ok (.iconst 4, 1) by decide +kernel) (by decide))),
  List.forall_mem_cons.mpr ⟨(xcm mi_226 ⟨⟨(by decide +kernel), (by decide +kernel), (by decide +kernel)⟩, (by decide), xw_2040, xw_125, Or.inr (Or.inl ⟨rfl, _, (show decode cX12_train 54 = .ok (.invokestatic 228, 3) by decide +kernel), xw_2038, xw_2039⟩)⟩),
  List.forall_mem_cons.mpr ⟨(xOK_pure (xs_mmax (show decode cX12_train 57 = .ok (.invokestatic 231, 3) by decide +kernel) xw_2041 xw_829 xw_127 xw_830)),
  List.forall_mem_cons.mpr ⟨(xOK_pure (xs_iadd (show decode cX12_train 60 = .ok (.iadd, 1) by decide +kernel))),
  List.forall_mem_cons.mpr ⟨(xOK_pure (xs_istore_n (k := 2) rfl (show decode cX12_train 61 = .ok (.istore_n 2, 1) by decide +kernel) (by decide))),
  List.forall_mem_cons.mpr ⟨(xOK_pure (xs_aload_n (k := 0) rfl (show decode cX12_train 62 = .ok (.aload_n 0, 1) by decide +kernel))),
  (fun _ h => absurd h List.not_mem_nil)⟩⟩⟩⟩⟩⟩⟩⟩⟩⟩⟩⟩⟩⟩⟩⟩⟩⟩⟩⟩
def pX12_train_2 (ev : xEv) : List (Nat × xEn) := [(63, .inl (xop (xf_iload 1 1))), (64, .inl (xop (xf_push (.int 0) 1))), (65, .inl (xop (xf_push (.int (-1)) 1))), (66, .inr (.inl (0, 200, 3, 12))), (69, .inl (xop (xf_aload 0 1))), (70, .inl (xop (xf_iload 1 1))), (71, .inl (xop (xf_push (.int 2) 1))), (72, .inl (xop (xf_iload 2 1))), (73, .inr (.inl (0, 200, 3, 12))), (76, .inl (xop (xf_aload 0 1))), (77, .inl (xop (xf_iload 1 1))), (78, .inl (xop (xf_push (.int 200) 3))), (81, .inr (.inl (0, 223, 2, 12))), (84, .inl (xop (xf_iload 2 1))), (85, .inr (.inr 1))]
set_option maxRecDepth 20000 in
theorem okpX12_train_2 (ev : xEv) : ∀ q ∈ pX12_train_2 ev, xEnOK ev xmi yX12_train.cls yX12_train.name cX12_train 3 (some .int) q :=
  List.forall_mem_cons.mpr ⟨(xOK_pure (xs_iload_n (k := 1) rfl (show decode cX12_train 63 = .ok (.iload_n 1, 1) by decide +kernel))),
  List.forall_mem_cons.mpr ⟨(xOK_pure (xs_iconst (n := 0) (show decode cX12_train 64 = .ok (.iconst 0, 1) by decide +kernel) (by decide))),
  List.forall_mem_cons.mpr ⟨(xOK_pure (xs_iconst (n := (-1)) (show decode cX12_train 65 = .ok (.iconst (-1), 1) by decide +kernel) (by decide))),
  List.forall_mem_cons.mpr ⟨(xcm mi_200 ⟨⟨(by decide +kernel), (by decide +kernel), (by decide +kernel)⟩, (by decide), xw_2021, xw_125, Or.inl ⟨rfl, _, _, _, _, (show decode cX12_train 66 = .ok (.invokevirtual 218, 3) by decide +kernel), xw_2018, xw_2020, xw_65, rfl⟩⟩),
  List.forall_mem_cons.mpr ⟨(xOK_pure (xs_aload_n (k := 0) rfl (show decode cX12_train 69 = .ok (.aload_n 0, 1) by decide +kernel))),
  List.forall_mem_cons.mpr ⟨(xOK_pure (xs_iload_n (k := 1) rfl (show decode cX12_train 70 = .ok (.iload_n 1, 1) by decide +kernel))),
  List.forall_mem_cons.mpr ⟨(xOK_pure (xs_iconst (n := 2) (show decode cX12_train 71 = .ok (.iconst 2, 1) by decide +kernel) (by decide))),
  List.forall_mem_cons.mpr ⟨(xOK_pure (xs_iload_n (k := 2) rfl (show decode cX12_train 72 = .ok (.iload_n 2, 1) by decide +kernel))),
  List.forall_mem_cons.mpr ⟨(xcm mi_200 ⟨⟨(by decide +kernel), (by decide +kernel), (by decide +kernel)⟩, (by decide), xw_2021, xw_125, Or.inl ⟨rfl, _, _, _, _, (show decode cX12_train 73 = .ok (.invokevirtual 218, 3) by decide +kernel), xw_2018, xw_2020, xw_65, rfl⟩⟩),
  List.forall_mem_cons.mpr ⟨(xOK_pure (xs_aload_n (k := 0) rfl (show decode cX12_train 76 = .ok (.aload_n 0, 1) by decide +kernel))),
  List.forall_mem_cons.mpr ⟨(xOK_pure (xs_iload_n (k := 1) rfl (show decode cX12_train 77 = .ok (.iload_n 1, 1) by decide +kernel))),
  List.forall_mem_cons.mpr ⟨(xOK_pure (xs_sipush (n := 200) (show decode cX12_train 78 = .ok (.sipush 200, 3) by decide +kernel) (by decide))),
  List.forall_mem_cons.mpr ⟨(xcm mi_223 ⟨⟨(by decide +kernel), (by decide +kernel), (by decide +kernel)⟩, (by decide), xw_2025, xw_125, Or.inl ⟨rfl, _, _, _, _, (show decode cX12_train 81 = .ok (.invokevirtual 221, 3) by decide +kernel), xw_2022, xw_2024, xw_66, rfl⟩⟩),
  List.forall_mem_cons.mpr ⟨(xOK_pure (xs_iload_n (k := 2) rfl (show decode cX12_train 84 = .ok (.iload_n 2, 1) by decide +kernel))),
  List.forall_mem_cons.mpr ⟨(Or.inr (Or.inl ⟨rfl, (show decode cX12_train 85 = .ok (.ireturn, 1) by decide +kernel), rfl⟩)),
  (fun _ h => absurd h List.not_mem_nil)⟩⟩⟩⟩⟩⟩⟩⟩⟩⟩⟩⟩⟩⟩⟩
def pX12_train (ev : xEv) : List (Nat × xEn) := pX12_train_0 ev ++ (pX12_train_1 ev ++ (pX12_train_2 ev))
theorem okpX12_train (ev : xEv) : ∀ q ∈ pX12_train ev, xEnOK ev xmi yX12_train.cls yX12_train.name cX12_train 3 (some .int) q := List.forall_mem_append.mpr ⟨okpX12_train_0 ev, List.forall_mem_append.mpr ⟨okpX12_train_1 ev, okpX12_train_2 ev⟩⟩
theorem omX12_train (ev : xEv) : xMethOK ev xmi yX12_train.cls yX12_train.name 227 (pX12_train ev) := xMethOK.of mi_227 (by decide +kernel) (okpX12_train ev)
def pX12_set_0 (ev : xEv) : List (Nat × xEn) := [(0, .inl (xop (xf_aload 0 1))), (1, .inl (xop (xf_push (.int 0) 1))), (2, .inl (xo_putf 12 47 .int)), (5, .inl (xop (xf_iload 1 1))), (6, .inl (xop (xf_push (.int 0) 1))), (7, .inl (xop (xf_push (.int 2) 1))), (8, .inr (.inl (1, 188, 3, 12))), (11, .inl (xop (xf_if_eq 43))), (14, .inl (xop (xf_iload 2 1))), (15, .inl (xop (xf_push (.int 0) 1))), (16, .inl (xop (xf_iload 1 1))), (17, .inl (xop (xf_if_ne 25))), (20, .inl (xop (xf_push (.int 20) 2))), (22, .inl (xop (xf_goto 37))), (25, .inl (xop (xf_iload 1 1))), (26, .inl (xop (xf_push (.int 1) 1))), (27, .inl (xop (xf_icmp_ne 35))), (30, .inl (xop (xf_push (.int 50) 2))), (32, .inl (xop (xf_goto 37))), (35, .inl (xop (xf_push (.int 99) 2)))]
set_option maxRecDepth 20000 in
theorem okpX12_set_0 (ev : xEv) : ∀ q ∈ pX12_set_0 ev, xEnOK ev xmi yX12_set.cls yX12_set.name cX12_set 4 (some .int) q :=
  List.forall_mem_cons.mpr ⟨(xOK_pure (xs_aload_n (k := 0) rfl (show decode cX12_set 0 = .ok (.aload_n 0, 1) by decide +kernel))),
  List.forall_mem_cons.mpr ⟨(xOK_pure (xs_iconst (n := 0) (show decode cX12_set 1 = .ok (.iconst 0, 1) by decide +kernel) (by decide))),
  List.forall_mem_cons.mpr ⟨(xs_putf (k := 47) xcl_12 (by decide) rfl (show decode cX12_set 2 = .ok (.putfield 140, 3) by decide +kernel) xw_1756),
  List.forall_mem_cons.mpr ⟨(xOK_pure (xs_iload_n (k := 1) rfl (show decode cX12_set 5 = .ok (.iload_n 1, 1) by decide +kernel))),
  List.forall_mem_cons.mpr ⟨(xOK_pure (xs_iconst (n := 0) (show decode cX12_set 6 = .ok (.iconst 0, 1) by decide +kernel) (by decide))),
  List.forall_mem_cons.mpr ⟨(xOK_pure (xs_iconst (n := 2) (show decode cX12_set 7 = .ok (.iconst 2, 1) by decide +kernel) (by decide))),
  List.forall_mem_cons.mpr ⟨(xcm mi_188 ⟨⟨(by decide +kernel), (by decide +kernel), (by decide +kernel)⟩, (by decide), xw_1912, xw_125, Or.inr (Or.inl ⟨rfl, _, (show decode cX12_set 8 = .ok (.invokestatic 146, 3) by decide +kernel), xw_1910, xw_1911⟩)⟩),
  List.forall_mem_cons.mpr ⟨(xOK_pure (xs_if_eq (show decode cX12_set 11 = .ok (.ifCond .eq 32, 3) by decide +kernel) (by decide))),
  List.forall_mem_cons.mpr ⟨(xOK_pure (xs_iload_n (k := 2) rfl (show decode cX12_set 14 = .ok (.iload_n 2, 1) by decide +kernel))),
  List.forall_mem_cons.mpr ⟨(xOK_pure (xs_iconst (n := 0) (show decode cX12_set 15 = .ok (.iconst 0, 1) by decide +kernel) (by decide))),
  List.forall_mem_cons.mpr ⟨(xOK_pure (xs_iload_n (k := 1) rfl (show decode cX12_set 16 = .ok (.iload_n 1, 1) by decide +kernel))),
  List.forall_mem_cons.mpr ⟨(xOK_pure (xs_if_ne (show decode cX12_set 17 = .ok (.ifCond .ne 8, 3) by decide +kernel) (by decide))),
  List.forall_mem_cons.mpr ⟨(xOK_pure (xs_bipush (n := 20) (show decode cX12_set 20 = .ok (.bipush 20, 2) by decide +kernel) (by decide))),
  List.forall_mem_cons.mpr ⟨(xOK_pure (xs_goto (show decode cX12_set 22 = .ok (.goto 15, 3) by decide +kernel) (by decide))),
  List.forall_mem_cons.mpr ⟨(xOK_pure (xs_iload_n (k := 1) rfl (show decode cX12_set 25 = .ok (.iload_n 1, 1) by decide +kernel))),
  List.forall_mem_cons.mpr ⟨(xOK_pure (xs_iconst (n := 1) (show decode cX12_set 26 = .ok (.iconst 1, 1) by decide +kernel) (by decide))),
  List.forall_mem_cons.mpr ⟨(xOK_pure (xs_icmp_ne (show decode cX12_set 27 = .ok (.if_icmp .ne 8, 3) by decide +kernel) (by decide))),
  List.forall_mem_cons.mpr ⟨(xOK_pure (xs_bipush (n := 50) (show decode cX12_set 30 = .ok (.bipush 50, 2) by decide +kernel) (by decide))),
  List.forall_mem_cons.mpr ⟨(xOK_pure (xs_goto (show decode cX12_set 32 = .ok (.goto 5, 3) by decide +kernel) (by decide))),
  List.forall_mem_cons.mpr ⟨(xOK_pure (xs_bipush (n := 99) (show decode cX12_set 35 = .ok (.bipush 99, 2) by decide +kernel) (by decide))),
  (fun _ h => absurd h List.not_mem_nil)⟩⟩⟩⟩⟩⟩⟩⟩⟩⟩⟩⟩⟩⟩⟩⟩⟩⟩⟩⟩
def pX12_set_1 (ev : xEv) : List (Nat × xEn) := [(37, .inr (.inl (1, 188, 3, 12))), (40, .inl (xop (xf_if_ne 45))), (43, .inl (xop (xf_push (.int (-1)) 1))), (44, .inr (.inr 1)), (45, .inl (xop (xf_iload 1 1))), (46, .inl (xop (xf_if_ne 56))), (49, .inl (xop (xf_aload 0 1))), (50, .inl (xop (xf_getf 12 34))), (53, .inl (xop (xf_goto 72))), (56, .inl (xop (xf_iload 1 1))), (57, .inl (xop (xf_push (.int 1) 1))), (58, .inl (xop (xf_icmp_ne 68))), (61, .inl (xop (xf_aload 0 1))), (62, .inl (xop (xf_getf 12 35))), (65, .inl (xop (xf_goto 72))), (68, .inl (xop (xf_aload 0 1))), (69, .inl (xop (xf_getf 12 36))), (72, .inl (xop (xf_istore 3 1))), (73, .inl (xop (xf_iload 1 1))), (74, .inl (xop (xf_if_ne 85)))]
set_option maxRecDepth 20000 in
theorem okpX12_set_1 (ev : xEv) : ∀ q ∈ pX12_set_1 ev, xEnOK ev xmi yX12_set.cls yX12_set.name cX12_set 4 (some .int) q :=
  List.forall_mem_cons.mpr ⟨(xcm mi_188 ⟨⟨(by decide +kernel), (by decide +kernel), (by decide +kernel)⟩, (by decide), xw_1912, xw_125, Or.inr (Or.inl ⟨rfl, _, (show decode cX12_set 37 = .ok (.invokestatic 146, 3) by decide +kernel), xw_1910, xw_1911⟩)⟩),
  List.forall_mem_cons.mpr ⟨(xOK_pure (xs_if_ne (show decode cX12_set 40 = .ok (.ifCond .ne 5, 3) by decide +kernel) (by decide))),
  List.forall_mem_cons.mpr ⟨(xOK_pure (xs_iconst (n := (-1)) (show decode cX12_set 43 = .ok (.iconst (-1), 1) by decide +kernel) (by decide))),
  List.forall_mem_cons.mpr ⟨(Or.inr (Or.inl ⟨rfl, (show decode cX12_set 44 = .ok (.ireturn, 1) by decide +kernel), rfl⟩)),
  List.forall_mem_cons.mpr ⟨(xOK_pure (xs_iload_n (k := 1) rfl (show decode cX12_set 45 = .ok (.iload_n 1, 1) by decide +kernel))),
  List.forall_mem_cons.mpr ⟨(xOK_pure (xs_if_ne (show decode cX12_set 46 = .ok (.ifCond .ne 10, 3) by decide +kernel) (by decide))),
  List.forall_mem_cons.mpr ⟨(xOK_pure (xs_aload_n (k := 0) rfl (show decode cX12_set 49 = .ok (.aload_n 0, 1) by decide +kernel))),
  List.forall_mem_cons.mpr ⟨(xOK_pure (xs_getf xcl_12 (by decide) (show decode cX12_set 50 = .ok (.getfield 92, 3) by decide +kernel) xw_1743)),
  List.forall_mem_cons.mpr ⟨(xOK_pure (xs_goto (show decode cX12_set 53 = .ok (.goto 19, 3) by decide +kernel) (by decide))),
  List.forall_mem_cons.mpr ⟨(xOK_pure (xs_iload_n (k := 1) rfl (show decode cX12_set 56 = .ok (.iload_n 1, 1) by decide +kernel))),
  List.forall_mem_cons.mpr ⟨(xOK_pure (xs_iconst (n := 1) (show decode cX12_set 57 = .ok (.iconst 1, 1) by decide +kernel) (by decide))),
  List.forall_mem_cons.mpr ⟨(xOK_pure (xs_icmp_ne (show decode cX12_set 58 = .ok (.if_icmp .ne 10, 3) by decide +kernel) (by decide))),
  List.forall_mem_cons.mpr ⟨(xOK_pure (xs_aload_n (k := 0) rfl (show decode cX12_set 61 = .ok (.aload_n 0, 1) by decide +kernel))),
  List.forall_mem_cons.mpr ⟨(xOK_pure (xs_getf xcl_12 (by decide) (show decode cX12_set 62 = .ok (.getfield 96, 3) by decide +kernel) xw_1744)),
  List.forall_mem_cons.mpr ⟨(xOK_pure (xs_goto (show decode cX12_set 65 = .ok (.goto 7, 3) by decide +kernel) (by decide))),
  List.forall_mem_cons.mpr ⟨(xOK_pure (xs_aload_n (k := 0) rfl (show decode cX12_set 68 = .ok (.aload_n 0, 1) by decide +kernel))),
  List.forall_mem_cons.mpr ⟨(xOK_pure (xs_getf xcl_12 (by decide) (show decode cX12_set 69 = .ok (.getfield 99, 3) by decide +kernel) xw_1745)),
  List.forall_mem_cons.mpr ⟨(xOK_pure (xs_istore_n (k := 3) rfl (show decode cX12_set 72 = .ok (.istore_n 3, 1) by decide +kernel) (by decide))),
  List.forall_mem_cons.mpr ⟨(xOK_pure (xs_iload_n (k := 1) rfl (show decode cX12_set 73 = .ok (.iload_n 1, 1) by decide +kernel))),
  List.forall_mem_cons.mpr ⟨(xOK_pure (xs_if_ne (show decode cX12_set 74 = .ok (.ifCond .ne 11, 3) by decide +kernel) (by decide))),
  (fun _ h => absurd h List.not_mem_nil)⟩⟩⟩⟩⟩⟩⟩⟩⟩⟩⟩⟩⟩⟩⟩⟩⟩⟩⟩⟩
def pX12_set_2 (ev : xEv) : List (Nat × xEn) := [(77, .inl (xop (xf_aload 0 1))), (78, .inl (xop (xf_iload 2 1))), (79, .inl (xo_putf 12 34 .int)), (82, .inl (xop (xf_goto 103))), (85, .inl (xop (xf_iload 1 1))), (86, .inl (xop (xf_push (.int 1) 1))), (87, .inl (xop (xf_icmp_ne 98))), (90, .inl (xop (xf_aload 0 1))), (91, .inl (xop (xf_iload 2 1))), (92, .inl (xo_putf 12 35 .int)), (95, .inl (xop (xf_goto 103))), (98, .inl (xop (xf_aload 0 1))), (99, .inl (xop (xf_iload 2 1))), (100, .inl (xo_putf 12 36 .int)), (103, .inl (xop (xf_iload 3 1))), (104, .inr (.inr 1))]
set_option maxRecDepth 20000 in
theorem okpX12_set_2 (ev : xEv) : ∀ q ∈ pX12_set_2 ev, xEnOK ev xmi yX12_set.cls yX12_set.name cX12_set 4 (some .int) q :=
  List.forall_mem_cons.mpr ⟨(xOK_pure (xs_aload_n (k := 0) rfl (show decode cX12_set 77 = .ok (.aload_n 0, 1) by decide +kernel))),
  List.forall_mem_cons.mpr ⟨(xOK_pure (xs_iload_n (k := 2) rfl (show decode cX12_set 78 = .ok (.iload_n 2, 1) by decide +kernel))),
  List.forall_mem_cons.mpr ⟨(xs_putf (k := 34) xcl_12 (by decide) rfl (show decode cX12_set 79 = .ok (.putfield 92, 3) by decide +kernel) xw_1743),
  List.forall_mem_cons.mpr ⟨(xOK_pure (xs_goto (show decode cX12_set 82 = .ok (.goto 21, 3) by decide +kernel) (by decide))),
  List.forall_mem_cons.mpr ⟨(xOK_pure (xs_iload_n (k := 1) rfl (show decode cX12_set 85 = .ok (.iload_n 1, 1) by decide +kernel))),
  List.forall_mem_cons.mpr ⟨(xOK_pure (xs_iconst (n := 1) (show decode cX12_set 86 = .ok (.iconst 1, 1) by decide +kernel) (by decide))),
  List.forall_mem_cons.mpr ⟨(xOK_pure (xs_icmp_ne (show decode cX12_set 87 = .ok (.if_icmp .ne 11, 3) by decide +kernel) (by decide))),
  List.forall_mem_cons.mpr ⟨(xOK_pure (xs_aload_n (k := 0) rfl (show decode cX12_set 90 = .ok (.aload_n 0, 1) by decide +kernel))),
  List.forall_mem_cons.mpr ⟨(xOK_pure (xs_iload_n (k := 2) rfl (show decode cX12_set 91 = .ok (.iload_n 2, 1) by decide +kernel))),
  List.forall_mem_cons.mpr ⟨(xs_putf (k := 35) xcl_12 (by decide) rfl (show decode cX12_set 92 = .ok (.putfield 96, 3) by decide +kernel) xw_1744),
  List.forall_mem_cons.mpr ⟨(xOK_pure (xs_goto (show decode cX12_set 95 = .ok (.goto 8, 3) by decide +kernel) (by decide))),
  List.forall_mem_cons.mpr ⟨(xOK_pure (xs_aload_n (k := 0) rfl (show decode cX12_set 98 = .ok (.aload_n 0, 1) by decide +kernel))),
  List.forall_mem_cons.mpr ⟨(xOK_pure (xs_iload_n (k := 2) rfl (show decode cX12_set 99 = .ok (.iload_n 2, 1) by decide +kernel))),
  List.forall_mem_cons.mpr ⟨(xs_putf (k := 36) xcl_12 (by decide) rfl (show decode cX12_set 100 = .ok (.putfield 99, 3) by decide +kernel) xw_1745),
  List.forall_mem_cons.mpr ⟨(xOK_pure (xs_iload_n (k := 3) rfl (show decode cX12_set 103 = .ok (.iload_n 3, 1) by decide +kernel))),
  List.forall_mem_cons.mpr ⟨(Or.inr (Or.inl ⟨rfl, (show decode cX12_set 104 = .ok (.ireturn, 1) by decide +kernel), rfl⟩)),
  (fun _ h => absurd h List.not_mem_nil)⟩⟩⟩⟩⟩⟩⟩⟩⟩⟩⟩⟩⟩⟩⟩⟩
def pX12_set (ev : xEv) : List (Nat × xEn) := pX12_set_0 ev ++ (pX12_set_1 ev ++ (pX12_set_2 ev))
theorem okpX12_set (ev : xEv) : ∀ q ∈ pX12_set ev, xEnOK ev xmi yX12_set.cls yX12_set.name cX12_set 4 (some .int) q := List.forall_mem_append.mpr ⟨okpX12_set_0 ev, List.forall_mem_append.mpr ⟨okpX12_set_1 ev, okpX12_set_2 ev⟩⟩
theorem omX12_set (ev : xEv) : xMethOK ev xmi yX12_set.cls yX12_set.name 228 (pX12_set ev) := xMethOK.of mi_228 (by decide +kernel) (okpX12_set ev)
def pX12_sign_0 (ev : xEv) : List (Nat × xEn) := [(0, .inl (xop (xf_aload 0 1))), (1, .inl (xop (xf_push (.int 0) 1))), (2, .inl (xo_putf 12 47 .int)), (5, .inl (xop (xf_aload 0 1))), (6, .inl (xop (xf_getf 12 44))), (9, .inl (xop (xf_push (.int 4) 1))), (10, .inl (xop (xf_bin (fun x y => x + y)))), (11, .inl (xop (xf_push (.int 100) 2))), (13, .inl (xop (xf_icmp_le 18))), (16, .inl (xop (xf_push (.int (-1)) 1))), (17, .inr (.inr 1)), (18, .inl (xop (xf_push (.int 3) 1))), (19, .inl (xop (xf_istore 2 1))), (20, .inl (xop (xf_iload 2 1))), (21, .inl (xop (xf_if_lt 53))), (24, .inl (xop (xf_aload 0 1))), (25, .inl (xop (xf_getf 12 43))), (28, .inl (xop (xf_aload 0 1))), (29, .inl (xop xf_dup)), (30, .inl (xop (xf_getf 12 44)))]
set_option maxRecDepth 20000 in
theorem okpX12_sign_0 (ev : xEv) : ∀ q ∈ pX12_sign_0 ev, xEnOK ev xmi yX12_sign.cls yX12_sign.name cX12_sign 3 (some .int) q :=
  List.forall_mem_cons.mpr ⟨(xOK_pure (xs_aload_n (k := 0) rfl (show decode cX12_sign 0 = .ok (.aload_n 0, 1) by decide +kernel))),
  List.forall_mem_cons.mpr ⟨(xOK_pure (xs_iconst (n := 0) (show decode cX12_sign 1 = .ok (.iconst 0, 1) by decide +kernel) (by decide))),
  List.forall_mem_cons.mpr ⟨(xs_putf (k := 47) xcl_12 (by decide) rfl (show decode cX12_sign 2 = .ok (.putfield 140, 3) by decide +kernel) xw_1756),
  List.forall_mem_cons.mpr ⟨(xOK_pure (xs_aload_n (k := 0) rfl (show decode cX12_sign 5 = .ok (.aload_n 0, 1) by decide +kernel))),
  List.forall_mem_cons.mpr ⟨(xOK_pure (xs_getf xcl_12 (by decide) (show decode cX12_sign 6 = .ok (.getfield 234, 3) by decide +kernel) xw_1753)),
  List.forall_mem_cons.mpr ⟨(xOK_pure (xs_iconst (n := 4) (show decode cX12_sign 9 = .ok (.iconst 4, 1) by decide +kernel) (by decide))),
  List.forall_mem_cons.mpr ⟨(xOK_pure (xs_iadd (show decode cX12_sign 10 = .ok (.iadd, 1) by decide +kernel))),
  List.forall_mem_cons.mpr ⟨(xOK_pure (xs_bipush (n := 100) (show decode cX12_sign 11 = .ok (.bipush 100, 2) by decide +kernel) (by decide))),
  List.forall_mem_cons.mpr ⟨(xOK_pure (xs_icmp_le (show decode cX12_sign 13 = .ok (.if_icmp .le 5, 3) by decide +kernel) (by decide))),
  List.forall_mem_cons.mpr ⟨(xOK_pure (xs_iconst (n := (-1)) (show decode cX12_sign 16 = .ok (.iconst (-1), 1) by decide +kernel) (by decide))),
  List.forall_mem_cons.mpr ⟨(Or.inr (Or.inl ⟨rfl, (show decode cX12_sign 17 = .ok (.ireturn, 1) by decide +kernel), rfl⟩)),
  List.forall_mem_cons.mpr ⟨(xOK_pure (xs_iconst (n := 3) (show decode cX12_sign 18 = .ok (.iconst 3, 1) by decide +kernel) (by decide))),
  List.forall_mem_cons.mpr ⟨(xOK_pure (xs_istore_n (k := 2) rfl (show decode cX12_sign 19 = .ok (.istore_n 2, 1) by decide +kernel) (by decide))),
  List.forall_mem_cons.mpr ⟨(xOK_pure (xs_iload_n (k := 2) rfl (show decode cX12_sign 20 = .ok (.iload_n 2, 1) by decide +kernel))),
  List.forall_mem_cons.mpr ⟨(xOK_pure (xs_if_lt (show decode cX12_sign 21 = .ok (.ifCond .lt 32, 3) by decide +kernel) (by decide))),
  List.forall_mem_cons.mpr ⟨(xOK_pure (xs_aload_n (k := 0) rfl (show decode cX12_sign 24 = .ok (.aload_n 0, 1) by decide +kernel))),
  List.forall_mem_cons.mpr ⟨(xOK_pure (xs_getf xcl_12 (by decide) (show decode cX12_sign 25 = .ok (.getfield 115, 3) by decide +kernel) xw_1752)),
  List.forall_mem_cons.mpr ⟨(xOK_pure (xs_aload_n (k := 0) rfl (show decode cX12_sign 28 = .ok (.aload_n 0, 1) by decide +kernel))),
  List.forall_mem_cons.mpr ⟨(xOK_pure (xs_dup (show decode cX12_sign 29 = .ok (.dup, 1) by decide +kernel))),
  List.forall_mem_cons.mpr ⟨(xOK_pure (xs_getf xcl_12 (by decide) (show decode cX12_sign 30 = .ok (.getfield 234, 3) by decide +kernel) xw_1753)),
  (fun _ h => absurd h List.not_mem_nil)⟩⟩⟩⟩⟩⟩⟩⟩⟩⟩⟩⟩⟩⟩⟩⟩⟩⟩⟩⟩
def pX12_sign_1 (ev : xEv) : List (Nat × xEn) := [(33, .inl (xop xf_dupx1)), (34, .inl (xop (xf_push (.int 1) 1))), (35, .inl (xop (xf_bin (fun x y => x + y)))), (36, .inl (xo_putf 12 44 .int)), (39, .inl (xop (xf_iload 1 1))), (40, .inl (xop (xf_push (.int 8) 2))), (42, .inl (xop (xf_iload 2 1))), (43, .inl (xop (xf_bin (fun x y => x * y)))), (44, .inl (xop (xf_bin (fun x y => x >>> (y &&& 31))))), (45, .inl (xop (xf_un (fun x => x.toInt8.toInt32)))), (46, .inl (xo_ast (ev.1 3) (vp_nar .byte))), (47, .inl (xop (xf_iinc 2 (-1)))), (50, .inl (xop (xf_goto 20))), (53, .inl (xop (xf_aload 0 1))), (54, .inl (xop (xf_getf 12 44))), (57, .inr (.inr 1))]
set_option maxRecDepth 20000 in
theorem okpX12_sign_1 (ev : xEv) : ∀ q ∈ pX12_sign_1 ev, xEnOK ev xmi yX12_sign.cls yX12_sign.name cX12_sign 3 (some .int) q :=
  List.forall_mem_cons.mpr ⟨(xOK_pure (xs_dupx1 (show decode cX12_sign 33 = .ok (.dup_x1, 1) by decide +kernel))),
  List.forall_mem_cons.mpr ⟨(xOK_pure (xs_iconst (n := 1) (show decode cX12_sign 34 = .ok (.iconst 1, 1) by decide +kernel) (by decide))),
  List.forall_mem_cons.mpr ⟨(xOK_pure (xs_iadd (show decode cX12_sign 35 = .ok (.iadd, 1) by decide +kernel))),
  List.forall_mem_cons.mpr ⟨(xs_putf (k := 44) xcl_12 (by decide) rfl (show decode cX12_sign 36 = .ok (.putfield 234, 3) by decide +kernel) xw_1753),
  List.forall_mem_cons.mpr ⟨(xOK_pure (xs_iload_n (k := 1) rfl (show decode cX12_sign 39 = .ok (.iload_n 1, 1) by decide +kernel))),
  List.forall_mem_cons.mpr ⟨(xOK_pure (xs_bipush (n := 8) (show decode cX12_sign 40 = .ok (.bipush 8, 2) by decide +kernel) (by decide))),
  List.forall_mem_cons.mpr ⟨(xOK_pure (xs_iload_n (k := 2) rfl (show decode cX12_sign 42 = .ok (.iload_n 2, 1) by decide +kernel))),
  List.forall_mem_cons.mpr ⟨(xOK_pure (xs_imul (show decode cX12_sign 43 = .ok (.imul, 1) by decide +kernel))),
  List.forall_mem_cons.mpr ⟨(xOK_pure (xs_ishr (show decode cX12_sign 44 = .ok (.ishr, 1) by decide +kernel))),
  List.forall_mem_cons.mpr ⟨(xOK_pure (xs_i2b (show decode cX12_sign 45 = .ok (.i2b, 1) by decide +kernel))),
  List.forall_mem_cons.mpr ⟨(xs_bast (show decode cX12_sign 46 = .ok (.bastore, 1) by decide +kernel)),
  List.forall_mem_cons.mpr ⟨(xOK_pure (xs_iinc (n := (-1)) (show decode cX12_sign 47 = .ok (.iinc 2 (-1), 3) by decide +kernel) (by decide) (by decide))),
  List.forall_mem_cons.mpr ⟨(xOK_pure (xs_goto (show decode cX12_sign 50 = .ok (.goto (-30), 3) by decide +kernel) (by decide))),
  List.forall_mem_cons.mpr ⟨(xOK_pure (xs_aload_n (k := 0) rfl (show decode cX12_sign 53 = .ok (.aload_n 0, 1) by decide +kernel))),
  List.forall_mem_cons.mpr ⟨(xOK_pure (xs_getf xcl_12 (by decide) (show decode cX12_sign 54 = .ok (.getfield 234, 3) by decide +kernel) xw_1753)),
  List.forall_mem_cons.mpr ⟨(Or.inr (Or.inl ⟨rfl, (show decode cX12_sign 57 = .ok (.ireturn, 1) by decide +kernel), rfl⟩)),
  (fun _ h => absurd h List.not_mem_nil)⟩⟩⟩⟩⟩⟩⟩⟩⟩⟩⟩⟩⟩⟩⟩⟩
def pX12_sign (ev : xEv) : List (Nat × xEn) := pX12_sign_0 ev ++ (pX12_sign_1 ev)
theorem okpX12_sign (ev : xEv) : ∀ q ∈ pX12_sign ev, xEnOK ev xmi yX12_sign.cls yX12_sign.name cX12_sign 3 (some .int) q := List.forall_mem_append.mpr ⟨okpX12_sign_0 ev, okpX12_sign_1 ev⟩
theorem omX12_sign (ev : xEv) : xMethOK ev xmi yX12_sign.cls yX12_sign.name 229 (pX12_sign ev) := xMethOK.of mi_229 (by decide +kernel) (okpX12_sign ev)
def pX12_end (ev : xEv) : List (Nat × xEn) := [(0, .inl (xop (xf_aload 0 1))), (1, .inl (xop (xf_push (.int 0) 1))), (2, .inl (xo_putf 12 47 .int)), (5, .inl (xop (xf_iload 1 1))), (6, .inl (xop (xf_push (.int 0) 1))), (7, .inl (xop (xf_aload 0 1))), (8, .inl (xop (xf_getf 12 44))), (11, .inr (.inl (1, 188, 3, 12))), (14, .inl (xop (xf_if_ne 19))), (17, .inl (xop (xf_push (.int 0) 1))), (18, .inr (.inr 4)), (19, .inl (xop (xf_aload 0 1))), (20, .inl (xop (xf_iload 1 1))), (21, .inl (xo_putf 12 44 .int)), (24, .inl (xop (xf_push (.int 1) 1))), (25, .inr (.inr 4))]
set_option maxRecDepth 20000 in
theorem okpX12_end (ev : xEv) : ∀ q ∈ pX12_end ev, xEnOK ev xmi yX12_end.cls yX12_end.name cX12_end 2 (some .boolean) q :=
  List.forall_mem_cons.mpr ⟨(xOK_pure (xs_aload_n (k := 0) rfl (show decode cX12_end 0 = .ok (.aload_n 0, 1) by decide +kernel))),
  List.forall_mem_cons.mpr ⟨(xOK_pure (xs_iconst (n := 0) (show decode cX12_end 1 = .ok (.iconst 0, 1) by decide +kernel) (by decide))),
  List.forall_mem_cons.mpr ⟨(xs_putf (k := 47) xcl_12 (by decide) rfl (show decode cX12_end 2 = .ok (.putfield 140, 3) by decide +kernel) xw_1756),
  List.forall_mem_cons.mpr ⟨(xOK_pure (xs_iload_n (k := 1) rfl (show decode cX12_end 5 = .ok (.iload_n 1, 1) by decide +kernel))),
  List.forall_mem_cons.mpr ⟨(xOK_pure (xs_iconst (n := 0) (show decode cX12_end 6 = .ok (.iconst 0, 1) by decide +kernel) (by decide))),
  List.forall_mem_cons.mpr ⟨(xOK_pure (xs_aload_n (k := 0) rfl (show decode cX12_end 7 = .ok (.aload_n 0, 1) by decide +kernel))),
  List.forall_mem_cons.mpr ⟨(xOK_pure (xs_getf xcl_12 (by decide) (show decode cX12_end 8 = .ok (.getfield 234, 3) by decide +kernel) xw_1753)),
  List.forall_mem_cons.mpr ⟨(xcm mi_188 ⟨⟨(by decide +kernel), (by decide +kernel), (by decide +kernel)⟩, (by decide), xw_1912, xw_125, Or.inr (Or.inl ⟨rfl, _, (show decode cX12_end 11 = .ok (.invokestatic 146, 3) by decide +kernel), xw_1910, xw_1911⟩)⟩),
  List.forall_mem_cons.mpr ⟨(xOK_pure (xs_if_ne (show decode cX12_end 14 = .ok (.ifCond .ne 5, 3) by decide +kernel) (by decide))),
  List.forall_mem_cons.mpr ⟨(xOK_pure (xs_iconst (n := 0) (show decode cX12_end 17 = .ok (.iconst 0, 1) by decide +kernel) (by decide))),
  List.forall_mem_cons.mpr ⟨(Or.inr (Or.inr (Or.inr (Or.inr (Or.inl ⟨rfl, (show decode cX12_end 18 = .ok (.ireturn, 1) by decide +kernel), rfl⟩))))),
  List.forall_mem_cons.mpr ⟨(xOK_pure (xs_aload_n (k := 0) rfl (show decode cX12_end 19 = .ok (.aload_n 0, 1) by decide +kernel))),
  List.forall_mem_cons.mpr ⟨(xOK_pure (xs_iload_n (k := 1) rfl (show decode cX12_end 20 = .ok (.iload_n 1, 1) by decide +kernel))),
  List.forall_mem_cons.mpr ⟨(xs_putf (k := 44) xcl_12 (by decide) rfl (show decode cX12_end 21 = .ok (.putfield 234, 3) by decide +kernel) xw_1753),
  List.forall_mem_cons.mpr ⟨(xOK_pure (xs_iconst (n := 1) (show decode cX12_end 24 = .ok (.iconst 1, 1) by decide +kernel) (by decide))),
  List.forall_mem_cons.mpr ⟨(Or.inr (Or.inr (Or.inr (Or.inr (Or.inl ⟨rfl, (show decode cX12_end 25 = .ok (.ireturn, 1) by decide +kernel), rfl⟩))))),
  (fun _ h => absurd h List.not_mem_nil)⟩⟩⟩⟩⟩⟩⟩⟩⟩⟩⟩⟩⟩⟩⟩⟩
theorem omX12_end (ev : xEv) : xMethOK ev xmi yX12_end.cls yX12_end.name 230 (pX12_end ev) := xMethOK.of mi_230 (by decide +kernel) (okpX12_end ev)
def pX12_here_0 (ev : xEv) : List (Nat × xEn) := [(0, .inl (xop (xf_aload 0 1))), (1, .inl (xop (xf_getf 12 53))), (4, .inl (xop (xf_aload 0 1))), (5, .inl (xop (xf_getf 12 52))), (8, .inl (xop (xf_icmp_ge 41))), (11, .inl (xop (xf_aload 0 1))), (12, .inl (xop (xf_getf 12 53))), (15, .inl (xop (xf_push (.int 60) 2))), (17, .inl (xop (xf_icmp_ge 41))), (20, .inl (xop (xf_aload 0 1))), (21, .inl (xop (xf_getf 12 50))), (24, .inl (xop (xf_aload 0 1))), (25, .inl (xop (xf_getf 12 51))), (28, .inl (xop (xf_aload 0 1))), (29, .inl (xop (xf_getf 12 53))), (32, .inl (xop (xf_bin (fun x y => x + y)))), (33, .inl (xop (xf_ald (ev.1 3)))), (34, .inl (xop (xf_push (.int 255) 3))), (37, .inl (xop (xf_bin (fun x y => x &&& y)))), (38, .inl (xop (xf_goto 42)))]
set_option maxRecDepth 20000 in
theorem okpX12_here_0 (ev : xEv) : ∀ q ∈ pX12_here_0 ev, xEnOK ev xmi yX12_here.cls yX12_here.name cX12_here 1 (some .int) q :=
  List.forall_mem_cons.mpr ⟨(xOK_pure (xs_aload_n (k := 0) rfl (show decode cX12_here 0 = .ok (.aload_n 0, 1) by decide +kernel))),
  List.forall_mem_cons.mpr ⟨(xOK_pure (xs_getf xcl_12 (by decide) (show decode cX12_here 1 = .ok (.getfield 237, 3) by decide +kernel) xw_1762)),
  List.forall_mem_cons.mpr ⟨(xOK_pure (xs_aload_n (k := 0) rfl (show decode cX12_here 4 = .ok (.aload_n 0, 1) by decide +kernel))),
  List.forall_mem_cons.mpr ⟨(xOK_pure (xs_getf xcl_12 (by decide) (show decode cX12_here 5 = .ok (.getfield 240, 3) by decide +kernel) xw_1761)),
  List.forall_mem_cons.mpr ⟨(xOK_pure (xs_icmp_ge (show decode cX12_here 8 = .ok (.if_icmp .ge 33, 3) by decide +kernel) (by decide))),
  List.forall_mem_cons.mpr ⟨(xOK_pure (xs_aload_n (k := 0) rfl (show decode cX12_here 11 = .ok (.aload_n 0, 1) by decide +kernel))),
  List.forall_mem_cons.mpr ⟨(xOK_pure (xs_getf xcl_12 (by decide) (show decode cX12_here 12 = .ok (.getfield 237, 3) by decide +kernel) xw_1762)),
  List.forall_mem_cons.mpr ⟨(xOK_pure (xs_bipush (n := 60) (show decode cX12_here 15 = .ok (.bipush 60, 2) by decide +kernel) (by decide))),
  List.forall_mem_cons.mpr ⟨(xOK_pure (xs_icmp_ge (show decode cX12_here 17 = .ok (.if_icmp .ge 24, 3) by decide +kernel) (by decide))),
  List.forall_mem_cons.mpr ⟨(xOK_pure (xs_aload_n (k := 0) rfl (show decode cX12_here 20 = .ok (.aload_n 0, 1) by decide +kernel))),
  List.forall_mem_cons.mpr ⟨(xOK_pure (xs_getf xcl_12 (by decide) (show decode cX12_here 21 = .ok (.getfield 243, 3) by decide +kernel) xw_1759)),
  List.forall_mem_cons.mpr ⟨(xOK_pure (xs_aload_n (k := 0) rfl (show decode cX12_here 24 = .ok (.aload_n 0, 1) by decide +kernel))),
  List.forall_mem_cons.mpr ⟨(xOK_pure (xs_getf xcl_12 (by decide) (show decode cX12_here 25 = .ok (.getfield 246, 3) by decide +kernel) xw_1760)),
  List.forall_mem_cons.mpr ⟨(xOK_pure (xs_aload_n (k := 0) rfl (show decode cX12_here 28 = .ok (.aload_n 0, 1) by decide +kernel))),
  List.forall_mem_cons.mpr ⟨(xOK_pure (xs_getf xcl_12 (by decide) (show decode cX12_here 29 = .ok (.getfield 237, 3) by decide +kernel) xw_1762)),
  List.forall_mem_cons.mpr ⟨(xOK_pure (xs_iadd (show decode cX12_here 32 = .ok (.iadd, 1) by decide +kernel))),
  List.forall_mem_cons.mpr ⟨(xOK_pure (xs_bald (show decode cX12_here 33 = .ok (.baload, 1) by decide +kernel))),
  List.forall_mem_cons.mpr ⟨(xOK_pure (xs_sipush (n := 255) (show decode cX12_here 34 = .ok (.sipush 255, 3) by decide +kernel) (by decide))),
  List.forall_mem_cons.mpr ⟨(xOK_pure (xs_iand (show decode cX12_here 37 = .ok (.iand, 1) by decide +kernel))),
  List.forall_mem_cons.mpr ⟨(xOK_pure (xs_goto (show decode cX12_here 38 = .ok (.goto 4, 3) by decide +kernel) (by decide))),
  (fun _ h => absurd h List.not_mem_nil)⟩⟩⟩⟩⟩⟩⟩⟩⟩⟩⟩⟩⟩⟩⟩⟩⟩⟩⟩⟩
def pX12_here_1 (ev : xEv) : List (Nat × xEn) := [(41, .inl (xop (xf_push (.int (-1)) 1))), (42, .inr (.inr 1))]
set_option maxRecDepth 20000 in
theorem okpX12_here_1 (ev : xEv) : ∀ q ∈ pX12_here_1 ev, xEnOK ev xmi yX12_here.cls yX12_here.name cX12_here 1 (some .int) q :=
  List.forall_mem_cons.mpr ⟨(xOK_pure (xs_iconst (n := (-1)) (show decode cX12_here 41 = .ok (.iconst (-1), 1) by decide +kernel) (by decide))),
  List.forall_mem_cons.mpr ⟨(Or.inr (Or.inl ⟨rfl, (show decode cX12_here 42 = .ok (.ireturn, 1) by decide +kernel), rfl⟩)),
  (fun _ h => absurd h List.not_mem_nil)⟩⟩
def pX12_here (ev : xEv) : List (Nat × xEn) := pX12_here_0 ev ++ (pX12_here_1 ev)
theorem okpX12_here (ev : xEv) : ∀ q ∈ pX12_here ev, xEnOK ev xmi yX12_here.cls yX12_here.name cX12_here 1 (some .int) q := List.forall_mem_append.mpr ⟨okpX12_here_0 ev, okpX12_here_1 ev⟩
theorem omX12_here (ev : xEv) : xMethOK ev xmi yX12_here.cls yX12_here.name 231 (pX12_here ev) := xMethOK.of mi_231 (by decide +kernel) (okpX12_here ev)
def pX12_comes (ev : xEv) : List (Nat × xEn) := [(0, .inl (xop (xf_aload 0 1))), (1, .inr (.inl (0, 231, 0, 12))), (4, .inl (xop (xf_iload 1 1))), (5, .inl (xop (xf_icmp_eq 10))), (8, .inl (xop (xf_push (.int 0) 1))), (9, .inr (.inr 4)), (10, .inl (xop (xf_aload 0 1))), (11, .inl (xop xf_dup)), (12, .inl (xop (xf_getf 12 53))), (15, .inl (xop (xf_push (.int 1) 1))), (16, .inl (xop (xf_bin (fun x y => x + y)))), (17, .inl (xo_putf 12 53 .int)), (20, .inl (xop (xf_push (.int 1) 1))), (21, .inr (.inr 4))]
set_option maxRecDepth 20000 in
theorem okpX12_comes (ev : xEv) : ∀ q ∈ pX12_comes ev, xEnOK ev xmi yX12_comes.cls yX12_comes.name cX12_comes 2 (some .boolean) q :=
  List.forall_mem_cons.mpr ⟨(xOK_pure (xs_aload_n (k := 0) rfl (show decode cX12_comes 0 = .ok (.aload_n 0, 1) by decide +kernel))),
  List.forall_mem_cons.mpr ⟨(xcm mi_231 ⟨⟨(by decide +kernel), (by decide +kernel), (by decide +kernel)⟩, (by decide), xw_2099, xw_125, Or.inl ⟨rfl, _, _, _, _, (show decode cX12_comes 1 = .ok (.invokevirtual 249, 3) by decide +kernel), xw_2096, xw_2098, xw_78, rfl⟩⟩),
  List.forall_mem_cons.mpr ⟨(xOK_pure (xs_iload_n (k := 1) rfl (show decode cX12_comes 4 = .ok (.iload_n 1, 1) by decide +kernel))),
  List.forall_mem_cons.mpr ⟨(xOK_pure (xs_icmp_eq (show decode cX12_comes 5 = .ok (.if_icmp .eq 5, 3) by decide +kernel) (by decide))),
  List.forall_mem_cons.mpr ⟨(xOK_pure (xs_iconst (n := 0) (show decode cX12_comes 8 = .ok (.iconst 0, 1) by decide +kernel) (by decide))),
  List.forall_mem_cons.mpr ⟨(Or.inr (Or.inr (Or.inr (Or.inr (Or.inl ⟨rfl, (show decode cX12_comes 9 = .ok (.ireturn, 1) by decide +kernel), rfl⟩))))),
  List.forall_mem_cons.mpr ⟨(xOK_pure (xs_aload_n (k := 0) rfl (show decode cX12_comes 10 = .ok (.aload_n 0, 1) by decide +kernel))),
  List.forall_mem_cons.mpr ⟨(xOK_pure (xs_dup (show decode cX12_comes 11 = .ok (.dup, 1) by decide +kernel))),
  List.forall_mem_cons.mpr ⟨(xOK_pure (xs_getf xcl_12 (by decide) (show decode cX12_comes 12 = .ok (.getfield 237, 3) by decide +kernel) xw_1762)),
  List.forall_mem_cons.mpr ⟨(xOK_pure (xs_iconst (n := 1) (show decode cX12_comes 15 = .ok (.iconst 1, 1) by decide +kernel) (by decide))),
  List.forall_mem_cons.mpr ⟨(xOK_pure (xs_iadd (show decode cX12_comes 16 = .ok (.iadd, 1) by decide +kernel))),
  List.forall_mem_cons.mpr ⟨(xs_putf (k := 53) xcl_12 (by decide) rfl (show decode cX12_comes 17 = .ok (.putfield 237, 3) by decide +kernel) xw_1762),
  List.forall_mem_cons.mpr ⟨(xOK_pure (xs_iconst (n := 1) (show decode cX12_comes 20 = .ok (.iconst 1, 1) by decide +kernel) (by decide))),
  List.forall_mem_cons.mpr ⟨(Or.inr (Or.inr (Or.inr (Or.inr (Or.inl ⟨rfl, (show decode cX12_comes 21 = .ok (.ireturn, 1) by decide +kernel), rfl⟩))))),
  (fun _ h => absurd h List.not_mem_nil)⟩⟩⟩⟩⟩⟩⟩⟩⟩⟩⟩⟩⟩⟩
theorem omX12_comes (ev : xEv) : xMethOK ev xmi yX12_comes.cls yX12_comes.name 232 (pX12_comes ev) := xMethOK.of mi_232 (by decide +kernel) (okpX12_comes ev)
def pX12_isWrong (ev : xEv) : List (Nat × xEn) := [(0, .inl (xop (xf_aload 0 1))), (1, .inl (xop (xf_getf 12 54))), (4, .inl (xop (xf_push (.int (-1)) 1))), (5, .inl (xop (xf_icmp_ne 16))), (8, .inl (xop (xf_aload 0 1))), (9, .inl (xop (xf_aload 0 1))), (10, .inl (xop (xf_getf 12 53))), (13, .inl (xo_putf 12 54 .int)), (16, .inl (xop (xf_push (.int 0) 1))), (17, .inr (.inr 1))]
set_option maxRecDepth 20000 in
theorem okpX12_isWrong (ev : xEv) : ∀ q ∈ pX12_isWrong ev, xEnOK ev xmi yX12_isWrong.cls yX12_isWrong.name cX12_isWrong 1 (some .int) q :=
  List.forall_mem_cons.mpr ⟨(xOK_pure (xs_aload_n (k := 0) rfl (show decode cX12_isWrong 0 = .ok (.aload_n 0, 1) by decide +kernel))),
  List.forall_mem_cons.mpr ⟨(xOK_pure (xs_getf xcl_12 (by decide) (show decode cX12_isWrong 1 = .ok (.getfield 252, 3) by decide +kernel) xw_1763)),
  List.forall_mem_cons.mpr ⟨(xOK_pure (xs_iconst (n := (-1)) (show decode cX12_isWrong 4 = .ok (.iconst (-1), 1) by decide +kernel) (by decide))),
  List.forall_mem_cons.mpr ⟨(xOK_pure (xs_icmp_ne (show decode cX12_isWrong 5 = .ok (.if_icmp .ne 11, 3) by decide +kernel) (by decide))),
  List.forall_mem_cons.mpr ⟨(xOK_pure (xs_aload_n (k := 0) rfl (show decode cX12_isWrong 8 = .ok (.aload_n 0, 1) by decide +kernel))),
  List.forall_mem_cons.mpr ⟨(xOK_pure (xs_aload_n (k := 0) rfl (show decode cX12_isWrong 9 = .ok (.aload_n 0, 1) by decide +kernel))),
  List.forall_mem_cons.mpr ⟨(xOK_pure (xs_getf xcl_12 (by decide) (show decode cX12_isWrong 10 = .ok (.getfield 237, 3) by decide +kernel) xw_1762)),
  List.forall_mem_cons.mpr ⟨(xs_putf (k := 54) xcl_12 (by decide) rfl (show decode cX12_isWrong 13 = .ok (.putfield 252, 3) by decide +kernel) xw_1763),
  List.forall_mem_cons.mpr ⟨(xOK_pure (xs_iconst (n := 0) (show decode cX12_isWrong 16 = .ok (.iconst 0, 1) by decide +kernel) (by decide))),
  List.forall_mem_cons.mpr ⟨(Or.inr (Or.inl ⟨rfl, (show decode cX12_isWrong 17 = .ok (.ireturn, 1) by decide +kernel), rfl⟩)),
  (fun _ h => absurd h List.not_mem_nil)⟩⟩⟩⟩⟩⟩⟩⟩⟩⟩
theorem omX12_isWrong (ev : xEv) : xMethOK ev xmi yX12_isWrong.cls yX12_isWrong.name 233 (pX12_isWrong ev) := xMethOK.of mi_233 (by decide +kernel) (okpX12_isWrong ev)
def pX12_isDigit (ev : xEv) : List (Nat × xEn) := [(0, .inl (xop (xf_aload 0 1))), (1, .inr (.inl (0, 231, 0, 12))), (4, .inl (xop (xf_push (.int 48) 2))), (6, .inl (xop (xf_icmp_lt 22))), (9, .inl (xop (xf_aload 0 1))), (10, .inr (.inl (0, 231, 0, 12))), (13, .inl (xop (xf_push (.int 57) 2))), (15, .inl (xop (xf_icmp_gt 22))), (18, .inl (xop (xf_push (.int 1) 1))), (19, .inl (xop (xf_goto 23))), (22, .inl (xop (xf_push (.int 0) 1))), (23, .inr (.inr 4))]
set_option maxRecDepth 20000 in
theorem okpX12_isDigit (ev : xEv) : ∀ q ∈ pX12_isDigit ev, xEnOK ev xmi yX12_isDigit.cls yX12_isDigit.name cX12_isDigit 1 (some .boolean) q :=
  List.forall_mem_cons.mpr ⟨(xOK_pure (xs_aload_n (k := 0) rfl (show decode cX12_isDigit 0 = .ok (.aload_n 0, 1) by decide +kernel))),
  List.forall_mem_cons.mpr ⟨(xcm mi_231 ⟨⟨(by decide +kernel), (by decide +kernel), (by decide +kernel)⟩, (by decide), xw_2099, xw_125, Or.inl ⟨rfl, _, _, _, _, (show decode cX12_isDigit 1 = .ok (.invokevirtual 249, 3) by decide +kernel), xw_2096, xw_2098, xw_78, rfl⟩⟩),
  List.forall_mem_cons.mpr ⟨(xOK_pure (xs_bipush (n := 48) (show decode cX12_isDigit 4 = .ok (.bipush 48, 2) by decide +kernel) (by decide))),
  List.forall_mem_cons.mpr ⟨(xOK_pure (xs_icmp_lt (show decode cX12_isDigit 6 = .ok (.if_icmp .lt 16, 3) by decide +kernel) (by decide))),
  List.forall_mem_cons.mpr ⟨(xOK_pure (xs_aload_n (k := 0) rfl (show decode cX12_isDigit 9 = .ok (.aload_n 0, 1) by decide +kernel))),
  List.forall_mem_cons.mpr ⟨(xcm mi_231 ⟨⟨(by decide +kernel), (by decide +kernel), (by decide +kernel)⟩, (by decide), xw_2099, xw_125, Or.inl ⟨rfl, _, _, _, _, (show decode cX12_isDigit 10 = .ok (.invokevirtual 249, 3) by decide +kernel), xw_2096, xw_2098, xw_78, rfl⟩⟩),
  List.forall_mem_cons.mpr ⟨(xOK_pure (xs_bipush (n := 57) (show decode cX12_isDigit 13 = .ok (.bipush 57, 2) by decide +kernel) (by decide))),
  List.forall_mem_cons.mpr ⟨(xOK_pure (xs_icmp_gt (show decode cX12_isDigit 15 = .ok (.if_icmp .gt 7, 3) by decide +kernel) (by decide))),
  List.forall_mem_cons.mpr ⟨(xOK_pure (xs_iconst (n := 1) (show decode cX12_isDigit 18 = .ok (.iconst 1, 1) by decide +kernel) (by decide))),
  List.forall_mem_cons.mpr ⟨(xOK_pure (xs_goto (show decode cX12_isDigit 19 = .ok (.goto 4, 3) by decide +kernel) (by decide))),
  List.forall_mem_cons.mpr ⟨(xOK_pure (xs_iconst (n := 0) (show decode cX12_isDigit 22 = .ok (.iconst 0, 1) by decide +kernel) (by decide))),
  List.forall_mem_cons.mpr ⟨(Or.inr (Or.inr (Or.inr (Or.inr (Or.inl ⟨rfl, (show decode cX12_isDigit 23 = .ok (.ireturn, 1) by decide +kernel), rfl⟩))))),
  (fun _ h => absurd h List.not_mem_nil)⟩⟩⟩⟩⟩⟩⟩⟩⟩⟩⟩⟩
theorem omX12_isDigit (ev : xEv) : xMethOK ev xmi yX12_isDigit.cls yX12_isDigit.name 234 (pX12_isDigit ev) := xMethOK.of mi_234 (by decide +kernel) (okpX12_isDigit ev)
def pX12_any_0 (ev : xEv) : List (Nat × xEn) := [(0, .inl (xop (xf_aload 0 1))), (1, .inr (.inl (0, 236, 0, 12))), (4, .inl (xop (xf_istore 1 1))), (5, .inl (xop (xf_aload 0 1))), (6, .inl (xop (xf_getf 12 54))), (9, .inl (xop (xf_push (.int (-1)) 1))), (10, .inl (xop (xf_icmp_ne 56))), (13, .inl (xop (xf_aload 0 1))), (14, .inl (xop (xf_push (.int 124) 2))), (16, .inr (.inl (0, 232, 1, 12))), (19, .inl (xop (xf_if_eq 56))), (22, .inl (xop (xf_aload 0 1))), (23, .inr (.inl (0, 236, 0, 12))), (26, .inl (xop (xf_if_eq 33))), (29, .inl (xop (xf_push (.int 1) 1))), (30, .inl (xop (xf_goto 34))), (33, .inl (xop (xf_push (.int 0) 1))), (34, .inl (xop (xf_iload 1 1))), (35, .inl (xop (xf_if_eq 42))), (38, .inl (xop (xf_push (.int 1) 1)))]
set_option maxRecDepth 20000 in
theorem okpX12_any_0 (ev : xEv) : ∀ q ∈ pX12_any_0 ev, xEnOK ev xmi yX12_any.cls yX12_any.name cX12_any 2 (some .int) q :=
  List.forall_mem_cons.mpr ⟨(xOK_pure (xs_aload_n (k := 0) rfl (show decode cX12_any 0 = .ok (.aload_n 0, 1) by decide +kernel))),
  List.forall_mem_cons.mpr ⟨(xcm mi_236 ⟨⟨(by decide +kernel), (by decide +kernel), (by decide +kernel)⟩, (by decide), xw_2075, xw_125, Or.inl ⟨rfl, _, _, _, _, (show decode cX12_any 1 = .ok (.invokevirtual 255, 3) by decide +kernel), xw_2072, xw_2074, xw_72, rfl⟩⟩),
  List.forall_mem_cons.mpr ⟨(xOK_pure (xs_istore_n (k := 1) rfl (show decode cX12_any 4 = .ok (.istore_n 1, 1) by decide +kernel) (by decide))),
  List.forall_mem_cons.mpr ⟨(xOK_pure (xs_aload_n (k := 0) rfl (show decode cX12_any 5 = .ok (.aload_n 0, 1) by decide +kernel))),
  List.forall_mem_cons.mpr ⟨(xOK_pure (xs_getf xcl_12 (by decide) (show decode cX12_any 6 = .ok (.getfield 252, 3) by decide +kernel) xw_1763)),
  List.forall_mem_cons.mpr ⟨(xOK_pure (xs_iconst (n := (-1)) (show decode cX12_any 9 = .ok (.iconst (-1), 1) by decide +kernel) (by decide))),
  List.forall_mem_cons.mpr ⟨(xOK_pure (xs_icmp_ne (show decode cX12_any 10 = .ok (.if_icmp .ne 46, 3) by decide +kernel) (by decide))),
  List.forall_mem_cons.mpr ⟨(xOK_pure (xs_aload_n (k := 0) rfl (show decode cX12_any 13 = .ok (.aload_n 0, 1) by decide +kernel))),
  List.forall_mem_cons.mpr ⟨(xOK_pure (xs_bipush (n := 124) (show decode cX12_any 14 = .ok (.bipush 124, 2) by decide +kernel) (by decide))),
  List.forall_mem_cons.mpr ⟨(xcm mi_232 ⟨⟨(by decide +kernel), (by decide +kernel), (by decide +kernel)⟩, (by decide), xw_2095, xw_125, Or.inl ⟨rfl, _, _, _, _, (show decode cX12_any 16 = .ok (.invokevirtual 258, 3) by decide +kernel), xw_2092, xw_2094, xw_77, rfl⟩⟩),
  List.forall_mem_cons.mpr ⟨(xOK_pure (xs_if_eq (show decode cX12_any 19 = .ok (.ifCond .eq 37, 3) by decide +kernel) (by decide))),
  List.forall_mem_cons.mpr ⟨(xOK_pure (xs_aload_n (k := 0) rfl (show decode cX12_any 22 = .ok (.aload_n 0, 1) by decide +kernel))),
  List.forall_mem_cons.mpr ⟨(xcm mi_236 ⟨⟨(by decide +kernel), (by decide +kernel), (by decide +kernel)⟩, (by decide), xw_2075, xw_125, Or.inl ⟨rfl, _, _, _, _, (show decode cX12_any 23 = .ok (.invokevirtual 255, 3) by decide +kernel), xw_2072, xw_2074, xw_72, rfl⟩⟩),
  List.forall_mem_cons.mpr ⟨(xOK_pure (xs_if_eq (show decode cX12_any 26 = .ok (.ifCond .eq 7, 3) by decide +kernel) (by decide))),
  List.forall_mem_cons.mpr ⟨(xOK_pure (xs_iconst (n := 1) (show decode cX12_any 29 = .ok (.iconst 1, 1) by decide +kernel) (by decide))),
  List.forall_mem_cons.mpr ⟨(xOK_pure (xs_goto (show decode cX12_any 30 = .ok (.goto 4, 3) by decide +kernel) (by decide))),
  List.forall_mem_cons.mpr ⟨(xOK_pure (xs_iconst (n := 0) (show decode cX12_any 33 = .ok (.iconst 0, 1) by decide +kernel) (by decide))),
  List.forall_mem_cons.mpr ⟨(xOK_pure (xs_iload_n (k := 1) rfl (show decode cX12_any 34 = .ok (.iload_n 1, 1) by decide +kernel))),
  List.forall_mem_cons.mpr ⟨(xOK_pure (xs_if_eq (show decode cX12_any 35 = .ok (.ifCond .eq 7, 3) by decide +kernel) (by decide))),
  List.forall_mem_cons.mpr ⟨(xOK_pure (xs_iconst (n := 1) (show decode cX12_any 38 = .ok (.iconst 1, 1) by decide +kernel) (by decide))),
  (fun _ h => absurd h List.not_mem_nil)⟩⟩⟩⟩⟩⟩⟩⟩⟩⟩⟩⟩⟩⟩⟩⟩⟩⟩⟩⟩
def pX12_any_1 (ev : xEv) : List (Nat × xEn) := [(39, .inl (xop (xf_goto 43))), (42, .inl (xop (xf_push (.int 0) 1))), (43, .inl (xop (xf_bin (fun x y => x ||| y)))), (44, .inl (xop (xf_if_eq 51))), (47, .inl (xop (xf_push (.int 1) 1))), (48, .inl (xop (xf_goto 52))), (51, .inl (xop (xf_push (.int 0) 1))), (52, .inl (xop (xf_istore 1 1))), (53, .inl (xop (xf_goto 5))), (56, .inl (xop (xf_iload 1 1))), (57, .inr (.inr 1))]
set_option maxRecDepth 20000 in
theorem okpX12_any_1 (ev : xEv) : ∀ q ∈ pX12_any_1 ev, xEnOK ev xmi yX12_any.cls yX12_any.name cX12_any 2 (some .int) q :=
  List.forall_mem_cons.mpr ⟨(xOK_pure (xs_goto (show decode cX12_any 39 = .ok (.goto 4, 3) by decide +kernel) (by decide))),
  List.forall_mem_cons.mpr ⟨(xOK_pure (xs_iconst (n := 0) (show decode cX12_any 42 = .ok (.iconst 0, 1) by decide +kernel) (by decide))),
  List.forall_mem_cons.mpr ⟨(xOK_pure (xs_ior (show decode cX12_any 43 = .ok (.ior, 1) by decide +kernel))),
  List.forall_mem_cons.mpr ⟨(xOK_pure (xs_if_eq (show decode cX12_any 44 = .ok (.ifCond .eq 7, 3) by decide +kernel) (by decide))),
  List.forall_mem_cons.mpr ⟨(xOK_pure (xs_iconst (n := 1) (show decode cX12_any 47 = .ok (.iconst 1, 1) by decide +kernel) (by decide))),
  List.forall_mem_cons.mpr ⟨(xOK_pure (xs_goto (show decode cX12_any 48 = .ok (.goto 4, 3) by decide +kernel) (by decide))),
  List.forall_mem_cons.mpr ⟨(xOK_pure (xs_iconst (n := 0) (show decode cX12_any 51 = .ok (.iconst 0, 1) by decide +kernel) (by decide))),
  List.forall_mem_cons.mpr ⟨(xOK_pure (xs_istore_n (k := 1) rfl (show decode cX12_any 52 = .ok (.istore_n 1, 1) by decide +kernel) (by decide))),
  List.forall_mem_cons.mpr ⟨(xOK_pure (xs_goto (show decode cX12_any 53 = .ok (.goto (-48), 3) by decide +kernel) (by decide))),
  List.forall_mem_cons.mpr ⟨(xOK_pure (xs_iload_n (k := 1) rfl (show decode cX12_any 56 = .ok (.iload_n 1, 1) by decide +kernel))),
  List.forall_mem_cons.mpr ⟨(Or.inr (Or.inl ⟨rfl, (show decode cX12_any 57 = .ok (.ireturn, 1) by decide +kernel), rfl⟩)),
  (fun _ h => absurd h List.not_mem_nil)⟩⟩⟩⟩⟩⟩⟩⟩⟩⟩⟩
def pX12_any (ev : xEv) : List (Nat × xEn) := pX12_any_0 ev ++ (pX12_any_1 ev)
theorem okpX12_any (ev : xEv) : ∀ q ∈ pX12_any ev, xEnOK ev xmi yX12_any.cls yX12_any.name cX12_any 2 (some .int) q := List.forall_mem_append.mpr ⟨okpX12_any_0 ev, okpX12_any_1 ev⟩
theorem omX12_any (ev : xEv) : xMethOK ev xmi yX12_any.cls yX12_any.name 235 (pX12_any ev) := xMethOK.of mi_235 (by decide +kernel) (okpX12_any ev)
def pX12_both_0 (ev : xEv) : List (Nat × xEn) := [(0, .inl (xop (xf_aload 0 1))), (1, .inr (.inl (0, 237, 0, 12))), (4, .inl (xop (xf_istore 1 1))), (5, .inl (xop (xf_aload 0 1))), (6, .inl (xop (xf_getf 12 54))), (9, .inl (xop (xf_push (.int (-1)) 1))), (10, .inl (xop (xf_icmp_ne 56))), (13, .inl (xop (xf_aload 0 1))), (14, .inl (xop (xf_push (.int 38) 2))), (16, .inr (.inl (0, 232, 1, 12))), (19, .inl (xop (xf_if_eq 56))), (22, .inl (xop (xf_aload 0 1))), (23, .inr (.inl (0, 237, 0, 12))), (26, .inl (xop (xf_if_eq 33))), (29, .inl (xop (xf_push (.int 1) 1))), (30, .inl (xop (xf_goto 34))), (33, .inl (xop (xf_push (.int 0) 1))), (34, .inl (xop (xf_iload 1 1))), (35, .inl (xop (xf_if_eq 42))), (38, .inl (xop (xf_push (.int 1) 1)))]
set_option maxRecDepth 20000 in
theorem okpX12_both_0 (ev : xEv) : ∀ q ∈ pX12_both_0 ev, xEnOK ev xmi yX12_both.cls yX12_both.name cX12_both 2 (some .int) q :=
  List.forall_mem_cons.mpr ⟨(xOK_pure (xs_aload_n (k := 0) rfl (show decode cX12_both 0 = .ok (.aload_n 0, 1) by decide +kernel))),
  List.forall_mem_cons.mpr ⟨(xcm mi_237 ⟨⟨(by decide +kernel), (by decide +kernel), (by decide +kernel)⟩, (by decide), xw_2079, xw_125, Or.inl ⟨rfl, _, _, _, _, (show decode cX12_both 1 = .ok (.invokevirtual 262, 3) by decide +kernel), xw_2076, xw_2078, xw_73, rfl⟩⟩),
  List.forall_mem_cons.mpr ⟨(xOK_pure (xs_istore_n (k := 1) rfl (show decode cX12_both 4 = .ok (.istore_n 1, 1) by decide +kernel) (by decide))),
  List.forall_mem_cons.mpr ⟨(xOK_pure (xs_aload_n (k := 0) rfl (show decode cX12_both 5 = .ok (.aload_n 0, 1) by decide +kernel))),
  List.forall_mem_cons.mpr ⟨(xOK_pure (xs_getf xcl_12 (by decide) (show decode cX12_both 6 = .ok (.getfield 252, 3) by decide +kernel) xw_1763)),
  List.forall_mem_cons.mpr ⟨(xOK_pure (xs_iconst (n := (-1)) (show decode cX12_both 9 = .ok (.iconst (-1), 1) by decide +kernel) (by decide))),
  List.forall_mem_cons.mpr ⟨(xOK_pure (xs_icmp_ne (show decode cX12_both 10 = .ok (.if_icmp .ne 46, 3) by decide +kernel) (by decide))),
  List.forall_mem_cons.mpr ⟨(xOK_pure (xs_aload_n (k := 0) rfl (show decode cX12_both 13 = .ok (.aload_n 0, 1) by decide +kernel))),
  List.forall_mem_cons.mpr ⟨(xOK_pure (xs_bipush (n := 38) (show decode cX12_both 14 = .ok (.bipush 38, 2) by decide +kernel) (by decide))),
  List.forall_mem_cons.mpr ⟨(xcm mi_232 ⟨⟨(by decide +kernel), (by decide +kernel), (by decide +kernel)⟩, (by decide), xw_2095, xw_125, Or.inl ⟨rfl, _, _, _, _, (show decode cX12_both 16 = .ok (.invokevirtual 258, 3) by decide +kernel), xw_2092, xw_2094, xw_77, rfl⟩⟩),
  List.forall_mem_cons.mpr ⟨(xOK_pure (xs_if_eq (show decode cX12_both 19 = .ok (.ifCond .eq 37, 3) by decide +kernel) (by decide))),
  List.forall_mem_cons.mpr ⟨(xOK_pure (xs_aload_n (k := 0) rfl (show decode cX12_both 22 = .ok (.aload_n 0, 1) by decide +kernel))),
  List.forall_mem_cons.mpr ⟨(xcm mi_237 ⟨⟨(by decide +kernel), (by decide +kernel), (by decide +kernel)⟩, (by decide), xw_2079, xw_125, Or.inl ⟨rfl, _, _, _, _, (show decode cX12_both 23 = .ok (.invokevirtual 262, 3) by decide +kernel), xw_2076, xw_2078, xw_73, rfl⟩⟩),
  List.forall_mem_cons.mpr ⟨(xOK_pure (xs_if_eq (show decode cX12_both 26 = .ok (.ifCond .eq 7, 3) by decide +kernel) (by decide))),
  List.forall_mem_cons.mpr ⟨(xOK_pure (xs_iconst (n := 1) (show decode cX12_both 29 = .ok (.iconst 1, 1) by decide +kernel) (by decide))),
  List.forall_mem_cons.mpr ⟨(xOK_pure (xs_goto (show decode cX12_both 30 = .ok (.goto 4, 3) by decide +kernel) (by decide))),
  List.forall_mem_cons.mpr ⟨(xOK_pure (xs_iconst (n := 0) (show decode cX12_both 33 = .ok (.iconst 0, 1) by decide +kernel) (by decide))),
  List.forall_mem_cons.mpr ⟨(xOK_pure (xs_iload_n (k := 1) rfl (show decode cX12_both 34 = .ok (.iload_n 1, 1) by decide +kernel))),
  List.forall_mem_cons.mpr ⟨(xOK_pure (xs_if_eq (show decode cX12_both 35 = .ok (.ifCond .eq 7, 3) by decide +kernel) (by decide))),
  List.forall_mem_cons.mpr ⟨(xOK_pure (xs_iconst (n := 1) (show decode cX12_both 38 = .ok (.iconst 1, 1) by decide +kernel) (by decide))),
  (fun _ h => absurd h List.not_mem_nil)⟩⟩⟩⟩⟩⟩⟩⟩⟩⟩⟩⟩⟩⟩⟩⟩⟩⟩⟩⟩
def pX12_both_1 (ev : xEv) : List (Nat × xEn) := [(39, .inl (xop (xf_goto 43))), (42, .inl (xop (xf_push (.int 0) 1))), (43, .inl (xop (xf_bin (fun x y => x &&& y)))), (44, .inl (xop (xf_if_eq 51))), (47, .inl (xop (xf_push (.int 1) 1))), (48, .inl (xop (xf_goto 52))), (51, .inl (xop (xf_push (.int 0) 1))), (52, .inl (xop (xf_istore 1 1))), (53, .inl (xop (xf_goto 5))), (56, .inl (xop (xf_iload 1 1))), (57, .inr (.inr 1))]
set_option maxRecDepth 20000 in
theorem okpX12_both_1 (ev : xEv) : ∀ q ∈ pX12_both_1 ev, xEnOK ev xmi yX12_both.cls yX12_both.name cX12_both 2 (some .int) q :=
  List.forall_mem_cons.mpr ⟨(xOK_pure (xs_goto (show decode cX12_both 39 = .ok (.goto 4, 3) by decide +kernel) (by decide))),
  List.forall_mem_cons.mpr ⟨(xOK_pure (xs_iconst (n := 0) (show decode cX12_both 42 = .ok (.iconst 0, 1) by decide +kernel) (by decide))),
  List.forall_mem_cons.mpr ⟨(xOK_pure (xs_iand (show decode cX12_both 43 = .ok (.iand, 1) by decide +kernel))),
  List.forall_mem_cons.mpr ⟨(xOK_pure (xs_if_eq (show decode cX12_both 44 = .ok (.ifCond .eq 7, 3) by decide +kernel) (by decide))),
  List.forall_mem_cons.mpr ⟨(xOK_pure (xs_iconst (n := 1) (show decode cX12_both 47 = .ok (.iconst 1, 1) by decide +kernel) (by decide))),
  List.forall_mem_cons.mpr ⟨(xOK_pure (xs_goto (show decode cX12_both 48 = .ok (.goto 4, 3) by decide +kernel) (by decide))),
  List.forall_mem_cons.mpr ⟨(xOK_pure (xs_iconst (n := 0) (show decode cX12_both 51 = .ok (.iconst 0, 1) by decide +kernel) (by decide))),
  List.forall_mem_cons.mpr ⟨(xOK_pure (xs_istore_n (k := 1) rfl (show decode cX12_both 52 = .ok (.istore_n 1, 1) by decide +kernel) (by decide))),
  List.forall_mem_cons.mpr ⟨(xOK_pure (xs_goto (show decode cX12_both 53 = .ok (.goto (-48), 3) by decide +kernel) (by decide))),
  List.forall_mem_cons.mpr ⟨(xOK_pure (xs_iload_n (k := 1) rfl (show decode cX12_both 56 = .ok (.iload_n 1, 1) by decide +kernel))),
  List.forall_mem_cons.mpr ⟨(Or.inr (Or.inl ⟨rfl, (show decode cX12_both 57 = .ok (.ireturn, 1) by decide +kernel), rfl⟩)),
  (fun _ h => absurd h List.not_mem_nil)⟩⟩⟩⟩⟩⟩⟩⟩⟩⟩⟩
def pX12_both (ev : xEv) : List (Nat × xEn) := pX12_both_0 ev ++ (pX12_both_1 ev)
theorem okpX12_both (ev : xEv) : ∀ q ∈ pX12_both ev, xEnOK ev xmi yX12_both.cls yX12_both.name cX12_both 2 (some .int) q := List.forall_mem_append.mpr ⟨okpX12_both_0 ev, okpX12_both_1 ev⟩
theorem omX12_both (ev : xEv) : xMethOK ev xmi yX12_both.cls yX12_both.name 236 (pX12_both ev) := xMethOK.of mi_236 (by decide +kernel) (okpX12_both ev)
def pX12_held_0 (ev : xEv) : List (Nat × xEn) := [(0, .inl (xop (xf_aload 0 1))), (1, .inr (.inl (0, 238, 0, 12))), (4, .inl (xop (xf_istore 1 1))), (5, .inl (xop (xf_aload 0 1))), (6, .inl (xop (xf_getf 12 54))), (9, .inl (xop (xf_push (.int (-1)) 1))), (10, .inl (xop (xf_icmp_eq 15))), (13, .inl (xop (xf_push (.int 0) 1))), (14, .inr (.inr 1)), (15, .inl (xop (xf_aload 0 1))), (16, .inl (xop (xf_push (.int 60) 2))), (18, .inr (.inl (0, 232, 1, 12))), (21, .inl (xop (xf_if_eq 38))), (24, .inl (xop (xf_iload 1 1))), (25, .inl (xop (xf_aload 0 1))), (26, .inr (.inl (0, 238, 0, 12))), (29, .inl (xop (xf_icmp_ge 36))), (32, .inl (xop (xf_push (.int 1) 1))), (33, .inl (xop (xf_goto 37))), (36, .inl (xop (xf_push (.int 0) 1)))]
set_option maxRecDepth 20000 in
theorem okpX12_held_0 (ev : xEv) : ∀ q ∈ pX12_held_0 ev, xEnOK ev xmi yX12_held.cls yX12_held.name cX12_held 2 (some .int) q :=
  List.forall_mem_cons.mpr ⟨(xOK_pure (xs_aload_n (k := 0) rfl (show decode cX12_held 0 = .ok (.aload_n 0, 1) by decide +kernel))),
  List.forall_mem_cons.mpr ⟨(xcm mi_238 ⟨⟨(by decide +kernel), (by decide +kernel), (by decide +kernel)⟩, (by decide), xw_2083, xw_125, Or.inl ⟨rfl, _, _, _, _, (show decode cX12_held 1 = .ok (.invokevirtual 265, 3) by decide +kernel), xw_2080, xw_2082, xw_74, rfl⟩⟩),
  List.forall_mem_cons.mpr ⟨(xOK_pure (xs_istore_n (k := 1) rfl (show decode cX12_held 4 = .ok (.istore_n 1, 1) by decide +kernel) (by decide))),
  List.forall_mem_cons.mpr ⟨(xOK_pure (xs_aload_n (k := 0) rfl (show decode cX12_held 5 = .ok (.aload_n 0, 1) by decide +kernel))),
  List.forall_mem_cons.mpr ⟨(xOK_pure (xs_getf xcl_12 (by decide) (show decode cX12_held 6 = .ok (.getfield 252, 3) by decide +kernel) xw_1763)),
  List.forall_mem_cons.mpr ⟨(xOK_pure (xs_iconst (n := (-1)) (show decode cX12_held 9 = .ok (.iconst (-1), 1) by decide +kernel) (by decide))),
  List.forall_mem_cons.mpr ⟨(xOK_pure (xs_icmp_eq (show decode cX12_held 10 = .ok (.if_icmp .eq 5, 3) by decide +kernel) (by decide))),
  List.forall_mem_cons.mpr ⟨(xOK_pure (xs_iconst (n := 0) (show decode cX12_held 13 = .ok (.iconst 0, 1) by decide +kernel) (by decide))),
  List.forall_mem_cons.mpr ⟨(Or.inr (Or.inl ⟨rfl, (show decode cX12_held 14 = .ok (.ireturn, 1) by decide +kernel), rfl⟩)),
  List.forall_mem_cons.mpr ⟨(xOK_pure (xs_aload_n (k := 0) rfl (show decode cX12_held 15 = .ok (.aload_n 0, 1) by decide +kernel))),
  List.forall_mem_cons.mpr ⟨(xOK_pure (xs_bipush (n := 60) (show decode cX12_held 16 = .ok (.bipush 60, 2) by decide +kernel) (by decide))),
  List.forall_mem_cons.mpr ⟨(xcm mi_232 ⟨⟨(by decide +kernel), (by decide +kernel), (by decide +kernel)⟩, (by decide), xw_2095, xw_125, Or.inl ⟨rfl, _, _, _, _, (show decode cX12_held 18 = .ok (.invokevirtual 258, 3) by decide +kernel), xw_2092, xw_2094, xw_77, rfl⟩⟩),
  List.forall_mem_cons.mpr ⟨(xOK_pure (xs_if_eq (show decode cX12_held 21 = .ok (.ifCond .eq 17, 3) by decide +kernel) (by decide))),
  List.forall_mem_cons.mpr ⟨(xOK_pure (xs_iload_n (k := 1) rfl (show decode cX12_held 24 = .ok (.iload_n 1, 1) by decide +kernel))),
  List.forall_mem_cons.mpr ⟨(xOK_pure (xs_aload_n (k := 0) rfl (show decode cX12_held 25 = .ok (.aload_n 0, 1) by decide +kernel))),
  List.forall_mem_cons.mpr ⟨(xcm mi_238 ⟨⟨(by decide +kernel), (by decide +kernel), (by decide +kernel)⟩, (by decide), xw_2083, xw_125, Or.inl ⟨rfl, _, _, _, _, (show decode cX12_held 26 = .ok (.invokevirtual 265, 3) by decide +kernel), xw_2080, xw_2082, xw_74, rfl⟩⟩),
  List.forall_mem_cons.mpr ⟨(xOK_pure (xs_icmp_ge (show decode cX12_held 29 = .ok (.if_icmp .ge 7, 3) by decide +kernel) (by decide))),
  List.forall_mem_cons.mpr ⟨(xOK_pure (xs_iconst (n := 1) (show decode cX12_held 32 = .ok (.iconst 1, 1) by decide +kernel) (by decide))),
  List.forall_mem_cons.mpr ⟨(xOK_pure (xs_goto (show decode cX12_held 33 = .ok (.goto 4, 3) by decide +kernel) (by decide))),
  List.forall_mem_cons.mpr ⟨(xOK_pure (xs_iconst (n := 0) (show decode cX12_held 36 = .ok (.iconst 0, 1) by decide +kernel) (by decide))),
  (fun _ h => absurd h List.not_mem_nil)⟩⟩⟩⟩⟩⟩⟩⟩⟩⟩⟩⟩⟩⟩⟩⟩⟩⟩⟩⟩
def pX12_held_1 (ev : xEv) : List (Nat × xEn) := [(37, .inr (.inr 1)), (38, .inl (xop (xf_aload 0 1))), (39, .inl (xop (xf_push (.int 62) 2))), (41, .inr (.inl (0, 232, 1, 12))), (44, .inl (xop (xf_if_eq 61))), (47, .inl (xop (xf_iload 1 1))), (48, .inl (xop (xf_aload 0 1))), (49, .inr (.inl (0, 238, 0, 12))), (52, .inl (xop (xf_icmp_le 59))), (55, .inl (xop (xf_push (.int 1) 1))), (56, .inl (xop (xf_goto 60))), (59, .inl (xop (xf_push (.int 0) 1))), (60, .inr (.inr 1)), (61, .inl (xop (xf_aload 0 1))), (62, .inl (xop (xf_push (.int 61) 2))), (64, .inr (.inl (0, 232, 1, 12))), (67, .inl (xop (xf_if_eq 84))), (70, .inl (xop (xf_iload 1 1))), (71, .inl (xop (xf_aload 0 1))), (72, .inr (.inl (0, 238, 0, 12)))]
set_option maxRecDepth 20000 in
theorem okpX12_held_1 (ev : xEv) : ∀ q ∈ pX12_held_1 ev, xEnOK ev xmi yX12_held.cls yX12_held.name cX12_held 2 (some .int) q :=
  List.forall_mem_cons.mpr ⟨(Or.inr (Or.inl ⟨rfl, (show decode cX12_held 37 = .ok (.ireturn, 1) by decide +kernel), rfl⟩)),
  List.forall_mem_cons.mpr ⟨(xOK_pure (xs_aload_n (k := 0) rfl (show decode cX12_held 38 = .ok (.aload_n 0, 1) by decide +kernel))),
  List.forall_mem_cons.mpr ⟨(xOK_pure (xs_bipush (n := 62) (show decode cX12_held 39 = .ok (.bipush 62, 2) by decide +kernel) (by decide))),
  List.forall_mem_cons.mpr ⟨(xcm mi_232 ⟨⟨(by decide +kernel), (by decide +kernel), (by decide +kernel)⟩, (by decide), xw_2095, xw_125, Or.inl ⟨rfl, _, _, _, _, (show decode cX12_held 41 = .ok (.invokevirtual 258, 3) by decide +kernel), xw_2092, xw_2094, xw_77, rfl⟩⟩),
  List.forall_mem_cons.mpr ⟨(xOK_pure (xs_if_eq (show decode cX12_held 44 = .ok (.ifCond .eq 17, 3) by decide +kernel) (by decide))),
  List.forall_mem_cons.mpr ⟨(xOK_pure (xs_iload_n (k := 1) rfl (show decode cX12_held 47 = .ok (.iload_n 1, 1) by decide +kernel))),
  List.forall_mem_cons.mpr ⟨(xOK_pure (xs_aload_n (k := 0) rfl (show decode cX12_held 48 = .ok (.aload_n 0, 1) by decide +kernel))),
  List.forall_mem_cons.mpr ⟨(xcm mi_238 ⟨⟨(by decide +kernel), (by decide +kernel), (by decide +kernel)⟩, (by decide), xw_2083, xw_125, Or.inl ⟨rfl, _, _, _, _, (show decode cX12_held 49 = .ok (.invokevirtual 265, 3) by decide +kernel), xw_2080, xw_2082, xw_74, rfl⟩⟩),
  List.forall_mem_cons.mpr ⟨(xOK_pure (xs_icmp_le (show decode cX12_held 52 = .ok (.if_icmp .le 7, 3) by decide +kernel) (by decide))),
  List.forall_mem_cons.mpr ⟨(xOK_pure (xs_iconst (n := 1) (show decode cX12_held 55 = .ok (.iconst 1, 1) by decide +kernel) (by decide))),
  List.forall_mem_cons.mpr ⟨(xOK_pure (xs_goto (show decode cX12_held 56 = .ok (.goto 4, 3) by decide +kernel) (by decide))),
  List.forall_mem_cons.mpr ⟨(xOK_pure (xs_iconst (n := 0) (show decode cX12_held 59 = .ok (.iconst 0, 1) by decide +kernel) (by decide))),
  List.forall_mem_cons.mpr ⟨(Or.inr (Or.inl ⟨rfl, (show decode cX12_held 60 = .ok (.ireturn, 1) by decide +kernel), rfl⟩)),
  List.forall_mem_cons.mpr ⟨(xOK_pure (xs_aload_n (k := 0) rfl (show decode cX12_held 61 = .ok (.aload_n 0, 1) by decide +kernel))),
  List.forall_mem_cons.mpr ⟨(xOK_pure (xs_bipush (n := 61) (show decode cX12_held 62 = .ok (.bipush 61, 2) by decide +kernel) (by decide))),
  List.forall_mem_cons.mpr ⟨(xcm mi_232 ⟨⟨(by decide +kernel), (by decide +kernel), (by decide +kernel)⟩, (by decide), xw_2095, xw_125, Or.inl ⟨rfl, _, _, _, _, (show decode cX12_held 64 = .ok (.invokevirtual 258, 3) by decide +kernel), xw_2092, xw_2094, xw_77, rfl⟩⟩),
  List.forall_mem_cons.mpr ⟨(xOK_pure (xs_if_eq (show decode cX12_held 67 = .ok (.ifCond .eq 17, 3) by decide +kernel) (by decide))),
  List.forall_mem_cons.mpr ⟨(xOK_pure (xs_iload_n (k := 1) rfl (show decode cX12_held 70 = .ok (.iload_n 1, 1) by decide +kernel))),
  List.forall_mem_cons.mpr ⟨(xOK_pure (xs_aload_n (k := 0) rfl (show decode cX12_held 71 = .ok (.aload_n 0, 1) by decide +kernel))),
  List.forall_mem_cons.mpr ⟨(xcm mi_238 ⟨⟨(by decide +kernel), (by decide +kernel), (by decide +kernel)⟩, (by decide), xw_2083, xw_125, Or.inl ⟨rfl, _, _, _, _, (show decode cX12_held 72 = .ok (.invokevirtual 265, 3) by decide +kernel), xw_2080, xw_2082, xw_74, rfl⟩⟩),
  (fun _ h => absurd h List.not_mem_nil)⟩⟩⟩⟩⟩⟩⟩⟩⟩⟩⟩⟩⟩⟩⟩⟩⟩⟩⟩⟩
def pX12_held_2 (ev : xEv) : List (Nat × xEn) := [(75, .inl (xop (xf_icmp_ne 82))), (78, .inl (xop (xf_push (.int 1) 1))), (79, .inl (xop (xf_goto 83))), (82, .inl (xop (xf_push (.int 0) 1))), (83, .inr (.inr 1)), (84, .inl (xop (xf_iload 1 1))), (85, .inr (.inr 1))]
set_option maxRecDepth 20000 in
theorem okpX12_held_2 (ev : xEv) : ∀ q ∈ pX12_held_2 ev, xEnOK ev xmi yX12_held.cls yX12_held.name cX12_held 2 (some .int) q :=
  List.forall_mem_cons.mpr ⟨(xOK_pure (xs_icmp_ne (show decode cX12_held 75 = .ok (.if_icmp .ne 7, 3) by decide +kernel) (by decide))),
  List.forall_mem_cons.mpr ⟨(xOK_pure (xs_iconst (n := 1) (show decode cX12_held 78 = .ok (.iconst 1, 1) by decide +kernel) (by decide))),
  List.forall_mem_cons.mpr ⟨(xOK_pure (xs_goto (show decode cX12_held 79 = .ok (.goto 4, 3) by decide +kernel) (by decide))),
  List.forall_mem_cons.mpr ⟨(xOK_pure (xs_iconst (n := 0) (show decode cX12_held 82 = .ok (.iconst 0, 1) by decide +kernel) (by decide))),
  List.forall_mem_cons.mpr ⟨(Or.inr (Or.inl ⟨rfl, (show decode cX12_held 83 = .ok (.ireturn, 1) by decide +kernel), rfl⟩)),
  List.forall_mem_cons.mpr ⟨(xOK_pure (xs_iload_n (k := 1) rfl (show decode cX12_held 84 = .ok (.iload_n 1, 1) by decide +kernel))),
  List.forall_mem_cons.mpr ⟨(Or.inr (Or.inl ⟨rfl, (show decode cX12_held 85 = .ok (.ireturn, 1) by decide +kernel), rfl⟩)),
  (fun _ h => absurd h List.not_mem_nil)⟩⟩⟩⟩⟩⟩⟩
def pX12_held (ev : xEv) : List (Nat × xEn) := pX12_held_0 ev ++ (pX12_held_1 ev ++ (pX12_held_2 ev))
theorem okpX12_held (ev : xEv) : ∀ q ∈ pX12_held ev, xEnOK ev xmi yX12_held.cls yX12_held.name cX12_held 2 (some .int) q := List.forall_mem_append.mpr ⟨okpX12_held_0 ev, List.forall_mem_append.mpr ⟨okpX12_held_1 ev, okpX12_held_2 ev⟩⟩
theorem omX12_held (ev : xEv) : xMethOK ev xmi yX12_held.cls yX12_held.name 237 (pX12_held ev) := xMethOK.of mi_237 (by decide +kernel) (okpX12_held ev)
def pX12_sum_0 (ev : xEv) : List (Nat × xEn) := [(0, .inl (xop (xf_aload 0 1))), (1, .inr (.inl (0, 239, 0, 12))), (4, .inl (xop (xf_istore 1 1))), (5, .inl (xop (xf_aload 0 1))), (6, .inl (xop (xf_getf 12 54))), (9, .inl (xop (xf_push (.int (-1)) 1))), (10, .inl (xop (xf_icmp_ne 51))), (13, .inl (xop (xf_aload 0 1))), (14, .inl (xop (xf_push (.int 43) 2))), (16, .inr (.inl (0, 232, 1, 12))), (19, .inl (xop (xf_if_eq 32))), (22, .inl (xop (xf_iload 1 1))), (23, .inl (xop (xf_aload 0 1))), (24, .inr (.inl (0, 239, 0, 12))), (27, .inl (xop (xf_bin (fun x y => x + y)))), (28, .inl (xop (xf_istore 1 1))), (29, .inl (xop (xf_goto 5))), (32, .inl (xop (xf_aload 0 1))), (33, .inl (xop (xf_push (.int 45) 2))), (35, .inr (.inl (0, 232, 1, 12)))]
set_option maxRecDepth 20000 in
theorem okpX12_sum_0 (ev : xEv) : ∀ q ∈ pX12_sum_0 ev, xEnOK ev xmi yX12_sum.cls yX12_sum.name cX12_sum 2 (some .int) q :=
  List.forall_mem_cons.mpr ⟨(xOK_pure (xs_aload_n (k := 0) rfl (show decode cX12_sum 0 = .ok (.aload_n 0, 1) by decide +kernel))),
  List.forall_mem_cons.mpr ⟨(xcm mi_239 ⟨⟨(by decide +kernel), (by decide +kernel), (by decide +kernel)⟩, (by decide), xw_2087, xw_125, Or.inl ⟨rfl, _, _, _, _, (show decode cX12_sum 1 = .ok (.invokevirtual 268, 3) by decide +kernel), xw_2084, xw_2086, xw_75, rfl⟩⟩),
  List.forall_mem_cons.mpr ⟨(xOK_pure (xs_istore_n (k := 1) rfl (show decode cX12_sum 4 = .ok (.istore_n 1, 1) by decide +kernel) (by decide))),
  List.forall_mem_cons.mpr ⟨(xOK_pure (xs_aload_n (k := 0) rfl (show decode cX12_sum 5 = .ok (.aload_n 0, 1) by decide +kernel))),
  List.forall_mem_cons.mpr ⟨(xOK_pure (xs_getf xcl_12 (by decide) (show decode cX12_sum 6 = .ok (.getfield 252, 3) by decide +kernel) xw_1763)),
  List.forall_mem_cons.mpr ⟨(xOK_pure (xs_iconst (n := (-1)) (show decode cX12_sum 9 = .ok (.iconst (-1), 1) by decide +kernel) (by decide))),
  List.forall_mem_cons.mpr ⟨(xOK_pure (xs_icmp_ne (show decode cX12_sum 10 = .ok (.if_icmp .ne 41, 3) by decide +kernel) (by decide))),
  List.forall_mem_cons.mpr ⟨(xOK_pure (xs_aload_n (k := 0) rfl (show decode cX12_sum 13 = .ok (.aload_n 0, 1) by decide +kernel))),
  List.forall_mem_cons.mpr ⟨(xOK_pure (xs_bipush (n := 43) (show decode cX12_sum 14 = .ok (.bipush 43, 2) by decide +kernel) (by decide))),
  List.forall_mem_cons.mpr ⟨(xcm mi_232 ⟨⟨(by decide +kernel), (by decide +kernel), (by decide +kernel)⟩, (by decide), xw_2095, xw_125, Or.inl ⟨rfl, _, _, _, _, (show decode cX12_sum 16 = .ok (.invokevirtual 258, 3) by decide +kernel), xw_2092, xw_2094, xw_77, rfl⟩⟩),
  List.forall_mem_cons.mpr ⟨(xOK_pure (xs_if_eq (show decode cX12_sum 19 = .ok (.ifCond .eq 13, 3) by decide +kernel) (by decide))),
  List.forall_mem_cons.mpr ⟨(xOK_pure (xs_iload_n (k := 1) rfl (show decode cX12_sum 22 = .ok (.iload_n 1, 1) by decide +kernel))),
  List.forall_mem_cons.mpr ⟨(xOK_pure (xs_aload_n (k := 0) rfl (show decode cX12_sum 23 = .ok (.aload_n 0, 1) by decide +kernel))),
  List.forall_mem_cons.mpr ⟨(xcm mi_239 ⟨⟨(by decide +kernel), (by decide +kernel), (by decide +kernel)⟩, (by decide), xw_2087, xw_125, Or.inl ⟨rfl, _, _, _, _, (show decode cX12_sum 24 = .ok (.invokevirtual 268, 3) by decide +kernel), xw_2084, xw_2086, xw_75, rfl⟩⟩),
  List.forall_mem_cons.mpr ⟨(xOK_pure (xs_iadd (show decode cX12_sum 27 = .ok (.iadd, 1) by decide +kernel))),
  List.forall_mem_cons.mpr ⟨(xOK_pure (xs_istore_n (k := 1) rfl (show decode cX12_sum 28 = .ok (.istore_n 1, 1) by decide +kernel) (by decide))),
  List.forall_mem_cons.mpr ⟨(xOK_pure (xs_goto (show decode cX12_sum 29 = .ok (.goto (-24), 3) by decide +kernel) (by decide))),
  List.forall_mem_cons.mpr ⟨(xOK_pure (xs_aload_n (k := 0) rfl (show decode cX12_sum 32 = .ok (.aload_n 0, 1) by decide +kernel))),
  List.forall_mem_cons.mpr ⟨(xOK_pure (xs_bipush (n := 45) (show decode cX12_sum 33 = .ok (.bipush 45, 2) by decide +kernel) (by decide))),
  List.forall_mem_cons.mpr ⟨(xcm mi_232 ⟨⟨(by decide +kernel), (by decide +kernel), (by decide +kernel)⟩, (by decide), xw_2095, xw_125, Or.inl ⟨rfl, _, _, _, _, (show decode cX12_sum 35 = .ok (.invokevirtual 258, 3) by decide +kernel), xw_2092, xw_2094, xw_77, rfl⟩⟩),
  (fun _ h => absurd h List.not_mem_nil)⟩⟩⟩⟩⟩⟩⟩⟩⟩⟩⟩⟩⟩⟩⟩⟩⟩⟩⟩⟩
def pX12_sum_1 (ev : xEv) : List (Nat × xEn) := [(38, .inl (xop (xf_if_eq 51))), (41, .inl (xop (xf_iload 1 1))), (42, .inl (xop (xf_aload 0 1))), (43, .inr (.inl (0, 239, 0, 12))), (46, .inl (xop (xf_bin (fun x y => x - y)))), (47, .inl (xop (xf_istore 1 1))), (48, .inl (xop (xf_goto 5))), (51, .inl (xop (xf_iload 1 1))), (52, .inr (.inr 1))]
set_option maxRecDepth 20000 in
theorem okpX12_sum_1 (ev : xEv) : ∀ q ∈ pX12_sum_1 ev, xEnOK ev xmi yX12_sum.cls yX12_sum.name cX12_sum 2 (some .int) q :=
  List.forall_mem_cons.mpr ⟨(xOK_pure (xs_if_eq (show decode cX12_sum 38 = .ok (.ifCond .eq 13, 3) by decide +kernel) (by decide))),
  List.forall_mem_cons.mpr ⟨(xOK_pure (xs_iload_n (k := 1) rfl (show decode cX12_sum 41 = .ok (.iload_n 1, 1) by decide +kernel))),
  List.forall_mem_cons.mpr ⟨(xOK_pure (xs_aload_n (k := 0) rfl (show decode cX12_sum 42 = .ok (.aload_n 0, 1) by decide +kernel))),
  List.forall_mem_cons.mpr ⟨(xcm mi_239 ⟨⟨(by decide +kernel), (by decide +kernel), (by decide +kernel)⟩, (by decide), xw_2087, xw_125, Or.inl ⟨rfl, _, _, _, _, (show decode cX12_sum 43 = .ok (.invokevirtual 268, 3) by decide +kernel), xw_2084, xw_2086, xw_75, rfl⟩⟩),
  List.forall_mem_cons.mpr ⟨(xOK_pure (xs_isub (show decode cX12_sum 46 = .ok (.isub, 1) by decide +kernel))),
  List.forall_mem_cons.mpr ⟨(xOK_pure (xs_istore_n (k := 1) rfl (show decode cX12_sum 47 = .ok (.istore_n 1, 1) by decide +kernel) (by decide))),
  List.forall_mem_cons.mpr ⟨(xOK_pure (xs_goto (show decode cX12_sum 48 = .ok (.goto (-43), 3) by decide +kernel) (by decide))),
  List.forall_mem_cons.mpr ⟨(xOK_pure (xs_iload_n (k := 1) rfl (show decode cX12_sum 51 = .ok (.iload_n 1, 1) by decide +kernel))),
  List.forall_mem_cons.mpr ⟨(Or.inr (Or.inl ⟨rfl, (show decode cX12_sum 52 = .ok (.ireturn, 1) by decide +kernel), rfl⟩)),
  (fun _ h => absurd h List.not_mem_nil)⟩⟩⟩⟩⟩⟩⟩⟩⟩
def pX12_sum (ev : xEv) : List (Nat × xEn) := pX12_sum_0 ev ++ (pX12_sum_1 ev)
theorem okpX12_sum (ev : xEv) : ∀ q ∈ pX12_sum ev, xEnOK ev xmi yX12_sum.cls yX12_sum.name cX12_sum 2 (some .int) q := List.forall_mem_append.mpr ⟨okpX12_sum_0 ev, okpX12_sum_1 ev⟩
theorem omX12_sum (ev : xEv) : xMethOK ev xmi yX12_sum.cls yX12_sum.name 238 (pX12_sum ev) := xMethOK.of mi_238 (by decide +kernel) (okpX12_sum ev)
def pX12_product (ev : xEv) : List (Nat × xEn) := [(0, .inl (xop (xf_aload 0 1))), (1, .inr (.inl (0, 240, 0, 12))), (4, .inl (xop (xf_istore 1 1))), (5, .inl (xop (xf_aload 0 1))), (6, .inl (xop (xf_getf 12 54))), (9, .inl (xop (xf_push (.int (-1)) 1))), (10, .inl (xop (xf_icmp_ne 32))), (13, .inl (xop (xf_aload 0 1))), (14, .inl (xop (xf_push (.int 42) 2))), (16, .inr (.inl (0, 232, 1, 12))), (19, .inl (xop (xf_if_eq 32))), (22, .inl (xop (xf_iload 1 1))), (23, .inl (xop (xf_aload 0 1))), (24, .inr (.inl (0, 240, 0, 12))), (27, .inl (xop (xf_bin (fun x y => x * y)))), (28, .inl (xop (xf_istore 1 1))), (29, .inl (xop (xf_goto 5))), (32, .inl (xop (xf_iload 1 1))), (33, .inr (.inr 1))]
set_option maxRecDepth 20000 in
theorem okpX12_product (ev : xEv) : ∀ q ∈ pX12_product ev, xEnOK ev xmi yX12_product.cls yX12_product.name cX12_product 2 (some .int) q :=
  List.forall_mem_cons.mpr ⟨(xOK_pure (xs_aload_n (k := 0) rfl (show decode cX12_product 0 = .ok (.aload_n 0, 1) by decide +kernel))),
  List.forall_mem_cons.mpr ⟨(xcm mi_240 ⟨⟨(by decide +kernel), (by decide +kernel), (by decide +kernel)⟩, (by decide), xw_2091, xw_125, Or.inl ⟨rfl, _, _, _, _, (show decode cX12_product 1 = .ok (.invokevirtual 271, 3) by decide +kernel), xw_2088, xw_2090, xw_76, rfl⟩⟩),
  List.forall_mem_cons.mpr ⟨(xOK_pure (xs_istore_n (k := 1) rfl (show decode cX12_product 4 = .ok (.istore_n 1, 1) by decide +kernel) (by decide))),
  List.forall_mem_cons.mpr ⟨(xOK_pure (xs_aload_n (k := 0) rfl (show decode cX12_product 5 = .ok (.aload_n 0, 1) by decide +kernel))),
  List.forall_mem_cons.mpr ⟨(xOK_pure (xs_getf xcl_12 (by decide) (show decode cX12_product 6 = .ok (.getfield 252, 3) by decide +kernel) xw_1763)),
  List.forall_mem_cons.mpr ⟨(xOK_pure (xs_iconst (n := (-1)) (show decode cX12_product 9 = .ok (.iconst (-1), 1) by decide +kernel) (by decide))),
  List.forall_mem_cons.mpr ⟨(xOK_pure (xs_icmp_ne (show decode cX12_product 10 = .ok (.if_icmp .ne 22, 3) by decide +kernel) (by decide))),
  List.forall_mem_cons.mpr ⟨(xOK_pure (xs_aload_n (k := 0) rfl (show decode cX12_product 13 = .ok (.aload_n 0, 1) by decide +kernel))),
  List.forall_mem_cons.mpr ⟨(xOK_pure (xs_bipush (n := 42) (show decode cX12_product 14 = .ok (.bipush 42, 2) by decide +kernel) (by decide))),
  List.forall_mem_cons.mpr ⟨(xcm mi_232 ⟨⟨(by decide +kernel), (by decide +kernel), (by decide +kernel)⟩, (by decide), xw_2095, xw_125, Or.inl ⟨rfl, _, _, _, _, (show decode cX12_product 16 = .ok (.invokevirtual 258, 3) by decide +kernel), xw_2092, xw_2094, xw_77, rfl⟩⟩),
  List.forall_mem_cons.mpr ⟨(xOK_pure (xs_if_eq (show decode cX12_product 19 = .ok (.ifCond .eq 13, 3) by decide +kernel) (by decide))),
  List.forall_mem_cons.mpr ⟨(xOK_pure (xs_iload_n (k := 1) rfl (show decode cX12_product 22 = .ok (.iload_n 1, 1) by decide +kernel))),
  List.forall_mem_cons.mpr ⟨(xOK_pure (xs_aload_n (k := 0) rfl (show decode cX12_product 23 = .ok (.aload_n 0, 1) by decide +kernel))),
  List.forall_mem_cons.mpr ⟨(xcm mi_240 ⟨⟨(by decide +kernel), (by decide +kernel), (by decide +kernel)⟩, (by decide), xw_2091, xw_125, Or.inl ⟨rfl, _, _, _, _, (show decode cX12_product 24 = .ok (.invokevirtual 271, 3) by decide +kernel), xw_2088, xw_2090, xw_76, rfl⟩⟩),
  List.forall_mem_cons.mpr ⟨(xOK_pure (xs_imul (show decode cX12_product 27 = .ok (.imul, 1) by decide +kernel))),
  List.forall_mem_cons.mpr ⟨(xOK_pure (xs_istore_n (k := 1) rfl (show decode cX12_product 28 = .ok (.istore_n 1, 1) by decide +kernel) (by decide))),
  List.forall_mem_cons.mpr ⟨(xOK_pure (xs_goto (show decode cX12_product 29 = .ok (.goto (-24), 3) by decide +kernel) (by decide))),
  List.forall_mem_cons.mpr ⟨(xOK_pure (xs_iload_n (k := 1) rfl (show decode cX12_product 32 = .ok (.iload_n 1, 1) by decide +kernel))),
  List.forall_mem_cons.mpr ⟨(Or.inr (Or.inl ⟨rfl, (show decode cX12_product 33 = .ok (.ireturn, 1) by decide +kernel), rfl⟩)),
  (fun _ h => absurd h List.not_mem_nil)⟩⟩⟩⟩⟩⟩⟩⟩⟩⟩⟩⟩⟩⟩⟩⟩⟩⟩⟩
theorem omX12_product (ev : xEv) : xMethOK ev xmi yX12_product.cls yX12_product.name 239 (pX12_product ev) := xMethOK.of mi_239 (by decide +kernel) (okpX12_product ev)
def pX12_ahead_0 (ev : xEv) : List (Nat × xEn) := [(0, .inl (xop (xf_aload 0 1))), (1, .inl (xop (xf_push (.int 33) 2))), (3, .inr (.inl (0, 232, 1, 12))), (6, .inl (xop (xf_if_eq 22))), (9, .inl (xop (xf_aload 0 1))), (10, .inr (.inl (0, 240, 0, 12))), (13, .inl (xop (xf_if_ne 20))), (16, .inl (xop (xf_push (.int 1) 1))), (17, .inl (xop (xf_goto 21))), (20, .inl (xop (xf_push (.int 0) 1))), (21, .inr (.inr 1)), (22, .inl (xop (xf_aload 0 1))), (23, .inl (xop (xf_push (.int 45) 2))), (25, .inr (.inl (0, 232, 1, 12))), (28, .inl (xop (xf_if_eq 37))), (31, .inl (xop (xf_aload 0 1))), (32, .inr (.inl (0, 240, 0, 12))), (35, .inl (xop (xf_un (fun x => -x)))), (36, .inr (.inr 1)), (37, .inl (xop (xf_aload 0 1)))]
set_option maxRecDepth 20000 in
theorem okpX12_ahead_0 (ev : xEv) : ∀ q ∈ pX12_ahead_0 ev, xEnOK ev xmi yX12_ahead.cls yX12_ahead.name cX12_ahead 3 (some .int) q :=
  List.forall_mem_cons.mpr ⟨(xOK_pure (xs_aload_n (k := 0) rfl (show decode cX12_ahead 0 = .ok (.aload_n 0, 1) by decide +kernel))),
  List.forall_mem_cons.mpr ⟨(xOK_pure (xs_bipush (n := 33) (show decode cX12_ahead 1 = .ok (.bipush 33, 2) by decide +kernel) (by decide))),
  List.forall_mem_cons.mpr ⟨(xcm mi_232 ⟨⟨(by decide +kernel), (by decide +kernel), (by decide +kernel)⟩, (by decide), xw_2095, xw_125, Or.inl ⟨rfl, _, _, _, _, (show decode cX12_ahead 3 = .ok (.invokevirtual 258, 3) by decide +kernel), xw_2092, xw_2094, xw_77, rfl⟩⟩),
  List.forall_mem_cons.mpr ⟨(xOK_pure (xs_if_eq (show decode cX12_ahead 6 = .ok (.ifCond .eq 16, 3) by decide +kernel) (by decide))),
  List.forall_mem_cons.mpr ⟨(xOK_pure (xs_aload_n (k := 0) rfl (show decode cX12_ahead 9 = .ok (.aload_n 0, 1) by decide +kernel))),
  List.forall_mem_cons.mpr ⟨(xcm mi_240 ⟨⟨(by decide +kernel), (by decide +kernel), (by decide +kernel)⟩, (by decide), xw_2091, xw_125, Or.inl ⟨rfl, _, _, _, _, (show decode cX12_ahead 10 = .ok (.invokevirtual 271, 3) by decide +kernel), xw_2088, xw_2090, xw_76, rfl⟩⟩),
  List.forall_mem_cons.mpr ⟨(xOK_pure (xs_if_ne (show decode cX12_ahead 13 = .ok (.ifCond .ne 7, 3) by decide +kernel) (by decide))),
  List.forall_mem_cons.mpr ⟨(xOK_pure (xs_iconst (n := 1) (show decode cX12_ahead 16 = .ok (.iconst 1, 1) by decide +kernel) (by decide))),
  List.forall_mem_cons.mpr ⟨(xOK_pure (xs_goto (show decode cX12_ahead 17 = .ok (.goto 4, 3) by decide +kernel) (by decide))),
  List.forall_mem_cons.mpr ⟨(xOK_pure (xs_iconst (n := 0) (show decode cX12_ahead 20 = .ok (.iconst 0, 1) by decide +kernel) (by decide))),
  List.forall_mem_cons.mpr ⟨(Or.inr (Or.inl ⟨rfl, (show decode cX12_ahead 21 = .ok (.ireturn, 1) by decide +kernel), rfl⟩)),
  List.forall_mem_cons.mpr ⟨(xOK_pure (xs_aload_n (k := 0) rfl (show decode cX12_ahead 22 = .ok (.aload_n 0, 1) by decide +kernel))),
  List.forall_mem_cons.mpr ⟨(xOK_pure (xs_bipush (n := 45) (show decode cX12_ahead 23 = .ok (.bipush 45, 2) by decide +kernel) (by decide))),
  List.forall_mem_cons.mpr ⟨(xcm mi_232 ⟨⟨(by decide +kernel), (by decide +kernel), (by decide +kernel)⟩, (by decide), xw_2095, xw_125, Or.inl ⟨rfl, _, _, _, _, (show decode cX12_ahead 25 = .ok (.invokevirtual 258, 3) by decide +kernel), xw_2092, xw_2094, xw_77, rfl⟩⟩),
  List.forall_mem_cons.mpr ⟨(xOK_pure (xs_if_eq (show decode cX12_ahead 28 = .ok (.ifCond .eq 9, 3) by decide +kernel) (by decide))),
  List.forall_mem_cons.mpr ⟨(xOK_pure (xs_aload_n (k := 0) rfl (show decode cX12_ahead 31 = .ok (.aload_n 0, 1) by decide +kernel))),
  List.forall_mem_cons.mpr ⟨(xcm mi_240 ⟨⟨(by decide +kernel), (by decide +kernel), (by decide +kernel)⟩, (by decide), xw_2091, xw_125, Or.inl ⟨rfl, _, _, _, _, (show decode cX12_ahead 32 = .ok (.invokevirtual 271, 3) by decide +kernel), xw_2088, xw_2090, xw_76, rfl⟩⟩),
  List.forall_mem_cons.mpr ⟨(xOK_pure (xs_ineg (show decode cX12_ahead 35 = .ok (.ineg, 1) by decide +kernel))),
  List.forall_mem_cons.mpr ⟨(Or.inr (Or.inl ⟨rfl, (show decode cX12_ahead 36 = .ok (.ireturn, 1) by decide +kernel), rfl⟩)),
  List.forall_mem_cons.mpr ⟨(xOK_pure (xs_aload_n (k := 0) rfl (show decode cX12_ahead 37 = .ok (.aload_n 0, 1) by decide +kernel))),
  (fun _ h => absurd h List.not_mem_nil)⟩⟩⟩⟩⟩⟩⟩⟩⟩⟩⟩⟩⟩⟩⟩⟩⟩⟩⟩⟩
def pX12_ahead_1 (ev : xEv) : List (Nat × xEn) := [(38, .inl (xop (xf_push (.int 40) 2))), (40, .inr (.inl (0, 232, 1, 12))), (43, .inl (xop (xf_if_eq 75))), (46, .inl (xop (xf_aload 0 1))), (47, .inr (.inl (0, 235, 0, 12))), (50, .inl (xop (xf_istore 1 1))), (51, .inl (xop (xf_aload 0 1))), (52, .inl (xop (xf_getf 12 54))), (55, .inl (xop (xf_push (.int (-1)) 1))), (56, .inl (xop (xf_icmp_ne 73))), (59, .inl (xop (xf_aload 0 1))), (60, .inl (xop (xf_push (.int 41) 2))), (62, .inr (.inl (0, 232, 1, 12))), (65, .inl (xop (xf_if_ne 73))), (68, .inl (xop (xf_aload 0 1))), (69, .inr (.inl (0, 233, 0, 12))), (72, .inl (xop xf_pop)), (73, .inl (xop (xf_iload 1 1))), (74, .inr (.inr 1)), (75, .inl (xop (xf_aload 0 1)))]
set_option maxRecDepth 20000 in
theorem okpX12_ahead_1 (ev : xEv) : ∀ q ∈ pX12_ahead_1 ev, xEnOK ev xmi yX12_ahead.cls yX12_ahead.name cX12_ahead 3 (some .int) q :=
  List.forall_mem_cons.mpr ⟨(xOK_pure (xs_bipush (n := 40) (show decode cX12_ahead 38 = .ok (.bipush 40, 2) by decide +kernel) (by decide))),
  List.forall_mem_cons.mpr ⟨(xcm mi_232 ⟨⟨(by decide +kernel), (by decide +kernel), (by decide +kernel)⟩, (by decide), xw_2095, xw_125, Or.inl ⟨rfl, _, _, _, _, (show decode cX12_ahead 40 = .ok (.invokevirtual 258, 3) by decide +kernel), xw_2092, xw_2094, xw_77, rfl⟩⟩),
  List.forall_mem_cons.mpr ⟨(xOK_pure (xs_if_eq (show decode cX12_ahead 43 = .ok (.ifCond .eq 32, 3) by decide +kernel) (by decide))),
  List.forall_mem_cons.mpr ⟨(xOK_pure (xs_aload_n (k := 0) rfl (show decode cX12_ahead 46 = .ok (.aload_n 0, 1) by decide +kernel))),
  List.forall_mem_cons.mpr ⟨(xcm mi_235 ⟨⟨(by decide +kernel), (by decide +kernel), (by decide +kernel)⟩, (by decide), xw_2071, xw_125, Or.inl ⟨rfl, _, _, _, _, (show decode cX12_ahead 47 = .ok (.invokevirtual 274, 3) by decide +kernel), xw_2068, xw_2070, xw_71, rfl⟩⟩),
  List.forall_mem_cons.mpr ⟨(xOK_pure (xs_istore_n (k := 1) rfl (show decode cX12_ahead 50 = .ok (.istore_n 1, 1) by decide +kernel) (by decide))),
  List.forall_mem_cons.mpr ⟨(xOK_pure (xs_aload_n (k := 0) rfl (show decode cX12_ahead 51 = .ok (.aload_n 0, 1) by decide +kernel))),
  List.forall_mem_cons.mpr ⟨(xOK_pure (xs_getf xcl_12 (by decide) (show decode cX12_ahead 52 = .ok (.getfield 252, 3) by decide +kernel) xw_1763)),
  List.forall_mem_cons.mpr ⟨(xOK_pure (xs_iconst (n := (-1)) (show decode cX12_ahead 55 = .ok (.iconst (-1), 1) by decide +kernel) (by decide))),
  List.forall_mem_cons.mpr ⟨(xOK_pure (xs_icmp_ne (show decode cX12_ahead 56 = .ok (.if_icmp .ne 17, 3) by decide +kernel) (by decide))),
  List.forall_mem_cons.mpr ⟨(xOK_pure (xs_aload_n (k := 0) rfl (show decode cX12_ahead 59 = .ok (.aload_n 0, 1) by decide +kernel))),
  List.forall_mem_cons.mpr ⟨(xOK_pure (xs_bipush (n := 41) (show decode cX12_ahead 60 = .ok (.bipush 41, 2) by decide +kernel) (by decide))),
  List.forall_mem_cons.mpr ⟨(xcm mi_232 ⟨⟨(by decide +kernel), (by decide +kernel), (by decide +kernel)⟩, (by decide), xw_2095, xw_125, Or.inl ⟨rfl, _, _, _, _, (show decode cX12_ahead 62 = .ok (.invokevirtual 258, 3) by decide +kernel), xw_2092, xw_2094, xw_77, rfl⟩⟩),
  List.forall_mem_cons.mpr ⟨(xOK_pure (xs_if_ne (show decode cX12_ahead 65 = .ok (.ifCond .ne 8, 3) by decide +kernel) (by decide))),
  List.forall_mem_cons.mpr ⟨(xOK_pure (xs_aload_n (k := 0) rfl (show decode cX12_ahead 68 = .ok (.aload_n 0, 1) by decide +kernel))),
  List.forall_mem_cons.mpr ⟨(xcm mi_233 ⟨⟨(by decide +kernel), (by decide +kernel), (by decide +kernel)⟩, (by decide), xw_2103, xw_125, Or.inl ⟨rfl, _, _, _, _, (show decode cX12_ahead 69 = .ok (.invokevirtual 277, 3) by decide +kernel), xw_2100, xw_2102, xw_79, rfl⟩⟩),
  List.forall_mem_cons.mpr ⟨(xOK_pure (xs_pop (show decode cX12_ahead 72 = .ok (.pop, 1) by decide +kernel))),
  List.forall_mem_cons.mpr ⟨(xOK_pure (xs_iload_n (k := 1) rfl (show decode cX12_ahead 73 = .ok (.iload_n 1, 1) by decide +kernel))),
  List.forall_mem_cons.mpr ⟨(Or.inr (Or.inl ⟨rfl, (show decode cX12_ahead 74 = .ok (.ireturn, 1) by decide +kernel), rfl⟩)),
  List.forall_mem_cons.mpr ⟨(xOK_pure (xs_aload_n (k := 0) rfl (show decode cX12_ahead 75 = .ok (.aload_n 0, 1) by decide +kernel))),
  (fun _ h => absurd h List.not_mem_nil)⟩⟩⟩⟩⟩⟩⟩⟩⟩⟩⟩⟩⟩⟩⟩⟩⟩⟩⟩⟩
def pX12_ahead_2 (ev : xEv) : List (Nat × xEn) := [(76, .inr (.inl (0, 234, 0, 12))), (79, .inl (xop (xf_if_eq 129))), (82, .inl (xop (xf_push (.int 0) 1))), (83, .inl (xop (xf_istore 1 1))), (84, .inl (xop (xf_push (.int 0) 1))), (85, .inl (xop (xf_istore 2 1))), (86, .inl (xop (xf_iload 2 1))), (87, .inl (xop (xf_push (.int 3) 1))), (88, .inl (xop (xf_icmp_ge 127))), (91, .inl (xop (xf_aload 0 1))), (92, .inr (.inl (0, 234, 0, 12))), (95, .inl (xop (xf_if_eq 127))), (98, .inl (xop (xf_push (.int 10) 2))), (100, .inl (xop (xf_iload 1 1))), (101, .inl (xop (xf_bin (fun x y => x * y)))), (102, .inl (xop (xf_aload 0 1))), (103, .inr (.inl (0, 231, 0, 12))), (106, .inl (xop (xf_bin (fun x y => x + y)))), (107, .inl (xop (xf_push (.int 48) 2))), (109, .inl (xop (xf_bin (fun x y => x - y))))]
set_option maxRecDepth 20000 in
theorem okpX12_ahead_2 (ev : xEv) : ∀ q ∈ pX12_ahead_2 ev, xEnOK ev xmi yX12_ahead.cls yX12_ahead.name cX12_ahead 3 (some .int) q :=
  List.forall_mem_cons.mpr ⟨(xcm mi_234 ⟨⟨(by decide +kernel), (by decide +kernel), (by decide +kernel)⟩, (by decide), xw_2107, xw_125, Or.inl ⟨rfl, _, _, _, _, (show decode cX12_ahead 76 = .ok (.invokevirtual 280, 3) by decide +kernel), xw_2104, xw_2106, xw_80, rfl⟩⟩),
  List.forall_mem_cons.mpr ⟨(xOK_pure (xs_if_eq (show decode cX12_ahead 79 = .ok (.ifCond .eq 50, 3) by decide +kernel) (by decide))),
  List.forall_mem_cons.mpr ⟨(xOK_pure (xs_iconst (n := 0) (show decode cX12_ahead 82 = .ok (.iconst 0, 1) by decide +kernel) (by decide))),
  List.forall_mem_cons.mpr ⟨(xOK_pure (xs_istore_n (k := 1) rfl (show decode cX12_ahead 83 = .ok (.istore_n 1, 1) by decide +kernel) (by decide))),
  List.forall_mem_cons.mpr ⟨(xOK_pure (xs_iconst (n := 0) (show decode cX12_ahead 84 = .ok (.iconst 0, 1) by decide +kernel) (by decide))),
  List.forall_mem_cons.mpr ⟨(xOK_pure (xs_istore_n (k := 2) rfl (show decode cX12_ahead 85 = .ok (.istore_n 2, 1) by decide +kernel) (by decide))),
  List.forall_mem_cons.mpr ⟨(xOK_pure (xs_iload_n (k := 2) rfl (show decode cX12_ahead 86 = .ok (.iload_n 2, 1) by decide +kernel))),
  List.forall_mem_cons.mpr ⟨(xOK_pure (xs_iconst (n := 3) (show decode cX12_ahead 87 = .ok (.iconst 3, 1) by decide +kernel) (by decide))),
  List.forall_mem_cons.mpr ⟨(xOK_pure (xs_icmp_ge (show decode cX12_ahead 88 = .ok (.if_icmp .ge 39, 3) by decide +kernel) (by decide))),
  List.forall_mem_cons.mpr ⟨(xOK_pure (xs_aload_n (k := 0) rfl (show decode cX12_ahead 91 = .ok (.aload_n 0, 1) by decide +kernel))),
  List.forall_mem_cons.mpr ⟨(xcm mi_234 ⟨⟨(by decide +kernel), (by decide +kernel), (by decide +kernel)⟩, (by decide), xw_2107, xw_125, Or.inl ⟨rfl, _, _, _, _, (show decode cX12_ahead 92 = .ok (.invokevirtual 280, 3) by decide +kernel), xw_2104, xw_2106, xw_80, rfl⟩⟩),
  List.forall_mem_cons.mpr ⟨(xOK_pure (xs_if_eq (show decode cX12_ahead 95 = .ok (.ifCond .eq 32, 3) by decide +kernel) (by decide))),
  List.forall_mem_cons.mpr ⟨(xOK_pure (xs_bipush (n := 10) (show decode cX12_ahead 98 = .ok (.bipush 10, 2) by decide +kernel) (by decide))),
  List.forall_mem_cons.mpr ⟨(xOK_pure (xs_iload_n (k := 1) rfl (show decode cX12_ahead 100 = .ok (.iload_n 1, 1) by decide +kernel))),
  List.forall_mem_cons.mpr ⟨(xOK_pure (xs_imul (show decode cX12_ahead 101 = .ok (.imul, 1) by decide +kernel))),
  List.forall_mem_cons.mpr ⟨(xOK_pure (xs_aload_n (k := 0) rfl (show decode cX12_ahead 102 = .ok (.aload_n 0, 1) by decide +kernel))),
  List.forall_mem_cons.mpr ⟨(xcm mi_231 ⟨⟨(by decide +kernel), (by decide +kernel), (by decide +kernel)⟩, (by decide), xw_2099, xw_125, Or.inl ⟨rfl, _, _, _, _, (show decode cX12_ahead 103 = .ok (.invokevirtual 249, 3) by decide +kernel), xw_2096, xw_2098, xw_78, rfl⟩⟩),
  List.forall_mem_cons.mpr ⟨(xOK_pure (xs_iadd (show decode cX12_ahead 106 = .ok (.iadd, 1) by decide +kernel))),
  List.forall_mem_cons.mpr ⟨(xOK_pure (xs_bipush (n := 48) (show decode cX12_ahead 107 = .ok (.bipush 48, 2) by decide +kernel) (by decide))),
  List.forall_mem_cons.mpr ⟨(xOK_pure (xs_isub (show decode cX12_ahead 109 = .ok (.isub, 1) by decide +kernel))),
  (fun _ h => absurd h List.not_mem_nil)⟩⟩⟩⟩⟩⟩⟩⟩⟩⟩⟩⟩⟩⟩⟩⟩⟩⟩⟩⟩
def pX12_ahead_3 (ev : xEv) : List (Nat × xEn) := [(110, .inl (xop (xf_istore 1 1))), (111, .inl (xop (xf_aload 0 1))), (112, .inl (xop xf_dup)), (113, .inl (xop (xf_getf 12 53))), (116, .inl (xop (xf_push (.int 1) 1))), (117, .inl (xop (xf_bin (fun x y => x + y)))), (118, .inl (xo_putf 12 53 .int)), (121, .inl (xop (xf_iinc 2 1))), (124, .inl (xop (xf_goto 86))), (127, .inl (xop (xf_iload 1 1))), (128, .inr (.inr 1)), (129, .inl (xop (xf_aload 0 1))), (130, .inr (.inl (0, 231, 0, 12))), (133, .inl (xop (xf_push (.int (-1)) 1))), (134, .inl (xop (xf_icmp_ne 141))), (137, .inl (xop (xf_push (.int (-1)) 1))), (138, .inl (xop (xf_goto 153))), (141, .inl (xop (xf_aload 0 1))), (142, .inl (xop (xf_getf 12 55))), (145, .inl (xop (xf_aload 0 1)))]
set_option maxRecDepth 20000 in
theorem okpX12_ahead_3 (ev : xEv) : ∀ q ∈ pX12_ahead_3 ev, xEnOK ev xmi yX12_ahead.cls yX12_ahead.name cX12_ahead 3 (some .int) q :=
  List.forall_mem_cons.mpr ⟨(xOK_pure (xs_istore_n (k := 1) rfl (show decode cX12_ahead 110 = .ok (.istore_n 1, 1) by decide +kernel) (by decide))),
  List.forall_mem_cons.mpr ⟨(xOK_pure (xs_aload_n (k := 0) rfl (show decode cX12_ahead 111 = .ok (.aload_n 0, 1) by decide +kernel))),
  List.forall_mem_cons.mpr ⟨(xOK_pure (xs_dup (show decode cX12_ahead 112 = .ok (.dup, 1) by decide +kernel))),
  List.forall_mem_cons.mpr ⟨(xOK_pure (xs_getf xcl_12 (by decide) (show decode cX12_ahead 113 = .ok (.getfield 237, 3) by decide +kernel) xw_1762)),
  List.forall_mem_cons.mpr ⟨(xOK_pure (xs_iconst (n := 1) (show decode cX12_ahead 116 = .ok (.iconst 1, 1) by decide +kernel) (by decide))),
  List.forall_mem_cons.mpr ⟨(xOK_pure (xs_iadd (show decode cX12_ahead 117 = .ok (.iadd, 1) by decide +kernel))),
  List.forall_mem_cons.mpr ⟨(xs_putf (k := 53) xcl_12 (by decide) rfl (show decode cX12_ahead 118 = .ok (.putfield 237, 3) by decide +kernel) xw_1762),
  List.forall_mem_cons.mpr ⟨(xOK_pure (xs_iinc (n := 1) (show decode cX12_ahead 121 = .ok (.iinc 2 1, 3) by decide +kernel) (by decide) (by decide))),
  List.forall_mem_cons.mpr ⟨(xOK_pure (xs_goto (show decode cX12_ahead 124 = .ok (.goto (-38), 3) by decide +kernel) (by decide))),
  List.forall_mem_cons.mpr ⟨(xOK_pure (xs_iload_n (k := 1) rfl (show decode cX12_ahead 127 = .ok (.iload_n 1, 1) by decide +kernel))),
  List.forall_mem_cons.mpr ⟨(Or.inr (Or.inl ⟨rfl, (show decode cX12_ahead 128 = .ok (.ireturn, 1) by decide +kernel), rfl⟩)),
  List.forall_mem_cons.mpr ⟨(xOK_pure (xs_aload_n (k := 0) rfl (show decode cX12_ahead 129 = .ok (.aload_n 0, 1) by decide +kernel))),
  List.forall_mem_cons.mpr ⟨(xcm mi_231 ⟨⟨(by decide +kernel), (by decide +kernel), (by decide +kernel)⟩, (by decide), xw_2099, xw_125, Or.inl ⟨rfl, _, _, _, _, (show decode cX12_ahead 130 = .ok (.invokevirtual 249, 3) by decide +kernel), xw_2096, xw_2098, xw_78, rfl⟩⟩),
  List.forall_mem_cons.mpr ⟨(xOK_pure (xs_iconst (n := (-1)) (show decode cX12_ahead 133 = .ok (.iconst (-1), 1) by decide +kernel) (by decide))),
  List.forall_mem_cons.mpr ⟨(xOK_pure (xs_icmp_ne (show decode cX12_ahead 134 = .ok (.if_icmp .ne 7, 3) by decide +kernel) (by decide))),
  List.forall_mem_cons.mpr ⟨(xOK_pure (xs_iconst (n := (-1)) (show decode cX12_ahead 137 = .ok (.iconst (-1), 1) by decide +kernel) (by decide))),
  List.forall_mem_cons.mpr ⟨(xOK_pure (xs_goto (show decode cX12_ahead 138 = .ok (.goto 15, 3) by decide +kernel) (by decide))),
  List.forall_mem_cons.mpr ⟨(xOK_pure (xs_aload_n (k := 0) rfl (show decode cX12_ahead 141 = .ok (.aload_n 0, 1) by decide +kernel))),
  List.forall_mem_cons.mpr ⟨(xOK_pure (xs_getf xcl_12 (by decide) (show decode cX12_ahead 142 = .ok (.getfield 284, 3) by decide +kernel) xw_1764)),
  List.forall_mem_cons.mpr ⟨(xOK_pure (xs_aload_n (k := 0) rfl (show decode cX12_ahead 145 = .ok (.aload_n 0, 1) by decide +kernel))),
  (fun _ h => absurd h List.not_mem_nil)⟩⟩⟩⟩⟩⟩⟩⟩⟩⟩⟩⟩⟩⟩⟩⟩⟩⟩⟩⟩
def pX12_ahead_4 (ev : xEv) : List (Nat × xEn) := [(146, .inr (.inl (0, 231, 0, 12))), (149, .inl (xop (xf_un (fun x => (x.toUInt32 % 65536).toInt32)))), (150, .inr (.inl (4, 302, 1, 99))), (153, .inl (xop (xf_istore 1 1))), (154, .inl (xop (xf_iload 1 1))), (155, .inl (xop (xf_if_ge 163))), (158, .inl (xop (xf_aload 0 1))), (159, .inr (.inl (0, 233, 0, 12))), (162, .inr (.inr 1)), (163, .inl (xop (xf_aload 0 1))), (164, .inl (xop xf_dup)), (165, .inl (xop (xf_getf 12 53))), (168, .inl (xop (xf_push (.int 1) 1))), (169, .inl (xop (xf_bin (fun x y => x + y)))), (170, .inl (xo_putf 12 53 .int)), (173, .inl (xop (xf_aload 0 1))), (174, .inl (xop (xf_getf 12 56))), (177, .inl (xop (xf_iload 1 1))), (178, .inl (xop (xf_ald (ev.1 0)))), (179, .inr (.inr 1))]
set_option maxRecDepth 20000 in
theorem okpX12_ahead_4 (ev : xEv) : ∀ q ∈ pX12_ahead_4 ev, xEnOK ev xmi yX12_ahead.cls yX12_ahead.name cX12_ahead 3 (some .int) q :=
  List.forall_mem_cons.mpr ⟨(xcm mi_231 ⟨⟨(by decide +kernel), (by decide +kernel), (by decide +kernel)⟩, (by decide), xw_2099, xw_125, Or.inl ⟨rfl, _, _, _, _, (show decode cX12_ahead 146 = .ok (.invokevirtual 249, 3) by decide +kernel), xw_2096, xw_2098, xw_78, rfl⟩⟩),
  List.forall_mem_cons.mpr ⟨(xOK_pure (xs_i2c (show decode cX12_ahead 149 = .ok (.i2c, 1) by decide +kernel))),
  List.forall_mem_cons.mpr ⟨(xcm mi_302 ⟨⟨(by decide +kernel), (by decide +kernel), (by decide +kernel)⟩, (by decide), xw_893, xw_135, Or.inr (Or.inr (Or.inr (Or.inr ⟨rfl, _, (show decode cX12_ahead 150 = .ok (.invokevirtual 288, 3) by decide +kernel), xw_2108, xw_891, xw_892⟩)))⟩),
  List.forall_mem_cons.mpr ⟨(xOK_pure (xs_istore_n (k := 1) rfl (show decode cX12_ahead 153 = .ok (.istore_n 1, 1) by decide +kernel) (by decide))),
  List.forall_mem_cons.mpr ⟨(xOK_pure (xs_iload_n (k := 1) rfl (show decode cX12_ahead 154 = .ok (.iload_n 1, 1) by decide +kernel))),
  List.forall_mem_cons.mpr ⟨(xOK_pure (xs_if_ge (show decode cX12_ahead 155 = .ok (.ifCond .ge 8, 3) by decide +kernel) (by decide))),
  List.forall_mem_cons.mpr ⟨(xOK_pure (xs_aload_n (k := 0) rfl (show decode cX12_ahead 158 = .ok (.aload_n 0, 1) by decide +kernel))),
  List.forall_mem_cons.mpr ⟨(xcm mi_233 ⟨⟨(by decide +kernel), (by decide +kernel), (by decide +kernel)⟩, (by decide), xw_2103, xw_125, Or.inl ⟨rfl, _, _, _, _, (show decode cX12_ahead 159 = .ok (.invokevirtual 277, 3) by decide +kernel), xw_2100, xw_2102, xw_79, rfl⟩⟩),
  List.forall_mem_cons.mpr ⟨(Or.inr (Or.inl ⟨rfl, (show decode cX12_ahead 162 = .ok (.ireturn, 1) by decide +kernel), rfl⟩)),
  List.forall_mem_cons.mpr ⟨(xOK_pure (xs_aload_n (k := 0) rfl (show decode cX12_ahead 163 = .ok (.aload_n 0, 1) by decide +kernel))),
  List.forall_mem_cons.mpr ⟨(xOK_pure (xs_dup (show decode cX12_ahead 164 = .ok (.dup, 1) by decide +kernel))),
  List.forall_mem_cons.mpr ⟨(xOK_pure (xs_getf xcl_12 (by decide) (show decode cX12_ahead 165 = .ok (.getfield 237, 3) by decide +kernel) xw_1762)),
  List.forall_mem_cons.mpr ⟨(xOK_pure (xs_iconst (n := 1) (show decode cX12_ahead 168 = .ok (.iconst 1, 1) by decide +kernel) (by decide))),
  List.forall_mem_cons.mpr ⟨(xOK_pure (xs_iadd (show decode cX12_ahead 169 = .ok (.iadd, 1) by decide +kernel))),
  List.forall_mem_cons.mpr ⟨(xs_putf (k := 53) xcl_12 (by decide) rfl (show decode cX12_ahead 170 = .ok (.putfield 237, 3) by decide +kernel) xw_1762),
  List.forall_mem_cons.mpr ⟨(xOK_pure (xs_aload_n (k := 0) rfl (show decode cX12_ahead 173 = .ok (.aload_n 0, 1) by decide +kernel))),
  List.forall_mem_cons.mpr ⟨(xOK_pure (xs_getf xcl_12 (by decide) (show decode cX12_ahead 174 = .ok (.getfield 127, 3) by decide +kernel) xw_1765)),
  List.forall_mem_cons.mpr ⟨(xOK_pure (xs_iload_n (k := 1) rfl (show decode cX12_ahead 177 = .ok (.iload_n 1, 1) by decide +kernel))),
  List.forall_mem_cons.mpr ⟨(xOK_pure (xs_iald (show decode cX12_ahead 178 = .ok (.iaload, 1) by decide +kernel))),
  List.forall_mem_cons.mpr ⟨(Or.inr (Or.inl ⟨rfl, (show decode cX12_ahead 179 = .ok (.ireturn, 1) by decide +kernel), rfl⟩)),
  (fun _ h => absurd h List.not_mem_nil)⟩⟩⟩⟩⟩⟩⟩⟩⟩⟩⟩⟩⟩⟩⟩⟩⟩⟩⟩⟩
def pX12_ahead (ev : xEv) : List (Nat × xEn) := pX12_ahead_0 ev ++ (pX12_ahead_1 ev ++ (pX12_ahead_2 ev ++ (pX12_ahead_3 ev ++ (pX12_ahead_4 ev))))
theorem okpX12_ahead (ev : xEv) : ∀ q ∈ pX12_ahead ev, xEnOK ev xmi yX12_ahead.cls yX12_ahead.name cX12_ahead 3 (some .int) q := List.forall_mem_append.mpr ⟨okpX12_ahead_0 ev, List.forall_mem_append.mpr ⟨okpX12_ahead_1 ev, List.forall_mem_append.mpr ⟨okpX12_ahead_2 ev, List.forall_mem_append.mpr ⟨okpX12_ahead_3 ev, okpX12_ahead_4 ev⟩⟩⟩⟩
theorem omX12_ahead (ev : xEv) : xMethOK ev xmi yX12_ahead.cls yX12_ahead.name 240 (pX12_ahead ev) := xMethOK.of mi_240 (by decide +kernel) (okpX12_ahead ev)
def pX12_choice_0 (ev : xEv) : List (Nat × xEn) := [(0, .inl (xop (xf_aload 0 1))), (1, .inr (.inl (0, 235, 0, 12))), (4, .inl (xop (xf_istore 1 1))), (5, .inl (xop (xf_aload 0 1))), (6, .inl (xop (xf_getf 12 54))), (9, .inl (xop (xf_push (.int (-1)) 1))), (10, .inl (xop (xf_icmp_ne 22))), (13, .inl (xop (xf_aload 0 1))), (14, .inl (xop (xf_push (.int 63) 2))), (16, .inr (.inl (0, 232, 1, 12))), (19, .inl (xop (xf_if_ne 24))), (22, .inl (xop (xf_iload 1 1))), (23, .inr (.inr 1)), (24, .inl (xop (xf_aload 0 1))), (25, .inr (.inl (0, 241, 0, 12))), (28, .inl (xop (xf_istore 2 1))), (29, .inl (xop (xf_aload 0 1))), (30, .inl (xop (xf_getf 12 54))), (33, .inl (xop (xf_push (.int (-1)) 1))), (34, .inl (xop (xf_icmp_ne 51)))]
set_option maxRecDepth 20000 in
theorem okpX12_choice_0 (ev : xEv) : ∀ q ∈ pX12_choice_0 ev, xEnOK ev xmi yX12_choice.cls yX12_choice.name cX12_choice 4 (some .int) q :=
  List.forall_mem_cons.mpr ⟨(xOK_pure (xs_aload_n (k := 0) rfl (show decode cX12_choice 0 = .ok (.aload_n 0, 1) by decide +kernel))),
  List.forall_mem_cons.mpr ⟨(xcm mi_235 ⟨⟨(by decide +kernel), (by decide +kernel), (by decide +kernel)⟩, (by decide), xw_2071, xw_125, Or.inl ⟨rfl, _, _, _, _, (show decode cX12_choice 1 = .ok (.invokevirtual 274, 3) by decide +kernel), xw_2068, xw_2070, xw_71, rfl⟩⟩),
  List.forall_mem_cons.mpr ⟨(xOK_pure (xs_istore_n (k := 1) rfl (show decode cX12_choice 4 = .ok (.istore_n 1, 1) by decide +kernel) (by decide))),
  List.forall_mem_cons.mpr ⟨(xOK_pure (xs_aload_n (k := 0) rfl (show decode cX12_choice 5 = .ok (.aload_n 0, 1) by decide +kernel))),
  List.forall_mem_cons.mpr ⟨(xOK_pure (xs_getf xcl_12 (by decide) (show decode cX12_choice 6 = .ok (.getfield 252, 3) by decide +kernel) xw_1763)),
  List.forall_mem_cons.mpr ⟨(xOK_pure (xs_iconst (n := (-1)) (show decode cX12_choice 9 = .ok (.iconst (-1), 1) by decide +kernel) (by decide))),
  List.forall_mem_cons.mpr ⟨(xOK_pure (xs_icmp_ne (show decode cX12_choice 10 = .ok (.if_icmp .ne 12, 3) by decide +kernel) (by decide))),
  List.forall_mem_cons.mpr ⟨(xOK_pure (xs_aload_n (k := 0) rfl (show decode cX12_choice 13 = .ok (.aload_n 0, 1) by decide +kernel))),
  List.forall_mem_cons.mpr ⟨(xOK_pure (xs_bipush (n := 63) (show decode cX12_choice 14 = .ok (.bipush 63, 2) by decide +kernel) (by decide))),
  List.forall_mem_cons.mpr ⟨(xcm mi_232 ⟨⟨(by decide +kernel), (by decide +kernel), (by decide +kernel)⟩, (by decide), xw_2095, xw_125, Or.inl ⟨rfl, _, _, _, _, (show decode cX12_choice 16 = .ok (.invokevirtual 258, 3) by decide +kernel), xw_2092, xw_2094, xw_77, rfl⟩⟩),
  List.forall_mem_cons.mpr ⟨(xOK_pure (xs_if_ne (show decode cX12_choice 19 = .ok (.ifCond .ne 5, 3) by decide +kernel) (by decide))),
  List.forall_mem_cons.mpr ⟨(xOK_pure (xs_iload_n (k := 1) rfl (show decode cX12_choice 22 = .ok (.iload_n 1, 1) by decide +kernel))),
  List.forall_mem_cons.mpr ⟨(Or.inr (Or.inl ⟨rfl, (show decode cX12_choice 23 = .ok (.ireturn, 1) by decide +kernel), rfl⟩)),
  List.forall_mem_cons.mpr ⟨(xOK_pure (xs_aload_n (k := 0) rfl (show decode cX12_choice 24 = .ok (.aload_n 0, 1) by decide +kernel))),
  List.forall_mem_cons.mpr ⟨(xcm mi_241 ⟨⟨(by decide +kernel), (by decide +kernel), (by decide +kernel)⟩, (by decide), xw_2067, xw_125, Or.inl ⟨rfl, _, _, _, _, (show decode cX12_choice 25 = .ok (.invokevirtual 294, 3) by decide +kernel), xw_2064, xw_2066, xw_70, rfl⟩⟩),
  List.forall_mem_cons.mpr ⟨(xOK_pure (xs_istore_n (k := 2) rfl (show decode cX12_choice 28 = .ok (.istore_n 2, 1) by decide +kernel) (by decide))),
  List.forall_mem_cons.mpr ⟨(xOK_pure (xs_aload_n (k := 0) rfl (show decode cX12_choice 29 = .ok (.aload_n 0, 1) by decide +kernel))),
  List.forall_mem_cons.mpr ⟨(xOK_pure (xs_getf xcl_12 (by decide) (show decode cX12_choice 30 = .ok (.getfield 252, 3) by decide +kernel) xw_1763)),
  List.forall_mem_cons.mpr ⟨(xOK_pure (xs_iconst (n := (-1)) (show decode cX12_choice 33 = .ok (.iconst (-1), 1) by decide +kernel) (by decide))),
  List.forall_mem_cons.mpr ⟨(xOK_pure (xs_icmp_ne (show decode cX12_choice 34 = .ok (.if_icmp .ne 17, 3) by decide +kernel) (by decide))),
  (fun _ h => absurd h List.not_mem_nil)⟩⟩⟩⟩⟩⟩⟩⟩⟩⟩⟩⟩⟩⟩⟩⟩⟩⟩⟩⟩
def pX12_choice_1 (ev : xEv) : List (Nat × xEn) := [(37, .inl (xop (xf_aload 0 1))), (38, .inl (xop (xf_push (.int 58) 2))), (40, .inr (.inl (0, 232, 1, 12))), (43, .inl (xop (xf_if_ne 51))), (46, .inl (xop (xf_aload 0 1))), (47, .inr (.inl (0, 233, 0, 12))), (50, .inr (.inr 1)), (51, .inl (xop (xf_aload 0 1))), (52, .inl (xop (xf_getf 12 54))), (55, .inl (xop (xf_push (.int (-1)) 1))), (56, .inl (xop (xf_icmp_eq 61))), (59, .inl (xop (xf_push (.int 0) 1))), (60, .inr (.inr 1)), (61, .inl (xop (xf_aload 0 1))), (62, .inr (.inl (0, 241, 0, 12))), (65, .inl (xop (xf_istore 3 1))), (66, .inl (xop (xf_iload 1 1))), (67, .inl (xop (xf_if_eq 74))), (70, .inl (xop (xf_iload 2 1))), (71, .inl (xop (xf_goto 75)))]
set_option maxRecDepth 20000 in
theorem okpX12_choice_1 (ev : xEv) : ∀ q ∈ pX12_choice_1 ev, xEnOK ev xmi yX12_choice.cls yX12_choice.name cX12_choice 4 (some .int) q :=
  List.forall_mem_cons.mpr ⟨(xOK_pure (xs_aload_n (k := 0) rfl (show decode cX12_choice 37 = .ok (.aload_n 0, 1) by decide +kernel))),
  List.forall_mem_cons.mpr ⟨(xOK_pure (xs_bipush (n := 58) (show decode cX12_choice 38 = .ok (.bipush 58, 2) by decide +kernel) (by decide))),
  List.forall_mem_cons.mpr ⟨(xcm mi_232 ⟨⟨(by decide +kernel), (by decide +kernel), (by decide +kernel)⟩, (by decide), xw_2095, xw_125, Or.inl ⟨rfl, _, _, _, _, (show decode cX12_choice 40 = .ok (.invokevirtual 258, 3) by decide +kernel), xw_2092, xw_2094, xw_77, rfl⟩⟩),
  List.forall_mem_cons.mpr ⟨(xOK_pure (xs_if_ne (show decode cX12_choice 43 = .ok (.ifCond .ne 8, 3) by decide +kernel) (by decide))),
  List.forall_mem_cons.mpr ⟨(xOK_pure (xs_aload_n (k := 0) rfl (show decode cX12_choice 46 = .ok (.aload_n 0, 1) by decide +kernel))),
  List.forall_mem_cons.mpr ⟨(xcm mi_233 ⟨⟨(by decide +kernel), (by decide +kernel), (by decide +kernel)⟩, (by decide), xw_2103, xw_125, Or.inl ⟨rfl, _, _, _, _, (show decode cX12_choice 47 = .ok (.invokevirtual 277, 3) by decide +kernel), xw_2100, xw_2102, xw_79, rfl⟩⟩),
  List.forall_mem_cons.mpr ⟨(Or.inr (Or.inl ⟨rfl, (show decode cX12_choice 50 = .ok (.ireturn, 1) by decide +kernel), rfl⟩)),
  List.forall_mem_cons.mpr ⟨(xOK_pure (xs_aload_n (k := 0) rfl (show decode cX12_choice 51 = .ok (.aload_n 0, 1) by decide +kernel))),
  List.forall_mem_cons.mpr ⟨(xOK_pure (xs_getf xcl_12 (by decide) (show decode cX12_choice 52 = .ok (.getfield 252, 3) by decide +kernel) xw_1763)),
  List.forall_mem_cons.mpr ⟨(xOK_pure (xs_iconst (n := (-1)) (show decode cX12_choice 55 = .ok (.iconst (-1), 1) by decide +kernel) (by decide))),
  List.forall_mem_cons.mpr ⟨(xOK_pure (xs_icmp_eq (show decode cX12_choice 56 = .ok (.if_icmp .eq 5, 3) by decide +kernel) (by decide))),
  List.forall_mem_cons.mpr ⟨(xOK_pure (xs_iconst (n := 0) (show decode cX12_choice 59 = .ok (.iconst 0, 1) by decide +kernel) (by decide))),
  List.forall_mem_cons.mpr ⟨(Or.inr (Or.inl ⟨rfl, (show decode cX12_choice 60 = .ok (.ireturn, 1) by decide +kernel), rfl⟩)),
  List.forall_mem_cons.mpr ⟨(xOK_pure (xs_aload_n (k := 0) rfl (show decode cX12_choice 61 = .ok (.aload_n 0, 1) by decide +kernel))),
  List.forall_mem_cons.mpr ⟨(xcm mi_241 ⟨⟨(by decide +kernel), (by decide +kernel), (by decide +kernel)⟩, (by decide), xw_2067, xw_125, Or.inl ⟨rfl, _, _, _, _, (show decode cX12_choice 62 = .ok (.invokevirtual 294, 3) by decide +kernel), xw_2064, xw_2066, xw_70, rfl⟩⟩),
  List.forall_mem_cons.mpr ⟨(xOK_pure (xs_istore_n (k := 3) rfl (show decode cX12_choice 65 = .ok (.istore_n 3, 1) by decide +kernel) (by decide))),
  List.forall_mem_cons.mpr ⟨(xOK_pure (xs_iload_n (k := 1) rfl (show decode cX12_choice 66 = .ok (.iload_n 1, 1) by decide +kernel))),
  List.forall_mem_cons.mpr ⟨(xOK_pure (xs_if_eq (show decode cX12_choice 67 = .ok (.ifCond .eq 7, 3) by decide +kernel) (by decide))),
  List.forall_mem_cons.mpr ⟨(xOK_pure (xs_iload_n (k := 2) rfl (show decode cX12_choice 70 = .ok (.iload_n 2, 1) by decide +kernel))),
  List.forall_mem_cons.mpr ⟨(xOK_pure (xs_goto (show decode cX12_choice 71 = .ok (.goto 4, 3) by decide +kernel) (by decide))),
  (fun _ h => absurd h List.not_mem_nil)⟩⟩⟩⟩⟩⟩⟩⟩⟩⟩⟩⟩⟩⟩⟩⟩⟩⟩⟩⟩
def pX12_choice_2 (ev : xEv) : List (Nat × xEn) := [(74, .inl (xop (xf_iload 3 1))), (75, .inr (.inr 1))]
set_option maxRecDepth 20000 in
theorem okpX12_choice_2 (ev : xEv) : ∀ q ∈ pX12_choice_2 ev, xEnOK ev xmi yX12_choice.cls yX12_choice.name cX12_choice 4 (some .int) q :=
  List.forall_mem_cons.mpr ⟨(xOK_pure (xs_iload_n (k := 3) rfl (show decode cX12_choice 74 = .ok (.iload_n 3, 1) by decide +kernel))),
  List.forall_mem_cons.mpr ⟨(Or.inr (Or.inl ⟨rfl, (show decode cX12_choice 75 = .ok (.ireturn, 1) by decide +kernel), rfl⟩)),
  (fun _ h => absurd h List.not_mem_nil)⟩⟩
def pX12_choice (ev : xEv) : List (Nat × xEn) := pX12_choice_0 ev ++ (pX12_choice_1 ev ++ (pX12_choice_2 ev))
theorem okpX12_choice (ev : xEv) : ∀ q ∈ pX12_choice ev, xEnOK ev xmi yX12_choice.cls yX12_choice.name cX12_choice 4 (some .int) q := List.forall_mem_append.mpr ⟨okpX12_choice_0 ev, List.forall_mem_append.mpr ⟨okpX12_choice_1 ev, okpX12_choice_2 ev⟩⟩
theorem omX12_choice (ev : xEv) : xMethOK ev xmi yX12_choice.cls yX12_choice.name 241 (pX12_choice ev) := xMethOK.of mi_241 (by decide +kernel) (okpX12_choice ev)
