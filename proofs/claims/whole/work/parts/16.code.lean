def pX11_of_0 (ev : xEv) : List (Nat × xEn) := [(0, .inl (xop (xf_aload 0 1))), (1, .inl (xop (xf_iload 1 1))), (2, .inr (.inl (0, 175, 1, 11))), (5, .inl (xop (xf_if_ne 19))), (8, .inl (xop xf_none)), (11, .inl (xop xf_dup)), (12, .inl (xop (xf_push (.ref (ev.2.1 7)) 3))), (15, .inl (xop xf_none)), (18, .inl (xop xf_none)), (19, .inl (xop (xf_aload 0 1))), (20, .inl (xop (xf_getf 11 1))), (23, .inl (xop (xf_getf 10 4))), (26, .inl (xop (xf_iload 1 1))), (27, .inl (xop (xf_aald (ev.1 5)))), (28, .inl (xop (xf_astore 3 1))), (29, .inl (xop (xf_iload 2 1))), (30, .inl (xop (xf_sw (xtsw 0 [88, 93, 98, 103, 116, 121, 126, 131, 136, 145, 150] 181)))), (88, .inl (xop (xf_aload 3 1))), (89, .inl (xop (xf_getf 6 8))), (92, .inr (.inr 1))]
set_option maxRecDepth 20000 in
theorem okpX11_of_0 (ev : xEv) : ∀ q ∈ pX11_of_0 ev, xEnOK ev xmi yX11_of.cls yX11_of.name cX11_of 4 (some .int) q :=
  List.forall_mem_cons.mpr ⟨(xOK_pure (xs_aload_n (k := 0) rfl (show decode cX11_of 0 = .ok (.aload_n 0, 1) by decide +kernel))),
  List.forall_mem_cons.mpr ⟨(xOK_pure (xs_iload_n (k := 1) rfl (show decode cX11_of 1 = .ok (.iload_n 1, 1) by decide +kernel))),
  List.forall_mem_cons.mpr ⟨(xcm mi_175 ⟨⟨(by decide +kernel), (by decide +kernel), (by decide +kernel)⟩, (by decide), xw_701, xw_118, Or.inl ⟨rfl, _, _, _, _, (show decode cX11_of 2 = .ok (.invokevirtual 173, 3) by decide +kernel), xw_698, xw_700, xw_2, rfl⟩⟩),
  List.forall_mem_cons.mpr ⟨(xOK_pure (xs_if_ne (show decode cX11_of 5 = .ok (.ifCond .ne 14, 3) by decide +kernel) (by decide))),
  List.forall_mem_cons.mpr ⟨(xOK_pure xs_none),
  List.forall_mem_cons.mpr ⟨(xOK_pure (xs_dup (show decode cX11_of 11 = .ok (.dup, 1) by decide +kernel))),
  List.forall_mem_cons.mpr ⟨(xOK_pure (xs_ldcSW (show decode cX11_of 12 = .ok (.ldc_w 334, 3) by decide +kernel) (List.mem_of_getElem? (i := 7) rfl))),
  List.forall_mem_cons.mpr ⟨(xOK_pure xs_none),
  List.forall_mem_cons.mpr ⟨(xOK_pure xs_none),
  List.forall_mem_cons.mpr ⟨(xOK_pure (xs_aload_n (k := 0) rfl (show decode cX11_of 19 = .ok (.aload_n 0, 1) by decide +kernel))),
  List.forall_mem_cons.mpr ⟨(xOK_pure (xs_getf xcl_11 (by decide) (show decode cX11_of 20 = .ok (.getfield 21, 3) by decide +kernel) xw_447)),
  List.forall_mem_cons.mpr ⟨(xOK_pure (xs_getf xcl_10 (by decide) (show decode cX11_of 23 = .ok (.getfield 164, 3) by decide +kernel) xw_311)),
  List.forall_mem_cons.mpr ⟨(xOK_pure (xs_iload_n (k := 1) rfl (show decode cX11_of 26 = .ok (.iload_n 1, 1) by decide +kernel))),
  List.forall_mem_cons.mpr ⟨(xOK_pure (xs_aald (t := 5) rfl (show decode cX11_of 27 = .ok (.aaload, 1) by decide +kernel))),
  List.forall_mem_cons.mpr ⟨(xOK_pure (xs_astore_n (k := 3) rfl (show decode cX11_of 28 = .ok (.astore_n 3, 1) by decide +kernel) (by decide))),
  List.forall_mem_cons.mpr ⟨(xOK_pure (xs_iload_n (k := 2) rfl (show decode cX11_of 29 = .ok (.iload_n 2, 1) by decide +kernel))),
  List.forall_mem_cons.mpr ⟨(xOK_pure (xs_tsw (show decode cX11_of 30 = .ok (.tableswitch 151 0 10 #[58, 63, 68, 73, 86, 91, 96, 101, 106, 115, 120], 58) by decide +kernel) (by decide) (by decide) (by decide))),
  List.forall_mem_cons.mpr ⟨(xOK_pure (xs_aload_n (k := 3) rfl (show decode cX11_of 88 = .ok (.aload_n 3, 1) by decide +kernel))),
  List.forall_mem_cons.mpr ⟨(xOK_pure (xs_getf xcl_6 (by decide) (show decode cX11_of 89 = .ok (.getfield 336, 3) by decide +kernel) xw_617)),
  List.forall_mem_cons.mpr ⟨(Or.inr (Or.inl ⟨rfl, (show decode cX11_of 92 = .ok (.ireturn, 1) by decide +kernel), rfl⟩)),
  (fun _ h => absurd h List.not_mem_nil)⟩⟩⟩⟩⟩⟩⟩⟩⟩⟩⟩⟩⟩⟩⟩⟩⟩⟩⟩⟩
def pX11_of_1 (ev : xEv) : List (Nat × xEn) := [(93, .inl (xop (xf_aload 3 1))), (94, .inl (xop (xf_getf 6 9))), (97, .inr (.inr 1)), (98, .inl (xop (xf_aload 3 1))), (99, .inl (xop (xf_getf 6 10))), (102, .inr (.inr 1)), (103, .inl (xop (xf_aload 3 1))), (104, .inl (xop (xf_getf 6 12))), (107, .inl (xop (xf_if_eq 114))), (110, .inl (xop (xf_push (.int 1) 1))), (111, .inl (xop (xf_goto 115))), (114, .inl (xop (xf_push (.int 0) 1))), (115, .inr (.inr 1)), (116, .inl (xop (xf_aload 3 1))), (117, .inl (xop (xf_getf 6 13))), (120, .inr (.inr 1)), (121, .inl (xop (xf_aload 3 1))), (122, .inl (xop (xf_getf 6 5))), (125, .inr (.inr 1)), (126, .inl (xop (xf_aload 3 1)))]
set_option maxRecDepth 20000 in
theorem okpX11_of_1 (ev : xEv) : ∀ q ∈ pX11_of_1 ev, xEnOK ev xmi yX11_of.cls yX11_of.name cX11_of 4 (some .int) q :=
  List.forall_mem_cons.mpr ⟨(xOK_pure (xs_aload_n (k := 3) rfl (show decode cX11_of 93 = .ok (.aload_n 3, 1) by decide +kernel))),
  List.forall_mem_cons.mpr ⟨(xOK_pure (xs_getf xcl_6 (by decide) (show decode cX11_of 94 = .ok (.getfield 337, 3) by decide +kernel) xw_620)),
  List.forall_mem_cons.mpr ⟨(Or.inr (Or.inl ⟨rfl, (show decode cX11_of 97 = .ok (.ireturn, 1) by decide +kernel), rfl⟩)),
  List.forall_mem_cons.mpr ⟨(xOK_pure (xs_aload_n (k := 3) rfl (show decode cX11_of 98 = .ok (.aload_n 3, 1) by decide +kernel))),
  List.forall_mem_cons.mpr ⟨(xOK_pure (xs_getf xcl_6 (by decide) (show decode cX11_of 99 = .ok (.getfield 340, 3) by decide +kernel) xw_623)),
  List.forall_mem_cons.mpr ⟨(Or.inr (Or.inl ⟨rfl, (show decode cX11_of 102 = .ok (.ireturn, 1) by decide +kernel), rfl⟩)),
  List.forall_mem_cons.mpr ⟨(xOK_pure (xs_aload_n (k := 3) rfl (show decode cX11_of 103 = .ok (.aload_n 3, 1) by decide +kernel))),
  List.forall_mem_cons.mpr ⟨(xOK_pure (xs_getf xcl_6 (by decide) (show decode cX11_of 104 = .ok (.getfield 343, 3) by decide +kernel) xw_629)),
  List.forall_mem_cons.mpr ⟨(xOK_pure (xs_if_eq (show decode cX11_of 107 = .ok (.ifCond .eq 7, 3) by decide +kernel) (by decide))),
  List.forall_mem_cons.mpr ⟨(xOK_pure (xs_iconst (n := 1) (show decode cX11_of 110 = .ok (.iconst 1, 1) by decide +kernel) (by decide))),
  List.forall_mem_cons.mpr ⟨(xOK_pure (xs_goto (show decode cX11_of 111 = .ok (.goto 4, 3) by decide +kernel) (by decide))),
  List.forall_mem_cons.mpr ⟨(xOK_pure (xs_iconst (n := 0) (show decode cX11_of 114 = .ok (.iconst 0, 1) by decide +kernel) (by decide))),
  List.forall_mem_cons.mpr ⟨(Or.inr (Or.inl ⟨rfl, (show decode cX11_of 115 = .ok (.ireturn, 1) by decide +kernel), rfl⟩)),
  List.forall_mem_cons.mpr ⟨(xOK_pure (xs_aload_n (k := 3) rfl (show decode cX11_of 116 = .ok (.aload_n 3, 1) by decide +kernel))),
  List.forall_mem_cons.mpr ⟨(xOK_pure (xs_getf xcl_6 (by decide) (show decode cX11_of 117 = .ok (.getfield 347, 3) by decide +kernel) xw_633)),
  List.forall_mem_cons.mpr ⟨(Or.inr (Or.inl ⟨rfl, (show decode cX11_of 120 = .ok (.ireturn, 1) by decide +kernel), rfl⟩)),
  List.forall_mem_cons.mpr ⟨(xOK_pure (xs_aload_n (k := 3) rfl (show decode cX11_of 121 = .ok (.aload_n 3, 1) by decide +kernel))),
  List.forall_mem_cons.mpr ⟨(xOK_pure (xs_getf xcl_6 (by decide) (show decode cX11_of 122 = .ok (.getfield 176, 3) by decide +kernel) xw_606)),
  List.forall_mem_cons.mpr ⟨(Or.inr (Or.inl ⟨rfl, (show decode cX11_of 125 = .ok (.ireturn, 1) by decide +kernel), rfl⟩)),
  List.forall_mem_cons.mpr ⟨(xOK_pure (xs_aload_n (k := 3) rfl (show decode cX11_of 126 = .ok (.aload_n 3, 1) by decide +kernel))),
  (fun _ h => absurd h List.not_mem_nil)⟩⟩⟩⟩⟩⟩⟩⟩⟩⟩⟩⟩⟩⟩⟩⟩⟩⟩⟩⟩
def pX11_of_2 (ev : xEv) : List (Nat × xEn) := [(127, .inl (xop (xf_getf 6 15))), (130, .inr (.inr 1)), (131, .inl (xop (xf_aload 3 1))), (132, .inl (xop (xf_getf 6 14))), (135, .inr (.inr 1)), (136, .inl (xop (xf_aload 0 1))), (137, .inl (xop (xf_getf 11 1))), (140, .inl (xop (xf_iload 1 1))), (141, .inr (.inl (0, 119, 1, 10))), (144, .inr (.inr 1)), (145, .inl (xop (xf_aload 3 1))), (146, .inl (xop (xf_getf 6 16))), (149, .inr (.inr 1)), (150, .inl (xop (xf_aload 3 1))), (151, .inr (.inl (0, 69, 0, 6))), (154, .inl (xop (xf_if_eq 179))), (157, .inl (xop (xf_aload 0 1))), (158, .inl (xop (xf_getf 11 0))), (161, .inl (xop (xf_getf 2 4))), (164, .inl (xop (xf_aload 3 1)))]
set_option maxRecDepth 20000 in
theorem okpX11_of_2 (ev : xEv) : ∀ q ∈ pX11_of_2 ev, xEnOK ev xmi yX11_of.cls yX11_of.name cX11_of 4 (some .int) q :=
  List.forall_mem_cons.mpr ⟨(xOK_pure (xs_getf xcl_6 (by decide) (show decode cX11_of 127 = .ok (.getfield 350, 3) by decide +kernel) xw_640)),
  List.forall_mem_cons.mpr ⟨(Or.inr (Or.inl ⟨rfl, (show decode cX11_of 130 = .ok (.ireturn, 1) by decide +kernel), rfl⟩)),
  List.forall_mem_cons.mpr ⟨(xOK_pure (xs_aload_n (k := 3) rfl (show decode cX11_of 131 = .ok (.aload_n 3, 1) by decide +kernel))),
  List.forall_mem_cons.mpr ⟨(xOK_pure (xs_getf xcl_6 (by decide) (show decode cX11_of 132 = .ok (.getfield 353, 3) by decide +kernel) xw_637)),
  List.forall_mem_cons.mpr ⟨(Or.inr (Or.inl ⟨rfl, (show decode cX11_of 135 = .ok (.ireturn, 1) by decide +kernel), rfl⟩)),
  List.forall_mem_cons.mpr ⟨(xOK_pure (xs_aload_n (k := 0) rfl (show decode cX11_of 136 = .ok (.aload_n 0, 1) by decide +kernel))),
  List.forall_mem_cons.mpr ⟨(xOK_pure (xs_getf xcl_11 (by decide) (show decode cX11_of 137 = .ok (.getfield 21, 3) by decide +kernel) xw_447)),
  List.forall_mem_cons.mpr ⟨(xOK_pure (xs_iload_n (k := 1) rfl (show decode cX11_of 140 = .ok (.iload_n 1, 1) by decide +kernel))),
  List.forall_mem_cons.mpr ⟨(xcm mi_119 ⟨⟨(by decide +kernel), (by decide +kernel), (by decide +kernel)⟩, (by decide), xw_1661, xw_120, Or.inl ⟨rfl, _, _, _, _, (show decode cX11_of 141 = .ok (.invokevirtual 356, 3) by decide +kernel), xw_1658, xw_1659, xw_1660, rfl⟩⟩),
  List.forall_mem_cons.mpr ⟨(Or.inr (Or.inl ⟨rfl, (show decode cX11_of 144 = .ok (.ireturn, 1) by decide +kernel), rfl⟩)),
  List.forall_mem_cons.mpr ⟨(xOK_pure (xs_aload_n (k := 3) rfl (show decode cX11_of 145 = .ok (.aload_n 3, 1) by decide +kernel))),
  List.forall_mem_cons.mpr ⟨(xOK_pure (xs_getf xcl_6 (by decide) (show decode cX11_of 146 = .ok (.getfield 360, 3) by decide +kernel) xw_643)),
  List.forall_mem_cons.mpr ⟨(Or.inr (Or.inl ⟨rfl, (show decode cX11_of 149 = .ok (.ireturn, 1) by decide +kernel), rfl⟩)),
  List.forall_mem_cons.mpr ⟨(xOK_pure (xs_aload_n (k := 3) rfl (show decode cX11_of 150 = .ok (.aload_n 3, 1) by decide +kernel))),
  List.forall_mem_cons.mpr ⟨(xcm mi_69 ⟨⟨(by decide +kernel), (by decide +kernel), (by decide +kernel)⟩, (by decide), xw_1128, xw_132, Or.inl ⟨rfl, _, _, _, _, (show decode cX11_of 151 = .ok (.invokevirtual 363, 3) by decide +kernel), xw_1662, xw_1126, xw_1127, rfl⟩⟩),
  List.forall_mem_cons.mpr ⟨(xOK_pure (xs_if_eq (show decode cX11_of 154 = .ok (.ifCond .eq 25, 3) by decide +kernel) (by decide))),
  List.forall_mem_cons.mpr ⟨(xOK_pure (xs_aload_n (k := 0) rfl (show decode cX11_of 157 = .ok (.aload_n 0, 1) by decide +kernel))),
  List.forall_mem_cons.mpr ⟨(xOK_pure (xs_getf xcl_11 (by decide) (show decode cX11_of 158 = .ok (.getfield 10, 3) by decide +kernel) xw_446)),
  List.forall_mem_cons.mpr ⟨(xOK_pure (xs_getf xcl_2 (by decide) (show decode cX11_of 161 = .ok (.getfield 82, 3) by decide +kernel) xw_173)),
  List.forall_mem_cons.mpr ⟨(xOK_pure (xs_aload_n (k := 3) rfl (show decode cX11_of 164 = .ok (.aload_n 3, 1) by decide +kernel))),
  (fun _ h => absurd h List.not_mem_nil)⟩⟩⟩⟩⟩⟩⟩⟩⟩⟩⟩⟩⟩⟩⟩⟩⟩⟩⟩⟩
def pX11_of_3 (ev : xEv) : List (Nat × xEn) := [(165, .inl (xop (xf_getf 6 9))), (168, .inl (xop (xf_aald (ev.1 4)))), (169, .inl (xop (xf_aload 3 1))), (170, .inl (xop (xf_getf 6 11))), (173, .inr (.inl (0, 36, 1, 3))), (176, .inl (xop (xf_goto 180))), (179, .inl (xop (xf_push (.int (-1)) 1))), (180, .inr (.inr 1)), (181, .inl (xop xf_none)), (184, .inl (xop xf_dup)), (185, .inl (xop (xf_push (.ref (ev.2.1 8)) 3))), (188, .inl (xop xf_none)), (191, .inl (xop xf_none))]
set_option maxRecDepth 20000 in
theorem okpX11_of_3 (ev : xEv) : ∀ q ∈ pX11_of_3 ev, xEnOK ev xmi yX11_of.cls yX11_of.name cX11_of 4 (some .int) q :=
  List.forall_mem_cons.mpr ⟨(xOK_pure (xs_getf xcl_6 (by decide) (show decode cX11_of 165 = .ok (.getfield 337, 3) by decide +kernel) xw_620)),
  List.forall_mem_cons.mpr ⟨(xOK_pure (xs_aald (t := 4) rfl (show decode cX11_of 168 = .ok (.aaload, 1) by decide +kernel))),
  List.forall_mem_cons.mpr ⟨(xOK_pure (xs_aload_n (k := 3) rfl (show decode cX11_of 169 = .ok (.aload_n 3, 1) by decide +kernel))),
  List.forall_mem_cons.mpr ⟨(xOK_pure (xs_getf xcl_6 (by decide) (show decode cX11_of 170 = .ok (.getfield 366, 3) by decide +kernel) xw_626)),
  List.forall_mem_cons.mpr ⟨(xcm mi_36 ⟨⟨(by decide +kernel), (by decide +kernel), (by decide +kernel)⟩, (by decide), xw_1175, xw_126, Or.inl ⟨rfl, _, _, _, _, (show decode cX11_of 173 = .ok (.invokevirtual 369, 3) by decide +kernel), xw_1663, xw_1173, xw_1174, rfl⟩⟩),
  List.forall_mem_cons.mpr ⟨(xOK_pure (xs_goto (show decode cX11_of 176 = .ok (.goto 4, 3) by decide +kernel) (by decide))),
  List.forall_mem_cons.mpr ⟨(xOK_pure (xs_iconst (n := (-1)) (show decode cX11_of 179 = .ok (.iconst (-1), 1) by decide +kernel) (by decide))),
  List.forall_mem_cons.mpr ⟨(Or.inr (Or.inl ⟨rfl, (show decode cX11_of 180 = .ok (.ireturn, 1) by decide +kernel), rfl⟩)),
  List.forall_mem_cons.mpr ⟨(xOK_pure xs_none),
  List.forall_mem_cons.mpr ⟨(xOK_pure (xs_dup (show decode cX11_of 184 = .ok (.dup, 1) by decide +kernel))),
  List.forall_mem_cons.mpr ⟨(xOK_pure (xs_ldcSW (show decode cX11_of 185 = .ok (.ldc_w 372, 3) by decide +kernel) (List.mem_of_getElem? (i := 8) rfl))),
  List.forall_mem_cons.mpr ⟨(xOK_pure xs_none),
  List.forall_mem_cons.mpr ⟨(xOK_pure xs_none),
  (fun _ h => absurd h List.not_mem_nil)⟩⟩⟩⟩⟩⟩⟩⟩⟩⟩⟩⟩⟩
def pX11_of (ev : xEv) : List (Nat × xEn) := pX11_of_0 ev ++ (pX11_of_1 ev ++ (pX11_of_2 ev ++ (pX11_of_3 ev)))
theorem okpX11_of (ev : xEv) : ∀ q ∈ pX11_of ev, xEnOK ev xmi yX11_of.cls yX11_of.name cX11_of 4 (some .int) q := List.forall_mem_append.mpr ⟨okpX11_of_0 ev, List.forall_mem_append.mpr ⟨okpX11_of_1 ev, List.forall_mem_append.mpr ⟨okpX11_of_2 ev, okpX11_of_3 ev⟩⟩⟩
theorem omX11_of (ev : xEv) : xMethOK ev xmi yX11_of.cls yX11_of.name 154 (pX11_of ev) := xMethOK.of mi_154 (by decide +kernel) (okpX11_of ev)
def pX11_who_0 (ev : xEv) : List (Nat × xEn) := [(0, .inl (xop (xf_aload 0 1))), (1, .inl (xop (xf_iload 1 1))), (2, .inr (.inl (0, 176, 1, 11))), (5, .inl (xop (xf_if_ne 19))), (8, .inl (xop xf_none)), (11, .inl (xop xf_dup)), (12, .inl (xop (xf_push (.ref (ev.2.1 9)) 3))), (15, .inl (xop xf_none)), (18, .inl (xop xf_none)), (19, .inl (xop (xf_aload 0 1))), (20, .inl (xop (xf_getf 11 1))), (23, .inl (xop (xf_getf 10 6))), (26, .inl (xop (xf_iload 1 1))), (27, .inl (xop (xf_aald (ev.1 6)))), (28, .inl (xop (xf_astore 3 1))), (29, .inl (xop (xf_iload 2 1))), (30, .inl (xop (xf_sw (xtsw 0 [60, 65, 70, 75] 80)))), (60, .inl (xop (xf_aload 3 1))), (61, .inl (xop (xf_getf 5 0))), (64, .inr (.inr 1))]
set_option maxRecDepth 20000 in
theorem okpX11_who_0 (ev : xEv) : ∀ q ∈ pX11_who_0 ev, xEnOK ev xmi yX11_who.cls yX11_who.name cX11_who 4 (some .int) q :=
  List.forall_mem_cons.mpr ⟨(xOK_pure (xs_aload_n (k := 0) rfl (show decode cX11_who 0 = .ok (.aload_n 0, 1) by decide +kernel))),
  List.forall_mem_cons.mpr ⟨(xOK_pure (xs_iload_n (k := 1) rfl (show decode cX11_who 1 = .ok (.iload_n 1, 1) by decide +kernel))),
  List.forall_mem_cons.mpr ⟨(xcm mi_176 ⟨⟨(by decide +kernel), (by decide +kernel), (by decide +kernel)⟩, (by decide), xw_742, xw_118, Or.inl ⟨rfl, _, _, _, _, (show decode cX11_who 2 = .ok (.invokevirtual 197, 3) by decide +kernel), xw_739, xw_741, xw_3, rfl⟩⟩),
  List.forall_mem_cons.mpr ⟨(xOK_pure (xs_if_ne (show decode cX11_who 5 = .ok (.ifCond .ne 14, 3) by decide +kernel) (by decide))),
  List.forall_mem_cons.mpr ⟨(xOK_pure xs_none),
  List.forall_mem_cons.mpr ⟨(xOK_pure (xs_dup (show decode cX11_who 11 = .ok (.dup, 1) by decide +kernel))),
  List.forall_mem_cons.mpr ⟨(xOK_pure (xs_ldcSW (show decode cX11_who 12 = .ok (.ldc_w 374, 3) by decide +kernel) (List.mem_of_getElem? (i := 9) rfl))),
  List.forall_mem_cons.mpr ⟨(xOK_pure xs_none),
  List.forall_mem_cons.mpr ⟨(xOK_pure xs_none),
  List.forall_mem_cons.mpr ⟨(xOK_pure (xs_aload_n (k := 0) rfl (show decode cX11_who 19 = .ok (.aload_n 0, 1) by decide +kernel))),
  List.forall_mem_cons.mpr ⟨(xOK_pure (xs_getf xcl_11 (by decide) (show decode cX11_who 20 = .ok (.getfield 21, 3) by decide +kernel) xw_447)),
  List.forall_mem_cons.mpr ⟨(xOK_pure (xs_getf xcl_10 (by decide) (show decode cX11_who 23 = .ok (.getfield 188, 3) by decide +kernel) xw_316)),
  List.forall_mem_cons.mpr ⟨(xOK_pure (xs_iload_n (k := 1) rfl (show decode cX11_who 26 = .ok (.iload_n 1, 1) by decide +kernel))),
  List.forall_mem_cons.mpr ⟨(xOK_pure (xs_aald (t := 6) rfl (show decode cX11_who 27 = .ok (.aaload, 1) by decide +kernel))),
  List.forall_mem_cons.mpr ⟨(xOK_pure (xs_astore_n (k := 3) rfl (show decode cX11_who 28 = .ok (.astore_n 3, 1) by decide +kernel) (by decide))),
  List.forall_mem_cons.mpr ⟨(xOK_pure (xs_iload_n (k := 2) rfl (show decode cX11_who 29 = .ok (.iload_n 2, 1) by decide +kernel))),
  List.forall_mem_cons.mpr ⟨(xOK_pure (xs_tsw (show decode cX11_who 30 = .ok (.tableswitch 50 0 3 #[30, 35, 40, 45], 30) by decide +kernel) (by decide) (by decide) (by decide))),
  List.forall_mem_cons.mpr ⟨(xOK_pure (xs_aload_n (k := 3) rfl (show decode cX11_who 60 = .ok (.aload_n 3, 1) by decide +kernel))),
  List.forall_mem_cons.mpr ⟨(xOK_pure (xs_getf xcl_5 (by decide) (show decode cX11_who 61 = .ok (.getfield 376, 3) by decide +kernel) xw_714)),
  List.forall_mem_cons.mpr ⟨(Or.inr (Or.inl ⟨rfl, (show decode cX11_who 64 = .ok (.ireturn, 1) by decide +kernel), rfl⟩)),
  (fun _ h => absurd h List.not_mem_nil)⟩⟩⟩⟩⟩⟩⟩⟩⟩⟩⟩⟩⟩⟩⟩⟩⟩⟩⟩⟩
def pX11_who_1 (ev : xEv) : List (Nat × xEn) := [(65, .inl (xop (xf_aload 3 1))), (66, .inl (xop (xf_getf 5 1))), (69, .inr (.inr 1)), (70, .inl (xop (xf_aload 3 1))), (71, .inl (xop (xf_getf 5 2))), (74, .inr (.inr 1)), (75, .inl (xop (xf_aload 3 1))), (76, .inl (xop (xf_getf 5 3))), (79, .inr (.inr 1)), (80, .inl (xop xf_none)), (83, .inl (xop xf_dup)), (84, .inl (xop (xf_push (.ref (ev.2.1 8)) 3))), (87, .inl (xop xf_none)), (90, .inl (xop xf_none))]
set_option maxRecDepth 20000 in
theorem okpX11_who_1 (ev : xEv) : ∀ q ∈ pX11_who_1 ev, xEnOK ev xmi yX11_who.cls yX11_who.name cX11_who 4 (some .int) q :=
  List.forall_mem_cons.mpr ⟨(xOK_pure (xs_aload_n (k := 3) rfl (show decode cX11_who 65 = .ok (.aload_n 3, 1) by decide +kernel))),
  List.forall_mem_cons.mpr ⟨(xOK_pure (xs_getf xcl_5 (by decide) (show decode cX11_who 66 = .ok (.getfield 377, 3) by decide +kernel) xw_717)),
  List.forall_mem_cons.mpr ⟨(Or.inr (Or.inl ⟨rfl, (show decode cX11_who 69 = .ok (.ireturn, 1) by decide +kernel), rfl⟩)),
  List.forall_mem_cons.mpr ⟨(xOK_pure (xs_aload_n (k := 3) rfl (show decode cX11_who 70 = .ok (.aload_n 3, 1) by decide +kernel))),
  List.forall_mem_cons.mpr ⟨(xOK_pure (xs_getf xcl_5 (by decide) (show decode cX11_who 71 = .ok (.getfield 380, 3) by decide +kernel) xw_720)),
  List.forall_mem_cons.mpr ⟨(Or.inr (Or.inl ⟨rfl, (show decode cX11_who 74 = .ok (.ireturn, 1) by decide +kernel), rfl⟩)),
  List.forall_mem_cons.mpr ⟨(xOK_pure (xs_aload_n (k := 3) rfl (show decode cX11_who 75 = .ok (.aload_n 3, 1) by decide +kernel))),
  List.forall_mem_cons.mpr ⟨(xOK_pure (xs_getf xcl_5 (by decide) (show decode cX11_who 76 = .ok (.getfield 200, 3) by decide +kernel) xw_722)),
  List.forall_mem_cons.mpr ⟨(Or.inr (Or.inl ⟨rfl, (show decode cX11_who 79 = .ok (.ireturn, 1) by decide +kernel), rfl⟩)),
  List.forall_mem_cons.mpr ⟨(xOK_pure xs_none),
  List.forall_mem_cons.mpr ⟨(xOK_pure (xs_dup (show decode cX11_who 83 = .ok (.dup, 1) by decide +kernel))),
  List.forall_mem_cons.mpr ⟨(xOK_pure (xs_ldcSW (show decode cX11_who 84 = .ok (.ldc_w 372, 3) by decide +kernel) (List.mem_of_getElem? (i := 8) rfl))),
  List.forall_mem_cons.mpr ⟨(xOK_pure xs_none),
  List.forall_mem_cons.mpr ⟨(xOK_pure xs_none),
  (fun _ h => absurd h List.not_mem_nil)⟩⟩⟩⟩⟩⟩⟩⟩⟩⟩⟩⟩⟩⟩
def pX11_who (ev : xEv) : List (Nat × xEn) := pX11_who_0 ev ++ (pX11_who_1 ev)
theorem okpX11_who (ev : xEv) : ∀ q ∈ pX11_who ev, xEnOK ev xmi yX11_who.cls yX11_who.name cX11_who 4 (some .int) q := List.forall_mem_append.mpr ⟨okpX11_who_0 ev, okpX11_who_1 ev⟩
theorem omX11_who (ev : xEv) : xMethOK ev xmi yX11_who.cls yX11_who.name 155 (pX11_who ev) := xMethOK.of mi_155 (by decide +kernel) (okpX11_who ev)
def pX11_where_0 (ev : xEv) : List (Nat × xEn) := [(0, .inl (xop (xf_aload 0 1))), (1, .inl (xop (xf_iload 1 1))), (2, .inr (.inl (0, 177, 1, 11))), (5, .inl (xop (xf_if_ne 19))), (8, .inl (xop xf_none)), (11, .inl (xop xf_dup)), (12, .inl (xop (xf_push (.ref (ev.2.1 10)) 3))), (15, .inl (xop xf_none)), (18, .inl (xop xf_none)), (19, .inl (xop (xf_aload 0 1))), (20, .inl (xop (xf_getf 11 1))), (23, .inl (xop (xf_getf 10 8))), (26, .inl (xop (xf_iload 1 1))), (27, .inl (xop (xf_aald (ev.1 7)))), (28, .inl (xop (xf_astore 3 1))), (29, .inl (xop (xf_iload 2 1))), (30, .inl (xop (xf_sw (xtsw 0 [68, 73, 78, 83, 88, 105] 114)))), (68, .inl (xop (xf_aload 3 1))), (69, .inl (xop (xf_getf 0 5))), (72, .inr (.inr 1))]
set_option maxRecDepth 20000 in
theorem okpX11_where_0 (ev : xEv) : ∀ q ∈ pX11_where_0 ev, xEnOK ev xmi yX11_where.cls yX11_where.name cX11_where 4 (some .int) q :=
  List.forall_mem_cons.mpr ⟨(xOK_pure (xs_aload_n (k := 0) rfl (show decode cX11_where 0 = .ok (.aload_n 0, 1) by decide +kernel))),
  List.forall_mem_cons.mpr ⟨(xOK_pure (xs_iload_n (k := 1) rfl (show decode cX11_where 1 = .ok (.iload_n 1, 1) by decide +kernel))),
  List.forall_mem_cons.mpr ⟨(xcm mi_177 ⟨⟨(by decide +kernel), (by decide +kernel), (by decide +kernel)⟩, (by decide), xw_824, xw_118, Or.inl ⟨rfl, _, _, _, _, (show decode cX11_where 2 = .ok (.invokevirtual 213, 3) by decide +kernel), xw_821, xw_823, xw_4, rfl⟩⟩),
  List.forall_mem_cons.mpr ⟨(xOK_pure (xs_if_ne (show decode cX11_where 5 = .ok (.ifCond .ne 14, 3) by decide +kernel) (by decide))),
  List.forall_mem_cons.mpr ⟨(xOK_pure xs_none),
  List.forall_mem_cons.mpr ⟨(xOK_pure (xs_dup (show decode cX11_where 11 = .ok (.dup, 1) by decide +kernel))),
  List.forall_mem_cons.mpr ⟨(xOK_pure (xs_ldcSW (show decode cX11_where 12 = .ok (.ldc_w 383, 3) by decide +kernel) (List.mem_of_getElem? (i := 10) rfl))),
  List.forall_mem_cons.mpr ⟨(xOK_pure xs_none),
  List.forall_mem_cons.mpr ⟨(xOK_pure xs_none),
  List.forall_mem_cons.mpr ⟨(xOK_pure (xs_aload_n (k := 0) rfl (show decode cX11_where 19 = .ok (.aload_n 0, 1) by decide +kernel))),
  List.forall_mem_cons.mpr ⟨(xOK_pure (xs_getf xcl_11 (by decide) (show decode cX11_where 20 = .ok (.getfield 21, 3) by decide +kernel) xw_447)),
  List.forall_mem_cons.mpr ⟨(xOK_pure (xs_getf xcl_10 (by decide) (show decode cX11_where 23 = .ok (.getfield 216, 3) by decide +kernel) xw_320)),
  List.forall_mem_cons.mpr ⟨(xOK_pure (xs_iload_n (k := 1) rfl (show decode cX11_where 26 = .ok (.iload_n 1, 1) by decide +kernel))),
  List.forall_mem_cons.mpr ⟨(xOK_pure (xs_aald (t := 7) rfl (show decode cX11_where 27 = .ok (.aaload, 1) by decide +kernel))),
  List.forall_mem_cons.mpr ⟨(xOK_pure (xs_astore_n (k := 3) rfl (show decode cX11_where 28 = .ok (.astore_n 3, 1) by decide +kernel) (by decide))),
  List.forall_mem_cons.mpr ⟨(xOK_pure (xs_iload_n (k := 2) rfl (show decode cX11_where 29 = .ok (.iload_n 2, 1) by decide +kernel))),
  List.forall_mem_cons.mpr ⟨(xOK_pure (xs_tsw (show decode cX11_where 30 = .ok (.tableswitch 84 0 5 #[38, 43, 48, 53, 58, 75], 38) by decide +kernel) (by decide) (by decide) (by decide))),
  List.forall_mem_cons.mpr ⟨(xOK_pure (xs_aload_n (k := 3) rfl (show decode cX11_where 68 = .ok (.aload_n 3, 1) by decide +kernel))),
  List.forall_mem_cons.mpr ⟨(xOK_pure (xs_getf xcl_0 (by decide) (show decode cX11_where 69 = .ok (.getfield 220, 3) by decide +kernel) xw_765)),
  List.forall_mem_cons.mpr ⟨(Or.inr (Or.inl ⟨rfl, (show decode cX11_where 72 = .ok (.ireturn, 1) by decide +kernel), rfl⟩)),
  (fun _ h => absurd h List.not_mem_nil)⟩⟩⟩⟩⟩⟩⟩⟩⟩⟩⟩⟩⟩⟩⟩⟩⟩⟩⟩⟩
def pX11_where_1 (ev : xEv) : List (Nat × xEn) := [(73, .inl (xop (xf_aload 3 1))), (74, .inl (xop (xf_getf 0 6))), (77, .inr (.inr 1)), (78, .inl (xop (xf_aload 3 1))), (79, .inl (xop (xf_getf 0 7))), (82, .inr (.inr 1)), (83, .inl (xop (xf_aload 3 1))), (84, .inl (xop (xf_getf 0 8))), (87, .inr (.inr 1)), (88, .inl (xop (xf_aload 3 1))), (89, .inl (xop (xf_getf 0 8))), (92, .inl (xop (xf_push (.int (-1)) 1))), (93, .inl (xop (xf_icmp_ne 100))), (96, .inl (xop (xf_push (.int (-1)) 1))), (97, .inl (xop (xf_goto 104))), (100, .inl (xop (xf_aload 3 1))), (101, .inr (.inl (0, 2, 0, 0))), (104, .inr (.inr 1)), (105, .inl (xop (xf_aload 0 1))), (106, .inl (xop (xf_getf 11 1)))]
set_option maxRecDepth 20000 in
theorem okpX11_where_1 (ev : xEv) : ∀ q ∈ pX11_where_1 ev, xEnOK ev xmi yX11_where.cls yX11_where.name cX11_where 4 (some .int) q :=
  List.forall_mem_cons.mpr ⟨(xOK_pure (xs_aload_n (k := 3) rfl (show decode cX11_where 73 = .ok (.aload_n 3, 1) by decide +kernel))),
  List.forall_mem_cons.mpr ⟨(xOK_pure (xs_getf xcl_0 (by decide) (show decode cX11_where 74 = .ok (.getfield 385, 3) by decide +kernel) xw_768)),
  List.forall_mem_cons.mpr ⟨(Or.inr (Or.inl ⟨rfl, (show decode cX11_where 77 = .ok (.ireturn, 1) by decide +kernel), rfl⟩)),
  List.forall_mem_cons.mpr ⟨(xOK_pure (xs_aload_n (k := 3) rfl (show decode cX11_where 78 = .ok (.aload_n 3, 1) by decide +kernel))),
  List.forall_mem_cons.mpr ⟨(xOK_pure (xs_getf xcl_0 (by decide) (show decode cX11_where 79 = .ok (.getfield 237, 3) by decide +kernel) xw_771)),
  List.forall_mem_cons.mpr ⟨(Or.inr (Or.inl ⟨rfl, (show decode cX11_where 82 = .ok (.ireturn, 1) by decide +kernel), rfl⟩)),
  List.forall_mem_cons.mpr ⟨(xOK_pure (xs_aload_n (k := 3) rfl (show decode cX11_where 83 = .ok (.aload_n 3, 1) by decide +kernel))),
  List.forall_mem_cons.mpr ⟨(xOK_pure (xs_getf xcl_0 (by decide) (show decode cX11_where 84 = .ok (.getfield 386, 3) by decide +kernel) xw_774)),
  List.forall_mem_cons.mpr ⟨(Or.inr (Or.inl ⟨rfl, (show decode cX11_where 87 = .ok (.ireturn, 1) by decide +kernel), rfl⟩)),
  List.forall_mem_cons.mpr ⟨(xOK_pure (xs_aload_n (k := 3) rfl (show decode cX11_where 88 = .ok (.aload_n 3, 1) by decide +kernel))),
  List.forall_mem_cons.mpr ⟨(xOK_pure (xs_getf xcl_0 (by decide) (show decode cX11_where 89 = .ok (.getfield 386, 3) by decide +kernel) xw_774)),
  List.forall_mem_cons.mpr ⟨(xOK_pure (xs_iconst (n := (-1)) (show decode cX11_where 92 = .ok (.iconst (-1), 1) by decide +kernel) (by decide))),
  List.forall_mem_cons.mpr ⟨(xOK_pure (xs_icmp_ne (show decode cX11_where 93 = .ok (.if_icmp .ne 7, 3) by decide +kernel) (by decide))),
  List.forall_mem_cons.mpr ⟨(xOK_pure (xs_iconst (n := (-1)) (show decode cX11_where 96 = .ok (.iconst (-1), 1) by decide +kernel) (by decide))),
  List.forall_mem_cons.mpr ⟨(xOK_pure (xs_goto (show decode cX11_where 97 = .ok (.goto 7, 3) by decide +kernel) (by decide))),
  List.forall_mem_cons.mpr ⟨(xOK_pure (xs_aload_n (k := 3) rfl (show decode cX11_where 100 = .ok (.aload_n 3, 1) by decide +kernel))),
  List.forall_mem_cons.mpr ⟨(xcm mi_2 ⟨⟨(by decide +kernel), (by decide +kernel), (by decide +kernel)⟩, (by decide), xw_1315, xw_134, Or.inl ⟨rfl, _, _, _, _, (show decode cX11_where 101 = .ok (.invokevirtual 389, 3) by decide +kernel), xw_1681, xw_1313, xw_1314, rfl⟩⟩),
  List.forall_mem_cons.mpr ⟨(Or.inr (Or.inl ⟨rfl, (show decode cX11_where 104 = .ok (.ireturn, 1) by decide +kernel), rfl⟩)),
  List.forall_mem_cons.mpr ⟨(xOK_pure (xs_aload_n (k := 0) rfl (show decode cX11_where 105 = .ok (.aload_n 0, 1) by decide +kernel))),
  List.forall_mem_cons.mpr ⟨(xOK_pure (xs_getf xcl_11 (by decide) (show decode cX11_where 106 = .ok (.getfield 21, 3) by decide +kernel) xw_447)),
  (fun _ h => absurd h List.not_mem_nil)⟩⟩⟩⟩⟩⟩⟩⟩⟩⟩⟩⟩⟩⟩⟩⟩⟩⟩⟩⟩
def pX11_where_2 (ev : xEv) : List (Nat × xEn) := [(109, .inl (xop (xf_aload 3 1))), (110, .inr (.inl (0, 121, 1, 10))), (113, .inr (.inr 1)), (114, .inl (xop xf_none)), (117, .inl (xop xf_dup)), (118, .inl (xop (xf_push (.ref (ev.2.1 8)) 3))), (121, .inl (xop xf_none)), (124, .inl (xop xf_none))]
set_option maxRecDepth 20000 in
theorem okpX11_where_2 (ev : xEv) : ∀ q ∈ pX11_where_2 ev, xEnOK ev xmi yX11_where.cls yX11_where.name cX11_where 4 (some .int) q :=
  List.forall_mem_cons.mpr ⟨(xOK_pure (xs_aload_n (k := 3) rfl (show decode cX11_where 109 = .ok (.aload_n 3, 1) by decide +kernel))),
  List.forall_mem_cons.mpr ⟨(xcm mi_121 ⟨⟨(by decide +kernel), (by decide +kernel), (by decide +kernel)⟩, (by decide), xw_1350, xw_120, Or.inl ⟨rfl, _, _, _, _, (show decode cX11_where 110 = .ok (.invokevirtual 392, 3) by decide +kernel), xw_1682, xw_1348, xw_1349, rfl⟩⟩),
  List.forall_mem_cons.mpr ⟨(Or.inr (Or.inl ⟨rfl, (show decode cX11_where 113 = .ok (.ireturn, 1) by decide +kernel), rfl⟩)),
  List.forall_mem_cons.mpr ⟨(xOK_pure xs_none),
  List.forall_mem_cons.mpr ⟨(xOK_pure (xs_dup (show decode cX11_where 117 = .ok (.dup, 1) by decide +kernel))),
  List.forall_mem_cons.mpr ⟨(xOK_pure (xs_ldcSW (show decode cX11_where 118 = .ok (.ldc_w 372, 3) by decide +kernel) (List.mem_of_getElem? (i := 8) rfl))),
  List.forall_mem_cons.mpr ⟨(xOK_pure xs_none),
  List.forall_mem_cons.mpr ⟨(xOK_pure xs_none),
  (fun _ h => absurd h List.not_mem_nil)⟩⟩⟩⟩⟩⟩⟩⟩
def pX11_where (ev : xEv) : List (Nat × xEn) := pX11_where_0 ev ++ (pX11_where_1 ev ++ (pX11_where_2 ev))
theorem okpX11_where (ev : xEv) : ∀ q ∈ pX11_where ev, xEnOK ev xmi yX11_where.cls yX11_where.name cX11_where 4 (some .int) q := List.forall_mem_append.mpr ⟨okpX11_where_0 ev, List.forall_mem_append.mpr ⟨okpX11_where_1 ev, okpX11_where_2 ev⟩⟩
theorem omX11_where (ev : xEv) : xMethOK ev xmi yX11_where.cls yX11_where.name 156 (pX11_where ev) := xMethOK.of mi_156 (by decide +kernel) (okpX11_where ev)
def pX11_flown_0 (ev : xEv) : List (Nat × xEn) := [(0, .inl (xop (xf_aload 0 1))), (1, .inl (xop (xf_iload 1 1))), (2, .inr (.inl (0, 178, 1, 11))), (5, .inl (xop (xf_if_ne 10))), (8, .inl (xop (xf_push (.int (-1)) 1))), (9, .inr (.inr 1)), (10, .inl (xop (xf_aload 0 1))), (11, .inl (xop (xf_getf 11 1))), (14, .inl (xop (xf_getf 10 11))), (17, .inl (xop (xf_iload 1 1))), (18, .inl (xop (xf_aald (ev.1 8)))), (19, .inl (xop (xf_astore 3 1))), (20, .inl (xop (xf_iload 2 1))), (21, .inl (xop (xf_sw (xtsw 0 [48, 53, 58] 63)))), (48, .inl (xop (xf_aload 3 1))), (49, .inl (xop (xf_getf 1 4))), (52, .inr (.inr 1)), (53, .inl (xop (xf_aload 3 1))), (54, .inl (xop (xf_getf 1 5))), (57, .inr (.inr 1))]
set_option maxRecDepth 20000 in
theorem okpX11_flown_0 (ev : xEv) : ∀ q ∈ pX11_flown_0 ev, xEnOK ev xmi yX11_flown.cls yX11_flown.name cX11_flown 4 (some .int) q :=
  List.forall_mem_cons.mpr ⟨(xOK_pure (xs_aload_n (k := 0) rfl (show decode cX11_flown 0 = .ok (.aload_n 0, 1) by decide +kernel))),
  List.forall_mem_cons.mpr ⟨(xOK_pure (xs_iload_n (k := 1) rfl (show decode cX11_flown 1 = .ok (.iload_n 1, 1) by decide +kernel))),
  List.forall_mem_cons.mpr ⟨(xcm mi_178 ⟨⟨(by decide +kernel), (by decide +kernel), (by decide +kernel)⟩, (by decide), xw_1102, xw_118, Or.inl ⟨rfl, _, _, _, _, (show decode cX11_flown 2 = .ok (.invokevirtual 294, 3) by decide +kernel), xw_1099, xw_1101, xw_24, rfl⟩⟩),
  List.forall_mem_cons.mpr ⟨(xOK_pure (xs_if_ne (show decode cX11_flown 5 = .ok (.ifCond .ne 5, 3) by decide +kernel) (by decide))),
  List.forall_mem_cons.mpr ⟨(xOK_pure (xs_iconst (n := (-1)) (show decode cX11_flown 8 = .ok (.iconst (-1), 1) by decide +kernel) (by decide))),
  List.forall_mem_cons.mpr ⟨(Or.inr (Or.inl ⟨rfl, (show decode cX11_flown 9 = .ok (.ireturn, 1) by decide +kernel), rfl⟩)),
  List.forall_mem_cons.mpr ⟨(xOK_pure (xs_aload_n (k := 0) rfl (show decode cX11_flown 10 = .ok (.aload_n 0, 1) by decide +kernel))),
  List.forall_mem_cons.mpr ⟨(xOK_pure (xs_getf xcl_11 (by decide) (show decode cX11_flown 11 = .ok (.getfield 21, 3) by decide +kernel) xw_447)),
  List.forall_mem_cons.mpr ⟨(xOK_pure (xs_getf xcl_10 (by decide) (show decode cX11_flown 14 = .ok (.getfield 285, 3) by decide +kernel) xw_325)),
  List.forall_mem_cons.mpr ⟨(xOK_pure (xs_iload_n (k := 1) rfl (show decode cX11_flown 17 = .ok (.iload_n 1, 1) by decide +kernel))),
  List.forall_mem_cons.mpr ⟨(xOK_pure (xs_aald (t := 8) rfl (show decode cX11_flown 18 = .ok (.aaload, 1) by decide +kernel))),
  List.forall_mem_cons.mpr ⟨(xOK_pure (xs_astore_n (k := 3) rfl (show decode cX11_flown 19 = .ok (.astore_n 3, 1) by decide +kernel) (by decide))),
  List.forall_mem_cons.mpr ⟨(xOK_pure (xs_iload_n (k := 2) rfl (show decode cX11_flown 20 = .ok (.iload_n 2, 1) by decide +kernel))),
  List.forall_mem_cons.mpr ⟨(xOK_pure (xs_tsw (show decode cX11_flown 21 = .ok (.tableswitch 42 0 2 #[27, 32, 37], 27) by decide +kernel) (by decide) (by decide) (by decide))),
  List.forall_mem_cons.mpr ⟨(xOK_pure (xs_aload_n (k := 3) rfl (show decode cX11_flown 48 = .ok (.aload_n 3, 1) by decide +kernel))),
  List.forall_mem_cons.mpr ⟨(xOK_pure (xs_getf xcl_1 (by decide) (show decode cX11_flown 49 = .ok (.getfield 395, 3) by decide +kernel) xw_1058)),
  List.forall_mem_cons.mpr ⟨(Or.inr (Or.inl ⟨rfl, (show decode cX11_flown 52 = .ok (.ireturn, 1) by decide +kernel), rfl⟩)),
  List.forall_mem_cons.mpr ⟨(xOK_pure (xs_aload_n (k := 3) rfl (show decode cX11_flown 53 = .ok (.aload_n 3, 1) by decide +kernel))),
  List.forall_mem_cons.mpr ⟨(xOK_pure (xs_getf xcl_1 (by decide) (show decode cX11_flown 54 = .ok (.getfield 398, 3) by decide +kernel) xw_1060)),
  List.forall_mem_cons.mpr ⟨(Or.inr (Or.inl ⟨rfl, (show decode cX11_flown 57 = .ok (.ireturn, 1) by decide +kernel), rfl⟩)),
  (fun _ h => absurd h List.not_mem_nil)⟩⟩⟩⟩⟩⟩⟩⟩⟩⟩⟩⟩⟩⟩⟩⟩⟩⟩⟩⟩
def pX11_flown_1 (ev : xEv) : List (Nat × xEn) := [(58, .inl (xop (xf_aload 3 1))), (59, .inl (xop (xf_getf 1 6))), (62, .inr (.inr 1)), (63, .inl (xop (xf_push (.int (-1)) 1))), (64, .inr (.inr 1))]
set_option maxRecDepth 20000 in
theorem okpX11_flown_1 (ev : xEv) : ∀ q ∈ pX11_flown_1 ev, xEnOK ev xmi yX11_flown.cls yX11_flown.name cX11_flown 4 (some .int) q :=
  List.forall_mem_cons.mpr ⟨(xOK_pure (xs_aload_n (k := 3) rfl (show decode cX11_flown 58 = .ok (.aload_n 3, 1) by decide +kernel))),
  List.forall_mem_cons.mpr ⟨(xOK_pure (xs_getf xcl_1 (by decide) (show decode cX11_flown 59 = .ok (.getfield 401, 3) by decide +kernel) xw_1062)),
  List.forall_mem_cons.mpr ⟨(Or.inr (Or.inl ⟨rfl, (show decode cX11_flown 62 = .ok (.ireturn, 1) by decide +kernel), rfl⟩)),
  List.forall_mem_cons.mpr ⟨(xOK_pure (xs_iconst (n := (-1)) (show decode cX11_flown 63 = .ok (.iconst (-1), 1) by decide +kernel) (by decide))),
  List.forall_mem_cons.mpr ⟨(Or.inr (Or.inl ⟨rfl, (show decode cX11_flown 64 = .ok (.ireturn, 1) by decide +kernel), rfl⟩)),
  (fun _ h => absurd h List.not_mem_nil)⟩⟩⟩⟩⟩
def pX11_flown (ev : xEv) : List (Nat × xEn) := pX11_flown_0 ev ++ (pX11_flown_1 ev)
theorem okpX11_flown (ev : xEv) : ∀ q ∈ pX11_flown ev, xEnOK ev xmi yX11_flown.cls yX11_flown.name cX11_flown 4 (some .int) q := List.forall_mem_append.mpr ⟨okpX11_flown_0 ev, okpX11_flown_1 ev⟩
theorem omX11_flown (ev : xEv) : xMethOK ev xmi yX11_flown.cls yX11_flown.name 157 (pX11_flown ev) := xMethOK.of mi_157 (by decide +kernel) (okpX11_flown ev)
def pX11_lead_0 (ev : xEv) : List (Nat × xEn) := [(0, .inl (xop (xf_aload 0 1))), (1, .inl (xop (xf_iload 1 1))), (2, .inr (.inl (0, 177, 1, 11))), (5, .inl (xop (xf_if_ne 10))), (8, .inl (xop (xf_push (.int (-1)) 1))), (9, .inr (.inr 1)), (10, .inl (xop (xf_aload 0 1))), (11, .inl (xop (xf_getf 11 1))), (14, .inl (xop (xf_getf 10 8))), (17, .inl (xop (xf_iload 1 1))), (18, .inl (xop (xf_aald (ev.1 7)))), (19, .inl (xop (xf_astore 2 1))), (20, .inl (xop (xf_aload 0 1))), (21, .inl (xop (xf_push (.int 2) 1))), (22, .inl (xop (xf_aload 2 1))), (23, .inl (xop (xf_getf 0 10))), (26, .inl (xop (xf_bin (fun x y => x * y)))), (27, .inl (xo_putf 11 8 .int)), (30, .inl (xop (xf_aload 2 1))), (31, .inl (xop (xf_getf 0 9)))]
set_option maxRecDepth 20000 in
theorem okpX11_lead_0 (ev : xEv) : ∀ q ∈ pX11_lead_0 ev, xEnOK ev xmi yX11_lead.cls yX11_lead.name cX11_lead 3 (some .int) q :=
  List.forall_mem_cons.mpr ⟨(xOK_pure (xs_aload_n (k := 0) rfl (show decode cX11_lead 0 = .ok (.aload_n 0, 1) by decide +kernel))),
  List.forall_mem_cons.mpr ⟨(xOK_pure (xs_iload_n (k := 1) rfl (show decode cX11_lead 1 = .ok (.iload_n 1, 1) by decide +kernel))),
  List.forall_mem_cons.mpr ⟨(xcm mi_177 ⟨⟨(by decide +kernel), (by decide +kernel), (by decide +kernel)⟩, (by decide), xw_824, xw_118, Or.inl ⟨rfl, _, _, _, _, (show decode cX11_lead 2 = .ok (.invokevirtual 213, 3) by decide +kernel), xw_821, xw_823, xw_4, rfl⟩⟩),
  List.forall_mem_cons.mpr ⟨(xOK_pure (xs_if_ne (show decode cX11_lead 5 = .ok (.ifCond .ne 5, 3) by decide +kernel) (by decide))),
  List.forall_mem_cons.mpr ⟨(xOK_pure (xs_iconst (n := (-1)) (show decode cX11_lead 8 = .ok (.iconst (-1), 1) by decide +kernel) (by decide))),
  List.forall_mem_cons.mpr ⟨(Or.inr (Or.inl ⟨rfl, (show decode cX11_lead 9 = .ok (.ireturn, 1) by decide +kernel), rfl⟩)),
  List.forall_mem_cons.mpr ⟨(xOK_pure (xs_aload_n (k := 0) rfl (show decode cX11_lead 10 = .ok (.aload_n 0, 1) by decide +kernel))),
  List.forall_mem_cons.mpr ⟨(xOK_pure (xs_getf xcl_11 (by decide) (show decode cX11_lead 11 = .ok (.getfield 21, 3) by decide +kernel) xw_447)),
  List.forall_mem_cons.mpr ⟨(xOK_pure (xs_getf xcl_10 (by decide) (show decode cX11_lead 14 = .ok (.getfield 216, 3) by decide +kernel) xw_320)),
  List.forall_mem_cons.mpr ⟨(xOK_pure (xs_iload_n (k := 1) rfl (show decode cX11_lead 17 = .ok (.iload_n 1, 1) by decide +kernel))),
  List.forall_mem_cons.mpr ⟨(xOK_pure (xs_aald (t := 7) rfl (show decode cX11_lead 18 = .ok (.aaload, 1) by decide +kernel))),
  List.forall_mem_cons.mpr ⟨(xOK_pure (xs_astore_n (k := 2) rfl (show decode cX11_lead 19 = .ok (.astore_n 2, 1) by decide +kernel) (by decide))),
  List.forall_mem_cons.mpr ⟨(xOK_pure (xs_aload_n (k := 0) rfl (show decode cX11_lead 20 = .ok (.aload_n 0, 1) by decide +kernel))),
  List.forall_mem_cons.mpr ⟨(xOK_pure (xs_iconst (n := 2) (show decode cX11_lead 21 = .ok (.iconst 2, 1) by decide +kernel) (by decide))),
  List.forall_mem_cons.mpr ⟨(xOK_pure (xs_aload_n (k := 2) rfl (show decode cX11_lead 22 = .ok (.aload_n 2, 1) by decide +kernel))),
  List.forall_mem_cons.mpr ⟨(xOK_pure (xs_getf xcl_0 (by decide) (show decode cX11_lead 23 = .ok (.getfield 404, 3) by decide +kernel) xw_778)),
  List.forall_mem_cons.mpr ⟨(xOK_pure (xs_imul (show decode cX11_lead 26 = .ok (.imul, 1) by decide +kernel))),
  List.forall_mem_cons.mpr ⟨(xs_putf (k := 8) xcl_11 (by decide) rfl (show decode cX11_lead 27 = .ok (.putfield 327, 3) by decide +kernel) xw_454),
  List.forall_mem_cons.mpr ⟨(xOK_pure (xs_aload_n (k := 2) rfl (show decode cX11_lead 30 = .ok (.aload_n 2, 1) by decide +kernel))),
  List.forall_mem_cons.mpr ⟨(xOK_pure (xs_getf xcl_0 (by decide) (show decode cX11_lead 31 = .ok (.getfield 407, 3) by decide +kernel) xw_776)),
  (fun _ h => absurd h List.not_mem_nil)⟩⟩⟩⟩⟩⟩⟩⟩⟩⟩⟩⟩⟩⟩⟩⟩⟩⟩⟩⟩
def pX11_lead_1 (ev : xEv) : List (Nat × xEn) := [(34, .inl (xop (xf_push (.int 0) 1))), (35, .inl (xop (xf_aload 0 1))), (36, .inl (xop (xf_getf 11 7))), (39, .inl (xop (xf_push (.int 0) 1))), (40, .inl (xop (xf_aload 0 1))), (41, .inl (xop (xf_getf 11 8))), (44, .inl (xo_copy (ev.1 0))), (47, .inl (xop (xf_aload 2 1))), (48, .inl (xop (xf_getf 0 10))), (51, .inr (.inr 1))]
set_option maxRecDepth 20000 in
theorem okpX11_lead_1 (ev : xEv) : ∀ q ∈ pX11_lead_1 ev, xEnOK ev xmi yX11_lead.cls yX11_lead.name cX11_lead 3 (some .int) q :=
  List.forall_mem_cons.mpr ⟨(xOK_pure (xs_iconst (n := 0) (show decode cX11_lead 34 = .ok (.iconst 0, 1) by decide +kernel) (by decide))),
  List.forall_mem_cons.mpr ⟨(xOK_pure (xs_aload_n (k := 0) rfl (show decode cX11_lead 35 = .ok (.aload_n 0, 1) by decide +kernel))),
  List.forall_mem_cons.mpr ⟨(xOK_pure (xs_getf xcl_11 (by decide) (show decode cX11_lead 36 = .ok (.getfield 49, 3) by decide +kernel) xw_453)),
  List.forall_mem_cons.mpr ⟨(xOK_pure (xs_iconst (n := 0) (show decode cX11_lead 39 = .ok (.iconst 0, 1) by decide +kernel) (by decide))),
  List.forall_mem_cons.mpr ⟨(xOK_pure (xs_aload_n (k := 0) rfl (show decode cX11_lead 40 = .ok (.aload_n 0, 1) by decide +kernel))),
  List.forall_mem_cons.mpr ⟨(xOK_pure (xs_getf xcl_11 (by decide) (show decode cX11_lead 41 = .ok (.getfield 327, 3) by decide +kernel) xw_454)),
  List.forall_mem_cons.mpr ⟨(xs_copy (show decode cX11_lead 44 = .ok (.invokestatic 410, 3) by decide +kernel) xw_1329 xw_1035 xw_1034 xw_140),
  List.forall_mem_cons.mpr ⟨(xOK_pure (xs_aload_n (k := 2) rfl (show decode cX11_lead 47 = .ok (.aload_n 2, 1) by decide +kernel))),
  List.forall_mem_cons.mpr ⟨(xOK_pure (xs_getf xcl_0 (by decide) (show decode cX11_lead 48 = .ok (.getfield 404, 3) by decide +kernel) xw_778)),
  List.forall_mem_cons.mpr ⟨(Or.inr (Or.inl ⟨rfl, (show decode cX11_lead 51 = .ok (.ireturn, 1) by decide +kernel), rfl⟩)),
  (fun _ h => absurd h List.not_mem_nil)⟩⟩⟩⟩⟩⟩⟩⟩⟩⟩
def pX11_lead (ev : xEv) : List (Nat × xEn) := pX11_lead_0 ev ++ (pX11_lead_1 ev)
theorem okpX11_lead (ev : xEv) : ∀ q ∈ pX11_lead ev, xEnOK ev xmi yX11_lead.cls yX11_lead.name cX11_lead 3 (some .int) q := List.forall_mem_append.mpr ⟨okpX11_lead_0 ev, okpX11_lead_1 ev⟩
theorem omX11_lead (ev : xEv) : xMethOK ev xmi yX11_lead.cls yX11_lead.name 158 (pX11_lead ev) := xMethOK.of mi_158 (by decide +kernel) (okpX11_lead ev)
def pX11_judge_0 (ev : xEv) : List (Nat × xEn) := [(0, .inl (xop (xf_iload 1 1))), (1, .inl (xop (xf_push (.int 0) 1))), (2, .inl (xop (xf_aload 0 1))), (3, .inl (xop (xf_getf 11 1))), (6, .inl (xop (xf_getf 10 3))), (9, .inl (xop (xf_getf 8 0))), (12, .inl (xop (xf_push (.int 1) 1))), (13, .inl (xop (xf_bin (fun x y => x - y)))), (14, .inr (.inl (1, 183, 3, 11))), (17, .inl (xop (xf_if_ne 22))), (20, .inl (xop (xf_push (.int (-1)) 1))), (21, .inr (.inr 1)), (22, .inl (xop (xf_push (.int 0) 1))), (23, .inl (xop (xf_istore 2 1))), (24, .inl (xop (xf_push (.int 0) 1))), (25, .inl (xop (xf_istore 3 1))), (26, .inl (xop (xf_iload 3 1))), (27, .inl (xop (xf_aload 0 1))), (28, .inl (xop (xf_getf 11 1))), (31, .inl (xop (xf_getf 10 9)))]
set_option maxRecDepth 20000 in
theorem okpX11_judge_0 (ev : xEv) : ∀ q ∈ pX11_judge_0 ev, xEnOK ev xmi yX11_judge.cls yX11_judge.name cX11_judge 4 (some .int) q :=
  List.forall_mem_cons.mpr ⟨(xOK_pure (xs_iload_n (k := 1) rfl (show decode cX11_judge 0 = .ok (.iload_n 1, 1) by decide +kernel))),
  List.forall_mem_cons.mpr ⟨(xOK_pure (xs_iconst (n := 0) (show decode cX11_judge 1 = .ok (.iconst 0, 1) by decide +kernel) (by decide))),
  List.forall_mem_cons.mpr ⟨(xOK_pure (xs_aload_n (k := 0) rfl (show decode cX11_judge 2 = .ok (.aload_n 0, 1) by decide +kernel))),
  List.forall_mem_cons.mpr ⟨(xOK_pure (xs_getf xcl_11 (by decide) (show decode cX11_judge 3 = .ok (.getfield 21, 3) by decide +kernel) xw_447)),
  List.forall_mem_cons.mpr ⟨(xOK_pure (xs_getf xcl_10 (by decide) (show decode cX11_judge 6 = .ok (.getfield 259, 3) by decide +kernel) xw_308)),
  List.forall_mem_cons.mpr ⟨(xOK_pure (xs_getf xcl_8 (by decide) (show decode cX11_judge 9 = .ok (.getfield 416, 3) by decide +kernel) xw_267)),
  List.forall_mem_cons.mpr ⟨(xOK_pure (xs_iconst (n := 1) (show decode cX11_judge 12 = .ok (.iconst 1, 1) by decide +kernel) (by decide))),
  List.forall_mem_cons.mpr ⟨(xOK_pure (xs_isub (show decode cX11_judge 13 = .ok (.isub, 1) by decide +kernel))),
  List.forall_mem_cons.mpr ⟨(xcm mi_183 ⟨⟨(by decide +kernel), (by decide +kernel), (by decide +kernel)⟩, (by decide), xw_480, xw_118, Or.inr (Or.inl ⟨rfl, _, (show decode cX11_judge 14 = .ok (.invokestatic 52, 3) by decide +kernel), xw_478, xw_479⟩)⟩),
  List.forall_mem_cons.mpr ⟨(xOK_pure (xs_if_ne (show decode cX11_judge 17 = .ok (.ifCond .ne 5, 3) by decide +kernel) (by decide))),
  List.forall_mem_cons.mpr ⟨(xOK_pure (xs_iconst (n := (-1)) (show decode cX11_judge 20 = .ok (.iconst (-1), 1) by decide +kernel) (by decide))),
  List.forall_mem_cons.mpr ⟨(Or.inr (Or.inl ⟨rfl, (show decode cX11_judge 21 = .ok (.ireturn, 1) by decide +kernel), rfl⟩)),
  List.forall_mem_cons.mpr ⟨(xOK_pure (xs_iconst (n := 0) (show decode cX11_judge 22 = .ok (.iconst 0, 1) by decide +kernel) (by decide))),
  List.forall_mem_cons.mpr ⟨(xOK_pure (xs_istore_n (k := 2) rfl (show decode cX11_judge 23 = .ok (.istore_n 2, 1) by decide +kernel) (by decide))),
  List.forall_mem_cons.mpr ⟨(xOK_pure (xs_iconst (n := 0) (show decode cX11_judge 24 = .ok (.iconst 0, 1) by decide +kernel) (by decide))),
  List.forall_mem_cons.mpr ⟨(xOK_pure (xs_istore_n (k := 3) rfl (show decode cX11_judge 25 = .ok (.istore_n 3, 1) by decide +kernel) (by decide))),
  List.forall_mem_cons.mpr ⟨(xOK_pure (xs_iload_n (k := 3) rfl (show decode cX11_judge 26 = .ok (.iload_n 3, 1) by decide +kernel))),
  List.forall_mem_cons.mpr ⟨(xOK_pure (xs_aload_n (k := 0) rfl (show decode cX11_judge 27 = .ok (.aload_n 0, 1) by decide +kernel))),
  List.forall_mem_cons.mpr ⟨(xOK_pure (xs_getf xcl_11 (by decide) (show decode cX11_judge 28 = .ok (.getfield 21, 3) by decide +kernel) xw_447)),
  List.forall_mem_cons.mpr ⟨(xOK_pure (xs_getf xcl_10 (by decide) (show decode cX11_judge 31 = .ok (.getfield 203, 3) by decide +kernel) xw_322)),
  (fun _ h => absurd h List.not_mem_nil)⟩⟩⟩⟩⟩⟩⟩⟩⟩⟩⟩⟩⟩⟩⟩⟩⟩⟩⟩⟩
def pX11_judge_1 (ev : xEv) : List (Nat × xEn) := [(34, .inl (xop (xf_icmp_ge 63))), (37, .inl (xop (xf_iload 2 1))), (38, .inl (xop (xf_aload 0 1))), (39, .inl (xop (xf_getf 11 1))), (42, .inl (xop (xf_iload 1 1))), (43, .inl (xop (xf_aload 0 1))), (44, .inl (xop (xf_getf 11 1))), (47, .inl (xop (xf_getf 10 8))), (50, .inl (xop (xf_iload 3 1))), (51, .inl (xop (xf_aald (ev.1 7)))), (52, .inr (.inl (0, 122, 2, 10))), (55, .inl (xop (xf_bin (fun x y => x + y)))), (56, .inl (xop (xf_istore 2 1))), (57, .inl (xop (xf_iinc 3 1))), (60, .inl (xop (xf_goto 26))), (63, .inl (xop (xf_iload 2 1))), (64, .inr (.inr 1))]
set_option maxRecDepth 20000 in
theorem okpX11_judge_1 (ev : xEv) : ∀ q ∈ pX11_judge_1 ev, xEnOK ev xmi yX11_judge.cls yX11_judge.name cX11_judge 4 (some .int) q :=
  List.forall_mem_cons.mpr ⟨(xOK_pure (xs_icmp_ge (show decode cX11_judge 34 = .ok (.if_icmp .ge 29, 3) by decide +kernel) (by decide))),
  List.forall_mem_cons.mpr ⟨(xOK_pure (xs_iload_n (k := 2) rfl (show decode cX11_judge 37 = .ok (.iload_n 2, 1) by decide +kernel))),
  List.forall_mem_cons.mpr ⟨(xOK_pure (xs_aload_n (k := 0) rfl (show decode cX11_judge 38 = .ok (.aload_n 0, 1) by decide +kernel))),
  List.forall_mem_cons.mpr ⟨(xOK_pure (xs_getf xcl_11 (by decide) (show decode cX11_judge 39 = .ok (.getfield 21, 3) by decide +kernel) xw_447)),
  List.forall_mem_cons.mpr ⟨(xOK_pure (xs_iload_n (k := 1) rfl (show decode cX11_judge 42 = .ok (.iload_n 1, 1) by decide +kernel))),
  List.forall_mem_cons.mpr ⟨(xOK_pure (xs_aload_n (k := 0) rfl (show decode cX11_judge 43 = .ok (.aload_n 0, 1) by decide +kernel))),
  List.forall_mem_cons.mpr ⟨(xOK_pure (xs_getf xcl_11 (by decide) (show decode cX11_judge 44 = .ok (.getfield 21, 3) by decide +kernel) xw_447)),
  List.forall_mem_cons.mpr ⟨(xOK_pure (xs_getf xcl_10 (by decide) (show decode cX11_judge 47 = .ok (.getfield 216, 3) by decide +kernel) xw_320)),
  List.forall_mem_cons.mpr ⟨(xOK_pure (xs_iload_n (k := 3) rfl (show decode cX11_judge 50 = .ok (.iload_n 3, 1) by decide +kernel))),
  List.forall_mem_cons.mpr ⟨(xOK_pure (xs_aald (t := 7) rfl (show decode cX11_judge 51 = .ok (.aaload, 1) by decide +kernel))),
  List.forall_mem_cons.mpr ⟨(xcm mi_122 ⟨⟨(by decide +kernel), (by decide +kernel), (by decide +kernel)⟩, (by decide), xw_1337, xw_120, Or.inl ⟨rfl, _, _, _, _, (show decode cX11_judge 52 = .ok (.invokevirtual 417, 3) by decide +kernel), xw_1334, xw_1335, xw_1336, rfl⟩⟩),
  List.forall_mem_cons.mpr ⟨(xOK_pure (xs_iadd (show decode cX11_judge 55 = .ok (.iadd, 1) by decide +kernel))),
  List.forall_mem_cons.mpr ⟨(xOK_pure (xs_istore_n (k := 2) rfl (show decode cX11_judge 56 = .ok (.istore_n 2, 1) by decide +kernel) (by decide))),
  List.forall_mem_cons.mpr ⟨(xOK_pure (xs_iinc (n := 1) (show decode cX11_judge 57 = .ok (.iinc 3 1, 3) by decide +kernel) (by decide) (by decide))),
  List.forall_mem_cons.mpr ⟨(xOK_pure (xs_goto (show decode cX11_judge 60 = .ok (.goto (-34), 3) by decide +kernel) (by decide))),
  List.forall_mem_cons.mpr ⟨(xOK_pure (xs_iload_n (k := 2) rfl (show decode cX11_judge 63 = .ok (.iload_n 2, 1) by decide +kernel))),
  List.forall_mem_cons.mpr ⟨(Or.inr (Or.inl ⟨rfl, (show decode cX11_judge 64 = .ok (.ireturn, 1) by decide +kernel), rfl⟩)),
  (fun _ h => absurd h List.not_mem_nil)⟩⟩⟩⟩⟩⟩⟩⟩⟩⟩⟩⟩⟩⟩⟩⟩⟩
def pX11_judge (ev : xEv) : List (Nat × xEn) := pX11_judge_0 ev ++ (pX11_judge_1 ev)
theorem okpX11_judge (ev : xEv) : ∀ q ∈ pX11_judge ev, xEnOK ev xmi yX11_judge.cls yX11_judge.name cX11_judge 4 (some .int) q := List.forall_mem_append.mpr ⟨okpX11_judge_0 ev, okpX11_judge_1 ev⟩
theorem omX11_judge (ev : xEv) : xMethOK ev xmi yX11_judge.cls yX11_judge.name 159 (pX11_judge ev) := xMethOK.of mi_159 (by decide +kernel) (okpX11_judge ev)
def pX11_coin (ev : xEv) : List (Nat × xEn) := [(0, .inl (xop (xf_aload 0 1))), (1, .inl (xop (xf_getf 11 1))), (4, .inr (.inl (0, 120, 0, 10))), (7, .inr (.inr 1))]
set_option maxRecDepth 20000 in
theorem okpX11_coin (ev : xEv) : ∀ q ∈ pX11_coin ev, xEnOK ev xmi yX11_coin.cls yX11_coin.name cX11_coin 1 (some .int) q :=
  List.forall_mem_cons.mpr ⟨(xOK_pure (xs_aload_n (k := 0) rfl (show decode cX11_coin 0 = .ok (.aload_n 0, 1) by decide +kernel))),
  List.forall_mem_cons.mpr ⟨(xOK_pure (xs_getf xcl_11 (by decide) (show decode cX11_coin 1 = .ok (.getfield 21, 3) by decide +kernel) xw_447)),
  List.forall_mem_cons.mpr ⟨(xcm mi_120 ⟨⟨(by decide +kernel), (by decide +kernel), (by decide +kernel)⟩, (by decide), xw_1346, xw_120, Or.inl ⟨rfl, _, _, _, _, (show decode cX11_coin 4 = .ok (.invokevirtual 421, 3) by decide +kernel), xw_1343, xw_1344, xw_1345, rfl⟩⟩),
  List.forall_mem_cons.mpr ⟨(Or.inr (Or.inl ⟨rfl, (show decode cX11_coin 7 = .ok (.ireturn, 1) by decide +kernel), rfl⟩)),
  (fun _ h => absurd h List.not_mem_nil)⟩⟩⟩⟩
theorem omX11_coin (ev : xEv) : xMethOK ev xmi yX11_coin.cls yX11_coin.name 160 (pX11_coin ev) := xMethOK.of mi_160 (by decide +kernel) (okpX11_coin ev)
def pX11_find_0 (ev : xEv) : List (Nat × xEn) := [(0, .inl (xop (xf_aload 0 1))), (1, .inl (xop (xf_iload 1 1))), (2, .inr (.inl (0, 179, 1, 11))), (5, .inl (xop (xf_if_ne 10))), (8, .inl (xop (xf_push (.int (-1)) 1))), (9, .inr (.inr 1)), (10, .inl (xop (xf_aload 0 1))), (11, .inl (xop (xf_getf 11 1))), (14, .inl (xop (xf_getf 10 4))), (17, .inl (xop (xf_iload 1 1))), (18, .inl (xop (xf_aald (ev.1 5)))), (19, .inl (xop (xf_astore 2 1))), (20, .inl (xop (xf_aload 0 1))), (21, .inl (xop (xf_getf 11 0))), (24, .inl (xop (xf_getf 2 4))), (27, .inl (xop (xf_aload 2 1))), (28, .inl (xop (xf_getf 6 9))), (31, .inl (xop (xf_aald (ev.1 4)))), (32, .inl (xop (xf_aload 2 1))), (33, .inl (xop (xf_getf 6 10)))]
set_option maxRecDepth 20000 in
theorem okpX11_find_0 (ev : xEv) : ∀ q ∈ pX11_find_0 ev, xEnOK ev xmi yX11_find.cls yX11_find.name cX11_find 4 (some .int) q :=
  List.forall_mem_cons.mpr ⟨(xOK_pure (xs_aload_n (k := 0) rfl (show decode cX11_find 0 = .ok (.aload_n 0, 1) by decide +kernel))),
  List.forall_mem_cons.mpr ⟨(xOK_pure (xs_iload_n (k := 1) rfl (show decode cX11_find 1 = .ok (.iload_n 1, 1) by decide +kernel))),
  List.forall_mem_cons.mpr ⟨(xcm mi_179 ⟨⟨(by decide +kernel), (by decide +kernel), (by decide +kernel)⟩, (by decide), xw_1359, xw_118, Or.inl ⟨rfl, _, _, _, _, (show decode cX11_find 2 = .ok (.invokevirtual 424, 3) by decide +kernel), xw_1356, xw_1358, xw_43, rfl⟩⟩),
  List.forall_mem_cons.mpr ⟨(xOK_pure (xs_if_ne (show decode cX11_find 5 = .ok (.ifCond .ne 5, 3) by decide +kernel) (by decide))),
  List.forall_mem_cons.mpr ⟨(xOK_pure (xs_iconst (n := (-1)) (show decode cX11_find 8 = .ok (.iconst (-1), 1) by decide +kernel) (by decide))),
  List.forall_mem_cons.mpr ⟨(Or.inr (Or.inl ⟨rfl, (show decode cX11_find 9 = .ok (.ireturn, 1) by decide +kernel), rfl⟩)),
  List.forall_mem_cons.mpr ⟨(xOK_pure (xs_aload_n (k := 0) rfl (show decode cX11_find 10 = .ok (.aload_n 0, 1) by decide +kernel))),
  List.forall_mem_cons.mpr ⟨(xOK_pure (xs_getf xcl_11 (by decide) (show decode cX11_find 11 = .ok (.getfield 21, 3) by decide +kernel) xw_447)),
  List.forall_mem_cons.mpr ⟨(xOK_pure (xs_getf xcl_10 (by decide) (show decode cX11_find 14 = .ok (.getfield 164, 3) by decide +kernel) xw_311)),
  List.forall_mem_cons.mpr ⟨(xOK_pure (xs_iload_n (k := 1) rfl (show decode cX11_find 17 = .ok (.iload_n 1, 1) by decide +kernel))),
  List.forall_mem_cons.mpr ⟨(xOK_pure (xs_aald (t := 5) rfl (show decode cX11_find 18 = .ok (.aaload, 1) by decide +kernel))),
  List.forall_mem_cons.mpr ⟨(xOK_pure (xs_astore_n (k := 2) rfl (show decode cX11_find 19 = .ok (.astore_n 2, 1) by decide +kernel) (by decide))),
  List.forall_mem_cons.mpr ⟨(xOK_pure (xs_aload_n (k := 0) rfl (show decode cX11_find 20 = .ok (.aload_n 0, 1) by decide +kernel))),
  List.forall_mem_cons.mpr ⟨(xOK_pure (xs_getf xcl_11 (by decide) (show decode cX11_find 21 = .ok (.getfield 10, 3) by decide +kernel) xw_446)),
  List.forall_mem_cons.mpr ⟨(xOK_pure (xs_getf xcl_2 (by decide) (show decode cX11_find 24 = .ok (.getfield 82, 3) by decide +kernel) xw_173)),
  List.forall_mem_cons.mpr ⟨(xOK_pure (xs_aload_n (k := 2) rfl (show decode cX11_find 27 = .ok (.aload_n 2, 1) by decide +kernel))),
  List.forall_mem_cons.mpr ⟨(xOK_pure (xs_getf xcl_6 (by decide) (show decode cX11_find 28 = .ok (.getfield 337, 3) by decide +kernel) xw_620)),
  List.forall_mem_cons.mpr ⟨(xOK_pure (xs_aald (t := 4) rfl (show decode cX11_find 31 = .ok (.aaload, 1) by decide +kernel))),
  List.forall_mem_cons.mpr ⟨(xOK_pure (xs_aload_n (k := 2) rfl (show decode cX11_find 32 = .ok (.aload_n 2, 1) by decide +kernel))),
  List.forall_mem_cons.mpr ⟨(xOK_pure (xs_getf xcl_6 (by decide) (show decode cX11_find 33 = .ok (.getfield 340, 3) by decide +kernel) xw_623)),
  (fun _ h => absurd h List.not_mem_nil)⟩⟩⟩⟩⟩⟩⟩⟩⟩⟩⟩⟩⟩⟩⟩⟩⟩⟩⟩⟩
def pX11_find_1 (ev : xEv) : List (Nat × xEn) := [(36, .inr (.inl (0, 37, 1, 3))), (39, .inl (xop (xf_istore 3 1))), (40, .inl (xop (xf_aload 2 1))), (41, .inl (xop (xf_push (.int 0) 1))), (42, .inl (xo_putf 6 18 .int)), (45, .inl (xop (xf_aload 0 1))), (46, .inl (xop (xf_getf 11 1))), (49, .inl (xop (xf_iload 1 1))), (50, .inl (xop (xf_iload 3 1))), (51, .inr (.inl (0, 115, 2, 10))), (54, .inl (xop (xf_iload 3 1))), (55, .inr (.inr 1))]
set_option maxRecDepth 20000 in
theorem okpX11_find_1 (ev : xEv) : ∀ q ∈ pX11_find_1 ev, xEnOK ev xmi yX11_find.cls yX11_find.name cX11_find 4 (some .int) q :=
  List.forall_mem_cons.mpr ⟨(xcm mi_37 ⟨⟨(by decide +kernel), (by decide +kernel), (by decide +kernel)⟩, (by decide), xw_1363, xw_126, Or.inl ⟨rfl, _, _, _, _, (show decode cX11_find 36 = .ok (.invokevirtual 427, 3) by decide +kernel), xw_1360, xw_1361, xw_1362, rfl⟩⟩),
  List.forall_mem_cons.mpr ⟨(xOK_pure (xs_istore_n (k := 3) rfl (show decode cX11_find 39 = .ok (.istore_n 3, 1) by decide +kernel) (by decide))),
  List.forall_mem_cons.mpr ⟨(xOK_pure (xs_aload_n (k := 2) rfl (show decode cX11_find 40 = .ok (.aload_n 2, 1) by decide +kernel))),
  List.forall_mem_cons.mpr ⟨(xOK_pure (xs_iconst (n := 0) (show decode cX11_find 41 = .ok (.iconst 0, 1) by decide +kernel) (by decide))),
  List.forall_mem_cons.mpr ⟨(xs_putf (k := 18) xcl_6 (by decide) rfl (show decode cX11_find 42 = .ok (.putfield 430, 3) by decide +kernel) xw_648),
  List.forall_mem_cons.mpr ⟨(xOK_pure (xs_aload_n (k := 0) rfl (show decode cX11_find 45 = .ok (.aload_n 0, 1) by decide +kernel))),
  List.forall_mem_cons.mpr ⟨(xOK_pure (xs_getf xcl_11 (by decide) (show decode cX11_find 46 = .ok (.getfield 21, 3) by decide +kernel) xw_447)),
  List.forall_mem_cons.mpr ⟨(xOK_pure (xs_iload_n (k := 1) rfl (show decode cX11_find 49 = .ok (.iload_n 1, 1) by decide +kernel))),
  List.forall_mem_cons.mpr ⟨(xOK_pure (xs_iload_n (k := 3) rfl (show decode cX11_find 50 = .ok (.iload_n 3, 1) by decide +kernel))),
  List.forall_mem_cons.mpr ⟨(xcm mi_115 ⟨⟨(by decide +kernel), (by decide +kernel), (by decide +kernel)⟩, (by decide), xw_1289, xw_120, Or.inl ⟨rfl, _, _, _, _, (show decode cX11_find 51 = .ok (.invokevirtual 433, 3) by decide +kernel), xw_1364, xw_1287, xw_1288, rfl⟩⟩),
  List.forall_mem_cons.mpr ⟨(xOK_pure (xs_iload_n (k := 3) rfl (show decode cX11_find 54 = .ok (.iload_n 3, 1) by decide +kernel))),
  List.forall_mem_cons.mpr ⟨(Or.inr (Or.inl ⟨rfl, (show decode cX11_find 55 = .ok (.ireturn, 1) by decide +kernel), rfl⟩)),
  (fun _ h => absurd h List.not_mem_nil)⟩⟩⟩⟩⟩⟩⟩⟩⟩⟩⟩⟩
def pX11_find (ev : xEv) : List (Nat × xEn) := pX11_find_0 ev ++ (pX11_find_1 ev)
theorem okpX11_find (ev : xEv) : ∀ q ∈ pX11_find ev, xEnOK ev xmi yX11_find.cls yX11_find.name cX11_find 4 (some .int) q := List.forall_mem_append.mpr ⟨okpX11_find_0 ev, okpX11_find_1 ev⟩
theorem omX11_find (ev : xEv) : xMethOK ev xmi yX11_find.cls yX11_find.name 161 (pX11_find ev) := xMethOK.of mi_161 (by decide +kernel) (okpX11_find ev)
def pX11_look_0 (ev : xEv) : List (Nat × xEn) := [(0, .inl (xop (xf_aload 0 1))), (1, .inl (xop (xf_iload 1 1))), (2, .inl (xop (xf_iload 2 1))), (3, .inr (.inl (0, 180, 2, 11))), (6, .inl (xop (xf_if_eq 19))), (9, .inl (xop (xf_iload 3 1))), (10, .inl (xop (xf_push (.int 1) 1))), (11, .inl (xop (xf_push (.int 99) 2))), (13, .inr (.inl (1, 183, 3, 11))), (16, .inl (xop (xf_if_ne 21))), (19, .inl (xop (xf_push (.int (-1)) 1))), (20, .inr (.inr 1)), (21, .inl (xop (xf_aload 0 1))), (22, .inl (xop (xf_getf 11 1))), (25, .inl (xop (xf_getf 10 4))), (28, .inl (xop (xf_iload 1 1))), (29, .inl (xop (xf_aald (ev.1 5)))), (30, .inl (xop (xf_astore 4 2))), (32, .inl (xop (xf_aload 4 2))), (34, .inl (xop (xf_getf 6 18)))]
set_option maxRecDepth 20000 in
theorem okpX11_look_0 (ev : xEv) : ∀ q ∈ pX11_look_0 ev, xEnOK ev xmi yX11_look.cls yX11_look.name cX11_look 5 (some .int) q :=
  List.forall_mem_cons.mpr ⟨(xOK_pure (xs_aload_n (k := 0) rfl (show decode cX11_look 0 = .ok (.aload_n 0, 1) by decide +kernel))),
  List.forall_mem_cons.mpr ⟨(xOK_pure (xs_iload_n (k := 1) rfl (show decode cX11_look 1 = .ok (.iload_n 1, 1) by decide +kernel))),
  List.forall_mem_cons.mpr ⟨(xOK_pure (xs_iload_n (k := 2) rfl (show decode cX11_look 2 = .ok (.iload_n 2, 1) by decide +kernel))),
  List.forall_mem_cons.mpr ⟨(xcm mi_180 ⟨⟨(by decide +kernel), (by decide +kernel), (by decide +kernel)⟩, (by decide), xw_1372, xw_118, Or.inl ⟨rfl, _, _, _, _, (show decode cX11_look 3 = .ok (.invokevirtual 436, 3) by decide +kernel), xw_1369, xw_1371, xw_44, rfl⟩⟩),
  List.forall_mem_cons.mpr ⟨(xOK_pure (xs_if_eq (show decode cX11_look 6 = .ok (.ifCond .eq 13, 3) by decide +kernel) (by decide))),
  List.forall_mem_cons.mpr ⟨(xOK_pure (xs_iload_n (k := 3) rfl (show decode cX11_look 9 = .ok (.iload_n 3, 1) by decide +kernel))),
  List.forall_mem_cons.mpr ⟨(xOK_pure (xs_iconst (n := 1) (show decode cX11_look 10 = .ok (.iconst 1, 1) by decide +kernel) (by decide))),
  List.forall_mem_cons.mpr ⟨(xOK_pure (xs_bipush (n := 99) (show decode cX11_look 11 = .ok (.bipush 99, 2) by decide +kernel) (by decide))),
  List.forall_mem_cons.mpr ⟨(xcm mi_183 ⟨⟨(by decide +kernel), (by decide +kernel), (by decide +kernel)⟩, (by decide), xw_480, xw_118, Or.inr (Or.inl ⟨rfl, _, (show decode cX11_look 13 = .ok (.invokestatic 52, 3) by decide +kernel), xw_478, xw_479⟩)⟩),
  List.forall_mem_cons.mpr ⟨(xOK_pure (xs_if_ne (show decode cX11_look 16 = .ok (.ifCond .ne 5, 3) by decide +kernel) (by decide))),
  List.forall_mem_cons.mpr ⟨(xOK_pure (xs_iconst (n := (-1)) (show decode cX11_look 19 = .ok (.iconst (-1), 1) by decide +kernel) (by decide))),
  List.forall_mem_cons.mpr ⟨(Or.inr (Or.inl ⟨rfl, (show decode cX11_look 20 = .ok (.ireturn, 1) by decide +kernel), rfl⟩)),
  List.forall_mem_cons.mpr ⟨(xOK_pure (xs_aload_n (k := 0) rfl (show decode cX11_look 21 = .ok (.aload_n 0, 1) by decide +kernel))),
  List.forall_mem_cons.mpr ⟨(xOK_pure (xs_getf xcl_11 (by decide) (show decode cX11_look 22 = .ok (.getfield 21, 3) by decide +kernel) xw_447)),
  List.forall_mem_cons.mpr ⟨(xOK_pure (xs_getf xcl_10 (by decide) (show decode cX11_look 25 = .ok (.getfield 164, 3) by decide +kernel) xw_311)),
  List.forall_mem_cons.mpr ⟨(xOK_pure (xs_iload_n (k := 1) rfl (show decode cX11_look 28 = .ok (.iload_n 1, 1) by decide +kernel))),
  List.forall_mem_cons.mpr ⟨(xOK_pure (xs_aald (t := 5) rfl (show decode cX11_look 29 = .ok (.aaload, 1) by decide +kernel))),
  List.forall_mem_cons.mpr ⟨(xOK_pure (xs_astore (show decode cX11_look 30 = .ok (.astore 4, 2) by decide +kernel) (by decide))),
  List.forall_mem_cons.mpr ⟨(xOK_pure (xs_aload (show decode cX11_look 32 = .ok (.aload 4, 2) by decide +kernel))),
  List.forall_mem_cons.mpr ⟨(xOK_pure (xs_getf xcl_6 (by decide) (show decode cX11_look 34 = .ok (.getfield 430, 3) by decide +kernel) xw_648)),
  (fun _ h => absurd h List.not_mem_nil)⟩⟩⟩⟩⟩⟩⟩⟩⟩⟩⟩⟩⟩⟩⟩⟩⟩⟩⟩⟩
def pX11_look_1 (ev : xEv) : List (Nat × xEn) := [(37, .inl (xop (xf_push (.int 4) 1))), (38, .inl (xop (xf_icmp_lt 43))), (41, .inl (xop (xf_push (.int (-1)) 1))), (42, .inr (.inr 1)), (43, .inl (xop (xf_aload 4 2))), (45, .inl (xop (xf_iload 2 1))), (46, .inl (xop (xf_iload 3 1))), (47, .inr (.inl (0, 72, 2, 6))), (50, .inr (.inr 1))]
set_option maxRecDepth 20000 in
theorem okpX11_look_1 (ev : xEv) : ∀ q ∈ pX11_look_1 ev, xEnOK ev xmi yX11_look.cls yX11_look.name cX11_look 5 (some .int) q :=
  List.forall_mem_cons.mpr ⟨(xOK_pure (xs_iconst (n := 4) (show decode cX11_look 37 = .ok (.iconst 4, 1) by decide +kernel) (by decide))),
  List.forall_mem_cons.mpr ⟨(xOK_pure (xs_icmp_lt (show decode cX11_look 38 = .ok (.if_icmp .lt 5, 3) by decide +kernel) (by decide))),
  List.forall_mem_cons.mpr ⟨(xOK_pure (xs_iconst (n := (-1)) (show decode cX11_look 41 = .ok (.iconst (-1), 1) by decide +kernel) (by decide))),
  List.forall_mem_cons.mpr ⟨(Or.inr (Or.inl ⟨rfl, (show decode cX11_look 42 = .ok (.ireturn, 1) by decide +kernel), rfl⟩)),
  List.forall_mem_cons.mpr ⟨(xOK_pure (xs_aload (show decode cX11_look 43 = .ok (.aload 4, 2) by decide +kernel))),
  List.forall_mem_cons.mpr ⟨(xOK_pure (xs_iload_n (k := 2) rfl (show decode cX11_look 45 = .ok (.iload_n 2, 1) by decide +kernel))),
  List.forall_mem_cons.mpr ⟨(xOK_pure (xs_iload_n (k := 3) rfl (show decode cX11_look 46 = .ok (.iload_n 3, 1) by decide +kernel))),
  List.forall_mem_cons.mpr ⟨(xcm mi_72 ⟨⟨(by decide +kernel), (by decide +kernel), (by decide +kernel)⟩, (by decide), xw_1380, xw_132, Or.inl ⟨rfl, _, _, _, _, (show decode cX11_look 47 = .ok (.invokevirtual 439, 3) by decide +kernel), xw_1377, xw_1378, xw_1379, rfl⟩⟩),
  List.forall_mem_cons.mpr ⟨(Or.inr (Or.inl ⟨rfl, (show decode cX11_look 50 = .ok (.ireturn, 1) by decide +kernel), rfl⟩)),
  (fun _ h => absurd h List.not_mem_nil)⟩⟩⟩⟩⟩⟩⟩⟩⟩
def pX11_look (ev : xEv) : List (Nat × xEn) := pX11_look_0 ev ++ (pX11_look_1 ev)
theorem okpX11_look (ev : xEv) : ∀ q ∈ pX11_look ev, xEnOK ev xmi yX11_look.cls yX11_look.name cX11_look 5 (some .int) q := List.forall_mem_append.mpr ⟨okpX11_look_0 ev, okpX11_look_1 ev⟩
theorem omX11_look (ev : xEv) : xMethOK ev xmi yX11_look.cls yX11_look.name 162 (pX11_look ev) := xMethOK.of mi_162 (by decide +kernel) (okpX11_look ev)
def pX11_chance_0 (ev : xEv) : List (Nat × xEn) := [(0, .inl (xop (xf_aload 0 1))), (1, .inl (xop (xf_iload 1 1))), (2, .inl (xop (xf_iload 2 1))), (3, .inr (.inl (0, 180, 2, 11))), (6, .inl (xop (xf_if_eq 18))), (9, .inl (xop (xf_iload 3 1))), (10, .inl (xop (xf_push (.int 0) 1))), (11, .inl (xop (xf_push (.int 1) 1))), (12, .inr (.inl (1, 183, 3, 11))), (15, .inl (xop (xf_if_ne 29))), (18, .inl (xop xf_none)), (21, .inl (xop xf_dup)), (22, .inl (xop (xf_push (.ref (ev.2.1 11)) 3))), (25, .inl (xop xf_none)), (28, .inl (xop xf_none)), (29, .inl (xop (xf_aload 0 1))), (30, .inl (xop (xf_iload 1 1))), (31, .inr (.inl (0, 165, 1, 11))), (34, .inl (xop (xf_istore 4 2))), (36, .inl (xop (xf_push (.long 0) 1)))]
set_option maxRecDepth 20000 in
theorem okpX11_chance_0 (ev : xEv) : ∀ q ∈ pX11_chance_0 ev, xEnOK ev xmi yX11_chance.cls yX11_chance.name cX11_chance 9 (some .long) q :=
  List.forall_mem_cons.mpr ⟨(xOK_pure (xs_aload_n (k := 0) rfl (show decode cX11_chance 0 = .ok (.aload_n 0, 1) by decide +kernel))),
  List.forall_mem_cons.mpr ⟨(xOK_pure (xs_iload_n (k := 1) rfl (show decode cX11_chance 1 = .ok (.iload_n 1, 1) by decide +kernel))),
  List.forall_mem_cons.mpr ⟨(xOK_pure (xs_iload_n (k := 2) rfl (show decode cX11_chance 2 = .ok (.iload_n 2, 1) by decide +kernel))),
  List.forall_mem_cons.mpr ⟨(xcm mi_180 ⟨⟨(by decide +kernel), (by decide +kernel), (by decide +kernel)⟩, (by decide), xw_1372, xw_118, Or.inl ⟨rfl, _, _, _, _, (show decode cX11_chance 3 = .ok (.invokevirtual 436, 3) by decide +kernel), xw_1369, xw_1371, xw_44, rfl⟩⟩),
  List.forall_mem_cons.mpr ⟨(xOK_pure (xs_if_eq (show decode cX11_chance 6 = .ok (.ifCond .eq 12, 3) by decide +kernel) (by decide))),
  List.forall_mem_cons.mpr ⟨(xOK_pure (xs_iload_n (k := 3) rfl (show decode cX11_chance 9 = .ok (.iload_n 3, 1) by decide +kernel))),
  List.forall_mem_cons.mpr ⟨(xOK_pure (xs_iconst (n := 0) (show decode cX11_chance 10 = .ok (.iconst 0, 1) by decide +kernel) (by decide))),
  List.forall_mem_cons.mpr ⟨(xOK_pure (xs_iconst (n := 1) (show decode cX11_chance 11 = .ok (.iconst 1, 1) by decide +kernel) (by decide))),
  List.forall_mem_cons.mpr ⟨(xcm mi_183 ⟨⟨(by decide +kernel), (by decide +kernel), (by decide +kernel)⟩, (by decide), xw_480, xw_118, Or.inr (Or.inl ⟨rfl, _, (show decode cX11_chance 12 = .ok (.invokestatic 52, 3) by decide +kernel), xw_478, xw_479⟩)⟩),
  List.forall_mem_cons.mpr ⟨(xOK_pure (xs_if_ne (show decode cX11_chance 15 = .ok (.ifCond .ne 14, 3) by decide +kernel) (by decide))),
  List.forall_mem_cons.mpr ⟨(xOK_pure xs_none),
  List.forall_mem_cons.mpr ⟨(xOK_pure (xs_dup (show decode cX11_chance 21 = .ok (.dup, 1) by decide +kernel))),
  List.forall_mem_cons.mpr ⟨(xOK_pure (xs_ldcSW (show decode cX11_chance 22 = .ok (.ldc_w 442, 3) by decide +kernel) (List.mem_of_getElem? (i := 11) rfl))),
  List.forall_mem_cons.mpr ⟨(xOK_pure xs_none),
  List.forall_mem_cons.mpr ⟨(xOK_pure xs_none),
  List.forall_mem_cons.mpr ⟨(xOK_pure (xs_aload_n (k := 0) rfl (show decode cX11_chance 29 = .ok (.aload_n 0, 1) by decide +kernel))),
  List.forall_mem_cons.mpr ⟨(xOK_pure (xs_iload_n (k := 1) rfl (show decode cX11_chance 30 = .ok (.iload_n 1, 1) by decide +kernel))),
  List.forall_mem_cons.mpr ⟨(xcm mi_165 ⟨⟨(by decide +kernel), (by decide +kernel), (by decide +kernel)⟩, (by decide), xw_1388, xw_118, Or.inl ⟨rfl, _, _, _, _, (show decode cX11_chance 31 = .ok (.invokevirtual 444, 3) by decide +kernel), xw_1385, xw_1387, xw_45, rfl⟩⟩),
  List.forall_mem_cons.mpr ⟨(xOK_pure (xs_istore (show decode cX11_chance 34 = .ok (.istore 4, 2) by decide +kernel) (by decide))),
  List.forall_mem_cons.mpr ⟨(xOK_pure (xs_lconst (n := 0) (show decode cX11_chance 36 = .ok (.lconst 0, 1) by decide +kernel) (by decide))),
  (fun _ h => absurd h List.not_mem_nil)⟩⟩⟩⟩⟩⟩⟩⟩⟩⟩⟩⟩⟩⟩⟩⟩⟩⟩⟩⟩
def pX11_chance_1 (ev : xEv) : List (Nat × xEn) := [(37, .inl (xop (xf_lstore 5 2))), (39, .inl (xop (xf_push (.int 0) 1))), (40, .inl (xop (xf_istore 7 2))), (42, .inl (xop (xf_iload 7 2))), (44, .inl (xop (xf_iload 4 2))), (46, .inl (xop (xf_icmp_ge 67))), (49, .inl (xop (xf_lload 5 2))), (51, .inl (xop (xf_aload 0 1))), (52, .inl (xop (xf_getf 11 4))), (55, .inl (xop (xf_iload 7 2))), (57, .inl (xop (xf_lald (ev.1 1)))), (58, .inl (xop (xf_lbin (fun x y => x + y)))), (59, .inl (xop (xf_lstore 5 2))), (61, .inl (xop (xf_iinc 7 1))), (64, .inl (xop (xf_goto 42))), (67, .inl (xop (xf_lload 5 2))), (69, .inl (xop (xf_aload 0 1))), (70, .inl (xop (xf_getf 11 4))), (73, .inl (xop (xf_iload 2 1))), (74, .inl (xop (xf_lald (ev.1 1))))]
set_option maxRecDepth 20000 in
theorem okpX11_chance_1 (ev : xEv) : ∀ q ∈ pX11_chance_1 ev, xEnOK ev xmi yX11_chance.cls yX11_chance.name cX11_chance 9 (some .long) q :=
  List.forall_mem_cons.mpr ⟨(xOK_pure (xs_lstore (show decode cX11_chance 37 = .ok (.lstore 5, 2) by decide +kernel) (by decide))),
  List.forall_mem_cons.mpr ⟨(xOK_pure (xs_iconst (n := 0) (show decode cX11_chance 39 = .ok (.iconst 0, 1) by decide +kernel) (by decide))),
  List.forall_mem_cons.mpr ⟨(xOK_pure (xs_istore (show decode cX11_chance 40 = .ok (.istore 7, 2) by decide +kernel) (by decide))),
  List.forall_mem_cons.mpr ⟨(xOK_pure (xs_iload (show decode cX11_chance 42 = .ok (.iload 7, 2) by decide +kernel))),
  List.forall_mem_cons.mpr ⟨(xOK_pure (xs_iload (show decode cX11_chance 44 = .ok (.iload 4, 2) by decide +kernel))),
  List.forall_mem_cons.mpr ⟨(xOK_pure (xs_icmp_ge (show decode cX11_chance 46 = .ok (.if_icmp .ge 21, 3) by decide +kernel) (by decide))),
  List.forall_mem_cons.mpr ⟨(xOK_pure (xs_lload (show decode cX11_chance 49 = .ok (.lload 5, 2) by decide +kernel))),
  List.forall_mem_cons.mpr ⟨(xOK_pure (xs_aload_n (k := 0) rfl (show decode cX11_chance 51 = .ok (.aload_n 0, 1) by decide +kernel))),
  List.forall_mem_cons.mpr ⟨(xOK_pure (xs_getf xcl_11 (by decide) (show decode cX11_chance 52 = .ok (.getfield 39, 3) by decide +kernel) xw_450)),
  List.forall_mem_cons.mpr ⟨(xOK_pure (xs_iload (show decode cX11_chance 55 = .ok (.iload 7, 2) by decide +kernel))),
  List.forall_mem_cons.mpr ⟨(xOK_pure (xs_lald (show decode cX11_chance 57 = .ok (.laload, 1) by decide +kernel))),
  List.forall_mem_cons.mpr ⟨(xOK_pure (xs_ladd (show decode cX11_chance 58 = .ok (.ladd, 1) by decide +kernel))),
  List.forall_mem_cons.mpr ⟨(xOK_pure (xs_lstore (show decode cX11_chance 59 = .ok (.lstore 5, 2) by decide +kernel) (by decide))),
  List.forall_mem_cons.mpr ⟨(xOK_pure (xs_iinc (n := 1) (show decode cX11_chance 61 = .ok (.iinc 7 1, 3) by decide +kernel) (by decide) (by decide))),
  List.forall_mem_cons.mpr ⟨(xOK_pure (xs_goto (show decode cX11_chance 64 = .ok (.goto (-22), 3) by decide +kernel) (by decide))),
  List.forall_mem_cons.mpr ⟨(xOK_pure (xs_lload (show decode cX11_chance 67 = .ok (.lload 5, 2) by decide +kernel))),
  List.forall_mem_cons.mpr ⟨(xOK_pure (xs_aload_n (k := 0) rfl (show decode cX11_chance 69 = .ok (.aload_n 0, 1) by decide +kernel))),
  List.forall_mem_cons.mpr ⟨(xOK_pure (xs_getf xcl_11 (by decide) (show decode cX11_chance 70 = .ok (.getfield 39, 3) by decide +kernel) xw_450)),
  List.forall_mem_cons.mpr ⟨(xOK_pure (xs_iload_n (k := 2) rfl (show decode cX11_chance 73 = .ok (.iload_n 2, 1) by decide +kernel))),
  List.forall_mem_cons.mpr ⟨(xOK_pure (xs_lald (show decode cX11_chance 74 = .ok (.laload, 1) by decide +kernel))),
  (fun _ h => absurd h List.not_mem_nil)⟩⟩⟩⟩⟩⟩⟩⟩⟩⟩⟩⟩⟩⟩⟩⟩⟩⟩⟩⟩
def pX11_chance_2 (ev : xEv) : List (Nat × xEn) := [(75, .inr (.inl (1, 185, 2, 11))), (78, .inl (xop (xf_lstore 7 2))), (80, .inl (xop (xf_lload 7 2))), (82, .inl (xop (xf_push (.long 0) 1))), (83, .inl (xop xf_lcmp)), (84, .inl (xop (xf_if_gt 90))), (87, .inl (xop (xf_iload 3 1))), (88, .inl (xop xf_i2l)), (89, .inr (.inr 2)), (90, .inl (xop (xf_iload 3 1))), (91, .inl (xop (xf_if_ne 103))), (94, .inl (xop (xf_aload 0 1))), (95, .inl (xop (xf_getf 11 4))), (98, .inl (xop (xf_iload 2 1))), (99, .inl (xop (xf_lald (ev.1 1)))), (100, .inl (xop (xf_goto 105))), (103, .inl (xop (xf_lload 5 2))), (105, .inl (xop (xf_lload 7 2))), (107, .inl (xop (xf_ldiv (fun x y => x / y)))), (108, .inr (.inr 2))]
set_option maxRecDepth 20000 in
theorem okpX11_chance_2 (ev : xEv) : ∀ q ∈ pX11_chance_2 ev, xEnOK ev xmi yX11_chance.cls yX11_chance.name cX11_chance 9 (some .long) q :=
  List.forall_mem_cons.mpr ⟨(xcm mi_185 ⟨⟨(by decide +kernel), (by decide +kernel), (by decide +kernel)⟩, (by decide), xw_1693, xw_118, Or.inr (Or.inl ⟨rfl, _, (show decode cX11_chance 75 = .ok (.invokestatic 447, 3) by decide +kernel), xw_1691, xw_1692⟩)⟩),
  List.forall_mem_cons.mpr ⟨(xOK_pure (xs_lstore (show decode cX11_chance 78 = .ok (.lstore 7, 2) by decide +kernel) (by decide))),
  List.forall_mem_cons.mpr ⟨(xOK_pure (xs_lload (show decode cX11_chance 80 = .ok (.lload 7, 2) by decide +kernel))),
  List.forall_mem_cons.mpr ⟨(xOK_pure (xs_lconst (n := 0) (show decode cX11_chance 82 = .ok (.lconst 0, 1) by decide +kernel) (by decide))),
  List.forall_mem_cons.mpr ⟨(xOK_pure (xs_lcmp (show decode cX11_chance 83 = .ok (.lcmp, 1) by decide +kernel))),
  List.forall_mem_cons.mpr ⟨(xOK_pure (xs_if_gt (show decode cX11_chance 84 = .ok (.ifCond .gt 6, 3) by decide +kernel) (by decide))),
  List.forall_mem_cons.mpr ⟨(xOK_pure (xs_iload_n (k := 3) rfl (show decode cX11_chance 87 = .ok (.iload_n 3, 1) by decide +kernel))),
  List.forall_mem_cons.mpr ⟨(xOK_pure (xs_i2l (show decode cX11_chance 88 = .ok (.i2l, 1) by decide +kernel))),
  List.forall_mem_cons.mpr ⟨(Or.inr (Or.inr (Or.inl ⟨rfl, (show decode cX11_chance 89 = .ok (.lreturn, 1) by decide +kernel), rfl⟩))),
  List.forall_mem_cons.mpr ⟨(xOK_pure (xs_iload_n (k := 3) rfl (show decode cX11_chance 90 = .ok (.iload_n 3, 1) by decide +kernel))),
  List.forall_mem_cons.mpr ⟨(xOK_pure (xs_if_ne (show decode cX11_chance 91 = .ok (.ifCond .ne 12, 3) by decide +kernel) (by decide))),
  List.forall_mem_cons.mpr ⟨(xOK_pure (xs_aload_n (k := 0) rfl (show decode cX11_chance 94 = .ok (.aload_n 0, 1) by decide +kernel))),
  List.forall_mem_cons.mpr ⟨(xOK_pure (xs_getf xcl_11 (by decide) (show decode cX11_chance 95 = .ok (.getfield 39, 3) by decide +kernel) xw_450)),
  List.forall_mem_cons.mpr ⟨(xOK_pure (xs_iload_n (k := 2) rfl (show decode cX11_chance 98 = .ok (.iload_n 2, 1) by decide +kernel))),
  List.forall_mem_cons.mpr ⟨(xOK_pure (xs_lald (show decode cX11_chance 99 = .ok (.laload, 1) by decide +kernel))),
  List.forall_mem_cons.mpr ⟨(xOK_pure (xs_goto (show decode cX11_chance 100 = .ok (.goto 5, 3) by decide +kernel) (by decide))),
  List.forall_mem_cons.mpr ⟨(xOK_pure (xs_lload (show decode cX11_chance 103 = .ok (.lload 5, 2) by decide +kernel))),
  List.forall_mem_cons.mpr ⟨(xOK_pure (xs_lload (show decode cX11_chance 105 = .ok (.lload 7, 2) by decide +kernel))),
  List.forall_mem_cons.mpr ⟨(xOK_pure (xs_ldiv (show decode cX11_chance 107 = .ok (.ldiv, 1) by decide +kernel))),
  List.forall_mem_cons.mpr ⟨(Or.inr (Or.inr (Or.inl ⟨rfl, (show decode cX11_chance 108 = .ok (.lreturn, 1) by decide +kernel), rfl⟩))),
  (fun _ h => absurd h List.not_mem_nil)⟩⟩⟩⟩⟩⟩⟩⟩⟩⟩⟩⟩⟩⟩⟩⟩⟩⟩⟩⟩
def pX11_chance (ev : xEv) : List (Nat × xEn) := pX11_chance_0 ev ++ (pX11_chance_1 ev ++ (pX11_chance_2 ev))
theorem okpX11_chance (ev : xEv) : ∀ q ∈ pX11_chance ev, xEnOK ev xmi yX11_chance.cls yX11_chance.name cX11_chance 9 (some .long) q := List.forall_mem_append.mpr ⟨okpX11_chance_0 ev, List.forall_mem_append.mpr ⟨okpX11_chance_1 ev, okpX11_chance_2 ev⟩⟩
theorem omX11_chance (ev : xEv) : xMethOK ev xmi yX11_chance.cls yX11_chance.name 163 (pX11_chance ev) := xMethOK.of mi_163 (by decide +kernel) (okpX11_chance ev)
def pX11_lanes_0 (ev : xEv) : List (Nat × xEn) := [(0, .inl (xop (xf_aload 0 1))), (1, .inl (xop (xf_iload 1 1))), (2, .inr (.inl (0, 179, 1, 11))), (5, .inl (xop (xf_if_eq 28))), (8, .inl (xop (xf_iload 2 1))), (9, .inl (xop (xf_push (.int 1) 1))), (10, .inl (xop (xf_push (.int 99) 2))), (12, .inr (.inl (1, 183, 3, 11))), (15, .inl (xop (xf_if_eq 28))), (18, .inl (xop (xf_iload 3 1))), (19, .inl (xop (xf_push (.int 1) 1))), (20, .inl (xop (xf_push (.int 99) 2))), (22, .inr (.inl (1, 183, 3, 11))), (25, .inl (xop (xf_if_ne 30))), (28, .inl (xop (xf_push (.int (-1)) 1))), (29, .inr (.inr 1)), (30, .inl (xop (xf_aload 0 1))), (31, .inl (xop (xf_iload 1 1))), (32, .inr (.inl (0, 165, 1, 11))), (35, .inl (xop (xf_istore 4 2)))]
set_option maxRecDepth 20000 in
theorem okpX11_lanes_0 (ev : xEv) : ∀ q ∈ pX11_lanes_0 ev, xEnOK ev xmi yX11_lanes.cls yX11_lanes.name cX11_lanes 12 (some .int) q :=
  List.forall_mem_cons.mpr ⟨(xOK_pure (xs_aload_n (k := 0) rfl (show decode cX11_lanes 0 = .ok (.aload_n 0, 1) by decide +kernel))),
  List.forall_mem_cons.mpr ⟨(xOK_pure (xs_iload_n (k := 1) rfl (show decode cX11_lanes 1 = .ok (.iload_n 1, 1) by decide +kernel))),
  List.forall_mem_cons.mpr ⟨(xcm mi_179 ⟨⟨(by decide +kernel), (by decide +kernel), (by decide +kernel)⟩, (by decide), xw_1359, xw_118, Or.inl ⟨rfl, _, _, _, _, (show decode cX11_lanes 2 = .ok (.invokevirtual 424, 3) by decide +kernel), xw_1356, xw_1358, xw_43, rfl⟩⟩),
  List.forall_mem_cons.mpr ⟨(xOK_pure (xs_if_eq (show decode cX11_lanes 5 = .ok (.ifCond .eq 23, 3) by decide +kernel) (by decide))),
  List.forall_mem_cons.mpr ⟨(xOK_pure (xs_iload_n (k := 2) rfl (show decode cX11_lanes 8 = .ok (.iload_n 2, 1) by decide +kernel))),
  List.forall_mem_cons.mpr ⟨(xOK_pure (xs_iconst (n := 1) (show decode cX11_lanes 9 = .ok (.iconst 1, 1) by decide +kernel) (by decide))),
  List.forall_mem_cons.mpr ⟨(xOK_pure (xs_bipush (n := 99) (show decode cX11_lanes 10 = .ok (.bipush 99, 2) by decide +kernel) (by decide))),
  List.forall_mem_cons.mpr ⟨(xcm mi_183 ⟨⟨(by decide +kernel), (by decide +kernel), (by decide +kernel)⟩, (by decide), xw_480, xw_118, Or.inr (Or.inl ⟨rfl, _, (show decode cX11_lanes 12 = .ok (.invokestatic 52, 3) by decide +kernel), xw_478, xw_479⟩)⟩),
  List.forall_mem_cons.mpr ⟨(xOK_pure (xs_if_eq (show decode cX11_lanes 15 = .ok (.ifCond .eq 13, 3) by decide +kernel) (by decide))),
  List.forall_mem_cons.mpr ⟨(xOK_pure (xs_iload_n (k := 3) rfl (show decode cX11_lanes 18 = .ok (.iload_n 3, 1) by decide +kernel))),
  List.forall_mem_cons.mpr ⟨(xOK_pure (xs_iconst (n := 1) (show decode cX11_lanes 19 = .ok (.iconst 1, 1) by decide +kernel) (by decide))),
  List.forall_mem_cons.mpr ⟨(xOK_pure (xs_bipush (n := 99) (show decode cX11_lanes 20 = .ok (.bipush 99, 2) by decide +kernel) (by decide))),
  List.forall_mem_cons.mpr ⟨(xcm mi_183 ⟨⟨(by decide +kernel), (by decide +kernel), (by decide +kernel)⟩, (by decide), xw_480, xw_118, Or.inr (Or.inl ⟨rfl, _, (show decode cX11_lanes 22 = .ok (.invokestatic 52, 3) by decide +kernel), xw_478, xw_479⟩)⟩),
  List.forall_mem_cons.mpr ⟨(xOK_pure (xs_if_ne (show decode cX11_lanes 25 = .ok (.ifCond .ne 5, 3) by decide +kernel) (by decide))),
  List.forall_mem_cons.mpr ⟨(xOK_pure (xs_iconst (n := (-1)) (show decode cX11_lanes 28 = .ok (.iconst (-1), 1) by decide +kernel) (by decide))),
  List.forall_mem_cons.mpr ⟨(Or.inr (Or.inl ⟨rfl, (show decode cX11_lanes 29 = .ok (.ireturn, 1) by decide +kernel), rfl⟩)),
  List.forall_mem_cons.mpr ⟨(xOK_pure (xs_aload_n (k := 0) rfl (show decode cX11_lanes 30 = .ok (.aload_n 0, 1) by decide +kernel))),
  List.forall_mem_cons.mpr ⟨(xOK_pure (xs_iload_n (k := 1) rfl (show decode cX11_lanes 31 = .ok (.iload_n 1, 1) by decide +kernel))),
  List.forall_mem_cons.mpr ⟨(xcm mi_165 ⟨⟨(by decide +kernel), (by decide +kernel), (by decide +kernel)⟩, (by decide), xw_1388, xw_118, Or.inl ⟨rfl, _, _, _, _, (show decode cX11_lanes 32 = .ok (.invokevirtual 444, 3) by decide +kernel), xw_1385, xw_1387, xw_45, rfl⟩⟩),
  List.forall_mem_cons.mpr ⟨(xOK_pure (xs_istore (show decode cX11_lanes 35 = .ok (.istore 4, 2) by decide +kernel) (by decide))),
  (fun _ h => absurd h List.not_mem_nil)⟩⟩⟩⟩⟩⟩⟩⟩⟩⟩⟩⟩⟩⟩⟩⟩⟩⟩⟩⟩
def pX11_lanes_1 (ev : xEv) : List (Nat × xEn) := [(37, .inl (xop (xf_push (.int (-1)) 1))), (38, .inl (xop (xf_istore 5 2))), (40, .inl (xop (xf_push (.long (-1)) 3))), (43, .inl (xop (xf_lstore 6 2))), (45, .inl (xop (xf_push (.int 0) 1))), (46, .inl (xop (xf_istore 8 2))), (48, .inl (xop (xf_iload 8 2))), (50, .inl (xop (xf_iload 4 2))), (52, .inl (xop (xf_icmp_ge 129))), (55, .inl (xop (xf_push (.int 0) 1))), (56, .inl (xop (xf_istore 9 2))), (58, .inl (xop (xf_iload 9 2))), (60, .inl (xop (xf_iload 4 2))), (62, .inl (xop (xf_icmp_ge 123))), (65, .inl (xop (xf_iload 2 1))), (66, .inl (xop xf_i2l)), (67, .inl (xop (xf_aload 0 1))), (68, .inl (xop (xf_getf 11 4))), (71, .inl (xop (xf_iload 8 2))), (73, .inl (xop (xf_lald (ev.1 1))))]
set_option maxRecDepth 20000 in
theorem okpX11_lanes_1 (ev : xEv) : ∀ q ∈ pX11_lanes_1 ev, xEnOK ev xmi yX11_lanes.cls yX11_lanes.name cX11_lanes 12 (some .int) q :=
  List.forall_mem_cons.mpr ⟨(xOK_pure (xs_iconst (n := (-1)) (show decode cX11_lanes 37 = .ok (.iconst (-1), 1) by decide +kernel) (by decide))),
  List.forall_mem_cons.mpr ⟨(xOK_pure (xs_istore (show decode cX11_lanes 38 = .ok (.istore 5, 2) by decide +kernel) (by decide))),
  List.forall_mem_cons.mpr ⟨(xOK_pure (xs_ldc2 (show decode cX11_lanes 40 = .ok (.ldc2_w 451, 3) by decide +kernel) xw_1403)),
  List.forall_mem_cons.mpr ⟨(xOK_pure (xs_lstore (show decode cX11_lanes 43 = .ok (.lstore 6, 2) by decide +kernel) (by decide))),
  List.forall_mem_cons.mpr ⟨(xOK_pure (xs_iconst (n := 0) (show decode cX11_lanes 45 = .ok (.iconst 0, 1) by decide +kernel) (by decide))),
  List.forall_mem_cons.mpr ⟨(xOK_pure (xs_istore (show decode cX11_lanes 46 = .ok (.istore 8, 2) by decide +kernel) (by decide))),
  List.forall_mem_cons.mpr ⟨(xOK_pure (xs_iload (show decode cX11_lanes 48 = .ok (.iload 8, 2) by decide +kernel))),
  List.forall_mem_cons.mpr ⟨(xOK_pure (xs_iload (show decode cX11_lanes 50 = .ok (.iload 4, 2) by decide +kernel))),
  List.forall_mem_cons.mpr ⟨(xOK_pure (xs_icmp_ge (show decode cX11_lanes 52 = .ok (.if_icmp .ge 77, 3) by decide +kernel) (by decide))),
  List.forall_mem_cons.mpr ⟨(xOK_pure (xs_iconst (n := 0) (show decode cX11_lanes 55 = .ok (.iconst 0, 1) by decide +kernel) (by decide))),
  List.forall_mem_cons.mpr ⟨(xOK_pure (xs_istore (show decode cX11_lanes 56 = .ok (.istore 9, 2) by decide +kernel) (by decide))),
  List.forall_mem_cons.mpr ⟨(xOK_pure (xs_iload (show decode cX11_lanes 58 = .ok (.iload 9, 2) by decide +kernel))),
  List.forall_mem_cons.mpr ⟨(xOK_pure (xs_iload (show decode cX11_lanes 60 = .ok (.iload 4, 2) by decide +kernel))),
  List.forall_mem_cons.mpr ⟨(xOK_pure (xs_icmp_ge (show decode cX11_lanes 62 = .ok (.if_icmp .ge 61, 3) by decide +kernel) (by decide))),
  List.forall_mem_cons.mpr ⟨(xOK_pure (xs_iload_n (k := 2) rfl (show decode cX11_lanes 65 = .ok (.iload_n 2, 1) by decide +kernel))),
  List.forall_mem_cons.mpr ⟨(xOK_pure (xs_i2l (show decode cX11_lanes 66 = .ok (.i2l, 1) by decide +kernel))),
  List.forall_mem_cons.mpr ⟨(xOK_pure (xs_aload_n (k := 0) rfl (show decode cX11_lanes 67 = .ok (.aload_n 0, 1) by decide +kernel))),
  List.forall_mem_cons.mpr ⟨(xOK_pure (xs_getf xcl_11 (by decide) (show decode cX11_lanes 68 = .ok (.getfield 39, 3) by decide +kernel) xw_450)),
  List.forall_mem_cons.mpr ⟨(xOK_pure (xs_iload (show decode cX11_lanes 71 = .ok (.iload 8, 2) by decide +kernel))),
  List.forall_mem_cons.mpr ⟨(xOK_pure (xs_lald (show decode cX11_lanes 73 = .ok (.laload, 1) by decide +kernel))),
  (fun _ h => absurd h List.not_mem_nil)⟩⟩⟩⟩⟩⟩⟩⟩⟩⟩⟩⟩⟩⟩⟩⟩⟩⟩⟩⟩
def pX11_lanes_2 (ev : xEv) : List (Nat × xEn) := [(74, .inl (xop (xf_lbin (fun x y => x * y)))), (75, .inl (xop (xf_iload 3 1))), (76, .inl (xop xf_i2l)), (77, .inl (xop (xf_aload 0 1))), (78, .inl (xop (xf_getf 11 4))), (81, .inl (xop (xf_iload 9 2))), (83, .inl (xop (xf_lald (ev.1 1)))), (84, .inl (xop (xf_lbin (fun x y => x * y)))), (85, .inl (xop (xf_lbin (fun x y => x + y)))), (86, .inl (xop (xf_lstore 10 2))), (88, .inl (xop (xf_iload 8 2))), (90, .inl (xop (xf_iload 9 2))), (92, .inl (xop (xf_icmp_eq 117))), (95, .inl (xop (xf_lload 10 2))), (97, .inl (xop (xf_lload 6 2))), (99, .inl (xop xf_lcmp)), (100, .inl (xop (xf_if_le 117))), (103, .inl (xop (xf_lload 10 2))), (105, .inl (xop (xf_lstore 6 2))), (107, .inl (xop (xf_push (.int 100) 2)))]
set_option maxRecDepth 20000 in
theorem okpX11_lanes_2 (ev : xEv) : ∀ q ∈ pX11_lanes_2 ev, xEnOK ev xmi yX11_lanes.cls yX11_lanes.name cX11_lanes 12 (some .int) q :=
  List.forall_mem_cons.mpr ⟨(xOK_pure (xs_lmul (show decode cX11_lanes 74 = .ok (.lmul, 1) by decide +kernel))),
  List.forall_mem_cons.mpr ⟨(xOK_pure (xs_iload_n (k := 3) rfl (show decode cX11_lanes 75 = .ok (.iload_n 3, 1) by decide +kernel))),
  List.forall_mem_cons.mpr ⟨(xOK_pure (xs_i2l (show decode cX11_lanes 76 = .ok (.i2l, 1) by decide +kernel))),
  List.forall_mem_cons.mpr ⟨(xOK_pure (xs_aload_n (k := 0) rfl (show decode cX11_lanes 77 = .ok (.aload_n 0, 1) by decide +kernel))),
  List.forall_mem_cons.mpr ⟨(xOK_pure (xs_getf xcl_11 (by decide) (show decode cX11_lanes 78 = .ok (.getfield 39, 3) by decide +kernel) xw_450)),
  List.forall_mem_cons.mpr ⟨(xOK_pure (xs_iload (show decode cX11_lanes 81 = .ok (.iload 9, 2) by decide +kernel))),
  List.forall_mem_cons.mpr ⟨(xOK_pure (xs_lald (show decode cX11_lanes 83 = .ok (.laload, 1) by decide +kernel))),
  List.forall_mem_cons.mpr ⟨(xOK_pure (xs_lmul (show decode cX11_lanes 84 = .ok (.lmul, 1) by decide +kernel))),
  List.forall_mem_cons.mpr ⟨(xOK_pure (xs_ladd (show decode cX11_lanes 85 = .ok (.ladd, 1) by decide +kernel))),
  List.forall_mem_cons.mpr ⟨(xOK_pure (xs_lstore (show decode cX11_lanes 86 = .ok (.lstore 10, 2) by decide +kernel) (by decide))),
  List.forall_mem_cons.mpr ⟨(xOK_pure (xs_iload (show decode cX11_lanes 88 = .ok (.iload 8, 2) by decide +kernel))),
  List.forall_mem_cons.mpr ⟨(xOK_pure (xs_iload (show decode cX11_lanes 90 = .ok (.iload 9, 2) by decide +kernel))),
  List.forall_mem_cons.mpr ⟨(xOK_pure (xs_icmp_eq (show decode cX11_lanes 92 = .ok (.if_icmp .eq 25, 3) by decide +kernel) (by decide))),
  List.forall_mem_cons.mpr ⟨(xOK_pure (xs_lload (show decode cX11_lanes 95 = .ok (.lload 10, 2) by decide +kernel))),
  List.forall_mem_cons.mpr ⟨(xOK_pure (xs_lload (show decode cX11_lanes 97 = .ok (.lload 6, 2) by decide +kernel))),
  List.forall_mem_cons.mpr ⟨(xOK_pure (xs_lcmp (show decode cX11_lanes 99 = .ok (.lcmp, 1) by decide +kernel))),
  List.forall_mem_cons.mpr ⟨(xOK_pure (xs_if_le (show decode cX11_lanes 100 = .ok (.ifCond .le 17, 3) by decide +kernel) (by decide))),
  List.forall_mem_cons.mpr ⟨(xOK_pure (xs_lload (show decode cX11_lanes 103 = .ok (.lload 10, 2) by decide +kernel))),
  List.forall_mem_cons.mpr ⟨(xOK_pure (xs_lstore (show decode cX11_lanes 105 = .ok (.lstore 6, 2) by decide +kernel) (by decide))),
  List.forall_mem_cons.mpr ⟨(xOK_pure (xs_bipush (n := 100) (show decode cX11_lanes 107 = .ok (.bipush 100, 2) by decide +kernel) (by decide))),
  (fun _ h => absurd h List.not_mem_nil)⟩⟩⟩⟩⟩⟩⟩⟩⟩⟩⟩⟩⟩⟩⟩⟩⟩⟩⟩⟩
def pX11_lanes_3 (ev : xEv) : List (Nat × xEn) := [(109, .inl (xop (xf_iload 8 2))), (111, .inl (xop (xf_bin (fun x y => x * y)))), (112, .inl (xop (xf_iload 9 2))), (114, .inl (xop (xf_bin (fun x y => x + y)))), (115, .inl (xop (xf_istore 5 2))), (117, .inl (xop (xf_iinc 9 1))), (120, .inl (xop (xf_goto 58))), (123, .inl (xop (xf_iinc 8 1))), (126, .inl (xop (xf_goto 48))), (129, .inl (xop (xf_iload 5 2))), (131, .inr (.inr 1))]
set_option maxRecDepth 20000 in
theorem okpX11_lanes_3 (ev : xEv) : ∀ q ∈ pX11_lanes_3 ev, xEnOK ev xmi yX11_lanes.cls yX11_lanes.name cX11_lanes 12 (some .int) q :=
  List.forall_mem_cons.mpr ⟨(xOK_pure (xs_iload (show decode cX11_lanes 109 = .ok (.iload 8, 2) by decide +kernel))),
  List.forall_mem_cons.mpr ⟨(xOK_pure (xs_imul (show decode cX11_lanes 111 = .ok (.imul, 1) by decide +kernel))),
  List.forall_mem_cons.mpr ⟨(xOK_pure (xs_iload (show decode cX11_lanes 112 = .ok (.iload 9, 2) by decide +kernel))),
  List.forall_mem_cons.mpr ⟨(xOK_pure (xs_iadd (show decode cX11_lanes 114 = .ok (.iadd, 1) by decide +kernel))),
  List.forall_mem_cons.mpr ⟨(xOK_pure (xs_istore (show decode cX11_lanes 115 = .ok (.istore 5, 2) by decide +kernel) (by decide))),
  List.forall_mem_cons.mpr ⟨(xOK_pure (xs_iinc (n := 1) (show decode cX11_lanes 117 = .ok (.iinc 9 1, 3) by decide +kernel) (by decide) (by decide))),
  List.forall_mem_cons.mpr ⟨(xOK_pure (xs_goto (show decode cX11_lanes 120 = .ok (.goto (-62), 3) by decide +kernel) (by decide))),
  List.forall_mem_cons.mpr ⟨(xOK_pure (xs_iinc (n := 1) (show decode cX11_lanes 123 = .ok (.iinc 8 1, 3) by decide +kernel) (by decide) (by decide))),
  List.forall_mem_cons.mpr ⟨(xOK_pure (xs_goto (show decode cX11_lanes 126 = .ok (.goto (-78), 3) by decide +kernel) (by decide))),
  List.forall_mem_cons.mpr ⟨(xOK_pure (xs_iload (show decode cX11_lanes 129 = .ok (.iload 5, 2) by decide +kernel))),
  List.forall_mem_cons.mpr ⟨(Or.inr (Or.inl ⟨rfl, (show decode cX11_lanes 131 = .ok (.ireturn, 1) by decide +kernel), rfl⟩)),
  (fun _ h => absurd h List.not_mem_nil)⟩⟩⟩⟩⟩⟩⟩⟩⟩⟩⟩
def pX11_lanes (ev : xEv) : List (Nat × xEn) := pX11_lanes_0 ev ++ (pX11_lanes_1 ev ++ (pX11_lanes_2 ev ++ (pX11_lanes_3 ev)))
theorem okpX11_lanes (ev : xEv) : ∀ q ∈ pX11_lanes ev, xEnOK ev xmi yX11_lanes.cls yX11_lanes.name cX11_lanes 12 (some .int) q := List.forall_mem_append.mpr ⟨okpX11_lanes_0 ev, List.forall_mem_append.mpr ⟨okpX11_lanes_1 ev, List.forall_mem_append.mpr ⟨okpX11_lanes_2 ev, okpX11_lanes_3 ev⟩⟩⟩
theorem omX11_lanes (ev : xEv) : xMethOK ev xmi yX11_lanes.cls yX11_lanes.name 164 (pX11_lanes ev) := xMethOK.of mi_164 (by decide +kernel) (okpX11_lanes ev)
def pX11_weighCells_0 (ev : xEv) : List (Nat × xEn) := [(0, .inl (xop (xf_aload 0 1))), (1, .inl (xop (xf_getf 11 1))), (4, .inl (xop (xf_getf 10 4))), (7, .inl (xop (xf_iload 1 1))), (8, .inl (xop (xf_aald (ev.1 5)))), (9, .inl (xop (xf_astore 2 1))), (10, .inl (xop (xf_aload 0 1))), (11, .inl (xop (xf_getf 11 0))), (14, .inl (xop (xf_getf 2 4))), (17, .inl (xop (xf_aload 2 1))), (18, .inl (xop (xf_getf 6 9))), (21, .inl (xop (xf_aald (ev.1 4)))), (22, .inl (xop (xf_astore 3 1))), (23, .inl (xop (xf_aload 0 1))), (24, .inl (xop (xf_getf 11 1))), (27, .inl (xop (xf_getf 10 11))), (30, .inl (xop (xf_aload 2 1))), (31, .inl (xop (xf_getf 6 17))), (34, .inl (xop (xf_aald (ev.1 8)))), (35, .inl (xop (xf_getf 1 7)))]
set_option maxRecDepth 20000 in
theorem okpX11_weighCells_0 (ev : xEv) : ∀ q ∈ pX11_weighCells_0 ev, xEnOK ev xmi yX11_weighCells.cls yX11_weighCells.name cX11_weighCells 5 (some .int) q :=
  List.forall_mem_cons.mpr ⟨(xOK_pure (xs_aload_n (k := 0) rfl (show decode cX11_weighCells 0 = .ok (.aload_n 0, 1) by decide +kernel))),
  List.forall_mem_cons.mpr ⟨(xOK_pure (xs_getf xcl_11 (by decide) (show decode cX11_weighCells 1 = .ok (.getfield 21, 3) by decide +kernel) xw_447)),
  List.forall_mem_cons.mpr ⟨(xOK_pure (xs_getf xcl_10 (by decide) (show decode cX11_weighCells 4 = .ok (.getfield 164, 3) by decide +kernel) xw_311)),
  List.forall_mem_cons.mpr ⟨(xOK_pure (xs_iload_n (k := 1) rfl (show decode cX11_weighCells 7 = .ok (.iload_n 1, 1) by decide +kernel))),
  List.forall_mem_cons.mpr ⟨(xOK_pure (xs_aald (t := 5) rfl (show decode cX11_weighCells 8 = .ok (.aaload, 1) by decide +kernel))),
  List.forall_mem_cons.mpr ⟨(xOK_pure (xs_astore_n (k := 2) rfl (show decode cX11_weighCells 9 = .ok (.astore_n 2, 1) by decide +kernel) (by decide))),
  List.forall_mem_cons.mpr ⟨(xOK_pure (xs_aload_n (k := 0) rfl (show decode cX11_weighCells 10 = .ok (.aload_n 0, 1) by decide +kernel))),
  List.forall_mem_cons.mpr ⟨(xOK_pure (xs_getf xcl_11 (by decide) (show decode cX11_weighCells 11 = .ok (.getfield 10, 3) by decide +kernel) xw_446)),
  List.forall_mem_cons.mpr ⟨(xOK_pure (xs_getf xcl_2 (by decide) (show decode cX11_weighCells 14 = .ok (.getfield 82, 3) by decide +kernel) xw_173)),
  List.forall_mem_cons.mpr ⟨(xOK_pure (xs_aload_n (k := 2) rfl (show decode cX11_weighCells 17 = .ok (.aload_n 2, 1) by decide +kernel))),
  List.forall_mem_cons.mpr ⟨(xOK_pure (xs_getf xcl_6 (by decide) (show decode cX11_weighCells 18 = .ok (.getfield 337, 3) by decide +kernel) xw_620)),
  List.forall_mem_cons.mpr ⟨(xOK_pure (xs_aald (t := 4) rfl (show decode cX11_weighCells 21 = .ok (.aaload, 1) by decide +kernel))),
  List.forall_mem_cons.mpr ⟨(xOK_pure (xs_astore_n (k := 3) rfl (show decode cX11_weighCells 22 = .ok (.astore_n 3, 1) by decide +kernel) (by decide))),
  List.forall_mem_cons.mpr ⟨(xOK_pure (xs_aload_n (k := 0) rfl (show decode cX11_weighCells 23 = .ok (.aload_n 0, 1) by decide +kernel))),
  List.forall_mem_cons.mpr ⟨(xOK_pure (xs_getf xcl_11 (by decide) (show decode cX11_weighCells 24 = .ok (.getfield 21, 3) by decide +kernel) xw_447)),
  List.forall_mem_cons.mpr ⟨(xOK_pure (xs_getf xcl_10 (by decide) (show decode cX11_weighCells 27 = .ok (.getfield 285, 3) by decide +kernel) xw_325)),
  List.forall_mem_cons.mpr ⟨(xOK_pure (xs_aload_n (k := 2) rfl (show decode cX11_weighCells 30 = .ok (.aload_n 2, 1) by decide +kernel))),
  List.forall_mem_cons.mpr ⟨(xOK_pure (xs_getf xcl_6 (by decide) (show decode cX11_weighCells 31 = .ok (.getfield 453, 3) by decide +kernel) xw_646)),
  List.forall_mem_cons.mpr ⟨(xOK_pure (xs_aald (t := 8) rfl (show decode cX11_weighCells 34 = .ok (.aaload, 1) by decide +kernel))),
  List.forall_mem_cons.mpr ⟨(xOK_pure (xs_getf xcl_1 (by decide) (show decode cX11_weighCells 35 = .ok (.getfield 456, 3) by decide +kernel) xw_1064)),
  (fun _ h => absurd h List.not_mem_nil)⟩⟩⟩⟩⟩⟩⟩⟩⟩⟩⟩⟩⟩⟩⟩⟩⟩⟩⟩⟩
def pX11_weighCells_1 (ev : xEv) : List (Nat × xEn) := [(38, .inl (xop (xf_aload 3 1))), (39, .inl (xop (xf_getf 3 0))), (42, .inl (xop (xf_icmp_ne 49))), (45, .inl (xop (xf_push (.int 1) 1))), (46, .inl (xop (xf_goto 50))), (49, .inl (xop (xf_push (.int 0) 1))), (50, .inl (xop (xf_istore 4 2))), (52, .inl (xop (xf_aload 2 1))), (53, .inl (xop (xf_aload 3 1))), (54, .inl (xop (xf_iload 4 2))), (56, .inl (xop (xf_aload 0 1))), (57, .inl (xop (xf_getf 11 4))), (60, .inr (.inl (0, 73, 3, 6))), (63, .inl (xop (xf_aload 3 1))), (64, .inr (.inl (0, 39, 0, 3))), (67, .inr (.inr 1))]
set_option maxRecDepth 20000 in
theorem okpX11_weighCells_1 (ev : xEv) : ∀ q ∈ pX11_weighCells_1 ev, xEnOK ev xmi yX11_weighCells.cls yX11_weighCells.name cX11_weighCells 5 (some .int) q :=
  List.forall_mem_cons.mpr ⟨(xOK_pure (xs_aload_n (k := 3) rfl (show decode cX11_weighCells 38 = .ok (.aload_n 3, 1) by decide +kernel))),
  List.forall_mem_cons.mpr ⟨(xOK_pure (xs_getf xcl_3 (by decide) (show decode cX11_weighCells 39 = .ok (.getfield 459, 3) by decide +kernel) xw_509)),
  List.forall_mem_cons.mpr ⟨(xOK_pure (xs_icmp_ne (show decode cX11_weighCells 42 = .ok (.if_icmp .ne 7, 3) by decide +kernel) (by decide))),
  List.forall_mem_cons.mpr ⟨(xOK_pure (xs_iconst (n := 1) (show decode cX11_weighCells 45 = .ok (.iconst 1, 1) by decide +kernel) (by decide))),
  List.forall_mem_cons.mpr ⟨(xOK_pure (xs_goto (show decode cX11_weighCells 46 = .ok (.goto 4, 3) by decide +kernel) (by decide))),
  List.forall_mem_cons.mpr ⟨(xOK_pure (xs_iconst (n := 0) (show decode cX11_weighCells 49 = .ok (.iconst 0, 1) by decide +kernel) (by decide))),
  List.forall_mem_cons.mpr ⟨(xOK_pure (xs_istore (show decode cX11_weighCells 50 = .ok (.istore 4, 2) by decide +kernel) (by decide))),
  List.forall_mem_cons.mpr ⟨(xOK_pure (xs_aload_n (k := 2) rfl (show decode cX11_weighCells 52 = .ok (.aload_n 2, 1) by decide +kernel))),
  List.forall_mem_cons.mpr ⟨(xOK_pure (xs_aload_n (k := 3) rfl (show decode cX11_weighCells 53 = .ok (.aload_n 3, 1) by decide +kernel))),
  List.forall_mem_cons.mpr ⟨(xOK_pure (xs_iload (show decode cX11_weighCells 54 = .ok (.iload 4, 2) by decide +kernel))),
  List.forall_mem_cons.mpr ⟨(xOK_pure (xs_aload_n (k := 0) rfl (show decode cX11_weighCells 56 = .ok (.aload_n 0, 1) by decide +kernel))),
  List.forall_mem_cons.mpr ⟨(xOK_pure (xs_getf xcl_11 (by decide) (show decode cX11_weighCells 57 = .ok (.getfield 39, 3) by decide +kernel) xw_450)),
  List.forall_mem_cons.mpr ⟨(xcm mi_73 ⟨⟨(by decide +kernel), (by decide +kernel), (by decide +kernel)⟩, (by decide), xw_1392, xw_132, Or.inl ⟨rfl, _, _, _, _, (show decode cX11_weighCells 60 = .ok (.invokevirtual 462, 3) by decide +kernel), xw_1389, xw_1390, xw_1391, rfl⟩⟩),
  List.forall_mem_cons.mpr ⟨(xOK_pure (xs_aload_n (k := 3) rfl (show decode cX11_weighCells 63 = .ok (.aload_n 3, 1) by decide +kernel))),
  List.forall_mem_cons.mpr ⟨(xcm mi_39 ⟨⟨(by decide +kernel), (by decide +kernel), (by decide +kernel)⟩, (by decide), xw_1376, xw_126, Or.inl ⟨rfl, _, _, _, _, (show decode cX11_weighCells 64 = .ok (.invokevirtual 466, 3) by decide +kernel), xw_1373, xw_1374, xw_1375, rfl⟩⟩),
  List.forall_mem_cons.mpr ⟨(Or.inr (Or.inl ⟨rfl, (show decode cX11_weighCells 67 = .ok (.ireturn, 1) by decide +kernel), rfl⟩)),
  (fun _ h => absurd h List.not_mem_nil)⟩⟩⟩⟩⟩⟩⟩⟩⟩⟩⟩⟩⟩⟩⟩⟩
def pX11_weighCells (ev : xEv) : List (Nat × xEn) := pX11_weighCells_0 ev ++ (pX11_weighCells_1 ev)
theorem okpX11_weighCells (ev : xEv) : ∀ q ∈ pX11_weighCells ev, xEnOK ev xmi yX11_weighCells.cls yX11_weighCells.name cX11_weighCells 5 (some .int) q := List.forall_mem_append.mpr ⟨okpX11_weighCells_0 ev, okpX11_weighCells_1 ev⟩
theorem omX11_weighCells (ev : xEv) : xMethOK ev xmi yX11_weighCells.cls yX11_weighCells.name 165 (pX11_weighCells ev) := xMethOK.of mi_165 (by decide +kernel) (okpX11_weighCells ev)
def pX11_needs (ev : xEv) : List (Nat × xEn) := [(0, .inl (xop (xf_aload 0 1))), (1, .inl (xop (xf_getf 11 2))), (4, .inl (xop (xf_aload 0 1))), (5, .inl (xop (xf_getf 11 1))), (8, .inr (.inl (0, 79, 1, 7))), (11, .inr (.inr 1))]
set_option maxRecDepth 20000 in
theorem okpX11_needs (ev : xEv) : ∀ q ∈ pX11_needs ev, xEnOK ev xmi yX11_needs.cls yX11_needs.name cX11_needs 1 (some .int) q :=
  List.forall_mem_cons.mpr ⟨(xOK_pure (xs_aload_n (k := 0) rfl (show decode cX11_needs 0 = .ok (.aload_n 0, 1) by decide +kernel))),
  List.forall_mem_cons.mpr ⟨(xOK_pure (xs_getf xcl_11 (by decide) (show decode cX11_needs 1 = .ok (.getfield 28, 3) by decide +kernel) xw_448)),
  List.forall_mem_cons.mpr ⟨(xOK_pure (xs_aload_n (k := 0) rfl (show decode cX11_needs 4 = .ok (.aload_n 0, 1) by decide +kernel))),
  List.forall_mem_cons.mpr ⟨(xOK_pure (xs_getf xcl_11 (by decide) (show decode cX11_needs 5 = .ok (.getfield 21, 3) by decide +kernel) xw_447)),
  List.forall_mem_cons.mpr ⟨(xcm mi_79 ⟨⟨(by decide +kernel), (by decide +kernel), (by decide +kernel)⟩, (by decide), xw_1411, xw_123, Or.inl ⟨rfl, _, _, _, _, (show decode cX11_needs 8 = .ok (.invokevirtual 469, 3) by decide +kernel), xw_1408, xw_1409, xw_1410, rfl⟩⟩),
  List.forall_mem_cons.mpr ⟨(Or.inr (Or.inl ⟨rfl, (show decode cX11_needs 11 = .ok (.ireturn, 1) by decide +kernel), rfl⟩)),
  (fun _ h => absurd h List.not_mem_nil)⟩⟩⟩⟩⟩⟩
theorem omX11_needs (ev : xEv) : xMethOK ev xmi yX11_needs.cls yX11_needs.name 166 (pX11_needs ev) := xMethOK.of mi_166 (by decide +kernel) (okpX11_needs ev)
def pX11_send_0 (ev : xEv) : List (Nat × xEn) := [(0, .inl (xop (xf_aload 0 1))), (1, .inl (xop (xf_getf 11 2))), (4, .inl (xop (xf_aload 0 1))), (5, .inl (xop (xf_getf 11 1))), (8, .inr (.inl (0, 80, 1, 7))), (11, .inl (xop (xf_istore 1 1))), (12, .inl (xop (xf_push (.int 0) 1))), (13, .inl (xop (xf_istore 2 1))), (14, .inl (xop (xf_iload 2 1))), (15, .inl (xop (xf_aload 0 1))), (16, .inl (xop (xf_getf 11 2))), (19, .inl (xop (xf_getf 7 2))), (22, .inl (xop (xf_icmp_ge 84))), (25, .inl (xop (xf_aload 0 1))), (26, .inl (xop (xf_getf 11 7))), (29, .inl (xop (xf_iload 2 1))), (30, .inl (xop (xf_aload 0 1))), (31, .inl (xop (xf_getf 11 2))), (34, .inl (xop (xf_getf 7 1))), (37, .inl (xop (xf_iload 2 1)))]
set_option maxRecDepth 20000 in
theorem okpX11_send_0 (ev : xEv) : ∀ q ∈ pX11_send_0 ev, xEnOK ev xmi yX11_send.cls yX11_send.name cX11_send 3 (some .int) q :=
  List.forall_mem_cons.mpr ⟨(xOK_pure (xs_aload_n (k := 0) rfl (show decode cX11_send 0 = .ok (.aload_n 0, 1) by decide +kernel))),
  List.forall_mem_cons.mpr ⟨(xOK_pure (xs_getf xcl_11 (by decide) (show decode cX11_send 1 = .ok (.getfield 28, 3) by decide +kernel) xw_448)),
  List.forall_mem_cons.mpr ⟨(xOK_pure (xs_aload_n (k := 0) rfl (show decode cX11_send 4 = .ok (.aload_n 0, 1) by decide +kernel))),
  List.forall_mem_cons.mpr ⟨(xOK_pure (xs_getf xcl_11 (by decide) (show decode cX11_send 5 = .ok (.getfield 21, 3) by decide +kernel) xw_447)),
  List.forall_mem_cons.mpr ⟨(xcm mi_80 ⟨⟨(by decide +kernel), (by decide +kernel), (by decide +kernel)⟩, (by decide), xw_1419, xw_123, Or.inl ⟨rfl, _, _, _, _, (show decode cX11_send 8 = .ok (.invokevirtual 473, 3) by decide +kernel), xw_1416, xw_1417, xw_1418, rfl⟩⟩),
  List.forall_mem_cons.mpr ⟨(xOK_pure (xs_istore_n (k := 1) rfl (show decode cX11_send 11 = .ok (.istore_n 1, 1) by decide +kernel) (by decide))),
  List.forall_mem_cons.mpr ⟨(xOK_pure (xs_iconst (n := 0) (show decode cX11_send 12 = .ok (.iconst 0, 1) by decide +kernel) (by decide))),
  List.forall_mem_cons.mpr ⟨(xOK_pure (xs_istore_n (k := 2) rfl (show decode cX11_send 13 = .ok (.istore_n 2, 1) by decide +kernel) (by decide))),
  List.forall_mem_cons.mpr ⟨(xOK_pure (xs_iload_n (k := 2) rfl (show decode cX11_send 14 = .ok (.iload_n 2, 1) by decide +kernel))),
  List.forall_mem_cons.mpr ⟨(xOK_pure (xs_aload_n (k := 0) rfl (show decode cX11_send 15 = .ok (.aload_n 0, 1) by decide +kernel))),
  List.forall_mem_cons.mpr ⟨(xOK_pure (xs_getf xcl_11 (by decide) (show decode cX11_send 16 = .ok (.getfield 28, 3) by decide +kernel) xw_448)),
  List.forall_mem_cons.mpr ⟨(xOK_pure (xs_getf xcl_7 (by decide) (show decode cX11_send 19 = .ok (.getfield 476, 3) by decide +kernel) xw_392)),
  List.forall_mem_cons.mpr ⟨(xOK_pure (xs_icmp_ge (show decode cX11_send 22 = .ok (.if_icmp .ge 62, 3) by decide +kernel) (by decide))),
  List.forall_mem_cons.mpr ⟨(xOK_pure (xs_aload_n (k := 0) rfl (show decode cX11_send 25 = .ok (.aload_n 0, 1) by decide +kernel))),
  List.forall_mem_cons.mpr ⟨(xOK_pure (xs_getf xcl_11 (by decide) (show decode cX11_send 26 = .ok (.getfield 49, 3) by decide +kernel) xw_453)),
  List.forall_mem_cons.mpr ⟨(xOK_pure (xs_iload_n (k := 2) rfl (show decode cX11_send 29 = .ok (.iload_n 2, 1) by decide +kernel))),
  List.forall_mem_cons.mpr ⟨(xOK_pure (xs_aload_n (k := 0) rfl (show decode cX11_send 30 = .ok (.aload_n 0, 1) by decide +kernel))),
  List.forall_mem_cons.mpr ⟨(xOK_pure (xs_getf xcl_11 (by decide) (show decode cX11_send 31 = .ok (.getfield 28, 3) by decide +kernel) xw_448)),
  List.forall_mem_cons.mpr ⟨(xOK_pure (xs_getf xcl_7 (by decide) (show decode cX11_send 34 = .ok (.getfield 477, 3) by decide +kernel) xw_390)),
  List.forall_mem_cons.mpr ⟨(xOK_pure (xs_iload_n (k := 2) rfl (show decode cX11_send 37 = .ok (.iload_n 2, 1) by decide +kernel))),
  (fun _ h => absurd h List.not_mem_nil)⟩⟩⟩⟩⟩⟩⟩⟩⟩⟩⟩⟩⟩⟩⟩⟩⟩⟩⟩⟩
def pX11_send_1 (ev : xEv) : List (Nat × xEn) := [(38, .inl (xop (xf_ald (ev.1 0)))), (39, .inl (xo_ast (ev.1 0) (fun x => x))), (40, .inl (xop (xf_aload 0 1))), (41, .inl (xop (xf_getf 11 2))), (44, .inl (xop (xf_getf 7 1))), (47, .inl (xop (xf_iload 2 1))), (48, .inl (xop (xf_ald (ev.1 0)))), (49, .inl (xop (xf_push (.int (-1)) 1))), (50, .inl (xop (xf_icmp_eq 78))), (53, .inl (xop (xf_aload 0 1))), (54, .inl (xop (xf_getf 11 1))), (57, .inl (xop (xf_aload 0 1))), (58, .inl (xop (xf_getf 11 2))), (61, .inl (xop (xf_getf 7 0))), (64, .inl (xop (xf_iload 2 1))), (65, .inl (xop (xf_ald (ev.1 0)))), (66, .inl (xop (xf_aload 0 1))), (67, .inl (xop (xf_getf 11 2))), (70, .inl (xop (xf_getf 7 1))), (73, .inl (xop (xf_iload 2 1)))]
set_option maxRecDepth 20000 in
theorem okpX11_send_1 (ev : xEv) : ∀ q ∈ pX11_send_1 ev, xEnOK ev xmi yX11_send.cls yX11_send.name cX11_send 3 (some .int) q :=
  List.forall_mem_cons.mpr ⟨(xOK_pure (xs_iald (show decode cX11_send 38 = .ok (.iaload, 1) by decide +kernel))),
  List.forall_mem_cons.mpr ⟨(xs_iast (show decode cX11_send 39 = .ok (.iastore, 1) by decide +kernel)),
  List.forall_mem_cons.mpr ⟨(xOK_pure (xs_aload_n (k := 0) rfl (show decode cX11_send 40 = .ok (.aload_n 0, 1) by decide +kernel))),
  List.forall_mem_cons.mpr ⟨(xOK_pure (xs_getf xcl_11 (by decide) (show decode cX11_send 41 = .ok (.getfield 28, 3) by decide +kernel) xw_448)),
  List.forall_mem_cons.mpr ⟨(xOK_pure (xs_getf xcl_7 (by decide) (show decode cX11_send 44 = .ok (.getfield 477, 3) by decide +kernel) xw_390)),
  List.forall_mem_cons.mpr ⟨(xOK_pure (xs_iload_n (k := 2) rfl (show decode cX11_send 47 = .ok (.iload_n 2, 1) by decide +kernel))),
  List.forall_mem_cons.mpr ⟨(xOK_pure (xs_iald (show decode cX11_send 48 = .ok (.iaload, 1) by decide +kernel))),
  List.forall_mem_cons.mpr ⟨(xOK_pure (xs_iconst (n := (-1)) (show decode cX11_send 49 = .ok (.iconst (-1), 1) by decide +kernel) (by decide))),
  List.forall_mem_cons.mpr ⟨(xOK_pure (xs_icmp_eq (show decode cX11_send 50 = .ok (.if_icmp .eq 28, 3) by decide +kernel) (by decide))),
  List.forall_mem_cons.mpr ⟨(xOK_pure (xs_aload_n (k := 0) rfl (show decode cX11_send 53 = .ok (.aload_n 0, 1) by decide +kernel))),
  List.forall_mem_cons.mpr ⟨(xOK_pure (xs_getf xcl_11 (by decide) (show decode cX11_send 54 = .ok (.getfield 21, 3) by decide +kernel) xw_447)),
  List.forall_mem_cons.mpr ⟨(xOK_pure (xs_aload_n (k := 0) rfl (show decode cX11_send 57 = .ok (.aload_n 0, 1) by decide +kernel))),
  List.forall_mem_cons.mpr ⟨(xOK_pure (xs_getf xcl_11 (by decide) (show decode cX11_send 58 = .ok (.getfield 28, 3) by decide +kernel) xw_448)),
  List.forall_mem_cons.mpr ⟨(xOK_pure (xs_getf xcl_7 (by decide) (show decode cX11_send 61 = .ok (.getfield 479, 3) by decide +kernel) xw_388)),
  List.forall_mem_cons.mpr ⟨(xOK_pure (xs_iload_n (k := 2) rfl (show decode cX11_send 64 = .ok (.iload_n 2, 1) by decide +kernel))),
  List.forall_mem_cons.mpr ⟨(xOK_pure (xs_iald (show decode cX11_send 65 = .ok (.iaload, 1) by decide +kernel))),
  List.forall_mem_cons.mpr ⟨(xOK_pure (xs_aload_n (k := 0) rfl (show decode cX11_send 66 = .ok (.aload_n 0, 1) by decide +kernel))),
  List.forall_mem_cons.mpr ⟨(xOK_pure (xs_getf xcl_11 (by decide) (show decode cX11_send 67 = .ok (.getfield 28, 3) by decide +kernel) xw_448)),
  List.forall_mem_cons.mpr ⟨(xOK_pure (xs_getf xcl_7 (by decide) (show decode cX11_send 70 = .ok (.getfield 477, 3) by decide +kernel) xw_390)),
  List.forall_mem_cons.mpr ⟨(xOK_pure (xs_iload_n (k := 2) rfl (show decode cX11_send 73 = .ok (.iload_n 2, 1) by decide +kernel))),
  (fun _ h => absurd h List.not_mem_nil)⟩⟩⟩⟩⟩⟩⟩⟩⟩⟩⟩⟩⟩⟩⟩⟩⟩⟩⟩⟩
def pX11_send_2 (ev : xEv) : List (Nat × xEn) := [(74, .inl (xop (xf_ald (ev.1 0)))), (75, .inr (.inl (0, 116, 2, 10))), (78, .inl (xop (xf_iinc 2 1))), (81, .inl (xop (xf_goto 14))), (84, .inl (xop (xf_aload 0 1))), (85, .inl (xop (xf_aload 0 1))), (86, .inl (xop (xf_getf 11 2))), (89, .inl (xop (xf_getf 7 2))), (92, .inl (xo_putf 11 8 .int)), (95, .inl (xop (xf_iload 1 1))), (96, .inr (.inr 1))]
set_option maxRecDepth 20000 in
theorem okpX11_send_2 (ev : xEv) : ∀ q ∈ pX11_send_2 ev, xEnOK ev xmi yX11_send.cls yX11_send.name cX11_send 3 (some .int) q :=
  List.forall_mem_cons.mpr ⟨(xOK_pure (xs_iald (show decode cX11_send 74 = .ok (.iaload, 1) by decide +kernel))),
  List.forall_mem_cons.mpr ⟨(xcm mi_116 ⟨⟨(by decide +kernel), (by decide +kernel), (by decide +kernel)⟩, (by decide), xw_1458, xw_120, Or.inl ⟨rfl, _, _, _, _, (show decode cX11_send 75 = .ok (.invokevirtual 482, 3) by decide +kernel), xw_1455, xw_1456, xw_1457, rfl⟩⟩),
  List.forall_mem_cons.mpr ⟨(xOK_pure (xs_iinc (n := 1) (show decode cX11_send 78 = .ok (.iinc 2 1, 3) by decide +kernel) (by decide) (by decide))),
  List.forall_mem_cons.mpr ⟨(xOK_pure (xs_goto (show decode cX11_send 81 = .ok (.goto (-67), 3) by decide +kernel) (by decide))),
  List.forall_mem_cons.mpr ⟨(xOK_pure (xs_aload_n (k := 0) rfl (show decode cX11_send 84 = .ok (.aload_n 0, 1) by decide +kernel))),
  List.forall_mem_cons.mpr ⟨(xOK_pure (xs_aload_n (k := 0) rfl (show decode cX11_send 85 = .ok (.aload_n 0, 1) by decide +kernel))),
  List.forall_mem_cons.mpr ⟨(xOK_pure (xs_getf xcl_11 (by decide) (show decode cX11_send 86 = .ok (.getfield 28, 3) by decide +kernel) xw_448)),
  List.forall_mem_cons.mpr ⟨(xOK_pure (xs_getf xcl_7 (by decide) (show decode cX11_send 89 = .ok (.getfield 476, 3) by decide +kernel) xw_392)),
  List.forall_mem_cons.mpr ⟨(xs_putf (k := 8) xcl_11 (by decide) rfl (show decode cX11_send 92 = .ok (.putfield 327, 3) by decide +kernel) xw_454),
  List.forall_mem_cons.mpr ⟨(xOK_pure (xs_iload_n (k := 1) rfl (show decode cX11_send 95 = .ok (.iload_n 1, 1) by decide +kernel))),
  List.forall_mem_cons.mpr ⟨(Or.inr (Or.inl ⟨rfl, (show decode cX11_send 96 = .ok (.ireturn, 1) by decide +kernel), rfl⟩)),
  (fun _ h => absurd h List.not_mem_nil)⟩⟩⟩⟩⟩⟩⟩⟩⟩⟩⟩
def pX11_send (ev : xEv) : List (Nat × xEn) := pX11_send_0 ev ++ (pX11_send_1 ev ++ (pX11_send_2 ev))
theorem okpX11_send (ev : xEv) : ∀ q ∈ pX11_send ev, xEnOK ev xmi yX11_send.cls yX11_send.name cX11_send 3 (some .int) q := List.forall_mem_append.mpr ⟨okpX11_send_0 ev, List.forall_mem_append.mpr ⟨okpX11_send_1 ev, okpX11_send_2 ev⟩⟩
theorem omX11_send (ev : xEv) : xMethOK ev xmi yX11_send.cls yX11_send.name 167 (pX11_send ev) := xMethOK.of mi_167 (by decide +kernel) (okpX11_send ev)
def pX11_plan_0 (ev : xEv) : List (Nat × xEn) := [(0, .inl (xop (xf_aload 0 1))), (1, .inl (xop (xf_iload 1 1))), (2, .inr (.inl (0, 172, 1, 11))), (5, .inl (xop (xf_if_ne 10))), (8, .inl (xop (xf_push (.int (-1)) 1))), (9, .inr (.inr 1)), (10, .inl (xop (xf_push (.int 6) 2))), (12, .inl (xo_newa (ev.1 0) (.inl (fun _ => 0)))), (14, .inl (xop (xf_astore 2 1))), (15, .inl (xop (xf_aload 0 1))), (16, .inl (xop (xf_getf 11 1))), (19, .inl (xop (xf_aload 2 1))), (20, .inr (.inl (0, 123, 1, 10))), (23, .inl (xop (xf_istore 3 1))), (24, .inl (xop (xf_push (.int 0) 1))), (25, .inl (xop (xf_istore 4 2))), (27, .inl (xop (xf_push (.int 0) 1))), (28, .inl (xop (xf_istore 5 2))), (30, .inl (xop (xf_aload 0 1))), (31, .inl (xop (xf_getf 11 1)))]
set_option maxRecDepth 20000 in
theorem okpX11_plan_0 (ev : xEv) : ∀ q ∈ pX11_plan_0 ev, xEnOK ev xmi yX11_plan.cls yX11_plan.name cX11_plan 9 (some .int) q :=
  List.forall_mem_cons.mpr ⟨(xOK_pure (xs_aload_n (k := 0) rfl (show decode cX11_plan 0 = .ok (.aload_n 0, 1) by decide +kernel))),
  List.forall_mem_cons.mpr ⟨(xOK_pure (xs_iload_n (k := 1) rfl (show decode cX11_plan 1 = .ok (.iload_n 1, 1) by decide +kernel))),
  List.forall_mem_cons.mpr ⟨(xcm mi_172 ⟨⟨(by decide +kernel), (by decide +kernel), (by decide +kernel)⟩, (by decide), xw_1467, xw_118, Or.inl ⟨rfl, _, _, _, _, (show decode cX11_plan 2 = .ok (.invokevirtual 485, 3) by decide +kernel), xw_1464, xw_1466, xw_50, rfl⟩⟩),
  List.forall_mem_cons.mpr ⟨(xOK_pure (xs_if_ne (show decode cX11_plan 5 = .ok (.ifCond .ne 5, 3) by decide +kernel) (by decide))),
  List.forall_mem_cons.mpr ⟨(xOK_pure (xs_iconst (n := (-1)) (show decode cX11_plan 8 = .ok (.iconst (-1), 1) by decide +kernel) (by decide))),
  List.forall_mem_cons.mpr ⟨(Or.inr (Or.inl ⟨rfl, (show decode cX11_plan 9 = .ok (.ireturn, 1) by decide +kernel), rfl⟩)),
  List.forall_mem_cons.mpr ⟨(xOK_pure (xs_bipush (n := 6) (show decode cX11_plan 10 = .ok (.bipush 6, 2) by decide +kernel) (by decide))),
  List.forall_mem_cons.mpr ⟨(xs_newa (t := 0) (ty := .int) rfl rfl (fun _ _ => rfl) (by decide) (show decode cX11_plan 12 = .ok (.newarray .int, 2) by decide +kernel) xw_209),
  List.forall_mem_cons.mpr ⟨(xOK_pure (xs_astore_n (k := 2) rfl (show decode cX11_plan 14 = .ok (.astore_n 2, 1) by decide +kernel) (by decide))),
  List.forall_mem_cons.mpr ⟨(xOK_pure (xs_aload_n (k := 0) rfl (show decode cX11_plan 15 = .ok (.aload_n 0, 1) by decide +kernel))),
  List.forall_mem_cons.mpr ⟨(xOK_pure (xs_getf xcl_11 (by decide) (show decode cX11_plan 16 = .ok (.getfield 21, 3) by decide +kernel) xw_447)),
  List.forall_mem_cons.mpr ⟨(xOK_pure (xs_aload_n (k := 2) rfl (show decode cX11_plan 19 = .ok (.aload_n 2, 1) by decide +kernel))),
  List.forall_mem_cons.mpr ⟨(xcm mi_123 ⟨⟨(by decide +kernel), (by decide +kernel), (by decide +kernel)⟩, (by decide), xw_1471, xw_120, Or.inl ⟨rfl, _, _, _, _, (show decode cX11_plan 20 = .ok (.invokevirtual 488, 3) by decide +kernel), xw_1468, xw_1469, xw_1470, rfl⟩⟩),
  List.forall_mem_cons.mpr ⟨(xOK_pure (xs_istore_n (k := 3) rfl (show decode cX11_plan 23 = .ok (.istore_n 3, 1) by decide +kernel) (by decide))),
  List.forall_mem_cons.mpr ⟨(xOK_pure (xs_iconst (n := 0) (show decode cX11_plan 24 = .ok (.iconst 0, 1) by decide +kernel) (by decide))),
  List.forall_mem_cons.mpr ⟨(xOK_pure (xs_istore (show decode cX11_plan 25 = .ok (.istore 4, 2) by decide +kernel) (by decide))),
  List.forall_mem_cons.mpr ⟨(xOK_pure (xs_iconst (n := 0) (show decode cX11_plan 27 = .ok (.iconst 0, 1) by decide +kernel) (by decide))),
  List.forall_mem_cons.mpr ⟨(xOK_pure (xs_istore (show decode cX11_plan 28 = .ok (.istore 5, 2) by decide +kernel) (by decide))),
  List.forall_mem_cons.mpr ⟨(xOK_pure (xs_aload_n (k := 0) rfl (show decode cX11_plan 30 = .ok (.aload_n 0, 1) by decide +kernel))),
  List.forall_mem_cons.mpr ⟨(xOK_pure (xs_getf xcl_11 (by decide) (show decode cX11_plan 31 = .ok (.getfield 21, 3) by decide +kernel) xw_447)),
  (fun _ h => absurd h List.not_mem_nil)⟩⟩⟩⟩⟩⟩⟩⟩⟩⟩⟩⟩⟩⟩⟩⟩⟩⟩⟩⟩
def pX11_plan_1 (ev : xEv) : List (Nat × xEn) := [(34, .inr (.inl (0, 125, 0, 10))), (37, .inl (xop (xf_push (.int 0) 1))), (38, .inl (xop (xf_istore 6 2))), (40, .inl (xop (xf_iload 6 2))), (42, .inl (xop (xf_push (.int 1) 1))), (43, .inl (xop (xf_iload 3 1))), (44, .inl (xop (xf_bin (fun x y => x <<< (y &&& 31))))), (45, .inl (xop (xf_icmp_ge 141))), (48, .inl (xop (xf_aload 0 1))), (49, .inl (xop (xf_getf 11 1))), (52, .inl (xop (xf_aload 2 1))), (53, .inl (xop (xf_iload 3 1))), (54, .inl (xop (xf_iload 6 2))), (56, .inr (.inl (0, 124, 3, 10))), (59, .inl (xop (xf_aload 0 1))), (60, .inl (xop (xf_getf 11 1))), (63, .inl (xop (xf_iload 1 1))), (64, .inr (.inl (0, 97, 1, 10))), (67, .inl (xop (xf_aload 0 1))), (68, .inl (xop (xf_getf 11 1)))]
set_option maxRecDepth 20000 in
theorem okpX11_plan_1 (ev : xEv) : ∀ q ∈ pX11_plan_1 ev, xEnOK ev xmi yX11_plan.cls yX11_plan.name cX11_plan 9 (some .int) q :=
  List.forall_mem_cons.mpr ⟨(xcm mi_125 ⟨⟨(by decide +kernel), (by decide +kernel), (by decide +kernel)⟩, (by decide), xw_1475, xw_120, Or.inl ⟨rfl, _, _, _, _, (show decode cX11_plan 34 = .ok (.invokevirtual 492, 3) by decide +kernel), xw_1472, xw_1473, xw_1474, rfl⟩⟩),
  List.forall_mem_cons.mpr ⟨(xOK_pure (xs_iconst (n := 0) (show decode cX11_plan 37 = .ok (.iconst 0, 1) by decide +kernel) (by decide))),
  List.forall_mem_cons.mpr ⟨(xOK_pure (xs_istore (show decode cX11_plan 38 = .ok (.istore 6, 2) by decide +kernel) (by decide))),
  List.forall_mem_cons.mpr ⟨(xOK_pure (xs_iload (show decode cX11_plan 40 = .ok (.iload 6, 2) by decide +kernel))),
  List.forall_mem_cons.mpr ⟨(xOK_pure (xs_iconst (n := 1) (show decode cX11_plan 42 = .ok (.iconst 1, 1) by decide +kernel) (by decide))),
  List.forall_mem_cons.mpr ⟨(xOK_pure (xs_iload_n (k := 3) rfl (show decode cX11_plan 43 = .ok (.iload_n 3, 1) by decide +kernel))),
  List.forall_mem_cons.mpr ⟨(xOK_pure (xs_ishl (show decode cX11_plan 44 = .ok (.ishl, 1) by decide +kernel))),
  List.forall_mem_cons.mpr ⟨(xOK_pure (xs_icmp_ge (show decode cX11_plan 45 = .ok (.if_icmp .ge 96, 3) by decide +kernel) (by decide))),
  List.forall_mem_cons.mpr ⟨(xOK_pure (xs_aload_n (k := 0) rfl (show decode cX11_plan 48 = .ok (.aload_n 0, 1) by decide +kernel))),
  List.forall_mem_cons.mpr ⟨(xOK_pure (xs_getf xcl_11 (by decide) (show decode cX11_plan 49 = .ok (.getfield 21, 3) by decide +kernel) xw_447)),
  List.forall_mem_cons.mpr ⟨(xOK_pure (xs_aload_n (k := 2) rfl (show decode cX11_plan 52 = .ok (.aload_n 2, 1) by decide +kernel))),
  List.forall_mem_cons.mpr ⟨(xOK_pure (xs_iload_n (k := 3) rfl (show decode cX11_plan 53 = .ok (.iload_n 3, 1) by decide +kernel))),
  List.forall_mem_cons.mpr ⟨(xOK_pure (xs_iload (show decode cX11_plan 54 = .ok (.iload 6, 2) by decide +kernel))),
  List.forall_mem_cons.mpr ⟨(xcm mi_124 ⟨⟨(by decide +kernel), (by decide +kernel), (by decide +kernel)⟩, (by decide), xw_1515, xw_120, Or.inl ⟨rfl, _, _, _, _, (show decode cX11_plan 56 = .ok (.invokevirtual 495, 3) by decide +kernel), xw_1512, xw_1513, xw_1514, rfl⟩⟩),
  List.forall_mem_cons.mpr ⟨(xOK_pure (xs_aload_n (k := 0) rfl (show decode cX11_plan 59 = .ok (.aload_n 0, 1) by decide +kernel))),
  List.forall_mem_cons.mpr ⟨(xOK_pure (xs_getf xcl_11 (by decide) (show decode cX11_plan 60 = .ok (.getfield 21, 3) by decide +kernel) xw_447)),
  List.forall_mem_cons.mpr ⟨(xOK_pure (xs_iload_n (k := 1) rfl (show decode cX11_plan 63 = .ok (.iload_n 1, 1) by decide +kernel))),
  List.forall_mem_cons.mpr ⟨(xcm mi_97 ⟨⟨(by decide +kernel), (by decide +kernel), (by decide +kernel)⟩, (by decide), xw_1118, xw_120, Or.inl ⟨rfl, _, _, _, _, (show decode cX11_plan 64 = .ok (.invokevirtual 303, 3) by decide +kernel), xw_1115, xw_1116, xw_1117, rfl⟩⟩),
  List.forall_mem_cons.mpr ⟨(xOK_pure (xs_aload_n (k := 0) rfl (show decode cX11_plan 67 = .ok (.aload_n 0, 1) by decide +kernel))),
  List.forall_mem_cons.mpr ⟨(xOK_pure (xs_getf xcl_11 (by decide) (show decode cX11_plan 68 = .ok (.getfield 21, 3) by decide +kernel) xw_447)),
  (fun _ h => absurd h List.not_mem_nil)⟩⟩⟩⟩⟩⟩⟩⟩⟩⟩⟩⟩⟩⟩⟩⟩⟩⟩⟩⟩
def pX11_plan_2 (ev : xEv) : List (Nat × xEn) := [(71, .inr (.inl (0, 120, 0, 10))), (74, .inl (xop (xf_istore 7 2))), (76, .inl (xop (xf_aload 0 1))), (77, .inl (xop (xf_getf 11 1))), (80, .inr (.inl (0, 126, 0, 10))), (83, .inl (xop (xf_iload 7 2))), (85, .inl (xop (xf_iload 5 2))), (87, .inl (xop (xf_icmp_ne 107))), (90, .inl (xop (xf_iload 6 2))), (92, .inr (.inl (1, 300, 1, 99))), (95, .inl (xop (xf_iload 4 2))), (97, .inr (.inl (1, 300, 1, 99))), (100, .inl (xop (xf_icmp_ge 107))), (103, .inl (xop (xf_push (.int 1) 1))), (104, .inl (xop (xf_goto 108))), (107, .inl (xop (xf_push (.int 0) 1))), (108, .inl (xop (xf_istore 8 2))), (110, .inl (xop (xf_iload 6 2))), (112, .inl (xop (xf_if_eq 127))), (115, .inl (xop (xf_iload 7 2)))]
set_option maxRecDepth 20000 in
theorem okpX11_plan_2 (ev : xEv) : ∀ q ∈ pX11_plan_2 ev, xEnOK ev xmi yX11_plan.cls yX11_plan.name cX11_plan 9 (some .int) q :=
  List.forall_mem_cons.mpr ⟨(xcm mi_120 ⟨⟨(by decide +kernel), (by decide +kernel), (by decide +kernel)⟩, (by decide), xw_1346, xw_120, Or.inl ⟨rfl, _, _, _, _, (show decode cX11_plan 71 = .ok (.invokevirtual 421, 3) by decide +kernel), xw_1343, xw_1344, xw_1345, rfl⟩⟩),
  List.forall_mem_cons.mpr ⟨(xOK_pure (xs_istore (show decode cX11_plan 74 = .ok (.istore 7, 2) by decide +kernel) (by decide))),
  List.forall_mem_cons.mpr ⟨(xOK_pure (xs_aload_n (k := 0) rfl (show decode cX11_plan 76 = .ok (.aload_n 0, 1) by decide +kernel))),
  List.forall_mem_cons.mpr ⟨(xOK_pure (xs_getf xcl_11 (by decide) (show decode cX11_plan 77 = .ok (.getfield 21, 3) by decide +kernel) xw_447)),
  List.forall_mem_cons.mpr ⟨(xcm mi_126 ⟨⟨(by decide +kernel), (by decide +kernel), (by decide +kernel)⟩, (by decide), xw_1519, xw_120, Or.inl ⟨rfl, _, _, _, _, (show decode cX11_plan 80 = .ok (.invokevirtual 499, 3) by decide +kernel), xw_1516, xw_1517, xw_1518, rfl⟩⟩),
  List.forall_mem_cons.mpr ⟨(xOK_pure (xs_iload (show decode cX11_plan 83 = .ok (.iload 7, 2) by decide +kernel))),
  List.forall_mem_cons.mpr ⟨(xOK_pure (xs_iload (show decode cX11_plan 85 = .ok (.iload 5, 2) by decide +kernel))),
  List.forall_mem_cons.mpr ⟨(xOK_pure (xs_icmp_ne (show decode cX11_plan 87 = .ok (.if_icmp .ne 20, 3) by decide +kernel) (by decide))),
  List.forall_mem_cons.mpr ⟨(xOK_pure (xs_iload (show decode cX11_plan 90 = .ok (.iload 6, 2) by decide +kernel))),
  List.forall_mem_cons.mpr ⟨(xcm mi_300 ⟨⟨(by decide +kernel), (by decide +kernel), (by decide +kernel)⟩, (by decide), xw_1538, xw_143, Or.inr (Or.inl ⟨rfl, _, (show decode cX11_plan 92 = .ok (.invokestatic 502, 3) by decide +kernel), xw_1536, xw_1537⟩)⟩),
  List.forall_mem_cons.mpr ⟨(xOK_pure (xs_iload (show decode cX11_plan 95 = .ok (.iload 4, 2) by decide +kernel))),
  List.forall_mem_cons.mpr ⟨(xcm mi_300 ⟨⟨(by decide +kernel), (by decide +kernel), (by decide +kernel)⟩, (by decide), xw_1538, xw_143, Or.inr (Or.inl ⟨rfl, _, (show decode cX11_plan 97 = .ok (.invokestatic 502, 3) by decide +kernel), xw_1536, xw_1537⟩)⟩),
  List.forall_mem_cons.mpr ⟨(xOK_pure (xs_icmp_ge (show decode cX11_plan 100 = .ok (.if_icmp .ge 7, 3) by decide +kernel) (by decide))),
  List.forall_mem_cons.mpr ⟨(xOK_pure (xs_iconst (n := 1) (show decode cX11_plan 103 = .ok (.iconst 1, 1) by decide +kernel) (by decide))),
  List.forall_mem_cons.mpr ⟨(xOK_pure (xs_goto (show decode cX11_plan 104 = .ok (.goto 4, 3) by decide +kernel) (by decide))),
  List.forall_mem_cons.mpr ⟨(xOK_pure (xs_iconst (n := 0) (show decode cX11_plan 107 = .ok (.iconst 0, 1) by decide +kernel) (by decide))),
  List.forall_mem_cons.mpr ⟨(xOK_pure (xs_istore (show decode cX11_plan 108 = .ok (.istore 8, 2) by decide +kernel) (by decide))),
  List.forall_mem_cons.mpr ⟨(xOK_pure (xs_iload (show decode cX11_plan 110 = .ok (.iload 6, 2) by decide +kernel))),
  List.forall_mem_cons.mpr ⟨(xOK_pure (xs_if_eq (show decode cX11_plan 112 = .ok (.ifCond .eq 15, 3) by decide +kernel) (by decide))),
  List.forall_mem_cons.mpr ⟨(xOK_pure (xs_iload (show decode cX11_plan 115 = .ok (.iload 7, 2) by decide +kernel))),
  (fun _ h => absurd h List.not_mem_nil)⟩⟩⟩⟩⟩⟩⟩⟩⟩⟩⟩⟩⟩⟩⟩⟩⟩⟩⟩⟩
def pX11_plan_3 (ev : xEv) : List (Nat × xEn) := [(117, .inl (xop (xf_iload 5 2))), (119, .inl (xop (xf_icmp_gt 127))), (122, .inl (xop (xf_iload 8 2))), (124, .inl (xop (xf_if_eq 135))), (127, .inl (xop (xf_iload 6 2))), (129, .inl (xop (xf_istore 4 2))), (131, .inl (xop (xf_iload 7 2))), (133, .inl (xop (xf_istore 5 2))), (135, .inl (xop (xf_iinc 6 1))), (138, .inl (xop (xf_goto 40))), (141, .inl (xop (xf_aload 0 1))), (142, .inl (xop (xf_getf 11 7))), (145, .inl (xop (xf_push (.int 0) 1))), (146, .inl (xop (xf_iload 4 2))), (148, .inl (xo_ast (ev.1 0) (fun x => x))), (149, .inl (xop (xf_aload 0 1))), (150, .inl (xop (xf_push (.int 1) 1))), (151, .inl (xo_putf 11 8 .int)), (154, .inl (xop (xf_iload 5 2))), (156, .inr (.inr 1))]
set_option maxRecDepth 20000 in
theorem okpX11_plan_3 (ev : xEv) : ∀ q ∈ pX11_plan_3 ev, xEnOK ev xmi yX11_plan.cls yX11_plan.name cX11_plan 9 (some .int) q :=
  List.forall_mem_cons.mpr ⟨(xOK_pure (xs_iload (show decode cX11_plan 117 = .ok (.iload 5, 2) by decide +kernel))),
  List.forall_mem_cons.mpr ⟨(xOK_pure (xs_icmp_gt (show decode cX11_plan 119 = .ok (.if_icmp .gt 8, 3) by decide +kernel) (by decide))),
  List.forall_mem_cons.mpr ⟨(xOK_pure (xs_iload (show decode cX11_plan 122 = .ok (.iload 8, 2) by decide +kernel))),
  List.forall_mem_cons.mpr ⟨(xOK_pure (xs_if_eq (show decode cX11_plan 124 = .ok (.ifCond .eq 11, 3) by decide +kernel) (by decide))),
  List.forall_mem_cons.mpr ⟨(xOK_pure (xs_iload (show decode cX11_plan 127 = .ok (.iload 6, 2) by decide +kernel))),
  List.forall_mem_cons.mpr ⟨(xOK_pure (xs_istore (show decode cX11_plan 129 = .ok (.istore 4, 2) by decide +kernel) (by decide))),
  List.forall_mem_cons.mpr ⟨(xOK_pure (xs_iload (show decode cX11_plan 131 = .ok (.iload 7, 2) by decide +kernel))),
  List.forall_mem_cons.mpr ⟨(xOK_pure (xs_istore (show decode cX11_plan 133 = .ok (.istore 5, 2) by decide +kernel) (by decide))),
  List.forall_mem_cons.mpr ⟨(xOK_pure (xs_iinc (n := 1) (show decode cX11_plan 135 = .ok (.iinc 6 1, 3) by decide +kernel) (by decide) (by decide))),
  List.forall_mem_cons.mpr ⟨(xOK_pure (xs_goto (show decode cX11_plan 138 = .ok (.goto (-98), 3) by decide +kernel) (by decide))),
  List.forall_mem_cons.mpr ⟨(xOK_pure (xs_aload_n (k := 0) rfl (show decode cX11_plan 141 = .ok (.aload_n 0, 1) by decide +kernel))),
  List.forall_mem_cons.mpr ⟨(xOK_pure (xs_getf xcl_11 (by decide) (show decode cX11_plan 142 = .ok (.getfield 49, 3) by decide +kernel) xw_453)),
  List.forall_mem_cons.mpr ⟨(xOK_pure (xs_iconst (n := 0) (show decode cX11_plan 145 = .ok (.iconst 0, 1) by decide +kernel) (by decide))),
  List.forall_mem_cons.mpr ⟨(xOK_pure (xs_iload (show decode cX11_plan 146 = .ok (.iload 4, 2) by decide +kernel))),
  List.forall_mem_cons.mpr ⟨(xs_iast (show decode cX11_plan 148 = .ok (.iastore, 1) by decide +kernel)),
  List.forall_mem_cons.mpr ⟨(xOK_pure (xs_aload_n (k := 0) rfl (show decode cX11_plan 149 = .ok (.aload_n 0, 1) by decide +kernel))),
  List.forall_mem_cons.mpr ⟨(xOK_pure (xs_iconst (n := 1) (show decode cX11_plan 150 = .ok (.iconst 1, 1) by decide +kernel) (by decide))),
  List.forall_mem_cons.mpr ⟨(xs_putf (k := 8) xcl_11 (by decide) rfl (show decode cX11_plan 151 = .ok (.putfield 327, 3) by decide +kernel) xw_454),
  List.forall_mem_cons.mpr ⟨(xOK_pure (xs_iload (show decode cX11_plan 154 = .ok (.iload 5, 2) by decide +kernel))),
  List.forall_mem_cons.mpr ⟨(Or.inr (Or.inl ⟨rfl, (show decode cX11_plan 156 = .ok (.ireturn, 1) by decide +kernel), rfl⟩)),
  (fun _ h => absurd h List.not_mem_nil)⟩⟩⟩⟩⟩⟩⟩⟩⟩⟩⟩⟩⟩⟩⟩⟩⟩⟩⟩⟩
def pX11_plan (ev : xEv) : List (Nat × xEn) := pX11_plan_0 ev ++ (pX11_plan_1 ev ++ (pX11_plan_2 ev ++ (pX11_plan_3 ev)))
theorem okpX11_plan (ev : xEv) : ∀ q ∈ pX11_plan ev, xEnOK ev xmi yX11_plan.cls yX11_plan.name cX11_plan 9 (some .int) q := List.forall_mem_append.mpr ⟨okpX11_plan_0 ev, List.forall_mem_append.mpr ⟨okpX11_plan_1 ev, List.forall_mem_append.mpr ⟨okpX11_plan_2 ev, okpX11_plan_3 ev⟩⟩⟩
theorem omX11_plan (ev : xEv) : xMethOK ev xmi yX11_plan.cls yX11_plan.name 168 (pX11_plan ev) := xMethOK.of mi_168 (by decide +kernel) (okpX11_plan ev)
def pX11_lamps_0 (ev : xEv) : List (Nat × xEn) := [(0, .inl (xop (xf_aload 0 1))), (1, .inl (xop (xf_getf 11 0))), (4, .inr (.inl (0, 26, 0, 2))), (7, .inl (xop (xf_istore 3 1))), (8, .inl (xop (xf_aload 0 1))), (9, .inl (xop (xf_iload 2 1))), (10, .inr (.inl (0, 172, 1, 11))), (13, .inl (xop (xf_if_eq 33))), (16, .inl (xop (xf_iload 1 1))), (17, .inl (xop (xf_push (.int 0) 1))), (18, .inl (xop (xf_push (.int 2) 1))), (19, .inr (.inl (1, 183, 3, 11))), (22, .inl (xop (xf_if_eq 33))), (25, .inl (xop (xf_iload 3 1))), (26, .inr (.inl (1, 300, 1, 99))), (29, .inl (xop (xf_iload 1 1))), (30, .inl (xop (xf_icmp_ge 35))), (33, .inl (xop (xf_push (.int (-1)) 1))), (34, .inr (.inr 1)), (35, .inl (xop (xf_push (.int 0) 1)))]
set_option maxRecDepth 20000 in
theorem okpX11_lamps_0 (ev : xEv) : ∀ q ∈ pX11_lamps_0 ev, xEnOK ev xmi yX11_lamps.cls yX11_lamps.name cX11_lamps 10 (some .int) q :=
  List.forall_mem_cons.mpr ⟨(xOK_pure (xs_aload_n (k := 0) rfl (show decode cX11_lamps 0 = .ok (.aload_n 0, 1) by decide +kernel))),
  List.forall_mem_cons.mpr ⟨(xOK_pure (xs_getf xcl_11 (by decide) (show decode cX11_lamps 1 = .ok (.getfield 10, 3) by decide +kernel) xw_446)),
  List.forall_mem_cons.mpr ⟨(xcm mi_26 ⟨⟨(by decide +kernel), (by decide +kernel), (by decide +kernel)⟩, (by decide), xw_1549, xw_119, Or.inl ⟨rfl, _, _, _, _, (show decode cX11_lamps 4 = .ok (.invokevirtual 507, 3) by decide +kernel), xw_1546, xw_1547, xw_1548, rfl⟩⟩),
  List.forall_mem_cons.mpr ⟨(xOK_pure (xs_istore_n (k := 3) rfl (show decode cX11_lamps 7 = .ok (.istore_n 3, 1) by decide +kernel) (by decide))),
  List.forall_mem_cons.mpr ⟨(xOK_pure (xs_aload_n (k := 0) rfl (show decode cX11_lamps 8 = .ok (.aload_n 0, 1) by decide +kernel))),
  List.forall_mem_cons.mpr ⟨(xOK_pure (xs_iload_n (k := 2) rfl (show decode cX11_lamps 9 = .ok (.iload_n 2, 1) by decide +kernel))),
  List.forall_mem_cons.mpr ⟨(xcm mi_172 ⟨⟨(by decide +kernel), (by decide +kernel), (by decide +kernel)⟩, (by decide), xw_1467, xw_118, Or.inl ⟨rfl, _, _, _, _, (show decode cX11_lamps 10 = .ok (.invokevirtual 485, 3) by decide +kernel), xw_1464, xw_1466, xw_50, rfl⟩⟩),
  List.forall_mem_cons.mpr ⟨(xOK_pure (xs_if_eq (show decode cX11_lamps 13 = .ok (.ifCond .eq 20, 3) by decide +kernel) (by decide))),
  List.forall_mem_cons.mpr ⟨(xOK_pure (xs_iload_n (k := 1) rfl (show decode cX11_lamps 16 = .ok (.iload_n 1, 1) by decide +kernel))),
  List.forall_mem_cons.mpr ⟨(xOK_pure (xs_iconst (n := 0) (show decode cX11_lamps 17 = .ok (.iconst 0, 1) by decide +kernel) (by decide))),
  List.forall_mem_cons.mpr ⟨(xOK_pure (xs_iconst (n := 2) (show decode cX11_lamps 18 = .ok (.iconst 2, 1) by decide +kernel) (by decide))),
  List.forall_mem_cons.mpr ⟨(xcm mi_183 ⟨⟨(by decide +kernel), (by decide +kernel), (by decide +kernel)⟩, (by decide), xw_480, xw_118, Or.inr (Or.inl ⟨rfl, _, (show decode cX11_lamps 19 = .ok (.invokestatic 52, 3) by decide +kernel), xw_478, xw_479⟩)⟩),
  List.forall_mem_cons.mpr ⟨(xOK_pure (xs_if_eq (show decode cX11_lamps 22 = .ok (.ifCond .eq 11, 3) by decide +kernel) (by decide))),
  List.forall_mem_cons.mpr ⟨(xOK_pure (xs_iload_n (k := 3) rfl (show decode cX11_lamps 25 = .ok (.iload_n 3, 1) by decide +kernel))),
  List.forall_mem_cons.mpr ⟨(xcm mi_300 ⟨⟨(by decide +kernel), (by decide +kernel), (by decide +kernel)⟩, (by decide), xw_1538, xw_143, Or.inr (Or.inl ⟨rfl, _, (show decode cX11_lamps 26 = .ok (.invokestatic 502, 3) by decide +kernel), xw_1536, xw_1537⟩)⟩),
  List.forall_mem_cons.mpr ⟨(xOK_pure (xs_iload_n (k := 1) rfl (show decode cX11_lamps 29 = .ok (.iload_n 1, 1) by decide +kernel))),
  List.forall_mem_cons.mpr ⟨(xOK_pure (xs_icmp_ge (show decode cX11_lamps 30 = .ok (.if_icmp .ge 5, 3) by decide +kernel) (by decide))),
  List.forall_mem_cons.mpr ⟨(xOK_pure (xs_iconst (n := (-1)) (show decode cX11_lamps 33 = .ok (.iconst (-1), 1) by decide +kernel) (by decide))),
  List.forall_mem_cons.mpr ⟨(Or.inr (Or.inl ⟨rfl, (show decode cX11_lamps 34 = .ok (.ireturn, 1) by decide +kernel), rfl⟩)),
  List.forall_mem_cons.mpr ⟨(xOK_pure (xs_iconst (n := 0) (show decode cX11_lamps 35 = .ok (.iconst 0, 1) by decide +kernel) (by decide))),
  (fun _ h => absurd h List.not_mem_nil)⟩⟩⟩⟩⟩⟩⟩⟩⟩⟩⟩⟩⟩⟩⟩⟩⟩⟩⟩⟩
def pX11_lamps_1 (ev : xEv) : List (Nat × xEn) := [(36, .inl (xop (xf_istore 4 2))), (38, .inl (xop (xf_push (.int (-1)) 1))), (39, .inl (xop (xf_istore 5 2))), (41, .inl (xop (xf_push (.int 0) 1))), (42, .inl (xop (xf_istore 6 2))), (44, .inl (xop (xf_aload 0 1))), (45, .inl (xop (xf_getf 11 1))), (48, .inr (.inl (0, 125, 0, 10))), (51, .inl (xop (xf_push (.int 255) 3))), (54, .inl (xop (xf_istore 7 2))), (56, .inl (xop (xf_iload 7 2))), (58, .inl (xop (xf_if_lt 172))), (61, .inl (xop (xf_iload 7 2))), (63, .inr (.inl (1, 300, 1, 99))), (66, .inl (xop (xf_iload 1 1))), (67, .inl (xop (xf_icmp_ne 166))), (70, .inl (xop (xf_iload 7 2))), (72, .inl (xop (xf_iload 3 1))), (73, .inl (xop (xf_bin (fun x y => x &&& y)))), (74, .inl (xop (xf_iload 7 2)))]
set_option maxRecDepth 20000 in
theorem okpX11_lamps_1 (ev : xEv) : ∀ q ∈ pX11_lamps_1 ev, xEnOK ev xmi yX11_lamps.cls yX11_lamps.name cX11_lamps 10 (some .int) q :=
  List.forall_mem_cons.mpr ⟨(xOK_pure (xs_istore (show decode cX11_lamps 36 = .ok (.istore 4, 2) by decide +kernel) (by decide))),
  List.forall_mem_cons.mpr ⟨(xOK_pure (xs_iconst (n := (-1)) (show decode cX11_lamps 38 = .ok (.iconst (-1), 1) by decide +kernel) (by decide))),
  List.forall_mem_cons.mpr ⟨(xOK_pure (xs_istore (show decode cX11_lamps 39 = .ok (.istore 5, 2) by decide +kernel) (by decide))),
  List.forall_mem_cons.mpr ⟨(xOK_pure (xs_iconst (n := 0) (show decode cX11_lamps 41 = .ok (.iconst 0, 1) by decide +kernel) (by decide))),
  List.forall_mem_cons.mpr ⟨(xOK_pure (xs_istore (show decode cX11_lamps 42 = .ok (.istore 6, 2) by decide +kernel) (by decide))),
  List.forall_mem_cons.mpr ⟨(xOK_pure (xs_aload_n (k := 0) rfl (show decode cX11_lamps 44 = .ok (.aload_n 0, 1) by decide +kernel))),
  List.forall_mem_cons.mpr ⟨(xOK_pure (xs_getf xcl_11 (by decide) (show decode cX11_lamps 45 = .ok (.getfield 21, 3) by decide +kernel) xw_447)),
  List.forall_mem_cons.mpr ⟨(xcm mi_125 ⟨⟨(by decide +kernel), (by decide +kernel), (by decide +kernel)⟩, (by decide), xw_1475, xw_120, Or.inl ⟨rfl, _, _, _, _, (show decode cX11_lamps 48 = .ok (.invokevirtual 492, 3) by decide +kernel), xw_1472, xw_1473, xw_1474, rfl⟩⟩),
  List.forall_mem_cons.mpr ⟨(xOK_pure (xs_sipush (n := 255) (show decode cX11_lamps 51 = .ok (.sipush 255, 3) by decide +kernel) (by decide))),
  List.forall_mem_cons.mpr ⟨(xOK_pure (xs_istore (show decode cX11_lamps 54 = .ok (.istore 7, 2) by decide +kernel) (by decide))),
  List.forall_mem_cons.mpr ⟨(xOK_pure (xs_iload (show decode cX11_lamps 56 = .ok (.iload 7, 2) by decide +kernel))),
  List.forall_mem_cons.mpr ⟨(xOK_pure (xs_if_lt (show decode cX11_lamps 58 = .ok (.ifCond .lt 114, 3) by decide +kernel) (by decide))),
  List.forall_mem_cons.mpr ⟨(xOK_pure (xs_iload (show decode cX11_lamps 61 = .ok (.iload 7, 2) by decide +kernel))),
  List.forall_mem_cons.mpr ⟨(xcm mi_300 ⟨⟨(by decide +kernel), (by decide +kernel), (by decide +kernel)⟩, (by decide), xw_1538, xw_143, Or.inr (Or.inl ⟨rfl, _, (show decode cX11_lamps 63 = .ok (.invokestatic 502, 3) by decide +kernel), xw_1536, xw_1537⟩)⟩),
  List.forall_mem_cons.mpr ⟨(xOK_pure (xs_iload_n (k := 1) rfl (show decode cX11_lamps 66 = .ok (.iload_n 1, 1) by decide +kernel))),
  List.forall_mem_cons.mpr ⟨(xOK_pure (xs_icmp_ne (show decode cX11_lamps 67 = .ok (.if_icmp .ne 99, 3) by decide +kernel) (by decide))),
  List.forall_mem_cons.mpr ⟨(xOK_pure (xs_iload (show decode cX11_lamps 70 = .ok (.iload 7, 2) by decide +kernel))),
  List.forall_mem_cons.mpr ⟨(xOK_pure (xs_iload_n (k := 3) rfl (show decode cX11_lamps 72 = .ok (.iload_n 3, 1) by decide +kernel))),
  List.forall_mem_cons.mpr ⟨(xOK_pure (xs_iand (show decode cX11_lamps 73 = .ok (.iand, 1) by decide +kernel))),
  List.forall_mem_cons.mpr ⟨(xOK_pure (xs_iload (show decode cX11_lamps 74 = .ok (.iload 7, 2) by decide +kernel))),
  (fun _ h => absurd h List.not_mem_nil)⟩⟩⟩⟩⟩⟩⟩⟩⟩⟩⟩⟩⟩⟩⟩⟩⟩⟩⟩⟩
def pX11_lamps_2 (ev : xEv) : List (Nat × xEn) := [(76, .inl (xop (xf_icmp_ne 166))), (79, .inl (xop (xf_aload 0 1))), (80, .inl (xop (xf_getf 11 0))), (83, .inl (xop (xf_iload 7 2))), (85, .inl (xop (xf_push (.int 1) 1))), (86, .inr (.inl (0, 27, 2, 2))), (89, .inl (xop (xf_aload 0 1))), (90, .inl (xop (xf_getf 11 1))), (93, .inl (xop (xf_iload 2 1))), (94, .inr (.inl (0, 97, 1, 10))), (97, .inl (xop (xf_aload 0 1))), (98, .inl (xop (xf_getf 11 1))), (101, .inl (xop (xf_push (.int 1) 1))), (102, .inr (.inl (0, 117, 1, 10))), (105, .inl (xop (xf_istore 8 2))), (107, .inl (xop (xf_aload 0 1))), (108, .inl (xop (xf_getf 11 1))), (111, .inr (.inl (0, 120, 0, 10))), (114, .inl (xop (xf_istore 9 2))), (116, .inl (xop (xf_aload 0 1)))]
set_option maxRecDepth 20000 in
theorem okpX11_lamps_2 (ev : xEv) : ∀ q ∈ pX11_lamps_2 ev, xEnOK ev xmi yX11_lamps.cls yX11_lamps.name cX11_lamps 10 (some .int) q :=
  List.forall_mem_cons.mpr ⟨(xOK_pure (xs_icmp_ne (show decode cX11_lamps 76 = .ok (.if_icmp .ne 90, 3) by decide +kernel) (by decide))),
  List.forall_mem_cons.mpr ⟨(xOK_pure (xs_aload_n (k := 0) rfl (show decode cX11_lamps 79 = .ok (.aload_n 0, 1) by decide +kernel))),
  List.forall_mem_cons.mpr ⟨(xOK_pure (xs_getf xcl_11 (by decide) (show decode cX11_lamps 80 = .ok (.getfield 10, 3) by decide +kernel) xw_446)),
  List.forall_mem_cons.mpr ⟨(xOK_pure (xs_iload (show decode cX11_lamps 83 = .ok (.iload 7, 2) by decide +kernel))),
  List.forall_mem_cons.mpr ⟨(xOK_pure (xs_iconst (n := 1) (show decode cX11_lamps 85 = .ok (.iconst 1, 1) by decide +kernel) (by decide))),
  List.forall_mem_cons.mpr ⟨(xcm mi_27 ⟨⟨(by decide +kernel), (by decide +kernel), (by decide +kernel)⟩, (by decide), xw_1556, xw_119, Or.inl ⟨rfl, _, _, _, _, (show decode cX11_lamps 86 = .ok (.invokevirtual 510, 3) by decide +kernel), xw_1553, xw_1554, xw_1555, rfl⟩⟩),
  List.forall_mem_cons.mpr ⟨(xOK_pure (xs_aload_n (k := 0) rfl (show decode cX11_lamps 89 = .ok (.aload_n 0, 1) by decide +kernel))),
  List.forall_mem_cons.mpr ⟨(xOK_pure (xs_getf xcl_11 (by decide) (show decode cX11_lamps 90 = .ok (.getfield 21, 3) by decide +kernel) xw_447)),
  List.forall_mem_cons.mpr ⟨(xOK_pure (xs_iload_n (k := 2) rfl (show decode cX11_lamps 93 = .ok (.iload_n 2, 1) by decide +kernel))),
  List.forall_mem_cons.mpr ⟨(xcm mi_97 ⟨⟨(by decide +kernel), (by decide +kernel), (by decide +kernel)⟩, (by decide), xw_1118, xw_120, Or.inl ⟨rfl, _, _, _, _, (show decode cX11_lamps 94 = .ok (.invokevirtual 303, 3) by decide +kernel), xw_1115, xw_1116, xw_1117, rfl⟩⟩),
  List.forall_mem_cons.mpr ⟨(xOK_pure (xs_aload_n (k := 0) rfl (show decode cX11_lamps 97 = .ok (.aload_n 0, 1) by decide +kernel))),
  List.forall_mem_cons.mpr ⟨(xOK_pure (xs_getf xcl_11 (by decide) (show decode cX11_lamps 98 = .ok (.getfield 21, 3) by decide +kernel) xw_447)),
  List.forall_mem_cons.mpr ⟨(xOK_pure (xs_iconst (n := 1) (show decode cX11_lamps 101 = .ok (.iconst 1, 1) by decide +kernel) (by decide))),
  List.forall_mem_cons.mpr ⟨(xcm mi_117 ⟨⟨(by decide +kernel), (by decide +kernel), (by decide +kernel)⟩, (by decide), xw_1311, xw_120, Or.inl ⟨rfl, _, _, _, _, (show decode cX11_lamps 102 = .ok (.invokevirtual 320, 3) by decide +kernel), xw_1308, xw_1309, xw_1310, rfl⟩⟩),
  List.forall_mem_cons.mpr ⟨(xOK_pure (xs_istore (show decode cX11_lamps 105 = .ok (.istore 8, 2) by decide +kernel) (by decide))),
  List.forall_mem_cons.mpr ⟨(xOK_pure (xs_aload_n (k := 0) rfl (show decode cX11_lamps 107 = .ok (.aload_n 0, 1) by decide +kernel))),
  List.forall_mem_cons.mpr ⟨(xOK_pure (xs_getf xcl_11 (by decide) (show decode cX11_lamps 108 = .ok (.getfield 21, 3) by decide +kernel) xw_447)),
  List.forall_mem_cons.mpr ⟨(xcm mi_120 ⟨⟨(by decide +kernel), (by decide +kernel), (by decide +kernel)⟩, (by decide), xw_1346, xw_120, Or.inl ⟨rfl, _, _, _, _, (show decode cX11_lamps 111 = .ok (.invokevirtual 421, 3) by decide +kernel), xw_1343, xw_1344, xw_1345, rfl⟩⟩),
  List.forall_mem_cons.mpr ⟨(xOK_pure (xs_istore (show decode cX11_lamps 114 = .ok (.istore 9, 2) by decide +kernel) (by decide))),
  List.forall_mem_cons.mpr ⟨(xOK_pure (xs_aload_n (k := 0) rfl (show decode cX11_lamps 116 = .ok (.aload_n 0, 1) by decide +kernel))),
  (fun _ h => absurd h List.not_mem_nil)⟩⟩⟩⟩⟩⟩⟩⟩⟩⟩⟩⟩⟩⟩⟩⟩⟩⟩⟩⟩
def pX11_lamps_3 (ev : xEv) : List (Nat × xEn) := [(117, .inl (xop (xf_getf 11 1))), (120, .inr (.inl (0, 126, 0, 10))), (123, .inl (xop (xf_aload 0 1))), (124, .inl (xop (xf_getf 11 0))), (127, .inl (xop (xf_iload 7 2))), (129, .inl (xop (xf_push (.int 0) 1))), (130, .inr (.inl (0, 27, 2, 2))), (133, .inl (xop (xf_iload 8 2))), (135, .inl (xop (xf_iload 5 2))), (137, .inl (xop (xf_icmp_gt 154))), (140, .inl (xop (xf_iload 8 2))), (142, .inl (xop (xf_iload 5 2))), (144, .inl (xop (xf_icmp_ne 166))), (147, .inl (xop (xf_iload 9 2))), (149, .inl (xop (xf_iload 6 2))), (151, .inl (xop (xf_icmp_le 166))), (154, .inl (xop (xf_iload 7 2))), (156, .inl (xop (xf_istore 4 2))), (158, .inl (xop (xf_iload 8 2))), (160, .inl (xop (xf_istore 5 2)))]
set_option maxRecDepth 20000 in
theorem okpX11_lamps_3 (ev : xEv) : ∀ q ∈ pX11_lamps_3 ev, xEnOK ev xmi yX11_lamps.cls yX11_lamps.name cX11_lamps 10 (some .int) q :=
  List.forall_mem_cons.mpr ⟨(xOK_pure (xs_getf xcl_11 (by decide) (show decode cX11_lamps 117 = .ok (.getfield 21, 3) by decide +kernel) xw_447)),
  List.forall_mem_cons.mpr ⟨(xcm mi_126 ⟨⟨(by decide +kernel), (by decide +kernel), (by decide +kernel)⟩, (by decide), xw_1519, xw_120, Or.inl ⟨rfl, _, _, _, _, (show decode cX11_lamps 120 = .ok (.invokevirtual 499, 3) by decide +kernel), xw_1516, xw_1517, xw_1518, rfl⟩⟩),
  List.forall_mem_cons.mpr ⟨(xOK_pure (xs_aload_n (k := 0) rfl (show decode cX11_lamps 123 = .ok (.aload_n 0, 1) by decide +kernel))),
  List.forall_mem_cons.mpr ⟨(xOK_pure (xs_getf xcl_11 (by decide) (show decode cX11_lamps 124 = .ok (.getfield 10, 3) by decide +kernel) xw_446)),
  List.forall_mem_cons.mpr ⟨(xOK_pure (xs_iload (show decode cX11_lamps 127 = .ok (.iload 7, 2) by decide +kernel))),
  List.forall_mem_cons.mpr ⟨(xOK_pure (xs_iconst (n := 0) (show decode cX11_lamps 129 = .ok (.iconst 0, 1) by decide +kernel) (by decide))),
  List.forall_mem_cons.mpr ⟨(xcm mi_27 ⟨⟨(by decide +kernel), (by decide +kernel), (by decide +kernel)⟩, (by decide), xw_1556, xw_119, Or.inl ⟨rfl, _, _, _, _, (show decode cX11_lamps 130 = .ok (.invokevirtual 510, 3) by decide +kernel), xw_1553, xw_1554, xw_1555, rfl⟩⟩),
  List.forall_mem_cons.mpr ⟨(xOK_pure (xs_iload (show decode cX11_lamps 133 = .ok (.iload 8, 2) by decide +kernel))),
  List.forall_mem_cons.mpr ⟨(xOK_pure (xs_iload (show decode cX11_lamps 135 = .ok (.iload 5, 2) by decide +kernel))),
  List.forall_mem_cons.mpr ⟨(xOK_pure (xs_icmp_gt (show decode cX11_lamps 137 = .ok (.if_icmp .gt 17, 3) by decide +kernel) (by decide))),
  List.forall_mem_cons.mpr ⟨(xOK_pure (xs_iload (show decode cX11_lamps 140 = .ok (.iload 8, 2) by decide +kernel))),
  List.forall_mem_cons.mpr ⟨(xOK_pure (xs_iload (show decode cX11_lamps 142 = .ok (.iload 5, 2) by decide +kernel))),
  List.forall_mem_cons.mpr ⟨(xOK_pure (xs_icmp_ne (show decode cX11_lamps 144 = .ok (.if_icmp .ne 22, 3) by decide +kernel) (by decide))),
  List.forall_mem_cons.mpr ⟨(xOK_pure (xs_iload (show decode cX11_lamps 147 = .ok (.iload 9, 2) by decide +kernel))),
  List.forall_mem_cons.mpr ⟨(xOK_pure (xs_iload (show decode cX11_lamps 149 = .ok (.iload 6, 2) by decide +kernel))),
  List.forall_mem_cons.mpr ⟨(xOK_pure (xs_icmp_le (show decode cX11_lamps 151 = .ok (.if_icmp .le 15, 3) by decide +kernel) (by decide))),
  List.forall_mem_cons.mpr ⟨(xOK_pure (xs_iload (show decode cX11_lamps 154 = .ok (.iload 7, 2) by decide +kernel))),
  List.forall_mem_cons.mpr ⟨(xOK_pure (xs_istore (show decode cX11_lamps 156 = .ok (.istore 4, 2) by decide +kernel) (by decide))),
  List.forall_mem_cons.mpr ⟨(xOK_pure (xs_iload (show decode cX11_lamps 158 = .ok (.iload 8, 2) by decide +kernel))),
  List.forall_mem_cons.mpr ⟨(xOK_pure (xs_istore (show decode cX11_lamps 160 = .ok (.istore 5, 2) by decide +kernel) (by decide))),
  (fun _ h => absurd h List.not_mem_nil)⟩⟩⟩⟩⟩⟩⟩⟩⟩⟩⟩⟩⟩⟩⟩⟩⟩⟩⟩⟩
def pX11_lamps_4 (ev : xEv) : List (Nat × xEn) := [(162, .inl (xop (xf_iload 9 2))), (164, .inl (xop (xf_istore 6 2))), (166, .inl (xop (xf_iinc 7 (-1)))), (169, .inl (xop (xf_goto 56))), (172, .inl (xop (xf_aload 0 1))), (173, .inl (xop (xf_aload 0 1))), (174, .inl (xop (xf_getf 11 0))), (177, .inl (xop (xf_iload 4 2))), (179, .inl (xop (xf_aload 0 1))), (180, .inl (xop (xf_getf 11 7))), (183, .inr (.inl (0, 28, 2, 2))), (186, .inl (xo_putf 11 8 .int)), (189, .inl (xop (xf_iload 5 2))), (191, .inr (.inr 1))]
set_option maxRecDepth 20000 in
theorem okpX11_lamps_4 (ev : xEv) : ∀ q ∈ pX11_lamps_4 ev, xEnOK ev xmi yX11_lamps.cls yX11_lamps.name cX11_lamps 10 (some .int) q :=
  List.forall_mem_cons.mpr ⟨(xOK_pure (xs_iload (show decode cX11_lamps 162 = .ok (.iload 9, 2) by decide +kernel))),
  List.forall_mem_cons.mpr ⟨(xOK_pure (xs_istore (show decode cX11_lamps 164 = .ok (.istore 6, 2) by decide +kernel) (by decide))),
  List.forall_mem_cons.mpr ⟨(xOK_pure (xs_iinc (n := (-1)) (show decode cX11_lamps 166 = .ok (.iinc 7 (-1), 3) by decide +kernel) (by decide) (by decide))),
  List.forall_mem_cons.mpr ⟨(xOK_pure (xs_goto (show decode cX11_lamps 169 = .ok (.goto (-113), 3) by decide +kernel) (by decide))),
  List.forall_mem_cons.mpr ⟨(xOK_pure (xs_aload_n (k := 0) rfl (show decode cX11_lamps 172 = .ok (.aload_n 0, 1) by decide +kernel))),
  List.forall_mem_cons.mpr ⟨(xOK_pure (xs_aload_n (k := 0) rfl (show decode cX11_lamps 173 = .ok (.aload_n 0, 1) by decide +kernel))),
  List.forall_mem_cons.mpr ⟨(xOK_pure (xs_getf xcl_11 (by decide) (show decode cX11_lamps 174 = .ok (.getfield 10, 3) by decide +kernel) xw_446)),
  List.forall_mem_cons.mpr ⟨(xOK_pure (xs_iload (show decode cX11_lamps 177 = .ok (.iload 4, 2) by decide +kernel))),
  List.forall_mem_cons.mpr ⟨(xOK_pure (xs_aload_n (k := 0) rfl (show decode cX11_lamps 179 = .ok (.aload_n 0, 1) by decide +kernel))),
  List.forall_mem_cons.mpr ⟨(xOK_pure (xs_getf xcl_11 (by decide) (show decode cX11_lamps 180 = .ok (.getfield 49, 3) by decide +kernel) xw_453)),
  List.forall_mem_cons.mpr ⟨(xcm mi_28 ⟨⟨(by decide +kernel), (by decide +kernel), (by decide +kernel)⟩, (by decide), xw_1560, xw_119, Or.inl ⟨rfl, _, _, _, _, (show decode cX11_lamps 183 = .ok (.invokevirtual 514, 3) by decide +kernel), xw_1557, xw_1558, xw_1559, rfl⟩⟩),
  List.forall_mem_cons.mpr ⟨(xs_putf (k := 8) xcl_11 (by decide) rfl (show decode cX11_lamps 186 = .ok (.putfield 327, 3) by decide +kernel) xw_454),
  List.forall_mem_cons.mpr ⟨(xOK_pure (xs_iload (show decode cX11_lamps 189 = .ok (.iload 5, 2) by decide +kernel))),
  List.forall_mem_cons.mpr ⟨(Or.inr (Or.inl ⟨rfl, (show decode cX11_lamps 191 = .ok (.ireturn, 1) by decide +kernel), rfl⟩)),
  (fun _ h => absurd h List.not_mem_nil)⟩⟩⟩⟩⟩⟩⟩⟩⟩⟩⟩⟩⟩⟩
def pX11_lamps (ev : xEv) : List (Nat × xEn) := pX11_lamps_0 ev ++ (pX11_lamps_1 ev ++ (pX11_lamps_2 ev ++ (pX11_lamps_3 ev ++ (pX11_lamps_4 ev))))
theorem okpX11_lamps (ev : xEv) : ∀ q ∈ pX11_lamps ev, xEnOK ev xmi yX11_lamps.cls yX11_lamps.name cX11_lamps 10 (some .int) q := List.forall_mem_append.mpr ⟨okpX11_lamps_0 ev, List.forall_mem_append.mpr ⟨okpX11_lamps_1 ev, List.forall_mem_append.mpr ⟨okpX11_lamps_2 ev, List.forall_mem_append.mpr ⟨okpX11_lamps_3 ev, okpX11_lamps_4 ev⟩⟩⟩⟩
theorem omX11_lamps (ev : xEv) : xMethOK ev xmi yX11_lamps.cls yX11_lamps.name 169 (pX11_lamps ev) := xMethOK.of mi_169 (by decide +kernel) (okpX11_lamps ev)
def pX11_tried_0 (ev : xEv) : List (Nat × xEn) := [(0, .inl (xop (xf_aload 0 1))), (1, .inl (xop (xf_iload 1 1))), (2, .inr (.inl (0, 172, 1, 11))), (5, .inl (xop (xf_if_ne 10))), (8, .inl (xop (xf_push (.int (-1)) 1))), (9, .inr (.inr 1)), (10, .inl (xop (xf_aload 0 1))), (11, .inl (xop (xf_getf 11 1))), (14, .inr (.inl (0, 125, 0, 10))), (17, .inl (xop (xf_aload 0 1))), (18, .inl (xop (xf_getf 11 1))), (21, .inl (xop (xf_iload 1 1))), (22, .inr (.inl (0, 97, 1, 10))), (25, .inl (xop (xf_aload 0 1))), (26, .inl (xop (xf_getf 11 1))), (29, .inr (.inl (0, 120, 0, 10))), (32, .inl (xop (xf_istore 2 1))), (33, .inl (xop (xf_aload 0 1))), (34, .inl (xop (xf_getf 11 1))), (37, .inr (.inl (0, 126, 0, 10)))]
set_option maxRecDepth 20000 in
theorem okpX11_tried_0 (ev : xEv) : ∀ q ∈ pX11_tried_0 ev, xEnOK ev xmi yX11_tried.cls yX11_tried.name cX11_tried 3 (some .int) q :=
  List.forall_mem_cons.mpr ⟨(xOK_pure (xs_aload_n (k := 0) rfl (show decode cX11_tried 0 = .ok (.aload_n 0, 1) by decide +kernel))),
  List.forall_mem_cons.mpr ⟨(xOK_pure (xs_iload_n (k := 1) rfl (show decode cX11_tried 1 = .ok (.iload_n 1, 1) by decide +kernel))),
  List.forall_mem_cons.mpr ⟨(xcm mi_172 ⟨⟨(by decide +kernel), (by decide +kernel), (by decide +kernel)⟩, (by decide), xw_1467, xw_118, Or.inl ⟨rfl, _, _, _, _, (show decode cX11_tried 2 = .ok (.invokevirtual 485, 3) by decide +kernel), xw_1464, xw_1466, xw_50, rfl⟩⟩),
  List.forall_mem_cons.mpr ⟨(xOK_pure (xs_if_ne (show decode cX11_tried 5 = .ok (.ifCond .ne 5, 3) by decide +kernel) (by decide))),
  List.forall_mem_cons.mpr ⟨(xOK_pure (xs_iconst (n := (-1)) (show decode cX11_tried 8 = .ok (.iconst (-1), 1) by decide +kernel) (by decide))),
  List.forall_mem_cons.mpr ⟨(Or.inr (Or.inl ⟨rfl, (show decode cX11_tried 9 = .ok (.ireturn, 1) by decide +kernel), rfl⟩)),
  List.forall_mem_cons.mpr ⟨(xOK_pure (xs_aload_n (k := 0) rfl (show decode cX11_tried 10 = .ok (.aload_n 0, 1) by decide +kernel))),
  List.forall_mem_cons.mpr ⟨(xOK_pure (xs_getf xcl_11 (by decide) (show decode cX11_tried 11 = .ok (.getfield 21, 3) by decide +kernel) xw_447)),
  List.forall_mem_cons.mpr ⟨(xcm mi_125 ⟨⟨(by decide +kernel), (by decide +kernel), (by decide +kernel)⟩, (by decide), xw_1475, xw_120, Or.inl ⟨rfl, _, _, _, _, (show decode cX11_tried 14 = .ok (.invokevirtual 492, 3) by decide +kernel), xw_1472, xw_1473, xw_1474, rfl⟩⟩),
  List.forall_mem_cons.mpr ⟨(xOK_pure (xs_aload_n (k := 0) rfl (show decode cX11_tried 17 = .ok (.aload_n 0, 1) by decide +kernel))),
  List.forall_mem_cons.mpr ⟨(xOK_pure (xs_getf xcl_11 (by decide) (show decode cX11_tried 18 = .ok (.getfield 21, 3) by decide +kernel) xw_447)),
  List.forall_mem_cons.mpr ⟨(xOK_pure (xs_iload_n (k := 1) rfl (show decode cX11_tried 21 = .ok (.iload_n 1, 1) by decide +kernel))),
  List.forall_mem_cons.mpr ⟨(xcm mi_97 ⟨⟨(by decide +kernel), (by decide +kernel), (by decide +kernel)⟩, (by decide), xw_1118, xw_120, Or.inl ⟨rfl, _, _, _, _, (show decode cX11_tried 22 = .ok (.invokevirtual 303, 3) by decide +kernel), xw_1115, xw_1116, xw_1117, rfl⟩⟩),
  List.forall_mem_cons.mpr ⟨(xOK_pure (xs_aload_n (k := 0) rfl (show decode cX11_tried 25 = .ok (.aload_n 0, 1) by decide +kernel))),
  List.forall_mem_cons.mpr ⟨(xOK_pure (xs_getf xcl_11 (by decide) (show decode cX11_tried 26 = .ok (.getfield 21, 3) by decide +kernel) xw_447)),
  List.forall_mem_cons.mpr ⟨(xcm mi_120 ⟨⟨(by decide +kernel), (by decide +kernel), (by decide +kernel)⟩, (by decide), xw_1346, xw_120, Or.inl ⟨rfl, _, _, _, _, (show decode cX11_tried 29 = .ok (.invokevirtual 421, 3) by decide +kernel), xw_1343, xw_1344, xw_1345, rfl⟩⟩),
  List.forall_mem_cons.mpr ⟨(xOK_pure (xs_istore_n (k := 2) rfl (show decode cX11_tried 32 = .ok (.istore_n 2, 1) by decide +kernel) (by decide))),
  List.forall_mem_cons.mpr ⟨(xOK_pure (xs_aload_n (k := 0) rfl (show decode cX11_tried 33 = .ok (.aload_n 0, 1) by decide +kernel))),
  List.forall_mem_cons.mpr ⟨(xOK_pure (xs_getf xcl_11 (by decide) (show decode cX11_tried 34 = .ok (.getfield 21, 3) by decide +kernel) xw_447)),
  List.forall_mem_cons.mpr ⟨(xcm mi_126 ⟨⟨(by decide +kernel), (by decide +kernel), (by decide +kernel)⟩, (by decide), xw_1519, xw_120, Or.inl ⟨rfl, _, _, _, _, (show decode cX11_tried 37 = .ok (.invokevirtual 499, 3) by decide +kernel), xw_1516, xw_1517, xw_1518, rfl⟩⟩),
  (fun _ h => absurd h List.not_mem_nil)⟩⟩⟩⟩⟩⟩⟩⟩⟩⟩⟩⟩⟩⟩⟩⟩⟩⟩⟩⟩
def pX11_tried_1 (ev : xEv) : List (Nat × xEn) := [(40, .inl (xop (xf_iload 2 1))), (41, .inr (.inr 1))]
set_option maxRecDepth 20000 in
theorem okpX11_tried_1 (ev : xEv) : ∀ q ∈ pX11_tried_1 ev, xEnOK ev xmi yX11_tried.cls yX11_tried.name cX11_tried 3 (some .int) q :=
  List.forall_mem_cons.mpr ⟨(xOK_pure (xs_iload_n (k := 2) rfl (show decode cX11_tried 40 = .ok (.iload_n 2, 1) by decide +kernel))),
  List.forall_mem_cons.mpr ⟨(Or.inr (Or.inl ⟨rfl, (show decode cX11_tried 41 = .ok (.ireturn, 1) by decide +kernel), rfl⟩)),
  (fun _ h => absurd h List.not_mem_nil)⟩⟩
def pX11_tried (ev : xEv) : List (Nat × xEn) := pX11_tried_0 ev ++ (pX11_tried_1 ev)
theorem okpX11_tried (ev : xEv) : ∀ q ∈ pX11_tried ev, xEnOK ev xmi yX11_tried.cls yX11_tried.name cX11_tried 3 (some .int) q := List.forall_mem_append.mpr ⟨okpX11_tried_0 ev, okpX11_tried_1 ev⟩
theorem omX11_tried (ev : xEv) : xMethOK ev xmi yX11_tried.cls yX11_tried.name 170 (pX11_tried ev) := xMethOK.of mi_170 (by decide +kernel) (okpX11_tried ev)
def pX11_row (ev : xEv) : List (Nat × xEn) := [(0, .inl (xop (xf_iload 1 1))), (1, .inl (xop (xf_push (.int 0) 1))), (2, .inl (xop (xf_aload 0 1))), (3, .inl (xop (xf_getf 11 8))), (6, .inl (xop (xf_push (.int 1) 1))), (7, .inl (xop (xf_bin (fun x y => x - y)))), (8, .inr (.inl (1, 183, 3, 11))), (11, .inl (xop (xf_if_ne 25))), (14, .inl (xop xf_none)), (17, .inl (xop xf_dup)), (18, .inl (xop (xf_push (.ref (ev.2.1 12)) 3))), (21, .inl (xop xf_none)), (24, .inl (xop xf_none)), (25, .inl (xop (xf_aload 0 1))), (26, .inl (xop (xf_getf 11 7))), (29, .inl (xop (xf_iload 1 1))), (30, .inl (xop (xf_ald (ev.1 0)))), (31, .inr (.inr 1))]
set_option maxRecDepth 20000 in
theorem okpX11_row (ev : xEv) : ∀ q ∈ pX11_row ev, xEnOK ev xmi yX11_row.cls yX11_row.name cX11_row 2 (some .int) q :=
  List.forall_mem_cons.mpr ⟨(xOK_pure (xs_iload_n (k := 1) rfl (show decode cX11_row 0 = .ok (.iload_n 1, 1) by decide +kernel))),
  List.forall_mem_cons.mpr ⟨(xOK_pure (xs_iconst (n := 0) (show decode cX11_row 1 = .ok (.iconst 0, 1) by decide +kernel) (by decide))),
  List.forall_mem_cons.mpr ⟨(xOK_pure (xs_aload_n (k := 0) rfl (show decode cX11_row 2 = .ok (.aload_n 0, 1) by decide +kernel))),
  List.forall_mem_cons.mpr ⟨(xOK_pure (xs_getf xcl_11 (by decide) (show decode cX11_row 3 = .ok (.getfield 327, 3) by decide +kernel) xw_454)),
  List.forall_mem_cons.mpr ⟨(xOK_pure (xs_iconst (n := 1) (show decode cX11_row 6 = .ok (.iconst 1, 1) by decide +kernel) (by decide))),
  List.forall_mem_cons.mpr ⟨(xOK_pure (xs_isub (show decode cX11_row 7 = .ok (.isub, 1) by decide +kernel))),
  List.forall_mem_cons.mpr ⟨(xcm mi_183 ⟨⟨(by decide +kernel), (by decide +kernel), (by decide +kernel)⟩, (by decide), xw_480, xw_118, Or.inr (Or.inl ⟨rfl, _, (show decode cX11_row 8 = .ok (.invokestatic 52, 3) by decide +kernel), xw_478, xw_479⟩)⟩),
  List.forall_mem_cons.mpr ⟨(xOK_pure (xs_if_ne (show decode cX11_row 11 = .ok (.ifCond .ne 14, 3) by decide +kernel) (by decide))),
  List.forall_mem_cons.mpr ⟨(xOK_pure xs_none),
  List.forall_mem_cons.mpr ⟨(xOK_pure (xs_dup (show decode cX11_row 17 = .ok (.dup, 1) by decide +kernel))),
  List.forall_mem_cons.mpr ⟨(xOK_pure (xs_ldcSW (show decode cX11_row 18 = .ok (.ldc_w 518, 3) by decide +kernel) (List.mem_of_getElem? (i := 12) rfl))),
  List.forall_mem_cons.mpr ⟨(xOK_pure xs_none),
  List.forall_mem_cons.mpr ⟨(xOK_pure xs_none),
  List.forall_mem_cons.mpr ⟨(xOK_pure (xs_aload_n (k := 0) rfl (show decode cX11_row 25 = .ok (.aload_n 0, 1) by decide +kernel))),
  List.forall_mem_cons.mpr ⟨(xOK_pure (xs_getf xcl_11 (by decide) (show decode cX11_row 26 = .ok (.getfield 49, 3) by decide +kernel) xw_453)),
  List.forall_mem_cons.mpr ⟨(xOK_pure (xs_iload_n (k := 1) rfl (show decode cX11_row 29 = .ok (.iload_n 1, 1) by decide +kernel))),
  List.forall_mem_cons.mpr ⟨(xOK_pure (xs_iald (show decode cX11_row 30 = .ok (.iaload, 1) by decide +kernel))),
  List.forall_mem_cons.mpr ⟨(Or.inr (Or.inl ⟨rfl, (show decode cX11_row 31 = .ok (.ireturn, 1) by decide +kernel), rfl⟩)),
  (fun _ h => absurd h List.not_mem_nil)⟩⟩⟩⟩⟩⟩⟩⟩⟩⟩⟩⟩⟩⟩⟩⟩⟩⟩
theorem omX11_row (ev : xEv) : xMethOK ev xmi yX11_row.cls yX11_row.name 171 (pX11_row ev) := xMethOK.of mi_171 (by decide +kernel) (okpX11_row ev)
def pX11_mayTry (ev : xEv) : List (Nat × xEn) := [(0, .inl (xop (xf_iload 1 1))), (1, .inl (xop (xf_push (.int 0) 1))), (2, .inl (xop (xf_push (.int 200) 3))), (5, .inr (.inl (1, 183, 3, 11))), (8, .inl (xop (xf_if_eq 30))), (11, .inl (xop (xf_aload 0 1))), (12, .inl (xop (xf_getf 11 1))), (15, .inl (xop (xf_getf 10 13))), (18, .inl (xop (xf_iload 1 1))), (19, .inl (xop (xf_bin (fun x y => x + y)))), (20, .inl (xop (xf_push (.int 3000) 3))), (23, .inl (xop (xf_icmp_gt 30))), (26, .inl (xop (xf_push (.int 1) 1))), (27, .inl (xop (xf_goto 31))), (30, .inl (xop (xf_push (.int 0) 1))), (31, .inr (.inr 4))]
set_option maxRecDepth 20000 in
theorem okpX11_mayTry (ev : xEv) : ∀ q ∈ pX11_mayTry ev, xEnOK ev xmi yX11_mayTry.cls yX11_mayTry.name cX11_mayTry 2 (some .boolean) q :=
  List.forall_mem_cons.mpr ⟨(xOK_pure (xs_iload_n (k := 1) rfl (show decode cX11_mayTry 0 = .ok (.iload_n 1, 1) by decide +kernel))),
  List.forall_mem_cons.mpr ⟨(xOK_pure (xs_iconst (n := 0) (show decode cX11_mayTry 1 = .ok (.iconst 0, 1) by decide +kernel) (by decide))),
  List.forall_mem_cons.mpr ⟨(xOK_pure (xs_sipush (n := 200) (show decode cX11_mayTry 2 = .ok (.sipush 200, 3) by decide +kernel) (by decide))),
  List.forall_mem_cons.mpr ⟨(xcm mi_183 ⟨⟨(by decide +kernel), (by decide +kernel), (by decide +kernel)⟩, (by decide), xw_480, xw_118, Or.inr (Or.inl ⟨rfl, _, (show decode cX11_mayTry 5 = .ok (.invokestatic 52, 3) by decide +kernel), xw_478, xw_479⟩)⟩),
  List.forall_mem_cons.mpr ⟨(xOK_pure (xs_if_eq (show decode cX11_mayTry 8 = .ok (.ifCond .eq 22, 3) by decide +kernel) (by decide))),
  List.forall_mem_cons.mpr ⟨(xOK_pure (xs_aload_n (k := 0) rfl (show decode cX11_mayTry 11 = .ok (.aload_n 0, 1) by decide +kernel))),
  List.forall_mem_cons.mpr ⟨(xOK_pure (xs_getf xcl_11 (by decide) (show decode cX11_mayTry 12 = .ok (.getfield 21, 3) by decide +kernel) xw_447)),
  List.forall_mem_cons.mpr ⟨(xOK_pure (xs_getf xcl_10 (by decide) (show decode cX11_mayTry 15 = .ok (.getfield 128, 3) by decide +kernel) xw_330)),
  List.forall_mem_cons.mpr ⟨(xOK_pure (xs_iload_n (k := 1) rfl (show decode cX11_mayTry 18 = .ok (.iload_n 1, 1) by decide +kernel))),
  List.forall_mem_cons.mpr ⟨(xOK_pure (xs_iadd (show decode cX11_mayTry 19 = .ok (.iadd, 1) by decide +kernel))),
  List.forall_mem_cons.mpr ⟨(xOK_pure (xs_sipush (n := 3000) (show decode cX11_mayTry 20 = .ok (.sipush 3000, 3) by decide +kernel) (by decide))),
  List.forall_mem_cons.mpr ⟨(xOK_pure (xs_icmp_gt (show decode cX11_mayTry 23 = .ok (.if_icmp .gt 7, 3) by decide +kernel) (by decide))),
  List.forall_mem_cons.mpr ⟨(xOK_pure (xs_iconst (n := 1) (show decode cX11_mayTry 26 = .ok (.iconst 1, 1) by decide +kernel) (by decide))),
  List.forall_mem_cons.mpr ⟨(xOK_pure (xs_goto (show decode cX11_mayTry 27 = .ok (.goto 4, 3) by decide +kernel) (by decide))),
  List.forall_mem_cons.mpr ⟨(xOK_pure (xs_iconst (n := 0) (show decode cX11_mayTry 30 = .ok (.iconst 0, 1) by decide +kernel) (by decide))),
  List.forall_mem_cons.mpr ⟨(Or.inr (Or.inr (Or.inr (Or.inr (Or.inl ⟨rfl, (show decode cX11_mayTry 31 = .ok (.ireturn, 1) by decide +kernel), rfl⟩))))),
  (fun _ h => absurd h List.not_mem_nil)⟩⟩⟩⟩⟩⟩⟩⟩⟩⟩⟩⟩⟩⟩⟩⟩
theorem omX11_mayTry (ev : xEv) : xMethOK ev xmi yX11_mayTry.cls yX11_mayTry.name 172 (pX11_mayTry ev) := xMethOK.of mi_172 (by decide +kernel) (okpX11_mayTry ev)
def pX11_isField (ev : xEv) : List (Nat × xEn) := [(0, .inl (xop (xf_iload 1 1))), (1, .inl (xop (xf_push (.int 0) 1))), (2, .inl (xop (xf_aload 0 1))), (3, .inl (xop (xf_getf 11 0))), (6, .inl (xop (xf_getf 2 3))), (9, .inl (xop (xf_push (.int 1) 1))), (10, .inl (xop (xf_bin (fun x y => x - y)))), (11, .inr (.inl (1, 183, 3, 11))), (14, .inr (.inr 4))]
set_option maxRecDepth 20000 in
theorem okpX11_isField (ev : xEv) : ∀ q ∈ pX11_isField ev, xEnOK ev xmi yX11_isField.cls yX11_isField.name cX11_isField 2 (some .boolean) q :=
  List.forall_mem_cons.mpr ⟨(xOK_pure (xs_iload_n (k := 1) rfl (show decode cX11_isField 0 = .ok (.iload_n 1, 1) by decide +kernel))),
  List.forall_mem_cons.mpr ⟨(xOK_pure (xs_iconst (n := 0) (show decode cX11_isField 1 = .ok (.iconst 0, 1) by decide +kernel) (by decide))),
  List.forall_mem_cons.mpr ⟨(xOK_pure (xs_aload_n (k := 0) rfl (show decode cX11_isField 2 = .ok (.aload_n 0, 1) by decide +kernel))),
  List.forall_mem_cons.mpr ⟨(xOK_pure (xs_getf xcl_11 (by decide) (show decode cX11_isField 3 = .ok (.getfield 10, 3) by decide +kernel) xw_446)),
  List.forall_mem_cons.mpr ⟨(xOK_pure (xs_getf xcl_2 (by decide) (show decode cX11_isField 6 = .ok (.getfield 56, 3) by decide +kernel) xw_170)),
  List.forall_mem_cons.mpr ⟨(xOK_pure (xs_iconst (n := 1) (show decode cX11_isField 9 = .ok (.iconst 1, 1) by decide +kernel) (by decide))),
  List.forall_mem_cons.mpr ⟨(xOK_pure (xs_isub (show decode cX11_isField 10 = .ok (.isub, 1) by decide +kernel))),
  List.forall_mem_cons.mpr ⟨(xcm mi_183 ⟨⟨(by decide +kernel), (by decide +kernel), (by decide +kernel)⟩, (by decide), xw_480, xw_118, Or.inr (Or.inl ⟨rfl, _, (show decode cX11_isField 11 = .ok (.invokestatic 52, 3) by decide +kernel), xw_478, xw_479⟩)⟩),
  List.forall_mem_cons.mpr ⟨(Or.inr (Or.inr (Or.inr (Or.inr (Or.inl ⟨rfl, (show decode cX11_isField 14 = .ok (.ireturn, 1) by decide +kernel), rfl⟩))))),
  (fun _ h => absurd h List.not_mem_nil)⟩⟩⟩⟩⟩⟩⟩⟩⟩
theorem omX11_isField (ev : xEv) : xMethOK ev xmi yX11_isField.cls yX11_isField.name 173 (pX11_isField ev) := xMethOK.of mi_173 (by decide +kernel) (okpX11_isField ev)
def pX11_isLeg (ev : xEv) : List (Nat × xEn) := [(0, .inl (xop (xf_iload 1 1))), (1, .inl (xop (xf_push (.int 0) 1))), (2, .inl (xop (xf_aload 0 1))), (3, .inl (xop (xf_getf 11 0))), (6, .inl (xop (xf_getf 2 5))), (9, .inl (xop (xf_push (.int 1) 1))), (10, .inl (xop (xf_bin (fun x y => x - y)))), (11, .inr (.inl (1, 183, 3, 11))), (14, .inr (.inr 4))]
set_option maxRecDepth 20000 in
theorem okpX11_isLeg (ev : xEv) : ∀ q ∈ pX11_isLeg ev, xEnOK ev xmi yX11_isLeg.cls yX11_isLeg.name cX11_isLeg 2 (some .boolean) q :=
  List.forall_mem_cons.mpr ⟨(xOK_pure (xs_iload_n (k := 1) rfl (show decode cX11_isLeg 0 = .ok (.iload_n 1, 1) by decide +kernel))),
  List.forall_mem_cons.mpr ⟨(xOK_pure (xs_iconst (n := 0) (show decode cX11_isLeg 1 = .ok (.iconst 0, 1) by decide +kernel) (by decide))),
  List.forall_mem_cons.mpr ⟨(xOK_pure (xs_aload_n (k := 0) rfl (show decode cX11_isLeg 2 = .ok (.aload_n 0, 1) by decide +kernel))),
  List.forall_mem_cons.mpr ⟨(xOK_pure (xs_getf xcl_11 (by decide) (show decode cX11_isLeg 3 = .ok (.getfield 10, 3) by decide +kernel) xw_446)),
  List.forall_mem_cons.mpr ⟨(xOK_pure (xs_getf xcl_2 (by decide) (show decode cX11_isLeg 6 = .ok (.getfield 72, 3) by decide +kernel) xw_176)),
  List.forall_mem_cons.mpr ⟨(xOK_pure (xs_iconst (n := 1) (show decode cX11_isLeg 9 = .ok (.iconst 1, 1) by decide +kernel) (by decide))),
  List.forall_mem_cons.mpr ⟨(xOK_pure (xs_isub (show decode cX11_isLeg 10 = .ok (.isub, 1) by decide +kernel))),
  List.forall_mem_cons.mpr ⟨(xcm mi_183 ⟨⟨(by decide +kernel), (by decide +kernel), (by decide +kernel)⟩, (by decide), xw_480, xw_118, Or.inr (Or.inl ⟨rfl, _, (show decode cX11_isLeg 11 = .ok (.invokestatic 52, 3) by decide +kernel), xw_478, xw_479⟩)⟩),
  List.forall_mem_cons.mpr ⟨(Or.inr (Or.inr (Or.inr (Or.inr (Or.inl ⟨rfl, (show decode cX11_isLeg 14 = .ok (.ireturn, 1) by decide +kernel), rfl⟩))))),
  (fun _ h => absurd h List.not_mem_nil)⟩⟩⟩⟩⟩⟩⟩⟩⟩
theorem omX11_isLeg (ev : xEv) : xMethOK ev xmi yX11_isLeg.cls yX11_isLeg.name 174 (pX11_isLeg ev) := xMethOK.of mi_174 (by decide +kernel) (okpX11_isLeg ev)
def pX11_isPlane (ev : xEv) : List (Nat × xEn) := [(0, .inl (xop (xf_iload 1 1))), (1, .inl (xop (xf_push (.int 0) 1))), (2, .inl (xop (xf_aload 0 1))), (3, .inl (xop (xf_getf 11 1))), (6, .inl (xop (xf_getf 10 5))), (9, .inl (xop (xf_push (.int 1) 1))), (10, .inl (xop (xf_bin (fun x y => x - y)))), (11, .inr (.inl (1, 183, 3, 11))), (14, .inr (.inr 4))]
set_option maxRecDepth 20000 in
theorem okpX11_isPlane (ev : xEv) : ∀ q ∈ pX11_isPlane ev, xEnOK ev xmi yX11_isPlane.cls yX11_isPlane.name cX11_isPlane 2 (some .boolean) q :=
  List.forall_mem_cons.mpr ⟨(xOK_pure (xs_iload_n (k := 1) rfl (show decode cX11_isPlane 0 = .ok (.iload_n 1, 1) by decide +kernel))),
  List.forall_mem_cons.mpr ⟨(xOK_pure (xs_iconst (n := 0) (show decode cX11_isPlane 1 = .ok (.iconst 0, 1) by decide +kernel) (by decide))),
  List.forall_mem_cons.mpr ⟨(xOK_pure (xs_aload_n (k := 0) rfl (show decode cX11_isPlane 2 = .ok (.aload_n 0, 1) by decide +kernel))),
  List.forall_mem_cons.mpr ⟨(xOK_pure (xs_getf xcl_11 (by decide) (show decode cX11_isPlane 3 = .ok (.getfield 21, 3) by decide +kernel) xw_447)),
  List.forall_mem_cons.mpr ⟨(xOK_pure (xs_getf xcl_10 (by decide) (show decode cX11_isPlane 6 = .ok (.getfield 161, 3) by decide +kernel) xw_314)),
  List.forall_mem_cons.mpr ⟨(xOK_pure (xs_iconst (n := 1) (show decode cX11_isPlane 9 = .ok (.iconst 1, 1) by decide +kernel) (by decide))),
  List.forall_mem_cons.mpr ⟨(xOK_pure (xs_isub (show decode cX11_isPlane 10 = .ok (.isub, 1) by decide +kernel))),
  List.forall_mem_cons.mpr ⟨(xcm mi_183 ⟨⟨(by decide +kernel), (by decide +kernel), (by decide +kernel)⟩, (by decide), xw_480, xw_118, Or.inr (Or.inl ⟨rfl, _, (show decode cX11_isPlane 11 = .ok (.invokestatic 52, 3) by decide +kernel), xw_478, xw_479⟩)⟩),
  List.forall_mem_cons.mpr ⟨(Or.inr (Or.inr (Or.inr (Or.inr (Or.inl ⟨rfl, (show decode cX11_isPlane 14 = .ok (.ireturn, 1) by decide +kernel), rfl⟩))))),
  (fun _ h => absurd h List.not_mem_nil)⟩⟩⟩⟩⟩⟩⟩⟩⟩
theorem omX11_isPlane (ev : xEv) : xMethOK ev xmi yX11_isPlane.cls yX11_isPlane.name 175 (pX11_isPlane ev) := xMethOK.of mi_175 (by decide +kernel) (okpX11_isPlane ev)
def pX11_isPilot (ev : xEv) : List (Nat × xEn) := [(0, .inl (xop (xf_iload 1 1))), (1, .inl (xop (xf_push (.int 0) 1))), (2, .inl (xop (xf_aload 0 1))), (3, .inl (xop (xf_getf 11 1))), (6, .inl (xop (xf_getf 10 7))), (9, .inl (xop (xf_push (.int 1) 1))), (10, .inl (xop (xf_bin (fun x y => x - y)))), (11, .inr (.inl (1, 183, 3, 11))), (14, .inr (.inr 4))]
set_option maxRecDepth 20000 in
theorem okpX11_isPilot (ev : xEv) : ∀ q ∈ pX11_isPilot ev, xEnOK ev xmi yX11_isPilot.cls yX11_isPilot.name cX11_isPilot 2 (some .boolean) q :=
  List.forall_mem_cons.mpr ⟨(xOK_pure (xs_iload_n (k := 1) rfl (show decode cX11_isPilot 0 = .ok (.iload_n 1, 1) by decide +kernel))),
  List.forall_mem_cons.mpr ⟨(xOK_pure (xs_iconst (n := 0) (show decode cX11_isPilot 1 = .ok (.iconst 0, 1) by decide +kernel) (by decide))),
  List.forall_mem_cons.mpr ⟨(xOK_pure (xs_aload_n (k := 0) rfl (show decode cX11_isPilot 2 = .ok (.aload_n 0, 1) by decide +kernel))),
  List.forall_mem_cons.mpr ⟨(xOK_pure (xs_getf xcl_11 (by decide) (show decode cX11_isPilot 3 = .ok (.getfield 21, 3) by decide +kernel) xw_447)),
  List.forall_mem_cons.mpr ⟨(xOK_pure (xs_getf xcl_10 (by decide) (show decode cX11_isPilot 6 = .ok (.getfield 185, 3) by decide +kernel) xw_318)),
  List.forall_mem_cons.mpr ⟨(xOK_pure (xs_iconst (n := 1) (show decode cX11_isPilot 9 = .ok (.iconst 1, 1) by decide +kernel) (by decide))),
  List.forall_mem_cons.mpr ⟨(xOK_pure (xs_isub (show decode cX11_isPilot 10 = .ok (.isub, 1) by decide +kernel))),
  List.forall_mem_cons.mpr ⟨(xcm mi_183 ⟨⟨(by decide +kernel), (by decide +kernel), (by decide +kernel)⟩, (by decide), xw_480, xw_118, Or.inr (Or.inl ⟨rfl, _, (show decode cX11_isPilot 11 = .ok (.invokestatic 52, 3) by decide +kernel), xw_478, xw_479⟩)⟩),
  List.forall_mem_cons.mpr ⟨(Or.inr (Or.inr (Or.inr (Or.inr (Or.inl ⟨rfl, (show decode cX11_isPilot 14 = .ok (.ireturn, 1) by decide +kernel), rfl⟩))))),
  (fun _ h => absurd h List.not_mem_nil)⟩⟩⟩⟩⟩⟩⟩⟩⟩
theorem omX11_isPilot (ev : xEv) : xMethOK ev xmi yX11_isPilot.cls yX11_isPilot.name 176 (pX11_isPilot ev) := xMethOK.of mi_176 (by decide +kernel) (okpX11_isPilot ev)
def pX11_isBag (ev : xEv) : List (Nat × xEn) := [(0, .inl (xop (xf_iload 1 1))), (1, .inl (xop (xf_push (.int 0) 1))), (2, .inl (xop (xf_aload 0 1))), (3, .inl (xop (xf_getf 11 1))), (6, .inl (xop (xf_getf 10 9))), (9, .inl (xop (xf_push (.int 1) 1))), (10, .inl (xop (xf_bin (fun x y => x - y)))), (11, .inr (.inl (1, 183, 3, 11))), (14, .inr (.inr 4))]
set_option maxRecDepth 20000 in
theorem okpX11_isBag (ev : xEv) : ∀ q ∈ pX11_isBag ev, xEnOK ev xmi yX11_isBag.cls yX11_isBag.name cX11_isBag 2 (some .boolean) q :=
  List.forall_mem_cons.mpr ⟨(xOK_pure (xs_iload_n (k := 1) rfl (show decode cX11_isBag 0 = .ok (.iload_n 1, 1) by decide +kernel))),
  List.forall_mem_cons.mpr ⟨(xOK_pure (xs_iconst (n := 0) (show decode cX11_isBag 1 = .ok (.iconst 0, 1) by decide +kernel) (by decide))),
  List.forall_mem_cons.mpr ⟨(xOK_pure (xs_aload_n (k := 0) rfl (show decode cX11_isBag 2 = .ok (.aload_n 0, 1) by decide +kernel))),
  List.forall_mem_cons.mpr ⟨(xOK_pure (xs_getf xcl_11 (by decide) (show decode cX11_isBag 3 = .ok (.getfield 21, 3) by decide +kernel) xw_447)),
  List.forall_mem_cons.mpr ⟨(xOK_pure (xs_getf xcl_10 (by decide) (show decode cX11_isBag 6 = .ok (.getfield 203, 3) by decide +kernel) xw_322)),
  List.forall_mem_cons.mpr ⟨(xOK_pure (xs_iconst (n := 1) (show decode cX11_isBag 9 = .ok (.iconst 1, 1) by decide +kernel) (by decide))),
  List.forall_mem_cons.mpr ⟨(xOK_pure (xs_isub (show decode cX11_isBag 10 = .ok (.isub, 1) by decide +kernel))),
  List.forall_mem_cons.mpr ⟨(xcm mi_183 ⟨⟨(by decide +kernel), (by decide +kernel), (by decide +kernel)⟩, (by decide), xw_480, xw_118, Or.inr (Or.inl ⟨rfl, _, (show decode cX11_isBag 11 = .ok (.invokestatic 52, 3) by decide +kernel), xw_478, xw_479⟩)⟩),
  List.forall_mem_cons.mpr ⟨(Or.inr (Or.inr (Or.inr (Or.inr (Or.inl ⟨rfl, (show decode cX11_isBag 14 = .ok (.ireturn, 1) by decide +kernel), rfl⟩))))),
  (fun _ h => absurd h List.not_mem_nil)⟩⟩⟩⟩⟩⟩⟩⟩⟩
theorem omX11_isBag (ev : xEv) : xMethOK ev xmi yX11_isBag.cls yX11_isBag.name 177 (pX11_isBag ev) := xMethOK.of mi_177 (by decide +kernel) (okpX11_isBag ev)
def pX11_isFlight (ev : xEv) : List (Nat × xEn) := [(0, .inl (xop (xf_iload 1 1))), (1, .inl (xop (xf_push (.int 0) 1))), (2, .inl (xop (xf_aload 0 1))), (3, .inl (xop (xf_getf 11 1))), (6, .inl (xop (xf_getf 10 12))), (9, .inl (xop (xf_push (.int 1) 1))), (10, .inl (xop (xf_bin (fun x y => x - y)))), (11, .inr (.inl (1, 183, 3, 11))), (14, .inr (.inr 4))]
set_option maxRecDepth 20000 in
theorem okpX11_isFlight (ev : xEv) : ∀ q ∈ pX11_isFlight ev, xEnOK ev xmi yX11_isFlight.cls yX11_isFlight.name cX11_isFlight 2 (some .boolean) q :=
  List.forall_mem_cons.mpr ⟨(xOK_pure (xs_iload_n (k := 1) rfl (show decode cX11_isFlight 0 = .ok (.iload_n 1, 1) by decide +kernel))),
  List.forall_mem_cons.mpr ⟨(xOK_pure (xs_iconst (n := 0) (show decode cX11_isFlight 1 = .ok (.iconst 0, 1) by decide +kernel) (by decide))),
  List.forall_mem_cons.mpr ⟨(xOK_pure (xs_aload_n (k := 0) rfl (show decode cX11_isFlight 2 = .ok (.aload_n 0, 1) by decide +kernel))),
  List.forall_mem_cons.mpr ⟨(xOK_pure (xs_getf xcl_11 (by decide) (show decode cX11_isFlight 3 = .ok (.getfield 21, 3) by decide +kernel) xw_447)),
  List.forall_mem_cons.mpr ⟨(xOK_pure (xs_getf xcl_10 (by decide) (show decode cX11_isFlight 6 = .ok (.getfield 282, 3) by decide +kernel) xw_327)),
  List.forall_mem_cons.mpr ⟨(xOK_pure (xs_iconst (n := 1) (show decode cX11_isFlight 9 = .ok (.iconst 1, 1) by decide +kernel) (by decide))),
  List.forall_mem_cons.mpr ⟨(xOK_pure (xs_isub (show decode cX11_isFlight 10 = .ok (.isub, 1) by decide +kernel))),
  List.forall_mem_cons.mpr ⟨(xcm mi_183 ⟨⟨(by decide +kernel), (by decide +kernel), (by decide +kernel)⟩, (by decide), xw_480, xw_118, Or.inr (Or.inl ⟨rfl, _, (show decode cX11_isFlight 11 = .ok (.invokestatic 52, 3) by decide +kernel), xw_478, xw_479⟩)⟩),
  List.forall_mem_cons.mpr ⟨(Or.inr (Or.inr (Or.inr (Or.inr (Or.inl ⟨rfl, (show decode cX11_isFlight 14 = .ok (.ireturn, 1) by decide +kernel), rfl⟩))))),
  (fun _ h => absurd h List.not_mem_nil)⟩⟩⟩⟩⟩⟩⟩⟩⟩
theorem omX11_isFlight (ev : xEv) : xMethOK ev xmi yX11_isFlight.cls yX11_isFlight.name 178 (pX11_isFlight ev) := xMethOK.of mi_178 (by decide +kernel) (okpX11_isFlight ev)
def pX11_isDown (ev : xEv) : List (Nat × xEn) := [(0, .inl (xop (xf_aload 0 1))), (1, .inl (xop (xf_iload 1 1))), (2, .inr (.inl (0, 175, 1, 11))), (5, .inl (xop (xf_if_eq 27))), (8, .inl (xop (xf_aload 0 1))), (9, .inl (xop (xf_getf 11 1))), (12, .inl (xop (xf_getf 10 4))), (15, .inl (xop (xf_iload 1 1))), (16, .inl (xop (xf_aald (ev.1 5)))), (17, .inl (xop (xf_getf 6 12))), (20, .inl (xop (xf_if_eq 27))), (23, .inl (xop (xf_push (.int 1) 1))), (24, .inl (xop (xf_goto 28))), (27, .inl (xop (xf_push (.int 0) 1))), (28, .inr (.inr 4))]
set_option maxRecDepth 20000 in
theorem okpX11_isDown (ev : xEv) : ∀ q ∈ pX11_isDown ev, xEnOK ev xmi yX11_isDown.cls yX11_isDown.name cX11_isDown 2 (some .boolean) q :=
  List.forall_mem_cons.mpr ⟨(xOK_pure (xs_aload_n (k := 0) rfl (show decode cX11_isDown 0 = .ok (.aload_n 0, 1) by decide +kernel))),
  List.forall_mem_cons.mpr ⟨(xOK_pure (xs_iload_n (k := 1) rfl (show decode cX11_isDown 1 = .ok (.iload_n 1, 1) by decide +kernel))),
  List.forall_mem_cons.mpr ⟨(xcm mi_175 ⟨⟨(by decide +kernel), (by decide +kernel), (by decide +kernel)⟩, (by decide), xw_701, xw_118, Or.inl ⟨rfl, _, _, _, _, (show decode cX11_isDown 2 = .ok (.invokevirtual 173, 3) by decide +kernel), xw_698, xw_700, xw_2, rfl⟩⟩),
  List.forall_mem_cons.mpr ⟨(xOK_pure (xs_if_eq (show decode cX11_isDown 5 = .ok (.ifCond .eq 22, 3) by decide +kernel) (by decide))),
  List.forall_mem_cons.mpr ⟨(xOK_pure (xs_aload_n (k := 0) rfl (show decode cX11_isDown 8 = .ok (.aload_n 0, 1) by decide +kernel))),
  List.forall_mem_cons.mpr ⟨(xOK_pure (xs_getf xcl_11 (by decide) (show decode cX11_isDown 9 = .ok (.getfield 21, 3) by decide +kernel) xw_447)),
  List.forall_mem_cons.mpr ⟨(xOK_pure (xs_getf xcl_10 (by decide) (show decode cX11_isDown 12 = .ok (.getfield 164, 3) by decide +kernel) xw_311)),
  List.forall_mem_cons.mpr ⟨(xOK_pure (xs_iload_n (k := 1) rfl (show decode cX11_isDown 15 = .ok (.iload_n 1, 1) by decide +kernel))),
  List.forall_mem_cons.mpr ⟨(xOK_pure (xs_aald (t := 5) rfl (show decode cX11_isDown 16 = .ok (.aaload, 1) by decide +kernel))),
  List.forall_mem_cons.mpr ⟨(xOK_pure (xs_getf xcl_6 (by decide) (show decode cX11_isDown 17 = .ok (.getfield 343, 3) by decide +kernel) xw_629)),
  List.forall_mem_cons.mpr ⟨(xOK_pure (xs_if_eq (show decode cX11_isDown 20 = .ok (.ifCond .eq 7, 3) by decide +kernel) (by decide))),
  List.forall_mem_cons.mpr ⟨(xOK_pure (xs_iconst (n := 1) (show decode cX11_isDown 23 = .ok (.iconst 1, 1) by decide +kernel) (by decide))),
  List.forall_mem_cons.mpr ⟨(xOK_pure (xs_goto (show decode cX11_isDown 24 = .ok (.goto 4, 3) by decide +kernel) (by decide))),
  List.forall_mem_cons.mpr ⟨(xOK_pure (xs_iconst (n := 0) (show decode cX11_isDown 27 = .ok (.iconst 0, 1) by decide +kernel) (by decide))),
  List.forall_mem_cons.mpr ⟨(Or.inr (Or.inr (Or.inr (Or.inr (Or.inl ⟨rfl, (show decode cX11_isDown 28 = .ok (.ireturn, 1) by decide +kernel), rfl⟩))))),
  (fun _ h => absurd h List.not_mem_nil)⟩⟩⟩⟩⟩⟩⟩⟩⟩⟩⟩⟩⟩⟩⟩
theorem omX11_isDown (ev : xEv) : xMethOK ev xmi yX11_isDown.cls yX11_isDown.name 179 (pX11_isDown ev) := xMethOK.of mi_179 (by decide +kernel) (okpX11_isDown ev)
def pX11_isCell_0 (ev : xEv) : List (Nat × xEn) := [(0, .inl (xop (xf_aload 0 1))), (1, .inl (xop (xf_iload 1 1))), (2, .inr (.inl (0, 179, 1, 11))), (5, .inl (xop (xf_if_eq 45))), (8, .inl (xop (xf_iload 2 1))), (9, .inl (xop (xf_push (.int 0) 1))), (10, .inl (xop (xf_aload 0 1))), (11, .inl (xop (xf_getf 11 0))), (14, .inl (xop (xf_getf 2 4))), (17, .inl (xop (xf_aload 0 1))), (18, .inl (xop (xf_getf 11 1))), (21, .inl (xop (xf_getf 10 4))), (24, .inl (xop (xf_iload 1 1))), (25, .inl (xop (xf_aald (ev.1 5)))), (26, .inl (xop (xf_getf 6 9))), (29, .inl (xop (xf_aald (ev.1 4)))), (30, .inr (.inl (0, 39, 0, 3))), (33, .inl (xop (xf_push (.int 1) 1))), (34, .inl (xop (xf_bin (fun x y => x - y)))), (35, .inr (.inl (1, 183, 3, 11)))]
set_option maxRecDepth 20000 in
theorem okpX11_isCell_0 (ev : xEv) : ∀ q ∈ pX11_isCell_0 ev, xEnOK ev xmi yX11_isCell.cls yX11_isCell.name cX11_isCell 3 (some .boolean) q :=
  List.forall_mem_cons.mpr ⟨(xOK_pure (xs_aload_n (k := 0) rfl (show decode cX11_isCell 0 = .ok (.aload_n 0, 1) by decide +kernel))),
  List.forall_mem_cons.mpr ⟨(xOK_pure (xs_iload_n (k := 1) rfl (show decode cX11_isCell 1 = .ok (.iload_n 1, 1) by decide +kernel))),
  List.forall_mem_cons.mpr ⟨(xcm mi_179 ⟨⟨(by decide +kernel), (by decide +kernel), (by decide +kernel)⟩, (by decide), xw_1359, xw_118, Or.inl ⟨rfl, _, _, _, _, (show decode cX11_isCell 2 = .ok (.invokevirtual 424, 3) by decide +kernel), xw_1356, xw_1358, xw_43, rfl⟩⟩),
  List.forall_mem_cons.mpr ⟨(xOK_pure (xs_if_eq (show decode cX11_isCell 5 = .ok (.ifCond .eq 40, 3) by decide +kernel) (by decide))),
  List.forall_mem_cons.mpr ⟨(xOK_pure (xs_iload_n (k := 2) rfl (show decode cX11_isCell 8 = .ok (.iload_n 2, 1) by decide +kernel))),
  List.forall_mem_cons.mpr ⟨(xOK_pure (xs_iconst (n := 0) (show decode cX11_isCell 9 = .ok (.iconst 0, 1) by decide +kernel) (by decide))),
  List.forall_mem_cons.mpr ⟨(xOK_pure (xs_aload_n (k := 0) rfl (show decode cX11_isCell 10 = .ok (.aload_n 0, 1) by decide +kernel))),
  List.forall_mem_cons.mpr ⟨(xOK_pure (xs_getf xcl_11 (by decide) (show decode cX11_isCell 11 = .ok (.getfield 10, 3) by decide +kernel) xw_446)),
  List.forall_mem_cons.mpr ⟨(xOK_pure (xs_getf xcl_2 (by decide) (show decode cX11_isCell 14 = .ok (.getfield 82, 3) by decide +kernel) xw_173)),
  List.forall_mem_cons.mpr ⟨(xOK_pure (xs_aload_n (k := 0) rfl (show decode cX11_isCell 17 = .ok (.aload_n 0, 1) by decide +kernel))),
  List.forall_mem_cons.mpr ⟨(xOK_pure (xs_getf xcl_11 (by decide) (show decode cX11_isCell 18 = .ok (.getfield 21, 3) by decide +kernel) xw_447)),
  List.forall_mem_cons.mpr ⟨(xOK_pure (xs_getf xcl_10 (by decide) (show decode cX11_isCell 21 = .ok (.getfield 164, 3) by decide +kernel) xw_311)),
  List.forall_mem_cons.mpr ⟨(xOK_pure (xs_iload_n (k := 1) rfl (show decode cX11_isCell 24 = .ok (.iload_n 1, 1) by decide +kernel))),
  List.forall_mem_cons.mpr ⟨(xOK_pure (xs_aald (t := 5) rfl (show decode cX11_isCell 25 = .ok (.aaload, 1) by decide +kernel))),
  List.forall_mem_cons.mpr ⟨(xOK_pure (xs_getf xcl_6 (by decide) (show decode cX11_isCell 26 = .ok (.getfield 337, 3) by decide +kernel) xw_620)),
  List.forall_mem_cons.mpr ⟨(xOK_pure (xs_aald (t := 4) rfl (show decode cX11_isCell 29 = .ok (.aaload, 1) by decide +kernel))),
  List.forall_mem_cons.mpr ⟨(xcm mi_39 ⟨⟨(by decide +kernel), (by decide +kernel), (by decide +kernel)⟩, (by decide), xw_1376, xw_126, Or.inl ⟨rfl, _, _, _, _, (show decode cX11_isCell 30 = .ok (.invokevirtual 466, 3) by decide +kernel), xw_1373, xw_1374, xw_1375, rfl⟩⟩),
  List.forall_mem_cons.mpr ⟨(xOK_pure (xs_iconst (n := 1) (show decode cX11_isCell 33 = .ok (.iconst 1, 1) by decide +kernel) (by decide))),
  List.forall_mem_cons.mpr ⟨(xOK_pure (xs_isub (show decode cX11_isCell 34 = .ok (.isub, 1) by decide +kernel))),
  List.forall_mem_cons.mpr ⟨(xcm mi_183 ⟨⟨(by decide +kernel), (by decide +kernel), (by decide +kernel)⟩, (by decide), xw_480, xw_118, Or.inr (Or.inl ⟨rfl, _, (show decode cX11_isCell 35 = .ok (.invokestatic 52, 3) by decide +kernel), xw_478, xw_479⟩)⟩),
  (fun _ h => absurd h List.not_mem_nil)⟩⟩⟩⟩⟩⟩⟩⟩⟩⟩⟩⟩⟩⟩⟩⟩⟩⟩⟩⟩
def pX11_isCell_1 (ev : xEv) : List (Nat × xEn) := [(38, .inl (xop (xf_if_eq 45))), (41, .inl (xop (xf_push (.int 1) 1))), (42, .inl (xop (xf_goto 46))), (45, .inl (xop (xf_push (.int 0) 1))), (46, .inr (.inr 4))]
set_option maxRecDepth 20000 in
theorem okpX11_isCell_1 (ev : xEv) : ∀ q ∈ pX11_isCell_1 ev, xEnOK ev xmi yX11_isCell.cls yX11_isCell.name cX11_isCell 3 (some .boolean) q :=
  List.forall_mem_cons.mpr ⟨(xOK_pure (xs_if_eq (show decode cX11_isCell 38 = .ok (.ifCond .eq 7, 3) by decide +kernel) (by decide))),
  List.forall_mem_cons.mpr ⟨(xOK_pure (xs_iconst (n := 1) (show decode cX11_isCell 41 = .ok (.iconst 1, 1) by decide +kernel) (by decide))),
  List.forall_mem_cons.mpr ⟨(xOK_pure (xs_goto (show decode cX11_isCell 42 = .ok (.goto 4, 3) by decide +kernel) (by decide))),
  List.forall_mem_cons.mpr ⟨(xOK_pure (xs_iconst (n := 0) (show decode cX11_isCell 45 = .ok (.iconst 0, 1) by decide +kernel) (by decide))),
  List.forall_mem_cons.mpr ⟨(Or.inr (Or.inr (Or.inr (Or.inr (Or.inl ⟨rfl, (show decode cX11_isCell 46 = .ok (.ireturn, 1) by decide +kernel), rfl⟩))))),
  (fun _ h => absurd h List.not_mem_nil)⟩⟩⟩⟩⟩
def pX11_isCell (ev : xEv) : List (Nat × xEn) := pX11_isCell_0 ev ++ (pX11_isCell_1 ev)
theorem okpX11_isCell (ev : xEv) : ∀ q ∈ pX11_isCell ev, xEnOK ev xmi yX11_isCell.cls yX11_isCell.name cX11_isCell 3 (some .boolean) q := List.forall_mem_append.mpr ⟨okpX11_isCell_0 ev, okpX11_isCell_1 ev⟩
theorem omX11_isCell (ev : xEv) : xMethOK ev xmi yX11_isCell.cls yX11_isCell.name 180 (pX11_isCell ev) := xMethOK.of mi_180 (by decide +kernel) (okpX11_isCell ev)
def pX11_isQuarter (ev : xEv) : List (Nat × xEn) := [(0, .inl (xop (xf_iload 0 1))), (1, .inl (xop (xf_push (.int 0) 1))), (2, .inl (xop (xf_push (.int 3000) 3))), (5, .inr (.inl (1, 183, 3, 11))), (8, .inr (.inr 4))]
set_option maxRecDepth 20000 in
theorem okpX11_isQuarter (ev : xEv) : ∀ q ∈ pX11_isQuarter ev, xEnOK ev xmi yX11_isQuarter.cls yX11_isQuarter.name cX11_isQuarter 1 (some .boolean) q :=
  List.forall_mem_cons.mpr ⟨(xOK_pure (xs_iload_n (k := 0) rfl (show decode cX11_isQuarter 0 = .ok (.iload_n 0, 1) by decide +kernel))),
  List.forall_mem_cons.mpr ⟨(xOK_pure (xs_iconst (n := 0) (show decode cX11_isQuarter 1 = .ok (.iconst 0, 1) by decide +kernel) (by decide))),
  List.forall_mem_cons.mpr ⟨(xOK_pure (xs_sipush (n := 3000) (show decode cX11_isQuarter 2 = .ok (.sipush 3000, 3) by decide +kernel) (by decide))),
  List.forall_mem_cons.mpr ⟨(xcm mi_183 ⟨⟨(by decide +kernel), (by decide +kernel), (by decide +kernel)⟩, (by decide), xw_480, xw_118, Or.inr (Or.inl ⟨rfl, _, (show decode cX11_isQuarter 5 = .ok (.invokestatic 52, 3) by decide +kernel), xw_478, xw_479⟩)⟩),
  List.forall_mem_cons.mpr ⟨(Or.inr (Or.inr (Or.inr (Or.inr (Or.inl ⟨rfl, (show decode cX11_isQuarter 8 = .ok (.ireturn, 1) by decide +kernel), rfl⟩))))),
  (fun _ h => absurd h List.not_mem_nil)⟩⟩⟩⟩⟩
theorem omX11_isQuarter (ev : xEv) : xMethOK ev xmi yX11_isQuarter.cls yX11_isQuarter.name 181 (pX11_isQuarter ev) := xMethOK.of mi_181 (by decide +kernel) (okpX11_isQuarter ev)
def pX11_isWeather (ev : xEv) : List (Nat × xEn) := [(0, .inl (xop (xf_iload 0 1))), (1, .inl (xop (xf_push (.int 0) 1))), (2, .inl (xop (xf_push (.int 200) 3))), (5, .inr (.inl (1, 183, 3, 11))), (8, .inl (xop (xf_if_eq 26))), (11, .inl (xop (xf_iload 1 1))), (12, .inl (xop (xf_push (.int (-9)) 2))), (14, .inl (xop (xf_push (.int 9) 2))), (16, .inr (.inl (1, 183, 3, 11))), (19, .inl (xop (xf_if_eq 26))), (22, .inl (xop (xf_push (.int 1) 1))), (23, .inl (xop (xf_goto 27))), (26, .inl (xop (xf_push (.int 0) 1))), (27, .inr (.inr 4))]
set_option maxRecDepth 20000 in
theorem okpX11_isWeather (ev : xEv) : ∀ q ∈ pX11_isWeather ev, xEnOK ev xmi yX11_isWeather.cls yX11_isWeather.name cX11_isWeather 2 (some .boolean) q :=
  List.forall_mem_cons.mpr ⟨(xOK_pure (xs_iload_n (k := 0) rfl (show decode cX11_isWeather 0 = .ok (.iload_n 0, 1) by decide +kernel))),
  List.forall_mem_cons.mpr ⟨(xOK_pure (xs_iconst (n := 0) (show decode cX11_isWeather 1 = .ok (.iconst 0, 1) by decide +kernel) (by decide))),
  List.forall_mem_cons.mpr ⟨(xOK_pure (xs_sipush (n := 200) (show decode cX11_isWeather 2 = .ok (.sipush 200, 3) by decide +kernel) (by decide))),
  List.forall_mem_cons.mpr ⟨(xcm mi_183 ⟨⟨(by decide +kernel), (by decide +kernel), (by decide +kernel)⟩, (by decide), xw_480, xw_118, Or.inr (Or.inl ⟨rfl, _, (show decode cX11_isWeather 5 = .ok (.invokestatic 52, 3) by decide +kernel), xw_478, xw_479⟩)⟩),
  List.forall_mem_cons.mpr ⟨(xOK_pure (xs_if_eq (show decode cX11_isWeather 8 = .ok (.ifCond .eq 18, 3) by decide +kernel) (by decide))),
  List.forall_mem_cons.mpr ⟨(xOK_pure (xs_iload_n (k := 1) rfl (show decode cX11_isWeather 11 = .ok (.iload_n 1, 1) by decide +kernel))),
  List.forall_mem_cons.mpr ⟨(xOK_pure (xs_bipush (n := (-9)) (show decode cX11_isWeather 12 = .ok (.bipush (-9), 2) by decide +kernel) (by decide))),
  List.forall_mem_cons.mpr ⟨(xOK_pure (xs_bipush (n := 9) (show decode cX11_isWeather 14 = .ok (.bipush 9, 2) by decide +kernel) (by decide))),
  List.forall_mem_cons.mpr ⟨(xcm mi_183 ⟨⟨(by decide +kernel), (by decide +kernel), (by decide +kernel)⟩, (by decide), xw_480, xw_118, Or.inr (Or.inl ⟨rfl, _, (show decode cX11_isWeather 16 = .ok (.invokestatic 52, 3) by decide +kernel), xw_478, xw_479⟩)⟩),
  List.forall_mem_cons.mpr ⟨(xOK_pure (xs_if_eq (show decode cX11_isWeather 19 = .ok (.ifCond .eq 7, 3) by decide +kernel) (by decide))),
  List.forall_mem_cons.mpr ⟨(xOK_pure (xs_iconst (n := 1) (show decode cX11_isWeather 22 = .ok (.iconst 1, 1) by decide +kernel) (by decide))),
  List.forall_mem_cons.mpr ⟨(xOK_pure (xs_goto (show decode cX11_isWeather 23 = .ok (.goto 4, 3) by decide +kernel) (by decide))),
  List.forall_mem_cons.mpr ⟨(xOK_pure (xs_iconst (n := 0) (show decode cX11_isWeather 26 = .ok (.iconst 0, 1) by decide +kernel) (by decide))),
  List.forall_mem_cons.mpr ⟨(Or.inr (Or.inr (Or.inr (Or.inr (Or.inl ⟨rfl, (show decode cX11_isWeather 27 = .ok (.ireturn, 1) by decide +kernel), rfl⟩))))),
  (fun _ h => absurd h List.not_mem_nil)⟩⟩⟩⟩⟩⟩⟩⟩⟩⟩⟩⟩⟩⟩
theorem omX11_isWeather (ev : xEv) : xMethOK ev xmi yX11_isWeather.cls yX11_isWeather.name 182 (pX11_isWeather ev) := xMethOK.of mi_182 (by decide +kernel) (okpX11_isWeather ev)
def pX11_within (ev : xEv) : List (Nat × xEn) := [(0, .inl (xop (xf_iload 0 1))), (1, .inl (xop (xf_iload 1 1))), (2, .inl (xop (xf_icmp_lt 14))), (5, .inl (xop (xf_iload 0 1))), (6, .inl (xop (xf_iload 2 1))), (7, .inl (xop (xf_icmp_gt 14))), (10, .inl (xop (xf_push (.int 1) 1))), (11, .inl (xop (xf_goto 15))), (14, .inl (xop (xf_push (.int 0) 1))), (15, .inr (.inr 4))]
set_option maxRecDepth 20000 in
theorem okpX11_within (ev : xEv) : ∀ q ∈ pX11_within ev, xEnOK ev xmi yX11_within.cls yX11_within.name cX11_within 3 (some .boolean) q :=
  List.forall_mem_cons.mpr ⟨(xOK_pure (xs_iload_n (k := 0) rfl (show decode cX11_within 0 = .ok (.iload_n 0, 1) by decide +kernel))),
  List.forall_mem_cons.mpr ⟨(xOK_pure (xs_iload_n (k := 1) rfl (show decode cX11_within 1 = .ok (.iload_n 1, 1) by decide +kernel))),
  List.forall_mem_cons.mpr ⟨(xOK_pure (xs_icmp_lt (show decode cX11_within 2 = .ok (.if_icmp .lt 12, 3) by decide +kernel) (by decide))),
  List.forall_mem_cons.mpr ⟨(xOK_pure (xs_iload_n (k := 0) rfl (show decode cX11_within 5 = .ok (.iload_n 0, 1) by decide +kernel))),
  List.forall_mem_cons.mpr ⟨(xOK_pure (xs_iload_n (k := 2) rfl (show decode cX11_within 6 = .ok (.iload_n 2, 1) by decide +kernel))),
  List.forall_mem_cons.mpr ⟨(xOK_pure (xs_icmp_gt (show decode cX11_within 7 = .ok (.if_icmp .gt 7, 3) by decide +kernel) (by decide))),
  List.forall_mem_cons.mpr ⟨(xOK_pure (xs_iconst (n := 1) (show decode cX11_within 10 = .ok (.iconst 1, 1) by decide +kernel) (by decide))),
  List.forall_mem_cons.mpr ⟨(xOK_pure (xs_goto (show decode cX11_within 11 = .ok (.goto 4, 3) by decide +kernel) (by decide))),
  List.forall_mem_cons.mpr ⟨(xOK_pure (xs_iconst (n := 0) (show decode cX11_within 14 = .ok (.iconst 0, 1) by decide +kernel) (by decide))),
  List.forall_mem_cons.mpr ⟨(Or.inr (Or.inr (Or.inr (Or.inr (Or.inl ⟨rfl, (show decode cX11_within 15 = .ok (.ireturn, 1) by decide +kernel), rfl⟩))))),
  (fun _ h => absurd h List.not_mem_nil)⟩⟩⟩⟩⟩⟩⟩⟩⟩⟩
theorem omX11_within (ev : xEv) : xMethOK ev xmi yX11_within.cls yX11_within.name 183 (pX11_within ev) := xMethOK.of mi_183 (by decide +kernel) (okpX11_within ev)
def pX11_roundUp (ev : xEv) : List (Nat × xEn) := [(0, .inl (xop (xf_iload 1 1))), (1, .inl (xop (xf_if_gt 8))), (4, .inl (xop (xf_push (.int 0) 1))), (5, .inl (xop (xf_goto 15))), (8, .inl (xop (xf_iload 0 1))), (9, .inl (xop (xf_iload 1 1))), (10, .inl (xop (xf_bin (fun x y => x + y)))), (11, .inl (xop (xf_push (.int 1) 1))), (12, .inl (xop (xf_bin (fun x y => x - y)))), (13, .inl (xop (xf_iload 1 1))), (14, .inl (xop (xf_div (fun x y => x / y)))), (15, .inr (.inr 1))]
set_option maxRecDepth 20000 in
theorem okpX11_roundUp (ev : xEv) : ∀ q ∈ pX11_roundUp ev, xEnOK ev xmi yX11_roundUp.cls yX11_roundUp.name cX11_roundUp 2 (some .int) q :=
  List.forall_mem_cons.mpr ⟨(xOK_pure (xs_iload_n (k := 1) rfl (show decode cX11_roundUp 0 = .ok (.iload_n 1, 1) by decide +kernel))),
  List.forall_mem_cons.mpr ⟨(xOK_pure (xs_if_gt (show decode cX11_roundUp 1 = .ok (.ifCond .gt 7, 3) by decide +kernel) (by decide))),
  List.forall_mem_cons.mpr ⟨(xOK_pure (xs_iconst (n := 0) (show decode cX11_roundUp 4 = .ok (.iconst 0, 1) by decide +kernel) (by decide))),
  List.forall_mem_cons.mpr ⟨(xOK_pure (xs_goto (show decode cX11_roundUp 5 = .ok (.goto 10, 3) by decide +kernel) (by decide))),
  List.forall_mem_cons.mpr ⟨(xOK_pure (xs_iload_n (k := 0) rfl (show decode cX11_roundUp 8 = .ok (.iload_n 0, 1) by decide +kernel))),
  List.forall_mem_cons.mpr ⟨(xOK_pure (xs_iload_n (k := 1) rfl (show decode cX11_roundUp 9 = .ok (.iload_n 1, 1) by decide +kernel))),
  List.forall_mem_cons.mpr ⟨(xOK_pure (xs_iadd (show decode cX11_roundUp 10 = .ok (.iadd, 1) by decide +kernel))),
  List.forall_mem_cons.mpr ⟨(xOK_pure (xs_iconst (n := 1) (show decode cX11_roundUp 11 = .ok (.iconst 1, 1) by decide +kernel) (by decide))),
  List.forall_mem_cons.mpr ⟨(xOK_pure (xs_isub (show decode cX11_roundUp 12 = .ok (.isub, 1) by decide +kernel))),
  List.forall_mem_cons.mpr ⟨(xOK_pure (xs_iload_n (k := 1) rfl (show decode cX11_roundUp 13 = .ok (.iload_n 1, 1) by decide +kernel))),
  List.forall_mem_cons.mpr ⟨(xOK_pure (xs_idiv (show decode cX11_roundUp 14 = .ok (.idiv, 1) by decide +kernel))),
  List.forall_mem_cons.mpr ⟨(Or.inr (Or.inl ⟨rfl, (show decode cX11_roundUp 15 = .ok (.ireturn, 1) by decide +kernel), rfl⟩)),
  (fun _ h => absurd h List.not_mem_nil)⟩⟩⟩⟩⟩⟩⟩⟩⟩⟩⟩⟩
theorem omX11_roundUp (ev : xEv) : xMethOK ev xmi yX11_roundUp.cls yX11_roundUp.name 184 (pX11_roundUp ev) := xMethOK.of mi_184 (by decide +kernel) (okpX11_roundUp ev)
def pX11_commonDivisor_0 (ev : xEv) : List (Nat × xEn) := [(0, .inl (xop (xf_lload 0 1))), (1, .inl (xop (xf_lstore 4 2))), (3, .inl (xop (xf_lload 2 1))), (4, .inl (xop (xf_lstore 6 2))), (6, .inl (xop (xf_push (.int 0) 1))), (7, .inl (xop (xf_istore 8 2))), (9, .inl (xop (xf_iload 8 2))), (11, .inl (xop (xf_push (.int 100) 2))), (13, .inl (xop (xf_icmp_ge 44))), (16, .inl (xop (xf_lload 6 2))), (18, .inl (xop (xf_push (.long 0) 1))), (19, .inl (xop xf_lcmp)), (20, .inl (xop (xf_if_eq 44))), (23, .inl (xop (xf_lload 4 2))), (25, .inl (xop (xf_lload 6 2))), (27, .inl (xop (xf_ldiv (fun x y => x - x / y * y)))), (28, .inl (xop (xf_lstore 9 2))), (30, .inl (xop (xf_lload 6 2))), (32, .inl (xop (xf_lstore 4 2))), (34, .inl (xop (xf_lload 9 2)))]
set_option maxRecDepth 20000 in
theorem okpX11_commonDivisor_0 (ev : xEv) : ∀ q ∈ pX11_commonDivisor_0 ev, xEnOK ev xmi yX11_commonDivisor.cls yX11_commonDivisor.name cX11_commonDivisor 11 (some .long) q :=
  List.forall_mem_cons.mpr ⟨(xOK_pure (xs_lload_n (k := 0) rfl (show decode cX11_commonDivisor 0 = .ok (.lload_n 0, 1) by decide +kernel))),
  List.forall_mem_cons.mpr ⟨(xOK_pure (xs_lstore (show decode cX11_commonDivisor 1 = .ok (.lstore 4, 2) by decide +kernel) (by decide))),
  List.forall_mem_cons.mpr ⟨(xOK_pure (xs_lload_n (k := 2) rfl (show decode cX11_commonDivisor 3 = .ok (.lload_n 2, 1) by decide +kernel))),
  List.forall_mem_cons.mpr ⟨(xOK_pure (xs_lstore (show decode cX11_commonDivisor 4 = .ok (.lstore 6, 2) by decide +kernel) (by decide))),
  List.forall_mem_cons.mpr ⟨(xOK_pure (xs_iconst (n := 0) (show decode cX11_commonDivisor 6 = .ok (.iconst 0, 1) by decide +kernel) (by decide))),
  List.forall_mem_cons.mpr ⟨(xOK_pure (xs_istore (show decode cX11_commonDivisor 7 = .ok (.istore 8, 2) by decide +kernel) (by decide))),
  List.forall_mem_cons.mpr ⟨(xOK_pure (xs_iload (show decode cX11_commonDivisor 9 = .ok (.iload 8, 2) by decide +kernel))),
  List.forall_mem_cons.mpr ⟨(xOK_pure (xs_bipush (n := 100) (show decode cX11_commonDivisor 11 = .ok (.bipush 100, 2) by decide +kernel) (by decide))),
  List.forall_mem_cons.mpr ⟨(xOK_pure (xs_icmp_ge (show decode cX11_commonDivisor 13 = .ok (.if_icmp .ge 31, 3) by decide +kernel) (by decide))),
  List.forall_mem_cons.mpr ⟨(xOK_pure (xs_lload (show decode cX11_commonDivisor 16 = .ok (.lload 6, 2) by decide +kernel))),
  List.forall_mem_cons.mpr ⟨(xOK_pure (xs_lconst (n := 0) (show decode cX11_commonDivisor 18 = .ok (.lconst 0, 1) by decide +kernel) (by decide))),
  List.forall_mem_cons.mpr ⟨(xOK_pure (xs_lcmp (show decode cX11_commonDivisor 19 = .ok (.lcmp, 1) by decide +kernel))),
  List.forall_mem_cons.mpr ⟨(xOK_pure (xs_if_eq (show decode cX11_commonDivisor 20 = .ok (.ifCond .eq 24, 3) by decide +kernel) (by decide))),
  List.forall_mem_cons.mpr ⟨(xOK_pure (xs_lload (show decode cX11_commonDivisor 23 = .ok (.lload 4, 2) by decide +kernel))),
  List.forall_mem_cons.mpr ⟨(xOK_pure (xs_lload (show decode cX11_commonDivisor 25 = .ok (.lload 6, 2) by decide +kernel))),
  List.forall_mem_cons.mpr ⟨(xOK_pure (xs_lrem (show decode cX11_commonDivisor 27 = .ok (.lrem, 1) by decide +kernel))),
  List.forall_mem_cons.mpr ⟨(xOK_pure (xs_lstore (show decode cX11_commonDivisor 28 = .ok (.lstore 9, 2) by decide +kernel) (by decide))),
  List.forall_mem_cons.mpr ⟨(xOK_pure (xs_lload (show decode cX11_commonDivisor 30 = .ok (.lload 6, 2) by decide +kernel))),
  List.forall_mem_cons.mpr ⟨(xOK_pure (xs_lstore (show decode cX11_commonDivisor 32 = .ok (.lstore 4, 2) by decide +kernel) (by decide))),
  List.forall_mem_cons.mpr ⟨(xOK_pure (xs_lload (show decode cX11_commonDivisor 34 = .ok (.lload 9, 2) by decide +kernel))),
  (fun _ h => absurd h List.not_mem_nil)⟩⟩⟩⟩⟩⟩⟩⟩⟩⟩⟩⟩⟩⟩⟩⟩⟩⟩⟩⟩
def pX11_commonDivisor_1 (ev : xEv) : List (Nat × xEn) := [(36, .inl (xop (xf_lstore 6 2))), (38, .inl (xop (xf_iinc 8 1))), (41, .inl (xop (xf_goto 9))), (44, .inl (xop (xf_lload 4 2))), (46, .inr (.inr 2))]
set_option maxRecDepth 20000 in
theorem okpX11_commonDivisor_1 (ev : xEv) : ∀ q ∈ pX11_commonDivisor_1 ev, xEnOK ev xmi yX11_commonDivisor.cls yX11_commonDivisor.name cX11_commonDivisor 11 (some .long) q :=
  List.forall_mem_cons.mpr ⟨(xOK_pure (xs_lstore (show decode cX11_commonDivisor 36 = .ok (.lstore 6, 2) by decide +kernel) (by decide))),
  List.forall_mem_cons.mpr ⟨(xOK_pure (xs_iinc (n := 1) (show decode cX11_commonDivisor 38 = .ok (.iinc 8 1, 3) by decide +kernel) (by decide) (by decide))),
  List.forall_mem_cons.mpr ⟨(xOK_pure (xs_goto (show decode cX11_commonDivisor 41 = .ok (.goto (-32), 3) by decide +kernel) (by decide))),
  List.forall_mem_cons.mpr ⟨(xOK_pure (xs_lload (show decode cX11_commonDivisor 44 = .ok (.lload 4, 2) by decide +kernel))),
  List.forall_mem_cons.mpr ⟨(Or.inr (Or.inr (Or.inl ⟨rfl, (show decode cX11_commonDivisor 46 = .ok (.lreturn, 1) by decide +kernel), rfl⟩))),
  (fun _ h => absurd h List.not_mem_nil)⟩⟩⟩⟩⟩
def pX11_commonDivisor (ev : xEv) : List (Nat × xEn) := pX11_commonDivisor_0 ev ++ (pX11_commonDivisor_1 ev)
theorem okpX11_commonDivisor (ev : xEv) : ∀ q ∈ pX11_commonDivisor ev, xEnOK ev xmi yX11_commonDivisor.cls yX11_commonDivisor.name cX11_commonDivisor 11 (some .long) q := List.forall_mem_append.mpr ⟨okpX11_commonDivisor_0 ev, okpX11_commonDivisor_1 ev⟩
theorem omX11_commonDivisor (ev : xEv) : xMethOK ev xmi yX11_commonDivisor.cls yX11_commonDivisor.name 185 (pX11_commonDivisor ev) := xMethOK.of mi_185 (by decide +kernel) (okpX11_commonDivisor ev)
