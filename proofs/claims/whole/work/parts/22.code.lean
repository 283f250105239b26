def c_X11_lesser : List (Nat × ab_I) := [(0, .lload_n 0, 1, .null, 0),
  (1, .lload_n 2, 1, .null, 2),
  (2, .lcmp, 1, .null, 0),
  (3, .ifCond .ge (7), 3, .null, 10),
  (6, .lload_n 0, 1, .null, 0),
  (7, .goto (4), 3, .null, 11),
  (10, .lload_n 2, 1, .null, 2),
  (11, .lreturn, 1, .null, 0)]
noncomputable def m_X11_lesser : ab_M := (c_X11_lesser, [(0, [0, 2])],
  [],
  [],
  [],
  [], 4, 3)
theorem one_X11_lesser : ab_oneM m_X11_lesser := fun _ h => absurd h List.not_mem_nil
noncomputable def f_X11_lesser (l0 : Int64) (l2 : Int64) (st : ab_S) : Option ab_R := ab_lim m_X11_lesser 0 [.long l0, .long l2] [] st
noncomputable def g_X11_lesser : ab_G := fun as st k => match as with
  | [.long a0, .long a1] => ab_rl (f_X11_lesser a0 a1 st) (fun x t => k [.long x] t)
  | _ => none
theorem o_X11_lesser : ab_one g_X11_lesser := by
  intro as st k r h
  unfold g_X11_lesser at h ⊢
  split at h
  · exact one_rl h
  · cases h
set_option maxRecDepth 100000 in
theorem e_X11_lesser_0 (l0 : Int64) (l2 : Int64) (st : ab_S) : f_X11_lesser l0 l2 st =
    if 0 ≤ (lg_cmp l0 l2)
    then some (some (.long l2), st)
    else some (some (.long l0), st) := (lm_eq one_X11_lesser 0 _ _ _).trans rfl
def c_X11_put : List (Nat × ab_I) := [(0, .aload_n 0, 1, .null, 0),
  (1, .getfield 183, 3, .null, 0),
  (4, .istore 5, 2, .null, 5),
  (6, .aload_n 0, 1, .null, 0),
  (7, .dup, 1, .null, 0),
  (8, .getfield 183, 3, .null, 0),
  (11, .iconst 1, 1, (.int (1)), 0),
  (12, .iadd, 1, .null, 0),
  (13, .putfield 183, 3, .null, 0),
  (16, .aload_n 0, 1, .null, 0),
  (17, .getfield 57, 3, .null, 0),
  (20, .iload 5, 2, .null, 5),
  (22, .iload_n 2, 1, .null, 2),
  (23, .iastore, 1, .null, 0),
  (24, .aload_n 0, 1, .null, 0),
  (25, .getfield 60, 3, .null, 0),
  (28, .iload 5, 2, .null, 5),
  (30, .iload_n 3, 1, .null, 3),
  (31, .iastore, 1, .null, 0),
  (32, .aload_n 0, 1, .null, 0),
  (33, .getfield 63, 3, .null, 0),
  (36, .iload 5, 2, .null, 5),
  (38, .iload 4, 2, .null, 4),
  (40, .iastore, 1, .null, 0),
  (41, .iload_n 2, 1, .null, 2),
  (42, .iload_n 3, 1, .null, 3),
  (43, .if_icmp .ge (18), 3, .null, 61),
  (46, .aload_n 0, 1, .null, 0),
  (47, .getfield 20, 3, .null, 0),
  (50, .sipush (200), 3, (.int (200)), 0),
  (53, .iload_n 1, 1, .null, 1),
  (54, .imul, 1, .null, 0),
  (55, .iload_n 2, 1, .null, 2),
  (56, .iadd, 1, .null, 0),
  (57, .laload, 1, .null, 0),
  (58, .goto (4), 3, .null, 62),
  (61, .lconst 0, 1, (.long (0)), 0),
  (62, .lstore 6, 2, .null, 6),
  (64, .iload_n 2, 1, .null, 2),
  (65, .istore 8, 2, .null, 8),
  (67, .iload 8, 2, .null, 8),
  (69, .iload_n 3, 1, .null, 3),
  (70, .if_icmp .ge (29), 3, .null, 99),
  (73, .lload 6, 2, .null, 6),
  (75, .aload_n 0, 1, .null, 0),
  (76, .getfield 20, 3, .null, 0),
  (79, .sipush (200), 3, (.int (200)), 0),
  (82, .iload_n 1, 1, .null, 1),
  (83, .imul, 1, .null, 0),
  (84, .iload 8, 2, .null, 8),
  (86, .iadd, 1, .null, 0),
  (87, .laload, 1, .null, 0),
  (88, .invokestatic 198, 3, .null, 0),
  (91, .lstore 6, 2, .null, 6),
  (93, .iinc 8 (1), 3, (.int (1)), 8),
  (96, .goto (-29), 3, .null, 67),
  (99, .aload_n 0, 1, .null, 0),
  (100, .getfield 66, 3, .null, 0),
  (103, .iload 5, 2, .null, 5),
  (105, .lload 6, 2, .null, 6),
  (107, .lastore, 1, .null, 0),
  (108, .iload_n 3, 1, .null, 3),
  (109, .iload_n 2, 1, .null, 2),
  (110, .isub, 1, .null, 0),
  (111, .i2l, 1, .null, 0),
  (112, .lstore 8, 2, .null, 8),
  (114, .iload_n 2, 1, .null, 2),
  (115, .istore 10, 2, .null, 10),
  (117, .iload 10, 2, .null, 10),
  (119, .iload_n 3, 1, .null, 3),
  (120, .if_icmp .ge (83), 3, .null, 203),
  (123, .lload 8, 2, .null, 8),
  (125, .ldc2_w 202, 3, (.long (1000003)), 0),
  (128, .lmul, 1, .null, 0),
  (129, .aload_n 0, 1, .null, 0),
  (130, .getfield 20, 3, .null, 0),
  (133, .sipush (200), 3, (.int (200)), 0),
  (136, .iload_n 1, 1, .null, 1),
  (137, .imul, 1, .null, 0),
  (138, .iload 10, 2, .null, 10),
  (140, .iadd, 1, .null, 0),
  (141, .laload, 1, .null, 0),
  (142, .ladd, 1, .null, 0),
  (143, .lload 6, 2, .null, 6),
  (145, .lsub, 1, .null, 0),
  (146, .lstore 8, 2, .null, 8),
  (148, .iload 4, 2, .null, 4),
  (150, .istore 11, 2, .null, 11),
  (152, .iload 11, 2, .null, 11),
  (154, .aload_n 0, 1, .null, 0),
  (155, .getfield 16, 3, .null, 0),
  (158, .sipush (200), 3, (.int (200)), 0),
  (161, .iload_n 1, 1, .null, 1),
  (162, .imul, 1, .null, 0),
  (163, .iload 10, 2, .null, 10),
  (165, .iadd, 1, .null, 0),
  (166, .iaload, 1, .null, 0),
  (167, .if_icmp .ge (30), 3, .null, 197),
  (170, .lload 8, 2, .null, 8),
  (172, .ldc2_w 204, 3, (.long (31)), 0),
  (175, .lmul, 1, .null, 0),
  (176, .aload_n 0, 1, .null, 0),
  (177, .iload_n 1, 1, .null, 1),
  (178, .iload 10, 2, .null, 10),
  (180, .iload 11, 2, .null, 11),
  (182, .invokevirtual 153, 3, .null, 0),
  (185, .i2l, 1, .null, 0),
  (186, .ladd, 1, .null, 0),
  (187, .lconst 1, 1, (.long (1)), 0),
  (188, .ladd, 1, .null, 0),
  (189, .lstore 8, 2, .null, 8),
  (191, .iinc 11 (1), 3, (.int (1)), 11),
  (194, .goto (-42), 3, .null, 152),
  (197, .iinc 10 (1), 3, (.int (1)), 10),
  (200, .goto (-83), 3, .null, 117),
  (203, .aload_n 0, 1, .null, 0),
  (204, .getfield 69, 3, .null, 0),
  (207, .iload 5, 2, .null, 5),
  (209, .lload 8, 2, .null, 8),
  (211, .lastore, 1, .null, 0),
  (212, .return_, 1, .null, 0)]
noncomputable def m_X11_put : ab_M := (c_X11_put, [(0, [0, 1, 2, 3, 4]), (62, [0, 1, 2, 3, 4, 5]), (67, [0, 1, 2, 3, 4, 5, 6, 8]), (117, [0, 1, 3, 4, 5, 6, 8, 10]), (152, [0, 1, 3, 4, 5, 6, 8, 10, 11])],
  [(16, 11, 3, 3), (20, 11, 4, 3), (57, 11, 18, 3), (60, 11, 19, 3), (63, 11, 20, 3), (66, 11, 21, 3), (69, 11, 22, 3), (183, 11, 17, 0)],
  [],
  [(153, 1, 4, g_X11_letter), (198, 0, 2, g_X11_lesser)],
  [], 12, 0)
theorem one_X11_put : ab_oneM m_X11_put := List.forall_mem_cons.mpr ⟨o_X11_letter, List.forall_mem_cons.mpr ⟨o_X11_lesser, fun _ h => absurd h List.not_mem_nil⟩⟩
noncomputable def f_X11_put (l0 : Nat) (l1 : Int32) (l2 : Int32) (l3 : Int32) (l4 : Int32) (st : ab_S) : Option ab_R := ab_rc st l0 11 (ab_lim m_X11_put 0 [.ref l0, .int l1, .int l2, .int l3, .int l4] [] st)
noncomputable def L_X11_put_62 (l0 : Nat) (l1 : Int32) (l2 : Int32) (l3 : Int32) (l4 : Int32) (l5 : Int32) (t0 : Int64) (st : ab_S) : Option ab_R := ab_lim m_X11_put 62 [.ref l0, .int l1, .int l2, .int l3, .int l4, .int l5] [.long t0] st
noncomputable def L_X11_put_67 (l0 : Nat) (l1 : Int32) (l2 : Int32) (l3 : Int32) (l4 : Int32) (l5 : Int32) (l6 : Int64) (l8 : Int32) (st : ab_S) : Option ab_R := ab_lim m_X11_put 67 [.ref l0, .int l1, .int l2, .int l3, .int l4, .int l5, .long l6, .int l8] [] st
noncomputable def L_X11_put_117 (l0 : Nat) (l1 : Int32) (l3 : Int32) (l4 : Int32) (l5 : Int32) (l6 : Int64) (l8 : Int64) (l10 : Int32) (st : ab_S) : Option ab_R := ab_lim m_X11_put 117 [.ref l0, .int l1, .int l3, .int l4, .int l5, .long l6, .long l8, .int l10] [] st
noncomputable def L_X11_put_152 (l0 : Nat) (l1 : Int32) (l3 : Int32) (l4 : Int32) (l5 : Int32) (l6 : Int64) (l8 : Int64) (l10 : Int32) (l11 : Int32) (st : ab_S) : Option ab_R := ab_lim m_X11_put 152 [.ref l0, .int l1, .int l3, .int l4, .int l5, .long l6, .long l8, .int l10, .int l11] [] st
noncomputable def g_X11_put : ab_G := fun as st k => match as with
  | [.ref a0, .int a1, .int a2, .int a3, .int a4] => ab_rv (f_X11_put a0 a1 a2 a3 a4 st) (fun t => k [] t)
  | _ => none
theorem o_X11_put : ab_one g_X11_put := by
  intro as st k r h
  unfold g_X11_put at h ⊢
  split at h
  · exact one_rv h
  · cases h
set_option maxRecDepth 100000 in
theorem e_X11_put_0 (l0 : Nat) (l1 : Int32) (l2 : Int32) (l3 : Int32) (l4 : Int32) (st : ab_S) : f_X11_put l0 l1 l2 l3 l4 st =
    ab_rc st l0 11 (
    Option.bind (ab_gI st l0 11 17) fun x1 =>
    Option.bind (ab_gI st l0 11 17) fun x2 =>
    Option.bind (ab_pI st l0 11 17 (x2 + (1 : Int32))) fun s3 =>
    Option.bind (ab_gR s3 l0 11 18) fun x4 =>
    Option.bind (ab_wI s3 x4 x1 l2) fun s5 =>
    Option.bind (ab_gR s5 l0 11 19) fun x6 =>
    Option.bind (ab_wI s5 x6 x1 l3) fun s7 =>
    Option.bind (ab_gR s7 l0 11 20) fun x8 =>
    Option.bind (ab_wI s7 x8 x1 l4) fun s9 =>
    if l3 ≤ l2
    then L_X11_put_62 l0 l1 l2 l3 l4 x1 (0 : Int64) s9
    else Option.bind (ab_gR s9 l0 11 4) fun x10 =>
      Option.bind (ab_rJ s9 x10 (((200 : Int32) * l1) + l2)) fun x11 =>
      L_X11_put_62 l0 l1 l2 l3 l4 x1 x11 s9) := congrArg (ab_rc st l0 11) ((lm_eq one_X11_put 0 _ _ _).trans rfl)
set_option maxRecDepth 100000 in
theorem e_X11_put_62 (l0 : Nat) (l1 : Int32) (l2 : Int32) (l3 : Int32) (l4 : Int32) (l5 : Int32) (t0 : Int64) (st : ab_S) : L_X11_put_62 l0 l1 l2 l3 l4 l5 t0 st =
    L_X11_put_67 l0 l1 l2 l3 l4 l5 t0 l2 st := (lm_eq one_X11_put 62 _ _ _).trans rfl
set_option maxRecDepth 100000 in
theorem e_X11_put_67 (l0 : Nat) (l1 : Int32) (l2 : Int32) (l3 : Int32) (l4 : Int32) (l5 : Int32) (l6 : Int64) (l8 : Int32) (st : ab_S) : L_X11_put_67 l0 l1 l2 l3 l4 l5 l6 l8 st =
    if l3 ≤ l8
    then Option.bind (ab_gR st l0 11 21) fun x1 =>
      Option.bind (ab_wJ st x1 l5 l6) fun s2 =>
      L_X11_put_117 l0 l1 l3 l4 l5 l6 (l3 - l2).toInt64 l2 s2
    else Option.bind (ab_gR st l0 11 4) fun x3 =>
      Option.bind (ab_rJ st x3 (((200 : Int32) * l1) + l8)) fun x4 =>
      ab_rl (f_X11_lesser l6 x4 st) fun x6 s5 =>
      L_X11_put_67 l0 l1 l2 l3 l4 l5 x6 (l8 + (1 : Int32)) s5 := (lm_eq one_X11_put 67 _ _ _).trans rfl
set_option maxRecDepth 100000 in
theorem e_X11_put_117 (l0 : Nat) (l1 : Int32) (l3 : Int32) (l4 : Int32) (l5 : Int32) (l6 : Int64) (l8 : Int64) (l10 : Int32) (st : ab_S) : L_X11_put_117 l0 l1 l3 l4 l5 l6 l8 l10 st =
    if l3 ≤ l10
    then Option.bind (ab_gR st l0 11 22) fun x1 =>
      Option.bind (ab_wJ st x1 l5 l8) fun s2 =>
      some (none, s2)
    else Option.bind (ab_gR st l0 11 4) fun x3 =>
      Option.bind (ab_rJ st x3 (((200 : Int32) * l1) + l10)) fun x4 =>
      L_X11_put_152 l0 l1 l3 l4 l5 l6 (((l8 * (1000003 : Int64)) + x4) - l6) l10 l4 st := (lm_eq one_X11_put 117 _ _ _).trans rfl
set_option maxRecDepth 100000 in
theorem e_X11_put_152 (l0 : Nat) (l1 : Int32) (l3 : Int32) (l4 : Int32) (l5 : Int32) (l6 : Int64) (l8 : Int64) (l10 : Int32) (l11 : Int32) (st : ab_S) : L_X11_put_152 l0 l1 l3 l4 l5 l6 l8 l10 l11 st =
    Option.bind (ab_gR st l0 11 3) fun x1 =>
    Option.bind (ab_rI st x1 (((200 : Int32) * l1) + l10)) fun x2 =>
    if x2 ≤ l11
    then L_X11_put_117 l0 l1 l3 l4 l5 l6 l8 (l10 + (1 : Int32)) st
    else ab_ri (f_X11_letter l0 l1 l10 l11 st) fun x4 s3 =>
      L_X11_put_152 l0 l1 l3 l4 l5 l6 (((l8 * (31 : Int64)) + x4.toInt64) + (1 : Int64)) l10 (l11 + (1 : Int32)) s3 := (lm_eq one_X11_put 152 _ _ _).trans rfl
def c_X11_isShared : List (Nat × ab_I) := [(0, .aload_n 0, 1, .null, 0),
  (1, .getfield 16, 3, .null, 0),
  (4, .sipush (200), 3, (.int (200)), 0),
  (7, .iload_n 1, 1, .null, 1),
  (8, .imul, 1, .null, 0),
  (9, .iload_n 3, 1, .null, 3),
  (10, .iadd, 1, .null, 0),
  (11, .iaload, 1, .null, 0),
  (12, .iload 4, 2, .null, 4),
  (14, .if_icmp .lt (7), 3, .null, 21),
  (17, .iconst 1, 1, (.int (1)), 0),
  (18, .goto (4), 3, .null, 22),
  (21, .iconst 0, 1, (.int (0)), 0),
  (22, .istore 5, 2, .null, 5),
  (24, .iconst 0, 1, (.int (0)), 0),
  (25, .istore 6, 2, .null, 6),
  (27, .iload 6, 2, .null, 6),
  (29, .iload 4, 2, .null, 4),
  (31, .if_icmp .ge (40), 3, .null, 71),
  (34, .iload 5, 2, .null, 5),
  (36, .ifCond .eq (35), 3, .null, 71),
  (39, .aload_n 0, 1, .null, 0),
  (40, .iload_n 1, 1, .null, 1),
  (41, .iload_n 2, 1, .null, 2),
  (42, .iload 6, 2, .null, 6),
  (44, .invokevirtual 153, 3, .null, 0),
  (47, .aload_n 0, 1, .null, 0),
  (48, .iload_n 1, 1, .null, 1),
  (49, .iload_n 3, 1, .null, 3),
  (50, .iload 6, 2, .null, 6),
  (52, .invokevirtual 153, 3, .null, 0),
  (55, .if_icmp .ne (7), 3, .null, 62),
  (58, .iconst 1, 1, (.int (1)), 0),
  (59, .goto (4), 3, .null, 63),
  (62, .iconst 0, 1, (.int (0)), 0),
  (63, .istore 5, 2, .null, 5),
  (65, .iinc 6 (1), 3, (.int (1)), 6),
  (68, .goto (-41), 3, .null, 27),
  (71, .iload 5, 2, .null, 5),
  (73, .ireturn, 1, .null, 0)]
noncomputable def m_X11_isShared : ab_M := (c_X11_isShared, [(0, [0, 1, 2, 3, 4]), (22, [0, 1, 2, 3, 4]), (27, [0, 1, 2, 3, 4, 5, 6]), (63, [0, 1, 2, 3, 4, 6])],
  [(16, 11, 3, 3)],
  [],
  [(153, 1, 4, g_X11_letter)],
  [], 7, 2)
theorem one_X11_isShared : ab_oneM m_X11_isShared := List.forall_mem_cons.mpr ⟨o_X11_letter, fun _ h => absurd h List.not_mem_nil⟩
noncomputable def f_X11_isShared (l0 : Nat) (l1 : Int32) (l2 : Int32) (l3 : Int32) (l4 : Int32) (st : ab_S) : Option ab_R := ab_rc st l0 11 (ab_lim m_X11_isShared 0 [.ref l0, .int l1, .int l2, .int l3, .int l4] [] st)
noncomputable def L_X11_isShared_22 (l0 : Nat) (l1 : Int32) (l2 : Int32) (l3 : Int32) (l4 : Int32) (t0 : Int32) (st : ab_S) : Option ab_R := ab_lim m_X11_isShared 22 [.ref l0, .int l1, .int l2, .int l3, .int l4] [.int t0] st
noncomputable def L_X11_isShared_27 (l0 : Nat) (l1 : Int32) (l2 : Int32) (l3 : Int32) (l4 : Int32) (l5 : Int32) (l6 : Int32) (st : ab_S) : Option ab_R := ab_lim m_X11_isShared 27 [.ref l0, .int l1, .int l2, .int l3, .int l4, .int l5, .int l6] [] st
noncomputable def L_X11_isShared_63 (l0 : Nat) (l1 : Int32) (l2 : Int32) (l3 : Int32) (l4 : Int32) (l6 : Int32) (t0 : Int32) (st : ab_S) : Option ab_R := ab_lim m_X11_isShared 63 [.ref l0, .int l1, .int l2, .int l3, .int l4, .int l6] [.int t0] st
noncomputable def g_X11_isShared : ab_G := fun as st k => match as with
  | [.ref a0, .int a1, .int a2, .int a3, .int a4] => ab_ri (f_X11_isShared a0 a1 a2 a3 a4 st) (fun x t => k [.int x] t)
  | _ => none
theorem o_X11_isShared : ab_one g_X11_isShared := by
  intro as st k r h
  unfold g_X11_isShared at h ⊢
  split at h
  · exact one_ri h
  · cases h
set_option maxRecDepth 100000 in
theorem e_X11_isShared_0 (l0 : Nat) (l1 : Int32) (l2 : Int32) (l3 : Int32) (l4 : Int32) (st : ab_S) : f_X11_isShared l0 l1 l2 l3 l4 st =
    ab_rc st l0 11 (
    Option.bind (ab_gR st l0 11 3) fun x1 =>
    Option.bind (ab_rI st x1 (((200 : Int32) * l1) + l3)) fun x2 =>
    if x2 < l4
    then L_X11_isShared_22 l0 l1 l2 l3 l4 (0 : Int32) st
    else L_X11_isShared_22 l0 l1 l2 l3 l4 (1 : Int32) st) := congrArg (ab_rc st l0 11) ((lm_eq one_X11_isShared 0 _ _ _).trans rfl)
set_option maxRecDepth 100000 in
theorem e_X11_isShared_22 (l0 : Nat) (l1 : Int32) (l2 : Int32) (l3 : Int32) (l4 : Int32) (t0 : Int32) (st : ab_S) : L_X11_isShared_22 l0 l1 l2 l3 l4 t0 st =
    L_X11_isShared_27 l0 l1 l2 l3 l4 t0 (0 : Int32) st := (lm_eq one_X11_isShared 22 _ _ _).trans rfl
set_option maxRecDepth 100000 in
theorem e_X11_isShared_27 (l0 : Nat) (l1 : Int32) (l2 : Int32) (l3 : Int32) (l4 : Int32) (l5 : Int32) (l6 : Int32) (st : ab_S) : L_X11_isShared_27 l0 l1 l2 l3 l4 l5 l6 st =
    if l4 ≤ l6
    then ab_z l5 (some (some (.int l5), st))
    else if l5 = 0
      then ab_z l5 (some (some (.int l5), st))
      else ab_ri (f_X11_letter l0 l1 l2 l6 st) fun x2 s1 =>
        ab_ri (f_X11_letter l0 l1 l3 l6 s1) fun x4 s3 =>
        if x2 = x4
        then L_X11_isShared_63 l0 l1 l2 l3 l4 l6 (1 : Int32) s3
        else L_X11_isShared_63 l0 l1 l2 l3 l4 l6 (0 : Int32) s3 := (lm_eq one_X11_isShared 27 _ _ _).trans rfl
set_option maxRecDepth 100000 in
theorem e_X11_isShared_63 (l0 : Nat) (l1 : Int32) (l2 : Int32) (l3 : Int32) (l4 : Int32) (l6 : Int32) (t0 : Int32) (st : ab_S) : L_X11_isShared_63 l0 l1 l2 l3 l4 l6 t0 st =
    L_X11_isShared_27 l0 l1 l2 l3 l4 t0 (l6 + (1 : Int32)) st := (lm_eq one_X11_isShared 63 _ _ _).trans rfl
def c_X11_isSame : List (Nat × ab_I) := [(0, .aload_n 0, 1, .null, 0),
  (1, .getfield 60, 3, .null, 0),
  (4, .iload_n 2, 1, .null, 2),
  (5, .iaload, 1, .null, 0),
  (6, .aload_n 0, 1, .null, 0),
  (7, .getfield 57, 3, .null, 0),
  (10, .iload_n 2, 1, .null, 2),
  (11, .iaload, 1, .null, 0),
  (12, .isub, 1, .null, 0),
  (13, .istore 4, 2, .null, 4),
  (15, .aload_n 0, 1, .null, 0),
  (16, .getfield 69, 3, .null, 0),
  (19, .iload_n 2, 1, .null, 2),
  (20, .laload, 1, .null, 0),
  (21, .aload_n 0, 1, .null, 0),
  (22, .getfield 69, 3, .null, 0),
  (25, .iload_n 3, 1, .null, 3),
  (26, .laload, 1, .null, 0),
  (27, .lcmp, 1, .null, 0),
  (28, .ifCond .ne (21), 3, .null, 49),
  (31, .iload 4, 2, .null, 4),
  (33, .aload_n 0, 1, .null, 0),
  (34, .getfield 60, 3, .null, 0),
  (37, .iload_n 3, 1, .null, 3),
  (38, .iaload, 1, .null, 0),
  (39, .aload_n 0, 1, .null, 0),
  (40, .getfield 57, 3, .null, 0),
  (43, .iload_n 3, 1, .null, 3),
  (44, .iaload, 1, .null, 0),
  (45, .isub, 1, .null, 0),
  (46, .if_icmp .eq (5), 3, .null, 51),
  (49, .iconst 0, 1, (.int (0)), 0),
  (50, .ireturn, 1, .null, 0),
  (51, .iconst 0, 1, (.int (0)), 0),
  (52, .istore 5, 2, .null, 5),
  (54, .iload 5, 2, .null, 5),
  (56, .iload 4, 2, .null, 4),
  (58, .if_icmp .ge (185), 3, .null, 243),
  (61, .sipush (200), 3, (.int (200)), 0),
  (64, .iload_n 1, 1, .null, 1),
  (65, .imul, 1, .null, 0),
  (66, .aload_n 0, 1, .null, 0),
  (67, .getfield 57, 3, .null, 0),
  (70, .iload_n 2, 1, .null, 2),
  (71, .iaload, 1, .null, 0),
  (72, .iadd, 1, .null, 0),
  (73, .iload 5, 2, .null, 5),
  (75, .iadd, 1, .null, 0),
  (76, .istore 6, 2, .null, 6),
  (78, .sipush (200), 3, (.int (200)), 0),
  (81, .iload_n 1, 1, .null, 1),
  (82, .imul, 1, .null, 0),
  (83, .aload_n 0, 1, .null, 0),
  (84, .getfield 57, 3, .null, 0),
  (87, .iload_n 3, 1, .null, 3),
  (88, .iaload, 1, .null, 0),
  (89, .iadd, 1, .null, 0),
  (90, .iload 5, 2, .null, 5),
  (92, .iadd, 1, .null, 0),
  (93, .istore 7, 2, .null, 7),
  (95, .aload_n 0, 1, .null, 0),
  (96, .getfield 20, 3, .null, 0),
  (99, .iload 6, 2, .null, 6),
  (101, .laload, 1, .null, 0),
  (102, .aload_n 0, 1, .null, 0),
  (103, .getfield 66, 3, .null, 0),
  (106, .iload_n 2, 1, .null, 2),
  (107, .laload, 1, .null, 0),
  (108, .lsub, 1, .null, 0),
  (109, .aload_n 0, 1, .null, 0),
  (110, .getfield 20, 3, .null, 0),
  (113, .iload 7, 2, .null, 7),
  (115, .laload, 1, .null, 0),
  (116, .aload_n 0, 1, .null, 0),
  (117, .getfield 66, 3, .null, 0),
  (120, .iload_n 3, 1, .null, 3),
  (121, .laload, 1, .null, 0),
  (122, .lsub, 1, .null, 0),
  (123, .lcmp, 1, .null, 0),
  (124, .ifCond .ne (34), 3, .null, 158),
  (127, .aload_n 0, 1, .null, 0),
  (128, .getfield 16, 3, .null, 0),
  (131, .iload 6, 2, .null, 6),
  (133, .iaload, 1, .null, 0),
  (134, .aload_n 0, 1, .null, 0),
  (135, .getfield 63, 3, .null, 0),
  (138, .iload_n 2, 1, .null, 2),
  (139, .iaload, 1, .null, 0),
  (140, .isub, 1, .null, 0),
  (141, .aload_n 0, 1, .null, 0),
  (142, .getfield 16, 3, .null, 0),
  (145, .iload 7, 2, .null, 7),
  (147, .iaload, 1, .null, 0),
  (148, .aload_n 0, 1, .null, 0),
  (149, .getfield 63, 3, .null, 0),
  (152, .iload_n 3, 1, .null, 3),
  (153, .iaload, 1, .null, 0),
  (154, .isub, 1, .null, 0),
  (155, .if_icmp .eq (5), 3, .null, 160),
  (158, .iconst 0, 1, (.int (0)), 0),
  (159, .ireturn, 1, .null, 0),
  (160, .aload_n 0, 1, .null, 0),
  (161, .getfield 63, 3, .null, 0),
  (164, .iload_n 2, 1, .null, 2),
  (165, .iaload, 1, .null, 0),
  (166, .istore 8, 2, .null, 8),
  (168, .iload 8, 2, .null, 8),
  (170, .aload_n 0, 1, .null, 0),
  (171, .getfield 16, 3, .null, 0),
  (174, .iload 6, 2, .null, 6),
  (176, .iaload, 1, .null, 0),
  (177, .if_icmp .ge (60), 3, .null, 237),
  (180, .aload_n 0, 1, .null, 0),
  (181, .iload_n 1, 1, .null, 1),
  (182, .aload_n 0, 1, .null, 0),
  (183, .getfield 57, 3, .null, 0),
  (186, .iload_n 2, 1, .null, 2),
  (187, .iaload, 1, .null, 0),
  (188, .iload 5, 2, .null, 5),
  (190, .iadd, 1, .null, 0),
  (191, .iload 8, 2, .null, 8),
  (193, .invokevirtual 153, 3, .null, 0),
  (196, .aload_n 0, 1, .null, 0),
  (197, .iload_n 1, 1, .null, 1),
  (198, .aload_n 0, 1, .null, 0),
  (199, .getfield 57, 3, .null, 0),
  (202, .iload_n 3, 1, .null, 3),
  (203, .iaload, 1, .null, 0),
  (204, .iload 5, 2, .null, 5),
  (206, .iadd, 1, .null, 0),
  (207, .iload 8, 2, .null, 8),
  (209, .aload_n 0, 1, .null, 0),
  (210, .getfield 63, 3, .null, 0),
  (213, .iload_n 2, 1, .null, 2),
  (214, .iaload, 1, .null, 0),
  (215, .isub, 1, .null, 0),
  (216, .aload_n 0, 1, .null, 0),
  (217, .getfield 63, 3, .null, 0),
  (220, .iload_n 3, 1, .null, 3),
  (221, .iaload, 1, .null, 0),
  (222, .iadd, 1, .null, 0),
  (223, .invokevirtual 153, 3, .null, 0),
  (226, .if_icmp .eq (5), 3, .null, 231),
  (229, .iconst 0, 1, (.int (0)), 0),
  (230, .ireturn, 1, .null, 0),
  (231, .iinc 8 (1), 3, (.int (1)), 8),
  (234, .goto (-66), 3, .null, 168),
  (237, .iinc 5 (1), 3, (.int (1)), 5),
  (240, .goto (-186), 3, .null, 54),
  (243, .iconst 1, 1, (.int (1)), 0),
  (244, .ireturn, 1, .null, 0)]
noncomputable def m_X11_isSame : ab_M := (c_X11_isSame, [(0, [0, 1, 2, 3]), (54, [0, 1, 2, 3, 4, 5]), (168, [0, 1, 2, 3, 4, 5, 6, 8])],
  [(16, 11, 3, 3), (20, 11, 4, 3), (57, 11, 18, 3), (60, 11, 19, 3), (63, 11, 20, 3), (66, 11, 21, 3), (69, 11, 22, 3)],
  [],
  [(153, 1, 4, g_X11_letter)],
  [], 9, 2)
theorem one_X11_isSame : ab_oneM m_X11_isSame := List.forall_mem_cons.mpr ⟨o_X11_letter, fun _ h => absurd h List.not_mem_nil⟩
noncomputable def f_X11_isSame (l0 : Nat) (l1 : Int32) (l2 : Int32) (l3 : Int32) (st : ab_S) : Option ab_R := ab_rc st l0 11 (ab_lim m_X11_isSame 0 [.ref l0, .int l1, .int l2, .int l3] [] st)
noncomputable def L_X11_isSame_54 (l0 : Nat) (l1 : Int32) (l2 : Int32) (l3 : Int32) (l4 : Int32) (l5 : Int32) (st : ab_S) : Option ab_R := ab_lim m_X11_isSame 54 [.ref l0, .int l1, .int l2, .int l3, .int l4, .int l5] [] st
noncomputable def L_X11_isSame_168 (l0 : Nat) (l1 : Int32) (l2 : Int32) (l3 : Int32) (l4 : Int32) (l5 : Int32) (l6 : Int32) (l8 : Int32) (st : ab_S) : Option ab_R := ab_lim m_X11_isSame 168 [.ref l0, .int l1, .int l2, .int l3, .int l4, .int l5, .int l6, .int l8] [] st
noncomputable def g_X11_isSame : ab_G := fun as st k => match as with
  | [.ref a0, .int a1, .int a2, .int a3] => ab_ri (f_X11_isSame a0 a1 a2 a3 st) (fun x t => k [.int x] t)
  | _ => none
theorem o_X11_isSame : ab_one g_X11_isSame := by
  intro as st k r h
  unfold g_X11_isSame at h ⊢
  split at h
  · exact one_ri h
  · cases h
set_option maxRecDepth 100000 in
theorem e_X11_isSame_0 (l0 : Nat) (l1 : Int32) (l2 : Int32) (l3 : Int32) (st : ab_S) : f_X11_isSame l0 l1 l2 l3 st =
    ab_rc st l0 11 (
    Option.bind (ab_gR st l0 11 19) fun x1 =>
    Option.bind (ab_rI st x1 l2) fun x2 =>
    Option.bind (ab_gR st l0 11 18) fun x3 =>
    Option.bind (ab_rI st x3 l2) fun x4 =>
    Option.bind (ab_gR st l0 11 22) fun x5 =>
    Option.bind (ab_rJ st x5 l2) fun x6 =>
    Option.bind (ab_gR st l0 11 22) fun x7 =>
    Option.bind (ab_rJ st x7 l3) fun x8 =>
    if (lg_cmp x6 x8) = 0
    then Option.bind (ab_gR st l0 11 19) fun x9 =>
      Option.bind (ab_rI st x9 l3) fun x10 =>
      Option.bind (ab_gR st l0 11 18) fun x11 =>
      Option.bind (ab_rI st x11 l3) fun x12 =>
      if (x2 - x4) = (x10 - x12)
      then L_X11_isSame_54 l0 l1 l2 l3 (x2 - x4) (0 : Int32) st
      else ab_z (0 : Int32) (some (some (.int (0 : Int32)), st))
    else ab_z (0 : Int32) (some (some (.int (0 : Int32)), st))) := congrArg (ab_rc st l0 11) ((lm_eq one_X11_isSame 0 _ _ _).trans rfl)
set_option maxRecDepth 100000 in
theorem e_X11_isSame_54 (l0 : Nat) (l1 : Int32) (l2 : Int32) (l3 : Int32) (l4 : Int32) (l5 : Int32) (st : ab_S) : L_X11_isSame_54 l0 l1 l2 l3 l4 l5 st =
    if l4 ≤ l5
    then ab_z (1 : Int32) (some (some (.int (1 : Int32)), st))
    else Option.bind (ab_gR st l0 11 18) fun x1 =>
      Option.bind (ab_rI st x1 l2) fun x2 =>
      Option.bind (ab_gR st l0 11 18) fun x3 =>
      Option.bind (ab_rI st x3 l3) fun x4 =>
      Option.bind (ab_gR st l0 11 4) fun x5 =>
      Option.bind (ab_rJ st x5 ((((200 : Int32) * l1) + x2) + l5)) fun x6 =>
      Option.bind (ab_gR st l0 11 21) fun x7 =>
      Option.bind (ab_rJ st x7 l2) fun x8 =>
      Option.bind (ab_gR st l0 11 4) fun x9 =>
      Option.bind (ab_rJ st x9 ((((200 : Int32) * l1) + x4) + l5)) fun x10 =>
      Option.bind (ab_gR st l0 11 21) fun x11 =>
      Option.bind (ab_rJ st x11 l3) fun x12 =>
      if (lg_cmp (x6 - x8) (x10 - x12)) = 0
      then Option.bind (ab_gR st l0 11 3) fun x13 =>
        Option.bind (ab_rI st x13 ((((200 : Int32) * l1) + x2) + l5)) fun x14 =>
        Option.bind (ab_gR st l0 11 20) fun x15 =>
        Option.bind (ab_rI st x15 l2) fun x16 =>
        Option.bind (ab_gR st l0 11 3) fun x17 =>
        Option.bind (ab_rI st x17 ((((200 : Int32) * l1) + x4) + l5)) fun x18 =>
        Option.bind (ab_gR st l0 11 20) fun x19 =>
        Option.bind (ab_rI st x19 l3) fun x20 =>
        if (x14 - x16) = (x18 - x20)
        then Option.bind (ab_gR st l0 11 20) fun x21 =>
          Option.bind (ab_rI st x21 l2) fun x22 =>
          L_X11_isSame_168 l0 l1 l2 l3 l4 l5 ((((200 : Int32) * l1) + x2) + l5) x22 st
        else ab_z (0 : Int32) (some (some (.int (0 : Int32)), st))
      else ab_z (0 : Int32) (some (some (.int (0 : Int32)), st)) := (lm_eq one_X11_isSame 54 _ _ _).trans rfl
set_option maxRecDepth 100000 in
theorem e_X11_isSame_168 (l0 : Nat) (l1 : Int32) (l2 : Int32) (l3 : Int32) (l4 : Int32) (l5 : Int32) (l6 : Int32) (l8 : Int32) (st : ab_S) : L_X11_isSame_168 l0 l1 l2 l3 l4 l5 l6 l8 st =
    Option.bind (ab_gR st l0 11 3) fun x1 =>
    Option.bind (ab_rI st x1 l6) fun x2 =>
    if x2 ≤ l8
    then L_X11_isSame_54 l0 l1 l2 l3 l4 (l5 + (1 : Int32)) st
    else Option.bind (ab_gR st l0 11 18) fun x3 =>
      Option.bind (ab_rI st x3 l2) fun x4 =>
      ab_ri (f_X11_letter l0 l1 (x4 + l5) l8 st) fun x6 s5 =>
      Option.bind (ab_gR s5 l0 11 18) fun x7 =>
      Option.bind (ab_rI s5 x7 l3) fun x8 =>
      Option.bind (ab_gR s5 l0 11 20) fun x9 =>
      Option.bind (ab_rI s5 x9 l2) fun x10 =>
      Option.bind (ab_gR s5 l0 11 20) fun x11 =>
      Option.bind (ab_rI s5 x11 l3) fun x12 =>
      ab_ri (f_X11_letter l0 l1 (x8 + l5) ((l8 - x10) + x12) s5) fun x14 s13 =>
      if x6 = x14
      then L_X11_isSame_168 l0 l1 l2 l3 l4 l5 l6 (l8 + (1 : Int32)) s13
      else ab_z (0 : Int32) (some (some (.int (0 : Int32)), s13)) := (lm_eq one_X11_isSame 168 _ _ _).trans rfl
def c_X11_build : List (Nat × ab_I) := [(0, .aload_n 0, 1, .null, 0),
  (1, .iconst 0, 1, (.int (0)), 0),
  (2, .putfield 183, 3, .null, 0),
  (5, .aload_n 0, 1, .null, 0),
  (6, .iload_n 1, 1, .null, 1),
  (7, .iconst 0, 1, (.int (0)), 0),
  (8, .aload_n 0, 1, .null, 0),
  (9, .getfield 24, 3, .null, 0),
  (12, .iload_n 1, 1, .null, 1),
  (13, .iaload, 1, .null, 0),
  (14, .iconst 0, 1, (.int (0)), 0),
  (15, .invokevirtual 186, 3, .null, 0),
  (18, .iconst 0, 1, (.int (0)), 0),
  (19, .istore_n 2, 1, .null, 2),
  (20, .iload_n 2, 1, .null, 2),
  (21, .aload_n 0, 1, .null, 0),
  (22, .getfield 24, 3, .null, 0),
  (25, .iload_n 1, 1, .null, 1),
  (26, .iaload, 1, .null, 0),
  (27, .if_icmp .ge (147), 3, .null, 174),
  (30, .iconst 0, 1, (.int (0)), 0),
  (31, .istore_n 3, 1, .null, 3),
  (32, .iload_n 2, 1, .null, 2),
  (33, .ifCond .le (62), 3, .null, 95),
  (36, .iload_n 3, 1, .null, 3),
  (37, .aload_n 0, 1, .null, 0),
  (38, .getfield 16, 3, .null, 0),
  (41, .sipush (200), 3, (.int (200)), 0),
  (44, .iload_n 1, 1, .null, 1),
  (45, .imul, 1, .null, 0),
  (46, .iload_n 2, 1, .null, 2),
  (47, .iadd, 1, .null, 0),
  (48, .iconst 1, 1, (.int (1)), 0),
  (49, .isub, 1, .null, 0),
  (50, .iaload, 1, .null, 0),
  (51, .if_icmp .ge (44), 3, .null, 95),
  (54, .iload_n 3, 1, .null, 3),
  (55, .aload_n 0, 1, .null, 0),
  (56, .getfield 16, 3, .null, 0),
  (59, .sipush (200), 3, (.int (200)), 0),
  (62, .iload_n 1, 1, .null, 1),
  (63, .imul, 1, .null, 0),
  (64, .iload_n 2, 1, .null, 2),
  (65, .iadd, 1, .null, 0),
  (66, .iaload, 1, .null, 0),
  (67, .if_icmp .ge (28), 3, .null, 95),
  (70, .aload_n 0, 1, .null, 0),
  (71, .iload_n 1, 1, .null, 1),
  (72, .iload_n 2, 1, .null, 2),
  (73, .iconst 1, 1, (.int (1)), 0),
  (74, .isub, 1, .null, 0),
  (75, .iload_n 3, 1, .null, 3),
  (76, .invokevirtual 153, 3, .null, 0),
  (79, .aload_n 0, 1, .null, 0),
  (80, .iload_n 1, 1, .null, 1),
  (81, .iload_n 2, 1, .null, 2),
  (82, .iload_n 3, 1, .null, 3),
  (83, .invokevirtual 153, 3, .null, 0),
  (86, .if_icmp .ne (9), 3, .null, 95),
  (89, .iinc 3 (1), 3, (.int (1)), 3),
  (92, .goto (-56), 3, .null, 36),
  (95, .iload_n 3, 1, .null, 3),
  (96, .iconst 1, 1, (.int (1)), 0),
  (97, .iadd, 1, .null, 0),
  (98, .istore 4, 2, .null, 4),
  (100, .iload 4, 2, .null, 4),
  (102, .aload_n 0, 1, .null, 0),
  (103, .getfield 16, 3, .null, 0),
  (106, .sipush (200), 3, (.int (200)), 0),
  (109, .iload_n 1, 1, .null, 1),
  (110, .imul, 1, .null, 0),
  (111, .iload_n 2, 1, .null, 2),
  (112, .iadd, 1, .null, 0),
  (113, .iaload, 1, .null, 0),
  (114, .if_icmp .gt (54), 3, .null, 168),
  (117, .iload_n 2, 1, .null, 2),
  (118, .iconst 1, 1, (.int (1)), 0),
  (119, .iadd, 1, .null, 0),
  (120, .istore 5, 2, .null, 5),
  (122, .iload 5, 2, .null, 5),
  (124, .aload_n 0, 1, .null, 0),
  (125, .getfield 24, 3, .null, 0),
  (128, .iload_n 1, 1, .null, 1),
  (129, .iaload, 1, .null, 0),
  (130, .if_icmp .ge (22), 3, .null, 152),
  (133, .aload_n 0, 1, .null, 0),
  (134, .iload_n 1, 1, .null, 1),
  (135, .iload_n 2, 1, .null, 2),
  (136, .iload 5, 2, .null, 5),
  (138, .iload 4, 2, .null, 4),
  (140, .invokevirtual 190, 3, .null, 0),
  (143, .ifCond .eq (9), 3, .null, 152),
  (146, .iinc 5 (1), 3, (.int (1)), 5),
  (149, .goto (-27), 3, .null, 122),
  (152, .aload_n 0, 1, .null, 0),
  (153, .iload_n 1, 1, .null, 1),
  (154, .iload_n 2, 1, .null, 2),
  (155, .iload 5, 2, .null, 5),
  (157, .iload 4, 2, .null, 4),
  (159, .invokevirtual 186, 3, .null, 0),
  (162, .iinc 4 (1), 3, (.int (1)), 4),
  (165, .goto (-65), 3, .null, 100),
  (168, .iinc 2 (1), 3, (.int (1)), 2),
  (171, .goto (-151), 3, .null, 20),
  (174, .aload_n 0, 1, .null, 0),
  (175, .iconst 0, 1, (.int (0)), 0),
  (176, .putfield 180, 3, .null, 0),
  (179, .iconst 0, 1, (.int (0)), 0),
  (180, .istore_n 2, 1, .null, 2),
  (181, .iload_n 2, 1, .null, 2),
  (182, .aload_n 0, 1, .null, 0),
  (183, .getfield 183, 3, .null, 0),
  (186, .if_icmp .ge (72), 3, .null, 258),
  (189, .iconst 0, 1, (.int (0)), 0),
  (190, .istore_n 3, 1, .null, 3),
  (191, .iload_n 3, 1, .null, 3),
  (192, .aload_n 0, 1, .null, 0),
  (193, .getfield 180, 3, .null, 0),
  (196, .if_icmp .ge (24), 3, .null, 220),
  (199, .aload_n 0, 1, .null, 0),
  (200, .iload_n 1, 1, .null, 1),
  (201, .aload_n 0, 1, .null, 0),
  (202, .getfield 75, 3, .null, 0),
  (205, .iload_n 3, 1, .null, 3),
  (206, .iaload, 1, .null, 0),
  (207, .iload_n 2, 1, .null, 2),
  (208, .invokevirtual 194, 3, .null, 0),
  (211, .ifCond .ne (9), 3, .null, 220),
  (214, .iinc 3 (1), 3, (.int (1)), 3),
  (217, .goto (-26), 3, .null, 191),
  (220, .iload_n 3, 1, .null, 3),
  (221, .aload_n 0, 1, .null, 0),
  (222, .getfield 180, 3, .null, 0),
  (225, .if_icmp .ne (20), 3, .null, 245),
  (228, .aload_n 0, 1, .null, 0),
  (229, .getfield 75, 3, .null, 0),
  (232, .iload_n 3, 1, .null, 3),
  (233, .iload_n 2, 1, .null, 2),
  (234, .iastore, 1, .null, 0),
  (235, .aload_n 0, 1, .null, 0),
  (236, .dup, 1, .null, 0),
  (237, .getfield 180, 3, .null, 0),
  (240, .iconst 1, 1, (.int (1)), 0),
  (241, .iadd, 1, .null, 0),
  (242, .putfield 180, 3, .null, 0),
  (245, .aload_n 0, 1, .null, 0),
  (246, .getfield 72, 3, .null, 0),
  (249, .iload_n 2, 1, .null, 2),
  (250, .iload_n 3, 1, .null, 3),
  (251, .iastore, 1, .null, 0),
  (252, .iinc 2 (1), 3, (.int (1)), 2),
  (255, .goto (-74), 3, .null, 181),
  (258, .return_, 1, .null, 0)]
noncomputable def m_X11_build : ab_M := (c_X11_build, [(0, [0, 1]), (20, [0, 1, 2]), (36, [0, 1, 2, 3]), (95, [0, 1, 2, 3]), (100, [0, 1, 2, 4]), (122, [0, 1, 2, 4, 5]), (152, [0, 1, 2, 4, 5]), (181, [0, 1, 2]), (191, [0, 1, 2, 3]), (220, [0, 1, 2, 3]), (245, [0, 1, 2, 3])],
  [(16, 11, 3, 3), (24, 11, 5, 3), (72, 11, 23, 3), (75, 11, 24, 3), (180, 11, 25, 0), (183, 11, 17, 0)],
  [],
  [(153, 1, 4, g_X11_letter), (186, 1, 5, g_X11_put), (190, 1, 5, g_X11_isShared), (194, 1, 4, g_X11_isSame)],
  [], 6, 0)
theorem one_X11_build : ab_oneM m_X11_build := List.forall_mem_cons.mpr ⟨o_X11_letter, List.forall_mem_cons.mpr ⟨o_X11_put, List.forall_mem_cons.mpr ⟨o_X11_isShared, List.forall_mem_cons.mpr ⟨o_X11_isSame, fun _ h => absurd h List.not_mem_nil⟩⟩⟩⟩
noncomputable def f_X11_build (l0 : Nat) (l1 : Int32) (st : ab_S) : Option ab_R := ab_rc st l0 11 (ab_lim m_X11_build 0 [.ref l0, .int l1] [] st)
noncomputable def L_X11_build_20 (l0 : Nat) (l1 : Int32) (l2 : Int32) (st : ab_S) : Option ab_R := ab_lim m_X11_build 20 [.ref l0, .int l1, .int l2] [] st
noncomputable def L_X11_build_36 (l0 : Nat) (l1 : Int32) (l2 : Int32) (l3 : Int32) (st : ab_S) : Option ab_R := ab_lim m_X11_build 36 [.ref l0, .int l1, .int l2, .int l3] [] st
noncomputable def L_X11_build_95 (l0 : Nat) (l1 : Int32) (l2 : Int32) (l3 : Int32) (st : ab_S) : Option ab_R := ab_lim m_X11_build 95 [.ref l0, .int l1, .int l2, .int l3] [] st
noncomputable def L_X11_build_100 (l0 : Nat) (l1 : Int32) (l2 : Int32) (l4 : Int32) (st : ab_S) : Option ab_R := ab_lim m_X11_build 100 [.ref l0, .int l1, .int l2, .int l4] [] st
noncomputable def L_X11_build_122 (l0 : Nat) (l1 : Int32) (l2 : Int32) (l4 : Int32) (l5 : Int32) (st : ab_S) : Option ab_R := ab_lim m_X11_build 122 [.ref l0, .int l1, .int l2, .int l4, .int l5] [] st
noncomputable def L_X11_build_152 (l0 : Nat) (l1 : Int32) (l2 : Int32) (l4 : Int32) (l5 : Int32) (st : ab_S) : Option ab_R := ab_lim m_X11_build 152 [.ref l0, .int l1, .int l2, .int l4, .int l5] [] st
noncomputable def L_X11_build_181 (l0 : Nat) (l1 : Int32) (l2 : Int32) (st : ab_S) : Option ab_R := ab_lim m_X11_build 181 [.ref l0, .int l1, .int l2] [] st
noncomputable def L_X11_build_191 (l0 : Nat) (l1 : Int32) (l2 : Int32) (l3 : Int32) (st : ab_S) : Option ab_R := ab_lim m_X11_build 191 [.ref l0, .int l1, .int l2, .int l3] [] st
noncomputable def L_X11_build_220 (l0 : Nat) (l1 : Int32) (l2 : Int32) (l3 : Int32) (st : ab_S) : Option ab_R := ab_lim m_X11_build 220 [.ref l0, .int l1, .int l2, .int l3] [] st
noncomputable def L_X11_build_245 (l0 : Nat) (l1 : Int32) (l2 : Int32) (l3 : Int32) (st : ab_S) : Option ab_R := ab_lim m_X11_build 245 [.ref l0, .int l1, .int l2, .int l3] [] st
noncomputable def g_X11_build : ab_G := fun as st k => match as with
  | [.ref a0, .int a1] => ab_rv (f_X11_build a0 a1 st) (fun t => k [] t)
  | _ => none
theorem o_X11_build : ab_one g_X11_build := by
  intro as st k r h
  unfold g_X11_build at h ⊢
  split at h
  · exact one_rv h
  · cases h
set_option maxRecDepth 100000 in
theorem e_X11_build_0 (l0 : Nat) (l1 : Int32) (st : ab_S) : f_X11_build l0 l1 st =
    ab_rc st l0 11 (
    Option.bind (ab_pI st l0 11 17 (0 : Int32)) fun s1 =>
    Option.bind (ab_gR s1 l0 11 5) fun x2 =>
    Option.bind (ab_rI s1 x2 l1) fun x3 =>
    ab_rv (f_X11_put l0 l1 (0 : Int32) x3 (0 : Int32) s1) fun s4 =>
    L_X11_build_20 l0 l1 (0 : Int32) s4) := congrArg (ab_rc st l0 11) ((lm_eq one_X11_build 0 _ _ _).trans rfl)
set_option maxRecDepth 100000 in
theorem e_X11_build_20 (l0 : Nat) (l1 : Int32) (l2 : Int32) (st : ab_S) : L_X11_build_20 l0 l1 l2 st =
    Option.bind (ab_gR st l0 11 5) fun x1 =>
    Option.bind (ab_rI st x1 l1) fun x2 =>
    if x2 ≤ l2
    then Option.bind (ab_pI st l0 11 25 (0 : Int32)) fun s3 =>
      L_X11_build_181 l0 l1 (0 : Int32) s3
    else if l2 ≤ 0
      then L_X11_build_95 l0 l1 l2 (0 : Int32) st
      else L_X11_build_36 l0 l1 l2 (0 : Int32) st := (lm_eq one_X11_build 20 _ _ _).trans rfl
set_option maxRecDepth 100000 in
theorem e_X11_build_36 (l0 : Nat) (l1 : Int32) (l2 : Int32) (l3 : Int32) (st : ab_S) : L_X11_build_36 l0 l1 l2 l3 st =
    Option.bind (ab_gR st l0 11 3) fun x1 =>
    Option.bind (ab_rI st x1 ((((200 : Int32) * l1) + l2) - (1 : Int32))) fun x2 =>
    if x2 ≤ l3
    then L_X11_build_95 l0 l1 l2 l3 st
    else Option.bind (ab_gR st l0 11 3) fun x3 =>
      Option.bind (ab_rI st x3 (((200 : Int32) * l1) + l2)) fun x4 =>
      if x4 ≤ l3
      then L_X11_build_95 l0 l1 l2 l3 st
      else ab_ri (f_X11_letter l0 l1 (l2 - (1 : Int32)) l3 st) fun x6 s5 =>
        ab_ri (f_X11_letter l0 l1 l2 l3 s5) fun x8 s7 =>
        if x6 = x8
        then L_X11_build_36 l0 l1 l2 (l3 + (1 : Int32)) s7
        else L_X11_build_95 l0 l1 l2 l3 s7 := (lm_eq one_X11_build 36 _ _ _).trans rfl
set_option maxRecDepth 100000 in
theorem e_X11_build_95 (l0 : Nat) (l1 : Int32) (l2 : Int32) (l3 : Int32) (st : ab_S) : L_X11_build_95 l0 l1 l2 l3 st =
    L_X11_build_100 l0 l1 l2 (l3 + (1 : Int32)) st := (lm_eq one_X11_build 95 _ _ _).trans rfl
set_option maxRecDepth 100000 in
theorem e_X11_build_100 (l0 : Nat) (l1 : Int32) (l2 : Int32) (l4 : Int32) (st : ab_S) : L_X11_build_100 l0 l1 l2 l4 st =
    Option.bind (ab_gR st l0 11 3) fun x1 =>
    Option.bind (ab_rI st x1 (((200 : Int32) * l1) + l2)) fun x2 =>
    if x2 < l4
    then L_X11_build_20 l0 l1 (l2 + (1 : Int32)) st
    else L_X11_build_122 l0 l1 l2 l4 (l2 + (1 : Int32)) st := (lm_eq one_X11_build 100 _ _ _).trans rfl
set_option maxRecDepth 100000 in
theorem e_X11_build_122 (l0 : Nat) (l1 : Int32) (l2 : Int32) (l4 : Int32) (l5 : Int32) (st : ab_S) : L_X11_build_122 l0 l1 l2 l4 l5 st =
    Option.bind (ab_gR st l0 11 5) fun x1 =>
    Option.bind (ab_rI st x1 l1) fun x2 =>
    if x2 ≤ l5
    then L_X11_build_152 l0 l1 l2 l4 l5 st
    else ab_ri (f_X11_isShared l0 l1 l2 l5 l4 st) fun x4 s3 =>
      if x4 = 0
      then L_X11_build_152 l0 l1 l2 l4 l5 s3
      else L_X11_build_122 l0 l1 l2 l4 (l5 + (1 : Int32)) s3 := (lm_eq one_X11_build 122 _ _ _).trans rfl
set_option maxRecDepth 100000 in
theorem e_X11_build_152 (l0 : Nat) (l1 : Int32) (l2 : Int32) (l4 : Int32) (l5 : Int32) (st : ab_S) : L_X11_build_152 l0 l1 l2 l4 l5 st =
    ab_rv (f_X11_put l0 l1 l2 l5 l4 st) fun s1 =>
    L_X11_build_100 l0 l1 l2 (l4 + (1 : Int32)) s1 := (lm_eq one_X11_build 152 _ _ _).trans rfl
set_option maxRecDepth 100000 in
theorem e_X11_build_181 (l0 : Nat) (l1 : Int32) (l2 : Int32) (st : ab_S) : L_X11_build_181 l0 l1 l2 st =
    Option.bind (ab_gI st l0 11 17) fun x1 =>
    if x1 ≤ l2
    then some (none, st)
    else L_X11_build_191 l0 l1 l2 (0 : Int32) st := (lm_eq one_X11_build 181 _ _ _).trans rfl
set_option maxRecDepth 100000 in
theorem e_X11_build_191 (l0 : Nat) (l1 : Int32) (l2 : Int32) (l3 : Int32) (st : ab_S) : L_X11_build_191 l0 l1 l2 l3 st =
    Option.bind (ab_gI st l0 11 25) fun x1 =>
    if x1 ≤ l3
    then L_X11_build_220 l0 l1 l2 l3 st
    else Option.bind (ab_gR st l0 11 24) fun x2 =>
      Option.bind (ab_rI st x2 l3) fun x3 =>
      ab_ri (f_X11_isSame l0 l1 x3 l2 st) fun x5 s4 =>
      if x5 = 0
      then L_X11_build_191 l0 l1 l2 (l3 + (1 : Int32)) s4
      else L_X11_build_220 l0 l1 l2 l3 s4 := (lm_eq one_X11_build 191 _ _ _).trans rfl
set_option maxRecDepth 100000 in
theorem e_X11_build_220 (l0 : Nat) (l1 : Int32) (l2 : Int32) (l3 : Int32) (st : ab_S) : L_X11_build_220 l0 l1 l2 l3 st =
    Option.bind (ab_gI st l0 11 25) fun x1 =>
    if l3 = x1
    then Option.bind (ab_gR st l0 11 24) fun x2 =>
      Option.bind (ab_wI st x2 l3 l2) fun s3 =>
      Option.bind (ab_gI s3 l0 11 25) fun x4 =>
      Option.bind (ab_pI s3 l0 11 25 (x4 + (1 : Int32))) fun s5 =>
      L_X11_build_245 l0 l1 l2 l3 s5
    else L_X11_build_245 l0 l1 l2 l3 st := (lm_eq one_X11_build 220 _ _ _).trans rfl
set_option maxRecDepth 100000 in
theorem e_X11_build_245 (l0 : Nat) (l1 : Int32) (l2 : Int32) (l3 : Int32) (st : ab_S) : L_X11_build_245 l0 l1 l2 l3 st =
    Option.bind (ab_gR st l0 11 23) fun x1 =>
    Option.bind (ab_wI st x1 l2 l3) fun s2 =>
    L_X11_build_181 l0 l1 (l2 + (1 : Int32)) s2 := (lm_eq one_X11_build 245 _ _ _).trans rfl
def c_X11_done : List (Nat × ab_I) := [(0, .iload_n 1, 1, .null, 1),
  (1, .invokestatic 159, 3, .null, 0),
  (4, .ifCond .ne (6), 3, .null, 10),
  (7, .bipush (-2), 2, (.int (-2)), 0),
  (9, .ireturn, 1, .null, 0),
  (10, .aload_n 0, 1, .null, 0),
  (11, .getfield 27, 3, .null, 0),
  (14, .iload_n 1, 1, .null, 1),
  (15, .baload, 1, .null, 0),
  (16, .ifCond .ne (6), 3, .null, 22),
  (19, .bipush (-4), 2, (.int (-4)), 0),
  (21, .ireturn, 1, .null, 0),
  (22, .aload_n 0, 1, .null, 0),
  (23, .getfield 27, 3, .null, 0),
  (26, .iload_n 1, 1, .null, 1),
  (27, .iconst 0, 1, (.int (0)), 0),
  (28, .bastore, 1, .null, 0),
  (29, .aload_n 0, 1, .null, 0),
  (30, .iload_n 1, 1, .null, 1),
  (31, .invokevirtual 176, 3, .null, 0),
  (34, .aload_n 0, 1, .null, 0),
  (35, .getfield 180, 3, .null, 0),
  (38, .ireturn, 1, .null, 0)]
noncomputable def m_X11_done : ab_M := (c_X11_done, [(0, [0, 1])],
  [(27, 11, 6, 3), (180, 11, 25, 0)],
  [],
  [(159, 0, 1, g_X11_isDictionary), (176, 1, 2, g_X11_build)],
  [], 2, 1)
theorem one_X11_done : ab_oneM m_X11_done := List.forall_mem_cons.mpr ⟨o_X11_isDictionary, List.forall_mem_cons.mpr ⟨o_X11_build, fun _ h => absurd h List.not_mem_nil⟩⟩
noncomputable def f_X11_done (l0 : Nat) (l1 : Int32) (st : ab_S) : Option ab_R := ab_rc st l0 11 (ab_lim m_X11_done 0 [.ref l0, .int l1] [] st)
noncomputable def g_X11_done : ab_G := fun as st k => match as with
  | [.ref a0, .int a1] => ab_ri (f_X11_done a0 a1 st) (fun x t => k [.int x] t)
  | _ => none
theorem o_X11_done : ab_one g_X11_done := by
  intro as st k r h
  unfold g_X11_done at h ⊢
  split at h
  · exact one_ri h
  · cases h
set_option maxRecDepth 100000 in
theorem e_X11_done_0 (l0 : Nat) (l1 : Int32) (st : ab_S) : f_X11_done l0 l1 st =
    ab_rc st l0 11 (
    ab_ri (f_X11_isDictionary l1 st) fun x2 s1 =>
    if x2 = 0
    then some (some (.int (-2 : Int32)), s1)
    else Option.bind (ab_gR s1 l0 11 6) fun x3 =>
      Option.bind (ab_rB s1 x3 l1) fun x4 =>
      if x4 = 0
      then some (some (.int (-4 : Int32)), s1)
      else Option.bind (ab_gR s1 l0 11 6) fun x5 =>
        Option.bind (ab_wB s1 x5 l1 (0 : Int32)) fun s6 =>
        ab_rv (f_X11_build l0 l1 s6) fun s7 =>
        Option.bind (ab_gI s7 l0 11 25) fun x8 =>
        some (some (.int x8), s7)) := congrArg (ab_rc st l0 11) ((lm_eq one_X11_done 0 _ _ _).trans rfl)
def c_X7_leastNotBelow : List (Nat × ab_I) := [(0, .iconst 0, 1, (.int (0)), 0),
  (1, .istore_n 2, 1, .null, 2),
  (2, .aload_n 0, 1, .null, 0),
  (3, .getfield 22, 3, .null, 0),
  (6, .istore_n 3, 1, .null, 3),
  (7, .iconst 0, 1, (.int (0)), 0),
  (8, .istore 4, 2, .null, 4),
  (10, .iload 4, 2, .null, 4),
  (12, .sipush (200), 3, (.int (200)), 0),
  (15, .if_icmp .gt (42), 3, .null, 57),
  (18, .iload_n 2, 1, .null, 2),
  (19, .iload_n 3, 1, .null, 3),
  (20, .if_icmp .ge (37), 3, .null, 57),
  (23, .iload_n 2, 1, .null, 2),
  (24, .iload_n 3, 1, .null, 3),
  (25, .iadd, 1, .null, 0),
  (26, .iconst 1, 1, (.int (1)), 0),
  (27, .iushr, 1, .null, 0),
  (28, .istore 5, 2, .null, 5),
  (30, .aload_n 0, 1, .null, 0),
  (31, .iload 5, 2, .null, 5),
  (33, .aload_n 1, 1, .null, 1),
  (34, .invokevirtual 51, 3, .null, 0),
  (37, .ifCond .ge (11), 3, .null, 48),
  (40, .iload 5, 2, .null, 5),
  (42, .iconst 1, 1, (.int (1)), 0),
  (43, .iadd, 1, .null, 0),
  (44, .istore_n 2, 1, .null, 2),
  (45, .goto (6), 3, .null, 51),
  (48, .iload 5, 2, .null, 5),
  (50, .istore_n 3, 1, .null, 3),
  (51, .iinc 4 (1), 3, (.int (1)), 4),
  (54, .goto (-44), 3, .null, 10),
  (57, .iload_n 2, 1, .null, 2),
  (58, .ireturn, 1, .null, 0)]
noncomputable def m_X7_leastNotBelow : ab_M := (c_X7_leastNotBelow, [(0, [0, 1]), (10, [0, 1, 2, 3, 4]), (51, [0, 1, 2, 3, 4])],
  [(22, 7, 3, 0)],
  [],
  [(51, 1, 3, g_X7_compareWith)],
  [], 6, 1)
theorem one_X7_leastNotBelow : ab_oneM m_X7_leastNotBelow := List.forall_mem_cons.mpr ⟨o_X7_compareWith, fun _ h => absurd h List.not_mem_nil⟩
noncomputable def f_X7_leastNotBelow (l0 : Nat) (l1 : Nat) (st : ab_S) : Option ab_R := ab_rc st l0 7 (ab_lim m_X7_leastNotBelow 0 [.ref l0, .ref l1] [] st)
noncomputable def L_X7_leastNotBelow_10 (l0 : Nat) (l1 : Nat) (l2 : Int32) (l3 : Int32) (l4 : Int32) (st : ab_S) : Option ab_R := ab_lim m_X7_leastNotBelow 10 [.ref l0, .ref l1, .int l2, .int l3, .int l4] [] st
noncomputable def L_X7_leastNotBelow_51 (l0 : Nat) (l1 : Nat) (l2 : Int32) (l3 : Int32) (l4 : Int32) (st : ab_S) : Option ab_R := ab_lim m_X7_leastNotBelow 51 [.ref l0, .ref l1, .int l2, .int l3, .int l4] [] st
noncomputable def g_X7_leastNotBelow : ab_G := fun as st k => match as with
  | [.ref a0, .ref a1] => ab_ri (f_X7_leastNotBelow a0 a1 st) (fun x t => k [.int x] t)
  | _ => none
theorem o_X7_leastNotBelow : ab_one g_X7_leastNotBelow := by
  intro as st k r h
  unfold g_X7_leastNotBelow at h ⊢
  split at h
  · exact one_ri h
  · cases h
set_option maxRecDepth 100000 in
theorem e_X7_leastNotBelow_0 (l0 : Nat) (l1 : Nat) (st : ab_S) : f_X7_leastNotBelow l0 l1 st =
    ab_rc st l0 7 (
    Option.bind (ab_gI st l0 7 3) fun x1 =>
    L_X7_leastNotBelow_10 l0 l1 (0 : Int32) x1 (0 : Int32) st) := congrArg (ab_rc st l0 7) ((lm_eq one_X7_leastNotBelow 0 _ _ _).trans rfl)
set_option maxRecDepth 100000 in
theorem e_X7_leastNotBelow_10 (l0 : Nat) (l1 : Nat) (l2 : Int32) (l3 : Int32) (l4 : Int32) (st : ab_S) : L_X7_leastNotBelow_10 l0 l1 l2 l3 l4 st =
    if (200 : Int32) < l4
    then some (some (.int l2), st)
    else if l3 ≤ l2
      then some (some (.int l2), st)
      else ab_ri (f_X7_compareWith l0 (((l2 + l3).toUInt32 >>> ((1 : Int32).toUInt32 &&& Int32.toUInt32 31)).toInt32) l1 st) fun x2 s1 =>
        if 0 ≤ x2
        then L_X7_leastNotBelow_51 l0 l1 l2 ((l2 + l3).toUInt32 >>> ((1 : Int32).toUInt32 &&& Int32.toUInt32 31)).toInt32 l4 s1
        else L_X7_leastNotBelow_51 l0 l1 (((l2 + l3).toUInt32 >>> ((1 : Int32).toUInt32 &&& Int32.toUInt32 31)).toInt32 + (1 : Int32)) l3 l4 s1 := (lm_eq one_X7_leastNotBelow 10 _ _ _).trans rfl
set_option maxRecDepth 100000 in
theorem e_X7_leastNotBelow_51 (l0 : Nat) (l1 : Nat) (l2 : Int32) (l3 : Int32) (l4 : Int32) (st : ab_S) : L_X7_leastNotBelow_51 l0 l1 l2 l3 l4 st =
    L_X7_leastNotBelow_10 l0 l1 l2 l3 (l4 + (1 : Int32)) st := (lm_eq one_X7_leastNotBelow 51 _ _ _).trans rfl
def c_X7_numberOf : List (Nat × ab_I) := [(0, .aload_n 0, 1, .null, 0),
  (1, .aload_n 1, 1, .null, 1),
  (2, .invokevirtual 55, 3, .null, 0),
  (5, .istore_n 2, 1, .null, 2),
  (6, .iload_n 2, 1, .null, 2),
  (7, .aload_n 0, 1, .null, 0),
  (8, .getfield 22, 3, .null, 0),
  (11, .if_icmp .ge (16), 3, .null, 27),
  (14, .aload_n 0, 1, .null, 0),
  (15, .iload_n 2, 1, .null, 2),
  (16, .aload_n 1, 1, .null, 1),
  (17, .invokevirtual 51, 3, .null, 0),
  (20, .ifCond .ne (7), 3, .null, 27),
  (23, .iload_n 2, 1, .null, 2),
  (24, .goto (4), 3, .null, 28),
  (27, .iconst (-1), 1, (.int (-1)), 0),
  (28, .ireturn, 1, .null, 0)]
noncomputable def m_X7_numberOf : ab_M := (c_X7_numberOf, [(0, [0, 1])],
  [(22, 7, 3, 0)],
  [],
  [(51, 1, 3, g_X7_compareWith), (55, 1, 2, g_X7_leastNotBelow)],
  [], 3, 1)
theorem one_X7_numberOf : ab_oneM m_X7_numberOf := List.forall_mem_cons.mpr ⟨o_X7_compareWith, List.forall_mem_cons.mpr ⟨o_X7_leastNotBelow, fun _ h => absurd h List.not_mem_nil⟩⟩
noncomputable def f_X7_numberOf (l0 : Nat) (l1 : Nat) (st : ab_S) : Option ab_R := ab_rc st l0 7 (ab_lim m_X7_numberOf 0 [.ref l0, .ref l1] [] st)
noncomputable def g_X7_numberOf : ab_G := fun as st k => match as with
  | [.ref a0, .ref a1] => ab_ri (f_X7_numberOf a0 a1 st) (fun x t => k [.int x] t)
  | _ => none
theorem o_X7_numberOf : ab_one g_X7_numberOf := by
  intro as st k r h
  unfold g_X7_numberOf at h ⊢
  split at h
  · exact one_ri h
  · cases h
set_option maxRecDepth 100000 in
theorem e_X7_numberOf_0 (l0 : Nat) (l1 : Nat) (st : ab_S) : f_X7_numberOf l0 l1 st =
    ab_rc st l0 7 (
    ab_ri (f_X7_leastNotBelow l0 l1 st) fun x2 s1 =>
    Option.bind (ab_gI s1 l0 7 3) fun x3 =>
    if x3 ≤ x2
    then some (some (.int (-1 : Int32)), s1)
    else ab_ri (f_X7_compareWith l0 x2 l1 s1) fun x5 s4 =>
      if x5 = 0
      then some (some (.int x2), s4)
      else some (some (.int (-1 : Int32)), s4)) := congrArg (ab_rc st l0 7) ((lm_eq one_X7_numberOf 0 _ _ _).trans rfl)
def c_X10_find : List (Nat × ab_I) := [(0, .iload_n 1, 1, .null, 1),
  (1, .invokestatic 95, 3, .null, 0),
  (4, .ifCond .ne (7), 3, .null, 11),
  (7, .ldc2_w 139, 3, (.long (-2)), 0),
  (10, .lreturn, 1, .null, 0),
  (11, .aload_n 0, 1, .null, 0),
  (12, .invokevirtual 91, 3, .null, 0),
  (15, .astore_n 2, 1, .null, 2),
  (16, .aload_n 0, 1, .null, 0),
  (17, .getfield 11, 3, .null, 0),
  (20, .iload_n 1, 1, .null, 1),
  (21, .aaload, 1, .null, 0),
  (22, .astore_n 3, 1, .null, 3),
  (23, .aload_n 3, 1, .null, 3),
  (24, .getfield 109, 3, .null, 0),
  (27, .ifCond .eq (9), 3, .null, 36),
  (30, .ldc2_w 141, 3, (.long (-4)), 0),
  (33, .goto (18), 3, .null, 51),
  (36, .aload_n 3, 1, .null, 3),
  (37, .getfield 99, 3, .null, 0),
  (40, .aload_n 3, 1, .null, 3),
  (41, .getfield 99, 3, .null, 0),
  (44, .aload_n 2, 1, .null, 2),
  (45, .invokevirtual 143, 3, .null, 0),
  (48, .invokevirtual 147, 3, .null, 0),
  (51, .lreturn, 1, .null, 0)]
noncomputable def m_X10_find : ab_M := (c_X10_find, [(0, [0, 1])],
  [(11, 10, 0, 3), (99, 0, 0, 3), (109, 0, 2, 1)],
  [],
  [(91, 1, 1, g_X10_takeCollected), (95, 0, 1, g_X10_isDictionary), (143, 1, 2, g_X7_numberOf), (147, 1, 2, g_X7_outAt)],
  [], 4, 3)
theorem one_X10_find : ab_oneM m_X10_find := List.forall_mem_cons.mpr ⟨o_X10_takeCollected, List.forall_mem_cons.mpr ⟨o_X10_isDictionary, List.forall_mem_cons.mpr ⟨o_X7_numberOf, List.forall_mem_cons.mpr ⟨o_X7_outAt, fun _ h => absurd h List.not_mem_nil⟩⟩⟩⟩
noncomputable def f_X10_find (l0 : Nat) (l1 : Int32) (st : ab_S) : Option ab_R := ab_rc st l0 10 (ab_lim m_X10_find 0 [.ref l0, .int l1] [] st)
noncomputable def g_X10_find : ab_G := fun as st k => match as with
  | [.ref a0, .int a1] => ab_rl (f_X10_find a0 a1 st) (fun x t => k [.long x] t)
  | _ => none
theorem o_X10_find : ab_one g_X10_find := by
  intro as st k r h
  unfold g_X10_find at h ⊢
  split at h
  · exact one_rl h
  · cases h
set_option maxRecDepth 100000 in
theorem e_X10_find_0 (l0 : Nat) (l1 : Int32) (st : ab_S) : f_X10_find l0 l1 st =
    ab_rc st l0 10 (
    ab_ri (f_X10_isDictionary l1 st) fun x2 s1 =>
    if x2 = 0
    then some (some (.long (-2 : Int64)), s1)
    else ab_rr (f_X10_takeCollected l0 s1) fun x4 s3 =>
      Option.bind (ab_gR s3 l0 10 0) fun x5 =>
      Option.bind (ab_rR s3 x5 l1) fun x6 =>
      Option.bind (ab_gI s3 x6 0 2) fun x7 =>
      if x7 = 0
      then Option.bind (ab_gR s3 x6 0 0) fun x8 =>
        Option.bind (ab_gR s3 x6 0 0) fun x9 =>
        ab_ri (f_X7_numberOf x9 x4 s3) fun x11 s10 =>
        ab_rl (f_X7_outAt x8 x11 s10) fun x13 s12 =>
        some (some (.long x13), s12)
      else some (some (.long (-4 : Int64)), s3)) := congrArg (ab_rc st l0 10) ((lm_eq one_X10_find 0 _ _ _).trans rfl)
def c_X11_place : List (Nat × ab_I) := [(0, .iconst 0, 1, (.int (0)), 0),
  (1, .istore_n 3, 1, .null, 3),
  (2, .iload_n 3, 1, .null, 3),
  (3, .aload_n 0, 1, .null, 0),
  (4, .getfield 24, 3, .null, 0),
  (7, .iload_n 1, 1, .null, 1),
  (8, .iaload, 1, .null, 0),
  (9, .if_icmp .ge (21), 3, .null, 30),
  (12, .aload_n 0, 1, .null, 0),
  (13, .iload_n 1, 1, .null, 1),
  (14, .iload_n 3, 1, .null, 3),
  (15, .iload_n 2, 1, .null, 2),
  (16, .invokevirtual 169, 3, .null, 0),
  (19, .ifCond .ne (5), 3, .null, 24),
  (22, .iload_n 3, 1, .null, 3),
  (23, .ireturn, 1, .null, 0),
  (24, .iinc 3 (1), 3, (.int (1)), 3),
  (27, .goto (-25), 3, .null, 2),
  (30, .iconst (-1), 1, (.int (-1)), 0),
  (31, .ireturn, 1, .null, 0)]
noncomputable def m_X11_place : ab_M := (c_X11_place, [(0, [0, 1, 2]), (2, [0, 1, 2, 3])],
  [(24, 11, 5, 3)],
  [],
  [(169, 1, 4, g_X11_compare)],
  [], 4, 1)
theorem one_X11_place : ab_oneM m_X11_place := List.forall_mem_cons.mpr ⟨o_X11_compare, fun _ h => absurd h List.not_mem_nil⟩
noncomputable def f_X11_place (l0 : Nat) (l1 : Int32) (l2 : Int32) (st : ab_S) : Option ab_R := ab_rc st l0 11 (ab_lim m_X11_place 0 [.ref l0, .int l1, .int l2] [] st)
noncomputable def L_X11_place_2 (l0 : Nat) (l1 : Int32) (l2 : Int32) (l3 : Int32) (st : ab_S) : Option ab_R := ab_lim m_X11_place 2 [.ref l0, .int l1, .int l2, .int l3] [] st
noncomputable def g_X11_place : ab_G := fun as st k => match as with
  | [.ref a0, .int a1, .int a2] => ab_ri (f_X11_place a0 a1 a2 st) (fun x t => k [.int x] t)
  | _ => none
theorem o_X11_place : ab_one g_X11_place := by
  intro as st k r h
  unfold g_X11_place at h ⊢
  split at h
  · exact one_ri h
  · cases h
set_option maxRecDepth 100000 in
theorem e_X11_place_0 (l0 : Nat) (l1 : Int32) (l2 : Int32) (st : ab_S) : f_X11_place l0 l1 l2 st =
    ab_rc st l0 11 (
    L_X11_place_2 l0 l1 l2 (0 : Int32) st) := congrArg (ab_rc st l0 11) ((lm_eq one_X11_place 0 _ _ _).trans rfl)
set_option maxRecDepth 100000 in
theorem e_X11_place_2 (l0 : Nat) (l1 : Int32) (l2 : Int32) (l3 : Int32) (st : ab_S) : L_X11_place_2 l0 l1 l2 l3 st =
    Option.bind (ab_gR st l0 11 5) fun x1 =>
    Option.bind (ab_rI st x1 l1) fun x2 =>
    if x2 ≤ l3
    then some (some (.int (-1 : Int32)), st)
    else ab_ri (f_X11_compare l0 l1 l3 l2 st) fun x4 s3 =>
      if x4 = 0
      then some (some (.int l3), s3)
      else L_X11_place_2 l0 l1 l2 (l3 + (1 : Int32)) s3 := (lm_eq one_X11_place 2 _ _ _).trans rfl
def c_X11_find : List (Nat × ab_I) := [(0, .iload_n 1, 1, .null, 1),
  (1, .invokestatic 159, 3, .null, 0),
  (4, .ifCond .ne (7), 3, .null, 11),
  (7, .ldc2_w 216, 3, (.long (-2)), 0),
  (10, .lreturn, 1, .null, 0),
  (11, .aload_n 0, 1, .null, 0),
  (12, .invokevirtual 165, 3, .null, 0),
  (15, .istore_n 2, 1, .null, 2),
  (16, .aload_n 0, 1, .null, 0),
  (17, .getfield 27, 3, .null, 0),
  (20, .iload_n 1, 1, .null, 1),
  (21, .baload, 1, .null, 0),
  (22, .ifCond .eq (7), 3, .null, 29),
  (25, .ldc2_w 218, 3, (.long (-4)), 0),
  (28, .lreturn, 1, .null, 0),
  (29, .aload_n 0, 1, .null, 0),
  (30, .iload_n 1, 1, .null, 1),
  (31, .iload_n 2, 1, .null, 2),
  (32, .invokevirtual 220, 3, .null, 0),
  (35, .istore_n 3, 1, .null, 3),
  (36, .iload_n 3, 1, .null, 3),
  (37, .iconst (-1), 1, (.int (-1)), 0),
  (38, .if_icmp .ne (9), 3, .null, 47),
  (41, .ldc2_w 224, 3, (.long (-1)), 0),
  (44, .goto (15), 3, .null, 59),
  (47, .aload_n 0, 1, .null, 0),
  (48, .getfield 20, 3, .null, 0),
  (51, .sipush (200), 3, (.int (200)), 0),
  (54, .iload_n 1, 1, .null, 1),
  (55, .imul, 1, .null, 0),
  (56, .iload_n 3, 1, .null, 3),
  (57, .iadd, 1, .null, 0),
  (58, .laload, 1, .null, 0),
  (59, .lreturn, 1, .null, 0)]
noncomputable def m_X11_find : ab_M := (c_X11_find, [(0, [0, 1])],
  [(20, 11, 4, 3), (27, 11, 6, 3)],
  [],
  [(159, 0, 1, g_X11_isDictionary), (165, 1, 1, g_X11_forget), (220, 1, 3, g_X11_place)],
  [], 4, 3)
theorem one_X11_find : ab_oneM m_X11_find := List.forall_mem_cons.mpr ⟨o_X11_isDictionary, List.forall_mem_cons.mpr ⟨o_X11_forget, List.forall_mem_cons.mpr ⟨o_X11_place, fun _ h => absurd h List.not_mem_nil⟩⟩⟩
noncomputable def f_X11_find (l0 : Nat) (l1 : Int32) (st : ab_S) : Option ab_R := ab_rc st l0 11 (ab_lim m_X11_find 0 [.ref l0, .int l1] [] st)
noncomputable def g_X11_find : ab_G := fun as st k => match as with
  | [.ref a0, .int a1] => ab_rl (f_X11_find a0 a1 st) (fun x t => k [.long x] t)
  | _ => none
theorem o_X11_find : ab_one g_X11_find := by
  intro as st k r h
  unfold g_X11_find at h ⊢
  split at h
  · exact one_rl h
  · cases h
set_option maxRecDepth 100000 in
theorem e_X11_find_0 (l0 : Nat) (l1 : Int32) (st : ab_S) : f_X11_find l0 l1 st =
    ab_rc st l0 11 (
    ab_ri (f_X11_isDictionary l1 st) fun x2 s1 =>
    if x2 = 0
    then some (some (.long (-2 : Int64)), s1)
    else ab_ri (f_X11_forget l0 s1) fun x4 s3 =>
      Option.bind (ab_gR s3 l0 11 6) fun x5 =>
      Option.bind (ab_rB s3 x5 l1) fun x6 =>
      if x6 = 0
      then ab_ri (f_X11_place l0 l1 x4 s3) fun x8 s7 =>
        if x8 = (-1 : Int32)
        then some (some (.long (-1 : Int64)), s7)
        else Option.bind (ab_gR s7 l0 11 4) fun x9 =>
          Option.bind (ab_rJ s7 x9 (((200 : Int32) * l1) + x8)) fun x10 =>
          some (some (.long x10), s7)
      else some (some (.long (-4 : Int64)), s3)) := congrArg (ab_rc st l0 11) ((lm_eq one_X11_find 0 _ _ _).trans rfl)
def c_X1_has : List (Nat × ab_I) := [(0, .iload_n 1, 1, .null, 1),
  (1, .ifCond .lt (22), 3, .null, 23),
  (4, .iload_n 1, 1, .null, 1),
  (5, .aload_n 0, 1, .null, 0),
  (6, .getfield 49, 3, .null, 0),
  (9, .if_icmp .ge (14), 3, .null, 23),
  (12, .iload_n 1, 1, .null, 1),
  (13, .sipush (2401), 3, (.int (2401)), 0),
  (16, .if_icmp .ge (7), 3, .null, 23),
  (19, .iconst 1, 1, (.int (1)), 0),
  (20, .goto (4), 3, .null, 24),
  (23, .iconst 0, 1, (.int (0)), 0),
  (24, .ireturn, 1, .null, 0)]
noncomputable def m_X1_has : ab_M := (c_X1_has, [(0, [0, 1])],
  [(49, 1, 7, 0)],
  [],
  [],
  [], 2, 2)
theorem one_X1_has : ab_oneM m_X1_has := fun _ h => absurd h List.not_mem_nil
noncomputable def f_X1_has (l0 : Nat) (l1 : Int32) (st : ab_S) : Option ab_R := ab_rc st l0 1 (ab_lim m_X1_has 0 [.ref l0, .int l1] [] st)
noncomputable def g_X1_has : ab_G := fun as st k => match as with
  | [.ref a0, .int a1] => ab_ri (f_X1_has a0 a1 st) (fun x t => k [.int x] t)
  | _ => none
theorem o_X1_has : ab_one g_X1_has := by
  intro as st k r h
  unfold g_X1_has at h ⊢
  split at h
  · exact one_ri h
  · cases h
set_option maxRecDepth 100000 in
theorem e_X1_has_0 (l0 : Nat) (l1 : Int32) (st : ab_S) : f_X1_has l0 l1 st =
    ab_rc st l0 1 (
    if l1 < 0
    then ab_z (0 : Int32) (some (some (.int (0 : Int32)), st))
    else Option.bind (ab_gI st l0 1 7) fun x1 =>
      if x1 ≤ l1
      then ab_z (0 : Int32) (some (some (.int (0 : Int32)), st))
      else if (2401 : Int32) ≤ l1
        then ab_z (0 : Int32) (some (some (.int (0 : Int32)), st))
        else ab_z (1 : Int32) (some (some (.int (1 : Int32)), st))) := congrArg (ab_rc st l0 1) ((lm_eq one_X1_has 0 _ _ _).trans rfl)
def c_X1_arcsOf : List (Nat × ab_I) := [(0, .aload_n 0, 1, .null, 0),
  (1, .iload_n 1, 1, .null, 1),
  (2, .invokevirtual 58, 3, .null, 0),
  (5, .ifCond .eq (21), 3, .null, 26),
  (8, .aload_n 0, 1, .null, 0),
  (9, .getfield 9, 3, .null, 0),
  (12, .iload_n 1, 1, .null, 1),
  (13, .iconst 1, 1, (.int (1)), 0),
  (14, .iadd, 1, .null, 0),
  (15, .iaload, 1, .null, 0),
  (16, .aload_n 0, 1, .null, 0),
  (17, .getfield 9, 3, .null, 0),
  (20, .iload_n 1, 1, .null, 1),
  (21, .iaload, 1, .null, 0),
  (22, .isub, 1, .null, 0),
  (23, .goto (4), 3, .null, 27),
  (26, .iconst 0, 1, (.int (0)), 0),
  (27, .ireturn, 1, .null, 0)]
noncomputable def m_X1_arcsOf : ab_M := (c_X1_arcsOf, [(0, [0, 1])],
  [(9, 1, 0, 3)],
  [],
  [(58, 1, 2, g_X1_has)],
  [], 2, 1)
theorem one_X1_arcsOf : ab_oneM m_X1_arcsOf := List.forall_mem_cons.mpr ⟨o_X1_has, fun _ h => absurd h List.not_mem_nil⟩
noncomputable def f_X1_arcsOf (l0 : Nat) (l1 : Int32) (st : ab_S) : Option ab_R := ab_rc st l0 1 (ab_lim m_X1_arcsOf 0 [.ref l0, .int l1] [] st)
noncomputable def g_X1_arcsOf : ab_G := fun as st k => match as with
  | [.ref a0, .int a1] => ab_ri (f_X1_arcsOf a0 a1 st) (fun x t => k [.int x] t)
  | _ => none
theorem o_X1_arcsOf : ab_one g_X1_arcsOf := by
  intro as st k r h
  unfold g_X1_arcsOf at h ⊢
  split at h
  · exact one_ri h
  · cases h
set_option maxRecDepth 100000 in
theorem e_X1_arcsOf_0 (l0 : Nat) (l1 : Int32) (st : ab_S) : f_X1_arcsOf l0 l1 st =
    ab_rc st l0 1 (
    ab_ri (f_X1_has l0 l1 st) fun x2 s1 =>
    if x2 = 0
    then some (some (.int (0 : Int32)), s1)
    else Option.bind (ab_gR s1 l0 1 0) fun x3 =>
      Option.bind (ab_rI s1 x3 (l1 + (1 : Int32))) fun x4 =>
      Option.bind (ab_gR s1 l0 1 0) fun x5 =>
      Option.bind (ab_rI s1 x5 l1) fun x6 =>
      some (some (.int (x4 - x6)), s1)) := congrArg (ab_rc st l0 1) ((lm_eq one_X1_arcsOf 0 _ _ _).trans rfl)
def c_X1_placeOfArc : List (Nat × ab_I) := [(0, .iload_n 2, 1, .null, 2),
  (1, .ifCond .lt (12), 3, .null, 13),
  (4, .iload_n 2, 1, .null, 2),
  (5, .aload_n 0, 1, .null, 0),
  (6, .iload_n 1, 1, .null, 1),
  (7, .invokevirtual 62, 3, .null, 0),
  (10, .if_icmp .lt (7), 3, .null, 17),
  (13, .iconst (-1), 1, (.int (-1)), 0),
  (14, .goto (11), 3, .null, 25),
  (17, .aload_n 0, 1, .null, 0),
  (18, .getfield 9, 3, .null, 0),
  (21, .iload_n 1, 1, .null, 1),
  (22, .iaload, 1, .null, 0),
  (23, .iload_n 2, 1, .null, 2),
  (24, .iadd, 1, .null, 0),
  (25, .ireturn, 1, .null, 0)]
noncomputable def m_X1_placeOfArc : ab_M := (c_X1_placeOfArc, [(0, [0, 1, 2])],
  [(9, 1, 0, 3)],
  [],
  [(62, 1, 2, g_X1_arcsOf)],
  [], 3, 1)
theorem one_X1_placeOfArc : ab_oneM m_X1_placeOfArc := List.forall_mem_cons.mpr ⟨o_X1_arcsOf, fun _ h => absurd h List.not_mem_nil⟩
noncomputable def f_X1_placeOfArc (l0 : Nat) (l1 : Int32) (l2 : Int32) (st : ab_S) : Option ab_R := ab_rc st l0 1 (ab_lim m_X1_placeOfArc 0 [.ref l0, .int l1, .int l2] [] st)
noncomputable def g_X1_placeOfArc : ab_G := fun as st k => match as with
  | [.ref a0, .int a1, .int a2] => ab_ri (f_X1_placeOfArc a0 a1 a2 st) (fun x t => k [.int x] t)
  | _ => none
theorem o_X1_placeOfArc : ab_one g_X1_placeOfArc := by
  intro as st k r h
  unfold g_X1_placeOfArc at h ⊢
  split at h
  · exact one_ri h
  · cases h
set_option maxRecDepth 100000 in
theorem e_X1_placeOfArc_0 (l0 : Nat) (l1 : Int32) (l2 : Int32) (st : ab_S) : f_X1_placeOfArc l0 l1 l2 st =
    ab_rc st l0 1 (
    if l2 < 0
    then some (some (.int (-1 : Int32)), st)
    else ab_ri (f_X1_arcsOf l0 l1 st) fun x2 s1 =>
      if l2 < x2
      then Option.bind (ab_gR s1 l0 1 0) fun x3 =>
        Option.bind (ab_rI s1 x3 l1) fun x4 =>
        some (some (.int (x4 + l2)), s1)
      else some (some (.int (-1 : Int32)), s1)) := congrArg (ab_rc st l0 1) ((lm_eq one_X1_placeOfArc 0 _ _ _).trans rfl)
def c_X1_tellArc : List (Nat × ab_I) := [(0, .aload_n 0, 1, .null, 0),
  (1, .iload_n 1, 1, .null, 1),
  (2, .iload_n 2, 1, .null, 2),
  (3, .invokevirtual 66, 3, .null, 0),
  (6, .istore 4, 2, .null, 4),
  (8, .iload 4, 2, .null, 4),
  (10, .ifCond .lt (11), 3, .null, 21),
  (13, .iload 4, 2, .null, 4),
  (15, .sipush (2400), 3, (.int (2400)), 0),
  (18, .if_icmp .lt (7), 3, .null, 25),
  (21, .ldc2_w 35, 3, (.long (-1)), 0),
  (24, .lreturn, 1, .null, 0),
  (25, .iload_n 3, 1, .null, 3),
  (26, .lookupswitch (44) #[(0, 26), (1, 35)], 26, .null, 0),
  (52, .aload_n 0, 1, .null, 0),
  (53, .getfield 22, 3, .null, 0),
  (56, .iload 4, 2, .null, 4),
  (58, .iaload, 1, .null, 0),
  (59, .i2l, 1, .null, 0),
  (60, .lreturn, 1, .null, 0),
  (61, .aload_n 0, 1, .null, 0),
  (62, .getfield 25, 3, .null, 0),
  (65, .iload 4, 2, .null, 4),
  (67, .iaload, 1, .null, 0),
  (68, .i2l, 1, .null, 0),
  (69, .lreturn, 1, .null, 0),
  (70, .aload_n 0, 1, .null, 0),
  (71, .getfield 28, 3, .null, 0),
  (74, .iload 4, 2, .null, 4),
  (76, .laload, 1, .null, 0),
  (77, .lreturn, 1, .null, 0)]
noncomputable def m_X1_tellArc : ab_M := (c_X1_tellArc, [(0, [0, 1, 2, 3])],
  [(22, 1, 3, 3), (25, 1, 4, 3), (28, 1, 5, 3)],
  [],
  [(66, 1, 3, g_X1_placeOfArc)],
  [(26, [(0, 52), (1, 61)], 70)], 5, 3)
theorem one_X1_tellArc : ab_oneM m_X1_tellArc := List.forall_mem_cons.mpr ⟨o_X1_placeOfArc, fun _ h => absurd h List.not_mem_nil⟩
noncomputable def f_X1_tellArc (l0 : Nat) (l1 : Int32) (l2 : Int32) (l3 : Int32) (st : ab_S) : Option ab_R := ab_rc st l0 1 (ab_lim m_X1_tellArc 0 [.ref l0, .int l1, .int l2, .int l3] [] st)
noncomputable def g_X1_tellArc : ab_G := fun as st k => match as with
  | [.ref a0, .int a1, .int a2, .int a3] => ab_rl (f_X1_tellArc a0 a1 a2 a3 st) (fun x t => k [.long x] t)
  | _ => none
theorem o_X1_tellArc : ab_one g_X1_tellArc := by
  intro as st k r h
  unfold g_X1_tellArc at h ⊢
  split at h
  · exact one_rl h
  · cases h
set_option maxRecDepth 100000 in
theorem e_X1_tellArc_0 (l0 : Nat) (l1 : Int32) (l2 : Int32) (l3 : Int32) (st : ab_S) : f_X1_tellArc l0 l1 l2 l3 st =
    ab_rc st l0 1 (
    ab_ri (f_X1_placeOfArc l0 l1 l2 st) fun x2 s1 =>
    if x2 < 0
    then some (some (.long (-1 : Int64)), s1)
    else if x2 < (2400 : Int32)
      then if l3 = 0 then Option.bind (ab_gR s1 l0 1 3) fun x3 =>
          Option.bind (ab_rI s1 x3 x2) fun x4 =>
          some (some (.long x4.toInt64), s1)
        else if l3 = 1 then Option.bind (ab_gR s1 l0 1 4) fun x5 =>
          Option.bind (ab_rI s1 x5 x2) fun x6 =>
          some (some (.long x6.toInt64), s1)
        else Option.bind (ab_gR s1 l0 1 5) fun x7 =>
          Option.bind (ab_rJ s1 x7 x2) fun x8 =>
          some (some (.long x8), s1)
      else some (some (.long (-1 : Int64)), s1)) := congrArg (ab_rc st l0 1) ((lm_eq one_X1_tellArc 0 _ _ _).trans rfl)
def c_X1_stateBehindSign : List (Nat × ab_I) := [(0, .iconst 0, 1, (.int (0)), 0),
  (1, .istore_n 3, 1, .null, 3),
  (2, .iload_n 3, 1, .null, 3),
  (3, .aload_n 0, 1, .null, 0),
  (4, .iload_n 1, 1, .null, 1),
  (5, .invokevirtual 62, 3, .null, 0),
  (8, .if_icmp .ge (31), 3, .null, 39),
  (11, .aload_n 0, 1, .null, 0),
  (12, .iload_n 1, 1, .null, 1),
  (13, .iload_n 3, 1, .null, 3),
  (14, .iconst 0, 1, (.int (0)), 0),
  (15, .invokevirtual 81, 3, .null, 0),
  (18, .iload_n 2, 1, .null, 2),
  (19, .i2l, 1, .null, 0),
  (20, .lcmp, 1, .null, 0),
  (21, .ifCond .ne (12), 3, .null, 33),
  (24, .aload_n 0, 1, .null, 0),
  (25, .iload_n 1, 1, .null, 1),
  (26, .iload_n 3, 1, .null, 3),
  (27, .iconst 1, 1, (.int (1)), 0),
  (28, .invokevirtual 81, 3, .null, 0),
  (31, .l2i, 1, .null, 0),
  (32, .ireturn, 1, .null, 0),
  (33, .iinc 3 (1), 3, (.int (1)), 3),
  (36, .goto (-34), 3, .null, 2),
  (39, .iconst (-1), 1, (.int (-1)), 0),
  (40, .ireturn, 1, .null, 0)]
noncomputable def m_X1_stateBehindSign : ab_M := (c_X1_stateBehindSign, [(0, [0, 1, 2]), (2, [0, 1, 2, 3])],
  [],
  [],
  [(62, 1, 2, g_X1_arcsOf), (81, 1, 4, g_X1_tellArc)],
  [], 4, 1)
theorem one_X1_stateBehindSign : ab_oneM m_X1_stateBehindSign := List.forall_mem_cons.mpr ⟨o_X1_arcsOf, List.forall_mem_cons.mpr ⟨o_X1_tellArc, fun _ h => absurd h List.not_mem_nil⟩⟩
noncomputable def f_X1_stateBehindSign (l0 : Nat) (l1 : Int32) (l2 : Int32) (st : ab_S) : Option ab_R := ab_rc st l0 1 (ab_lim m_X1_stateBehindSign 0 [.ref l0, .int l1, .int l2] [] st)
noncomputable def L_X1_stateBehindSign_2 (l0 : Nat) (l1 : Int32) (l2 : Int32) (l3 : Int32) (st : ab_S) : Option ab_R := ab_lim m_X1_stateBehindSign 2 [.ref l0, .int l1, .int l2, .int l3] [] st
noncomputable def g_X1_stateBehindSign : ab_G := fun as st k => match as with
  | [.ref a0, .int a1, .int a2] => ab_ri (f_X1_stateBehindSign a0 a1 a2 st) (fun x t => k [.int x] t)
  | _ => none
theorem o_X1_stateBehindSign : ab_one g_X1_stateBehindSign := by
  intro as st k r h
  unfold g_X1_stateBehindSign at h ⊢
  split at h
  · exact one_ri h
  · cases h
set_option maxRecDepth 100000 in
theorem e_X1_stateBehindSign_0 (l0 : Nat) (l1 : Int32) (l2 : Int32) (st : ab_S) : f_X1_stateBehindSign l0 l1 l2 st =
    ab_rc st l0 1 (
    L_X1_stateBehindSign_2 l0 l1 l2 (0 : Int32) st) := congrArg (ab_rc st l0 1) ((lm_eq one_X1_stateBehindSign 0 _ _ _).trans rfl)
set_option maxRecDepth 100000 in
theorem e_X1_stateBehindSign_2 (l0 : Nat) (l1 : Int32) (l2 : Int32) (l3 : Int32) (st : ab_S) : L_X1_stateBehindSign_2 l0 l1 l2 l3 st =
    ab_ri (f_X1_arcsOf l0 l1 st) fun x2 s1 =>
    if x2 ≤ l3
    then some (some (.int (-1 : Int32)), s1)
    else ab_rl (f_X1_tellArc l0 l1 l3 (0 : Int32) s1) fun x4 s3 =>
      if (lg_cmp x4 l2.toInt64) = 0
      then ab_rl (f_X1_tellArc l0 l1 l3 (1 : Int32) s3) fun x6 s5 =>
        some (some (.int x6.toInt32), s5)
      else L_X1_stateBehindSign_2 l0 l1 l2 (l3 + (1 : Int32)) s3 := (lm_eq one_X1_stateBehindSign 2 _ _ _).trans rfl
def c_X1_stateBehind : List (Nat × ab_I) := [(0, .iconst 0, 1, (.int (0)), 0),
  (1, .istore_n 2, 1, .null, 2),
  (2, .iconst 0, 1, (.int (0)), 0),
  (3, .istore_n 3, 1, .null, 3),
  (4, .iload_n 3, 1, .null, 3),
  (5, .aload_n 1, 1, .null, 1),
  (6, .getfield 70, 3, .null, 0),
  (9, .if_icmp .ge (25), 3, .null, 34),
  (12, .iload_n 2, 1, .null, 2),
  (13, .iconst (-1), 1, (.int (-1)), 0),
  (14, .if_icmp .eq (20), 3, .null, 34),
  (17, .aload_n 0, 1, .null, 0),
  (18, .iload_n 2, 1, .null, 2),
  (19, .aload_n 1, 1, .null, 1),
  (20, .iload_n 3, 1, .null, 3),
  (21, .invokevirtual 75, 3, .null, 0),
  (24, .invokevirtual 78, 3, .null, 0),
  (27, .istore_n 2, 1, .null, 2),
  (28, .iinc 3 (1), 3, (.int (1)), 3),
  (31, .goto (-27), 3, .null, 4),
  (34, .iload_n 2, 1, .null, 2),
  (35, .ireturn, 1, .null, 0)]
noncomputable def m_X1_stateBehind : ab_M := (c_X1_stateBehind, [(0, [0, 1]), (4, [0, 1, 2, 3])],
  [(70, 6, 1, 0)],
  [],
  [(75, 1, 2, g_X6_at), (78, 1, 3, g_X1_stateBehindSign)],
  [], 4, 1)
theorem one_X1_stateBehind : ab_oneM m_X1_stateBehind := List.forall_mem_cons.mpr ⟨o_X6_at, List.forall_mem_cons.mpr ⟨o_X1_stateBehindSign, fun _ h => absurd h List.not_mem_nil⟩⟩
noncomputable def f_X1_stateBehind (l0 : Nat) (l1 : Nat) (st : ab_S) : Option ab_R := ab_rc st l0 1 (ab_lim m_X1_stateBehind 0 [.ref l0, .ref l1] [] st)
noncomputable def L_X1_stateBehind_4 (l0 : Nat) (l1 : Nat) (l2 : Int32) (l3 : Int32) (st : ab_S) : Option ab_R := ab_lim m_X1_stateBehind 4 [.ref l0, .ref l1, .int l2, .int l3] [] st
noncomputable def g_X1_stateBehind : ab_G := fun as st k => match as with
  | [.ref a0, .ref a1] => ab_ri (f_X1_stateBehind a0 a1 st) (fun x t => k [.int x] t)
  | _ => none
theorem o_X1_stateBehind : ab_one g_X1_stateBehind := by
  intro as st k r h
  unfold g_X1_stateBehind at h ⊢
  split at h
  · exact one_ri h
  · cases h
set_option maxRecDepth 100000 in
theorem e_X1_stateBehind_0 (l0 : Nat) (l1 : Nat) (st : ab_S) : f_X1_stateBehind l0 l1 st =
    ab_rc st l0 1 (
    L_X1_stateBehind_4 l0 l1 (0 : Int32) (0 : Int32) st) := congrArg (ab_rc st l0 1) ((lm_eq one_X1_stateBehind 0 _ _ _).trans rfl)
set_option maxRecDepth 100000 in
theorem e_X1_stateBehind_4 (l0 : Nat) (l1 : Nat) (l2 : Int32) (l3 : Int32) (st : ab_S) : L_X1_stateBehind_4 l0 l1 l2 l3 st =
    Option.bind (ab_gI st l1 6 1) fun x1 =>
    if x1 ≤ l3
    then some (some (.int l2), st)
    else if l2 = (-1 : Int32)
      then some (some (.int l2), st)
      else ab_ri (f_X6_at l1 l3 st) fun x3 s2 =>
        ab_ri (f_X1_stateBehindSign l0 l2 x3 s2) fun x5 s4 =>
        L_X1_stateBehind_4 l0 l1 x5 (l3 + (1 : Int32)) s4 := (lm_eq one_X1_stateBehind 4 _ _ _).trans rfl
def c_X10_state : List (Nat × ab_I) := [(0, .iload_n 1, 1, .null, 1),
  (1, .invokestatic 95, 3, .null, 0),
  (4, .ifCond .ne (6), 3, .null, 10),
  (7, .bipush (-2), 2, (.int (-2)), 0),
  (9, .ireturn, 1, .null, 0),
  (10, .aload_n 0, 1, .null, 0),
  (11, .invokevirtual 91, 3, .null, 0),
  (14, .astore_n 2, 1, .null, 2),
  (15, .aload_n 0, 1, .null, 0),
  (16, .getfield 11, 3, .null, 0),
  (19, .iload_n 1, 1, .null, 1),
  (20, .aaload, 1, .null, 0),
  (21, .astore_n 3, 1, .null, 3),
  (22, .aload_n 3, 1, .null, 3),
  (23, .getfield 109, 3, .null, 0),
  (26, .ifCond .eq (8), 3, .null, 34),
  (29, .bipush (-4), 2, (.int (-4)), 0),
  (31, .goto (11), 3, .null, 42),
  (34, .aload_n 3, 1, .null, 3),
  (35, .getfield 130, 3, .null, 0),
  (38, .aload_n 2, 1, .null, 2),
  (39, .invokevirtual 151, 3, .null, 0),
  (42, .ireturn, 1, .null, 0)]
noncomputable def m_X10_state : ab_M := (c_X10_state, [(0, [0, 1])],
  [(11, 10, 0, 3), (109, 0, 2, 1), (130, 0, 1, 3)],
  [],
  [(91, 1, 1, g_X10_takeCollected), (95, 0, 1, g_X10_isDictionary), (151, 1, 2, g_X1_stateBehind)],
  [], 4, 1)
theorem one_X10_state : ab_oneM m_X10_state := List.forall_mem_cons.mpr ⟨o_X10_takeCollected, List.forall_mem_cons.mpr ⟨o_X10_isDictionary, List.forall_mem_cons.mpr ⟨o_X1_stateBehind, fun _ h => absurd h List.not_mem_nil⟩⟩⟩
noncomputable def f_X10_state (l0 : Nat) (l1 : Int32) (st : ab_S) : Option ab_R := ab_rc st l0 10 (ab_lim m_X10_state 0 [.ref l0, .int l1] [] st)
noncomputable def g_X10_state : ab_G := fun as st k => match as with
  | [.ref a0, .int a1] => ab_ri (f_X10_state a0 a1 st) (fun x t => k [.int x] t)
  | _ => none
theorem o_X10_state : ab_one g_X10_state := by
  intro as st k r h
  unfold g_X10_state at h ⊢
  split at h
  · exact one_ri h
  · cases h
set_option maxRecDepth 100000 in
theorem e_X10_state_0 (l0 : Nat) (l1 : Int32) (st : ab_S) : f_X10_state l0 l1 st =
    ab_rc st l0 10 (
    ab_ri (f_X10_isDictionary l1 st) fun x2 s1 =>
    if x2 = 0
    then some (some (.int (-2 : Int32)), s1)
    else ab_rr (f_X10_takeCollected l0 s1) fun x4 s3 =>
      Option.bind (ab_gR s3 l0 10 0) fun x5 =>
      Option.bind (ab_rR s3 x5 l1) fun x6 =>
      Option.bind (ab_gI s3 x6 0 2) fun x7 =>
      if x7 = 0
      then Option.bind (ab_gR s3 x6 0 1) fun x8 =>
        ab_ri (f_X1_stateBehind x8 x4 s3) fun x10 s9 =>
        some (some (.int x10), s9)
      else some (some (.int (-4 : Int32)), s3)) := congrArg (ab_rc st l0 10) ((lm_eq one_X10_state 0 _ _ _).trans rfl)
def c_X11_isBeginning : List (Nat × ab_I) := [(0, .aload_n 0, 1, .null, 0),
  (1, .getfield 16, 3, .null, 0),
  (4, .sipush (200), 3, (.int (200)), 0),
  (7, .iload_n 1, 1, .null, 1),
  (8, .imul, 1, .null, 0),
  (9, .iload_n 2, 1, .null, 2),
  (10, .iadd, 1, .null, 0),
  (11, .iaload, 1, .null, 0),
  (12, .iload_n 3, 1, .null, 3),
  (13, .if_icmp .lt (7), 3, .null, 20),
  (16, .iconst 1, 1, (.int (1)), 0),
  (17, .goto (4), 3, .null, 21),
  (20, .iconst 0, 1, (.int (0)), 0),
  (21, .istore 4, 2, .null, 4),
  (23, .iconst 0, 1, (.int (0)), 0),
  (24, .istore 5, 2, .null, 5),
  (26, .iload 5, 2, .null, 5),
  (28, .iload_n 3, 1, .null, 3),
  (29, .if_icmp .ge (43), 3, .null, 72),
  (32, .iload 4, 2, .null, 4),
  (34, .ifCond .eq (38), 3, .null, 72),
  (37, .aload_n 0, 1, .null, 0),
  (38, .iload_n 1, 1, .null, 1),
  (39, .iload_n 2, 1, .null, 2),
  (40, .iload 5, 2, .null, 5),
  (42, .invokevirtual 153, 3, .null, 0),
  (45, .aload_n 0, 1, .null, 0),
  (46, .getfield 7, 3, .null, 0),
  (49, .iload 5, 2, .null, 5),
  (51, .baload, 1, .null, 0),
  (52, .sipush (255), 3, (.int (255)), 0),
  (55, .iand, 1, .null, 0),
  (56, .if_icmp .ne (7), 3, .null, 63),
  (59, .iconst 1, 1, (.int (1)), 0),
  (60, .goto (4), 3, .null, 64),
  (63, .iconst 0, 1, (.int (0)), 0),
  (64, .istore 4, 2, .null, 4),
  (66, .iinc 5 (1), 3, (.int (1)), 5),
  (69, .goto (-43), 3, .null, 26),
  (72, .iload 4, 2, .null, 4),
  (74, .ireturn, 1, .null, 0)]
noncomputable def m_X11_isBeginning : ab_M := (c_X11_isBeginning, [(0, [0, 1, 2, 3]), (21, [0, 1, 2, 3]), (26, [0, 1, 2, 3, 4, 5]), (64, [0, 1, 2, 3, 5])],
  [(7, 11, 0, 3), (16, 11, 3, 3)],
  [],
  [(153, 1, 4, g_X11_letter)],
  [], 6, 2)
theorem one_X11_isBeginning : ab_oneM m_X11_isBeginning := List.forall_mem_cons.mpr ⟨o_X11_letter, fun _ h => absurd h List.not_mem_nil⟩
noncomputable def f_X11_isBeginning (l0 : Nat) (l1 : Int32) (l2 : Int32) (l3 : Int32) (st : ab_S) : Option ab_R := ab_rc st l0 11 (ab_lim m_X11_isBeginning 0 [.ref l0, .int l1, .int l2, .int l3] [] st)
noncomputable def L_X11_isBeginning_21 (l0 : Nat) (l1 : Int32) (l2 : Int32) (l3 : Int32) (t0 : Int32) (st : ab_S) : Option ab_R := ab_lim m_X11_isBeginning 21 [.ref l0, .int l1, .int l2, .int l3] [.int t0] st
noncomputable def L_X11_isBeginning_26 (l0 : Nat) (l1 : Int32) (l2 : Int32) (l3 : Int32) (l4 : Int32) (l5 : Int32) (st : ab_S) : Option ab_R := ab_lim m_X11_isBeginning 26 [.ref l0, .int l1, .int l2, .int l3, .int l4, .int l5] [] st
noncomputable def L_X11_isBeginning_64 (l0 : Nat) (l1 : Int32) (l2 : Int32) (l3 : Int32) (l5 : Int32) (t0 : Int32) (st : ab_S) : Option ab_R := ab_lim m_X11_isBeginning 64 [.ref l0, .int l1, .int l2, .int l3, .int l5] [.int t0] st
noncomputable def g_X11_isBeginning : ab_G := fun as st k => match as with
  | [.ref a0, .int a1, .int a2, .int a3] => ab_ri (f_X11_isBeginning a0 a1 a2 a3 st) (fun x t => k [.int x] t)
  | _ => none
theorem o_X11_isBeginning : ab_one g_X11_isBeginning := by
  intro as st k r h
  unfold g_X11_isBeginning at h ⊢
  split at h
  · exact one_ri h
  · cases h
set_option maxRecDepth 100000 in
theorem e_X11_isBeginning_0 (l0 : Nat) (l1 : Int32) (l2 : Int32) (l3 : Int32) (st : ab_S) : f_X11_isBeginning l0 l1 l2 l3 st =
    ab_rc st l0 11 (
    Option.bind (ab_gR st l0 11 3) fun x1 =>
    Option.bind (ab_rI st x1 (((200 : Int32) * l1) + l2)) fun x2 =>
    if x2 < l3
    then L_X11_isBeginning_21 l0 l1 l2 l3 (0 : Int32) st
    else L_X11_isBeginning_21 l0 l1 l2 l3 (1 : Int32) st) := congrArg (ab_rc st l0 11) ((lm_eq one_X11_isBeginning 0 _ _ _).trans rfl)
set_option maxRecDepth 100000 in
theorem e_X11_isBeginning_21 (l0 : Nat) (l1 : Int32) (l2 : Int32) (l3 : Int32) (t0 : Int32) (st : ab_S) : L_X11_isBeginning_21 l0 l1 l2 l3 t0 st =
    L_X11_isBeginning_26 l0 l1 l2 l3 t0 (0 : Int32) st := (lm_eq one_X11_isBeginning 21 _ _ _).trans rfl
set_option maxRecDepth 100000 in
theorem e_X11_isBeginning_26 (l0 : Nat) (l1 : Int32) (l2 : Int32) (l3 : Int32) (l4 : Int32) (l5 : Int32) (st : ab_S) : L_X11_isBeginning_26 l0 l1 l2 l3 l4 l5 st =
    if l3 ≤ l5
    then ab_z l4 (some (some (.int l4), st))
    else if l4 = 0
      then ab_z l4 (some (some (.int l4), st))
      else ab_ri (f_X11_letter l0 l1 l2 l5 st) fun x2 s1 =>
        Option.bind (ab_gR s1 l0 11 0) fun x3 =>
        Option.bind (ab_rB s1 x3 l5) fun x4 =>
        if x2 = (x4 &&& (255 : Int32))
        then L_X11_isBeginning_64 l0 l1 l2 l3 l5 (1 : Int32) s1
        else L_X11_isBeginning_64 l0 l1 l2 l3 l5 (0 : Int32) s1 := (lm_eq one_X11_isBeginning 26 _ _ _).trans rfl
set_option maxRecDepth 100000 in
theorem e_X11_isBeginning_64 (l0 : Nat) (l1 : Int32) (l2 : Int32) (l3 : Int32) (l5 : Int32) (t0 : Int32) (st : ab_S) : L_X11_isBeginning_64 l0 l1 l2 l3 l5 t0 st =
    L_X11_isBeginning_26 l0 l1 l2 l3 t0 (l5 + (1 : Int32)) st := (lm_eq one_X11_isBeginning 64 _ _ _).trans rfl
def c_X11_state : List (Nat × ab_I) := [(0, .iload_n 1, 1, .null, 1),
  (1, .invokestatic 159, 3, .null, 0),
  (4, .ifCond .ne (6), 3, .null, 10),
  (7, .bipush (-2), 2, (.int (-2)), 0),
  (9, .ireturn, 1, .null, 0),
  (10, .aload_n 0, 1, .null, 0),
  (11, .invokevirtual 165, 3, .null, 0),
  (14, .istore_n 2, 1, .null, 2),
  (15, .aload_n 0, 1, .null, 0),
  (16, .getfield 27, 3, .null, 0),
  (19, .iload_n 1, 1, .null, 1),
  (20, .baload, 1, .null, 0),
  (21, .ifCond .eq (6), 3, .null, 27),
  (24, .bipush (-4), 2, (.int (-4)), 0),
  (26, .ireturn, 1, .null, 0),
  (27, .aload_n 0, 1, .null, 0),
  (28, .iload_n 1, 1, .null, 1),
  (29, .invokevirtual 176, 3, .null, 0),
  (32, .iconst 0, 1, (.int (0)), 0),
  (33, .istore_n 3, 1, .null, 3),
  (34, .iload_n 3, 1, .null, 3),
  (35, .aload_n 0, 1, .null, 0),
  (36, .getfield 183, 3, .null, 0),
  (39, .if_icmp .ge (45), 3, .null, 84),
  (42, .aload_n 0, 1, .null, 0),
  (43, .getfield 63, 3, .null, 0),
  (46, .iload_n 3, 1, .null, 3),
  (47, .iaload, 1, .null, 0),
  (48, .iload_n 2, 1, .null, 2),
  (49, .if_icmp .ne (29), 3, .null, 78),
  (52, .iload_n 2, 1, .null, 2),
  (53, .ifCond .eq (18), 3, .null, 71),
  (56, .aload_n 0, 1, .null, 0),
  (57, .iload_n 1, 1, .null, 1),
  (58, .aload_n 0, 1, .null, 0),
  (59, .getfield 57, 3, .null, 0),
  (62, .iload_n 3, 1, .null, 3),
  (63, .iaload, 1, .null, 0),
  (64, .iload_n 2, 1, .null, 2),
  (65, .invokevirtual 226, 3, .null, 0),
  (68, .ifCond .eq (10), 3, .null, 78),
  (71, .aload_n 0, 1, .null, 0),
  (72, .getfield 72, 3, .null, 0),
  (75, .iload_n 3, 1, .null, 3),
  (76, .iaload, 1, .null, 0),
  (77, .ireturn, 1, .null, 0),
  (78, .iinc 3 (1), 3, (.int (1)), 3),
  (81, .goto (-47), 3, .null, 34),
  (84, .iconst (-1), 1, (.int (-1)), 0),
  (85, .ireturn, 1, .null, 0)]
noncomputable def m_X11_state : ab_M := (c_X11_state, [(0, [0, 1]), (34, [0, 1, 2, 3]), (71, [0, 3]), (78, [0, 1, 2, 3])],
  [(27, 11, 6, 3), (57, 11, 18, 3), (63, 11, 20, 3), (72, 11, 23, 3), (183, 11, 17, 0)],
  [],
  [(159, 0, 1, g_X11_isDictionary), (165, 1, 1, g_X11_forget), (176, 1, 2, g_X11_build), (226, 1, 4, g_X11_isBeginning)],
  [], 4, 1)
theorem one_X11_state : ab_oneM m_X11_state := List.forall_mem_cons.mpr ⟨o_X11_isDictionary, List.forall_mem_cons.mpr ⟨o_X11_forget, List.forall_mem_cons.mpr ⟨o_X11_build, List.forall_mem_cons.mpr ⟨o_X11_isBeginning, fun _ h => absurd h List.not_mem_nil⟩⟩⟩⟩
noncomputable def f_X11_state (l0 : Nat) (l1 : Int32) (st : ab_S) : Option ab_R := ab_rc st l0 11 (ab_lim m_X11_state 0 [.ref l0, .int l1] [] st)
noncomputable def L_X11_state_34 (l0 : Nat) (l1 : Int32) (l2 : Int32) (l3 : Int32) (st : ab_S) : Option ab_R := ab_lim m_X11_state 34 [.ref l0, .int l1, .int l2, .int l3] [] st
noncomputable def L_X11_state_71 (l0 : Nat) (l3 : Int32) (st : ab_S) : Option ab_R := ab_lim m_X11_state 71 [.ref l0, .int l3] [] st
noncomputable def L_X11_state_78 (l0 : Nat) (l1 : Int32) (l2 : Int32) (l3 : Int32) (st : ab_S) : Option ab_R := ab_lim m_X11_state 78 [.ref l0, .int l1, .int l2, .int l3] [] st
noncomputable def g_X11_state : ab_G := fun as st k => match as with
  | [.ref a0, .int a1] => ab_ri (f_X11_state a0 a1 st) (fun x t => k [.int x] t)
  | _ => none
theorem o_X11_state : ab_one g_X11_state := by
  intro as st k r h
  unfold g_X11_state at h ⊢
  split at h
  · exact one_ri h
  · cases h
set_option maxRecDepth 100000 in
theorem e_X11_state_0 (l0 : Nat) (l1 : Int32) (st : ab_S) : f_X11_state l0 l1 st =
    ab_rc st l0 11 (
    ab_ri (f_X11_isDictionary l1 st) fun x2 s1 =>
    if x2 = 0
    then some (some (.int (-2 : Int32)), s1)
    else ab_ri (f_X11_forget l0 s1) fun x4 s3 =>
      Option.bind (ab_gR s3 l0 11 6) fun x5 =>
      Option.bind (ab_rB s3 x5 l1) fun x6 =>
      if x6 = 0
      then ab_rv (f_X11_build l0 l1 s3) fun s7 =>
        L_X11_state_34 l0 l1 x4 (0 : Int32) s7
      else some (some (.int (-4 : Int32)), s3)) := congrArg (ab_rc st l0 11) ((lm_eq one_X11_state 0 _ _ _).trans rfl)
set_option maxRecDepth 100000 in
theorem e_X11_state_34 (l0 : Nat) (l1 : Int32) (l2 : Int32) (l3 : Int32) (st : ab_S) : L_X11_state_34 l0 l1 l2 l3 st =
    Option.bind (ab_gI st l0 11 17) fun x1 =>
    if x1 ≤ l3
    then some (some (.int (-1 : Int32)), st)
    else Option.bind (ab_gR st l0 11 20) fun x2 =>
      Option.bind (ab_rI st x2 l3) fun x3 =>
      if x3 = l2
      then if l2 = 0
        then L_X11_state_71 l0 l3 st
        else Option.bind (ab_gR st l0 11 18) fun x4 =>
          Option.bind (ab_rI st x4 l3) fun x5 =>
          ab_ri (f_X11_isBeginning l0 l1 x5 l2 st) fun x7 s6 =>
          if x7 = 0
          then L_X11_state_78 l0 l1 l2 l3 s6
          else L_X11_state_71 l0 l3 s6
      else L_X11_state_78 l0 l1 l2 l3 st := (lm_eq one_X11_state 34 _ _ _).trans rfl
set_option maxRecDepth 100000 in
theorem e_X11_state_71 (l0 : Nat) (l3 : Int32) (st : ab_S) : L_X11_state_71 l0 l3 st =
    Option.bind (ab_gR st l0 11 23) fun x1 =>
    Option.bind (ab_rI st x1 l3) fun x2 =>
    some (some (.int x2), st) := (lm_eq one_X11_state 71 _ _ _).trans rfl
set_option maxRecDepth 100000 in
theorem e_X11_state_78 (l0 : Nat) (l1 : Int32) (l2 : Int32) (l3 : Int32) (st : ab_S) : L_X11_state_78 l0 l1 l2 l3 st =
    L_X11_state_34 l0 l1 l2 (l3 + (1 : Int32)) st := (lm_eq one_X11_state 78 _ _ _).trans rfl
def c_X7_longest : List (Nat × ab_I) := [(0, .iconst 0, 1, (.int (0)), 0),
  (1, .istore_n 1, 1, .null, 1),
  (2, .iconst 0, 1, (.int (0)), 0),
  (3, .istore_n 2, 1, .null, 2),
  (4, .iload_n 2, 1, .null, 2),
  (5, .aload_n 0, 1, .null, 0),
  (6, .getfield 22, 3, .null, 0),
  (9, .if_icmp .ge (19), 3, .null, 28),
  (12, .iload_n 1, 1, .null, 1),
  (13, .aload_n 0, 1, .null, 0),
  (14, .iload_n 2, 1, .null, 2),
  (15, .invokevirtual 30, 3, .null, 0),
  (18, .invokestatic 36, 3, .null, 0),
  (21, .istore_n 1, 1, .null, 1),
  (22, .iinc 2 (1), 3, (.int (1)), 2),
  (25, .goto (-21), 3, .null, 4),
  (28, .iload_n 1, 1, .null, 1),
  (29, .ireturn, 1, .null, 0)]
noncomputable def m_X7_longest : ab_M := (c_X7_longest, [(0, [0]), (4, [0, 1, 2])],
  [(22, 7, 3, 0)],
  [],
  [(30, 1, 2, g_X7_lengthAt), (36, 0, 2, g_max)],
  [], 3, 1)
theorem one_X7_longest : ab_oneM m_X7_longest := List.forall_mem_cons.mpr ⟨o_X7_lengthAt, List.forall_mem_cons.mpr ⟨o_max, fun _ h => absurd h List.not_mem_nil⟩⟩
noncomputable def f_X7_longest (l0 : Nat) (st : ab_S) : Option ab_R := ab_rc st l0 7 (ab_lim m_X7_longest 0 [.ref l0] [] st)
noncomputable def L_X7_longest_4 (l0 : Nat) (l1 : Int32) (l2 : Int32) (st : ab_S) : Option ab_R := ab_lim m_X7_longest 4 [.ref l0, .int l1, .int l2] [] st
noncomputable def g_X7_longest : ab_G := fun as st k => match as with
  | [.ref a0] => ab_ri (f_X7_longest a0 st) (fun x t => k [.int x] t)
  | _ => none
theorem o_X7_longest : ab_one g_X7_longest := by
  intro as st k r h
  unfold g_X7_longest at h ⊢
  split at h
  · exact one_ri h
  · cases h
set_option maxRecDepth 100000 in
theorem e_X7_longest_0 (l0 : Nat) (st : ab_S) : f_X7_longest l0 st =
    ab_rc st l0 7 (
    L_X7_longest_4 l0 (0 : Int32) (0 : Int32) st) := congrArg (ab_rc st l0 7) ((lm_eq one_X7_longest 0 _ _ _).trans rfl)
set_option maxRecDepth 100000 in
theorem e_X7_longest_4 (l0 : Nat) (l1 : Int32) (l2 : Int32) (st : ab_S) : L_X7_longest_4 l0 l1 l2 st =
    Option.bind (ab_gI st l0 7 3) fun x1 =>
    if x1 ≤ l2
    then some (some (.int l1), st)
    else ab_ri (f_X7_lengthAt l0 l2 st) fun x3 s2 =>
      L_X7_longest_4 l0 (if l1 < x3 then x3 else l1) (l2 + (1 : Int32)) s2 := (lm_eq one_X7_longest 4 _ _ _).trans rfl
def c_X10_count : List (Nat × ab_I) := [(0, .iload_n 1, 1, .null, 1),
  (1, .invokestatic 95, 3, .null, 0),
  (4, .ifCond .eq (13), 3, .null, 17),
  (7, .iload_n 2, 1, .null, 2),
  (8, .ifCond .lt (9), 3, .null, 17),
  (11, .iload_n 2, 1, .null, 2),
  (12, .bipush (6), 2, (.int (6)), 0),
  (14, .if_icmp .le (6), 3, .null, 20),
  (17, .bipush (-2), 2, (.int (-2)), 0),
  (19, .ireturn, 1, .null, 0),
  (20, .aload_n 0, 1, .null, 0),
  (21, .getfield 11, 3, .null, 0),
  (24, .iload_n 1, 1, .null, 1),
  (25, .aaload, 1, .null, 0),
  (26, .astore_n 3, 1, .null, 3),
  (27, .iload_n 2, 1, .null, 2),
  (28, .ifCond .ne (11), 3, .null, 39),
  (31, .aload_n 3, 1, .null, 3),
  (32, .getfield 99, 3, .null, 0),
  (35, .getfield 103, 3, .null, 0),
  (38, .ireturn, 1, .null, 0),
  (39, .iload_n 2, 1, .null, 2),
  (40, .iconst 1, 1, (.int (1)), 0),
  (41, .if_icmp .ne (16), 3, .null, 57),
  (44, .aload_n 3, 1, .null, 3),
  (45, .getfield 109, 3, .null, 0),
  (48, .ifCond .eq (7), 3, .null, 55),
  (51, .iconst 1, 1, (.int (1)), 0),
  (52, .goto (4), 3, .null, 56),
  (55, .iconst 0, 1, (.int (0)), 0),
  (56, .ireturn, 1, .null, 0),
  (57, .aload_n 3, 1, .null, 3),
  (58, .getfield 109, 3, .null, 0),
  (61, .ifCond .eq (6), 3, .null, 67),
  (64, .bipush (-4), 2, (.int (-4)), 0),
  (66, .ireturn, 1, .null, 0),
  (67, .iload_n 2, 1, .null, 2),
  (68, .tableswitch (64) (2) (5) #[32, 40, 48, 56], 32, .null, 0),
  (100, .aload_n 3, 1, .null, 3),
  (101, .getfield 130, 3, .null, 0),
  (104, .getfield 134, 3, .null, 0),
  (107, .ireturn, 1, .null, 0),
  (108, .aload_n 3, 1, .null, 3),
  (109, .getfield 130, 3, .null, 0),
  (112, .getfield 154, 3, .null, 0),
  (115, .ireturn, 1, .null, 0),
  (116, .aload_n 3, 1, .null, 3),
  (117, .getfield 130, 3, .null, 0),
  (120, .getfield 157, 3, .null, 0),
  (123, .ireturn, 1, .null, 0),
  (124, .aload_n 3, 1, .null, 3),
  (125, .getfield 99, 3, .null, 0),
  (128, .invokevirtual 160, 3, .null, 0),
  (131, .ireturn, 1, .null, 0),
  (132, .aload_n 3, 1, .null, 3),
  (133, .getfield 130, 3, .null, 0),
  (136, .getfield 164, 3, .null, 0),
  (139, .ireturn, 1, .null, 0)]
noncomputable def m_X10_count : ab_M := (c_X10_count, [(0, [0, 1, 2])],
  [(11, 10, 0, 3), (99, 0, 0, 3), (103, 7, 3, 0), (109, 0, 2, 1), (130, 0, 1, 3), (134, 1, 7, 0), (154, 1, 8, 0), (157, 1, 9, 0), (164, 1, 10, 0)],
  [],
  [(95, 0, 1, g_X10_isDictionary), (160, 1, 1, g_X7_longest)],
  [(68, [(2, 100), (3, 108), (4, 116), (5, 124)], 132)], 4, 1)
theorem one_X10_count : ab_oneM m_X10_count := List.forall_mem_cons.mpr ⟨o_X10_isDictionary, List.forall_mem_cons.mpr ⟨o_X7_longest, fun _ h => absurd h List.not_mem_nil⟩⟩
noncomputable def f_X10_count (l0 : Nat) (l1 : Int32) (l2 : Int32) (st : ab_S) : Option ab_R := ab_rc st l0 10 (ab_lim m_X10_count 0 [.ref l0, .int l1, .int l2] [] st)
noncomputable def g_X10_count : ab_G := fun as st k => match as with
  | [.ref a0, .int a1, .int a2] => ab_ri (f_X10_count a0 a1 a2 st) (fun x t => k [.int x] t)
  | _ => none
theorem o_X10_count : ab_one g_X10_count := by
  intro as st k r h
  unfold g_X10_count at h ⊢
  split at h
  · exact one_ri h
  · cases h
set_option maxRecDepth 100000 in
theorem e_X10_count_0 (l0 : Nat) (l1 : Int32) (l2 : Int32) (st : ab_S) : f_X10_count l0 l1 l2 st =
    ab_rc st l0 10 (
    ab_ri (f_X10_isDictionary l1 st) fun x2 s1 =>
    if x2 = 0
    then some (some (.int (-2 : Int32)), s1)
    else if l2 < 0
      then some (some (.int (-2 : Int32)), s1)
      else if l2 ≤ (6 : Int32)
        then Option.bind (ab_gR s1 l0 10 0) fun x3 =>
          Option.bind (ab_rR s1 x3 l1) fun x4 =>
          if l2 = 0
          then Option.bind (ab_gR s1 x4 0 0) fun x5 =>
            Option.bind (ab_gI s1 x5 7 3) fun x6 =>
            some (some (.int x6), s1)
          else if l2 = (1 : Int32)
            then Option.bind (ab_gI s1 x4 0 2) fun x7 =>
              if x7 = 0
              then some (some (.int (0 : Int32)), s1)
              else some (some (.int (1 : Int32)), s1)
            else Option.bind (ab_gI s1 x4 0 2) fun x8 =>
              if x8 = 0
              then if l2 = 2 then Option.bind (ab_gR s1 x4 0 1) fun x9 =>
                  Option.bind (ab_gI s1 x9 1 7) fun x10 =>
                  some (some (.int x10), s1)
                else if l2 = 3 then Option.bind (ab_gR s1 x4 0 1) fun x11 =>
                  Option.bind (ab_gI s1 x11 1 8) fun x12 =>
                  some (some (.int x12), s1)
                else if l2 = 4 then Option.bind (ab_gR s1 x4 0 1) fun x13 =>
                  Option.bind (ab_gI s1 x13 1 9) fun x14 =>
                  some (some (.int x14), s1)
                else if l2 = 5 then Option.bind (ab_gR s1 x4 0 0) fun x15 =>
                  ab_ri (f_X7_longest x15 s1) fun x17 s16 =>
                  some (some (.int x17), s16)
                else Option.bind (ab_gR s1 x4 0 1) fun x18 =>
                  Option.bind (ab_gI s1 x18 1 10) fun x19 =>
                  some (some (.int x19), s1)
              else some (some (.int (-4 : Int32)), s1)
        else some (some (.int (-2 : Int32)), s1)) := congrArg (ab_rc st l0 10) ((lm_eq one_X10_count 0 _ _ _).trans rfl)
