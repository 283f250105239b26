def c_X11_copy : List (Nat × ab_I) := [(0, .aload_n 0, 1, .null, 0),
  (1, .getfield 24, 3, .null, 0),
  (4, .iload_n 2, 1, .null, 2),
  (5, .aload_n 0, 1, .null, 0),
  (6, .getfield 24, 3, .null, 0),
  (9, .iload_n 1, 1, .null, 1),
  (10, .iaload, 1, .null, 0),
  (11, .iastore, 1, .null, 0),
  (12, .iconst 0, 1, (.int (0)), 0),
  (13, .istore_n 3, 1, .null, 3),
  (14, .iload_n 3, 1, .null, 3),
  (15, .sipush (2400), 3, (.int (2400)), 0),
  (18, .if_icmp .ge (33), 3, .null, 51),
  (21, .aload_n 0, 1, .null, 0),
  (22, .getfield 13, 3, .null, 0),
  (25, .sipush (2400), 3, (.int (2400)), 0),
  (28, .iload_n 2, 1, .null, 2),
  (29, .imul, 1, .null, 0),
  (30, .iload_n 3, 1, .null, 3),
  (31, .iadd, 1, .null, 0),
  (32, .aload_n 0, 1, .null, 0),
  (33, .getfield 13, 3, .null, 0),
  (36, .sipush (2400), 3, (.int (2400)), 0),
  (39, .iload_n 1, 1, .null, 1),
  (40, .imul, 1, .null, 0),
  (41, .iload_n 3, 1, .null, 3),
  (42, .iadd, 1, .null, 0),
  (43, .baload, 1, .null, 0),
  (44, .bastore, 1, .null, 0),
  (45, .iinc 3 (1), 3, (.int (1)), 3),
  (48, .goto (-34), 3, .null, 14),
  (51, .iconst 0, 1, (.int (0)), 0),
  (52, .istore_n 3, 1, .null, 3),
  (53, .iload_n 3, 1, .null, 3),
  (54, .sipush (200), 3, (.int (200)), 0),
  (57, .if_icmp .ge (57), 3, .null, 114),
  (60, .aload_n 0, 1, .null, 0),
  (61, .getfield 16, 3, .null, 0),
  (64, .sipush (200), 3, (.int (200)), 0),
  (67, .iload_n 2, 1, .null, 2),
  (68, .imul, 1, .null, 0),
  (69, .iload_n 3, 1, .null, 3),
  (70, .iadd, 1, .null, 0),
  (71, .aload_n 0, 1, .null, 0),
  (72, .getfield 16, 3, .null, 0),
  (75, .sipush (200), 3, (.int (200)), 0),
  (78, .iload_n 1, 1, .null, 1),
  (79, .imul, 1, .null, 0),
  (80, .iload_n 3, 1, .null, 3),
  (81, .iadd, 1, .null, 0),
  (82, .iaload, 1, .null, 0),
  (83, .iastore, 1, .null, 0),
  (84, .aload_n 0, 1, .null, 0),
  (85, .getfield 20, 3, .null, 0),
  (88, .sipush (200), 3, (.int (200)), 0),
  (91, .iload_n 2, 1, .null, 2),
  (92, .imul, 1, .null, 0),
  (93, .iload_n 3, 1, .null, 3),
  (94, .iadd, 1, .null, 0),
  (95, .aload_n 0, 1, .null, 0),
  (96, .getfield 20, 3, .null, 0),
  (99, .sipush (200), 3, (.int (200)), 0),
  (102, .iload_n 1, 1, .null, 1),
  (103, .imul, 1, .null, 0),
  (104, .iload_n 3, 1, .null, 3),
  (105, .iadd, 1, .null, 0),
  (106, .laload, 1, .null, 0),
  (107, .lastore, 1, .null, 0),
  (108, .iinc 3 (1), 3, (.int (1)), 3),
  (111, .goto (-58), 3, .null, 53),
  (114, .return_, 1, .null, 0)]
noncomputable def m_X11_copy : ab_M := (c_X11_copy, [(0, [0, 1, 2]), (14, [0, 1, 2, 3]), (53, [0, 1, 2, 3])],
  [(13, 11, 2, 3), (16, 11, 3, 3), (20, 11, 4, 3), (24, 11, 5, 3)],
  [],
  [],
  [], 4, 0)
theorem one_X11_copy : ab_oneM m_X11_copy := fun _ h => absurd h List.not_mem_nil
noncomputable def f_X11_copy (l0 : Nat) (l1 : Int32) (l2 : Int32) (st : ab_S) : Option ab_R := ab_rc st l0 11 (ab_lim m_X11_copy 0 [.ref l0, .int l1, .int l2] [] st)
noncomputable def L_X11_copy_14 (l0 : Nat) (l1 : Int32) (l2 : Int32) (l3 : Int32) (st : ab_S) : Option ab_R := ab_lim m_X11_copy 14 [.ref l0, .int l1, .int l2, .int l3] [] st
noncomputable def L_X11_copy_53 (l0 : Nat) (l1 : Int32) (l2 : Int32) (l3 : Int32) (st : ab_S) : Option ab_R := ab_lim m_X11_copy 53 [.ref l0, .int l1, .int l2, .int l3] [] st
noncomputable def g_X11_copy : ab_G := fun as st k => match as with
  | [.ref a0, .int a1, .int a2] => ab_rv (f_X11_copy a0 a1 a2 st) (fun t => k [] t)
  | _ => none
theorem o_X11_copy : ab_one g_X11_copy := by
  intro as st k r h
  unfold g_X11_copy at h ⊢
  split at h
  · exact one_rv h
  · cases h
set_option maxRecDepth 100000 in
theorem e_X11_copy_0 (l0 : Nat) (l1 : Int32) (l2 : Int32) (st : ab_S) : f_X11_copy l0 l1 l2 st =
    ab_rc st l0 11 (
    Option.bind (ab_gR st l0 11 5) fun x1 =>
    Option.bind (ab_gR st l0 11 5) fun x2 =>
    Option.bind (ab_rI st x2 l1) fun x3 =>
    Option.bind (ab_wI st x1 l2 x3) fun s4 =>
    L_X11_copy_14 l0 l1 l2 (0 : Int32) s4) := congrArg (ab_rc st l0 11) ((lm_eq one_X11_copy 0 _ _ _).trans rfl)
set_option maxRecDepth 100000 in
theorem e_X11_copy_14 (l0 : Nat) (l1 : Int32) (l2 : Int32) (l3 : Int32) (st : ab_S) : L_X11_copy_14 l0 l1 l2 l3 st =
    if (2400 : Int32) ≤ l3
    then L_X11_copy_53 l0 l1 l2 (0 : Int32) st
    else Option.bind (ab_gR st l0 11 2) fun x1 =>
      Option.bind (ab_gR st l0 11 2) fun x2 =>
      Option.bind (ab_rB st x2 (((2400 : Int32) * l1) + l3)) fun x3 =>
      Option.bind (ab_wB st x1 (((2400 : Int32) * l2) + l3) x3) fun s4 =>
      L_X11_copy_14 l0 l1 l2 (l3 + (1 : Int32)) s4 := (lm_eq one_X11_copy 14 _ _ _).trans rfl
set_option maxRecDepth 100000 in
theorem e_X11_copy_53 (l0 : Nat) (l1 : Int32) (l2 : Int32) (l3 : Int32) (st : ab_S) : L_X11_copy_53 l0 l1 l2 l3 st =
    if (200 : Int32) ≤ l3
    then some (none, st)
    else Option.bind (ab_gR st l0 11 3) fun x1 =>
      Option.bind (ab_gR st l0 11 3) fun x2 =>
      Option.bind (ab_rI st x2 (((200 : Int32) * l1) + l3)) fun x3 =>
      Option.bind (ab_wI st x1 (((200 : Int32) * l2) + l3) x3) fun s4 =>
      Option.bind (ab_gR s4 l0 11 4) fun x5 =>
      Option.bind (ab_gR s4 l0 11 4) fun x6 =>
      Option.bind (ab_rJ s4 x6 (((200 : Int32) * l1) + l3)) fun x7 =>
      Option.bind (ab_wJ s4 x5 (((200 : Int32) * l2) + l3) x7) fun s8 =>
      L_X11_copy_53 l0 l1 l2 (l3 + (1 : Int32)) s8 := (lm_eq one_X11_copy 53 _ _ _).trans rfl
def c_X11_come : List (Nat × ab_I) := [(0, .aload_n 0, 1, .null, 0),
  (1, .iconst 4, 1, (.int (4)), 0),
  (2, .iload_n 1, 1, .null, 1),
  (3, .invokevirtual 338, 3, .null, 0),
  (6, .aload_n 0, 1, .null, 0),
  (7, .getfield 27, 3, .null, 0),
  (10, .iload_n 1, 1, .null, 1),
  (11, .iconst 0, 1, (.int (0)), 0),
  (12, .bastore, 1, .null, 0),
  (13, .aload_n 0, 1, .null, 0),
  (14, .getfield 31, 3, .null, 0),
  (17, .iload_n 1, 1, .null, 1),
  (18, .dup2, 1, .null, 0),
  (19, .iaload, 1, .null, 0),
  (20, .iconst 1, 1, (.int (1)), 0),
  (21, .iadd, 1, .null, 0),
  (22, .iastore, 1, .null, 0),
  (23, .return_, 1, .null, 0)]
noncomputable def m_X11_come : ab_M := (c_X11_come, [(0, [0, 1])],
  [(27, 11, 6, 3), (31, 11, 7, 3)],
  [],
  [(338, 1, 3, g_X11_copy)],
  [], 2, 0)
theorem one_X11_come : ab_oneM m_X11_come := List.forall_mem_cons.mpr ⟨o_X11_copy, fun _ h => absurd h List.not_mem_nil⟩
noncomputable def f_X11_come (l0 : Nat) (l1 : Int32) (st : ab_S) : Option ab_R := ab_rc st l0 11 (ab_lim m_X11_come 0 [.ref l0, .int l1] [] st)
noncomputable def g_X11_come : ab_G := fun as st k => match as with
  | [.ref a0, .int a1] => ab_rv (f_X11_come a0 a1 st) (fun t => k [] t)
  | _ => none
theorem o_X11_come : ab_one g_X11_come := by
  intro as st k r h
  unfold g_X11_come at h ⊢
  split at h
  · exact one_rv h
  · cases h
set_option maxRecDepth 100000 in
theorem e_X11_come_0 (l0 : Nat) (l1 : Int32) (st : ab_S) : f_X11_come l0 l1 st =
    ab_rc st l0 11 (
    ab_rv (f_X11_copy l0 (4 : Int32) l1 st) fun s1 =>
    Option.bind (ab_gR s1 l0 11 6) fun x2 =>
    Option.bind (ab_wB s1 x2 l1 (0 : Int32)) fun s3 =>
    Option.bind (ab_gR s3 l0 11 7) fun x4 =>
    Option.bind (ab_rI s3 x4 l1) fun x5 =>
    Option.bind (ab_wI s3 x4 l1 (x5 + (1 : Int32))) fun s6 =>
    some (none, s6)) := congrArg (ab_rc st l0 11) ((lm_eq one_X11_come 0 _ _ _).trans rfl)
def c_X11_join : List (Nat × ab_I) := [(0, .iload_n 1, 1, .null, 1),
  (1, .invokestatic 159, 3, .null, 0),
  (4, .ifCond .eq (30), 3, .null, 34),
  (7, .iload_n 2, 1, .null, 2),
  (8, .invokestatic 159, 3, .null, 0),
  (11, .ifCond .eq (23), 3, .null, 34),
  (14, .iload_n 3, 1, .null, 3),
  (15, .invokestatic 159, 3, .null, 0),
  (18, .ifCond .eq (16), 3, .null, 34),
  (21, .iload 4, 2, .null, 4),
  (23, .i2l, 1, .null, 0),
  (24, .lconst 0, 1, (.long (0)), 0),
  (25, .ldc2_w 157, 3, (.long (3)), 0),
  (28, .invokestatic 146, 3, .null, 0),
  (31, .ifCond .ne (6), 3, .null, 37),
  (34, .bipush (-2), 2, (.int (-2)), 0),
  (36, .ireturn, 1, .null, 0),
  (37, .aload_n 0, 1, .null, 0),
  (38, .getfield 27, 3, .null, 0),
  (41, .iload_n 1, 1, .null, 1),
  (42, .baload, 1, .null, 0),
  (43, .ifCond .ne (12), 3, .null, 55),
  (46, .aload_n 0, 1, .null, 0),
  (47, .getfield 27, 3, .null, 0),
  (50, .iload_n 2, 1, .null, 2),
  (51, .baload, 1, .null, 0),
  (52, .ifCond .eq (6), 3, .null, 58),
  (55, .bipush (-4), 2, (.int (-4)), 0),
  (57, .ireturn, 1, .null, 0),
  (58, .iconst 0, 1, (.int (0)), 0),
  (59, .istore 5, 2, .null, 5),
  (61, .iconst 0, 1, (.int (0)), 0),
  (62, .istore 6, 2, .null, 6),
  (64, .iconst 0, 1, (.int (0)), 0),
  (65, .istore 7, 2, .null, 7),
  (67, .iconst 0, 1, (.int (0)), 0),
  (68, .istore 8, 2, .null, 8),
  (70, .aload_n 0, 1, .null, 0),
  (71, .getfield 24, 3, .null, 0),
  (74, .iconst 4, 1, (.int (4)), 0),
  (75, .iconst 0, 1, (.int (0)), 0),
  (76, .iastore, 1, .null, 0),
  (77, .iload 5, 2, .null, 5),
  (79, .aload_n 0, 1, .null, 0),
  (80, .getfield 24, 3, .null, 0),
  (83, .iload_n 1, 1, .null, 1),
  (84, .iaload, 1, .null, 0),
  (85, .if_icmp .lt (14), 3, .null, 99),
  (88, .iload 6, 2, .null, 6),
  (90, .aload_n 0, 1, .null, 0),
  (91, .getfield 24, 3, .null, 0),
  (94, .iload_n 2, 1, .null, 2),
  (95, .iaload, 1, .null, 0),
  (96, .if_icmp .ge (328), 3, .null, 424),
  (99, .iload 5, 2, .null, 5),
  (101, .aload_n 0, 1, .null, 0),
  (102, .getfield 24, 3, .null, 0),
  (105, .iload_n 1, 1, .null, 1),
  (106, .iaload, 1, .null, 0),
  (107, .if_icmp .ne (7), 3, .null, 114),
  (110, .iconst 1, 1, (.int (1)), 0),
  (111, .goto (28), 3, .null, 139),
  (114, .iload 6, 2, .null, 6),
  (116, .aload_n 0, 1, .null, 0),
  (117, .getfield 24, 3, .null, 0),
  (120, .iload_n 2, 1, .null, 2),
  (121, .iaload, 1, .null, 0),
  (122, .if_icmp .ne (7), 3, .null, 129),
  (125, .iconst (-1), 1, (.int (-1)), 0),
  (126, .goto (13), 3, .null, 139),
  (129, .aload_n 0, 1, .null, 0),
  (130, .iload_n 1, 1, .null, 1),
  (131, .iload 5, 2, .null, 5),
  (133, .iload_n 2, 1, .null, 2),
  (134, .iload 6, 2, .null, 6),
  (136, .invokevirtual 331, 3, .null, 0),
  (139, .istore 9, 2, .null, 9),
  (141, .iload 9, 2, .null, 9),
  (143, .ifCond .ne (17), 3, .null, 160),
  (146, .iload 4, 2, .null, 4),
  (148, .iconst 2, 1, (.int (2)), 0),
  (149, .if_icmp .ge (7), 3, .null, 156),
  (152, .iconst 1, 1, (.int (1)), 0),
  (153, .goto (42), 3, .null, 195),
  (156, .iconst 0, 1, (.int (0)), 0),
  (157, .goto (38), 3, .null, 195),
  (160, .iload 9, 2, .null, 9),
  (162, .ifCond .ge (17), 3, .null, 179),
  (165, .iload 4, 2, .null, 4),
  (167, .iconst 1, 1, (.int (1)), 0),
  (168, .if_icmp .eq (7), 3, .null, 175),
  (171, .iconst 1, 1, (.int (1)), 0),
  (172, .goto (23), 3, .null, 195),
  (175, .iconst 0, 1, (.int (0)), 0),
  (176, .goto (19), 3, .null, 195),
  (179, .iload 4, 2, .null, 4),
  (181, .ifCond .eq (9), 3, .null, 190),
  (184, .iload 4, 2, .null, 4),
  (186, .iconst 3, 1, (.int (3)), 0),
  (187, .if_icmp .ne (7), 3, .null, 194),
  (190, .iconst 1, 1, (.int (1)), 0),
  (191, .goto (4), 3, .null, 195),
  (194, .iconst 0, 1, (.int (0)), 0),
  (195, .istore 10, 2, .null, 10),
  (197, .iload 10, 2, .null, 10),
  (199, .ifCond .eq (192), 3, .null, 391),
  (202, .iload 9, 2, .null, 9),
  (204, .ifCond .ge (19), 3, .null, 223),
  (207, .aload_n 0, 1, .null, 0),
  (208, .getfield 20, 3, .null, 0),
  (211, .sipush (200), 3, (.int (200)), 0),
  (214, .iload_n 1, 1, .null, 1),
  (215, .imul, 1, .null, 0),
  (216, .iload 5, 2, .null, 5),
  (218, .iadd, 1, .null, 0),
  (219, .laload, 1, .null, 0),
  (220, .goto (88), 3, .null, 308),
  (223, .iload 9, 2, .null, 9),
  (225, .ifCond .le (19), 3, .null, 244),
  (228, .aload_n 0, 1, .null, 0),
  (229, .getfield 20, 3, .null, 0),
  (232, .sipush (200), 3, (.int (200)), 0),
  (235, .iload_n 2, 1, .null, 2),
  (236, .imul, 1, .null, 0),
  (237, .iload 6, 2, .null, 6),
  (239, .iadd, 1, .null, 0),
  (240, .laload, 1, .null, 0),
  (241, .goto (67), 3, .null, 308),
  (244, .iload 4, 2, .null, 4),
  (246, .ifCond .ne (35), 3, .null, 281),
  (249, .aload_n 0, 1, .null, 0),
  (250, .getfield 20, 3, .null, 0),
  (253, .sipush (200), 3, (.int (200)), 0),
  (256, .iload_n 1, 1, .null, 1),
  (257, .imul, 1, .null, 0),
  (258, .iload 5, 2, .null, 5),
  (260, .iadd, 1, .null, 0),
  (261, .laload, 1, .null, 0),
  (262, .aload_n 0, 1, .null, 0),
  (263, .getfield 20, 3, .null, 0),
  (266, .sipush (200), 3, (.int (200)), 0),
  (269, .iload_n 2, 1, .null, 2),
  (270, .imul, 1, .null, 0),
  (271, .iload 6, 2, .null, 6),
  (273, .iadd, 1, .null, 0),
  (274, .laload, 1, .null, 0),
  (275, .invokestatic 198, 3, .null, 0),
  (278, .goto (30), 3, .null, 308),
  (281, .aload_n 0, 1, .null, 0),
  (282, .getfield 20, 3, .null, 0),
  (285, .sipush (200), 3, (.int (200)), 0),
  (288, .iload_n 1, 1, .null, 1),
  (289, .imul, 1, .null, 0),
  (290, .iload 5, 2, .null, 5),
  (292, .iadd, 1, .null, 0),
  (293, .laload, 1, .null, 0),
  (294, .aload_n 0, 1, .null, 0),
  (295, .getfield 20, 3, .null, 0),
  (298, .sipush (200), 3, (.int (200)), 0),
  (301, .iload_n 2, 1, .null, 2),
  (302, .imul, 1, .null, 0),
  (303, .iload 6, 2, .null, 6),
  (305, .iadd, 1, .null, 0),
  (306, .laload, 1, .null, 0),
  (307, .ladd, 1, .null, 0),
  (308, .lstore 11, 2, .null, 11),
  (310, .iload 8, 2, .null, 8),
  (312, .ifCond .ne (12), 3, .null, 324),
  (315, .lload 11, 2, .null, 11),
  (317, .ldc2_w 163, 3, (.long (1000000000000)), 0),
  (320, .lcmp, 1, .null, 0),
  (321, .ifCond .le (7), 3, .null, 328),
  (324, .iconst 1, 1, (.int (1)), 0),
  (325, .goto (4), 3, .null, 329),
  (328, .iconst 0, 1, (.int (0)), 0),
  (329, .istore 8, 2, .null, 8),
  (331, .iload 9, 2, .null, 9),
  (333, .ifCond .le (14), 3, .null, 347),
  (336, .sipush (200), 3, (.int (200)), 0),
  (339, .iload_n 2, 1, .null, 2),
  (340, .imul, 1, .null, 0),
  (341, .iload 6, 2, .null, 6),
  (343, .iadd, 1, .null, 0),
  (344, .goto (11), 3, .null, 355),
  (347, .sipush (200), 3, (.int (200)), 0),
  (350, .iload_n 1, 1, .null, 1),
  (351, .imul, 1, .null, 0),
  (352, .iload 5, 2, .null, 5),
  (354, .iadd, 1, .null, 0),
  (355, .istore 13, 2, .null, 13),
  (357, .iload 7, 2, .null, 7),
  (359, .sipush (200), 3, (.int (200)), 0),
  (362, .if_icmp .ge (26), 3, .null, 388),
  (365, .aload_n 0, 1, .null, 0),
  (366, .iconst 4, 1, (.int (4)), 0),
  (367, .aload_n 0, 1, .null, 0),
  (368, .getfield 13, 3, .null, 0),
  (371, .bipush (12), 2, (.int (12)), 0),
  (373, .iload 13, 2, .null, 13),
  (375, .imul, 1, .null, 0),
  (376, .aload_n 0, 1, .null, 0),
  (377, .getfield 16, 3, .null, 0),
  (380, .iload 13, 2, .null, 13),
  (382, .iaload, 1, .null, 0),
  (383, .lload 11, 2, .null, 11),
  (385, .invokevirtual 172, 3, .null, 0),
  (388, .iinc 7 (1), 3, (.int (1)), 7),
  (391, .iload 5, 2, .null, 5),
  (393, .iload 9, 2, .null, 9),
  (395, .ifCond .gt (7), 3, .null, 402),
  (398, .iconst 1, 1, (.int (1)), 0),
  (399, .goto (4), 3, .null, 403),
  (402, .iconst 0, 1, (.int (0)), 0),
  (403, .iadd, 1, .null, 0),
  (404, .istore 5, 2, .null, 5),
  (406, .iload 6, 2, .null, 6),
  (408, .iload 9, 2, .null, 9),
  (410, .ifCond .lt (7), 3, .null, 417),
  (413, .iconst 1, 1, (.int (1)), 0),
  (414, .goto (4), 3, .null, 418),
  (417, .iconst 0, 1, (.int (0)), 0),
  (418, .iadd, 1, .null, 0),
  (419, .istore 6, 2, .null, 6),
  (421, .goto (-344), 3, .null, 77),
  (424, .iload 7, 2, .null, 7),
  (426, .sipush (200), 3, (.int (200)), 0),
  (429, .if_icmp .le (6), 3, .null, 435),
  (432, .bipush (-3), 2, (.int (-3)), 0),
  (434, .ireturn, 1, .null, 0),
  (435, .iload 8, 2, .null, 8),
  (437, .ifCond .eq (6), 3, .null, 443),
  (440, .bipush (-6), 2, (.int (-6)), 0),
  (442, .ireturn, 1, .null, 0),
  (443, .aload_n 0, 1, .null, 0),
  (444, .iload_n 3, 1, .null, 3),
  (445, .invokevirtual 335, 3, .null, 0),
  (448, .iload 7, 2, .null, 7),
  (450, .ireturn, 1, .null, 0)]
noncomputable def m_X11_join : ab_M := (c_X11_join, [(0, [0, 1, 2, 3, 4]), (77, [0, 1, 2, 3, 4, 5, 6, 7, 8]), (99, [0, 1, 2, 3, 4, 5, 6, 7, 8]), (139, [0, 1, 2, 3, 4, 5, 6, 7, 8]), (190, [0, 1, 2, 3, 4, 5, 6, 7, 8, 9]), (195, [0, 1, 2, 3, 4, 5, 6, 7, 8, 9]), (308, [0, 1, 2, 3, 4, 5, 6, 7, 8, 9]), (324, [0, 1, 2, 3, 4, 5, 6, 7, 9, 11]), (329, [0, 1, 2, 3, 4, 5, 6, 7, 9, 11]), (355, [0, 1, 2, 3, 4, 5, 6, 7, 8, 9, 11]), (388, [0, 1, 2, 3, 4, 5, 6, 7, 8, 9]), (391, [0, 1, 2, 3, 4, 5, 6, 7, 8, 9]), (403, [0, 1, 2, 3, 4, 6, 7, 8, 9]), (418, [0, 1, 2, 3, 4, 5, 7, 8])],
  [(13, 11, 2, 3), (16, 11, 3, 3), (20, 11, 4, 3), (24, 11, 5, 3), (27, 11, 6, 3)],
  [],
  [(146, 0, 3, g_X11_isIn), (159, 0, 1, g_X11_isDictionary), (172, 1, 6, g_X11_append), (198, 0, 2, g_X11_lesser), (331, 1, 5, g_X11_compareTerms), (335, 1, 2, g_X11_come)],
  [], 14, 1)
theorem one_X11_join : ab_oneM m_X11_join := List.forall_mem_cons.mpr ⟨o_X11_isIn, List.forall_mem_cons.mpr ⟨o_X11_isDictionary, List.forall_mem_cons.mpr ⟨o_X11_append, List.forall_mem_cons.mpr ⟨o_X11_lesser, List.forall_mem_cons.mpr ⟨o_X11_compareTerms, List.forall_mem_cons.mpr ⟨o_X11_come, fun _ h => absurd h List.not_mem_nil⟩⟩⟩⟩⟩⟩
noncomputable def f_X11_join (l0 : Nat) (l1 : Int32) (l2 : Int32) (l3 : Int32) (l4 : Int32) (st : ab_S) : Option ab_R := ab_rc st l0 11 (ab_lim m_X11_join 0 [.ref l0, .int l1, .int l2, .int l3, .int l4] [] st)
noncomputable def L_X11_join_77 (l0 : Nat) (l1 : Int32) (l2 : Int32) (l3 : Int32) (l4 : Int32) (l5 : Int32) (l6 : Int32) (l7 : Int32) (l8 : Int32) (st : ab_S) : Option ab_R := ab_lim m_X11_join 77 [.ref l0, .int l1, .int l2, .int l3, .int l4, .int l5, .int l6, .int l7, .int l8] [] st
noncomputable def L_X11_join_99 (l0 : Nat) (l1 : Int32) (l2 : Int32) (l3 : Int32) (l4 : Int32) (l5 : Int32) (l6 : Int32) (l7 : Int32) (l8 : Int32) (st : ab_S) : Option ab_R := ab_lim m_X11_join 99 [.ref l0, .int l1, .int l2, .int l3, .int l4, .int l5, .int l6, .int l7, .int l8] [] st
noncomputable def L_X11_join_139 (l0 : Nat) (l1 : Int32) (l2 : Int32) (l3 : Int32) (l4 : Int32) (l5 : Int32) (l6 : Int32) (l7 : Int32) (l8 : Int32) (t0 : Int32) (st : ab_S) : Option ab_R := ab_lim m_X11_join 139 [.ref l0, .int l1, .int l2, .int l3, .int l4, .int l5, .int l6, .int l7, .int l8] [.int t0] st
noncomputable def L_X11_join_190 (l0 : Nat) (l1 : Int32) (l2 : Int32) (l3 : Int32) (l4 : Int32) (l5 : Int32) (l6 : Int32) (l7 : Int32) (l8 : Int32) (l9 : Int32) (st : ab_S) : Option ab_R := ab_lim m_X11_join 190 [.ref l0, .int l1, .int l2, .int l3, .int l4, .int l5, .int l6, .int l7, .int l8, .int l9] [] st
noncomputable def L_X11_join_195 (l0 : Nat) (l1 : Int32) (l2 : Int32) (l3 : Int32) (l4 : Int32) (l5 : Int32) (l6 : Int32) (l7 : Int32) (l8 : Int32) (l9 : Int32) (t0 : Int32) (st : ab_S) : Option ab_R := ab_lim m_X11_join 195 [.ref l0, .int l1, .int l2, .int l3, .int l4, .int l5, .int l6, .int l7, .int l8, .int l9] [.int t0] st
noncomputable def L_X11_join_308 (l0 : Nat) (l1 : Int32) (l2 : Int32) (l3 : Int32) (l4 : Int32) (l5 : Int32) (l6 : Int32) (l7 : Int32) (l8 : Int32) (l9 : Int32) (t0 : Int64) (st : ab_S) : Option ab_R := ab_lim m_X11_join 308 [.ref l0, .int l1, .int l2, .int l3, .int l4, .int l5, .int l6, .int l7, .int l8, .int l9] [.long t0] st
noncomputable def L_X11_join_324 (l0 : Nat) (l1 : Int32) (l2 : Int32) (l3 : Int32) (l4 : Int32) (l5 : Int32) (l6 : Int32) (l7 : Int32) (l9 : Int32) (l11 : Int64) (st : ab_S) : Option ab_R := ab_lim m_X11_join 324 [.ref l0, .int l1, .int l2, .int l3, .int l4, .int l5, .int l6, .int l7, .int l9, .long l11] [] st
noncomputable def L_X11_join_329 (l0 : Nat) (l1 : Int32) (l2 : Int32) (l3 : Int32) (l4 : Int32) (l5 : Int32) (l6 : Int32) (l7 : Int32) (l9 : Int32) (l11 : Int64) (t0 : Int32) (st : ab_S) : Option ab_R := ab_lim m_X11_join 329 [.ref l0, .int l1, .int l2, .int l3, .int l4, .int l5, .int l6, .int l7, .int l9, .long l11] [.int t0] st
noncomputable def L_X11_join_355 (l0 : Nat) (l1 : Int32) (l2 : Int32) (l3 : Int32) (l4 : Int32) (l5 : Int32) (l6 : Int32) (l7 : Int32) (l8 : Int32) (l9 : Int32) (l11 : Int64) (t0 : Int32) (st : ab_S) : Option ab_R := ab_lim m_X11_join 355 [.ref l0, .int l1, .int l2, .int l3, .int l4, .int l5, .int l6, .int l7, .int l8, .int l9, .long l11] [.int t0] st
noncomputable def L_X11_join_388 (l0 : Nat) (l1 : Int32) (l2 : Int32) (l3 : Int32) (l4 : Int32) (l5 : Int32) (l6 : Int32) (l7 : Int32) (l8 : Int32) (l9 : Int32) (st : ab_S) : Option ab_R := ab_lim m_X11_join 388 [.ref l0, .int l1, .int l2, .int l3, .int l4, .int l5, .int l6, .int l7, .int l8, .int l9] [] st
noncomputable def L_X11_join_391 (l0 : Nat) (l1 : Int32) (l2 : Int32) (l3 : Int32) (l4 : Int32) (l5 : Int32) (l6 : Int32) (l7 : Int32) (l8 : Int32) (l9 : Int32) (st : ab_S) : Option ab_R := ab_lim m_X11_join 391 [.ref l0, .int l1, .int l2, .int l3, .int l4, .int l5, .int l6, .int l7, .int l8, .int l9] [] st
noncomputable def L_X11_join_403 (l0 : Nat) (l1 : Int32) (l2 : Int32) (l3 : Int32) (l4 : Int32) (l6 : Int32) (l7 : Int32) (l8 : Int32) (l9 : Int32) (t0 : Int32) (t1 : Int32) (st : ab_S) : Option ab_R := ab_lim m_X11_join 403 [.ref l0, .int l1, .int l2, .int l3, .int l4, .int l6, .int l7, .int l8, .int l9] [.int t1, .int t0] st
noncomputable def L_X11_join_418 (l0 : Nat) (l1 : Int32) (l2 : Int32) (l3 : Int32) (l4 : Int32) (l5 : Int32) (l7 : Int32) (l8 : Int32) (t0 : Int32) (t1 : Int32) (st : ab_S) : Option ab_R := ab_lim m_X11_join 418 [.ref l0, .int l1, .int l2, .int l3, .int l4, .int l5, .int l7, .int l8] [.int t1, .int t0] st
noncomputable def g_X11_join : ab_G := fun as st k => match as with
  | [.ref a0, .int a1, .int a2, .int a3, .int a4] => ab_ri (f_X11_join a0 a1 a2 a3 a4 st) (fun x t => k [.int x] t)
  | _ => none
theorem o_X11_join : ab_one g_X11_join := by
  intro as st k r h
  unfold g_X11_join at h ⊢
  split at h
  · exact one_ri h
  · cases h
set_option maxRecDepth 100000 in
theorem e_X11_join_0 (l0 : Nat) (l1 : Int32) (l2 : Int32) (l3 : Int32) (l4 : Int32) (st : ab_S) : f_X11_join l0 l1 l2 l3 l4 st =
    ab_rc st l0 11 (
    ab_ri (f_X11_isDictionary l1 st) fun x2 s1 =>
    if x2 = 0
    then some (some (.int (-2 : Int32)), s1)
    else ab_ri (f_X11_isDictionary l2 s1) fun x4 s3 =>
      if x4 = 0
      then some (some (.int (-2 : Int32)), s3)
      else ab_ri (f_X11_isDictionary l3 s3) fun x6 s5 =>
        if x6 = 0
        then some (some (.int (-2 : Int32)), s5)
        else ab_ri (f_X11_isIn l4.toInt64 (0 : Int64) (3 : Int64) s5) fun x8 s7 =>
          if x8 = 0
          then some (some (.int (-2 : Int32)), s7)
          else Option.bind (ab_gR s7 l0 11 6) fun x9 =>
            Option.bind (ab_rB s7 x9 l1) fun x10 =>
            if x10 = 0
            then Option.bind (ab_gR s7 l0 11 6) fun x11 =>
              Option.bind (ab_rB s7 x11 l2) fun x12 =>
              if x12 = 0
              then Option.bind (ab_gR s7 l0 11 5) fun x13 =>
                Option.bind (ab_wI s7 x13 (4 : Int32) (0 : Int32)) fun s14 =>
                L_X11_join_77 l0 l1 l2 l3 l4 (0 : Int32) (0 : Int32) (0 : Int32) (0 : Int32) s14
              else some (some (.int (-4 : Int32)), s7)
            else some (some (.int (-4 : Int32)), s7)) := congrArg (ab_rc st l0 11) ((lm_eq one_X11_join 0 _ _ _).trans rfl)
set_option maxRecDepth 100000 in
theorem e_X11_join_77 (l0 : Nat) (l1 : Int32) (l2 : Int32) (l3 : Int32) (l4 : Int32) (l5 : Int32) (l6 : Int32) (l7 : Int32) (l8 : Int32) (st : ab_S) : L_X11_join_77 l0 l1 l2 l3 l4 l5 l6 l7 l8 st =
    Option.bind (ab_gR st l0 11 5) fun x1 =>
    Option.bind (ab_rI st x1 l1) fun x2 =>
    if l5 < x2
    then L_X11_join_99 l0 l1 l2 l3 l4 l5 l6 l7 l8 st
    else Option.bind (ab_gR st l0 11 5) fun x3 =>
      Option.bind (ab_rI st x3 l2) fun x4 =>
      if x4 ≤ l6
      then if l7 ≤ (200 : Int32)
        then if l8 = 0
          then ab_rv (f_X11_come l0 l3 st) fun s5 =>
            some (some (.int l7), s5)
          else some (some (.int (-6 : Int32)), st)
        else some (some (.int (-3 : Int32)), st)
      else L_X11_join_99 l0 l1 l2 l3 l4 l5 l6 l7 l8 st := (lm_eq one_X11_join 77 _ _ _).trans rfl
set_option maxRecDepth 100000 in
theorem e_X11_join_99 (l0 : Nat) (l1 : Int32) (l2 : Int32) (l3 : Int32) (l4 : Int32) (l5 : Int32) (l6 : Int32) (l7 : Int32) (l8 : Int32) (st : ab_S) : L_X11_join_99 l0 l1 l2 l3 l4 l5 l6 l7 l8 st =
    Option.bind (ab_gR st l0 11 5) fun x1 =>
    Option.bind (ab_rI st x1 l1) fun x2 =>
    if l5 = x2
    then L_X11_join_139 l0 l1 l2 l3 l4 l5 l6 l7 l8 (1 : Int32) st
    else Option.bind (ab_gR st l0 11 5) fun x3 =>
      Option.bind (ab_rI st x3 l2) fun x4 =>
      if l6 = x4
      then L_X11_join_139 l0 l1 l2 l3 l4 l5 l6 l7 l8 (-1 : Int32) st
      else ab_ri (f_X11_compareTerms l0 l1 l5 l2 l6 st) fun x6 s5 =>
        L_X11_join_139 l0 l1 l2 l3 l4 l5 l6 l7 l8 x6 s5 := (lm_eq one_X11_join 99 _ _ _).trans rfl
set_option maxRecDepth 100000 in
theorem e_X11_join_139 (l0 : Nat) (l1 : Int32) (l2 : Int32) (l3 : Int32) (l4 : Int32) (l5 : Int32) (l6 : Int32) (l7 : Int32) (l8 : Int32) (t0 : Int32) (st : ab_S) : L_X11_join_139 l0 l1 l2 l3 l4 l5 l6 l7 l8 t0 st =
    if t0 = 0
    then if (2 : Int32) ≤ l4
      then L_X11_join_195 l0 l1 l2 l3 l4 l5 l6 l7 l8 t0 (0 : Int32) st
      else L_X11_join_195 l0 l1 l2 l3 l4 l5 l6 l7 l8 t0 (1 : Int32) st
    else if 0 ≤ t0
      then if l4 = 0
        then L_X11_join_190 l0 l1 l2 l3 l4 l5 l6 l7 l8 t0 st
        else if l4 = (3 : Int32)
          then L_X11_join_190 l0 l1 l2 l3 l4 l5 l6 l7 l8 t0 st
          else L_X11_join_195 l0 l1 l2 l3 l4 l5 l6 l7 l8 t0 (0 : Int32) st
      else if l4 = (1 : Int32)
        then L_X11_join_195 l0 l1 l2 l3 l4 l5 l6 l7 l8 t0 (0 : Int32) st
        else L_X11_join_195 l0 l1 l2 l3 l4 l5 l6 l7 l8 t0 (1 : Int32) st := (lm_eq one_X11_join 139 _ _ _).trans rfl
set_option maxRecDepth 100000 in
theorem e_X11_join_190 (l0 : Nat) (l1 : Int32) (l2 : Int32) (l3 : Int32) (l4 : Int32) (l5 : Int32) (l6 : Int32) (l7 : Int32) (l8 : Int32) (l9 : Int32) (st : ab_S) : L_X11_join_190 l0 l1 l2 l3 l4 l5 l6 l7 l8 l9 st =
    L_X11_join_195 l0 l1 l2 l3 l4 l5 l6 l7 l8 l9 (1 : Int32) st := (lm_eq one_X11_join 190 _ _ _).trans rfl
set_option maxRecDepth 100000 in
theorem e_X11_join_195 (l0 : Nat) (l1 : Int32) (l2 : Int32) (l3 : Int32) (l4 : Int32) (l5 : Int32) (l6 : Int32) (l7 : Int32) (l8 : Int32) (l9 : Int32) (t0 : Int32) (st : ab_S) : L_X11_join_195 l0 l1 l2 l3 l4 l5 l6 l7 l8 l9 t0 st =
    if t0 = 0
    then L_X11_join_391 l0 l1 l2 l3 l4 l5 l6 l7 l8 l9 st
    else if 0 ≤ l9
      then if l9 ≤ 0
        then if l4 = 0
          then Option.bind (ab_gR st l0 11 4) fun x1 =>
            Option.bind (ab_rJ st x1 (((200 : Int32) * l1) + l5)) fun x2 =>
            Option.bind (ab_gR st l0 11 4) fun x3 =>
            Option.bind (ab_rJ st x3 (((200 : Int32) * l2) + l6)) fun x4 =>
            ab_rl (f_X11_lesser x2 x4 st) fun x6 s5 =>
            L_X11_join_308 l0 l1 l2 l3 l4 l5 l6 l7 l8 l9 x6 s5
          else Option.bind (ab_gR st l0 11 4) fun x7 =>
            Option.bind (ab_rJ st x7 (((200 : Int32) * l1) + l5)) fun x8 =>
            Option.bind (ab_gR st l0 11 4) fun x9 =>
            Option.bind (ab_rJ st x9 (((200 : Int32) * l2) + l6)) fun x10 =>
            L_X11_join_308 l0 l1 l2 l3 l4 l5 l6 l7 l8 l9 (x8 + x10) st
        else Option.bind (ab_gR st l0 11 4) fun x11 =>
          Option.bind (ab_rJ st x11 (((200 : Int32) * l2) + l6)) fun x12 =>
          L_X11_join_308 l0 l1 l2 l3 l4 l5 l6 l7 l8 l9 x12 st
      else Option.bind (ab_gR st l0 11 4) fun x13 =>
        Option.bind (ab_rJ st x13 (((200 : Int32) * l1) + l5)) fun x14 =>
        L_X11_join_308 l0 l1 l2 l3 l4 l5 l6 l7 l8 l9 x14 st := (lm_eq one_X11_join 195 _ _ _).trans rfl
set_option maxRecDepth 100000 in
theorem e_X11_join_308 (l0 : Nat) (l1 : Int32) (l2 : Int32) (l3 : Int32) (l4 : Int32) (l5 : Int32) (l6 : Int32) (l7 : Int32) (l8 : Int32) (l9 : Int32) (t0 : Int64) (st : ab_S) : L_X11_join_308 l0 l1 l2 l3 l4 l5 l6 l7 l8 l9 t0 st =
    if l8 = 0
    then if (lg_cmp t0 (1000000000000 : Int64)) ≤ 0
      then L_X11_join_329 l0 l1 l2 l3 l4 l5 l6 l7 l9 t0 (0 : Int32) st
      else L_X11_join_324 l0 l1 l2 l3 l4 l5 l6 l7 l9 t0 st
    else L_X11_join_324 l0 l1 l2 l3 l4 l5 l6 l7 l9 t0 st := (lm_eq one_X11_join 308 _ _ _).trans rfl
set_option maxRecDepth 100000 in
theorem e_X11_join_324 (l0 : Nat) (l1 : Int32) (l2 : Int32) (l3 : Int32) (l4 : Int32) (l5 : Int32) (l6 : Int32) (l7 : Int32) (l9 : Int32) (l11 : Int64) (st : ab_S) : L_X11_join_324 l0 l1 l2 l3 l4 l5 l6 l7 l9 l11 st =
    L_X11_join_329 l0 l1 l2 l3 l4 l5 l6 l7 l9 l11 (1 : Int32) st := (lm_eq one_X11_join 324 _ _ _).trans rfl
set_option maxRecDepth 100000 in
theorem e_X11_join_329 (l0 : Nat) (l1 : Int32) (l2 : Int32) (l3 : Int32) (l4 : Int32) (l5 : Int32) (l6 : Int32) (l7 : Int32) (l9 : Int32) (l11 : Int64) (t0 : Int32) (st : ab_S) : L_X11_join_329 l0 l1 l2 l3 l4 l5 l6 l7 l9 l11 t0 st =
    if l9 ≤ 0
    then L_X11_join_355 l0 l1 l2 l3 l4 l5 l6 l7 t0 l9 l11 (((200 : Int32) * l1) + l5) st
    else L_X11_join_355 l0 l1 l2 l3 l4 l5 l6 l7 t0 l9 l11 (((200 : Int32) * l2) + l6) st := (lm_eq one_X11_join 329 _ _ _).trans rfl
set_option maxRecDepth 100000 in
theorem e_X11_join_355 (l0 : Nat) (l1 : Int32) (l2 : Int32) (l3 : Int32) (l4 : Int32) (l5 : Int32) (l6 : Int32) (l7 : Int32) (l8 : Int32) (l9 : Int32) (l11 : Int64) (t0 : Int32) (st : ab_S) : L_X11_join_355 l0 l1 l2 l3 l4 l5 l6 l7 l8 l9 l11 t0 st =
    if (200 : Int32) ≤ l7
    then L_X11_join_388 l0 l1 l2 l3 l4 l5 l6 l7 l8 l9 st
    else Option.bind (ab_gR st l0 11 2) fun x1 =>
      Option.bind (ab_gR st l0 11 3) fun x2 =>
      Option.bind (ab_rI st x2 t0) fun x3 =>
      ab_rv (f_X11_append l0 (4 : Int32) x1 ((12 : Int32) * t0) x3 l11 st) fun s4 =>
      L_X11_join_388 l0 l1 l2 l3 l4 l5 l6 l7 l8 l9 s4 := (lm_eq one_X11_join 355 _ _ _).trans rfl
set_option maxRecDepth 100000 in
theorem e_X11_join_388 (l0 : Nat) (l1 : Int32) (l2 : Int32) (l3 : Int32) (l4 : Int32) (l5 : Int32) (l6 : Int32) (l7 : Int32) (l8 : Int32) (l9 : Int32) (st : ab_S) : L_X11_join_388 l0 l1 l2 l3 l4 l5 l6 l7 l8 l9 st =
    L_X11_join_391 l0 l1 l2 l3 l4 l5 l6 (l7 + (1 : Int32)) l8 l9 st := (lm_eq one_X11_join 388 _ _ _).trans rfl
set_option maxRecDepth 100000 in
theorem e_X11_join_391 (l0 : Nat) (l1 : Int32) (l2 : Int32) (l3 : Int32) (l4 : Int32) (l5 : Int32) (l6 : Int32) (l7 : Int32) (l8 : Int32) (l9 : Int32) (st : ab_S) : L_X11_join_391 l0 l1 l2 l3 l4 l5 l6 l7 l8 l9 st =
    if 0 < l9
    then L_X11_join_403 l0 l1 l2 l3 l4 l6 l7 l8 l9 l5 (0 : Int32) st
    else L_X11_join_403 l0 l1 l2 l3 l4 l6 l7 l8 l9 l5 (1 : Int32) st := (lm_eq one_X11_join 391 _ _ _).trans rfl
set_option maxRecDepth 100000 in
theorem e_X11_join_403 (l0 : Nat) (l1 : Int32) (l2 : Int32) (l3 : Int32) (l4 : Int32) (l6 : Int32) (l7 : Int32) (l8 : Int32) (l9 : Int32) (t0 : Int32) (t1 : Int32) (st : ab_S) : L_X11_join_403 l0 l1 l2 l3 l4 l6 l7 l8 l9 t0 t1 st =
    if l9 < 0
    then L_X11_join_418 l0 l1 l2 l3 l4 (t0 + t1) l7 l8 l6 (0 : Int32) st
    else L_X11_join_418 l0 l1 l2 l3 l4 (t0 + t1) l7 l8 l6 (1 : Int32) st := (lm_eq one_X11_join 403 _ _ _).trans rfl
set_option maxRecDepth 100000 in
theorem e_X11_join_418 (l0 : Nat) (l1 : Int32) (l2 : Int32) (l3 : Int32) (l4 : Int32) (l5 : Int32) (l7 : Int32) (l8 : Int32) (t0 : Int32) (t1 : Int32) (st : ab_S) : L_X11_join_418 l0 l1 l2 l3 l4 l5 l7 l8 t0 t1 st =
    L_X11_join_77 l0 l1 l2 l3 l4 l5 (t0 + t1) l7 l8 st := (lm_eq one_X11_join 418 _ _ _).trans rfl
def c_X3_writeNumber : List (Nat × ab_I) := [(0, .lload_n 0, 1, .null, 0),
  (1, .lstore_n 3, 1, .null, 3),
  (2, .iconst 1, 1, (.int (1)), 0),
  (3, .istore 5, 2, .null, 5),
  (5, .iload 5, 2, .null, 5),
  (7, .bipush (6), 2, (.int (6)), 0),
  (9, .if_icmp .ge (36), 3, .null, 45),
  (12, .lload_n 3, 1, .null, 3),
  (13, .ldc2_w 66, 3, (.long (127)), 0),
  (16, .lcmp, 1, .null, 0),
  (17, .ifCond .le (28), 3, .null, 45),
  (20, .aload_n 2, 1, .null, 2),
  (21, .lload_n 3, 1, .null, 3),
  (22, .ldc2_w 66, 3, (.long (127)), 0),
  (25, .land, 1, .null, 0),
  (26, .l2i, 1, .null, 0),
  (27, .sipush (128), 3, (.int (128)), 0),
  (30, .ior, 1, .null, 0),
  (31, .invokevirtual 30, 3, .null, 0),
  (34, .lload_n 3, 1, .null, 3),
  (35, .bipush (7), 2, (.int (7)), 0),
  (37, .lushr, 1, .null, 0),
  (38, .lstore_n 3, 1, .null, 3),
  (39, .iinc 5 (1), 3, (.int (1)), 5),
  (42, .goto (-37), 3, .null, 5),
  (45, .aload_n 2, 1, .null, 2),
  (46, .lload_n 3, 1, .null, 3),
  (47, .l2i, 1, .null, 0),
  (48, .invokevirtual 30, 3, .null, 0),
  (51, .return_, 1, .null, 0)]
noncomputable def m_X3_writeNumber : ab_M := (c_X3_writeNumber, [(0, [0, 2]), (5, [2, 3, 5]), (45, [2, 3])],
  [],
  [],
  [(30, 1, 2, g_X6_put)],
  [], 6, 0)
theorem one_X3_writeNumber : ab_oneM m_X3_writeNumber := List.forall_mem_cons.mpr ⟨o_X6_put, fun _ h => absurd h List.not_mem_nil⟩
noncomputable def f_X3_writeNumber (l0 : Int64) (l2 : Nat) (st : ab_S) : Option ab_R := ab_lim m_X3_writeNumber 0 [.long l0, .ref l2] [] st
noncomputable def L_X3_writeNumber_5 (l2 : Nat) (l3 : Int64) (l5 : Int32) (st : ab_S) : Option ab_R := ab_lim m_X3_writeNumber 5 [.ref l2, .long l3, .int l5] [] st
noncomputable def L_X3_writeNumber_45 (l2 : Nat) (l3 : Int64) (st : ab_S) : Option ab_R := ab_lim m_X3_writeNumber 45 [.ref l2, .long l3] [] st
noncomputable def g_X3_writeNumber : ab_G := fun as st k => match as with
  | [.long a0, .ref a1] => ab_rv (f_X3_writeNumber a0 a1 st) (fun t => k [] t)
  | _ => none
theorem o_X3_writeNumber : ab_one g_X3_writeNumber := by
  intro as st k r h
  unfold g_X3_writeNumber at h ⊢
  split at h
  · exact one_rv h
  · cases h
set_option maxRecDepth 100000 in
theorem e_X3_writeNumber_0 (l0 : Int64) (l2 : Nat) (st : ab_S) : f_X3_writeNumber l0 l2 st =
    L_X3_writeNumber_5 l2 l0 (1 : Int32) st := (lm_eq one_X3_writeNumber 0 _ _ _).trans rfl
set_option maxRecDepth 100000 in
theorem e_X3_writeNumber_5 (l2 : Nat) (l3 : Int64) (l5 : Int32) (st : ab_S) : L_X3_writeNumber_5 l2 l3 l5 st =
    if (6 : Int32) ≤ l5
    then L_X3_writeNumber_45 l2 l3 st
    else if (lg_cmp l3 (127 : Int64)) ≤ 0
      then L_X3_writeNumber_45 l2 l3 st
      else ab_rv (f_X6_put l2 ((l3 &&& (127 : Int64)).toInt32 ||| (128 : Int32)) st) fun s1 =>
        L_X3_writeNumber_5 l2 (l3.toUInt64 >>> ((7 : Int32).toInt64.toUInt64 &&& Int64.toUInt64 63)).toInt64 (l5 + (1 : Int32)) s1 := (lm_eq one_X3_writeNumber 5 _ _ _).trans rfl
set_option maxRecDepth 100000 in
theorem e_X3_writeNumber_45 (l2 : Nat) (l3 : Int64) (st : ab_S) : L_X3_writeNumber_45 l2 l3 st =
    ab_rv (f_X6_put l2 l3.toInt32 st) fun s1 =>
    some (none, s1) := (lm_eq one_X3_writeNumber 45 _ _ _).trans rfl
def c_X1_lastOf : List (Nat × ab_I) := [(0, .aload_n 0, 1, .null, 0),
  (1, .iload_n 1, 1, .null, 1),
  (2, .invokevirtual 58, 3, .null, 0),
  (5, .ifCond .eq (12), 3, .null, 17),
  (8, .aload_n 0, 1, .null, 0),
  (9, .getfield 15, 3, .null, 0),
  (12, .iload_n 1, 1, .null, 1),
  (13, .laload, 1, .null, 0),
  (14, .goto (6), 3, .null, 20),
  (17, .ldc2_w 35, 3, (.long (-1)), 0),
  (20, .lreturn, 1, .null, 0)]
noncomputable def m_X1_lastOf : ab_M := (c_X1_lastOf, [(0, [0, 1])],
  [(15, 1, 1, 3)],
  [],
  [(58, 1, 2, g_X1_has)],
  [], 2, 3)
theorem one_X1_lastOf : ab_oneM m_X1_lastOf := List.forall_mem_cons.mpr ⟨o_X1_has, fun _ h => absurd h List.not_mem_nil⟩
noncomputable def f_X1_lastOf (l0 : Nat) (l1 : Int32) (st : ab_S) : Option ab_R := ab_rc st l0 1 (ab_lim m_X1_lastOf 0 [.ref l0, .int l1] [] st)
noncomputable def g_X1_lastOf : ab_G := fun as st k => match as with
  | [.ref a0, .int a1] => ab_rl (f_X1_lastOf a0 a1 st) (fun x t => k [.long x] t)
  | _ => none
theorem o_X1_lastOf : ab_one g_X1_lastOf := by
  intro as st k r h
  unfold g_X1_lastOf at h ⊢
  split at h
  · exact one_rl h
  · cases h
set_option maxRecDepth 100000 in
theorem e_X1_lastOf_0 (l0 : Nat) (l1 : Int32) (st : ab_S) : f_X1_lastOf l0 l1 st =
    ab_rc st l0 1 (
    ab_ri (f_X1_has l0 l1 st) fun x2 s1 =>
    if x2 = 0
    then some (some (.long (-1 : Int64)), s1)
    else Option.bind (ab_gR s1 l0 1 1) fun x3 =>
      Option.bind (ab_rJ s1 x3 l1) fun x4 =>
      some (some (.long x4), s1)) := congrArg (ab_rc st l0 1) ((lm_eq one_X1_lastOf 0 _ _ _).trans rfl)
def c_X3_writeState : List (Nat × ab_I) := [(0, .aload_n 1, 1, .null, 1),
  (1, .iload_n 2, 1, .null, 2),
  (2, .invokevirtual 52, 3, .null, 0),
  (5, .lstore 4, 2, .null, 4),
  (7, .lload 4, 2, .null, 4),
  (9, .ldc2_w 56, 3, (.long (-1)), 0),
  (12, .lcmp, 1, .null, 0),
  (13, .ifCond .ne (11), 3, .null, 24),
  (16, .aload_n 3, 1, .null, 3),
  (17, .iconst 0, 1, (.int (0)), 0),
  (18, .invokevirtual 30, 3, .null, 0),
  (21, .goto (14), 3, .null, 35),
  (24, .aload_n 3, 1, .null, 3),
  (25, .iconst 1, 1, (.int (1)), 0),
  (26, .invokevirtual 30, 3, .null, 0),
  (29, .lload 4, 2, .null, 4),
  (31, .aload_n 3, 1, .null, 3),
  (32, .invokestatic 40, 3, .null, 0),
  (35, .aload_n 1, 1, .null, 1),
  (36, .iload_n 2, 1, .null, 2),
  (37, .invokevirtual 58, 3, .null, 0),
  (40, .istore 6, 2, .null, 6),
  (42, .iload 6, 2, .null, 6),
  (44, .i2l, 1, .null, 0),
  (45, .aload_n 3, 1, .null, 3),
  (46, .invokestatic 40, 3, .null, 0),
  (49, .iconst 0, 1, (.int (0)), 0),
  (50, .istore 7, 2, .null, 7),
  (52, .iload 7, 2, .null, 7),
  (54, .iload 6, 2, .null, 6),
  (56, .if_icmp .ge (46), 3, .null, 102),
  (59, .aload_n 3, 1, .null, 3),
  (60, .aload_n 1, 1, .null, 1),
  (61, .iload_n 2, 1, .null, 2),
  (62, .iload 7, 2, .null, 7),
  (64, .iconst 0, 1, (.int (0)), 0),
  (65, .invokevirtual 62, 3, .null, 0),
  (68, .l2i, 1, .null, 0),
  (69, .invokevirtual 30, 3, .null, 0),
  (72, .aload_n 1, 1, .null, 1),
  (73, .iload_n 2, 1, .null, 2),
  (74, .iload 7, 2, .null, 7),
  (76, .iconst 1, 1, (.int (1)), 0),
  (77, .invokevirtual 62, 3, .null, 0),
  (80, .aload_n 3, 1, .null, 3),
  (81, .invokestatic 40, 3, .null, 0),
  (84, .aload_n 1, 1, .null, 1),
  (85, .iload_n 2, 1, .null, 2),
  (86, .iload 7, 2, .null, 7),
  (88, .iconst 2, 1, (.int (2)), 0),
  (89, .invokevirtual 62, 3, .null, 0),
  (92, .aload_n 3, 1, .null, 3),
  (93, .invokestatic 40, 3, .null, 0),
  (96, .iinc 7 (1), 3, (.int (1)), 7),
  (99, .goto (-47), 3, .null, 52),
  (102, .return_, 1, .null, 0)]
noncomputable def m_X3_writeState : ab_M := (c_X3_writeState, [(0, [0, 1, 2, 3]), (35, [1, 2, 3]), (52, [1, 2, 3, 6, 7])],
  [],
  [],
  [(30, 1, 2, g_X6_put), (40, 0, 2, g_X3_writeNumber), (52, 1, 2, g_X1_lastOf), (58, 1, 2, g_X1_arcsOf), (62, 1, 4, g_X1_tellArc)],
  [], 8, 0)
theorem one_X3_writeState : ab_oneM m_X3_writeState := List.forall_mem_cons.mpr ⟨o_X6_put, List.forall_mem_cons.mpr ⟨o_X3_writeNumber, List.forall_mem_cons.mpr ⟨o_X1_lastOf, List.forall_mem_cons.mpr ⟨o_X1_arcsOf, List.forall_mem_cons.mpr ⟨o_X1_tellArc, fun _ h => absurd h List.not_mem_nil⟩⟩⟩⟩⟩
noncomputable def f_X3_writeState (l0 : Nat) (l1 : Nat) (l2 : Int32) (l3 : Nat) (st : ab_S) : Option ab_R := ab_rc st l0 3 (ab_lim m_X3_writeState 0 [.ref l0, .ref l1, .int l2, .ref l3] [] st)
noncomputable def L_X3_writeState_35 (l1 : Nat) (l2 : Int32) (l3 : Nat) (st : ab_S) : Option ab_R := ab_lim m_X3_writeState 35 [.ref l1, .int l2, .ref l3] [] st
noncomputable def L_X3_writeState_52 (l1 : Nat) (l2 : Int32) (l3 : Nat) (l6 : Int32) (l7 : Int32) (st : ab_S) : Option ab_R := ab_lim m_X3_writeState 52 [.ref l1, .int l2, .ref l3, .int l6, .int l7] [] st
noncomputable def g_X3_writeState : ab_G := fun as st k => match as with
  | [.ref a0, .ref a1, .int a2, .ref a3] => ab_rv (f_X3_writeState a0 a1 a2 a3 st) (fun t => k [] t)
  | _ => none
theorem o_X3_writeState : ab_one g_X3_writeState := by
  intro as st k r h
  unfold g_X3_writeState at h ⊢
  split at h
  · exact one_rv h
  · cases h
set_option maxRecDepth 100000 in
theorem e_X3_writeState_0 (l0 : Nat) (l1 : Nat) (l2 : Int32) (l3 : Nat) (st : ab_S) : f_X3_writeState l0 l1 l2 l3 st =
    ab_rc st l0 3 (
    ab_rl (f_X1_lastOf l1 l2 st) fun x2 s1 =>
    if (lg_cmp x2 (-1 : Int64)) = 0
    then ab_rv (f_X6_put l3 (0 : Int32) s1) fun s3 =>
      L_X3_writeState_35 l1 l2 l3 s3
    else ab_rv (f_X6_put l3 (1 : Int32) s1) fun s4 =>
      ab_rv (f_X3_writeNumber x2 l3 s4) fun s5 =>
      L_X3_writeState_35 l1 l2 l3 s5) := congrArg (ab_rc st l0 3) ((lm_eq one_X3_writeState 0 _ _ _).trans rfl)
set_option maxRecDepth 100000 in
theorem e_X3_writeState_35 (l1 : Nat) (l2 : Int32) (l3 : Nat) (st : ab_S) : L_X3_writeState_35 l1 l2 l3 st =
    ab_ri (f_X1_arcsOf l1 l2 st) fun x2 s1 =>
    ab_rv (f_X3_writeNumber x2.toInt64 l3 s1) fun s3 =>
    L_X3_writeState_52 l1 l2 l3 x2 (0 : Int32) s3 := (lm_eq one_X3_writeState 35 _ _ _).trans rfl
set_option maxRecDepth 100000 in
theorem e_X3_writeState_52 (l1 : Nat) (l2 : Int32) (l3 : Nat) (l6 : Int32) (l7 : Int32) (st : ab_S) : L_X3_writeState_52 l1 l2 l3 l6 l7 st =
    if l6 ≤ l7
    then some (none, st)
    else ab_rl (f_X1_tellArc l1 l2 l7 (0 : Int32) st) fun x2 s1 =>
      ab_rv (f_X6_put l3 x2.toInt32 s1) fun s3 =>
      ab_rl (f_X1_tellArc l1 l2 l7 (1 : Int32) s3) fun x5 s4 =>
      ab_rv (f_X3_writeNumber x5 l3 s4) fun s6 =>
      ab_rl (f_X1_tellArc l1 l2 l7 (2 : Int32) s6) fun x8 s7 =>
      ab_rv (f_X3_writeNumber x8 l3 s7) fun s9 =>
      L_X3_writeState_52 l1 l2 l3 l6 (l7 + (1 : Int32)) s9 := (lm_eq one_X3_writeState 52 _ _ _).trans rfl
def c_X3_write : List (Nat × ab_I) := [(0, .aload_n 2, 1, .null, 2),
  (1, .invokevirtual 25, 3, .null, 0),
  (4, .aload_n 2, 1, .null, 2),
  (5, .bipush (84), 2, (.int (84)), 0),
  (7, .invokevirtual 30, 3, .null, 0),
  (10, .aload_n 2, 1, .null, 2),
  (11, .bipush (77), 2, (.int (77)), 0),
  (13, .invokevirtual 30, 3, .null, 0),
  (16, .aload_n 1, 1, .null, 1),
  (17, .getfield 34, 3, .null, 0),
  (20, .aload_n 2, 1, .null, 2),
  (21, .invokestatic 40, 3, .null, 0),
  (24, .aload_n 1, 1, .null, 1),
  (25, .getfield 44, 3, .null, 0),
  (28, .i2l, 1, .null, 0),
  (29, .aload_n 2, 1, .null, 2),
  (30, .invokestatic 40, 3, .null, 0),
  (33, .iconst 0, 1, (.int (0)), 0),
  (34, .istore_n 3, 1, .null, 3),
  (35, .iload_n 3, 1, .null, 3),
  (36, .aload_n 1, 1, .null, 1),
  (37, .getfield 44, 3, .null, 0),
  (40, .if_icmp .ge (16), 3, .null, 56),
  (43, .aload_n 0, 1, .null, 0),
  (44, .aload_n 1, 1, .null, 1),
  (45, .iload_n 3, 1, .null, 3),
  (46, .aload_n 2, 1, .null, 2),
  (47, .invokevirtual 48, 3, .null, 0),
  (50, .iinc 3 (1), 3, (.int (1)), 3),
  (53, .goto (-18), 3, .null, 35),
  (56, .return_, 1, .null, 0)]
noncomputable def m_X3_write : ab_M := (c_X3_write, [(0, [0, 1, 2]), (35, [0, 1, 2, 3])],
  [(34, 1, 6, 2), (44, 1, 7, 0)],
  [],
  [(25, 1, 1, g_X6_clear), (30, 1, 2, g_X6_put), (40, 0, 2, g_X3_writeNumber), (48, 1, 4, g_X3_writeState)],
  [], 4, 0)
theorem one_X3_write : ab_oneM m_X3_write := List.forall_mem_cons.mpr ⟨o_X6_clear, List.forall_mem_cons.mpr ⟨o_X6_put, List.forall_mem_cons.mpr ⟨o_X3_writeNumber, List.forall_mem_cons.mpr ⟨o_X3_writeState, fun _ h => absurd h List.not_mem_nil⟩⟩⟩⟩
noncomputable def f_X3_write (l0 : Nat) (l1 : Nat) (l2 : Nat) (st : ab_S) : Option ab_R := ab_rc st l0 3 (ab_lim m_X3_write 0 [.ref l0, .ref l1, .ref l2] [] st)
noncomputable def L_X3_write_35 (l0 : Nat) (l1 : Nat) (l2 : Nat) (l3 : Int32) (st : ab_S) : Option ab_R := ab_lim m_X3_write 35 [.ref l0, .ref l1, .ref l2, .int l3] [] st
noncomputable def g_X3_write : ab_G := fun as st k => match as with
  | [.ref a0, .ref a1, .ref a2] => ab_rv (f_X3_write a0 a1 a2 st) (fun t => k [] t)
  | _ => none
theorem o_X3_write : ab_one g_X3_write := by
  intro as st k r h
  unfold g_X3_write at h ⊢
  split at h
  · exact one_rv h
  · cases h
set_option maxRecDepth 100000 in
theorem e_X3_write_0 (l0 : Nat) (l1 : Nat) (l2 : Nat) (st : ab_S) : f_X3_write l0 l1 l2 st =
    ab_rc st l0 3 (
    ab_rv (f_X6_clear l2 st) fun s1 =>
    ab_rv (f_X6_put l2 (84 : Int32) s1) fun s2 =>
    ab_rv (f_X6_put l2 (77 : Int32) s2) fun s3 =>
    Option.bind (ab_gJ s3 l1 1 6) fun x4 =>
    ab_rv (f_X3_writeNumber x4 l2 s3) fun s5 =>
    Option.bind (ab_gI s5 l1 1 7) fun x6 =>
    ab_rv (f_X3_writeNumber x6.toInt64 l2 s5) fun s7 =>
    L_X3_write_35 l0 l1 l2 (0 : Int32) s7) := congrArg (ab_rc st l0 3) ((lm_eq one_X3_write 0 _ _ _).trans rfl)
set_option maxRecDepth 100000 in
theorem e_X3_write_35 (l0 : Nat) (l1 : Nat) (l2 : Nat) (l3 : Int32) (st : ab_S) : L_X3_write_35 l0 l1 l2 l3 st =
    Option.bind (ab_gI st l1 1 7) fun x1 =>
    if x1 ≤ l3
    then some (none, st)
    else ab_rv (f_X3_writeState l0 l1 l3 l2 st) fun s2 =>
      L_X3_write_35 l0 l1 l2 (l3 + (1 : Int32)) s2 := (lm_eq one_X3_write 35 _ _ _).trans rfl
def c_X10_packed : List (Nat × ab_I) := [(0, .iload_n 1, 1, .null, 1),
  (1, .invokestatic 95, 3, .null, 0),
  (4, .ifCond .ne (6), 3, .null, 10),
  (7, .bipush (-2), 2, (.int (-2)), 0),
  (9, .ireturn, 1, .null, 0),
  (10, .aload_n 0, 1, .null, 0),
  (11, .getfield 11, 3, .null, 0),
  (14, .iload_n 1, 1, .null, 1),
  (15, .aaload, 1, .null, 0),
  (16, .getfield 109, 3, .null, 0),
  (19, .ifCond .eq (6), 3, .null, 25),
  (22, .bipush (-4), 2, (.int (-4)), 0),
  (24, .ireturn, 1, .null, 0),
  (25, .aload_n 0, 1, .null, 0),
  (26, .getfield 35, 3, .null, 0),
  (29, .aload_n 0, 1, .null, 0),
  (30, .getfield 11, 3, .null, 0),
  (33, .iload_n 1, 1, .null, 1),
  (34, .aaload, 1, .null, 0),
  (35, .getfield 130, 3, .null, 0),
  (38, .aload_n 0, 1, .null, 0),
  (39, .getfield 59, 3, .null, 0),
  (42, .invokevirtual 215, 3, .null, 0),
  (45, .aload_n 0, 1, .null, 0),
  (46, .getfield 59, 3, .null, 0),
  (49, .getfield 85, 3, .null, 0),
  (52, .ireturn, 1, .null, 0)]
noncomputable def m_X10_packed : ab_M := (c_X10_packed, [(0, [0, 1])],
  [(11, 10, 0, 3), (35, 10, 4, 3), (59, 10, 7, 3), (85, 6, 1, 0), (109, 0, 2, 1), (130, 0, 1, 3)],
  [],
  [(95, 0, 1, g_X10_isDictionary), (215, 1, 3, g_X3_write)],
  [], 2, 1)
theorem one_X10_packed : ab_oneM m_X10_packed := List.forall_mem_cons.mpr ⟨o_X10_isDictionary, List.forall_mem_cons.mpr ⟨o_X3_write, fun _ h => absurd h List.not_mem_nil⟩⟩
noncomputable def f_X10_packed (l0 : Nat) (l1 : Int32) (st : ab_S) : Option ab_R := ab_rc st l0 10 (ab_lim m_X10_packed 0 [.ref l0, .int l1] [] st)
noncomputable def g_X10_packed : ab_G := fun as st k => match as with
  | [.ref a0, .int a1] => ab_ri (f_X10_packed a0 a1 st) (fun x t => k [.int x] t)
  | _ => none
theorem o_X10_packed : ab_one g_X10_packed := by
  intro as st k r h
  unfold g_X10_packed at h ⊢
  split at h
  · exact one_ri h
  · cases h
set_option maxRecDepth 100000 in
theorem e_X10_packed_0 (l0 : Nat) (l1 : Int32) (st : ab_S) : f_X10_packed l0 l1 st =
    ab_rc st l0 10 (
    ab_ri (f_X10_isDictionary l1 st) fun x2 s1 =>
    if x2 = 0
    then some (some (.int (-2 : Int32)), s1)
    else Option.bind (ab_gR s1 l0 10 0) fun x3 =>
      Option.bind (ab_rR s1 x3 l1) fun x4 =>
      Option.bind (ab_gI s1 x4 0 2) fun x5 =>
      if x5 = 0
      then Option.bind (ab_gR s1 l0 10 4) fun x6 =>
        Option.bind (ab_gR s1 l0 10 0) fun x7 =>
        Option.bind (ab_rR s1 x7 l1) fun x8 =>
        Option.bind (ab_gR s1 x8 0 1) fun x9 =>
        Option.bind (ab_gR s1 l0 10 7) fun x10 =>
        ab_rv (f_X3_write x6 x9 x10 s1) fun s11 =>
        Option.bind (ab_gR s11 l0 10 7) fun x12 =>
        Option.bind (ab_gI s11 x12 6 1) fun x13 =>
        some (some (.int x13), s11)
      else some (some (.int (-4 : Int32)), s1)) := congrArg (ab_rc st l0 10) ((lm_eq one_X10_packed 0 _ _ _).trans rfl)
def c_X11_write : List (Nat × ab_I) := [(0, .iload_n 2, 1, .null, 2),
  (1, .istore 5, 2, .null, 5),
  (3, .lload_n 3, 1, .null, 3),
  (4, .lstore 6, 2, .null, 6),
  (6, .lload 6, 2, .null, 6),
  (8, .ldc2_w 341, 3, (.long (127)), 0),
  (11, .lcmp, 1, .null, 0),
  (12, .ifCond .le (32), 3, .null, 44),
  (15, .aload_n 1, 1, .null, 1),
  (16, .iload 5, 2, .null, 5),
  (18, .lload 6, 2, .null, 6),
  (20, .ldc2_w 341, 3, (.long (127)), 0),
  (23, .land, 1, .null, 0),
  (24, .ldc2_w 343, 3, (.long (128)), 0),
  (27, .lor, 1, .null, 0),
  (28, .l2i, 1, .null, 0),
  (29, .i2b, 1, .null, 0),
  (30, .bastore, 1, .null, 0),
  (31, .lload 6, 2, .null, 6),
  (33, .bipush (7), 2, (.int (7)), 0),
  (35, .lshr, 1, .null, 0),
  (36, .lstore 6, 2, .null, 6),
  (38, .iinc 5 (1), 3, (.int (1)), 5),
  (41, .goto (-35), 3, .null, 6),
  (44, .aload_n 1, 1, .null, 1),
  (45, .iload 5, 2, .null, 5),
  (47, .lload 6, 2, .null, 6),
  (49, .l2i, 1, .null, 0),
  (50, .i2b, 1, .null, 0),
  (51, .bastore, 1, .null, 0),
  (52, .iload 5, 2, .null, 5),
  (54, .iconst 1, 1, (.int (1)), 0),
  (55, .iadd, 1, .null, 0),
  (56, .ireturn, 1, .null, 0)]
noncomputable def m_X11_write : ab_M := (c_X11_write, [(0, [0, 1, 2, 3]), (6, [1, 5, 6])],
  [],
  [],
  [],
  [], 8, 1)
theorem one_X11_write : ab_oneM m_X11_write := fun _ h => absurd h List.not_mem_nil
noncomputable def f_X11_write (l0 : Nat) (l1 : Nat) (l2 : Int32) (l3 : Int64) (st : ab_S) : Option ab_R := ab_rc st l0 11 (ab_lim m_X11_write 0 [.ref l0, .ref l1, .int l2, .long l3] [] st)
noncomputable def L_X11_write_6 (l1 : Nat) (l5 : Int32) (l6 : Int64) (st : ab_S) : Option ab_R := ab_lim m_X11_write 6 [.ref l1, .int l5, .long l6] [] st
noncomputable def g_X11_write : ab_G := fun as st k => match as with
  | [.ref a0, .ref a1, .int a2, .long a3] => ab_ri (f_X11_write a0 a1 a2 a3 st) (fun x t => k [.int x] t)
  | _ => none
theorem o_X11_write : ab_one g_X11_write := by
  intro as st k r h
  unfold g_X11_write at h ⊢
  split at h
  · exact one_ri h
  · cases h
set_option maxRecDepth 100000 in
theorem e_X11_write_0 (l0 : Nat) (l1 : Nat) (l2 : Int32) (l3 : Int64) (st : ab_S) : f_X11_write l0 l1 l2 l3 st =
    ab_rc st l0 11 (
    L_X11_write_6 l1 l2 l3 st) := congrArg (ab_rc st l0 11) ((lm_eq one_X11_write 0 _ _ _).trans rfl)
set_option maxRecDepth 100000 in
theorem e_X11_write_6 (l1 : Nat) (l5 : Int32) (l6 : Int64) (st : ab_S) : L_X11_write_6 l1 l5 l6 st =
    if (lg_cmp l6 (127 : Int64)) ≤ 0
    then Option.bind (ab_wB st l1 l5 l6.toInt32.toInt8.toInt32) fun s1 =>
      some (some (.int (l5 + (1 : Int32))), s1)
    else Option.bind (ab_wB st l1 l5 (((l6 &&& (127 : Int64)) ||| (128 : Int64)).toInt32.toInt8.toInt32)) fun s2 =>
      L_X11_write_6 l1 (l5 + (1 : Int32)) (l6 >>> ((7 : Int32).toInt64 &&& 63)) s2 := (lm_eq one_X11_write 6 _ _ _).trans rfl
def c_X11_pack : List (Nat × ab_I) := [(0, .aload_n 0, 1, .null, 0),
  (1, .iload_n 1, 1, .null, 1),
  (2, .invokevirtual 176, 3, .null, 0),
  (5, .aload_n 0, 1, .null, 0),
  (6, .getfield 114, 3, .null, 0),
  (9, .iconst 0, 1, (.int (0)), 0),
  (10, .bipush (84), 2, (.int (84)), 0),
  (12, .bastore, 1, .null, 0),
  (13, .aload_n 0, 1, .null, 0),
  (14, .getfield 114, 3, .null, 0),
  (17, .iconst 1, 1, (.int (1)), 0),
  (18, .bipush (77), 2, (.int (77)), 0),
  (20, .bastore, 1, .null, 0),
  (21, .aload_n 0, 1, .null, 0),
  (22, .aload_n 0, 1, .null, 0),
  (23, .getfield 114, 3, .null, 0),
  (26, .iconst 2, 1, (.int (2)), 0),
  (27, .aload_n 0, 1, .null, 0),
  (28, .getfield 66, 3, .null, 0),
  (31, .iconst 0, 1, (.int (0)), 0),
  (32, .laload, 1, .null, 0),
  (33, .invokevirtual 345, 3, .null, 0),
  (36, .istore_n 2, 1, .null, 2),
  (37, .aload_n 0, 1, .null, 0),
  (38, .aload_n 0, 1, .null, 0),
  (39, .getfield 114, 3, .null, 0),
  (42, .iload_n 2, 1, .null, 2),
  (43, .aload_n 0, 1, .null, 0),
  (44, .getfield 180, 3, .null, 0),
  (47, .i2l, 1, .null, 0),
  (48, .invokevirtual 345, 3, .null, 0),
  (51, .istore_n 2, 1, .null, 2),
  (52, .iconst 0, 1, (.int (0)), 0),
  (53, .istore_n 3, 1, .null, 3),
  (54, .iload_n 3, 1, .null, 3),
  (55, .aload_n 0, 1, .null, 0),
  (56, .getfield 180, 3, .null, 0),
  (59, .if_icmp .ge (207), 3, .null, 266),
  (62, .aload_n 0, 1, .null, 0),
  (63, .getfield 75, 3, .null, 0),
  (66, .iload_n 3, 1, .null, 3),
  (67, .iaload, 1, .null, 0),
  (68, .istore 4, 2, .null, 4),
  (70, .aload_n 0, 1, .null, 0),
  (71, .iload_n 1, 1, .null, 1),
  (72, .iload 4, 2, .null, 4),
  (74, .invokevirtual 206, 3, .null, 0),
  (77, .istore 5, 2, .null, 5),
  (79, .aload_n 0, 1, .null, 0),
  (80, .getfield 114, 3, .null, 0),
  (83, .iload_n 2, 1, .null, 2),
  (84, .iload 5, 2, .null, 5),
  (86, .ifCond .eq (7), 3, .null, 93),
  (89, .iconst 1, 1, (.int (1)), 0),
  (90, .goto (4), 3, .null, 94),
  (93, .iconst 0, 1, (.int (0)), 0),
  (94, .i2b, 1, .null, 0),
  (95, .bastore, 1, .null, 0),
  (96, .iinc 2 (1), 3, (.int (1)), 2),
  (99, .iload 5, 2, .null, 5),
  (101, .ifCond .eq (39), 3, .null, 140),
  (104, .aload_n 0, 1, .null, 0),
  (105, .aload_n 0, 1, .null, 0),
  (106, .getfield 114, 3, .null, 0),
  (109, .iload_n 2, 1, .null, 2),
  (110, .aload_n 0, 1, .null, 0),
  (111, .getfield 20, 3, .null, 0),
  (114, .sipush (200), 3, (.int (200)), 0),
  (117, .iload_n 1, 1, .null, 1),
  (118, .imul, 1, .null, 0),
  (119, .aload_n 0, 1, .null, 0),
  (120, .getfield 57, 3, .null, 0),
  (123, .iload 4, 2, .null, 4),
  (125, .iaload, 1, .null, 0),
  (126, .iadd, 1, .null, 0),
  (127, .laload, 1, .null, 0),
  (128, .aload_n 0, 1, .null, 0),
  (129, .getfield 66, 3, .null, 0),
  (132, .iload 4, 2, .null, 4),
  (134, .laload, 1, .null, 0),
  (135, .lsub, 1, .null, 0),
  (136, .invokevirtual 345, 3, .null, 0),
  (139, .istore_n 2, 1, .null, 2),
  (140, .aload_n 0, 1, .null, 0),
  (141, .iload_n 1, 1, .null, 1),
  (142, .iload 4, 2, .null, 4),
  (144, .invokevirtual 231, 3, .null, 0),
  (147, .istore 6, 2, .null, 6),
  (149, .aload_n 0, 1, .null, 0),
  (150, .aload_n 0, 1, .null, 0),
  (151, .getfield 114, 3, .null, 0),
  (154, .iload_n 2, 1, .null, 2),
  (155, .iload 6, 2, .null, 6),
  (157, .i2l, 1, .null, 0),
  (158, .invokevirtual 345, 3, .null, 0),
  (161, .istore_n 2, 1, .null, 2),
  (162, .iconst 0, 1, (.int (0)), 0),
  (163, .istore 7, 2, .null, 7),
  (165, .iload 7, 2, .null, 7),
  (167, .iload 6, 2, .null, 6),
  (169, .if_icmp .ge (91), 3, .null, 260),
  (172, .aload_n 0, 1, .null, 0),
  (173, .iload_n 1, 1, .null, 1),
  (174, .iload 4, 2, .null, 4),
  (176, .iload 7, 2, .null, 7),
  (178, .invokevirtual 213, 3, .null, 0),
  (181, .istore 8, 2, .null, 8),
  (183, .aload_n 0, 1, .null, 0),
  (184, .getfield 114, 3, .null, 0),
  (187, .iload_n 2, 1, .null, 2),
  (188, .aload_n 0, 1, .null, 0),
  (189, .iload_n 1, 1, .null, 1),
  (190, .aload_n 0, 1, .null, 0),
  (191, .getfield 57, 3, .null, 0),
  (194, .iload 8, 2, .null, 8),
  (196, .iaload, 1, .null, 0),
  (197, .aload_n 0, 1, .null, 0),
  (198, .getfield 63, 3, .null, 0),
  (201, .iload 4, 2, .null, 4),
  (203, .iaload, 1, .null, 0),
  (204, .invokevirtual 153, 3, .null, 0),
  (207, .i2b, 1, .null, 0),
  (208, .bastore, 1, .null, 0),
  (209, .aload_n 0, 1, .null, 0),
  (210, .aload_n 0, 1, .null, 0),
  (211, .getfield 114, 3, .null, 0),
  (214, .iload_n 2, 1, .null, 2),
  (215, .iconst 1, 1, (.int (1)), 0),
  (216, .iadd, 1, .null, 0),
  (217, .aload_n 0, 1, .null, 0),
  (218, .getfield 72, 3, .null, 0),
  (221, .iload 8, 2, .null, 8),
  (223, .iaload, 1, .null, 0),
  (224, .i2l, 1, .null, 0),
  (225, .invokevirtual 345, 3, .null, 0),
  (228, .istore_n 2, 1, .null, 2),
  (229, .aload_n 0, 1, .null, 0),
  (230, .aload_n 0, 1, .null, 0),
  (231, .getfield 114, 3, .null, 0),
  (234, .iload_n 2, 1, .null, 2),
  (235, .aload_n 0, 1, .null, 0),
  (236, .getfield 66, 3, .null, 0),
  (239, .iload 8, 2, .null, 8),
  (241, .laload, 1, .null, 0),
  (242, .aload_n 0, 1, .null, 0),
  (243, .getfield 66, 3, .null, 0),
  (246, .iload 4, 2, .null, 4),
  (248, .laload, 1, .null, 0),
  (249, .lsub, 1, .null, 0),
  (250, .invokevirtual 345, 3, .null, 0),
  (253, .istore_n 2, 1, .null, 2),
  (254, .iinc 7 (1), 3, (.int (1)), 7),
  (257, .goto (-92), 3, .null, 165),
  (260, .iinc 3 (1), 3, (.int (1)), 3),
  (263, .goto (-209), 3, .null, 54),
  (266, .iload_n 2, 1, .null, 2),
  (267, .ireturn, 1, .null, 0)]
noncomputable def m_X11_pack : ab_M := (c_X11_pack, [(0, [0, 1]), (54, [0, 1, 2, 3]), (94, [0, 1, 2, 3, 4, 5]), (140, [0, 1, 2, 3, 4]), (165, [0, 1, 2, 3, 4, 6, 7])],
  [(20, 11, 4, 3), (57, 11, 18, 3), (63, 11, 20, 3), (66, 11, 21, 3), (72, 11, 23, 3), (75, 11, 24, 3), (114, 11, 45, 3), (180, 11, 25, 0)],
  [],
  [(153, 1, 4, g_X11_letter), (176, 1, 2, g_X11_build), (206, 1, 3, g_X11_isFinal), (213, 1, 4, g_X11_child), (231, 1, 3, g_X11_children), (345, 1, 4, g_X11_write)],
  [], 9, 1)
theorem one_X11_pack : ab_oneM m_X11_pack := List.forall_mem_cons.mpr ⟨o_X11_letter, List.forall_mem_cons.mpr ⟨o_X11_build, List.forall_mem_cons.mpr ⟨o_X11_isFinal, List.forall_mem_cons.mpr ⟨o_X11_child, List.forall_mem_cons.mpr ⟨o_X11_children, List.forall_mem_cons.mpr ⟨o_X11_write, fun _ h => absurd h List.not_mem_nil⟩⟩⟩⟩⟩⟩
noncomputable def f_X11_pack (l0 : Nat) (l1 : Int32) (st : ab_S) : Option ab_R := ab_rc st l0 11 (ab_lim m_X11_pack 0 [.ref l0, .int l1] [] st)
noncomputable def L_X11_pack_54 (l0 : Nat) (l1 : Int32) (l2 : Int32) (l3 : Int32) (st : ab_S) : Option ab_R := ab_lim m_X11_pack 54 [.ref l0, .int l1, .int l2, .int l3] [] st
noncomputable def L_X11_pack_94 (l0 : Nat) (l1 : Int32) (l2 : Int32) (l3 : Int32) (l4 : Int32) (l5 : Int32) (t0 : Nat) (t1 : Int32) (t2 : Int32) (st : ab_S) : Option ab_R := ab_lim m_X11_pack 94 [.ref l0, .int l1, .int l2, .int l3, .int l4, .int l5] [.int t2, .int t1, .ref t0] st
noncomputable def L_X11_pack_140 (l0 : Nat) (l1 : Int32) (l2 : Int32) (l3 : Int32) (l4 : Int32) (st : ab_S) : Option ab_R := ab_lim m_X11_pack 140 [.ref l0, .int l1, .int l2, .int l3, .int l4] [] st
noncomputable def L_X11_pack_165 (l0 : Nat) (l1 : Int32) (l2 : Int32) (l3 : Int32) (l4 : Int32) (l6 : Int32) (l7 : Int32) (st : ab_S) : Option ab_R := ab_lim m_X11_pack 165 [.ref l0, .int l1, .int l2, .int l3, .int l4, .int l6, .int l7] [] st
noncomputable def g_X11_pack : ab_G := fun as st k => match as with
  | [.ref a0, .int a1] => ab_ri (f_X11_pack a0 a1 st) (fun x t => k [.int x] t)
  | _ => none
theorem o_X11_pack : ab_one g_X11_pack := by
  intro as st k r h
  unfold g_X11_pack at h ⊢
  split at h
  · exact one_ri h
  · cases h
set_option maxRecDepth 100000 in
theorem e_X11_pack_0 (l0 : Nat) (l1 : Int32) (st : ab_S) : f_X11_pack l0 l1 st =
    ab_rc st l0 11 (
    ab_rv (f_X11_build l0 l1 st) fun s1 =>
    Option.bind (ab_gR s1 l0 11 45) fun x2 =>
    Option.bind (ab_wB s1 x2 (0 : Int32) (84 : Int32)) fun s3 =>
    Option.bind (ab_gR s3 l0 11 45) fun x4 =>
    Option.bind (ab_wB s3 x4 (1 : Int32) (77 : Int32)) fun s5 =>
    Option.bind (ab_gR s5 l0 11 45) fun x6 =>
    Option.bind (ab_gR s5 l0 11 21) fun x7 =>
    Option.bind (ab_rJ s5 x7 (0 : Int32)) fun x8 =>
    ab_ri (f_X11_write l0 x6 (2 : Int32) x8 s5) fun x10 s9 =>
    Option.bind (ab_gR s9 l0 11 45) fun x11 =>
    Option.bind (ab_gI s9 l0 11 25) fun x12 =>
    ab_ri (f_X11_write l0 x11 x10 x12.toInt64 s9) fun x14 s13 =>
    L_X11_pack_54 l0 l1 x14 (0 : Int32) s13) := congrArg (ab_rc st l0 11) ((lm_eq one_X11_pack 0 _ _ _).trans rfl)
set_option maxRecDepth 100000 in
theorem e_X11_pack_54 (l0 : Nat) (l1 : Int32) (l2 : Int32) (l3 : Int32) (st : ab_S) : L_X11_pack_54 l0 l1 l2 l3 st =
    Option.bind (ab_gI st l0 11 25) fun x1 =>
    if x1 ≤ l3
    then some (some (.int l2), st)
    else Option.bind (ab_gR st l0 11 24) fun x2 =>
      Option.bind (ab_rI st x2 l3) fun x3 =>
      ab_ri (f_X11_isFinal l0 l1 x3 st) fun x5 s4 =>
      Option.bind (ab_gR s4 l0 11 45) fun x6 =>
      if x5 = 0
      then L_X11_pack_94 l0 l1 l2 l3 x3 x5 x6 l2 (0 : Int32) s4
      else L_X11_pack_94 l0 l1 l2 l3 x3 x5 x6 l2 (1 : Int32) s4 := (lm_eq one_X11_pack 54 _ _ _).trans rfl
set_option maxRecDepth 100000 in
theorem e_X11_pack_94 (l0 : Nat) (l1 : Int32) (l2 : Int32) (l3 : Int32) (l4 : Int32) (l5 : Int32) (t0 : Nat) (t1 : Int32) (t2 : Int32) (st : ab_S) : L_X11_pack_94 l0 l1 l2 l3 l4 l5 t0 t1 t2 st =
    Option.bind (ab_wB st t0 t1 t2.toInt8.toInt32) fun s1 =>
    if l5 = 0
    then L_X11_pack_140 l0 l1 (l2 + (1 : Int32)) l3 l4 s1
    else Option.bind (ab_gR s1 l0 11 45) fun x2 =>
      Option.bind (ab_gR s1 l0 11 4) fun x3 =>
      Option.bind (ab_gR s1 l0 11 18) fun x4 =>
      Option.bind (ab_rI s1 x4 l4) fun x5 =>
      Option.bind (ab_rJ s1 x3 (((200 : Int32) * l1) + x5)) fun x6 =>
      Option.bind (ab_gR s1 l0 11 21) fun x7 =>
      Option.bind (ab_rJ s1 x7 l4) fun x8 =>
      ab_ri (f_X11_write l0 x2 (l2 + (1 : Int32)) (x6 - x8) s1) fun x10 s9 =>
      L_X11_pack_140 l0 l1 x10 l3 l4 s9 := (lm_eq one_X11_pack 94 _ _ _).trans rfl
set_option maxRecDepth 100000 in
theorem e_X11_pack_140 (l0 : Nat) (l1 : Int32) (l2 : Int32) (l3 : Int32) (l4 : Int32) (st : ab_S) : L_X11_pack_140 l0 l1 l2 l3 l4 st =
    ab_ri (f_X11_children l0 l1 l4 st) fun x2 s1 =>
    Option.bind (ab_gR s1 l0 11 45) fun x3 =>
    ab_ri (f_X11_write l0 x3 l2 x2.toInt64 s1) fun x5 s4 =>
    L_X11_pack_165 l0 l1 x5 l3 l4 x2 (0 : Int32) s4 := (lm_eq one_X11_pack 140 _ _ _).trans rfl
set_option maxRecDepth 100000 in
theorem e_X11_pack_165 (l0 : Nat) (l1 : Int32) (l2 : Int32) (l3 : Int32) (l4 : Int32) (l6 : Int32) (l7 : Int32) (st : ab_S) : L_X11_pack_165 l0 l1 l2 l3 l4 l6 l7 st =
    if l6 ≤ l7
    then L_X11_pack_54 l0 l1 l2 (l3 + (1 : Int32)) st
    else ab_ri (f_X11_child l0 l1 l4 l7 st) fun x2 s1 =>
      Option.bind (ab_gR s1 l0 11 45) fun x3 =>
      Option.bind (ab_gR s1 l0 11 18) fun x4 =>
      Option.bind (ab_rI s1 x4 x2) fun x5 =>
      Option.bind (ab_gR s1 l0 11 20) fun x6 =>
      Option.bind (ab_rI s1 x6 l4) fun x7 =>
      ab_ri (f_X11_letter l0 l1 x5 x7 s1) fun x9 s8 =>
      Option.bind (ab_wB s8 x3 l2 x9.toInt8.toInt32) fun s10 =>
      Option.bind (ab_gR s10 l0 11 45) fun x11 =>
      Option.bind (ab_gR s10 l0 11 23) fun x12 =>
      Option.bind (ab_rI s10 x12 x2) fun x13 =>
      ab_ri (f_X11_write l0 x11 (l2 + (1 : Int32)) x13.toInt64 s10) fun x15 s14 =>
      Option.bind (ab_gR s14 l0 11 45) fun x16 =>
      Option.bind (ab_gR s14 l0 11 21) fun x17 =>
      Option.bind (ab_rJ s14 x17 x2) fun x18 =>
      Option.bind (ab_gR s14 l0 11 21) fun x19 =>
      Option.bind (ab_rJ s14 x19 l4) fun x20 =>
      ab_ri (f_X11_write l0 x16 x15 (x18 - x20) s14) fun x22 s21 =>
      L_X11_pack_165 l0 l1 x22 l3 l4 l6 (l7 + (1 : Int32)) s21 := (lm_eq one_X11_pack 165 _ _ _).trans rfl
def c_X11_packed : List (Nat × ab_I) := [(0, .iload_n 1, 1, .null, 1),
  (1, .invokestatic 159, 3, .null, 0),
  (4, .ifCond .ne (6), 3, .null, 10),
  (7, .bipush (-2), 2, (.int (-2)), 0),
  (9, .ireturn, 1, .null, 0),
  (10, .aload_n 0, 1, .null, 0),
  (11, .getfield 27, 3, .null, 0),
  (14, .iload_n 1, 1, .null, 1),
  (15, .baload, 1, .null, 0),
  (16, .ifCond .eq (6), 3, .null, 22),
  (19, .bipush (-4), 2, (.int (-4)), 0),
  (21, .ireturn, 1, .null, 0),
  (22, .aload_n 0, 1, .null, 0),
  (23, .aload_n 0, 1, .null, 0),
  (24, .iload_n 1, 1, .null, 1),
  (25, .invokevirtual 349, 3, .null, 0),
  (28, .putfield 352, 3, .null, 0),
  (31, .iconst 0, 1, (.int (0)), 0),
  (32, .istore_n 2, 1, .null, 2),
  (33, .iload_n 2, 1, .null, 2),
  (34, .aload_n 0, 1, .null, 0),
  (35, .getfield 352, 3, .null, 0),
  (38, .if_icmp .ge (21), 3, .null, 59),
  (41, .aload_n 0, 1, .null, 0),
  (42, .getfield 42, 3, .null, 0),
  (45, .iload_n 2, 1, .null, 2),
  (46, .aload_n 0, 1, .null, 0),
  (47, .getfield 114, 3, .null, 0),
  (50, .iload_n 2, 1, .null, 2),
  (51, .baload, 1, .null, 0),
  (52, .bastore, 1, .null, 0),
  (53, .iinc 2 (1), 3, (.int (1)), 2),
  (56, .goto (-23), 3, .null, 33),
  (59, .aload_n 0, 1, .null, 0),
  (60, .getfield 352, 3, .null, 0),
  (63, .ireturn, 1, .null, 0)]
noncomputable def m_X11_packed : ab_M := (c_X11_packed, [(0, [0, 1]), (33, [0, 2])],
  [(27, 11, 6, 3), (42, 11, 11, 3), (114, 11, 45, 3), (352, 11, 12, 0)],
  [],
  [(159, 0, 1, g_X11_isDictionary), (349, 1, 2, g_X11_pack)],
  [], 3, 1)
theorem one_X11_packed : ab_oneM m_X11_packed := List.forall_mem_cons.mpr ⟨o_X11_isDictionary, List.forall_mem_cons.mpr ⟨o_X11_pack, fun _ h => absurd h List.not_mem_nil⟩⟩
noncomputable def f_X11_packed (l0 : Nat) (l1 : Int32) (st : ab_S) : Option ab_R := ab_rc st l0 11 (ab_lim m_X11_packed 0 [.ref l0, .int l1] [] st)
noncomputable def L_X11_packed_33 (l0 : Nat) (l2 : Int32) (st : ab_S) : Option ab_R := ab_lim m_X11_packed 33 [.ref l0, .int l2] [] st
noncomputable def g_X11_packed : ab_G := fun as st k => match as with
  | [.ref a0, .int a1] => ab_ri (f_X11_packed a0 a1 st) (fun x t => k [.int x] t)
  | _ => none
theorem o_X11_packed : ab_one g_X11_packed := by
  intro as st k r h
  unfold g_X11_packed at h ⊢
  split at h
  · exact one_ri h
  · cases h
set_option maxRecDepth 100000 in
theorem e_X11_packed_0 (l0 : Nat) (l1 : Int32) (st : ab_S) : f_X11_packed l0 l1 st =
    ab_rc st l0 11 (
    ab_ri (f_X11_isDictionary l1 st) fun x2 s1 =>
    if x2 = 0
    then some (some (.int (-2 : Int32)), s1)
    else Option.bind (ab_gR s1 l0 11 6) fun x3 =>
      Option.bind (ab_rB s1 x3 l1) fun x4 =>
      if x4 = 0
      then ab_ri (f_X11_pack l0 l1 s1) fun x6 s5 =>
        Option.bind (ab_pI s5 l0 11 12 x6) fun s7 =>
        L_X11_packed_33 l0 (0 : Int32) s7
      else some (some (.int (-4 : Int32)), s1)) := congrArg (ab_rc st l0 11) ((lm_eq one_X11_packed 0 _ _ _).trans rfl)
set_option maxRecDepth 100000 in
theorem e_X11_packed_33 (l0 : Nat) (l2 : Int32) (st : ab_S) : L_X11_packed_33 l0 l2 st =
    Option.bind (ab_gI st l0 11 12) fun x1 =>
    if x1 ≤ l2
    then Option.bind (ab_gI st l0 11 12) fun x2 =>
      some (some (.int x2), st)
    else Option.bind (ab_gR st l0 11 11) fun x3 =>
      Option.bind (ab_gR st l0 11 45) fun x4 =>
      Option.bind (ab_rB st x4 l2) fun x5 =>
      Option.bind (ab_wB st x3 l2 x5) fun s6 =>
      L_X11_packed_33 l0 (l2 + (1 : Int32)) s6 := (lm_eq one_X11_packed 33 _ _ _).trans rfl
def c_X10_sign : List (Nat × ab_I) := [(0, .aload_n 0, 1, .null, 0),
  (1, .getfield 59, 3, .null, 0),
  (4, .iload_n 1, 1, .null, 1),
  (5, .invokevirtual 219, 3, .null, 0),
  (8, .ireturn, 1, .null, 0)]
noncomputable def m_X10_sign : ab_M := (c_X10_sign, [(0, [0, 1])],
  [(59, 10, 7, 3)],
  [],
  [(219, 1, 2, g_X6_at)],
  [], 2, 1)
theorem one_X10_sign : ab_oneM m_X10_sign := List.forall_mem_cons.mpr ⟨o_X6_at, fun _ h => absurd h List.not_mem_nil⟩
noncomputable def f_X10_sign (l0 : Nat) (l1 : Int32) (st : ab_S) : Option ab_R := ab_rc st l0 10 (ab_lim m_X10_sign 0 [.ref l0, .int l1] [] st)
noncomputable def g_X10_sign : ab_G := fun as st k => match as with
  | [.ref a0, .int a1] => ab_ri (f_X10_sign a0 a1 st) (fun x t => k [.int x] t)
  | _ => none
theorem o_X10_sign : ab_one g_X10_sign := by
  intro as st k r h
  unfold g_X10_sign at h ⊢
  split at h
  · exact one_ri h
  · cases h
set_option maxRecDepth 100000 in
theorem e_X10_sign_0 (l0 : Nat) (l1 : Int32) (st : ab_S) : f_X10_sign l0 l1 st =
    ab_rc st l0 10 (
    Option.bind (ab_gR st l0 10 7) fun x1 =>
    ab_ri (f_X6_at x1 l1 st) fun x3 s2 =>
    some (some (.int x3), s2)) := congrArg (ab_rc st l0 10) ((lm_eq one_X10_sign 0 _ _ _).trans rfl)
def c_X11_sign : List (Nat × ab_I) := [(0, .iload_n 1, 1, .null, 1),
  (1, .i2l, 1, .null, 0),
  (2, .lconst 0, 1, (.long (0)), 0),
  (3, .aload_n 0, 1, .null, 0),
  (4, .getfield 352, 3, .null, 0),
  (7, .iconst 1, 1, (.int (1)), 0),
  (8, .isub, 1, .null, 0),
  (9, .i2l, 1, .null, 0),
  (10, .invokestatic 146, 3, .null, 0),
  (13, .ifCond .eq (16), 3, .null, 29),
  (16, .aload_n 0, 1, .null, 0),
  (17, .getfield 42, 3, .null, 0),
  (20, .iload_n 1, 1, .null, 1),
  (21, .baload, 1, .null, 0),
  (22, .sipush (255), 3, (.int (255)), 0),
  (25, .iand, 1, .null, 0),
  (26, .goto (4), 3, .null, 30),
  (29, .iconst (-1), 1, (.int (-1)), 0),
  (30, .ireturn, 1, .null, 0)]
noncomputable def m_X11_sign : ab_M := (c_X11_sign, [(0, [0, 1])],
  [(42, 11, 11, 3), (352, 11, 12, 0)],
  [],
  [(146, 0, 3, g_X11_isIn)],
  [], 2, 1)
theorem one_X11_sign : ab_oneM m_X11_sign := List.forall_mem_cons.mpr ⟨o_X11_isIn, fun _ h => absurd h List.not_mem_nil⟩
noncomputable def f_X11_sign (l0 : Nat) (l1 : Int32) (st : ab_S) : Option ab_R := ab_rc st l0 11 (ab_lim m_X11_sign 0 [.ref l0, .int l1] [] st)
noncomputable def g_X11_sign : ab_G := fun as st k => match as with
  | [.ref a0, .int a1] => ab_ri (f_X11_sign a0 a1 st) (fun x t => k [.int x] t)
  | _ => none
theorem o_X11_sign : ab_one g_X11_sign := by
  intro as st k r h
  unfold g_X11_sign at h ⊢
  split at h
  · exact one_ri h
  · cases h
set_option maxRecDepth 100000 in
theorem e_X11_sign_0 (l0 : Nat) (l1 : Int32) (st : ab_S) : f_X11_sign l0 l1 st =
    ab_rc st l0 11 (
    Option.bind (ab_gI st l0 11 12) fun x1 =>
    ab_ri (f_X11_isIn l1.toInt64 (0 : Int64) ((x1 - (1 : Int32)).toInt64) st) fun x3 s2 =>
    if x3 = 0
    then some (some (.int (-1 : Int32)), s2)
    else Option.bind (ab_gR s2 l0 11 11) fun x4 =>
      Option.bind (ab_rB s2 x4 l1) fun x5 =>
      some (some (.int (x5 &&& (255 : Int32))), s2)) := congrArg (ab_rc st l0 11) ((lm_eq one_X11_sign 0 _ _ _).trans rfl)
def c_X3_readSign : List (Nat × ab_I) := [(0, .aload_n 1, 1, .null, 1),
  (1, .aload_n 0, 1, .null, 0),
  (2, .getfield 86, 3, .null, 0),
  (5, .invokevirtual 119, 3, .null, 0),
  (8, .istore_n 2, 1, .null, 2),
  (9, .aload_n 0, 1, .null, 0),
  (10, .dup, 1, .null, 0),
  (11, .getfield 86, 3, .null, 0),
  (14, .iconst 1, 1, (.int (1)), 0),
  (15, .iadd, 1, .null, 0),
  (16, .putfield 86, 3, .null, 0),
  (19, .iload_n 2, 1, .null, 2),
  (20, .ireturn, 1, .null, 0)]
noncomputable def m_X3_readSign : ab_M := (c_X3_readSign, [(0, [0, 1])],
  [(86, 3, 4, 0)],
  [],
  [(119, 1, 2, g_X6_at)],
  [], 3, 1)
theorem one_X3_readSign : ab_oneM m_X3_readSign := List.forall_mem_cons.mpr ⟨o_X6_at, fun _ h => absurd h List.not_mem_nil⟩
noncomputable def f_X3_readSign (l0 : Nat) (l1 : Nat) (st : ab_S) : Option ab_R := ab_rc st l0 3 (ab_lim m_X3_readSign 0 [.ref l0, .ref l1] [] st)
noncomputable def g_X3_readSign : ab_G := fun as st k => match as with
  | [.ref a0, .ref a1] => ab_ri (f_X3_readSign a0 a1 st) (fun x t => k [.int x] t)
  | _ => none
theorem o_X3_readSign : ab_one g_X3_readSign := by
  intro as st k r h
  unfold g_X3_readSign at h ⊢
  split at h
  · exact one_ri h
  · cases h
set_option maxRecDepth 100000 in
theorem e_X3_readSign_0 (l0 : Nat) (l1 : Nat) (st : ab_S) : f_X3_readSign l0 l1 st =
    ab_rc st l0 3 (
    Option.bind (ab_gI st l0 3 4) fun x1 =>
    ab_ri (f_X6_at l1 x1 st) fun x3 s2 =>
    Option.bind (ab_gI s2 l0 3 4) fun x4 =>
    Option.bind (ab_pI s2 l0 3 4 (x4 + (1 : Int32))) fun s5 =>
    some (some (.int x3), s5)) := congrArg (ab_rc st l0 3) ((lm_eq one_X3_readSign 0 _ _ _).trans rfl)
def c_X3_readNumber : List (Nat × ab_I) := [(0, .lconst 0, 1, (.long (0)), 0),
  (1, .lstore_n 2, 1, .null, 2),
  (2, .iconst 0, 1, (.int (0)), 0),
  (3, .istore 4, 2, .null, 4),
  (5, .iload 4, 2, .null, 4),
  (7, .bipush (6), 2, (.int (6)), 0),
  (9, .if_icmp .ge (51), 3, .null, 60),
  (12, .aload_n 0, 1, .null, 0),
  (13, .aload_n 1, 1, .null, 1),
  (14, .invokevirtual 89, 3, .null, 0),
  (17, .istore 5, 2, .null, 5),
  (19, .iload 5, 2, .null, 5),
  (21, .iconst (-1), 1, (.int (-1)), 0),
  (22, .if_icmp .ne (7), 3, .null, 29),
  (25, .ldc2_w 56, 3, (.long (-1)), 0),
  (28, .lreturn, 1, .null, 0),
  (29, .lload_n 2, 1, .null, 2),
  (30, .iload 5, 2, .null, 5),
  (32, .bipush (127), 2, (.int (127)), 0),
  (34, .iand, 1, .null, 0),
  (35, .i2l, 1, .null, 0),
  (36, .bipush (7), 2, (.int (7)), 0),
  (38, .iload 4, 2, .null, 4),
  (40, .imul, 1, .null, 0),
  (41, .lshl, 1, .null, 0),
  (42, .lor, 1, .null, 0),
  (43, .lstore_n 2, 1, .null, 2),
  (44, .iload 5, 2, .null, 5),
  (46, .sipush (128), 3, (.int (128)), 0),
  (49, .if_icmp .ge (5), 3, .null, 54),
  (52, .lload_n 2, 1, .null, 2),
  (53, .lreturn, 1, .null, 0),
  (54, .iinc 4 (1), 3, (.int (1)), 4),
  (57, .goto (-52), 3, .null, 5),
  (60, .ldc2_w 56, 3, (.long (-1)), 0),
  (63, .lreturn, 1, .null, 0)]
noncomputable def m_X3_readNumber : ab_M := (c_X3_readNumber, [(0, [0, 1]), (5, [0, 1, 2, 4])],
  [],
  [],
  [(89, 1, 2, g_X3_readSign)],
  [], 6, 3)
theorem one_X3_readNumber : ab_oneM m_X3_readNumber := List.forall_mem_cons.mpr ⟨o_X3_readSign, fun _ h => absurd h List.not_mem_nil⟩
noncomputable def f_X3_readNumber (l0 : Nat) (l1 : Nat) (st : ab_S) : Option ab_R := ab_rc st l0 3 (ab_lim m_X3_readNumber 0 [.ref l0, .ref l1] [] st)
noncomputable def L_X3_readNumber_5 (l0 : Nat) (l1 : Nat) (l2 : Int64) (l4 : Int32) (st : ab_S) : Option ab_R := ab_lim m_X3_readNumber 5 [.ref l0, .ref l1, .long l2, .int l4] [] st
noncomputable def g_X3_readNumber : ab_G := fun as st k => match as with
  | [.ref a0, .ref a1] => ab_rl (f_X3_readNumber a0 a1 st) (fun x t => k [.long x] t)
  | _ => none
theorem o_X3_readNumber : ab_one g_X3_readNumber := by
  intro as st k r h
  unfold g_X3_readNumber at h ⊢
  split at h
  · exact one_rl h
  · cases h
set_option maxRecDepth 100000 in
theorem e_X3_readNumber_0 (l0 : Nat) (l1 : Nat) (st : ab_S) : f_X3_readNumber l0 l1 st =
    ab_rc st l0 3 (
    L_X3_readNumber_5 l0 l1 (0 : Int64) (0 : Int32) st) := congrArg (ab_rc st l0 3) ((lm_eq one_X3_readNumber 0 _ _ _).trans rfl)
set_option maxRecDepth 100000 in
theorem e_X3_readNumber_5 (l0 : Nat) (l1 : Nat) (l2 : Int64) (l4 : Int32) (st : ab_S) : L_X3_readNumber_5 l0 l1 l2 l4 st =
    if (6 : Int32) ≤ l4
    then some (some (.long (-1 : Int64)), st)
    else ab_ri (f_X3_readSign l0 l1 st) fun x2 s1 =>
      if x2 = (-1 : Int32)
      then some (some (.long (-1 : Int64)), s1)
      else if (128 : Int32) ≤ x2
        then L_X3_readNumber_5 l0 l1 (l2 ||| ((x2 &&& (127 : Int32)).toInt64 <<< (((7 : Int32) * l4).toInt64 &&& 63))) (l4 + (1 : Int32)) s1
        else some (some (.long (l2 ||| ((x2 &&& (127 : Int32)).toInt64 <<< (((7 : Int32) * l4).toInt64 &&& 63)))), s1) := (lm_eq one_X3_readNumber 5 _ _ _).trans rfl
def c_X3_readState : List (Nat × ab_I) := [(0, .aload_n 0, 1, .null, 0),
  (1, .aload_n 1, 1, .null, 1),
  (2, .invokevirtual 89, 3, .null, 0),
  (5, .istore 4, 2, .null, 4),
  (7, .iload 4, 2, .null, 4),
  (9, .iconst 1, 1, (.int (1)), 0),
  (10, .if_icmp .ne (11), 3, .null, 21),
  (13, .aload_n 0, 1, .null, 0),
  (14, .aload_n 1, 1, .null, 1),
  (15, .invokevirtual 93, 3, .null, 0),
  (18, .goto (6), 3, .null, 24),
  (21, .ldc2_w 56, 3, (.long (-1)), 0),
  (24, .lstore 5, 2, .null, 5),
  (26, .aload_n 0, 1, .null, 0),
  (27, .aload_n 1, 1, .null, 1),
  (28, .invokevirtual 93, 3, .null, 0),
  (31, .lstore 7, 2, .null, 7),
  (33, .iload 4, 2, .null, 4),
  (35, .ifCond .eq (16), 3, .null, 51),
  (38, .iload 4, 2, .null, 4),
  (40, .iconst 1, 1, (.int (1)), 0),
  (41, .if_icmp .ne (14), 3, .null, 55),
  (44, .lload 5, 2, .null, 5),
  (46, .lconst 0, 1, (.long (0)), 0),
  (47, .lcmp, 1, .null, 0),
  (48, .ifCond .lt (7), 3, .null, 55),
  (51, .iconst 1, 1, (.int (1)), 0),
  (52, .goto (4), 3, .null, 56),
  (55, .iconst 0, 1, (.int (0)), 0),
  (56, .istore 9, 2, .null, 9),
  (58, .iload 9, 2, .null, 9),
  (60, .ifCond .eq (29), 3, .null, 89),
  (63, .lload 7, 2, .null, 7),
  (65, .lconst 0, 1, (.long (0)), 0),
  (66, .lcmp, 1, .null, 0),
  (67, .ifCond .lt (22), 3, .null, 89),
  (70, .lload 7, 2, .null, 7),
  (72, .ldc2_w 109, 3, (.long (256)), 0),
  (75, .lcmp, 1, .null, 0),
  (76, .ifCond .gt (13), 3, .null, 89),
  (79, .aload_n 2, 1, .null, 2),
  (80, .lload 5, 2, .null, 5),
  (82, .iconst 0, 1, (.int (0)), 0),
  (83, .invokevirtual 111, 3, .null, 0),
  (86, .ifCond .ne (5), 3, .null, 91),
  (89, .iconst 0, 1, (.int (0)), 0),
  (90, .ireturn, 1, .null, 0),
  (91, .iconst (-1), 1, (.int (-1)), 0),
  (92, .istore 10, 2, .null, 10),
  (94, .iconst 0, 1, (.int (0)), 0),
  (95, .istore 11, 2, .null, 11),
  (97, .iload 11, 2, .null, 11),
  (99, .i2l, 1, .null, 0),
  (100, .lload 7, 2, .null, 7),
  (102, .lcmp, 1, .null, 0),
  (103, .ifCond .ge (91), 3, .null, 194),
  (106, .aload_n 0, 1, .null, 0),
  (107, .aload_n 1, 1, .null, 1),
  (108, .invokevirtual 89, 3, .null, 0),
  (111, .istore 12, 2, .null, 12),
  (113, .aload_n 0, 1, .null, 0),
  (114, .aload_n 1, 1, .null, 1),
  (115, .invokevirtual 93, 3, .null, 0),
  (118, .lstore 13, 2, .null, 13),
  (120, .aload_n 0, 1, .null, 0),
  (121, .aload_n 1, 1, .null, 1),
  (122, .invokevirtual 93, 3, .null, 0),
  (125, .lstore 15, 2, .null, 15),
  (127, .lload 13, 2, .null, 13),
  (129, .lconst 0, 1, (.long (0)), 0),
  (130, .lcmp, 1, .null, 0),
  (131, .ifCond .lt (22), 3, .null, 153),
  (134, .lload 13, 2, .null, 13),
  (136, .iload_n 3, 1, .null, 3),
  (137, .i2l, 1, .null, 0),
  (138, .lcmp, 1, .null, 0),
  (139, .ifCond .ge (14), 3, .null, 153),
  (142, .lload 15, 2, .null, 15),
  (144, .lconst 0, 1, (.long (0)), 0),
  (145, .lcmp, 1, .null, 0),
  (146, .ifCond .lt (7), 3, .null, 153),
  (149, .iconst 1, 1, (.int (1)), 0),
  (150, .goto (4), 3, .null, 154),
  (153, .iconst 0, 1, (.int (0)), 0),
  (154, .istore 17, 2, .null, 17),
  (156, .iload 12, 2, .null, 12),
  (158, .iload 10, 2, .null, 10),
  (160, .if_icmp .le (22), 3, .null, 182),
  (163, .iload 17, 2, .null, 17),
  (165, .ifCond .eq (17), 3, .null, 182),
  (168, .aload_n 2, 1, .null, 2),
  (169, .iload 12, 2, .null, 12),
  (171, .lload 13, 2, .null, 13),
  (173, .l2i, 1, .null, 0),
  (174, .lload 15, 2, .null, 15),
  (176, .invokevirtual 115, 3, .null, 0),
  (179, .ifCond .ne (5), 3, .null, 184),
  (182, .iconst 0, 1, (.int (0)), 0),
  (183, .ireturn, 1, .null, 0),
  (184, .iload 12, 2, .null, 12),
  (186, .istore 10, 2, .null, 10),
  (188, .iinc 11 (1), 3, (.int (1)), 11),
  (191, .goto (-94), 3, .null, 97),
  (194, .iconst 1, 1, (.int (1)), 0),
  (195, .ireturn, 1, .null, 0)]
noncomputable def m_X3_readState : ab_M := (c_X3_readState, [(0, [0, 1, 2, 3]), (24, [0, 1, 2, 3, 4]), (51, [0, 1, 2, 3, 5, 7]), (55, [0, 1, 2, 3, 5, 7]), (56, [0, 1, 2, 3, 5, 7]), (97, [0, 1, 2, 3, 7, 10, 11]), (153, [0, 1, 2, 3, 7, 10, 11, 12, 13, 15]), (154, [0, 1, 2, 3, 7, 10, 11, 12, 13, 15])],
  [],
  [],
  [(89, 1, 2, g_X3_readSign), (93, 1, 2, g_X3_readNumber), (111, 1, 3, g_X1_putState), (115, 1, 4, g_X1_putArc)],
  [], 18, 2)
theorem one_X3_readState : ab_oneM m_X3_readState := List.forall_mem_cons.mpr ⟨o_X3_readSign, List.forall_mem_cons.mpr ⟨o_X3_readNumber, List.forall_mem_cons.mpr ⟨o_X1_putState, List.forall_mem_cons.mpr ⟨o_X1_putArc, fun _ h => absurd h List.not_mem_nil⟩⟩⟩⟩
noncomputable def f_X3_readState (l0 : Nat) (l1 : Nat) (l2 : Nat) (l3 : Int32) (st : ab_S) : Option ab_R := ab_rc st l0 3 (ab_lim m_X3_readState 0 [.ref l0, .ref l1, .ref l2, .int l3] [] st)
noncomputable def L_X3_readState_24 (l0 : Nat) (l1 : Nat) (l2 : Nat) (l3 : Int32) (l4 : Int32) (t0 : Int64) (st : ab_S) : Option ab_R := ab_lim m_X3_readState 24 [.ref l0, .ref l1, .ref l2, .int l3, .int l4] [.long t0] st
noncomputable def L_X3_readState_51 (l0 : Nat) (l1 : Nat) (l2 : Nat) (l3 : Int32) (l5 : Int64) (l7 : Int64) (st : ab_S) : Option ab_R := ab_lim m_X3_readState 51 [.ref l0, .ref l1, .ref l2, .int l3, .long l5, .long l7] [] st
noncomputable def L_X3_readState_55 (l0 : Nat) (l1 : Nat) (l2 : Nat) (l3 : Int32) (l5 : Int64) (l7 : Int64) (st : ab_S) : Option ab_R := ab_lim m_X3_readState 55 [.ref l0, .ref l1, .ref l2, .int l3, .long l5, .long l7] [] st
noncomputable def L_X3_readState_56 (l0 : Nat) (l1 : Nat) (l2 : Nat) (l3 : Int32) (l5 : Int64) (l7 : Int64) (t0 : Int32) (st : ab_S) : Option ab_R := ab_lim m_X3_readState 56 [.ref l0, .ref l1, .ref l2, .int l3, .long l5, .long l7] [.int t0] st
noncomputable def L_X3_readState_97 (l0 : Nat) (l1 : Nat) (l2 : Nat) (l3 : Int32) (l7 : Int64) (l10 : Int32) (l11 : Int32) (st : ab_S) : Option ab_R := ab_lim m_X3_readState 97 [.ref l0, .ref l1, .ref l2, .int l3, .long l7, .int l10, .int l11] [] st
noncomputable def L_X3_readState_153 (l0 : Nat) (l1 : Nat) (l2 : Nat) (l3 : Int32) (l7 : Int64) (l10 : Int32) (l11 : Int32) (l12 : Int32) (l13 : Int64) (l15 : Int64) (st : ab_S) : Option ab_R := ab_lim m_X3_readState 153 [.ref l0, .ref l1, .ref l2, .int l3, .long l7, .int l10, .int l11, .int l12, .long l13, .long l15] [] st
noncomputable def L_X3_readState_154 (l0 : Nat) (l1 : Nat) (l2 : Nat) (l3 : Int32) (l7 : Int64) (l10 : Int32) (l11 : Int32) (l12 : Int32) (l13 : Int64) (l15 : Int64) (t0 : Int32) (st : ab_S) : Option ab_R := ab_lim m_X3_readState 154 [.ref l0, .ref l1, .ref l2, .int l3, .long l7, .int l10, .int l11, .int l12, .long l13, .long l15] [.int t0] st
noncomputable def g_X3_readState : ab_G := fun as st k => match as with
  | [.ref a0, .ref a1, .ref a2, .int a3] => ab_ri (f_X3_readState a0 a1 a2 a3 st) (fun x t => k [.int x] t)
  | _ => none
theorem o_X3_readState : ab_one g_X3_readState := by
  intro as st k r h
  unfold g_X3_readState at h ⊢
  split at h
  · exact one_ri h
  · cases h
set_option maxRecDepth 100000 in
theorem e_X3_readState_0 (l0 : Nat) (l1 : Nat) (l2 : Nat) (l3 : Int32) (st : ab_S) : f_X3_readState l0 l1 l2 l3 st =
    ab_rc st l0 3 (
    ab_ri (f_X3_readSign l0 l1 st) fun x2 s1 =>
    if x2 = (1 : Int32)
    then ab_rl (f_X3_readNumber l0 l1 s1) fun x4 s3 =>
      L_X3_readState_24 l0 l1 l2 l3 x2 x4 s3
    else L_X3_readState_24 l0 l1 l2 l3 x2 (-1 : Int64) s1) := congrArg (ab_rc st l0 3) ((lm_eq one_X3_readState 0 _ _ _).trans rfl)
set_option maxRecDepth 100000 in
theorem e_X3_readState_24 (l0 : Nat) (l1 : Nat) (l2 : Nat) (l3 : Int32) (l4 : Int32) (t0 : Int64) (st : ab_S) : L_X3_readState_24 l0 l1 l2 l3 l4 t0 st =
    ab_rl (f_X3_readNumber l0 l1 st) fun x2 s1 =>
    if l4 = 0
    then L_X3_readState_51 l0 l1 l2 l3 t0 x2 s1
    else if l4 = (1 : Int32)
      then if (lg_cmp t0 (0 : Int64)) < 0
        then L_X3_readState_55 l0 l1 l2 l3 t0 x2 s1
        else L_X3_readState_51 l0 l1 l2 l3 t0 x2 s1
      else L_X3_readState_55 l0 l1 l2 l3 t0 x2 s1 := (lm_eq one_X3_readState 24 _ _ _).trans rfl
set_option maxRecDepth 100000 in
theorem e_X3_readState_51 (l0 : Nat) (l1 : Nat) (l2 : Nat) (l3 : Int32) (l5 : Int64) (l7 : Int64) (st : ab_S) : L_X3_readState_51 l0 l1 l2 l3 l5 l7 st =
    L_X3_readState_56 l0 l1 l2 l3 l5 l7 (1 : Int32) st := (lm_eq one_X3_readState 51 _ _ _).trans rfl
set_option maxRecDepth 100000 in
theorem e_X3_readState_55 (l0 : Nat) (l1 : Nat) (l2 : Nat) (l3 : Int32) (l5 : Int64) (l7 : Int64) (st : ab_S) : L_X3_readState_55 l0 l1 l2 l3 l5 l7 st =
    L_X3_readState_56 l0 l1 l2 l3 l5 l7 (0 : Int32) st := (lm_eq one_X3_readState 55 _ _ _).trans rfl
set_option maxRecDepth 100000 in
theorem e_X3_readState_56 (l0 : Nat) (l1 : Nat) (l2 : Nat) (l3 : Int32) (l5 : Int64) (l7 : Int64) (t0 : Int32) (st : ab_S) : L_X3_readState_56 l0 l1 l2 l3 l5 l7 t0 st =
    if t0 = 0
    then ab_z (0 : Int32) (some (some (.int (0 : Int32)), st))
    else if (lg_cmp l7 (0 : Int64)) < 0
      then ab_z (0 : Int32) (some (some (.int (0 : Int32)), st))
      else if 0 < (lg_cmp l7 (256 : Int64))
        then ab_z (0 : Int32) (some (some (.int (0 : Int32)), st))
        else ab_ri (f_X1_putState l2 l5 (0 : Int32) st) fun x2 s1 =>
          if x2 = 0
          then ab_z (0 : Int32) (some (some (.int (0 : Int32)), s1))
          else L_X3_readState_97 l0 l1 l2 l3 l7 (-1 : Int32) (0 : Int32) s1 := (lm_eq one_X3_readState 56 _ _ _).trans rfl
set_option maxRecDepth 100000 in
theorem e_X3_readState_97 (l0 : Nat) (l1 : Nat) (l2 : Nat) (l3 : Int32) (l7 : Int64) (l10 : Int32) (l11 : Int32) (st : ab_S) : L_X3_readState_97 l0 l1 l2 l3 l7 l10 l11 st =
    if 0 ≤ (lg_cmp l11.toInt64 l7)
    then ab_z (1 : Int32) (some (some (.int (1 : Int32)), st))
    else ab_ri (f_X3_readSign l0 l1 st) fun x2 s1 =>
      ab_rl (f_X3_readNumber l0 l1 s1) fun x4 s3 =>
      ab_rl (f_X3_readNumber l0 l1 s3) fun x6 s5 =>
      if (lg_cmp x4 (0 : Int64)) < 0
      then L_X3_readState_153 l0 l1 l2 l3 l7 l10 l11 x2 x4 x6 s5
      else if 0 ≤ (lg_cmp x4 l3.toInt64)
        then L_X3_readState_153 l0 l1 l2 l3 l7 l10 l11 x2 x4 x6 s5
        else if (lg_cmp x6 (0 : Int64)) < 0
          then L_X3_readState_153 l0 l1 l2 l3 l7 l10 l11 x2 x4 x6 s5
          else L_X3_readState_154 l0 l1 l2 l3 l7 l10 l11 x2 x4 x6 (1 : Int32) s5 := (lm_eq one_X3_readState 97 _ _ _).trans rfl
set_option maxRecDepth 100000 in
theorem e_X3_readState_153 (l0 : Nat) (l1 : Nat) (l2 : Nat) (l3 : Int32) (l7 : Int64) (l10 : Int32) (l11 : Int32) (l12 : Int32) (l13 : Int64) (l15 : Int64) (st : ab_S) : L_X3_readState_153 l0 l1 l2 l3 l7 l10 l11 l12 l13 l15 st =
    L_X3_readState_154 l0 l1 l2 l3 l7 l10 l11 l12 l13 l15 (0 : Int32) st := (lm_eq one_X3_readState 153 _ _ _).trans rfl
set_option maxRecDepth 100000 in
theorem e_X3_readState_154 (l0 : Nat) (l1 : Nat) (l2 : Nat) (l3 : Int32) (l7 : Int64) (l10 : Int32) (l11 : Int32) (l12 : Int32) (l13 : Int64) (l15 : Int64) (t0 : Int32) (st : ab_S) : L_X3_readState_154 l0 l1 l2 l3 l7 l10 l11 l12 l13 l15 t0 st =
    if l12 ≤ l10
    then ab_z (0 : Int32) (some (some (.int (0 : Int32)), st))
    else if t0 = 0
      then ab_z (0 : Int32) (some (some (.int (0 : Int32)), st))
      else ab_ri (f_X1_putArc l2 l12 l13.toInt32 l15 st) fun x2 s1 =>
        if x2 = 0
        then ab_z (0 : Int32) (some (some (.int (0 : Int32)), s1))
        else L_X3_readState_97 l0 l1 l2 l3 l7 l12 (l11 + (1 : Int32)) s1 := (lm_eq one_X3_readState 154 _ _ _).trans rfl
def c_X3_readMachine : List (Nat × ab_I) := [(0, .aload_n 0, 1, .null, 0),
  (1, .iconst 0, 1, (.int (0)), 0),
  (2, .putfield 86, 3, .null, 0),
  (5, .aload_n 0, 1, .null, 0),
  (6, .aload_n 1, 1, .null, 1),
  (7, .invokevirtual 89, 3, .null, 0),
  (10, .bipush (84), 2, (.int (84)), 0),
  (12, .if_icmp .ne (13), 3, .null, 25),
  (15, .aload_n 0, 1, .null, 0),
  (16, .aload_n 1, 1, .null, 1),
  (17, .invokevirtual 89, 3, .null, 0),
  (20, .bipush (77), 2, (.int (77)), 0),
  (22, .if_icmp .eq (5), 3, .null, 27),
  (25, .iconst 0, 1, (.int (0)), 0),
  (26, .ireturn, 1, .null, 0),
  (27, .aload_n 0, 1, .null, 0),
  (28, .aload_n 1, 1, .null, 1),
  (29, .invokevirtual 93, 3, .null, 0),
  (32, .lstore_n 3, 1, .null, 3),
  (33, .aload_n 0, 1, .null, 0),
  (34, .aload_n 1, 1, .null, 1),
  (35, .invokevirtual 93, 3, .null, 0),
  (38, .lstore 5, 2, .null, 5),
  (40, .lload_n 3, 1, .null, 3),
  (41, .lconst 0, 1, (.long (0)), 0),
  (42, .lcmp, 1, .null, 0),
  (43, .ifCond .lt (19), 3, .null, 62),
  (46, .lload 5, 2, .null, 5),
  (48, .lconst 1, 1, (.long (1)), 0),
  (49, .lcmp, 1, .null, 0),
  (50, .ifCond .lt (12), 3, .null, 62),
  (53, .lload 5, 2, .null, 5),
  (55, .ldc2_w 97, 3, (.long (2401)), 0),
  (58, .lcmp, 1, .null, 0),
  (59, .ifCond .le (5), 3, .null, 64),
  (62, .iconst 0, 1, (.int (0)), 0),
  (63, .ireturn, 1, .null, 0),
  (64, .aload_n 2, 1, .null, 2),
  (65, .lload_n 3, 1, .null, 3),
  (66, .iconst 0, 1, (.int (0)), 0),
  (67, .invokevirtual 99, 3, .null, 0),
  (70, .iconst 0, 1, (.int (0)), 0),
  (71, .istore 7, 2, .null, 7),
  (73, .iload 7, 2, .null, 7),
  (75, .i2l, 1, .null, 0),
  (76, .lload 5, 2, .null, 5),
  (78, .lcmp, 1, .null, 0),
  (79, .ifCond .ge (23), 3, .null, 102),
  (82, .aload_n 0, 1, .null, 0),
  (83, .aload_n 1, 1, .null, 1),
  (84, .aload_n 2, 1, .null, 2),
  (85, .lload 5, 2, .null, 5),
  (87, .l2i, 1, .null, 0),
  (88, .invokevirtual 102, 3, .null, 0),
  (91, .ifCond .ne (5), 3, .null, 96),
  (94, .iconst 0, 1, (.int (0)), 0),
  (95, .ireturn, 1, .null, 0),
  (96, .iinc 7 (1), 3, (.int (1)), 7),
  (99, .goto (-26), 3, .null, 73),
  (102, .aload_n 0, 1, .null, 0),
  (103, .getfield 86, 3, .null, 0),
  (106, .aload_n 1, 1, .null, 1),
  (107, .getfield 106, 3, .null, 0),
  (110, .if_icmp .ne (7), 3, .null, 117),
  (113, .iconst 1, 1, (.int (1)), 0),
  (114, .goto (4), 3, .null, 118),
  (117, .iconst 0, 1, (.int (0)), 0),
  (118, .ireturn, 1, .null, 0)]
noncomputable def m_X3_readMachine : ab_M := (c_X3_readMachine, [(0, [0, 1, 2]), (73, [0, 1, 2, 5, 7])],
  [(86, 3, 4, 0), (106, 6, 1, 0)],
  [],
  [(89, 1, 2, g_X3_readSign), (93, 1, 2, g_X3_readNumber), (99, 1, 3, g_X1_clear), (102, 1, 4, g_X3_readState)],
  [], 8, 2)
theorem one_X3_readMachine : ab_oneM m_X3_readMachine := List.forall_mem_cons.mpr ⟨o_X3_readSign, List.forall_mem_cons.mpr ⟨o_X3_readNumber, List.forall_mem_cons.mpr ⟨o_X1_clear, List.forall_mem_cons.mpr ⟨o_X3_readState, fun _ h => absurd h List.not_mem_nil⟩⟩⟩⟩
noncomputable def f_X3_readMachine (l0 : Nat) (l1 : Nat) (l2 : Nat) (st : ab_S) : Option ab_R := ab_rc st l0 3 (ab_lim m_X3_readMachine 0 [.ref l0, .ref l1, .ref l2] [] st)
noncomputable def L_X3_readMachine_73 (l0 : Nat) (l1 : Nat) (l2 : Nat) (l5 : Int64) (l7 : Int32) (st : ab_S) : Option ab_R := ab_lim m_X3_readMachine 73 [.ref l0, .ref l1, .ref l2, .long l5, .int l7] [] st
noncomputable def g_X3_readMachine : ab_G := fun as st k => match as with
  | [.ref a0, .ref a1, .ref a2] => ab_ri (f_X3_readMachine a0 a1 a2 st) (fun x t => k [.int x] t)
  | _ => none
theorem o_X3_readMachine : ab_one g_X3_readMachine := by
  intro as st k r h
  unfold g_X3_readMachine at h ⊢
  split at h
  · exact one_ri h
  · cases h
set_option maxRecDepth 100000 in
theorem e_X3_readMachine_0 (l0 : Nat) (l1 : Nat) (l2 : Nat) (st : ab_S) : f_X3_readMachine l0 l1 l2 st =
    ab_rc st l0 3 (
    Option.bind (ab_pI st l0 3 4 (0 : Int32)) fun s1 =>
    ab_ri (f_X3_readSign l0 l1 s1) fun x3 s2 =>
    if x3 = (84 : Int32)
    then ab_ri (f_X3_readSign l0 l1 s2) fun x5 s4 =>
      if x5 = (77 : Int32)
      then ab_rl (f_X3_readNumber l0 l1 s4) fun x7 s6 =>
        ab_rl (f_X3_readNumber l0 l1 s6) fun x9 s8 =>
        if (lg_cmp x7 (0 : Int64)) < 0
        then ab_z (0 : Int32) (some (some (.int (0 : Int32)), s8))
        else if (lg_cmp x9 (1 : Int64)) < 0
          then ab_z (0 : Int32) (some (some (.int (0 : Int32)), s8))
          else if (lg_cmp x9 (2401 : Int64)) ≤ 0
            then ab_rv (f_X1_clear l2 x7 (0 : Int32) s8) fun s10 =>
              L_X3_readMachine_73 l0 l1 l2 x9 (0 : Int32) s10
            else ab_z (0 : Int32) (some (some (.int (0 : Int32)), s8))
      else ab_z (0 : Int32) (some (some (.int (0 : Int32)), s4))
    else ab_z (0 : Int32) (some (some (.int (0 : Int32)), s2))) := congrArg (ab_rc st l0 3) ((lm_eq one_X3_readMachine 0 _ _ _).trans rfl)
set_option maxRecDepth 100000 in
theorem e_X3_readMachine_73 (l0 : Nat) (l1 : Nat) (l2 : Nat) (l5 : Int64) (l7 : Int32) (st : ab_S) : L_X3_readMachine_73 l0 l1 l2 l5 l7 st =
    if 0 ≤ (lg_cmp l7.toInt64 l5)
    then Option.bind (ab_gI st l0 3 4) fun x1 =>
      Option.bind (ab_gI st l1 6 1) fun x2 =>
      if x1 = x2
      then ab_z (1 : Int32) (some (some (.int (1 : Int32)), st))
      else ab_z (0 : Int32) (some (some (.int (0 : Int32)), st))
    else ab_ri (f_X3_readState l0 l1 l2 l5.toInt32 st) fun x4 s3 =>
      if x4 = 0
      then ab_z (0 : Int32) (some (some (.int (0 : Int32)), s3))
      else L_X3_readMachine_73 l0 l1 l2 l5 (l7 + (1 : Int32)) s3 := (lm_eq one_X3_readMachine 73 _ _ _).trans rfl
