def c_X9_step : List (Nat × ab_I) := [(0, .aload_n 0, 1, .null, 0),
  (1, .getfield 18, 3, .null, 0),
  (4, .ifCond .lt (11), 3, .null, 15),
  (7, .aload_n 0, 1, .null, 0),
  (8, .getfield 18, 3, .null, 0),
  (11, .iload_n 1, 1, .null, 1),
  (12, .if_icmp .lt (5), 3, .null, 17),
  (15, .iconst (-1), 1, (.int (-1)), 0),
  (16, .ireturn, 1, .null, 0),
  (17, .aload_n 0, 1, .null, 0),
  (18, .getfield 18, 3, .null, 0),
  (21, .istore_n 2, 1, .null, 2),
  (22, .aload_n 0, 1, .null, 0),
  (23, .dup, 1, .null, 0),
  (24, .getfield 18, 3, .null, 0),
  (27, .aload_n 0, 1, .null, 0),
  (28, .getfield 21, 3, .null, 0),
  (31, .iadd, 1, .null, 0),
  (32, .putfield 18, 3, .null, 0),
  (35, .iload_n 2, 1, .null, 2),
  (36, .ireturn, 1, .null, 0)]
noncomputable def m_X9_step : ab_M := (c_X9_step, [(0, [0, 1])],
  [(18, 9, 2, 0), (21, 9, 3, 0)],
  [],
  [],
  [], 3, 1)
theorem one_X9_step : ab_oneM m_X9_step := fun _ h => absurd h List.not_mem_nil
noncomputable def f_X9_step (l0 : Nat) (l1 : Int32) (st : ab_S) : Option ab_R := ab_rc st l0 9 (ab_lim m_X9_step 0 [.ref l0, .int l1] [] st)
noncomputable def g_X9_step : ab_G := fun as st k => match as with
  | [.ref a0, .int a1] => ab_ri (f_X9_step a0 a1 st) (fun x t => k [.int x] t)
  | _ => none
theorem o_X9_step : ab_one g_X9_step := by
  intro as st k r h
  unfold g_X9_step at h ⊢
  split at h
  · exact one_ri h
  · cases h
set_option maxRecDepth 100000 in
theorem e_X9_step_0 (l0 : Nat) (l1 : Int32) (st : ab_S) : f_X9_step l0 l1 st =
    ab_rc st l0 9 (
    Option.bind (ab_gI st l0 9 2) fun x1 =>
    if x1 < 0
    then some (some (.int (-1 : Int32)), st)
    else Option.bind (ab_gI st l0 9 2) fun x2 =>
      if x2 < l1
      then Option.bind (ab_gI st l0 9 2) fun x3 =>
        Option.bind (ab_gI st l0 9 2) fun x4 =>
        Option.bind (ab_gI st l0 9 3) fun x5 =>
        Option.bind (ab_pI st l0 9 2 (x4 + x5)) fun s6 =>
        some (some (.int x3), s6)
      else some (some (.int (-1 : Int32)), st)) := congrArg (ab_rc st l0 9) ((lm_eq one_X9_step 0 _ _ _).trans rfl)
def c_X10_next : List (Nat × ab_I) := [(0, .iload_n 1, 1, .null, 1),
  (1, .invokestatic 229, 3, .null, 0),
  (4, .ifCond .ne (6), 3, .null, 10),
  (7, .bipush (-2), 2, (.int (-2)), 0),
  (9, .ireturn, 1, .null, 0),
  (10, .aload_n 0, 1, .null, 0),
  (11, .getfield 21, 3, .null, 0),
  (14, .iload_n 1, 1, .null, 1),
  (15, .aaload, 1, .null, 0),
  (16, .astore_n 2, 1, .null, 2),
  (17, .aload_n 2, 1, .null, 2),
  (18, .getfield 239, 3, .null, 0),
  (21, .istore_n 3, 1, .null, 3),
  (22, .iload_n 3, 1, .null, 3),
  (23, .invokestatic 95, 3, .null, 0),
  (26, .ifCond .eq (16), 3, .null, 42),
  (29, .aload_n 2, 1, .null, 2),
  (30, .getfield 242, 3, .null, 0),
  (33, .aload_n 0, 1, .null, 0),
  (34, .getfield 15, 3, .null, 0),
  (37, .iload_n 3, 1, .null, 3),
  (38, .iaload, 1, .null, 0),
  (39, .if_icmp .eq (5), 3, .null, 44),
  (42, .iconst (-1), 1, (.int (-1)), 0),
  (43, .ireturn, 1, .null, 0),
  (44, .aload_n 2, 1, .null, 2),
  (45, .aload_n 0, 1, .null, 0),
  (46, .getfield 11, 3, .null, 0),
  (49, .iload_n 3, 1, .null, 3),
  (50, .aaload, 1, .null, 0),
  (51, .getfield 99, 3, .null, 0),
  (54, .getfield 103, 3, .null, 0),
  (57, .invokevirtual 245, 3, .null, 0),
  (60, .ireturn, 1, .null, 0)]
noncomputable def m_X10_next : ab_M := (c_X10_next, [(0, [0, 1])],
  [(11, 10, 0, 3), (15, 10, 1, 3), (21, 10, 2, 3), (99, 0, 0, 3), (103, 7, 3, 0), (239, 9, 0, 0), (242, 9, 1, 0)],
  [],
  [(95, 0, 1, g_X10_isDictionary), (229, 0, 1, g_X10_isWalk), (245, 1, 2, g_X9_step)],
  [], 4, 1)
theorem one_X10_next : ab_oneM m_X10_next := List.forall_mem_cons.mpr ⟨o_X10_isDictionary, List.forall_mem_cons.mpr ⟨o_X10_isWalk, List.forall_mem_cons.mpr ⟨o_X9_step, fun _ h => absurd h List.not_mem_nil⟩⟩⟩
noncomputable def f_X10_next (l0 : Nat) (l1 : Int32) (st : ab_S) : Option ab_R := ab_rc st l0 10 (ab_lim m_X10_next 0 [.ref l0, .int l1] [] st)
noncomputable def g_X10_next : ab_G := fun as st k => match as with
  | [.ref a0, .int a1] => ab_ri (f_X10_next a0 a1 st) (fun x t => k [.int x] t)
  | _ => none
theorem o_X10_next : ab_one g_X10_next := by
  intro as st k r h
  unfold g_X10_next at h ⊢
  split at h
  · exact one_ri h
  · cases h
set_option maxRecDepth 100000 in
theorem e_X10_next_0 (l0 : Nat) (l1 : Int32) (st : ab_S) : f_X10_next l0 l1 st =
    ab_rc st l0 10 (
    ab_ri (f_X10_isWalk l1 st) fun x2 s1 =>
    if x2 = 0
    then some (some (.int (-2 : Int32)), s1)
    else Option.bind (ab_gR s1 l0 10 2) fun x3 =>
      Option.bind (ab_rR s1 x3 l1) fun x4 =>
      Option.bind (ab_gI s1 x4 9 0) fun x5 =>
      ab_ri (f_X10_isDictionary x5 s1) fun x7 s6 =>
      if x7 = 0
      then some (some (.int (-1 : Int32)), s6)
      else Option.bind (ab_gI s6 x4 9 1) fun x8 =>
        Option.bind (ab_gR s6 l0 10 1) fun x9 =>
        Option.bind (ab_rI s6 x9 x5) fun x10 =>
        if x8 = x10
        then Option.bind (ab_gR s6 l0 10 0) fun x11 =>
          Option.bind (ab_rR s6 x11 x5) fun x12 =>
          Option.bind (ab_gR s6 x12 0 0) fun x13 =>
          Option.bind (ab_gI s6 x13 7 3) fun x14 =>
          ab_ri (f_X9_step x4 x14 s6) fun x16 s15 =>
          some (some (.int x16), s15)
        else some (some (.int (-1 : Int32)), s6)) := congrArg (ab_rc st l0 10) ((lm_eq one_X10_next 0 _ _ _).trans rfl)
def c_X11_next : List (Nat × ab_I) := [(0, .iload_n 1, 1, .null, 1),
  (1, .i2l, 1, .null, 0),
  (2, .lconst 0, 1, (.long (0)), 0),
  (3, .ldc2_w 157, 3, (.long (3)), 0),
  (6, .invokestatic 146, 3, .null, 0),
  (9, .ifCond .ne (6), 3, .null, 15),
  (12, .bipush (-2), 2, (.int (-2)), 0),
  (14, .ireturn, 1, .null, 0),
  (15, .aload_n 0, 1, .null, 0),
  (16, .getfield 45, 3, .null, 0),
  (19, .iload_n 1, 1, .null, 1),
  (20, .iaload, 1, .null, 0),
  (21, .istore_n 2, 1, .null, 2),
  (22, .iload_n 2, 1, .null, 2),
  (23, .iconst (-1), 1, (.int (-1)), 0),
  (24, .if_icmp .eq (41), 3, .null, 65),
  (27, .aload_n 0, 1, .null, 0),
  (28, .getfield 31, 3, .null, 0),
  (31, .iload_n 2, 1, .null, 2),
  (32, .iaload, 1, .null, 0),
  (33, .aload_n 0, 1, .null, 0),
  (34, .getfield 48, 3, .null, 0),
  (37, .iload_n 1, 1, .null, 1),
  (38, .iaload, 1, .null, 0),
  (39, .if_icmp .ne (26), 3, .null, 65),
  (42, .aload_n 0, 1, .null, 0),
  (43, .getfield 51, 3, .null, 0),
  (46, .iload_n 1, 1, .null, 1),
  (47, .iaload, 1, .null, 0),
  (48, .i2l, 1, .null, 0),
  (49, .lconst 0, 1, (.long (0)), 0),
  (50, .aload_n 0, 1, .null, 0),
  (51, .getfield 24, 3, .null, 0),
  (54, .iload_n 2, 1, .null, 2),
  (55, .iaload, 1, .null, 0),
  (56, .iconst 1, 1, (.int (1)), 0),
  (57, .isub, 1, .null, 0),
  (58, .i2l, 1, .null, 0),
  (59, .invokestatic 146, 3, .null, 0),
  (62, .ifCond .ne (5), 3, .null, 67),
  (65, .iconst (-1), 1, (.int (-1)), 0),
  (66, .ireturn, 1, .null, 0),
  (67, .aload_n 0, 1, .null, 0),
  (68, .getfield 51, 3, .null, 0),
  (71, .iload_n 1, 1, .null, 1),
  (72, .iaload, 1, .null, 0),
  (73, .istore_n 3, 1, .null, 3),
  (74, .aload_n 0, 1, .null, 0),
  (75, .getfield 51, 3, .null, 0),
  (78, .iload_n 1, 1, .null, 1),
  (79, .dup2, 1, .null, 0),
  (80, .iaload, 1, .null, 0),
  (81, .aload_n 0, 1, .null, 0),
  (82, .getfield 54, 3, .null, 0),
  (85, .iload_n 1, 1, .null, 1),
  (86, .baload, 1, .null, 0),
  (87, .ifCond .eq (7), 3, .null, 94),
  (90, .iconst (-1), 1, (.int (-1)), 0),
  (91, .goto (4), 3, .null, 95),
  (94, .iconst 1, 1, (.int (1)), 0),
  (95, .iadd, 1, .null, 0),
  (96, .iastore, 1, .null, 0),
  (97, .iload_n 3, 1, .null, 3),
  (98, .ireturn, 1, .null, 0)]
noncomputable def m_X11_next : ab_M := (c_X11_next, [(0, [0, 1]), (95, [3])],
  [(24, 11, 5, 3), (31, 11, 7, 3), (45, 11, 13, 3), (48, 11, 14, 3), (51, 11, 15, 3), (54, 11, 16, 3)],
  [],
  [(146, 0, 3, g_X11_isIn)],
  [], 4, 1)
theorem one_X11_next : ab_oneM m_X11_next := List.forall_mem_cons.mpr ⟨o_X11_isIn, fun _ h => absurd h List.not_mem_nil⟩
noncomputable def f_X11_next (l0 : Nat) (l1 : Int32) (st : ab_S) : Option ab_R := ab_rc st l0 11 (ab_lim m_X11_next 0 [.ref l0, .int l1] [] st)
noncomputable def L_X11_next_95 (l3 : Int32) (t0 : Nat) (t1 : Int32) (t2 : Int32) (t3 : Int32) (st : ab_S) : Option ab_R := ab_lim m_X11_next 95 [.int l3] [.int t3, .int t2, .int t1, .ref t0] st
noncomputable def g_X11_next : ab_G := fun as st k => match as with
  | [.ref a0, .int a1] => ab_ri (f_X11_next a0 a1 st) (fun x t => k [.int x] t)
  | _ => none
theorem o_X11_next : ab_one g_X11_next := by
  intro as st k r h
  unfold g_X11_next at h ⊢
  split at h
  · exact one_ri h
  · cases h
set_option maxRecDepth 100000 in
theorem e_X11_next_0 (l0 : Nat) (l1 : Int32) (st : ab_S) : f_X11_next l0 l1 st =
    ab_rc st l0 11 (
    ab_ri (f_X11_isIn l1.toInt64 (0 : Int64) (3 : Int64) st) fun x2 s1 =>
    if x2 = 0
    then some (some (.int (-2 : Int32)), s1)
    else Option.bind (ab_gR s1 l0 11 13) fun x3 =>
      Option.bind (ab_rI s1 x3 l1) fun x4 =>
      if x4 = (-1 : Int32)
      then some (some (.int (-1 : Int32)), s1)
      else Option.bind (ab_gR s1 l0 11 7) fun x5 =>
        Option.bind (ab_rI s1 x5 x4) fun x6 =>
        Option.bind (ab_gR s1 l0 11 14) fun x7 =>
        Option.bind (ab_rI s1 x7 l1) fun x8 =>
        if x6 = x8
        then Option.bind (ab_gR s1 l0 11 15) fun x9 =>
          Option.bind (ab_rI s1 x9 l1) fun x10 =>
          Option.bind (ab_gR s1 l0 11 5) fun x11 =>
          Option.bind (ab_rI s1 x11 x4) fun x12 =>
          ab_ri (f_X11_isIn x10.toInt64 (0 : Int64) ((x12 - (1 : Int32)).toInt64) s1) fun x14 s13 =>
          if x14 = 0
          then some (some (.int (-1 : Int32)), s13)
          else Option.bind (ab_gR s13 l0 11 15) fun x15 =>
            Option.bind (ab_rI s13 x15 l1) fun x16 =>
            Option.bind (ab_gR s13 l0 11 15) fun x17 =>
            Option.bind (ab_rI s13 x17 l1) fun x18 =>
            Option.bind (ab_gR s13 l0 11 16) fun x19 =>
            Option.bind (ab_rB s13 x19 l1) fun x20 =>
            if x20 = 0
            then L_X11_next_95 x16 x17 l1 x18 (1 : Int32) s13
            else L_X11_next_95 x16 x17 l1 x18 (-1 : Int32) s13
        else some (some (.int (-1 : Int32)), s1)) := congrArg (ab_rc st l0 11) ((lm_eq one_X11_next 0 _ _ _).trans rfl)
set_option maxRecDepth 100000 in
theorem e_X11_next_95 (l3 : Int32) (t0 : Nat) (t1 : Int32) (t2 : Int32) (t3 : Int32) (st : ab_S) : L_X11_next_95 l3 t0 t1 t2 t3 st =
    Option.bind (ab_wI st t0 t1 (t2 + t3)) fun s1 =>
    some (some (.int l3), s1) := (lm_eq one_X11_next 95 _ _ _).trans rfl
def c_L_law : List (Nat × ab_I) := [(0, .new 7, 3, .null, 0),
  (3, .dup, 1, .null, 0),
  (4, .invokespecial 9, 3, .null, 0),
  (7, .astore_n 1, 1, .null, 1),
  (8, .new 10, 3, .null, 0),
  (11, .dup, 1, .null, 0),
  (12, .invokespecial 12, 3, .null, 0),
  (15, .astore_n 2, 1, .null, 2),
  (16, .iconst 0, 1, (.int (0)), 0),
  (17, .istore_n 3, 1, .null, 3),
  (18, .iload_n 3, 1, .null, 3),
  (19, .aload_n 0, 1, .null, 0),
  (20, .arraylength, 1, .null, 0),
  (21, .iconst 5, 1, (.int (5)), 0),
  (22, .isub, 1, .null, 0),
  (23, .if_icmp .gt (898), 3, .null, 921),
  (26, .aload_n 0, 1, .null, 0),
  (27, .iload_n 3, 1, .null, 3),
  (28, .iaload, 1, .null, 0),
  (29, .bipush (31), 2, (.int (31)), 0),
  (31, .iand, 1, .null, 0),
  (32, .tableswitch (883) (0) (23) #[112, 175, 188, 211, 274, 297, 321, 344, 377, 431, 454, 497, 531, 554, 577, 610, 643, 656, 679, 732, 755, 778, 801, 860], 112, .null, 0),
  (144, .aload_n 1, 1, .null, 1),
  (145, .aload_n 0, 1, .null, 0),
  (146, .iload_n 3, 1, .null, 3),
  (147, .iconst 1, 1, (.int (1)), 0),
  (148, .iadd, 1, .null, 0),
  (149, .iaload, 1, .null, 0),
  (150, .i2l, 1, .null, 0),
  (151, .bipush (32), 2, (.int (32)), 0),
  (153, .lshl, 1, .null, 0),
  (154, .aload_n 0, 1, .null, 0),
  (155, .iload_n 3, 1, .null, 3),
  (156, .iconst 2, 1, (.int (2)), 0),
  (157, .iadd, 1, .null, 0),
  (158, .iaload, 1, .null, 0),
  (159, .i2l, 1, .null, 0),
  (160, .ldc2_w 13, 3, (.long (4294967295)), 0),
  (163, .land, 1, .null, 0),
  (164, .lor, 1, .null, 0),
  (165, .aload_n 0, 1, .null, 0),
  (166, .iload_n 3, 1, .null, 3),
  (167, .iconst 3, 1, (.int (3)), 0),
  (168, .iadd, 1, .null, 0),
  (169, .iaload, 1, .null, 0),
  (170, .invokevirtual 15, 3, .null, 0),
  (173, .aload_n 2, 1, .null, 2),
  (174, .aload_n 0, 1, .null, 0),
  (175, .iload_n 3, 1, .null, 3),
  (176, .iconst 1, 1, (.int (1)), 0),
  (177, .iadd, 1, .null, 0),
  (178, .iaload, 1, .null, 0),
  (179, .i2l, 1, .null, 0),
  (180, .bipush (32), 2, (.int (32)), 0),
  (182, .lshl, 1, .null, 0),
  (183, .aload_n 0, 1, .null, 0),
  (184, .iload_n 3, 1, .null, 3),
  (185, .iconst 2, 1, (.int (2)), 0),
  (186, .iadd, 1, .null, 0),
  (187, .iaload, 1, .null, 0),
  (188, .i2l, 1, .null, 0),
  (189, .ldc2_w 13, 3, (.long (4294967295)), 0),
  (192, .land, 1, .null, 0),
  (193, .lor, 1, .null, 0),
  (194, .aload_n 0, 1, .null, 0),
  (195, .iload_n 3, 1, .null, 3),
  (196, .iconst 3, 1, (.int (3)), 0),
  (197, .iadd, 1, .null, 0),
  (198, .iaload, 1, .null, 0),
  (199, .invokevirtual 19, 3, .null, 0),
  (202, .if_icmp .eq (713), 3, .null, 915),
  (205, .iconst 0, 1, (.int (0)), 0),
  (206, .ireturn, 1, .null, 0),
  (207, .aload_n 1, 1, .null, 1),
  (208, .invokevirtual 20, 3, .null, 0),
  (211, .aload_n 2, 1, .null, 2),
  (212, .invokevirtual 24, 3, .null, 0),
  (215, .if_icmp .eq (700), 3, .null, 915),
  (218, .iconst 0, 1, (.int (0)), 0),
  (219, .ireturn, 1, .null, 0),
  (220, .aload_n 1, 1, .null, 1),
  (221, .aload_n 0, 1, .null, 0),
  (222, .iload_n 3, 1, .null, 3),
  (223, .iconst 1, 1, (.int (1)), 0),
  (224, .iadd, 1, .null, 0),
  (225, .iaload, 1, .null, 0),
  (226, .invokevirtual 25, 3, .null, 0),
  (229, .aload_n 2, 1, .null, 2),
  (230, .aload_n 0, 1, .null, 0),
  (231, .iload_n 3, 1, .null, 3),
  (232, .iconst 1, 1, (.int (1)), 0),
  (233, .iadd, 1, .null, 0),
  (234, .iaload, 1, .null, 0),
  (235, .invokevirtual 29, 3, .null, 0),
  (238, .if_icmp .eq (677), 3, .null, 915),
  (241, .iconst 0, 1, (.int (0)), 0),
  (242, .ireturn, 1, .null, 0),
  (243, .aload_n 1, 1, .null, 1),
  (244, .aload_n 0, 1, .null, 0),
  (245, .iload_n 3, 1, .null, 3),
  (246, .iconst 1, 1, (.int (1)), 0),
  (247, .iadd, 1, .null, 0),
  (248, .iaload, 1, .null, 0),
  (249, .aload_n 0, 1, .null, 0),
  (250, .iload_n 3, 1, .null, 3),
  (251, .iconst 2, 1, (.int (2)), 0),
  (252, .iadd, 1, .null, 0),
  (253, .iaload, 1, .null, 0),
  (254, .i2l, 1, .null, 0),
  (255, .bipush (32), 2, (.int (32)), 0),
  (257, .lshl, 1, .null, 0),
  (258, .aload_n 0, 1, .null, 0),
  (259, .iload_n 3, 1, .null, 3),
  (260, .iconst 3, 1, (.int (3)), 0),
  (261, .iadd, 1, .null, 0),
  (262, .iaload, 1, .null, 0),
  (263, .i2l, 1, .null, 0),
  (264, .ldc2_w 13, 3, (.long (4294967295)), 0),
  (267, .land, 1, .null, 0),
  (268, .lor, 1, .null, 0),
  (269, .invokevirtual 30, 3, .null, 0),
  (272, .aload_n 2, 1, .null, 2),
  (273, .aload_n 0, 1, .null, 0),
  (274, .iload_n 3, 1, .null, 3),
  (275, .iconst 1, 1, (.int (1)), 0),
  (276, .iadd, 1, .null, 0),
  (277, .iaload, 1, .null, 0),
  (278, .aload_n 0, 1, .null, 0),
  (279, .iload_n 3, 1, .null, 3),
  (280, .iconst 2, 1, (.int (2)), 0),
  (281, .iadd, 1, .null, 0),
  (282, .iaload, 1, .null, 0),
  (283, .i2l, 1, .null, 0),
  (284, .bipush (32), 2, (.int (32)), 0),
  (286, .lshl, 1, .null, 0),
  (287, .aload_n 0, 1, .null, 0),
  (288, .iload_n 3, 1, .null, 3),
  (289, .iconst 3, 1, (.int (3)), 0),
  (290, .iadd, 1, .null, 0),
  (291, .iaload, 1, .null, 0),
  (292, .i2l, 1, .null, 0),
  (293, .ldc2_w 13, 3, (.long (4294967295)), 0),
  (296, .land, 1, .null, 0),
  (297, .lor, 1, .null, 0),
  (298, .invokevirtual 34, 3, .null, 0),
  (301, .if_icmp .eq (614), 3, .null, 915),
  (304, .iconst 0, 1, (.int (0)), 0),
  (305, .ireturn, 1, .null, 0),
  (306, .aload_n 1, 1, .null, 1),
  (307, .aload_n 0, 1, .null, 0),
  (308, .iload_n 3, 1, .null, 3),
  (309, .iconst 1, 1, (.int (1)), 0),
  (310, .iadd, 1, .null, 0),
  (311, .iaload, 1, .null, 0),
  (312, .invokevirtual 35, 3, .null, 0),
  (315, .aload_n 2, 1, .null, 2),
  (316, .aload_n 0, 1, .null, 0),
  (317, .iload_n 3, 1, .null, 3),
  (318, .iconst 1, 1, (.int (1)), 0),
  (319, .iadd, 1, .null, 0),
  (320, .iaload, 1, .null, 0),
  (321, .invokevirtual 38, 3, .null, 0),
  (324, .if_icmp .eq (591), 3, .null, 915),
  (327, .iconst 0, 1, (.int (0)), 0),
  (328, .ireturn, 1, .null, 0),
  (329, .aload_n 1, 1, .null, 1),
  (330, .aload_n 0, 1, .null, 0),
  (331, .iload_n 3, 1, .null, 3),
  (332, .iconst 1, 1, (.int (1)), 0),
  (333, .iadd, 1, .null, 0),
  (334, .iaload, 1, .null, 0),
  (335, .invokevirtual 39, 3, .null, 0),
  (338, .aload_n 2, 1, .null, 2),
  (339, .aload_n 0, 1, .null, 0),
  (340, .iload_n 3, 1, .null, 3),
  (341, .iconst 1, 1, (.int (1)), 0),
  (342, .iadd, 1, .null, 0),
  (343, .iaload, 1, .null, 0),
  (344, .invokevirtual 43, 3, .null, 0),
  (347, .lcmp, 1, .null, 0),
  (348, .ifCond .eq (567), 3, .null, 915),
  (351, .iconst 0, 1, (.int (0)), 0),
  (352, .ireturn, 1, .null, 0),
  (353, .aload_n 1, 1, .null, 1),
  (354, .aload_n 0, 1, .null, 0),
  (355, .iload_n 3, 1, .null, 3),
  (356, .iconst 1, 1, (.int (1)), 0),
  (357, .iadd, 1, .null, 0),
  (358, .iaload, 1, .null, 0),
  (359, .invokevirtual 44, 3, .null, 0),
  (362, .aload_n 2, 1, .null, 2),
  (363, .aload_n 0, 1, .null, 0),
  (364, .iload_n 3, 1, .null, 3),
  (365, .iconst 1, 1, (.int (1)), 0),
  (366, .iadd, 1, .null, 0),
  (367, .iaload, 1, .null, 0),
  (368, .invokevirtual 47, 3, .null, 0),
  (371, .if_icmp .eq (544), 3, .null, 915),
  (374, .iconst 0, 1, (.int (0)), 0),
  (375, .ireturn, 1, .null, 0),
  (376, .aload_n 1, 1, .null, 1),
  (377, .aload_n 0, 1, .null, 0),
  (378, .iload_n 3, 1, .null, 3),
  (379, .iconst 1, 1, (.int (1)), 0),
  (380, .iadd, 1, .null, 0),
  (381, .iaload, 1, .null, 0),
  (382, .aload_n 0, 1, .null, 0),
  (383, .iload_n 3, 1, .null, 3),
  (384, .iconst 2, 1, (.int (2)), 0),
  (385, .iadd, 1, .null, 0),
  (386, .iaload, 1, .null, 0),
  (387, .invokevirtual 48, 3, .null, 0),
  (390, .aload_n 2, 1, .null, 2),
  (391, .aload_n 0, 1, .null, 0),
  (392, .iload_n 3, 1, .null, 3),
  (393, .iconst 1, 1, (.int (1)), 0),
  (394, .iadd, 1, .null, 0),
  (395, .iaload, 1, .null, 0),
  (396, .aload_n 0, 1, .null, 0),
  (397, .iload_n 3, 1, .null, 3),
  (398, .iconst 2, 1, (.int (2)), 0),
  (399, .iadd, 1, .null, 0),
  (400, .iaload, 1, .null, 0),
  (401, .invokevirtual 52, 3, .null, 0),
  (404, .if_icmp .eq (511), 3, .null, 915),
  (407, .iconst 0, 1, (.int (0)), 0),
  (408, .ireturn, 1, .null, 0),
  (409, .aload_n 1, 1, .null, 1),
  (410, .aload_n 0, 1, .null, 0),
  (411, .iload_n 3, 1, .null, 3),
  (412, .iconst 1, 1, (.int (1)), 0),
  (413, .iadd, 1, .null, 0),
  (414, .iaload, 1, .null, 0),
  (415, .aload_n 0, 1, .null, 0),
  (416, .iload_n 3, 1, .null, 3),
  (417, .iconst 2, 1, (.int (2)), 0),
  (418, .iadd, 1, .null, 0),
  (419, .iaload, 1, .null, 0),
  (420, .aload_n 0, 1, .null, 0),
  (421, .iload_n 3, 1, .null, 3),
  (422, .iconst 3, 1, (.int (3)), 0),
  (423, .iadd, 1, .null, 0),
  (424, .iaload, 1, .null, 0),
  (425, .aload_n 0, 1, .null, 0),
  (426, .iload_n 3, 1, .null, 3),
  (427, .iconst 4, 1, (.int (4)), 0),
  (428, .iadd, 1, .null, 0),
  (429, .iaload, 1, .null, 0),
  (430, .invokevirtual 53, 3, .null, 0),
  (433, .aload_n 2, 1, .null, 2),
  (434, .aload_n 0, 1, .null, 0),
  (435, .iload_n 3, 1, .null, 3),
  (436, .iconst 1, 1, (.int (1)), 0),
  (437, .iadd, 1, .null, 0),
  (438, .iaload, 1, .null, 0),
  (439, .aload_n 0, 1, .null, 0),
  (440, .iload_n 3, 1, .null, 3),
  (441, .iconst 2, 1, (.int (2)), 0),
  (442, .iadd, 1, .null, 0),
  (443, .iaload, 1, .null, 0),
  (444, .aload_n 0, 1, .null, 0),
  (445, .iload_n 3, 1, .null, 3),
  (446, .iconst 3, 1, (.int (3)), 0),
  (447, .iadd, 1, .null, 0),
  (448, .iaload, 1, .null, 0),
  (449, .aload_n 0, 1, .null, 0),
  (450, .iload_n 3, 1, .null, 3),
  (451, .iconst 4, 1, (.int (4)), 0),
  (452, .iadd, 1, .null, 0),
  (453, .iaload, 1, .null, 0),
  (454, .invokevirtual 57, 3, .null, 0),
  (457, .lcmp, 1, .null, 0),
  (458, .ifCond .eq (457), 3, .null, 915),
  (461, .iconst 0, 1, (.int (0)), 0),
  (462, .ireturn, 1, .null, 0),
  (463, .aload_n 1, 1, .null, 1),
  (464, .aload_n 0, 1, .null, 0),
  (465, .iload_n 3, 1, .null, 3),
  (466, .iconst 1, 1, (.int (1)), 0),
  (467, .iadd, 1, .null, 0),
  (468, .iaload, 1, .null, 0),
  (469, .invokevirtual 58, 3, .null, 0),
  (472, .aload_n 2, 1, .null, 2),
  (473, .aload_n 0, 1, .null, 0),
  (474, .iload_n 3, 1, .null, 3),
  (475, .iconst 1, 1, (.int (1)), 0),
  (476, .iadd, 1, .null, 0),
  (477, .iaload, 1, .null, 0),
  (478, .invokevirtual 61, 3, .null, 0),
  (481, .if_icmp .eq (434), 3, .null, 915),
  (484, .iconst 0, 1, (.int (0)), 0),
  (485, .ireturn, 1, .null, 0),
  (486, .aload_n 1, 1, .null, 1),
  (487, .aload_n 0, 1, .null, 0),
  (488, .iload_n 3, 1, .null, 3),
  (489, .iconst 1, 1, (.int (1)), 0),
  (490, .iadd, 1, .null, 0),
  (491, .iaload, 1, .null, 0),
  (492, .aload_n 0, 1, .null, 0),
  (493, .iload_n 3, 1, .null, 3),
  (494, .iconst 2, 1, (.int (2)), 0),
  (495, .iadd, 1, .null, 0),
  (496, .iaload, 1, .null, 0),
  (497, .aload_n 0, 1, .null, 0),
  (498, .iload_n 3, 1, .null, 3),
  (499, .iconst 3, 1, (.int (3)), 0),
  (500, .iadd, 1, .null, 0),
  (501, .iaload, 1, .null, 0),
  (502, .invokevirtual 62, 3, .null, 0),
  (505, .aload_n 2, 1, .null, 2),
  (506, .aload_n 0, 1, .null, 0),
  (507, .iload_n 3, 1, .null, 3),
  (508, .iconst 1, 1, (.int (1)), 0),
  (509, .iadd, 1, .null, 0),
  (510, .iaload, 1, .null, 0),
  (511, .aload_n 0, 1, .null, 0),
  (512, .iload_n 3, 1, .null, 3),
  (513, .iconst 2, 1, (.int (2)), 0),
  (514, .iadd, 1, .null, 0),
  (515, .iaload, 1, .null, 0),
  (516, .aload_n 0, 1, .null, 0),
  (517, .iload_n 3, 1, .null, 3),
  (518, .iconst 3, 1, (.int (3)), 0),
  (519, .iadd, 1, .null, 0),
  (520, .iaload, 1, .null, 0),
  (521, .invokevirtual 66, 3, .null, 0),
  (524, .if_icmp .eq (391), 3, .null, 915),
  (527, .iconst 0, 1, (.int (0)), 0),
  (528, .ireturn, 1, .null, 0),
  (529, .aload_n 1, 1, .null, 1),
  (530, .aload_n 0, 1, .null, 0),
  (531, .iload_n 3, 1, .null, 3),
  (532, .iconst 1, 1, (.int (1)), 0),
  (533, .iadd, 1, .null, 0),
  (534, .iaload, 1, .null, 0),
  (535, .aload_n 0, 1, .null, 0),
  (536, .iload_n 3, 1, .null, 3),
  (537, .iconst 2, 1, (.int (2)), 0),
  (538, .iadd, 1, .null, 0),
  (539, .iaload, 1, .null, 0),
  (540, .invokevirtual 67, 3, .null, 0),
  (543, .aload_n 2, 1, .null, 2),
  (544, .aload_n 0, 1, .null, 0),
  (545, .iload_n 3, 1, .null, 3),
  (546, .iconst 1, 1, (.int (1)), 0),
  (547, .iadd, 1, .null, 0),
  (548, .iaload, 1, .null, 0),
  (549, .aload_n 0, 1, .null, 0),
  (550, .iload_n 3, 1, .null, 3),
  (551, .iconst 2, 1, (.int (2)), 0),
  (552, .iadd, 1, .null, 0),
  (553, .iaload, 1, .null, 0),
  (554, .invokevirtual 71, 3, .null, 0),
  (557, .lcmp, 1, .null, 0),
  (558, .ifCond .eq (357), 3, .null, 915),
  (561, .iconst 0, 1, (.int (0)), 0),
  (562, .ireturn, 1, .null, 0),
  (563, .aload_n 1, 1, .null, 1),
  (564, .aload_n 0, 1, .null, 0),
  (565, .iload_n 3, 1, .null, 3),
  (566, .iconst 1, 1, (.int (1)), 0),
  (567, .iadd, 1, .null, 0),
  (568, .iaload, 1, .null, 0),
  (569, .invokevirtual 72, 3, .null, 0),
  (572, .aload_n 2, 1, .null, 2),
  (573, .aload_n 0, 1, .null, 0),
  (574, .iload_n 3, 1, .null, 3),
  (575, .iconst 1, 1, (.int (1)), 0),
  (576, .iadd, 1, .null, 0),
  (577, .iaload, 1, .null, 0),
  (578, .invokevirtual 75, 3, .null, 0),
  (581, .if_icmp .eq (334), 3, .null, 915),
  (584, .iconst 0, 1, (.int (0)), 0),
  (585, .ireturn, 1, .null, 0),
  (586, .aload_n 1, 1, .null, 1),
  (587, .aload_n 0, 1, .null, 0),
  (588, .iload_n 3, 1, .null, 3),
  (589, .iconst 1, 1, (.int (1)), 0),
  (590, .iadd, 1, .null, 0),
  (591, .iaload, 1, .null, 0),
  (592, .invokevirtual 76, 3, .null, 0),
  (595, .aload_n 2, 1, .null, 2),
  (596, .aload_n 0, 1, .null, 0),
  (597, .iload_n 3, 1, .null, 3),
  (598, .iconst 1, 1, (.int (1)), 0),
  (599, .iadd, 1, .null, 0),
  (600, .iaload, 1, .null, 0),
  (601, .invokevirtual 79, 3, .null, 0),
  (604, .if_icmp .eq (311), 3, .null, 915),
  (607, .iconst 0, 1, (.int (0)), 0),
  (608, .ireturn, 1, .null, 0),
  (609, .aload_n 1, 1, .null, 1),
  (610, .aload_n 0, 1, .null, 0),
  (611, .iload_n 3, 1, .null, 3),
  (612, .iconst 1, 1, (.int (1)), 0),
  (613, .iadd, 1, .null, 0),
  (614, .iaload, 1, .null, 0),
  (615, .aload_n 0, 1, .null, 0),
  (616, .iload_n 3, 1, .null, 3),
  (617, .iconst 2, 1, (.int (2)), 0),
  (618, .iadd, 1, .null, 0),
  (619, .iaload, 1, .null, 0),
  (620, .invokevirtual 80, 3, .null, 0),
  (623, .aload_n 2, 1, .null, 2),
  (624, .aload_n 0, 1, .null, 0),
  (625, .iload_n 3, 1, .null, 3),
  (626, .iconst 1, 1, (.int (1)), 0),
  (627, .iadd, 1, .null, 0),
  (628, .iaload, 1, .null, 0),
  (629, .aload_n 0, 1, .null, 0),
  (630, .iload_n 3, 1, .null, 3),
  (631, .iconst 2, 1, (.int (2)), 0),
  (632, .iadd, 1, .null, 0),
  (633, .iaload, 1, .null, 0),
  (634, .invokevirtual 83, 3, .null, 0),
  (637, .if_icmp .eq (278), 3, .null, 915),
  (640, .iconst 0, 1, (.int (0)), 0),
  (641, .ireturn, 1, .null, 0),
  (642, .aload_n 1, 1, .null, 1),
  (643, .aload_n 0, 1, .null, 0),
  (644, .iload_n 3, 1, .null, 3),
  (645, .iconst 1, 1, (.int (1)), 0),
  (646, .iadd, 1, .null, 0),
  (647, .iaload, 1, .null, 0),
  (648, .aload_n 0, 1, .null, 0),
  (649, .iload_n 3, 1, .null, 3),
  (650, .iconst 2, 1, (.int (2)), 0),
  (651, .iadd, 1, .null, 0),
  (652, .iaload, 1, .null, 0),
  (653, .invokevirtual 84, 3, .null, 0),
  (656, .aload_n 2, 1, .null, 2),
  (657, .aload_n 0, 1, .null, 0),
  (658, .iload_n 3, 1, .null, 3),
  (659, .iconst 1, 1, (.int (1)), 0),
  (660, .iadd, 1, .null, 0),
  (661, .iaload, 1, .null, 0),
  (662, .aload_n 0, 1, .null, 0),
  (663, .iload_n 3, 1, .null, 3),
  (664, .iconst 2, 1, (.int (2)), 0),
  (665, .iadd, 1, .null, 0),
  (666, .iaload, 1, .null, 0),
  (667, .invokevirtual 87, 3, .null, 0),
  (670, .if_icmp .eq (245), 3, .null, 915),
  (673, .iconst 0, 1, (.int (0)), 0),
  (674, .ireturn, 1, .null, 0),
  (675, .aload_n 1, 1, .null, 1),
  (676, .invokevirtual 88, 3, .null, 0),
  (679, .aload_n 2, 1, .null, 2),
  (680, .invokevirtual 91, 3, .null, 0),
  (683, .if_icmp .eq (232), 3, .null, 915),
  (686, .iconst 0, 1, (.int (0)), 0),
  (687, .ireturn, 1, .null, 0),
  (688, .aload_n 1, 1, .null, 1),
  (689, .aload_n 0, 1, .null, 0),
  (690, .iload_n 3, 1, .null, 3),
  (691, .iconst 1, 1, (.int (1)), 0),
  (692, .iadd, 1, .null, 0),
  (693, .iaload, 1, .null, 0),
  (694, .invokevirtual 92, 3, .null, 0),
  (697, .aload_n 2, 1, .null, 2),
  (698, .aload_n 0, 1, .null, 0),
  (699, .iload_n 3, 1, .null, 3),
  (700, .iconst 1, 1, (.int (1)), 0),
  (701, .iadd, 1, .null, 0),
  (702, .iaload, 1, .null, 0),
  (703, .invokevirtual 95, 3, .null, 0),
  (706, .if_icmp .eq (209), 3, .null, 915),
  (709, .iconst 0, 1, (.int (0)), 0),
  (710, .ireturn, 1, .null, 0),
  (711, .aload_n 1, 1, .null, 1),
  (712, .aload_n 0, 1, .null, 0),
  (713, .iload_n 3, 1, .null, 3),
  (714, .iconst 1, 1, (.int (1)), 0),
  (715, .iadd, 1, .null, 0),
  (716, .iaload, 1, .null, 0),
  (717, .aload_n 0, 1, .null, 0),
  (718, .iload_n 3, 1, .null, 3),
  (719, .iconst 2, 1, (.int (2)), 0),
  (720, .iadd, 1, .null, 0),
  (721, .iaload, 1, .null, 0),
  (722, .aload_n 0, 1, .null, 0),
  (723, .iload_n 3, 1, .null, 3),
  (724, .iconst 3, 1, (.int (3)), 0),
  (725, .iadd, 1, .null, 0),
  (726, .iaload, 1, .null, 0),
  (727, .aload_n 0, 1, .null, 0),
  (728, .iload_n 3, 1, .null, 3),
  (729, .iconst 4, 1, (.int (4)), 0),
  (730, .iadd, 1, .null, 0),
  (731, .iaload, 1, .null, 0),
  (732, .invokevirtual 96, 3, .null, 0),
  (735, .aload_n 2, 1, .null, 2),
  (736, .aload_n 0, 1, .null, 0),
  (737, .iload_n 3, 1, .null, 3),
  (738, .iconst 1, 1, (.int (1)), 0),
  (739, .iadd, 1, .null, 0),
  (740, .iaload, 1, .null, 0),
  (741, .aload_n 0, 1, .null, 0),
  (742, .iload_n 3, 1, .null, 3),
  (743, .iconst 2, 1, (.int (2)), 0),
  (744, .iadd, 1, .null, 0),
  (745, .iaload, 1, .null, 0),
  (746, .aload_n 0, 1, .null, 0),
  (747, .iload_n 3, 1, .null, 3),
  (748, .iconst 3, 1, (.int (3)), 0),
  (749, .iadd, 1, .null, 0),
  (750, .iaload, 1, .null, 0),
  (751, .aload_n 0, 1, .null, 0),
  (752, .iload_n 3, 1, .null, 3),
  (753, .iconst 4, 1, (.int (4)), 0),
  (754, .iadd, 1, .null, 0),
  (755, .iaload, 1, .null, 0),
  (756, .invokevirtual 100, 3, .null, 0),
  (759, .if_icmp .eq (156), 3, .null, 915),
  (762, .iconst 0, 1, (.int (0)), 0),
  (763, .ireturn, 1, .null, 0),
  (764, .aload_n 1, 1, .null, 1),
  (765, .aload_n 0, 1, .null, 0),
  (766, .iload_n 3, 1, .null, 3),
  (767, .iconst 1, 1, (.int (1)), 0),
  (768, .iadd, 1, .null, 0),
  (769, .iaload, 1, .null, 0),
  (770, .invokevirtual 101, 3, .null, 0),
  (773, .aload_n 2, 1, .null, 2),
  (774, .aload_n 0, 1, .null, 0),
  (775, .iload_n 3, 1, .null, 3),
  (776, .iconst 1, 1, (.int (1)), 0),
  (777, .iadd, 1, .null, 0),
  (778, .iaload, 1, .null, 0),
  (779, .invokevirtual 104, 3, .null, 0),
  (782, .if_icmp .eq (133), 3, .null, 915),
  (785, .iconst 0, 1, (.int (0)), 0),
  (786, .ireturn, 1, .null, 0),
  (787, .aload_n 1, 1, .null, 1),
  (788, .aload_n 0, 1, .null, 0),
  (789, .iload_n 3, 1, .null, 3),
  (790, .iconst 1, 1, (.int (1)), 0),
  (791, .iadd, 1, .null, 0),
  (792, .iaload, 1, .null, 0),
  (793, .invokevirtual 105, 3, .null, 0),
  (796, .aload_n 2, 1, .null, 2),
  (797, .aload_n 0, 1, .null, 0),
  (798, .iload_n 3, 1, .null, 3),
  (799, .iconst 1, 1, (.int (1)), 0),
  (800, .iadd, 1, .null, 0),
  (801, .iaload, 1, .null, 0),
  (802, .invokevirtual 108, 3, .null, 0),
  (805, .if_icmp .eq (110), 3, .null, 915),
  (808, .iconst 0, 1, (.int (0)), 0),
  (809, .ireturn, 1, .null, 0),
  (810, .aload_n 1, 1, .null, 1),
  (811, .aload_n 0, 1, .null, 0),
  (812, .iload_n 3, 1, .null, 3),
  (813, .iconst 1, 1, (.int (1)), 0),
  (814, .iadd, 1, .null, 0),
  (815, .iaload, 1, .null, 0),
  (816, .invokevirtual 109, 3, .null, 0),
  (819, .aload_n 2, 1, .null, 2),
  (820, .aload_n 0, 1, .null, 0),
  (821, .iload_n 3, 1, .null, 3),
  (822, .iconst 1, 1, (.int (1)), 0),
  (823, .iadd, 1, .null, 0),
  (824, .iaload, 1, .null, 0),
  (825, .invokevirtual 112, 3, .null, 0),
  (828, .if_icmp .eq (87), 3, .null, 915),
  (831, .iconst 0, 1, (.int (0)), 0),
  (832, .ireturn, 1, .null, 0),
  (833, .aload_n 1, 1, .null, 1),
  (834, .aload_n 0, 1, .null, 0),
  (835, .iload_n 3, 1, .null, 3),
  (836, .iconst 1, 1, (.int (1)), 0),
  (837, .iadd, 1, .null, 0),
  (838, .iaload, 1, .null, 0),
  (839, .aload_n 0, 1, .null, 0),
  (840, .iload_n 3, 1, .null, 3),
  (841, .iconst 2, 1, (.int (2)), 0),
  (842, .iadd, 1, .null, 0),
  (843, .iaload, 1, .null, 0),
  (844, .aload_n 0, 1, .null, 0),
  (845, .iload_n 3, 1, .null, 3),
  (846, .iconst 3, 1, (.int (3)), 0),
  (847, .iadd, 1, .null, 0),
  (848, .iaload, 1, .null, 0),
  (849, .ifCond .eq (7), 3, .null, 856),
  (852, .iconst 1, 1, (.int (1)), 0),
  (853, .goto (4), 3, .null, 857),
  (856, .iconst 0, 1, (.int (0)), 0),
  (857, .invokevirtual 113, 3, .null, 0),
  (860, .aload_n 2, 1, .null, 2),
  (861, .aload_n 0, 1, .null, 0),
  (862, .iload_n 3, 1, .null, 3),
  (863, .iconst 1, 1, (.int (1)), 0),
  (864, .iadd, 1, .null, 0),
  (865, .iaload, 1, .null, 0),
  (866, .aload_n 0, 1, .null, 0),
  (867, .iload_n 3, 1, .null, 3),
  (868, .iconst 2, 1, (.int (2)), 0),
  (869, .iadd, 1, .null, 0),
  (870, .iaload, 1, .null, 0),
  (871, .aload_n 0, 1, .null, 0),
  (872, .iload_n 3, 1, .null, 3),
  (873, .iconst 3, 1, (.int (3)), 0),
  (874, .iadd, 1, .null, 0),
  (875, .iaload, 1, .null, 0),
  (876, .ifCond .eq (7), 3, .null, 883),
  (879, .iconst 1, 1, (.int (1)), 0),
  (880, .goto (4), 3, .null, 884),
  (883, .iconst 0, 1, (.int (0)), 0),
  (884, .invokevirtual 117, 3, .null, 0),
  (887, .if_icmp .eq (28), 3, .null, 915),
  (890, .iconst 0, 1, (.int (0)), 0),
  (891, .ireturn, 1, .null, 0),
  (892, .aload_n 1, 1, .null, 1),
  (893, .aload_n 0, 1, .null, 0),
  (894, .iload_n 3, 1, .null, 3),
  (895, .iconst 1, 1, (.int (1)), 0),
  (896, .iadd, 1, .null, 0),
  (897, .iaload, 1, .null, 0),
  (898, .invokevirtual 118, 3, .null, 0),
  (901, .aload_n 2, 1, .null, 2),
  (902, .aload_n 0, 1, .null, 0),
  (903, .iload_n 3, 1, .null, 3),
  (904, .iconst 1, 1, (.int (1)), 0),
  (905, .iadd, 1, .null, 0),
  (906, .iaload, 1, .null, 0),
  (907, .invokevirtual 121, 3, .null, 0),
  (910, .if_icmp .eq (5), 3, .null, 915),
  (913, .iconst 0, 1, (.int (0)), 0),
  (914, .ireturn, 1, .null, 0),
  (915, .iinc 3 (5), 3, (.int (5)), 3),
  (918, .goto (-900), 3, .null, 18),
  (921, .iconst 1, 1, (.int (1)), 0),
  (922, .ireturn, 1, .null, 0)]
noncomputable def m_L_law : ab_M := (c_L_law, [(0, [0]), (18, [0, 1, 2, 3]), (857, [0, 1, 2, 3]), (884, [0, 1, 2, 3]), (915, [0, 1, 2, 3])],
  [],
  [(7, 10), (10, 11)],
  [(9, 2, 1, g_X10_init), (12, 2, 1, g_X11_init), (15, 1, 3, g_X10_collect), (19, 1, 3, g_X11_collect), (20, 1, 1, g_X10_forget), (24, 1, 1, g_X11_forget), (25, 1, 2, g_X10_begin), (29, 1, 2, g_X11_begin), (30, 1, 3, g_X10_add), (34, 1, 3, g_X11_add), (35, 1, 2, g_X10_done), (38, 1, 2, g_X11_done), (39, 1, 2, g_X10_find), (43, 1, 2, g_X11_find), (44, 1, 2, g_X10_state), (47, 1, 2, g_X11_state), (48, 1, 3, g_X10_count), (52, 1, 3, g_X11_count), (53, 1, 5, g_X10_arc), (57, 1, 5, g_X11_arc), (58, 1, 2, g_X10_number), (61, 1, 2, g_X11_number), (62, 1, 4, g_X10_term), (66, 1, 4, g_X11_term), (67, 1, 3, g_X10_out), (71, 1, 3, g_X11_out), (72, 1, 2, g_X10_ceiling), (75, 1, 2, g_X11_ceiling), (76, 1, 2, g_X10_prefix), (79, 1, 2, g_X11_prefix), (80, 1, 3, g_X10_cheapest), (83, 1, 3, g_X11_cheapest), (84, 1, 3, g_X10_meet), (87, 1, 3, g_X11_meet), (88, 1, 1, g_X10_fault), (91, 1, 1, g_X11_fault), (92, 1, 2, g_X10_row), (95, 1, 2, g_X11_row), (96, 1, 5, g_X10_join), (100, 1, 5, g_X11_join), (101, 1, 2, g_X10_packed), (104, 1, 2, g_X11_packed), (105, 1, 2, g_X10_sign), (108, 1, 2, g_X11_sign), (109, 1, 2, g_X10_load), (112, 1, 2, g_X11_load), (113, 1, 4, g_X10_walk), (117, 1, 4, g_X11_walk), (118, 1, 2, g_X10_next), (121, 1, 2, g_X11_next)],
  [(32, [(0, 144), (1, 207), (2, 220), (3, 243), (4, 306), (5, 329), (6, 353), (7, 376), (8, 409), (9, 463), (10, 486), (11, 529), (12, 563), (13, 586), (14, 609), (15, 642), (16, 675), (17, 688), (18, 711), (19, 764), (20, 787), (21, 810), (22, 833), (23, 892)], 915)], 4, 2)
theorem one_L_law : ab_oneM m_L_law := List.forall_mem_cons.mpr ⟨o_X10_init, List.forall_mem_cons.mpr ⟨o_X11_init, List.forall_mem_cons.mpr ⟨o_X10_collect, List.forall_mem_cons.mpr ⟨o_X11_collect, List.forall_mem_cons.mpr ⟨o_X10_forget, List.forall_mem_cons.mpr ⟨o_X11_forget, List.forall_mem_cons.mpr ⟨o_X10_begin, List.forall_mem_cons.mpr ⟨o_X11_begin, List.forall_mem_cons.mpr ⟨o_X10_add, List.forall_mem_cons.mpr ⟨o_X11_add, List.forall_mem_cons.mpr ⟨o_X10_done, List.forall_mem_cons.mpr ⟨o_X11_done, List.forall_mem_cons.mpr ⟨o_X10_find, List.forall_mem_cons.mpr ⟨o_X11_find, List.forall_mem_cons.mpr ⟨o_X10_state, List.forall_mem_cons.mpr ⟨o_X11_state, List.forall_mem_cons.mpr ⟨o_X10_count, List.forall_mem_cons.mpr ⟨o_X11_count, List.forall_mem_cons.mpr ⟨o_X10_arc, List.forall_mem_cons.mpr ⟨o_X11_arc, List.forall_mem_cons.mpr ⟨o_X10_number, List.forall_mem_cons.mpr ⟨o_X11_number, List.forall_mem_cons.mpr ⟨o_X10_term, List.forall_mem_cons.mpr ⟨o_X11_term, List.forall_mem_cons.mpr ⟨o_X10_out, List.forall_mem_cons.mpr ⟨o_X11_out, List.forall_mem_cons.mpr ⟨o_X10_ceiling, List.forall_mem_cons.mpr ⟨o_X11_ceiling, List.forall_mem_cons.mpr ⟨o_X10_prefix, List.forall_mem_cons.mpr ⟨o_X11_prefix, List.forall_mem_cons.mpr ⟨o_X10_cheapest, List.forall_mem_cons.mpr ⟨o_X11_cheapest, List.forall_mem_cons.mpr ⟨o_X10_meet, List.forall_mem_cons.mpr ⟨o_X11_meet, List.forall_mem_cons.mpr ⟨o_X10_fault, List.forall_mem_cons.mpr ⟨o_X11_fault, List.forall_mem_cons.mpr ⟨o_X10_row, List.forall_mem_cons.mpr ⟨o_X11_row, List.forall_mem_cons.mpr ⟨o_X10_join, List.forall_mem_cons.mpr ⟨o_X11_join, List.forall_mem_cons.mpr ⟨o_X10_packed, List.forall_mem_cons.mpr ⟨o_X11_packed, List.forall_mem_cons.mpr ⟨o_X10_sign, List.forall_mem_cons.mpr ⟨o_X11_sign, List.forall_mem_cons.mpr ⟨o_X10_load, List.forall_mem_cons.mpr ⟨o_X11_load, List.forall_mem_cons.mpr ⟨o_X10_walk, List.forall_mem_cons.mpr ⟨o_X11_walk, List.forall_mem_cons.mpr ⟨o_X10_next, List.forall_mem_cons.mpr ⟨o_X11_next, fun _ h => absurd h List.not_mem_nil⟩⟩⟩⟩⟩⟩⟩⟩⟩⟩⟩⟩⟩⟩⟩⟩⟩⟩⟩⟩⟩⟩⟩⟩⟩⟩⟩⟩⟩⟩⟩⟩⟩⟩⟩⟩⟩⟩⟩⟩⟩⟩⟩⟩⟩⟩⟩⟩⟩⟩
noncomputable def f_L_law (l0 : Nat) (st : ab_S) : Option ab_R := ab_lim m_L_law 0 [.ref l0] [] st
noncomputable def L_L_law_18 (l0 : Nat) (l1 : Nat) (l2 : Nat) (l3 : Int32) (st : ab_S) : Option ab_R := ab_lim m_L_law 18 [.ref l0, .ref l1, .ref l2, .int l3] [] st
noncomputable def L_L_law_857 (l0 : Nat) (l1 : Nat) (l2 : Nat) (l3 : Int32) (t0 : Nat) (t1 : Int32) (t2 : Int32) (t3 : Int32) (st : ab_S) : Option ab_R := ab_lim m_L_law 857 [.ref l0, .ref l1, .ref l2, .int l3] [.int t3, .int t2, .int t1, .ref t0] st
noncomputable def L_L_law_884 (l0 : Nat) (l1 : Nat) (l2 : Nat) (l3 : Int32) (t0 : Int32) (t1 : Nat) (t2 : Int32) (t3 : Int32) (t4 : Int32) (st : ab_S) : Option ab_R := ab_lim m_L_law 884 [.ref l0, .ref l1, .ref l2, .int l3] [.int t4, .int t3, .int t2, .ref t1, .int t0] st
noncomputable def L_L_law_915 (l0 : Nat) (l1 : Nat) (l2 : Nat) (l3 : Int32) (st : ab_S) : Option ab_R := ab_lim m_L_law 915 [.ref l0, .ref l1, .ref l2, .int l3] [] st
noncomputable def g_L_law : ab_G := fun as st k => match as with
  | [.ref a0] => ab_ri (f_L_law a0 st) (fun x t => k [.int x] t)
  | _ => none
theorem o_L_law : ab_one g_L_law := by
  intro as st k r h
  unfold g_L_law at h ⊢
  split at h
  · exact one_ri h
  · cases h
set_option maxRecDepth 100000 in
theorem e_L_law_0 (l0 : Nat) (st : ab_S) : f_L_law l0 st =
    ab_newo st 10 fun o1 s2 =>
    ab_rv (f_X10_init o1 s2) fun s3 =>
    ab_newo s3 11 fun o4 s5 =>
    ab_rv (f_X11_init o4 s5) fun s6 =>
    L_L_law_18 l0 o1 o4 (0 : Int32) s6 := (lm_eq one_L_law 0 _ _ _).trans rfl
set_option maxRecDepth 100000 in
theorem e_L_law_18 (l0 : Nat) (l1 : Nat) (l2 : Nat) (l3 : Int32) (st : ab_S) : L_L_law_18 l0 l1 l2 l3 st =
    Option.bind (ab_n st l0) fun n1 =>
    if ((Int32.ofNat n1) - (5 : Int32)) < l3
    then ab_z (1 : Int32) (some (some (.int (1 : Int32)), st))
    else Option.bind (ab_rI st l0 l3) fun x2 =>
      if (x2 &&& (31 : Int32)) = 0 then Option.bind (ab_rI st l0 (l3 + (1 : Int32))) fun x3 =>
        Option.bind (ab_rI st l0 (l3 + (2 : Int32))) fun x4 =>
        Option.bind (ab_rI st l0 (l3 + (3 : Int32))) fun x5 =>
        ab_ri (f_X10_collect l1 ((x3.toInt64 <<< ((32 : Int32).toInt64 &&& 63)) ||| (x4.toInt64 &&& (4294967295 : Int64))) x5 st) fun x7 s6 =>
        Option.bind (ab_rI s6 l0 (l3 + (1 : Int32))) fun x8 =>
        Option.bind (ab_rI s6 l0 (l3 + (2 : Int32))) fun x9 =>
        Option.bind (ab_rI s6 l0 (l3 + (3 : Int32))) fun x10 =>
        ab_ri (f_X11_collect l2 ((x8.toInt64 <<< ((32 : Int32).toInt64 &&& 63)) ||| (x9.toInt64 &&& (4294967295 : Int64))) x10 s6) fun x12 s11 =>
        if x7 = x12
        then L_L_law_915 l0 l1 l2 l3 s11
        else ab_z (0 : Int32) (some (some (.int (0 : Int32)), s11))
      else if (x2 &&& (31 : Int32)) = 1 then ab_ri (f_X10_forget l1 st) fun x14 s13 =>
        ab_ri (f_X11_forget l2 s13) fun x16 s15 =>
        if x14 = x16
        then L_L_law_915 l0 l1 l2 l3 s15
        else ab_z (0 : Int32) (some (some (.int (0 : Int32)), s15))
      else if (x2 &&& (31 : Int32)) = 2 then Option.bind (ab_rI st l0 (l3 + (1 : Int32))) fun x17 =>
        ab_ri (f_X10_begin l1 x17 st) fun x19 s18 =>
        Option.bind (ab_rI s18 l0 (l3 + (1 : Int32))) fun x20 =>
        ab_ri (f_X11_begin l2 x20 s18) fun x22 s21 =>
        if x19 = x22
        then L_L_law_915 l0 l1 l2 l3 s21
        else ab_z (0 : Int32) (some (some (.int (0 : Int32)), s21))
      else if (x2 &&& (31 : Int32)) = 3 then Option.bind (ab_rI st l0 (l3 + (1 : Int32))) fun x23 =>
        Option.bind (ab_rI st l0 (l3 + (2 : Int32))) fun x24 =>
        Option.bind (ab_rI st l0 (l3 + (3 : Int32))) fun x25 =>
        ab_ri (f_X10_add l1 x23 ((x24.toInt64 <<< ((32 : Int32).toInt64 &&& 63)) ||| (x25.toInt64 &&& (4294967295 : Int64))) st) fun x27 s26 =>
        Option.bind (ab_rI s26 l0 (l3 + (1 : Int32))) fun x28 =>
        Option.bind (ab_rI s26 l0 (l3 + (2 : Int32))) fun x29 =>
        Option.bind (ab_rI s26 l0 (l3 + (3 : Int32))) fun x30 =>
        ab_ri (f_X11_add l2 x28 ((x29.toInt64 <<< ((32 : Int32).toInt64 &&& 63)) ||| (x30.toInt64 &&& (4294967295 : Int64))) s26) fun x32 s31 =>
        if x27 = x32
        then L_L_law_915 l0 l1 l2 l3 s31
        else ab_z (0 : Int32) (some (some (.int (0 : Int32)), s31))
      else if (x2 &&& (31 : Int32)) = 4 then Option.bind (ab_rI st l0 (l3 + (1 : Int32))) fun x33 =>
        ab_ri (f_X10_done l1 x33 st) fun x35 s34 =>
        Option.bind (ab_rI s34 l0 (l3 + (1 : Int32))) fun x36 =>
        ab_ri (f_X11_done l2 x36 s34) fun x38 s37 =>
        if x35 = x38
        then L_L_law_915 l0 l1 l2 l3 s37
        else ab_z (0 : Int32) (some (some (.int (0 : Int32)), s37))
      else if (x2 &&& (31 : Int32)) = 5 then Option.bind (ab_rI st l0 (l3 + (1 : Int32))) fun x39 =>
        ab_rl (f_X10_find l1 x39 st) fun x41 s40 =>
        Option.bind (ab_rI s40 l0 (l3 + (1 : Int32))) fun x42 =>
        ab_rl (f_X11_find l2 x42 s40) fun x44 s43 =>
        if (lg_cmp x41 x44) = 0
        then L_L_law_915 l0 l1 l2 l3 s43
        else ab_z (0 : Int32) (some (some (.int (0 : Int32)), s43))
      else if (x2 &&& (31 : Int32)) = 6 then Option.bind (ab_rI st l0 (l3 + (1 : Int32))) fun x45 =>
        ab_ri (f_X10_state l1 x45 st) fun x47 s46 =>
        Option.bind (ab_rI s46 l0 (l3 + (1 : Int32))) fun x48 =>
        ab_ri (f_X11_state l2 x48 s46) fun x50 s49 =>
        if x47 = x50
        then L_L_law_915 l0 l1 l2 l3 s49
        else ab_z (0 : Int32) (some (some (.int (0 : Int32)), s49))
      else if (x2 &&& (31 : Int32)) = 7 then Option.bind (ab_rI st l0 (l3 + (1 : Int32))) fun x51 =>
        Option.bind (ab_rI st l0 (l3 + (2 : Int32))) fun x52 =>
        ab_ri (f_X10_count l1 x51 x52 st) fun x54 s53 =>
        Option.bind (ab_rI s53 l0 (l3 + (1 : Int32))) fun x55 =>
        Option.bind (ab_rI s53 l0 (l3 + (2 : Int32))) fun x56 =>
        ab_ri (f_X11_count l2 x55 x56 s53) fun x58 s57 =>
        if x54 = x58
        then L_L_law_915 l0 l1 l2 l3 s57
        else ab_z (0 : Int32) (some (some (.int (0 : Int32)), s57))
      else if (x2 &&& (31 : Int32)) = 8 then Option.bind (ab_rI st l0 (l3 + (1 : Int32))) fun x59 =>
        Option.bind (ab_rI st l0 (l3 + (2 : Int32))) fun x60 =>
        Option.bind (ab_rI st l0 (l3 + (3 : Int32))) fun x61 =>
        Option.bind (ab_rI st l0 (l3 + (4 : Int32))) fun x62 =>
        ab_rl (f_X10_arc l1 x59 x60 x61 x62 st) fun x64 s63 =>
        Option.bind (ab_rI s63 l0 (l3 + (1 : Int32))) fun x65 =>
        Option.bind (ab_rI s63 l0 (l3 + (2 : Int32))) fun x66 =>
        Option.bind (ab_rI s63 l0 (l3 + (3 : Int32))) fun x67 =>
        Option.bind (ab_rI s63 l0 (l3 + (4 : Int32))) fun x68 =>
        ab_rl (f_X11_arc l2 x65 x66 x67 x68 s63) fun x70 s69 =>
        if (lg_cmp x64 x70) = 0
        then L_L_law_915 l0 l1 l2 l3 s69
        else ab_z (0 : Int32) (some (some (.int (0 : Int32)), s69))
      else if (x2 &&& (31 : Int32)) = 9 then Option.bind (ab_rI st l0 (l3 + (1 : Int32))) fun x71 =>
        ab_ri (f_X10_number l1 x71 st) fun x73 s72 =>
        Option.bind (ab_rI s72 l0 (l3 + (1 : Int32))) fun x74 =>
        ab_ri (f_X11_number l2 x74 s72) fun x76 s75 =>
        if x73 = x76
        then L_L_law_915 l0 l1 l2 l3 s75
        else ab_z (0 : Int32) (some (some (.int (0 : Int32)), s75))
      else if (x2 &&& (31 : Int32)) = 10 then Option.bind (ab_rI st l0 (l3 + (1 : Int32))) fun x77 =>
        Option.bind (ab_rI st l0 (l3 + (2 : Int32))) fun x78 =>
        Option.bind (ab_rI st l0 (l3 + (3 : Int32))) fun x79 =>
        ab_ri (f_X10_term l1 x77 x78 x79 st) fun x81 s80 =>
        Option.bind (ab_rI s80 l0 (l3 + (1 : Int32))) fun x82 =>
        Option.bind (ab_rI s80 l0 (l3 + (2 : Int32))) fun x83 =>
        Option.bind (ab_rI s80 l0 (l3 + (3 : Int32))) fun x84 =>
        ab_ri (f_X11_term l2 x82 x83 x84 s80) fun x86 s85 =>
        if x81 = x86
        then L_L_law_915 l0 l1 l2 l3 s85
        else ab_z (0 : Int32) (some (some (.int (0 : Int32)), s85))
      else if (x2 &&& (31 : Int32)) = 11 then Option.bind (ab_rI st l0 (l3 + (1 : Int32))) fun x87 =>
        Option.bind (ab_rI st l0 (l3 + (2 : Int32))) fun x88 =>
        ab_rl (f_X10_out l1 x87 x88 st) fun x90 s89 =>
        Option.bind (ab_rI s89 l0 (l3 + (1 : Int32))) fun x91 =>
        Option.bind (ab_rI s89 l0 (l3 + (2 : Int32))) fun x92 =>
        ab_rl (f_X11_out l2 x91 x92 s89) fun x94 s93 =>
        if (lg_cmp x90 x94) = 0
        then L_L_law_915 l0 l1 l2 l3 s93
        else ab_z (0 : Int32) (some (some (.int (0 : Int32)), s93))
      else if (x2 &&& (31 : Int32)) = 12 then Option.bind (ab_rI st l0 (l3 + (1 : Int32))) fun x95 =>
        ab_ri (f_X10_ceiling l1 x95 st) fun x97 s96 =>
        Option.bind (ab_rI s96 l0 (l3 + (1 : Int32))) fun x98 =>
        ab_ri (f_X11_ceiling l2 x98 s96) fun x100 s99 =>
        if x97 = x100
        then L_L_law_915 l0 l1 l2 l3 s99
        else ab_z (0 : Int32) (some (some (.int (0 : Int32)), s99))
      else if (x2 &&& (31 : Int32)) = 13 then Option.bind (ab_rI st l0 (l3 + (1 : Int32))) fun x101 =>
        ab_ri (f_X10_prefix l1 x101 st) fun x103 s102 =>
        Option.bind (ab_rI s102 l0 (l3 + (1 : Int32))) fun x104 =>
        ab_ri (f_X11_prefix l2 x104 s102) fun x106 s105 =>
        if x103 = x106
        then L_L_law_915 l0 l1 l2 l3 s105
        else ab_z (0 : Int32) (some (some (.int (0 : Int32)), s105))
      else if (x2 &&& (31 : Int32)) = 14 then Option.bind (ab_rI st l0 (l3 + (1 : Int32))) fun x107 =>
        Option.bind (ab_rI st l0 (l3 + (2 : Int32))) fun x108 =>
        ab_ri (f_X10_cheapest l1 x107 x108 st) fun x110 s109 =>
        Option.bind (ab_rI s109 l0 (l3 + (1 : Int32))) fun x111 =>
        Option.bind (ab_rI s109 l0 (l3 + (2 : Int32))) fun x112 =>
        ab_ri (f_X11_cheapest l2 x111 x112 s109) fun x114 s113 =>
        if x110 = x114
        then L_L_law_915 l0 l1 l2 l3 s113
        else ab_z (0 : Int32) (some (some (.int (0 : Int32)), s113))
      else if (x2 &&& (31 : Int32)) = 15 then Option.bind (ab_rI st l0 (l3 + (1 : Int32))) fun x115 =>
        Option.bind (ab_rI st l0 (l3 + (2 : Int32))) fun x116 =>
        ab_ri (f_X10_meet l1 x115 x116 st) fun x118 s117 =>
        Option.bind (ab_rI s117 l0 (l3 + (1 : Int32))) fun x119 =>
        Option.bind (ab_rI s117 l0 (l3 + (2 : Int32))) fun x120 =>
        ab_ri (f_X11_meet l2 x119 x120 s117) fun x122 s121 =>
        if x118 = x122
        then L_L_law_915 l0 l1 l2 l3 s121
        else ab_z (0 : Int32) (some (some (.int (0 : Int32)), s121))
      else if (x2 &&& (31 : Int32)) = 16 then ab_ri (f_X10_fault l1 st) fun x124 s123 =>
        ab_ri (f_X11_fault l2 s123) fun x126 s125 =>
        if x124 = x126
        then L_L_law_915 l0 l1 l2 l3 s125
        else ab_z (0 : Int32) (some (some (.int (0 : Int32)), s125))
      else if (x2 &&& (31 : Int32)) = 17 then Option.bind (ab_rI st l0 (l3 + (1 : Int32))) fun x127 =>
        ab_ri (f_X10_row l1 x127 st) fun x129 s128 =>
        Option.bind (ab_rI s128 l0 (l3 + (1 : Int32))) fun x130 =>
        ab_ri (f_X11_row l2 x130 s128) fun x132 s131 =>
        if x129 = x132
        then L_L_law_915 l0 l1 l2 l3 s131
        else ab_z (0 : Int32) (some (some (.int (0 : Int32)), s131))
      else if (x2 &&& (31 : Int32)) = 18 then Option.bind (ab_rI st l0 (l3 + (1 : Int32))) fun x133 =>
        Option.bind (ab_rI st l0 (l3 + (2 : Int32))) fun x134 =>
        Option.bind (ab_rI st l0 (l3 + (3 : Int32))) fun x135 =>
        Option.bind (ab_rI st l0 (l3 + (4 : Int32))) fun x136 =>
        ab_ri (f_X10_join l1 x133 x134 x135 x136 st) fun x138 s137 =>
        Option.bind (ab_rI s137 l0 (l3 + (1 : Int32))) fun x139 =>
        Option.bind (ab_rI s137 l0 (l3 + (2 : Int32))) fun x140 =>
        Option.bind (ab_rI s137 l0 (l3 + (3 : Int32))) fun x141 =>
        Option.bind (ab_rI s137 l0 (l3 + (4 : Int32))) fun x142 =>
        ab_ri (f_X11_join l2 x139 x140 x141 x142 s137) fun x144 s143 =>
        if x138 = x144
        then L_L_law_915 l0 l1 l2 l3 s143
        else ab_z (0 : Int32) (some (some (.int (0 : Int32)), s143))
      else if (x2 &&& (31 : Int32)) = 19 then Option.bind (ab_rI st l0 (l3 + (1 : Int32))) fun x145 =>
        ab_ri (f_X10_packed l1 x145 st) fun x147 s146 =>
        Option.bind (ab_rI s146 l0 (l3 + (1 : Int32))) fun x148 =>
        ab_ri (f_X11_packed l2 x148 s146) fun x150 s149 =>
        if x147 = x150
        then L_L_law_915 l0 l1 l2 l3 s149
        else ab_z (0 : Int32) (some (some (.int (0 : Int32)), s149))
      else if (x2 &&& (31 : Int32)) = 20 then Option.bind (ab_rI st l0 (l3 + (1 : Int32))) fun x151 =>
        ab_ri (f_X10_sign l1 x151 st) fun x153 s152 =>
        Option.bind (ab_rI s152 l0 (l3 + (1 : Int32))) fun x154 =>
        ab_ri (f_X11_sign l2 x154 s152) fun x156 s155 =>
        if x153 = x156
        then L_L_law_915 l0 l1 l2 l3 s155
        else ab_z (0 : Int32) (some (some (.int (0 : Int32)), s155))
      else if (x2 &&& (31 : Int32)) = 21 then Option.bind (ab_rI st l0 (l3 + (1 : Int32))) fun x157 =>
        ab_ri (f_X10_load l1 x157 st) fun x159 s158 =>
        Option.bind (ab_rI s158 l0 (l3 + (1 : Int32))) fun x160 =>
        ab_ri (f_X11_load l2 x160 s158) fun x162 s161 =>
        if x159 = x162
        then L_L_law_915 l0 l1 l2 l3 s161
        else ab_z (0 : Int32) (some (some (.int (0 : Int32)), s161))
      else if (x2 &&& (31 : Int32)) = 22 then Option.bind (ab_rI st l0 (l3 + (1 : Int32))) fun x163 =>
        Option.bind (ab_rI st l0 (l3 + (2 : Int32))) fun x164 =>
        Option.bind (ab_rI st l0 (l3 + (3 : Int32))) fun x165 =>
        if x165 = 0
        then L_L_law_857 l0 l1 l2 l3 l1 x163 x164 (0 : Int32) st
        else L_L_law_857 l0 l1 l2 l3 l1 x163 x164 (1 : Int32) st
      else if (x2 &&& (31 : Int32)) = 23 then Option.bind (ab_rI st l0 (l3 + (1 : Int32))) fun x166 =>
        ab_ri (f_X10_next l1 x166 st) fun x168 s167 =>
        Option.bind (ab_rI s167 l0 (l3 + (1 : Int32))) fun x169 =>
        ab_ri (f_X11_next l2 x169 s167) fun x171 s170 =>
        if x168 = x171
        then L_L_law_915 l0 l1 l2 l3 s170
        else ab_z (0 : Int32) (some (some (.int (0 : Int32)), s170))
      else L_L_law_915 l0 l1 l2 l3 st := (lm_eq one_L_law 18 _ _ _).trans rfl
set_option maxRecDepth 100000 in
theorem e_L_law_857 (l0 : Nat) (l1 : Nat) (l2 : Nat) (l3 : Int32) (t0 : Nat) (t1 : Int32) (t2 : Int32) (t3 : Int32) (st : ab_S) : L_L_law_857 l0 l1 l2 l3 t0 t1 t2 t3 st =
    ab_ri (f_X10_walk t0 t1 t2 t3 st) fun x2 s1 =>
    Option.bind (ab_rI s1 l0 (l3 + (1 : Int32))) fun x3 =>
    Option.bind (ab_rI s1 l0 (l3 + (2 : Int32))) fun x4 =>
    Option.bind (ab_rI s1 l0 (l3 + (3 : Int32))) fun x5 =>
    if x5 = 0
    then L_L_law_884 l0 l1 l2 l3 x2 l2 x3 x4 (0 : Int32) s1
    else L_L_law_884 l0 l1 l2 l3 x2 l2 x3 x4 (1 : Int32) s1 := (lm_eq one_L_law 857 _ _ _).trans rfl
set_option maxRecDepth 100000 in
theorem e_L_law_884 (l0 : Nat) (l1 : Nat) (l2 : Nat) (l3 : Int32) (t0 : Int32) (t1 : Nat) (t2 : Int32) (t3 : Int32) (t4 : Int32) (st : ab_S) : L_L_law_884 l0 l1 l2 l3 t0 t1 t2 t3 t4 st =
    ab_ri (f_X11_walk t1 t2 t3 t4 st) fun x2 s1 =>
    if t0 = x2
    then L_L_law_915 l0 l1 l2 l3 s1
    else ab_z (0 : Int32) (some (some (.int (0 : Int32)), s1)) := (lm_eq one_L_law 884 _ _ _).trans rfl
set_option maxRecDepth 100000 in
theorem e_L_law_915 (l0 : Nat) (l1 : Nat) (l2 : Nat) (l3 : Int32) (st : ab_S) : L_L_law_915 l0 l1 l2 l3 st =
    L_L_law_18 l0 l1 l2 (l3 + (5 : Int32)) st := (lm_eq one_L_law 915 _ _ _).trans rfl
