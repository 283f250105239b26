def c_X11_isWild : List (Nat × ab_I) := [(0, .aload_n 0, 1, .null, 0),
  (1, .getfield 16, 3, .null, 0),
  (4, .sipush (200), 3, (.int (200)), 0),
  (7, .iload_n 1, 1, .null, 1),
  (8, .imul, 1, .null, 0),
  (9, .iload_n 2, 1, .null, 2),
  (10, .iadd, 1, .null, 0),
  (11, .iaload, 1, .null, 0),
  (12, .istore 4, 2, .null, 4),
  (14, .iconst 0, 1, (.int (0)), 0),
  (15, .istore 5, 2, .null, 5),
  (17, .iload 5, 2, .null, 5),
  (19, .iload_n 3, 1, .null, 3),
  (20, .if_icmp .gt (197), 3, .null, 217),
  (23, .iconst 0, 1, (.int (0)), 0),
  (24, .istore 6, 2, .null, 6),
  (26, .iload 6, 2, .null, 6),
  (28, .iload 4, 2, .null, 4),
  (30, .if_icmp .gt (181), 3, .null, 211),
  (33, .iload 5, 2, .null, 5),
  (35, .ifCond .ne (18), 3, .null, 53),
  (38, .iload 6, 2, .null, 6),
  (40, .ifCond .ne (7), 3, .null, 47),
  (43, .iconst 1, 1, (.int (1)), 0),
  (44, .goto (4), 3, .null, 48),
  (47, .iconst 0, 1, (.int (0)), 0),
  (48, .istore 7, 2, .null, 7),
  (50, .goto (140), 3, .null, 190),
  (53, .aload_n 0, 1, .null, 0),
  (54, .getfield 7, 3, .null, 0),
  (57, .iload 5, 2, .null, 5),
  (59, .iconst 1, 1, (.int (1)), 0),
  (60, .isub, 1, .null, 0),
  (61, .baload, 1, .null, 0),
  (62, .bipush (42), 2, (.int (42)), 0),
  (64, .if_icmp .ne (54), 3, .null, 118),
  (67, .aload_n 0, 1, .null, 0),
  (68, .getfield 108, 3, .null, 0),
  (71, .bipush (14), 2, (.int (14)), 0),
  (73, .iload 5, 2, .null, 5),
  (75, .iconst 1, 1, (.int (1)), 0),
  (76, .isub, 1, .null, 0),
  (77, .imul, 1, .null, 0),
  (78, .iload 6, 2, .null, 6),
  (80, .iadd, 1, .null, 0),
  (81, .baload, 1, .null, 0),
  (82, .ifCond .ne (26), 3, .null, 108),
  (85, .iload 6, 2, .null, 6),
  (87, .ifCond .le (25), 3, .null, 112),
  (90, .aload_n 0, 1, .null, 0),
  (91, .getfield 108, 3, .null, 0),
  (94, .bipush (14), 2, (.int (14)), 0),
  (96, .iload 5, 2, .null, 5),
  (98, .imul, 1, .null, 0),
  (99, .iload 6, 2, .null, 6),
  (101, .iadd, 1, .null, 0),
  (102, .iconst 1, 1, (.int (1)), 0),
  (103, .isub, 1, .null, 0),
  (104, .baload, 1, .null, 0),
  (105, .ifCond .eq (7), 3, .null, 112),
  (108, .iconst 1, 1, (.int (1)), 0),
  (109, .goto (4), 3, .null, 113),
  (112, .iconst 0, 1, (.int (0)), 0),
  (113, .istore 7, 2, .null, 7),
  (115, .goto (75), 3, .null, 190),
  (118, .iload 6, 2, .null, 6),
  (120, .ifCond .le (67), 3, .null, 187),
  (123, .aload_n 0, 1, .null, 0),
  (124, .getfield 108, 3, .null, 0),
  (127, .bipush (14), 2, (.int (14)), 0),
  (129, .iload 5, 2, .null, 5),
  (131, .iconst 1, 1, (.int (1)), 0),
  (132, .isub, 1, .null, 0),
  (133, .imul, 1, .null, 0),
  (134, .iload 6, 2, .null, 6),
  (136, .iadd, 1, .null, 0),
  (137, .iconst 1, 1, (.int (1)), 0),
  (138, .isub, 1, .null, 0),
  (139, .baload, 1, .null, 0),
  (140, .ifCond .eq (47), 3, .null, 187),
  (143, .aload_n 0, 1, .null, 0),
  (144, .getfield 7, 3, .null, 0),
  (147, .iload 5, 2, .null, 5),
  (149, .iconst 1, 1, (.int (1)), 0),
  (150, .isub, 1, .null, 0),
  (151, .baload, 1, .null, 0),
  (152, .bipush (63), 2, (.int (63)), 0),
  (154, .if_icmp .eq (29), 3, .null, 183),
  (157, .aload_n 0, 1, .null, 0),
  (158, .getfield 7, 3, .null, 0),
  (161, .iload 5, 2, .null, 5),
  (163, .iconst 1, 1, (.int (1)), 0),
  (164, .isub, 1, .null, 0),
  (165, .baload, 1, .null, 0),
  (166, .sipush (255), 3, (.int (255)), 0),
  (169, .iand, 1, .null, 0),
  (170, .aload_n 0, 1, .null, 0),
  (171, .iload_n 1, 1, .null, 1),
  (172, .iload_n 2, 1, .null, 2),
  (173, .iload 6, 2, .null, 6),
  (175, .iconst 1, 1, (.int (1)), 0),
  (176, .isub, 1, .null, 0),
  (177, .invokevirtual 153, 3, .null, 0),
  (180, .if_icmp .ne (7), 3, .null, 187),
  (183, .iconst 1, 1, (.int (1)), 0),
  (184, .goto (4), 3, .null, 188),
  (187, .iconst 0, 1, (.int (0)), 0),
  (188, .istore 7, 2, .null, 7),
  (190, .aload_n 0, 1, .null, 0),
  (191, .getfield 108, 3, .null, 0),
  (194, .bipush (14), 2, (.int (14)), 0),
  (196, .iload 5, 2, .null, 5),
  (198, .imul, 1, .null, 0),
  (199, .iload 6, 2, .null, 6),
  (201, .iadd, 1, .null, 0),
  (202, .iload 7, 2, .null, 7),
  (204, .bastore, 1, .null, 0),
  (205, .iinc 6 (1), 3, (.int (1)), 6),
  (208, .goto (-182), 3, .null, 26),
  (211, .iinc 5 (1), 3, (.int (1)), 5),
  (214, .goto (-197), 3, .null, 17),
  (217, .aload_n 0, 1, .null, 0),
  (218, .getfield 108, 3, .null, 0),
  (221, .bipush (14), 2, (.int (14)), 0),
  (223, .iload_n 3, 1, .null, 3),
  (224, .imul, 1, .null, 0),
  (225, .iload 4, 2, .null, 4),
  (227, .iadd, 1, .null, 0),
  (228, .baload, 1, .null, 0),
  (229, .ireturn, 1, .null, 0)]
noncomputable def m_X11_isWild : ab_M := (c_X11_isWild, [(0, [0, 1, 2, 3]), (17, [0, 1, 2, 3, 4, 5]), (26, [0, 1, 2, 3, 4, 5, 6]), (48, [0, 1, 2, 3, 4, 5, 6]), (108, [0, 1, 2, 3, 4, 5, 6]), (112, [0, 1, 2, 3, 4, 5, 6]), (113, [0, 1, 2, 3, 4, 5, 6]), (183, [0, 1, 2, 3, 4, 5, 6]), (187, [0, 1, 2, 3, 4, 5, 6]), (188, [0, 1, 2, 3, 4, 5, 6]), (190, [0, 1, 2, 3, 4, 5, 6, 7])],
  [(7, 11, 0, 3), (16, 11, 3, 3), (108, 11, 43, 3)],
  [],
  [(153, 1, 4, g_X11_letter)],
  [], 8, 2)
theorem one_X11_isWild : ab_oneM m_X11_isWild := List.forall_mem_cons.mpr ⟨o_X11_letter, fun _ h => absurd h List.not_mem_nil⟩
noncomputable def f_X11_isWild (l0 : Nat) (l1 : Int32) (l2 : Int32) (l3 : Int32) (st : ab_S) : Option ab_R := ab_rc st l0 11 (ab_lim m_X11_isWild 0 [.ref l0, .int l1, .int l2, .int l3] [] st)
noncomputable def L_X11_isWild_17 (l0 : Nat) (l1 : Int32) (l2 : Int32) (l3 : Int32) (l4 : Int32) (l5 : Int32) (st : ab_S) : Option ab_R := ab_lim m_X11_isWild 17 [.ref l0, .int l1, .int l2, .int l3, .int l4, .int l5] [] st
noncomputable def L_X11_isWild_26 (l0 : Nat) (l1 : Int32) (l2 : Int32) (l3 : Int32) (l4 : Int32) (l5 : Int32) (l6 : Int32) (st : ab_S) : Option ab_R := ab_lim m_X11_isWild 26 [.ref l0, .int l1, .int l2, .int l3, .int l4, .int l5, .int l6] [] st
noncomputable def L_X11_isWild_48 (l0 : Nat) (l1 : Int32) (l2 : Int32) (l3 : Int32) (l4 : Int32) (l5 : Int32) (l6 : Int32) (t0 : Int32) (st : ab_S) : Option ab_R := ab_lim m_X11_isWild 48 [.ref l0, .int l1, .int l2, .int l3, .int l4, .int l5, .int l6] [.int t0] st
noncomputable def L_X11_isWild_108 (l0 : Nat) (l1 : Int32) (l2 : Int32) (l3 : Int32) (l4 : Int32) (l5 : Int32) (l6 : Int32) (st : ab_S) : Option ab_R := ab_lim m_X11_isWild 108 [.ref l0, .int l1, .int l2, .int l3, .int l4, .int l5, .int l6] [] st
noncomputable def L_X11_isWild_112 (l0 : Nat) (l1 : Int32) (l2 : Int32) (l3 : Int32) (l4 : Int32) (l5 : Int32) (l6 : Int32) (st : ab_S) : Option ab_R := ab_lim m_X11_isWild 112 [.ref l0, .int l1, .int l2, .int l3, .int l4, .int l5, .int l6] [] st
noncomputable def L_X11_isWild_113 (l0 : Nat) (l1 : Int32) (l2 : Int32) (l3 : Int32) (l4 : Int32) (l5 : Int32) (l6 : Int32) (t0 : Int32) (st : ab_S) : Option ab_R := ab_lim m_X11_isWild 113 [.ref l0, .int l1, .int l2, .int l3, .int l4, .int l5, .int l6] [.int t0] st
noncomputable def L_X11_isWild_183 (l0 : Nat) (l1 : Int32) (l2 : Int32) (l3 : Int32) (l4 : Int32) (l5 : Int32) (l6 : Int32) (st : ab_S) : Option ab_R := ab_lim m_X11_isWild 183 [.ref l0, .int l1, .int l2, .int l3, .int l4, .int l5, .int l6] [] st
noncomputable def L_X11_isWild_187 (l0 : Nat) (l1 : Int32) (l2 : Int32) (l3 : Int32) (l4 : Int32) (l5 : Int32) (l6 : Int32) (st : ab_S) : Option ab_R := ab_lim m_X11_isWild 187 [.ref l0, .int l1, .int l2, .int l3, .int l4, .int l5, .int l6] [] st
noncomputable def L_X11_isWild_188 (l0 : Nat) (l1 : Int32) (l2 : Int32) (l3 : Int32) (l4 : Int32) (l5 : Int32) (l6 : Int32) (t0 : Int32) (st : ab_S) : Option ab_R := ab_lim m_X11_isWild 188 [.ref l0, .int l1, .int l2, .int l3, .int l4, .int l5, .int l6] [.int t0] st
noncomputable def L_X11_isWild_190 (l0 : Nat) (l1 : Int32) (l2 : Int32) (l3 : Int32) (l4 : Int32) (l5 : Int32) (l6 : Int32) (l7 : Int32) (st : ab_S) : Option ab_R := ab_lim m_X11_isWild 190 [.ref l0, .int l1, .int l2, .int l3, .int l4, .int l5, .int l6, .int l7] [] st
noncomputable def g_X11_isWild : ab_G := fun as st k => match as with
  | [.ref a0, .int a1, .int a2, .int a3] => ab_ri (f_X11_isWild a0 a1 a2 a3 st) (fun x t => k [.int x] t)
  | _ => none
theorem o_X11_isWild : ab_one g_X11_isWild := by
  intro as st k r h
  unfold g_X11_isWild at h ⊢
  split at h
  · exact one_ri h
  · cases h
set_option maxRecDepth 100000 in
theorem e_X11_isWild_0 (l0 : Nat) (l1 : Int32) (l2 : Int32) (l3 : Int32) (st : ab_S) : f_X11_isWild l0 l1 l2 l3 st =
    ab_rc st l0 11 (
    Option.bind (ab_gR st l0 11 3) fun x1 =>
    Option.bind (ab_rI st x1 (((200 : Int32) * l1) + l2)) fun x2 =>
    L_X11_isWild_17 l0 l1 l2 l3 x2 (0 : Int32) st) := congrArg (ab_rc st l0 11) ((lm_eq one_X11_isWild 0 _ _ _).trans rfl)
set_option maxRecDepth 100000 in
theorem e_X11_isWild_17 (l0 : Nat) (l1 : Int32) (l2 : Int32) (l3 : Int32) (l4 : Int32) (l5 : Int32) (st : ab_S) : L_X11_isWild_17 l0 l1 l2 l3 l4 l5 st =
    if l3 < l5
    then Option.bind (ab_gR st l0 11 43) fun x1 =>
      Option.bind (ab_rB st x1 (((14 : Int32) * l3) + l4)) fun x2 =>
      ab_z x2 (some (some (.int x2), st))
    else L_X11_isWild_26 l0 l1 l2 l3 l4 l5 (0 : Int32) st := (lm_eq one_X11_isWild 17 _ _ _).trans rfl
set_option maxRecDepth 100000 in
theorem e_X11_isWild_26 (l0 : Nat) (l1 : Int32) (l2 : Int32) (l3 : Int32) (l4 : Int32) (l5 : Int32) (l6 : Int32) (st : ab_S) : L_X11_isWild_26 l0 l1 l2 l3 l4 l5 l6 st =
    if l4 < l6
    then L_X11_isWild_17 l0 l1 l2 l3 l4 (l5 + (1 : Int32)) st
    else if l5 = 0
      then if l6 = 0
        then L_X11_isWild_48 l0 l1 l2 l3 l4 l5 l6 (1 : Int32) st
        else L_X11_isWild_48 l0 l1 l2 l3 l4 l5 l6 (0 : Int32) st
      else Option.bind (ab_gR st l0 11 0) fun x1 =>
        Option.bind (ab_rB st x1 (l5 - (1 : Int32))) fun x2 =>
        if x2 = (42 : Int32)
        then Option.bind (ab_gR st l0 11 43) fun x3 =>
          Option.bind (ab_rB st x3 (((14 : Int32) * (l5 - (1 : Int32))) + l6)) fun x4 =>
          if x4 = 0
          then if l6 ≤ 0
            then L_X11_isWild_112 l0 l1 l2 l3 l4 l5 l6 st
            else Option.bind (ab_gR st l0 11 43) fun x5 =>
              Option.bind (ab_rB st x5 ((((14 : Int32) * l5) + l6) - (1 : Int32))) fun x6 =>
              if x6 = 0
              then L_X11_isWild_112 l0 l1 l2 l3 l4 l5 l6 st
              else L_X11_isWild_108 l0 l1 l2 l3 l4 l5 l6 st
          else L_X11_isWild_108 l0 l1 l2 l3 l4 l5 l6 st
        else if l6 ≤ 0
          then L_X11_isWild_187 l0 l1 l2 l3 l4 l5 l6 st
          else Option.bind (ab_gR st l0 11 43) fun x7 =>
            Option.bind (ab_rB st x7 ((((14 : Int32) * (l5 - (1 : Int32))) + l6) - (1 : Int32))) fun x8 =>
            if x8 = 0
            then L_X11_isWild_187 l0 l1 l2 l3 l4 l5 l6 st
            else Option.bind (ab_gR st l0 11 0) fun x9 =>
              Option.bind (ab_rB st x9 (l5 - (1 : Int32))) fun x10 =>
              if x10 = (63 : Int32)
              then L_X11_isWild_183 l0 l1 l2 l3 l4 l5 l6 st
              else Option.bind (ab_gR st l0 11 0) fun x11 =>
                Option.bind (ab_rB st x11 (l5 - (1 : Int32))) fun x12 =>
                ab_ri (f_X11_letter l0 l1 l2 (l6 - (1 : Int32)) st) fun x14 s13 =>
                if (x12 &&& (255 : Int32)) = x14
                then L_X11_isWild_183 l0 l1 l2 l3 l4 l5 l6 s13
                else L_X11_isWild_187 l0 l1 l2 l3 l4 l5 l6 s13 := (lm_eq one_X11_isWild 26 _ _ _).trans rfl
set_option maxRecDepth 100000 in
theorem e_X11_isWild_48 (l0 : Nat) (l1 : Int32) (l2 : Int32) (l3 : Int32) (l4 : Int32) (l5 : Int32) (l6 : Int32) (t0 : Int32) (st : ab_S) : L_X11_isWild_48 l0 l1 l2 l3 l4 l5 l6 t0 st =
    L_X11_isWild_190 l0 l1 l2 l3 l4 l5 l6 t0 st := (lm_eq one_X11_isWild 48 _ _ _).trans rfl
set_option maxRecDepth 100000 in
theorem e_X11_isWild_108 (l0 : Nat) (l1 : Int32) (l2 : Int32) (l3 : Int32) (l4 : Int32) (l5 : Int32) (l6 : Int32) (st : ab_S) : L_X11_isWild_108 l0 l1 l2 l3 l4 l5 l6 st =
    L_X11_isWild_113 l0 l1 l2 l3 l4 l5 l6 (1 : Int32) st := (lm_eq one_X11_isWild 108 _ _ _).trans rfl
set_option maxRecDepth 100000 in
theorem e_X11_isWild_112 (l0 : Nat) (l1 : Int32) (l2 : Int32) (l3 : Int32) (l4 : Int32) (l5 : Int32) (l6 : Int32) (st : ab_S) : L_X11_isWild_112 l0 l1 l2 l3 l4 l5 l6 st =
    L_X11_isWild_113 l0 l1 l2 l3 l4 l5 l6 (0 : Int32) st := (lm_eq one_X11_isWild 112 _ _ _).trans rfl
set_option maxRecDepth 100000 in
theorem e_X11_isWild_113 (l0 : Nat) (l1 : Int32) (l2 : Int32) (l3 : Int32) (l4 : Int32) (l5 : Int32) (l6 : Int32) (t0 : Int32) (st : ab_S) : L_X11_isWild_113 l0 l1 l2 l3 l4 l5 l6 t0 st =
    L_X11_isWild_190 l0 l1 l2 l3 l4 l5 l6 t0 st := (lm_eq one_X11_isWild 113 _ _ _).trans rfl
set_option maxRecDepth 100000 in
theorem e_X11_isWild_183 (l0 : Nat) (l1 : Int32) (l2 : Int32) (l3 : Int32) (l4 : Int32) (l5 : Int32) (l6 : Int32) (st : ab_S) : L_X11_isWild_183 l0 l1 l2 l3 l4 l5 l6 st =
    L_X11_isWild_188 l0 l1 l2 l3 l4 l5 l6 (1 : Int32) st := (lm_eq one_X11_isWild 183 _ _ _).trans rfl
set_option maxRecDepth 100000 in
theorem e_X11_isWild_187 (l0 : Nat) (l1 : Int32) (l2 : Int32) (l3 : Int32) (l4 : Int32) (l5 : Int32) (l6 : Int32) (st : ab_S) : L_X11_isWild_187 l0 l1 l2 l3 l4 l5 l6 st =
    L_X11_isWild_188 l0 l1 l2 l3 l4 l5 l6 (0 : Int32) st := (lm_eq one_X11_isWild 187 _ _ _).trans rfl
set_option maxRecDepth 100000 in
theorem e_X11_isWild_188 (l0 : Nat) (l1 : Int32) (l2 : Int32) (l3 : Int32) (l4 : Int32) (l5 : Int32) (l6 : Int32) (t0 : Int32) (st : ab_S) : L_X11_isWild_188 l0 l1 l2 l3 l4 l5 l6 t0 st =
    L_X11_isWild_190 l0 l1 l2 l3 l4 l5 l6 t0 st := (lm_eq one_X11_isWild 188 _ _ _).trans rfl
set_option maxRecDepth 100000 in
theorem e_X11_isWild_190 (l0 : Nat) (l1 : Int32) (l2 : Int32) (l3 : Int32) (l4 : Int32) (l5 : Int32) (l6 : Int32) (l7 : Int32) (st : ab_S) : L_X11_isWild_190 l0 l1 l2 l3 l4 l5 l6 l7 st =
    Option.bind (ab_gR st l0 11 43) fun x1 =>
    Option.bind (ab_wB st x1 (((14 : Int32) * l5) + l6) l7) fun s2 =>
    L_X11_isWild_26 l0 l1 l2 l3 l4 l5 (l6 + (1 : Int32)) s2 := (lm_eq one_X11_isWild 190 _ _ _).trans rfl
def c_X11_close : List (Nat × ab_I) := [(0, .iconst 1, 1, (.int (1)), 0),
  (1, .istore_n 2, 1, .null, 2),
  (2, .iload_n 2, 1, .null, 2),
  (3, .ifCond .eq (67), 3, .null, 70),
  (6, .iconst 0, 1, (.int (0)), 0),
  (7, .istore_n 2, 1, .null, 2),
  (8, .iconst 0, 1, (.int (0)), 0),
  (9, .istore_n 3, 1, .null, 3),
  (10, .iload_n 3, 1, .null, 3),
  (11, .aload_n 0, 1, .null, 0),
  (12, .getfield 251, 3, .null, 0),
  (15, .if_icmp .ge (52), 3, .null, 67),
  (18, .aload_n 0, 1, .null, 0),
  (19, .getfield 84, 3, .null, 0),
  (22, .iload_n 3, 1, .null, 3),
  (23, .iaload, 1, .null, 0),
  (24, .iconst (-1), 1, (.int (-1)), 0),
  (25, .if_icmp .ne (36), 3, .null, 61),
  (28, .aload_n 1, 1, .null, 1),
  (29, .aload_n 0, 1, .null, 0),
  (30, .getfield 78, 3, .null, 0),
  (33, .iload_n 3, 1, .null, 3),
  (34, .iaload, 1, .null, 0),
  (35, .baload, 1, .null, 0),
  (36, .ifCond .eq (25), 3, .null, 61),
  (39, .aload_n 1, 1, .null, 1),
  (40, .aload_n 0, 1, .null, 0),
  (41, .getfield 81, 3, .null, 0),
  (44, .iload_n 3, 1, .null, 3),
  (45, .iaload, 1, .null, 0),
  (46, .baload, 1, .null, 0),
  (47, .ifCond .ne (14), 3, .null, 61),
  (50, .aload_n 1, 1, .null, 1),
  (51, .aload_n 0, 1, .null, 0),
  (52, .getfield 81, 3, .null, 0),
  (55, .iload_n 3, 1, .null, 3),
  (56, .iaload, 1, .null, 0),
  (57, .iconst 1, 1, (.int (1)), 0),
  (58, .bastore, 1, .null, 0),
  (59, .iconst 1, 1, (.int (1)), 0),
  (60, .istore_n 2, 1, .null, 2),
  (61, .iinc 3 (1), 3, (.int (1)), 3),
  (64, .goto (-54), 3, .null, 10),
  (67, .goto (-65), 3, .null, 2),
  (70, .return_, 1, .null, 0)]
noncomputable def m_X11_close : ab_M := (c_X11_close, [(0, [0, 1]), (2, [0, 1, 2]), (10, [0, 1, 2, 3]), (61, [0, 1, 2, 3])],
  [(78, 11, 26, 3), (81, 11, 27, 3), (84, 11, 28, 3), (251, 11, 29, 0)],
  [],
  [],
  [], 4, 0)
theorem one_X11_close : ab_oneM m_X11_close := fun _ h => absurd h List.not_mem_nil
noncomputable def f_X11_close (l0 : Nat) (l1 : Nat) (st : ab_S) : Option ab_R := ab_rc st l0 11 (ab_lim m_X11_close 0 [.ref l0, .ref l1] [] st)
noncomputable def L_X11_close_2 (l0 : Nat) (l1 : Nat) (l2 : Int32) (st : ab_S) : Option ab_R := ab_lim m_X11_close 2 [.ref l0, .ref l1, .int l2] [] st
noncomputable def L_X11_close_10 (l0 : Nat) (l1 : Nat) (l2 : Int32) (l3 : Int32) (st : ab_S) : Option ab_R := ab_lim m_X11_close 10 [.ref l0, .ref l1, .int l2, .int l3] [] st
noncomputable def L_X11_close_61 (l0 : Nat) (l1 : Nat) (l2 : Int32) (l3 : Int32) (st : ab_S) : Option ab_R := ab_lim m_X11_close 61 [.ref l0, .ref l1, .int l2, .int l3] [] st
noncomputable def g_X11_close : ab_G := fun as st k => match as with
  | [.ref a0, .ref a1] => ab_rv (f_X11_close a0 a1 st) (fun t => k [] t)
  | _ => none
theorem o_X11_close : ab_one g_X11_close := by
  intro as st k r h
  unfold g_X11_close at h ⊢
  split at h
  · exact one_rv h
  · cases h
set_option maxRecDepth 100000 in
theorem e_X11_close_0 (l0 : Nat) (l1 : Nat) (st : ab_S) : f_X11_close l0 l1 st =
    ab_rc st l0 11 (
    L_X11_close_2 l0 l1 (1 : Int32) st) := congrArg (ab_rc st l0 11) ((lm_eq one_X11_close 0 _ _ _).trans rfl)
set_option maxRecDepth 100000 in
theorem e_X11_close_2 (l0 : Nat) (l1 : Nat) (l2 : Int32) (st : ab_S) : L_X11_close_2 l0 l1 l2 st =
    if l2 = 0
    then some (none, st)
    else L_X11_close_10 l0 l1 (0 : Int32) (0 : Int32) st := (lm_eq one_X11_close 2 _ _ _).trans rfl
set_option maxRecDepth 100000 in
theorem e_X11_close_10 (l0 : Nat) (l1 : Nat) (l2 : Int32) (l3 : Int32) (st : ab_S) : L_X11_close_10 l0 l1 l2 l3 st =
    Option.bind (ab_gI st l0 11 29) fun x1 =>
    if x1 ≤ l3
    then L_X11_close_2 l0 l1 l2 st
    else Option.bind (ab_gR st l0 11 28) fun x2 =>
      Option.bind (ab_rI st x2 l3) fun x3 =>
      if x3 = (-1 : Int32)
      then Option.bind (ab_gR st l0 11 26) fun x4 =>
        Option.bind (ab_rI st x4 l3) fun x5 =>
        Option.bind (ab_rB st l1 x5) fun x6 =>
        if x6 = 0
        then L_X11_close_61 l0 l1 l2 l3 st
        else Option.bind (ab_gR st l0 11 27) fun x7 =>
          Option.bind (ab_rI st x7 l3) fun x8 =>
          Option.bind (ab_rB st l1 x8) fun x9 =>
          if x9 = 0
          then Option.bind (ab_gR st l0 11 27) fun x10 =>
            Option.bind (ab_rI st x10 l3) fun x11 =>
            Option.bind (ab_wB st l1 x11 (1 : Int32)) fun s12 =>
            L_X11_close_61 l0 l1 (1 : Int32) l3 s12
          else L_X11_close_61 l0 l1 l2 l3 st
      else L_X11_close_61 l0 l1 l2 l3 st := (lm_eq one_X11_close 10 _ _ _).trans rfl
set_option maxRecDepth 100000 in
theorem e_X11_close_61 (l0 : Nat) (l1 : Nat) (l2 : Int32) (l3 : Int32) (st : ab_S) : L_X11_close_61 l0 l1 l2 l3 st =
    L_X11_close_10 l0 l1 l2 (l3 + (1 : Int32)) st := (lm_eq one_X11_close 61 _ _ _).trans rfl
def c_X11_isPattern : List (Nat × ab_I) := [(0, .iconst 0, 1, (.int (0)), 0),
  (1, .istore_n 3, 1, .null, 3),
  (2, .iload_n 3, 1, .null, 3),
  (3, .aload_n 0, 1, .null, 0),
  (4, .getfield 254, 3, .null, 0),
  (7, .if_icmp .ge (24), 3, .null, 31),
  (10, .aload_n 0, 1, .null, 0),
  (11, .getfield 102, 3, .null, 0),
  (14, .iload_n 3, 1, .null, 3),
  (15, .iload_n 3, 1, .null, 3),
  (16, .ifCond .ne (7), 3, .null, 23),
  (19, .iconst 1, 1, (.int (1)), 0),
  (20, .goto (4), 3, .null, 24),
  (23, .iconst 0, 1, (.int (0)), 0),
  (24, .bastore, 1, .null, 0),
  (25, .iinc 3 (1), 3, (.int (1)), 3),
  (28, .goto (-26), 3, .null, 2),
  (31, .aload_n 0, 1, .null, 0),
  (32, .aload_n 0, 1, .null, 0),
  (33, .getfield 102, 3, .null, 0),
  (36, .invokevirtual 313, 3, .null, 0),
  (39, .iconst 0, 1, (.int (0)), 0),
  (40, .istore_n 3, 1, .null, 3),
  (41, .iload_n 3, 1, .null, 3),
  (42, .aload_n 0, 1, .null, 0),
  (43, .getfield 16, 3, .null, 0),
  (46, .sipush (200), 3, (.int (200)), 0),
  (49, .iload_n 1, 1, .null, 1),
  (50, .imul, 1, .null, 0),
  (51, .iload_n 2, 1, .null, 2),
  (52, .iadd, 1, .null, 0),
  (53, .iaload, 1, .null, 0),
  (54, .if_icmp .ge (159), 3, .null, 213),
  (57, .iconst 0, 1, (.int (0)), 0),
  (58, .istore 4, 2, .null, 4),
  (60, .iload 4, 2, .null, 4),
  (62, .aload_n 0, 1, .null, 0),
  (63, .getfield 254, 3, .null, 0),
  (66, .if_icmp .ge (17), 3, .null, 83),
  (69, .aload_n 0, 1, .null, 0),
  (70, .getfield 105, 3, .null, 0),
  (73, .iload 4, 2, .null, 4),
  (75, .iconst 0, 1, (.int (0)), 0),
  (76, .bastore, 1, .null, 0),
  (77, .iinc 4 (1), 3, (.int (1)), 4),
  (80, .goto (-20), 3, .null, 60),
  (83, .iconst 0, 1, (.int (0)), 0),
  (84, .istore 4, 2, .null, 4),
  (86, .iload 4, 2, .null, 4),
  (88, .aload_n 0, 1, .null, 0),
  (89, .getfield 251, 3, .null, 0),
  (92, .if_icmp .ge (75), 3, .null, 167),
  (95, .aload_n 0, 1, .null, 0),
  (96, .getfield 84, 3, .null, 0),
  (99, .iload 4, 2, .null, 4),
  (101, .iaload, 1, .null, 0),
  (102, .iconst (-1), 1, (.int (-1)), 0),
  (103, .if_icmp .eq (58), 3, .null, 161),
  (106, .aload_n 0, 1, .null, 0),
  (107, .getfield 102, 3, .null, 0),
  (110, .aload_n 0, 1, .null, 0),
  (111, .getfield 78, 3, .null, 0),
  (114, .iload 4, 2, .null, 4),
  (116, .iaload, 1, .null, 0),
  (117, .baload, 1, .null, 0),
  (118, .ifCond .eq (43), 3, .null, 161),
  (121, .aload_n 0, 1, .null, 0),
  (122, .getfield 87, 3, .null, 0),
  (125, .sipush (256), 3, (.int (256)), 0),
  (128, .aload_n 0, 1, .null, 0),
  (129, .getfield 84, 3, .null, 0),
  (132, .iload 4, 2, .null, 4),
  (134, .iaload, 1, .null, 0),
  (135, .imul, 1, .null, 0),
  (136, .aload_n 0, 1, .null, 0),
  (137, .iload_n 1, 1, .null, 1),
  (138, .iload_n 2, 1, .null, 2),
  (139, .iload_n 3, 1, .null, 3),
  (140, .invokevirtual 153, 3, .null, 0),
  (143, .iadd, 1, .null, 0),
  (144, .baload, 1, .null, 0),
  (145, .ifCond .eq (16), 3, .null, 161),
  (148, .aload_n 0, 1, .null, 0),
  (149, .getfield 105, 3, .null, 0),
  (152, .aload_n 0, 1, .null, 0),
  (153, .getfield 81, 3, .null, 0),
  (156, .iload 4, 2, .null, 4),
  (158, .iaload, 1, .null, 0),
  (159, .iconst 1, 1, (.int (1)), 0),
  (160, .bastore, 1, .null, 0),
  (161, .iinc 4 (1), 3, (.int (1)), 4),
  (164, .goto (-78), 3, .null, 86),
  (167, .aload_n 0, 1, .null, 0),
  (168, .aload_n 0, 1, .null, 0),
  (169, .getfield 105, 3, .null, 0),
  (172, .invokevirtual 313, 3, .null, 0),
  (175, .iconst 0, 1, (.int (0)), 0),
  (176, .istore 4, 2, .null, 4),
  (178, .iload 4, 2, .null, 4),
  (180, .aload_n 0, 1, .null, 0),
  (181, .getfield 254, 3, .null, 0),
  (184, .if_icmp .ge (23), 3, .null, 207),
  (187, .aload_n 0, 1, .null, 0),
  (188, .getfield 102, 3, .null, 0),
  (191, .iload 4, 2, .null, 4),
  (193, .aload_n 0, 1, .null, 0),
  (194, .getfield 105, 3, .null, 0),
  (197, .iload 4, 2, .null, 4),
  (199, .baload, 1, .null, 0),
  (200, .bastore, 1, .null, 0),
  (201, .iinc 4 (1), 3, (.int (1)), 4),
  (204, .goto (-26), 3, .null, 178),
  (207, .iinc 3 (1), 3, (.int (1)), 3),
  (210, .goto (-169), 3, .null, 41),
  (213, .aload_n 0, 1, .null, 0),
  (214, .getfield 102, 3, .null, 0),
  (217, .aload_n 0, 1, .null, 0),
  (218, .getfield 292, 3, .null, 0),
  (221, .baload, 1, .null, 0),
  (222, .ireturn, 1, .null, 0)]
noncomputable def m_X11_isPattern : ab_M := (c_X11_isPattern, [(0, [0, 1, 2]), (2, [0, 1, 2, 3]), (24, [0, 1, 2, 3]), (41, [0, 1, 2, 3]), (60, [0, 1, 2, 3, 4]), (86, [0, 1, 2, 3, 4]), (161, [0, 1, 2, 3, 4]), (178, [0, 1, 2, 3, 4])],
  [(16, 11, 3, 3), (78, 11, 26, 3), (81, 11, 27, 3), (84, 11, 28, 3), (87, 11, 31, 3), (102, 11, 41, 3), (105, 11, 42, 3), (251, 11, 29, 0), (254, 11, 30, 0), (292, 11, 36, 0)],
  [],
  [(153, 1, 4, g_X11_letter), (313, 1, 2, g_X11_close)],
  [], 5, 2)
theorem one_X11_isPattern : ab_oneM m_X11_isPattern := List.forall_mem_cons.mpr ⟨o_X11_letter, List.forall_mem_cons.mpr ⟨o_X11_close, fun _ h => absurd h List.not_mem_nil⟩⟩
noncomputable def f_X11_isPattern (l0 : Nat) (l1 : Int32) (l2 : Int32) (st : ab_S) : Option ab_R := ab_rc st l0 11 (ab_lim m_X11_isPattern 0 [.ref l0, .int l1, .int l2] [] st)
noncomputable def L_X11_isPattern_2 (l0 : Nat) (l1 : Int32) (l2 : Int32) (l3 : Int32) (st : ab_S) : Option ab_R := ab_lim m_X11_isPattern 2 [.ref l0, .int l1, .int l2, .int l3] [] st
noncomputable def L_X11_isPattern_24 (l0 : Nat) (l1 : Int32) (l2 : Int32) (l3 : Int32) (t0 : Nat) (t1 : Int32) (t2 : Int32) (st : ab_S) : Option ab_R := ab_lim m_X11_isPattern 24 [.ref l0, .int l1, .int l2, .int l3] [.int t2, .int t1, .ref t0] st
noncomputable def L_X11_isPattern_41 (l0 : Nat) (l1 : Int32) (l2 : Int32) (l3 : Int32) (st : ab_S) : Option ab_R := ab_lim m_X11_isPattern 41 [.ref l0, .int l1, .int l2, .int l3] [] st
noncomputable def L_X11_isPattern_60 (l0 : Nat) (l1 : Int32) (l2 : Int32) (l3 : Int32) (l4 : Int32) (st : ab_S) : Option ab_R := ab_lim m_X11_isPattern 60 [.ref l0, .int l1, .int l2, .int l3, .int l4] [] st
noncomputable def L_X11_isPattern_86 (l0 : Nat) (l1 : Int32) (l2 : Int32) (l3 : Int32) (l4 : Int32) (st : ab_S) : Option ab_R := ab_lim m_X11_isPattern 86 [.ref l0, .int l1, .int l2, .int l3, .int l4] [] st
noncomputable def L_X11_isPattern_161 (l0 : Nat) (l1 : Int32) (l2 : Int32) (l3 : Int32) (l4 : Int32) (st : ab_S) : Option ab_R := ab_lim m_X11_isPattern 161 [.ref l0, .int l1, .int l2, .int l3, .int l4] [] st
noncomputable def L_X11_isPattern_178 (l0 : Nat) (l1 : Int32) (l2 : Int32) (l3 : Int32) (l4 : Int32) (st : ab_S) : Option ab_R := ab_lim m_X11_isPattern 178 [.ref l0, .int l1, .int l2, .int l3, .int l4] [] st
noncomputable def g_X11_isPattern : ab_G := fun as st k => match as with
  | [.ref a0, .int a1, .int a2] => ab_ri (f_X11_isPattern a0 a1 a2 st) (fun x t => k [.int x] t)
  | _ => none
theorem o_X11_isPattern : ab_one g_X11_isPattern := by
  intro as st k r h
  unfold g_X11_isPattern at h ⊢
  split at h
  · exact one_ri h
  · cases h
set_option maxRecDepth 100000 in
theorem e_X11_isPattern_0 (l0 : Nat) (l1 : Int32) (l2 : Int32) (st : ab_S) : f_X11_isPattern l0 l1 l2 st =
    ab_rc st l0 11 (
    L_X11_isPattern_2 l0 l1 l2 (0 : Int32) st) := congrArg (ab_rc st l0 11) ((lm_eq one_X11_isPattern 0 _ _ _).trans rfl)
set_option maxRecDepth 100000 in
theorem e_X11_isPattern_2 (l0 : Nat) (l1 : Int32) (l2 : Int32) (l3 : Int32) (st : ab_S) : L_X11_isPattern_2 l0 l1 l2 l3 st =
    Option.bind (ab_gI st l0 11 30) fun x1 =>
    if x1 ≤ l3
    then Option.bind (ab_gR st l0 11 41) fun x2 =>
      ab_rv (f_X11_close l0 x2 st) fun s3 =>
      L_X11_isPattern_41 l0 l1 l2 (0 : Int32) s3
    else Option.bind (ab_gR st l0 11 41) fun x4 =>
      if l3 = 0
      then L_X11_isPattern_24 l0 l1 l2 l3 x4 l3 (1 : Int32) st
      else L_X11_isPattern_24 l0 l1 l2 l3 x4 l3 (0 : Int32) st := (lm_eq one_X11_isPattern 2 _ _ _).trans rfl
set_option maxRecDepth 100000 in
theorem e_X11_isPattern_24 (l0 : Nat) (l1 : Int32) (l2 : Int32) (l3 : Int32) (t0 : Nat) (t1 : Int32) (t2 : Int32) (st : ab_S) : L_X11_isPattern_24 l0 l1 l2 l3 t0 t1 t2 st =
    Option.bind (ab_wB st t0 t1 t2) fun s1 =>
    L_X11_isPattern_2 l0 l1 l2 (l3 + (1 : Int32)) s1 := (lm_eq one_X11_isPattern 24 _ _ _).trans rfl
set_option maxRecDepth 100000 in
theorem e_X11_isPattern_41 (l0 : Nat) (l1 : Int32) (l2 : Int32) (l3 : Int32) (st : ab_S) : L_X11_isPattern_41 l0 l1 l2 l3 st =
    Option.bind (ab_gR st l0 11 3) fun x1 =>
    Option.bind (ab_rI st x1 (((200 : Int32) * l1) + l2)) fun x2 =>
    if x2 ≤ l3
    then Option.bind (ab_gR st l0 11 41) fun x3 =>
      Option.bind (ab_gI st l0 11 36) fun x4 =>
      Option.bind (ab_rB st x3 x4) fun x5 =>
      ab_z x5 (some (some (.int x5), st))
    else L_X11_isPattern_60 l0 l1 l2 l3 (0 : Int32) st := (lm_eq one_X11_isPattern 41 _ _ _).trans rfl
set_option maxRecDepth 100000 in
theorem e_X11_isPattern_60 (l0 : Nat) (l1 : Int32) (l2 : Int32) (l3 : Int32) (l4 : Int32) (st : ab_S) : L_X11_isPattern_60 l0 l1 l2 l3 l4 st =
    Option.bind (ab_gI st l0 11 30) fun x1 =>
    if x1 ≤ l4
    then L_X11_isPattern_86 l0 l1 l2 l3 (0 : Int32) st
    else Option.bind (ab_gR st l0 11 42) fun x2 =>
      Option.bind (ab_wB st x2 l4 (0 : Int32)) fun s3 =>
      L_X11_isPattern_60 l0 l1 l2 l3 (l4 + (1 : Int32)) s3 := (lm_eq one_X11_isPattern 60 _ _ _).trans rfl
set_option maxRecDepth 100000 in
theorem e_X11_isPattern_86 (l0 : Nat) (l1 : Int32) (l2 : Int32) (l3 : Int32) (l4 : Int32) (st : ab_S) : L_X11_isPattern_86 l0 l1 l2 l3 l4 st =
    Option.bind (ab_gI st l0 11 29) fun x1 =>
    if x1 ≤ l4
    then Option.bind (ab_gR st l0 11 42) fun x2 =>
      ab_rv (f_X11_close l0 x2 st) fun s3 =>
      L_X11_isPattern_178 l0 l1 l2 l3 (0 : Int32) s3
    else Option.bind (ab_gR st l0 11 28) fun x4 =>
      Option.bind (ab_rI st x4 l4) fun x5 =>
      if x5 = (-1 : Int32)
      then L_X11_isPattern_161 l0 l1 l2 l3 l4 st
      else Option.bind (ab_gR st l0 11 41) fun x6 =>
        Option.bind (ab_gR st l0 11 26) fun x7 =>
        Option.bind (ab_rI st x7 l4) fun x8 =>
        Option.bind (ab_rB st x6 x8) fun x9 =>
        if x9 = 0
        then L_X11_isPattern_161 l0 l1 l2 l3 l4 st
        else Option.bind (ab_gR st l0 11 31) fun x10 =>
          Option.bind (ab_gR st l0 11 28) fun x11 =>
          Option.bind (ab_rI st x11 l4) fun x12 =>
          ab_ri (f_X11_letter l0 l1 l2 l3 st) fun x14 s13 =>
          Option.bind (ab_rB s13 x10 (((256 : Int32) * x12) + x14)) fun x15 =>
          if x15 = 0
          then L_X11_isPattern_161 l0 l1 l2 l3 l4 s13
          else Option.bind (ab_gR s13 l0 11 42) fun x16 =>
            Option.bind (ab_gR s13 l0 11 27) fun x17 =>
            Option.bind (ab_rI s13 x17 l4) fun x18 =>
            Option.bind (ab_wB s13 x16 x18 (1 : Int32)) fun s19 =>
            L_X11_isPattern_161 l0 l1 l2 l3 l4 s19 := (lm_eq one_X11_isPattern 86 _ _ _).trans rfl
set_option maxRecDepth 100000 in
theorem e_X11_isPattern_161 (l0 : Nat) (l1 : Int32) (l2 : Int32) (l3 : Int32) (l4 : Int32) (st : ab_S) : L_X11_isPattern_161 l0 l1 l2 l3 l4 st =
    L_X11_isPattern_86 l0 l1 l2 l3 (l4 + (1 : Int32)) st := (lm_eq one_X11_isPattern 161 _ _ _).trans rfl
set_option maxRecDepth 100000 in
theorem e_X11_isPattern_178 (l0 : Nat) (l1 : Int32) (l2 : Int32) (l3 : Int32) (l4 : Int32) (st : ab_S) : L_X11_isPattern_178 l0 l1 l2 l3 l4 st =
    Option.bind (ab_gI st l0 11 30) fun x1 =>
    if x1 ≤ l4
    then L_X11_isPattern_41 l0 l1 l2 (l3 + (1 : Int32)) st
    else Option.bind (ab_gR st l0 11 41) fun x2 =>
      Option.bind (ab_gR st l0 11 42) fun x3 =>
      Option.bind (ab_rB st x3 l4) fun x4 =>
      Option.bind (ab_wB st x2 l4 x4) fun s5 =>
      L_X11_isPattern_178 l0 l1 l2 l3 (l4 + (1 : Int32)) s5 := (lm_eq one_X11_isPattern 178 _ _ _).trans rfl
def c_X11_distance : List (Nat × ab_I) := [(0, .aload_n 0, 1, .null, 0),
  (1, .getfield 16, 3, .null, 0),
  (4, .sipush (200), 3, (.int (200)), 0),
  (7, .iload_n 1, 1, .null, 1),
  (8, .imul, 1, .null, 0),
  (9, .iload_n 2, 1, .null, 2),
  (10, .iadd, 1, .null, 0),
  (11, .iaload, 1, .null, 0),
  (12, .istore 4, 2, .null, 4),
  (14, .iconst 0, 1, (.int (0)), 0),
  (15, .istore 5, 2, .null, 5),
  (17, .iload 5, 2, .null, 5),
  (19, .iload_n 3, 1, .null, 3),
  (20, .if_icmp .gt (274), 3, .null, 294),
  (23, .iconst 0, 1, (.int (0)), 0),
  (24, .istore 6, 2, .null, 6),
  (26, .iload 6, 2, .null, 6),
  (28, .iload 4, 2, .null, 4),
  (30, .if_icmp .gt (258), 3, .null, 288),
  (33, .iload 5, 2, .null, 5),
  (35, .ifCond .ne (8), 3, .null, 43),
  (38, .iload 6, 2, .null, 6),
  (40, .goto (51), 3, .null, 91),
  (43, .iload 6, 2, .null, 6),
  (45, .ifCond .ne (8), 3, .null, 53),
  (48, .iload 5, 2, .null, 5),
  (50, .goto (41), 3, .null, 91),
  (53, .aload_n 0, 1, .null, 0),
  (54, .getfield 111, 3, .null, 0),
  (57, .bipush (14), 2, (.int (14)), 0),
  (59, .iload 5, 2, .null, 5),
  (61, .iconst 1, 1, (.int (1)), 0),
  (62, .isub, 1, .null, 0),
  (63, .imul, 1, .null, 0),
  (64, .iload 6, 2, .null, 6),
  (66, .iadd, 1, .null, 0),
  (67, .iaload, 1, .null, 0),
  (68, .i2l, 1, .null, 0),
  (69, .aload_n 0, 1, .null, 0),
  (70, .getfield 111, 3, .null, 0),
  (73, .bipush (14), 2, (.int (14)), 0),
  (75, .iload 5, 2, .null, 5),
  (77, .imul, 1, .null, 0),
  (78, .iload 6, 2, .null, 6),
  (80, .iadd, 1, .null, 0),
  (81, .iconst 1, 1, (.int (1)), 0),
  (82, .isub, 1, .null, 0),
  (83, .iaload, 1, .null, 0),
  (84, .i2l, 1, .null, 0),
  (85, .invokestatic 198, 3, .null, 0),
  (88, .l2i, 1, .null, 0),
  (89, .iconst 1, 1, (.int (1)), 0),
  (90, .iadd, 1, .null, 0),
  (91, .istore 7, 2, .null, 7),
  (93, .iload 5, 2, .null, 5),
  (95, .ifCond .le (172), 3, .null, 267),
  (98, .iload 6, 2, .null, 6),
  (100, .ifCond .le (167), 3, .null, 267),
  (103, .aload_n 0, 1, .null, 0),
  (104, .getfield 7, 3, .null, 0),
  (107, .iload 5, 2, .null, 5),
  (109, .iconst 1, 1, (.int (1)), 0),
  (110, .isub, 1, .null, 0),
  (111, .baload, 1, .null, 0),
  (112, .sipush (255), 3, (.int (255)), 0),
  (115, .iand, 1, .null, 0),
  (116, .aload_n 0, 1, .null, 0),
  (117, .iload_n 1, 1, .null, 1),
  (118, .iload_n 2, 1, .null, 2),
  (119, .iload 6, 2, .null, 6),
  (121, .iconst 1, 1, (.int (1)), 0),
  (122, .isub, 1, .null, 0),
  (123, .invokevirtual 153, 3, .null, 0),
  (126, .if_icmp .ne (7), 3, .null, 133),
  (129, .iconst 1, 1, (.int (1)), 0),
  (130, .goto (4), 3, .null, 134),
  (133, .iconst 0, 1, (.int (0)), 0),
  (134, .istore 8, 2, .null, 8),
  (136, .iload 7, 2, .null, 7),
  (138, .i2l, 1, .null, 0),
  (139, .aload_n 0, 1, .null, 0),
  (140, .getfield 111, 3, .null, 0),
  (143, .bipush (14), 2, (.int (14)), 0),
  (145, .iload 5, 2, .null, 5),
  (147, .iconst 1, 1, (.int (1)), 0),
  (148, .isub, 1, .null, 0),
  (149, .imul, 1, .null, 0),
  (150, .iload 6, 2, .null, 6),
  (152, .iadd, 1, .null, 0),
  (153, .iconst 1, 1, (.int (1)), 0),
  (154, .isub, 1, .null, 0),
  (155, .iaload, 1, .null, 0),
  (156, .iload 8, 2, .null, 8),
  (158, .ifCond .eq (7), 3, .null, 165),
  (161, .iconst 0, 1, (.int (0)), 0),
  (162, .goto (4), 3, .null, 166),
  (165, .iconst 1, 1, (.int (1)), 0),
  (166, .iadd, 1, .null, 0),
  (167, .i2l, 1, .null, 0),
  (168, .invokestatic 198, 3, .null, 0),
  (171, .l2i, 1, .null, 0),
  (172, .istore 7, 2, .null, 7),
  (174, .iload 5, 2, .null, 5),
  (176, .iconst 1, 1, (.int (1)), 0),
  (177, .if_icmp .le (90), 3, .null, 267),
  (180, .iload 6, 2, .null, 6),
  (182, .iconst 1, 1, (.int (1)), 0),
  (183, .if_icmp .le (84), 3, .null, 267),
  (186, .aload_n 0, 1, .null, 0),
  (187, .getfield 7, 3, .null, 0),
  (190, .iload 5, 2, .null, 5),
  (192, .iconst 1, 1, (.int (1)), 0),
  (193, .isub, 1, .null, 0),
  (194, .baload, 1, .null, 0),
  (195, .sipush (255), 3, (.int (255)), 0),
  (198, .iand, 1, .null, 0),
  (199, .aload_n 0, 1, .null, 0),
  (200, .iload_n 1, 1, .null, 1),
  (201, .iload_n 2, 1, .null, 2),
  (202, .iload 6, 2, .null, 6),
  (204, .iconst 2, 1, (.int (2)), 0),
  (205, .isub, 1, .null, 0),
  (206, .invokevirtual 153, 3, .null, 0),
  (209, .if_icmp .ne (58), 3, .null, 267),
  (212, .aload_n 0, 1, .null, 0),
  (213, .getfield 7, 3, .null, 0),
  (216, .iload 5, 2, .null, 5),
  (218, .iconst 2, 1, (.int (2)), 0),
  (219, .isub, 1, .null, 0),
  (220, .baload, 1, .null, 0),
  (221, .sipush (255), 3, (.int (255)), 0),
  (224, .iand, 1, .null, 0),
  (225, .aload_n 0, 1, .null, 0),
  (226, .iload_n 1, 1, .null, 1),
  (227, .iload_n 2, 1, .null, 2),
  (228, .iload 6, 2, .null, 6),
  (230, .iconst 1, 1, (.int (1)), 0),
  (231, .isub, 1, .null, 0),
  (232, .invokevirtual 153, 3, .null, 0),
  (235, .if_icmp .ne (32), 3, .null, 267),
  (238, .iload 7, 2, .null, 7),
  (240, .i2l, 1, .null, 0),
  (241, .aload_n 0, 1, .null, 0),
  (242, .getfield 111, 3, .null, 0),
  (245, .bipush (14), 2, (.int (14)), 0),
  (247, .iload 5, 2, .null, 5),
  (249, .iconst 2, 1, (.int (2)), 0),
  (250, .isub, 1, .null, 0),
  (251, .imul, 1, .null, 0),
  (252, .iload 6, 2, .null, 6),
  (254, .iadd, 1, .null, 0),
  (255, .iconst 2, 1, (.int (2)), 0),
  (256, .isub, 1, .null, 0),
  (257, .iaload, 1, .null, 0),
  (258, .iconst 1, 1, (.int (1)), 0),
  (259, .iadd, 1, .null, 0),
  (260, .i2l, 1, .null, 0),
  (261, .invokestatic 198, 3, .null, 0),
  (264, .l2i, 1, .null, 0),
  (265, .istore 7, 2, .null, 7),
  (267, .aload_n 0, 1, .null, 0),
  (268, .getfield 111, 3, .null, 0),
  (271, .bipush (14), 2, (.int (14)), 0),
  (273, .iload 5, 2, .null, 5),
  (275, .imul, 1, .null, 0),
  (276, .iload 6, 2, .null, 6),
  (278, .iadd, 1, .null, 0),
  (279, .iload 7, 2, .null, 7),
  (281, .iastore, 1, .null, 0),
  (282, .iinc 6 (1), 3, (.int (1)), 6),
  (285, .goto (-259), 3, .null, 26),
  (288, .iinc 5 (1), 3, (.int (1)), 5),
  (291, .goto (-274), 3, .null, 17),
  (294, .aload_n 0, 1, .null, 0),
  (295, .getfield 111, 3, .null, 0),
  (298, .bipush (14), 2, (.int (14)), 0),
  (300, .iload_n 3, 1, .null, 3),
  (301, .imul, 1, .null, 0),
  (302, .iload 4, 2, .null, 4),
  (304, .iadd, 1, .null, 0),
  (305, .iaload, 1, .null, 0),
  (306, .ireturn, 1, .null, 0)]
noncomputable def m_X11_distance : ab_M := (c_X11_distance, [(0, [0, 1, 2, 3]), (17, [0, 1, 2, 3, 4, 5]), (26, [0, 1, 2, 3, 4, 5, 6]), (91, [0, 1, 2, 3, 4, 5, 6]), (134, [0, 1, 2, 3, 4, 5, 6, 7]), (166, [0, 1, 2, 3, 4, 5, 6]), (267, [0, 1, 2, 3, 4, 5, 6, 7])],
  [(7, 11, 0, 3), (16, 11, 3, 3), (111, 11, 44, 3)],
  [],
  [(153, 1, 4, g_X11_letter), (198, 0, 2, g_X11_lesser)],
  [], 9, 1)
theorem one_X11_distance : ab_oneM m_X11_distance := List.forall_mem_cons.mpr ⟨o_X11_letter, List.forall_mem_cons.mpr ⟨o_X11_lesser, fun _ h => absurd h List.not_mem_nil⟩⟩
noncomputable def f_X11_distance (l0 : Nat) (l1 : Int32) (l2 : Int32) (l3 : Int32) (st : ab_S) : Option ab_R := ab_rc st l0 11 (ab_lim m_X11_distance 0 [.ref l0, .int l1, .int l2, .int l3] [] st)
noncomputable def L_X11_distance_17 (l0 : Nat) (l1 : Int32) (l2 : Int32) (l3 : Int32) (l4 : Int32) (l5 : Int32) (st : ab_S) : Option ab_R := ab_lim m_X11_distance 17 [.ref l0, .int l1, .int l2, .int l3, .int l4, .int l5] [] st
noncomputable def L_X11_distance_26 (l0 : Nat) (l1 : Int32) (l2 : Int32) (l3 : Int32) (l4 : Int32) (l5 : Int32) (l6 : Int32) (st : ab_S) : Option ab_R := ab_lim m_X11_distance 26 [.ref l0, .int l1, .int l2, .int l3, .int l4, .int l5, .int l6] [] st
noncomputable def L_X11_distance_91 (l0 : Nat) (l1 : Int32) (l2 : Int32) (l3 : Int32) (l4 : Int32) (l5 : Int32) (l6 : Int32) (t0 : Int32) (st : ab_S) : Option ab_R := ab_lim m_X11_distance 91 [.ref l0, .int l1, .int l2, .int l3, .int l4, .int l5, .int l6] [.int t0] st
noncomputable def L_X11_distance_134 (l0 : Nat) (l1 : Int32) (l2 : Int32) (l3 : Int32) (l4 : Int32) (l5 : Int32) (l6 : Int32) (l7 : Int32) (t0 : Int32) (st : ab_S) : Option ab_R := ab_lim m_X11_distance 134 [.ref l0, .int l1, .int l2, .int l3, .int l4, .int l5, .int l6, .int l7] [.int t0] st
noncomputable def L_X11_distance_166 (l0 : Nat) (l1 : Int32) (l2 : Int32) (l3 : Int32) (l4 : Int32) (l5 : Int32) (l6 : Int32) (t0 : Int64) (t1 : Int32) (t2 : Int32) (st : ab_S) : Option ab_R := ab_lim m_X11_distance 166 [.ref l0, .int l1, .int l2, .int l3, .int l4, .int l5, .int l6] [.int t2, .int t1, .long t0] st
noncomputable def L_X11_distance_267 (l0 : Nat) (l1 : Int32) (l2 : Int32) (l3 : Int32) (l4 : Int32) (l5 : Int32) (l6 : Int32) (l7 : Int32) (st : ab_S) : Option ab_R := ab_lim m_X11_distance 267 [.ref l0, .int l1, .int l2, .int l3, .int l4, .int l5, .int l6, .int l7] [] st
noncomputable def g_X11_distance : ab_G := fun as st k => match as with
  | [.ref a0, .int a1, .int a2, .int a3] => ab_ri (f_X11_distance a0 a1 a2 a3 st) (fun x t => k [.int x] t)
  | _ => none
theorem o_X11_distance : ab_one g_X11_distance := by
  intro as st k r h
  unfold g_X11_distance at h ⊢
  split at h
  · exact one_ri h
  · cases h
set_option maxRecDepth 100000 in
theorem e_X11_distance_0 (l0 : Nat) (l1 : Int32) (l2 : Int32) (l3 : Int32) (st : ab_S) : f_X11_distance l0 l1 l2 l3 st =
    ab_rc st l0 11 (
    Option.bind (ab_gR st l0 11 3) fun x1 =>
    Option.bind (ab_rI st x1 (((200 : Int32) * l1) + l2)) fun x2 =>
    L_X11_distance_17 l0 l1 l2 l3 x2 (0 : Int32) st) := congrArg (ab_rc st l0 11) ((lm_eq one_X11_distance 0 _ _ _).trans rfl)
set_option maxRecDepth 100000 in
theorem e_X11_distance_17 (l0 : Nat) (l1 : Int32) (l2 : Int32) (l3 : Int32) (l4 : Int32) (l5 : Int32) (st : ab_S) : L_X11_distance_17 l0 l1 l2 l3 l4 l5 st =
    if l3 < l5
    then Option.bind (ab_gR st l0 11 44) fun x1 =>
      Option.bind (ab_rI st x1 (((14 : Int32) * l3) + l4)) fun x2 =>
      some (some (.int x2), st)
    else L_X11_distance_26 l0 l1 l2 l3 l4 l5 (0 : Int32) st := (lm_eq one_X11_distance 17 _ _ _).trans rfl
set_option maxRecDepth 100000 in
theorem e_X11_distance_26 (l0 : Nat) (l1 : Int32) (l2 : Int32) (l3 : Int32) (l4 : Int32) (l5 : Int32) (l6 : Int32) (st : ab_S) : L_X11_distance_26 l0 l1 l2 l3 l4 l5 l6 st =
    if l4 < l6
    then L_X11_distance_17 l0 l1 l2 l3 l4 (l5 + (1 : Int32)) st
    else if l5 = 0
      then L_X11_distance_91 l0 l1 l2 l3 l4 l5 l6 l6 st
      else if l6 = 0
        then L_X11_distance_91 l0 l1 l2 l3 l4 l5 l6 l5 st
        else Option.bind (ab_gR st l0 11 44) fun x1 =>
          Option.bind (ab_rI st x1 (((14 : Int32) * (l5 - (1 : Int32))) + l6)) fun x2 =>
          Option.bind (ab_gR st l0 11 44) fun x3 =>
          Option.bind (ab_rI st x3 ((((14 : Int32) * l5) + l6) - (1 : Int32))) fun x4 =>
          ab_rl (f_X11_lesser x2.toInt64 x4.toInt64 st) fun x6 s5 =>
          L_X11_distance_91 l0 l1 l2 l3 l4 l5 l6 (x6.toInt32 + (1 : Int32)) s5 := (lm_eq one_X11_distance 26 _ _ _).trans rfl
set_option maxRecDepth 100000 in
theorem e_X11_distance_91 (l0 : Nat) (l1 : Int32) (l2 : Int32) (l3 : Int32) (l4 : Int32) (l5 : Int32) (l6 : Int32) (t0 : Int32) (st : ab_S) : L_X11_distance_91 l0 l1 l2 l3 l4 l5 l6 t0 st =
    if l5 ≤ 0
    then L_X11_distance_267 l0 l1 l2 l3 l4 l5 l6 t0 st
    else if l6 ≤ 0
      then L_X11_distance_267 l0 l1 l2 l3 l4 l5 l6 t0 st
      else Option.bind (ab_gR st l0 11 0) fun x1 =>
        Option.bind (ab_rB st x1 (l5 - (1 : Int32))) fun x2 =>
        ab_ri (f_X11_letter l0 l1 l2 (l6 - (1 : Int32)) st) fun x4 s3 =>
        if (x2 &&& (255 : Int32)) = x4
        then L_X11_distance_134 l0 l1 l2 l3 l4 l5 l6 t0 (1 : Int32) s3
        else L_X11_distance_134 l0 l1 l2 l3 l4 l5 l6 t0 (0 : Int32) s3 := (lm_eq one_X11_distance 91 _ _ _).trans rfl
set_option maxRecDepth 100000 in
theorem e_X11_distance_134 (l0 : Nat) (l1 : Int32) (l2 : Int32) (l3 : Int32) (l4 : Int32) (l5 : Int32) (l6 : Int32) (l7 : Int32) (t0 : Int32) (st : ab_S) : L_X11_distance_134 l0 l1 l2 l3 l4 l5 l6 l7 t0 st =
    Option.bind (ab_gR st l0 11 44) fun x1 =>
    Option.bind (ab_rI st x1 ((((14 : Int32) * (l5 - (1 : Int32))) + l6) - (1 : Int32))) fun x2 =>
    if t0 = 0
    then L_X11_distance_166 l0 l1 l2 l3 l4 l5 l6 l7.toInt64 x2 (1 : Int32) st
    else L_X11_distance_166 l0 l1 l2 l3 l4 l5 l6 l7.toInt64 x2 (0 : Int32) st := (lm_eq one_X11_distance 134 _ _ _).trans rfl
set_option maxRecDepth 100000 in
theorem e_X11_distance_166 (l0 : Nat) (l1 : Int32) (l2 : Int32) (l3 : Int32) (l4 : Int32) (l5 : Int32) (l6 : Int32) (t0 : Int64) (t1 : Int32) (t2 : Int32) (st : ab_S) : L_X11_distance_166 l0 l1 l2 l3 l4 l5 l6 t0 t1 t2 st =
    ab_rl (f_X11_lesser t0 ((t1 + t2).toInt64) st) fun x2 s1 =>
    if l5 ≤ (1 : Int32)
    then L_X11_distance_267 l0 l1 l2 l3 l4 l5 l6 x2.toInt32 s1
    else if l6 ≤ (1 : Int32)
      then L_X11_distance_267 l0 l1 l2 l3 l4 l5 l6 x2.toInt32 s1
      else Option.bind (ab_gR s1 l0 11 0) fun x3 =>
        Option.bind (ab_rB s1 x3 (l5 - (1 : Int32))) fun x4 =>
        ab_ri (f_X11_letter l0 l1 l2 (l6 - (2 : Int32)) s1) fun x6 s5 =>
        if (x4 &&& (255 : Int32)) = x6
        then Option.bind (ab_gR s5 l0 11 0) fun x7 =>
          Option.bind (ab_rB s5 x7 (l5 - (2 : Int32))) fun x8 =>
          ab_ri (f_X11_letter l0 l1 l2 (l6 - (1 : Int32)) s5) fun x10 s9 =>
          if (x8 &&& (255 : Int32)) = x10
          then Option.bind (ab_gR s9 l0 11 44) fun x11 =>
            Option.bind (ab_rI s9 x11 ((((14 : Int32) * (l5 - (2 : Int32))) + l6) - (2 : Int32))) fun x12 =>
            ab_rl (f_X11_lesser x2.toInt32.toInt64 ((x12 + (1 : Int32)).toInt64) s9) fun x14 s13 =>
            L_X11_distance_267 l0 l1 l2 l3 l4 l5 l6 x14.toInt32 s13
          else L_X11_distance_267 l0 l1 l2 l3 l4 l5 l6 x2.toInt32 s9
        else L_X11_distance_267 l0 l1 l2 l3 l4 l5 l6 x2.toInt32 s5 := (lm_eq one_X11_distance 166 _ _ _).trans rfl
set_option maxRecDepth 100000 in
theorem e_X11_distance_267 (l0 : Nat) (l1 : Int32) (l2 : Int32) (l3 : Int32) (l4 : Int32) (l5 : Int32) (l6 : Int32) (l7 : Int32) (st : ab_S) : L_X11_distance_267 l0 l1 l2 l3 l4 l5 l6 l7 st =
    Option.bind (ab_gR st l0 11 44) fun x1 =>
    Option.bind (ab_wI st x1 (((14 : Int32) * l5) + l6) l7) fun s2 =>
    L_X11_distance_26 l0 l1 l2 l3 l4 l5 (l6 + (1 : Int32)) s2 := (lm_eq one_X11_distance 267 _ _ _).trans rfl
def c_X11_meet : List (Nat × ab_I) := [(0, .iload_n 1, 1, .null, 1),
  (1, .invokestatic 159, 3, .null, 0),
  (4, .ifCond .eq (15), 3, .null, 19),
  (7, .iload_n 2, 1, .null, 2),
  (8, .i2l, 1, .null, 0),
  (9, .lconst 0, 1, (.long (0)), 0),
  (10, .ldc2_w 317, 3, (.long (4)), 0),
  (13, .invokestatic 146, 3, .null, 0),
  (16, .ifCond .ne (6), 3, .null, 22),
  (19, .bipush (-2), 2, (.int (-2)), 0),
  (21, .ireturn, 1, .null, 0),
  (22, .aload_n 0, 1, .null, 0),
  (23, .invokevirtual 165, 3, .null, 0),
  (26, .istore_n 3, 1, .null, 3),
  (27, .aload_n 0, 1, .null, 0),
  (28, .getfield 27, 3, .null, 0),
  (31, .iload_n 1, 1, .null, 1),
  (32, .baload, 1, .null, 0),
  (33, .ifCond .eq (6), 3, .null, 39),
  (36, .bipush (-4), 2, (.int (-4)), 0),
  (38, .ireturn, 1, .null, 0),
  (39, .iload_n 3, 1, .null, 3),
  (40, .iload_n 2, 1, .null, 2),
  (41, .iconst 2, 1, (.int (2)), 0),
  (42, .if_icmp .ge (8), 3, .null, 50),
  (45, .bipush (24), 2, (.int (24)), 0),
  (47, .goto (5), 3, .null, 52),
  (50, .bipush (12), 2, (.int (12)), 0),
  (52, .if_icmp .le (6), 3, .null, 58),
  (55, .bipush (-6), 2, (.int (-6)), 0),
  (57, .ireturn, 1, .null, 0),
  (58, .iload_n 2, 1, .null, 2),
  (59, .iconst 1, 1, (.int (1)), 0),
  (60, .if_icmp .ne (27), 3, .null, 87),
  (63, .aload_n 0, 1, .null, 0),
  (64, .iload_n 3, 1, .null, 3),
  (65, .invokevirtual 319, 3, .null, 0),
  (68, .aload_n 0, 1, .null, 0),
  (69, .aload_n 0, 1, .null, 0),
  (70, .getfield 263, 3, .null, 0),
  (73, .putfield 37, 3, .null, 0),
  (76, .aload_n 0, 1, .null, 0),
  (77, .getfield 263, 3, .null, 0),
  (80, .iconst (-1), 1, (.int (-1)), 0),
  (81, .if_icmp .eq (6), 3, .null, 87),
  (84, .bipush (-7), 2, (.int (-7)), 0),
  (86, .ireturn, 1, .null, 0),
  (87, .aload_n 0, 1, .null, 0),
  (88, .iconst 0, 1, (.int (0)), 0),
  (89, .putfield 242, 3, .null, 0),
  (92, .iconst 0, 1, (.int (0)), 0),
  (93, .istore 4, 2, .null, 4),
  (95, .iload 4, 2, .null, 4),
  (97, .aload_n 0, 1, .null, 0),
  (98, .getfield 24, 3, .null, 0),
  (101, .iload_n 1, 1, .null, 1),
  (102, .iaload, 1, .null, 0),
  (103, .if_icmp .ge (86), 3, .null, 189),
  (106, .iload_n 2, 1, .null, 2),
  (107, .ifCond .ne (14), 3, .null, 121),
  (110, .aload_n 0, 1, .null, 0),
  (111, .iload_n 1, 1, .null, 1),
  (112, .iload 4, 2, .null, 4),
  (114, .iload_n 3, 1, .null, 3),
  (115, .invokevirtual 322, 3, .null, 0),
  (118, .goto (37), 3, .null, 155),
  (121, .iload_n 2, 1, .null, 2),
  (122, .iconst 1, 1, (.int (1)), 0),
  (123, .if_icmp .ne (13), 3, .null, 136),
  (126, .aload_n 0, 1, .null, 0),
  (127, .iload_n 1, 1, .null, 1),
  (128, .iload 4, 2, .null, 4),
  (130, .invokevirtual 325, 3, .null, 0),
  (133, .goto (22), 3, .null, 155),
  (136, .aload_n 0, 1, .null, 0),
  (137, .iload_n 1, 1, .null, 1),
  (138, .iload 4, 2, .null, 4),
  (140, .iload_n 3, 1, .null, 3),
  (141, .invokevirtual 328, 3, .null, 0),
  (144, .iload_n 2, 1, .null, 2),
  (145, .iconst 2, 1, (.int (2)), 0),
  (146, .isub, 1, .null, 0),
  (147, .if_icmp .gt (7), 3, .null, 154),
  (150, .iconst 1, 1, (.int (1)), 0),
  (151, .goto (4), 3, .null, 155),
  (154, .iconst 0, 1, (.int (0)), 0),
  (155, .istore 5, 2, .null, 5),
  (157, .iload 5, 2, .null, 5),
  (159, .ifCond .eq (24), 3, .null, 183),
  (162, .aload_n 0, 1, .null, 0),
  (163, .getfield 34, 3, .null, 0),
  (166, .aload_n 0, 1, .null, 0),
  (167, .getfield 242, 3, .null, 0),
  (170, .iload 4, 2, .null, 4),
  (172, .iastore, 1, .null, 0),
  (173, .aload_n 0, 1, .null, 0),
  (174, .dup, 1, .null, 0),
  (175, .getfield 242, 3, .null, 0),
  (178, .iconst 1, 1, (.int (1)), 0),
  (179, .iadd, 1, .null, 0),
  (180, .putfield 242, 3, .null, 0),
  (183, .iinc 4 (1), 3, (.int (1)), 4),
  (186, .goto (-91), 3, .null, 95),
  (189, .aload_n 0, 1, .null, 0),
  (190, .getfield 242, 3, .null, 0),
  (193, .ireturn, 1, .null, 0)]
noncomputable def m_X11_meet : ab_M := (c_X11_meet, [(0, [0, 1, 2]), (52, [0, 1, 2, 3]), (87, [0, 1, 2, 3]), (95, [0, 1, 2, 3, 4]), (155, [0, 1, 2, 3, 4]), (183, [0, 1, 2, 3, 4])],
  [(24, 11, 5, 3), (27, 11, 6, 3), (34, 11, 8, 3), (37, 11, 10, 0), (242, 11, 9, 0), (263, 11, 35, 0)],
  [],
  [(146, 0, 3, g_X11_isIn), (159, 0, 1, g_X11_isDictionary), (165, 1, 1, g_X11_forget), (319, 1, 2, g_X11_parsePattern), (322, 1, 4, g_X11_isWild), (325, 1, 3, g_X11_isPattern), (328, 1, 4, g_X11_distance)],
  [], 6, 1)
theorem one_X11_meet : ab_oneM m_X11_meet := List.forall_mem_cons.mpr ⟨o_X11_isIn, List.forall_mem_cons.mpr ⟨o_X11_isDictionary, List.forall_mem_cons.mpr ⟨o_X11_forget, List.forall_mem_cons.mpr ⟨o_X11_parsePattern, List.forall_mem_cons.mpr ⟨o_X11_isWild, List.forall_mem_cons.mpr ⟨o_X11_isPattern, List.forall_mem_cons.mpr ⟨o_X11_distance, fun _ h => absurd h List.not_mem_nil⟩⟩⟩⟩⟩⟩⟩
noncomputable def f_X11_meet (l0 : Nat) (l1 : Int32) (l2 : Int32) (st : ab_S) : Option ab_R := ab_rc st l0 11 (ab_lim m_X11_meet 0 [.ref l0, .int l1, .int l2] [] st)
noncomputable def L_X11_meet_52 (l0 : Nat) (l1 : Int32) (l2 : Int32) (l3 : Int32) (t0 : Int32) (t1 : Int32) (st : ab_S) : Option ab_R := ab_lim m_X11_meet 52 [.ref l0, .int l1, .int l2, .int l3] [.int t1, .int t0] st
noncomputable def L_X11_meet_87 (l0 : Nat) (l1 : Int32) (l2 : Int32) (l3 : Int32) (st : ab_S) : Option ab_R := ab_lim m_X11_meet 87 [.ref l0, .int l1, .int l2, .int l3] [] st
noncomputable def L_X11_meet_95 (l0 : Nat) (l1 : Int32) (l2 : Int32) (l3 : Int32) (l4 : Int32) (st : ab_S) : Option ab_R := ab_lim m_X11_meet 95 [.ref l0, .int l1, .int l2, .int l3, .int l4] [] st
noncomputable def L_X11_meet_155 (l0 : Nat) (l1 : Int32) (l2 : Int32) (l3 : Int32) (l4 : Int32) (t0 : Int32) (st : ab_S) : Option ab_R := ab_lim m_X11_meet 155 [.ref l0, .int l1, .int l2, .int l3, .int l4] [.int t0] st
noncomputable def L_X11_meet_183 (l0 : Nat) (l1 : Int32) (l2 : Int32) (l3 : Int32) (l4 : Int32) (st : ab_S) : Option ab_R := ab_lim m_X11_meet 183 [.ref l0, .int l1, .int l2, .int l3, .int l4] [] st
noncomputable def g_X11_meet : ab_G := fun as st k => match as with
  | [.ref a0, .int a1, .int a2] => ab_ri (f_X11_meet a0 a1 a2 st) (fun x t => k [.int x] t)
  | _ => none
theorem o_X11_meet : ab_one g_X11_meet := by
  intro as st k r h
  unfold g_X11_meet at h ⊢
  split at h
  · exact one_ri h
  · cases h
set_option maxRecDepth 100000 in
theorem e_X11_meet_0 (l0 : Nat) (l1 : Int32) (l2 : Int32) (st : ab_S) : f_X11_meet l0 l1 l2 st =
    ab_rc st l0 11 (
    ab_ri (f_X11_isDictionary l1 st) fun x2 s1 =>
    if x2 = 0
    then some (some (.int (-2 : Int32)), s1)
    else ab_ri (f_X11_isIn l2.toInt64 (0 : Int64) (4 : Int64) s1) fun x4 s3 =>
      if x4 = 0
      then some (some (.int (-2 : Int32)), s3)
      else ab_ri (f_X11_forget l0 s3) fun x6 s5 =>
        Option.bind (ab_gR s5 l0 11 6) fun x7 =>
        Option.bind (ab_rB s5 x7 l1) fun x8 =>
        if x8 = 0
        then if (2 : Int32) ≤ l2
          then L_X11_meet_52 l0 l1 l2 x6 x6 (12 : Int32) s5
          else L_X11_meet_52 l0 l1 l2 x6 x6 (24 : Int32) s5
        else some (some (.int (-4 : Int32)), s5)) := congrArg (ab_rc st l0 11) ((lm_eq one_X11_meet 0 _ _ _).trans rfl)
set_option maxRecDepth 100000 in
theorem e_X11_meet_52 (l0 : Nat) (l1 : Int32) (l2 : Int32) (l3 : Int32) (t0 : Int32) (t1 : Int32) (st : ab_S) : L_X11_meet_52 l0 l1 l2 l3 t0 t1 st =
    if t0 ≤ t1
    then if l2 = (1 : Int32)
      then ab_rv (f_X11_parsePattern l0 l3 st) fun s1 =>
        Option.bind (ab_gI s1 l0 11 35) fun x2 =>
        Option.bind (ab_pI s1 l0 11 10 x2) fun s3 =>
        Option.bind (ab_gI s3 l0 11 35) fun x4 =>
        if x4 = (-1 : Int32)
        then L_X11_meet_87 l0 l1 l2 l3 s3
        else some (some (.int (-7 : Int32)), s3)
      else L_X11_meet_87 l0 l1 l2 l3 st
    else some (some (.int (-6 : Int32)), st) := (lm_eq one_X11_meet 52 _ _ _).trans rfl
set_option maxRecDepth 100000 in
theorem e_X11_meet_87 (l0 : Nat) (l1 : Int32) (l2 : Int32) (l3 : Int32) (st : ab_S) : L_X11_meet_87 l0 l1 l2 l3 st =
    Option.bind (ab_pI st l0 11 9 (0 : Int32)) fun s1 =>
    L_X11_meet_95 l0 l1 l2 l3 (0 : Int32) s1 := (lm_eq one_X11_meet 87 _ _ _).trans rfl
set_option maxRecDepth 100000 in
theorem e_X11_meet_95 (l0 : Nat) (l1 : Int32) (l2 : Int32) (l3 : Int32) (l4 : Int32) (st : ab_S) : L_X11_meet_95 l0 l1 l2 l3 l4 st =
    Option.bind (ab_gR st l0 11 5) fun x1 =>
    Option.bind (ab_rI st x1 l1) fun x2 =>
    if x2 ≤ l4
    then Option.bind (ab_gI st l0 11 9) fun x3 =>
      some (some (.int x3), st)
    else if l2 = 0
      then ab_ri (f_X11_isWild l0 l1 l4 l3 st) fun x5 s4 =>
        L_X11_meet_155 l0 l1 l2 l3 l4 x5 s4
      else if l2 = (1 : Int32)
        then ab_ri (f_X11_isPattern l0 l1 l4 st) fun x7 s6 =>
          L_X11_meet_155 l0 l1 l2 l3 l4 x7 s6
        else ab_ri (f_X11_distance l0 l1 l4 l3 st) fun x9 s8 =>
          if (l2 - (2 : Int32)) < x9
          then L_X11_meet_155 l0 l1 l2 l3 l4 (0 : Int32) s8
          else L_X11_meet_155 l0 l1 l2 l3 l4 (1 : Int32) s8 := (lm_eq one_X11_meet 95 _ _ _).trans rfl
set_option maxRecDepth 100000 in
theorem e_X11_meet_155 (l0 : Nat) (l1 : Int32) (l2 : Int32) (l3 : Int32) (l4 : Int32) (t0 : Int32) (st : ab_S) : L_X11_meet_155 l0 l1 l2 l3 l4 t0 st =
    if t0 = 0
    then L_X11_meet_183 l0 l1 l2 l3 l4 st
    else Option.bind (ab_gR st l0 11 8) fun x1 =>
      Option.bind (ab_gI st l0 11 9) fun x2 =>
      Option.bind (ab_wI st x1 x2 l4) fun s3 =>
      Option.bind (ab_gI s3 l0 11 9) fun x4 =>
      Option.bind (ab_pI s3 l0 11 9 (x4 + (1 : Int32))) fun s5 =>
      L_X11_meet_183 l0 l1 l2 l3 l4 s5 := (lm_eq one_X11_meet 155 _ _ _).trans rfl
set_option maxRecDepth 100000 in
theorem e_X11_meet_183 (l0 : Nat) (l1 : Int32) (l2 : Int32) (l3 : Int32) (l4 : Int32) (st : ab_S) : L_X11_meet_183 l0 l1 l2 l3 l4 st =
    L_X11_meet_95 l0 l1 l2 l3 (l4 + (1 : Int32)) st := (lm_eq one_X11_meet 183 _ _ _).trans rfl
def c_X10_fault : List (Nat × ab_I) := [(0, .aload_n 0, 1, .null, 0),
  (1, .getfield 69, 3, .null, 0),
  (4, .ireturn, 1, .null, 0)]
noncomputable def m_X10_fault : ab_M := (c_X10_fault, [(0, [0])],
  [(69, 10, 11, 0)],
  [],
  [],
  [], 1, 1)
theorem one_X10_fault : ab_oneM m_X10_fault := fun _ h => absurd h List.not_mem_nil
noncomputable def f_X10_fault (l0 : Nat) (st : ab_S) : Option ab_R := ab_rc st l0 10 (ab_lim m_X10_fault 0 [.ref l0] [] st)
noncomputable def g_X10_fault : ab_G := fun as st k => match as with
  | [.ref a0] => ab_ri (f_X10_fault a0 st) (fun x t => k [.int x] t)
  | _ => none
theorem o_X10_fault : ab_one g_X10_fault := by
  intro as st k r h
  unfold g_X10_fault at h ⊢
  split at h
  · exact one_ri h
  · cases h
set_option maxRecDepth 100000 in
theorem e_X10_fault_0 (l0 : Nat) (st : ab_S) : f_X10_fault l0 st =
    ab_rc st l0 10 (
    Option.bind (ab_gI st l0 10 11) fun x1 =>
    some (some (.int x1), st)) := congrArg (ab_rc st l0 10) ((lm_eq one_X10_fault 0 _ _ _).trans rfl)
def c_X11_fault : List (Nat × ab_I) := [(0, .aload_n 0, 1, .null, 0),
  (1, .getfield 37, 3, .null, 0),
  (4, .ireturn, 1, .null, 0)]
noncomputable def m_X11_fault : ab_M := (c_X11_fault, [(0, [0])],
  [(37, 11, 10, 0)],
  [],
  [],
  [], 1, 1)
theorem one_X11_fault : ab_oneM m_X11_fault := fun _ h => absurd h List.not_mem_nil
noncomputable def f_X11_fault (l0 : Nat) (st : ab_S) : Option ab_R := ab_rc st l0 11 (ab_lim m_X11_fault 0 [.ref l0] [] st)
noncomputable def g_X11_fault : ab_G := fun as st k => match as with
  | [.ref a0] => ab_ri (f_X11_fault a0 st) (fun x t => k [.int x] t)
  | _ => none
theorem o_X11_fault : ab_one g_X11_fault := by
  intro as st k r h
  unfold g_X11_fault at h ⊢
  split at h
  · exact one_ri h
  · cases h
set_option maxRecDepth 100000 in
theorem e_X11_fault_0 (l0 : Nat) (st : ab_S) : f_X11_fault l0 st =
    ab_rc st l0 11 (
    Option.bind (ab_gI st l0 11 10) fun x1 =>
    some (some (.int x1), st)) := congrArg (ab_rc st l0 11) ((lm_eq one_X11_fault 0 _ _ _).trans rfl)
def c_X10_row : List (Nat × ab_I) := [(0, .iload_n 1, 1, .null, 1),
  (1, .ifCond .lt (18), 3, .null, 19),
  (4, .iload_n 1, 1, .null, 1),
  (5, .aload_n 0, 1, .null, 0),
  (6, .getfield 205, 3, .null, 0),
  (9, .if_icmp .ge (10), 3, .null, 19),
  (12, .iload_n 1, 1, .null, 1),
  (13, .sipush (200), 3, (.int (200)), 0),
  (16, .if_icmp .lt (7), 3, .null, 23),
  (19, .iconst (-1), 1, (.int (-1)), 0),
  (20, .goto (9), 3, .null, 29),
  (23, .aload_n 0, 1, .null, 0),
  (24, .getfield 66, 3, .null, 0),
  (27, .iload_n 1, 1, .null, 1),
  (28, .iaload, 1, .null, 0),
  (29, .ireturn, 1, .null, 0)]
noncomputable def m_X10_row : ab_M := (c_X10_row, [(0, [0, 1])],
  [(66, 10, 9, 3), (205, 10, 10, 0)],
  [],
  [],
  [], 2, 1)
theorem one_X10_row : ab_oneM m_X10_row := fun _ h => absurd h List.not_mem_nil
noncomputable def f_X10_row (l0 : Nat) (l1 : Int32) (st : ab_S) : Option ab_R := ab_rc st l0 10 (ab_lim m_X10_row 0 [.ref l0, .int l1] [] st)
noncomputable def g_X10_row : ab_G := fun as st k => match as with
  | [.ref a0, .int a1] => ab_ri (f_X10_row a0 a1 st) (fun x t => k [.int x] t)
  | _ => none
theorem o_X10_row : ab_one g_X10_row := by
  intro as st k r h
  unfold g_X10_row at h ⊢
  split at h
  · exact one_ri h
  · cases h
set_option maxRecDepth 100000 in
theorem e_X10_row_0 (l0 : Nat) (l1 : Int32) (st : ab_S) : f_X10_row l0 l1 st =
    ab_rc st l0 10 (
    if l1 < 0
    then some (some (.int (-1 : Int32)), st)
    else Option.bind (ab_gI st l0 10 10) fun x1 =>
      if x1 ≤ l1
      then some (some (.int (-1 : Int32)), st)
      else if l1 < (200 : Int32)
        then Option.bind (ab_gR st l0 10 9) fun x2 =>
          Option.bind (ab_rI st x2 l1) fun x3 =>
          some (some (.int x3), st)
        else some (some (.int (-1 : Int32)), st)) := congrArg (ab_rc st l0 10) ((lm_eq one_X10_row 0 _ _ _).trans rfl)
def c_X11_row : List (Nat × ab_I) := [(0, .iload_n 1, 1, .null, 1),
  (1, .i2l, 1, .null, 0),
  (2, .lconst 0, 1, (.long (0)), 0),
  (3, .aload_n 0, 1, .null, 0),
  (4, .getfield 242, 3, .null, 0),
  (7, .iconst 1, 1, (.int (1)), 0),
  (8, .isub, 1, .null, 0),
  (9, .i2l, 1, .null, 0),
  (10, .invokestatic 146, 3, .null, 0),
  (13, .ifCond .eq (12), 3, .null, 25),
  (16, .aload_n 0, 1, .null, 0),
  (17, .getfield 34, 3, .null, 0),
  (20, .iload_n 1, 1, .null, 1),
  (21, .iaload, 1, .null, 0),
  (22, .goto (4), 3, .null, 26),
  (25, .iconst (-1), 1, (.int (-1)), 0),
  (26, .ireturn, 1, .null, 0)]
noncomputable def m_X11_row : ab_M := (c_X11_row, [(0, [0, 1])],
  [(34, 11, 8, 3), (242, 11, 9, 0)],
  [],
  [(146, 0, 3, g_X11_isIn)],
  [], 2, 1)
theorem one_X11_row : ab_oneM m_X11_row := List.forall_mem_cons.mpr ⟨o_X11_isIn, fun _ h => absurd h List.not_mem_nil⟩
noncomputable def f_X11_row (l0 : Nat) (l1 : Int32) (st : ab_S) : Option ab_R := ab_rc st l0 11 (ab_lim m_X11_row 0 [.ref l0, .int l1] [] st)
noncomputable def g_X11_row : ab_G := fun as st k => match as with
  | [.ref a0, .int a1] => ab_ri (f_X11_row a0 a1 st) (fun x t => k [.int x] t)
  | _ => none
theorem o_X11_row : ab_one g_X11_row := by
  intro as st k r h
  unfold g_X11_row at h ⊢
  split at h
  · exact one_ri h
  · cases h
set_option maxRecDepth 100000 in
theorem e_X11_row_0 (l0 : Nat) (l1 : Int32) (st : ab_S) : f_X11_row l0 l1 st =
    ab_rc st l0 11 (
    Option.bind (ab_gI st l0 11 9) fun x1 =>
    ab_ri (f_X11_isIn l1.toInt64 (0 : Int64) ((x1 - (1 : Int32)).toInt64) st) fun x3 s2 =>
    if x3 = 0
    then some (some (.int (-1 : Int32)), s2)
    else Option.bind (ab_gR s2 l0 11 8) fun x4 =>
      Option.bind (ab_rI s2 x4 l1) fun x5 =>
      some (some (.int x5), s2)) := congrArg (ab_rc st l0 11) ((lm_eq one_X11_row 0 _ _ _).trans rfl)
def c_X7_compareTerms : List (Nat × ab_I) := [(0, .iconst 0, 1, (.int (0)), 0),
  (1, .istore 4, 2, .null, 4),
  (3, .iload 4, 2, .null, 4),
  (5, .bipush (12), 2, (.int (12)), 0),
  (7, .if_icmp .ge (47), 3, .null, 54),
  (10, .aload_n 0, 1, .null, 0),
  (11, .iload_n 1, 1, .null, 1),
  (12, .iload 4, 2, .null, 4),
  (14, .invokevirtual 42, 3, .null, 0),
  (17, .istore 5, 2, .null, 5),
  (19, .aload_n 2, 1, .null, 2),
  (20, .iload_n 3, 1, .null, 3),
  (21, .iload 4, 2, .null, 4),
  (23, .invokevirtual 42, 3, .null, 0),
  (26, .istore 6, 2, .null, 6),
  (28, .iload 5, 2, .null, 5),
  (30, .iload 6, 2, .null, 6),
  (32, .if_icmp .eq (16), 3, .null, 48),
  (35, .iload 5, 2, .null, 5),
  (37, .iload 6, 2, .null, 6),
  (39, .if_icmp .ge (7), 3, .null, 46),
  (42, .iconst (-1), 1, (.int (-1)), 0),
  (43, .goto (4), 3, .null, 47),
  (46, .iconst 1, 1, (.int (1)), 0),
  (47, .ireturn, 1, .null, 0),
  (48, .iinc 4 (1), 3, (.int (1)), 4),
  (51, .goto (-48), 3, .null, 3),
  (54, .iconst 0, 1, (.int (0)), 0),
  (55, .ireturn, 1, .null, 0)]
noncomputable def m_X7_compareTerms : ab_M := (c_X7_compareTerms, [(0, [0, 1, 2, 3]), (3, [0, 1, 2, 3, 4])],
  [],
  [],
  [(42, 1, 3, g_X7_signAt)],
  [], 7, 1)
theorem one_X7_compareTerms : ab_oneM m_X7_compareTerms := List.forall_mem_cons.mpr ⟨o_X7_signAt, fun _ h => absurd h List.not_mem_nil⟩
noncomputable def f_X7_compareTerms (l0 : Nat) (l1 : Int32) (l2 : Nat) (l3 : Int32) (st : ab_S) : Option ab_R := ab_lim m_X7_compareTerms 0 [.ref l0, .int l1, .ref l2, .int l3] [] st
noncomputable def L_X7_compareTerms_3 (l0 : Nat) (l1 : Int32) (l2 : Nat) (l3 : Int32) (l4 : Int32) (st : ab_S) : Option ab_R := ab_lim m_X7_compareTerms 3 [.ref l0, .int l1, .ref l2, .int l3, .int l4] [] st
noncomputable def g_X7_compareTerms : ab_G := fun as st k => match as with
  | [.ref a0, .int a1, .ref a2, .int a3] => ab_ri (f_X7_compareTerms a0 a1 a2 a3 st) (fun x t => k [.int x] t)
  | _ => none
theorem o_X7_compareTerms : ab_one g_X7_compareTerms := by
  intro as st k r h
  unfold g_X7_compareTerms at h ⊢
  split at h
  · exact one_ri h
  · cases h
set_option maxRecDepth 100000 in
theorem e_X7_compareTerms_0 (l0 : Nat) (l1 : Int32) (l2 : Nat) (l3 : Int32) (st : ab_S) : f_X7_compareTerms l0 l1 l2 l3 st =
    L_X7_compareTerms_3 l0 l1 l2 l3 (0 : Int32) st := (lm_eq one_X7_compareTerms 0 _ _ _).trans rfl
set_option maxRecDepth 100000 in
theorem e_X7_compareTerms_3 (l0 : Nat) (l1 : Int32) (l2 : Nat) (l3 : Int32) (l4 : Int32) (st : ab_S) : L_X7_compareTerms_3 l0 l1 l2 l3 l4 st =
    if (12 : Int32) ≤ l4
    then some (some (.int (0 : Int32)), st)
    else ab_ri (f_X7_signAt l0 l1 l4 st) fun x2 s1 =>
      ab_ri (f_X7_signAt l2 l3 l4 s1) fun x4 s3 =>
      if x2 = x4
      then L_X7_compareTerms_3 l0 l1 l2 l3 (l4 + (1 : Int32)) s3
      else if x4 ≤ x2
        then some (some (.int (1 : Int32)), s3)
        else some (some (.int (-1 : Int32)), s3) := (lm_eq one_X7_compareTerms 3 _ _ _).trans rfl
def c_X7_gatherOne : List (Nat × ab_I) := [(0, .aload_n 0, 1, .null, 0),
  (1, .aload_n 1, 1, .null, 1),
  (2, .getfield 15, 3, .null, 0),
  (5, .iload_n 2, 1, .null, 2),
  (6, .bipush (12), 2, (.int (12)), 0),
  (8, .imul, 1, .null, 0),
  (9, .aload_n 1, 1, .null, 1),
  (10, .iload_n 2, 1, .null, 2),
  (11, .invokevirtual 30, 3, .null, 0),
  (14, .lload_n 3, 1, .null, 3),
  (15, .invokevirtual 84, 3, .null, 0),
  (18, .ifCond .eq (10), 3, .null, 28),
  (21, .aload_n 0, 1, .null, 0),
  (22, .getfield 22, 3, .null, 0),
  (25, .goto (5), 3, .null, 30),
  (28, .bipush (-3), 2, (.int (-3)), 0),
  (30, .ireturn, 1, .null, 0)]
noncomputable def m_X7_gatherOne : ab_M := (c_X7_gatherOne, [(0, [0, 1, 2, 3])],
  [(15, 7, 1, 3), (22, 7, 3, 0)],
  [],
  [(30, 1, 2, g_X7_lengthAt), (84, 1, 5, g_X7_append)],
  [], 5, 1)
theorem one_X7_gatherOne : ab_oneM m_X7_gatherOne := List.forall_mem_cons.mpr ⟨o_X7_lengthAt, List.forall_mem_cons.mpr ⟨o_X7_append, fun _ h => absurd h List.not_mem_nil⟩⟩
noncomputable def f_X7_gatherOne (l0 : Nat) (l1 : Nat) (l2 : Int32) (l3 : Int64) (st : ab_S) : Option ab_R := ab_rc st l0 7 (ab_lim m_X7_gatherOne 0 [.ref l0, .ref l1, .int l2, .long l3] [] st)
noncomputable def g_X7_gatherOne : ab_G := fun as st k => match as with
  | [.ref a0, .ref a1, .int a2, .long a3] => ab_ri (f_X7_gatherOne a0 a1 a2 a3 st) (fun x t => k [.int x] t)
  | _ => none
theorem o_X7_gatherOne : ab_one g_X7_gatherOne := by
  intro as st k r h
  unfold g_X7_gatherOne at h ⊢
  split at h
  · exact one_ri h
  · cases h
set_option maxRecDepth 100000 in
theorem e_X7_gatherOne_0 (l0 : Nat) (l1 : Nat) (l2 : Int32) (l3 : Int64) (st : ab_S) : f_X7_gatherOne l0 l1 l2 l3 st =
    ab_rc st l0 7 (
    Option.bind (ab_gR st l1 7 1) fun x1 =>
    ab_ri (f_X7_lengthAt l1 l2 st) fun x3 s2 =>
    ab_ri (f_X7_append l0 x1 (l2 * (12 : Int32)) x3 l3 s2) fun x5 s4 =>
    if x5 = 0
    then some (some (.int (-3 : Int32)), s4)
    else Option.bind (ab_gI s4 l0 7 3) fun x6 =>
      some (some (.int x6), s4)) := congrArg (ab_rc st l0 7) ((lm_eq one_X7_gatherOne 0 _ _ _).trans rfl)
def c_X7_gatherBoth : List (Nat × ab_I) := [(0, .aload_n 1, 1, .null, 1),
  (1, .iload_n 2, 1, .null, 2),
  (2, .invokevirtual 66, 3, .null, 0),
  (5, .lstore 6, 2, .null, 6),
  (7, .iload 5, 2, .null, 5),
  (9, .ifCond .ne (16), 3, .null, 25),
  (12, .aload_n 0, 1, .null, 0),
  (13, .aload_n 1, 1, .null, 1),
  (14, .iload_n 2, 1, .null, 2),
  (15, .lload 6, 2, .null, 6),
  (17, .lload_n 3, 1, .null, 3),
  (18, .invokestatic 78, 3, .null, 0),
  (21, .invokevirtual 74, 3, .null, 0),
  (24, .ireturn, 1, .null, 0),
  (25, .iload 5, 2, .null, 5),
  (27, .iconst 1, 1, (.int (1)), 0),
  (28, .if_icmp .eq (8), 3, .null, 36),
  (31, .aload_n 0, 1, .null, 0),
  (32, .getfield 22, 3, .null, 0),
  (35, .ireturn, 1, .null, 0),
  (36, .lload 6, 2, .null, 6),
  (38, .lload_n 3, 1, .null, 3),
  (39, .ladd, 1, .null, 0),
  (40, .ldc2_w 82, 3, (.long (1000000000000)), 0),
  (43, .lcmp, 1, .null, 0),
  (44, .ifCond .le (8), 3, .null, 52),
  (47, .bipush (-6), 2, (.int (-6)), 0),
  (49, .goto (13), 3, .null, 62),
  (52, .aload_n 0, 1, .null, 0),
  (53, .aload_n 1, 1, .null, 1),
  (54, .iload_n 2, 1, .null, 2),
  (55, .lload 6, 2, .null, 6),
  (57, .lload_n 3, 1, .null, 3),
  (58, .ladd, 1, .null, 0),
  (59, .invokevirtual 74, 3, .null, 0),
  (62, .ireturn, 1, .null, 0)]
noncomputable def m_X7_gatherBoth : ab_M := (c_X7_gatherBoth, [(0, [0, 1, 2, 3, 5])],
  [(22, 7, 3, 0)],
  [],
  [(66, 1, 2, g_X7_outAt), (74, 1, 4, g_X7_gatherOne), (78, 0, 2, g_minl)],
  [], 8, 1)
theorem one_X7_gatherBoth : ab_oneM m_X7_gatherBoth := List.forall_mem_cons.mpr ⟨o_X7_outAt, List.forall_mem_cons.mpr ⟨o_X7_gatherOne, List.forall_mem_cons.mpr ⟨o_minl, fun _ h => absurd h List.not_mem_nil⟩⟩⟩
noncomputable def f_X7_gatherBoth (l0 : Nat) (l1 : Nat) (l2 : Int32) (l3 : Int64) (l5 : Int32) (st : ab_S) : Option ab_R := ab_rc st l0 7 (ab_lim m_X7_gatherBoth 0 [.ref l0, .ref l1, .int l2, .long l3, .int l5] [] st)
noncomputable def g_X7_gatherBoth : ab_G := fun as st k => match as with
  | [.ref a0, .ref a1, .int a2, .long a3, .int a4] => ab_ri (f_X7_gatherBoth a0 a1 a2 a3 a4 st) (fun x t => k [.int x] t)
  | _ => none
theorem o_X7_gatherBoth : ab_one g_X7_gatherBoth := by
  intro as st k r h
  unfold g_X7_gatherBoth at h ⊢
  split at h
  · exact one_ri h
  · cases h
set_option maxRecDepth 100000 in
theorem e_X7_gatherBoth_0 (l0 : Nat) (l1 : Nat) (l2 : Int32) (l3 : Int64) (l5 : Int32) (st : ab_S) : f_X7_gatherBoth l0 l1 l2 l3 l5 st =
    ab_rc st l0 7 (
    ab_rl (f_X7_outAt l1 l2 st) fun x2 s1 =>
    if l5 = 0
    then ab_ri (f_X7_gatherOne l0 l1 l2 (if l3 < x2 then l3 else x2) s1) fun x4 s3 =>
      some (some (.int x4), s3)
    else if l5 = (1 : Int32)
      then if (lg_cmp (x2 + l3) (1000000000000 : Int64)) ≤ 0
        then ab_ri (f_X7_gatherOne l0 l1 l2 (x2 + l3) s1) fun x6 s5 =>
          some (some (.int x6), s5)
        else some (some (.int (-6 : Int32)), s1)
      else Option.bind (ab_gI s1 l0 7 3) fun x7 =>
        some (some (.int x7), s1)) := congrArg (ab_rc st l0 7) ((lm_eq one_X7_gatherBoth 0 _ _ _).trans rfl)
def c_X7_gather : List (Nat × ab_I) := [(0, .aload_n 0, 1, .null, 0),
  (1, .invokevirtual 59, 3, .null, 0),
  (4, .iconst 0, 1, (.int (0)), 0),
  (5, .istore 4, 2, .null, 4),
  (7, .iconst 0, 1, (.int (0)), 0),
  (8, .istore 5, 2, .null, 5),
  (10, .iconst 0, 1, (.int (0)), 0),
  (11, .istore 6, 2, .null, 6),
  (13, .iconst 0, 1, (.int (0)), 0),
  (14, .istore 7, 2, .null, 7),
  (16, .iload 7, 2, .null, 7),
  (18, .sipush (400), 3, (.int (400)), 0),
  (21, .if_icmp .ge (189), 3, .null, 210),
  (24, .iload 6, 2, .null, 6),
  (26, .ifCond .lt (184), 3, .null, 210),
  (29, .iload 4, 2, .null, 4),
  (31, .aload_n 1, 1, .null, 1),
  (32, .getfield 22, 3, .null, 0),
  (35, .if_icmp .lt (12), 3, .null, 47),
  (38, .iload 5, 2, .null, 5),
  (40, .aload_n 2, 1, .null, 2),
  (41, .getfield 22, 3, .null, 0),
  (44, .if_icmp .ge (166), 3, .null, 210),
  (47, .iload 4, 2, .null, 4),
  (49, .aload_n 1, 1, .null, 1),
  (50, .getfield 22, 3, .null, 0),
  (53, .if_icmp .lt (7), 3, .null, 60),
  (56, .iconst 1, 1, (.int (1)), 0),
  (57, .goto (25), 3, .null, 82),
  (60, .iload 5, 2, .null, 5),
  (62, .aload_n 2, 1, .null, 2),
  (63, .getfield 22, 3, .null, 0),
  (66, .if_icmp .lt (7), 3, .null, 73),
  (69, .iconst (-1), 1, (.int (-1)), 0),
  (70, .goto (12), 3, .null, 82),
  (73, .aload_n 1, 1, .null, 1),
  (74, .iload 4, 2, .null, 4),
  (76, .aload_n 2, 1, .null, 2),
  (77, .iload 5, 2, .null, 5),
  (79, .invokestatic 62, 3, .null, 0),
  (82, .istore 8, 2, .null, 8),
  (84, .iload 8, 2, .null, 8),
  (86, .ifCond .ne (22), 3, .null, 108),
  (89, .aload_n 0, 1, .null, 0),
  (90, .aload_n 1, 1, .null, 1),
  (91, .iload 4, 2, .null, 4),
  (93, .aload_n 2, 1, .null, 2),
  (94, .iload 5, 2, .null, 5),
  (96, .invokevirtual 66, 3, .null, 0),
  (99, .iload_n 3, 1, .null, 3),
  (100, .invokevirtual 70, 3, .null, 0),
  (103, .istore 6, 2, .null, 6),
  (105, .goto (69), 3, .null, 174),
  (108, .iload 8, 2, .null, 8),
  (110, .ifCond .ge (33), 3, .null, 143),
  (113, .iload_n 3, 1, .null, 3),
  (114, .iconst 1, 1, (.int (1)), 0),
  (115, .if_icmp .ne (10), 3, .null, 125),
  (118, .aload_n 0, 1, .null, 0),
  (119, .getfield 22, 3, .null, 0),
  (122, .goto (16), 3, .null, 138),
  (125, .aload_n 0, 1, .null, 0),
  (126, .aload_n 1, 1, .null, 1),
  (127, .iload 4, 2, .null, 4),
  (129, .aload_n 1, 1, .null, 1),
  (130, .iload 4, 2, .null, 4),
  (132, .invokevirtual 66, 3, .null, 0),
  (135, .invokevirtual 74, 3, .null, 0),
  (138, .istore 6, 2, .null, 6),
  (140, .goto (34), 3, .null, 174),
  (143, .iload_n 3, 1, .null, 3),
  (144, .ifCond .eq (8), 3, .null, 152),
  (147, .iload_n 3, 1, .null, 3),
  (148, .iconst 3, 1, (.int (3)), 0),
  (149, .if_icmp .ne (19), 3, .null, 168),
  (152, .aload_n 0, 1, .null, 0),
  (153, .aload_n 2, 1, .null, 2),
  (154, .iload 5, 2, .null, 5),
  (156, .aload_n 2, 1, .null, 2),
  (157, .iload 5, 2, .null, 5),
  (159, .invokevirtual 66, 3, .null, 0),
  (162, .invokevirtual 74, 3, .null, 0),
  (165, .goto (7), 3, .null, 172),
  (168, .aload_n 0, 1, .null, 0),
  (169, .getfield 22, 3, .null, 0),
  (172, .istore 6, 2, .null, 6),
  (174, .iload 4, 2, .null, 4),
  (176, .iload 8, 2, .null, 8),
  (178, .ifCond .gt (7), 3, .null, 185),
  (181, .iconst 1, 1, (.int (1)), 0),
  (182, .goto (4), 3, .null, 186),
  (185, .iconst 0, 1, (.int (0)), 0),
  (186, .iadd, 1, .null, 0),
  (187, .istore 4, 2, .null, 4),
  (189, .iload 5, 2, .null, 5),
  (191, .iload 8, 2, .null, 8),
  (193, .ifCond .lt (7), 3, .null, 200),
  (196, .iconst 1, 1, (.int (1)), 0),
  (197, .goto (4), 3, .null, 201),
  (200, .iconst 0, 1, (.int (0)), 0),
  (201, .iadd, 1, .null, 0),
  (202, .istore 5, 2, .null, 5),
  (204, .iinc 7 (1), 3, (.int (1)), 7),
  (207, .goto (-191), 3, .null, 16),
  (210, .iload 6, 2, .null, 6),
  (212, .ireturn, 1, .null, 0)]
noncomputable def m_X7_gather : ab_M := (c_X7_gather, [(0, [0, 1, 2, 3]), (16, [0, 1, 2, 3, 4, 5, 6, 7]), (47, [0, 1, 2, 3, 4, 5, 7]), (82, [0, 1, 2, 3, 4, 5, 7]), (138, [0, 1, 2, 3, 4, 5, 7, 8]), (152, [0, 1, 2, 3, 4, 5, 7, 8]), (172, [0, 1, 2, 3, 4, 5, 7, 8]), (174, [0, 1, 2, 3, 4, 5, 6, 7, 8]), (186, [0, 1, 2, 3, 5, 6, 7, 8]), (201, [0, 1, 2, 3, 4, 6, 7])],
  [(22, 7, 3, 0)],
  [],
  [(59, 1, 1, g_X7_clear), (62, 0, 4, g_X7_compareTerms), (66, 1, 2, g_X7_outAt), (70, 1, 5, g_X7_gatherBoth), (74, 1, 4, g_X7_gatherOne)],
  [], 9, 1)
theorem one_X7_gather : ab_oneM m_X7_gather := List.forall_mem_cons.mpr ⟨o_X7_clear, List.forall_mem_cons.mpr ⟨o_X7_compareTerms, List.forall_mem_cons.mpr ⟨o_X7_outAt, List.forall_mem_cons.mpr ⟨o_X7_gatherBoth, List.forall_mem_cons.mpr ⟨o_X7_gatherOne, fun _ h => absurd h List.not_mem_nil⟩⟩⟩⟩⟩
noncomputable def f_X7_gather (l0 : Nat) (l1 : Nat) (l2 : Nat) (l3 : Int32) (st : ab_S) : Option ab_R := ab_rc st l0 7 (ab_lim m_X7_gather 0 [.ref l0, .ref l1, .ref l2, .int l3] [] st)
noncomputable def L_X7_gather_16 (l0 : Nat) (l1 : Nat) (l2 : Nat) (l3 : Int32) (l4 : Int32) (l5 : Int32) (l6 : Int32) (l7 : Int32) (st : ab_S) : Option ab_R := ab_lim m_X7_gather 16 [.ref l0, .ref l1, .ref l2, .int l3, .int l4, .int l5, .int l6, .int l7] [] st
noncomputable def L_X7_gather_47 (l0 : Nat) (l1 : Nat) (l2 : Nat) (l3 : Int32) (l4 : Int32) (l5 : Int32) (l7 : Int32) (st : ab_S) : Option ab_R := ab_lim m_X7_gather 47 [.ref l0, .ref l1, .ref l2, .int l3, .int l4, .int l5, .int l7] [] st
noncomputable def L_X7_gather_82 (l0 : Nat) (l1 : Nat) (l2 : Nat) (l3 : Int32) (l4 : Int32) (l5 : Int32) (l7 : Int32) (t0 : Int32) (st : ab_S) : Option ab_R := ab_lim m_X7_gather 82 [.ref l0, .ref l1, .ref l2, .int l3, .int l4, .int l5, .int l7] [.int t0] st
noncomputable def L_X7_gather_138 (l0 : Nat) (l1 : Nat) (l2 : Nat) (l3 : Int32) (l4 : Int32) (l5 : Int32) (l7 : Int32) (l8 : Int32) (t0 : Int32) (st : ab_S) : Option ab_R := ab_lim m_X7_gather 138 [.ref l0, .ref l1, .ref l2, .int l3, .int l4, .int l5, .int l7, .int l8] [.int t0] st
noncomputable def L_X7_gather_152 (l0 : Nat) (l1 : Nat) (l2 : Nat) (l3 : Int32) (l4 : Int32) (l5 : Int32) (l7 : Int32) (l8 : Int32) (st : ab_S) : Option ab_R := ab_lim m_X7_gather 152 [.ref l0, .ref l1, .ref l2, .int l3, .int l4, .int l5, .int l7, .int l8] [] st
noncomputable def L_X7_gather_172 (l0 : Nat) (l1 : Nat) (l2 : Nat) (l3 : Int32) (l4 : Int32) (l5 : Int32) (l7 : Int32) (l8 : Int32) (t0 : Int32) (st : ab_S) : Option ab_R := ab_lim m_X7_gather 172 [.ref l0, .ref l1, .ref l2, .int l3, .int l4, .int l5, .int l7, .int l8] [.int t0] st
noncomputable def L_X7_gather_174 (l0 : Nat) (l1 : Nat) (l2 : Nat) (l3 : Int32) (l4 : Int32) (l5 : Int32) (l6 : Int32) (l7 : Int32) (l8 : Int32) (st : ab_S) : Option ab_R := ab_lim m_X7_gather 174 [.ref l0, .ref l1, .ref l2, .int l3, .int l4, .int l5, .int l6, .int l7, .int l8] [] st
noncomputable def L_X7_gather_186 (l0 : Nat) (l1 : Nat) (l2 : Nat) (l3 : Int32) (l5 : Int32) (l6 : Int32) (l7 : Int32) (l8 : Int32) (t0 : Int32) (t1 : Int32) (st : ab_S) : Option ab_R := ab_lim m_X7_gather 186 [.ref l0, .ref l1, .ref l2, .int l3, .int l5, .int l6, .int l7, .int l8] [.int t1, .int t0] st
noncomputable def L_X7_gather_201 (l0 : Nat) (l1 : Nat) (l2 : Nat) (l3 : Int32) (l4 : Int32) (l6 : Int32) (l7 : Int32) (t0 : Int32) (t1 : Int32) (st : ab_S) : Option ab_R := ab_lim m_X7_gather 201 [.ref l0, .ref l1, .ref l2, .int l3, .int l4, .int l6, .int l7] [.int t1, .int t0] st
noncomputable def g_X7_gather : ab_G := fun as st k => match as with
  | [.ref a0, .ref a1, .ref a2, .int a3] => ab_ri (f_X7_gather a0 a1 a2 a3 st) (fun x t => k [.int x] t)
  | _ => none
theorem o_X7_gather : ab_one g_X7_gather := by
  intro as st k r h
  unfold g_X7_gather at h ⊢
  split at h
  · exact one_ri h
  · cases h
set_option maxRecDepth 100000 in
theorem e_X7_gather_0 (l0 : Nat) (l1 : Nat) (l2 : Nat) (l3 : Int32) (st : ab_S) : f_X7_gather l0 l1 l2 l3 st =
    ab_rc st l0 7 (
    ab_rv (f_X7_clear l0 st) fun s1 =>
    L_X7_gather_16 l0 l1 l2 l3 (0 : Int32) (0 : Int32) (0 : Int32) (0 : Int32) s1) := congrArg (ab_rc st l0 7) ((lm_eq one_X7_gather 0 _ _ _).trans rfl)
set_option maxRecDepth 100000 in
theorem e_X7_gather_16 (l0 : Nat) (l1 : Nat) (l2 : Nat) (l3 : Int32) (l4 : Int32) (l5 : Int32) (l6 : Int32) (l7 : Int32) (st : ab_S) : L_X7_gather_16 l0 l1 l2 l3 l4 l5 l6 l7 st =
    if (400 : Int32) ≤ l7
    then some (some (.int l6), st)
    else if l6 < 0
      then some (some (.int l6), st)
      else Option.bind (ab_gI st l1 7 3) fun x1 =>
        if l4 < x1
        then L_X7_gather_47 l0 l1 l2 l3 l4 l5 l7 st
        else Option.bind (ab_gI st l2 7 3) fun x2 =>
          if x2 ≤ l5
          then some (some (.int l6), st)
          else L_X7_gather_47 l0 l1 l2 l3 l4 l5 l7 st := (lm_eq one_X7_gather 16 _ _ _).trans rfl
set_option maxRecDepth 100000 in
theorem e_X7_gather_47 (l0 : Nat) (l1 : Nat) (l2 : Nat) (l3 : Int32) (l4 : Int32) (l5 : Int32) (l7 : Int32) (st : ab_S) : L_X7_gather_47 l0 l1 l2 l3 l4 l5 l7 st =
    Option.bind (ab_gI st l1 7 3) fun x1 =>
    if l4 < x1
    then Option.bind (ab_gI st l2 7 3) fun x2 =>
      if l5 < x2
      then ab_ri (f_X7_compareTerms l1 l4 l2 l5 st) fun x4 s3 =>
        L_X7_gather_82 l0 l1 l2 l3 l4 l5 l7 x4 s3
      else L_X7_gather_82 l0 l1 l2 l3 l4 l5 l7 (-1 : Int32) st
    else L_X7_gather_82 l0 l1 l2 l3 l4 l5 l7 (1 : Int32) st := (lm_eq one_X7_gather 47 _ _ _).trans rfl
set_option maxRecDepth 100000 in
theorem e_X7_gather_82 (l0 : Nat) (l1 : Nat) (l2 : Nat) (l3 : Int32) (l4 : Int32) (l5 : Int32) (l7 : Int32) (t0 : Int32) (st : ab_S) : L_X7_gather_82 l0 l1 l2 l3 l4 l5 l7 t0 st =
    if t0 = 0
    then ab_rl (f_X7_outAt l2 l5 st) fun x2 s1 =>
      ab_ri (f_X7_gatherBoth l0 l1 l4 x2 l3 s1) fun x4 s3 =>
      L_X7_gather_174 l0 l1 l2 l3 l4 l5 x4 l7 t0 s3
    else if 0 ≤ t0
      then if l3 = 0
        then L_X7_gather_152 l0 l1 l2 l3 l4 l5 l7 t0 st
        else if l3 = (3 : Int32)
          then L_X7_gather_152 l0 l1 l2 l3 l4 l5 l7 t0 st
          else Option.bind (ab_gI st l0 7 3) fun x5 =>
            L_X7_gather_172 l0 l1 l2 l3 l4 l5 l7 t0 x5 st
      else if l3 = (1 : Int32)
        then Option.bind (ab_gI st l0 7 3) fun x6 =>
          L_X7_gather_138 l0 l1 l2 l3 l4 l5 l7 t0 x6 st
        else ab_rl (f_X7_outAt l1 l4 st) fun x8 s7 =>
          ab_ri (f_X7_gatherOne l0 l1 l4 x8 s7) fun x10 s9 =>
          L_X7_gather_138 l0 l1 l2 l3 l4 l5 l7 t0 x10 s9 := (lm_eq one_X7_gather 82 _ _ _).trans rfl
set_option maxRecDepth 100000 in
theorem e_X7_gather_138 (l0 : Nat) (l1 : Nat) (l2 : Nat) (l3 : Int32) (l4 : Int32) (l5 : Int32) (l7 : Int32) (l8 : Int32) (t0 : Int32) (st : ab_S) : L_X7_gather_138 l0 l1 l2 l3 l4 l5 l7 l8 t0 st =
    L_X7_gather_174 l0 l1 l2 l3 l4 l5 t0 l7 l8 st := (lm_eq one_X7_gather 138 _ _ _).trans rfl
set_option maxRecDepth 100000 in
theorem e_X7_gather_152 (l0 : Nat) (l1 : Nat) (l2 : Nat) (l3 : Int32) (l4 : Int32) (l5 : Int32) (l7 : Int32) (l8 : Int32) (st : ab_S) : L_X7_gather_152 l0 l1 l2 l3 l4 l5 l7 l8 st =
    ab_rl (f_X7_outAt l2 l5 st) fun x2 s1 =>
    ab_ri (f_X7_gatherOne l0 l2 l5 x2 s1) fun x4 s3 =>
    L_X7_gather_172 l0 l1 l2 l3 l4 l5 l7 l8 x4 s3 := (lm_eq one_X7_gather 152 _ _ _).trans rfl
set_option maxRecDepth 100000 in
theorem e_X7_gather_172 (l0 : Nat) (l1 : Nat) (l2 : Nat) (l3 : Int32) (l4 : Int32) (l5 : Int32) (l7 : Int32) (l8 : Int32) (t0 : Int32) (st : ab_S) : L_X7_gather_172 l0 l1 l2 l3 l4 l5 l7 l8 t0 st =
    L_X7_gather_174 l0 l1 l2 l3 l4 l5 t0 l7 l8 st := (lm_eq one_X7_gather 172 _ _ _).trans rfl
set_option maxRecDepth 100000 in
theorem e_X7_gather_174 (l0 : Nat) (l1 : Nat) (l2 : Nat) (l3 : Int32) (l4 : Int32) (l5 : Int32) (l6 : Int32) (l7 : Int32) (l8 : Int32) (st : ab_S) : L_X7_gather_174 l0 l1 l2 l3 l4 l5 l6 l7 l8 st =
    if 0 < l8
    then L_X7_gather_186 l0 l1 l2 l3 l5 l6 l7 l8 l4 (0 : Int32) st
    else L_X7_gather_186 l0 l1 l2 l3 l5 l6 l7 l8 l4 (1 : Int32) st := (lm_eq one_X7_gather 174 _ _ _).trans rfl
set_option maxRecDepth 100000 in
theorem e_X7_gather_186 (l0 : Nat) (l1 : Nat) (l2 : Nat) (l3 : Int32) (l5 : Int32) (l6 : Int32) (l7 : Int32) (l8 : Int32) (t0 : Int32) (t1 : Int32) (st : ab_S) : L_X7_gather_186 l0 l1 l2 l3 l5 l6 l7 l8 t0 t1 st =
    if l8 < 0
    then L_X7_gather_201 l0 l1 l2 l3 (t0 + t1) l6 l7 l5 (0 : Int32) st
    else L_X7_gather_201 l0 l1 l2 l3 (t0 + t1) l6 l7 l5 (1 : Int32) st := (lm_eq one_X7_gather 186 _ _ _).trans rfl
set_option maxRecDepth 100000 in
theorem e_X7_gather_201 (l0 : Nat) (l1 : Nat) (l2 : Nat) (l3 : Int32) (l4 : Int32) (l6 : Int32) (l7 : Int32) (t0 : Int32) (t1 : Int32) (st : ab_S) : L_X7_gather_201 l0 l1 l2 l3 l4 l6 l7 t0 t1 st =
    L_X7_gather_16 l0 l1 l2 l3 l4 (t0 + t1) l6 (l7 + (1 : Int32)) st := (lm_eq one_X7_gather 201 _ _ _).trans rfl
def c_X10_putSpareAt : List (Nat × ab_I) := [(0, .aload_n 0, 1, .null, 0),
  (1, .getfield 11, 3, .null, 0),
  (4, .iload_n 1, 1, .null, 1),
  (5, .aaload, 1, .null, 0),
  (6, .astore_n 2, 1, .null, 2),
  (7, .aload_n 0, 1, .null, 0),
  (8, .getfield 80, 3, .null, 0),
  (11, .iconst 0, 1, (.int (0)), 0),
  (12, .putfield 109, 3, .null, 0),
  (15, .aload_n 0, 1, .null, 0),
  (16, .getfield 11, 3, .null, 0),
  (19, .iload_n 1, 1, .null, 1),
  (20, .aload_n 0, 1, .null, 0),
  (21, .getfield 80, 3, .null, 0),
  (24, .aastore, 1, .null, 0),
  (25, .aload_n 0, 1, .null, 0),
  (26, .aload_n 2, 1, .null, 2),
  (27, .putfield 80, 3, .null, 0),
  (30, .aload_n 0, 1, .null, 0),
  (31, .getfield 15, 3, .null, 0),
  (34, .iload_n 1, 1, .null, 1),
  (35, .dup2, 1, .null, 0),
  (36, .iaload, 1, .null, 0),
  (37, .iconst 1, 1, (.int (1)), 0),
  (38, .iadd, 1, .null, 0),
  (39, .iastore, 1, .null, 0),
  (40, .return_, 1, .null, 0)]
noncomputable def m_X10_putSpareAt : ab_M := (c_X10_putSpareAt, [(0, [0, 1])],
  [(11, 10, 0, 3), (15, 10, 1, 3), (80, 10, 14, 3), (109, 0, 2, 1)],
  [],
  [],
  [], 3, 0)
theorem one_X10_putSpareAt : ab_oneM m_X10_putSpareAt := fun _ h => absurd h List.not_mem_nil
noncomputable def f_X10_putSpareAt (l0 : Nat) (l1 : Int32) (st : ab_S) : Option ab_R := ab_rc st l0 10 (ab_lim m_X10_putSpareAt 0 [.ref l0, .int l1] [] st)
noncomputable def g_X10_putSpareAt : ab_G := fun as st k => match as with
  | [.ref a0, .int a1] => ab_rv (f_X10_putSpareAt a0 a1 st) (fun t => k [] t)
  | _ => none
theorem o_X10_putSpareAt : ab_one g_X10_putSpareAt := by
  intro as st k r h
  unfold g_X10_putSpareAt at h ⊢
  split at h
  · exact one_rv h
  · cases h
set_option maxRecDepth 100000 in
theorem e_X10_putSpareAt_0 (l0 : Nat) (l1 : Int32) (st : ab_S) : f_X10_putSpareAt l0 l1 st =
    ab_rc st l0 10 (
    Option.bind (ab_gR st l0 10 0) fun x1 =>
    Option.bind (ab_rR st x1 l1) fun x2 =>
    Option.bind (ab_gR st l0 10 14) fun x3 =>
    Option.bind (ab_pZ st x3 0 2 (0 : Int32)) fun s4 =>
    Option.bind (ab_gR s4 l0 10 0) fun x5 =>
    Option.bind (ab_gR s4 l0 10 14) fun x6 =>
    Option.bind (ab_wR s4 x5 l1 x6) fun s7 =>
    Option.bind (ab_pR s7 l0 10 14 x2) fun s8 =>
    Option.bind (ab_gR s8 l0 10 1) fun x9 =>
    Option.bind (ab_rI s8 x9 l1) fun x10 =>
    Option.bind (ab_wI s8 x9 l1 (x10 + (1 : Int32))) fun s11 =>
    some (none, s11)) := congrArg (ab_rc st l0 10) ((lm_eq one_X10_putSpareAt 0 _ _ _).trans rfl)
def c_X10_join : List (Nat × ab_I) := [(0, .iload_n 1, 1, .null, 1),
  (1, .invokestatic 95, 3, .null, 0),
  (4, .ifCond .eq (28), 3, .null, 32),
  (7, .iload_n 2, 1, .null, 2),
  (8, .invokestatic 95, 3, .null, 0),
  (11, .ifCond .eq (21), 3, .null, 32),
  (14, .iload_n 3, 1, .null, 3),
  (15, .invokestatic 95, 3, .null, 0),
  (18, .ifCond .eq (14), 3, .null, 32),
  (21, .iload 4, 2, .null, 4),
  (23, .ifCond .lt (9), 3, .null, 32),
  (26, .iload 4, 2, .null, 4),
  (28, .iconst 4, 1, (.int (4)), 0),
  (29, .if_icmp .lt (6), 3, .null, 35),
  (32, .bipush (-2), 2, (.int (-2)), 0),
  (34, .ireturn, 1, .null, 0),
  (35, .aload_n 0, 1, .null, 0),
  (36, .getfield 11, 3, .null, 0),
  (39, .iload_n 1, 1, .null, 1),
  (40, .aaload, 1, .null, 0),
  (41, .getfield 109, 3, .null, 0),
  (44, .ifCond .ne (15), 3, .null, 59),
  (47, .aload_n 0, 1, .null, 0),
  (48, .getfield 11, 3, .null, 0),
  (51, .iload_n 2, 1, .null, 2),
  (52, .aaload, 1, .null, 0),
  (53, .getfield 109, 3, .null, 0),
  (56, .ifCond .eq (6), 3, .null, 62),
  (59, .bipush (-4), 2, (.int (-4)), 0),
  (61, .ireturn, 1, .null, 0),
  (62, .aload_n 0, 1, .null, 0),
  (63, .getfield 80, 3, .null, 0),
  (66, .getfield 99, 3, .null, 0),
  (69, .aload_n 0, 1, .null, 0),
  (70, .getfield 11, 3, .null, 0),
  (73, .iload_n 1, 1, .null, 1),
  (74, .aaload, 1, .null, 0),
  (75, .getfield 99, 3, .null, 0),
  (78, .aload_n 0, 1, .null, 0),
  (79, .getfield 11, 3, .null, 0),
  (82, .iload_n 2, 1, .null, 2),
  (83, .aaload, 1, .null, 0),
  (84, .getfield 99, 3, .null, 0),
  (87, .iload 4, 2, .null, 4),
  (89, .invokevirtual 208, 3, .null, 0),
  (92, .istore 5, 2, .null, 5),
  (94, .iload 5, 2, .null, 5),
  (96, .ifCond .lt (19), 3, .null, 115),
  (99, .aload_n 0, 1, .null, 0),
  (100, .getfield 28, 3, .null, 0),
  (103, .aload_n 0, 1, .null, 0),
  (104, .getfield 80, 3, .null, 0),
  (107, .invokevirtual 126, 3, .null, 0),
  (110, .aload_n 0, 1, .null, 0),
  (111, .iload_n 3, 1, .null, 3),
  (112, .invokevirtual 212, 3, .null, 0),
  (115, .iload 5, 2, .null, 5),
  (117, .ireturn, 1, .null, 0)]
noncomputable def m_X10_join : ab_M := (c_X10_join, [(0, [0, 1, 2, 3, 4])],
  [(11, 10, 0, 3), (28, 10, 3, 3), (80, 10, 14, 3), (99, 0, 0, 3), (109, 0, 2, 1)],
  [],
  [(95, 0, 1, g_X10_isDictionary), (126, 1, 2, g_X8_build), (208, 1, 4, g_X7_gather), (212, 1, 2, g_X10_putSpareAt)],
  [], 6, 1)
theorem one_X10_join : ab_oneM m_X10_join := List.forall_mem_cons.mpr ⟨o_X10_isDictionary, List.forall_mem_cons.mpr ⟨o_X8_build, List.forall_mem_cons.mpr ⟨o_X7_gather, List.forall_mem_cons.mpr ⟨o_X10_putSpareAt, fun _ h => absurd h List.not_mem_nil⟩⟩⟩⟩
noncomputable def f_X10_join (l0 : Nat) (l1 : Int32) (l2 : Int32) (l3 : Int32) (l4 : Int32) (st : ab_S) : Option ab_R := ab_rc st l0 10 (ab_lim m_X10_join 0 [.ref l0, .int l1, .int l2, .int l3, .int l4] [] st)
noncomputable def g_X10_join : ab_G := fun as st k => match as with
  | [.ref a0, .int a1, .int a2, .int a3, .int a4] => ab_ri (f_X10_join a0 a1 a2 a3 a4 st) (fun x t => k [.int x] t)
  | _ => none
theorem o_X10_join : ab_one g_X10_join := by
  intro as st k r h
  unfold g_X10_join at h ⊢
  split at h
  · exact one_ri h
  · cases h
set_option maxRecDepth 100000 in
theorem e_X10_join_0 (l0 : Nat) (l1 : Int32) (l2 : Int32) (l3 : Int32) (l4 : Int32) (st : ab_S) : f_X10_join l0 l1 l2 l3 l4 st =
    ab_rc st l0 10 (
    ab_ri (f_X10_isDictionary l1 st) fun x2 s1 =>
    if x2 = 0
    then some (some (.int (-2 : Int32)), s1)
    else ab_ri (f_X10_isDictionary l2 s1) fun x4 s3 =>
      if x4 = 0
      then some (some (.int (-2 : Int32)), s3)
      else ab_ri (f_X10_isDictionary l3 s3) fun x6 s5 =>
        if x6 = 0
        then some (some (.int (-2 : Int32)), s5)
        else if l4 < 0
          then some (some (.int (-2 : Int32)), s5)
          else if l4 < (4 : Int32)
            then Option.bind (ab_gR s5 l0 10 0) fun x7 =>
              Option.bind (ab_rR s5 x7 l1) fun x8 =>
              Option.bind (ab_gI s5 x8 0 2) fun x9 =>
              if x9 = 0
              then Option.bind (ab_gR s5 l0 10 0) fun x10 =>
                Option.bind (ab_rR s5 x10 l2) fun x11 =>
                Option.bind (ab_gI s5 x11 0 2) fun x12 =>
                if x12 = 0
                then Option.bind (ab_gR s5 l0 10 14) fun x13 =>
                  Option.bind (ab_gR s5 x13 0 0) fun x14 =>
                  Option.bind (ab_gR s5 l0 10 0) fun x15 =>
                  Option.bind (ab_rR s5 x15 l1) fun x16 =>
                  Option.bind (ab_gR s5 x16 0 0) fun x17 =>
                  Option.bind (ab_gR s5 l0 10 0) fun x18 =>
                  Option.bind (ab_rR s5 x18 l2) fun x19 =>
                  Option.bind (ab_gR s5 x19 0 0) fun x20 =>
                  ab_ri (f_X7_gather x14 x17 x20 l4 s5) fun x22 s21 =>
                  if x22 < 0
                  then some (some (.int x22), s21)
                  else Option.bind (ab_gR s21 l0 10 3) fun x23 =>
                    Option.bind (ab_gR s21 l0 10 14) fun x24 =>
                    ab_rv (f_X8_build x23 x24 s21) fun s25 =>
                    ab_rv (f_X10_putSpareAt l0 l3 s25) fun s26 =>
                    some (some (.int x22), s26)
                else some (some (.int (-4 : Int32)), s5)
              else some (some (.int (-4 : Int32)), s5)
            else some (some (.int (-2 : Int32)), s5)) := congrArg (ab_rc st l0 10) ((lm_eq one_X10_join 0 _ _ _).trans rfl)
def c_X11_compareTerms : List (Nat × ab_I) := [(0, .aload_n 0, 1, .null, 0),
  (1, .getfield 16, 3, .null, 0),
  (4, .sipush (200), 3, (.int (200)), 0),
  (7, .iload_n 1, 1, .null, 1),
  (8, .imul, 1, .null, 0),
  (9, .iload_n 2, 1, .null, 2),
  (10, .iadd, 1, .null, 0),
  (11, .iaload, 1, .null, 0),
  (12, .istore 5, 2, .null, 5),
  (14, .aload_n 0, 1, .null, 0),
  (15, .getfield 16, 3, .null, 0),
  (18, .sipush (200), 3, (.int (200)), 0),
  (21, .iload_n 3, 1, .null, 3),
  (22, .imul, 1, .null, 0),
  (23, .iload 4, 2, .null, 4),
  (25, .iadd, 1, .null, 0),
  (26, .iaload, 1, .null, 0),
  (27, .istore 6, 2, .null, 6),
  (29, .iconst 0, 1, (.int (0)), 0),
  (30, .istore 7, 2, .null, 7),
  (32, .iload 7, 2, .null, 7),
  (34, .iload 5, 2, .null, 5),
  (36, .if_icmp .ge (44), 3, .null, 80),
  (39, .iload 7, 2, .null, 7),
  (41, .iload 6, 2, .null, 6),
  (43, .if_icmp .ge (37), 3, .null, 80),
  (46, .aload_n 0, 1, .null, 0),
  (47, .iload_n 1, 1, .null, 1),
  (48, .iload_n 2, 1, .null, 2),
  (49, .iload 7, 2, .null, 7),
  (51, .invokevirtual 153, 3, .null, 0),
  (54, .aload_n 0, 1, .null, 0),
  (55, .iload_n 3, 1, .null, 3),
  (56, .iload 4, 2, .null, 4),
  (58, .iload 7, 2, .null, 7),
  (60, .invokevirtual 153, 3, .null, 0),
  (63, .isub, 1, .null, 0),
  (64, .istore 8, 2, .null, 8),
  (66, .iload 8, 2, .null, 8),
  (68, .ifCond .eq (6), 3, .null, 74),
  (71, .iload 8, 2, .null, 8),
  (73, .ireturn, 1, .null, 0),
  (74, .iinc 7 (1), 3, (.int (1)), 7),
  (77, .goto (-45), 3, .null, 32),
  (80, .iload 5, 2, .null, 5),
  (82, .iload 6, 2, .null, 6),
  (84, .isub, 1, .null, 0),
  (85, .ireturn, 1, .null, 0)]
noncomputable def m_X11_compareTerms : ab_M := (c_X11_compareTerms, [(0, [0, 1, 2, 3, 4]), (32, [0, 1, 2, 3, 4, 5, 6, 7])],
  [(16, 11, 3, 3)],
  [],
  [(153, 1, 4, g_X11_letter)],
  [], 9, 1)
theorem one_X11_compareTerms : ab_oneM m_X11_compareTerms := List.forall_mem_cons.mpr ⟨o_X11_letter, fun _ h => absurd h List.not_mem_nil⟩
noncomputable def f_X11_compareTerms (l0 : Nat) (l1 : Int32) (l2 : Int32) (l3 : Int32) (l4 : Int32) (st : ab_S) : Option ab_R := ab_rc st l0 11 (ab_lim m_X11_compareTerms 0 [.ref l0, .int l1, .int l2, .int l3, .int l4] [] st)
noncomputable def L_X11_compareTerms_32 (l0 : Nat) (l1 : Int32) (l2 : Int32) (l3 : Int32) (l4 : Int32) (l5 : Int32) (l6 : Int32) (l7 : Int32) (st : ab_S) : Option ab_R := ab_lim m_X11_compareTerms 32 [.ref l0, .int l1, .int l2, .int l3, .int l4, .int l5, .int l6, .int l7] [] st
noncomputable def g_X11_compareTerms : ab_G := fun as st k => match as with
  | [.ref a0, .int a1, .int a2, .int a3, .int a4] => ab_ri (f_X11_compareTerms a0 a1 a2 a3 a4 st) (fun x t => k [.int x] t)
  | _ => none
theorem o_X11_compareTerms : ab_one g_X11_compareTerms := by
  intro as st k r h
  unfold g_X11_compareTerms at h ⊢
  split at h
  · exact one_ri h
  · cases h
set_option maxRecDepth 100000 in
theorem e_X11_compareTerms_0 (l0 : Nat) (l1 : Int32) (l2 : Int32) (l3 : Int32) (l4 : Int32) (st : ab_S) : f_X11_compareTerms l0 l1 l2 l3 l4 st =
    ab_rc st l0 11 (
    Option.bind (ab_gR st l0 11 3) fun x1 =>
    Option.bind (ab_rI st x1 (((200 : Int32) * l1) + l2)) fun x2 =>
    Option.bind (ab_gR st l0 11 3) fun x3 =>
    Option.bind (ab_rI st x3 (((200 : Int32) * l3) + l4)) fun x4 =>
    L_X11_compareTerms_32 l0 l1 l2 l3 l4 x2 x4 (0 : Int32) st) := congrArg (ab_rc st l0 11) ((lm_eq one_X11_compareTerms 0 _ _ _).trans rfl)
set_option maxRecDepth 100000 in
theorem e_X11_compareTerms_32 (l0 : Nat) (l1 : Int32) (l2 : Int32) (l3 : Int32) (l4 : Int32) (l5 : Int32) (l6 : Int32) (l7 : Int32) (st : ab_S) : L_X11_compareTerms_32 l0 l1 l2 l3 l4 l5 l6 l7 st =
    if l5 ≤ l7
    then some (some (.int (l5 - l6)), st)
    else if l6 ≤ l7
      then some (some (.int (l5 - l6)), st)
      else ab_ri (f_X11_letter l0 l1 l2 l7 st) fun x2 s1 =>
        ab_ri (f_X11_letter l0 l3 l4 l7 s1) fun x4 s3 =>
        if (x2 - x4) = 0
        then L_X11_compareTerms_32 l0 l1 l2 l3 l4 l5 l6 (l7 + (1 : Int32)) s3
        else some (some (.int (x2 - x4)), s3) := (lm_eq one_X11_compareTerms 32 _ _ _).trans rfl
