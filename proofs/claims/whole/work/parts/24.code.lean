def c_X10_prefix : List (Nat × ab_I) := [(0, .iload_n 1, 1, .null, 1),
  (1, .invokestatic 95, 3, .null, 0),
  (4, .ifCond .eq (15), 3, .null, 19),
  (7, .aload_n 0, 1, .null, 0),
  (8, .iload_n 1, 1, .null, 1),
  (9, .sipush (200), 3, (.int (200)), 0),
  (12, .iconst 0, 1, (.int (0)), 0),
  (13, .invokevirtual 186, 3, .null, 0),
  (16, .goto (5), 3, .null, 21),
  (19, .bipush (-2), 2, (.int (-2)), 0),
  (21, .ireturn, 1, .null, 0)]
noncomputable def m_X10_prefix : ab_M := (c_X10_prefix, [(0, [0, 1])],
  [],
  [],
  [(95, 0, 1, g_X10_isDictionary), (186, 1, 4, g_X10_keepBeginning)],
  [], 2, 1)
theorem one_X10_prefix : ab_oneM m_X10_prefix := List.forall_mem_cons.mpr ⟨o_X10_isDictionary, List.forall_mem_cons.mpr ⟨o_X10_keepBeginning, fun _ h => absurd h List.not_mem_nil⟩⟩
noncomputable def f_X10_prefix (l0 : Nat) (l1 : Int32) (st : ab_S) : Option ab_R := ab_rc st l0 10 (ab_lim m_X10_prefix 0 [.ref l0, .int l1] [] st)
noncomputable def g_X10_prefix : ab_G := fun as st k => match as with
  | [.ref a0, .int a1] => ab_ri (f_X10_prefix a0 a1 st) (fun x t => k [.int x] t)
  | _ => none
theorem o_X10_prefix : ab_one g_X10_prefix := by
  intro as st k r h
  unfold g_X10_prefix at h ⊢
  split at h
  · exact one_ri h
  · cases h
set_option maxRecDepth 100000 in
theorem e_X10_prefix_0 (l0 : Nat) (l1 : Int32) (st : ab_S) : f_X10_prefix l0 l1 st =
    ab_rc st l0 10 (
    ab_ri (f_X10_isDictionary l1 st) fun x2 s1 =>
    if x2 = 0
    then some (some (.int (-2 : Int32)), s1)
    else ab_ri (f_X10_keepBeginning l0 l1 (200 : Int32) (0 : Int32) s1) fun x4 s3 =>
      some (some (.int x4), s3)) := congrArg (ab_rc st l0 10) ((lm_eq one_X10_prefix 0 _ _ _).trans rfl)
def c_X11_gather : List (Nat × ab_I) := [(0, .aload_n 0, 1, .null, 0),
  (1, .iconst 0, 1, (.int (0)), 0),
  (2, .putfield 242, 3, .null, 0),
  (5, .iconst 0, 1, (.int (0)), 0),
  (6, .istore_n 3, 1, .null, 3),
  (7, .iload_n 3, 1, .null, 3),
  (8, .aload_n 0, 1, .null, 0),
  (9, .getfield 24, 3, .null, 0),
  (12, .iload_n 1, 1, .null, 1),
  (13, .iaload, 1, .null, 0),
  (14, .if_icmp .ge (39), 3, .null, 53),
  (17, .aload_n 0, 1, .null, 0),
  (18, .iload_n 1, 1, .null, 1),
  (19, .iload_n 3, 1, .null, 3),
  (20, .iload_n 2, 1, .null, 2),
  (21, .invokevirtual 226, 3, .null, 0),
  (24, .ifCond .eq (23), 3, .null, 47),
  (27, .aload_n 0, 1, .null, 0),
  (28, .getfield 34, 3, .null, 0),
  (31, .aload_n 0, 1, .null, 0),
  (32, .getfield 242, 3, .null, 0),
  (35, .iload_n 3, 1, .null, 3),
  (36, .iastore, 1, .null, 0),
  (37, .aload_n 0, 1, .null, 0),
  (38, .dup, 1, .null, 0),
  (39, .getfield 242, 3, .null, 0),
  (42, .iconst 1, 1, (.int (1)), 0),
  (43, .iadd, 1, .null, 0),
  (44, .putfield 242, 3, .null, 0),
  (47, .iinc 3 (1), 3, (.int (1)), 3),
  (50, .goto (-43), 3, .null, 7),
  (53, .return_, 1, .null, 0)]
noncomputable def m_X11_gather : ab_M := (c_X11_gather, [(0, [0, 1, 2]), (7, [0, 1, 2, 3]), (47, [0, 1, 2, 3])],
  [(24, 11, 5, 3), (34, 11, 8, 3), (242, 11, 9, 0)],
  [],
  [(226, 1, 4, g_X11_isBeginning)],
  [], 4, 0)
theorem one_X11_gather : ab_oneM m_X11_gather := List.forall_mem_cons.mpr ⟨o_X11_isBeginning, fun _ h => absurd h List.not_mem_nil⟩
noncomputable def f_X11_gather (l0 : Nat) (l1 : Int32) (l2 : Int32) (st : ab_S) : Option ab_R := ab_rc st l0 11 (ab_lim m_X11_gather 0 [.ref l0, .int l1, .int l2] [] st)
noncomputable def L_X11_gather_7 (l0 : Nat) (l1 : Int32) (l2 : Int32) (l3 : Int32) (st : ab_S) : Option ab_R := ab_lim m_X11_gather 7 [.ref l0, .int l1, .int l2, .int l3] [] st
noncomputable def L_X11_gather_47 (l0 : Nat) (l1 : Int32) (l2 : Int32) (l3 : Int32) (st : ab_S) : Option ab_R := ab_lim m_X11_gather 47 [.ref l0, .int l1, .int l2, .int l3] [] st
noncomputable def g_X11_gather : ab_G := fun as st k => match as with
  | [.ref a0, .int a1, .int a2] => ab_rv (f_X11_gather a0 a1 a2 st) (fun t => k [] t)
  | _ => none
theorem o_X11_gather : ab_one g_X11_gather := by
  intro as st k r h
  unfold g_X11_gather at h ⊢
  split at h
  · exact one_rv h
  · cases h
set_option maxRecDepth 100000 in
theorem e_X11_gather_0 (l0 : Nat) (l1 : Int32) (l2 : Int32) (st : ab_S) : f_X11_gather l0 l1 l2 st =
    ab_rc st l0 11 (
    Option.bind (ab_pI st l0 11 9 (0 : Int32)) fun s1 =>
    L_X11_gather_7 l0 l1 l2 (0 : Int32) s1) := congrArg (ab_rc st l0 11) ((lm_eq one_X11_gather 0 _ _ _).trans rfl)
set_option maxRecDepth 100000 in
theorem e_X11_gather_7 (l0 : Nat) (l1 : Int32) (l2 : Int32) (l3 : Int32) (st : ab_S) : L_X11_gather_7 l0 l1 l2 l3 st =
    Option.bind (ab_gR st l0 11 5) fun x1 =>
    Option.bind (ab_rI st x1 l1) fun x2 =>
    if x2 ≤ l3
    then some (none, st)
    else ab_ri (f_X11_isBeginning l0 l1 l3 l2 st) fun x4 s3 =>
      if x4 = 0
      then L_X11_gather_47 l0 l1 l2 l3 s3
      else Option.bind (ab_gR s3 l0 11 8) fun x5 =>
        Option.bind (ab_gI s3 l0 11 9) fun x6 =>
        Option.bind (ab_wI s3 x5 x6 l3) fun s7 =>
        Option.bind (ab_gI s7 l0 11 9) fun x8 =>
        Option.bind (ab_pI s7 l0 11 9 (x8 + (1 : Int32))) fun s9 =>
        L_X11_gather_47 l0 l1 l2 l3 s9 := (lm_eq one_X11_gather 7 _ _ _).trans rfl
set_option maxRecDepth 100000 in
theorem e_X11_gather_47 (l0 : Nat) (l1 : Int32) (l2 : Int32) (l3 : Int32) (st : ab_S) : L_X11_gather_47 l0 l1 l2 l3 st =
    L_X11_gather_7 l0 l1 l2 (l3 + (1 : Int32)) st := (lm_eq one_X11_gather 47 _ _ _).trans rfl
def c_X11_prefix : List (Nat × ab_I) := [(0, .iload_n 1, 1, .null, 1),
  (1, .invokestatic 159, 3, .null, 0),
  (4, .ifCond .ne (6), 3, .null, 10),
  (7, .bipush (-2), 2, (.int (-2)), 0),
  (9, .ireturn, 1, .null, 0),
  (10, .aload_n 0, 1, .null, 0),
  (11, .invokevirtual 165, 3, .null, 0),
  (14, .istore_n 2, 1, .null, 2),
  (15, .aload_n 0, 1, .null, 0),
  (16, .getfield 27, 3, .null, 0),
  (19, .iload_n 1, 1, .null, 1),
  (20, .baload, 1, .null, 0),
  (21, .ifCond .eq (6), 3, .null, 27),
  (24, .bipush (-4), 2, (.int (-4)), 0),
  (26, .ireturn, 1, .null, 0),
  (27, .aload_n 0, 1, .null, 0),
  (28, .iload_n 1, 1, .null, 1),
  (29, .iload_n 2, 1, .null, 2),
  (30, .invokevirtual 245, 3, .null, 0),
  (33, .aload_n 0, 1, .null, 0),
  (34, .getfield 242, 3, .null, 0),
  (37, .ireturn, 1, .null, 0)]
noncomputable def m_X11_prefix : ab_M := (c_X11_prefix, [(0, [0, 1])],
  [(27, 11, 6, 3), (242, 11, 9, 0)],
  [],
  [(159, 0, 1, g_X11_isDictionary), (165, 1, 1, g_X11_forget), (245, 1, 3, g_X11_gather)],
  [], 3, 1)
theorem one_X11_prefix : ab_oneM m_X11_prefix := List.forall_mem_cons.mpr ⟨o_X11_isDictionary, List.forall_mem_cons.mpr ⟨o_X11_forget, List.forall_mem_cons.mpr ⟨o_X11_gather, fun _ h => absurd h List.not_mem_nil⟩⟩⟩
noncomputable def f_X11_prefix (l0 : Nat) (l1 : Int32) (st : ab_S) : Option ab_R := ab_rc st l0 11 (ab_lim m_X11_prefix 0 [.ref l0, .int l1] [] st)
noncomputable def g_X11_prefix : ab_G := fun as st k => match as with
  | [.ref a0, .int a1] => ab_ri (f_X11_prefix a0 a1 st) (fun x t => k [.int x] t)
  | _ => none
theorem o_X11_prefix : ab_one g_X11_prefix := by
  intro as st k r h
  unfold g_X11_prefix at h ⊢
  split at h
  · exact one_ri h
  · cases h
set_option maxRecDepth 100000 in
theorem e_X11_prefix_0 (l0 : Nat) (l1 : Int32) (st : ab_S) : f_X11_prefix l0 l1 st =
    ab_rc st l0 11 (
    ab_ri (f_X11_isDictionary l1 st) fun x2 s1 =>
    if x2 = 0
    then some (some (.int (-2 : Int32)), s1)
    else ab_ri (f_X11_forget l0 s1) fun x4 s3 =>
      Option.bind (ab_gR s3 l0 11 6) fun x5 =>
      Option.bind (ab_rB s3 x5 l1) fun x6 =>
      if x6 = 0
      then ab_rv (f_X11_gather l0 l1 x4 s3) fun s7 =>
        Option.bind (ab_gI s7 l0 11 9) fun x8 =>
        some (some (.int x8), s7)
      else some (some (.int (-4 : Int32)), s3)) := congrArg (ab_rc st l0 11) ((lm_eq one_X11_prefix 0 _ _ _).trans rfl)
def c_X10_cheapest : List (Nat × ab_I) := [(0, .iload_n 1, 1, .null, 1),
  (1, .invokestatic 95, 3, .null, 0),
  (4, .ifCond .eq (25), 3, .null, 29),
  (7, .iload_n 2, 1, .null, 2),
  (8, .iconst 1, 1, (.int (1)), 0),
  (9, .if_icmp .lt (20), 3, .null, 29),
  (12, .iload_n 2, 1, .null, 2),
  (13, .sipush (200), 3, (.int (200)), 0),
  (16, .if_icmp .gt (13), 3, .null, 29),
  (19, .aload_n 0, 1, .null, 0),
  (20, .iload_n 1, 1, .null, 1),
  (21, .iload_n 2, 1, .null, 2),
  (22, .iconst 1, 1, (.int (1)), 0),
  (23, .invokevirtual 186, 3, .null, 0),
  (26, .goto (5), 3, .null, 31),
  (29, .bipush (-2), 2, (.int (-2)), 0),
  (31, .ireturn, 1, .null, 0)]
noncomputable def m_X10_cheapest : ab_M := (c_X10_cheapest, [(0, [0, 1, 2])],
  [],
  [],
  [(95, 0, 1, g_X10_isDictionary), (186, 1, 4, g_X10_keepBeginning)],
  [], 3, 1)
theorem one_X10_cheapest : ab_oneM m_X10_cheapest := List.forall_mem_cons.mpr ⟨o_X10_isDictionary, List.forall_mem_cons.mpr ⟨o_X10_keepBeginning, fun _ h => absurd h List.not_mem_nil⟩⟩
noncomputable def f_X10_cheapest (l0 : Nat) (l1 : Int32) (l2 : Int32) (st : ab_S) : Option ab_R := ab_rc st l0 10 (ab_lim m_X10_cheapest 0 [.ref l0, .int l1, .int l2] [] st)
noncomputable def g_X10_cheapest : ab_G := fun as st k => match as with
  | [.ref a0, .int a1, .int a2] => ab_ri (f_X10_cheapest a0 a1 a2 st) (fun x t => k [.int x] t)
  | _ => none
theorem o_X10_cheapest : ab_one g_X10_cheapest := by
  intro as st k r h
  unfold g_X10_cheapest at h ⊢
  split at h
  · exact one_ri h
  · cases h
set_option maxRecDepth 100000 in
theorem e_X10_cheapest_0 (l0 : Nat) (l1 : Int32) (l2 : Int32) (st : ab_S) : f_X10_cheapest l0 l1 l2 st =
    ab_rc st l0 10 (
    ab_ri (f_X10_isDictionary l1 st) fun x2 s1 =>
    if x2 = 0
    then some (some (.int (-2 : Int32)), s1)
    else if l2 < (1 : Int32)
      then some (some (.int (-2 : Int32)), s1)
      else if (200 : Int32) < l2
        then some (some (.int (-2 : Int32)), s1)
        else ab_ri (f_X10_keepBeginning l0 l1 l2 (1 : Int32) s1) fun x4 s3 =>
          some (some (.int x4), s3)) := congrArg (ab_rc st l0 10) ((lm_eq one_X10_cheapest 0 _ _ _).trans rfl)
def c_X11_cheapest : List (Nat × ab_I) := [(0, .iload_n 1, 1, .null, 1),
  (1, .invokestatic 159, 3, .null, 0),
  (4, .ifCond .eq (15), 3, .null, 19),
  (7, .iload_n 2, 1, .null, 2),
  (8, .i2l, 1, .null, 0),
  (9, .lconst 1, 1, (.long (1)), 0),
  (10, .ldc2_w 249, 3, (.long (200)), 0),
  (13, .invokestatic 146, 3, .null, 0),
  (16, .ifCond .ne (6), 3, .null, 22),
  (19, .bipush (-2), 2, (.int (-2)), 0),
  (21, .ireturn, 1, .null, 0),
  (22, .aload_n 0, 1, .null, 0),
  (23, .invokevirtual 165, 3, .null, 0),
  (26, .istore_n 3, 1, .null, 3),
  (27, .aload_n 0, 1, .null, 0),
  (28, .getfield 27, 3, .null, 0),
  (31, .iload_n 1, 1, .null, 1),
  (32, .baload, 1, .null, 0),
  (33, .ifCond .eq (6), 3, .null, 39),
  (36, .bipush (-4), 2, (.int (-4)), 0),
  (38, .ireturn, 1, .null, 0),
  (39, .aload_n 0, 1, .null, 0),
  (40, .iload_n 1, 1, .null, 1),
  (41, .iload_n 3, 1, .null, 3),
  (42, .invokevirtual 245, 3, .null, 0),
  (45, .iconst 1, 1, (.int (1)), 0),
  (46, .istore 4, 2, .null, 4),
  (48, .iload 4, 2, .null, 4),
  (50, .aload_n 0, 1, .null, 0),
  (51, .getfield 242, 3, .null, 0),
  (54, .if_icmp .ge (95), 3, .null, 149),
  (57, .aload_n 0, 1, .null, 0),
  (58, .getfield 34, 3, .null, 0),
  (61, .iload 4, 2, .null, 4),
  (63, .iaload, 1, .null, 0),
  (64, .istore 5, 2, .null, 5),
  (66, .iload 4, 2, .null, 4),
  (68, .istore 6, 2, .null, 6),
  (70, .iload 6, 2, .null, 6),
  (72, .ifCond .le (62), 3, .null, 134),
  (75, .aload_n 0, 1, .null, 0),
  (76, .getfield 20, 3, .null, 0),
  (79, .sipush (200), 3, (.int (200)), 0),
  (82, .iload_n 1, 1, .null, 1),
  (83, .imul, 1, .null, 0),
  (84, .aload_n 0, 1, .null, 0),
  (85, .getfield 34, 3, .null, 0),
  (88, .iload 6, 2, .null, 6),
  (90, .iconst 1, 1, (.int (1)), 0),
  (91, .isub, 1, .null, 0),
  (92, .iaload, 1, .null, 0),
  (93, .iadd, 1, .null, 0),
  (94, .laload, 1, .null, 0),
  (95, .aload_n 0, 1, .null, 0),
  (96, .getfield 20, 3, .null, 0),
  (99, .sipush (200), 3, (.int (200)), 0),
  (102, .iload_n 1, 1, .null, 1),
  (103, .imul, 1, .null, 0),
  (104, .iload 5, 2, .null, 5),
  (106, .iadd, 1, .null, 0),
  (107, .laload, 1, .null, 0),
  (108, .lcmp, 1, .null, 0),
  (109, .ifCond .le (25), 3, .null, 134),
  (112, .aload_n 0, 1, .null, 0),
  (113, .getfield 34, 3, .null, 0),
  (116, .iload 6, 2, .null, 6),
  (118, .aload_n 0, 1, .null, 0),
  (119, .getfield 34, 3, .null, 0),
  (122, .iload 6, 2, .null, 6),
  (124, .iconst 1, 1, (.int (1)), 0),
  (125, .isub, 1, .null, 0),
  (126, .iaload, 1, .null, 0),
  (127, .iastore, 1, .null, 0),
  (128, .iinc 6 (-1), 3, (.int (-1)), 6),
  (131, .goto (-61), 3, .null, 70),
  (134, .aload_n 0, 1, .null, 0),
  (135, .getfield 34, 3, .null, 0),
  (138, .iload 6, 2, .null, 6),
  (140, .iload 5, 2, .null, 5),
  (142, .iastore, 1, .null, 0),
  (143, .iinc 4 (1), 3, (.int (1)), 4),
  (146, .goto (-98), 3, .null, 48),
  (149, .aload_n 0, 1, .null, 0),
  (150, .aload_n 0, 1, .null, 0),
  (151, .getfield 242, 3, .null, 0),
  (154, .i2l, 1, .null, 0),
  (155, .iload_n 2, 1, .null, 2),
  (156, .i2l, 1, .null, 0),
  (157, .invokestatic 198, 3, .null, 0),
  (160, .l2i, 1, .null, 0),
  (161, .putfield 242, 3, .null, 0),
  (164, .aload_n 0, 1, .null, 0),
  (165, .getfield 242, 3, .null, 0),
  (168, .ireturn, 1, .null, 0)]
noncomputable def m_X11_cheapest : ab_M := (c_X11_cheapest, [(0, [0, 1, 2]), (48, [0, 1, 2, 4]), (70, [0, 1, 2, 4, 5, 6]), (134, [0, 1, 2, 4, 5, 6])],
  [(20, 11, 4, 3), (27, 11, 6, 3), (34, 11, 8, 3), (242, 11, 9, 0)],
  [],
  [(146, 0, 3, g_X11_isIn), (159, 0, 1, g_X11_isDictionary), (165, 1, 1, g_X11_forget), (198, 0, 2, g_X11_lesser), (245, 1, 3, g_X11_gather)],
  [], 7, 1)
theorem one_X11_cheapest : ab_oneM m_X11_cheapest := List.forall_mem_cons.mpr ⟨o_X11_isIn, List.forall_mem_cons.mpr ⟨o_X11_isDictionary, List.forall_mem_cons.mpr ⟨o_X11_forget, List.forall_mem_cons.mpr ⟨o_X11_lesser, List.forall_mem_cons.mpr ⟨o_X11_gather, fun _ h => absurd h List.not_mem_nil⟩⟩⟩⟩⟩
noncomputable def f_X11_cheapest (l0 : Nat) (l1 : Int32) (l2 : Int32) (st : ab_S) : Option ab_R := ab_rc st l0 11 (ab_lim m_X11_cheapest 0 [.ref l0, .int l1, .int l2] [] st)
noncomputable def L_X11_cheapest_48 (l0 : Nat) (l1 : Int32) (l2 : Int32) (l4 : Int32) (st : ab_S) : Option ab_R := ab_lim m_X11_cheapest 48 [.ref l0, .int l1, .int l2, .int l4] [] st
noncomputable def L_X11_cheapest_70 (l0 : Nat) (l1 : Int32) (l2 : Int32) (l4 : Int32) (l5 : Int32) (l6 : Int32) (st : ab_S) : Option ab_R := ab_lim m_X11_cheapest 70 [.ref l0, .int l1, .int l2, .int l4, .int l5, .int l6] [] st
noncomputable def L_X11_cheapest_134 (l0 : Nat) (l1 : Int32) (l2 : Int32) (l4 : Int32) (l5 : Int32) (l6 : Int32) (st : ab_S) : Option ab_R := ab_lim m_X11_cheapest 134 [.ref l0, .int l1, .int l2, .int l4, .int l5, .int l6] [] st
noncomputable def g_X11_cheapest : ab_G := fun as st k => match as with
  | [.ref a0, .int a1, .int a2] => ab_ri (f_X11_cheapest a0 a1 a2 st) (fun x t => k [.int x] t)
  | _ => none
theorem o_X11_cheapest : ab_one g_X11_cheapest := by
  intro as st k r h
  unfold g_X11_cheapest at h ⊢
  split at h
  · exact one_ri h
  · cases h
set_option maxRecDepth 100000 in
theorem e_X11_cheapest_0 (l0 : Nat) (l1 : Int32) (l2 : Int32) (st : ab_S) : f_X11_cheapest l0 l1 l2 st =
    ab_rc st l0 11 (
    ab_ri (f_X11_isDictionary l1 st) fun x2 s1 =>
    if x2 = 0
    then some (some (.int (-2 : Int32)), s1)
    else ab_ri (f_X11_isIn l2.toInt64 (1 : Int64) (200 : Int64) s1) fun x4 s3 =>
      if x4 = 0
      then some (some (.int (-2 : Int32)), s3)
      else ab_ri (f_X11_forget l0 s3) fun x6 s5 =>
        Option.bind (ab_gR s5 l0 11 6) fun x7 =>
        Option.bind (ab_rB s5 x7 l1) fun x8 =>
        if x8 = 0
        then ab_rv (f_X11_gather l0 l1 x6 s5) fun s9 =>
          L_X11_cheapest_48 l0 l1 l2 (1 : Int32) s9
        else some (some (.int (-4 : Int32)), s5)) := congrArg (ab_rc st l0 11) ((lm_eq one_X11_cheapest 0 _ _ _).trans rfl)
set_option maxRecDepth 100000 in
theorem e_X11_cheapest_48 (l0 : Nat) (l1 : Int32) (l2 : Int32) (l4 : Int32) (st : ab_S) : L_X11_cheapest_48 l0 l1 l2 l4 st =
    Option.bind (ab_gI st l0 11 9) fun x1 =>
    if x1 ≤ l4
    then Option.bind (ab_gI st l0 11 9) fun x2 =>
      ab_rl (f_X11_lesser x2.toInt64 l2.toInt64 st) fun x4 s3 =>
      Option.bind (ab_pI s3 l0 11 9 x4.toInt32) fun s5 =>
      Option.bind (ab_gI s5 l0 11 9) fun x6 =>
      some (some (.int x6), s5)
    else Option.bind (ab_gR st l0 11 8) fun x7 =>
      Option.bind (ab_rI st x7 l4) fun x8 =>
      L_X11_cheapest_70 l0 l1 l2 l4 x8 l4 st := (lm_eq one_X11_cheapest 48 _ _ _).trans rfl
set_option maxRecDepth 100000 in
theorem e_X11_cheapest_70 (l0 : Nat) (l1 : Int32) (l2 : Int32) (l4 : Int32) (l5 : Int32) (l6 : Int32) (st : ab_S) : L_X11_cheapest_70 l0 l1 l2 l4 l5 l6 st =
    if l6 ≤ 0
    then L_X11_cheapest_134 l0 l1 l2 l4 l5 l6 st
    else Option.bind (ab_gR st l0 11 4) fun x1 =>
      Option.bind (ab_gR st l0 11 8) fun x2 =>
      Option.bind (ab_rI st x2 (l6 - (1 : Int32))) fun x3 =>
      Option.bind (ab_rJ st x1 (((200 : Int32) * l1) + x3)) fun x4 =>
      Option.bind (ab_gR st l0 11 4) fun x5 =>
      Option.bind (ab_rJ st x5 (((200 : Int32) * l1) + l5)) fun x6 =>
      if (lg_cmp x4 x6) ≤ 0
      then L_X11_cheapest_134 l0 l1 l2 l4 l5 l6 st
      else Option.bind (ab_gR st l0 11 8) fun x7 =>
        Option.bind (ab_gR st l0 11 8) fun x8 =>
        Option.bind (ab_rI st x8 (l6 - (1 : Int32))) fun x9 =>
        Option.bind (ab_wI st x7 l6 x9) fun s10 =>
        L_X11_cheapest_70 l0 l1 l2 l4 l5 (l6 + (-1 : Int32)) s10 := (lm_eq one_X11_cheapest 70 _ _ _).trans rfl
set_option maxRecDepth 100000 in
theorem e_X11_cheapest_134 (l0 : Nat) (l1 : Int32) (l2 : Int32) (l4 : Int32) (l5 : Int32) (l6 : Int32) (st : ab_S) : L_X11_cheapest_134 l0 l1 l2 l4 l5 l6 st =
    Option.bind (ab_gR st l0 11 8) fun x1 =>
    Option.bind (ab_wI st x1 l6 l5) fun s2 =>
    L_X11_cheapest_48 l0 l1 l2 (l4 + (1 : Int32)) s2 := (lm_eq one_X11_cheapest 134 _ _ _).trans rfl
def c_J_fill : List (Nat × ab_I) := [(0, .iconst 0, 1, (.int (0)), 0),
  (1, .istore_n 2, 1, .null, 2),
  (2, .aload_n 0, 1, .null, 0),
  (3, .arraylength, 1, .null, 0),
  (4, .istore_n 3, 1, .null, 3),
  (5, .iload_n 2, 1, .null, 2),
  (6, .iload_n 3, 1, .null, 3),
  (7, .if_icmp .ge (13), 3, .null, 20),
  (10, .aload_n 0, 1, .null, 0),
  (11, .iload_n 2, 1, .null, 2),
  (12, .iload_n 1, 1, .null, 1),
  (13, .iastore, 1, .null, 0),
  (14, .iinc 2 (1), 3, (.int (1)), 2),
  (17, .goto (-12), 3, .null, 5),
  (20, .return_, 1, .null, 0)]
noncomputable def m_J_fill : ab_M := (c_J_fill, [(0, [0, 1]), (5, [0, 1, 2, 3])],
  [],
  [],
  [],
  [], 4, 0)
theorem one_J_fill : ab_oneM m_J_fill := fun _ h => absurd h List.not_mem_nil
noncomputable def f_J_fill (l0 : Nat) (l1 : Int32) (st : ab_S) : Option ab_R := ab_lim m_J_fill 0 [.ref l0, .int l1] [] st
noncomputable def L_J_fill_5 (l0 : Nat) (l1 : Int32) (l2 : Int32) (l3 : Int32) (st : ab_S) : Option ab_R := ab_lim m_J_fill 5 [.ref l0, .int l1, .int l2, .int l3] [] st
noncomputable def g_J_fill : ab_G := fun as st k => match as with
  | [.ref a0, .int a1] => ab_rv (f_J_fill a0 a1 st) (fun t => k [] t)
  | _ => none
theorem o_J_fill : ab_one g_J_fill := by
  intro as st k r h
  unfold g_J_fill at h ⊢
  split at h
  · exact one_rv h
  · cases h
set_option maxRecDepth 100000 in
theorem e_J_fill_0 (l0 : Nat) (l1 : Int32) (st : ab_S) : f_J_fill l0 l1 st =
    Option.bind (ab_n st l0) fun n1 =>
    L_J_fill_5 l0 l1 (0 : Int32) (Int32.ofNat n1) st := (lm_eq one_J_fill 0 _ _ _).trans rfl
set_option maxRecDepth 100000 in
theorem e_J_fill_5 (l0 : Nat) (l1 : Int32) (l2 : Int32) (l3 : Int32) (st : ab_S) : L_J_fill_5 l0 l1 l2 l3 st =
    if l3 ≤ l2
    then some (none, st)
    else Option.bind (ab_wI st l0 l2 l1) fun s1 =>
      L_J_fill_5 l0 l1 (l2 + (1 : Int32)) l3 s1 := (lm_eq one_J_fill 5 _ _ _).trans rfl
def c_X4_become : List (Nat × ab_I) := [(0, .aload_n 0, 1, .null, 0),
  (1, .iload_n 1, 1, .null, 1),
  (2, .putfield 7, 3, .null, 0),
  (5, .aload_n 0, 1, .null, 0),
  (6, .iload_n 2, 1, .null, 2),
  (7, .putfield 13, 3, .null, 0),
  (10, .aload_n 0, 1, .null, 0),
  (11, .iload_n 3, 1, .null, 3),
  (12, .putfield 17, 3, .null, 0),
  (15, .return_, 1, .null, 0)]
noncomputable def m_X4_become : ab_M := (c_X4_become, [(0, [0, 1, 2, 3])],
  [(7, 4, 0, 1), (13, 4, 1, 0), (17, 4, 2, 0)],
  [],
  [],
  [], 4, 0)
theorem one_X4_become : ab_oneM m_X4_become := fun _ h => absurd h List.not_mem_nil
noncomputable def f_X4_become (l0 : Nat) (l1 : Int32) (l2 : Int32) (l3 : Int32) (st : ab_S) : Option ab_R := ab_rc st l0 4 (ab_lim m_X4_become 0 [.ref l0, .int l1, .int l2, .int l3] [] st)
noncomputable def g_X4_become : ab_G := fun as st k => match as with
  | [.ref a0, .int a1, .int a2, .int a3] => ab_rv (f_X4_become a0 a1 a2 a3 st) (fun t => k [] t)
  | _ => none
theorem o_X4_become : ab_one g_X4_become := by
  intro as st k r h
  unfold g_X4_become at h ⊢
  split at h
  · exact one_rv h
  · cases h
set_option maxRecDepth 100000 in
theorem e_X4_become_0 (l0 : Nat) (l1 : Int32) (l2 : Int32) (l3 : Int32) (st : ab_S) : f_X4_become l0 l1 l2 l3 st =
    ab_rc st l0 4 (
    Option.bind (ab_pZ st l0 4 0 l1) fun s1 =>
    Option.bind (ab_pI s1 l0 4 1 l2) fun s2 =>
    Option.bind (ab_pI s2 l0 4 2 l3) fun s3 =>
    some (none, s3)) := congrArg (ab_rc st l0 4) ((lm_eq one_X4_become 0 _ _ _).trans rfl)
def c_X5_startLevel : List (Nat × ab_I) := [(0, .aload_n 0, 1, .null, 0),
  (1, .getfield 23, 3, .null, 0),
  (4, .aload_n 0, 1, .null, 0),
  (5, .getfield 69, 3, .null, 0),
  (8, .aaload, 1, .null, 0),
  (9, .iconst 0, 1, (.int (0)), 0),
  (10, .iconst 0, 1, (.int (0)), 0),
  (11, .iconst 0, 1, (.int (0)), 0),
  (12, .invokevirtual 88, 3, .null, 0),
  (15, .aload_n 0, 1, .null, 0),
  (16, .getfield 27, 3, .null, 0),
  (19, .aload_n 0, 1, .null, 0),
  (20, .getfield 69, 3, .null, 0),
  (23, .aaload, 1, .null, 0),
  (24, .iconst 1, 1, (.int (1)), 0),
  (25, .iconst 0, 1, (.int (0)), 0),
  (26, .iconst 0, 1, (.int (0)), 0),
  (27, .invokevirtual 88, 3, .null, 0),
  (30, .return_, 1, .null, 0)]
noncomputable def m_X5_startLevel : ab_M := (c_X5_startLevel, [(0, [0])],
  [(23, 5, 3, 3), (27, 5, 4, 3), (69, 5, 7, 0)],
  [],
  [(88, 1, 4, g_X4_become)],
  [], 1, 0)
theorem one_X5_startLevel : ab_oneM m_X5_startLevel := List.forall_mem_cons.mpr ⟨o_X4_become, fun _ h => absurd h List.not_mem_nil⟩
noncomputable def f_X5_startLevel (l0 : Nat) (st : ab_S) : Option ab_R := ab_rc st l0 5 (ab_lim m_X5_startLevel 0 [.ref l0] [] st)
noncomputable def g_X5_startLevel : ab_G := fun as st k => match as with
  | [.ref a0] => ab_rv (f_X5_startLevel a0 st) (fun t => k [] t)
  | _ => none
theorem o_X5_startLevel : ab_one g_X5_startLevel := by
  intro as st k r h
  unfold g_X5_startLevel at h ⊢
  split at h
  · exact one_rv h
  · cases h
set_option maxRecDepth 100000 in
theorem e_X5_startLevel_0 (l0 : Nat) (st : ab_S) : f_X5_startLevel l0 st =
    ab_rc st l0 5 (
    Option.bind (ab_gR st l0 5 3) fun x1 =>
    Option.bind (ab_gI st l0 5 7) fun x2 =>
    Option.bind (ab_rR st x1 x2) fun x3 =>
    ab_rv (f_X4_become x3 (0 : Int32) (0 : Int32) (0 : Int32) st) fun s4 =>
    Option.bind (ab_gR s4 l0 5 4) fun x5 =>
    Option.bind (ab_gI s4 l0 5 7) fun x6 =>
    Option.bind (ab_rR s4 x5 x6) fun x7 =>
    ab_rv (f_X4_become x7 (1 : Int32) (0 : Int32) (0 : Int32) s4) fun s8 =>
    some (none, s8)) := congrArg (ab_rc st l0 5) ((lm_eq one_X5_startLevel 0 _ _ _).trans rfl)
def c_X5_start : List (Nat × ab_I) := [(0, .aload_n 0, 1, .null, 0),
  (1, .getfield 9, 3, .null, 0),
  (4, .iconst 0, 1, (.int (0)), 0),
  (5, .invokestatic 72, 3, .null, 0),
  (8, .aload_n 0, 1, .null, 0),
  (9, .getfield 15, 3, .null, 0),
  (12, .iconst 0, 1, (.int (0)), 0),
  (13, .invokestatic 72, 3, .null, 0),
  (16, .aload_n 0, 1, .null, 0),
  (17, .iconst 0, 1, (.int (0)), 0),
  (18, .putfield 78, 3, .null, 0),
  (21, .aload_n 0, 1, .null, 0),
  (22, .iconst (-1), 1, (.int (-1)), 0),
  (23, .putfield 62, 3, .null, 0),
  (26, .aload_n 0, 1, .null, 0),
  (27, .iconst 0, 1, (.int (0)), 0),
  (28, .putfield 81, 3, .null, 0),
  (31, .aload_n 0, 1, .null, 0),
  (32, .iconst 0, 1, (.int (0)), 0),
  (33, .putfield 69, 3, .null, 0),
  (36, .aload_n 0, 1, .null, 0),
  (37, .invokevirtual 85, 3, .null, 0),
  (40, .return_, 1, .null, 0)]
noncomputable def m_X5_start : ab_M := (c_X5_start, [(0, [0])],
  [(9, 5, 0, 3), (15, 5, 1, 3), (62, 5, 9, 0), (69, 5, 7, 0), (78, 5, 8, 0), (81, 5, 6, 1)],
  [],
  [(72, 0, 2, g_J_fill), (85, 1, 1, g_X5_startLevel)],
  [], 1, 0)
theorem one_X5_start : ab_oneM m_X5_start := List.forall_mem_cons.mpr ⟨o_J_fill, List.forall_mem_cons.mpr ⟨o_X5_startLevel, fun _ h => absurd h List.not_mem_nil⟩⟩
noncomputable def f_X5_start (l0 : Nat) (st : ab_S) : Option ab_R := ab_rc st l0 5 (ab_lim m_X5_start 0 [.ref l0] [] st)
noncomputable def g_X5_start : ab_G := fun as st k => match as with
  | [.ref a0] => ab_rv (f_X5_start a0 st) (fun t => k [] t)
  | _ => none
theorem o_X5_start : ab_one g_X5_start := by
  intro as st k r h
  unfold g_X5_start at h ⊢
  split at h
  · exact one_rv h
  · cases h
set_option maxRecDepth 100000 in
theorem e_X5_start_0 (l0 : Nat) (st : ab_S) : f_X5_start l0 st =
    ab_rc st l0 5 (
    Option.bind (ab_gR st l0 5 0) fun x1 =>
    ab_rv (f_J_fill x1 (0 : Int32) st) fun s2 =>
    Option.bind (ab_gR s2 l0 5 1) fun x3 =>
    ab_rv (f_J_fill x3 (0 : Int32) s2) fun s4 =>
    Option.bind (ab_pI s4 l0 5 8 (0 : Int32)) fun s5 =>
    Option.bind (ab_pI s5 l0 5 9 (-1 : Int32)) fun s6 =>
    Option.bind (ab_pZ s6 l0 5 6 (0 : Int32)) fun s7 =>
    Option.bind (ab_pI s7 l0 5 7 (0 : Int32)) fun s8 =>
    ab_rv (f_X5_startLevel l0 s8) fun s9 =>
    some (none, s9)) := congrArg (ab_rc st l0 5) ((lm_eq one_X5_start 0 _ _ _).trans rfl)
def c_X5_lead : List (Nat × ab_I) := [(0, .iconst 0, 1, (.int (0)), 0),
  (1, .istore_n 3, 1, .null, 3),
  (2, .iload_n 3, 1, .null, 3),
  (3, .aload_n 0, 1, .null, 0),
  (4, .getfield 78, 3, .null, 0),
  (7, .if_icmp .ge (33), 3, .null, 40),
  (10, .iload_n 3, 1, .null, 3),
  (11, .bipush (24), 2, (.int (24)), 0),
  (13, .if_icmp .ge (27), 3, .null, 40),
  (16, .iload_n 1, 1, .null, 1),
  (17, .iload_n 3, 1, .null, 3),
  (18, .iushr, 1, .null, 0),
  (19, .iconst 1, 1, (.int (1)), 0),
  (20, .iand, 1, .null, 0),
  (21, .ifCond .eq (13), 3, .null, 34),
  (24, .aload_n 0, 1, .null, 0),
  (25, .getfield 15, 3, .null, 0),
  (28, .iload_n 3, 1, .null, 3),
  (29, .dup2, 1, .null, 0),
  (30, .iaload, 1, .null, 0),
  (31, .iload_n 2, 1, .null, 2),
  (32, .ior, 1, .null, 0),
  (33, .iastore, 1, .null, 0),
  (34, .iinc 3 (1), 3, (.int (1)), 3),
  (37, .goto (-35), 3, .null, 2),
  (40, .return_, 1, .null, 0)]
noncomputable def m_X5_lead : ab_M := (c_X5_lead, [(0, [0, 1, 2]), (2, [0, 1, 2, 3]), (34, [0, 1, 2, 3])],
  [(15, 5, 1, 3), (78, 5, 8, 0)],
  [],
  [],
  [], 4, 0)
theorem one_X5_lead : ab_oneM m_X5_lead := fun _ h => absurd h List.not_mem_nil
noncomputable def f_X5_lead (l0 : Nat) (l1 : Int32) (l2 : Int32) (st : ab_S) : Option ab_R := ab_rc st l0 5 (ab_lim m_X5_lead 0 [.ref l0, .int l1, .int l2] [] st)
noncomputable def L_X5_lead_2 (l0 : Nat) (l1 : Int32) (l2 : Int32) (l3 : Int32) (st : ab_S) : Option ab_R := ab_lim m_X5_lead 2 [.ref l0, .int l1, .int l2, .int l3] [] st
noncomputable def L_X5_lead_34 (l0 : Nat) (l1 : Int32) (l2 : Int32) (l3 : Int32) (st : ab_S) : Option ab_R := ab_lim m_X5_lead 34 [.ref l0, .int l1, .int l2, .int l3] [] st
noncomputable def g_X5_lead : ab_G := fun as st k => match as with
  | [.ref a0, .int a1, .int a2] => ab_rv (f_X5_lead a0 a1 a2 st) (fun t => k [] t)
  | _ => none
theorem o_X5_lead : ab_one g_X5_lead := by
  intro as st k r h
  unfold g_X5_lead at h ⊢
  split at h
  · exact one_rv h
  · cases h
set_option maxRecDepth 100000 in
theorem e_X5_lead_0 (l0 : Nat) (l1 : Int32) (l2 : Int32) (st : ab_S) : f_X5_lead l0 l1 l2 st =
    ab_rc st l0 5 (
    L_X5_lead_2 l0 l1 l2 (0 : Int32) st) := congrArg (ab_rc st l0 5) ((lm_eq one_X5_lead 0 _ _ _).trans rfl)
set_option maxRecDepth 100000 in
theorem e_X5_lead_2 (l0 : Nat) (l1 : Int32) (l2 : Int32) (l3 : Int32) (st : ab_S) : L_X5_lead_2 l0 l1 l2 l3 st =
    Option.bind (ab_gI st l0 5 8) fun x1 =>
    if x1 ≤ l3
    then some (none, st)
    else if (24 : Int32) ≤ l3
      then some (none, st)
      else if ((l1.toUInt32 >>> (l3.toUInt32 &&& Int32.toUInt32 31)).toInt32 &&& (1 : Int32)) = 0
        then L_X5_lead_34 l0 l1 l2 l3 st
        else Option.bind (ab_gR st l0 5 1) fun x2 =>
          Option.bind (ab_rI st x2 l3) fun x3 =>
          Option.bind (ab_wI st x2 l3 (x3 ||| l2)) fun s4 =>
          L_X5_lead_34 l0 l1 l2 l3 s4 := (lm_eq one_X5_lead 2 _ _ _).trans rfl
set_option maxRecDepth 100000 in
theorem e_X5_lead_34 (l0 : Nat) (l1 : Int32) (l2 : Int32) (l3 : Int32) (st : ab_S) : L_X5_lead_34 l0 l1 l2 l3 st =
    L_X5_lead_2 l0 l1 l2 (l3 + (1 : Int32)) st := (lm_eq one_X5_lead 34 _ _ _).trans rfl
def c_X5_repeat : List (Nat × ab_I) := [(0, .iload_n 1, 1, .null, 1),
  (1, .bipush (63), 2, (.int (63)), 0),
  (3, .if_icmp .eq (21), 3, .null, 24),
  (6, .aload_n 0, 1, .null, 0),
  (7, .aload_n 0, 1, .null, 0),
  (8, .getfield 31, 3, .null, 0),
  (11, .getfield 116, 3, .null, 0),
  (14, .aload_n 0, 1, .null, 0),
  (15, .getfield 31, 3, .null, 0),
  (18, .getfield 113, 3, .null, 0),
  (21, .invokevirtual 138, 3, .null, 0),
  (24, .iload_n 1, 1, .null, 1),
  (25, .bipush (43), 2, (.int (43)), 0),
  (27, .if_icmp .eq (11), 3, .null, 38),
  (30, .aload_n 0, 1, .null, 0),
  (31, .getfield 31, 3, .null, 0),
  (34, .iconst 1, 1, (.int (1)), 0),
  (35, .putfield 110, 3, .null, 0),
  (38, .return_, 1, .null, 0)]
noncomputable def m_X5_repeat : ab_M := (c_X5_repeat, [(0, [0, 1]), (24, [0, 1])],
  [(31, 5, 5, 3), (110, 4, 0, 1), (113, 4, 1, 0), (116, 4, 2, 0)],
  [],
  [(138, 1, 3, g_X5_lead)],
  [], 2, 0)
theorem one_X5_repeat : ab_oneM m_X5_repeat := List.forall_mem_cons.mpr ⟨o_X5_lead, fun _ h => absurd h List.not_mem_nil⟩
noncomputable def f_X5_repeat (l0 : Nat) (l1 : Int32) (st : ab_S) : Option ab_R := ab_rc st l0 5 (ab_lim m_X5_repeat 0 [.ref l0, .int l1] [] st)
noncomputable def L_X5_repeat_24 (l0 : Nat) (l1 : Int32) (st : ab_S) : Option ab_R := ab_lim m_X5_repeat 24 [.ref l0, .int l1] [] st
noncomputable def g_X5_repeat : ab_G := fun as st k => match as with
  | [.ref a0, .int a1] => ab_rv (f_X5_repeat a0 a1 st) (fun t => k [] t)
  | _ => none
theorem o_X5_repeat : ab_one g_X5_repeat := by
  intro as st k r h
  unfold g_X5_repeat at h ⊢
  split at h
  · exact one_rv h
  · cases h
set_option maxRecDepth 100000 in
theorem e_X5_repeat_0 (l0 : Nat) (l1 : Int32) (st : ab_S) : f_X5_repeat l0 l1 st =
    ab_rc st l0 5 (
    if l1 = (63 : Int32)
    then L_X5_repeat_24 l0 l1 st
    else Option.bind (ab_gR st l0 5 5) fun x1 =>
      Option.bind (ab_gI st x1 4 2) fun x2 =>
      Option.bind (ab_gR st l0 5 5) fun x3 =>
      Option.bind (ab_gI st x3 4 1) fun x4 =>
      ab_rv (f_X5_lead l0 x2 x4 st) fun s5 =>
      L_X5_repeat_24 l0 l1 s5) := congrArg (ab_rc st l0 5) ((lm_eq one_X5_repeat 0 _ _ _).trans rfl)
set_option maxRecDepth 100000 in
theorem e_X5_repeat_24 (l0 : Nat) (l1 : Int32) (st : ab_S) : L_X5_repeat_24 l0 l1 st =
    if l1 = (43 : Int32)
    then some (none, st)
    else Option.bind (ab_gR st l0 5 5) fun x1 =>
      Option.bind (ab_pZ st x1 4 0 (1 : Int32)) fun s2 =>
      some (none, s2) := (lm_eq one_X5_repeat 24 _ _ _).trans rfl
def c_X5_settlePiece : List (Nat × ab_I) := [(0, .aload_n 0, 1, .null, 0),
  (1, .getfield 81, 3, .null, 0),
  (4, .ifCond .ne (4), 3, .null, 8),
  (7, .return_, 1, .null, 0),
  (8, .aload_n 0, 1, .null, 0),
  (9, .iconst 0, 1, (.int (0)), 0),
  (10, .putfield 81, 3, .null, 0),
  (13, .aload_n 0, 1, .null, 0),
  (14, .getfield 27, 3, .null, 0),
  (17, .aload_n 0, 1, .null, 0),
  (18, .getfield 69, 3, .null, 0),
  (21, .aaload, 1, .null, 0),
  (22, .astore_n 1, 1, .null, 1),
  (23, .aload_n 0, 1, .null, 0),
  (24, .aload_n 1, 1, .null, 1),
  (25, .getfield 116, 3, .null, 0),
  (28, .aload_n 0, 1, .null, 0),
  (29, .getfield 31, 3, .null, 0),
  (32, .getfield 113, 3, .null, 0),
  (35, .invokevirtual 138, 3, .null, 0),
  (38, .aload_n 1, 1, .null, 1),
  (39, .getfield 110, 3, .null, 0),
  (42, .ifCond .eq (18), 3, .null, 60),
  (45, .aload_n 1, 1, .null, 1),
  (46, .getfield 113, 3, .null, 0),
  (49, .aload_n 0, 1, .null, 0),
  (50, .getfield 31, 3, .null, 0),
  (53, .getfield 113, 3, .null, 0),
  (56, .ior, 1, .null, 0),
  (57, .goto (7), 3, .null, 64),
  (60, .aload_n 1, 1, .null, 1),
  (61, .getfield 113, 3, .null, 0),
  (64, .istore_n 2, 1, .null, 2),
  (65, .aload_n 0, 1, .null, 0),
  (66, .getfield 31, 3, .null, 0),
  (69, .getfield 110, 3, .null, 0),
  (72, .ifCond .eq (18), 3, .null, 90),
  (75, .aload_n 1, 1, .null, 1),
  (76, .getfield 116, 3, .null, 0),
  (79, .aload_n 0, 1, .null, 0),
  (80, .getfield 31, 3, .null, 0),
  (83, .getfield 116, 3, .null, 0),
  (86, .ior, 1, .null, 0),
  (87, .goto (10), 3, .null, 97),
  (90, .aload_n 0, 1, .null, 0),
  (91, .getfield 31, 3, .null, 0),
  (94, .getfield 116, 3, .null, 0),
  (97, .istore_n 3, 1, .null, 3),
  (98, .aload_n 1, 1, .null, 1),
  (99, .aload_n 1, 1, .null, 1),
  (100, .getfield 110, 3, .null, 0),
  (103, .ifCond .eq (17), 3, .null, 120),
  (106, .aload_n 0, 1, .null, 0),
  (107, .getfield 31, 3, .null, 0),
  (110, .getfield 110, 3, .null, 0),
  (113, .ifCond .eq (7), 3, .null, 120),
  (116, .iconst 1, 1, (.int (1)), 0),
  (117, .goto (4), 3, .null, 121),
  (120, .iconst 0, 1, (.int (0)), 0),
  (121, .iload_n 2, 1, .null, 2),
  (122, .iload_n 3, 1, .null, 3),
  (123, .invokevirtual 88, 3, .null, 0),
  (126, .return_, 1, .null, 0)]
noncomputable def m_X5_settlePiece : ab_M := (c_X5_settlePiece, [(0, [0]), (64, [0, 1]), (97, [0, 1, 2]), (120, [2, 3]), (121, [2, 3])],
  [(27, 5, 4, 3), (31, 5, 5, 3), (69, 5, 7, 0), (81, 5, 6, 1), (110, 4, 0, 1), (113, 4, 1, 0), (116, 4, 2, 0)],
  [],
  [(88, 1, 4, g_X4_become), (138, 1, 3, g_X5_lead)],
  [], 4, 0)
theorem one_X5_settlePiece : ab_oneM m_X5_settlePiece := List.forall_mem_cons.mpr ⟨o_X4_become, List.forall_mem_cons.mpr ⟨o_X5_lead, fun _ h => absurd h List.not_mem_nil⟩⟩
noncomputable def f_X5_settlePiece (l0 : Nat) (st : ab_S) : Option ab_R := ab_rc st l0 5 (ab_lim m_X5_settlePiece 0 [.ref l0] [] st)
noncomputable def L_X5_settlePiece_64 (l0 : Nat) (l1 : Nat) (t0 : Int32) (st : ab_S) : Option ab_R := ab_lim m_X5_settlePiece 64 [.ref l0, .ref l1] [.int t0] st
noncomputable def L_X5_settlePiece_97 (l0 : Nat) (l1 : Nat) (l2 : Int32) (t0 : Int32) (st : ab_S) : Option ab_R := ab_lim m_X5_settlePiece 97 [.ref l0, .ref l1, .int l2] [.int t0] st
noncomputable def L_X5_settlePiece_120 (l2 : Int32) (l3 : Int32) (t0 : Nat) (st : ab_S) : Option ab_R := ab_lim m_X5_settlePiece 120 [.int l2, .int l3] [.ref t0] st
noncomputable def L_X5_settlePiece_121 (l2 : Int32) (l3 : Int32) (t0 : Nat) (t1 : Int32) (st : ab_S) : Option ab_R := ab_lim m_X5_settlePiece 121 [.int l2, .int l3] [.int t1, .ref t0] st
noncomputable def g_X5_settlePiece : ab_G := fun as st k => match as with
  | [.ref a0] => ab_rv (f_X5_settlePiece a0 st) (fun t => k [] t)
  | _ => none
theorem o_X5_settlePiece : ab_one g_X5_settlePiece := by
  intro as st k r h
  unfold g_X5_settlePiece at h ⊢
  split at h
  · exact one_rv h
  · cases h
set_option maxRecDepth 100000 in
theorem e_X5_settlePiece_0 (l0 : Nat) (st : ab_S) : f_X5_settlePiece l0 st =
    ab_rc st l0 5 (
    Option.bind (ab_gI st l0 5 6) fun x1 =>
    if x1 = 0
    then some (none, st)
    else Option.bind (ab_pZ st l0 5 6 (0 : Int32)) fun s2 =>
      Option.bind (ab_gR s2 l0 5 4) fun x3 =>
      Option.bind (ab_gI s2 l0 5 7) fun x4 =>
      Option.bind (ab_rR s2 x3 x4) fun x5 =>
      Option.bind (ab_gI s2 x5 4 2) fun x6 =>
      Option.bind (ab_gR s2 l0 5 5) fun x7 =>
      Option.bind (ab_gI s2 x7 4 1) fun x8 =>
      ab_rv (f_X5_lead l0 x6 x8 s2) fun s9 =>
      Option.bind (ab_gI s9 x5 4 0) fun x10 =>
      if x10 = 0
      then Option.bind (ab_gI s9 x5 4 1) fun x11 =>
        L_X5_settlePiece_64 l0 x5 x11 s9
      else Option.bind (ab_gI s9 x5 4 1) fun x12 =>
        Option.bind (ab_gR s9 l0 5 5) fun x13 =>
        Option.bind (ab_gI s9 x13 4 1) fun x14 =>
        L_X5_settlePiece_64 l0 x5 (x12 ||| x14) s9) := congrArg (ab_rc st l0 5) ((lm_eq one_X5_settlePiece 0 _ _ _).trans rfl)
set_option maxRecDepth 100000 in
theorem e_X5_settlePiece_64 (l0 : Nat) (l1 : Nat) (t0 : Int32) (st : ab_S) : L_X5_settlePiece_64 l0 l1 t0 st =
    Option.bind (ab_gR st l0 5 5) fun x1 =>
    Option.bind (ab_gI st x1 4 0) fun x2 =>
    if x2 = 0
    then Option.bind (ab_gR st l0 5 5) fun x3 =>
      Option.bind (ab_gI st x3 4 2) fun x4 =>
      L_X5_settlePiece_97 l0 l1 t0 x4 st
    else Option.bind (ab_gI st l1 4 2) fun x5 =>
      Option.bind (ab_gR st l0 5 5) fun x6 =>
      Option.bind (ab_gI st x6 4 2) fun x7 =>
      L_X5_settlePiece_97 l0 l1 t0 (x5 ||| x7) st := (lm_eq one_X5_settlePiece 64 _ _ _).trans rfl
set_option maxRecDepth 100000 in
theorem e_X5_settlePiece_97 (l0 : Nat) (l1 : Nat) (l2 : Int32) (t0 : Int32) (st : ab_S) : L_X5_settlePiece_97 l0 l1 l2 t0 st =
    Option.bind (ab_gI st l1 4 0) fun x1 =>
    if x1 = 0
    then L_X5_settlePiece_120 l2 t0 l1 st
    else Option.bind (ab_gR st l0 5 5) fun x2 =>
      Option.bind (ab_gI st x2 4 0) fun x3 =>
      if x3 = 0
      then L_X5_settlePiece_120 l2 t0 l1 st
      else L_X5_settlePiece_121 l2 t0 l1 (1 : Int32) st := (lm_eq one_X5_settlePiece 97 _ _ _).trans rfl
set_option maxRecDepth 100000 in
theorem e_X5_settlePiece_120 (l2 : Int32) (l3 : Int32) (t0 : Nat) (st : ab_S) : L_X5_settlePiece_120 l2 l3 t0 st =
    L_X5_settlePiece_121 l2 l3 t0 (0 : Int32) st := (lm_eq one_X5_settlePiece 120 _ _ _).trans rfl
set_option maxRecDepth 100000 in
theorem e_X5_settlePiece_121 (l2 : Int32) (l3 : Int32) (t0 : Nat) (t1 : Int32) (st : ab_S) : L_X5_settlePiece_121 l2 l3 t0 t1 st =
    ab_rv (f_X4_become t0 t1 l2 l3 st) fun s1 =>
    some (none, s1) := (lm_eq one_X5_settlePiece 121 _ _ _).trans rfl
def c_X5_readRepeat : List (Nat × ab_I) := [(0, .aload_n 0, 1, .null, 0),
  (1, .getfield 81, 3, .null, 0),
  (4, .ifCond .eq (15), 3, .null, 19),
  (7, .aload_n 0, 1, .null, 0),
  (8, .iload_n 1, 1, .null, 1),
  (9, .invokevirtual 52, 3, .null, 0),
  (12, .aload_n 0, 1, .null, 0),
  (13, .invokevirtual 56, 3, .null, 0),
  (16, .goto (8), 3, .null, 24),
  (19, .aload_n 0, 1, .null, 0),
  (20, .iload_n 2, 1, .null, 2),
  (21, .putfield 62, 3, .null, 0),
  (24, .return_, 1, .null, 0)]
noncomputable def m_X5_readRepeat : ab_M := (c_X5_readRepeat, [(0, [0, 1, 2])],
  [(62, 5, 9, 0), (81, 5, 6, 1)],
  [],
  [(52, 1, 2, g_X5_repeat), (56, 1, 1, g_X5_settlePiece)],
  [], 3, 0)
theorem one_X5_readRepeat : ab_oneM m_X5_readRepeat := List.forall_mem_cons.mpr ⟨o_X5_repeat, List.forall_mem_cons.mpr ⟨o_X5_settlePiece, fun _ h => absurd h List.not_mem_nil⟩⟩
noncomputable def f_X5_readRepeat (l0 : Nat) (l1 : Int32) (l2 : Int32) (st : ab_S) : Option ab_R := ab_rc st l0 5 (ab_lim m_X5_readRepeat 0 [.ref l0, .int l1, .int l2] [] st)
noncomputable def g_X5_readRepeat : ab_G := fun as st k => match as with
  | [.ref a0, .int a1, .int a2] => ab_rv (f_X5_readRepeat a0 a1 a2 st) (fun t => k [] t)
  | _ => none
theorem o_X5_readRepeat : ab_one g_X5_readRepeat := by
  intro as st k r h
  unfold g_X5_readRepeat at h ⊢
  split at h
  · exact one_rv h
  · cases h
set_option maxRecDepth 100000 in
theorem e_X5_readRepeat_0 (l0 : Nat) (l1 : Int32) (l2 : Int32) (st : ab_S) : f_X5_readRepeat l0 l1 l2 st =
    ab_rc st l0 5 (
    Option.bind (ab_gI st l0 5 6) fun x1 =>
    if x1 = 0
    then Option.bind (ab_pI st l0 5 9 l2) fun s2 =>
      some (none, s2)
    else ab_rv (f_X5_repeat l0 l1 st) fun s3 =>
      ab_rv (f_X5_settlePiece l0 s3) fun s4 =>
      some (none, s4)) := congrArg (ab_rc st l0 5) ((lm_eq one_X5_readRepeat 0 _ _ _).trans rfl)
def c_X5_settleSequence : List (Nat × ab_I) := [(0, .aload_n 0, 1, .null, 0),
  (1, .getfield 23, 3, .null, 0),
  (4, .aload_n 0, 1, .null, 0),
  (5, .getfield 69, 3, .null, 0),
  (8, .aaload, 1, .null, 0),
  (9, .astore_n 1, 1, .null, 1),
  (10, .aload_n 0, 1, .null, 0),
  (11, .getfield 27, 3, .null, 0),
  (14, .aload_n 0, 1, .null, 0),
  (15, .getfield 69, 3, .null, 0),
  (18, .aaload, 1, .null, 0),
  (19, .astore_n 2, 1, .null, 2),
  (20, .aload_n 1, 1, .null, 1),
  (21, .aload_n 1, 1, .null, 1),
  (22, .getfield 110, 3, .null, 0),
  (25, .ifCond .ne (10), 3, .null, 35),
  (28, .aload_n 2, 1, .null, 2),
  (29, .getfield 110, 3, .null, 0),
  (32, .ifCond .eq (7), 3, .null, 39),
  (35, .iconst 1, 1, (.int (1)), 0),
  (36, .goto (4), 3, .null, 40),
  (39, .iconst 0, 1, (.int (0)), 0),
  (40, .aload_n 1, 1, .null, 1),
  (41, .getfield 113, 3, .null, 0),
  (44, .aload_n 2, 1, .null, 2),
  (45, .getfield 113, 3, .null, 0),
  (48, .ior, 1, .null, 0),
  (49, .aload_n 1, 1, .null, 1),
  (50, .getfield 116, 3, .null, 0),
  (53, .aload_n 2, 1, .null, 2),
  (54, .getfield 116, 3, .null, 0),
  (57, .ior, 1, .null, 0),
  (58, .invokevirtual 88, 3, .null, 0),
  (61, .aload_n 2, 1, .null, 2),
  (62, .iconst 1, 1, (.int (1)), 0),
  (63, .iconst 0, 1, (.int (0)), 0),
  (64, .iconst 0, 1, (.int (0)), 0),
  (65, .invokevirtual 88, 3, .null, 0),
  (68, .return_, 1, .null, 0)]
noncomputable def m_X5_settleSequence : ab_M := (c_X5_settleSequence, [(0, [0]), (35, [1, 2]), (40, [1, 2])],
  [(23, 5, 3, 3), (27, 5, 4, 3), (69, 5, 7, 0), (110, 4, 0, 1), (113, 4, 1, 0), (116, 4, 2, 0)],
  [],
  [(88, 1, 4, g_X4_become)],
  [], 3, 0)
theorem one_X5_settleSequence : ab_oneM m_X5_settleSequence := List.forall_mem_cons.mpr ⟨o_X4_become, fun _ h => absurd h List.not_mem_nil⟩
noncomputable def f_X5_settleSequence (l0 : Nat) (st : ab_S) : Option ab_R := ab_rc st l0 5 (ab_lim m_X5_settleSequence 0 [.ref l0] [] st)
noncomputable def L_X5_settleSequence_35 (l1 : Nat) (l2 : Nat) (t0 : Nat) (st : ab_S) : Option ab_R := ab_lim m_X5_settleSequence 35 [.ref l1, .ref l2] [.ref t0] st
noncomputable def L_X5_settleSequence_40 (l1 : Nat) (l2 : Nat) (t0 : Nat) (t1 : Int32) (st : ab_S) : Option ab_R := ab_lim m_X5_settleSequence 40 [.ref l1, .ref l2] [.int t1, .ref t0] st
noncomputable def g_X5_settleSequence : ab_G := fun as st k => match as with
  | [.ref a0] => ab_rv (f_X5_settleSequence a0 st) (fun t => k [] t)
  | _ => none
theorem o_X5_settleSequence : ab_one g_X5_settleSequence := by
  intro as st k r h
  unfold g_X5_settleSequence at h ⊢
  split at h
  · exact one_rv h
  · cases h
set_option maxRecDepth 100000 in
theorem e_X5_settleSequence_0 (l0 : Nat) (st : ab_S) : f_X5_settleSequence l0 st =
    ab_rc st l0 5 (
    Option.bind (ab_gR st l0 5 3) fun x1 =>
    Option.bind (ab_gI st l0 5 7) fun x2 =>
    Option.bind (ab_rR st x1 x2) fun x3 =>
    Option.bind (ab_gR st l0 5 4) fun x4 =>
    Option.bind (ab_gI st l0 5 7) fun x5 =>
    Option.bind (ab_rR st x4 x5) fun x6 =>
    Option.bind (ab_gI st x3 4 0) fun x7 =>
    if x7 = 0
    then Option.bind (ab_gI st x6 4 0) fun x8 =>
      if x8 = 0
      then L_X5_settleSequence_40 x3 x6 x3 (0 : Int32) st
      else L_X5_settleSequence_35 x3 x6 x3 st
    else L_X5_settleSequence_35 x3 x6 x3 st) := congrArg (ab_rc st l0 5) ((lm_eq one_X5_settleSequence 0 _ _ _).trans rfl)
set_option maxRecDepth 100000 in
theorem e_X5_settleSequence_35 (l1 : Nat) (l2 : Nat) (t0 : Nat) (st : ab_S) : L_X5_settleSequence_35 l1 l2 t0 st =
    L_X5_settleSequence_40 l1 l2 t0 (1 : Int32) st := (lm_eq one_X5_settleSequence 35 _ _ _).trans rfl
set_option maxRecDepth 100000 in
theorem e_X5_settleSequence_40 (l1 : Nat) (l2 : Nat) (t0 : Nat) (t1 : Int32) (st : ab_S) : L_X5_settleSequence_40 l1 l2 t0 t1 st =
    Option.bind (ab_gI st l1 4 1) fun x1 =>
    Option.bind (ab_gI st l2 4 1) fun x2 =>
    Option.bind (ab_gI st l1 4 2) fun x3 =>
    Option.bind (ab_gI st l2 4 2) fun x4 =>
    ab_rv (f_X4_become t0 t1 (x1 ||| x2) (x3 ||| x4) st) fun s5 =>
    ab_rv (f_X4_become l2 (1 : Int32) (0 : Int32) (0 : Int32) s5) fun s6 =>
    some (none, s6) := (lm_eq one_X5_settleSequence 40 _ _ _).trans rfl
def c_X5_openBracket : List (Nat × ab_I) := [(0, .aload_n 0, 1, .null, 0),
  (1, .getfield 69, 3, .null, 0),
  (4, .iconst 4, 1, (.int (4)), 0),
  (5, .if_icmp .lt (9), 3, .null, 14),
  (8, .aload_n 0, 1, .null, 0),
  (9, .iload_n 1, 1, .null, 1),
  (10, .putfield 62, 3, .null, 0),
  (13, .return_, 1, .null, 0),
  (14, .aload_n 0, 1, .null, 0),
  (15, .dup, 1, .null, 0),
  (16, .getfield 69, 3, .null, 0),
  (19, .iconst 1, 1, (.int (1)), 0),
  (20, .iadd, 1, .null, 0),
  (21, .putfield 69, 3, .null, 0),
  (24, .aload_n 0, 1, .null, 0),
  (25, .invokevirtual 85, 3, .null, 0),
  (28, .return_, 1, .null, 0)]
noncomputable def m_X5_openBracket : ab_M := (c_X5_openBracket, [(0, [0, 1])],
  [(62, 5, 9, 0), (69, 5, 7, 0)],
  [],
  [(85, 1, 1, g_X5_startLevel)],
  [], 2, 0)
theorem one_X5_openBracket : ab_oneM m_X5_openBracket := List.forall_mem_cons.mpr ⟨o_X5_startLevel, fun _ h => absurd h List.not_mem_nil⟩
noncomputable def f_X5_openBracket (l0 : Nat) (l1 : Int32) (st : ab_S) : Option ab_R := ab_rc st l0 5 (ab_lim m_X5_openBracket 0 [.ref l0, .int l1] [] st)
noncomputable def g_X5_openBracket : ab_G := fun as st k => match as with
  | [.ref a0, .int a1] => ab_rv (f_X5_openBracket a0 a1 st) (fun t => k [] t)
  | _ => none
theorem o_X5_openBracket : ab_one g_X5_openBracket := by
  intro as st k r h
  unfold g_X5_openBracket at h ⊢
  split at h
  · exact one_rv h
  · cases h
set_option maxRecDepth 100000 in
theorem e_X5_openBracket_0 (l0 : Nat) (l1 : Int32) (st : ab_S) : f_X5_openBracket l0 l1 st =
    ab_rc st l0 5 (
    Option.bind (ab_gI st l0 5 7) fun x1 =>
    if x1 < (4 : Int32)
    then Option.bind (ab_gI st l0 5 7) fun x2 =>
      Option.bind (ab_pI st l0 5 7 (x2 + (1 : Int32))) fun s3 =>
      ab_rv (f_X5_startLevel l0 s3) fun s4 =>
      some (none, s4)
    else Option.bind (ab_pI st l0 5 9 l1) fun s5 =>
      some (none, s5)) := congrArg (ab_rc st l0 5) ((lm_eq one_X5_openBracket 0 _ _ _).trans rfl)
def c_X5_closeBracket : List (Nat × ab_I) := [(0, .aload_n 0, 1, .null, 0),
  (1, .getfield 69, 3, .null, 0),
  (4, .ifCond .gt (9), 3, .null, 13),
  (7, .aload_n 0, 1, .null, 0),
  (8, .iload_n 1, 1, .null, 1),
  (9, .putfield 62, 3, .null, 0),
  (12, .return_, 1, .null, 0),
  (13, .aload_n 0, 1, .null, 0),
  (14, .invokevirtual 59, 3, .null, 0),
  (17, .aload_n 0, 1, .null, 0),
  (18, .getfield 23, 3, .null, 0),
  (21, .aload_n 0, 1, .null, 0),
  (22, .getfield 69, 3, .null, 0),
  (25, .aaload, 1, .null, 0),
  (26, .astore_n 2, 1, .null, 2),
  (27, .aload_n 0, 1, .null, 0),
  (28, .dup, 1, .null, 0),
  (29, .getfield 69, 3, .null, 0),
  (32, .iconst 1, 1, (.int (1)), 0),
  (33, .isub, 1, .null, 0),
  (34, .putfield 69, 3, .null, 0),
  (37, .aload_n 0, 1, .null, 0),
  (38, .getfield 31, 3, .null, 0),
  (41, .aload_n 2, 1, .null, 2),
  (42, .getfield 110, 3, .null, 0),
  (45, .aload_n 2, 1, .null, 2),
  (46, .getfield 113, 3, .null, 0),
  (49, .aload_n 2, 1, .null, 2),
  (50, .getfield 116, 3, .null, 0),
  (53, .invokevirtual 88, 3, .null, 0),
  (56, .aload_n 0, 1, .null, 0),
  (57, .iconst 1, 1, (.int (1)), 0),
  (58, .putfield 81, 3, .null, 0),
  (61, .return_, 1, .null, 0)]
noncomputable def m_X5_closeBracket : ab_M := (c_X5_closeBracket, [(0, [0, 1])],
  [(23, 5, 3, 3), (31, 5, 5, 3), (62, 5, 9, 0), (69, 5, 7, 0), (81, 5, 6, 1), (110, 4, 0, 1), (113, 4, 1, 0), (116, 4, 2, 0)],
  [],
  [(59, 1, 1, g_X5_settleSequence), (88, 1, 4, g_X4_become)],
  [], 3, 0)
theorem one_X5_closeBracket : ab_oneM m_X5_closeBracket := List.forall_mem_cons.mpr ⟨o_X5_settleSequence, List.forall_mem_cons.mpr ⟨o_X4_become, fun _ h => absurd h List.not_mem_nil⟩⟩
noncomputable def f_X5_closeBracket (l0 : Nat) (l1 : Int32) (st : ab_S) : Option ab_R := ab_rc st l0 5 (ab_lim m_X5_closeBracket 0 [.ref l0, .int l1] [] st)
noncomputable def g_X5_closeBracket : ab_G := fun as st k => match as with
  | [.ref a0, .int a1] => ab_rv (f_X5_closeBracket a0 a1 st) (fun t => k [] t)
  | _ => none
theorem o_X5_closeBracket : ab_one g_X5_closeBracket := by
  intro as st k r h
  unfold g_X5_closeBracket at h ⊢
  split at h
  · exact one_rv h
  · cases h
set_option maxRecDepth 100000 in
theorem e_X5_closeBracket_0 (l0 : Nat) (l1 : Int32) (st : ab_S) : f_X5_closeBracket l0 l1 st =
    ab_rc st l0 5 (
    Option.bind (ab_gI st l0 5 7) fun x1 =>
    if 0 < x1
    then ab_rv (f_X5_settleSequence l0 st) fun s2 =>
      Option.bind (ab_gR s2 l0 5 3) fun x3 =>
      Option.bind (ab_gI s2 l0 5 7) fun x4 =>
      Option.bind (ab_rR s2 x3 x4) fun x5 =>
      Option.bind (ab_gI s2 l0 5 7) fun x6 =>
      Option.bind (ab_pI s2 l0 5 7 (x6 - (1 : Int32))) fun s7 =>
      Option.bind (ab_gR s7 l0 5 5) fun x8 =>
      Option.bind (ab_gI s7 x5 4 0) fun x9 =>
      Option.bind (ab_gI s7 x5 4 1) fun x10 =>
      Option.bind (ab_gI s7 x5 4 2) fun x11 =>
      ab_rv (f_X4_become x8 x9 x10 x11 s7) fun s12 =>
      Option.bind (ab_pZ s12 l0 5 6 (1 : Int32)) fun s13 =>
      some (none, s13)
    else Option.bind (ab_pI st l0 5 9 l1) fun s14 =>
      some (none, s14)) := congrArg (ab_rc st l0 5) ((lm_eq one_X5_closeBracket 0 _ _ _).trans rfl)
def c_X5_newPlace : List (Nat × ab_I) := [(0, .aload_n 0, 1, .null, 0),
  (1, .getfield 78, 3, .null, 0),
  (4, .bipush (24), 2, (.int (24)), 0),
  (6, .if_icmp .ge (12), 3, .null, 18),
  (9, .iconst 1, 1, (.int (1)), 0),
  (10, .aload_n 0, 1, .null, 0),
  (11, .getfield 78, 3, .null, 0),
  (14, .ishl, 1, .null, 0),
  (15, .goto (4), 3, .null, 19),
  (18, .iconst 0, 1, (.int (0)), 0),
  (19, .istore_n 1, 1, .null, 1),
  (20, .aload_n 0, 1, .null, 0),
  (21, .aload_n 0, 1, .null, 0),
  (22, .getfield 78, 3, .null, 0),
  (25, .iconst 1, 1, (.int (1)), 0),
  (26, .iadd, 1, .null, 0),
  (27, .bipush (24), 2, (.int (24)), 0),
  (29, .invokestatic 135, 3, .null, 0),
  (32, .putfield 78, 3, .null, 0),
  (35, .aload_n 0, 1, .null, 0),
  (36, .getfield 31, 3, .null, 0),
  (39, .iconst 0, 1, (.int (0)), 0),
  (40, .iload_n 1, 1, .null, 1),
  (41, .iload_n 1, 1, .null, 1),
  (42, .invokevirtual 88, 3, .null, 0),
  (45, .aload_n 0, 1, .null, 0),
  (46, .iconst 1, 1, (.int (1)), 0),
  (47, .putfield 81, 3, .null, 0),
  (50, .iload_n 1, 1, .null, 1),
  (51, .ireturn, 1, .null, 0)]
noncomputable def m_X5_newPlace : ab_M := (c_X5_newPlace, [(0, [0]), (19, [0])],
  [(31, 5, 5, 3), (78, 5, 8, 0), (81, 5, 6, 1)],
  [],
  [(88, 1, 4, g_X4_become), (135, 0, 2, g_min)],
  [], 2, 1)
theorem one_X5_newPlace : ab_oneM m_X5_newPlace := List.forall_mem_cons.mpr ⟨o_X4_become, List.forall_mem_cons.mpr ⟨o_min, fun _ h => absurd h List.not_mem_nil⟩⟩
noncomputable def f_X5_newPlace (l0 : Nat) (st : ab_S) : Option ab_R := ab_rc st l0 5 (ab_lim m_X5_newPlace 0 [.ref l0] [] st)
noncomputable def L_X5_newPlace_19 (l0 : Nat) (t0 : Int32) (st : ab_S) : Option ab_R := ab_lim m_X5_newPlace 19 [.ref l0] [.int t0] st
noncomputable def g_X5_newPlace : ab_G := fun as st k => match as with
  | [.ref a0] => ab_ri (f_X5_newPlace a0 st) (fun x t => k [.int x] t)
  | _ => none
theorem o_X5_newPlace : ab_one g_X5_newPlace := by
  intro as st k r h
  unfold g_X5_newPlace at h ⊢
  split at h
  · exact one_ri h
  · cases h
set_option maxRecDepth 100000 in
theorem e_X5_newPlace_0 (l0 : Nat) (st : ab_S) : f_X5_newPlace l0 st =
    ab_rc st l0 5 (
    Option.bind (ab_gI st l0 5 8) fun x1 =>
    if (24 : Int32) ≤ x1
    then L_X5_newPlace_19 l0 (0 : Int32) st
    else Option.bind (ab_gI st l0 5 8) fun x2 =>
      L_X5_newPlace_19 l0 ((1 : Int32) <<< (x2 &&& 31)) st) := congrArg (ab_rc st l0 5) ((lm_eq one_X5_newPlace 0 _ _ _).trans rfl)
set_option maxRecDepth 100000 in
theorem e_X5_newPlace_19 (l0 : Nat) (t0 : Int32) (st : ab_S) : L_X5_newPlace_19 l0 t0 st =
    Option.bind (ab_gI st l0 5 8) fun x1 =>
    Option.bind (ab_pI st l0 5 8 (if (24 : Int32) < (x1 + (1 : Int32)) then (24 : Int32) else (x1 + (1 : Int32)))) fun s2 =>
    Option.bind (ab_gR s2 l0 5 5) fun x3 =>
    ab_rv (f_X4_become x3 (0 : Int32) t0 t0 s2) fun s4 =>
    Option.bind (ab_pZ s4 l0 5 6 (1 : Int32)) fun s5 =>
    some (some (.int t0), s5) := (lm_eq one_X5_newPlace 19 _ _ _).trans rfl
def c_X5_putPlaceOfSet : List (Nat × ab_I) := [(0, .aload_n 0, 1, .null, 0),
  (1, .invokevirtual 131, 3, .null, 0),
  (4, .istore_n 2, 1, .null, 2),
  (5, .iconst 0, 1, (.int (0)), 0),
  (6, .istore_n 3, 1, .null, 3),
  (7, .iload_n 3, 1, .null, 3),
  (8, .sipush (256), 3, (.int (256)), 0),
  (11, .if_icmp .ge (29), 3, .null, 40),
  (14, .aload_n 0, 1, .null, 0),
  (15, .getfield 18, 3, .null, 0),
  (18, .iload_n 3, 1, .null, 3),
  (19, .iaload, 1, .null, 0),
  (20, .iload_n 1, 1, .null, 1),
  (21, .if_icmp .ne (13), 3, .null, 34),
  (24, .aload_n 0, 1, .null, 0),
  (25, .getfield 9, 3, .null, 0),
  (28, .iload_n 3, 1, .null, 3),
  (29, .dup2, 1, .null, 0),
  (30, .iaload, 1, .null, 0),
  (31, .iload_n 2, 1, .null, 2),
  (32, .ior, 1, .null, 0),
  (33, .iastore, 1, .null, 0),
  (34, .iinc 3 (1), 3, (.int (1)), 3),
  (37, .goto (-30), 3, .null, 7),
  (40, .return_, 1, .null, 0)]
noncomputable def m_X5_putPlaceOfSet : ab_M := (c_X5_putPlaceOfSet, [(0, [0, 1]), (7, [0, 1, 2, 3]), (34, [0, 1, 2, 3])],
  [(9, 5, 0, 3), (18, 5, 2, 3)],
  [],
  [(131, 1, 1, g_X5_newPlace)],
  [], 4, 0)
theorem one_X5_putPlaceOfSet : ab_oneM m_X5_putPlaceOfSet := List.forall_mem_cons.mpr ⟨o_X5_newPlace, fun _ h => absurd h List.not_mem_nil⟩
noncomputable def f_X5_putPlaceOfSet (l0 : Nat) (l1 : Int32) (st : ab_S) : Option ab_R := ab_rc st l0 5 (ab_lim m_X5_putPlaceOfSet 0 [.ref l0, .int l1] [] st)
noncomputable def L_X5_putPlaceOfSet_7 (l0 : Nat) (l1 : Int32) (l2 : Int32) (l3 : Int32) (st : ab_S) : Option ab_R := ab_lim m_X5_putPlaceOfSet 7 [.ref l0, .int l1, .int l2, .int l3] [] st
noncomputable def L_X5_putPlaceOfSet_34 (l0 : Nat) (l1 : Int32) (l2 : Int32) (l3 : Int32) (st : ab_S) : Option ab_R := ab_lim m_X5_putPlaceOfSet 34 [.ref l0, .int l1, .int l2, .int l3] [] st
noncomputable def g_X5_putPlaceOfSet : ab_G := fun as st k => match as with
  | [.ref a0, .int a1] => ab_rv (f_X5_putPlaceOfSet a0 a1 st) (fun t => k [] t)
  | _ => none
theorem o_X5_putPlaceOfSet : ab_one g_X5_putPlaceOfSet := by
  intro as st k r h
  unfold g_X5_putPlaceOfSet at h ⊢
  split at h
  · exact one_rv h
  · cases h
set_option maxRecDepth 100000 in
theorem e_X5_putPlaceOfSet_0 (l0 : Nat) (l1 : Int32) (st : ab_S) : f_X5_putPlaceOfSet l0 l1 st =
    ab_rc st l0 5 (
    ab_ri (f_X5_newPlace l0 st) fun x2 s1 =>
    L_X5_putPlaceOfSet_7 l0 l1 x2 (0 : Int32) s1) := congrArg (ab_rc st l0 5) ((lm_eq one_X5_putPlaceOfSet 0 _ _ _).trans rfl)
set_option maxRecDepth 100000 in
theorem e_X5_putPlaceOfSet_7 (l0 : Nat) (l1 : Int32) (l2 : Int32) (l3 : Int32) (st : ab_S) : L_X5_putPlaceOfSet_7 l0 l1 l2 l3 st =
    if (256 : Int32) ≤ l3
    then some (none, st)
    else Option.bind (ab_gR st l0 5 2) fun x1 =>
      Option.bind (ab_rI st x1 l3) fun x2 =>
      if x2 = l1
      then Option.bind (ab_gR st l0 5 0) fun x3 =>
        Option.bind (ab_rI st x3 l3) fun x4 =>
        Option.bind (ab_wI st x3 l3 (x4 ||| l2)) fun s5 =>
        L_X5_putPlaceOfSet_34 l0 l1 l2 l3 s5
      else L_X5_putPlaceOfSet_34 l0 l1 l2 l3 st := (lm_eq one_X5_putPlaceOfSet 7 _ _ _).trans rfl
set_option maxRecDepth 100000 in
theorem e_X5_putPlaceOfSet_34 (l0 : Nat) (l1 : Int32) (l2 : Int32) (l3 : Int32) (st : ab_S) : L_X5_putPlaceOfSet_34 l0 l1 l2 l3 st =
    L_X5_putPlaceOfSet_7 l0 l1 l2 (l3 + (1 : Int32)) st := (lm_eq one_X5_putPlaceOfSet 34 _ _ _).trans rfl
def c_X5_pastEscape : List (Nat × ab_I) := [(0, .aload_n 0, 1, .null, 0),
  (1, .iload_n 1, 1, .null, 1),
  (2, .invokevirtual 44, 3, .null, 0),
  (5, .bipush (92), 2, (.int (92)), 0),
  (7, .if_icmp .ne (9), 3, .null, 16),
  (10, .iload_n 1, 1, .null, 1),
  (11, .iconst 1, 1, (.int (1)), 0),
  (12, .iadd, 1, .null, 0),
  (13, .goto (4), 3, .null, 17),
  (16, .iload_n 1, 1, .null, 1),
  (17, .ireturn, 1, .null, 0)]
noncomputable def m_X5_pastEscape : ab_M := (c_X5_pastEscape, [(0, [0, 1])],
  [],
  [],
  [(44, 1, 2, g_X6_at)],
  [], 2, 1)
theorem one_X5_pastEscape : ab_oneM m_X5_pastEscape := List.forall_mem_cons.mpr ⟨o_X6_at, fun _ h => absurd h List.not_mem_nil⟩
noncomputable def f_X5_pastEscape (l0 : Nat) (l1 : Int32) (st : ab_S) : Option ab_R := ab_lim m_X5_pastEscape 0 [.ref l0, .int l1] [] st
noncomputable def g_X5_pastEscape : ab_G := fun as st k => match as with
  | [.ref a0, .int a1] => ab_ri (f_X5_pastEscape a0 a1 st) (fun x t => k [.int x] t)
  | _ => none
theorem o_X5_pastEscape : ab_one g_X5_pastEscape := by
  intro as st k r h
  unfold g_X5_pastEscape at h ⊢
  split at h
  · exact one_ri h
  · cases h
set_option maxRecDepth 100000 in
theorem e_X5_pastEscape_0 (l0 : Nat) (l1 : Int32) (st : ab_S) : f_X5_pastEscape l0 l1 st =
    ab_ri (f_X6_at l0 l1 st) fun x2 s1 =>
    if x2 = (92 : Int32)
    then some (some (.int (l1 + (1 : Int32))), s1)
    else some (some (.int l1), s1) := (lm_eq one_X5_pastEscape 0 _ _ _).trans rfl
def c_X5_readItem : List (Nat × ab_I) := [(0, .aload_n 1, 1, .null, 1),
  (1, .iload_n 2, 1, .null, 2),
  (2, .invokestatic 107, 3, .null, 0),
  (5, .istore_n 3, 1, .null, 3),
  (6, .aload_n 1, 1, .null, 1),
  (7, .iload_n 3, 1, .null, 3),
  (8, .invokevirtual 44, 3, .null, 0),
  (11, .istore 4, 2, .null, 4),
  (13, .iload 4, 2, .null, 4),
  (15, .istore 5, 2, .null, 5),
  (17, .iload 4, 2, .null, 4),
  (19, .iconst (-1), 1, (.int (-1)), 0),
  (20, .if_icmp .ne (14), 3, .null, 34),
  (23, .aload_n 0, 1, .null, 0),
  (24, .aload_n 1, 1, .null, 1),
  (25, .getfield 38, 3, .null, 0),
  (28, .putfield 62, 3, .null, 0),
  (31, .goto (87), 3, .null, 118),
  (34, .iload 4, 2, .null, 4),
  (36, .bipush (93), 2, (.int (93)), 0),
  (38, .if_icmp .ne (16), 3, .null, 54),
  (41, .iload_n 3, 1, .null, 3),
  (42, .iload_n 2, 1, .null, 2),
  (43, .if_icmp .ne (11), 3, .null, 54),
  (46, .aload_n 0, 1, .null, 0),
  (47, .iload_n 2, 1, .null, 2),
  (48, .putfield 62, 3, .null, 0),
  (51, .goto (67), 3, .null, 118),
  (54, .aload_n 1, 1, .null, 1),
  (55, .iload_n 3, 1, .null, 3),
  (56, .iconst 1, 1, (.int (1)), 0),
  (57, .iadd, 1, .null, 0),
  (58, .invokevirtual 44, 3, .null, 0),
  (61, .bipush (45), 2, (.int (45)), 0),
  (63, .if_icmp .ne (55), 3, .null, 118),
  (66, .aload_n 1, 1, .null, 1),
  (67, .iload_n 3, 1, .null, 3),
  (68, .iconst 2, 1, (.int (2)), 0),
  (69, .iadd, 1, .null, 0),
  (70, .invokevirtual 44, 3, .null, 0),
  (73, .bipush (93), 2, (.int (93)), 0),
  (75, .if_icmp .eq (43), 3, .null, 118),
  (78, .aload_n 1, 1, .null, 1),
  (79, .iload_n 3, 1, .null, 3),
  (80, .iconst 2, 1, (.int (2)), 0),
  (81, .iadd, 1, .null, 0),
  (82, .invokestatic 107, 3, .null, 0),
  (85, .istore_n 3, 1, .null, 3),
  (86, .aload_n 1, 1, .null, 1),
  (87, .iload_n 3, 1, .null, 3),
  (88, .invokevirtual 44, 3, .null, 0),
  (91, .istore 5, 2, .null, 5),
  (93, .iload 5, 2, .null, 5),
  (95, .iload 4, 2, .null, 4),
  (97, .if_icmp .ge (21), 3, .null, 118),
  (100, .aload_n 0, 1, .null, 0),
  (101, .iload 5, 2, .null, 5),
  (103, .iconst (-1), 1, (.int (-1)), 0),
  (104, .if_icmp .ne (10), 3, .null, 114),
  (107, .aload_n 1, 1, .null, 1),
  (108, .getfield 38, 3, .null, 0),
  (111, .goto (4), 3, .null, 115),
  (114, .iload_n 3, 1, .null, 3),
  (115, .putfield 62, 3, .null, 0),
  (118, .iload 4, 2, .null, 4),
  (120, .iconst 0, 1, (.int (0)), 0),
  (121, .invokestatic 125, 3, .null, 0),
  (124, .istore 6, 2, .null, 6),
  (126, .iload 6, 2, .null, 6),
  (128, .iload 5, 2, .null, 5),
  (130, .if_icmp .gt (25), 3, .null, 155),
  (133, .iload 6, 2, .null, 6),
  (135, .sipush (256), 3, (.int (256)), 0),
  (138, .if_icmp .ge (17), 3, .null, 155),
  (141, .aload_n 0, 1, .null, 0),
  (142, .getfield 18, 3, .null, 0),
  (145, .iload 6, 2, .null, 6),
  (147, .iconst 1, 1, (.int (1)), 0),
  (148, .iastore, 1, .null, 0),
  (149, .iinc 6 (1), 3, (.int (1)), 6),
  (152, .goto (-26), 3, .null, 126),
  (155, .iload_n 3, 1, .null, 3),
  (156, .iconst 1, 1, (.int (1)), 0),
  (157, .iadd, 1, .null, 0),
  (158, .ireturn, 1, .null, 0)]
noncomputable def m_X5_readItem : ab_M := (c_X5_readItem, [(0, [0, 1, 2]), (54, [0, 1, 3, 4, 5]), (115, [0, 3, 4, 5]), (118, [0, 3, 4, 5]), (126, [0, 3, 5, 6])],
  [(18, 5, 2, 3), (38, 6, 1, 0), (62, 5, 9, 0)],
  [],
  [(44, 1, 2, g_X6_at), (107, 0, 2, g_X5_pastEscape), (125, 0, 2, g_max)],
  [], 7, 1)
theorem one_X5_readItem : ab_oneM m_X5_readItem := List.forall_mem_cons.mpr ⟨o_X6_at, List.forall_mem_cons.mpr ⟨o_X5_pastEscape, List.forall_mem_cons.mpr ⟨o_max, fun _ h => absurd h List.not_mem_nil⟩⟩⟩
noncomputable def f_X5_readItem (l0 : Nat) (l1 : Nat) (l2 : Int32) (st : ab_S) : Option ab_R := ab_rc st l0 5 (ab_lim m_X5_readItem 0 [.ref l0, .ref l1, .int l2] [] st)
noncomputable def L_X5_readItem_54 (l0 : Nat) (l1 : Nat) (l3 : Int32) (l4 : Int32) (l5 : Int32) (st : ab_S) : Option ab_R := ab_lim m_X5_readItem 54 [.ref l0, .ref l1, .int l3, .int l4, .int l5] [] st
noncomputable def L_X5_readItem_115 (l0 : Nat) (l3 : Int32) (l4 : Int32) (l5 : Int32) (t0 : Nat) (t1 : Int32) (st : ab_S) : Option ab_R := ab_lim m_X5_readItem 115 [.ref l0, .int l3, .int l4, .int l5] [.int t1, .ref t0] st
noncomputable def L_X5_readItem_118 (l0 : Nat) (l3 : Int32) (l4 : Int32) (l5 : Int32) (st : ab_S) : Option ab_R := ab_lim m_X5_readItem 118 [.ref l0, .int l3, .int l4, .int l5] [] st
noncomputable def L_X5_readItem_126 (l0 : Nat) (l3 : Int32) (l5 : Int32) (l6 : Int32) (st : ab_S) : Option ab_R := ab_lim m_X5_readItem 126 [.ref l0, .int l3, .int l5, .int l6] [] st
noncomputable def g_X5_readItem : ab_G := fun as st k => match as with
  | [.ref a0, .ref a1, .int a2] => ab_ri (f_X5_readItem a0 a1 a2 st) (fun x t => k [.int x] t)
  | _ => none
theorem o_X5_readItem : ab_one g_X5_readItem := by
  intro as st k r h
  unfold g_X5_readItem at h ⊢
  split at h
  · exact one_ri h
  · cases h
set_option maxRecDepth 100000 in
theorem e_X5_readItem_0 (l0 : Nat) (l1 : Nat) (l2 : Int32) (st : ab_S) : f_X5_readItem l0 l1 l2 st =
    ab_rc st l0 5 (
    ab_ri (f_X5_pastEscape l1 l2 st) fun x2 s1 =>
    ab_ri (f_X6_at l1 x2 s1) fun x4 s3 =>
    if x4 = (-1 : Int32)
    then Option.bind (ab_gI s3 l1 6 1) fun x5 =>
      Option.bind (ab_pI s3 l0 5 9 x5) fun s6 =>
      L_X5_readItem_118 l0 x2 x4 x4 s6
    else if x4 = (93 : Int32)
      then if x2 = l2
        then Option.bind (ab_pI s3 l0 5 9 l2) fun s7 =>
          L_X5_readItem_118 l0 x2 x4 x4 s7
        else L_X5_readItem_54 l0 l1 x2 x4 x4 s3
      else L_X5_readItem_54 l0 l1 x2 x4 x4 s3) := congrArg (ab_rc st l0 5) ((lm_eq one_X5_readItem 0 _ _ _).trans rfl)
set_option maxRecDepth 100000 in
theorem e_X5_readItem_54 (l0 : Nat) (l1 : Nat) (l3 : Int32) (l4 : Int32) (l5 : Int32) (st : ab_S) : L_X5_readItem_54 l0 l1 l3 l4 l5 st =
    ab_ri (f_X6_at l1 (l3 + (1 : Int32)) st) fun x2 s1 =>
    if x2 = (45 : Int32)
    then ab_ri (f_X6_at l1 (l3 + (2 : Int32)) s1) fun x4 s3 =>
      if x4 = (93 : Int32)
      then L_X5_readItem_118 l0 l3 l4 l5 s3
      else ab_ri (f_X5_pastEscape l1 (l3 + (2 : Int32)) s3) fun x6 s5 =>
        ab_ri (f_X6_at l1 x6 s5) fun x8 s7 =>
        if l4 ≤ x8
        then L_X5_readItem_118 l0 x6 l4 x8 s7
        else if x8 = (-1 : Int32)
          then Option.bind (ab_gI s7 l1 6 1) fun x9 =>
            L_X5_readItem_115 l0 x6 l4 x8 l0 x9 s7
          else L_X5_readItem_115 l0 x6 l4 x8 l0 x6 s7
    else L_X5_readItem_118 l0 l3 l4 l5 s1 := (lm_eq one_X5_readItem 54 _ _ _).trans rfl
set_option maxRecDepth 100000 in
theorem e_X5_readItem_115 (l0 : Nat) (l3 : Int32) (l4 : Int32) (l5 : Int32) (t0 : Nat) (t1 : Int32) (st : ab_S) : L_X5_readItem_115 l0 l3 l4 l5 t0 t1 st =
    Option.bind (ab_pI st t0 5 9 t1) fun s1 =>
    L_X5_readItem_118 l0 l3 l4 l5 s1 := (lm_eq one_X5_readItem 115 _ _ _).trans rfl
set_option maxRecDepth 100000 in
theorem e_X5_readItem_118 (l0 : Nat) (l3 : Int32) (l4 : Int32) (l5 : Int32) (st : ab_S) : L_X5_readItem_118 l0 l3 l4 l5 st =
    L_X5_readItem_126 l0 l3 l5 (if l4 < (0 : Int32) then (0 : Int32) else l4) st := (lm_eq one_X5_readItem 118 _ _ _).trans rfl
set_option maxRecDepth 100000 in
theorem e_X5_readItem_126 (l0 : Nat) (l3 : Int32) (l5 : Int32) (l6 : Int32) (st : ab_S) : L_X5_readItem_126 l0 l3 l5 l6 st =
    if l5 < l6
    then some (some (.int (l3 + (1 : Int32))), st)
    else if (256 : Int32) ≤ l6
      then some (some (.int (l3 + (1 : Int32))), st)
      else Option.bind (ab_gR st l0 5 2) fun x1 =>
        Option.bind (ab_wI st x1 l6 (1 : Int32)) fun s2 =>
        L_X5_readItem_126 l0 l3 l5 (l6 + (1 : Int32)) s2 := (lm_eq one_X5_readItem 126 _ _ _).trans rfl
def c_X5_readSet : List (Nat × ab_I) := [(0, .aload_n 0, 1, .null, 0),
  (1, .getfield 18, 3, .null, 0),
  (4, .iconst 0, 1, (.int (0)), 0),
  (5, .invokestatic 72, 3, .null, 0),
  (8, .aload_n 1, 1, .null, 1),
  (9, .iload_n 2, 1, .null, 2),
  (10, .invokevirtual 44, 3, .null, 0),
  (13, .bipush (94), 2, (.int (94)), 0),
  (15, .if_icmp .ne (7), 3, .null, 22),
  (18, .iconst 1, 1, (.int (1)), 0),
  (19, .goto (4), 3, .null, 23),
  (22, .iconst 0, 1, (.int (0)), 0),
  (23, .istore_n 3, 1, .null, 3),
  (24, .iload_n 3, 1, .null, 3),
  (25, .ifCond .eq (9), 3, .null, 34),
  (28, .iload_n 2, 1, .null, 2),
  (29, .iconst 1, 1, (.int (1)), 0),
  (30, .iadd, 1, .null, 0),
  (31, .goto (4), 3, .null, 35),
  (34, .iload_n 2, 1, .null, 2),
  (35, .istore 4, 2, .null, 4),
  (37, .iload 4, 2, .null, 4),
  (39, .istore 5, 2, .null, 5),
  (41, .iconst 0, 1, (.int (0)), 0),
  (42, .istore 6, 2, .null, 6),
  (44, .iload 6, 2, .null, 6),
  (46, .bipush (24), 2, (.int (24)), 0),
  (48, .if_icmp .gt (62), 3, .null, 110),
  (51, .aload_n 0, 1, .null, 0),
  (52, .getfield 62, 3, .null, 0),
  (55, .iconst (-1), 1, (.int (-1)), 0),
  (56, .if_icmp .ne (54), 3, .null, 110),
  (59, .iload 5, 2, .null, 5),
  (61, .iload 4, 2, .null, 4),
  (63, .if_icmp .le (32), 3, .null, 95),
  (66, .aload_n 1, 1, .null, 1),
  (67, .iload 5, 2, .null, 5),
  (69, .invokevirtual 44, 3, .null, 0),
  (72, .bipush (93), 2, (.int (93)), 0),
  (74, .if_icmp .ne (21), 3, .null, 95),
  (77, .aload_n 0, 1, .null, 0),
  (78, .iload_n 3, 1, .null, 3),
  (79, .ifCond .eq (7), 3, .null, 86),
  (82, .iconst 0, 1, (.int (0)), 0),
  (83, .goto (4), 3, .null, 87),
  (86, .iconst 1, 1, (.int (1)), 0),
  (87, .invokevirtual 119, 3, .null, 0),
  (90, .iload 5, 2, .null, 5),
  (92, .iconst 1, 1, (.int (1)), 0),
  (93, .iadd, 1, .null, 0),
  (94, .ireturn, 1, .null, 0),
  (95, .aload_n 0, 1, .null, 0),
  (96, .aload_n 1, 1, .null, 1),
  (97, .iload 5, 2, .null, 5),
  (99, .invokevirtual 122, 3, .null, 0),
  (102, .istore 5, 2, .null, 5),
  (104, .iinc 6 (1), 3, (.int (1)), 6),
  (107, .goto (-63), 3, .null, 44),
  (110, .iload 5, 2, .null, 5),
  (112, .ireturn, 1, .null, 0)]
noncomputable def m_X5_readSet : ab_M := (c_X5_readSet, [(0, [0, 1, 2]), (23, [0, 1, 2]), (35, [0, 1, 3]), (44, [0, 1, 3, 4, 5, 6]), (87, [5]), (95, [0, 1, 3, 4, 5, 6])],
  [(18, 5, 2, 3), (62, 5, 9, 0)],
  [],
  [(44, 1, 2, g_X6_at), (72, 0, 2, g_J_fill), (119, 1, 2, g_X5_putPlaceOfSet), (122, 1, 3, g_X5_readItem)],
  [], 7, 1)
theorem one_X5_readSet : ab_oneM m_X5_readSet := List.forall_mem_cons.mpr ⟨o_X6_at, List.forall_mem_cons.mpr ⟨o_J_fill, List.forall_mem_cons.mpr ⟨o_X5_putPlaceOfSet, List.forall_mem_cons.mpr ⟨o_X5_readItem, fun _ h => absurd h List.not_mem_nil⟩⟩⟩⟩
noncomputable def f_X5_readSet (l0 : Nat) (l1 : Nat) (l2 : Int32) (st : ab_S) : Option ab_R := ab_rc st l0 5 (ab_lim m_X5_readSet 0 [.ref l0, .ref l1, .int l2] [] st)
noncomputable def L_X5_readSet_23 (l0 : Nat) (l1 : Nat) (l2 : Int32) (t0 : Int32) (st : ab_S) : Option ab_R := ab_lim m_X5_readSet 23 [.ref l0, .ref l1, .int l2] [.int t0] st
noncomputable def L_X5_readSet_35 (l0 : Nat) (l1 : Nat) (l3 : Int32) (t0 : Int32) (st : ab_S) : Option ab_R := ab_lim m_X5_readSet 35 [.ref l0, .ref l1, .int l3] [.int t0] st
noncomputable def L_X5_readSet_44 (l0 : Nat) (l1 : Nat) (l3 : Int32) (l4 : Int32) (l5 : Int32) (l6 : Int32) (st : ab_S) : Option ab_R := ab_lim m_X5_readSet 44 [.ref l0, .ref l1, .int l3, .int l4, .int l5, .int l6] [] st
noncomputable def L_X5_readSet_87 (l5 : Int32) (t0 : Nat) (t1 : Int32) (st : ab_S) : Option ab_R := ab_lim m_X5_readSet 87 [.int l5] [.int t1, .ref t0] st
noncomputable def L_X5_readSet_95 (l0 : Nat) (l1 : Nat) (l3 : Int32) (l4 : Int32) (l5 : Int32) (l6 : Int32) (st : ab_S) : Option ab_R := ab_lim m_X5_readSet 95 [.ref l0, .ref l1, .int l3, .int l4, .int l5, .int l6] [] st
noncomputable def g_X5_readSet : ab_G := fun as st k => match as with
  | [.ref a0, .ref a1, .int a2] => ab_ri (f_X5_readSet a0 a1 a2 st) (fun x t => k [.int x] t)
  | _ => none
theorem o_X5_readSet : ab_one g_X5_readSet := by
  intro as st k r h
  unfold g_X5_readSet at h ⊢
  split at h
  · exact one_ri h
  · cases h
set_option maxRecDepth 100000 in
theorem e_X5_readSet_0 (l0 : Nat) (l1 : Nat) (l2 : Int32) (st : ab_S) : f_X5_readSet l0 l1 l2 st =
    ab_rc st l0 5 (
    Option.bind (ab_gR st l0 5 2) fun x1 =>
    ab_rv (f_J_fill x1 (0 : Int32) st) fun s2 =>
    ab_ri (f_X6_at l1 l2 s2) fun x4 s3 =>
    if x4 = (94 : Int32)
    then L_X5_readSet_23 l0 l1 l2 (1 : Int32) s3
    else L_X5_readSet_23 l0 l1 l2 (0 : Int32) s3) := congrArg (ab_rc st l0 5) ((lm_eq one_X5_readSet 0 _ _ _).trans rfl)
set_option maxRecDepth 100000 in
theorem e_X5_readSet_23 (l0 : Nat) (l1 : Nat) (l2 : Int32) (t0 : Int32) (st : ab_S) : L_X5_readSet_23 l0 l1 l2 t0 st =
    if t0 = 0
    then L_X5_readSet_35 l0 l1 t0 l2 st
    else L_X5_readSet_35 l0 l1 t0 (l2 + (1 : Int32)) st := (lm_eq one_X5_readSet 23 _ _ _).trans rfl
set_option maxRecDepth 100000 in
theorem e_X5_readSet_35 (l0 : Nat) (l1 : Nat) (l3 : Int32) (t0 : Int32) (st : ab_S) : L_X5_readSet_35 l0 l1 l3 t0 st =
    L_X5_readSet_44 l0 l1 l3 t0 t0 (0 : Int32) st := (lm_eq one_X5_readSet 35 _ _ _).trans rfl
set_option maxRecDepth 100000 in
theorem e_X5_readSet_44 (l0 : Nat) (l1 : Nat) (l3 : Int32) (l4 : Int32) (l5 : Int32) (l6 : Int32) (st : ab_S) : L_X5_readSet_44 l0 l1 l3 l4 l5 l6 st =
    if (24 : Int32) < l6
    then some (some (.int l5), st)
    else Option.bind (ab_gI st l0 5 9) fun x1 =>
      if x1 = (-1 : Int32)
      then if l5 ≤ l4
        then L_X5_readSet_95 l0 l1 l3 l4 l5 l6 st
        else ab_ri (f_X6_at l1 l5 st) fun x3 s2 =>
          if x3 = (93 : Int32)
          then if l3 = 0
            then L_X5_readSet_87 l5 l0 (1 : Int32) s2
            else L_X5_readSet_87 l5 l0 (0 : Int32) s2
          else L_X5_readSet_95 l0 l1 l3 l4 l5 l6 s2
      else some (some (.int l5), st) := (lm_eq one_X5_readSet 44 _ _ _).trans rfl
set_option maxRecDepth 100000 in
theorem e_X5_readSet_87 (l5 : Int32) (t0 : Nat) (t1 : Int32) (st : ab_S) : L_X5_readSet_87 l5 t0 t1 st =
    ab_rv (f_X5_putPlaceOfSet t0 t1 st) fun s1 =>
    some (some (.int (l5 + (1 : Int32))), s1) := (lm_eq one_X5_readSet 87 _ _ _).trans rfl
set_option maxRecDepth 100000 in
theorem e_X5_readSet_95 (l0 : Nat) (l1 : Nat) (l3 : Int32) (l4 : Int32) (l5 : Int32) (l6 : Int32) (st : ab_S) : L_X5_readSet_95 l0 l1 l3 l4 l5 l6 st =
    ab_ri (f_X5_readItem l0 l1 l5 st) fun x2 s1 =>
    L_X5_readSet_44 l0 l1 l3 l4 x2 (l6 + (1 : Int32)) s1 := (lm_eq one_X5_readSet 95 _ _ _).trans rfl
def c_X5_putPlace : List (Nat × ab_I) := [(0, .aload_n 0, 1, .null, 0),
  (1, .invokevirtual 131, 3, .null, 0),
  (4, .istore_n 3, 1, .null, 3),
  (5, .iload_n 1, 1, .null, 1),
  (6, .iconst 0, 1, (.int (0)), 0),
  (7, .invokestatic 125, 3, .null, 0),
  (10, .istore 4, 2, .null, 4),
  (12, .iload 4, 2, .null, 4),
  (14, .iload_n 2, 1, .null, 2),
  (15, .if_icmp .gt (28), 3, .null, 43),
  (18, .iload 4, 2, .null, 4),
  (20, .sipush (256), 3, (.int (256)), 0),
  (23, .if_icmp .ge (20), 3, .null, 43),
  (26, .aload_n 0, 1, .null, 0),
  (27, .getfield 9, 3, .null, 0),
  (30, .iload 4, 2, .null, 4),
  (32, .dup2, 1, .null, 0),
  (33, .iaload, 1, .null, 0),
  (34, .iload_n 3, 1, .null, 3),
  (35, .ior, 1, .null, 0),
  (36, .iastore, 1, .null, 0),
  (37, .iinc 4 (1), 3, (.int (1)), 4),
  (40, .goto (-28), 3, .null, 12),
  (43, .return_, 1, .null, 0)]
noncomputable def m_X5_putPlace : ab_M := (c_X5_putPlace, [(0, [0, 1, 2]), (12, [0, 2, 3, 4])],
  [(9, 5, 0, 3)],
  [],
  [(125, 0, 2, g_max), (131, 1, 1, g_X5_newPlace)],
  [], 5, 0)
theorem one_X5_putPlace : ab_oneM m_X5_putPlace := List.forall_mem_cons.mpr ⟨o_max, List.forall_mem_cons.mpr ⟨o_X5_newPlace, fun _ h => absurd h List.not_mem_nil⟩⟩
noncomputable def f_X5_putPlace (l0 : Nat) (l1 : Int32) (l2 : Int32) (st : ab_S) : Option ab_R := ab_rc st l0 5 (ab_lim m_X5_putPlace 0 [.ref l0, .int l1, .int l2] [] st)
noncomputable def L_X5_putPlace_12 (l0 : Nat) (l2 : Int32) (l3 : Int32) (l4 : Int32) (st : ab_S) : Option ab_R := ab_lim m_X5_putPlace 12 [.ref l0, .int l2, .int l3, .int l4] [] st
noncomputable def g_X5_putPlace : ab_G := fun as st k => match as with
  | [.ref a0, .int a1, .int a2] => ab_rv (f_X5_putPlace a0 a1 a2 st) (fun t => k [] t)
  | _ => none
theorem o_X5_putPlace : ab_one g_X5_putPlace := by
  intro as st k r h
  unfold g_X5_putPlace at h ⊢
  split at h
  · exact one_rv h
  · cases h
set_option maxRecDepth 100000 in
theorem e_X5_putPlace_0 (l0 : Nat) (l1 : Int32) (l2 : Int32) (st : ab_S) : f_X5_putPlace l0 l1 l2 st =
    ab_rc st l0 5 (
    ab_ri (f_X5_newPlace l0 st) fun x2 s1 =>
    L_X5_putPlace_12 l0 l2 x2 (if l1 < (0 : Int32) then (0 : Int32) else l1) s1) := congrArg (ab_rc st l0 5) ((lm_eq one_X5_putPlace 0 _ _ _).trans rfl)
set_option maxRecDepth 100000 in
theorem e_X5_putPlace_12 (l0 : Nat) (l2 : Int32) (l3 : Int32) (l4 : Int32) (st : ab_S) : L_X5_putPlace_12 l0 l2 l3 l4 st =
    if l2 < l4
    then some (none, st)
    else if (256 : Int32) ≤ l4
      then some (none, st)
      else Option.bind (ab_gR st l0 5 0) fun x1 =>
        Option.bind (ab_rI st x1 l4) fun x2 =>
        Option.bind (ab_wI st x1 l4 (x2 ||| l3)) fun s3 =>
        L_X5_putPlace_12 l0 l2 l3 (l4 + (1 : Int32)) s3 := (lm_eq one_X5_putPlace 12 _ _ _).trans rfl
def c_X5_readPlain : List (Nat × ab_I) := [(0, .aload_n 1, 1, .null, 1),
  (1, .iload_n 2, 1, .null, 2),
  (2, .invokestatic 107, 3, .null, 0),
  (5, .istore_n 3, 1, .null, 3),
  (6, .aload_n 1, 1, .null, 1),
  (7, .iload_n 3, 1, .null, 3),
  (8, .invokevirtual 44, 3, .null, 0),
  (11, .istore 4, 2, .null, 4),
  (13, .iload 4, 2, .null, 4),
  (15, .iconst (-1), 1, (.int (-1)), 0),
  (16, .if_icmp .ne (14), 3, .null, 30),
  (19, .aload_n 0, 1, .null, 0),
  (20, .aload_n 1, 1, .null, 1),
  (21, .getfield 38, 3, .null, 0),
  (24, .putfield 62, 3, .null, 0),
  (27, .goto (11), 3, .null, 38),
  (30, .aload_n 0, 1, .null, 0),
  (31, .iload 4, 2, .null, 4),
  (33, .iload 4, 2, .null, 4),
  (35, .invokevirtual 48, 3, .null, 0),
  (38, .iload_n 3, 1, .null, 3),
  (39, .iconst 1, 1, (.int (1)), 0),
  (40, .iadd, 1, .null, 0),
  (41, .ireturn, 1, .null, 0)]
noncomputable def m_X5_readPlain : ab_M := (c_X5_readPlain, [(0, [0, 1, 2])],
  [(38, 6, 1, 0), (62, 5, 9, 0)],
  [],
  [(44, 1, 2, g_X6_at), (48, 1, 3, g_X5_putPlace), (107, 0, 2, g_X5_pastEscape)],
  [], 5, 1)
theorem one_X5_readPlain : ab_oneM m_X5_readPlain := List.forall_mem_cons.mpr ⟨o_X6_at, List.forall_mem_cons.mpr ⟨o_X5_putPlace, List.forall_mem_cons.mpr ⟨o_X5_pastEscape, fun _ h => absurd h List.not_mem_nil⟩⟩⟩
noncomputable def f_X5_readPlain (l0 : Nat) (l1 : Nat) (l2 : Int32) (st : ab_S) : Option ab_R := ab_rc st l0 5 (ab_lim m_X5_readPlain 0 [.ref l0, .ref l1, .int l2] [] st)
noncomputable def g_X5_readPlain : ab_G := fun as st k => match as with
  | [.ref a0, .ref a1, .int a2] => ab_ri (f_X5_readPlain a0 a1 a2 st) (fun x t => k [.int x] t)
  | _ => none
theorem o_X5_readPlain : ab_one g_X5_readPlain := by
  intro as st k r h
  unfold g_X5_readPlain at h ⊢
  split at h
  · exact one_ri h
  · cases h
set_option maxRecDepth 100000 in
theorem e_X5_readPlain_0 (l0 : Nat) (l1 : Nat) (l2 : Int32) (st : ab_S) : f_X5_readPlain l0 l1 l2 st =
    ab_rc st l0 5 (
    ab_ri (f_X5_pastEscape l1 l2 st) fun x2 s1 =>
    ab_ri (f_X6_at l1 x2 s1) fun x4 s3 =>
    if x4 = (-1 : Int32)
    then Option.bind (ab_gI s3 l1 6 1) fun x5 =>
      Option.bind (ab_pI s3 l0 5 9 x5) fun s6 =>
      some (some (.int (x2 + (1 : Int32))), s6)
    else ab_rv (f_X5_putPlace l0 x4 x4 s3) fun s7 =>
      some (some (.int (x2 + (1 : Int32))), s7)) := congrArg (ab_rc st l0 5) ((lm_eq one_X5_readPlain 0 _ _ _).trans rfl)
def c_X5_readOne : List (Nat × ab_I) := [(0, .aload_n 1, 1, .null, 1),
  (1, .iload_n 2, 1, .null, 2),
  (2, .invokevirtual 44, 3, .null, 0),
  (5, .istore_n 3, 1, .null, 3),
  (6, .iload_n 3, 1, .null, 3),
  (7, .bipush (42), 2, (.int (42)), 0),
  (9, .if_icmp .eq (15), 3, .null, 24),
  (12, .iload_n 3, 1, .null, 3),
  (13, .bipush (43), 2, (.int (43)), 0),
  (15, .if_icmp .eq (9), 3, .null, 24),
  (18, .iload_n 3, 1, .null, 3),
  (19, .bipush (63), 2, (.int (63)), 0),
  (21, .if_icmp .ne (13), 3, .null, 34),
  (24, .aload_n 0, 1, .null, 0),
  (25, .iload_n 3, 1, .null, 3),
  (26, .iload_n 2, 1, .null, 2),
  (27, .invokevirtual 92, 3, .null, 0),
  (30, .iload_n 2, 1, .null, 2),
  (31, .iconst 1, 1, (.int (1)), 0),
  (32, .iadd, 1, .null, 0),
  (33, .ireturn, 1, .null, 0),
  (34, .aload_n 0, 1, .null, 0),
  (35, .invokevirtual 56, 3, .null, 0),
  (38, .iload_n 3, 1, .null, 3),
  (39, .lookupswitch (113) #[(40, 65), (41, 74), (46, 101), (91, 83), (93, 92), (124, 57)], 57, .null, 0),
  (96, .aload_n 0, 1, .null, 0),
  (97, .invokevirtual 59, 3, .null, 0),
  (100, .iload_n 2, 1, .null, 2),
  (101, .iconst 1, 1, (.int (1)), 0),
  (102, .iadd, 1, .null, 0),
  (103, .ireturn, 1, .null, 0),
  (104, .aload_n 0, 1, .null, 0),
  (105, .iload_n 2, 1, .null, 2),
  (106, .invokevirtual 95, 3, .null, 0),
  (109, .iload_n 2, 1, .null, 2),
  (110, .iconst 1, 1, (.int (1)), 0),
  (111, .iadd, 1, .null, 0),
  (112, .ireturn, 1, .null, 0),
  (113, .aload_n 0, 1, .null, 0),
  (114, .iload_n 2, 1, .null, 2),
  (115, .invokevirtual 98, 3, .null, 0),
  (118, .iload_n 2, 1, .null, 2),
  (119, .iconst 1, 1, (.int (1)), 0),
  (120, .iadd, 1, .null, 0),
  (121, .ireturn, 1, .null, 0),
  (122, .aload_n 0, 1, .null, 0),
  (123, .aload_n 1, 1, .null, 1),
  (124, .iload_n 2, 1, .null, 2),
  (125, .iconst 1, 1, (.int (1)), 0),
  (126, .iadd, 1, .null, 0),
  (127, .invokevirtual 101, 3, .null, 0),
  (130, .ireturn, 1, .null, 0),
  (131, .aload_n 0, 1, .null, 0),
  (132, .iload_n 2, 1, .null, 2),
  (133, .putfield 62, 3, .null, 0),
  (136, .iload_n 2, 1, .null, 2),
  (137, .iconst 1, 1, (.int (1)), 0),
  (138, .iadd, 1, .null, 0),
  (139, .ireturn, 1, .null, 0),
  (140, .aload_n 0, 1, .null, 0),
  (141, .iconst 0, 1, (.int (0)), 0),
  (142, .sipush (255), 3, (.int (255)), 0),
  (145, .invokevirtual 48, 3, .null, 0),
  (148, .iload_n 2, 1, .null, 2),
  (149, .iconst 1, 1, (.int (1)), 0),
  (150, .iadd, 1, .null, 0),
  (151, .ireturn, 1, .null, 0),
  (152, .aload_n 0, 1, .null, 0),
  (153, .aload_n 1, 1, .null, 1),
  (154, .iload_n 2, 1, .null, 2),
  (155, .invokevirtual 104, 3, .null, 0),
  (158, .ireturn, 1, .null, 0)]
noncomputable def m_X5_readOne : ab_M := (c_X5_readOne, [(0, [0, 1, 2]), (24, [0, 2, 3])],
  [(62, 5, 9, 0)],
  [],
  [(44, 1, 2, g_X6_at), (48, 1, 3, g_X5_putPlace), (56, 1, 1, g_X5_settlePiece), (59, 1, 1, g_X5_settleSequence), (92, 1, 3, g_X5_readRepeat), (95, 1, 2, g_X5_openBracket), (98, 1, 2, g_X5_closeBracket), (101, 1, 3, g_X5_readSet), (104, 1, 3, g_X5_readPlain)],
  [(39, [(40, 104), (41, 113), (46, 140), (91, 122), (93, 131), (124, 96)], 152)], 4, 1)
theorem one_X5_readOne : ab_oneM m_X5_readOne := List.forall_mem_cons.mpr ⟨o_X6_at, List.forall_mem_cons.mpr ⟨o_X5_putPlace, List.forall_mem_cons.mpr ⟨o_X5_settlePiece, List.forall_mem_cons.mpr ⟨o_X5_settleSequence, List.forall_mem_cons.mpr ⟨o_X5_readRepeat, List.forall_mem_cons.mpr ⟨o_X5_openBracket, List.forall_mem_cons.mpr ⟨o_X5_closeBracket, List.forall_mem_cons.mpr ⟨o_X5_readSet, List.forall_mem_cons.mpr ⟨o_X5_readPlain, fun _ h => absurd h List.not_mem_nil⟩⟩⟩⟩⟩⟩⟩⟩⟩
noncomputable def f_X5_readOne (l0 : Nat) (l1 : Nat) (l2 : Int32) (st : ab_S) : Option ab_R := ab_rc st l0 5 (ab_lim m_X5_readOne 0 [.ref l0, .ref l1, .int l2] [] st)
noncomputable def L_X5_readOne_24 (l0 : Nat) (l2 : Int32) (l3 : Int32) (st : ab_S) : Option ab_R := ab_lim m_X5_readOne 24 [.ref l0, .int l2, .int l3] [] st
noncomputable def g_X5_readOne : ab_G := fun as st k => match as with
  | [.ref a0, .ref a1, .int a2] => ab_ri (f_X5_readOne a0 a1 a2 st) (fun x t => k [.int x] t)
  | _ => none
theorem o_X5_readOne : ab_one g_X5_readOne := by
  intro as st k r h
  unfold g_X5_readOne at h ⊢
  split at h
  · exact one_ri h
  · cases h
set_option maxRecDepth 100000 in
theorem e_X5_readOne_0 (l0 : Nat) (l1 : Nat) (l2 : Int32) (st : ab_S) : f_X5_readOne l0 l1 l2 st =
    ab_rc st l0 5 (
    ab_ri (f_X6_at l1 l2 st) fun x2 s1 =>
    if x2 = (42 : Int32)
    then L_X5_readOne_24 l0 l2 x2 s1
    else if x2 = (43 : Int32)
      then L_X5_readOne_24 l0 l2 x2 s1
      else if x2 = (63 : Int32)
        then L_X5_readOne_24 l0 l2 x2 s1
        else ab_rv (f_X5_settlePiece l0 s1) fun s3 =>
          if x2 = 40 then ab_rv (f_X5_openBracket l0 l2 s3) fun s4 =>
            some (some (.int (l2 + (1 : Int32))), s4)
          else if x2 = 41 then ab_rv (f_X5_closeBracket l0 l2 s3) fun s5 =>
            some (some (.int (l2 + (1 : Int32))), s5)
          else if x2 = 46 then ab_rv (f_X5_putPlace l0 (0 : Int32) (255 : Int32) s3) fun s6 =>
            some (some (.int (l2 + (1 : Int32))), s6)
          else if x2 = 91 then ab_ri (f_X5_readSet l0 l1 (l2 + (1 : Int32)) s3) fun x8 s7 =>
            some (some (.int x8), s7)
          else if x2 = 93 then Option.bind (ab_pI s3 l0 5 9 l2) fun s9 =>
            some (some (.int (l2 + (1 : Int32))), s9)
          else if x2 = 124 then ab_rv (f_X5_settleSequence l0 s3) fun s10 =>
            some (some (.int (l2 + (1 : Int32))), s10)
          else ab_ri (f_X5_readPlain l0 l1 l2 s3) fun x12 s11 =>
            some (some (.int x12), s11)) := congrArg (ab_rc st l0 5) ((lm_eq one_X5_readOne 0 _ _ _).trans rfl)
set_option maxRecDepth 100000 in
theorem e_X5_readOne_24 (l0 : Nat) (l2 : Int32) (l3 : Int32) (st : ab_S) : L_X5_readOne_24 l0 l2 l3 st =
    ab_rv (f_X5_readRepeat l0 l3 l2 st) fun s1 =>
    some (some (.int (l2 + (1 : Int32))), s1) := (lm_eq one_X5_readOne 24 _ _ _).trans rfl
def c_X5_readPattern : List (Nat × ab_I) := [(0, .aload_n 0, 1, .null, 0),
  (1, .invokevirtual 35, 3, .null, 0),
  (4, .iconst 0, 1, (.int (0)), 0),
  (5, .istore_n 2, 1, .null, 2),
  (6, .iconst 0, 1, (.int (0)), 0),
  (7, .istore_n 3, 1, .null, 3),
  (8, .iload_n 3, 1, .null, 3),
  (9, .bipush (24), 2, (.int (24)), 0),
  (11, .if_icmp .ge (32), 3, .null, 43),
  (14, .iload_n 2, 1, .null, 2),
  (15, .aload_n 1, 1, .null, 1),
  (16, .getfield 38, 3, .null, 0),
  (19, .if_icmp .ge (24), 3, .null, 43),
  (22, .aload_n 0, 1, .null, 0),
  (23, .getfield 62, 3, .null, 0),
  (26, .iconst (-1), 1, (.int (-1)), 0),
  (27, .if_icmp .ne (16), 3, .null, 43),
  (30, .aload_n 0, 1, .null, 0),
  (31, .aload_n 1, 1, .null, 1),
  (32, .iload_n 2, 1, .null, 2),
  (33, .invokevirtual 65, 3, .null, 0),
  (36, .istore_n 2, 1, .null, 2),
  (37, .iinc 3 (1), 3, (.int (1)), 3),
  (40, .goto (-32), 3, .null, 8),
  (43, .aload_n 0, 1, .null, 0),
  (44, .getfield 62, 3, .null, 0),
  (47, .iconst (-1), 1, (.int (-1)), 0),
  (48, .if_icmp .ne (18), 3, .null, 66),
  (51, .aload_n 0, 1, .null, 0),
  (52, .getfield 69, 3, .null, 0),
  (55, .ifCond .le (11), 3, .null, 66),
  (58, .aload_n 0, 1, .null, 0),
  (59, .aload_n 1, 1, .null, 1),
  (60, .getfield 38, 3, .null, 0),
  (63, .putfield 62, 3, .null, 0),
  (66, .aload_n 0, 1, .null, 0),
  (67, .invokevirtual 56, 3, .null, 0),
  (70, .aload_n 0, 1, .null, 0),
  (71, .invokevirtual 59, 3, .null, 0),
  (74, .aload_n 0, 1, .null, 0),
  (75, .getfield 62, 3, .null, 0),
  (78, .ireturn, 1, .null, 0)]
noncomputable def m_X5_readPattern : ab_M := (c_X5_readPattern, [(0, [0, 1]), (8, [0, 1, 2, 3]), (43, [0, 1]), (66, [0])],
  [(38, 6, 1, 0), (62, 5, 9, 0), (69, 5, 7, 0)],
  [],
  [(35, 1, 1, g_X5_start), (56, 1, 1, g_X5_settlePiece), (59, 1, 1, g_X5_settleSequence), (65, 1, 3, g_X5_readOne)],
  [], 4, 1)
theorem one_X5_readPattern : ab_oneM m_X5_readPattern := List.forall_mem_cons.mpr ⟨o_X5_start, List.forall_mem_cons.mpr ⟨o_X5_settlePiece, List.forall_mem_cons.mpr ⟨o_X5_settleSequence, List.forall_mem_cons.mpr ⟨o_X5_readOne, fun _ h => absurd h List.not_mem_nil⟩⟩⟩⟩
noncomputable def f_X5_readPattern (l0 : Nat) (l1 : Nat) (st : ab_S) : Option ab_R := ab_rc st l0 5 (ab_lim m_X5_readPattern 0 [.ref l0, .ref l1] [] st)
noncomputable def L_X5_readPattern_8 (l0 : Nat) (l1 : Nat) (l2 : Int32) (l3 : Int32) (st : ab_S) : Option ab_R := ab_lim m_X5_readPattern 8 [.ref l0, .ref l1, .int l2, .int l3] [] st
noncomputable def L_X5_readPattern_43 (l0 : Nat) (l1 : Nat) (st : ab_S) : Option ab_R := ab_lim m_X5_readPattern 43 [.ref l0, .ref l1] [] st
noncomputable def L_X5_readPattern_66 (l0 : Nat) (st : ab_S) : Option ab_R := ab_lim m_X5_readPattern 66 [.ref l0] [] st
noncomputable def g_X5_readPattern : ab_G := fun as st k => match as with
  | [.ref a0, .ref a1] => ab_ri (f_X5_readPattern a0 a1 st) (fun x t => k [.int x] t)
  | _ => none
theorem o_X5_readPattern : ab_one g_X5_readPattern := by
  intro as st k r h
  unfold g_X5_readPattern at h ⊢
  split at h
  · exact one_ri h
  · cases h
set_option maxRecDepth 100000 in
theorem e_X5_readPattern_0 (l0 : Nat) (l1 : Nat) (st : ab_S) : f_X5_readPattern l0 l1 st =
    ab_rc st l0 5 (
    ab_rv (f_X5_start l0 st) fun s1 =>
    L_X5_readPattern_8 l0 l1 (0 : Int32) (0 : Int32) s1) := congrArg (ab_rc st l0 5) ((lm_eq one_X5_readPattern 0 _ _ _).trans rfl)
set_option maxRecDepth 100000 in
theorem e_X5_readPattern_8 (l0 : Nat) (l1 : Nat) (l2 : Int32) (l3 : Int32) (st : ab_S) : L_X5_readPattern_8 l0 l1 l2 l3 st =
    if (24 : Int32) ≤ l3
    then L_X5_readPattern_43 l0 l1 st
    else Option.bind (ab_gI st l1 6 1) fun x1 =>
      if x1 ≤ l2
      then L_X5_readPattern_43 l0 l1 st
      else Option.bind (ab_gI st l0 5 9) fun x2 =>
        if x2 = (-1 : Int32)
        then ab_ri (f_X5_readOne l0 l1 l2 st) fun x4 s3 =>
          L_X5_readPattern_8 l0 l1 x4 (l3 + (1 : Int32)) s3
        else L_X5_readPattern_43 l0 l1 st := (lm_eq one_X5_readPattern 8 _ _ _).trans rfl
set_option maxRecDepth 100000 in
theorem e_X5_readPattern_43 (l0 : Nat) (l1 : Nat) (st : ab_S) : L_X5_readPattern_43 l0 l1 st =
    Option.bind (ab_gI st l0 5 9) fun x1 =>
    if x1 = (-1 : Int32)
    then Option.bind (ab_gI st l0 5 7) fun x2 =>
      if x2 ≤ 0
      then L_X5_readPattern_66 l0 st
      else Option.bind (ab_gI st l1 6 1) fun x3 =>
        Option.bind (ab_pI st l0 5 9 x3) fun s4 =>
        L_X5_readPattern_66 l0 s4
    else L_X5_readPattern_66 l0 st := (lm_eq one_X5_readPattern 43 _ _ _).trans rfl
set_option maxRecDepth 100000 in
theorem e_X5_readPattern_66 (l0 : Nat) (st : ab_S) : L_X5_readPattern_66 l0 st =
    ab_rv (f_X5_settlePiece l0 st) fun s1 =>
    ab_rv (f_X5_settleSequence l0 s1) fun s2 =>
    Option.bind (ab_gI s2 l0 5 9) fun x3 =>
    some (some (.int x3), s2) := (lm_eq one_X5_readPattern 66 _ _ _).trans rfl
def c_X5_readWild : List (Nat × ab_I) := [(0, .aload_n 0, 1, .null, 0),
  (1, .invokevirtual 35, 3, .null, 0),
  (4, .iconst 0, 1, (.int (0)), 0),
  (5, .istore_n 2, 1, .null, 2),
  (6, .iload_n 2, 1, .null, 2),
  (7, .aload_n 1, 1, .null, 1),
  (8, .getfield 38, 3, .null, 0),
  (11, .if_icmp .ge (60), 3, .null, 71),
  (14, .aload_n 1, 1, .null, 1),
  (15, .iload_n 2, 1, .null, 2),
  (16, .invokevirtual 44, 3, .null, 0),
  (19, .istore_n 3, 1, .null, 3),
  (20, .iload_n 3, 1, .null, 3),
  (21, .bipush (42), 2, (.int (42)), 0),
  (23, .if_icmp .eq (9), 3, .null, 32),
  (26, .iload_n 3, 1, .null, 3),
  (27, .bipush (63), 2, (.int (63)), 0),
  (29, .if_icmp .ne (14), 3, .null, 43),
  (32, .aload_n 0, 1, .null, 0),
  (33, .iconst 0, 1, (.int (0)), 0),
  (34, .sipush (255), 3, (.int (255)), 0),
  (37, .invokevirtual 48, 3, .null, 0),
  (40, .goto (9), 3, .null, 49),
  (43, .aload_n 0, 1, .null, 0),
  (44, .iload_n 3, 1, .null, 3),
  (45, .iload_n 3, 1, .null, 3),
  (46, .invokevirtual 48, 3, .null, 0),
  (49, .iload_n 3, 1, .null, 3),
  (50, .bipush (42), 2, (.int (42)), 0),
  (52, .if_icmp .ne (9), 3, .null, 61),
  (55, .aload_n 0, 1, .null, 0),
  (56, .bipush (42), 2, (.int (42)), 0),
  (58, .invokevirtual 52, 3, .null, 0),
  (61, .aload_n 0, 1, .null, 0),
  (62, .invokevirtual 56, 3, .null, 0),
  (65, .iinc 2 (1), 3, (.int (1)), 2),
  (68, .goto (-62), 3, .null, 6),
  (71, .aload_n 0, 1, .null, 0),
  (72, .invokevirtual 59, 3, .null, 0),
  (75, .return_, 1, .null, 0)]
noncomputable def m_X5_readWild : ab_M := (c_X5_readWild, [(0, [0, 1]), (6, [0, 1, 2]), (32, [0, 1, 2, 3]), (49, [0, 1, 2, 3]), (61, [0, 1, 2])],
  [(38, 6, 1, 0)],
  [],
  [(35, 1, 1, g_X5_start), (44, 1, 2, g_X6_at), (48, 1, 3, g_X5_putPlace), (52, 1, 2, g_X5_repeat), (56, 1, 1, g_X5_settlePiece), (59, 1, 1, g_X5_settleSequence)],
  [], 4, 0)
theorem one_X5_readWild : ab_oneM m_X5_readWild := List.forall_mem_cons.mpr ⟨o_X5_start, List.forall_mem_cons.mpr ⟨o_X6_at, List.forall_mem_cons.mpr ⟨o_X5_putPlace, List.forall_mem_cons.mpr ⟨o_X5_repeat, List.forall_mem_cons.mpr ⟨o_X5_settlePiece, List.forall_mem_cons.mpr ⟨o_X5_settleSequence, fun _ h => absurd h List.not_mem_nil⟩⟩⟩⟩⟩⟩
noncomputable def f_X5_readWild (l0 : Nat) (l1 : Nat) (st : ab_S) : Option ab_R := ab_rc st l0 5 (ab_lim m_X5_readWild 0 [.ref l0, .ref l1] [] st)
noncomputable def L_X5_readWild_6 (l0 : Nat) (l1 : Nat) (l2 : Int32) (st : ab_S) : Option ab_R := ab_lim m_X5_readWild 6 [.ref l0, .ref l1, .int l2] [] st
noncomputable def L_X5_readWild_32 (l0 : Nat) (l1 : Nat) (l2 : Int32) (l3 : Int32) (st : ab_S) : Option ab_R := ab_lim m_X5_readWild 32 [.ref l0, .ref l1, .int l2, .int l3] [] st
noncomputable def L_X5_readWild_49 (l0 : Nat) (l1 : Nat) (l2 : Int32) (l3 : Int32) (st : ab_S) : Option ab_R := ab_lim m_X5_readWild 49 [.ref l0, .ref l1, .int l2, .int l3] [] st
noncomputable def L_X5_readWild_61 (l0 : Nat) (l1 : Nat) (l2 : Int32) (st : ab_S) : Option ab_R := ab_lim m_X5_readWild 61 [.ref l0, .ref l1, .int l2] [] st
noncomputable def g_X5_readWild : ab_G := fun as st k => match as with
  | [.ref a0, .ref a1] => ab_rv (f_X5_readWild a0 a1 st) (fun t => k [] t)
  | _ => none
theorem o_X5_readWild : ab_one g_X5_readWild := by
  intro as st k r h
  unfold g_X5_readWild at h ⊢
  split at h
  · exact one_rv h
  · cases h
set_option maxRecDepth 100000 in
theorem e_X5_readWild_0 (l0 : Nat) (l1 : Nat) (st : ab_S) : f_X5_readWild l0 l1 st =
    ab_rc st l0 5 (
    ab_rv (f_X5_start l0 st) fun s1 =>
    L_X5_readWild_6 l0 l1 (0 : Int32) s1) := congrArg (ab_rc st l0 5) ((lm_eq one_X5_readWild 0 _ _ _).trans rfl)
set_option maxRecDepth 100000 in
theorem e_X5_readWild_6 (l0 : Nat) (l1 : Nat) (l2 : Int32) (st : ab_S) : L_X5_readWild_6 l0 l1 l2 st =
    Option.bind (ab_gI st l1 6 1) fun x1 =>
    if x1 ≤ l2
    then ab_rv (f_X5_settleSequence l0 st) fun s2 =>
      some (none, s2)
    else ab_ri (f_X6_at l1 l2 st) fun x4 s3 =>
      if x4 = (42 : Int32)
      then L_X5_readWild_32 l0 l1 l2 x4 s3
      else if x4 = (63 : Int32)
        then L_X5_readWild_32 l0 l1 l2 x4 s3
        else ab_rv (f_X5_putPlace l0 x4 x4 s3) fun s5 =>
          L_X5_readWild_49 l0 l1 l2 x4 s5 := (lm_eq one_X5_readWild 6 _ _ _).trans rfl
set_option maxRecDepth 100000 in
theorem e_X5_readWild_32 (l0 : Nat) (l1 : Nat) (l2 : Int32) (l3 : Int32) (st : ab_S) : L_X5_readWild_32 l0 l1 l2 l3 st =
    ab_rv (f_X5_putPlace l0 (0 : Int32) (255 : Int32) st) fun s1 =>
    L_X5_readWild_49 l0 l1 l2 l3 s1 := (lm_eq one_X5_readWild 32 _ _ _).trans rfl
set_option maxRecDepth 100000 in
theorem e_X5_readWild_49 (l0 : Nat) (l1 : Nat) (l2 : Int32) (l3 : Int32) (st : ab_S) : L_X5_readWild_49 l0 l1 l2 l3 st =
    if l3 = (42 : Int32)
    then ab_rv (f_X5_repeat l0 (42 : Int32) st) fun s1 =>
      L_X5_readWild_61 l0 l1 l2 s1
    else L_X5_readWild_61 l0 l1 l2 st := (lm_eq one_X5_readWild 49 _ _ _).trans rfl
set_option maxRecDepth 100000 in
theorem e_X5_readWild_61 (l0 : Nat) (l1 : Nat) (l2 : Int32) (st : ab_S) : L_X5_readWild_61 l0 l1 l2 st =
    ab_rv (f_X5_settlePiece l0 st) fun s1 =>
    L_X5_readWild_6 l0 l1 (l2 + (1 : Int32)) s1 := (lm_eq one_X5_readWild 61 _ _ _).trans rfl
def c_X2_read : List (Nat × ab_I) := [(0, .aload_n 0, 1, .null, 0),
  (1, .aload_n 1, 1, .null, 1),
  (2, .putfield 16, 3, .null, 0),
  (5, .aload_n 0, 1, .null, 0),
  (6, .iload_n 2, 1, .null, 2),
  (7, .putfield 20, 3, .null, 0),
  (10, .return_, 1, .null, 0)]
noncomputable def m_X2_read : ab_M := (c_X2_read, [(0, [0, 1, 2])],
  [(16, 2, 1, 3), (20, 2, 2, 0)],
  [],
  [],
  [], 3, 0)
theorem one_X2_read : ab_oneM m_X2_read := fun _ h => absurd h List.not_mem_nil
noncomputable def f_X2_read (l0 : Nat) (l1 : Nat) (l2 : Int32) (st : ab_S) : Option ab_R := ab_rc st l0 2 (ab_lim m_X2_read 0 [.ref l0, .ref l1, .int l2] [] st)
noncomputable def g_X2_read : ab_G := fun as st k => match as with
  | [.ref a0, .ref a1, .int a2] => ab_rv (f_X2_read a0 a1 a2 st) (fun t => k [] t)
  | _ => none
theorem o_X2_read : ab_one g_X2_read := by
  intro as st k r h
  unfold g_X2_read at h ⊢
  split at h
  · exact one_rv h
  · cases h
set_option maxRecDepth 100000 in
theorem e_X2_read_0 (l0 : Nat) (l1 : Nat) (l2 : Int32) (st : ab_S) : f_X2_read l0 l1 l2 st =
    ab_rc st l0 2 (
    Option.bind (ab_pR st l0 2 1 l1) fun s1 =>
    Option.bind (ab_pI s1 l0 2 2 l2) fun s2 =>
    some (none, s2)) := congrArg (ab_rc st l0 2) ((lm_eq one_X2_read 0 _ _ _).trans rfl)
def c_X2_fewest : List (Nat × ab_I) := [(0, .aload_n 0, 1, .null, 0),
  (1, .getfield 16, 3, .null, 0),
  (4, .iload_n 3, 1, .null, 3),
  (5, .iconst 1, 1, (.int (1)), 0),
  (6, .isub, 1, .null, 0),
  (7, .invokevirtual 44, 3, .null, 0),
  (10, .istore 5, 2, .null, 5),
  (12, .aload_n 1, 1, .null, 1),
  (13, .iload_n 2, 1, .null, 2),
  (14, .iload 4, 2, .null, 4),
  (16, .iconst 1, 1, (.int (1)), 0),
  (17, .isub, 1, .null, 0),
  (18, .invokevirtual 47, 3, .null, 0),
  (21, .istore 6, 2, .null, 6),
  (23, .aload_n 0, 1, .null, 0),
  (24, .getfield 11, 3, .null, 0),
  (27, .iload_n 3, 1, .null, 3),
  (28, .iconst 1, 1, (.int (1)), 0),
  (29, .isub, 1, .null, 0),
  (30, .aaload, 1, .null, 0),
  (31, .iload 4, 2, .null, 4),
  (33, .iaload, 1, .null, 0),
  (34, .aload_n 0, 1, .null, 0),
  (35, .getfield 11, 3, .null, 0),
  (38, .iload_n 3, 1, .null, 3),
  (39, .aaload, 1, .null, 0),
  (40, .iload 4, 2, .null, 4),
  (42, .iconst 1, 1, (.int (1)), 0),
  (43, .isub, 1, .null, 0),
  (44, .iaload, 1, .null, 0),
  (45, .invokestatic 51, 3, .null, 0),
  (48, .iconst 1, 1, (.int (1)), 0),
  (49, .iadd, 1, .null, 0),
  (50, .istore 7, 2, .null, 7),
  (52, .iload 7, 2, .null, 7),
  (54, .aload_n 0, 1, .null, 0),
  (55, .getfield 11, 3, .null, 0),
  (58, .iload_n 3, 1, .null, 3),
  (59, .iconst 1, 1, (.int (1)), 0),
  (60, .isub, 1, .null, 0),
  (61, .aaload, 1, .null, 0),
  (62, .iload 4, 2, .null, 4),
  (64, .iconst 1, 1, (.int (1)), 0),
  (65, .isub, 1, .null, 0),
  (66, .iaload, 1, .null, 0),
  (67, .iload 5, 2, .null, 5),
  (69, .iload 6, 2, .null, 6),
  (71, .if_icmp .ne (7), 3, .null, 78),
  (74, .iconst 0, 1, (.int (0)), 0),
  (75, .goto (4), 3, .null, 79),
  (78, .iconst 1, 1, (.int (1)), 0),
  (79, .iadd, 1, .null, 0),
  (80, .invokestatic 51, 3, .null, 0),
  (83, .istore 7, 2, .null, 7),
  (85, .iload_n 3, 1, .null, 3),
  (86, .iconst 1, 1, (.int (1)), 0),
  (87, .if_icmp .le (42), 3, .null, 129),
  (90, .iload 4, 2, .null, 4),
  (92, .iconst 1, 1, (.int (1)), 0),
  (93, .if_icmp .le (36), 3, .null, 129),
  (96, .aload_n 0, 1, .null, 0),
  (97, .getfield 16, 3, .null, 0),
  (100, .iload_n 3, 1, .null, 3),
  (101, .iconst 2, 1, (.int (2)), 0),
  (102, .isub, 1, .null, 0),
  (103, .invokevirtual 44, 3, .null, 0),
  (106, .iload 6, 2, .null, 6),
  (108, .if_icmp .ne (21), 3, .null, 129),
  (111, .iload 5, 2, .null, 5),
  (113, .aload_n 1, 1, .null, 1),
  (114, .iload_n 2, 1, .null, 2),
  (115, .iload 4, 2, .null, 4),
  (117, .iconst 2, 1, (.int (2)), 0),
  (118, .isub, 1, .null, 0),
  (119, .invokevirtual 47, 3, .null, 0),
  (122, .if_icmp .ne (7), 3, .null, 129),
  (125, .iconst 1, 1, (.int (1)), 0),
  (126, .goto (4), 3, .null, 130),
  (129, .iconst 0, 1, (.int (0)), 0),
  (130, .istore 8, 2, .null, 8),
  (132, .iload 8, 2, .null, 8),
  (134, .ifCond .eq (26), 3, .null, 160),
  (137, .iload 7, 2, .null, 7),
  (139, .aload_n 0, 1, .null, 0),
  (140, .getfield 11, 3, .null, 0),
  (143, .iload_n 3, 1, .null, 3),
  (144, .iconst 2, 1, (.int (2)), 0),
  (145, .isub, 1, .null, 0),
  (146, .aaload, 1, .null, 0),
  (147, .iload 4, 2, .null, 4),
  (149, .iconst 2, 1, (.int (2)), 0),
  (150, .isub, 1, .null, 0),
  (151, .iaload, 1, .null, 0),
  (152, .iconst 1, 1, (.int (1)), 0),
  (153, .iadd, 1, .null, 0),
  (154, .invokestatic 51, 3, .null, 0),
  (157, .goto (5), 3, .null, 162),
  (160, .iload 7, 2, .null, 7),
  (162, .ireturn, 1, .null, 0)]
noncomputable def m_X2_fewest : ab_M := (c_X2_fewest, [(0, [0, 1, 2, 3, 4]), (79, [0, 1, 2, 3, 4, 5, 6]), (129, [0, 3, 4, 7]), (130, [0, 3, 4, 7])],
  [(11, 2, 0, 3), (16, 2, 1, 3)],
  [],
  [(44, 1, 2, g_X6_at), (47, 1, 3, g_X7_signAt), (51, 0, 2, g_min)],
  [], 9, 1)
theorem one_X2_fewest : ab_oneM m_X2_fewest := List.forall_mem_cons.mpr ⟨o_X6_at, List.forall_mem_cons.mpr ⟨o_X7_signAt, List.forall_mem_cons.mpr ⟨o_min, fun _ h => absurd h List.not_mem_nil⟩⟩⟩
noncomputable def f_X2_fewest (l0 : Nat) (l1 : Nat) (l2 : Int32) (l3 : Int32) (l4 : Int32) (st : ab_S) : Option ab_R := ab_rc st l0 2 (ab_lim m_X2_fewest 0 [.ref l0, .ref l1, .int l2, .int l3, .int l4] [] st)
noncomputable def L_X2_fewest_79 (l0 : Nat) (l1 : Nat) (l2 : Int32) (l3 : Int32) (l4 : Int32) (l5 : Int32) (l6 : Int32) (t0 : Int32) (t1 : Int32) (t2 : Int32) (st : ab_S) : Option ab_R := ab_lim m_X2_fewest 79 [.ref l0, .ref l1, .int l2, .int l3, .int l4, .int l5, .int l6] [.int t2, .int t1, .int t0] st
noncomputable def L_X2_fewest_129 (l0 : Nat) (l3 : Int32) (l4 : Int32) (l7 : Int32) (st : ab_S) : Option ab_R := ab_lim m_X2_fewest 129 [.ref l0, .int l3, .int l4, .int l7] [] st
noncomputable def L_X2_fewest_130 (l0 : Nat) (l3 : Int32) (l4 : Int32) (l7 : Int32) (t0 : Int32) (st : ab_S) : Option ab_R := ab_lim m_X2_fewest 130 [.ref l0, .int l3, .int l4, .int l7] [.int t0] st
noncomputable def g_X2_fewest : ab_G := fun as st k => match as with
  | [.ref a0, .ref a1, .int a2, .int a3, .int a4] => ab_ri (f_X2_fewest a0 a1 a2 a3 a4 st) (fun x t => k [.int x] t)
  | _ => none
theorem o_X2_fewest : ab_one g_X2_fewest := by
  intro as st k r h
  unfold g_X2_fewest at h ⊢
  split at h
  · exact one_ri h
  · cases h
set_option maxRecDepth 100000 in
theorem e_X2_fewest_0 (l0 : Nat) (l1 : Nat) (l2 : Int32) (l3 : Int32) (l4 : Int32) (st : ab_S) : f_X2_fewest l0 l1 l2 l3 l4 st =
    ab_rc st l0 2 (
    Option.bind (ab_gR st l0 2 1) fun x1 =>
    ab_ri (f_X6_at x1 (l3 - (1 : Int32)) st) fun x3 s2 =>
    ab_ri (f_X7_signAt l1 l2 (l4 - (1 : Int32)) s2) fun x5 s4 =>
    Option.bind (ab_gR s4 l0 2 0) fun x6 =>
    Option.bind (ab_rR s4 x6 (l3 - (1 : Int32))) fun x7 =>
    Option.bind (ab_rI s4 x7 l4) fun x8 =>
    Option.bind (ab_gR s4 l0 2 0) fun x9 =>
    Option.bind (ab_rR s4 x9 l3) fun x10 =>
    Option.bind (ab_rI s4 x10 (l4 - (1 : Int32))) fun x11 =>
    Option.bind (ab_gR s4 l0 2 0) fun x12 =>
    Option.bind (ab_rR s4 x12 (l3 - (1 : Int32))) fun x13 =>
    Option.bind (ab_rI s4 x13 (l4 - (1 : Int32))) fun x14 =>
    if x3 = x5
    then L_X2_fewest_79 l0 l1 l2 l3 l4 x3 x5 ((if x11 < x8 then x11 else x8) + (1 : Int32)) x14 (0 : Int32) s4
    else L_X2_fewest_79 l0 l1 l2 l3 l4 x3 x5 ((if x11 < x8 then x11 else x8) + (1 : Int32)) x14 (1 : Int32) s4) := congrArg (ab_rc st l0 2) ((lm_eq one_X2_fewest 0 _ _ _).trans rfl)
set_option maxRecDepth 100000 in
theorem e_X2_fewest_79 (l0 : Nat) (l1 : Nat) (l2 : Int32) (l3 : Int32) (l4 : Int32) (l5 : Int32) (l6 : Int32) (t0 : Int32) (t1 : Int32) (t2 : Int32) (st : ab_S) : L_X2_fewest_79 l0 l1 l2 l3 l4 l5 l6 t0 t1 t2 st =
    if l3 ≤ (1 : Int32)
    then L_X2_fewest_129 l0 l3 l4 (if (t1 + t2) < t0 then (t1 + t2) else t0) st
    else if l4 ≤ (1 : Int32)
      then L_X2_fewest_129 l0 l3 l4 (if (t1 + t2) < t0 then (t1 + t2) else t0) st
      else Option.bind (ab_gR st l0 2 1) fun x1 =>
        ab_ri (f_X6_at x1 (l3 - (2 : Int32)) st) fun x3 s2 =>
        if x3 = l6
        then ab_ri (f_X7_signAt l1 l2 (l4 - (2 : Int32)) s2) fun x5 s4 =>
          if l5 = x5
          then L_X2_fewest_130 l0 l3 l4 (if (t1 + t2) < t0 then (t1 + t2) else t0) (1 : Int32) s4
          else L_X2_fewest_129 l0 l3 l4 (if (t1 + t2) < t0 then (t1 + t2) else t0) s4
        else L_X2_fewest_129 l0 l3 l4 (if (t1 + t2) < t0 then (t1 + t2) else t0) s2 := (lm_eq one_X2_fewest 79 _ _ _).trans rfl
set_option maxRecDepth 100000 in
theorem e_X2_fewest_129 (l0 : Nat) (l3 : Int32) (l4 : Int32) (l7 : Int32) (st : ab_S) : L_X2_fewest_129 l0 l3 l4 l7 st =
    L_X2_fewest_130 l0 l3 l4 l7 (0 : Int32) st := (lm_eq one_X2_fewest 129 _ _ _).trans rfl
set_option maxRecDepth 100000 in
theorem e_X2_fewest_130 (l0 : Nat) (l3 : Int32) (l4 : Int32) (l7 : Int32) (t0 : Int32) (st : ab_S) : L_X2_fewest_130 l0 l3 l4 l7 t0 st =
    if t0 = 0
    then some (some (.int l7), st)
    else Option.bind (ab_gR st l0 2 0) fun x1 =>
      Option.bind (ab_rR st x1 (l3 - (2 : Int32))) fun x2 =>
      Option.bind (ab_rI st x2 (l4 - (2 : Int32))) fun x3 =>
      some (some (.int (if (x3 + (1 : Int32)) < l7 then (x3 + (1 : Int32)) else l7)), st) := (lm_eq one_X2_fewest 130 _ _ _).trans rfl
