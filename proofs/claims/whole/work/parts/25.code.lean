def c_X2_accepts : List (Nat × ab_I) := [(0, .aload_n 1, 1, .null, 1),
  (1, .iload_n 2, 1, .null, 2),
  (2, .invokevirtual 24, 3, .null, 0),
  (5, .istore_n 3, 1, .null, 3),
  (6, .aload_n 0, 1, .null, 0),
  (7, .getfield 16, 3, .null, 0),
  (10, .ifnull (25), 3, .null, 35),
  (13, .aload_n 0, 1, .null, 0),
  (14, .getfield 16, 3, .null, 0),
  (17, .getfield 30, 3, .null, 0),
  (20, .bipush (12), 2, (.int (12)), 0),
  (22, .if_icmp .gt (13), 3, .null, 35),
  (25, .iload_n 3, 1, .null, 3),
  (26, .ifCond .lt (9), 3, .null, 35),
  (29, .iload_n 3, 1, .null, 3),
  (30, .bipush (12), 2, (.int (12)), 0),
  (32, .if_icmp .le (5), 3, .null, 37),
  (35, .iconst 0, 1, (.int (0)), 0),
  (36, .ireturn, 1, .null, 0),
  (37, .aload_n 0, 1, .null, 0),
  (38, .getfield 16, 3, .null, 0),
  (41, .getfield 30, 3, .null, 0),
  (44, .iload_n 3, 1, .null, 3),
  (45, .isub, 1, .null, 0),
  (46, .invokestatic 35, 3, .null, 0),
  (49, .aload_n 0, 1, .null, 0),
  (50, .getfield 20, 3, .null, 0),
  (53, .if_icmp .le (5), 3, .null, 58),
  (56, .iconst 0, 1, (.int (0)), 0),
  (57, .ireturn, 1, .null, 0),
  (58, .iconst 0, 1, (.int (0)), 0),
  (59, .istore 4, 2, .null, 4),
  (61, .iload 4, 2, .null, 4),
  (63, .aload_n 0, 1, .null, 0),
  (64, .getfield 16, 3, .null, 0),
  (67, .getfield 30, 3, .null, 0),
  (70, .if_icmp .gt (62), 3, .null, 132),
  (73, .iconst 0, 1, (.int (0)), 0),
  (74, .istore 5, 2, .null, 5),
  (76, .iload 5, 2, .null, 5),
  (78, .iload_n 3, 1, .null, 3),
  (79, .if_icmp .gt (47), 3, .null, 126),
  (82, .aload_n 0, 1, .null, 0),
  (83, .getfield 11, 3, .null, 0),
  (86, .iload 4, 2, .null, 4),
  (88, .aaload, 1, .null, 0),
  (89, .iload 5, 2, .null, 5),
  (91, .iload 4, 2, .null, 4),
  (93, .ifCond .eq (8), 3, .null, 101),
  (96, .iload 5, 2, .null, 5),
  (98, .ifCond .ne (11), 3, .null, 109),
  (101, .iload 4, 2, .null, 4),
  (103, .iload 5, 2, .null, 5),
  (105, .iadd, 1, .null, 0),
  (106, .goto (13), 3, .null, 119),
  (109, .aload_n 0, 1, .null, 0),
  (110, .aload_n 1, 1, .null, 1),
  (111, .iload_n 2, 1, .null, 2),
  (112, .iload 4, 2, .null, 4),
  (114, .iload 5, 2, .null, 5),
  (116, .invokevirtual 40, 3, .null, 0),
  (119, .iastore, 1, .null, 0),
  (120, .iinc 5 (1), 3, (.int (1)), 5),
  (123, .goto (-47), 3, .null, 76),
  (126, .iinc 4 (1), 3, (.int (1)), 4),
  (129, .goto (-68), 3, .null, 61),
  (132, .aload_n 0, 1, .null, 0),
  (133, .getfield 11, 3, .null, 0),
  (136, .aload_n 0, 1, .null, 0),
  (137, .getfield 16, 3, .null, 0),
  (140, .getfield 30, 3, .null, 0),
  (143, .aaload, 1, .null, 0),
  (144, .iload_n 3, 1, .null, 3),
  (145, .iaload, 1, .null, 0),
  (146, .aload_n 0, 1, .null, 0),
  (147, .getfield 20, 3, .null, 0),
  (150, .if_icmp .gt (7), 3, .null, 157),
  (153, .iconst 1, 1, (.int (1)), 0),
  (154, .goto (4), 3, .null, 158),
  (157, .iconst 0, 1, (.int (0)), 0),
  (158, .ireturn, 1, .null, 0)]
noncomputable def m_X2_accepts : ab_M := (c_X2_accepts, [(0, [0, 1, 2]), (61, [0, 1, 2, 3, 4]), (76, [0, 1, 2, 3, 4, 5]), (101, [0, 1, 2, 3, 4, 5]), (119, [0, 1, 2, 3, 4, 5])],
  [(11, 2, 0, 3), (16, 2, 1, 3), (20, 2, 2, 0), (30, 6, 1, 0)],
  [],
  [(24, 1, 2, g_X7_lengthAt), (35, 0, 1, g_abs), (40, 1, 5, g_X2_fewest)],
  [], 6, 2)
theorem one_X2_accepts : ab_oneM m_X2_accepts := List.forall_mem_cons.mpr ⟨o_X7_lengthAt, List.forall_mem_cons.mpr ⟨o_abs, List.forall_mem_cons.mpr ⟨o_X2_fewest, fun _ h => absurd h List.not_mem_nil⟩⟩⟩
noncomputable def f_X2_accepts (l0 : Nat) (l1 : Nat) (l2 : Int32) (st : ab_S) : Option ab_R := ab_rc st l0 2 (ab_lim m_X2_accepts 0 [.ref l0, .ref l1, .int l2] [] st)
noncomputable def L_X2_accepts_61 (l0 : Nat) (l1 : Nat) (l2 : Int32) (l3 : Int32) (l4 : Int32) (st : ab_S) : Option ab_R := ab_lim m_X2_accepts 61 [.ref l0, .ref l1, .int l2, .int l3, .int l4] [] st
noncomputable def L_X2_accepts_76 (l0 : Nat) (l1 : Nat) (l2 : Int32) (l3 : Int32) (l4 : Int32) (l5 : Int32) (st : ab_S) : Option ab_R := ab_lim m_X2_accepts 76 [.ref l0, .ref l1, .int l2, .int l3, .int l4, .int l5] [] st
noncomputable def L_X2_accepts_101 (l0 : Nat) (l1 : Nat) (l2 : Int32) (l3 : Int32) (l4 : Int32) (l5 : Int32) (t0 : Nat) (t1 : Int32) (st : ab_S) : Option ab_R := ab_lim m_X2_accepts 101 [.ref l0, .ref l1, .int l2, .int l3, .int l4, .int l5] [.int t1, .ref t0] st
noncomputable def L_X2_accepts_119 (l0 : Nat) (l1 : Nat) (l2 : Int32) (l3 : Int32) (l4 : Int32) (l5 : Int32) (t0 : Nat) (t1 : Int32) (t2 : Int32) (st : ab_S) : Option ab_R := ab_lim m_X2_accepts 119 [.ref l0, .ref l1, .int l2, .int l3, .int l4, .int l5] [.int t2, .int t1, .ref t0] st
noncomputable def g_X2_accepts : ab_G := fun as st k => match as with
  | [.ref a0, .ref a1, .int a2] => ab_ri (f_X2_accepts a0 a1 a2 st) (fun x t => k [.int x] t)
  | _ => none
theorem o_X2_accepts : ab_one g_X2_accepts := by
  intro as st k r h
  unfold g_X2_accepts at h ⊢
  split at h
  · exact one_ri h
  · cases h
set_option maxRecDepth 100000 in
theorem e_X2_accepts_0 (l0 : Nat) (l1 : Nat) (l2 : Int32) (st : ab_S) : f_X2_accepts l0 l1 l2 st =
    ab_rc st l0 2 (
    ab_ri (f_X7_lengthAt l1 l2 st) fun x2 s1 =>
    Option.bind (ab_gR s1 l0 2 1) fun x3 =>
    if x3 = 0
    then ab_z (0 : Int32) (some (some (.int (0 : Int32)), s1))
    else Option.bind (ab_gR s1 l0 2 1) fun x4 =>
      Option.bind (ab_gI s1 x4 6 1) fun x5 =>
      if (12 : Int32) < x5
      then ab_z (0 : Int32) (some (some (.int (0 : Int32)), s1))
      else if x2 < 0
        then ab_z (0 : Int32) (some (some (.int (0 : Int32)), s1))
        else if x2 ≤ (12 : Int32)
          then Option.bind (ab_gR s1 l0 2 1) fun x6 =>
            Option.bind (ab_gI s1 x6 6 1) fun x7 =>
            Option.bind (ab_gI s1 l0 2 2) fun x8 =>
            if (if 0 ≤ (x7 - x2) then (x7 - x2) else 0 - (x7 - x2)) ≤ x8
            then L_X2_accepts_61 l0 l1 l2 x2 (0 : Int32) s1
            else ab_z (0 : Int32) (some (some (.int (0 : Int32)), s1))
          else ab_z (0 : Int32) (some (some (.int (0 : Int32)), s1))) := congrArg (ab_rc st l0 2) ((lm_eq one_X2_accepts 0 _ _ _).trans rfl)
set_option maxRecDepth 100000 in
theorem e_X2_accepts_61 (l0 : Nat) (l1 : Nat) (l2 : Int32) (l3 : Int32) (l4 : Int32) (st : ab_S) : L_X2_accepts_61 l0 l1 l2 l3 l4 st =
    Option.bind (ab_gR st l0 2 1) fun x1 =>
    Option.bind (ab_gI st x1 6 1) fun x2 =>
    if x2 < l4
    then Option.bind (ab_gR st l0 2 0) fun x3 =>
      Option.bind (ab_gR st l0 2 1) fun x4 =>
      Option.bind (ab_gI st x4 6 1) fun x5 =>
      Option.bind (ab_rR st x3 x5) fun x6 =>
      Option.bind (ab_rI st x6 l3) fun x7 =>
      Option.bind (ab_gI st l0 2 2) fun x8 =>
      if x8 < x7
      then ab_z (0 : Int32) (some (some (.int (0 : Int32)), st))
      else ab_z (1 : Int32) (some (some (.int (1 : Int32)), st))
    else L_X2_accepts_76 l0 l1 l2 l3 l4 (0 : Int32) st := (lm_eq one_X2_accepts 61 _ _ _).trans rfl
set_option maxRecDepth 100000 in
theorem e_X2_accepts_76 (l0 : Nat) (l1 : Nat) (l2 : Int32) (l3 : Int32) (l4 : Int32) (l5 : Int32) (st : ab_S) : L_X2_accepts_76 l0 l1 l2 l3 l4 l5 st =
    if l3 < l5
    then L_X2_accepts_61 l0 l1 l2 l3 (l4 + (1 : Int32)) st
    else Option.bind (ab_gR st l0 2 0) fun x1 =>
      Option.bind (ab_rR st x1 l4) fun x2 =>
      if l4 = 0
      then L_X2_accepts_101 l0 l1 l2 l3 l4 l5 x2 l5 st
      else if l5 = 0
        then L_X2_accepts_101 l0 l1 l2 l3 l4 l5 x2 l5 st
        else ab_ri (f_X2_fewest l0 l1 l2 l4 l5 st) fun x4 s3 =>
          L_X2_accepts_119 l0 l1 l2 l3 l4 l5 x2 l5 x4 s3 := (lm_eq one_X2_accepts 76 _ _ _).trans rfl
set_option maxRecDepth 100000 in
theorem e_X2_accepts_101 (l0 : Nat) (l1 : Nat) (l2 : Int32) (l3 : Int32) (l4 : Int32) (l5 : Int32) (t0 : Nat) (t1 : Int32) (st : ab_S) : L_X2_accepts_101 l0 l1 l2 l3 l4 l5 t0 t1 st =
    L_X2_accepts_119 l0 l1 l2 l3 l4 l5 t0 t1 (l4 + l5) st := (lm_eq one_X2_accepts 101 _ _ _).trans rfl
set_option maxRecDepth 100000 in
theorem e_X2_accepts_119 (l0 : Nat) (l1 : Nat) (l2 : Int32) (l3 : Int32) (l4 : Int32) (l5 : Int32) (t0 : Nat) (t1 : Int32) (t2 : Int32) (st : ab_S) : L_X2_accepts_119 l0 l1 l2 l3 l4 l5 t0 t1 t2 st =
    Option.bind (ab_wI st t0 t1 t2) fun s1 =>
    L_X2_accepts_76 l0 l1 l2 l3 l4 (l5 + (1 : Int32)) s1 := (lm_eq one_X2_accepts 119 _ _ _).trans rfl
def c_X5_takersOf : List (Nat × ab_I) := [(0, .iload_n 1, 1, .null, 1),
  (1, .ifCond .lt (10), 3, .null, 11),
  (4, .iload_n 1, 1, .null, 1),
  (5, .sipush (256), 3, (.int (256)), 0),
  (8, .if_icmp .lt (7), 3, .null, 15),
  (11, .iconst 0, 1, (.int (0)), 0),
  (12, .goto (9), 3, .null, 21),
  (15, .aload_n 0, 1, .null, 0),
  (16, .getfield 9, 3, .null, 0),
  (19, .iload_n 1, 1, .null, 1),
  (20, .iaload, 1, .null, 0),
  (21, .ireturn, 1, .null, 0)]
noncomputable def m_X5_takersOf : ab_M := (c_X5_takersOf, [(0, [0, 1])],
  [(9, 5, 0, 3)],
  [],
  [],
  [], 2, 1)
theorem one_X5_takersOf : ab_oneM m_X5_takersOf := fun _ h => absurd h List.not_mem_nil
noncomputable def f_X5_takersOf (l0 : Nat) (l1 : Int32) (st : ab_S) : Option ab_R := ab_rc st l0 5 (ab_lim m_X5_takersOf 0 [.ref l0, .int l1] [] st)
noncomputable def g_X5_takersOf : ab_G := fun as st k => match as with
  | [.ref a0, .int a1] => ab_ri (f_X5_takersOf a0 a1 st) (fun x t => k [.int x] t)
  | _ => none
theorem o_X5_takersOf : ab_one g_X5_takersOf := by
  intro as st k r h
  unfold g_X5_takersOf at h ⊢
  split at h
  · exact one_ri h
  · cases h
set_option maxRecDepth 100000 in
theorem e_X5_takersOf_0 (l0 : Nat) (l1 : Int32) (st : ab_S) : f_X5_takersOf l0 l1 st =
    ab_rc st l0 5 (
    if l1 < 0
    then some (some (.int (0 : Int32)), st)
    else if l1 < (256 : Int32)
      then Option.bind (ab_gR st l0 5 0) fun x1 =>
        Option.bind (ab_rI st x1 l1) fun x2 =>
        some (some (.int x2), st)
      else some (some (.int (0 : Int32)), st)) := congrArg (ab_rc st l0 5) ((lm_eq one_X5_takersOf 0 _ _ _).trans rfl)
def c_X5_reachedFrom : List (Nat × ab_I) := [(0, .iconst 0, 1, (.int (0)), 0),
  (1, .istore_n 2, 1, .null, 2),
  (2, .iconst 0, 1, (.int (0)), 0),
  (3, .istore_n 3, 1, .null, 3),
  (4, .iload_n 3, 1, .null, 3),
  (5, .aload_n 0, 1, .null, 0),
  (6, .getfield 78, 3, .null, 0),
  (9, .if_icmp .ge (32), 3, .null, 41),
  (12, .iload_n 3, 1, .null, 3),
  (13, .bipush (24), 2, (.int (24)), 0),
  (15, .if_icmp .ge (26), 3, .null, 41),
  (18, .iload_n 1, 1, .null, 1),
  (19, .iload_n 3, 1, .null, 3),
  (20, .iushr, 1, .null, 0),
  (21, .iconst 1, 1, (.int (1)), 0),
  (22, .iand, 1, .null, 0),
  (23, .ifCond .eq (12), 3, .null, 35),
  (26, .iload_n 2, 1, .null, 2),
  (27, .aload_n 0, 1, .null, 0),
  (28, .getfield 15, 3, .null, 0),
  (31, .iload_n 3, 1, .null, 3),
  (32, .iaload, 1, .null, 0),
  (33, .ior, 1, .null, 0),
  (34, .istore_n 2, 1, .null, 2),
  (35, .iinc 3 (1), 3, (.int (1)), 3),
  (38, .goto (-34), 3, .null, 4),
  (41, .iload_n 2, 1, .null, 2),
  (42, .ireturn, 1, .null, 0)]
noncomputable def m_X5_reachedFrom : ab_M := (c_X5_reachedFrom, [(0, [0, 1]), (4, [0, 1, 2, 3]), (35, [0, 1, 2, 3])],
  [(15, 5, 1, 3), (78, 5, 8, 0)],
  [],
  [],
  [], 4, 1)
theorem one_X5_reachedFrom : ab_oneM m_X5_reachedFrom := fun _ h => absurd h List.not_mem_nil
noncomputable def f_X5_reachedFrom (l0 : Nat) (l1 : Int32) (st : ab_S) : Option ab_R := ab_rc st l0 5 (ab_lim m_X5_reachedFrom 0 [.ref l0, .int l1] [] st)
noncomputable def L_X5_reachedFrom_4 (l0 : Nat) (l1 : Int32) (l2 : Int32) (l3 : Int32) (st : ab_S) : Option ab_R := ab_lim m_X5_reachedFrom 4 [.ref l0, .int l1, .int l2, .int l3] [] st
noncomputable def L_X5_reachedFrom_35 (l0 : Nat) (l1 : Int32) (l2 : Int32) (l3 : Int32) (st : ab_S) : Option ab_R := ab_lim m_X5_reachedFrom 35 [.ref l0, .int l1, .int l2, .int l3] [] st
noncomputable def g_X5_reachedFrom : ab_G := fun as st k => match as with
  | [.ref a0, .int a1] => ab_ri (f_X5_reachedFrom a0 a1 st) (fun x t => k [.int x] t)
  | _ => none
theorem o_X5_reachedFrom : ab_one g_X5_reachedFrom := by
  intro as st k r h
  unfold g_X5_reachedFrom at h ⊢
  split at h
  · exact one_ri h
  · cases h
set_option maxRecDepth 100000 in
theorem e_X5_reachedFrom_0 (l0 : Nat) (l1 : Int32) (st : ab_S) : f_X5_reachedFrom l0 l1 st =
    ab_rc st l0 5 (
    L_X5_reachedFrom_4 l0 l1 (0 : Int32) (0 : Int32) st) := congrArg (ab_rc st l0 5) ((lm_eq one_X5_reachedFrom 0 _ _ _).trans rfl)
set_option maxRecDepth 100000 in
theorem e_X5_reachedFrom_4 (l0 : Nat) (l1 : Int32) (l2 : Int32) (l3 : Int32) (st : ab_S) : L_X5_reachedFrom_4 l0 l1 l2 l3 st =
    Option.bind (ab_gI st l0 5 8) fun x1 =>
    if x1 ≤ l3
    then some (some (.int l2), st)
    else if (24 : Int32) ≤ l3
      then some (some (.int l2), st)
      else if ((l1.toUInt32 >>> (l3.toUInt32 &&& Int32.toUInt32 31)).toInt32 &&& (1 : Int32)) = 0
        then L_X5_reachedFrom_35 l0 l1 l2 l3 st
        else Option.bind (ab_gR st l0 5 1) fun x2 =>
          Option.bind (ab_rI st x2 l3) fun x3 =>
          L_X5_reachedFrom_35 l0 l1 (l2 ||| x3) l3 st := (lm_eq one_X5_reachedFrom 4 _ _ _).trans rfl
set_option maxRecDepth 100000 in
theorem e_X5_reachedFrom_35 (l0 : Nat) (l1 : Int32) (l2 : Int32) (l3 : Int32) (st : ab_S) : L_X5_reachedFrom_35 l0 l1 l2 l3 st =
    L_X5_reachedFrom_4 l0 l1 l2 (l3 + (1 : Int32)) st := (lm_eq one_X5_reachedFrom 35 _ _ _).trans rfl
def c_X5_accepts : List (Nat × ab_I) := [(0, .aload_n 0, 1, .null, 0),
  (1, .getfield 23, 3, .null, 0),
  (4, .iconst 0, 1, (.int (0)), 0),
  (5, .aaload, 1, .null, 0),
  (6, .astore_n 3, 1, .null, 3),
  (7, .aload_n 1, 1, .null, 1),
  (8, .iload_n 2, 1, .null, 2),
  (9, .invokevirtual 141, 3, .null, 0),
  (12, .istore 4, 2, .null, 4),
  (14, .iload 4, 2, .null, 4),
  (16, .ifCond .gt (21), 3, .null, 37),
  (19, .iload 4, 2, .null, 4),
  (21, .ifCond .ne (14), 3, .null, 35),
  (24, .aload_n 3, 1, .null, 3),
  (25, .getfield 110, 3, .null, 0),
  (28, .ifCond .eq (7), 3, .null, 35),
  (31, .iconst 1, 1, (.int (1)), 0),
  (32, .goto (4), 3, .null, 36),
  (35, .iconst 0, 1, (.int (0)), 0),
  (36, .ireturn, 1, .null, 0),
  (37, .aload_n 3, 1, .null, 3),
  (38, .getfield 113, 3, .null, 0),
  (41, .aload_n 0, 1, .null, 0),
  (42, .aload_n 1, 1, .null, 1),
  (43, .iload_n 2, 1, .null, 2),
  (44, .iconst 0, 1, (.int (0)), 0),
  (45, .invokevirtual 146, 3, .null, 0),
  (48, .invokevirtual 149, 3, .null, 0),
  (51, .iand, 1, .null, 0),
  (52, .istore 5, 2, .null, 5),
  (54, .iconst 1, 1, (.int (1)), 0),
  (55, .istore 6, 2, .null, 6),
  (57, .iload 6, 2, .null, 6),
  (59, .iload 4, 2, .null, 4),
  (61, .if_icmp .ge (34), 3, .null, 95),
  (64, .iload 5, 2, .null, 5),
  (66, .ifCond .eq (29), 3, .null, 95),
  (69, .aload_n 0, 1, .null, 0),
  (70, .iload 5, 2, .null, 5),
  (72, .invokevirtual 152, 3, .null, 0),
  (75, .aload_n 0, 1, .null, 0),
  (76, .aload_n 1, 1, .null, 1),
  (77, .iload_n 2, 1, .null, 2),
  (78, .iload 6, 2, .null, 6),
  (80, .invokevirtual 146, 3, .null, 0),
  (83, .invokevirtual 149, 3, .null, 0),
  (86, .iand, 1, .null, 0),
  (87, .istore 5, 2, .null, 5),
  (89, .iinc 6 (1), 3, (.int (1)), 6),
  (92, .goto (-35), 3, .null, 57),
  (95, .iload 5, 2, .null, 5),
  (97, .aload_n 3, 1, .null, 3),
  (98, .getfield 116, 3, .null, 0),
  (101, .iand, 1, .null, 0),
  (102, .ifCond .eq (7), 3, .null, 109),
  (105, .iconst 1, 1, (.int (1)), 0),
  (106, .goto (4), 3, .null, 110),
  (109, .iconst 0, 1, (.int (0)), 0),
  (110, .ireturn, 1, .null, 0)]
noncomputable def m_X5_accepts : ab_M := (c_X5_accepts, [(0, [0, 1, 2]), (57, [0, 1, 2, 3, 4, 5, 6]), (95, [3, 5])],
  [(23, 5, 3, 3), (110, 4, 0, 1), (113, 4, 1, 0), (116, 4, 2, 0)],
  [],
  [(141, 1, 2, g_X7_lengthAt), (146, 1, 3, g_X7_signAt), (149, 1, 2, g_X5_takersOf), (152, 1, 2, g_X5_reachedFrom)],
  [], 7, 2)
theorem one_X5_accepts : ab_oneM m_X5_accepts := List.forall_mem_cons.mpr ⟨o_X7_lengthAt, List.forall_mem_cons.mpr ⟨o_X7_signAt, List.forall_mem_cons.mpr ⟨o_X5_takersOf, List.forall_mem_cons.mpr ⟨o_X5_reachedFrom, fun _ h => absurd h List.not_mem_nil⟩⟩⟩⟩
noncomputable def f_X5_accepts (l0 : Nat) (l1 : Nat) (l2 : Int32) (st : ab_S) : Option ab_R := ab_rc st l0 5 (ab_lim m_X5_accepts 0 [.ref l0, .ref l1, .int l2] [] st)
noncomputable def L_X5_accepts_57 (l0 : Nat) (l1 : Nat) (l2 : Int32) (l3 : Nat) (l4 : Int32) (l5 : Int32) (l6 : Int32) (st : ab_S) : Option ab_R := ab_lim m_X5_accepts 57 [.ref l0, .ref l1, .int l2, .ref l3, .int l4, .int l5, .int l6] [] st
noncomputable def L_X5_accepts_95 (l3 : Nat) (l5 : Int32) (st : ab_S) : Option ab_R := ab_lim m_X5_accepts 95 [.ref l3, .int l5] [] st
noncomputable def g_X5_accepts : ab_G := fun as st k => match as with
  | [.ref a0, .ref a1, .int a2] => ab_ri (f_X5_accepts a0 a1 a2 st) (fun x t => k [.int x] t)
  | _ => none
theorem o_X5_accepts : ab_one g_X5_accepts := by
  intro as st k r h
  unfold g_X5_accepts at h ⊢
  split at h
  · exact one_ri h
  · cases h
set_option maxRecDepth 100000 in
theorem e_X5_accepts_0 (l0 : Nat) (l1 : Nat) (l2 : Int32) (st : ab_S) : f_X5_accepts l0 l1 l2 st =
    ab_rc st l0 5 (
    Option.bind (ab_gR st l0 5 3) fun x1 =>
    Option.bind (ab_rR st x1 (0 : Int32)) fun x2 =>
    ab_ri (f_X7_lengthAt l1 l2 st) fun x4 s3 =>
    if 0 < x4
    then Option.bind (ab_gI s3 x2 4 1) fun x5 =>
      ab_ri (f_X7_signAt l1 l2 (0 : Int32) s3) fun x7 s6 =>
      ab_ri (f_X5_takersOf l0 x7 s6) fun x9 s8 =>
      L_X5_accepts_57 l0 l1 l2 x2 x4 (x5 &&& x9) (1 : Int32) s8
    else if x4 = 0
      then Option.bind (ab_gI s3 x2 4 0) fun x10 =>
        if x10 = 0
        then ab_z (0 : Int32) (some (some (.int (0 : Int32)), s3))
        else ab_z (1 : Int32) (some (some (.int (1 : Int32)), s3))
      else ab_z (0 : Int32) (some (some (.int (0 : Int32)), s3))) := congrArg (ab_rc st l0 5) ((lm_eq one_X5_accepts 0 _ _ _).trans rfl)
set_option maxRecDepth 100000 in
theorem e_X5_accepts_57 (l0 : Nat) (l1 : Nat) (l2 : Int32) (l3 : Nat) (l4 : Int32) (l5 : Int32) (l6 : Int32) (st : ab_S) : L_X5_accepts_57 l0 l1 l2 l3 l4 l5 l6 st =
    if l4 ≤ l6
    then L_X5_accepts_95 l3 l5 st
    else if l5 = 0
      then L_X5_accepts_95 l3 l5 st
      else ab_ri (f_X5_reachedFrom l0 l5 st) fun x2 s1 =>
        ab_ri (f_X7_signAt l1 l2 l6 s1) fun x4 s3 =>
        ab_ri (f_X5_takersOf l0 x4 s3) fun x6 s5 =>
        L_X5_accepts_57 l0 l1 l2 l3 l4 (x2 &&& x6) (l6 + (1 : Int32)) s5 := (lm_eq one_X5_accepts 57 _ _ _).trans rfl
set_option maxRecDepth 100000 in
theorem e_X5_accepts_95 (l3 : Nat) (l5 : Int32) (st : ab_S) : L_X5_accepts_95 l3 l5 st =
    Option.bind (ab_gI st l3 4 2) fun x1 =>
    if (l5 &&& x1) = 0
    then ab_z (0 : Int32) (some (some (.int (0 : Int32)), st))
    else ab_z (1 : Int32) (some (some (.int (1 : Int32)), st)) := (lm_eq one_X5_accepts 95 _ _ _).trans rfl
def c_X10_keepAccepted : List (Nat × ab_I) := [(0, .aload_n 0, 1, .null, 0),
  (1, .iconst 0, 1, (.int (0)), 0),
  (2, .putfield 205, 3, .null, 0),
  (5, .iconst 0, 1, (.int (0)), 0),
  (6, .istore_n 3, 1, .null, 3),
  (7, .iload_n 3, 1, .null, 3),
  (8, .aload_n 1, 1, .null, 1),
  (9, .getfield 103, 3, .null, 0),
  (12, .if_icmp .ge (45), 3, .null, 57),
  (15, .iload_n 2, 1, .null, 2),
  (16, .ifCond .eq (18), 3, .null, 34),
  (19, .aload_n 0, 1, .null, 0),
  (20, .getfield 49, 3, .null, 0),
  (23, .aload_n 1, 1, .null, 1),
  (24, .iload_n 3, 1, .null, 3),
  (25, .invokevirtual 260, 3, .null, 0),
  (28, .ifCond .eq (23), 3, .null, 51),
  (31, .goto (15), 3, .null, 46),
  (34, .aload_n 0, 1, .null, 0),
  (35, .getfield 42, 3, .null, 0),
  (38, .aload_n 1, 1, .null, 1),
  (39, .iload_n 3, 1, .null, 3),
  (40, .invokevirtual 264, 3, .null, 0),
  (43, .ifCond .eq (8), 3, .null, 51),
  (46, .aload_n 0, 1, .null, 0),
  (47, .iload_n 3, 1, .null, 3),
  (48, .invokevirtual 257, 3, .null, 0),
  (51, .iinc 3 (1), 3, (.int (1)), 3),
  (54, .goto (-47), 3, .null, 7),
  (57, .aload_n 0, 1, .null, 0),
  (58, .getfield 205, 3, .null, 0),
  (61, .ireturn, 1, .null, 0)]
noncomputable def m_X10_keepAccepted : ab_M := (c_X10_keepAccepted, [(0, [0, 1, 2]), (7, [0, 1, 2, 3]), (46, [0, 1, 2, 3]), (51, [0, 1, 2, 3])],
  [(42, 10, 5, 3), (49, 10, 6, 3), (103, 7, 3, 0), (205, 10, 10, 0)],
  [],
  [(257, 1, 2, g_X10_putFound), (260, 1, 3, g_X2_accepts), (264, 1, 3, g_X5_accepts)],
  [], 4, 1)
theorem one_X10_keepAccepted : ab_oneM m_X10_keepAccepted := List.forall_mem_cons.mpr ⟨o_X10_putFound, List.forall_mem_cons.mpr ⟨o_X2_accepts, List.forall_mem_cons.mpr ⟨o_X5_accepts, fun _ h => absurd h List.not_mem_nil⟩⟩⟩
noncomputable def f_X10_keepAccepted (l0 : Nat) (l1 : Nat) (l2 : Int32) (st : ab_S) : Option ab_R := ab_rc st l0 10 (ab_lim m_X10_keepAccepted 0 [.ref l0, .ref l1, .int l2] [] st)
noncomputable def L_X10_keepAccepted_7 (l0 : Nat) (l1 : Nat) (l2 : Int32) (l3 : Int32) (st : ab_S) : Option ab_R := ab_lim m_X10_keepAccepted 7 [.ref l0, .ref l1, .int l2, .int l3] [] st
noncomputable def L_X10_keepAccepted_46 (l0 : Nat) (l1 : Nat) (l2 : Int32) (l3 : Int32) (st : ab_S) : Option ab_R := ab_lim m_X10_keepAccepted 46 [.ref l0, .ref l1, .int l2, .int l3] [] st
noncomputable def L_X10_keepAccepted_51 (l0 : Nat) (l1 : Nat) (l2 : Int32) (l3 : Int32) (st : ab_S) : Option ab_R := ab_lim m_X10_keepAccepted 51 [.ref l0, .ref l1, .int l2, .int l3] [] st
noncomputable def g_X10_keepAccepted : ab_G := fun as st k => match as with
  | [.ref a0, .ref a1, .int a2] => ab_ri (f_X10_keepAccepted a0 a1 a2 st) (fun x t => k [.int x] t)
  | _ => none
theorem o_X10_keepAccepted : ab_one g_X10_keepAccepted := by
  intro as st k r h
  unfold g_X10_keepAccepted at h ⊢
  split at h
  · exact one_ri h
  · cases h
set_option maxRecDepth 100000 in
theorem e_X10_keepAccepted_0 (l0 : Nat) (l1 : Nat) (l2 : Int32) (st : ab_S) : f_X10_keepAccepted l0 l1 l2 st =
    ab_rc st l0 10 (
    Option.bind (ab_pI st l0 10 10 (0 : Int32)) fun s1 =>
    L_X10_keepAccepted_7 l0 l1 l2 (0 : Int32) s1) := congrArg (ab_rc st l0 10) ((lm_eq one_X10_keepAccepted 0 _ _ _).trans rfl)
set_option maxRecDepth 100000 in
theorem e_X10_keepAccepted_7 (l0 : Nat) (l1 : Nat) (l2 : Int32) (l3 : Int32) (st : ab_S) : L_X10_keepAccepted_7 l0 l1 l2 l3 st =
    Option.bind (ab_gI st l1 7 3) fun x1 =>
    if x1 ≤ l3
    then Option.bind (ab_gI st l0 10 10) fun x2 =>
      some (some (.int x2), st)
    else if l2 = 0
      then Option.bind (ab_gR st l0 10 5) fun x3 =>
        ab_ri (f_X5_accepts x3 l1 l3 st) fun x5 s4 =>
        if x5 = 0
        then L_X10_keepAccepted_51 l0 l1 l2 l3 s4
        else L_X10_keepAccepted_46 l0 l1 l2 l3 s4
      else Option.bind (ab_gR st l0 10 6) fun x6 =>
        ab_ri (f_X2_accepts x6 l1 l3 st) fun x8 s7 =>
        if x8 = 0
        then L_X10_keepAccepted_51 l0 l1 l2 l3 s7
        else L_X10_keepAccepted_46 l0 l1 l2 l3 s7 := (lm_eq one_X10_keepAccepted 7 _ _ _).trans rfl
set_option maxRecDepth 100000 in
theorem e_X10_keepAccepted_46 (l0 : Nat) (l1 : Nat) (l2 : Int32) (l3 : Int32) (st : ab_S) : L_X10_keepAccepted_46 l0 l1 l2 l3 st =
    ab_rv (f_X10_putFound l0 l3 st) fun s1 =>
    L_X10_keepAccepted_51 l0 l1 l2 l3 s1 := (lm_eq one_X10_keepAccepted 46 _ _ _).trans rfl
set_option maxRecDepth 100000 in
theorem e_X10_keepAccepted_51 (l0 : Nat) (l1 : Nat) (l2 : Int32) (l3 : Int32) (st : ab_S) : L_X10_keepAccepted_51 l0 l1 l2 l3 st =
    L_X10_keepAccepted_7 l0 l1 l2 (l3 + (1 : Int32)) st := (lm_eq one_X10_keepAccepted 51 _ _ _).trans rfl
def c_X10_meet : List (Nat × ab_I) := [(0, .iload_n 1, 1, .null, 1),
  (1, .invokestatic 95, 3, .null, 0),
  (4, .ifCond .eq (12), 3, .null, 16),
  (7, .iload_n 2, 1, .null, 2),
  (8, .ifCond .lt (8), 3, .null, 16),
  (11, .iload_n 2, 1, .null, 2),
  (12, .iconst 5, 1, (.int (5)), 0),
  (13, .if_icmp .lt (6), 3, .null, 19),
  (16, .bipush (-2), 2, (.int (-2)), 0),
  (18, .ireturn, 1, .null, 0),
  (19, .aload_n 0, 1, .null, 0),
  (20, .invokevirtual 91, 3, .null, 0),
  (23, .astore_n 3, 1, .null, 3),
  (24, .aload_n 0, 1, .null, 0),
  (25, .getfield 11, 3, .null, 0),
  (28, .iload_n 1, 1, .null, 1),
  (29, .aaload, 1, .null, 0),
  (30, .getfield 109, 3, .null, 0),
  (33, .ifCond .eq (6), 3, .null, 39),
  (36, .bipush (-4), 2, (.int (-4)), 0),
  (38, .ireturn, 1, .null, 0),
  (39, .aload_n 3, 1, .null, 3),
  (40, .getfield 85, 3, .null, 0),
  (43, .iload_n 2, 1, .null, 2),
  (44, .iconst 2, 1, (.int (2)), 0),
  (45, .if_icmp .ge (8), 3, .null, 53),
  (48, .bipush (24), 2, (.int (24)), 0),
  (50, .goto (5), 3, .null, 55),
  (53, .bipush (12), 2, (.int (12)), 0),
  (55, .if_icmp .le (6), 3, .null, 61),
  (58, .bipush (-6), 2, (.int (-6)), 0),
  (60, .ireturn, 1, .null, 0),
  (61, .iload_n 2, 1, .null, 2),
  (62, .iconst 1, 1, (.int (1)), 0),
  (63, .if_icmp .ne (26), 3, .null, 89),
  (66, .aload_n 0, 1, .null, 0),
  (67, .aload_n 0, 1, .null, 0),
  (68, .getfield 42, 3, .null, 0),
  (71, .aload_n 3, 1, .null, 3),
  (72, .invokevirtual 190, 3, .null, 0),
  (75, .putfield 69, 3, .null, 0),
  (78, .aload_n 0, 1, .null, 0),
  (79, .getfield 69, 3, .null, 0),
  (82, .iconst (-1), 1, (.int (-1)), 0),
  (83, .if_icmp .eq (33), 3, .null, 116),
  (86, .bipush (-7), 2, (.int (-7)), 0),
  (88, .ireturn, 1, .null, 0),
  (89, .iload_n 2, 1, .null, 2),
  (90, .iconst 2, 1, (.int (2)), 0),
  (91, .if_icmp .ge (14), 3, .null, 105),
  (94, .aload_n 0, 1, .null, 0),
  (95, .getfield 42, 3, .null, 0),
  (98, .aload_n 3, 1, .null, 3),
  (99, .invokevirtual 193, 3, .null, 0),
  (102, .goto (14), 3, .null, 116),
  (105, .aload_n 0, 1, .null, 0),
  (106, .getfield 49, 3, .null, 0),
  (109, .aload_n 3, 1, .null, 3),
  (110, .iload_n 2, 1, .null, 2),
  (111, .iconst 2, 1, (.int (2)), 0),
  (112, .isub, 1, .null, 0),
  (113, .invokevirtual 197, 3, .null, 0),
  (116, .aload_n 0, 1, .null, 0),
  (117, .aload_n 0, 1, .null, 0),
  (118, .getfield 11, 3, .null, 0),
  (121, .iload_n 1, 1, .null, 1),
  (122, .aaload, 1, .null, 0),
  (123, .getfield 99, 3, .null, 0),
  (126, .iload_n 2, 1, .null, 2),
  (127, .iconst 2, 1, (.int (2)), 0),
  (128, .if_icmp .lt (7), 3, .null, 135),
  (131, .iconst 1, 1, (.int (1)), 0),
  (132, .goto (4), 3, .null, 136),
  (135, .iconst 0, 1, (.int (0)), 0),
  (136, .invokevirtual 201, 3, .null, 0),
  (139, .ireturn, 1, .null, 0)]
noncomputable def m_X10_meet : ab_M := (c_X10_meet, [(0, [0, 1, 2]), (55, [0, 1, 2, 3]), (116, [0, 1, 2]), (136, [])],
  [(11, 10, 0, 3), (42, 10, 5, 3), (49, 10, 6, 3), (69, 10, 11, 0), (85, 6, 1, 0), (99, 0, 0, 3), (109, 0, 2, 1)],
  [],
  [(91, 1, 1, g_X10_takeCollected), (95, 0, 1, g_X10_isDictionary), (190, 1, 2, g_X5_readPattern), (193, 1, 2, g_X5_readWild), (197, 1, 3, g_X2_read), (201, 1, 3, g_X10_keepAccepted)],
  [], 4, 1)
theorem one_X10_meet : ab_oneM m_X10_meet := List.forall_mem_cons.mpr ⟨o_X10_takeCollected, List.forall_mem_cons.mpr ⟨o_X10_isDictionary, List.forall_mem_cons.mpr ⟨o_X5_readPattern, List.forall_mem_cons.mpr ⟨o_X5_readWild, List.forall_mem_cons.mpr ⟨o_X2_read, List.forall_mem_cons.mpr ⟨o_X10_keepAccepted, fun _ h => absurd h List.not_mem_nil⟩⟩⟩⟩⟩⟩
noncomputable def f_X10_meet (l0 : Nat) (l1 : Int32) (l2 : Int32) (st : ab_S) : Option ab_R := ab_rc st l0 10 (ab_lim m_X10_meet 0 [.ref l0, .int l1, .int l2] [] st)
noncomputable def L_X10_meet_55 (l0 : Nat) (l1 : Int32) (l2 : Int32) (l3 : Nat) (t0 : Int32) (t1 : Int32) (st : ab_S) : Option ab_R := ab_lim m_X10_meet 55 [.ref l0, .int l1, .int l2, .ref l3] [.int t1, .int t0] st
noncomputable def L_X10_meet_116 (l0 : Nat) (l1 : Int32) (l2 : Int32) (st : ab_S) : Option ab_R := ab_lim m_X10_meet 116 [.ref l0, .int l1, .int l2] [] st
noncomputable def L_X10_meet_136 (t0 : Nat) (t1 : Nat) (t2 : Int32) (st : ab_S) : Option ab_R := ab_lim m_X10_meet 136 [] [.int t2, .ref t1, .ref t0] st
noncomputable def g_X10_meet : ab_G := fun as st k => match as with
  | [.ref a0, .int a1, .int a2] => ab_ri (f_X10_meet a0 a1 a2 st) (fun x t => k [.int x] t)
  | _ => none
theorem o_X10_meet : ab_one g_X10_meet := by
  intro as st k r h
  unfold g_X10_meet at h ⊢
  split at h
  · exact one_ri h
  · cases h
set_option maxRecDepth 100000 in
theorem e_X10_meet_0 (l0 : Nat) (l1 : Int32) (l2 : Int32) (st : ab_S) : f_X10_meet l0 l1 l2 st =
    ab_rc st l0 10 (
    ab_ri (f_X10_isDictionary l1 st) fun x2 s1 =>
    if x2 = 0
    then some (some (.int (-2 : Int32)), s1)
    else if l2 < 0
      then some (some (.int (-2 : Int32)), s1)
      else if l2 < (5 : Int32)
        then ab_rr (f_X10_takeCollected l0 s1) fun x4 s3 =>
          Option.bind (ab_gR s3 l0 10 0) fun x5 =>
          Option.bind (ab_rR s3 x5 l1) fun x6 =>
          Option.bind (ab_gI s3 x6 0 2) fun x7 =>
          if x7 = 0
          then Option.bind (ab_gI s3 x4 6 1) fun x8 =>
            if (2 : Int32) ≤ l2
            then L_X10_meet_55 l0 l1 l2 x4 x8 (12 : Int32) s3
            else L_X10_meet_55 l0 l1 l2 x4 x8 (24 : Int32) s3
          else some (some (.int (-4 : Int32)), s3)
        else some (some (.int (-2 : Int32)), s1)) := congrArg (ab_rc st l0 10) ((lm_eq one_X10_meet 0 _ _ _).trans rfl)
set_option maxRecDepth 100000 in
theorem e_X10_meet_55 (l0 : Nat) (l1 : Int32) (l2 : Int32) (l3 : Nat) (t0 : Int32) (t1 : Int32) (st : ab_S) : L_X10_meet_55 l0 l1 l2 l3 t0 t1 st =
    if t0 ≤ t1
    then if l2 = (1 : Int32)
      then Option.bind (ab_gR st l0 10 5) fun x1 =>
        ab_ri (f_X5_readPattern x1 l3 st) fun x3 s2 =>
        Option.bind (ab_pI s2 l0 10 11 x3) fun s4 =>
        Option.bind (ab_gI s4 l0 10 11) fun x5 =>
        if x5 = (-1 : Int32)
        then L_X10_meet_116 l0 l1 l2 s4
        else some (some (.int (-7 : Int32)), s4)
      else if (2 : Int32) ≤ l2
        then Option.bind (ab_gR st l0 10 6) fun x6 =>
          ab_rv (f_X2_read x6 l3 (l2 - (2 : Int32)) st) fun s7 =>
          L_X10_meet_116 l0 l1 l2 s7
        else Option.bind (ab_gR st l0 10 5) fun x8 =>
          ab_rv (f_X5_readWild x8 l3 st) fun s9 =>
          L_X10_meet_116 l0 l1 l2 s9
    else some (some (.int (-6 : Int32)), st) := (lm_eq one_X10_meet 55 _ _ _).trans rfl
set_option maxRecDepth 100000 in
theorem e_X10_meet_116 (l0 : Nat) (l1 : Int32) (l2 : Int32) (st : ab_S) : L_X10_meet_116 l0 l1 l2 st =
    Option.bind (ab_gR st l0 10 0) fun x1 =>
    Option.bind (ab_rR st x1 l1) fun x2 =>
    Option.bind (ab_gR st x2 0 0) fun x3 =>
    if l2 < (2 : Int32)
    then L_X10_meet_136 l0 x3 (0 : Int32) st
    else L_X10_meet_136 l0 x3 (1 : Int32) st := (lm_eq one_X10_meet 116 _ _ _).trans rfl
set_option maxRecDepth 100000 in
theorem e_X10_meet_136 (t0 : Nat) (t1 : Nat) (t2 : Int32) (st : ab_S) : L_X10_meet_136 t0 t1 t2 st =
    ab_ri (f_X10_keepAccepted t0 t1 t2 st) fun x2 s1 =>
    some (some (.int x2), s1) := (lm_eq one_X10_meet 136 _ _ _).trans rfl
def c_X11_spot : List (Nat × ab_I) := [(0, .aload_n 0, 1, .null, 0),
  (1, .dup, 1, .null, 0),
  (2, .getfield 254, 3, .null, 0),
  (5, .iconst 1, 1, (.int (1)), 0),
  (6, .iadd, 1, .null, 0),
  (7, .putfield 254, 3, .null, 0),
  (10, .aload_n 0, 1, .null, 0),
  (11, .getfield 254, 3, .null, 0),
  (14, .iconst 1, 1, (.int (1)), 0),
  (15, .isub, 1, .null, 0),
  (16, .ireturn, 1, .null, 0)]
noncomputable def m_X11_spot : ab_M := (c_X11_spot, [(0, [0])],
  [(254, 11, 30, 0)],
  [],
  [],
  [], 1, 1)
theorem one_X11_spot : ab_oneM m_X11_spot := fun _ h => absurd h List.not_mem_nil
noncomputable def f_X11_spot (l0 : Nat) (st : ab_S) : Option ab_R := ab_rc st l0 11 (ab_lim m_X11_spot 0 [.ref l0] [] st)
noncomputable def g_X11_spot : ab_G := fun as st k => match as with
  | [.ref a0] => ab_ri (f_X11_spot a0 st) (fun x t => k [.int x] t)
  | _ => none
theorem o_X11_spot : ab_one g_X11_spot := by
  intro as st k r h
  unfold g_X11_spot at h ⊢
  split at h
  · exact one_ri h
  · cases h
set_option maxRecDepth 100000 in
theorem e_X11_spot_0 (l0 : Nat) (st : ab_S) : f_X11_spot l0 st =
    ab_rc st l0 11 (
    Option.bind (ab_gI st l0 11 30) fun x1 =>
    Option.bind (ab_pI st l0 11 30 (x1 + (1 : Int32))) fun s2 =>
    Option.bind (ab_gI s2 l0 11 30) fun x3 =>
    some (some (.int (x3 - (1 : Int32))), s2)) := congrArg (ab_rc st l0 11) ((lm_eq one_X11_spot 0 _ _ _).trans rfl)
def c_X11_step : List (Nat × ab_I) := [(0, .aload_n 0, 1, .null, 0),
  (1, .getfield 78, 3, .null, 0),
  (4, .aload_n 0, 1, .null, 0),
  (5, .getfield 251, 3, .null, 0),
  (8, .iload_n 1, 1, .null, 1),
  (9, .iastore, 1, .null, 0),
  (10, .aload_n 0, 1, .null, 0),
  (11, .getfield 81, 3, .null, 0),
  (14, .aload_n 0, 1, .null, 0),
  (15, .getfield 251, 3, .null, 0),
  (18, .iload_n 2, 1, .null, 2),
  (19, .iastore, 1, .null, 0),
  (20, .aload_n 0, 1, .null, 0),
  (21, .getfield 84, 3, .null, 0),
  (24, .aload_n 0, 1, .null, 0),
  (25, .getfield 251, 3, .null, 0),
  (28, .iload_n 3, 1, .null, 3),
  (29, .iastore, 1, .null, 0),
  (30, .aload_n 0, 1, .null, 0),
  (31, .dup, 1, .null, 0),
  (32, .getfield 251, 3, .null, 0),
  (35, .iconst 1, 1, (.int (1)), 0),
  (36, .iadd, 1, .null, 0),
  (37, .putfield 251, 3, .null, 0),
  (40, .return_, 1, .null, 0)]
noncomputable def m_X11_step : ab_M := (c_X11_step, [(0, [0, 1, 2, 3])],
  [(78, 11, 26, 3), (81, 11, 27, 3), (84, 11, 28, 3), (251, 11, 29, 0)],
  [],
  [],
  [], 4, 0)
theorem one_X11_step : ab_oneM m_X11_step := fun _ h => absurd h List.not_mem_nil
noncomputable def f_X11_step (l0 : Nat) (l1 : Int32) (l2 : Int32) (l3 : Int32) (st : ab_S) : Option ab_R := ab_rc st l0 11 (ab_lim m_X11_step 0 [.ref l0, .int l1, .int l2, .int l3] [] st)
noncomputable def g_X11_step : ab_G := fun as st k => match as with
  | [.ref a0, .int a1, .int a2, .int a3] => ab_rv (f_X11_step a0 a1 a2 a3 st) (fun t => k [] t)
  | _ => none
theorem o_X11_step : ab_one g_X11_step := by
  intro as st k r h
  unfold g_X11_step at h ⊢
  split at h
  · exact one_rv h
  · cases h
set_option maxRecDepth 100000 in
theorem e_X11_step_0 (l0 : Nat) (l1 : Int32) (l2 : Int32) (l3 : Int32) (st : ab_S) : f_X11_step l0 l1 l2 l3 st =
    ab_rc st l0 11 (
    Option.bind (ab_gR st l0 11 26) fun x1 =>
    Option.bind (ab_gI st l0 11 29) fun x2 =>
    Option.bind (ab_wI st x1 x2 l1) fun s3 =>
    Option.bind (ab_gR s3 l0 11 27) fun x4 =>
    Option.bind (ab_gI s3 l0 11 29) fun x5 =>
    Option.bind (ab_wI s3 x4 x5 l2) fun s6 =>
    Option.bind (ab_gR s6 l0 11 28) fun x7 =>
    Option.bind (ab_gI s6 l0 11 29) fun x8 =>
    Option.bind (ab_wI s6 x7 x8 l3) fun s9 =>
    Option.bind (ab_gI s9 l0 11 29) fun x10 =>
    Option.bind (ab_pI s9 l0 11 29 (x10 + (1 : Int32))) fun s11 =>
    some (none, s11)) := congrArg (ab_rc st l0 11) ((lm_eq one_X11_step 0 _ _ _).trans rfl)
def c_X11_openSequence : List (Nat × ab_I) := [(0, .aload_n 0, 1, .null, 0),
  (1, .getfield 96, 3, .null, 0),
  (4, .iload_n 1, 1, .null, 1),
  (5, .aload_n 0, 1, .null, 0),
  (6, .invokevirtual 266, 3, .null, 0),
  (9, .iastore, 1, .null, 0),
  (10, .aload_n 0, 1, .null, 0),
  (11, .aload_n 0, 1, .null, 0),
  (12, .getfield 90, 3, .null, 0),
  (15, .iload_n 1, 1, .null, 1),
  (16, .iaload, 1, .null, 0),
  (17, .aload_n 0, 1, .null, 0),
  (18, .getfield 96, 3, .null, 0),
  (21, .iload_n 1, 1, .null, 1),
  (22, .iaload, 1, .null, 0),
  (23, .iconst (-1), 1, (.int (-1)), 0),
  (24, .invokevirtual 272, 3, .null, 0),
  (27, .return_, 1, .null, 0)]
noncomputable def m_X11_openSequence : ab_M := (c_X11_openSequence, [(0, [0, 1])],
  [(90, 11, 37, 3), (96, 11, 39, 3)],
  [],
  [(266, 1, 1, g_X11_spot), (272, 1, 4, g_X11_step)],
  [], 2, 0)
theorem one_X11_openSequence : ab_oneM m_X11_openSequence := List.forall_mem_cons.mpr ⟨o_X11_spot, List.forall_mem_cons.mpr ⟨o_X11_step, fun _ h => absurd h List.not_mem_nil⟩⟩
noncomputable def f_X11_openSequence (l0 : Nat) (l1 : Int32) (st : ab_S) : Option ab_R := ab_rc st l0 11 (ab_lim m_X11_openSequence 0 [.ref l0, .int l1] [] st)
noncomputable def g_X11_openSequence : ab_G := fun as st k => match as with
  | [.ref a0, .int a1] => ab_rv (f_X11_openSequence a0 a1 st) (fun t => k [] t)
  | _ => none
theorem o_X11_openSequence : ab_one g_X11_openSequence := by
  intro as st k r h
  unfold g_X11_openSequence at h ⊢
  split at h
  · exact one_rv h
  · cases h
set_option maxRecDepth 100000 in
theorem e_X11_openSequence_0 (l0 : Nat) (l1 : Int32) (st : ab_S) : f_X11_openSequence l0 l1 st =
    ab_rc st l0 11 (
    Option.bind (ab_gR st l0 11 39) fun x1 =>
    ab_ri (f_X11_spot l0 st) fun x3 s2 =>
    Option.bind (ab_wI s2 x1 l1 x3) fun s4 =>
    Option.bind (ab_gR s4 l0 11 37) fun x5 =>
    Option.bind (ab_rI s4 x5 l1) fun x6 =>
    Option.bind (ab_gR s4 l0 11 39) fun x7 =>
    Option.bind (ab_rI s4 x7 l1) fun x8 =>
    ab_rv (f_X11_step l0 x6 x8 (-1 : Int32) s4) fun s9 =>
    some (none, s9)) := congrArg (ab_rc st l0 11) ((lm_eq one_X11_openSequence 0 _ _ _).trans rfl)
def c_X11_openAlt : List (Nat × ab_I) := [(0, .aload_n 0, 1, .null, 0),
  (1, .getfield 90, 3, .null, 0),
  (4, .iload_n 1, 1, .null, 1),
  (5, .iload_n 2, 1, .null, 2),
  (6, .iastore, 1, .null, 0),
  (7, .aload_n 0, 1, .null, 0),
  (8, .getfield 93, 3, .null, 0),
  (11, .iload_n 1, 1, .null, 1),
  (12, .aload_n 0, 1, .null, 0),
  (13, .invokevirtual 266, 3, .null, 0),
  (16, .iastore, 1, .null, 0),
  (17, .aload_n 0, 1, .null, 0),
  (18, .iload_n 1, 1, .null, 1),
  (19, .invokevirtual 269, 3, .null, 0),
  (22, .return_, 1, .null, 0)]
noncomputable def m_X11_openAlt : ab_M := (c_X11_openAlt, [(0, [0, 1, 2])],
  [(90, 11, 37, 3), (93, 11, 38, 3)],
  [],
  [(266, 1, 1, g_X11_spot), (269, 1, 2, g_X11_openSequence)],
  [], 3, 0)
theorem one_X11_openAlt : ab_oneM m_X11_openAlt := List.forall_mem_cons.mpr ⟨o_X11_spot, List.forall_mem_cons.mpr ⟨o_X11_openSequence, fun _ h => absurd h List.not_mem_nil⟩⟩
noncomputable def f_X11_openAlt (l0 : Nat) (l1 : Int32) (l2 : Int32) (st : ab_S) : Option ab_R := ab_rc st l0 11 (ab_lim m_X11_openAlt 0 [.ref l0, .int l1, .int l2] [] st)
noncomputable def g_X11_openAlt : ab_G := fun as st k => match as with
  | [.ref a0, .int a1, .int a2] => ab_rv (f_X11_openAlt a0 a1 a2 st) (fun t => k [] t)
  | _ => none
theorem o_X11_openAlt : ab_one g_X11_openAlt := by
  intro as st k r h
  unfold g_X11_openAlt at h ⊢
  split at h
  · exact one_rv h
  · cases h
set_option maxRecDepth 100000 in
theorem e_X11_openAlt_0 (l0 : Nat) (l1 : Int32) (l2 : Int32) (st : ab_S) : f_X11_openAlt l0 l1 l2 st =
    ab_rc st l0 11 (
    Option.bind (ab_gR st l0 11 37) fun x1 =>
    Option.bind (ab_wI st x1 l1 l2) fun s2 =>
    Option.bind (ab_gR s2 l0 11 38) fun x3 =>
    ab_ri (f_X11_spot l0 s2) fun x5 s4 =>
    Option.bind (ab_wI s4 x3 l1 x5) fun s6 =>
    ab_rv (f_X11_openSequence l0 l1 s6) fun s7 =>
    some (none, s7)) := congrArg (ab_rc st l0 11) ((lm_eq one_X11_openAlt 0 _ _ _).trans rfl)
def c_X11_here : List (Nat × ab_I) := [(0, .aload_n 0, 1, .null, 0),
  (1, .getfield 257, 3, .null, 0),
  (4, .aload_n 0, 1, .null, 0),
  (5, .getfield 260, 3, .null, 0),
  (8, .if_icmp .ge (19), 3, .null, 27),
  (11, .aload_n 0, 1, .null, 0),
  (12, .getfield 7, 3, .null, 0),
  (15, .aload_n 0, 1, .null, 0),
  (16, .getfield 257, 3, .null, 0),
  (19, .baload, 1, .null, 0),
  (20, .sipush (255), 3, (.int (255)), 0),
  (23, .iand, 1, .null, 0),
  (24, .goto (4), 3, .null, 28),
  (27, .iconst (-1), 1, (.int (-1)), 0),
  (28, .ireturn, 1, .null, 0)]
noncomputable def m_X11_here : ab_M := (c_X11_here, [(0, [0])],
  [(7, 11, 0, 3), (257, 11, 33, 0), (260, 11, 34, 0)],
  [],
  [],
  [], 1, 1)
theorem one_X11_here : ab_oneM m_X11_here := fun _ h => absurd h List.not_mem_nil
noncomputable def f_X11_here (l0 : Nat) (st : ab_S) : Option ab_R := ab_rc st l0 11 (ab_lim m_X11_here 0 [.ref l0] [] st)
noncomputable def g_X11_here : ab_G := fun as st k => match as with
  | [.ref a0] => ab_ri (f_X11_here a0 st) (fun x t => k [.int x] t)
  | _ => none
theorem o_X11_here : ab_one g_X11_here := by
  intro as st k r h
  unfold g_X11_here at h ⊢
  split at h
  · exact one_ri h
  · cases h
set_option maxRecDepth 100000 in
theorem e_X11_here_0 (l0 : Nat) (st : ab_S) : f_X11_here l0 st =
    ab_rc st l0 11 (
    Option.bind (ab_gI st l0 11 33) fun x1 =>
    Option.bind (ab_gI st l0 11 34) fun x2 =>
    if x2 ≤ x1
    then some (some (.int (-1 : Int32)), st)
    else Option.bind (ab_gR st l0 11 0) fun x3 =>
      Option.bind (ab_gI st l0 11 33) fun x4 =>
      Option.bind (ab_rB st x3 x4) fun x5 =>
      some (some (.int (x5 &&& (255 : Int32))), st)) := congrArg (ab_rc st l0 11) ((lm_eq one_X11_here 0 _ _ _).trans rfl)
def c_X11_fail : List (Nat × ab_I) := [(0, .aload_n 0, 1, .null, 0),
  (1, .aload_n 0, 1, .null, 0),
  (2, .getfield 263, 3, .null, 0),
  (5, .iconst (-1), 1, (.int (-1)), 0),
  (6, .if_icmp .ne (7), 3, .null, 13),
  (9, .iload_n 1, 1, .null, 1),
  (10, .goto (7), 3, .null, 17),
  (13, .aload_n 0, 1, .null, 0),
  (14, .getfield 263, 3, .null, 0),
  (17, .putfield 263, 3, .null, 0),
  (20, .return_, 1, .null, 0)]
noncomputable def m_X11_fail : ab_M := (c_X11_fail, [(0, [0, 1]), (17, [])],
  [(263, 11, 35, 0)],
  [],
  [],
  [], 2, 0)
theorem one_X11_fail : ab_oneM m_X11_fail := fun _ h => absurd h List.not_mem_nil
noncomputable def f_X11_fail (l0 : Nat) (l1 : Int32) (st : ab_S) : Option ab_R := ab_rc st l0 11 (ab_lim m_X11_fail 0 [.ref l0, .int l1] [] st)
noncomputable def L_X11_fail_17 (t0 : Nat) (t1 : Int32) (st : ab_S) : Option ab_R := ab_lim m_X11_fail 17 [] [.int t1, .ref t0] st
noncomputable def g_X11_fail : ab_G := fun as st k => match as with
  | [.ref a0, .int a1] => ab_rv (f_X11_fail a0 a1 st) (fun t => k [] t)
  | _ => none
theorem o_X11_fail : ab_one g_X11_fail := by
  intro as st k r h
  unfold g_X11_fail at h ⊢
  split at h
  · exact one_rv h
  · cases h
set_option maxRecDepth 100000 in
theorem e_X11_fail_0 (l0 : Nat) (l1 : Int32) (st : ab_S) : f_X11_fail l0 l1 st =
    ab_rc st l0 11 (
    Option.bind (ab_gI st l0 11 35) fun x1 =>
    if x1 = (-1 : Int32)
    then L_X11_fail_17 l0 l1 st
    else Option.bind (ab_gI st l0 11 35) fun x2 =>
      L_X11_fail_17 l0 x2 st) := congrArg (ab_rc st l0 11) ((lm_eq one_X11_fail 0 _ _ _).trans rfl)
set_option maxRecDepth 100000 in
theorem e_X11_fail_17 (t0 : Nat) (t1 : Int32) (st : ab_S) : L_X11_fail_17 t0 t1 st =
    Option.bind (ab_pI st t0 11 35 t1) fun s1 =>
    some (none, s1) := (lm_eq one_X11_fail 17 _ _ _).trans rfl
def c_X11_closePiece : List (Nat × ab_I) := [(0, .aload_n 0, 1, .null, 0),
  (1, .invokevirtual 276, 3, .null, 0),
  (4, .istore 4, 2, .null, 4),
  (6, .iload 4, 2, .null, 4),
  (8, .bipush (42), 2, (.int (42)), 0),
  (10, .if_icmp .eq (17), 3, .null, 27),
  (13, .iload 4, 2, .null, 4),
  (15, .bipush (43), 2, (.int (43)), 0),
  (17, .if_icmp .eq (10), 3, .null, 27),
  (20, .iload 4, 2, .null, 4),
  (22, .bipush (63), 2, (.int (63)), 0),
  (24, .if_icmp .ne (41), 3, .null, 65),
  (27, .aload_n 0, 1, .null, 0),
  (28, .dup, 1, .null, 0),
  (29, .getfield 257, 3, .null, 0),
  (32, .iconst 1, 1, (.int (1)), 0),
  (33, .iadd, 1, .null, 0),
  (34, .putfield 257, 3, .null, 0),
  (37, .iload 4, 2, .null, 4),
  (39, .bipush (63), 2, (.int (63)), 0),
  (41, .if_icmp .eq (10), 3, .null, 51),
  (44, .aload_n 0, 1, .null, 0),
  (45, .iload_n 3, 1, .null, 3),
  (46, .iload_n 2, 1, .null, 2),
  (47, .iconst (-1), 1, (.int (-1)), 0),
  (48, .invokevirtual 272, 3, .null, 0),
  (51, .iload 4, 2, .null, 4),
  (53, .bipush (43), 2, (.int (43)), 0),
  (55, .if_icmp .eq (10), 3, .null, 65),
  (58, .aload_n 0, 1, .null, 0),
  (59, .iload_n 2, 1, .null, 2),
  (60, .iload_n 3, 1, .null, 3),
  (61, .iconst (-1), 1, (.int (-1)), 0),
  (62, .invokevirtual 272, 3, .null, 0),
  (65, .aload_n 0, 1, .null, 0),
  (66, .getfield 96, 3, .null, 0),
  (69, .iload_n 1, 1, .null, 1),
  (70, .aload_n 0, 1, .null, 0),
  (71, .invokevirtual 266, 3, .null, 0),
  (74, .iastore, 1, .null, 0),
  (75, .aload_n 0, 1, .null, 0),
  (76, .iload_n 3, 1, .null, 3),
  (77, .aload_n 0, 1, .null, 0),
  (78, .getfield 96, 3, .null, 0),
  (81, .iload_n 1, 1, .null, 1),
  (82, .iaload, 1, .null, 0),
  (83, .iconst (-1), 1, (.int (-1)), 0),
  (84, .invokevirtual 272, 3, .null, 0),
  (87, .return_, 1, .null, 0)]
noncomputable def m_X11_closePiece : ab_M := (c_X11_closePiece, [(0, [0, 1, 2, 3]), (27, [0, 1, 2, 3, 4]), (51, [0, 1, 2, 3, 4]), (65, [0, 1, 3])],
  [(96, 11, 39, 3), (257, 11, 33, 0)],
  [],
  [(266, 1, 1, g_X11_spot), (272, 1, 4, g_X11_step), (276, 1, 1, g_X11_here)],
  [], 5, 0)
theorem one_X11_closePiece : ab_oneM m_X11_closePiece := List.forall_mem_cons.mpr ⟨o_X11_spot, List.forall_mem_cons.mpr ⟨o_X11_step, List.forall_mem_cons.mpr ⟨o_X11_here, fun _ h => absurd h List.not_mem_nil⟩⟩⟩
noncomputable def f_X11_closePiece (l0 : Nat) (l1 : Int32) (l2 : Int32) (l3 : Int32) (st : ab_S) : Option ab_R := ab_rc st l0 11 (ab_lim m_X11_closePiece 0 [.ref l0, .int l1, .int l2, .int l3] [] st)
noncomputable def L_X11_closePiece_27 (l0 : Nat) (l1 : Int32) (l2 : Int32) (l3 : Int32) (l4 : Int32) (st : ab_S) : Option ab_R := ab_lim m_X11_closePiece 27 [.ref l0, .int l1, .int l2, .int l3, .int l4] [] st
noncomputable def L_X11_closePiece_51 (l0 : Nat) (l1 : Int32) (l2 : Int32) (l3 : Int32) (l4 : Int32) (st : ab_S) : Option ab_R := ab_lim m_X11_closePiece 51 [.ref l0, .int l1, .int l2, .int l3, .int l4] [] st
noncomputable def L_X11_closePiece_65 (l0 : Nat) (l1 : Int32) (l3 : Int32) (st : ab_S) : Option ab_R := ab_lim m_X11_closePiece 65 [.ref l0, .int l1, .int l3] [] st
noncomputable def g_X11_closePiece : ab_G := fun as st k => match as with
  | [.ref a0, .int a1, .int a2, .int a3] => ab_rv (f_X11_closePiece a0 a1 a2 a3 st) (fun t => k [] t)
  | _ => none
theorem o_X11_closePiece : ab_one g_X11_closePiece := by
  intro as st k r h
  unfold g_X11_closePiece at h ⊢
  split at h
  · exact one_rv h
  · cases h
set_option maxRecDepth 100000 in
theorem e_X11_closePiece_0 (l0 : Nat) (l1 : Int32) (l2 : Int32) (l3 : Int32) (st : ab_S) : f_X11_closePiece l0 l1 l2 l3 st =
    ab_rc st l0 11 (
    ab_ri (f_X11_here l0 st) fun x2 s1 =>
    if x2 = (42 : Int32)
    then L_X11_closePiece_27 l0 l1 l2 l3 x2 s1
    else if x2 = (43 : Int32)
      then L_X11_closePiece_27 l0 l1 l2 l3 x2 s1
      else if x2 = (63 : Int32)
        then L_X11_closePiece_27 l0 l1 l2 l3 x2 s1
        else L_X11_closePiece_65 l0 l1 l3 s1) := congrArg (ab_rc st l0 11) ((lm_eq one_X11_closePiece 0 _ _ _).trans rfl)
set_option maxRecDepth 100000 in
theorem e_X11_closePiece_27 (l0 : Nat) (l1 : Int32) (l2 : Int32) (l3 : Int32) (l4 : Int32) (st : ab_S) : L_X11_closePiece_27 l0 l1 l2 l3 l4 st =
    Option.bind (ab_gI st l0 11 33) fun x1 =>
    Option.bind (ab_pI st l0 11 33 (x1 + (1 : Int32))) fun s2 =>
    if l4 = (63 : Int32)
    then L_X11_closePiece_51 l0 l1 l2 l3 l4 s2
    else ab_rv (f_X11_step l0 l3 l2 (-1 : Int32) s2) fun s3 =>
      L_X11_closePiece_51 l0 l1 l2 l3 l4 s3 := (lm_eq one_X11_closePiece 27 _ _ _).trans rfl
set_option maxRecDepth 100000 in
theorem e_X11_closePiece_51 (l0 : Nat) (l1 : Int32) (l2 : Int32) (l3 : Int32) (l4 : Int32) (st : ab_S) : L_X11_closePiece_51 l0 l1 l2 l3 l4 st =
    if l4 = (43 : Int32)
    then L_X11_closePiece_65 l0 l1 l3 st
    else ab_rv (f_X11_step l0 l2 l3 (-1 : Int32) st) fun s1 =>
      L_X11_closePiece_65 l0 l1 l3 s1 := (lm_eq one_X11_closePiece 51 _ _ _).trans rfl
set_option maxRecDepth 100000 in
theorem e_X11_closePiece_65 (l0 : Nat) (l1 : Int32) (l3 : Int32) (st : ab_S) : L_X11_closePiece_65 l0 l1 l3 st =
    Option.bind (ab_gR st l0 11 39) fun x1 =>
    ab_ri (f_X11_spot l0 st) fun x3 s2 =>
    Option.bind (ab_wI s2 x1 l1 x3) fun s4 =>
    Option.bind (ab_gR s4 l0 11 39) fun x5 =>
    Option.bind (ab_rI s4 x5 l1) fun x6 =>
    ab_rv (f_X11_step l0 l3 x6 (-1 : Int32) s4) fun s7 =>
    some (none, s7) := (lm_eq one_X11_closePiece 65 _ _ _).trans rfl
def c_X11_fill : List (Nat × ab_I) := [(0, .iload_n 1, 1, .null, 1),
  (1, .istore_n 3, 1, .null, 3),
  (2, .iload_n 3, 1, .null, 3),
  (3, .iload_n 2, 1, .null, 2),
  (4, .if_icmp .gt (25), 3, .null, 29),
  (7, .aload_n 0, 1, .null, 0),
  (8, .getfield 87, 3, .null, 0),
  (11, .sipush (256), 3, (.int (256)), 0),
  (14, .aload_n 0, 1, .null, 0),
  (15, .getfield 295, 3, .null, 0),
  (18, .imul, 1, .null, 0),
  (19, .iload_n 3, 1, .null, 3),
  (20, .iadd, 1, .null, 0),
  (21, .iconst 1, 1, (.int (1)), 0),
  (22, .bastore, 1, .null, 0),
  (23, .iinc 3 (1), 3, (.int (1)), 3),
  (26, .goto (-24), 3, .null, 2),
  (29, .return_, 1, .null, 0)]
noncomputable def m_X11_fill : ab_M := (c_X11_fill, [(0, [0, 1, 2]), (2, [0, 2, 3])],
  [(87, 11, 31, 3), (295, 11, 32, 0)],
  [],
  [],
  [], 4, 0)
theorem one_X11_fill : ab_oneM m_X11_fill := fun _ h => absurd h List.not_mem_nil
noncomputable def f_X11_fill (l0 : Nat) (l1 : Int32) (l2 : Int32) (st : ab_S) : Option ab_R := ab_rc st l0 11 (ab_lim m_X11_fill 0 [.ref l0, .int l1, .int l2] [] st)
noncomputable def L_X11_fill_2 (l0 : Nat) (l2 : Int32) (l3 : Int32) (st : ab_S) : Option ab_R := ab_lim m_X11_fill 2 [.ref l0, .int l2, .int l3] [] st
noncomputable def g_X11_fill : ab_G := fun as st k => match as with
  | [.ref a0, .int a1, .int a2] => ab_rv (f_X11_fill a0 a1 a2 st) (fun t => k [] t)
  | _ => none
theorem o_X11_fill : ab_one g_X11_fill := by
  intro as st k r h
  unfold g_X11_fill at h ⊢
  split at h
  · exact one_rv h
  · cases h
set_option maxRecDepth 100000 in
theorem e_X11_fill_0 (l0 : Nat) (l1 : Int32) (l2 : Int32) (st : ab_S) : f_X11_fill l0 l1 l2 st =
    ab_rc st l0 11 (
    L_X11_fill_2 l0 l2 l1 st) := congrArg (ab_rc st l0 11) ((lm_eq one_X11_fill 0 _ _ _).trans rfl)
set_option maxRecDepth 100000 in
theorem e_X11_fill_2 (l0 : Nat) (l2 : Int32) (l3 : Int32) (st : ab_S) : L_X11_fill_2 l0 l2 l3 st =
    if l2 < l3
    then some (none, st)
    else Option.bind (ab_gR st l0 11 31) fun x1 =>
      Option.bind (ab_gI st l0 11 32) fun x2 =>
      Option.bind (ab_wB st x1 (((256 : Int32) * x2) + l3) (1 : Int32)) fun s3 =>
      L_X11_fill_2 l0 l2 (l3 + (1 : Int32)) s3 := (lm_eq one_X11_fill 2 _ _ _).trans rfl
def c_X11_oneOf : List (Nat × ab_I) := [(0, .aload_n 0, 1, .null, 0),
  (1, .invokevirtual 266, 3, .null, 0),
  (4, .istore_n 2, 1, .null, 2),
  (5, .aload_n 0, 1, .null, 0),
  (6, .iload_n 1, 1, .null, 1),
  (7, .iload_n 2, 1, .null, 2),
  (8, .aload_n 0, 1, .null, 0),
  (9, .getfield 295, 3, .null, 0),
  (12, .invokevirtual 272, 3, .null, 0),
  (15, .aload_n 0, 1, .null, 0),
  (16, .dup, 1, .null, 0),
  (17, .getfield 295, 3, .null, 0),
  (20, .iconst 1, 1, (.int (1)), 0),
  (21, .iadd, 1, .null, 0),
  (22, .putfield 295, 3, .null, 0),
  (25, .iload_n 2, 1, .null, 2),
  (26, .ireturn, 1, .null, 0)]
noncomputable def m_X11_oneOf : ab_M := (c_X11_oneOf, [(0, [0, 1])],
  [(295, 11, 32, 0)],
  [],
  [(266, 1, 1, g_X11_spot), (272, 1, 4, g_X11_step)],
  [], 3, 1)
theorem one_X11_oneOf : ab_oneM m_X11_oneOf := List.forall_mem_cons.mpr ⟨o_X11_spot, List.forall_mem_cons.mpr ⟨o_X11_step, fun _ h => absurd h List.not_mem_nil⟩⟩
noncomputable def f_X11_oneOf (l0 : Nat) (l1 : Int32) (st : ab_S) : Option ab_R := ab_rc st l0 11 (ab_lim m_X11_oneOf 0 [.ref l0, .int l1] [] st)
noncomputable def g_X11_oneOf : ab_G := fun as st k => match as with
  | [.ref a0, .int a1] => ab_ri (f_X11_oneOf a0 a1 st) (fun x t => k [.int x] t)
  | _ => none
theorem o_X11_oneOf : ab_one g_X11_oneOf := by
  intro as st k r h
  unfold g_X11_oneOf at h ⊢
  split at h
  · exact one_ri h
  · cases h
set_option maxRecDepth 100000 in
theorem e_X11_oneOf_0 (l0 : Nat) (l1 : Int32) (st : ab_S) : f_X11_oneOf l0 l1 st =
    ab_rc st l0 11 (
    ab_ri (f_X11_spot l0 st) fun x2 s1 =>
    Option.bind (ab_gI s1 l0 11 32) fun x3 =>
    ab_rv (f_X11_step l0 l1 x2 x3 s1) fun s4 =>
    Option.bind (ab_gI s4 l0 11 32) fun x5 =>
    Option.bind (ab_pI s4 l0 11 32 (x5 + (1 : Int32))) fun s6 =>
    some (some (.int x2), s6)) := congrArg (ab_rc st l0 11) ((lm_eq one_X11_oneOf 0 _ _ _).trans rfl)
def c_X11_setSign : List (Nat × ab_I) := [(0, .aload_n 0, 1, .null, 0),
  (1, .invokevirtual 276, 3, .null, 0),
  (4, .bipush (92), 2, (.int (92)), 0),
  (6, .if_icmp .ne (13), 3, .null, 19),
  (9, .aload_n 0, 1, .null, 0),
  (10, .dup, 1, .null, 0),
  (11, .getfield 257, 3, .null, 0),
  (14, .iconst 1, 1, (.int (1)), 0),
  (15, .iadd, 1, .null, 0),
  (16, .putfield 257, 3, .null, 0),
  (19, .aload_n 0, 1, .null, 0),
  (20, .getfield 257, 3, .null, 0),
  (23, .aload_n 0, 1, .null, 0),
  (24, .getfield 260, 3, .null, 0),
  (27, .if_icmp .ne (13), 3, .null, 40),
  (30, .aload_n 0, 1, .null, 0),
  (31, .aload_n 0, 1, .null, 0),
  (32, .getfield 260, 3, .null, 0),
  (35, .invokevirtual 282, 3, .null, 0),
  (38, .iconst 0, 1, (.int (0)), 0),
  (39, .ireturn, 1, .null, 0),
  (40, .aload_n 0, 1, .null, 0),
  (41, .invokevirtual 276, 3, .null, 0),
  (44, .istore_n 1, 1, .null, 1),
  (45, .aload_n 0, 1, .null, 0),
  (46, .dup, 1, .null, 0),
  (47, .getfield 257, 3, .null, 0),
  (50, .iconst 1, 1, (.int (1)), 0),
  (51, .iadd, 1, .null, 0),
  (52, .putfield 257, 3, .null, 0),
  (55, .iload_n 1, 1, .null, 1),
  (56, .ireturn, 1, .null, 0)]
noncomputable def m_X11_setSign : ab_M := (c_X11_setSign, [(0, [0]), (19, [0])],
  [(257, 11, 33, 0), (260, 11, 34, 0)],
  [],
  [(276, 1, 1, g_X11_here), (282, 1, 2, g_X11_fail)],
  [], 2, 1)
theorem one_X11_setSign : ab_oneM m_X11_setSign := List.forall_mem_cons.mpr ⟨o_X11_here, List.forall_mem_cons.mpr ⟨o_X11_fail, fun _ h => absurd h List.not_mem_nil⟩⟩
noncomputable def f_X11_setSign (l0 : Nat) (st : ab_S) : Option ab_R := ab_rc st l0 11 (ab_lim m_X11_setSign 0 [.ref l0] [] st)
noncomputable def L_X11_setSign_19 (l0 : Nat) (st : ab_S) : Option ab_R := ab_lim m_X11_setSign 19 [.ref l0] [] st
noncomputable def g_X11_setSign : ab_G := fun as st k => match as with
  | [.ref a0] => ab_ri (f_X11_setSign a0 st) (fun x t => k [.int x] t)
  | _ => none
theorem o_X11_setSign : ab_one g_X11_setSign := by
  intro as st k r h
  unfold g_X11_setSign at h ⊢
  split at h
  · exact one_ri h
  · cases h
set_option maxRecDepth 100000 in
theorem e_X11_setSign_0 (l0 : Nat) (st : ab_S) : f_X11_setSign l0 st =
    ab_rc st l0 11 (
    ab_ri (f_X11_here l0 st) fun x2 s1 =>
    if x2 = (92 : Int32)
    then Option.bind (ab_gI s1 l0 11 33) fun x3 =>
      Option.bind (ab_pI s1 l0 11 33 (x3 + (1 : Int32))) fun s4 =>
      L_X11_setSign_19 l0 s4
    else L_X11_setSign_19 l0 s1) := congrArg (ab_rc st l0 11) ((lm_eq one_X11_setSign 0 _ _ _).trans rfl)
set_option maxRecDepth 100000 in
theorem e_X11_setSign_19 (l0 : Nat) (st : ab_S) : L_X11_setSign_19 l0 st =
    Option.bind (ab_gI st l0 11 33) fun x1 =>
    Option.bind (ab_gI st l0 11 34) fun x2 =>
    if x1 = x2
    then Option.bind (ab_gI st l0 11 34) fun x3 =>
      ab_rv (f_X11_fail l0 x3 st) fun s4 =>
      some (some (.int (0 : Int32)), s4)
    else ab_ri (f_X11_here l0 st) fun x6 s5 =>
      Option.bind (ab_gI s5 l0 11 33) fun x7 =>
      Option.bind (ab_pI s5 l0 11 33 (x7 + (1 : Int32))) fun s8 =>
      some (some (.int x6), s8) := (lm_eq one_X11_setSign 19 _ _ _).trans rfl
def c_X11_parseSet : List (Nat × ab_I) := [(0, .aload_n 0, 1, .null, 0),
  (1, .invokevirtual 276, 3, .null, 0),
  (4, .bipush (94), 2, (.int (94)), 0),
  (6, .if_icmp .ne (7), 3, .null, 13),
  (9, .iconst 1, 1, (.int (1)), 0),
  (10, .goto (4), 3, .null, 14),
  (13, .iconst 0, 1, (.int (0)), 0),
  (14, .istore_n 1, 1, .null, 1),
  (15, .aload_n 0, 1, .null, 0),
  (16, .dup, 1, .null, 0),
  (17, .getfield 257, 3, .null, 0),
  (20, .iload_n 1, 1, .null, 1),
  (21, .ifCond .eq (7), 3, .null, 28),
  (24, .iconst 1, 1, (.int (1)), 0),
  (25, .goto (4), 3, .null, 29),
  (28, .iconst 0, 1, (.int (0)), 0),
  (29, .iadd, 1, .null, 0),
  (30, .putfield 257, 3, .null, 0),
  (33, .aload_n 0, 1, .null, 0),
  (34, .invokevirtual 276, 3, .null, 0),
  (37, .bipush (93), 2, (.int (93)), 0),
  (39, .if_icmp .ne (12), 3, .null, 51),
  (42, .aload_n 0, 1, .null, 0),
  (43, .aload_n 0, 1, .null, 0),
  (44, .getfield 257, 3, .null, 0),
  (47, .invokevirtual 282, 3, .null, 0),
  (50, .return_, 1, .null, 0),
  (51, .aload_n 0, 1, .null, 0),
  (52, .getfield 263, 3, .null, 0),
  (55, .iconst (-1), 1, (.int (-1)), 0),
  (56, .if_icmp .ne (120), 3, .null, 176),
  (59, .aload_n 0, 1, .null, 0),
  (60, .invokevirtual 276, 3, .null, 0),
  (63, .bipush (93), 2, (.int (93)), 0),
  (65, .if_icmp .eq (111), 3, .null, 176),
  (68, .aload_n 0, 1, .null, 0),
  (69, .invokevirtual 307, 3, .null, 0),
  (72, .istore_n 2, 1, .null, 2),
  (73, .iload_n 2, 1, .null, 2),
  (74, .istore_n 3, 1, .null, 3),
  (75, .aload_n 0, 1, .null, 0),
  (76, .getfield 263, 3, .null, 0),
  (79, .iconst (-1), 1, (.int (-1)), 0),
  (80, .if_icmp .ne (79), 3, .null, 159),
  (83, .aload_n 0, 1, .null, 0),
  (84, .invokevirtual 276, 3, .null, 0),
  (87, .bipush (45), 2, (.int (45)), 0),
  (89, .if_icmp .ne (70), 3, .null, 159),
  (92, .aload_n 0, 1, .null, 0),
  (93, .getfield 257, 3, .null, 0),
  (96, .iconst 1, 1, (.int (1)), 0),
  (97, .iadd, 1, .null, 0),
  (98, .aload_n 0, 1, .null, 0),
  (99, .getfield 260, 3, .null, 0),
  (102, .if_icmp .ge (19), 3, .null, 121),
  (105, .aload_n 0, 1, .null, 0),
  (106, .getfield 7, 3, .null, 0),
  (109, .aload_n 0, 1, .null, 0),
  (110, .getfield 257, 3, .null, 0),
  (113, .iconst 1, 1, (.int (1)), 0),
  (114, .iadd, 1, .null, 0),
  (115, .baload, 1, .null, 0),
  (116, .bipush (93), 2, (.int (93)), 0),
  (118, .if_icmp .eq (41), 3, .null, 159),
  (121, .aload_n 0, 1, .null, 0),
  (122, .dup, 1, .null, 0),
  (123, .getfield 257, 3, .null, 0),
  (126, .iconst 1, 1, (.int (1)), 0),
  (127, .iadd, 1, .null, 0),
  (128, .putfield 257, 3, .null, 0),
  (131, .aload_n 0, 1, .null, 0),
  (132, .invokevirtual 307, 3, .null, 0),
  (135, .istore_n 3, 1, .null, 3),
  (136, .aload_n 0, 1, .null, 0),
  (137, .getfield 263, 3, .null, 0),
  (140, .iconst (-1), 1, (.int (-1)), 0),
  (141, .if_icmp .ne (18), 3, .null, 159),
  (144, .iload_n 3, 1, .null, 3),
  (145, .iload_n 2, 1, .null, 2),
  (146, .if_icmp .ge (13), 3, .null, 159),
  (149, .aload_n 0, 1, .null, 0),
  (150, .aload_n 0, 1, .null, 0),
  (151, .getfield 257, 3, .null, 0),
  (154, .iconst 1, 1, (.int (1)), 0),
  (155, .isub, 1, .null, 0),
  (156, .invokevirtual 282, 3, .null, 0),
  (159, .aload_n 0, 1, .null, 0),
  (160, .getfield 263, 3, .null, 0),
  (163, .iconst (-1), 1, (.int (-1)), 0),
  (164, .if_icmp .ne (9), 3, .null, 173),
  (167, .aload_n 0, 1, .null, 0),
  (168, .iload_n 2, 1, .null, 2),
  (169, .iload_n 3, 1, .null, 3),
  (170, .invokevirtual 298, 3, .null, 0),
  (173, .goto (-122), 3, .null, 51),
  (176, .aload_n 0, 1, .null, 0),
  (177, .getfield 263, 3, .null, 0),
  (180, .iconst (-1), 1, (.int (-1)), 0),
  (181, .if_icmp .ne (70), 3, .null, 251),
  (184, .aload_n 0, 1, .null, 0),
  (185, .dup, 1, .null, 0),
  (186, .getfield 257, 3, .null, 0),
  (189, .iconst 1, 1, (.int (1)), 0),
  (190, .iadd, 1, .null, 0),
  (191, .putfield 257, 3, .null, 0),
  (194, .iconst 0, 1, (.int (0)), 0),
  (195, .istore_n 2, 1, .null, 2),
  (196, .iload_n 2, 1, .null, 2),
  (197, .sipush (256), 3, (.int (256)), 0),
  (200, .if_icmp .ge (51), 3, .null, 251),
  (203, .iload_n 1, 1, .null, 1),
  (204, .ifCond .eq (47), 3, .null, 251),
  (207, .aload_n 0, 1, .null, 0),
  (208, .getfield 87, 3, .null, 0),
  (211, .sipush (256), 3, (.int (256)), 0),
  (214, .aload_n 0, 1, .null, 0),
  (215, .getfield 295, 3, .null, 0),
  (218, .imul, 1, .null, 0),
  (219, .iload_n 2, 1, .null, 2),
  (220, .iadd, 1, .null, 0),
  (221, .aload_n 0, 1, .null, 0),
  (222, .getfield 87, 3, .null, 0),
  (225, .sipush (256), 3, (.int (256)), 0),
  (228, .aload_n 0, 1, .null, 0),
  (229, .getfield 295, 3, .null, 0),
  (232, .imul, 1, .null, 0),
  (233, .iload_n 2, 1, .null, 2),
  (234, .iadd, 1, .null, 0),
  (235, .baload, 1, .null, 0),
  (236, .ifCond .ne (7), 3, .null, 243),
  (239, .iconst 1, 1, (.int (1)), 0),
  (240, .goto (4), 3, .null, 244),
  (243, .iconst 0, 1, (.int (0)), 0),
  (244, .bastore, 1, .null, 0),
  (245, .iinc 2 (1), 3, (.int (1)), 2),
  (248, .goto (-52), 3, .null, 196),
  (251, .return_, 1, .null, 0)]
noncomputable def m_X11_parseSet : ab_M := (c_X11_parseSet, [(0, [0]), (14, [0]), (29, [0, 1]), (51, [0, 1]), (121, [0, 1, 2]), (159, [0, 1, 2, 3]), (173, [0, 1]), (176, [0, 1]), (196, [0, 1, 2]), (244, [0, 1, 2])],
  [(7, 11, 0, 3), (87, 11, 31, 3), (257, 11, 33, 0), (260, 11, 34, 0), (263, 11, 35, 0), (295, 11, 32, 0)],
  [],
  [(276, 1, 1, g_X11_here), (282, 1, 2, g_X11_fail), (298, 1, 3, g_X11_fill), (307, 1, 1, g_X11_setSign)],
  [], 4, 0)
theorem one_X11_parseSet : ab_oneM m_X11_parseSet := List.forall_mem_cons.mpr ⟨o_X11_here, List.forall_mem_cons.mpr ⟨o_X11_fail, List.forall_mem_cons.mpr ⟨o_X11_fill, List.forall_mem_cons.mpr ⟨o_X11_setSign, fun _ h => absurd h List.not_mem_nil⟩⟩⟩⟩
noncomputable def f_X11_parseSet (l0 : Nat) (st : ab_S) : Option ab_R := ab_rc st l0 11 (ab_lim m_X11_parseSet 0 [.ref l0] [] st)
noncomputable def L_X11_parseSet_14 (l0 : Nat) (t0 : Int32) (st : ab_S) : Option ab_R := ab_lim m_X11_parseSet 14 [.ref l0] [.int t0] st
noncomputable def L_X11_parseSet_29 (l0 : Nat) (l1 : Int32) (t0 : Nat) (t1 : Int32) (t2 : Int32) (st : ab_S) : Option ab_R := ab_lim m_X11_parseSet 29 [.ref l0, .int l1] [.int t2, .int t1, .ref t0] st
noncomputable def L_X11_parseSet_51 (l0 : Nat) (l1 : Int32) (st : ab_S) : Option ab_R := ab_lim m_X11_parseSet 51 [.ref l0, .int l1] [] st
noncomputable def L_X11_parseSet_121 (l0 : Nat) (l1 : Int32) (l2 : Int32) (st : ab_S) : Option ab_R := ab_lim m_X11_parseSet 121 [.ref l0, .int l1, .int l2] [] st
noncomputable def L_X11_parseSet_159 (l0 : Nat) (l1 : Int32) (l2 : Int32) (l3 : Int32) (st : ab_S) : Option ab_R := ab_lim m_X11_parseSet 159 [.ref l0, .int l1, .int l2, .int l3] [] st
noncomputable def L_X11_parseSet_173 (l0 : Nat) (l1 : Int32) (st : ab_S) : Option ab_R := ab_lim m_X11_parseSet 173 [.ref l0, .int l1] [] st
noncomputable def L_X11_parseSet_176 (l0 : Nat) (l1 : Int32) (st : ab_S) : Option ab_R := ab_lim m_X11_parseSet 176 [.ref l0, .int l1] [] st
noncomputable def L_X11_parseSet_196 (l0 : Nat) (l1 : Int32) (l2 : Int32) (st : ab_S) : Option ab_R := ab_lim m_X11_parseSet 196 [.ref l0, .int l1, .int l2] [] st
noncomputable def L_X11_parseSet_244 (l0 : Nat) (l1 : Int32) (l2 : Int32) (t0 : Nat) (t1 : Int32) (t2 : Int32) (st : ab_S) : Option ab_R := ab_lim m_X11_parseSet 244 [.ref l0, .int l1, .int l2] [.int t2, .int t1, .ref t0] st
noncomputable def g_X11_parseSet : ab_G := fun as st k => match as with
  | [.ref a0] => ab_rv (f_X11_parseSet a0 st) (fun t => k [] t)
  | _ => none
theorem o_X11_parseSet : ab_one g_X11_parseSet := by
  intro as st k r h
  unfold g_X11_parseSet at h ⊢
  split at h
  · exact one_rv h
  · cases h
set_option maxRecDepth 100000 in
theorem e_X11_parseSet_0 (l0 : Nat) (st : ab_S) : f_X11_parseSet l0 st =
    ab_rc st l0 11 (
    ab_ri (f_X11_here l0 st) fun x2 s1 =>
    if x2 = (94 : Int32)
    then L_X11_parseSet_14 l0 (1 : Int32) s1
    else L_X11_parseSet_14 l0 (0 : Int32) s1) := congrArg (ab_rc st l0 11) ((lm_eq one_X11_parseSet 0 _ _ _).trans rfl)
set_option maxRecDepth 100000 in
theorem e_X11_parseSet_14 (l0 : Nat) (t0 : Int32) (st : ab_S) : L_X11_parseSet_14 l0 t0 st =
    Option.bind (ab_gI st l0 11 33) fun x1 =>
    if t0 = 0
    then L_X11_parseSet_29 l0 t0 l0 x1 (0 : Int32) st
    else L_X11_parseSet_29 l0 t0 l0 x1 (1 : Int32) st := (lm_eq one_X11_parseSet 14 _ _ _).trans rfl
set_option maxRecDepth 100000 in
theorem e_X11_parseSet_29 (l0 : Nat) (l1 : Int32) (t0 : Nat) (t1 : Int32) (t2 : Int32) (st : ab_S) : L_X11_parseSet_29 l0 l1 t0 t1 t2 st =
    Option.bind (ab_pI st t0 11 33 (t1 + t2)) fun s1 =>
    ab_ri (f_X11_here l0 s1) fun x3 s2 =>
    if x3 = (93 : Int32)
    then Option.bind (ab_gI s2 l0 11 33) fun x4 =>
      ab_rv (f_X11_fail l0 x4 s2) fun s5 =>
      some (none, s5)
    else L_X11_parseSet_51 l0 l1 s2 := (lm_eq one_X11_parseSet 29 _ _ _).trans rfl
set_option maxRecDepth 100000 in
theorem e_X11_parseSet_51 (l0 : Nat) (l1 : Int32) (st : ab_S) : L_X11_parseSet_51 l0 l1 st =
    Option.bind (ab_gI st l0 11 35) fun x1 =>
    if x1 = (-1 : Int32)
    then ab_ri (f_X11_here l0 st) fun x3 s2 =>
      if x3 = (93 : Int32)
      then L_X11_parseSet_176 l0 l1 s2
      else ab_ri (f_X11_setSign l0 s2) fun x5 s4 =>
        Option.bind (ab_gI s4 l0 11 35) fun x6 =>
        if x6 = (-1 : Int32)
        then ab_ri (f_X11_here l0 s4) fun x8 s7 =>
          if x8 = (45 : Int32)
          then Option.bind (ab_gI s7 l0 11 33) fun x9 =>
            Option.bind (ab_gI s7 l0 11 34) fun x10 =>
            if x10 ≤ (x9 + (1 : Int32))
            then L_X11_parseSet_121 l0 l1 x5 s7
            else Option.bind (ab_gR s7 l0 11 0) fun x11 =>
              Option.bind (ab_gI s7 l0 11 33) fun x12 =>
              Option.bind (ab_rB s7 x11 (x12 + (1 : Int32))) fun x13 =>
              if x13 = (93 : Int32)
              then L_X11_parseSet_159 l0 l1 x5 x5 s7
              else L_X11_parseSet_121 l0 l1 x5 s7
          else L_X11_parseSet_159 l0 l1 x5 x5 s7
        else L_X11_parseSet_159 l0 l1 x5 x5 s4
    else L_X11_parseSet_176 l0 l1 st := (lm_eq one_X11_parseSet 51 _ _ _).trans rfl
set_option maxRecDepth 100000 in
theorem e_X11_parseSet_121 (l0 : Nat) (l1 : Int32) (l2 : Int32) (st : ab_S) : L_X11_parseSet_121 l0 l1 l2 st =
    Option.bind (ab_gI st l0 11 33) fun x1 =>
    Option.bind (ab_pI st l0 11 33 (x1 + (1 : Int32))) fun s2 =>
    ab_ri (f_X11_setSign l0 s2) fun x4 s3 =>
    Option.bind (ab_gI s3 l0 11 35) fun x5 =>
    if x5 = (-1 : Int32)
    then if l2 ≤ x4
      then L_X11_parseSet_159 l0 l1 l2 x4 s3
      else Option.bind (ab_gI s3 l0 11 33) fun x6 =>
        ab_rv (f_X11_fail l0 (x6 - (1 : Int32)) s3) fun s7 =>
        L_X11_parseSet_159 l0 l1 l2 x4 s7
    else L_X11_parseSet_159 l0 l1 l2 x4 s3 := (lm_eq one_X11_parseSet 121 _ _ _).trans rfl
set_option maxRecDepth 100000 in
theorem e_X11_parseSet_159 (l0 : Nat) (l1 : Int32) (l2 : Int32) (l3 : Int32) (st : ab_S) : L_X11_parseSet_159 l0 l1 l2 l3 st =
    Option.bind (ab_gI st l0 11 35) fun x1 =>
    if x1 = (-1 : Int32)
    then ab_rv (f_X11_fill l0 l2 l3 st) fun s2 =>
      L_X11_parseSet_173 l0 l1 s2
    else L_X11_parseSet_173 l0 l1 st := (lm_eq one_X11_parseSet 159 _ _ _).trans rfl
set_option maxRecDepth 100000 in
theorem e_X11_parseSet_173 (l0 : Nat) (l1 : Int32) (st : ab_S) : L_X11_parseSet_173 l0 l1 st =
    L_X11_parseSet_51 l0 l1 st := (lm_eq one_X11_parseSet 173 _ _ _).trans rfl
set_option maxRecDepth 100000 in
theorem e_X11_parseSet_176 (l0 : Nat) (l1 : Int32) (st : ab_S) : L_X11_parseSet_176 l0 l1 st =
    Option.bind (ab_gI st l0 11 35) fun x1 =>
    if x1 = (-1 : Int32)
    then Option.bind (ab_gI st l0 11 33) fun x2 =>
      Option.bind (ab_pI st l0 11 33 (x2 + (1 : Int32))) fun s3 =>
      L_X11_parseSet_196 l0 l1 (0 : Int32) s3
    else some (none, st) := (lm_eq one_X11_parseSet 176 _ _ _).trans rfl
set_option maxRecDepth 100000 in
theorem e_X11_parseSet_196 (l0 : Nat) (l1 : Int32) (l2 : Int32) (st : ab_S) : L_X11_parseSet_196 l0 l1 l2 st =
    if (256 : Int32) ≤ l2
    then some (none, st)
    else if l1 = 0
      then some (none, st)
      else Option.bind (ab_gR st l0 11 31) fun x1 =>
        Option.bind (ab_gI st l0 11 32) fun x2 =>
        Option.bind (ab_gR st l0 11 31) fun x3 =>
        Option.bind (ab_gI st l0 11 32) fun x4 =>
        Option.bind (ab_rB st x3 (((256 : Int32) * x4) + l2)) fun x5 =>
        if x5 = 0
        then L_X11_parseSet_244 l0 l1 l2 x1 (((256 : Int32) * x2) + l2) (1 : Int32) st
        else L_X11_parseSet_244 l0 l1 l2 x1 (((256 : Int32) * x2) + l2) (0 : Int32) st := (lm_eq one_X11_parseSet 196 _ _ _).trans rfl
set_option maxRecDepth 100000 in
theorem e_X11_parseSet_244 (l0 : Nat) (l1 : Int32) (l2 : Int32) (t0 : Nat) (t1 : Int32) (t2 : Int32) (st : ab_S) : L_X11_parseSet_244 l0 l1 l2 t0 t1 t2 st =
    Option.bind (ab_wB st t0 t1 t2) fun s1 =>
    L_X11_parseSet_196 l0 l1 (l2 + (1 : Int32)) s1 := (lm_eq one_X11_parseSet 244 _ _ _).trans rfl
def c_X11_parseAtom : List (Nat × ab_I) := [(0, .aload_n 0, 1, .null, 0),
  (1, .invokevirtual 276, 3, .null, 0),
  (4, .istore_n 2, 1, .null, 2),
  (5, .iconst 0, 1, (.int (0)), 0),
  (6, .istore_n 3, 1, .null, 3),
  (7, .iload_n 3, 1, .null, 3),
  (8, .sipush (256), 3, (.int (256)), 0),
  (11, .if_icmp .ge (25), 3, .null, 36),
  (14, .aload_n 0, 1, .null, 0),
  (15, .getfield 87, 3, .null, 0),
  (18, .sipush (256), 3, (.int (256)), 0),
  (21, .aload_n 0, 1, .null, 0),
  (22, .getfield 295, 3, .null, 0),
  (25, .imul, 1, .null, 0),
  (26, .iload_n 3, 1, .null, 3),
  (27, .iadd, 1, .null, 0),
  (28, .iconst 0, 1, (.int (0)), 0),
  (29, .bastore, 1, .null, 0),
  (30, .iinc 3 (1), 3, (.int (1)), 3),
  (33, .goto (-26), 3, .null, 7),
  (36, .iload_n 2, 1, .null, 2),
  (37, .lookupswitch (196) #[(41, 186), (42, 186), (43, 186), (46, 83), (63, 186), (91, 107), (92, 127), (93, 186), (124, 186)], 83, .null, 0),
  (120, .aload_n 0, 1, .null, 0),
  (121, .dup, 1, .null, 0),
  (122, .getfield 257, 3, .null, 0),
  (125, .iconst 1, 1, (.int (1)), 0),
  (126, .iadd, 1, .null, 0),
  (127, .putfield 257, 3, .null, 0),
  (130, .aload_n 0, 1, .null, 0),
  (131, .iconst 0, 1, (.int (0)), 0),
  (132, .sipush (255), 3, (.int (255)), 0),
  (135, .invokevirtual 298, 3, .null, 0),
  (138, .aload_n 0, 1, .null, 0),
  (139, .iload_n 1, 1, .null, 1),
  (140, .invokevirtual 301, 3, .null, 0),
  (143, .ireturn, 1, .null, 0),
  (144, .aload_n 0, 1, .null, 0),
  (145, .dup, 1, .null, 0),
  (146, .getfield 257, 3, .null, 0),
  (149, .iconst 1, 1, (.int (1)), 0),
  (150, .iadd, 1, .null, 0),
  (151, .putfield 257, 3, .null, 0),
  (154, .aload_n 0, 1, .null, 0),
  (155, .invokevirtual 304, 3, .null, 0),
  (158, .aload_n 0, 1, .null, 0),
  (159, .iload_n 1, 1, .null, 1),
  (160, .invokevirtual 301, 3, .null, 0),
  (163, .ireturn, 1, .null, 0),
  (164, .aload_n 0, 1, .null, 0),
  (165, .dup, 1, .null, 0),
  (166, .getfield 257, 3, .null, 0),
  (169, .iconst 1, 1, (.int (1)), 0),
  (170, .iadd, 1, .null, 0),
  (171, .putfield 257, 3, .null, 0),
  (174, .aload_n 0, 1, .null, 0),
  (175, .getfield 257, 3, .null, 0),
  (178, .aload_n 0, 1, .null, 0),
  (179, .getfield 260, 3, .null, 0),
  (182, .if_icmp .ne (13), 3, .null, 195),
  (185, .aload_n 0, 1, .null, 0),
  (186, .aload_n 0, 1, .null, 0),
  (187, .getfield 260, 3, .null, 0),
  (190, .invokevirtual 282, 3, .null, 0),
  (193, .iload_n 1, 1, .null, 1),
  (194, .ireturn, 1, .null, 0),
  (195, .aload_n 0, 1, .null, 0),
  (196, .aload_n 0, 1, .null, 0),
  (197, .invokevirtual 276, 3, .null, 0),
  (200, .aload_n 0, 1, .null, 0),
  (201, .invokevirtual 276, 3, .null, 0),
  (204, .invokevirtual 298, 3, .null, 0),
  (207, .aload_n 0, 1, .null, 0),
  (208, .dup, 1, .null, 0),
  (209, .getfield 257, 3, .null, 0),
  (212, .iconst 1, 1, (.int (1)), 0),
  (213, .iadd, 1, .null, 0),
  (214, .putfield 257, 3, .null, 0),
  (217, .aload_n 0, 1, .null, 0),
  (218, .iload_n 1, 1, .null, 1),
  (219, .invokevirtual 301, 3, .null, 0),
  (222, .ireturn, 1, .null, 0),
  (223, .aload_n 0, 1, .null, 0),
  (224, .aload_n 0, 1, .null, 0),
  (225, .getfield 257, 3, .null, 0),
  (228, .invokevirtual 282, 3, .null, 0),
  (231, .iload_n 1, 1, .null, 1),
  (232, .ireturn, 1, .null, 0),
  (233, .aload_n 0, 1, .null, 0),
  (234, .iload_n 2, 1, .null, 2),
  (235, .iload_n 2, 1, .null, 2),
  (236, .invokevirtual 298, 3, .null, 0),
  (239, .aload_n 0, 1, .null, 0),
  (240, .dup, 1, .null, 0),
  (241, .getfield 257, 3, .null, 0),
  (244, .iconst 1, 1, (.int (1)), 0),
  (245, .iadd, 1, .null, 0),
  (246, .putfield 257, 3, .null, 0),
  (249, .aload_n 0, 1, .null, 0),
  (250, .iload_n 1, 1, .null, 1),
  (251, .invokevirtual 301, 3, .null, 0),
  (254, .ireturn, 1, .null, 0)]
noncomputable def m_X11_parseAtom : ab_M := (c_X11_parseAtom, [(0, [0, 1]), (7, [0, 1, 2, 3])],
  [(87, 11, 31, 3), (257, 11, 33, 0), (260, 11, 34, 0), (295, 11, 32, 0)],
  [],
  [(276, 1, 1, g_X11_here), (282, 1, 2, g_X11_fail), (298, 1, 3, g_X11_fill), (301, 1, 2, g_X11_oneOf), (304, 1, 1, g_X11_parseSet)],
  [(37, [(41, 223), (42, 223), (43, 223), (46, 120), (63, 223), (91, 144), (92, 164), (93, 223), (124, 223)], 233)], 4, 1)
theorem one_X11_parseAtom : ab_oneM m_X11_parseAtom := List.forall_mem_cons.mpr ⟨o_X11_here, List.forall_mem_cons.mpr ⟨o_X11_fail, List.forall_mem_cons.mpr ⟨o_X11_fill, List.forall_mem_cons.mpr ⟨o_X11_oneOf, List.forall_mem_cons.mpr ⟨o_X11_parseSet, fun _ h => absurd h List.not_mem_nil⟩⟩⟩⟩⟩
noncomputable def f_X11_parseAtom (l0 : Nat) (l1 : Int32) (st : ab_S) : Option ab_R := ab_rc st l0 11 (ab_lim m_X11_parseAtom 0 [.ref l0, .int l1] [] st)
noncomputable def L_X11_parseAtom_7 (l0 : Nat) (l1 : Int32) (l2 : Int32) (l3 : Int32) (st : ab_S) : Option ab_R := ab_lim m_X11_parseAtom 7 [.ref l0, .int l1, .int l2, .int l3] [] st
noncomputable def g_X11_parseAtom : ab_G := fun as st k => match as with
  | [.ref a0, .int a1] => ab_ri (f_X11_parseAtom a0 a1 st) (fun x t => k [.int x] t)
  | _ => none
theorem o_X11_parseAtom : ab_one g_X11_parseAtom := by
  intro as st k r h
  unfold g_X11_parseAtom at h ⊢
  split at h
  · exact one_ri h
  · cases h
set_option maxRecDepth 100000 in
theorem e_X11_parseAtom_0 (l0 : Nat) (l1 : Int32) (st : ab_S) : f_X11_parseAtom l0 l1 st =
    ab_rc st l0 11 (
    ab_ri (f_X11_here l0 st) fun x2 s1 =>
    L_X11_parseAtom_7 l0 l1 x2 (0 : Int32) s1) := congrArg (ab_rc st l0 11) ((lm_eq one_X11_parseAtom 0 _ _ _).trans rfl)
set_option maxRecDepth 100000 in
theorem e_X11_parseAtom_7 (l0 : Nat) (l1 : Int32) (l2 : Int32) (l3 : Int32) (st : ab_S) : L_X11_parseAtom_7 l0 l1 l2 l3 st =
    if (256 : Int32) ≤ l3
    then if l2 = 41 then Option.bind (ab_gI st l0 11 33) fun x1 =>
        ab_rv (f_X11_fail l0 x1 st) fun s2 =>
        some (some (.int l1), s2)
      else if l2 = 42 then Option.bind (ab_gI st l0 11 33) fun x3 =>
        ab_rv (f_X11_fail l0 x3 st) fun s4 =>
        some (some (.int l1), s4)
      else if l2 = 43 then Option.bind (ab_gI st l0 11 33) fun x5 =>
        ab_rv (f_X11_fail l0 x5 st) fun s6 =>
        some (some (.int l1), s6)
      else if l2 = 46 then Option.bind (ab_gI st l0 11 33) fun x7 =>
        Option.bind (ab_pI st l0 11 33 (x7 + (1 : Int32))) fun s8 =>
        ab_rv (f_X11_fill l0 (0 : Int32) (255 : Int32) s8) fun s9 =>
        ab_ri (f_X11_oneOf l0 l1 s9) fun x11 s10 =>
        some (some (.int x11), s10)
      else if l2 = 63 then Option.bind (ab_gI st l0 11 33) fun x12 =>
        ab_rv (f_X11_fail l0 x12 st) fun s13 =>
        some (some (.int l1), s13)
      else if l2 = 91 then Option.bind (ab_gI st l0 11 33) fun x14 =>
        Option.bind (ab_pI st l0 11 33 (x14 + (1 : Int32))) fun s15 =>
        ab_rv (f_X11_parseSet l0 s15) fun s16 =>
        ab_ri (f_X11_oneOf l0 l1 s16) fun x18 s17 =>
        some (some (.int x18), s17)
      else if l2 = 92 then Option.bind (ab_gI st l0 11 33) fun x19 =>
        Option.bind (ab_pI st l0 11 33 (x19 + (1 : Int32))) fun s20 =>
        Option.bind (ab_gI s20 l0 11 33) fun x21 =>
        Option.bind (ab_gI s20 l0 11 34) fun x22 =>
        if x21 = x22
        then Option.bind (ab_gI s20 l0 11 34) fun x23 =>
          ab_rv (f_X11_fail l0 x23 s20) fun s24 =>
          some (some (.int l1), s24)
        else ab_ri (f_X11_here l0 s20) fun x26 s25 =>
          ab_ri (f_X11_here l0 s25) fun x28 s27 =>
          ab_rv (f_X11_fill l0 x26 x28 s27) fun s29 =>
          Option.bind (ab_gI s29 l0 11 33) fun x30 =>
          Option.bind (ab_pI s29 l0 11 33 (x30 + (1 : Int32))) fun s31 =>
          ab_ri (f_X11_oneOf l0 l1 s31) fun x33 s32 =>
          some (some (.int x33), s32)
      else if l2 = 93 then Option.bind (ab_gI st l0 11 33) fun x34 =>
        ab_rv (f_X11_fail l0 x34 st) fun s35 =>
        some (some (.int l1), s35)
      else if l2 = 124 then Option.bind (ab_gI st l0 11 33) fun x36 =>
        ab_rv (f_X11_fail l0 x36 st) fun s37 =>
        some (some (.int l1), s37)
      else ab_rv (f_X11_fill l0 l2 l2 st) fun s38 =>
        Option.bind (ab_gI s38 l0 11 33) fun x39 =>
        Option.bind (ab_pI s38 l0 11 33 (x39 + (1 : Int32))) fun s40 =>
        ab_ri (f_X11_oneOf l0 l1 s40) fun x42 s41 =>
        some (some (.int x42), s41)
    else Option.bind (ab_gR st l0 11 31) fun x43 =>
      Option.bind (ab_gI st l0 11 32) fun x44 =>
      Option.bind (ab_wB st x43 (((256 : Int32) * x44) + l3) (0 : Int32)) fun s45 =>
      L_X11_parseAtom_7 l0 l1 l2 (l3 + (1 : Int32)) s45 := (lm_eq one_X11_parseAtom 7 _ _ _).trans rfl
def c_X11_parseAll : List (Nat × ab_I) := [(0, .iconst 0, 1, (.int (0)), 0),
  (1, .istore_n 1, 1, .null, 1),
  (2, .aload_n 0, 1, .null, 0),
  (3, .iconst 0, 1, (.int (0)), 0),
  (4, .aload_n 0, 1, .null, 0),
  (5, .invokevirtual 266, 3, .null, 0),
  (8, .invokevirtual 279, 3, .null, 0),
  (11, .iconst 1, 1, (.int (1)), 0),
  (12, .istore_n 2, 1, .null, 2),
  (13, .iload_n 2, 1, .null, 2),
  (14, .ifCond .eq (255), 3, .null, 269),
  (17, .aload_n 0, 1, .null, 0),
  (18, .getfield 263, 3, .null, 0),
  (21, .iconst (-1), 1, (.int (-1)), 0),
  (22, .if_icmp .ne (247), 3, .null, 269),
  (25, .aload_n 0, 1, .null, 0),
  (26, .invokevirtual 276, 3, .null, 0),
  (29, .istore_n 3, 1, .null, 3),
  (30, .iload_n 3, 1, .null, 3),
  (31, .iconst (-1), 1, (.int (-1)), 0),
  (32, .if_icmp .eq (15), 3, .null, 47),
  (35, .iload_n 3, 1, .null, 3),
  (36, .bipush (124), 2, (.int (124)), 0),
  (38, .if_icmp .eq (9), 3, .null, 47),
  (41, .iload_n 3, 1, .null, 3),
  (42, .bipush (41), 2, (.int (41)), 0),
  (44, .if_icmp .ne (119), 3, .null, 163),
  (47, .aload_n 0, 1, .null, 0),
  (48, .aload_n 0, 1, .null, 0),
  (49, .getfield 96, 3, .null, 0),
  (52, .iload_n 1, 1, .null, 1),
  (53, .iaload, 1, .null, 0),
  (54, .aload_n 0, 1, .null, 0),
  (55, .getfield 93, 3, .null, 0),
  (58, .iload_n 1, 1, .null, 1),
  (59, .iaload, 1, .null, 0),
  (60, .iconst (-1), 1, (.int (-1)), 0),
  (61, .invokevirtual 272, 3, .null, 0),
  (64, .iload_n 3, 1, .null, 3),
  (65, .bipush (124), 2, (.int (124)), 0),
  (67, .if_icmp .ne (21), 3, .null, 88),
  (70, .aload_n 0, 1, .null, 0),
  (71, .dup, 1, .null, 0),
  (72, .getfield 257, 3, .null, 0),
  (75, .iconst 1, 1, (.int (1)), 0),
  (76, .iadd, 1, .null, 0),
  (77, .putfield 257, 3, .null, 0),
  (80, .aload_n 0, 1, .null, 0),
  (81, .iload_n 1, 1, .null, 1),
  (82, .invokevirtual 269, 3, .null, 0),
  (85, .goto (181), 3, .null, 266),
  (88, .iload_n 1, 1, .null, 1),
  (89, .ifCond .ne (22), 3, .null, 111),
  (92, .iconst 0, 1, (.int (0)), 0),
  (93, .istore_n 2, 1, .null, 2),
  (94, .iload_n 3, 1, .null, 3),
  (95, .bipush (41), 2, (.int (41)), 0),
  (97, .if_icmp .ne (169), 3, .null, 266),
  (100, .aload_n 0, 1, .null, 0),
  (101, .aload_n 0, 1, .null, 0),
  (102, .getfield 257, 3, .null, 0),
  (105, .invokevirtual 282, 3, .null, 0),
  (108, .goto (158), 3, .null, 266),
  (111, .iload_n 3, 1, .null, 3),
  (112, .bipush (41), 2, (.int (41)), 0),
  (114, .if_icmp .ne (38), 3, .null, 152),
  (117, .aload_n 0, 1, .null, 0),
  (118, .dup, 1, .null, 0),
  (119, .getfield 257, 3, .null, 0),
  (122, .iconst 1, 1, (.int (1)), 0),
  (123, .iadd, 1, .null, 0),
  (124, .putfield 257, 3, .null, 0),
  (127, .iinc 1 (-1), 3, (.int (-1)), 1),
  (130, .aload_n 0, 1, .null, 0),
  (131, .iload_n 1, 1, .null, 1),
  (132, .aload_n 0, 1, .null, 0),
  (133, .getfield 99, 3, .null, 0),
  (136, .iload_n 1, 1, .null, 1),
  (137, .iaload, 1, .null, 0),
  (138, .aload_n 0, 1, .null, 0),
  (139, .getfield 93, 3, .null, 0),
  (142, .iload_n 1, 1, .null, 1),
  (143, .iconst 1, 1, (.int (1)), 0),
  (144, .iadd, 1, .null, 0),
  (145, .iaload, 1, .null, 0),
  (146, .invokevirtual 285, 3, .null, 0),
  (149, .goto (117), 3, .null, 266),
  (152, .aload_n 0, 1, .null, 0),
  (153, .aload_n 0, 1, .null, 0),
  (154, .getfield 260, 3, .null, 0),
  (157, .invokevirtual 282, 3, .null, 0),
  (160, .goto (106), 3, .null, 266),
  (163, .aload_n 0, 1, .null, 0),
  (164, .invokevirtual 266, 3, .null, 0),
  (167, .istore 4, 2, .null, 4),
  (169, .aload_n 0, 1, .null, 0),
  (170, .aload_n 0, 1, .null, 0),
  (171, .getfield 96, 3, .null, 0),
  (174, .iload_n 1, 1, .null, 1),
  (175, .iaload, 1, .null, 0),
  (176, .iload 4, 2, .null, 4),
  (178, .iconst (-1), 1, (.int (-1)), 0),
  (179, .invokevirtual 272, 3, .null, 0),
  (182, .aload_n 0, 1, .null, 0),
  (183, .getfield 99, 3, .null, 0),
  (186, .iload_n 1, 1, .null, 1),
  (187, .iload 4, 2, .null, 4),
  (189, .iastore, 1, .null, 0),
  (190, .iload_n 3, 1, .null, 3),
  (191, .bipush (40), 2, (.int (40)), 0),
  (193, .if_icmp .ne (19), 3, .null, 212),
  (196, .iload_n 1, 1, .null, 1),
  (197, .iconst 4, 1, (.int (4)), 0),
  (198, .if_icmp .ne (14), 3, .null, 212),
  (201, .aload_n 0, 1, .null, 0),
  (202, .aload_n 0, 1, .null, 0),
  (203, .getfield 257, 3, .null, 0),
  (206, .invokevirtual 282, 3, .null, 0),
  (209, .goto (57), 3, .null, 266),
  (212, .iload_n 3, 1, .null, 3),
  (213, .bipush (40), 2, (.int (40)), 0),
  (215, .if_icmp .ne (26), 3, .null, 241),
  (218, .aload_n 0, 1, .null, 0),
  (219, .dup, 1, .null, 0),
  (220, .getfield 257, 3, .null, 0),
  (223, .iconst 1, 1, (.int (1)), 0),
  (224, .iadd, 1, .null, 0),
  (225, .putfield 257, 3, .null, 0),
  (228, .iinc 1 (1), 3, (.int (1)), 1),
  (231, .aload_n 0, 1, .null, 0),
  (232, .iload_n 1, 1, .null, 1),
  (233, .iload 4, 2, .null, 4),
  (235, .invokevirtual 279, 3, .null, 0),
  (238, .goto (28), 3, .null, 266),
  (241, .aload_n 0, 1, .null, 0),
  (242, .iload 4, 2, .null, 4),
  (244, .invokevirtual 288, 3, .null, 0),
  (247, .istore 5, 2, .null, 5),
  (249, .aload_n 0, 1, .null, 0),
  (250, .getfield 263, 3, .null, 0),
  (253, .iconst (-1), 1, (.int (-1)), 0),
  (254, .if_icmp .ne (12), 3, .null, 266),
  (257, .aload_n 0, 1, .null, 0),
  (258, .iload_n 1, 1, .null, 1),
  (259, .iload 4, 2, .null, 4),
  (261, .iload 5, 2, .null, 5),
  (263, .invokevirtual 285, 3, .null, 0),
  (266, .goto (-253), 3, .null, 13),
  (269, .aload_n 0, 1, .null, 0),
  (270, .aload_n 0, 1, .null, 0),
  (271, .getfield 93, 3, .null, 0),
  (274, .iconst 0, 1, (.int (0)), 0),
  (275, .iaload, 1, .null, 0),
  (276, .putfield 292, 3, .null, 0),
  (279, .return_, 1, .null, 0)]
noncomputable def m_X11_parseAll : ab_M := (c_X11_parseAll, [(0, [0]), (13, [0, 1, 2]), (47, [0, 1, 2, 3]), (212, [0, 1, 2, 3, 4]), (266, [0, 1, 2]), (269, [0])],
  [(93, 11, 38, 3), (96, 11, 39, 3), (99, 11, 40, 3), (257, 11, 33, 0), (260, 11, 34, 0), (263, 11, 35, 0), (292, 11, 36, 0)],
  [],
  [(266, 1, 1, g_X11_spot), (269, 1, 2, g_X11_openSequence), (272, 1, 4, g_X11_step), (276, 1, 1, g_X11_here), (279, 1, 3, g_X11_openAlt), (282, 1, 2, g_X11_fail), (285, 1, 4, g_X11_closePiece), (288, 1, 2, g_X11_parseAtom)],
  [], 6, 0)
theorem one_X11_parseAll : ab_oneM m_X11_parseAll := List.forall_mem_cons.mpr ⟨o_X11_spot, List.forall_mem_cons.mpr ⟨o_X11_openSequence, List.forall_mem_cons.mpr ⟨o_X11_step, List.forall_mem_cons.mpr ⟨o_X11_here, List.forall_mem_cons.mpr ⟨o_X11_openAlt, List.forall_mem_cons.mpr ⟨o_X11_fail, List.forall_mem_cons.mpr ⟨o_X11_closePiece, List.forall_mem_cons.mpr ⟨o_X11_parseAtom, fun _ h => absurd h List.not_mem_nil⟩⟩⟩⟩⟩⟩⟩⟩
noncomputable def f_X11_parseAll (l0 : Nat) (st : ab_S) : Option ab_R := ab_rc st l0 11 (ab_lim m_X11_parseAll 0 [.ref l0] [] st)
noncomputable def L_X11_parseAll_13 (l0 : Nat) (l1 : Int32) (l2 : Int32) (st : ab_S) : Option ab_R := ab_lim m_X11_parseAll 13 [.ref l0, .int l1, .int l2] [] st
noncomputable def L_X11_parseAll_47 (l0 : Nat) (l1 : Int32) (l2 : Int32) (l3 : Int32) (st : ab_S) : Option ab_R := ab_lim m_X11_parseAll 47 [.ref l0, .int l1, .int l2, .int l3] [] st
noncomputable def L_X11_parseAll_212 (l0 : Nat) (l1 : Int32) (l2 : Int32) (l3 : Int32) (l4 : Int32) (st : ab_S) : Option ab_R := ab_lim m_X11_parseAll 212 [.ref l0, .int l1, .int l2, .int l3, .int l4] [] st
noncomputable def L_X11_parseAll_266 (l0 : Nat) (l1 : Int32) (l2 : Int32) (st : ab_S) : Option ab_R := ab_lim m_X11_parseAll 266 [.ref l0, .int l1, .int l2] [] st
noncomputable def L_X11_parseAll_269 (l0 : Nat) (st : ab_S) : Option ab_R := ab_lim m_X11_parseAll 269 [.ref l0] [] st
noncomputable def g_X11_parseAll : ab_G := fun as st k => match as with
  | [.ref a0] => ab_rv (f_X11_parseAll a0 st) (fun t => k [] t)
  | _ => none
theorem o_X11_parseAll : ab_one g_X11_parseAll := by
  intro as st k r h
  unfold g_X11_parseAll at h ⊢
  split at h
  · exact one_rv h
  · cases h
set_option maxRecDepth 100000 in
theorem e_X11_parseAll_0 (l0 : Nat) (st : ab_S) : f_X11_parseAll l0 st =
    ab_rc st l0 11 (
    ab_ri (f_X11_spot l0 st) fun x2 s1 =>
    ab_rv (f_X11_openAlt l0 (0 : Int32) x2 s1) fun s3 =>
    L_X11_parseAll_13 l0 (0 : Int32) (1 : Int32) s3) := congrArg (ab_rc st l0 11) ((lm_eq one_X11_parseAll 0 _ _ _).trans rfl)
set_option maxRecDepth 100000 in
theorem e_X11_parseAll_13 (l0 : Nat) (l1 : Int32) (l2 : Int32) (st : ab_S) : L_X11_parseAll_13 l0 l1 l2 st =
    if l2 = 0
    then L_X11_parseAll_269 l0 st
    else Option.bind (ab_gI st l0 11 35) fun x1 =>
      if x1 = (-1 : Int32)
      then ab_ri (f_X11_here l0 st) fun x3 s2 =>
        if x3 = (-1 : Int32)
        then L_X11_parseAll_47 l0 l1 l2 x3 s2
        else if x3 = (124 : Int32)
          then L_X11_parseAll_47 l0 l1 l2 x3 s2
          else if x3 = (41 : Int32)
            then L_X11_parseAll_47 l0 l1 l2 x3 s2
            else ab_ri (f_X11_spot l0 s2) fun x5 s4 =>
              Option.bind (ab_gR s4 l0 11 39) fun x6 =>
              Option.bind (ab_rI s4 x6 l1) fun x7 =>
              ab_rv (f_X11_step l0 x7 x5 (-1 : Int32) s4) fun s8 =>
              Option.bind (ab_gR s8 l0 11 40) fun x9 =>
              Option.bind (ab_wI s8 x9 l1 x5) fun s10 =>
              if x3 = (40 : Int32)
              then if l1 = (4 : Int32)
                then Option.bind (ab_gI s10 l0 11 33) fun x11 =>
                  ab_rv (f_X11_fail l0 x11 s10) fun s12 =>
                  L_X11_parseAll_266 l0 l1 l2 s12
                else L_X11_parseAll_212 l0 l1 l2 x3 x5 s10
              else L_X11_parseAll_212 l0 l1 l2 x3 x5 s10
      else L_X11_parseAll_269 l0 st := (lm_eq one_X11_parseAll 13 _ _ _).trans rfl
set_option maxRecDepth 100000 in
theorem e_X11_parseAll_47 (l0 : Nat) (l1 : Int32) (l2 : Int32) (l3 : Int32) (st : ab_S) : L_X11_parseAll_47 l0 l1 l2 l3 st =
    Option.bind (ab_gR st l0 11 39) fun x1 =>
    Option.bind (ab_rI st x1 l1) fun x2 =>
    Option.bind (ab_gR st l0 11 38) fun x3 =>
    Option.bind (ab_rI st x3 l1) fun x4 =>
    ab_rv (f_X11_step l0 x2 x4 (-1 : Int32) st) fun s5 =>
    if l3 = (124 : Int32)
    then Option.bind (ab_gI s5 l0 11 33) fun x6 =>
      Option.bind (ab_pI s5 l0 11 33 (x6 + (1 : Int32))) fun s7 =>
      ab_rv (f_X11_openSequence l0 l1 s7) fun s8 =>
      L_X11_parseAll_266 l0 l1 l2 s8
    else if l1 = 0
      then if l3 = (41 : Int32)
        then Option.bind (ab_gI s5 l0 11 33) fun x9 =>
          ab_rv (f_X11_fail l0 x9 s5) fun s10 =>
          L_X11_parseAll_266 l0 l1 (0 : Int32) s10
        else L_X11_parseAll_266 l0 l1 (0 : Int32) s5
      else if l3 = (41 : Int32)
        then Option.bind (ab_gI s5 l0 11 33) fun x11 =>
          Option.bind (ab_pI s5 l0 11 33 (x11 + (1 : Int32))) fun s12 =>
          Option.bind (ab_gR s12 l0 11 40) fun x13 =>
          Option.bind (ab_rI s12 x13 (l1 + (-1 : Int32))) fun x14 =>
          Option.bind (ab_gR s12 l0 11 38) fun x15 =>
          Option.bind (ab_rI s12 x15 ((l1 + (-1 : Int32)) + (1 : Int32))) fun x16 =>
          ab_rv (f_X11_closePiece l0 (l1 + (-1 : Int32)) x14 x16 s12) fun s17 =>
          L_X11_parseAll_266 l0 (l1 + (-1 : Int32)) l2 s17
        else Option.bind (ab_gI s5 l0 11 34) fun x18 =>
          ab_rv (f_X11_fail l0 x18 s5) fun s19 =>
          L_X11_parseAll_266 l0 l1 l2 s19 := (lm_eq one_X11_parseAll 47 _ _ _).trans rfl
set_option maxRecDepth 100000 in
theorem e_X11_parseAll_212 (l0 : Nat) (l1 : Int32) (l2 : Int32) (l3 : Int32) (l4 : Int32) (st : ab_S) : L_X11_parseAll_212 l0 l1 l2 l3 l4 st =
    if l3 = (40 : Int32)
    then Option.bind (ab_gI st l0 11 33) fun x1 =>
      Option.bind (ab_pI st l0 11 33 (x1 + (1 : Int32))) fun s2 =>
      ab_rv (f_X11_openAlt l0 (l1 + (1 : Int32)) l4 s2) fun s3 =>
      L_X11_parseAll_266 l0 (l1 + (1 : Int32)) l2 s3
    else ab_ri (f_X11_parseAtom l0 l4 st) fun x5 s4 =>
      Option.bind (ab_gI s4 l0 11 35) fun x6 =>
      if x6 = (-1 : Int32)
      then ab_rv (f_X11_closePiece l0 l1 l4 x5 s4) fun s7 =>
        L_X11_parseAll_266 l0 l1 l2 s7
      else L_X11_parseAll_266 l0 l1 l2 s4 := (lm_eq one_X11_parseAll 212 _ _ _).trans rfl
set_option maxRecDepth 100000 in
theorem e_X11_parseAll_266 (l0 : Nat) (l1 : Int32) (l2 : Int32) (st : ab_S) : L_X11_parseAll_266 l0 l1 l2 st =
    L_X11_parseAll_13 l0 l1 l2 st := (lm_eq one_X11_parseAll 266 _ _ _).trans rfl
set_option maxRecDepth 100000 in
theorem e_X11_parseAll_269 (l0 : Nat) (st : ab_S) : L_X11_parseAll_269 l0 st =
    Option.bind (ab_gR st l0 11 38) fun x1 =>
    Option.bind (ab_rI st x1 (0 : Int32)) fun x2 =>
    Option.bind (ab_pI st l0 11 36 x2) fun s3 =>
    some (none, s3) := (lm_eq one_X11_parseAll 269 _ _ _).trans rfl
def c_X11_parsePattern : List (Nat × ab_I) := [(0, .aload_n 0, 1, .null, 0),
  (1, .iconst 0, 1, (.int (0)), 0),
  (2, .putfield 257, 3, .null, 0),
  (5, .aload_n 0, 1, .null, 0),
  (6, .iload_n 1, 1, .null, 1),
  (7, .putfield 260, 3, .null, 0),
  (10, .aload_n 0, 1, .null, 0),
  (11, .iconst (-1), 1, (.int (-1)), 0),
  (12, .putfield 263, 3, .null, 0),
  (15, .aload_n 0, 1, .null, 0),
  (16, .iconst 0, 1, (.int (0)), 0),
  (17, .putfield 251, 3, .null, 0),
  (20, .aload_n 0, 1, .null, 0),
  (21, .iconst 0, 1, (.int (0)), 0),
  (22, .putfield 254, 3, .null, 0),
  (25, .aload_n 0, 1, .null, 0),
  (26, .iconst 0, 1, (.int (0)), 0),
  (27, .putfield 295, 3, .null, 0),
  (30, .aload_n 0, 1, .null, 0),
  (31, .invokevirtual 310, 3, .null, 0),
  (34, .return_, 1, .null, 0)]
noncomputable def m_X11_parsePattern : ab_M := (c_X11_parsePattern, [(0, [0, 1])],
  [(251, 11, 29, 0), (254, 11, 30, 0), (257, 11, 33, 0), (260, 11, 34, 0), (263, 11, 35, 0), (295, 11, 32, 0)],
  [],
  [(310, 1, 1, g_X11_parseAll)],
  [], 2, 0)
theorem one_X11_parsePattern : ab_oneM m_X11_parsePattern := List.forall_mem_cons.mpr ⟨o_X11_parseAll, fun _ h => absurd h List.not_mem_nil⟩
noncomputable def f_X11_parsePattern (l0 : Nat) (l1 : Int32) (st : ab_S) : Option ab_R := ab_rc st l0 11 (ab_lim m_X11_parsePattern 0 [.ref l0, .int l1] [] st)
noncomputable def g_X11_parsePattern : ab_G := fun as st k => match as with
  | [.ref a0, .int a1] => ab_rv (f_X11_parsePattern a0 a1 st) (fun t => k [] t)
  | _ => none
theorem o_X11_parsePattern : ab_one g_X11_parsePattern := by
  intro as st k r h
  unfold g_X11_parsePattern at h ⊢
  split at h
  · exact one_rv h
  · cases h
set_option maxRecDepth 100000 in
theorem e_X11_parsePattern_0 (l0 : Nat) (l1 : Int32) (st : ab_S) : f_X11_parsePattern l0 l1 st =
    ab_rc st l0 11 (
    Option.bind (ab_pI st l0 11 33 (0 : Int32)) fun s1 =>
    Option.bind (ab_pI s1 l0 11 34 l1) fun s2 =>
    Option.bind (ab_pI s2 l0 11 35 (-1 : Int32)) fun s3 =>
    Option.bind (ab_pI s3 l0 11 29 (0 : Int32)) fun s4 =>
    Option.bind (ab_pI s4 l0 11 30 (0 : Int32)) fun s5 =>
    Option.bind (ab_pI s5 l0 11 32 (0 : Int32)) fun s6 =>
    ab_rv (f_X11_parseAll l0 s6) fun s7 =>
    some (none, s7)) := congrArg (ab_rc st l0 11) ((lm_eq one_X11_parsePattern 0 _ _ _).trans rfl)
