def c_X3_enter : List (Nat × ab_I) := [(0, .iload_n 3, 1, .null, 3),
  (1, .ifCond .lt (9), 3, .null, 10),
  (4, .iload_n 3, 1, .null, 3),
  (5, .bipush (12), 2, (.int (12)), 0),
  (7, .if_icmp .le (5), 3, .null, 12),
  (10, .iconst 0, 1, (.int (0)), 0),
  (11, .ireturn, 1, .null, 0),
  (12, .aload_n 0, 1, .null, 0),
  (13, .getfield 15, 3, .null, 0),
  (16, .iload_n 3, 1, .null, 3),
  (17, .iload 4, 2, .null, 4),
  (19, .iastore, 1, .null, 0),
  (20, .aload_n 0, 1, .null, 0),
  (21, .getfield 18, 3, .null, 0),
  (24, .iload_n 3, 1, .null, 3),
  (25, .iconst 0, 1, (.int (0)), 0),
  (26, .iastore, 1, .null, 0),
  (27, .aload_n 0, 1, .null, 0),
  (28, .getfield 21, 3, .null, 0),
  (31, .iload_n 3, 1, .null, 3),
  (32, .lload 5, 2, .null, 5),
  (34, .lastore, 1, .null, 0),
  (35, .aload_n 1, 1, .null, 1),
  (36, .iload 4, 2, .null, 4),
  (38, .invokevirtual 52, 3, .null, 0),
  (41, .lstore 7, 2, .null, 7),
  (43, .lload 7, 2, .null, 7),
  (45, .ldc2_w 56, 3, (.long (-1)), 0),
  (48, .lcmp, 1, .null, 0),
  (49, .ifCond .ne (22), 3, .null, 71),
  (52, .iload_n 3, 1, .null, 3),
  (53, .ifCond .eq (12), 3, .null, 65),
  (56, .aload_n 1, 1, .null, 1),
  (57, .iload 4, 2, .null, 4),
  (59, .invokevirtual 58, 3, .null, 0),
  (62, .ifCond .le (7), 3, .null, 69),
  (65, .iconst 1, 1, (.int (1)), 0),
  (66, .goto (4), 3, .null, 70),
  (69, .iconst 0, 1, (.int (0)), 0),
  (70, .ireturn, 1, .null, 0),
  (71, .lload 5, 2, .null, 5),
  (73, .lload 7, 2, .null, 7),
  (75, .ladd, 1, .null, 0),
  (76, .ldc2_w 134, 3, (.long (1000000000000)), 0),
  (79, .lcmp, 1, .null, 0),
  (80, .ifCond .gt (25), 3, .null, 105),
  (83, .aload_n 2, 1, .null, 2),
  (84, .aload_n 0, 1, .null, 0),
  (85, .getfield 9, 3, .null, 0),
  (88, .iconst 0, 1, (.int (0)), 0),
  (89, .iload_n 3, 1, .null, 3),
  (90, .lload 5, 2, .null, 5),
  (92, .lload 7, 2, .null, 7),
  (94, .ladd, 1, .null, 0),
  (95, .invokevirtual 136, 3, .null, 0),
  (98, .ifCond .eq (7), 3, .null, 105),
  (101, .iconst 1, 1, (.int (1)), 0),
  (102, .goto (4), 3, .null, 106),
  (105, .iconst 0, 1, (.int (0)), 0),
  (106, .ireturn, 1, .null, 0)]
noncomputable def m_X3_enter : ab_M := (c_X3_enter, [(0, [0, 1, 2, 3, 4, 5])],
  [(9, 3, 0, 3), (15, 3, 1, 3), (18, 3, 2, 3), (21, 3, 3, 3)],
  [],
  [(52, 1, 2, g_X1_lastOf), (58, 1, 2, g_X1_arcsOf), (136, 1, 5, g_X7_append)],
  [], 9, 2)
theorem one_X3_enter : ab_oneM m_X3_enter := List.forall_mem_cons.mpr ⟨o_X1_lastOf, List.forall_mem_cons.mpr ⟨o_X1_arcsOf, List.forall_mem_cons.mpr ⟨o_X7_append, fun _ h => absurd h List.not_mem_nil⟩⟩⟩
noncomputable def f_X3_enter (l0 : Nat) (l1 : Nat) (l2 : Nat) (l3 : Int32) (l4 : Int32) (l5 : Int64) (st : ab_S) : Option ab_R := ab_rc st l0 3 (ab_lim m_X3_enter 0 [.ref l0, .ref l1, .ref l2, .int l3, .int l4, .long l5] [] st)
noncomputable def g_X3_enter : ab_G := fun as st k => match as with
  | [.ref a0, .ref a1, .ref a2, .int a3, .int a4, .long a5] => ab_ri (f_X3_enter a0 a1 a2 a3 a4 a5 st) (fun x t => k [.int x] t)
  | _ => none
theorem o_X3_enter : ab_one g_X3_enter := by
  intro as st k r h
  unfold g_X3_enter at h ⊢
  split at h
  · exact one_ri h
  · cases h
set_option maxRecDepth 100000 in
theorem e_X3_enter_0 (l0 : Nat) (l1 : Nat) (l2 : Nat) (l3 : Int32) (l4 : Int32) (l5 : Int64) (st : ab_S) : f_X3_enter l0 l1 l2 l3 l4 l5 st =
    ab_rc st l0 3 (
    if l3 < 0
    then ab_z (0 : Int32) (some (some (.int (0 : Int32)), st))
    else if l3 ≤ (12 : Int32)
      then Option.bind (ab_gR st l0 3 1) fun x1 =>
        Option.bind (ab_wI st x1 l3 l4) fun s2 =>
        Option.bind (ab_gR s2 l0 3 2) fun x3 =>
        Option.bind (ab_wI s2 x3 l3 (0 : Int32)) fun s4 =>
        Option.bind (ab_gR s4 l0 3 3) fun x5 =>
        Option.bind (ab_wJ s4 x5 l3 l5) fun s6 =>
        ab_rl (f_X1_lastOf l1 l4 s6) fun x8 s7 =>
        if (lg_cmp x8 (-1 : Int64)) = 0
        then if l3 = 0
          then ab_z (1 : Int32) (some (some (.int (1 : Int32)), s7))
          else ab_ri (f_X1_arcsOf l1 l4 s7) fun x10 s9 =>
            if x10 ≤ 0
            then ab_z (0 : Int32) (some (some (.int (0 : Int32)), s9))
            else ab_z (1 : Int32) (some (some (.int (1 : Int32)), s9))
        else if 0 < (lg_cmp (l5 + x8) (1000000000000 : Int64))
          then ab_z (0 : Int32) (some (some (.int (0 : Int32)), s7))
          else Option.bind (ab_gR s7 l0 3 0) fun x11 =>
            ab_ri (f_X7_append l2 x11 (0 : Int32) l3 (l5 + x8) s7) fun x13 s12 =>
            if x13 = 0
            then ab_z (0 : Int32) (some (some (.int (0 : Int32)), s12))
            else ab_z (1 : Int32) (some (some (.int (1 : Int32)), s12))
      else ab_z (0 : Int32) (some (some (.int (0 : Int32)), st))) := congrArg (ab_rc st l0 3) ((lm_eq one_X3_enter 0 _ _ _).trans rfl)
def c_X3_follow : List (Nat × ab_I) := [(0, .aload_n 0, 1, .null, 0),
  (1, .getfield 15, 3, .null, 0),
  (4, .iload_n 3, 1, .null, 3),
  (5, .iaload, 1, .null, 0),
  (6, .istore 4, 2, .null, 4),
  (8, .aload_n 0, 1, .null, 0),
  (9, .getfield 18, 3, .null, 0),
  (12, .iload_n 3, 1, .null, 3),
  (13, .iaload, 1, .null, 0),
  (14, .istore 5, 2, .null, 5),
  (16, .aload_n 0, 1, .null, 0),
  (17, .getfield 18, 3, .null, 0),
  (20, .iload_n 3, 1, .null, 3),
  (21, .iload 5, 2, .null, 5),
  (23, .iconst 1, 1, (.int (1)), 0),
  (24, .iadd, 1, .null, 0),
  (25, .iastore, 1, .null, 0),
  (26, .aload_n 0, 1, .null, 0),
  (27, .getfield 21, 3, .null, 0),
  (30, .iload_n 3, 1, .null, 3),
  (31, .laload, 1, .null, 0),
  (32, .aload_n 1, 1, .null, 1),
  (33, .iload 4, 2, .null, 4),
  (35, .iload 5, 2, .null, 5),
  (37, .iconst 2, 1, (.int (2)), 0),
  (38, .invokevirtual 62, 3, .null, 0),
  (41, .ladd, 1, .null, 0),
  (42, .lstore 6, 2, .null, 6),
  (44, .aload_n 0, 1, .null, 0),
  (45, .aload_n 1, 1, .null, 1),
  (46, .aload_n 2, 1, .null, 2),
  (47, .iload_n 3, 1, .null, 3),
  (48, .iconst 1, 1, (.int (1)), 0),
  (49, .iadd, 1, .null, 0),
  (50, .aload_n 1, 1, .null, 1),
  (51, .iload 4, 2, .null, 4),
  (53, .iload 5, 2, .null, 5),
  (55, .iconst 1, 1, (.int (1)), 0),
  (56, .invokevirtual 62, 3, .null, 0),
  (59, .l2i, 1, .null, 0),
  (60, .lload 6, 2, .null, 6),
  (62, .invokevirtual 125, 3, .null, 0),
  (65, .ireturn, 1, .null, 0)]
noncomputable def m_X3_follow : ab_M := (c_X3_follow, [(0, [0, 1, 2, 3])],
  [(15, 3, 1, 3), (18, 3, 2, 3), (21, 3, 3, 3)],
  [],
  [(62, 1, 4, g_X1_tellArc), (125, 1, 6, g_X3_enter)],
  [], 8, 2)
theorem one_X3_follow : ab_oneM m_X3_follow := List.forall_mem_cons.mpr ⟨o_X1_tellArc, List.forall_mem_cons.mpr ⟨o_X3_enter, fun _ h => absurd h List.not_mem_nil⟩⟩
noncomputable def f_X3_follow (l0 : Nat) (l1 : Nat) (l2 : Nat) (l3 : Int32) (st : ab_S) : Option ab_R := ab_rc st l0 3 (ab_lim m_X3_follow 0 [.ref l0, .ref l1, .ref l2, .int l3] [] st)
noncomputable def g_X3_follow : ab_G := fun as st k => match as with
  | [.ref a0, .ref a1, .ref a2, .int a3] => ab_ri (f_X3_follow a0 a1 a2 a3 st) (fun x t => k [.int x] t)
  | _ => none
theorem o_X3_follow : ab_one g_X3_follow := by
  intro as st k r h
  unfold g_X3_follow at h ⊢
  split at h
  · exact one_ri h
  · cases h
set_option maxRecDepth 100000 in
theorem e_X3_follow_0 (l0 : Nat) (l1 : Nat) (l2 : Nat) (l3 : Int32) (st : ab_S) : f_X3_follow l0 l1 l2 l3 st =
    ab_rc st l0 3 (
    Option.bind (ab_gR st l0 3 1) fun x1 =>
    Option.bind (ab_rI st x1 l3) fun x2 =>
    Option.bind (ab_gR st l0 3 2) fun x3 =>
    Option.bind (ab_rI st x3 l3) fun x4 =>
    Option.bind (ab_gR st l0 3 2) fun x5 =>
    Option.bind (ab_wI st x5 l3 (x4 + (1 : Int32))) fun s6 =>
    Option.bind (ab_gR s6 l0 3 3) fun x7 =>
    Option.bind (ab_rJ s6 x7 l3) fun x8 =>
    ab_rl (f_X1_tellArc l1 x2 x4 (2 : Int32) s6) fun x10 s9 =>
    ab_rl (f_X1_tellArc l1 x2 x4 (1 : Int32) s9) fun x12 s11 =>
    ab_ri (f_X3_enter l0 l1 l2 (l3 + (1 : Int32)) x12.toInt32 (x8 + x10) s11) fun x14 s13 =>
    ab_z x14 (some (some (.int x14), s13))) := congrArg (ab_rc st l0 3) ((lm_eq one_X3_follow 0 _ _ _).trans rfl)
def c_X3_listTerms : List (Nat × ab_I) := [(0, .aload_n 2, 1, .null, 2),
  (1, .invokevirtual 122, 3, .null, 0),
  (4, .iconst 0, 1, (.int (0)), 0),
  (5, .istore_n 3, 1, .null, 3),
  (6, .aload_n 0, 1, .null, 0),
  (7, .aload_n 1, 1, .null, 1),
  (8, .aload_n 2, 1, .null, 2),
  (9, .iconst 0, 1, (.int (0)), 0),
  (10, .iconst 0, 1, (.int (0)), 0),
  (11, .aload_n 1, 1, .null, 1),
  (12, .getfield 34, 3, .null, 0),
  (15, .invokevirtual 125, 3, .null, 0),
  (18, .istore 4, 2, .null, 4),
  (20, .iconst 0, 1, (.int (0)), 0),
  (21, .istore 5, 2, .null, 5),
  (23, .iload 5, 2, .null, 5),
  (25, .ldc 129, 2, (.int (1000000)), 0),
  (27, .if_icmp .ge (92), 3, .null, 119),
  (30, .iload 4, 2, .null, 4),
  (32, .ifCond .eq (87), 3, .null, 119),
  (35, .aload_n 1, 1, .null, 1),
  (36, .aload_n 0, 1, .null, 0),
  (37, .getfield 15, 3, .null, 0),
  (40, .iload_n 3, 1, .null, 3),
  (41, .iaload, 1, .null, 0),
  (42, .aload_n 0, 1, .null, 0),
  (43, .getfield 18, 3, .null, 0),
  (46, .iload_n 3, 1, .null, 3),
  (47, .iaload, 1, .null, 0),
  (48, .iconst 0, 1, (.int (0)), 0),
  (49, .invokevirtual 62, 3, .null, 0),
  (52, .lstore 6, 2, .null, 6),
  (54, .lload 6, 2, .null, 6),
  (56, .ldc2_w 56, 3, (.long (-1)), 0),
  (59, .lcmp, 1, .null, 0),
  (60, .ifCond .ne (9), 3, .null, 69),
  (63, .iload_n 3, 1, .null, 3),
  (64, .ifCond .ne (5), 3, .null, 69),
  (67, .iconst 1, 1, (.int (1)), 0),
  (68, .ireturn, 1, .null, 0),
  (69, .lload 6, 2, .null, 6),
  (71, .ldc2_w 56, 3, (.long (-1)), 0),
  (74, .lcmp, 1, .null, 0),
  (75, .ifCond .ne (9), 3, .null, 84),
  (78, .iinc 3 (-1), 3, (.int (-1)), 3),
  (81, .goto (32), 3, .null, 113),
  (84, .iload_n 3, 1, .null, 3),
  (85, .bipush (12), 2, (.int (12)), 0),
  (87, .if_icmp .lt (5), 3, .null, 92),
  (90, .iconst 0, 1, (.int (0)), 0),
  (91, .ireturn, 1, .null, 0),
  (92, .aload_n 0, 1, .null, 0),
  (93, .getfield 9, 3, .null, 0),
  (96, .iload_n 3, 1, .null, 3),
  (97, .lload 6, 2, .null, 6),
  (99, .l2i, 1, .null, 0),
  (100, .iastore, 1, .null, 0),
  (101, .aload_n 0, 1, .null, 0),
  (102, .aload_n 1, 1, .null, 1),
  (103, .aload_n 2, 1, .null, 2),
  (104, .iload_n 3, 1, .null, 3),
  (105, .invokevirtual 130, 3, .null, 0),
  (108, .istore 4, 2, .null, 4),
  (110, .iinc 3 (1), 3, (.int (1)), 3),
  (113, .iinc 5 (1), 3, (.int (1)), 5),
  (116, .goto (-93), 3, .null, 23),
  (119, .iconst 0, 1, (.int (0)), 0),
  (120, .ireturn, 1, .null, 0)]
noncomputable def m_X3_listTerms : ab_M := (c_X3_listTerms, [(0, [0, 1, 2]), (23, [0, 1, 2, 3, 4, 5]), (69, [0, 1, 2, 3, 4, 5, 6]), (113, [0, 1, 2, 3, 4, 5])],
  [(9, 3, 0, 3), (15, 3, 1, 3), (18, 3, 2, 3), (34, 1, 6, 2)],
  [],
  [(62, 1, 4, g_X1_tellArc), (122, 1, 1, g_X7_clear), (125, 1, 6, g_X3_enter), (130, 1, 4, g_X3_follow)],
  [], 8, 2)
theorem one_X3_listTerms : ab_oneM m_X3_listTerms := List.forall_mem_cons.mpr ⟨o_X1_tellArc, List.forall_mem_cons.mpr ⟨o_X7_clear, List.forall_mem_cons.mpr ⟨o_X3_enter, List.forall_mem_cons.mpr ⟨o_X3_follow, fun _ h => absurd h List.not_mem_nil⟩⟩⟩⟩
noncomputable def f_X3_listTerms (l0 : Nat) (l1 : Nat) (l2 : Nat) (st : ab_S) : Option ab_R := ab_rc st l0 3 (ab_lim m_X3_listTerms 0 [.ref l0, .ref l1, .ref l2] [] st)
noncomputable def L_X3_listTerms_23 (l0 : Nat) (l1 : Nat) (l2 : Nat) (l3 : Int32) (l4 : Int32) (l5 : Int32) (st : ab_S) : Option ab_R := ab_lim m_X3_listTerms 23 [.ref l0, .ref l1, .ref l2, .int l3, .int l4, .int l5] [] st
noncomputable def L_X3_listTerms_69 (l0 : Nat) (l1 : Nat) (l2 : Nat) (l3 : Int32) (l4 : Int32) (l5 : Int32) (l6 : Int64) (st : ab_S) : Option ab_R := ab_lim m_X3_listTerms 69 [.ref l0, .ref l1, .ref l2, .int l3, .int l4, .int l5, .long l6] [] st
noncomputable def L_X3_listTerms_113 (l0 : Nat) (l1 : Nat) (l2 : Nat) (l3 : Int32) (l4 : Int32) (l5 : Int32) (st : ab_S) : Option ab_R := ab_lim m_X3_listTerms 113 [.ref l0, .ref l1, .ref l2, .int l3, .int l4, .int l5] [] st
noncomputable def g_X3_listTerms : ab_G := fun as st k => match as with
  | [.ref a0, .ref a1, .ref a2] => ab_ri (f_X3_listTerms a0 a1 a2 st) (fun x t => k [.int x] t)
  | _ => none
theorem o_X3_listTerms : ab_one g_X3_listTerms := by
  intro as st k r h
  unfold g_X3_listTerms at h ⊢
  split at h
  · exact one_ri h
  · cases h
set_option maxRecDepth 100000 in
theorem e_X3_listTerms_0 (l0 : Nat) (l1 : Nat) (l2 : Nat) (st : ab_S) : f_X3_listTerms l0 l1 l2 st =
    ab_rc st l0 3 (
    ab_rv (f_X7_clear l2 st) fun s1 =>
    Option.bind (ab_gJ s1 l1 1 6) fun x2 =>
    ab_ri (f_X3_enter l0 l1 l2 (0 : Int32) (0 : Int32) x2 s1) fun x4 s3 =>
    L_X3_listTerms_23 l0 l1 l2 (0 : Int32) x4 (0 : Int32) s3) := congrArg (ab_rc st l0 3) ((lm_eq one_X3_listTerms 0 _ _ _).trans rfl)
set_option maxRecDepth 100000 in
theorem e_X3_listTerms_23 (l0 : Nat) (l1 : Nat) (l2 : Nat) (l3 : Int32) (l4 : Int32) (l5 : Int32) (st : ab_S) : L_X3_listTerms_23 l0 l1 l2 l3 l4 l5 st =
    if (1000000 : Int32) ≤ l5
    then ab_z (0 : Int32) (some (some (.int (0 : Int32)), st))
    else if l4 = 0
      then ab_z (0 : Int32) (some (some (.int (0 : Int32)), st))
      else Option.bind (ab_gR st l0 3 1) fun x1 =>
        Option.bind (ab_rI st x1 l3) fun x2 =>
        Option.bind (ab_gR st l0 3 2) fun x3 =>
        Option.bind (ab_rI st x3 l3) fun x4 =>
        ab_rl (f_X1_tellArc l1 x2 x4 (0 : Int32) st) fun x6 s5 =>
        if (lg_cmp x6 (-1 : Int64)) = 0
        then if l3 = 0
          then ab_z (1 : Int32) (some (some (.int (1 : Int32)), s5))
          else L_X3_listTerms_69 l0 l1 l2 l3 l4 l5 x6 s5
        else L_X3_listTerms_69 l0 l1 l2 l3 l4 l5 x6 s5 := (lm_eq one_X3_listTerms 23 _ _ _).trans rfl
set_option maxRecDepth 100000 in
theorem e_X3_listTerms_69 (l0 : Nat) (l1 : Nat) (l2 : Nat) (l3 : Int32) (l4 : Int32) (l5 : Int32) (l6 : Int64) (st : ab_S) : L_X3_listTerms_69 l0 l1 l2 l3 l4 l5 l6 st =
    if (lg_cmp l6 (-1 : Int64)) = 0
    then L_X3_listTerms_113 l0 l1 l2 (l3 + (-1 : Int32)) l4 l5 st
    else if l3 < (12 : Int32)
      then Option.bind (ab_gR st l0 3 0) fun x1 =>
        Option.bind (ab_wI st x1 l3 l6.toInt32) fun s2 =>
        ab_ri (f_X3_follow l0 l1 l2 l3 s2) fun x4 s3 =>
        L_X3_listTerms_113 l0 l1 l2 (l3 + (1 : Int32)) x4 l5 s3
      else ab_z (0 : Int32) (some (some (.int (0 : Int32)), st)) := (lm_eq one_X3_listTerms 69 _ _ _).trans rfl
set_option maxRecDepth 100000 in
theorem e_X3_listTerms_113 (l0 : Nat) (l1 : Nat) (l2 : Nat) (l3 : Int32) (l4 : Int32) (l5 : Int32) (st : ab_S) : L_X3_listTerms_113 l0 l1 l2 l3 l4 l5 st =
    L_X3_listTerms_23 l0 l1 l2 l3 l4 (l5 + (1 : Int32)) st := (lm_eq one_X3_listTerms 113 _ _ _).trans rfl
def c_X3_read : List (Nat × ab_I) := [(0, .aload_n 0, 1, .null, 0),
  (1, .aload_n 1, 1, .null, 1),
  (2, .aload_n 2, 1, .null, 2),
  (3, .getfield 68, 3, .null, 0),
  (6, .invokevirtual 74, 3, .null, 0),
  (9, .ifCond .eq (22), 3, .null, 31),
  (12, .aload_n 0, 1, .null, 0),
  (13, .aload_n 2, 1, .null, 2),
  (14, .getfield 68, 3, .null, 0),
  (17, .aload_n 2, 1, .null, 2),
  (18, .getfield 78, 3, .null, 0),
  (21, .invokevirtual 82, 3, .null, 0),
  (24, .ifCond .eq (7), 3, .null, 31),
  (27, .iconst 1, 1, (.int (1)), 0),
  (28, .goto (4), 3, .null, 32),
  (31, .iconst 0, 1, (.int (0)), 0),
  (32, .ireturn, 1, .null, 0)]
noncomputable def m_X3_read : ab_M := (c_X3_read, [(0, [0, 1, 2])],
  [(68, 0, 1, 3), (78, 0, 0, 3)],
  [],
  [(74, 1, 3, g_X3_readMachine), (82, 1, 3, g_X3_listTerms)],
  [], 3, 2)
theorem one_X3_read : ab_oneM m_X3_read := List.forall_mem_cons.mpr ⟨o_X3_readMachine, List.forall_mem_cons.mpr ⟨o_X3_listTerms, fun _ h => absurd h List.not_mem_nil⟩⟩
noncomputable def f_X3_read (l0 : Nat) (l1 : Nat) (l2 : Nat) (st : ab_S) : Option ab_R := ab_rc st l0 3 (ab_lim m_X3_read 0 [.ref l0, .ref l1, .ref l2] [] st)
noncomputable def g_X3_read : ab_G := fun as st k => match as with
  | [.ref a0, .ref a1, .ref a2] => ab_ri (f_X3_read a0 a1 a2 st) (fun x t => k [.int x] t)
  | _ => none
theorem o_X3_read : ab_one g_X3_read := by
  intro as st k r h
  unfold g_X3_read at h ⊢
  split at h
  · exact one_ri h
  · cases h
set_option maxRecDepth 100000 in
theorem e_X3_read_0 (l0 : Nat) (l1 : Nat) (l2 : Nat) (st : ab_S) : f_X3_read l0 l1 l2 st =
    ab_rc st l0 3 (
    Option.bind (ab_gR st l2 0 1) fun x1 =>
    ab_ri (f_X3_readMachine l0 l1 x1 st) fun x3 s2 =>
    if x3 = 0
    then ab_z (0 : Int32) (some (some (.int (0 : Int32)), s2))
    else Option.bind (ab_gR s2 l2 0 1) fun x4 =>
      Option.bind (ab_gR s2 l2 0 0) fun x5 =>
      ab_ri (f_X3_listTerms l0 x4 x5 s2) fun x7 s6 =>
      if x7 = 0
      then ab_z (0 : Int32) (some (some (.int (0 : Int32)), s6))
      else ab_z (1 : Int32) (some (some (.int (1 : Int32)), s6))) := congrArg (ab_rc st l0 3) ((lm_eq one_X3_read 0 _ _ _).trans rfl)
def c_X6_sameAs : List (Nat × ab_I) := [(0, .aload_n 0, 1, .null, 0),
  (1, .getfield 21, 3, .null, 0),
  (4, .aload_n 1, 1, .null, 1),
  (5, .getfield 21, 3, .null, 0),
  (8, .if_icmp .ne (15), 3, .null, 23),
  (11, .aload_n 0, 1, .null, 0),
  (12, .getfield 21, 3, .null, 0),
  (15, .aload_n 0, 1, .null, 0),
  (16, .getfield 15, 3, .null, 0),
  (19, .arraylength, 1, .null, 0),
  (20, .if_icmp .le (5), 3, .null, 25),
  (23, .iconst 0, 1, (.int (0)), 0),
  (24, .ireturn, 1, .null, 0),
  (25, .iconst 0, 1, (.int (0)), 0),
  (26, .istore_n 2, 1, .null, 2),
  (27, .iload_n 2, 1, .null, 2),
  (28, .aload_n 0, 1, .null, 0),
  (29, .getfield 21, 3, .null, 0),
  (32, .if_icmp .ge (24), 3, .null, 56),
  (35, .aload_n 0, 1, .null, 0),
  (36, .iload_n 2, 1, .null, 2),
  (37, .invokevirtual 25, 3, .null, 0),
  (40, .aload_n 1, 1, .null, 1),
  (41, .iload_n 2, 1, .null, 2),
  (42, .invokevirtual 25, 3, .null, 0),
  (45, .if_icmp .eq (5), 3, .null, 50),
  (48, .iconst 0, 1, (.int (0)), 0),
  (49, .ireturn, 1, .null, 0),
  (50, .iinc 2 (1), 3, (.int (1)), 2),
  (53, .goto (-26), 3, .null, 27),
  (56, .iconst 1, 1, (.int (1)), 0),
  (57, .ireturn, 1, .null, 0)]
noncomputable def m_X6_sameAs : ab_M := (c_X6_sameAs, [(0, [0, 1]), (27, [0, 1, 2])],
  [(15, 6, 0, 3), (21, 6, 1, 0)],
  [],
  [(25, 1, 2, g_X6_at)],
  [], 3, 2)
theorem one_X6_sameAs : ab_oneM m_X6_sameAs := List.forall_mem_cons.mpr ⟨o_X6_at, fun _ h => absurd h List.not_mem_nil⟩
noncomputable def f_X6_sameAs (l0 : Nat) (l1 : Nat) (st : ab_S) : Option ab_R := ab_rc st l0 6 (ab_lim m_X6_sameAs 0 [.ref l0, .ref l1] [] st)
noncomputable def L_X6_sameAs_27 (l0 : Nat) (l1 : Nat) (l2 : Int32) (st : ab_S) : Option ab_R := ab_lim m_X6_sameAs 27 [.ref l0, .ref l1, .int l2] [] st
noncomputable def g_X6_sameAs : ab_G := fun as st k => match as with
  | [.ref a0, .ref a1] => ab_ri (f_X6_sameAs a0 a1 st) (fun x t => k [.int x] t)
  | _ => none
theorem o_X6_sameAs : ab_one g_X6_sameAs := by
  intro as st k r h
  unfold g_X6_sameAs at h ⊢
  split at h
  · exact one_ri h
  · cases h
set_option maxRecDepth 100000 in
theorem e_X6_sameAs_0 (l0 : Nat) (l1 : Nat) (st : ab_S) : f_X6_sameAs l0 l1 st =
    ab_rc st l0 6 (
    Option.bind (ab_gI st l0 6 1) fun x1 =>
    Option.bind (ab_gI st l1 6 1) fun x2 =>
    if x1 = x2
    then Option.bind (ab_gI st l0 6 1) fun x3 =>
      Option.bind (ab_gR st l0 6 0) fun x4 =>
      Option.bind (ab_n st x4) fun n5 =>
      if x3 ≤ (Int32.ofNat n5)
      then L_X6_sameAs_27 l0 l1 (0 : Int32) st
      else ab_z (0 : Int32) (some (some (.int (0 : Int32)), st))
    else ab_z (0 : Int32) (some (some (.int (0 : Int32)), st))) := congrArg (ab_rc st l0 6) ((lm_eq one_X6_sameAs 0 _ _ _).trans rfl)
set_option maxRecDepth 100000 in
theorem e_X6_sameAs_27 (l0 : Nat) (l1 : Nat) (l2 : Int32) (st : ab_S) : L_X6_sameAs_27 l0 l1 l2 st =
    Option.bind (ab_gI st l0 6 1) fun x1 =>
    if x1 ≤ l2
    then ab_z (1 : Int32) (some (some (.int (1 : Int32)), st))
    else ab_ri (f_X6_at l0 l2 st) fun x3 s2 =>
      ab_ri (f_X6_at l1 l2 s2) fun x5 s4 =>
      if x3 = x5
      then L_X6_sameAs_27 l0 l1 (l2 + (1 : Int32)) s4
      else ab_z (0 : Int32) (some (some (.int (0 : Int32)), s4)) := (lm_eq one_X6_sameAs 27 _ _ _).trans rfl
def c_X10_load : List (Nat × ab_I) := [(0, .iload_n 1, 1, .null, 1),
  (1, .invokestatic 95, 3, .null, 0),
  (4, .ifCond .ne (6), 3, .null, 10),
  (7, .bipush (-2), 2, (.int (-2)), 0),
  (9, .ireturn, 1, .null, 0),
  (10, .aload_n 0, 1, .null, 0),
  (11, .invokevirtual 91, 3, .null, 0),
  (14, .astore_n 2, 1, .null, 2),
  (15, .aload_n 0, 1, .null, 0),
  (16, .getfield 35, 3, .null, 0),
  (19, .aload_n 2, 1, .null, 2),
  (20, .aload_n 0, 1, .null, 0),
  (21, .getfield 80, 3, .null, 0),
  (24, .invokevirtual 222, 3, .null, 0),
  (27, .ifCond .ne (6), 3, .null, 33),
  (30, .bipush (-7), 2, (.int (-7)), 0),
  (32, .ireturn, 1, .null, 0),
  (33, .aload_n 0, 1, .null, 0),
  (34, .getfield 28, 3, .null, 0),
  (37, .aload_n 0, 1, .null, 0),
  (38, .getfield 80, 3, .null, 0),
  (41, .invokevirtual 126, 3, .null, 0),
  (44, .aload_n 0, 1, .null, 0),
  (45, .getfield 35, 3, .null, 0),
  (48, .aload_n 0, 1, .null, 0),
  (49, .getfield 80, 3, .null, 0),
  (52, .getfield 130, 3, .null, 0),
  (55, .aload_n 0, 1, .null, 0),
  (56, .getfield 63, 3, .null, 0),
  (59, .invokevirtual 215, 3, .null, 0),
  (62, .aload_n 0, 1, .null, 0),
  (63, .getfield 63, 3, .null, 0),
  (66, .aload_n 2, 1, .null, 2),
  (67, .invokevirtual 225, 3, .null, 0),
  (70, .ifCond .ne (6), 3, .null, 76),
  (73, .bipush (-7), 2, (.int (-7)), 0),
  (75, .ireturn, 1, .null, 0),
  (76, .aload_n 0, 1, .null, 0),
  (77, .iload_n 1, 1, .null, 1),
  (78, .invokevirtual 212, 3, .null, 0),
  (81, .aload_n 0, 1, .null, 0),
  (82, .getfield 11, 3, .null, 0),
  (85, .iload_n 1, 1, .null, 1),
  (86, .aaload, 1, .null, 0),
  (87, .getfield 99, 3, .null, 0),
  (90, .getfield 103, 3, .null, 0),
  (93, .ireturn, 1, .null, 0)]
noncomputable def m_X10_load : ab_M := (c_X10_load, [(0, [0, 1])],
  [(11, 10, 0, 3), (28, 10, 3, 3), (35, 10, 4, 3), (63, 10, 8, 3), (80, 10, 14, 3), (99, 0, 0, 3), (103, 7, 3, 0), (130, 0, 1, 3)],
  [],
  [(91, 1, 1, g_X10_takeCollected), (95, 0, 1, g_X10_isDictionary), (126, 1, 2, g_X8_build), (212, 1, 2, g_X10_putSpareAt), (215, 1, 3, g_X3_write), (222, 1, 3, g_X3_read), (225, 1, 2, g_X6_sameAs)],
  [], 3, 1)
theorem one_X10_load : ab_oneM m_X10_load := List.forall_mem_cons.mpr ⟨o_X10_takeCollected, List.forall_mem_cons.mpr ⟨o_X10_isDictionary, List.forall_mem_cons.mpr ⟨o_X8_build, List.forall_mem_cons.mpr ⟨o_X10_putSpareAt, List.forall_mem_cons.mpr ⟨o_X3_write, List.forall_mem_cons.mpr ⟨o_X3_read, List.forall_mem_cons.mpr ⟨o_X6_sameAs, fun _ h => absurd h List.not_mem_nil⟩⟩⟩⟩⟩⟩⟩
noncomputable def f_X10_load (l0 : Nat) (l1 : Int32) (st : ab_S) : Option ab_R := ab_rc st l0 10 (ab_lim m_X10_load 0 [.ref l0, .int l1] [] st)
noncomputable def g_X10_load : ab_G := fun as st k => match as with
  | [.ref a0, .int a1] => ab_ri (f_X10_load a0 a1 st) (fun x t => k [.int x] t)
  | _ => none
theorem o_X10_load : ab_one g_X10_load := by
  intro as st k r h
  unfold g_X10_load at h ⊢
  split at h
  · exact one_ri h
  · cases h
set_option maxRecDepth 100000 in
theorem e_X10_load_0 (l0 : Nat) (l1 : Int32) (st : ab_S) : f_X10_load l0 l1 st =
    ab_rc st l0 10 (
    ab_ri (f_X10_isDictionary l1 st) fun x2 s1 =>
    if x2 = 0
    then some (some (.int (-2 : Int32)), s1)
    else ab_rr (f_X10_takeCollected l0 s1) fun x4 s3 =>
      Option.bind (ab_gR s3 l0 10 4) fun x5 =>
      Option.bind (ab_gR s3 l0 10 14) fun x6 =>
      ab_ri (f_X3_read x5 x4 x6 s3) fun x8 s7 =>
      if x8 = 0
      then some (some (.int (-7 : Int32)), s7)
      else Option.bind (ab_gR s7 l0 10 3) fun x9 =>
        Option.bind (ab_gR s7 l0 10 14) fun x10 =>
        ab_rv (f_X8_build x9 x10 s7) fun s11 =>
        Option.bind (ab_gR s11 l0 10 4) fun x12 =>
        Option.bind (ab_gR s11 l0 10 14) fun x13 =>
        Option.bind (ab_gR s11 x13 0 1) fun x14 =>
        Option.bind (ab_gR s11 l0 10 8) fun x15 =>
        ab_rv (f_X3_write x12 x14 x15 s11) fun s16 =>
        Option.bind (ab_gR s16 l0 10 8) fun x17 =>
        ab_ri (f_X6_sameAs x17 x4 s16) fun x19 s18 =>
        if x19 = 0
        then some (some (.int (-7 : Int32)), s18)
        else ab_rv (f_X10_putSpareAt l0 l1 s18) fun s20 =>
          Option.bind (ab_gR s20 l0 10 0) fun x21 =>
          Option.bind (ab_rR s20 x21 l1) fun x22 =>
          Option.bind (ab_gR s20 x22 0 0) fun x23 =>
          Option.bind (ab_gI s20 x23 7 3) fun x24 =>
          some (some (.int x24), s20)) := congrArg (ab_rc st l0 10) ((lm_eq one_X10_load 0 _ _ _).trans rfl)
def c_X11_readByte : List (Nat × ab_I) := [(0, .aload_n 0, 1, .null, 0),
  (1, .getfield 257, 3, .null, 0),
  (4, .aload_n 0, 1, .null, 0),
  (5, .getfield 260, 3, .null, 0),
  (8, .if_icmp .lt (10), 3, .null, 18),
  (11, .aload_n 0, 1, .null, 0),
  (12, .iconst 1, 1, (.int (1)), 0),
  (13, .putfield 355, 3, .null, 0),
  (16, .iconst 0, 1, (.int (0)), 0),
  (17, .ireturn, 1, .null, 0),
  (18, .aload_n 0, 1, .null, 0),
  (19, .dup, 1, .null, 0),
  (20, .getfield 257, 3, .null, 0),
  (23, .iconst 1, 1, (.int (1)), 0),
  (24, .iadd, 1, .null, 0),
  (25, .putfield 257, 3, .null, 0),
  (28, .aload_n 0, 1, .null, 0),
  (29, .getfield 7, 3, .null, 0),
  (32, .aload_n 0, 1, .null, 0),
  (33, .getfield 257, 3, .null, 0),
  (36, .iconst 1, 1, (.int (1)), 0),
  (37, .isub, 1, .null, 0),
  (38, .baload, 1, .null, 0),
  (39, .sipush (255), 3, (.int (255)), 0),
  (42, .iand, 1, .null, 0),
  (43, .ireturn, 1, .null, 0)]
noncomputable def m_X11_readByte : ab_M := (c_X11_readByte, [(0, [0])],
  [(7, 11, 0, 3), (257, 11, 33, 0), (260, 11, 34, 0), (355, 11, 52, 1)],
  [],
  [],
  [], 1, 1)
theorem one_X11_readByte : ab_oneM m_X11_readByte := fun _ h => absurd h List.not_mem_nil
noncomputable def f_X11_readByte (l0 : Nat) (st : ab_S) : Option ab_R := ab_rc st l0 11 (ab_lim m_X11_readByte 0 [.ref l0] [] st)
noncomputable def g_X11_readByte : ab_G := fun as st k => match as with
  | [.ref a0] => ab_ri (f_X11_readByte a0 st) (fun x t => k [.int x] t)
  | _ => none
theorem o_X11_readByte : ab_one g_X11_readByte := by
  intro as st k r h
  unfold g_X11_readByte at h ⊢
  split at h
  · exact one_ri h
  · cases h
set_option maxRecDepth 100000 in
theorem e_X11_readByte_0 (l0 : Nat) (st : ab_S) : f_X11_readByte l0 st =
    ab_rc st l0 11 (
    Option.bind (ab_gI st l0 11 33) fun x1 =>
    Option.bind (ab_gI st l0 11 34) fun x2 =>
    if x1 < x2
    then Option.bind (ab_gI st l0 11 33) fun x3 =>
      Option.bind (ab_pI st l0 11 33 (x3 + (1 : Int32))) fun s4 =>
      Option.bind (ab_gR s4 l0 11 0) fun x5 =>
      Option.bind (ab_gI s4 l0 11 33) fun x6 =>
      Option.bind (ab_rB s4 x5 (x6 - (1 : Int32))) fun x7 =>
      some (some (.int (x7 &&& (255 : Int32))), s4)
    else Option.bind (ab_pZ st l0 11 52 (1 : Int32)) fun s8 =>
      some (some (.int (0 : Int32)), s8)) := congrArg (ab_rc st l0 11) ((lm_eq one_X11_readByte 0 _ _ _).trans rfl)
def c_X11_readNumber : List (Nat × ab_I) := [(0, .lconst 0, 1, (.long (0)), 0),
  (1, .lstore_n 1, 1, .null, 1),
  (2, .iconst 0, 1, (.int (0)), 0),
  (3, .istore_n 3, 1, .null, 3),
  (4, .iload_n 3, 1, .null, 3),
  (5, .bipush (7), 2, (.int (7)), 0),
  (7, .if_icmp .ge (76), 3, .null, 83),
  (10, .aload_n 0, 1, .null, 0),
  (11, .getfield 257, 3, .null, 0),
  (14, .aload_n 0, 1, .null, 0),
  (15, .getfield 260, 3, .null, 0),
  (18, .if_icmp .lt (10), 3, .null, 28),
  (21, .aload_n 0, 1, .null, 0),
  (22, .iconst 1, 1, (.int (1)), 0),
  (23, .putfield 355, 3, .null, 0),
  (26, .lconst 0, 1, (.long (0)), 0),
  (27, .lreturn, 1, .null, 0),
  (28, .aload_n 0, 1, .null, 0),
  (29, .getfield 7, 3, .null, 0),
  (32, .aload_n 0, 1, .null, 0),
  (33, .getfield 257, 3, .null, 0),
  (36, .baload, 1, .null, 0),
  (37, .sipush (255), 3, (.int (255)), 0),
  (40, .iand, 1, .null, 0),
  (41, .istore 4, 2, .null, 4),
  (43, .aload_n 0, 1, .null, 0),
  (44, .dup, 1, .null, 0),
  (45, .getfield 257, 3, .null, 0),
  (48, .iconst 1, 1, (.int (1)), 0),
  (49, .iadd, 1, .null, 0),
  (50, .putfield 257, 3, .null, 0),
  (53, .lload_n 1, 1, .null, 1),
  (54, .iload 4, 2, .null, 4),
  (56, .bipush (127), 2, (.int (127)), 0),
  (58, .iand, 1, .null, 0),
  (59, .i2l, 1, .null, 0),
  (60, .bipush (7), 2, (.int (7)), 0),
  (62, .iload_n 3, 1, .null, 3),
  (63, .imul, 1, .null, 0),
  (64, .lshl, 1, .null, 0),
  (65, .lor, 1, .null, 0),
  (66, .lstore_n 1, 1, .null, 1),
  (67, .iload 4, 2, .null, 4),
  (69, .sipush (128), 3, (.int (128)), 0),
  (72, .if_icmp .ge (5), 3, .null, 77),
  (75, .lload_n 1, 1, .null, 1),
  (76, .lreturn, 1, .null, 0),
  (77, .iinc 3 (1), 3, (.int (1)), 3),
  (80, .goto (-76), 3, .null, 4),
  (83, .aload_n 0, 1, .null, 0),
  (84, .iconst 1, 1, (.int (1)), 0),
  (85, .putfield 355, 3, .null, 0),
  (88, .lconst 0, 1, (.long (0)), 0),
  (89, .lreturn, 1, .null, 0)]
noncomputable def m_X11_readNumber : ab_M := (c_X11_readNumber, [(0, [0]), (4, [0, 1, 3])],
  [(7, 11, 0, 3), (257, 11, 33, 0), (260, 11, 34, 0), (355, 11, 52, 1)],
  [],
  [],
  [], 5, 3)
theorem one_X11_readNumber : ab_oneM m_X11_readNumber := fun _ h => absurd h List.not_mem_nil
noncomputable def f_X11_readNumber (l0 : Nat) (st : ab_S) : Option ab_R := ab_rc st l0 11 (ab_lim m_X11_readNumber 0 [.ref l0] [] st)
noncomputable def L_X11_readNumber_4 (l0 : Nat) (l1 : Int64) (l3 : Int32) (st : ab_S) : Option ab_R := ab_lim m_X11_readNumber 4 [.ref l0, .long l1, .int l3] [] st
noncomputable def g_X11_readNumber : ab_G := fun as st k => match as with
  | [.ref a0] => ab_rl (f_X11_readNumber a0 st) (fun x t => k [.long x] t)
  | _ => none
theorem o_X11_readNumber : ab_one g_X11_readNumber := by
  intro as st k r h
  unfold g_X11_readNumber at h ⊢
  split at h
  · exact one_rl h
  · cases h
set_option maxRecDepth 100000 in
theorem e_X11_readNumber_0 (l0 : Nat) (st : ab_S) : f_X11_readNumber l0 st =
    ab_rc st l0 11 (
    L_X11_readNumber_4 l0 (0 : Int64) (0 : Int32) st) := congrArg (ab_rc st l0 11) ((lm_eq one_X11_readNumber 0 _ _ _).trans rfl)
set_option maxRecDepth 100000 in
theorem e_X11_readNumber_4 (l0 : Nat) (l1 : Int64) (l3 : Int32) (st : ab_S) : L_X11_readNumber_4 l0 l1 l3 st =
    if (7 : Int32) ≤ l3
    then Option.bind (ab_pZ st l0 11 52 (1 : Int32)) fun s1 =>
      some (some (.long (0 : Int64)), s1)
    else Option.bind (ab_gI st l0 11 33) fun x2 =>
      Option.bind (ab_gI st l0 11 34) fun x3 =>
      if x2 < x3
      then Option.bind (ab_gR st l0 11 0) fun x4 =>
        Option.bind (ab_gI st l0 11 33) fun x5 =>
        Option.bind (ab_rB st x4 x5) fun x6 =>
        Option.bind (ab_gI st l0 11 33) fun x7 =>
        Option.bind (ab_pI st l0 11 33 (x7 + (1 : Int32))) fun s8 =>
        if (128 : Int32) ≤ (x6 &&& (255 : Int32))
        then L_X11_readNumber_4 l0 (l1 ||| (((x6 &&& (255 : Int32)) &&& (127 : Int32)).toInt64 <<< (((7 : Int32) * l3).toInt64 &&& 63))) (l3 + (1 : Int32)) s8
        else some (some (.long (l1 ||| (((x6 &&& (255 : Int32)) &&& (127 : Int32)).toInt64 <<< (((7 : Int32) * l3).toInt64 &&& 63)))), s8)
      else Option.bind (ab_pZ st l0 11 52 (1 : Int32)) fun s9 =>
        some (some (.long (0 : Int64)), s9) := (lm_eq one_X11_readNumber 4 _ _ _).trans rfl
def c_X11_spellOne : List (Nat × ab_I) := [(0, .aload_n 0, 1, .null, 0),
  (1, .getfield 117, 3, .null, 0),
  (4, .aload_n 0, 1, .null, 0),
  (5, .getfield 132, 3, .null, 0),
  (8, .iload_n 1, 1, .null, 1),
  (9, .iaload, 1, .null, 0),
  (10, .laload, 1, .null, 0),
  (11, .lstore_n 2, 1, .null, 2),
  (12, .lload_n 2, 1, .null, 2),
  (13, .ldc2_w 224, 3, (.long (-1)), 0),
  (16, .lcmp, 1, .null, 0),
  (17, .ifCond .ne (5), 3, .null, 22),
  (20, .iconst 1, 1, (.int (1)), 0),
  (21, .ireturn, 1, .null, 0),
  (22, .aload_n 0, 1, .null, 0),
  (23, .getfield 138, 3, .null, 0),
  (26, .iload_n 1, 1, .null, 1),
  (27, .laload, 1, .null, 0),
  (28, .lload_n 2, 1, .null, 2),
  (29, .ladd, 1, .null, 0),
  (30, .lstore 4, 2, .null, 4),
  (32, .aload_n 0, 1, .null, 0),
  (33, .getfield 24, 3, .null, 0),
  (36, .iconst 4, 1, (.int (4)), 0),
  (37, .iaload, 1, .null, 0),
  (38, .sipush (200), 3, (.int (200)), 0),
  (41, .if_icmp .eq (15), 3, .null, 56),
  (44, .lload 4, 2, .null, 4),
  (46, .lconst 0, 1, (.long (0)), 0),
  (47, .ldc2_w 163, 3, (.long (1000000000000)), 0),
  (50, .invokestatic 146, 3, .null, 0),
  (53, .ifCond .ne (5), 3, .null, 58),
  (56, .iconst 0, 1, (.int (0)), 0),
  (57, .ireturn, 1, .null, 0),
  (58, .aload_n 0, 1, .null, 0),
  (59, .iconst 4, 1, (.int (4)), 0),
  (60, .aload_n 0, 1, .null, 0),
  (61, .getfield 141, 3, .null, 0),
  (64, .iconst 0, 1, (.int (0)), 0),
  (65, .iload_n 1, 1, .null, 1),
  (66, .lload 4, 2, .null, 4),
  (68, .invokevirtual 172, 3, .null, 0),
  (71, .aload_n 0, 1, .null, 0),
  (72, .getfield 24, 3, .null, 0),
  (75, .iconst 4, 1, (.int (4)), 0),
  (76, .iaload, 1, .null, 0),
  (77, .iconst 2, 1, (.int (2)), 0),
  (78, .if_icmp .lt (28), 3, .null, 106),
  (81, .aload_n 0, 1, .null, 0),
  (82, .iconst 4, 1, (.int (4)), 0),
  (83, .aload_n 0, 1, .null, 0),
  (84, .getfield 24, 3, .null, 0),
  (87, .iconst 4, 1, (.int (4)), 0),
  (88, .iaload, 1, .null, 0),
  (89, .iconst 2, 1, (.int (2)), 0),
  (90, .isub, 1, .null, 0),
  (91, .iconst 4, 1, (.int (4)), 0),
  (92, .aload_n 0, 1, .null, 0),
  (93, .getfield 24, 3, .null, 0),
  (96, .iconst 4, 1, (.int (4)), 0),
  (97, .iaload, 1, .null, 0),
  (98, .iconst 1, 1, (.int (1)), 0),
  (99, .isub, 1, .null, 0),
  (100, .invokevirtual 331, 3, .null, 0),
  (103, .ifCond .ge (7), 3, .null, 110),
  (106, .iconst 1, 1, (.int (1)), 0),
  (107, .goto (4), 3, .null, 111),
  (110, .iconst 0, 1, (.int (0)), 0),
  (111, .ireturn, 1, .null, 0)]
noncomputable def m_X11_spellOne : ab_M := (c_X11_spellOne, [(0, [0, 1])],
  [(24, 11, 5, 3), (117, 11, 46, 3), (132, 11, 53, 3), (138, 11, 55, 3), (141, 11, 56, 3)],
  [],
  [(146, 0, 3, g_X11_isIn), (172, 1, 6, g_X11_append), (331, 1, 5, g_X11_compareTerms)],
  [], 6, 2)
theorem one_X11_spellOne : ab_oneM m_X11_spellOne := List.forall_mem_cons.mpr ⟨o_X11_isIn, List.forall_mem_cons.mpr ⟨o_X11_append, List.forall_mem_cons.mpr ⟨o_X11_compareTerms, fun _ h => absurd h List.not_mem_nil⟩⟩⟩
noncomputable def f_X11_spellOne (l0 : Nat) (l1 : Int32) (st : ab_S) : Option ab_R := ab_rc st l0 11 (ab_lim m_X11_spellOne 0 [.ref l0, .int l1] [] st)
noncomputable def g_X11_spellOne : ab_G := fun as st k => match as with
  | [.ref a0, .int a1] => ab_ri (f_X11_spellOne a0 a1 st) (fun x t => k [.int x] t)
  | _ => none
theorem o_X11_spellOne : ab_one g_X11_spellOne := by
  intro as st k r h
  unfold g_X11_spellOne at h ⊢
  split at h
  · exact one_ri h
  · cases h
set_option maxRecDepth 100000 in
theorem e_X11_spellOne_0 (l0 : Nat) (l1 : Int32) (st : ab_S) : f_X11_spellOne l0 l1 st =
    ab_rc st l0 11 (
    Option.bind (ab_gR st l0 11 46) fun x1 =>
    Option.bind (ab_gR st l0 11 53) fun x2 =>
    Option.bind (ab_rI st x2 l1) fun x3 =>
    Option.bind (ab_rJ st x1 x3) fun x4 =>
    if (lg_cmp x4 (-1 : Int64)) = 0
    then ab_z (1 : Int32) (some (some (.int (1 : Int32)), st))
    else Option.bind (ab_gR st l0 11 55) fun x5 =>
      Option.bind (ab_rJ st x5 l1) fun x6 =>
      Option.bind (ab_gR st l0 11 5) fun x7 =>
      Option.bind (ab_rI st x7 (4 : Int32)) fun x8 =>
      if x8 = (200 : Int32)
      then ab_z (0 : Int32) (some (some (.int (0 : Int32)), st))
      else ab_ri (f_X11_isIn (x6 + x4) (0 : Int64) (1000000000000 : Int64) st) fun x10 s9 =>
        if x10 = 0
        then ab_z (0 : Int32) (some (some (.int (0 : Int32)), s9))
        else Option.bind (ab_gR s9 l0 11 56) fun x11 =>
          ab_rv (f_X11_append l0 (4 : Int32) x11 (0 : Int32) l1 (x6 + x4) s9) fun s12 =>
          Option.bind (ab_gR s12 l0 11 5) fun x13 =>
          Option.bind (ab_rI s12 x13 (4 : Int32)) fun x14 =>
          if x14 < (2 : Int32)
          then ab_z (1 : Int32) (some (some (.int (1 : Int32)), s12))
          else Option.bind (ab_gR s12 l0 11 5) fun x15 =>
            Option.bind (ab_rI s12 x15 (4 : Int32)) fun x16 =>
            Option.bind (ab_gR s12 l0 11 5) fun x17 =>
            Option.bind (ab_rI s12 x17 (4 : Int32)) fun x18 =>
            ab_ri (f_X11_compareTerms l0 (4 : Int32) (x16 - (2 : Int32)) (4 : Int32) (x18 - (1 : Int32)) s12) fun x20 s19 =>
            if 0 ≤ x20
            then ab_z (0 : Int32) (some (some (.int (0 : Int32)), s19))
            else ab_z (1 : Int32) (some (some (.int (1 : Int32)), s19))) := congrArg (ab_rc st l0 11) ((lm_eq one_X11_spellOne 0 _ _ _).trans rfl)
def c_X11_spell : List (Nat × ab_I) := [(0, .aload_n 0, 1, .null, 0),
  (1, .getfield 24, 3, .null, 0),
  (4, .iconst 4, 1, (.int (4)), 0),
  (5, .iconst 0, 1, (.int (0)), 0),
  (6, .iastore, 1, .null, 0),
  (7, .iconst 0, 1, (.int (0)), 0),
  (8, .istore_n 3, 1, .null, 3),
  (9, .iconst 1, 1, (.int (1)), 0),
  (10, .istore 4, 2, .null, 4),
  (12, .aload_n 0, 1, .null, 0),
  (13, .getfield 132, 3, .null, 0),
  (16, .iconst 0, 1, (.int (0)), 0),
  (17, .iconst 0, 1, (.int (0)), 0),
  (18, .iastore, 1, .null, 0),
  (19, .aload_n 0, 1, .null, 0),
  (20, .getfield 135, 3, .null, 0),
  (23, .iconst 0, 1, (.int (0)), 0),
  (24, .aload_n 0, 1, .null, 0),
  (25, .getfield 120, 3, .null, 0),
  (28, .iconst 0, 1, (.int (0)), 0),
  (29, .iaload, 1, .null, 0),
  (30, .iastore, 1, .null, 0),
  (31, .aload_n 0, 1, .null, 0),
  (32, .getfield 138, 3, .null, 0),
  (35, .iconst 0, 1, (.int (0)), 0),
  (36, .lload_n 1, 1, .null, 1),
  (37, .lastore, 1, .null, 0),
  (38, .aload_n 0, 1, .null, 0),
  (39, .iconst 0, 1, (.int (0)), 0),
  (40, .invokevirtual 375, 3, .null, 0),
  (43, .ifCond .ne (5), 3, .null, 48),
  (46, .iconst 0, 1, (.int (0)), 0),
  (47, .ireturn, 1, .null, 0),
  (48, .iload_n 3, 1, .null, 3),
  (49, .ifCond .lt (155), 3, .null, 204),
  (52, .aload_n 0, 1, .null, 0),
  (53, .getfield 132, 3, .null, 0),
  (56, .iload_n 3, 1, .null, 3),
  (57, .iaload, 1, .null, 0),
  (58, .istore 5, 2, .null, 5),
  (60, .aload_n 0, 1, .null, 0),
  (61, .getfield 135, 3, .null, 0),
  (64, .iload_n 3, 1, .null, 3),
  (65, .iaload, 1, .null, 0),
  (66, .aload_n 0, 1, .null, 0),
  (67, .getfield 120, 3, .null, 0),
  (70, .iload 5, 2, .null, 5),
  (72, .iconst 1, 1, (.int (1)), 0),
  (73, .iadd, 1, .null, 0),
  (74, .iaload, 1, .null, 0),
  (75, .if_icmp .ne (9), 3, .null, 84),
  (78, .iinc 3 (-1), 3, (.int (-1)), 3),
  (81, .goto (120), 3, .null, 201),
  (84, .aload_n 0, 1, .null, 0),
  (85, .getfield 135, 3, .null, 0),
  (88, .iload_n 3, 1, .null, 3),
  (89, .iaload, 1, .null, 0),
  (90, .istore 6, 2, .null, 6),
  (92, .aload_n 0, 1, .null, 0),
  (93, .getfield 135, 3, .null, 0),
  (96, .iload_n 3, 1, .null, 3),
  (97, .dup2, 1, .null, 0),
  (98, .iaload, 1, .null, 0),
  (99, .iconst 1, 1, (.int (1)), 0),
  (100, .iadd, 1, .null, 0),
  (101, .iastore, 1, .null, 0),
  (102, .iinc 4 (1), 3, (.int (1)), 4),
  (105, .iload_n 3, 1, .null, 3),
  (106, .bipush (12), 2, (.int (12)), 0),
  (108, .if_icmp .eq (11), 3, .null, 119),
  (111, .iload 4, 2, .null, 4),
  (113, .sipush (2401), 3, (.int (2401)), 0),
  (116, .if_icmp .le (5), 3, .null, 121),
  (119, .iconst 0, 1, (.int (0)), 0),
  (120, .ireturn, 1, .null, 0),
  (121, .aload_n 0, 1, .null, 0),
  (122, .getfield 141, 3, .null, 0),
  (125, .iload_n 3, 1, .null, 3),
  (126, .aload_n 0, 1, .null, 0),
  (127, .getfield 123, 3, .null, 0),
  (130, .iload 6, 2, .null, 6),
  (132, .iaload, 1, .null, 0),
  (133, .i2b, 1, .null, 0),
  (134, .bastore, 1, .null, 0),
  (135, .aload_n 0, 1, .null, 0),
  (136, .getfield 138, 3, .null, 0),
  (139, .iload_n 3, 1, .null, 3),
  (140, .iconst 1, 1, (.int (1)), 0),
  (141, .iadd, 1, .null, 0),
  (142, .aload_n 0, 1, .null, 0),
  (143, .getfield 138, 3, .null, 0),
  (146, .iload_n 3, 1, .null, 3),
  (147, .laload, 1, .null, 0),
  (148, .aload_n 0, 1, .null, 0),
  (149, .getfield 129, 3, .null, 0),
  (152, .iload 6, 2, .null, 6),
  (154, .laload, 1, .null, 0),
  (155, .ladd, 1, .null, 0),
  (156, .lastore, 1, .null, 0),
  (157, .iinc 3 (1), 3, (.int (1)), 3),
  (160, .aload_n 0, 1, .null, 0),
  (161, .getfield 132, 3, .null, 0),
  (164, .iload_n 3, 1, .null, 3),
  (165, .aload_n 0, 1, .null, 0),
  (166, .getfield 126, 3, .null, 0),
  (169, .iload 6, 2, .null, 6),
  (171, .iaload, 1, .null, 0),
  (172, .iastore, 1, .null, 0),
  (173, .aload_n 0, 1, .null, 0),
  (174, .getfield 135, 3, .null, 0),
  (177, .iload_n 3, 1, .null, 3),
  (178, .aload_n 0, 1, .null, 0),
  (179, .getfield 120, 3, .null, 0),
  (182, .aload_n 0, 1, .null, 0),
  (183, .getfield 126, 3, .null, 0),
  (186, .iload 6, 2, .null, 6),
  (188, .iaload, 1, .null, 0),
  (189, .iaload, 1, .null, 0),
  (190, .iastore, 1, .null, 0),
  (191, .aload_n 0, 1, .null, 0),
  (192, .iload_n 3, 1, .null, 3),
  (193, .invokevirtual 375, 3, .null, 0),
  (196, .ifCond .ne (5), 3, .null, 201),
  (199, .iconst 0, 1, (.int (0)), 0),
  (200, .ireturn, 1, .null, 0),
  (201, .goto (-153), 3, .null, 48),
  (204, .iconst 1, 1, (.int (1)), 0),
  (205, .ireturn, 1, .null, 0)]
noncomputable def m_X11_spell : ab_M := (c_X11_spell, [(0, [0, 1]), (48, [0, 3, 4]), (201, [0, 3, 4])],
  [(24, 11, 5, 3), (120, 11, 47, 3), (123, 11, 48, 3), (126, 11, 49, 3), (129, 11, 50, 3), (132, 11, 53, 3), (135, 11, 54, 3), (138, 11, 55, 3), (141, 11, 56, 3)],
  [],
  [(375, 1, 2, g_X11_spellOne)],
  [], 7, 2)
theorem one_X11_spell : ab_oneM m_X11_spell := List.forall_mem_cons.mpr ⟨o_X11_spellOne, fun _ h => absurd h List.not_mem_nil⟩
noncomputable def f_X11_spell (l0 : Nat) (l1 : Int64) (st : ab_S) : Option ab_R := ab_rc st l0 11 (ab_lim m_X11_spell 0 [.ref l0, .long l1] [] st)
noncomputable def L_X11_spell_48 (l0 : Nat) (l3 : Int32) (l4 : Int32) (st : ab_S) : Option ab_R := ab_lim m_X11_spell 48 [.ref l0, .int l3, .int l4] [] st
noncomputable def L_X11_spell_201 (l0 : Nat) (l3 : Int32) (l4 : Int32) (st : ab_S) : Option ab_R := ab_lim m_X11_spell 201 [.ref l0, .int l3, .int l4] [] st
noncomputable def g_X11_spell : ab_G := fun as st k => match as with
  | [.ref a0, .long a1] => ab_ri (f_X11_spell a0 a1 st) (fun x t => k [.int x] t)
  | _ => none
theorem o_X11_spell : ab_one g_X11_spell := by
  intro as st k r h
  unfold g_X11_spell at h ⊢
  split at h
  · exact one_ri h
  · cases h
set_option maxRecDepth 100000 in
theorem e_X11_spell_0 (l0 : Nat) (l1 : Int64) (st : ab_S) : f_X11_spell l0 l1 st =
    ab_rc st l0 11 (
    Option.bind (ab_gR st l0 11 5) fun x1 =>
    Option.bind (ab_wI st x1 (4 : Int32) (0 : Int32)) fun s2 =>
    Option.bind (ab_gR s2 l0 11 53) fun x3 =>
    Option.bind (ab_wI s2 x3 (0 : Int32) (0 : Int32)) fun s4 =>
    Option.bind (ab_gR s4 l0 11 54) fun x5 =>
    Option.bind (ab_gR s4 l0 11 47) fun x6 =>
    Option.bind (ab_rI s4 x6 (0 : Int32)) fun x7 =>
    Option.bind (ab_wI s4 x5 (0 : Int32) x7) fun s8 =>
    Option.bind (ab_gR s8 l0 11 55) fun x9 =>
    Option.bind (ab_wJ s8 x9 (0 : Int32) l1) fun s10 =>
    ab_ri (f_X11_spellOne l0 (0 : Int32) s10) fun x12 s11 =>
    if x12 = 0
    then ab_z (0 : Int32) (some (some (.int (0 : Int32)), s11))
    else L_X11_spell_48 l0 (0 : Int32) (1 : Int32) s11) := congrArg (ab_rc st l0 11) ((lm_eq one_X11_spell 0 _ _ _).trans rfl)
set_option maxRecDepth 100000 in
theorem e_X11_spell_48 (l0 : Nat) (l3 : Int32) (l4 : Int32) (st : ab_S) : L_X11_spell_48 l0 l3 l4 st =
    if l3 < 0
    then ab_z (1 : Int32) (some (some (.int (1 : Int32)), st))
    else Option.bind (ab_gR st l0 11 53) fun x1 =>
      Option.bind (ab_rI st x1 l3) fun x2 =>
      Option.bind (ab_gR st l0 11 54) fun x3 =>
      Option.bind (ab_rI st x3 l3) fun x4 =>
      Option.bind (ab_gR st l0 11 47) fun x5 =>
      Option.bind (ab_rI st x5 (x2 + (1 : Int32))) fun x6 =>
      if x4 = x6
      then L_X11_spell_201 l0 (l3 + (-1 : Int32)) l4 st
      else Option.bind (ab_gR st l0 11 54) fun x7 =>
        Option.bind (ab_rI st x7 l3) fun x8 =>
        Option.bind (ab_gR st l0 11 54) fun x9 =>
        Option.bind (ab_rI st x9 l3) fun x10 =>
        Option.bind (ab_wI st x9 l3 (x10 + (1 : Int32))) fun s11 =>
        if l3 = (12 : Int32)
        then ab_z (0 : Int32) (some (some (.int (0 : Int32)), s11))
        else if (l4 + (1 : Int32)) ≤ (2401 : Int32)
          then Option.bind (ab_gR s11 l0 11 56) fun x12 =>
            Option.bind (ab_gR s11 l0 11 48) fun x13 =>
            Option.bind (ab_rI s11 x13 x8) fun x14 =>
            Option.bind (ab_wB s11 x12 l3 x14.toInt8.toInt32) fun s15 =>
            Option.bind (ab_gR s15 l0 11 55) fun x16 =>
            Option.bind (ab_gR s15 l0 11 55) fun x17 =>
            Option.bind (ab_rJ s15 x17 l3) fun x18 =>
            Option.bind (ab_gR s15 l0 11 50) fun x19 =>
            Option.bind (ab_rJ s15 x19 x8) fun x20 =>
            Option.bind (ab_wJ s15 x16 (l3 + (1 : Int32)) (x18 + x20)) fun s21 =>
            Option.bind (ab_gR s21 l0 11 53) fun x22 =>
            Option.bind (ab_gR s21 l0 11 49) fun x23 =>
            Option.bind (ab_rI s21 x23 x8) fun x24 =>
            Option.bind (ab_wI s21 x22 (l3 + (1 : Int32)) x24) fun s25 =>
            Option.bind (ab_gR s25 l0 11 54) fun x26 =>
            Option.bind (ab_gR s25 l0 11 47) fun x27 =>
            Option.bind (ab_gR s25 l0 11 49) fun x28 =>
            Option.bind (ab_rI s25 x28 x8) fun x29 =>
            Option.bind (ab_rI s25 x27 x29) fun x30 =>
            Option.bind (ab_wI s25 x26 (l3 + (1 : Int32)) x30) fun s31 =>
            ab_ri (f_X11_spellOne l0 (l3 + (1 : Int32)) s31) fun x33 s32 =>
            if x33 = 0
            then ab_z (0 : Int32) (some (some (.int (0 : Int32)), s32))
            else L_X11_spell_201 l0 (l3 + (1 : Int32)) (l4 + (1 : Int32)) s32
          else ab_z (0 : Int32) (some (some (.int (0 : Int32)), s11)) := (lm_eq one_X11_spell 48 _ _ _).trans rfl
set_option maxRecDepth 100000 in
theorem e_X11_spell_201 (l0 : Nat) (l3 : Int32) (l4 : Int32) (st : ab_S) : L_X11_spell_201 l0 l3 l4 st =
    L_X11_spell_48 l0 l3 l4 st := (lm_eq one_X11_spell 201 _ _ _).trans rfl
def c_X11_unpack : List (Nat × ab_I) := [(0, .aload_n 0, 1, .null, 0),
  (1, .iconst 0, 1, (.int (0)), 0),
  (2, .putfield 257, 3, .null, 0),
  (5, .aload_n 0, 1, .null, 0),
  (6, .iload_n 1, 1, .null, 1),
  (7, .putfield 260, 3, .null, 0),
  (10, .aload_n 0, 1, .null, 0),
  (11, .iconst 0, 1, (.int (0)), 0),
  (12, .putfield 355, 3, .null, 0),
  (15, .aload_n 0, 1, .null, 0),
  (16, .invokevirtual 359, 3, .null, 0),
  (19, .bipush (84), 2, (.int (84)), 0),
  (21, .if_icmp .ne (12), 3, .null, 33),
  (24, .aload_n 0, 1, .null, 0),
  (25, .invokevirtual 359, 3, .null, 0),
  (28, .bipush (77), 2, (.int (77)), 0),
  (30, .if_icmp .eq (5), 3, .null, 35),
  (33, .iconst 0, 1, (.int (0)), 0),
  (34, .ireturn, 1, .null, 0),
  (35, .aload_n 0, 1, .null, 0),
  (36, .invokevirtual 362, 3, .null, 0),
  (39, .lstore_n 2, 1, .null, 2),
  (40, .aload_n 0, 1, .null, 0),
  (41, .invokevirtual 362, 3, .null, 0),
  (44, .lstore 4, 2, .null, 4),
  (46, .aload_n 0, 1, .null, 0),
  (47, .getfield 355, 3, .null, 0),
  (50, .ifCond .ne (19), 3, .null, 69),
  (53, .lload 4, 2, .null, 4),
  (55, .lconst 1, 1, (.long (1)), 0),
  (56, .lcmp, 1, .null, 0),
  (57, .ifCond .lt (12), 3, .null, 69),
  (60, .lload 4, 2, .null, 4),
  (62, .ldc2_w 366, 3, (.long (2401)), 0),
  (65, .lcmp, 1, .null, 0),
  (66, .ifCond .le (5), 3, .null, 71),
  (69, .iconst 0, 1, (.int (0)), 0),
  (70, .ireturn, 1, .null, 0),
  (71, .aload_n 0, 1, .null, 0),
  (72, .iconst 0, 1, (.int (0)), 0),
  (73, .putfield 368, 3, .null, 0),
  (76, .iconst 0, 1, (.int (0)), 0),
  (77, .istore 6, 2, .null, 6),
  (79, .iload 6, 2, .null, 6),
  (81, .i2l, 1, .null, 0),
  (82, .lload 4, 2, .null, 4),
  (84, .lcmp, 1, .null, 0),
  (85, .ifCond .ge (189), 3, .null, 274),
  (88, .aload_n 0, 1, .null, 0),
  (89, .getfield 355, 3, .null, 0),
  (92, .ifCond .ne (182), 3, .null, 274),
  (95, .aload_n 0, 1, .null, 0),
  (96, .invokevirtual 359, 3, .null, 0),
  (99, .istore 7, 2, .null, 7),
  (101, .aload_n 0, 1, .null, 0),
  (102, .getfield 117, 3, .null, 0),
  (105, .iload 6, 2, .null, 6),
  (107, .iload 7, 2, .null, 7),
  (109, .iconst 1, 1, (.int (1)), 0),
  (110, .if_icmp .ne (10), 3, .null, 120),
  (113, .aload_n 0, 1, .null, 0),
  (114, .invokevirtual 362, 3, .null, 0),
  (117, .goto (6), 3, .null, 123),
  (120, .ldc2_w 224, 3, (.long (-1)), 0),
  (123, .lastore, 1, .null, 0),
  (124, .aload_n 0, 1, .null, 0),
  (125, .aload_n 0, 1, .null, 0),
  (126, .getfield 355, 3, .null, 0),
  (129, .ifCond .ne (9), 3, .null, 138),
  (132, .iload 7, 2, .null, 7),
  (134, .iconst 1, 1, (.int (1)), 0),
  (135, .if_icmp .le (7), 3, .null, 142),
  (138, .iconst 1, 1, (.int (1)), 0),
  (139, .goto (4), 3, .null, 143),
  (142, .iconst 0, 1, (.int (0)), 0),
  (143, .putfield 355, 3, .null, 0),
  (146, .aload_n 0, 1, .null, 0),
  (147, .invokevirtual 362, 3, .null, 0),
  (150, .lstore 8, 2, .null, 8),
  (152, .aload_n 0, 1, .null, 0),
  (153, .getfield 120, 3, .null, 0),
  (156, .iload 6, 2, .null, 6),
  (158, .aload_n 0, 1, .null, 0),
  (159, .getfield 368, 3, .null, 0),
  (162, .iastore, 1, .null, 0),
  (163, .lconst 0, 1, (.long (0)), 0),
  (164, .lstore 10, 2, .null, 10),
  (166, .lload 10, 2, .null, 10),
  (168, .lload 8, 2, .null, 8),
  (170, .lcmp, 1, .null, 0),
  (171, .ifCond .ge (97), 3, .null, 268),
  (174, .aload_n 0, 1, .null, 0),
  (175, .getfield 355, 3, .null, 0),
  (178, .ifCond .ne (90), 3, .null, 268),
  (181, .aload_n 0, 1, .null, 0),
  (182, .getfield 123, 3, .null, 0),
  (185, .aload_n 0, 1, .null, 0),
  (186, .getfield 368, 3, .null, 0),
  (189, .aload_n 0, 1, .null, 0),
  (190, .invokevirtual 359, 3, .null, 0),
  (193, .iastore, 1, .null, 0),
  (194, .aload_n 0, 1, .null, 0),
  (195, .invokevirtual 362, 3, .null, 0),
  (198, .lstore 12, 2, .null, 12),
  (200, .aload_n 0, 1, .null, 0),
  (201, .getfield 129, 3, .null, 0),
  (204, .aload_n 0, 1, .null, 0),
  (205, .getfield 368, 3, .null, 0),
  (208, .aload_n 0, 1, .null, 0),
  (209, .invokevirtual 362, 3, .null, 0),
  (212, .lastore, 1, .null, 0),
  (213, .aload_n 0, 1, .null, 0),
  (214, .aload_n 0, 1, .null, 0),
  (215, .getfield 355, 3, .null, 0),
  (218, .ifCond .ne (11), 3, .null, 229),
  (221, .lload 12, 2, .null, 12),
  (223, .lload 4, 2, .null, 4),
  (225, .lcmp, 1, .null, 0),
  (226, .ifCond .lt (7), 3, .null, 233),
  (229, .iconst 1, 1, (.int (1)), 0),
  (230, .goto (4), 3, .null, 234),
  (233, .iconst 0, 1, (.int (0)), 0),
  (234, .putfield 355, 3, .null, 0),
  (237, .aload_n 0, 1, .null, 0),
  (238, .getfield 126, 3, .null, 0),
  (241, .aload_n 0, 1, .null, 0),
  (242, .getfield 368, 3, .null, 0),
  (245, .lload 12, 2, .null, 12),
  (247, .l2i, 1, .null, 0),
  (248, .iastore, 1, .null, 0),
  (249, .aload_n 0, 1, .null, 0),
  (250, .dup, 1, .null, 0),
  (251, .getfield 368, 3, .null, 0),
  (254, .iconst 1, 1, (.int (1)), 0),
  (255, .iadd, 1, .null, 0),
  (256, .putfield 368, 3, .null, 0),
  (259, .lload 10, 2, .null, 10),
  (261, .lconst 1, 1, (.long (1)), 0),
  (262, .ladd, 1, .null, 0),
  (263, .lstore 10, 2, .null, 10),
  (265, .goto (-99), 3, .null, 166),
  (268, .iinc 6 (1), 3, (.int (1)), 6),
  (271, .goto (-192), 3, .null, 79),
  (274, .aload_n 0, 1, .null, 0),
  (275, .getfield 355, 3, .null, 0),
  (278, .ifCond .ne (14), 3, .null, 292),
  (281, .aload_n 0, 1, .null, 0),
  (282, .getfield 257, 3, .null, 0),
  (285, .aload_n 0, 1, .null, 0),
  (286, .getfield 260, 3, .null, 0),
  (289, .if_icmp .ge (5), 3, .null, 294),
  (292, .iconst 0, 1, (.int (0)), 0),
  (293, .ireturn, 1, .null, 0),
  (294, .aload_n 0, 1, .null, 0),
  (295, .getfield 120, 3, .null, 0),
  (298, .lload 4, 2, .null, 4),
  (300, .l2i, 1, .null, 0),
  (301, .aload_n 0, 1, .null, 0),
  (302, .getfield 368, 3, .null, 0),
  (305, .iastore, 1, .null, 0),
  (306, .aload_n 0, 1, .null, 0),
  (307, .lload_n 2, 1, .null, 2),
  (308, .invokevirtual 371, 3, .null, 0),
  (311, .ireturn, 1, .null, 0)]
noncomputable def m_X11_unpack : ab_M := (c_X11_unpack, [(0, [0, 1]), (79, [0, 2, 4, 6]), (123, [0, 2, 4, 6, 7]), (138, [0, 2, 4, 6]), (143, [0, 2, 4, 6]), (166, [0, 2, 4, 6, 8, 10]), (229, [0, 2, 4, 6, 8, 10, 12]), (234, [0, 2, 4, 6, 8, 10, 12]), (268, [0, 2, 4, 6]), (274, [0, 2, 4])],
  [(117, 11, 46, 3), (120, 11, 47, 3), (123, 11, 48, 3), (126, 11, 49, 3), (129, 11, 50, 3), (257, 11, 33, 0), (260, 11, 34, 0), (355, 11, 52, 1), (368, 11, 51, 0)],
  [],
  [(359, 1, 1, g_X11_readByte), (362, 1, 1, g_X11_readNumber), (371, 1, 2, g_X11_spell)],
  [], 14, 2)
theorem one_X11_unpack : ab_oneM m_X11_unpack := List.forall_mem_cons.mpr ⟨o_X11_readByte, List.forall_mem_cons.mpr ⟨o_X11_readNumber, List.forall_mem_cons.mpr ⟨o_X11_spell, fun _ h => absurd h List.not_mem_nil⟩⟩⟩
noncomputable def f_X11_unpack (l0 : Nat) (l1 : Int32) (st : ab_S) : Option ab_R := ab_rc st l0 11 (ab_lim m_X11_unpack 0 [.ref l0, .int l1] [] st)
noncomputable def L_X11_unpack_79 (l0 : Nat) (l2 : Int64) (l4 : Int64) (l6 : Int32) (st : ab_S) : Option ab_R := ab_lim m_X11_unpack 79 [.ref l0, .long l2, .long l4, .int l6] [] st
noncomputable def L_X11_unpack_123 (l0 : Nat) (l2 : Int64) (l4 : Int64) (l6 : Int32) (l7 : Int32) (t0 : Nat) (t1 : Int32) (t2 : Int64) (st : ab_S) : Option ab_R := ab_lim m_X11_unpack 123 [.ref l0, .long l2, .long l4, .int l6, .int l7] [.long t2, .int t1, .ref t0] st
noncomputable def L_X11_unpack_138 (l0 : Nat) (l2 : Int64) (l4 : Int64) (l6 : Int32) (t0 : Nat) (st : ab_S) : Option ab_R := ab_lim m_X11_unpack 138 [.ref l0, .long l2, .long l4, .int l6] [.ref t0] st
noncomputable def L_X11_unpack_143 (l0 : Nat) (l2 : Int64) (l4 : Int64) (l6 : Int32) (t0 : Nat) (t1 : Int32) (st : ab_S) : Option ab_R := ab_lim m_X11_unpack 143 [.ref l0, .long l2, .long l4, .int l6] [.int t1, .ref t0] st
noncomputable def L_X11_unpack_166 (l0 : Nat) (l2 : Int64) (l4 : Int64) (l6 : Int32) (l8 : Int64) (l10 : Int64) (st : ab_S) : Option ab_R := ab_lim m_X11_unpack 166 [.ref l0, .long l2, .long l4, .int l6, .long l8, .long l10] [] st
noncomputable def L_X11_unpack_229 (l0 : Nat) (l2 : Int64) (l4 : Int64) (l6 : Int32) (l8 : Int64) (l10 : Int64) (l12 : Int64) (t0 : Nat) (st : ab_S) : Option ab_R := ab_lim m_X11_unpack 229 [.ref l0, .long l2, .long l4, .int l6, .long l8, .long l10, .long l12] [.ref t0] st
noncomputable def L_X11_unpack_234 (l0 : Nat) (l2 : Int64) (l4 : Int64) (l6 : Int32) (l8 : Int64) (l10 : Int64) (l12 : Int64) (t0 : Nat) (t1 : Int32) (st : ab_S) : Option ab_R := ab_lim m_X11_unpack 234 [.ref l0, .long l2, .long l4, .int l6, .long l8, .long l10, .long l12] [.int t1, .ref t0] st
noncomputable def L_X11_unpack_268 (l0 : Nat) (l2 : Int64) (l4 : Int64) (l6 : Int32) (st : ab_S) : Option ab_R := ab_lim m_X11_unpack 268 [.ref l0, .long l2, .long l4, .int l6] [] st
noncomputable def L_X11_unpack_274 (l0 : Nat) (l2 : Int64) (l4 : Int64) (st : ab_S) : Option ab_R := ab_lim m_X11_unpack 274 [.ref l0, .long l2, .long l4] [] st
noncomputable def g_X11_unpack : ab_G := fun as st k => match as with
  | [.ref a0, .int a1] => ab_ri (f_X11_unpack a0 a1 st) (fun x t => k [.int x] t)
  | _ => none
theorem o_X11_unpack : ab_one g_X11_unpack := by
  intro as st k r h
  unfold g_X11_unpack at h ⊢
  split at h
  · exact one_ri h
  · cases h
set_option maxRecDepth 100000 in
theorem e_X11_unpack_0 (l0 : Nat) (l1 : Int32) (st : ab_S) : f_X11_unpack l0 l1 st =
    ab_rc st l0 11 (
    Option.bind (ab_pI st l0 11 33 (0 : Int32)) fun s1 =>
    Option.bind (ab_pI s1 l0 11 34 l1) fun s2 =>
    Option.bind (ab_pZ s2 l0 11 52 (0 : Int32)) fun s3 =>
    ab_ri (f_X11_readByte l0 s3) fun x5 s4 =>
    if x5 = (84 : Int32)
    then ab_ri (f_X11_readByte l0 s4) fun x7 s6 =>
      if x7 = (77 : Int32)
      then ab_rl (f_X11_readNumber l0 s6) fun x9 s8 =>
        ab_rl (f_X11_readNumber l0 s8) fun x11 s10 =>
        Option.bind (ab_gI s10 l0 11 52) fun x12 =>
        if x12 = 0
        then if (lg_cmp x11 (1 : Int64)) < 0
          then ab_z (0 : Int32) (some (some (.int (0 : Int32)), s10))
          else if (lg_cmp x11 (2401 : Int64)) ≤ 0
            then Option.bind (ab_pI s10 l0 11 51 (0 : Int32)) fun s13 =>
              L_X11_unpack_79 l0 x9 x11 (0 : Int32) s13
            else ab_z (0 : Int32) (some (some (.int (0 : Int32)), s10))
        else ab_z (0 : Int32) (some (some (.int (0 : Int32)), s10))
      else ab_z (0 : Int32) (some (some (.int (0 : Int32)), s6))
    else ab_z (0 : Int32) (some (some (.int (0 : Int32)), s4))) := congrArg (ab_rc st l0 11) ((lm_eq one_X11_unpack 0 _ _ _).trans rfl)
set_option maxRecDepth 100000 in
theorem e_X11_unpack_79 (l0 : Nat) (l2 : Int64) (l4 : Int64) (l6 : Int32) (st : ab_S) : L_X11_unpack_79 l0 l2 l4 l6 st =
    if 0 ≤ (lg_cmp l6.toInt64 l4)
    then L_X11_unpack_274 l0 l2 l4 st
    else Option.bind (ab_gI st l0 11 52) fun x1 =>
      if x1 = 0
      then ab_ri (f_X11_readByte l0 st) fun x3 s2 =>
        Option.bind (ab_gR s2 l0 11 46) fun x4 =>
        if x3 = (1 : Int32)
        then ab_rl (f_X11_readNumber l0 s2) fun x6 s5 =>
          L_X11_unpack_123 l0 l2 l4 l6 x3 x4 l6 x6 s5
        else L_X11_unpack_123 l0 l2 l4 l6 x3 x4 l6 (-1 : Int64) s2
      else L_X11_unpack_274 l0 l2 l4 st := (lm_eq one_X11_unpack 79 _ _ _).trans rfl
set_option maxRecDepth 100000 in
theorem e_X11_unpack_123 (l0 : Nat) (l2 : Int64) (l4 : Int64) (l6 : Int32) (l7 : Int32) (t0 : Nat) (t1 : Int32) (t2 : Int64) (st : ab_S) : L_X11_unpack_123 l0 l2 l4 l6 l7 t0 t1 t2 st =
    Option.bind (ab_wJ st t0 t1 t2) fun s1 =>
    Option.bind (ab_gI s1 l0 11 52) fun x2 =>
    if x2 = 0
    then if l7 ≤ (1 : Int32)
      then L_X11_unpack_143 l0 l2 l4 l6 l0 (0 : Int32) s1
      else L_X11_unpack_138 l0 l2 l4 l6 l0 s1
    else L_X11_unpack_138 l0 l2 l4 l6 l0 s1 := (lm_eq one_X11_unpack 123 _ _ _).trans rfl
set_option maxRecDepth 100000 in
theorem e_X11_unpack_138 (l0 : Nat) (l2 : Int64) (l4 : Int64) (l6 : Int32) (t0 : Nat) (st : ab_S) : L_X11_unpack_138 l0 l2 l4 l6 t0 st =
    L_X11_unpack_143 l0 l2 l4 l6 t0 (1 : Int32) st := (lm_eq one_X11_unpack 138 _ _ _).trans rfl
set_option maxRecDepth 100000 in
theorem e_X11_unpack_143 (l0 : Nat) (l2 : Int64) (l4 : Int64) (l6 : Int32) (t0 : Nat) (t1 : Int32) (st : ab_S) : L_X11_unpack_143 l0 l2 l4 l6 t0 t1 st =
    Option.bind (ab_pZ st t0 11 52 t1) fun s1 =>
    ab_rl (f_X11_readNumber l0 s1) fun x3 s2 =>
    Option.bind (ab_gR s2 l0 11 47) fun x4 =>
    Option.bind (ab_gI s2 l0 11 51) fun x5 =>
    Option.bind (ab_wI s2 x4 l6 x5) fun s6 =>
    L_X11_unpack_166 l0 l2 l4 l6 x3 (0 : Int64) s6 := (lm_eq one_X11_unpack 143 _ _ _).trans rfl
set_option maxRecDepth 100000 in
theorem e_X11_unpack_166 (l0 : Nat) (l2 : Int64) (l4 : Int64) (l6 : Int32) (l8 : Int64) (l10 : Int64) (st : ab_S) : L_X11_unpack_166 l0 l2 l4 l6 l8 l10 st =
    if 0 ≤ (lg_cmp l10 l8)
    then L_X11_unpack_268 l0 l2 l4 l6 st
    else Option.bind (ab_gI st l0 11 52) fun x1 =>
      if x1 = 0
      then Option.bind (ab_gR st l0 11 48) fun x2 =>
        Option.bind (ab_gI st l0 11 51) fun x3 =>
        ab_ri (f_X11_readByte l0 st) fun x5 s4 =>
        Option.bind (ab_wI s4 x2 x3 x5) fun s6 =>
        ab_rl (f_X11_readNumber l0 s6) fun x8 s7 =>
        Option.bind (ab_gR s7 l0 11 50) fun x9 =>
        Option.bind (ab_gI s7 l0 11 51) fun x10 =>
        ab_rl (f_X11_readNumber l0 s7) fun x12 s11 =>
        Option.bind (ab_wJ s11 x9 x10 x12) fun s13 =>
        Option.bind (ab_gI s13 l0 11 52) fun x14 =>
        if x14 = 0
        then if (lg_cmp x8 l4) < 0
          then L_X11_unpack_234 l0 l2 l4 l6 l8 l10 x8 l0 (0 : Int32) s13
          else L_X11_unpack_229 l0 l2 l4 l6 l8 l10 x8 l0 s13
        else L_X11_unpack_229 l0 l2 l4 l6 l8 l10 x8 l0 s13
      else L_X11_unpack_268 l0 l2 l4 l6 st := (lm_eq one_X11_unpack 166 _ _ _).trans rfl
set_option maxRecDepth 100000 in
theorem e_X11_unpack_229 (l0 : Nat) (l2 : Int64) (l4 : Int64) (l6 : Int32) (l8 : Int64) (l10 : Int64) (l12 : Int64) (t0 : Nat) (st : ab_S) : L_X11_unpack_229 l0 l2 l4 l6 l8 l10 l12 t0 st =
    L_X11_unpack_234 l0 l2 l4 l6 l8 l10 l12 t0 (1 : Int32) st := (lm_eq one_X11_unpack 229 _ _ _).trans rfl
set_option maxRecDepth 100000 in
theorem e_X11_unpack_234 (l0 : Nat) (l2 : Int64) (l4 : Int64) (l6 : Int32) (l8 : Int64) (l10 : Int64) (l12 : Int64) (t0 : Nat) (t1 : Int32) (st : ab_S) : L_X11_unpack_234 l0 l2 l4 l6 l8 l10 l12 t0 t1 st =
    Option.bind (ab_pZ st t0 11 52 t1) fun s1 =>
    Option.bind (ab_gR s1 l0 11 49) fun x2 =>
    Option.bind (ab_gI s1 l0 11 51) fun x3 =>
    Option.bind (ab_wI s1 x2 x3 l12.toInt32) fun s4 =>
    Option.bind (ab_gI s4 l0 11 51) fun x5 =>
    Option.bind (ab_pI s4 l0 11 51 (x5 + (1 : Int32))) fun s6 =>
    L_X11_unpack_166 l0 l2 l4 l6 l8 (l10 + (1 : Int64)) s6 := (lm_eq one_X11_unpack 234 _ _ _).trans rfl
set_option maxRecDepth 100000 in
theorem e_X11_unpack_268 (l0 : Nat) (l2 : Int64) (l4 : Int64) (l6 : Int32) (st : ab_S) : L_X11_unpack_268 l0 l2 l4 l6 st =
    L_X11_unpack_79 l0 l2 l4 (l6 + (1 : Int32)) st := (lm_eq one_X11_unpack 268 _ _ _).trans rfl
set_option maxRecDepth 100000 in
theorem e_X11_unpack_274 (l0 : Nat) (l2 : Int64) (l4 : Int64) (st : ab_S) : L_X11_unpack_274 l0 l2 l4 st =
    Option.bind (ab_gI st l0 11 52) fun x1 =>
    if x1 = 0
    then Option.bind (ab_gI st l0 11 33) fun x2 =>
      Option.bind (ab_gI st l0 11 34) fun x3 =>
      if x3 ≤ x2
      then Option.bind (ab_gR st l0 11 47) fun x4 =>
        Option.bind (ab_gI st l0 11 51) fun x5 =>
        Option.bind (ab_wI st x4 l4.toInt32 x5) fun s6 =>
        ab_ri (f_X11_spell l0 l2 s6) fun x8 s7 =>
        ab_z x8 (some (some (.int x8), s7))
      else ab_z (0 : Int32) (some (some (.int (0 : Int32)), st))
    else ab_z (0 : Int32) (some (some (.int (0 : Int32)), st)) := (lm_eq one_X11_unpack 274 _ _ _).trans rfl
def c_X11_load : List (Nat × ab_I) := [(0, .iload_n 1, 1, .null, 1),
  (1, .invokestatic 159, 3, .null, 0),
  (4, .ifCond .ne (6), 3, .null, 10),
  (7, .bipush (-2), 2, (.int (-2)), 0),
  (9, .ireturn, 1, .null, 0),
  (10, .aload_n 0, 1, .null, 0),
  (11, .invokevirtual 165, 3, .null, 0),
  (14, .istore_n 2, 1, .null, 2),
  (15, .aload_n 0, 1, .null, 0),
  (16, .iload_n 2, 1, .null, 2),
  (17, .invokevirtual 378, 3, .null, 0),
  (20, .istore_n 3, 1, .null, 3),
  (21, .iload_n 3, 1, .null, 3),
  (22, .ifCond .eq (16), 3, .null, 38),
  (25, .aload_n 0, 1, .null, 0),
  (26, .iconst 4, 1, (.int (4)), 0),
  (27, .invokevirtual 349, 3, .null, 0),
  (30, .iload_n 2, 1, .null, 2),
  (31, .if_icmp .ne (7), 3, .null, 38),
  (34, .iconst 1, 1, (.int (1)), 0),
  (35, .goto (4), 3, .null, 39),
  (38, .iconst 0, 1, (.int (0)), 0),
  (39, .istore_n 3, 1, .null, 3),
  (40, .iconst 0, 1, (.int (0)), 0),
  (41, .istore 4, 2, .null, 4),
  (43, .iload 4, 2, .null, 4),
  (45, .iload_n 2, 1, .null, 2),
  (46, .if_icmp .ge (36), 3, .null, 82),
  (49, .iload_n 3, 1, .null, 3),
  (50, .ifCond .eq (32), 3, .null, 82),
  (53, .aload_n 0, 1, .null, 0),
  (54, .getfield 114, 3, .null, 0),
  (57, .iload 4, 2, .null, 4),
  (59, .baload, 1, .null, 0),
  (60, .aload_n 0, 1, .null, 0),
  (61, .getfield 7, 3, .null, 0),
  (64, .iload 4, 2, .null, 4),
  (66, .baload, 1, .null, 0),
  (67, .if_icmp .ne (7), 3, .null, 74),
  (70, .iconst 1, 1, (.int (1)), 0),
  (71, .goto (4), 3, .null, 75),
  (74, .iconst 0, 1, (.int (0)), 0),
  (75, .istore_n 3, 1, .null, 3),
  (76, .iinc 4 (1), 3, (.int (1)), 4),
  (79, .goto (-36), 3, .null, 43),
  (82, .iload_n 3, 1, .null, 3),
  (83, .ifCond .ne (6), 3, .null, 89),
  (86, .bipush (-7), 2, (.int (-7)), 0),
  (88, .ireturn, 1, .null, 0),
  (89, .aload_n 0, 1, .null, 0),
  (90, .iload_n 1, 1, .null, 1),
  (91, .invokevirtual 335, 3, .null, 0),
  (94, .aload_n 0, 1, .null, 0),
  (95, .getfield 24, 3, .null, 0),
  (98, .iload_n 1, 1, .null, 1),
  (99, .iaload, 1, .null, 0),
  (100, .ireturn, 1, .null, 0)]
noncomputable def m_X11_load : ab_M := (c_X11_load, [(0, [0, 1]), (38, [0, 1, 2]), (39, [0, 1, 2]), (43, [0, 1, 2, 3, 4]), (75, [0, 1, 2, 4]), (82, [0, 1, 3])],
  [(7, 11, 0, 3), (24, 11, 5, 3), (114, 11, 45, 3)],
  [],
  [(159, 0, 1, g_X11_isDictionary), (165, 1, 1, g_X11_forget), (335, 1, 2, g_X11_come), (349, 1, 2, g_X11_pack), (378, 1, 2, g_X11_unpack)],
  [], 5, 1)
theorem one_X11_load : ab_oneM m_X11_load := List.forall_mem_cons.mpr ⟨o_X11_isDictionary, List.forall_mem_cons.mpr ⟨o_X11_forget, List.forall_mem_cons.mpr ⟨o_X11_come, List.forall_mem_cons.mpr ⟨o_X11_pack, List.forall_mem_cons.mpr ⟨o_X11_unpack, fun _ h => absurd h List.not_mem_nil⟩⟩⟩⟩⟩
noncomputable def f_X11_load (l0 : Nat) (l1 : Int32) (st : ab_S) : Option ab_R := ab_rc st l0 11 (ab_lim m_X11_load 0 [.ref l0, .int l1] [] st)
noncomputable def L_X11_load_38 (l0 : Nat) (l1 : Int32) (l2 : Int32) (st : ab_S) : Option ab_R := ab_lim m_X11_load 38 [.ref l0, .int l1, .int l2] [] st
noncomputable def L_X11_load_39 (l0 : Nat) (l1 : Int32) (l2 : Int32) (t0 : Int32) (st : ab_S) : Option ab_R := ab_lim m_X11_load 39 [.ref l0, .int l1, .int l2] [.int t0] st
noncomputable def L_X11_load_43 (l0 : Nat) (l1 : Int32) (l2 : Int32) (l3 : Int32) (l4 : Int32) (st : ab_S) : Option ab_R := ab_lim m_X11_load 43 [.ref l0, .int l1, .int l2, .int l3, .int l4] [] st
noncomputable def L_X11_load_75 (l0 : Nat) (l1 : Int32) (l2 : Int32) (l4 : Int32) (t0 : Int32) (st : ab_S) : Option ab_R := ab_lim m_X11_load 75 [.ref l0, .int l1, .int l2, .int l4] [.int t0] st
noncomputable def L_X11_load_82 (l0 : Nat) (l1 : Int32) (l3 : Int32) (st : ab_S) : Option ab_R := ab_lim m_X11_load 82 [.ref l0, .int l1, .int l3] [] st
noncomputable def g_X11_load : ab_G := fun as st k => match as with
  | [.ref a0, .int a1] => ab_ri (f_X11_load a0 a1 st) (fun x t => k [.int x] t)
  | _ => none
theorem o_X11_load : ab_one g_X11_load := by
  intro as st k r h
  unfold g_X11_load at h ⊢
  split at h
  · exact one_ri h
  · cases h
set_option maxRecDepth 100000 in
theorem e_X11_load_0 (l0 : Nat) (l1 : Int32) (st : ab_S) : f_X11_load l0 l1 st =
    ab_rc st l0 11 (
    ab_ri (f_X11_isDictionary l1 st) fun x2 s1 =>
    if x2 = 0
    then some (some (.int (-2 : Int32)), s1)
    else ab_ri (f_X11_forget l0 s1) fun x4 s3 =>
      ab_ri (f_X11_unpack l0 x4 s3) fun x6 s5 =>
      if x6 = 0
      then L_X11_load_38 l0 l1 x4 s5
      else ab_ri (f_X11_pack l0 (4 : Int32) s5) fun x8 s7 =>
        if x8 = x4
        then L_X11_load_39 l0 l1 x4 (1 : Int32) s7
        else L_X11_load_38 l0 l1 x4 s7) := congrArg (ab_rc st l0 11) ((lm_eq one_X11_load 0 _ _ _).trans rfl)
set_option maxRecDepth 100000 in
theorem e_X11_load_38 (l0 : Nat) (l1 : Int32) (l2 : Int32) (st : ab_S) : L_X11_load_38 l0 l1 l2 st =
    L_X11_load_39 l0 l1 l2 (0 : Int32) st := (lm_eq one_X11_load 38 _ _ _).trans rfl
set_option maxRecDepth 100000 in
theorem e_X11_load_39 (l0 : Nat) (l1 : Int32) (l2 : Int32) (t0 : Int32) (st : ab_S) : L_X11_load_39 l0 l1 l2 t0 st =
    L_X11_load_43 l0 l1 l2 t0 (0 : Int32) st := (lm_eq one_X11_load 39 _ _ _).trans rfl
set_option maxRecDepth 100000 in
theorem e_X11_load_43 (l0 : Nat) (l1 : Int32) (l2 : Int32) (l3 : Int32) (l4 : Int32) (st : ab_S) : L_X11_load_43 l0 l1 l2 l3 l4 st =
    if l2 ≤ l4
    then L_X11_load_82 l0 l1 l3 st
    else if l3 = 0
      then L_X11_load_82 l0 l1 l3 st
      else Option.bind (ab_gR st l0 11 45) fun x1 =>
        Option.bind (ab_rB st x1 l4) fun x2 =>
        Option.bind (ab_gR st l0 11 0) fun x3 =>
        Option.bind (ab_rB st x3 l4) fun x4 =>
        if x2 = x4
        then L_X11_load_75 l0 l1 l2 l4 (1 : Int32) st
        else L_X11_load_75 l0 l1 l2 l4 (0 : Int32) st := (lm_eq one_X11_load 43 _ _ _).trans rfl
set_option maxRecDepth 100000 in
theorem e_X11_load_75 (l0 : Nat) (l1 : Int32) (l2 : Int32) (l4 : Int32) (t0 : Int32) (st : ab_S) : L_X11_load_75 l0 l1 l2 l4 t0 st =
    L_X11_load_43 l0 l1 l2 t0 (l4 + (1 : Int32)) st := (lm_eq one_X11_load 75 _ _ _).trans rfl
set_option maxRecDepth 100000 in
theorem e_X11_load_82 (l0 : Nat) (l1 : Int32) (l3 : Int32) (st : ab_S) : L_X11_load_82 l0 l1 l3 st =
    if l3 = 0
    then some (some (.int (-7 : Int32)), st)
    else ab_rv (f_X11_come l0 l1 st) fun s1 =>
      Option.bind (ab_gR s1 l0 11 5) fun x2 =>
      Option.bind (ab_rI s1 x2 l1) fun x3 =>
      some (some (.int x3), s1) := (lm_eq one_X11_load 82 _ _ _).trans rfl
def c_X10_isWalk : List (Nat × ab_I) := [(0, .iload_n 0, 1, .null, 0),
  (1, .ifCond .lt (12), 3, .null, 13),
  (4, .iload_n 0, 1, .null, 0),
  (5, .iconst 4, 1, (.int (4)), 0),
  (6, .if_icmp .ge (7), 3, .null, 13),
  (9, .iconst 1, 1, (.int (1)), 0),
  (10, .goto (4), 3, .null, 14),
  (13, .iconst 0, 1, (.int (0)), 0),
  (14, .ireturn, 1, .null, 0)]
noncomputable def m_X10_isWalk : ab_M := (c_X10_isWalk, [(0, [0])],
  [],
  [],
  [],
  [], 1, 2)
theorem one_X10_isWalk : ab_oneM m_X10_isWalk := fun _ h => absurd h List.not_mem_nil
noncomputable def f_X10_isWalk (l0 : Int32) (st : ab_S) : Option ab_R := ab_lim m_X10_isWalk 0 [.int l0] [] st
noncomputable def g_X10_isWalk : ab_G := fun as st k => match as with
  | [.int a0] => ab_ri (f_X10_isWalk a0 st) (fun x t => k [.int x] t)
  | _ => none
theorem o_X10_isWalk : ab_one g_X10_isWalk := by
  intro as st k r h
  unfold g_X10_isWalk at h ⊢
  split at h
  · exact one_ri h
  · cases h
set_option maxRecDepth 100000 in
theorem e_X10_isWalk_0 (l0 : Int32) (st : ab_S) : f_X10_isWalk l0 st =
    if l0 < 0
    then ab_z (0 : Int32) (some (some (.int (0 : Int32)), st))
    else if (4 : Int32) ≤ l0
      then ab_z (0 : Int32) (some (some (.int (0 : Int32)), st))
      else ab_z (1 : Int32) (some (some (.int (1 : Int32)), st)) := (lm_eq one_X10_isWalk 0 _ _ _).trans rfl
def c_X7_greatestNotAbove : List (Nat × ab_I) := [(0, .aload_n 0, 1, .null, 0),
  (1, .aload_n 1, 1, .null, 1),
  (2, .invokevirtual 55, 3, .null, 0),
  (5, .istore_n 2, 1, .null, 2),
  (6, .iload_n 2, 1, .null, 2),
  (7, .aload_n 0, 1, .null, 0),
  (8, .getfield 22, 3, .null, 0),
  (11, .if_icmp .ge (16), 3, .null, 27),
  (14, .aload_n 0, 1, .null, 0),
  (15, .iload_n 2, 1, .null, 2),
  (16, .aload_n 1, 1, .null, 1),
  (17, .invokevirtual 51, 3, .null, 0),
  (20, .ifCond .ne (7), 3, .null, 27),
  (23, .iload_n 2, 1, .null, 2),
  (24, .goto (6), 3, .null, 30),
  (27, .iload_n 2, 1, .null, 2),
  (28, .iconst 1, 1, (.int (1)), 0),
  (29, .isub, 1, .null, 0),
  (30, .ireturn, 1, .null, 0)]
noncomputable def m_X7_greatestNotAbove : ab_M := (c_X7_greatestNotAbove, [(0, [0, 1])],
  [(22, 7, 3, 0)],
  [],
  [(51, 1, 3, g_X7_compareWith), (55, 1, 2, g_X7_leastNotBelow)],
  [], 3, 1)
theorem one_X7_greatestNotAbove : ab_oneM m_X7_greatestNotAbove := List.forall_mem_cons.mpr ⟨o_X7_compareWith, List.forall_mem_cons.mpr ⟨o_X7_leastNotBelow, fun _ h => absurd h List.not_mem_nil⟩⟩
noncomputable def f_X7_greatestNotAbove (l0 : Nat) (l1 : Nat) (st : ab_S) : Option ab_R := ab_rc st l0 7 (ab_lim m_X7_greatestNotAbove 0 [.ref l0, .ref l1] [] st)
noncomputable def g_X7_greatestNotAbove : ab_G := fun as st k => match as with
  | [.ref a0, .ref a1] => ab_ri (f_X7_greatestNotAbove a0 a1 st) (fun x t => k [.int x] t)
  | _ => none
theorem o_X7_greatestNotAbove : ab_one g_X7_greatestNotAbove := by
  intro as st k r h
  unfold g_X7_greatestNotAbove at h ⊢
  split at h
  · exact one_ri h
  · cases h
set_option maxRecDepth 100000 in
theorem e_X7_greatestNotAbove_0 (l0 : Nat) (l1 : Nat) (st : ab_S) : f_X7_greatestNotAbove l0 l1 st =
    ab_rc st l0 7 (
    ab_ri (f_X7_leastNotBelow l0 l1 st) fun x2 s1 =>
    Option.bind (ab_gI s1 l0 7 3) fun x3 =>
    if x3 ≤ x2
    then some (some (.int (x2 - (1 : Int32))), s1)
    else ab_ri (f_X7_compareWith l0 x2 l1 s1) fun x5 s4 =>
      if x5 = 0
      then some (some (.int x2), s4)
      else some (some (.int (x2 - (1 : Int32))), s4)) := congrArg (ab_rc st l0 7) ((lm_eq one_X7_greatestNotAbove 0 _ _ _).trans rfl)
def c_X9_start : List (Nat × ab_I) := [(0, .aload_n 0, 1, .null, 0),
  (1, .iload_n 1, 1, .null, 1),
  (2, .putfield 9, 3, .null, 0),
  (5, .aload_n 0, 1, .null, 0),
  (6, .iload_n 2, 1, .null, 2),
  (7, .putfield 15, 3, .null, 0),
  (10, .aload_n 0, 1, .null, 0),
  (11, .iload_n 3, 1, .null, 3),
  (12, .putfield 18, 3, .null, 0),
  (15, .aload_n 0, 1, .null, 0),
  (16, .iload 4, 2, .null, 4),
  (18, .putfield 21, 3, .null, 0),
  (21, .return_, 1, .null, 0)]
noncomputable def m_X9_start : ab_M := (c_X9_start, [(0, [0, 1, 2, 3, 4])],
  [(9, 9, 0, 0), (15, 9, 1, 0), (18, 9, 2, 0), (21, 9, 3, 0)],
  [],
  [],
  [], 5, 0)
theorem one_X9_start : ab_oneM m_X9_start := fun _ h => absurd h List.not_mem_nil
noncomputable def f_X9_start (l0 : Nat) (l1 : Int32) (l2 : Int32) (l3 : Int32) (l4 : Int32) (st : ab_S) : Option ab_R := ab_rc st l0 9 (ab_lim m_X9_start 0 [.ref l0, .int l1, .int l2, .int l3, .int l4] [] st)
noncomputable def g_X9_start : ab_G := fun as st k => match as with
  | [.ref a0, .int a1, .int a2, .int a3, .int a4] => ab_rv (f_X9_start a0 a1 a2 a3 a4 st) (fun t => k [] t)
  | _ => none
theorem o_X9_start : ab_one g_X9_start := by
  intro as st k r h
  unfold g_X9_start at h ⊢
  split at h
  · exact one_rv h
  · cases h
set_option maxRecDepth 100000 in
theorem e_X9_start_0 (l0 : Nat) (l1 : Int32) (l2 : Int32) (l3 : Int32) (l4 : Int32) (st : ab_S) : f_X9_start l0 l1 l2 l3 l4 st =
    ab_rc st l0 9 (
    Option.bind (ab_pI st l0 9 0 l1) fun s1 =>
    Option.bind (ab_pI s1 l0 9 1 l2) fun s2 =>
    Option.bind (ab_pI s2 l0 9 2 l3) fun s3 =>
    Option.bind (ab_pI s3 l0 9 3 l4) fun s4 =>
    some (none, s4)) := congrArg (ab_rc st l0 9) ((lm_eq one_X9_start 0 _ _ _).trans rfl)
def c_X10_walk : List (Nat × ab_I) := [(0, .iload_n 1, 1, .null, 1),
  (1, .invokestatic 229, 3, .null, 0),
  (4, .ifCond .eq (10), 3, .null, 14),
  (7, .iload_n 2, 1, .null, 2),
  (8, .invokestatic 95, 3, .null, 0),
  (11, .ifCond .ne (6), 3, .null, 17),
  (14, .bipush (-2), 2, (.int (-2)), 0),
  (16, .ireturn, 1, .null, 0),
  (17, .aload_n 0, 1, .null, 0),
  (18, .invokevirtual 91, 3, .null, 0),
  (21, .astore 4, 2, .null, 4),
  (23, .aload_n 0, 1, .null, 0),
  (24, .getfield 11, 3, .null, 0),
  (27, .iload_n 2, 1, .null, 2),
  (28, .aaload, 1, .null, 0),
  (29, .getfield 109, 3, .null, 0),
  (32, .ifCond .eq (6), 3, .null, 38),
  (35, .bipush (-4), 2, (.int (-4)), 0),
  (37, .ireturn, 1, .null, 0),
  (38, .aload_n 0, 1, .null, 0),
  (39, .getfield 11, 3, .null, 0),
  (42, .iload_n 2, 1, .null, 2),
  (43, .aaload, 1, .null, 0),
  (44, .getfield 99, 3, .null, 0),
  (47, .astore 5, 2, .null, 5),
  (49, .iload_n 3, 1, .null, 3),
  (50, .ifCond .eq (13), 3, .null, 63),
  (53, .aload 5, 2, .null, 5),
  (55, .aload 4, 2, .null, 4),
  (57, .invokevirtual 232, 3, .null, 0),
  (60, .goto (10), 3, .null, 70),
  (63, .aload 5, 2, .null, 5),
  (65, .aload 4, 2, .null, 4),
  (67, .invokevirtual 183, 3, .null, 0),
  (70, .istore 6, 2, .null, 6),
  (72, .aload_n 0, 1, .null, 0),
  (73, .getfield 21, 3, .null, 0),
  (76, .iload_n 1, 1, .null, 1),
  (77, .aaload, 1, .null, 0),
  (78, .iload_n 2, 1, .null, 2),
  (79, .aload_n 0, 1, .null, 0),
  (80, .getfield 15, 3, .null, 0),
  (83, .iload_n 2, 1, .null, 2),
  (84, .iaload, 1, .null, 0),
  (85, .iload 6, 2, .null, 6),
  (87, .iload_n 3, 1, .null, 3),
  (88, .ifCond .eq (7), 3, .null, 95),
  (91, .iconst (-1), 1, (.int (-1)), 0),
  (92, .goto (4), 3, .null, 96),
  (95, .iconst 1, 1, (.int (1)), 0),
  (96, .invokevirtual 235, 3, .null, 0),
  (99, .iconst 0, 1, (.int (0)), 0),
  (100, .ireturn, 1, .null, 0)]
noncomputable def m_X10_walk : ab_M := (c_X10_walk, [(0, [0, 1, 2, 3]), (70, [0, 1, 2, 3]), (96, [])],
  [(11, 10, 0, 3), (15, 10, 1, 3), (21, 10, 2, 3), (99, 0, 0, 3), (109, 0, 2, 1)],
  [],
  [(91, 1, 1, g_X10_takeCollected), (95, 0, 1, g_X10_isDictionary), (183, 1, 2, g_X7_leastNotBelow), (229, 0, 1, g_X10_isWalk), (232, 1, 2, g_X7_greatestNotAbove), (235, 1, 5, g_X9_start)],
  [], 7, 1)
theorem one_X10_walk : ab_oneM m_X10_walk := List.forall_mem_cons.mpr ⟨o_X10_takeCollected, List.forall_mem_cons.mpr ⟨o_X10_isDictionary, List.forall_mem_cons.mpr ⟨o_X7_leastNotBelow, List.forall_mem_cons.mpr ⟨o_X10_isWalk, List.forall_mem_cons.mpr ⟨o_X7_greatestNotAbove, List.forall_mem_cons.mpr ⟨o_X9_start, fun _ h => absurd h List.not_mem_nil⟩⟩⟩⟩⟩⟩
noncomputable def f_X10_walk (l0 : Nat) (l1 : Int32) (l2 : Int32) (l3 : Int32) (st : ab_S) : Option ab_R := ab_rc st l0 10 (ab_lim m_X10_walk 0 [.ref l0, .int l1, .int l2, .int l3] [] st)
noncomputable def L_X10_walk_70 (l0 : Nat) (l1 : Int32) (l2 : Int32) (l3 : Int32) (t0 : Int32) (st : ab_S) : Option ab_R := ab_lim m_X10_walk 70 [.ref l0, .int l1, .int l2, .int l3] [.int t0] st
noncomputable def L_X10_walk_96 (t0 : Nat) (t1 : Int32) (t2 : Int32) (t3 : Int32) (t4 : Int32) (st : ab_S) : Option ab_R := ab_lim m_X10_walk 96 [] [.int t4, .int t3, .int t2, .int t1, .ref t0] st
noncomputable def g_X10_walk : ab_G := fun as st k => match as with
  | [.ref a0, .int a1, .int a2, .int a3] => ab_ri (f_X10_walk a0 a1 a2 a3 st) (fun x t => k [.int x] t)
  | _ => none
theorem o_X10_walk : ab_one g_X10_walk := by
  intro as st k r h
  unfold g_X10_walk at h ⊢
  split at h
  · exact one_ri h
  · cases h
set_option maxRecDepth 100000 in
theorem e_X10_walk_0 (l0 : Nat) (l1 : Int32) (l2 : Int32) (l3 : Int32) (st : ab_S) : f_X10_walk l0 l1 l2 l3 st =
    ab_rc st l0 10 (
    ab_ri (f_X10_isWalk l1 st) fun x2 s1 =>
    if x2 = 0
    then some (some (.int (-2 : Int32)), s1)
    else ab_ri (f_X10_isDictionary l2 s1) fun x4 s3 =>
      if x4 = 0
      then some (some (.int (-2 : Int32)), s3)
      else ab_rr (f_X10_takeCollected l0 s3) fun x6 s5 =>
        Option.bind (ab_gR s5 l0 10 0) fun x7 =>
        Option.bind (ab_rR s5 x7 l2) fun x8 =>
        Option.bind (ab_gI s5 x8 0 2) fun x9 =>
        if x9 = 0
        then Option.bind (ab_gR s5 l0 10 0) fun x10 =>
          Option.bind (ab_rR s5 x10 l2) fun x11 =>
          Option.bind (ab_gR s5 x11 0 0) fun x12 =>
          if l3 = 0
          then ab_ri (f_X7_leastNotBelow x12 x6 s5) fun x14 s13 =>
            L_X10_walk_70 l0 l1 l2 l3 x14 s13
          else ab_ri (f_X7_greatestNotAbove x12 x6 s5) fun x16 s15 =>
            L_X10_walk_70 l0 l1 l2 l3 x16 s15
        else some (some (.int (-4 : Int32)), s5)) := congrArg (ab_rc st l0 10) ((lm_eq one_X10_walk 0 _ _ _).trans rfl)
set_option maxRecDepth 100000 in
theorem e_X10_walk_70 (l0 : Nat) (l1 : Int32) (l2 : Int32) (l3 : Int32) (t0 : Int32) (st : ab_S) : L_X10_walk_70 l0 l1 l2 l3 t0 st =
    Option.bind (ab_gR st l0 10 2) fun x1 =>
    Option.bind (ab_rR st x1 l1) fun x2 =>
    Option.bind (ab_gR st l0 10 1) fun x3 =>
    Option.bind (ab_rI st x3 l2) fun x4 =>
    if l3 = 0
    then L_X10_walk_96 x2 l2 x4 t0 (1 : Int32) st
    else L_X10_walk_96 x2 l2 x4 t0 (-1 : Int32) st := (lm_eq one_X10_walk 70 _ _ _).trans rfl
set_option maxRecDepth 100000 in
theorem e_X10_walk_96 (t0 : Nat) (t1 : Int32) (t2 : Int32) (t3 : Int32) (t4 : Int32) (st : ab_S) : L_X10_walk_96 t0 t1 t2 t3 t4 st =
    ab_rv (f_X9_start t0 t1 t2 t3 t4 st) fun s1 =>
    some (some (.int (0 : Int32)), s1) := (lm_eq one_X10_walk 96 _ _ _).trans rfl
def c_X11_walk : List (Nat × ab_I) := [(0, .iload_n 1, 1, .null, 1),
  (1, .i2l, 1, .null, 0),
  (2, .lconst 0, 1, (.long (0)), 0),
  (3, .ldc2_w 157, 3, (.long (3)), 0),
  (6, .invokestatic 146, 3, .null, 0),
  (9, .ifCond .eq (10), 3, .null, 19),
  (12, .iload_n 2, 1, .null, 2),
  (13, .invokestatic 159, 3, .null, 0),
  (16, .ifCond .ne (6), 3, .null, 22),
  (19, .bipush (-2), 2, (.int (-2)), 0),
  (21, .ireturn, 1, .null, 0),
  (22, .aload_n 0, 1, .null, 0),
  (23, .invokevirtual 165, 3, .null, 0),
  (26, .istore 4, 2, .null, 4),
  (28, .aload_n 0, 1, .null, 0),
  (29, .getfield 27, 3, .null, 0),
  (32, .iload_n 2, 1, .null, 2),
  (33, .baload, 1, .null, 0),
  (34, .ifCond .eq (6), 3, .null, 40),
  (37, .bipush (-4), 2, (.int (-4)), 0),
  (39, .ireturn, 1, .null, 0),
  (40, .aload_n 0, 1, .null, 0),
  (41, .iload_n 2, 1, .null, 2),
  (42, .iload 4, 2, .null, 4),
  (44, .invokevirtual 239, 3, .null, 0),
  (47, .istore 5, 2, .null, 5),
  (49, .iload_n 3, 1, .null, 3),
  (50, .ifCond .eq (29), 3, .null, 79),
  (53, .iload 5, 2, .null, 5),
  (55, .aload_n 0, 1, .null, 0),
  (56, .getfield 24, 3, .null, 0),
  (59, .iload_n 2, 1, .null, 2),
  (60, .iaload, 1, .null, 0),
  (61, .if_icmp .eq (15), 3, .null, 76),
  (64, .aload_n 0, 1, .null, 0),
  (65, .iload_n 2, 1, .null, 2),
  (66, .iload 5, 2, .null, 5),
  (68, .iload 4, 2, .null, 4),
  (70, .invokevirtual 169, 3, .null, 0),
  (73, .ifCond .le (6), 3, .null, 79),
  (76, .iinc 5 (-1), 3, (.int (-1)), 5),
  (79, .aload_n 0, 1, .null, 0),
  (80, .getfield 45, 3, .null, 0),
  (83, .iload_n 1, 1, .null, 1),
  (84, .iload_n 2, 1, .null, 2),
  (85, .iastore, 1, .null, 0),
  (86, .aload_n 0, 1, .null, 0),
  (87, .getfield 48, 3, .null, 0),
  (90, .iload_n 1, 1, .null, 1),
  (91, .aload_n 0, 1, .null, 0),
  (92, .getfield 31, 3, .null, 0),
  (95, .iload_n 2, 1, .null, 2),
  (96, .iaload, 1, .null, 0),
  (97, .iastore, 1, .null, 0),
  (98, .aload_n 0, 1, .null, 0),
  (99, .getfield 51, 3, .null, 0),
  (102, .iload_n 1, 1, .null, 1),
  (103, .iload 5, 2, .null, 5),
  (105, .iastore, 1, .null, 0),
  (106, .aload_n 0, 1, .null, 0),
  (107, .getfield 54, 3, .null, 0),
  (110, .iload_n 1, 1, .null, 1),
  (111, .iload_n 3, 1, .null, 3),
  (112, .bastore, 1, .null, 0),
  (113, .iconst 0, 1, (.int (0)), 0),
  (114, .ireturn, 1, .null, 0)]
noncomputable def m_X11_walk : ab_M := (c_X11_walk, [(0, [0, 1, 2, 3]), (76, [0, 1, 2, 3, 5]), (79, [0, 1, 2, 3, 5])],
  [(24, 11, 5, 3), (27, 11, 6, 3), (31, 11, 7, 3), (45, 11, 13, 3), (48, 11, 14, 3), (51, 11, 15, 3), (54, 11, 16, 3)],
  [],
  [(146, 0, 3, g_X11_isIn), (159, 0, 1, g_X11_isDictionary), (165, 1, 1, g_X11_forget), (169, 1, 4, g_X11_compare), (239, 1, 3, g_X11_above)],
  [], 6, 1)
theorem one_X11_walk : ab_oneM m_X11_walk := List.forall_mem_cons.mpr ⟨o_X11_isIn, List.forall_mem_cons.mpr ⟨o_X11_isDictionary, List.forall_mem_cons.mpr ⟨o_X11_forget, List.forall_mem_cons.mpr ⟨o_X11_compare, List.forall_mem_cons.mpr ⟨o_X11_above, fun _ h => absurd h List.not_mem_nil⟩⟩⟩⟩⟩
noncomputable def f_X11_walk (l0 : Nat) (l1 : Int32) (l2 : Int32) (l3 : Int32) (st : ab_S) : Option ab_R := ab_rc st l0 11 (ab_lim m_X11_walk 0 [.ref l0, .int l1, .int l2, .int l3] [] st)
noncomputable def L_X11_walk_76 (l0 : Nat) (l1 : Int32) (l2 : Int32) (l3 : Int32) (l5 : Int32) (st : ab_S) : Option ab_R := ab_lim m_X11_walk 76 [.ref l0, .int l1, .int l2, .int l3, .int l5] [] st
noncomputable def L_X11_walk_79 (l0 : Nat) (l1 : Int32) (l2 : Int32) (l3 : Int32) (l5 : Int32) (st : ab_S) : Option ab_R := ab_lim m_X11_walk 79 [.ref l0, .int l1, .int l2, .int l3, .int l5] [] st
noncomputable def g_X11_walk : ab_G := fun as st k => match as with
  | [.ref a0, .int a1, .int a2, .int a3] => ab_ri (f_X11_walk a0 a1 a2 a3 st) (fun x t => k [.int x] t)
  | _ => none
theorem o_X11_walk : ab_one g_X11_walk := by
  intro as st k r h
  unfold g_X11_walk at h ⊢
  split at h
  · exact one_ri h
  · cases h
set_option maxRecDepth 100000 in
theorem e_X11_walk_0 (l0 : Nat) (l1 : Int32) (l2 : Int32) (l3 : Int32) (st : ab_S) : f_X11_walk l0 l1 l2 l3 st =
    ab_rc st l0 11 (
    ab_ri (f_X11_isIn l1.toInt64 (0 : Int64) (3 : Int64) st) fun x2 s1 =>
    if x2 = 0
    then some (some (.int (-2 : Int32)), s1)
    else ab_ri (f_X11_isDictionary l2 s1) fun x4 s3 =>
      if x4 = 0
      then some (some (.int (-2 : Int32)), s3)
      else ab_ri (f_X11_forget l0 s3) fun x6 s5 =>
        Option.bind (ab_gR s5 l0 11 6) fun x7 =>
        Option.bind (ab_rB s5 x7 l2) fun x8 =>
        if x8 = 0
        then ab_ri (f_X11_above l0 l2 x6 s5) fun x10 s9 =>
          if l3 = 0
          then L_X11_walk_79 l0 l1 l2 l3 x10 s9
          else Option.bind (ab_gR s9 l0 11 5) fun x11 =>
            Option.bind (ab_rI s9 x11 l2) fun x12 =>
            if x10 = x12
            then L_X11_walk_76 l0 l1 l2 l3 x10 s9
            else ab_ri (f_X11_compare l0 l2 x10 x6 s9) fun x14 s13 =>
              if x14 ≤ 0
              then L_X11_walk_79 l0 l1 l2 l3 x10 s13
              else L_X11_walk_76 l0 l1 l2 l3 x10 s13
        else some (some (.int (-4 : Int32)), s5)) := congrArg (ab_rc st l0 11) ((lm_eq one_X11_walk 0 _ _ _).trans rfl)
set_option maxRecDepth 100000 in
theorem e_X11_walk_76 (l0 : Nat) (l1 : Int32) (l2 : Int32) (l3 : Int32) (l5 : Int32) (st : ab_S) : L_X11_walk_76 l0 l1 l2 l3 l5 st =
    L_X11_walk_79 l0 l1 l2 l3 (l5 + (-1 : Int32)) st := (lm_eq one_X11_walk 76 _ _ _).trans rfl
set_option maxRecDepth 100000 in
theorem e_X11_walk_79 (l0 : Nat) (l1 : Int32) (l2 : Int32) (l3 : Int32) (l5 : Int32) (st : ab_S) : L_X11_walk_79 l0 l1 l2 l3 l5 st =
    Option.bind (ab_gR st l0 11 13) fun x1 =>
    Option.bind (ab_wI st x1 l1 l2) fun s2 =>
    Option.bind (ab_gR s2 l0 11 14) fun x3 =>
    Option.bind (ab_gR s2 l0 11 7) fun x4 =>
    Option.bind (ab_rI s2 x4 l2) fun x5 =>
    Option.bind (ab_wI s2 x3 l1 x5) fun s6 =>
    Option.bind (ab_gR s6 l0 11 15) fun x7 =>
    Option.bind (ab_wI s6 x7 l1 l5) fun s8 =>
    Option.bind (ab_gR s8 l0 11 16) fun x9 =>
    Option.bind (ab_wB s8 x9 l1 l3) fun s10 =>
    some (some (.int (0 : Int32)), s10) := (lm_eq one_X11_walk 79 _ _ _).trans rfl
