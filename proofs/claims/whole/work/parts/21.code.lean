def c_X10_add : List (Nat × ab_I) := [(0, .iload_n 1, 1, .null, 1),
  (1, .invokestatic 95, 3, .null, 0),
  (4, .ifCond .eq (17), 3, .null, 21),
  (7, .lload_n 2, 1, .null, 2),
  (8, .lconst 0, 1, (.long (0)), 0),
  (9, .lcmp, 1, .null, 0),
  (10, .ifCond .lt (11), 3, .null, 21),
  (13, .lload_n 2, 1, .null, 2),
  (14, .ldc2_w 113, 3, (.long (1000000000000)), 0),
  (17, .lcmp, 1, .null, 0),
  (18, .ifCond .le (6), 3, .null, 24),
  (21, .bipush (-2), 2, (.int (-2)), 0),
  (23, .ireturn, 1, .null, 0),
  (24, .aload_n 0, 1, .null, 0),
  (25, .invokevirtual 91, 3, .null, 0),
  (28, .astore 4, 2, .null, 4),
  (30, .aload_n 0, 1, .null, 0),
  (31, .getfield 11, 3, .null, 0),
  (34, .iload_n 1, 1, .null, 1),
  (35, .aaload, 1, .null, 0),
  (36, .getfield 109, 3, .null, 0),
  (39, .ifCond .ne (6), 3, .null, 45),
  (42, .bipush (-4), 2, (.int (-4)), 0),
  (44, .ireturn, 1, .null, 0),
  (45, .aload 4, 2, .null, 4),
  (47, .getfield 85, 3, .null, 0),
  (50, .bipush (12), 2, (.int (12)), 0),
  (52, .if_icmp .le (6), 3, .null, 58),
  (55, .bipush (-6), 2, (.int (-6)), 0),
  (57, .ireturn, 1, .null, 0),
  (58, .aload_n 0, 1, .null, 0),
  (59, .getfield 11, 3, .null, 0),
  (62, .iload_n 1, 1, .null, 1),
  (63, .aaload, 1, .null, 0),
  (64, .getfield 99, 3, .null, 0),
  (67, .astore 5, 2, .null, 5),
  (69, .aload 5, 2, .null, 5),
  (71, .getfield 103, 3, .null, 0),
  (74, .ifCond .le (23), 3, .null, 97),
  (77, .aload 5, 2, .null, 5),
  (79, .aload 5, 2, .null, 5),
  (81, .getfield 103, 3, .null, 0),
  (84, .iconst 1, 1, (.int (1)), 0),
  (85, .isub, 1, .null, 0),
  (86, .aload 4, 2, .null, 4),
  (88, .invokevirtual 115, 3, .null, 0),
  (91, .ifCond .lt (6), 3, .null, 97),
  (94, .bipush (-5), 2, (.int (-5)), 0),
  (96, .ireturn, 1, .null, 0),
  (97, .aload 5, 2, .null, 5),
  (99, .aload 4, 2, .null, 4),
  (101, .getfield 119, 3, .null, 0),
  (104, .iconst 0, 1, (.int (0)), 0),
  (105, .aload 4, 2, .null, 4),
  (107, .getfield 85, 3, .null, 0),
  (110, .lload_n 2, 1, .null, 2),
  (111, .invokevirtual 122, 3, .null, 0),
  (114, .ifCond .eq (11), 3, .null, 125),
  (117, .aload 5, 2, .null, 5),
  (119, .getfield 103, 3, .null, 0),
  (122, .goto (5), 3, .null, 127),
  (125, .bipush (-3), 2, (.int (-3)), 0),
  (127, .ireturn, 1, .null, 0)]
noncomputable def m_X10_add : ab_M := (c_X10_add, [(0, [0, 1, 2]), (97, [2, 4, 5])],
  [(11, 10, 0, 3), (85, 6, 1, 0), (99, 0, 0, 3), (103, 7, 3, 0), (109, 0, 2, 1), (119, 6, 0, 3)],
  [],
  [(91, 1, 1, g_X10_takeCollected), (95, 0, 1, g_X10_isDictionary), (115, 1, 3, g_X7_compareWith), (122, 1, 5, g_X7_append)],
  [], 6, 1)
theorem one_X10_add : ab_oneM m_X10_add := List.forall_mem_cons.mpr ⟨o_X10_takeCollected, List.forall_mem_cons.mpr ⟨o_X10_isDictionary, List.forall_mem_cons.mpr ⟨o_X7_compareWith, List.forall_mem_cons.mpr ⟨o_X7_append, fun _ h => absurd h List.not_mem_nil⟩⟩⟩⟩
noncomputable def f_X10_add (l0 : Nat) (l1 : Int32) (l2 : Int64) (st : ab_S) : Option ab_R := ab_rc st l0 10 (ab_lim m_X10_add 0 [.ref l0, .int l1, .long l2] [] st)
noncomputable def L_X10_add_97 (l2 : Int64) (l4 : Nat) (l5 : Nat) (st : ab_S) : Option ab_R := ab_lim m_X10_add 97 [.long l2, .ref l4, .ref l5] [] st
noncomputable def g_X10_add : ab_G := fun as st k => match as with
  | [.ref a0, .int a1, .long a2] => ab_ri (f_X10_add a0 a1 a2 st) (fun x t => k [.int x] t)
  | _ => none
theorem o_X10_add : ab_one g_X10_add := by
  intro as st k r h
  unfold g_X10_add at h ⊢
  split at h
  · exact one_ri h
  · cases h
set_option maxRecDepth 100000 in
theorem e_X10_add_0 (l0 : Nat) (l1 : Int32) (l2 : Int64) (st : ab_S) : f_X10_add l0 l1 l2 st =
    ab_rc st l0 10 (
    ab_ri (f_X10_isDictionary l1 st) fun x2 s1 =>
    if x2 = 0
    then some (some (.int (-2 : Int32)), s1)
    else if (lg_cmp l2 (0 : Int64)) < 0
      then some (some (.int (-2 : Int32)), s1)
      else if (lg_cmp l2 (1000000000000 : Int64)) ≤ 0
        then ab_rr (f_X10_takeCollected l0 s1) fun x4 s3 =>
          Option.bind (ab_gR s3 l0 10 0) fun x5 =>
          Option.bind (ab_rR s3 x5 l1) fun x6 =>
          Option.bind (ab_gI s3 x6 0 2) fun x7 =>
          if x7 = 0
          then some (some (.int (-4 : Int32)), s3)
          else Option.bind (ab_gI s3 x4 6 1) fun x8 =>
            if x8 ≤ (12 : Int32)
            then Option.bind (ab_gR s3 l0 10 0) fun x9 =>
              Option.bind (ab_rR s3 x9 l1) fun x10 =>
              Option.bind (ab_gR s3 x10 0 0) fun x11 =>
              Option.bind (ab_gI s3 x11 7 3) fun x12 =>
              if x12 ≤ 0
              then L_X10_add_97 l2 x4 x11 s3
              else Option.bind (ab_gI s3 x11 7 3) fun x13 =>
                ab_ri (f_X7_compareWith x11 (x13 - (1 : Int32)) x4 s3) fun x15 s14 =>
                if x15 < 0
                then L_X10_add_97 l2 x4 x11 s14
                else some (some (.int (-5 : Int32)), s14)
            else some (some (.int (-6 : Int32)), s3)
        else some (some (.int (-2 : Int32)), s1)) := congrArg (ab_rc st l0 10) ((lm_eq one_X10_add 0 _ _ _).trans rfl)
set_option maxRecDepth 100000 in
theorem e_X10_add_97 (l2 : Int64) (l4 : Nat) (l5 : Nat) (st : ab_S) : L_X10_add_97 l2 l4 l5 st =
    Option.bind (ab_gR st l4 6 0) fun x1 =>
    Option.bind (ab_gI st l4 6 1) fun x2 =>
    ab_ri (f_X7_append l5 x1 (0 : Int32) x2 l2 st) fun x4 s3 =>
    if x4 = 0
    then some (some (.int (-3 : Int32)), s3)
    else Option.bind (ab_gI s3 l5 7 3) fun x5 =>
      some (some (.int x5), s3) := (lm_eq one_X10_add 97 _ _ _).trans rfl
def c_X11_letter : List (Nat × ab_I) := [(0, .aload_n 0, 1, .null, 0),
  (1, .getfield 13, 3, .null, 0),
  (4, .sipush (200), 3, (.int (200)), 0),
  (7, .iload_n 1, 1, .null, 1),
  (8, .imul, 1, .null, 0),
  (9, .iload_n 2, 1, .null, 2),
  (10, .iadd, 1, .null, 0),
  (11, .bipush (12), 2, (.int (12)), 0),
  (13, .imul, 1, .null, 0),
  (14, .iload_n 3, 1, .null, 3),
  (15, .iadd, 1, .null, 0),
  (16, .baload, 1, .null, 0),
  (17, .sipush (255), 3, (.int (255)), 0),
  (20, .iand, 1, .null, 0),
  (21, .ireturn, 1, .null, 0)]
noncomputable def m_X11_letter : ab_M := (c_X11_letter, [(0, [0, 1, 2, 3])],
  [(13, 11, 2, 3)],
  [],
  [],
  [], 4, 1)
theorem one_X11_letter : ab_oneM m_X11_letter := fun _ h => absurd h List.not_mem_nil
noncomputable def f_X11_letter (l0 : Nat) (l1 : Int32) (l2 : Int32) (l3 : Int32) (st : ab_S) : Option ab_R := ab_rc st l0 11 (ab_lim m_X11_letter 0 [.ref l0, .int l1, .int l2, .int l3] [] st)
noncomputable def g_X11_letter : ab_G := fun as st k => match as with
  | [.ref a0, .int a1, .int a2, .int a3] => ab_ri (f_X11_letter a0 a1 a2 a3 st) (fun x t => k [.int x] t)
  | _ => none
theorem o_X11_letter : ab_one g_X11_letter := by
  intro as st k r h
  unfold g_X11_letter at h ⊢
  split at h
  · exact one_ri h
  · cases h
set_option maxRecDepth 100000 in
theorem e_X11_letter_0 (l0 : Nat) (l1 : Int32) (l2 : Int32) (l3 : Int32) (st : ab_S) : f_X11_letter l0 l1 l2 l3 st =
    ab_rc st l0 11 (
    Option.bind (ab_gR st l0 11 2) fun x1 =>
    Option.bind (ab_rB st x1 (((((200 : Int32) * l1) + l2) * (12 : Int32)) + l3)) fun x2 =>
    some (some (.int (x2 &&& (255 : Int32))), st)) := congrArg (ab_rc st l0 11) ((lm_eq one_X11_letter 0 _ _ _).trans rfl)
def c_X11_compare : List (Nat × ab_I) := [(0, .aload_n 0, 1, .null, 0),
  (1, .getfield 16, 3, .null, 0),
  (4, .sipush (200), 3, (.int (200)), 0),
  (7, .iload_n 1, 1, .null, 1),
  (8, .imul, 1, .null, 0),
  (9, .iload_n 2, 1, .null, 2),
  (10, .iadd, 1, .null, 0),
  (11, .iaload, 1, .null, 0),
  (12, .istore 4, 2, .null, 4),
  (14, .iconst 0, 1, (.int (0)), 0),
  (15, .istore 5, 2, .null, 5),
  (17, .iload 5, 2, .null, 5),
  (19, .iload 4, 2, .null, 4),
  (21, .if_icmp .ge (45), 3, .null, 66),
  (24, .iload 5, 2, .null, 5),
  (26, .iload_n 3, 1, .null, 3),
  (27, .if_icmp .ge (39), 3, .null, 66),
  (30, .aload_n 0, 1, .null, 0),
  (31, .iload_n 1, 1, .null, 1),
  (32, .iload_n 2, 1, .null, 2),
  (33, .iload 5, 2, .null, 5),
  (35, .invokevirtual 153, 3, .null, 0),
  (38, .aload_n 0, 1, .null, 0),
  (39, .getfield 7, 3, .null, 0),
  (42, .iload 5, 2, .null, 5),
  (44, .baload, 1, .null, 0),
  (45, .sipush (255), 3, (.int (255)), 0),
  (48, .iand, 1, .null, 0),
  (49, .isub, 1, .null, 0),
  (50, .istore 6, 2, .null, 6),
  (52, .iload 6, 2, .null, 6),
  (54, .ifCond .eq (6), 3, .null, 60),
  (57, .iload 6, 2, .null, 6),
  (59, .ireturn, 1, .null, 0),
  (60, .iinc 5 (1), 3, (.int (1)), 5),
  (63, .goto (-46), 3, .null, 17),
  (66, .iload 4, 2, .null, 4),
  (68, .iload_n 3, 1, .null, 3),
  (69, .isub, 1, .null, 0),
  (70, .ireturn, 1, .null, 0)]
noncomputable def m_X11_compare : ab_M := (c_X11_compare, [(0, [0, 1, 2, 3]), (17, [0, 1, 2, 3, 4, 5])],
  [(7, 11, 0, 3), (16, 11, 3, 3)],
  [],
  [(153, 1, 4, g_X11_letter)],
  [], 7, 1)
theorem one_X11_compare : ab_oneM m_X11_compare := List.forall_mem_cons.mpr ⟨o_X11_letter, fun _ h => absurd h List.not_mem_nil⟩
noncomputable def f_X11_compare (l0 : Nat) (l1 : Int32) (l2 : Int32) (l3 : Int32) (st : ab_S) : Option ab_R := ab_rc st l0 11 (ab_lim m_X11_compare 0 [.ref l0, .int l1, .int l2, .int l3] [] st)
noncomputable def L_X11_compare_17 (l0 : Nat) (l1 : Int32) (l2 : Int32) (l3 : Int32) (l4 : Int32) (l5 : Int32) (st : ab_S) : Option ab_R := ab_lim m_X11_compare 17 [.ref l0, .int l1, .int l2, .int l3, .int l4, .int l5] [] st
noncomputable def g_X11_compare : ab_G := fun as st k => match as with
  | [.ref a0, .int a1, .int a2, .int a3] => ab_ri (f_X11_compare a0 a1 a2 a3 st) (fun x t => k [.int x] t)
  | _ => none
theorem o_X11_compare : ab_one g_X11_compare := by
  intro as st k r h
  unfold g_X11_compare at h ⊢
  split at h
  · exact one_ri h
  · cases h
set_option maxRecDepth 100000 in
theorem e_X11_compare_0 (l0 : Nat) (l1 : Int32) (l2 : Int32) (l3 : Int32) (st : ab_S) : f_X11_compare l0 l1 l2 l3 st =
    ab_rc st l0 11 (
    Option.bind (ab_gR st l0 11 3) fun x1 =>
    Option.bind (ab_rI st x1 (((200 : Int32) * l1) + l2)) fun x2 =>
    L_X11_compare_17 l0 l1 l2 l3 x2 (0 : Int32) st) := congrArg (ab_rc st l0 11) ((lm_eq one_X11_compare 0 _ _ _).trans rfl)
set_option maxRecDepth 100000 in
theorem e_X11_compare_17 (l0 : Nat) (l1 : Int32) (l2 : Int32) (l3 : Int32) (l4 : Int32) (l5 : Int32) (st : ab_S) : L_X11_compare_17 l0 l1 l2 l3 l4 l5 st =
    if l4 ≤ l5
    then some (some (.int (l4 - l3)), st)
    else if l3 ≤ l5
      then some (some (.int (l4 - l3)), st)
      else ab_ri (f_X11_letter l0 l1 l2 l5 st) fun x2 s1 =>
        Option.bind (ab_gR s1 l0 11 0) fun x3 =>
        Option.bind (ab_rB s1 x3 l5) fun x4 =>
        if (x2 - (x4 &&& (255 : Int32))) = 0
        then L_X11_compare_17 l0 l1 l2 l3 l4 (l5 + (1 : Int32)) s1
        else some (some (.int (x2 - (x4 &&& (255 : Int32)))), s1) := (lm_eq one_X11_compare 17 _ _ _).trans rfl
def c_X11_append : List (Nat × ab_I) := [(0, .sipush (200), 3, (.int (200)), 0),
  (3, .iload_n 1, 1, .null, 1),
  (4, .imul, 1, .null, 0),
  (5, .aload_n 0, 1, .null, 0),
  (6, .getfield 24, 3, .null, 0),
  (9, .iload_n 1, 1, .null, 1),
  (10, .iaload, 1, .null, 0),
  (11, .iadd, 1, .null, 0),
  (12, .istore 7, 2, .null, 7),
  (14, .iconst 0, 1, (.int (0)), 0),
  (15, .istore 8, 2, .null, 8),
  (17, .iload 8, 2, .null, 8),
  (19, .iload 4, 2, .null, 4),
  (21, .if_icmp .ge (28), 3, .null, 49),
  (24, .aload_n 0, 1, .null, 0),
  (25, .getfield 13, 3, .null, 0),
  (28, .bipush (12), 2, (.int (12)), 0),
  (30, .iload 7, 2, .null, 7),
  (32, .imul, 1, .null, 0),
  (33, .iload 8, 2, .null, 8),
  (35, .iadd, 1, .null, 0),
  (36, .aload_n 2, 1, .null, 2),
  (37, .iload_n 3, 1, .null, 3),
  (38, .iload 8, 2, .null, 8),
  (40, .iadd, 1, .null, 0),
  (41, .baload, 1, .null, 0),
  (42, .bastore, 1, .null, 0),
  (43, .iinc 8 (1), 3, (.int (1)), 8),
  (46, .goto (-29), 3, .null, 17),
  (49, .aload_n 0, 1, .null, 0),
  (50, .getfield 16, 3, .null, 0),
  (53, .iload 7, 2, .null, 7),
  (55, .iload 4, 2, .null, 4),
  (57, .iastore, 1, .null, 0),
  (58, .aload_n 0, 1, .null, 0),
  (59, .getfield 20, 3, .null, 0),
  (62, .iload 7, 2, .null, 7),
  (64, .lload 5, 2, .null, 5),
  (66, .lastore, 1, .null, 0),
  (67, .aload_n 0, 1, .null, 0),
  (68, .getfield 24, 3, .null, 0),
  (71, .iload_n 1, 1, .null, 1),
  (72, .dup2, 1, .null, 0),
  (73, .iaload, 1, .null, 0),
  (74, .iconst 1, 1, (.int (1)), 0),
  (75, .iadd, 1, .null, 0),
  (76, .iastore, 1, .null, 0),
  (77, .return_, 1, .null, 0)]
noncomputable def m_X11_append : ab_M := (c_X11_append, [(0, [0, 1, 2, 3, 4, 5]), (17, [0, 1, 2, 3, 4, 5, 7, 8])],
  [(13, 11, 2, 3), (16, 11, 3, 3), (20, 11, 4, 3), (24, 11, 5, 3)],
  [],
  [],
  [], 9, 0)
theorem one_X11_append : ab_oneM m_X11_append := fun _ h => absurd h List.not_mem_nil
noncomputable def f_X11_append (l0 : Nat) (l1 : Int32) (l2 : Nat) (l3 : Int32) (l4 : Int32) (l5 : Int64) (st : ab_S) : Option ab_R := ab_rc st l0 11 (ab_lim m_X11_append 0 [.ref l0, .int l1, .ref l2, .int l3, .int l4, .long l5] [] st)
noncomputable def L_X11_append_17 (l0 : Nat) (l1 : Int32) (l2 : Nat) (l3 : Int32) (l4 : Int32) (l5 : Int64) (l7 : Int32) (l8 : Int32) (st : ab_S) : Option ab_R := ab_lim m_X11_append 17 [.ref l0, .int l1, .ref l2, .int l3, .int l4, .long l5, .int l7, .int l8] [] st
noncomputable def g_X11_append : ab_G := fun as st k => match as with
  | [.ref a0, .int a1, .ref a2, .int a3, .int a4, .long a5] => ab_rv (f_X11_append a0 a1 a2 a3 a4 a5 st) (fun t => k [] t)
  | _ => none
theorem o_X11_append : ab_one g_X11_append := by
  intro as st k r h
  unfold g_X11_append at h ⊢
  split at h
  · exact one_rv h
  · cases h
set_option maxRecDepth 100000 in
theorem e_X11_append_0 (l0 : Nat) (l1 : Int32) (l2 : Nat) (l3 : Int32) (l4 : Int32) (l5 : Int64) (st : ab_S) : f_X11_append l0 l1 l2 l3 l4 l5 st =
    ab_rc st l0 11 (
    Option.bind (ab_gR st l0 11 5) fun x1 =>
    Option.bind (ab_rI st x1 l1) fun x2 =>
    L_X11_append_17 l0 l1 l2 l3 l4 l5 (((200 : Int32) * l1) + x2) (0 : Int32) st) := congrArg (ab_rc st l0 11) ((lm_eq one_X11_append 0 _ _ _).trans rfl)
set_option maxRecDepth 100000 in
theorem e_X11_append_17 (l0 : Nat) (l1 : Int32) (l2 : Nat) (l3 : Int32) (l4 : Int32) (l5 : Int64) (l7 : Int32) (l8 : Int32) (st : ab_S) : L_X11_append_17 l0 l1 l2 l3 l4 l5 l7 l8 st =
    if l4 ≤ l8
    then Option.bind (ab_gR st l0 11 3) fun x1 =>
      Option.bind (ab_wI st x1 l7 l4) fun s2 =>
      Option.bind (ab_gR s2 l0 11 4) fun x3 =>
      Option.bind (ab_wJ s2 x3 l7 l5) fun s4 =>
      Option.bind (ab_gR s4 l0 11 5) fun x5 =>
      Option.bind (ab_rI s4 x5 l1) fun x6 =>
      Option.bind (ab_wI s4 x5 l1 (x6 + (1 : Int32))) fun s7 =>
      some (none, s7)
    else Option.bind (ab_gR st l0 11 2) fun x8 =>
      Option.bind (ab_rB st l2 (l3 + l8)) fun x9 =>
      Option.bind (ab_wB st x8 (((12 : Int32) * l7) + l8) x9) fun s10 =>
      L_X11_append_17 l0 l1 l2 l3 l4 l5 l7 (l8 + (1 : Int32)) s10 := (lm_eq one_X11_append 17 _ _ _).trans rfl
def c_X11_add : List (Nat × ab_I) := [(0, .iload_n 1, 1, .null, 1),
  (1, .invokestatic 159, 3, .null, 0),
  (4, .ifCond .eq (14), 3, .null, 18),
  (7, .lload_n 2, 1, .null, 2),
  (8, .lconst 0, 1, (.long (0)), 0),
  (9, .ldc2_w 163, 3, (.long (1000000000000)), 0),
  (12, .invokestatic 146, 3, .null, 0),
  (15, .ifCond .ne (6), 3, .null, 21),
  (18, .bipush (-2), 2, (.int (-2)), 0),
  (20, .ireturn, 1, .null, 0),
  (21, .aload_n 0, 1, .null, 0),
  (22, .invokevirtual 165, 3, .null, 0),
  (25, .istore 4, 2, .null, 4),
  (27, .aload_n 0, 1, .null, 0),
  (28, .getfield 27, 3, .null, 0),
  (31, .iload_n 1, 1, .null, 1),
  (32, .baload, 1, .null, 0),
  (33, .ifCond .ne (6), 3, .null, 39),
  (36, .bipush (-4), 2, (.int (-4)), 0),
  (38, .ireturn, 1, .null, 0),
  (39, .iload 4, 2, .null, 4),
  (41, .bipush (12), 2, (.int (12)), 0),
  (43, .if_icmp .le (6), 3, .null, 49),
  (46, .bipush (-6), 2, (.int (-6)), 0),
  (48, .ireturn, 1, .null, 0),
  (49, .aload_n 0, 1, .null, 0),
  (50, .getfield 24, 3, .null, 0),
  (53, .iload_n 1, 1, .null, 1),
  (54, .iaload, 1, .null, 0),
  (55, .ifCond .le (24), 3, .null, 79),
  (58, .aload_n 0, 1, .null, 0),
  (59, .iload_n 1, 1, .null, 1),
  (60, .aload_n 0, 1, .null, 0),
  (61, .getfield 24, 3, .null, 0),
  (64, .iload_n 1, 1, .null, 1),
  (65, .iaload, 1, .null, 0),
  (66, .iconst 1, 1, (.int (1)), 0),
  (67, .isub, 1, .null, 0),
  (68, .iload 4, 2, .null, 4),
  (70, .invokevirtual 169, 3, .null, 0),
  (73, .ifCond .lt (6), 3, .null, 79),
  (76, .bipush (-5), 2, (.int (-5)), 0),
  (78, .ireturn, 1, .null, 0),
  (79, .aload_n 0, 1, .null, 0),
  (80, .getfield 24, 3, .null, 0),
  (83, .iload_n 1, 1, .null, 1),
  (84, .iaload, 1, .null, 0),
  (85, .sipush (200), 3, (.int (200)), 0),
  (88, .if_icmp .ne (6), 3, .null, 94),
  (91, .bipush (-3), 2, (.int (-3)), 0),
  (93, .ireturn, 1, .null, 0),
  (94, .aload_n 0, 1, .null, 0),
  (95, .iload_n 1, 1, .null, 1),
  (96, .aload_n 0, 1, .null, 0),
  (97, .getfield 7, 3, .null, 0),
  (100, .iconst 0, 1, (.int (0)), 0),
  (101, .iload 4, 2, .null, 4),
  (103, .lload_n 2, 1, .null, 2),
  (104, .invokevirtual 172, 3, .null, 0),
  (107, .aload_n 0, 1, .null, 0),
  (108, .getfield 24, 3, .null, 0),
  (111, .iload_n 1, 1, .null, 1),
  (112, .iaload, 1, .null, 0),
  (113, .ireturn, 1, .null, 0)]
noncomputable def m_X11_add : ab_M := (c_X11_add, [(0, [0, 1, 2]), (79, [0, 1, 2, 4])],
  [(7, 11, 0, 3), (24, 11, 5, 3), (27, 11, 6, 3)],
  [],
  [(146, 0, 3, g_X11_isIn), (159, 0, 1, g_X11_isDictionary), (165, 1, 1, g_X11_forget), (169, 1, 4, g_X11_compare), (172, 1, 6, g_X11_append)],
  [], 5, 1)
theorem one_X11_add : ab_oneM m_X11_add := List.forall_mem_cons.mpr ⟨o_X11_isIn, List.forall_mem_cons.mpr ⟨o_X11_isDictionary, List.forall_mem_cons.mpr ⟨o_X11_forget, List.forall_mem_cons.mpr ⟨o_X11_compare, List.forall_mem_cons.mpr ⟨o_X11_append, fun _ h => absurd h List.not_mem_nil⟩⟩⟩⟩⟩
noncomputable def f_X11_add (l0 : Nat) (l1 : Int32) (l2 : Int64) (st : ab_S) : Option ab_R := ab_rc st l0 11 (ab_lim m_X11_add 0 [.ref l0, .int l1, .long l2] [] st)
noncomputable def L_X11_add_79 (l0 : Nat) (l1 : Int32) (l2 : Int64) (l4 : Int32) (st : ab_S) : Option ab_R := ab_lim m_X11_add 79 [.ref l0, .int l1, .long l2, .int l4] [] st
noncomputable def g_X11_add : ab_G := fun as st k => match as with
  | [.ref a0, .int a1, .long a2] => ab_ri (f_X11_add a0 a1 a2 st) (fun x t => k [.int x] t)
  | _ => none
theorem o_X11_add : ab_one g_X11_add := by
  intro as st k r h
  unfold g_X11_add at h ⊢
  split at h
  · exact one_ri h
  · cases h
set_option maxRecDepth 100000 in
theorem e_X11_add_0 (l0 : Nat) (l1 : Int32) (l2 : Int64) (st : ab_S) : f_X11_add l0 l1 l2 st =
    ab_rc st l0 11 (
    ab_ri (f_X11_isDictionary l1 st) fun x2 s1 =>
    if x2 = 0
    then some (some (.int (-2 : Int32)), s1)
    else ab_ri (f_X11_isIn l2 (0 : Int64) (1000000000000 : Int64) s1) fun x4 s3 =>
      if x4 = 0
      then some (some (.int (-2 : Int32)), s3)
      else ab_ri (f_X11_forget l0 s3) fun x6 s5 =>
        Option.bind (ab_gR s5 l0 11 6) fun x7 =>
        Option.bind (ab_rB s5 x7 l1) fun x8 =>
        if x8 = 0
        then some (some (.int (-4 : Int32)), s5)
        else if x6 ≤ (12 : Int32)
          then Option.bind (ab_gR s5 l0 11 5) fun x9 =>
            Option.bind (ab_rI s5 x9 l1) fun x10 =>
            if x10 ≤ 0
            then L_X11_add_79 l0 l1 l2 x6 s5
            else Option.bind (ab_gR s5 l0 11 5) fun x11 =>
              Option.bind (ab_rI s5 x11 l1) fun x12 =>
              ab_ri (f_X11_compare l0 l1 (x12 - (1 : Int32)) x6 s5) fun x14 s13 =>
              if x14 < 0
              then L_X11_add_79 l0 l1 l2 x6 s13
              else some (some (.int (-5 : Int32)), s13)
          else some (some (.int (-6 : Int32)), s5)) := congrArg (ab_rc st l0 11) ((lm_eq one_X11_add 0 _ _ _).trans rfl)
set_option maxRecDepth 100000 in
theorem e_X11_add_79 (l0 : Nat) (l1 : Int32) (l2 : Int64) (l4 : Int32) (st : ab_S) : L_X11_add_79 l0 l1 l2 l4 st =
    Option.bind (ab_gR st l0 11 5) fun x1 =>
    Option.bind (ab_rI st x1 l1) fun x2 =>
    if x2 = (200 : Int32)
    then some (some (.int (-3 : Int32)), st)
    else Option.bind (ab_gR st l0 11 0) fun x3 =>
      ab_rv (f_X11_append l0 l1 x3 (0 : Int32) l4 l2 st) fun s4 =>
      Option.bind (ab_gR s4 l0 11 5) fun x5 =>
      Option.bind (ab_rI s4 x5 l1) fun x6 =>
      some (some (.int x6), s4) := (lm_eq one_X11_add 79 _ _ _).trans rfl
def c_X8_grow : List (Nat × ab_I) := [(0, .aload_n 0, 1, .null, 0),
  (1, .getfield 76, 3, .null, 0),
  (4, .sipush (2400), 3, (.int (2400)), 0),
  (7, .invokestatic 93, 3, .null, 0),
  (10, .istore 5, 2, .null, 5),
  (12, .aload_n 0, 1, .null, 0),
  (13, .getfield 9, 3, .null, 0),
  (16, .iload 5, 2, .null, 5),
  (18, .iload_n 1, 1, .null, 1),
  (19, .iastore, 1, .null, 0),
  (20, .aload_n 0, 1, .null, 0),
  (21, .getfield 15, 3, .null, 0),
  (24, .iload 5, 2, .null, 5),
  (26, .iload_n 2, 1, .null, 2),
  (27, .iastore, 1, .null, 0),
  (28, .aload_n 0, 1, .null, 0),
  (29, .getfield 18, 3, .null, 0),
  (32, .iload 5, 2, .null, 5),
  (34, .iconst 0, 1, (.int (0)), 0),
  (35, .iastore, 1, .null, 0),
  (36, .aload_n 0, 1, .null, 0),
  (37, .getfield 21, 3, .null, 0),
  (40, .iload 5, 2, .null, 5),
  (42, .lload_n 3, 1, .null, 3),
  (43, .lastore, 1, .null, 0),
  (44, .aload_n 0, 1, .null, 0),
  (45, .getfield 25, 3, .null, 0),
  (48, .iload 5, 2, .null, 5),
  (50, .ldc2_w 114, 3, (.long (-1)), 0),
  (53, .lastore, 1, .null, 0),
  (54, .aload_n 0, 1, .null, 0),
  (55, .getfield 28, 3, .null, 0),
  (58, .iload 5, 2, .null, 5),
  (60, .iconst (-1), 1, (.int (-1)), 0),
  (61, .iastore, 1, .null, 0),
  (62, .aload_n 0, 1, .null, 0),
  (63, .iload 5, 2, .null, 5),
  (65, .iconst 1, 1, (.int (1)), 0),
  (66, .iadd, 1, .null, 0),
  (67, .putfield 76, 3, .null, 0),
  (70, .iload 5, 2, .null, 5),
  (72, .ireturn, 1, .null, 0)]
noncomputable def m_X8_grow : ab_M := (c_X8_grow, [(0, [0, 1, 2, 3])],
  [(9, 8, 0, 3), (15, 8, 1, 3), (18, 8, 2, 3), (21, 8, 3, 3), (25, 8, 4, 3), (28, 8, 5, 3), (76, 8, 13, 0)],
  [],
  [(93, 0, 2, g_min)],
  [], 6, 1)
theorem one_X8_grow : ab_oneM m_X8_grow := List.forall_mem_cons.mpr ⟨o_min, fun _ h => absurd h List.not_mem_nil⟩
noncomputable def f_X8_grow (l0 : Nat) (l1 : Int32) (l2 : Int32) (l3 : Int64) (st : ab_S) : Option ab_R := ab_rc st l0 8 (ab_lim m_X8_grow 0 [.ref l0, .int l1, .int l2, .long l3] [] st)
noncomputable def g_X8_grow : ab_G := fun as st k => match as with
  | [.ref a0, .int a1, .int a2, .long a3] => ab_ri (f_X8_grow a0 a1 a2 a3 st) (fun x t => k [.int x] t)
  | _ => none
theorem o_X8_grow : ab_one g_X8_grow := by
  intro as st k r h
  unfold g_X8_grow at h ⊢
  split at h
  · exact one_ri h
  · cases h
set_option maxRecDepth 100000 in
theorem e_X8_grow_0 (l0 : Nat) (l1 : Int32) (l2 : Int32) (l3 : Int64) (st : ab_S) : f_X8_grow l0 l1 l2 l3 st =
    ab_rc st l0 8 (
    Option.bind (ab_gI st l0 8 13) fun x1 =>
    Option.bind (ab_gR st l0 8 0) fun x2 =>
    Option.bind (ab_wI st x2 (if (2400 : Int32) < x1 then (2400 : Int32) else x1) l1) fun s3 =>
    Option.bind (ab_gR s3 l0 8 1) fun x4 =>
    Option.bind (ab_wI s3 x4 (if (2400 : Int32) < x1 then (2400 : Int32) else x1) l2) fun s5 =>
    Option.bind (ab_gR s5 l0 8 2) fun x6 =>
    Option.bind (ab_wI s5 x6 (if (2400 : Int32) < x1 then (2400 : Int32) else x1) (0 : Int32)) fun s7 =>
    Option.bind (ab_gR s7 l0 8 3) fun x8 =>
    Option.bind (ab_wJ s7 x8 (if (2400 : Int32) < x1 then (2400 : Int32) else x1) l3) fun s9 =>
    Option.bind (ab_gR s9 l0 8 4) fun x10 =>
    Option.bind (ab_wJ s9 x10 (if (2400 : Int32) < x1 then (2400 : Int32) else x1) (-1 : Int64)) fun s11 =>
    Option.bind (ab_gR s11 l0 8 5) fun x12 =>
    Option.bind (ab_wI s11 x12 (if (2400 : Int32) < x1 then (2400 : Int32) else x1) (-1 : Int32)) fun s13 =>
    Option.bind (ab_pI s13 l0 8 13 ((if (2400 : Int32) < x1 then (2400 : Int32) else x1) + (1 : Int32))) fun s14 =>
    some (some (.int (if (2400 : Int32) < x1 then (2400 : Int32) else x1)), s14)) := congrArg (ab_rc st l0 8) ((lm_eq one_X8_grow 0 _ _ _).trans rfl)
def c_X8_sharedWithLast : List (Nat × ab_I) := [(0, .iconst 0, 1, (.int (0)), 0),
  (1, .istore_n 3, 1, .null, 3),
  (2, .iload_n 3, 1, .null, 3),
  (3, .iload_n 2, 1, .null, 2),
  (4, .if_icmp .ge (26), 3, .null, 30),
  (7, .aload_n 0, 1, .null, 0),
  (8, .iload_n 1, 1, .null, 1),
  (9, .iload_n 3, 1, .null, 3),
  (10, .invokevirtual 103, 3, .null, 0),
  (13, .aload_n 0, 1, .null, 0),
  (14, .iload_n 1, 1, .null, 1),
  (15, .iconst 1, 1, (.int (1)), 0),
  (16, .isub, 1, .null, 0),
  (17, .iload_n 3, 1, .null, 3),
  (18, .invokevirtual 103, 3, .null, 0),
  (21, .if_icmp .ne (9), 3, .null, 30),
  (24, .iinc 3 (1), 3, (.int (1)), 3),
  (27, .goto (-25), 3, .null, 2),
  (30, .iload_n 3, 1, .null, 3),
  (31, .ireturn, 1, .null, 0)]
noncomputable def m_X8_sharedWithLast : ab_M := (c_X8_sharedWithLast, [(0, [0, 1, 2]), (2, [0, 1, 2, 3])],
  [],
  [],
  [(103, 1, 3, g_X7_signAt)],
  [], 4, 1)
theorem one_X8_sharedWithLast : ab_oneM m_X8_sharedWithLast := List.forall_mem_cons.mpr ⟨o_X7_signAt, fun _ h => absurd h List.not_mem_nil⟩
noncomputable def f_X8_sharedWithLast (l0 : Nat) (l1 : Int32) (l2 : Int32) (st : ab_S) : Option ab_R := ab_lim m_X8_sharedWithLast 0 [.ref l0, .int l1, .int l2] [] st
noncomputable def L_X8_sharedWithLast_2 (l0 : Nat) (l1 : Int32) (l2 : Int32) (l3 : Int32) (st : ab_S) : Option ab_R := ab_lim m_X8_sharedWithLast 2 [.ref l0, .int l1, .int l2, .int l3] [] st
noncomputable def g_X8_sharedWithLast : ab_G := fun as st k => match as with
  | [.ref a0, .int a1, .int a2] => ab_ri (f_X8_sharedWithLast a0 a1 a2 st) (fun x t => k [.int x] t)
  | _ => none
theorem o_X8_sharedWithLast : ab_one g_X8_sharedWithLast := by
  intro as st k r h
  unfold g_X8_sharedWithLast at h ⊢
  split at h
  · exact one_ri h
  · cases h
set_option maxRecDepth 100000 in
theorem e_X8_sharedWithLast_0 (l0 : Nat) (l1 : Int32) (l2 : Int32) (st : ab_S) : f_X8_sharedWithLast l0 l1 l2 st =
    L_X8_sharedWithLast_2 l0 l1 l2 (0 : Int32) st := (lm_eq one_X8_sharedWithLast 0 _ _ _).trans rfl
set_option maxRecDepth 100000 in
theorem e_X8_sharedWithLast_2 (l0 : Nat) (l1 : Int32) (l2 : Int32) (l3 : Int32) (st : ab_S) : L_X8_sharedWithLast_2 l0 l1 l2 l3 st =
    if l2 ≤ l3
    then some (some (.int l3), st)
    else ab_ri (f_X7_signAt l0 l1 l3 st) fun x2 s1 =>
      ab_ri (f_X7_signAt l0 (l1 - (1 : Int32)) l3 s1) fun x4 s3 =>
      if x2 = x4
      then L_X8_sharedWithLast_2 l0 l1 l2 (l3 + (1 : Int32)) s3
      else some (some (.int l3), s3) := (lm_eq one_X8_sharedWithLast 2 _ _ _).trans rfl
def c_X7_outAt : List (Nat × ab_I) := [(0, .aload_n 0, 1, .null, 0),
  (1, .iload_n 1, 1, .null, 1),
  (2, .invokevirtual 26, 3, .null, 0),
  (5, .ifCond .eq (12), 3, .null, 17),
  (8, .aload_n 0, 1, .null, 0),
  (9, .getfield 18, 3, .null, 0),
  (12, .iload_n 1, 1, .null, 1),
  (13, .laload, 1, .null, 0),
  (14, .goto (6), 3, .null, 20),
  (17, .ldc2_w 34, 3, (.long (-1)), 0),
  (20, .lreturn, 1, .null, 0)]
noncomputable def m_X7_outAt : ab_M := (c_X7_outAt, [(0, [0, 1])],
  [(18, 7, 2, 3)],
  [],
  [(26, 1, 2, g_X7_has)],
  [], 2, 3)
theorem one_X7_outAt : ab_oneM m_X7_outAt := List.forall_mem_cons.mpr ⟨o_X7_has, fun _ h => absurd h List.not_mem_nil⟩
noncomputable def f_X7_outAt (l0 : Nat) (l1 : Int32) (st : ab_S) : Option ab_R := ab_rc st l0 7 (ab_lim m_X7_outAt 0 [.ref l0, .int l1] [] st)
noncomputable def g_X7_outAt : ab_G := fun as st k => match as with
  | [.ref a0, .int a1] => ab_rl (f_X7_outAt a0 a1 st) (fun x t => k [.long x] t)
  | _ => none
theorem o_X7_outAt : ab_one g_X7_outAt := by
  intro as st k r h
  unfold g_X7_outAt at h ⊢
  split at h
  · exact one_rl h
  · cases h
set_option maxRecDepth 100000 in
theorem e_X7_outAt_0 (l0 : Nat) (l1 : Int32) (st : ab_S) : f_X7_outAt l0 l1 st =
    ab_rc st l0 7 (
    ab_ri (f_X7_has l0 l1 st) fun x2 s1 =>
    if x2 = 0
    then some (some (.long (-1 : Int64)), s1)
    else Option.bind (ab_gR s1 l0 7 2) fun x3 =>
      Option.bind (ab_rJ s1 x3 l1) fun x4 =>
      some (some (.long x4), s1)) := congrArg (ab_rc st l0 7) ((lm_eq one_X7_outAt 0 _ _ _).trans rfl)
def c_X8_countAlongPath : List (Nat × ab_I) := [(0, .iconst 0, 1, (.int (0)), 0),
  (1, .istore 4, 2, .null, 4),
  (3, .iload 4, 2, .null, 4),
  (5, .iload_n 1, 1, .null, 1),
  (6, .if_icmp .gt (47), 3, .null, 53),
  (9, .aload_n 0, 1, .null, 0),
  (10, .getfield 49, 3, .null, 0),
  (13, .iload 4, 2, .null, 4),
  (15, .iaload, 1, .null, 0),
  (16, .istore 5, 2, .null, 5),
  (18, .aload_n 0, 1, .null, 0),
  (19, .getfield 18, 3, .null, 0),
  (22, .iload 5, 2, .null, 5),
  (24, .dup2, 1, .null, 0),
  (25, .iaload, 1, .null, 0),
  (26, .iconst 1, 1, (.int (1)), 0),
  (27, .iadd, 1, .null, 0),
  (28, .iastore, 1, .null, 0),
  (29, .aload_n 0, 1, .null, 0),
  (30, .getfield 21, 3, .null, 0),
  (33, .iload 5, 2, .null, 5),
  (35, .aload_n 0, 1, .null, 0),
  (36, .getfield 21, 3, .null, 0),
  (39, .iload 5, 2, .null, 5),
  (41, .laload, 1, .null, 0),
  (42, .lload_n 2, 1, .null, 2),
  (43, .invokestatic 116, 3, .null, 0),
  (46, .lastore, 1, .null, 0),
  (47, .iinc 4 (1), 3, (.int (1)), 4),
  (50, .goto (-47), 3, .null, 3),
  (53, .aload_n 0, 1, .null, 0),
  (54, .getfield 25, 3, .null, 0),
  (57, .aload_n 0, 1, .null, 0),
  (58, .getfield 49, 3, .null, 0),
  (61, .iload_n 1, 1, .null, 1),
  (62, .iaload, 1, .null, 0),
  (63, .lload_n 2, 1, .null, 2),
  (64, .lastore, 1, .null, 0),
  (65, .return_, 1, .null, 0)]
noncomputable def m_X8_countAlongPath : ab_M := (c_X8_countAlongPath, [(0, [0, 1, 2]), (3, [0, 1, 2, 4])],
  [(18, 8, 2, 3), (21, 8, 3, 3), (25, 8, 4, 3), (49, 8, 12, 3)],
  [],
  [(116, 0, 2, g_minl)],
  [], 6, 0)
theorem one_X8_countAlongPath : ab_oneM m_X8_countAlongPath := List.forall_mem_cons.mpr ⟨o_minl, fun _ h => absurd h List.not_mem_nil⟩
noncomputable def f_X8_countAlongPath (l0 : Nat) (l1 : Int32) (l2 : Int64) (st : ab_S) : Option ab_R := ab_rc st l0 8 (ab_lim m_X8_countAlongPath 0 [.ref l0, .int l1, .long l2] [] st)
noncomputable def L_X8_countAlongPath_3 (l0 : Nat) (l1 : Int32) (l2 : Int64) (l4 : Int32) (st : ab_S) : Option ab_R := ab_lim m_X8_countAlongPath 3 [.ref l0, .int l1, .long l2, .int l4] [] st
noncomputable def g_X8_countAlongPath : ab_G := fun as st k => match as with
  | [.ref a0, .int a1, .long a2] => ab_rv (f_X8_countAlongPath a0 a1 a2 st) (fun t => k [] t)
  | _ => none
theorem o_X8_countAlongPath : ab_one g_X8_countAlongPath := by
  intro as st k r h
  unfold g_X8_countAlongPath at h ⊢
  split at h
  · exact one_rv h
  · cases h
set_option maxRecDepth 100000 in
theorem e_X8_countAlongPath_0 (l0 : Nat) (l1 : Int32) (l2 : Int64) (st : ab_S) : f_X8_countAlongPath l0 l1 l2 st =
    ab_rc st l0 8 (
    L_X8_countAlongPath_3 l0 l1 l2 (0 : Int32) st) := congrArg (ab_rc st l0 8) ((lm_eq one_X8_countAlongPath 0 _ _ _).trans rfl)
set_option maxRecDepth 100000 in
theorem e_X8_countAlongPath_3 (l0 : Nat) (l1 : Int32) (l2 : Int64) (l4 : Int32) (st : ab_S) : L_X8_countAlongPath_3 l0 l1 l2 l4 st =
    if l1 < l4
    then Option.bind (ab_gR st l0 8 4) fun x1 =>
      Option.bind (ab_gR st l0 8 12) fun x2 =>
      Option.bind (ab_rI st x2 l1) fun x3 =>
      Option.bind (ab_wJ st x1 x3 l2) fun s4 =>
      some (none, s4)
    else Option.bind (ab_gR st l0 8 12) fun x5 =>
      Option.bind (ab_rI st x5 l4) fun x6 =>
      Option.bind (ab_gR st l0 8 2) fun x7 =>
      Option.bind (ab_rI st x7 x6) fun x8 =>
      Option.bind (ab_wI st x7 x6 (x8 + (1 : Int32))) fun s9 =>
      Option.bind (ab_gR s9 l0 8 3) fun x10 =>
      Option.bind (ab_gR s9 l0 8 3) fun x11 =>
      Option.bind (ab_rJ s9 x11 x6) fun x12 =>
      Option.bind (ab_wJ s9 x10 x6 (if l2 < x12 then l2 else x12)) fun s13 =>
      L_X8_countAlongPath_3 l0 l1 l2 (l4 + (1 : Int32)) s13 := (lm_eq one_X8_countAlongPath 3 _ _ _).trans rfl
def c_X8_plant : List (Nat × ab_I) := [(0, .aload_n 0, 1, .null, 0),
  (1, .iconst 0, 1, (.int (0)), 0),
  (2, .putfield 76, 3, .null, 0),
  (5, .aload_n 0, 1, .null, 0),
  (6, .getfield 49, 3, .null, 0),
  (9, .iconst 0, 1, (.int (0)), 0),
  (10, .aload_n 0, 1, .null, 0),
  (11, .iconst (-1), 1, (.int (-1)), 0),
  (12, .iconst (-1), 1, (.int (-1)), 0),
  (13, .aload_n 1, 1, .null, 1),
  (14, .getfield 80, 3, .null, 0),
  (17, .ifCond .ne (7), 3, .null, 24),
  (20, .lconst 0, 1, (.long (0)), 0),
  (21, .goto (6), 3, .null, 27),
  (24, .ldc2_w 83, 3, (.long (1000000000000)), 0),
  (27, .invokevirtual 85, 3, .null, 0),
  (30, .iastore, 1, .null, 0),
  (31, .iconst 0, 1, (.int (0)), 0),
  (32, .istore_n 2, 1, .null, 2),
  (33, .iload_n 2, 1, .null, 2),
  (34, .aload_n 1, 1, .null, 1),
  (35, .getfield 80, 3, .null, 0),
  (38, .if_icmp .ge (80), 3, .null, 118),
  (41, .aload_n 1, 1, .null, 1),
  (42, .iload_n 2, 1, .null, 2),
  (43, .invokevirtual 89, 3, .null, 0),
  (46, .bipush (12), 2, (.int (12)), 0),
  (48, .invokestatic 93, 3, .null, 0),
  (51, .istore_n 3, 1, .null, 3),
  (52, .aload_n 1, 1, .null, 1),
  (53, .iload_n 2, 1, .null, 2),
  (54, .iload_n 3, 1, .null, 3),
  (55, .invokestatic 99, 3, .null, 0),
  (58, .istore 4, 2, .null, 4),
  (60, .iload 4, 2, .null, 4),
  (62, .iload_n 3, 1, .null, 3),
  (63, .if_icmp .ge (39), 3, .null, 102),
  (66, .aload_n 0, 1, .null, 0),
  (67, .getfield 49, 3, .null, 0),
  (70, .iload 4, 2, .null, 4),
  (72, .iconst 1, 1, (.int (1)), 0),
  (73, .iadd, 1, .null, 0),
  (74, .aload_n 0, 1, .null, 0),
  (75, .aload_n 0, 1, .null, 0),
  (76, .getfield 49, 3, .null, 0),
  (79, .iload 4, 2, .null, 4),
  (81, .iaload, 1, .null, 0),
  (82, .aload_n 1, 1, .null, 1),
  (83, .iload_n 2, 1, .null, 2),
  (84, .iload 4, 2, .null, 4),
  (86, .invokevirtual 103, 3, .null, 0),
  (89, .ldc2_w 83, 3, (.long (1000000000000)), 0),
  (92, .invokevirtual 85, 3, .null, 0),
  (95, .iastore, 1, .null, 0),
  (96, .iinc 4 (1), 3, (.int (1)), 4),
  (99, .goto (-39), 3, .null, 60),
  (102, .aload_n 0, 1, .null, 0),
  (103, .iload_n 3, 1, .null, 3),
  (104, .aload_n 1, 1, .null, 1),
  (105, .iload_n 2, 1, .null, 2),
  (106, .invokevirtual 106, 3, .null, 0),
  (109, .invokevirtual 110, 3, .null, 0),
  (112, .iinc 2 (1), 3, (.int (1)), 2),
  (115, .goto (-82), 3, .null, 33),
  (118, .return_, 1, .null, 0)]
noncomputable def m_X8_plant : ab_M := (c_X8_plant, [(0, [0, 1]), (27, [0, 1]), (33, [0, 1, 2]), (60, [0, 1, 2, 3, 4])],
  [(49, 8, 12, 3), (76, 8, 13, 0), (80, 7, 3, 0)],
  [],
  [(85, 1, 4, g_X8_grow), (89, 1, 2, g_X7_lengthAt), (93, 0, 2, g_min), (99, 0, 3, g_X8_sharedWithLast), (103, 1, 3, g_X7_signAt), (106, 1, 2, g_X7_outAt), (110, 1, 3, g_X8_countAlongPath)],
  [], 5, 0)
theorem one_X8_plant : ab_oneM m_X8_plant := List.forall_mem_cons.mpr ⟨o_X8_grow, List.forall_mem_cons.mpr ⟨o_X7_lengthAt, List.forall_mem_cons.mpr ⟨o_min, List.forall_mem_cons.mpr ⟨o_X8_sharedWithLast, List.forall_mem_cons.mpr ⟨o_X7_signAt, List.forall_mem_cons.mpr ⟨o_X7_outAt, List.forall_mem_cons.mpr ⟨o_X8_countAlongPath, fun _ h => absurd h List.not_mem_nil⟩⟩⟩⟩⟩⟩⟩
noncomputable def f_X8_plant (l0 : Nat) (l1 : Nat) (st : ab_S) : Option ab_R := ab_rc st l0 8 (ab_lim m_X8_plant 0 [.ref l0, .ref l1] [] st)
noncomputable def L_X8_plant_27 (l0 : Nat) (l1 : Nat) (t0 : Nat) (t1 : Int32) (t2 : Nat) (t3 : Int32) (t4 : Int32) (t5 : Int64) (st : ab_S) : Option ab_R := ab_lim m_X8_plant 27 [.ref l0, .ref l1] [.long t5, .int t4, .int t3, .ref t2, .int t1, .ref t0] st
noncomputable def L_X8_plant_33 (l0 : Nat) (l1 : Nat) (l2 : Int32) (st : ab_S) : Option ab_R := ab_lim m_X8_plant 33 [.ref l0, .ref l1, .int l2] [] st
noncomputable def L_X8_plant_60 (l0 : Nat) (l1 : Nat) (l2 : Int32) (l3 : Int32) (l4 : Int32) (st : ab_S) : Option ab_R := ab_lim m_X8_plant 60 [.ref l0, .ref l1, .int l2, .int l3, .int l4] [] st
noncomputable def g_X8_plant : ab_G := fun as st k => match as with
  | [.ref a0, .ref a1] => ab_rv (f_X8_plant a0 a1 st) (fun t => k [] t)
  | _ => none
theorem o_X8_plant : ab_one g_X8_plant := by
  intro as st k r h
  unfold g_X8_plant at h ⊢
  split at h
  · exact one_rv h
  · cases h
set_option maxRecDepth 100000 in
theorem e_X8_plant_0 (l0 : Nat) (l1 : Nat) (st : ab_S) : f_X8_plant l0 l1 st =
    ab_rc st l0 8 (
    Option.bind (ab_pI st l0 8 13 (0 : Int32)) fun s1 =>
    Option.bind (ab_gR s1 l0 8 12) fun x2 =>
    Option.bind (ab_gI s1 l1 7 3) fun x3 =>
    if x3 = 0
    then L_X8_plant_27 l0 l1 x2 (0 : Int32) l0 (-1 : Int32) (-1 : Int32) (0 : Int64) s1
    else L_X8_plant_27 l0 l1 x2 (0 : Int32) l0 (-1 : Int32) (-1 : Int32) (1000000000000 : Int64) s1) := congrArg (ab_rc st l0 8) ((lm_eq one_X8_plant 0 _ _ _).trans rfl)
set_option maxRecDepth 100000 in
theorem e_X8_plant_27 (l0 : Nat) (l1 : Nat) (t0 : Nat) (t1 : Int32) (t2 : Nat) (t3 : Int32) (t4 : Int32) (t5 : Int64) (st : ab_S) : L_X8_plant_27 l0 l1 t0 t1 t2 t3 t4 t5 st =
    ab_ri (f_X8_grow t2 t3 t4 t5 st) fun x2 s1 =>
    Option.bind (ab_wI s1 t0 t1 x2) fun s3 =>
    L_X8_plant_33 l0 l1 (0 : Int32) s3 := (lm_eq one_X8_plant 27 _ _ _).trans rfl
set_option maxRecDepth 100000 in
theorem e_X8_plant_33 (l0 : Nat) (l1 : Nat) (l2 : Int32) (st : ab_S) : L_X8_plant_33 l0 l1 l2 st =
    Option.bind (ab_gI st l1 7 3) fun x1 =>
    if x1 ≤ l2
    then some (none, st)
    else ab_ri (f_X7_lengthAt l1 l2 st) fun x3 s2 =>
      ab_ri (f_X8_sharedWithLast l1 l2 (if (12 : Int32) < x3 then (12 : Int32) else x3) s2) fun x5 s4 =>
      L_X8_plant_60 l0 l1 l2 (if (12 : Int32) < x3 then (12 : Int32) else x3) x5 s4 := (lm_eq one_X8_plant 33 _ _ _).trans rfl
set_option maxRecDepth 100000 in
theorem e_X8_plant_60 (l0 : Nat) (l1 : Nat) (l2 : Int32) (l3 : Int32) (l4 : Int32) (st : ab_S) : L_X8_plant_60 l0 l1 l2 l3 l4 st =
    if l3 ≤ l4
    then ab_rl (f_X7_outAt l1 l2 st) fun x2 s1 =>
      ab_rv (f_X8_countAlongPath l0 l3 x2 s1) fun s3 =>
      L_X8_plant_33 l0 l1 (l2 + (1 : Int32)) s3
    else Option.bind (ab_gR st l0 8 12) fun x4 =>
      Option.bind (ab_gR st l0 8 12) fun x5 =>
      Option.bind (ab_rI st x5 l4) fun x6 =>
      ab_ri (f_X7_signAt l1 l2 l4 st) fun x8 s7 =>
      ab_ri (f_X8_grow l0 x6 x8 (1000000000000 : Int64) s7) fun x10 s9 =>
      Option.bind (ab_wI s9 x4 (l4 + (1 : Int32)) x10) fun s11 =>
      L_X8_plant_60 l0 l1 l2 l3 (l4 + (1 : Int32)) s11 := (lm_eq one_X8_plant 60 _ _ _).trans rfl
def c_X8_lastOutput : List (Nat × ab_I) := [(0, .aload_n 0, 1, .null, 0),
  (1, .getfield 25, 3, .null, 0),
  (4, .iload_n 1, 1, .null, 1),
  (5, .laload, 1, .null, 0),
  (6, .ldc2_w 114, 3, (.long (-1)), 0),
  (9, .lcmp, 1, .null, 0),
  (10, .ifCond .ne (9), 3, .null, 19),
  (13, .ldc2_w 114, 3, (.long (-1)), 0),
  (16, .goto (16), 3, .null, 32),
  (19, .aload_n 0, 1, .null, 0),
  (20, .getfield 25, 3, .null, 0),
  (23, .iload_n 1, 1, .null, 1),
  (24, .laload, 1, .null, 0),
  (25, .aload_n 0, 1, .null, 0),
  (26, .getfield 21, 3, .null, 0),
  (29, .iload_n 1, 1, .null, 1),
  (30, .laload, 1, .null, 0),
  (31, .lsub, 1, .null, 0),
  (32, .lreturn, 1, .null, 0)]
noncomputable def m_X8_lastOutput : ab_M := (c_X8_lastOutput, [(0, [0, 1])],
  [(21, 8, 3, 3), (25, 8, 4, 3)],
  [],
  [],
  [], 2, 3)
theorem one_X8_lastOutput : ab_oneM m_X8_lastOutput := fun _ h => absurd h List.not_mem_nil
noncomputable def f_X8_lastOutput (l0 : Nat) (l1 : Int32) (st : ab_S) : Option ab_R := ab_rc st l0 8 (ab_lim m_X8_lastOutput 0 [.ref l0, .int l1] [] st)
noncomputable def g_X8_lastOutput : ab_G := fun as st k => match as with
  | [.ref a0, .int a1] => ab_rl (f_X8_lastOutput a0 a1 st) (fun x t => k [.long x] t)
  | _ => none
theorem o_X8_lastOutput : ab_one g_X8_lastOutput := by
  intro as st k r h
  unfold g_X8_lastOutput at h ⊢
  split at h
  · exact one_rl h
  · cases h
set_option maxRecDepth 100000 in
theorem e_X8_lastOutput_0 (l0 : Nat) (l1 : Int32) (st : ab_S) : f_X8_lastOutput l0 l1 st =
    ab_rc st l0 8 (
    Option.bind (ab_gR st l0 8 4) fun x1 =>
    Option.bind (ab_rJ st x1 l1) fun x2 =>
    if (lg_cmp x2 (-1 : Int64)) = 0
    then some (some (.long (-1 : Int64)), st)
    else Option.bind (ab_gR st l0 8 4) fun x3 =>
      Option.bind (ab_rJ st x3 l1) fun x4 =>
      Option.bind (ab_gR st l0 8 3) fun x5 =>
      Option.bind (ab_rJ st x5 l1) fun x6 =>
      some (some (.long (x4 - x6)), st)) := congrArg (ab_rc st l0 8) ((lm_eq one_X8_lastOutput 0 _ _ _).trans rfl)
def c_X8_output : List (Nat × ab_I) := [(0, .aload_n 0, 1, .null, 0),
  (1, .getfield 21, 3, .null, 0),
  (4, .iload_n 2, 1, .null, 2),
  (5, .laload, 1, .null, 0),
  (6, .aload_n 0, 1, .null, 0),
  (7, .getfield 21, 3, .null, 0),
  (10, .iload_n 1, 1, .null, 1),
  (11, .laload, 1, .null, 0),
  (12, .lsub, 1, .null, 0),
  (13, .lreturn, 1, .null, 0)]
noncomputable def m_X8_output : ab_M := (c_X8_output, [(0, [0, 1, 2])],
  [(21, 8, 3, 3)],
  [],
  [],
  [], 3, 3)
theorem one_X8_output : ab_oneM m_X8_output := fun _ h => absurd h List.not_mem_nil
noncomputable def f_X8_output (l0 : Nat) (l1 : Int32) (l2 : Int32) (st : ab_S) : Option ab_R := ab_rc st l0 8 (ab_lim m_X8_output 0 [.ref l0, .int l1, .int l2] [] st)
noncomputable def g_X8_output : ab_G := fun as st k => match as with
  | [.ref a0, .int a1, .int a2] => ab_rl (f_X8_output a0 a1 a2 st) (fun x t => k [.long x] t)
  | _ => none
theorem o_X8_output : ab_one g_X8_output := by
  intro as st k r h
  unfold g_X8_output at h ⊢
  split at h
  · exact one_rl h
  · cases h
set_option maxRecDepth 100000 in
theorem e_X8_output_0 (l0 : Nat) (l1 : Int32) (l2 : Int32) (st : ab_S) : f_X8_output l0 l1 l2 st =
    ab_rc st l0 8 (
    Option.bind (ab_gR st l0 8 3) fun x1 =>
    Option.bind (ab_rJ st x1 l2) fun x2 =>
    Option.bind (ab_gR st l0 8 3) fun x3 =>
    Option.bind (ab_rJ st x3 l1) fun x4 =>
    some (some (.long (x2 - x4)), st)) := congrArg (ab_rc st l0 8) ((lm_eq one_X8_output 0 _ _ _).trans rfl)
def c_X8_mixed : List (Nat × ab_I) := [(0, .aload_n 0, 1, .null, 0),
  (1, .iload_n 1, 1, .null, 1),
  (2, .invokevirtual 129, 3, .null, 0),
  (5, .lstore_n 2, 1, .null, 2),
  (6, .aload_n 0, 1, .null, 0),
  (7, .getfield 28, 3, .null, 0),
  (10, .iload_n 1, 1, .null, 1),
  (11, .iaload, 1, .null, 0),
  (12, .istore 4, 2, .null, 4),
  (14, .iconst 0, 1, (.int (0)), 0),
  (15, .istore 5, 2, .null, 5),
  (17, .iload 5, 2, .null, 5),
  (19, .sipush (256), 3, (.int (256)), 0),
  (22, .if_icmp .ge (74), 3, .null, 96),
  (25, .iload 4, 2, .null, 4),
  (27, .iconst (-1), 1, (.int (-1)), 0),
  (28, .if_icmp .eq (68), 3, .null, 96),
  (31, .lload_n 2, 1, .null, 2),
  (32, .aload_n 0, 1, .null, 0),
  (33, .getfield 15, 3, .null, 0),
  (36, .iload 4, 2, .null, 4),
  (38, .iaload, 1, .null, 0),
  (39, .i2l, 1, .null, 0),
  (40, .ladd, 1, .null, 0),
  (41, .ldc2_w 136, 3, (.long (-7046029254386353131)), 0),
  (44, .lmul, 1, .null, 0),
  (45, .lstore_n 2, 1, .null, 2),
  (46, .lload_n 2, 1, .null, 2),
  (47, .lload_n 2, 1, .null, 2),
  (48, .bipush (29), 2, (.int (29)), 0),
  (50, .lushr, 1, .null, 0),
  (51, .lxor, 1, .null, 0),
  (52, .aload_n 0, 1, .null, 0),
  (53, .getfield 34, 3, .null, 0),
  (56, .iload 4, 2, .null, 4),
  (58, .iaload, 1, .null, 0),
  (59, .i2l, 1, .null, 0),
  (60, .ladd, 1, .null, 0),
  (61, .ldc2_w 136, 3, (.long (-7046029254386353131)), 0),
  (64, .lmul, 1, .null, 0),
  (65, .lstore_n 2, 1, .null, 2),
  (66, .lload_n 2, 1, .null, 2),
  (67, .lload_n 2, 1, .null, 2),
  (68, .bipush (29), 2, (.int (29)), 0),
  (70, .lushr, 1, .null, 0),
  (71, .lxor, 1, .null, 0),
  (72, .aload_n 0, 1, .null, 0),
  (73, .iload_n 1, 1, .null, 1),
  (74, .iload 4, 2, .null, 4),
  (76, .invokevirtual 132, 3, .null, 0),
  (79, .ladd, 1, .null, 0),
  (80, .lstore_n 2, 1, .null, 2),
  (81, .aload_n 0, 1, .null, 0),
  (82, .getfield 31, 3, .null, 0),
  (85, .iload 4, 2, .null, 4),
  (87, .iaload, 1, .null, 0),
  (88, .istore 4, 2, .null, 4),
  (90, .iinc 5 (1), 3, (.int (1)), 5),
  (93, .goto (-76), 3, .null, 17),
  (96, .lload_n 2, 1, .null, 2),
  (97, .ldc2_w 136, 3, (.long (-7046029254386353131)), 0),
  (100, .lmul, 1, .null, 0),
  (101, .bipush (40), 2, (.int (40)), 0),
  (103, .lushr, 1, .null, 0),
  (104, .l2i, 1, .null, 0),
  (105, .ireturn, 1, .null, 0)]
noncomputable def m_X8_mixed : ab_M := (c_X8_mixed, [(0, [0, 1]), (17, [0, 1, 2, 4, 5]), (96, [2])],
  [(15, 8, 1, 3), (28, 8, 5, 3), (31, 8, 6, 3), (34, 8, 7, 3)],
  [],
  [(129, 1, 2, g_X8_lastOutput), (132, 1, 3, g_X8_output)],
  [], 6, 1)
theorem one_X8_mixed : ab_oneM m_X8_mixed := List.forall_mem_cons.mpr ⟨o_X8_lastOutput, List.forall_mem_cons.mpr ⟨o_X8_output, fun _ h => absurd h List.not_mem_nil⟩⟩
noncomputable def f_X8_mixed (l0 : Nat) (l1 : Int32) (st : ab_S) : Option ab_R := ab_rc st l0 8 (ab_lim m_X8_mixed 0 [.ref l0, .int l1] [] st)
noncomputable def L_X8_mixed_17 (l0 : Nat) (l1 : Int32) (l2 : Int64) (l4 : Int32) (l5 : Int32) (st : ab_S) : Option ab_R := ab_lim m_X8_mixed 17 [.ref l0, .int l1, .long l2, .int l4, .int l5] [] st
noncomputable def L_X8_mixed_96 (l2 : Int64) (st : ab_S) : Option ab_R := ab_lim m_X8_mixed 96 [.long l2] [] st
noncomputable def g_X8_mixed : ab_G := fun as st k => match as with
  | [.ref a0, .int a1] => ab_ri (f_X8_mixed a0 a1 st) (fun x t => k [.int x] t)
  | _ => none
theorem o_X8_mixed : ab_one g_X8_mixed := by
  intro as st k r h
  unfold g_X8_mixed at h ⊢
  split at h
  · exact one_ri h
  · cases h
set_option maxRecDepth 100000 in
theorem e_X8_mixed_0 (l0 : Nat) (l1 : Int32) (st : ab_S) : f_X8_mixed l0 l1 st =
    ab_rc st l0 8 (
    ab_rl (f_X8_lastOutput l0 l1 st) fun x2 s1 =>
    Option.bind (ab_gR s1 l0 8 5) fun x3 =>
    Option.bind (ab_rI s1 x3 l1) fun x4 =>
    L_X8_mixed_17 l0 l1 x2 x4 (0 : Int32) s1) := congrArg (ab_rc st l0 8) ((lm_eq one_X8_mixed 0 _ _ _).trans rfl)
set_option maxRecDepth 100000 in
theorem e_X8_mixed_17 (l0 : Nat) (l1 : Int32) (l2 : Int64) (l4 : Int32) (l5 : Int32) (st : ab_S) : L_X8_mixed_17 l0 l1 l2 l4 l5 st =
    if (256 : Int32) ≤ l5
    then L_X8_mixed_96 l2 st
    else if l4 = (-1 : Int32)
      then L_X8_mixed_96 l2 st
      else Option.bind (ab_gR st l0 8 1) fun x1 =>
        Option.bind (ab_rI st x1 l4) fun x2 =>
        Option.bind (ab_gR st l0 8 7) fun x3 =>
        Option.bind (ab_rI st x3 l4) fun x4 =>
        ab_rl (f_X8_output l0 l1 l4 st) fun x6 s5 =>
        Option.bind (ab_gR s5 l0 8 6) fun x7 =>
        Option.bind (ab_rI s5 x7 l4) fun x8 =>
        L_X8_mixed_17 l0 l1 (((((((l2 + x2.toInt64) * (-7046029254386353131 : Int64)) ^^^ (((l2 + x2.toInt64) * (-7046029254386353131 : Int64)).toUInt64 >>> ((29 : Int32).toInt64.toUInt64 &&& Int64.toUInt64 63)).toInt64) + x4.toInt64) * (-7046029254386353131 : Int64)) ^^^ ((((((l2 + x2.toInt64) * (-7046029254386353131 : Int64)) ^^^ (((l2 + x2.toInt64) * (-7046029254386353131 : Int64)).toUInt64 >>> ((29 : Int32).toInt64.toUInt64 &&& Int64.toUInt64 63)).toInt64) + x4.toInt64) * (-7046029254386353131 : Int64)).toUInt64 >>> ((29 : Int32).toInt64.toUInt64 &&& Int64.toUInt64 63)).toInt64) + x6) x8 (l5 + (1 : Int32)) s5 := (lm_eq one_X8_mixed 17 _ _ _).trans rfl
set_option maxRecDepth 100000 in
theorem e_X8_mixed_96 (l2 : Int64) (st : ab_S) : L_X8_mixed_96 l2 st =
    some (some (.int (((l2 * (-7046029254386353131 : Int64)).toUInt64 >>> ((40 : Int32).toInt64.toUInt64 &&& Int64.toUInt64 63)).toInt64.toInt32)), st) := (lm_eq one_X8_mixed 96 _ _ _).trans rfl
def c_X8_haveSameRest : List (Nat × ab_I) := [(0, .aload_n 0, 1, .null, 0),
  (1, .getfield 18, 3, .null, 0),
  (4, .iload_n 1, 1, .null, 1),
  (5, .iaload, 1, .null, 0),
  (6, .aload_n 0, 1, .null, 0),
  (7, .getfield 18, 3, .null, 0),
  (10, .iload_n 2, 1, .null, 2),
  (11, .iaload, 1, .null, 0),
  (12, .if_icmp .ne (17), 3, .null, 29),
  (15, .aload_n 0, 1, .null, 0),
  (16, .iload_n 1, 1, .null, 1),
  (17, .invokevirtual 129, 3, .null, 0),
  (20, .aload_n 0, 1, .null, 0),
  (21, .iload_n 2, 1, .null, 2),
  (22, .invokevirtual 129, 3, .null, 0),
  (25, .lcmp, 1, .null, 0),
  (26, .ifCond .eq (5), 3, .null, 31),
  (29, .iconst 0, 1, (.int (0)), 0),
  (30, .ireturn, 1, .null, 0),
  (31, .aload_n 0, 1, .null, 0),
  (32, .getfield 28, 3, .null, 0),
  (35, .iload_n 1, 1, .null, 1),
  (36, .iaload, 1, .null, 0),
  (37, .istore_n 3, 1, .null, 3),
  (38, .aload_n 0, 1, .null, 0),
  (39, .getfield 28, 3, .null, 0),
  (42, .iload_n 2, 1, .null, 2),
  (43, .iaload, 1, .null, 0),
  (44, .istore 4, 2, .null, 4),
  (46, .iconst 0, 1, (.int (0)), 0),
  (47, .istore 5, 2, .null, 5),
  (49, .iload 5, 2, .null, 5),
  (51, .sipush (256), 3, (.int (256)), 0),
  (54, .if_icmp .ge (87), 3, .null, 141),
  (57, .iload_n 3, 1, .null, 3),
  (58, .iconst (-1), 1, (.int (-1)), 0),
  (59, .if_icmp .eq (82), 3, .null, 141),
  (62, .iload 4, 2, .null, 4),
  (64, .iconst (-1), 1, (.int (-1)), 0),
  (65, .if_icmp .eq (76), 3, .null, 141),
  (68, .aload_n 0, 1, .null, 0),
  (69, .getfield 15, 3, .null, 0),
  (72, .iload_n 3, 1, .null, 3),
  (73, .iaload, 1, .null, 0),
  (74, .aload_n 0, 1, .null, 0),
  (75, .getfield 15, 3, .null, 0),
  (78, .iload 4, 2, .null, 4),
  (80, .iaload, 1, .null, 0),
  (81, .if_icmp .ne (36), 3, .null, 117),
  (84, .aload_n 0, 1, .null, 0),
  (85, .getfield 34, 3, .null, 0),
  (88, .iload_n 3, 1, .null, 3),
  (89, .iaload, 1, .null, 0),
  (90, .aload_n 0, 1, .null, 0),
  (91, .getfield 34, 3, .null, 0),
  (94, .iload 4, 2, .null, 4),
  (96, .iaload, 1, .null, 0),
  (97, .if_icmp .ne (20), 3, .null, 117),
  (100, .aload_n 0, 1, .null, 0),
  (101, .iload_n 1, 1, .null, 1),
  (102, .iload_n 3, 1, .null, 3),
  (103, .invokevirtual 132, 3, .null, 0),
  (106, .aload_n 0, 1, .null, 0),
  (107, .iload_n 2, 1, .null, 2),
  (108, .iload 4, 2, .null, 4),
  (110, .invokevirtual 132, 3, .null, 0),
  (113, .lcmp, 1, .null, 0),
  (114, .ifCond .eq (5), 3, .null, 119),
  (117, .iconst 0, 1, (.int (0)), 0),
  (118, .ireturn, 1, .null, 0),
  (119, .aload_n 0, 1, .null, 0),
  (120, .getfield 31, 3, .null, 0),
  (123, .iload_n 3, 1, .null, 3),
  (124, .iaload, 1, .null, 0),
  (125, .istore_n 3, 1, .null, 3),
  (126, .aload_n 0, 1, .null, 0),
  (127, .getfield 31, 3, .null, 0),
  (130, .iload 4, 2, .null, 4),
  (132, .iaload, 1, .null, 0),
  (133, .istore 4, 2, .null, 4),
  (135, .iinc 5 (1), 3, (.int (1)), 5),
  (138, .goto (-89), 3, .null, 49),
  (141, .iload_n 3, 1, .null, 3),
  (142, .iconst (-1), 1, (.int (-1)), 0),
  (143, .if_icmp .ne (13), 3, .null, 156),
  (146, .iload 4, 2, .null, 4),
  (148, .iconst (-1), 1, (.int (-1)), 0),
  (149, .if_icmp .ne (7), 3, .null, 156),
  (152, .iconst 1, 1, (.int (1)), 0),
  (153, .goto (4), 3, .null, 157),
  (156, .iconst 0, 1, (.int (0)), 0),
  (157, .ireturn, 1, .null, 0)]
noncomputable def m_X8_haveSameRest : ab_M := (c_X8_haveSameRest, [(0, [0, 1, 2]), (49, [0, 1, 2, 3, 4, 5]), (141, [3, 4])],
  [(15, 8, 1, 3), (18, 8, 2, 3), (28, 8, 5, 3), (31, 8, 6, 3), (34, 8, 7, 3)],
  [],
  [(129, 1, 2, g_X8_lastOutput), (132, 1, 3, g_X8_output)],
  [], 6, 2)
theorem one_X8_haveSameRest : ab_oneM m_X8_haveSameRest := List.forall_mem_cons.mpr ⟨o_X8_lastOutput, List.forall_mem_cons.mpr ⟨o_X8_output, fun _ h => absurd h List.not_mem_nil⟩⟩
noncomputable def f_X8_haveSameRest (l0 : Nat) (l1 : Int32) (l2 : Int32) (st : ab_S) : Option ab_R := ab_rc st l0 8 (ab_lim m_X8_haveSameRest 0 [.ref l0, .int l1, .int l2] [] st)
noncomputable def L_X8_haveSameRest_49 (l0 : Nat) (l1 : Int32) (l2 : Int32) (l3 : Int32) (l4 : Int32) (l5 : Int32) (st : ab_S) : Option ab_R := ab_lim m_X8_haveSameRest 49 [.ref l0, .int l1, .int l2, .int l3, .int l4, .int l5] [] st
noncomputable def L_X8_haveSameRest_141 (l3 : Int32) (l4 : Int32) (st : ab_S) : Option ab_R := ab_lim m_X8_haveSameRest 141 [.int l3, .int l4] [] st
noncomputable def g_X8_haveSameRest : ab_G := fun as st k => match as with
  | [.ref a0, .int a1, .int a2] => ab_ri (f_X8_haveSameRest a0 a1 a2 st) (fun x t => k [.int x] t)
  | _ => none
theorem o_X8_haveSameRest : ab_one g_X8_haveSameRest := by
  intro as st k r h
  unfold g_X8_haveSameRest at h ⊢
  split at h
  · exact one_ri h
  · cases h
set_option maxRecDepth 100000 in
theorem e_X8_haveSameRest_0 (l0 : Nat) (l1 : Int32) (l2 : Int32) (st : ab_S) : f_X8_haveSameRest l0 l1 l2 st =
    ab_rc st l0 8 (
    Option.bind (ab_gR st l0 8 2) fun x1 =>
    Option.bind (ab_rI st x1 l1) fun x2 =>
    Option.bind (ab_gR st l0 8 2) fun x3 =>
    Option.bind (ab_rI st x3 l2) fun x4 =>
    if x2 = x4
    then ab_rl (f_X8_lastOutput l0 l1 st) fun x6 s5 =>
      ab_rl (f_X8_lastOutput l0 l2 s5) fun x8 s7 =>
      if (lg_cmp x6 x8) = 0
      then Option.bind (ab_gR s7 l0 8 5) fun x9 =>
        Option.bind (ab_rI s7 x9 l1) fun x10 =>
        Option.bind (ab_gR s7 l0 8 5) fun x11 =>
        Option.bind (ab_rI s7 x11 l2) fun x12 =>
        L_X8_haveSameRest_49 l0 l1 l2 x10 x12 (0 : Int32) s7
      else ab_z (0 : Int32) (some (some (.int (0 : Int32)), s7))
    else ab_z (0 : Int32) (some (some (.int (0 : Int32)), st))) := congrArg (ab_rc st l0 8) ((lm_eq one_X8_haveSameRest 0 _ _ _).trans rfl)
set_option maxRecDepth 100000 in
theorem e_X8_haveSameRest_49 (l0 : Nat) (l1 : Int32) (l2 : Int32) (l3 : Int32) (l4 : Int32) (l5 : Int32) (st : ab_S) : L_X8_haveSameRest_49 l0 l1 l2 l3 l4 l5 st =
    if (256 : Int32) ≤ l5
    then L_X8_haveSameRest_141 l3 l4 st
    else if l3 = (-1 : Int32)
      then L_X8_haveSameRest_141 l3 l4 st
      else if l4 = (-1 : Int32)
        then L_X8_haveSameRest_141 l3 l4 st
        else Option.bind (ab_gR st l0 8 1) fun x1 =>
          Option.bind (ab_rI st x1 l3) fun x2 =>
          Option.bind (ab_gR st l0 8 1) fun x3 =>
          Option.bind (ab_rI st x3 l4) fun x4 =>
          if x2 = x4
          then Option.bind (ab_gR st l0 8 7) fun x5 =>
            Option.bind (ab_rI st x5 l3) fun x6 =>
            Option.bind (ab_gR st l0 8 7) fun x7 =>
            Option.bind (ab_rI st x7 l4) fun x8 =>
            if x6 = x8
            then ab_rl (f_X8_output l0 l1 l3 st) fun x10 s9 =>
              ab_rl (f_X8_output l0 l2 l4 s9) fun x12 s11 =>
              if (lg_cmp x10 x12) = 0
              then Option.bind (ab_gR s11 l0 8 6) fun x13 =>
                Option.bind (ab_rI s11 x13 l3) fun x14 =>
                Option.bind (ab_gR s11 l0 8 6) fun x15 =>
                Option.bind (ab_rI s11 x15 l4) fun x16 =>
                L_X8_haveSameRest_49 l0 l1 l2 x14 x16 (l5 + (1 : Int32)) s11
              else ab_z (0 : Int32) (some (some (.int (0 : Int32)), s11))
            else ab_z (0 : Int32) (some (some (.int (0 : Int32)), st))
          else ab_z (0 : Int32) (some (some (.int (0 : Int32)), st)) := (lm_eq one_X8_haveSameRest 49 _ _ _).trans rfl
set_option maxRecDepth 100000 in
theorem e_X8_haveSameRest_141 (l3 : Int32) (l4 : Int32) (st : ab_S) : L_X8_haveSameRest_141 l3 l4 st =
    if l3 = (-1 : Int32)
    then if l4 = (-1 : Int32)
      then ab_z (1 : Int32) (some (some (.int (1 : Int32)), st))
      else ab_z (0 : Int32) (some (some (.int (0 : Int32)), st))
    else ab_z (0 : Int32) (some (some (.int (0 : Int32)), st)) := (lm_eq one_X8_haveSameRest 141 _ _ _).trans rfl
def c_X8_firstAlike : List (Nat × ab_I) := [(0, .aload_n 0, 1, .null, 0),
  (1, .getfield 46, 3, .null, 0),
  (4, .iload_n 2, 1, .null, 2),
  (5, .iaload, 1, .null, 0),
  (6, .istore_n 3, 1, .null, 3),
  (7, .iconst 0, 1, (.int (0)), 0),
  (8, .istore 4, 2, .null, 4),
  (10, .iload 4, 2, .null, 4),
  (12, .aload_n 0, 1, .null, 0),
  (13, .getfield 76, 3, .null, 0),
  (16, .if_icmp .ge (32), 3, .null, 48),
  (19, .iload_n 3, 1, .null, 3),
  (20, .iconst (-1), 1, (.int (-1)), 0),
  (21, .if_icmp .eq (27), 3, .null, 48),
  (24, .aload_n 0, 1, .null, 0),
  (25, .iload_n 1, 1, .null, 1),
  (26, .iload_n 3, 1, .null, 3),
  (27, .invokevirtual 125, 3, .null, 0),
  (30, .ifCond .eq (5), 3, .null, 35),
  (33, .iload_n 3, 1, .null, 3),
  (34, .ireturn, 1, .null, 0),
  (35, .aload_n 0, 1, .null, 0),
  (36, .getfield 37, 3, .null, 0),
  (39, .iload_n 3, 1, .null, 3),
  (40, .iaload, 1, .null, 0),
  (41, .istore_n 3, 1, .null, 3),
  (42, .iinc 4 (1), 3, (.int (1)), 4),
  (45, .goto (-35), 3, .null, 10),
  (48, .aload_n 0, 1, .null, 0),
  (49, .getfield 37, 3, .null, 0),
  (52, .iload_n 1, 1, .null, 1),
  (53, .aload_n 0, 1, .null, 0),
  (54, .getfield 46, 3, .null, 0),
  (57, .iload_n 2, 1, .null, 2),
  (58, .iaload, 1, .null, 0),
  (59, .iastore, 1, .null, 0),
  (60, .aload_n 0, 1, .null, 0),
  (61, .getfield 46, 3, .null, 0),
  (64, .iload_n 2, 1, .null, 2),
  (65, .iload_n 1, 1, .null, 1),
  (66, .iastore, 1, .null, 0),
  (67, .iload_n 1, 1, .null, 1),
  (68, .ireturn, 1, .null, 0)]
noncomputable def m_X8_firstAlike : ab_M := (c_X8_firstAlike, [(0, [0, 1, 2]), (10, [0, 1, 2, 3, 4]), (48, [0, 1, 2])],
  [(37, 8, 8, 3), (46, 8, 11, 3), (76, 8, 13, 0)],
  [],
  [(125, 1, 3, g_X8_haveSameRest)],
  [], 5, 1)
theorem one_X8_firstAlike : ab_oneM m_X8_firstAlike := List.forall_mem_cons.mpr ⟨o_X8_haveSameRest, fun _ h => absurd h List.not_mem_nil⟩
noncomputable def f_X8_firstAlike (l0 : Nat) (l1 : Int32) (l2 : Int32) (st : ab_S) : Option ab_R := ab_rc st l0 8 (ab_lim m_X8_firstAlike 0 [.ref l0, .int l1, .int l2] [] st)
noncomputable def L_X8_firstAlike_10 (l0 : Nat) (l1 : Int32) (l2 : Int32) (l3 : Int32) (l4 : Int32) (st : ab_S) : Option ab_R := ab_lim m_X8_firstAlike 10 [.ref l0, .int l1, .int l2, .int l3, .int l4] [] st
noncomputable def L_X8_firstAlike_48 (l0 : Nat) (l1 : Int32) (l2 : Int32) (st : ab_S) : Option ab_R := ab_lim m_X8_firstAlike 48 [.ref l0, .int l1, .int l2] [] st
noncomputable def g_X8_firstAlike : ab_G := fun as st k => match as with
  | [.ref a0, .int a1, .int a2] => ab_ri (f_X8_firstAlike a0 a1 a2 st) (fun x t => k [.int x] t)
  | _ => none
theorem o_X8_firstAlike : ab_one g_X8_firstAlike := by
  intro as st k r h
  unfold g_X8_firstAlike at h ⊢
  split at h
  · exact one_ri h
  · cases h
set_option maxRecDepth 100000 in
theorem e_X8_firstAlike_0 (l0 : Nat) (l1 : Int32) (l2 : Int32) (st : ab_S) : f_X8_firstAlike l0 l1 l2 st =
    ab_rc st l0 8 (
    Option.bind (ab_gR st l0 8 11) fun x1 =>
    Option.bind (ab_rI st x1 l2) fun x2 =>
    L_X8_firstAlike_10 l0 l1 l2 x2 (0 : Int32) st) := congrArg (ab_rc st l0 8) ((lm_eq one_X8_firstAlike 0 _ _ _).trans rfl)
set_option maxRecDepth 100000 in
theorem e_X8_firstAlike_10 (l0 : Nat) (l1 : Int32) (l2 : Int32) (l3 : Int32) (l4 : Int32) (st : ab_S) : L_X8_firstAlike_10 l0 l1 l2 l3 l4 st =
    Option.bind (ab_gI st l0 8 13) fun x1 =>
    if x1 ≤ l4
    then L_X8_firstAlike_48 l0 l1 l2 st
    else if l3 = (-1 : Int32)
      then L_X8_firstAlike_48 l0 l1 l2 st
      else ab_ri (f_X8_haveSameRest l0 l1 l3 st) fun x3 s2 =>
        if x3 = 0
        then Option.bind (ab_gR s2 l0 8 8) fun x4 =>
          Option.bind (ab_rI s2 x4 l3) fun x5 =>
          L_X8_firstAlike_10 l0 l1 l2 x5 (l4 + (1 : Int32)) s2
        else some (some (.int l3), s2) := (lm_eq one_X8_firstAlike 10 _ _ _).trans rfl
set_option maxRecDepth 100000 in
theorem e_X8_firstAlike_48 (l0 : Nat) (l1 : Int32) (l2 : Int32) (st : ab_S) : L_X8_firstAlike_48 l0 l1 l2 st =
    Option.bind (ab_gR st l0 8 8) fun x1 =>
    Option.bind (ab_gR st l0 8 11) fun x2 =>
    Option.bind (ab_rI st x2 l2) fun x3 =>
    Option.bind (ab_wI st x1 l1 x3) fun s4 =>
    Option.bind (ab_gR s4 l0 8 11) fun x5 =>
    Option.bind (ab_wI s4 x5 l2 l1) fun s6 =>
    some (some (.int l1), s6) := (lm_eq one_X8_firstAlike 48 _ _ _).trans rfl
def c_X8_findAlike : List (Nat × ab_I) := [(0, .iconst 1, 1, (.int (1)), 0),
  (1, .istore_n 1, 1, .null, 1),
  (2, .iload_n 1, 1, .null, 1),
  (3, .aload_n 0, 1, .null, 0),
  (4, .getfield 76, 3, .null, 0),
  (7, .if_icmp .ge (17), 3, .null, 24),
  (10, .iload_n 1, 1, .null, 1),
  (11, .sipush (4096), 3, (.int (4096)), 0),
  (14, .if_icmp .ge (10), 3, .null, 24),
  (17, .iload_n 1, 1, .null, 1),
  (18, .iconst 2, 1, (.int (2)), 0),
  (19, .imul, 1, .null, 0),
  (20, .istore_n 1, 1, .null, 1),
  (21, .goto (-19), 3, .null, 2),
  (24, .iconst 0, 1, (.int (0)), 0),
  (25, .istore_n 2, 1, .null, 2),
  (26, .iload_n 2, 1, .null, 2),
  (27, .iload_n 1, 1, .null, 1),
  (28, .if_icmp .ge (16), 3, .null, 44),
  (31, .aload_n 0, 1, .null, 0),
  (32, .getfield 46, 3, .null, 0),
  (35, .iload_n 2, 1, .null, 2),
  (36, .iconst (-1), 1, (.int (-1)), 0),
  (37, .iastore, 1, .null, 0),
  (38, .iinc 2 (1), 3, (.int (1)), 2),
  (41, .goto (-15), 3, .null, 26),
  (44, .aload_n 0, 1, .null, 0),
  (45, .getfield 76, 3, .null, 0),
  (48, .iconst 1, 1, (.int (1)), 0),
  (49, .isub, 1, .null, 0),
  (50, .istore_n 2, 1, .null, 2),
  (51, .iload_n 2, 1, .null, 2),
  (52, .ifCond .lt (59), 3, .null, 111),
  (55, .aload_n 0, 1, .null, 0),
  (56, .getfield 34, 3, .null, 0),
  (59, .iload_n 2, 1, .null, 2),
  (60, .aload_n 0, 1, .null, 0),
  (61, .iload_n 2, 1, .null, 2),
  (62, .aload_n 0, 1, .null, 0),
  (63, .iload_n 2, 1, .null, 2),
  (64, .invokevirtual 119, 3, .null, 0),
  (67, .iload_n 1, 1, .null, 1),
  (68, .iconst 1, 1, (.int (1)), 0),
  (69, .isub, 1, .null, 0),
  (70, .iand, 1, .null, 0),
  (71, .invokevirtual 122, 3, .null, 0),
  (74, .iastore, 1, .null, 0),
  (75, .aload_n 0, 1, .null, 0),
  (76, .getfield 9, 3, .null, 0),
  (79, .iload_n 2, 1, .null, 2),
  (80, .iaload, 1, .null, 0),
  (81, .istore_n 3, 1, .null, 3),
  (82, .iload_n 3, 1, .null, 3),
  (83, .ifCond .lt (22), 3, .null, 105),
  (86, .aload_n 0, 1, .null, 0),
  (87, .getfield 31, 3, .null, 0),
  (90, .iload_n 2, 1, .null, 2),
  (91, .aload_n 0, 1, .null, 0),
  (92, .getfield 28, 3, .null, 0),
  (95, .iload_n 3, 1, .null, 3),
  (96, .iaload, 1, .null, 0),
  (97, .iastore, 1, .null, 0),
  (98, .aload_n 0, 1, .null, 0),
  (99, .getfield 28, 3, .null, 0),
  (102, .iload_n 3, 1, .null, 3),
  (103, .iload_n 2, 1, .null, 2),
  (104, .iastore, 1, .null, 0),
  (105, .iinc 2 (-1), 3, (.int (-1)), 2),
  (108, .goto (-57), 3, .null, 51),
  (111, .return_, 1, .null, 0)]
noncomputable def m_X8_findAlike : ab_M := (c_X8_findAlike, [(0, [0]), (2, [0, 1]), (24, [0, 1]), (26, [0, 1, 2]), (51, [0, 1, 2]), (105, [0, 1, 2])],
  [(9, 8, 0, 3), (28, 8, 5, 3), (31, 8, 6, 3), (34, 8, 7, 3), (46, 8, 11, 3), (76, 8, 13, 0)],
  [],
  [(119, 1, 2, g_X8_mixed), (122, 1, 3, g_X8_firstAlike)],
  [], 4, 0)
theorem one_X8_findAlike : ab_oneM m_X8_findAlike := List.forall_mem_cons.mpr ⟨o_X8_mixed, List.forall_mem_cons.mpr ⟨o_X8_firstAlike, fun _ h => absurd h List.not_mem_nil⟩⟩
noncomputable def f_X8_findAlike (l0 : Nat) (st : ab_S) : Option ab_R := ab_rc st l0 8 (ab_lim m_X8_findAlike 0 [.ref l0] [] st)
noncomputable def L_X8_findAlike_2 (l0 : Nat) (l1 : Int32) (st : ab_S) : Option ab_R := ab_lim m_X8_findAlike 2 [.ref l0, .int l1] [] st
noncomputable def L_X8_findAlike_24 (l0 : Nat) (l1 : Int32) (st : ab_S) : Option ab_R := ab_lim m_X8_findAlike 24 [.ref l0, .int l1] [] st
noncomputable def L_X8_findAlike_26 (l0 : Nat) (l1 : Int32) (l2 : Int32) (st : ab_S) : Option ab_R := ab_lim m_X8_findAlike 26 [.ref l0, .int l1, .int l2] [] st
noncomputable def L_X8_findAlike_51 (l0 : Nat) (l1 : Int32) (l2 : Int32) (st : ab_S) : Option ab_R := ab_lim m_X8_findAlike 51 [.ref l0, .int l1, .int l2] [] st
noncomputable def L_X8_findAlike_105 (l0 : Nat) (l1 : Int32) (l2 : Int32) (st : ab_S) : Option ab_R := ab_lim m_X8_findAlike 105 [.ref l0, .int l1, .int l2] [] st
noncomputable def g_X8_findAlike : ab_G := fun as st k => match as with
  | [.ref a0] => ab_rv (f_X8_findAlike a0 st) (fun t => k [] t)
  | _ => none
theorem o_X8_findAlike : ab_one g_X8_findAlike := by
  intro as st k r h
  unfold g_X8_findAlike at h ⊢
  split at h
  · exact one_rv h
  · cases h
set_option maxRecDepth 100000 in
theorem e_X8_findAlike_0 (l0 : Nat) (st : ab_S) : f_X8_findAlike l0 st =
    ab_rc st l0 8 (
    L_X8_findAlike_2 l0 (1 : Int32) st) := congrArg (ab_rc st l0 8) ((lm_eq one_X8_findAlike 0 _ _ _).trans rfl)
set_option maxRecDepth 100000 in
theorem e_X8_findAlike_2 (l0 : Nat) (l1 : Int32) (st : ab_S) : L_X8_findAlike_2 l0 l1 st =
    Option.bind (ab_gI st l0 8 13) fun x1 =>
    if x1 ≤ l1
    then L_X8_findAlike_24 l0 l1 st
    else if (4096 : Int32) ≤ l1
      then L_X8_findAlike_24 l0 l1 st
      else L_X8_findAlike_2 l0 (l1 * (2 : Int32)) st := (lm_eq one_X8_findAlike 2 _ _ _).trans rfl
set_option maxRecDepth 100000 in
theorem e_X8_findAlike_24 (l0 : Nat) (l1 : Int32) (st : ab_S) : L_X8_findAlike_24 l0 l1 st =
    L_X8_findAlike_26 l0 l1 (0 : Int32) st := (lm_eq one_X8_findAlike 24 _ _ _).trans rfl
set_option maxRecDepth 100000 in
theorem e_X8_findAlike_26 (l0 : Nat) (l1 : Int32) (l2 : Int32) (st : ab_S) : L_X8_findAlike_26 l0 l1 l2 st =
    if l1 ≤ l2
    then Option.bind (ab_gI st l0 8 13) fun x1 =>
      L_X8_findAlike_51 l0 l1 (x1 - (1 : Int32)) st
    else Option.bind (ab_gR st l0 8 11) fun x2 =>
      Option.bind (ab_wI st x2 l2 (-1 : Int32)) fun s3 =>
      L_X8_findAlike_26 l0 l1 (l2 + (1 : Int32)) s3 := (lm_eq one_X8_findAlike 26 _ _ _).trans rfl
set_option maxRecDepth 100000 in
theorem e_X8_findAlike_51 (l0 : Nat) (l1 : Int32) (l2 : Int32) (st : ab_S) : L_X8_findAlike_51 l0 l1 l2 st =
    if l2 < 0
    then some (none, st)
    else Option.bind (ab_gR st l0 8 7) fun x1 =>
      ab_ri (f_X8_mixed l0 l2 st) fun x3 s2 =>
      ab_ri (f_X8_firstAlike l0 l2 (x3 &&& (l1 - (1 : Int32))) s2) fun x5 s4 =>
      Option.bind (ab_wI s4 x1 l2 x5) fun s6 =>
      Option.bind (ab_gR s6 l0 8 0) fun x7 =>
      Option.bind (ab_rI s6 x7 l2) fun x8 =>
      if x8 < 0
      then L_X8_findAlike_105 l0 l1 l2 s6
      else Option.bind (ab_gR s6 l0 8 6) fun x9 =>
        Option.bind (ab_gR s6 l0 8 5) fun x10 =>
        Option.bind (ab_rI s6 x10 x8) fun x11 =>
        Option.bind (ab_wI s6 x9 l2 x11) fun s12 =>
        Option.bind (ab_gR s12 l0 8 5) fun x13 =>
        Option.bind (ab_wI s12 x13 x8 l2) fun s14 =>
        L_X8_findAlike_105 l0 l1 l2 s14 := (lm_eq one_X8_findAlike 51 _ _ _).trans rfl
set_option maxRecDepth 100000 in
theorem e_X8_findAlike_105 (l0 : Nat) (l1 : Int32) (l2 : Int32) (st : ab_S) : L_X8_findAlike_105 l0 l1 l2 st =
    L_X8_findAlike_51 l0 l1 (l2 + (-1 : Int32)) st := (lm_eq one_X8_findAlike 105 _ _ _).trans rfl
def c_X8_numberStates : List (Nat × ab_I) := [(0, .aload_n 0, 1, .null, 0),
  (1, .iconst 0, 1, (.int (0)), 0),
  (2, .putfield 138, 3, .null, 0),
  (5, .iconst 0, 1, (.int (0)), 0),
  (6, .istore_n 1, 1, .null, 1),
  (7, .iload_n 1, 1, .null, 1),
  (8, .aload_n 0, 1, .null, 0),
  (9, .getfield 76, 3, .null, 0),
  (12, .if_icmp .ge (16), 3, .null, 28),
  (15, .aload_n 0, 1, .null, 0),
  (16, .getfield 40, 3, .null, 0),
  (19, .iload_n 1, 1, .null, 1),
  (20, .iconst (-1), 1, (.int (-1)), 0),
  (21, .iastore, 1, .null, 0),
  (22, .iinc 1 (1), 3, (.int (1)), 1),
  (25, .goto (-18), 3, .null, 7),
  (28, .iconst 0, 1, (.int (0)), 0),
  (29, .istore_n 1, 1, .null, 1),
  (30, .iload_n 1, 1, .null, 1),
  (31, .aload_n 0, 1, .null, 0),
  (32, .getfield 76, 3, .null, 0),
  (35, .if_icmp .ge (56), 3, .null, 91),
  (38, .aload_n 0, 1, .null, 0),
  (39, .getfield 34, 3, .null, 0),
  (42, .iload_n 1, 1, .null, 1),
  (43, .iaload, 1, .null, 0),
  (44, .istore_n 2, 1, .null, 2),
  (45, .aload_n 0, 1, .null, 0),
  (46, .getfield 40, 3, .null, 0),
  (49, .iload_n 2, 1, .null, 2),
  (50, .iaload, 1, .null, 0),
  (51, .iconst (-1), 1, (.int (-1)), 0),
  (52, .if_icmp .ne (33), 3, .null, 85),
  (55, .aload_n 0, 1, .null, 0),
  (56, .getfield 40, 3, .null, 0),
  (59, .iload_n 2, 1, .null, 2),
  (60, .aload_n 0, 1, .null, 0),
  (61, .getfield 138, 3, .null, 0),
  (64, .iastore, 1, .null, 0),
  (65, .aload_n 0, 1, .null, 0),
  (66, .getfield 43, 3, .null, 0),
  (69, .aload_n 0, 1, .null, 0),
  (70, .getfield 138, 3, .null, 0),
  (73, .iload_n 2, 1, .null, 2),
  (74, .iastore, 1, .null, 0),
  (75, .aload_n 0, 1, .null, 0),
  (76, .dup, 1, .null, 0),
  (77, .getfield 138, 3, .null, 0),
  (80, .iconst 1, 1, (.int (1)), 0),
  (81, .iadd, 1, .null, 0),
  (82, .putfield 138, 3, .null, 0),
  (85, .iinc 1 (1), 3, (.int (1)), 1),
  (88, .goto (-58), 3, .null, 30),
  (91, .return_, 1, .null, 0)]
noncomputable def m_X8_numberStates : ab_M := (c_X8_numberStates, [(0, [0]), (7, [0, 1]), (30, [0, 1]), (85, [0, 1])],
  [(34, 8, 7, 3), (40, 8, 9, 3), (43, 8, 10, 3), (76, 8, 13, 0), (138, 8, 14, 0)],
  [],
  [],
  [], 3, 0)
theorem one_X8_numberStates : ab_oneM m_X8_numberStates := fun _ h => absurd h List.not_mem_nil
noncomputable def f_X8_numberStates (l0 : Nat) (st : ab_S) : Option ab_R := ab_rc st l0 8 (ab_lim m_X8_numberStates 0 [.ref l0] [] st)
noncomputable def L_X8_numberStates_7 (l0 : Nat) (l1 : Int32) (st : ab_S) : Option ab_R := ab_lim m_X8_numberStates 7 [.ref l0, .int l1] [] st
noncomputable def L_X8_numberStates_30 (l0 : Nat) (l1 : Int32) (st : ab_S) : Option ab_R := ab_lim m_X8_numberStates 30 [.ref l0, .int l1] [] st
noncomputable def L_X8_numberStates_85 (l0 : Nat) (l1 : Int32) (st : ab_S) : Option ab_R := ab_lim m_X8_numberStates 85 [.ref l0, .int l1] [] st
noncomputable def g_X8_numberStates : ab_G := fun as st k => match as with
  | [.ref a0] => ab_rv (f_X8_numberStates a0 st) (fun t => k [] t)
  | _ => none
theorem o_X8_numberStates : ab_one g_X8_numberStates := by
  intro as st k r h
  unfold g_X8_numberStates at h ⊢
  split at h
  · exact one_rv h
  · cases h
set_option maxRecDepth 100000 in
theorem e_X8_numberStates_0 (l0 : Nat) (st : ab_S) : f_X8_numberStates l0 st =
    ab_rc st l0 8 (
    Option.bind (ab_pI st l0 8 14 (0 : Int32)) fun s1 =>
    L_X8_numberStates_7 l0 (0 : Int32) s1) := congrArg (ab_rc st l0 8) ((lm_eq one_X8_numberStates 0 _ _ _).trans rfl)
set_option maxRecDepth 100000 in
theorem e_X8_numberStates_7 (l0 : Nat) (l1 : Int32) (st : ab_S) : L_X8_numberStates_7 l0 l1 st =
    Option.bind (ab_gI st l0 8 13) fun x1 =>
    if x1 ≤ l1
    then L_X8_numberStates_30 l0 (0 : Int32) st
    else Option.bind (ab_gR st l0 8 9) fun x2 =>
      Option.bind (ab_wI st x2 l1 (-1 : Int32)) fun s3 =>
      L_X8_numberStates_7 l0 (l1 + (1 : Int32)) s3 := (lm_eq one_X8_numberStates 7 _ _ _).trans rfl
set_option maxRecDepth 100000 in
theorem e_X8_numberStates_30 (l0 : Nat) (l1 : Int32) (st : ab_S) : L_X8_numberStates_30 l0 l1 st =
    Option.bind (ab_gI st l0 8 13) fun x1 =>
    if x1 ≤ l1
    then some (none, st)
    else Option.bind (ab_gR st l0 8 7) fun x2 =>
      Option.bind (ab_rI st x2 l1) fun x3 =>
      Option.bind (ab_gR st l0 8 9) fun x4 =>
      Option.bind (ab_rI st x4 x3) fun x5 =>
      if x5 = (-1 : Int32)
      then Option.bind (ab_gR st l0 8 9) fun x6 =>
        Option.bind (ab_gI st l0 8 14) fun x7 =>
        Option.bind (ab_wI st x6 x3 x7) fun s8 =>
        Option.bind (ab_gR s8 l0 8 10) fun x9 =>
        Option.bind (ab_gI s8 l0 8 14) fun x10 =>
        Option.bind (ab_wI s8 x9 x10 x3) fun s11 =>
        Option.bind (ab_gI s11 l0 8 14) fun x12 =>
        Option.bind (ab_pI s11 l0 8 14 (x12 + (1 : Int32))) fun s13 =>
        L_X8_numberStates_85 l0 l1 s13
      else L_X8_numberStates_85 l0 l1 st := (lm_eq one_X8_numberStates 30 _ _ _).trans rfl
set_option maxRecDepth 100000 in
theorem e_X8_numberStates_85 (l0 : Nat) (l1 : Int32) (st : ab_S) : L_X8_numberStates_85 l0 l1 st =
    L_X8_numberStates_30 l0 (l1 + (1 : Int32)) st := (lm_eq one_X8_numberStates 85 _ _ _).trans rfl
def c_X1_putArc : List (Nat × ab_I) := [(0, .aload_n 0, 1, .null, 0),
  (1, .getfield 52, 3, .null, 0),
  (4, .sipush (2400), 3, (.int (2400)), 0),
  (7, .if_icmp .ge (13), 3, .null, 20),
  (10, .aload_n 0, 1, .null, 0),
  (11, .getfield 49, 3, .null, 0),
  (14, .sipush (2401), 3, (.int (2401)), 0),
  (17, .if_icmp .le (5), 3, .null, 22),
  (20, .iconst 0, 1, (.int (0)), 0),
  (21, .ireturn, 1, .null, 0),
  (22, .aload_n 0, 1, .null, 0),
  (23, .getfield 22, 3, .null, 0),
  (26, .aload_n 0, 1, .null, 0),
  (27, .getfield 52, 3, .null, 0),
  (30, .iload_n 1, 1, .null, 1),
  (31, .iastore, 1, .null, 0),
  (32, .aload_n 0, 1, .null, 0),
  (33, .getfield 25, 3, .null, 0),
  (36, .aload_n 0, 1, .null, 0),
  (37, .getfield 52, 3, .null, 0),
  (40, .iload_n 2, 1, .null, 2),
  (41, .iastore, 1, .null, 0),
  (42, .aload_n 0, 1, .null, 0),
  (43, .getfield 28, 3, .null, 0),
  (46, .aload_n 0, 1, .null, 0),
  (47, .getfield 52, 3, .null, 0),
  (50, .lload_n 3, 1, .null, 3),
  (51, .lastore, 1, .null, 0),
  (52, .aload_n 0, 1, .null, 0),
  (53, .dup, 1, .null, 0),
  (54, .getfield 52, 3, .null, 0),
  (57, .iconst 1, 1, (.int (1)), 0),
  (58, .iadd, 1, .null, 0),
  (59, .putfield 52, 3, .null, 0),
  (62, .aload_n 0, 1, .null, 0),
  (63, .getfield 9, 3, .null, 0),
  (66, .aload_n 0, 1, .null, 0),
  (67, .getfield 49, 3, .null, 0),
  (70, .aload_n 0, 1, .null, 0),
  (71, .getfield 52, 3, .null, 0),
  (74, .iastore, 1, .null, 0),
  (75, .iconst 1, 1, (.int (1)), 0),
  (76, .ireturn, 1, .null, 0)]
noncomputable def m_X1_putArc : ab_M := (c_X1_putArc, [(0, [0, 1, 2, 3])],
  [(9, 1, 0, 3), (22, 1, 3, 3), (25, 1, 4, 3), (28, 1, 5, 3), (49, 1, 7, 0), (52, 1, 8, 0)],
  [],
  [],
  [], 5, 2)
theorem one_X1_putArc : ab_oneM m_X1_putArc := fun _ h => absurd h List.not_mem_nil
noncomputable def f_X1_putArc (l0 : Nat) (l1 : Int32) (l2 : Int32) (l3 : Int64) (st : ab_S) : Option ab_R := ab_rc st l0 1 (ab_lim m_X1_putArc 0 [.ref l0, .int l1, .int l2, .long l3] [] st)
noncomputable def g_X1_putArc : ab_G := fun as st k => match as with
  | [.ref a0, .int a1, .int a2, .long a3] => ab_ri (f_X1_putArc a0 a1 a2 a3 st) (fun x t => k [.int x] t)
  | _ => none
theorem o_X1_putArc : ab_one g_X1_putArc := by
  intro as st k r h
  unfold g_X1_putArc at h ⊢
  split at h
  · exact one_ri h
  · cases h
set_option maxRecDepth 100000 in
theorem e_X1_putArc_0 (l0 : Nat) (l1 : Int32) (l2 : Int32) (l3 : Int64) (st : ab_S) : f_X1_putArc l0 l1 l2 l3 st =
    ab_rc st l0 1 (
    Option.bind (ab_gI st l0 1 8) fun x1 =>
    if (2400 : Int32) ≤ x1
    then ab_z (0 : Int32) (some (some (.int (0 : Int32)), st))
    else Option.bind (ab_gI st l0 1 7) fun x2 =>
      if x2 ≤ (2401 : Int32)
      then Option.bind (ab_gR st l0 1 3) fun x3 =>
        Option.bind (ab_gI st l0 1 8) fun x4 =>
        Option.bind (ab_wI st x3 x4 l1) fun s5 =>
        Option.bind (ab_gR s5 l0 1 4) fun x6 =>
        Option.bind (ab_gI s5 l0 1 8) fun x7 =>
        Option.bind (ab_wI s5 x6 x7 l2) fun s8 =>
        Option.bind (ab_gR s8 l0 1 5) fun x9 =>
        Option.bind (ab_gI s8 l0 1 8) fun x10 =>
        Option.bind (ab_wJ s8 x9 x10 l3) fun s11 =>
        Option.bind (ab_gI s11 l0 1 8) fun x12 =>
        Option.bind (ab_pI s11 l0 1 8 (x12 + (1 : Int32))) fun s13 =>
        Option.bind (ab_gR s13 l0 1 0) fun x14 =>
        Option.bind (ab_gI s13 l0 1 7) fun x15 =>
        Option.bind (ab_gI s13 l0 1 8) fun x16 =>
        Option.bind (ab_wI s13 x14 x15 x16) fun s17 =>
        ab_z (1 : Int32) (some (some (.int (1 : Int32)), s17))
      else ab_z (0 : Int32) (some (some (.int (0 : Int32)), st))) := congrArg (ab_rc st l0 1) ((lm_eq one_X1_putArc 0 _ _ _).trans rfl)
def c_X8_draw : List (Nat × ab_I) := [(0, .aload_n 1, 1, .null, 1),
  (1, .aload_n 0, 1, .null, 0),
  (2, .getfield 21, 3, .null, 0),
  (5, .iconst 0, 1, (.int (0)), 0),
  (6, .laload, 1, .null, 0),
  (7, .aload_n 0, 1, .null, 0),
  (8, .getfield 76, 3, .null, 0),
  (11, .invokevirtual 141, 3, .null, 0),
  (14, .iconst 0, 1, (.int (0)), 0),
  (15, .istore_n 2, 1, .null, 2),
  (16, .iload_n 2, 1, .null, 2),
  (17, .aload_n 0, 1, .null, 0),
  (18, .getfield 138, 3, .null, 0),
  (21, .if_icmp .ge (103), 3, .null, 124),
  (24, .aload_n 0, 1, .null, 0),
  (25, .getfield 43, 3, .null, 0),
  (28, .iload_n 2, 1, .null, 2),
  (29, .iaload, 1, .null, 0),
  (30, .istore_n 3, 1, .null, 3),
  (31, .aload_n 1, 1, .null, 1),
  (32, .aload_n 0, 1, .null, 0),
  (33, .iload_n 3, 1, .null, 3),
  (34, .invokevirtual 129, 3, .null, 0),
  (37, .aload_n 0, 1, .null, 0),
  (38, .getfield 18, 3, .null, 0),
  (41, .iload_n 3, 1, .null, 3),
  (42, .iaload, 1, .null, 0),
  (43, .invokevirtual 147, 3, .null, 0),
  (46, .pop, 1, .null, 0),
  (47, .aload_n 0, 1, .null, 0),
  (48, .getfield 28, 3, .null, 0),
  (51, .iload_n 3, 1, .null, 3),
  (52, .iaload, 1, .null, 0),
  (53, .istore 4, 2, .null, 4),
  (55, .iconst 0, 1, (.int (0)), 0),
  (56, .istore 5, 2, .null, 5),
  (58, .iload 5, 2, .null, 5),
  (60, .sipush (256), 3, (.int (256)), 0),
  (63, .if_icmp .ge (55), 3, .null, 118),
  (66, .iload 4, 2, .null, 4),
  (68, .iconst (-1), 1, (.int (-1)), 0),
  (69, .if_icmp .eq (49), 3, .null, 118),
  (72, .aload_n 1, 1, .null, 1),
  (73, .aload_n 0, 1, .null, 0),
  (74, .getfield 15, 3, .null, 0),
  (77, .iload 4, 2, .null, 4),
  (79, .iaload, 1, .null, 0),
  (80, .aload_n 0, 1, .null, 0),
  (81, .getfield 40, 3, .null, 0),
  (84, .aload_n 0, 1, .null, 0),
  (85, .getfield 34, 3, .null, 0),
  (88, .iload 4, 2, .null, 4),
  (90, .iaload, 1, .null, 0),
  (91, .iaload, 1, .null, 0),
  (92, .aload_n 0, 1, .null, 0),
  (93, .iload_n 3, 1, .null, 3),
  (94, .iload 4, 2, .null, 4),
  (96, .invokevirtual 132, 3, .null, 0),
  (99, .invokevirtual 151, 3, .null, 0),
  (102, .pop, 1, .null, 0),
  (103, .aload_n 0, 1, .null, 0),
  (104, .getfield 31, 3, .null, 0),
  (107, .iload 4, 2, .null, 4),
  (109, .iaload, 1, .null, 0),
  (110, .istore 4, 2, .null, 4),
  (112, .iinc 5 (1), 3, (.int (1)), 5),
  (115, .goto (-57), 3, .null, 58),
  (118, .iinc 2 (1), 3, (.int (1)), 2),
  (121, .goto (-105), 3, .null, 16),
  (124, .return_, 1, .null, 0)]
noncomputable def m_X8_draw : ab_M := (c_X8_draw, [(0, [0, 1]), (16, [0, 1, 2]), (58, [0, 1, 2, 3, 4, 5]), (118, [0, 1, 2])],
  [(15, 8, 1, 3), (18, 8, 2, 3), (21, 8, 3, 3), (28, 8, 5, 3), (31, 8, 6, 3), (34, 8, 7, 3), (40, 8, 9, 3), (43, 8, 10, 3), (76, 8, 13, 0), (138, 8, 14, 0)],
  [],
  [(129, 1, 2, g_X8_lastOutput), (132, 1, 3, g_X8_output), (141, 1, 3, g_X1_clear), (147, 1, 3, g_X1_putState), (151, 1, 4, g_X1_putArc)],
  [], 6, 0)
theorem one_X8_draw : ab_oneM m_X8_draw := List.forall_mem_cons.mpr ⟨o_X8_lastOutput, List.forall_mem_cons.mpr ⟨o_X8_output, List.forall_mem_cons.mpr ⟨o_X1_clear, List.forall_mem_cons.mpr ⟨o_X1_putState, List.forall_mem_cons.mpr ⟨o_X1_putArc, fun _ h => absurd h List.not_mem_nil⟩⟩⟩⟩⟩
noncomputable def f_X8_draw (l0 : Nat) (l1 : Nat) (st : ab_S) : Option ab_R := ab_rc st l0 8 (ab_lim m_X8_draw 0 [.ref l0, .ref l1] [] st)
noncomputable def L_X8_draw_16 (l0 : Nat) (l1 : Nat) (l2 : Int32) (st : ab_S) : Option ab_R := ab_lim m_X8_draw 16 [.ref l0, .ref l1, .int l2] [] st
noncomputable def L_X8_draw_58 (l0 : Nat) (l1 : Nat) (l2 : Int32) (l3 : Int32) (l4 : Int32) (l5 : Int32) (st : ab_S) : Option ab_R := ab_lim m_X8_draw 58 [.ref l0, .ref l1, .int l2, .int l3, .int l4, .int l5] [] st
noncomputable def L_X8_draw_118 (l0 : Nat) (l1 : Nat) (l2 : Int32) (st : ab_S) : Option ab_R := ab_lim m_X8_draw 118 [.ref l0, .ref l1, .int l2] [] st
noncomputable def g_X8_draw : ab_G := fun as st k => match as with
  | [.ref a0, .ref a1] => ab_rv (f_X8_draw a0 a1 st) (fun t => k [] t)
  | _ => none
theorem o_X8_draw : ab_one g_X8_draw := by
  intro as st k r h
  unfold g_X8_draw at h ⊢
  split at h
  · exact one_rv h
  · cases h
set_option maxRecDepth 100000 in
theorem e_X8_draw_0 (l0 : Nat) (l1 : Nat) (st : ab_S) : f_X8_draw l0 l1 st =
    ab_rc st l0 8 (
    Option.bind (ab_gR st l0 8 3) fun x1 =>
    Option.bind (ab_rJ st x1 (0 : Int32)) fun x2 =>
    Option.bind (ab_gI st l0 8 13) fun x3 =>
    ab_rv (f_X1_clear l1 x2 x3 st) fun s4 =>
    L_X8_draw_16 l0 l1 (0 : Int32) s4) := congrArg (ab_rc st l0 8) ((lm_eq one_X8_draw 0 _ _ _).trans rfl)
set_option maxRecDepth 100000 in
theorem e_X8_draw_16 (l0 : Nat) (l1 : Nat) (l2 : Int32) (st : ab_S) : L_X8_draw_16 l0 l1 l2 st =
    Option.bind (ab_gI st l0 8 14) fun x1 =>
    if x1 ≤ l2
    then some (none, st)
    else Option.bind (ab_gR st l0 8 10) fun x2 =>
      Option.bind (ab_rI st x2 l2) fun x3 =>
      ab_rl (f_X8_lastOutput l0 x3 st) fun x5 s4 =>
      Option.bind (ab_gR s4 l0 8 2) fun x6 =>
      Option.bind (ab_rI s4 x6 x3) fun x7 =>
      ab_ri (f_X1_putState l1 x5 x7 s4) fun x9 s8 =>
      Option.bind (ab_gR s8 l0 8 5) fun x10 =>
      Option.bind (ab_rI s8 x10 x3) fun x11 =>
      L_X8_draw_58 l0 l1 l2 x3 x11 (0 : Int32) s8 := (lm_eq one_X8_draw 16 _ _ _).trans rfl
set_option maxRecDepth 100000 in
theorem e_X8_draw_58 (l0 : Nat) (l1 : Nat) (l2 : Int32) (l3 : Int32) (l4 : Int32) (l5 : Int32) (st : ab_S) : L_X8_draw_58 l0 l1 l2 l3 l4 l5 st =
    if (256 : Int32) ≤ l5
    then L_X8_draw_118 l0 l1 l2 st
    else if l4 = (-1 : Int32)
      then L_X8_draw_118 l0 l1 l2 st
      else Option.bind (ab_gR st l0 8 1) fun x1 =>
        Option.bind (ab_rI st x1 l4) fun x2 =>
        Option.bind (ab_gR st l0 8 9) fun x3 =>
        Option.bind (ab_gR st l0 8 7) fun x4 =>
        Option.bind (ab_rI st x4 l4) fun x5 =>
        Option.bind (ab_rI st x3 x5) fun x6 =>
        ab_rl (f_X8_output l0 l3 l4 st) fun x8 s7 =>
        ab_ri (f_X1_putArc l1 x2 x6 x8 s7) fun x10 s9 =>
        Option.bind (ab_gR s9 l0 8 6) fun x11 =>
        Option.bind (ab_rI s9 x11 l4) fun x12 =>
        L_X8_draw_58 l0 l1 l2 l3 x12 (l5 + (1 : Int32)) s9 := (lm_eq one_X8_draw 58 _ _ _).trans rfl
set_option maxRecDepth 100000 in
theorem e_X8_draw_118 (l0 : Nat) (l1 : Nat) (l2 : Int32) (st : ab_S) : L_X8_draw_118 l0 l1 l2 st =
    L_X8_draw_16 l0 l1 (l2 + (1 : Int32)) st := (lm_eq one_X8_draw 118 _ _ _).trans rfl
def c_X8_build : List (Nat × ab_I) := [(0, .aload_n 0, 1, .null, 0),
  (1, .aload_n 1, 1, .null, 1),
  (2, .getfield 52, 3, .null, 0),
  (5, .invokevirtual 58, 3, .null, 0),
  (8, .aload_n 0, 1, .null, 0),
  (9, .invokevirtual 62, 3, .null, 0),
  (12, .aload_n 0, 1, .null, 0),
  (13, .invokevirtual 65, 3, .null, 0),
  (16, .aload_n 0, 1, .null, 0),
  (17, .aload_n 1, 1, .null, 1),
  (18, .getfield 68, 3, .null, 0),
  (21, .invokevirtual 72, 3, .null, 0),
  (24, .return_, 1, .null, 0)]
noncomputable def m_X8_build : ab_M := (c_X8_build, [(0, [0, 1])],
  [(52, 0, 0, 3), (68, 0, 1, 3)],
  [],
  [(58, 1, 2, g_X8_plant), (62, 1, 1, g_X8_findAlike), (65, 1, 1, g_X8_numberStates), (72, 1, 2, g_X8_draw)],
  [], 2, 0)
theorem one_X8_build : ab_oneM m_X8_build := List.forall_mem_cons.mpr ⟨o_X8_plant, List.forall_mem_cons.mpr ⟨o_X8_findAlike, List.forall_mem_cons.mpr ⟨o_X8_numberStates, List.forall_mem_cons.mpr ⟨o_X8_draw, fun _ h => absurd h List.not_mem_nil⟩⟩⟩⟩
noncomputable def f_X8_build (l0 : Nat) (l1 : Nat) (st : ab_S) : Option ab_R := ab_rc st l0 8 (ab_lim m_X8_build 0 [.ref l0, .ref l1] [] st)
noncomputable def g_X8_build : ab_G := fun as st k => match as with
  | [.ref a0, .ref a1] => ab_rv (f_X8_build a0 a1 st) (fun t => k [] t)
  | _ => none
theorem o_X8_build : ab_one g_X8_build := by
  intro as st k r h
  unfold g_X8_build at h ⊢
  split at h
  · exact one_rv h
  · cases h
set_option maxRecDepth 100000 in
theorem e_X8_build_0 (l0 : Nat) (l1 : Nat) (st : ab_S) : f_X8_build l0 l1 st =
    ab_rc st l0 8 (
    Option.bind (ab_gR st l1 0 0) fun x1 =>
    ab_rv (f_X8_plant l0 x1 st) fun s2 =>
    ab_rv (f_X8_findAlike l0 s2) fun s3 =>
    ab_rv (f_X8_numberStates l0 s3) fun s4 =>
    Option.bind (ab_gR s4 l1 0 1) fun x5 =>
    ab_rv (f_X8_draw l0 x5 s4) fun s6 =>
    some (none, s6)) := congrArg (ab_rc st l0 8) ((lm_eq one_X8_build 0 _ _ _).trans rfl)
def c_X10_done : List (Nat × ab_I) := [(0, .iload_n 1, 1, .null, 1),
  (1, .invokestatic 95, 3, .null, 0),
  (4, .ifCond .ne (6), 3, .null, 10),
  (7, .bipush (-2), 2, (.int (-2)), 0),
  (9, .ireturn, 1, .null, 0),
  (10, .aload_n 0, 1, .null, 0),
  (11, .getfield 11, 3, .null, 0),
  (14, .iload_n 1, 1, .null, 1),
  (15, .aaload, 1, .null, 0),
  (16, .astore_n 2, 1, .null, 2),
  (17, .aload_n 2, 1, .null, 2),
  (18, .getfield 109, 3, .null, 0),
  (21, .ifCond .ne (6), 3, .null, 27),
  (24, .bipush (-4), 2, (.int (-4)), 0),
  (26, .ireturn, 1, .null, 0),
  (27, .aload_n 0, 1, .null, 0),
  (28, .getfield 28, 3, .null, 0),
  (31, .aload_n 2, 1, .null, 2),
  (32, .invokevirtual 126, 3, .null, 0),
  (35, .aload_n 2, 1, .null, 2),
  (36, .iconst 0, 1, (.int (0)), 0),
  (37, .putfield 109, 3, .null, 0),
  (40, .aload_n 2, 1, .null, 2),
  (41, .getfield 130, 3, .null, 0),
  (44, .getfield 134, 3, .null, 0),
  (47, .ireturn, 1, .null, 0)]
noncomputable def m_X10_done : ab_M := (c_X10_done, [(0, [0, 1])],
  [(11, 10, 0, 3), (28, 10, 3, 3), (109, 0, 2, 1), (130, 0, 1, 3), (134, 1, 7, 0)],
  [],
  [(95, 0, 1, g_X10_isDictionary), (126, 1, 2, g_X8_build)],
  [], 3, 1)
theorem one_X10_done : ab_oneM m_X10_done := List.forall_mem_cons.mpr ⟨o_X10_isDictionary, List.forall_mem_cons.mpr ⟨o_X8_build, fun _ h => absurd h List.not_mem_nil⟩⟩
noncomputable def f_X10_done (l0 : Nat) (l1 : Int32) (st : ab_S) : Option ab_R := ab_rc st l0 10 (ab_lim m_X10_done 0 [.ref l0, .int l1] [] st)
noncomputable def g_X10_done : ab_G := fun as st k => match as with
  | [.ref a0, .int a1] => ab_ri (f_X10_done a0 a1 st) (fun x t => k [.int x] t)
  | _ => none
theorem o_X10_done : ab_one g_X10_done := by
  intro as st k r h
  unfold g_X10_done at h ⊢
  split at h
  · exact one_ri h
  · cases h
set_option maxRecDepth 100000 in
theorem e_X10_done_0 (l0 : Nat) (l1 : Int32) (st : ab_S) : f_X10_done l0 l1 st =
    ab_rc st l0 10 (
    ab_ri (f_X10_isDictionary l1 st) fun x2 s1 =>
    if x2 = 0
    then some (some (.int (-2 : Int32)), s1)
    else Option.bind (ab_gR s1 l0 10 0) fun x3 =>
      Option.bind (ab_rR s1 x3 l1) fun x4 =>
      Option.bind (ab_gI s1 x4 0 2) fun x5 =>
      if x5 = 0
      then some (some (.int (-4 : Int32)), s1)
      else Option.bind (ab_gR s1 l0 10 3) fun x6 =>
        ab_rv (f_X8_build x6 x4 s1) fun s7 =>
        Option.bind (ab_pZ s7 x4 0 2 (0 : Int32)) fun s8 =>
        Option.bind (ab_gR s8 x4 0 1) fun x9 =>
        Option.bind (ab_gI s8 x9 1 7) fun x10 =>
        some (some (.int x10), s8)) := congrArg (ab_rc st l0 10) ((lm_eq one_X10_done 0 _ _ _).trans rfl)
