def c_X11_isFinal : List (Nat × ab_I) := [(0, .aload_n 0, 1, .null, 0),
  (1, .getfield 57, 3, .null, 0),
  (4, .iload_n 2, 1, .null, 2),
  (5, .iaload, 1, .null, 0),
  (6, .aload_n 0, 1, .null, 0),
  (7, .getfield 60, 3, .null, 0),
  (10, .iload_n 2, 1, .null, 2),
  (11, .iaload, 1, .null, 0),
  (12, .if_icmp .ge (33), 3, .null, 45),
  (15, .aload_n 0, 1, .null, 0),
  (16, .getfield 16, 3, .null, 0),
  (19, .sipush (200), 3, (.int (200)), 0),
  (22, .iload_n 1, 1, .null, 1),
  (23, .imul, 1, .null, 0),
  (24, .aload_n 0, 1, .null, 0),
  (25, .getfield 57, 3, .null, 0),
  (28, .iload_n 2, 1, .null, 2),
  (29, .iaload, 1, .null, 0),
  (30, .iadd, 1, .null, 0),
  (31, .iaload, 1, .null, 0),
  (32, .aload_n 0, 1, .null, 0),
  (33, .getfield 63, 3, .null, 0),
  (36, .iload_n 2, 1, .null, 2),
  (37, .iaload, 1, .null, 0),
  (38, .if_icmp .ne (7), 3, .null, 45),
  (41, .iconst 1, 1, (.int (1)), 0),
  (42, .goto (4), 3, .null, 46),
  (45, .iconst 0, 1, (.int (0)), 0),
  (46, .ireturn, 1, .null, 0)]
noncomputable def m_X11_isFinal : ab_M := (c_X11_isFinal, [(0, [0, 1, 2])],
  [(16, 11, 3, 3), (57, 11, 18, 3), (60, 11, 19, 3), (63, 11, 20, 3)],
  [],
  [],
  [], 3, 2)
theorem one_X11_isFinal : ab_oneM m_X11_isFinal := fun _ h => absurd h List.not_mem_nil
noncomputable def f_X11_isFinal (l0 : Nat) (l1 : Int32) (l2 : Int32) (st : ab_S) : Option ab_R := ab_rc st l0 11 (ab_lim m_X11_isFinal 0 [.ref l0, .int l1, .int l2] [] st)
noncomputable def g_X11_isFinal : ab_G := fun as st k => match as with
  | [.ref a0, .int a1, .int a2] => ab_ri (f_X11_isFinal a0 a1 a2 st) (fun x t => k [.int x] t)
  | _ => none
theorem o_X11_isFinal : ab_one g_X11_isFinal := by
  intro as st k r h
  unfold g_X11_isFinal at h ⊢
  split at h
  · exact one_ri h
  · cases h
set_option maxRecDepth 100000 in
theorem e_X11_isFinal_0 (l0 : Nat) (l1 : Int32) (l2 : Int32) (st : ab_S) : f_X11_isFinal l0 l1 l2 st =
    ab_rc st l0 11 (
    Option.bind (ab_gR st l0 11 18) fun x1 =>
    Option.bind (ab_rI st x1 l2) fun x2 =>
    Option.bind (ab_gR st l0 11 19) fun x3 =>
    Option.bind (ab_rI st x3 l2) fun x4 =>
    if x4 ≤ x2
    then ab_z (0 : Int32) (some (some (.int (0 : Int32)), st))
    else Option.bind (ab_gR st l0 11 3) fun x5 =>
      Option.bind (ab_gR st l0 11 18) fun x6 =>
      Option.bind (ab_rI st x6 l2) fun x7 =>
      Option.bind (ab_rI st x5 (((200 : Int32) * l1) + x7)) fun x8 =>
      Option.bind (ab_gR st l0 11 20) fun x9 =>
      Option.bind (ab_rI st x9 l2) fun x10 =>
      if x8 = x10
      then ab_z (1 : Int32) (some (some (.int (1 : Int32)), st))
      else ab_z (0 : Int32) (some (some (.int (0 : Int32)), st))) := congrArg (ab_rc st l0 11) ((lm_eq one_X11_isFinal 0 _ _ _).trans rfl)
def c_X11_beginningOf : List (Nat × ab_I) := [(0, .iconst 0, 1, (.int (0)), 0),
  (1, .istore 4, 2, .null, 4),
  (3, .aload_n 0, 1, .null, 0),
  (4, .getfield 63, 3, .null, 0),
  (7, .iload 4, 2, .null, 4),
  (9, .iaload, 1, .null, 0),
  (10, .iload_n 3, 1, .null, 3),
  (11, .if_icmp .ne (25), 3, .null, 36),
  (14, .iload_n 2, 1, .null, 2),
  (15, .aload_n 0, 1, .null, 0),
  (16, .getfield 57, 3, .null, 0),
  (19, .iload 4, 2, .null, 4),
  (21, .iaload, 1, .null, 0),
  (22, .if_icmp .lt (14), 3, .null, 36),
  (25, .iload_n 2, 1, .null, 2),
  (26, .aload_n 0, 1, .null, 0),
  (27, .getfield 60, 3, .null, 0),
  (30, .iload 4, 2, .null, 4),
  (32, .iaload, 1, .null, 0),
  (33, .if_icmp .lt (9), 3, .null, 42),
  (36, .iinc 4 (1), 3, (.int (1)), 4),
  (39, .goto (-36), 3, .null, 3),
  (42, .iload 4, 2, .null, 4),
  (44, .ireturn, 1, .null, 0)]
noncomputable def m_X11_beginningOf : ab_M := (c_X11_beginningOf, [(0, [0, 1, 2, 3]), (3, [0, 2, 3, 4]), (36, [0, 2, 3, 4])],
  [(57, 11, 18, 3), (60, 11, 19, 3), (63, 11, 20, 3)],
  [],
  [],
  [], 5, 1)
theorem one_X11_beginningOf : ab_oneM m_X11_beginningOf := fun _ h => absurd h List.not_mem_nil
noncomputable def f_X11_beginningOf (l0 : Nat) (l1 : Int32) (l2 : Int32) (l3 : Int32) (st : ab_S) : Option ab_R := ab_rc st l0 11 (ab_lim m_X11_beginningOf 0 [.ref l0, .int l1, .int l2, .int l3] [] st)
noncomputable def L_X11_beginningOf_3 (l0 : Nat) (l2 : Int32) (l3 : Int32) (l4 : Int32) (st : ab_S) : Option ab_R := ab_lim m_X11_beginningOf 3 [.ref l0, .int l2, .int l3, .int l4] [] st
noncomputable def L_X11_beginningOf_36 (l0 : Nat) (l2 : Int32) (l3 : Int32) (l4 : Int32) (st : ab_S) : Option ab_R := ab_lim m_X11_beginningOf 36 [.ref l0, .int l2, .int l3, .int l4] [] st
noncomputable def g_X11_beginningOf : ab_G := fun as st k => match as with
  | [.ref a0, .int a1, .int a2, .int a3] => ab_ri (f_X11_beginningOf a0 a1 a2 a3 st) (fun x t => k [.int x] t)
  | _ => none
theorem o_X11_beginningOf : ab_one g_X11_beginningOf := by
  intro as st k r h
  unfold g_X11_beginningOf at h ⊢
  split at h
  · exact one_ri h
  · cases h
set_option maxRecDepth 100000 in
theorem e_X11_beginningOf_0 (l0 : Nat) (l1 : Int32) (l2 : Int32) (l3 : Int32) (st : ab_S) : f_X11_beginningOf l0 l1 l2 l3 st =
    ab_rc st l0 11 (
    L_X11_beginningOf_3 l0 l2 l3 (0 : Int32) st) := congrArg (ab_rc st l0 11) ((lm_eq one_X11_beginningOf 0 _ _ _).trans rfl)
set_option maxRecDepth 100000 in
theorem e_X11_beginningOf_3 (l0 : Nat) (l2 : Int32) (l3 : Int32) (l4 : Int32) (st : ab_S) : L_X11_beginningOf_3 l0 l2 l3 l4 st =
    Option.bind (ab_gR st l0 11 20) fun x1 =>
    Option.bind (ab_rI st x1 l4) fun x2 =>
    if x2 = l3
    then Option.bind (ab_gR st l0 11 18) fun x3 =>
      Option.bind (ab_rI st x3 l4) fun x4 =>
      if l2 < x4
      then L_X11_beginningOf_36 l0 l2 l3 l4 st
      else Option.bind (ab_gR st l0 11 19) fun x5 =>
        Option.bind (ab_rI st x5 l4) fun x6 =>
        if l2 < x6
        then some (some (.int l4), st)
        else L_X11_beginningOf_36 l0 l2 l3 l4 st
    else L_X11_beginningOf_36 l0 l2 l3 l4 st := (lm_eq one_X11_beginningOf 3 _ _ _).trans rfl
set_option maxRecDepth 100000 in
theorem e_X11_beginningOf_36 (l0 : Nat) (l2 : Int32) (l3 : Int32) (l4 : Int32) (st : ab_S) : L_X11_beginningOf_36 l0 l2 l3 l4 st =
    L_X11_beginningOf_3 l0 l2 l3 (l4 + (1 : Int32)) st := (lm_eq one_X11_beginningOf 36 _ _ _).trans rfl
def c_X11_child : List (Nat × ab_I) := [(0, .iconst 0, 1, (.int (0)), 0),
  (1, .istore 4, 2, .null, 4),
  (3, .aload_n 0, 1, .null, 0),
  (4, .getfield 57, 3, .null, 0),
  (7, .iload_n 2, 1, .null, 2),
  (8, .iaload, 1, .null, 0),
  (9, .aload_n 0, 1, .null, 0),
  (10, .iload_n 1, 1, .null, 1),
  (11, .iload_n 2, 1, .null, 2),
  (12, .invokevirtual 206, 3, .null, 0),
  (15, .ifCond .eq (7), 3, .null, 22),
  (18, .iconst 1, 1, (.int (1)), 0),
  (19, .goto (4), 3, .null, 23),
  (22, .iconst 0, 1, (.int (0)), 0),
  (23, .iadd, 1, .null, 0),
  (24, .istore 5, 2, .null, 5),
  (26, .iload 5, 2, .null, 5),
  (28, .aload_n 0, 1, .null, 0),
  (29, .getfield 60, 3, .null, 0),
  (32, .iload_n 2, 1, .null, 2),
  (33, .iaload, 1, .null, 0),
  (34, .if_icmp .ge (81), 3, .null, 115),
  (37, .iload 4, 2, .null, 4),
  (39, .iload_n 3, 1, .null, 3),
  (40, .if_icmp .ne (19), 3, .null, 59),
  (43, .aload_n 0, 1, .null, 0),
  (44, .iload_n 1, 1, .null, 1),
  (45, .iload 5, 2, .null, 5),
  (47, .aload_n 0, 1, .null, 0),
  (48, .getfield 63, 3, .null, 0),
  (51, .iload_n 2, 1, .null, 2),
  (52, .iaload, 1, .null, 0),
  (53, .iconst 1, 1, (.int (1)), 0),
  (54, .iadd, 1, .null, 0),
  (55, .invokevirtual 210, 3, .null, 0),
  (58, .ireturn, 1, .null, 0),
  (59, .aload_n 0, 1, .null, 0),
  (60, .iload_n 1, 1, .null, 1),
  (61, .iload 5, 2, .null, 5),
  (63, .aload_n 0, 1, .null, 0),
  (64, .getfield 63, 3, .null, 0),
  (67, .iload_n 2, 1, .null, 2),
  (68, .iaload, 1, .null, 0),
  (69, .invokevirtual 153, 3, .null, 0),
  (72, .istore 6, 2, .null, 6),
  (74, .iload 5, 2, .null, 5),
  (76, .aload_n 0, 1, .null, 0),
  (77, .getfield 60, 3, .null, 0),
  (80, .iload_n 2, 1, .null, 2),
  (81, .iaload, 1, .null, 0),
  (82, .if_icmp .ge (27), 3, .null, 109),
  (85, .aload_n 0, 1, .null, 0),
  (86, .iload_n 1, 1, .null, 1),
  (87, .iload 5, 2, .null, 5),
  (89, .aload_n 0, 1, .null, 0),
  (90, .getfield 63, 3, .null, 0),
  (93, .iload_n 2, 1, .null, 2),
  (94, .iaload, 1, .null, 0),
  (95, .invokevirtual 153, 3, .null, 0),
  (98, .iload 6, 2, .null, 6),
  (100, .if_icmp .ne (9), 3, .null, 109),
  (103, .iinc 5 (1), 3, (.int (1)), 5),
  (106, .goto (-32), 3, .null, 74),
  (109, .iinc 4 (1), 3, (.int (1)), 4),
  (112, .goto (-86), 3, .null, 26),
  (115, .iconst (-1), 1, (.int (-1)), 0),
  (116, .ireturn, 1, .null, 0)]
noncomputable def m_X11_child : ab_M := (c_X11_child, [(0, [0, 1, 2, 3]), (23, [0, 1, 2, 3, 4]), (26, [0, 1, 2, 3, 4, 5]), (74, [0, 1, 2, 3, 4, 5, 6]), (109, [0, 1, 2, 3, 4, 5])],
  [(57, 11, 18, 3), (60, 11, 19, 3), (63, 11, 20, 3)],
  [],
  [(153, 1, 4, g_X11_letter), (206, 1, 3, g_X11_isFinal), (210, 1, 4, g_X11_beginningOf)],
  [], 7, 1)
theorem one_X11_child : ab_oneM m_X11_child := List.forall_mem_cons.mpr ⟨o_X11_letter, List.forall_mem_cons.mpr ⟨o_X11_isFinal, List.forall_mem_cons.mpr ⟨o_X11_beginningOf, fun _ h => absurd h List.not_mem_nil⟩⟩⟩
noncomputable def f_X11_child (l0 : Nat) (l1 : Int32) (l2 : Int32) (l3 : Int32) (st : ab_S) : Option ab_R := ab_rc st l0 11 (ab_lim m_X11_child 0 [.ref l0, .int l1, .int l2, .int l3] [] st)
noncomputable def L_X11_child_23 (l0 : Nat) (l1 : Int32) (l2 : Int32) (l3 : Int32) (l4 : Int32) (t0 : Int32) (t1 : Int32) (st : ab_S) : Option ab_R := ab_lim m_X11_child 23 [.ref l0, .int l1, .int l2, .int l3, .int l4] [.int t1, .int t0] st
noncomputable def L_X11_child_26 (l0 : Nat) (l1 : Int32) (l2 : Int32) (l3 : Int32) (l4 : Int32) (l5 : Int32) (st : ab_S) : Option ab_R := ab_lim m_X11_child 26 [.ref l0, .int l1, .int l2, .int l3, .int l4, .int l5] [] st
noncomputable def L_X11_child_74 (l0 : Nat) (l1 : Int32) (l2 : Int32) (l3 : Int32) (l4 : Int32) (l5 : Int32) (l6 : Int32) (st : ab_S) : Option ab_R := ab_lim m_X11_child 74 [.ref l0, .int l1, .int l2, .int l3, .int l4, .int l5, .int l6] [] st
noncomputable def L_X11_child_109 (l0 : Nat) (l1 : Int32) (l2 : Int32) (l3 : Int32) (l4 : Int32) (l5 : Int32) (st : ab_S) : Option ab_R := ab_lim m_X11_child 109 [.ref l0, .int l1, .int l2, .int l3, .int l4, .int l5] [] st
noncomputable def g_X11_child : ab_G := fun as st k => match as with
  | [.ref a0, .int a1, .int a2, .int a3] => ab_ri (f_X11_child a0 a1 a2 a3 st) (fun x t => k [.int x] t)
  | _ => none
theorem o_X11_child : ab_one g_X11_child := by
  intro as st k r h
  unfold g_X11_child at h ⊢
  split at h
  · exact one_ri h
  · cases h
set_option maxRecDepth 100000 in
theorem e_X11_child_0 (l0 : Nat) (l1 : Int32) (l2 : Int32) (l3 : Int32) (st : ab_S) : f_X11_child l0 l1 l2 l3 st =
    ab_rc st l0 11 (
    Option.bind (ab_gR st l0 11 18) fun x1 =>
    Option.bind (ab_rI st x1 l2) fun x2 =>
    ab_ri (f_X11_isFinal l0 l1 l2 st) fun x4 s3 =>
    if x4 = 0
    then L_X11_child_23 l0 l1 l2 l3 (0 : Int32) x2 (0 : Int32) s3
    else L_X11_child_23 l0 l1 l2 l3 (0 : Int32) x2 (1 : Int32) s3) := congrArg (ab_rc st l0 11) ((lm_eq one_X11_child 0 _ _ _).trans rfl)
set_option maxRecDepth 100000 in
theorem e_X11_child_23 (l0 : Nat) (l1 : Int32) (l2 : Int32) (l3 : Int32) (l4 : Int32) (t0 : Int32) (t1 : Int32) (st : ab_S) : L_X11_child_23 l0 l1 l2 l3 l4 t0 t1 st =
    L_X11_child_26 l0 l1 l2 l3 l4 (t0 + t1) st := (lm_eq one_X11_child 23 _ _ _).trans rfl
set_option maxRecDepth 100000 in
theorem e_X11_child_26 (l0 : Nat) (l1 : Int32) (l2 : Int32) (l3 : Int32) (l4 : Int32) (l5 : Int32) (st : ab_S) : L_X11_child_26 l0 l1 l2 l3 l4 l5 st =
    Option.bind (ab_gR st l0 11 19) fun x1 =>
    Option.bind (ab_rI st x1 l2) fun x2 =>
    if x2 ≤ l5
    then some (some (.int (-1 : Int32)), st)
    else if l4 = l3
      then Option.bind (ab_gR st l0 11 20) fun x3 =>
        Option.bind (ab_rI st x3 l2) fun x4 =>
        ab_ri (f_X11_beginningOf l0 l1 l5 (x4 + (1 : Int32)) st) fun x6 s5 =>
        some (some (.int x6), s5)
      else Option.bind (ab_gR st l0 11 20) fun x7 =>
        Option.bind (ab_rI st x7 l2) fun x8 =>
        ab_ri (f_X11_letter l0 l1 l5 x8 st) fun x10 s9 =>
        L_X11_child_74 l0 l1 l2 l3 l4 l5 x10 s9 := (lm_eq one_X11_child 26 _ _ _).trans rfl
set_option maxRecDepth 100000 in
theorem e_X11_child_74 (l0 : Nat) (l1 : Int32) (l2 : Int32) (l3 : Int32) (l4 : Int32) (l5 : Int32) (l6 : Int32) (st : ab_S) : L_X11_child_74 l0 l1 l2 l3 l4 l5 l6 st =
    Option.bind (ab_gR st l0 11 19) fun x1 =>
    Option.bind (ab_rI st x1 l2) fun x2 =>
    if x2 ≤ l5
    then L_X11_child_109 l0 l1 l2 l3 l4 l5 st
    else Option.bind (ab_gR st l0 11 20) fun x3 =>
      Option.bind (ab_rI st x3 l2) fun x4 =>
      ab_ri (f_X11_letter l0 l1 l5 x4 st) fun x6 s5 =>
      if x6 = l6
      then L_X11_child_74 l0 l1 l2 l3 l4 (l5 + (1 : Int32)) l6 s5
      else L_X11_child_109 l0 l1 l2 l3 l4 l5 s5 := (lm_eq one_X11_child 74 _ _ _).trans rfl
set_option maxRecDepth 100000 in
theorem e_X11_child_109 (l0 : Nat) (l1 : Int32) (l2 : Int32) (l3 : Int32) (l4 : Int32) (l5 : Int32) (st : ab_S) : L_X11_child_109 l0 l1 l2 l3 l4 l5 st =
    L_X11_child_26 l0 l1 l2 l3 (l4 + (1 : Int32)) l5 st := (lm_eq one_X11_child 109 _ _ _).trans rfl
def c_X11_children : List (Nat × ab_I) := [(0, .iconst 0, 1, (.int (0)), 0),
  (1, .istore_n 3, 1, .null, 3),
  (2, .aload_n 0, 1, .null, 0),
  (3, .iload_n 1, 1, .null, 1),
  (4, .iload_n 2, 1, .null, 2),
  (5, .iload_n 3, 1, .null, 3),
  (6, .invokevirtual 213, 3, .null, 0),
  (9, .iconst (-1), 1, (.int (-1)), 0),
  (10, .if_icmp .eq (9), 3, .null, 19),
  (13, .iinc 3 (1), 3, (.int (1)), 3),
  (16, .goto (-14), 3, .null, 2),
  (19, .iload_n 3, 1, .null, 3),
  (20, .ireturn, 1, .null, 0)]
noncomputable def m_X11_children : ab_M := (c_X11_children, [(0, [0, 1, 2]), (2, [0, 1, 2, 3])],
  [],
  [],
  [(213, 1, 4, g_X11_child)],
  [], 4, 1)
theorem one_X11_children : ab_oneM m_X11_children := List.forall_mem_cons.mpr ⟨o_X11_child, fun _ h => absurd h List.not_mem_nil⟩
noncomputable def f_X11_children (l0 : Nat) (l1 : Int32) (l2 : Int32) (st : ab_S) : Option ab_R := ab_rc st l0 11 (ab_lim m_X11_children 0 [.ref l0, .int l1, .int l2] [] st)
noncomputable def L_X11_children_2 (l0 : Nat) (l1 : Int32) (l2 : Int32) (l3 : Int32) (st : ab_S) : Option ab_R := ab_lim m_X11_children 2 [.ref l0, .int l1, .int l2, .int l3] [] st
noncomputable def g_X11_children : ab_G := fun as st k => match as with
  | [.ref a0, .int a1, .int a2] => ab_ri (f_X11_children a0 a1 a2 st) (fun x t => k [.int x] t)
  | _ => none
theorem o_X11_children : ab_one g_X11_children := by
  intro as st k r h
  unfold g_X11_children at h ⊢
  split at h
  · exact one_ri h
  · cases h
set_option maxRecDepth 100000 in
theorem e_X11_children_0 (l0 : Nat) (l1 : Int32) (l2 : Int32) (st : ab_S) : f_X11_children l0 l1 l2 st =
    ab_rc st l0 11 (
    L_X11_children_2 l0 l1 l2 (0 : Int32) st) := congrArg (ab_rc st l0 11) ((lm_eq one_X11_children 0 _ _ _).trans rfl)
set_option maxRecDepth 100000 in
theorem e_X11_children_2 (l0 : Nat) (l1 : Int32) (l2 : Int32) (l3 : Int32) (st : ab_S) : L_X11_children_2 l0 l1 l2 l3 st =
    ab_ri (f_X11_child l0 l1 l2 l3 st) fun x2 s1 =>
    if x2 = (-1 : Int32)
    then some (some (.int l3), s1)
    else L_X11_children_2 l0 l1 l2 (l3 + (1 : Int32)) s1 := (lm_eq one_X11_children 2 _ _ _).trans rfl
def c_X11_greater : List (Nat × ab_I) := [(0, .lload_n 0, 1, .null, 0),
  (1, .lload_n 2, 1, .null, 2),
  (2, .lcmp, 1, .null, 0),
  (3, .ifCond .ge (7), 3, .null, 10),
  (6, .lload_n 2, 1, .null, 2),
  (7, .goto (4), 3, .null, 11),
  (10, .lload_n 0, 1, .null, 0),
  (11, .lreturn, 1, .null, 0)]
noncomputable def m_X11_greater : ab_M := (c_X11_greater, [(0, [0, 2])],
  [],
  [],
  [],
  [], 4, 3)
theorem one_X11_greater : ab_oneM m_X11_greater := fun _ h => absurd h List.not_mem_nil
noncomputable def f_X11_greater (l0 : Int64) (l2 : Int64) (st : ab_S) : Option ab_R := ab_lim m_X11_greater 0 [.long l0, .long l2] [] st
noncomputable def g_X11_greater : ab_G := fun as st k => match as with
  | [.long a0, .long a1] => ab_rl (f_X11_greater a0 a1 st) (fun x t => k [.long x] t)
  | _ => none
theorem o_X11_greater : ab_one g_X11_greater := by
  intro as st k r h
  unfold g_X11_greater at h ⊢
  split at h
  · exact one_rl h
  · cases h
set_option maxRecDepth 100000 in
theorem e_X11_greater_0 (l0 : Int64) (l2 : Int64) (st : ab_S) : f_X11_greater l0 l2 st =
    if 0 ≤ (lg_cmp l0 l2)
    then some (some (.long l0), st)
    else some (some (.long l2), st) := (lm_eq one_X11_greater 0 _ _ _).trans rfl
def c_X11_count : List (Nat × ab_I) := [(0, .iload_n 1, 1, .null, 1),
  (1, .invokestatic 159, 3, .null, 0),
  (4, .ifCond .eq (15), 3, .null, 19),
  (7, .iload_n 2, 1, .null, 2),
  (8, .i2l, 1, .null, 0),
  (9, .lconst 0, 1, (.long (0)), 0),
  (10, .ldc2_w 229, 3, (.long (6)), 0),
  (13, .invokestatic 146, 3, .null, 0),
  (16, .ifCond .ne (6), 3, .null, 22),
  (19, .bipush (-2), 2, (.int (-2)), 0),
  (21, .ireturn, 1, .null, 0),
  (22, .iload_n 2, 1, .null, 2),
  (23, .iconst 2, 1, (.int (2)), 0),
  (24, .if_icmp .ge (31), 3, .null, 55),
  (27, .iload_n 2, 1, .null, 2),
  (28, .ifCond .ne (12), 3, .null, 40),
  (31, .aload_n 0, 1, .null, 0),
  (32, .getfield 24, 3, .null, 0),
  (35, .iload_n 1, 1, .null, 1),
  (36, .iaload, 1, .null, 0),
  (37, .goto (17), 3, .null, 54),
  (40, .aload_n 0, 1, .null, 0),
  (41, .getfield 27, 3, .null, 0),
  (44, .iload_n 1, 1, .null, 1),
  (45, .baload, 1, .null, 0),
  (46, .ifCond .eq (7), 3, .null, 53),
  (49, .iconst 1, 1, (.int (1)), 0),
  (50, .goto (4), 3, .null, 54),
  (53, .iconst 0, 1, (.int (0)), 0),
  (54, .ireturn, 1, .null, 0),
  (55, .aload_n 0, 1, .null, 0),
  (56, .getfield 27, 3, .null, 0),
  (59, .iload_n 1, 1, .null, 1),
  (60, .baload, 1, .null, 0),
  (61, .ifCond .eq (6), 3, .null, 67),
  (64, .bipush (-4), 2, (.int (-4)), 0),
  (66, .ireturn, 1, .null, 0),
  (67, .aload_n 0, 1, .null, 0),
  (68, .iload_n 1, 1, .null, 1),
  (69, .invokevirtual 176, 3, .null, 0),
  (72, .iconst 0, 1, (.int (0)), 0),
  (73, .istore_n 3, 1, .null, 3),
  (74, .iconst 0, 1, (.int (0)), 0),
  (75, .istore 4, 2, .null, 4),
  (77, .iload 4, 2, .null, 4),
  (79, .aload_n 0, 1, .null, 0),
  (80, .getfield 180, 3, .null, 0),
  (83, .if_icmp .ge (66), 3, .null, 149),
  (86, .iload_n 2, 1, .null, 2),
  (87, .iconst 5, 1, (.int (5)), 0),
  (88, .if_icmp .ge (61), 3, .null, 149),
  (91, .iload_n 3, 1, .null, 3),
  (92, .iload_n 2, 1, .null, 2),
  (93, .iconst 2, 1, (.int (2)), 0),
  (94, .if_icmp .ne (7), 3, .null, 101),
  (97, .iconst 1, 1, (.int (1)), 0),
  (98, .goto (43), 3, .null, 141),
  (101, .iload_n 2, 1, .null, 2),
  (102, .iconst 3, 1, (.int (3)), 0),
  (103, .if_icmp .ne (18), 3, .null, 121),
  (106, .aload_n 0, 1, .null, 0),
  (107, .iload_n 1, 1, .null, 1),
  (108, .aload_n 0, 1, .null, 0),
  (109, .getfield 75, 3, .null, 0),
  (112, .iload 4, 2, .null, 4),
  (114, .iaload, 1, .null, 0),
  (115, .invokevirtual 231, 3, .null, 0),
  (118, .goto (23), 3, .null, 141),
  (121, .aload_n 0, 1, .null, 0),
  (122, .iload_n 1, 1, .null, 1),
  (123, .aload_n 0, 1, .null, 0),
  (124, .getfield 75, 3, .null, 0),
  (127, .iload 4, 2, .null, 4),
  (129, .iaload, 1, .null, 0),
  (130, .invokevirtual 206, 3, .null, 0),
  (133, .ifCond .eq (7), 3, .null, 140),
  (136, .iconst 1, 1, (.int (1)), 0),
  (137, .goto (4), 3, .null, 141),
  (140, .iconst 0, 1, (.int (0)), 0),
  (141, .iadd, 1, .null, 0),
  (142, .istore_n 3, 1, .null, 3),
  (143, .iinc 4 (1), 3, (.int (1)), 4),
  (146, .goto (-69), 3, .null, 77),
  (149, .iconst 0, 1, (.int (0)), 0),
  (150, .istore 4, 2, .null, 4),
  (152, .iload 4, 2, .null, 4),
  (154, .aload_n 0, 1, .null, 0),
  (155, .getfield 24, 3, .null, 0),
  (158, .iload_n 1, 1, .null, 1),
  (159, .iaload, 1, .null, 0),
  (160, .if_icmp .ge (35), 3, .null, 195),
  (163, .iload_n 2, 1, .null, 2),
  (164, .iconst 5, 1, (.int (5)), 0),
  (165, .if_icmp .ne (30), 3, .null, 195),
  (168, .iload_n 3, 1, .null, 3),
  (169, .i2l, 1, .null, 0),
  (170, .aload_n 0, 1, .null, 0),
  (171, .getfield 16, 3, .null, 0),
  (174, .sipush (200), 3, (.int (200)), 0),
  (177, .iload_n 1, 1, .null, 1),
  (178, .imul, 1, .null, 0),
  (179, .iload 4, 2, .null, 4),
  (181, .iadd, 1, .null, 0),
  (182, .iaload, 1, .null, 0),
  (183, .i2l, 1, .null, 0),
  (184, .invokestatic 234, 3, .null, 0),
  (187, .l2i, 1, .null, 0),
  (188, .istore_n 3, 1, .null, 3),
  (189, .iinc 4 (1), 3, (.int (1)), 4),
  (192, .goto (-40), 3, .null, 152),
  (195, .iload_n 2, 1, .null, 2),
  (196, .bipush (6), 2, (.int (6)), 0),
  (198, .if_icmp .ne (10), 3, .null, 208),
  (201, .aload_n 0, 1, .null, 0),
  (202, .getfield 183, 3, .null, 0),
  (205, .goto (4), 3, .null, 209),
  (208, .iload_n 3, 1, .null, 3),
  (209, .ireturn, 1, .null, 0)]
noncomputable def m_X11_count : ab_M := (c_X11_count, [(0, [0, 1, 2]), (77, [0, 1, 2, 3, 4]), (141, [0, 1, 2, 4]), (149, [0, 1, 2, 3]), (152, [0, 1, 2, 3, 4]), (195, [0, 2, 3])],
  [(16, 11, 3, 3), (24, 11, 5, 3), (27, 11, 6, 3), (75, 11, 24, 3), (180, 11, 25, 0), (183, 11, 17, 0)],
  [],
  [(146, 0, 3, g_X11_isIn), (159, 0, 1, g_X11_isDictionary), (176, 1, 2, g_X11_build), (206, 1, 3, g_X11_isFinal), (231, 1, 3, g_X11_children), (234, 0, 2, g_X11_greater)],
  [], 5, 1)
theorem one_X11_count : ab_oneM m_X11_count := List.forall_mem_cons.mpr ⟨o_X11_isIn, List.forall_mem_cons.mpr ⟨o_X11_isDictionary, List.forall_mem_cons.mpr ⟨o_X11_build, List.forall_mem_cons.mpr ⟨o_X11_isFinal, List.forall_mem_cons.mpr ⟨o_X11_children, List.forall_mem_cons.mpr ⟨o_X11_greater, fun _ h => absurd h List.not_mem_nil⟩⟩⟩⟩⟩⟩
noncomputable def f_X11_count (l0 : Nat) (l1 : Int32) (l2 : Int32) (st : ab_S) : Option ab_R := ab_rc st l0 11 (ab_lim m_X11_count 0 [.ref l0, .int l1, .int l2] [] st)
noncomputable def L_X11_count_77 (l0 : Nat) (l1 : Int32) (l2 : Int32) (l3 : Int32) (l4 : Int32) (st : ab_S) : Option ab_R := ab_lim m_X11_count 77 [.ref l0, .int l1, .int l2, .int l3, .int l4] [] st
noncomputable def L_X11_count_141 (l0 : Nat) (l1 : Int32) (l2 : Int32) (l4 : Int32) (t0 : Int32) (t1 : Int32) (st : ab_S) : Option ab_R := ab_lim m_X11_count 141 [.ref l0, .int l1, .int l2, .int l4] [.int t1, .int t0] st
noncomputable def L_X11_count_149 (l0 : Nat) (l1 : Int32) (l2 : Int32) (l3 : Int32) (st : ab_S) : Option ab_R := ab_lim m_X11_count 149 [.ref l0, .int l1, .int l2, .int l3] [] st
noncomputable def L_X11_count_152 (l0 : Nat) (l1 : Int32) (l2 : Int32) (l3 : Int32) (l4 : Int32) (st : ab_S) : Option ab_R := ab_lim m_X11_count 152 [.ref l0, .int l1, .int l2, .int l3, .int l4] [] st
noncomputable def L_X11_count_195 (l0 : Nat) (l2 : Int32) (l3 : Int32) (st : ab_S) : Option ab_R := ab_lim m_X11_count 195 [.ref l0, .int l2, .int l3] [] st
noncomputable def g_X11_count : ab_G := fun as st k => match as with
  | [.ref a0, .int a1, .int a2] => ab_ri (f_X11_count a0 a1 a2 st) (fun x t => k [.int x] t)
  | _ => none
theorem o_X11_count : ab_one g_X11_count := by
  intro as st k r h
  unfold g_X11_count at h ⊢
  split at h
  · exact one_ri h
  · cases h
set_option maxRecDepth 100000 in
theorem e_X11_count_0 (l0 : Nat) (l1 : Int32) (l2 : Int32) (st : ab_S) : f_X11_count l0 l1 l2 st =
    ab_rc st l0 11 (
    ab_ri (f_X11_isDictionary l1 st) fun x2 s1 =>
    if x2 = 0
    then some (some (.int (-2 : Int32)), s1)
    else ab_ri (f_X11_isIn l2.toInt64 (0 : Int64) (6 : Int64) s1) fun x4 s3 =>
      if x4 = 0
      then some (some (.int (-2 : Int32)), s3)
      else if (2 : Int32) ≤ l2
        then Option.bind (ab_gR s3 l0 11 6) fun x5 =>
          Option.bind (ab_rB s3 x5 l1) fun x6 =>
          if x6 = 0
          then ab_rv (f_X11_build l0 l1 s3) fun s7 =>
            L_X11_count_77 l0 l1 l2 (0 : Int32) (0 : Int32) s7
          else some (some (.int (-4 : Int32)), s3)
        else if l2 = 0
          then Option.bind (ab_gR s3 l0 11 5) fun x8 =>
            Option.bind (ab_rI s3 x8 l1) fun x9 =>
            some (some (.int x9), s3)
          else Option.bind (ab_gR s3 l0 11 6) fun x10 =>
            Option.bind (ab_rB s3 x10 l1) fun x11 =>
            if x11 = 0
            then some (some (.int (0 : Int32)), s3)
            else some (some (.int (1 : Int32)), s3)) := congrArg (ab_rc st l0 11) ((lm_eq one_X11_count 0 _ _ _).trans rfl)
set_option maxRecDepth 100000 in
theorem e_X11_count_77 (l0 : Nat) (l1 : Int32) (l2 : Int32) (l3 : Int32) (l4 : Int32) (st : ab_S) : L_X11_count_77 l0 l1 l2 l3 l4 st =
    Option.bind (ab_gI st l0 11 25) fun x1 =>
    if x1 ≤ l4
    then L_X11_count_149 l0 l1 l2 l3 st
    else if (5 : Int32) ≤ l2
      then L_X11_count_149 l0 l1 l2 l3 st
      else if l2 = (2 : Int32)
        then L_X11_count_141 l0 l1 l2 l4 l3 (1 : Int32) st
        else if l2 = (3 : Int32)
          then Option.bind (ab_gR st l0 11 24) fun x2 =>
            Option.bind (ab_rI st x2 l4) fun x3 =>
            ab_ri (f_X11_children l0 l1 x3 st) fun x5 s4 =>
            L_X11_count_141 l0 l1 l2 l4 l3 x5 s4
          else Option.bind (ab_gR st l0 11 24) fun x6 =>
            Option.bind (ab_rI st x6 l4) fun x7 =>
            ab_ri (f_X11_isFinal l0 l1 x7 st) fun x9 s8 =>
            if x9 = 0
            then L_X11_count_141 l0 l1 l2 l4 l3 (0 : Int32) s8
            else L_X11_count_141 l0 l1 l2 l4 l3 (1 : Int32) s8 := (lm_eq one_X11_count 77 _ _ _).trans rfl
set_option maxRecDepth 100000 in
theorem e_X11_count_141 (l0 : Nat) (l1 : Int32) (l2 : Int32) (l4 : Int32) (t0 : Int32) (t1 : Int32) (st : ab_S) : L_X11_count_141 l0 l1 l2 l4 t0 t1 st =
    L_X11_count_77 l0 l1 l2 (t0 + t1) (l4 + (1 : Int32)) st := (lm_eq one_X11_count 141 _ _ _).trans rfl
set_option maxRecDepth 100000 in
theorem e_X11_count_149 (l0 : Nat) (l1 : Int32) (l2 : Int32) (l3 : Int32) (st : ab_S) : L_X11_count_149 l0 l1 l2 l3 st =
    L_X11_count_152 l0 l1 l2 l3 (0 : Int32) st := (lm_eq one_X11_count 149 _ _ _).trans rfl
set_option maxRecDepth 100000 in
theorem e_X11_count_152 (l0 : Nat) (l1 : Int32) (l2 : Int32) (l3 : Int32) (l4 : Int32) (st : ab_S) : L_X11_count_152 l0 l1 l2 l3 l4 st =
    Option.bind (ab_gR st l0 11 5) fun x1 =>
    Option.bind (ab_rI st x1 l1) fun x2 =>
    if x2 ≤ l4
    then L_X11_count_195 l0 l2 l3 st
    else if l2 = (5 : Int32)
      then Option.bind (ab_gR st l0 11 3) fun x3 =>
        Option.bind (ab_rI st x3 (((200 : Int32) * l1) + l4)) fun x4 =>
        ab_rl (f_X11_greater l3.toInt64 x4.toInt64 st) fun x6 s5 =>
        L_X11_count_152 l0 l1 l2 x6.toInt32 (l4 + (1 : Int32)) s5
      else L_X11_count_195 l0 l2 l3 st := (lm_eq one_X11_count 152 _ _ _).trans rfl
set_option maxRecDepth 100000 in
theorem e_X11_count_195 (l0 : Nat) (l2 : Int32) (l3 : Int32) (st : ab_S) : L_X11_count_195 l0 l2 l3 st =
    if l2 = (6 : Int32)
    then Option.bind (ab_gI st l0 11 17) fun x1 =>
      some (some (.int x1), st)
    else some (some (.int l3), st) := (lm_eq one_X11_count 195 _ _ _).trans rfl
def c_X1_tellState : List (Nat × ab_I) := [(0, .aload_n 0, 1, .null, 0),
  (1, .iload_n 1, 1, .null, 1),
  (2, .invokevirtual 58, 3, .null, 0),
  (5, .ifCond .ne (7), 3, .null, 12),
  (8, .ldc2_w 35, 3, (.long (-1)), 0),
  (11, .lreturn, 1, .null, 0),
  (12, .iload_n 2, 1, .null, 2),
  (13, .tableswitch (60) (0) (2) #[27, 34, 53], 27, .null, 0),
  (40, .aload_n 0, 1, .null, 0),
  (41, .iload_n 1, 1, .null, 1),
  (42, .invokevirtual 62, 3, .null, 0),
  (45, .i2l, 1, .null, 0),
  (46, .lreturn, 1, .null, 0),
  (47, .aload_n 0, 1, .null, 0),
  (48, .getfield 15, 3, .null, 0),
  (51, .iload_n 1, 1, .null, 1),
  (52, .laload, 1, .null, 0),
  (53, .ldc2_w 35, 3, (.long (-1)), 0),
  (56, .lcmp, 1, .null, 0),
  (57, .ifCond .ne (7), 3, .null, 64),
  (60, .lconst 0, 1, (.long (0)), 0),
  (61, .goto (4), 3, .null, 65),
  (64, .lconst 1, 1, (.long (1)), 0),
  (65, .lreturn, 1, .null, 0),
  (66, .aload_n 0, 1, .null, 0),
  (67, .getfield 15, 3, .null, 0),
  (70, .iload_n 1, 1, .null, 1),
  (71, .laload, 1, .null, 0),
  (72, .lreturn, 1, .null, 0),
  (73, .aload_n 0, 1, .null, 0),
  (74, .getfield 19, 3, .null, 0),
  (77, .iload_n 1, 1, .null, 1),
  (78, .iaload, 1, .null, 0),
  (79, .i2l, 1, .null, 0),
  (80, .lreturn, 1, .null, 0)]
noncomputable def m_X1_tellState : ab_M := (c_X1_tellState, [(0, [0, 1, 2])],
  [(15, 1, 1, 3), (19, 1, 2, 3)],
  [],
  [(58, 1, 2, g_X1_has), (62, 1, 2, g_X1_arcsOf)],
  [(13, [(0, 40), (1, 47), (2, 66)], 73)], 3, 3)
theorem one_X1_tellState : ab_oneM m_X1_tellState := List.forall_mem_cons.mpr ⟨o_X1_has, List.forall_mem_cons.mpr ⟨o_X1_arcsOf, fun _ h => absurd h List.not_mem_nil⟩⟩
noncomputable def f_X1_tellState (l0 : Nat) (l1 : Int32) (l2 : Int32) (st : ab_S) : Option ab_R := ab_rc st l0 1 (ab_lim m_X1_tellState 0 [.ref l0, .int l1, .int l2] [] st)
noncomputable def g_X1_tellState : ab_G := fun as st k => match as with
  | [.ref a0, .int a1, .int a2] => ab_rl (f_X1_tellState a0 a1 a2 st) (fun x t => k [.long x] t)
  | _ => none
theorem o_X1_tellState : ab_one g_X1_tellState := by
  intro as st k r h
  unfold g_X1_tellState at h ⊢
  split at h
  · exact one_rl h
  · cases h
set_option maxRecDepth 100000 in
theorem e_X1_tellState_0 (l0 : Nat) (l1 : Int32) (l2 : Int32) (st : ab_S) : f_X1_tellState l0 l1 l2 st =
    ab_rc st l0 1 (
    ab_ri (f_X1_has l0 l1 st) fun x2 s1 =>
    if x2 = 0
    then some (some (.long (-1 : Int64)), s1)
    else if l2 = 0 then ab_ri (f_X1_arcsOf l0 l1 s1) fun x4 s3 =>
        some (some (.long x4.toInt64), s3)
      else if l2 = 1 then Option.bind (ab_gR s1 l0 1 1) fun x5 =>
        Option.bind (ab_rJ s1 x5 l1) fun x6 =>
        if (lg_cmp x6 (-1 : Int64)) = 0
        then some (some (.long (0 : Int64)), s1)
        else some (some (.long (1 : Int64)), s1)
      else if l2 = 2 then Option.bind (ab_gR s1 l0 1 1) fun x7 =>
        Option.bind (ab_rJ s1 x7 l1) fun x8 =>
        some (some (.long x8), s1)
      else Option.bind (ab_gR s1 l0 1 2) fun x9 =>
        Option.bind (ab_rI s1 x9 l1) fun x10 =>
        some (some (.long x10.toInt64), s1)) := congrArg (ab_rc st l0 1) ((lm_eq one_X1_tellState 0 _ _ _).trans rfl)
def c_X10_arc : List (Nat × ab_I) := [(0, .iload_n 3, 1, .null, 3),
  (1, .iconst (-1), 1, (.int (-1)), 0),
  (2, .if_icmp .ne (7), 3, .null, 9),
  (5, .iconst 1, 1, (.int (1)), 0),
  (6, .goto (4), 3, .null, 10),
  (9, .iconst 0, 1, (.int (0)), 0),
  (10, .istore 5, 2, .null, 5),
  (12, .iload_n 1, 1, .null, 1),
  (13, .invokestatic 95, 3, .null, 0),
  (16, .ifCond .eq (23), 3, .null, 39),
  (19, .iload 4, 2, .null, 4),
  (21, .ifCond .lt (18), 3, .null, 39),
  (24, .iload 4, 2, .null, 4),
  (26, .iload 5, 2, .null, 5),
  (28, .ifCond .eq (7), 3, .null, 35),
  (31, .iconst 3, 1, (.int (3)), 0),
  (32, .goto (4), 3, .null, 36),
  (35, .iconst 2, 1, (.int (2)), 0),
  (36, .if_icmp .le (7), 3, .null, 43),
  (39, .ldc2_w 139, 3, (.long (-2)), 0),
  (42, .lreturn, 1, .null, 0),
  (43, .aload_n 0, 1, .null, 0),
  (44, .getfield 11, 3, .null, 0),
  (47, .iload_n 1, 1, .null, 1),
  (48, .aaload, 1, .null, 0),
  (49, .getfield 109, 3, .null, 0),
  (52, .ifCond .eq (7), 3, .null, 59),
  (55, .ldc2_w 141, 3, (.long (-4)), 0),
  (58, .lreturn, 1, .null, 0),
  (59, .aload_n 0, 1, .null, 0),
  (60, .getfield 11, 3, .null, 0),
  (63, .iload_n 1, 1, .null, 1),
  (64, .aaload, 1, .null, 0),
  (65, .getfield 130, 3, .null, 0),
  (68, .astore 6, 2, .null, 6),
  (70, .iload 5, 2, .null, 5),
  (72, .ifCond .eq (14), 3, .null, 86),
  (75, .aload 6, 2, .null, 6),
  (77, .iload_n 2, 1, .null, 2),
  (78, .iload 4, 2, .null, 4),
  (80, .invokevirtual 167, 3, .null, 0),
  (83, .goto (12), 3, .null, 95),
  (86, .aload 6, 2, .null, 6),
  (88, .iload_n 2, 1, .null, 2),
  (89, .iload_n 3, 1, .null, 3),
  (90, .iload 4, 2, .null, 4),
  (92, .invokevirtual 171, 3, .null, 0),
  (95, .lreturn, 1, .null, 0)]
noncomputable def m_X10_arc : ab_M := (c_X10_arc, [(0, [0, 1, 2, 3, 4]), (10, [0, 1, 2, 3, 4]), (36, [0, 1, 2, 3, 4, 5])],
  [(11, 10, 0, 3), (109, 0, 2, 1), (130, 0, 1, 3)],
  [],
  [(95, 0, 1, g_X10_isDictionary), (167, 1, 3, g_X1_tellState), (171, 1, 4, g_X1_tellArc)],
  [], 7, 3)
theorem one_X10_arc : ab_oneM m_X10_arc := List.forall_mem_cons.mpr ⟨o_X10_isDictionary, List.forall_mem_cons.mpr ⟨o_X1_tellState, List.forall_mem_cons.mpr ⟨o_X1_tellArc, fun _ h => absurd h List.not_mem_nil⟩⟩⟩
noncomputable def f_X10_arc (l0 : Nat) (l1 : Int32) (l2 : Int32) (l3 : Int32) (l4 : Int32) (st : ab_S) : Option ab_R := ab_rc st l0 10 (ab_lim m_X10_arc 0 [.ref l0, .int l1, .int l2, .int l3, .int l4] [] st)
noncomputable def L_X10_arc_10 (l0 : Nat) (l1 : Int32) (l2 : Int32) (l3 : Int32) (l4 : Int32) (t0 : Int32) (st : ab_S) : Option ab_R := ab_lim m_X10_arc 10 [.ref l0, .int l1, .int l2, .int l3, .int l4] [.int t0] st
noncomputable def L_X10_arc_36 (l0 : Nat) (l1 : Int32) (l2 : Int32) (l3 : Int32) (l4 : Int32) (l5 : Int32) (t0 : Int32) (t1 : Int32) (st : ab_S) : Option ab_R := ab_lim m_X10_arc 36 [.ref l0, .int l1, .int l2, .int l3, .int l4, .int l5] [.int t1, .int t0] st
noncomputable def g_X10_arc : ab_G := fun as st k => match as with
  | [.ref a0, .int a1, .int a2, .int a3, .int a4] => ab_rl (f_X10_arc a0 a1 a2 a3 a4 st) (fun x t => k [.long x] t)
  | _ => none
theorem o_X10_arc : ab_one g_X10_arc := by
  intro as st k r h
  unfold g_X10_arc at h ⊢
  split at h
  · exact one_rl h
  · cases h
set_option maxRecDepth 100000 in
theorem e_X10_arc_0 (l0 : Nat) (l1 : Int32) (l2 : Int32) (l3 : Int32) (l4 : Int32) (st : ab_S) : f_X10_arc l0 l1 l2 l3 l4 st =
    ab_rc st l0 10 (
    if l3 = (-1 : Int32)
    then L_X10_arc_10 l0 l1 l2 l3 l4 (1 : Int32) st
    else L_X10_arc_10 l0 l1 l2 l3 l4 (0 : Int32) st) := congrArg (ab_rc st l0 10) ((lm_eq one_X10_arc 0 _ _ _).trans rfl)
set_option maxRecDepth 100000 in
theorem e_X10_arc_10 (l0 : Nat) (l1 : Int32) (l2 : Int32) (l3 : Int32) (l4 : Int32) (t0 : Int32) (st : ab_S) : L_X10_arc_10 l0 l1 l2 l3 l4 t0 st =
    ab_ri (f_X10_isDictionary l1 st) fun x2 s1 =>
    if x2 = 0
    then some (some (.long (-2 : Int64)), s1)
    else if l4 < 0
      then some (some (.long (-2 : Int64)), s1)
      else if t0 = 0
        then L_X10_arc_36 l0 l1 l2 l3 l4 t0 l4 (2 : Int32) s1
        else L_X10_arc_36 l0 l1 l2 l3 l4 t0 l4 (3 : Int32) s1 := (lm_eq one_X10_arc 10 _ _ _).trans rfl
set_option maxRecDepth 100000 in
theorem e_X10_arc_36 (l0 : Nat) (l1 : Int32) (l2 : Int32) (l3 : Int32) (l4 : Int32) (l5 : Int32) (t0 : Int32) (t1 : Int32) (st : ab_S) : L_X10_arc_36 l0 l1 l2 l3 l4 l5 t0 t1 st =
    if t0 ≤ t1
    then Option.bind (ab_gR st l0 10 0) fun x1 =>
      Option.bind (ab_rR st x1 l1) fun x2 =>
      Option.bind (ab_gI st x2 0 2) fun x3 =>
      if x3 = 0
      then Option.bind (ab_gR st l0 10 0) fun x4 =>
        Option.bind (ab_rR st x4 l1) fun x5 =>
        Option.bind (ab_gR st x5 0 1) fun x6 =>
        if l5 = 0
        then ab_rl (f_X1_tellArc x6 l2 l3 l4 st) fun x8 s7 =>
          some (some (.long x8), s7)
        else ab_rl (f_X1_tellState x6 l2 l4 st) fun x10 s9 =>
          some (some (.long x10), s9)
      else some (some (.long (-4 : Int64)), st)
    else some (some (.long (-2 : Int64)), st) := (lm_eq one_X10_arc 36 _ _ _).trans rfl
def c_X11_arc : List (Nat × ab_I) := [(0, .iload_n 1, 1, .null, 1),
  (1, .invokestatic 159, 3, .null, 0),
  (4, .ifCond .eq (27), 3, .null, 31),
  (7, .iload 4, 2, .null, 4),
  (9, .i2l, 1, .null, 0),
  (10, .lconst 0, 1, (.long (0)), 0),
  (11, .iload_n 3, 1, .null, 3),
  (12, .iconst (-1), 1, (.int (-1)), 0),
  (13, .if_icmp .ne (9), 3, .null, 22),
  (16, .ldc2_w 157, 3, (.long (3)), 0),
  (19, .goto (6), 3, .null, 25),
  (22, .ldc2_w 237, 3, (.long (2)), 0),
  (25, .invokestatic 146, 3, .null, 0),
  (28, .ifCond .ne (7), 3, .null, 35),
  (31, .ldc2_w 216, 3, (.long (-2)), 0),
  (34, .lreturn, 1, .null, 0),
  (35, .aload_n 0, 1, .null, 0),
  (36, .getfield 27, 3, .null, 0),
  (39, .iload_n 1, 1, .null, 1),
  (40, .baload, 1, .null, 0),
  (41, .ifCond .eq (7), 3, .null, 48),
  (44, .ldc2_w 218, 3, (.long (-4)), 0),
  (47, .lreturn, 1, .null, 0),
  (48, .aload_n 0, 1, .null, 0),
  (49, .iload_n 1, 1, .null, 1),
  (50, .invokevirtual 176, 3, .null, 0),
  (53, .iload_n 2, 1, .null, 2),
  (54, .i2l, 1, .null, 0),
  (55, .lconst 0, 1, (.long (0)), 0),
  (56, .aload_n 0, 1, .null, 0),
  (57, .getfield 180, 3, .null, 0),
  (60, .iconst 1, 1, (.int (1)), 0),
  (61, .isub, 1, .null, 0),
  (62, .i2l, 1, .null, 0),
  (63, .invokestatic 146, 3, .null, 0),
  (66, .ifCond .ne (7), 3, .null, 73),
  (69, .ldc2_w 224, 3, (.long (-1)), 0),
  (72, .lreturn, 1, .null, 0),
  (73, .aload_n 0, 1, .null, 0),
  (74, .getfield 75, 3, .null, 0),
  (77, .iload_n 2, 1, .null, 2),
  (78, .iaload, 1, .null, 0),
  (79, .istore 5, 2, .null, 5),
  (81, .iload_n 3, 1, .null, 3),
  (82, .iconst (-1), 1, (.int (-1)), 0),
  (83, .if_icmp .ne (124), 3, .null, 207),
  (86, .aload_n 0, 1, .null, 0),
  (87, .iload_n 1, 1, .null, 1),
  (88, .iload 5, 2, .null, 5),
  (90, .invokevirtual 206, 3, .null, 0),
  (93, .istore 6, 2, .null, 6),
  (95, .iload 4, 2, .null, 4),
  (97, .tableswitch (106) (0) (3) #[31, 40, 51, 89], 31, .null, 0),
  (128, .aload_n 0, 1, .null, 0),
  (129, .iload_n 1, 1, .null, 1),
  (130, .iload 5, 2, .null, 5),
  (132, .invokevirtual 231, 3, .null, 0),
  (135, .i2l, 1, .null, 0),
  (136, .lreturn, 1, .null, 0),
  (137, .iload 6, 2, .null, 6),
  (139, .ifCond .eq (7), 3, .null, 146),
  (142, .lconst 1, 1, (.long (1)), 0),
  (143, .goto (4), 3, .null, 147),
  (146, .lconst 0, 1, (.long (0)), 0),
  (147, .lreturn, 1, .null, 0),
  (148, .iload 6, 2, .null, 6),
  (150, .ifCond .eq (32), 3, .null, 182),
  (153, .aload_n 0, 1, .null, 0),
  (154, .getfield 20, 3, .null, 0),
  (157, .sipush (200), 3, (.int (200)), 0),
  (160, .iload_n 1, 1, .null, 1),
  (161, .imul, 1, .null, 0),
  (162, .aload_n 0, 1, .null, 0),
  (163, .getfield 57, 3, .null, 0),
  (166, .iload 5, 2, .null, 5),
  (168, .iaload, 1, .null, 0),
  (169, .iadd, 1, .null, 0),
  (170, .laload, 1, .null, 0),
  (171, .aload_n 0, 1, .null, 0),
  (172, .getfield 66, 3, .null, 0),
  (175, .iload 5, 2, .null, 5),
  (177, .laload, 1, .null, 0),
  (178, .lsub, 1, .null, 0),
  (179, .goto (6), 3, .null, 185),
  (182, .ldc2_w 224, 3, (.long (-1)), 0),
  (185, .lreturn, 1, .null, 0),
  (186, .aload_n 0, 1, .null, 0),
  (187, .getfield 60, 3, .null, 0),
  (190, .iload 5, 2, .null, 5),
  (192, .iaload, 1, .null, 0),
  (193, .aload_n 0, 1, .null, 0),
  (194, .getfield 57, 3, .null, 0),
  (197, .iload 5, 2, .null, 5),
  (199, .iaload, 1, .null, 0),
  (200, .isub, 1, .null, 0),
  (201, .i2l, 1, .null, 0),
  (202, .lreturn, 1, .null, 0),
  (203, .ldc2_w 224, 3, (.long (-1)), 0),
  (206, .lreturn, 1, .null, 0),
  (207, .iload_n 3, 1, .null, 3),
  (208, .ifCond .ge (7), 3, .null, 215),
  (211, .iconst (-1), 1, (.int (-1)), 0),
  (212, .goto (11), 3, .null, 223),
  (215, .aload_n 0, 1, .null, 0),
  (216, .iload_n 1, 1, .null, 1),
  (217, .iload 5, 2, .null, 5),
  (219, .iload_n 3, 1, .null, 3),
  (220, .invokevirtual 213, 3, .null, 0),
  (223, .istore 6, 2, .null, 6),
  (225, .iload 6, 2, .null, 6),
  (227, .iconst (-1), 1, (.int (-1)), 0),
  (228, .if_icmp .eq (16), 3, .null, 244),
  (231, .iload 4, 2, .null, 4),
  (233, .i2l, 1, .null, 0),
  (234, .lconst 0, 1, (.long (0)), 0),
  (235, .ldc2_w 237, 3, (.long (2)), 0),
  (238, .invokestatic 146, 3, .null, 0),
  (241, .ifCond .ne (7), 3, .null, 248),
  (244, .ldc2_w 224, 3, (.long (-1)), 0),
  (247, .lreturn, 1, .null, 0),
  (248, .iload 4, 2, .null, 4),
  (250, .ifCond .ne (26), 3, .null, 276),
  (253, .aload_n 0, 1, .null, 0),
  (254, .iload_n 1, 1, .null, 1),
  (255, .aload_n 0, 1, .null, 0),
  (256, .getfield 57, 3, .null, 0),
  (259, .iload 6, 2, .null, 6),
  (261, .iaload, 1, .null, 0),
  (262, .aload_n 0, 1, .null, 0),
  (263, .getfield 63, 3, .null, 0),
  (266, .iload 5, 2, .null, 5),
  (268, .iaload, 1, .null, 0),
  (269, .invokevirtual 153, 3, .null, 0),
  (272, .i2l, 1, .null, 0),
  (273, .goto (35), 3, .null, 308),
  (276, .iload 4, 2, .null, 4),
  (278, .iconst 1, 1, (.int (1)), 0),
  (279, .if_icmp .ne (14), 3, .null, 293),
  (282, .aload_n 0, 1, .null, 0),
  (283, .getfield 72, 3, .null, 0),
  (286, .iload 6, 2, .null, 6),
  (288, .iaload, 1, .null, 0),
  (289, .i2l, 1, .null, 0),
  (290, .goto (18), 3, .null, 308),
  (293, .aload_n 0, 1, .null, 0),
  (294, .getfield 66, 3, .null, 0),
  (297, .iload 6, 2, .null, 6),
  (299, .laload, 1, .null, 0),
  (300, .aload_n 0, 1, .null, 0),
  (301, .getfield 66, 3, .null, 0),
  (304, .iload 5, 2, .null, 5),
  (306, .laload, 1, .null, 0),
  (307, .lsub, 1, .null, 0),
  (308, .lreturn, 1, .null, 0)]
noncomputable def m_X11_arc : ab_M := (c_X11_arc, [(0, [0, 1, 2, 3, 4]), (25, [0, 1, 2, 3, 4]), (223, [0, 1, 4, 5])],
  [(20, 11, 4, 3), (27, 11, 6, 3), (57, 11, 18, 3), (60, 11, 19, 3), (63, 11, 20, 3), (66, 11, 21, 3), (72, 11, 23, 3), (75, 11, 24, 3), (180, 11, 25, 0)],
  [],
  [(146, 0, 3, g_X11_isIn), (153, 1, 4, g_X11_letter), (159, 0, 1, g_X11_isDictionary), (176, 1, 2, g_X11_build), (206, 1, 3, g_X11_isFinal), (213, 1, 4, g_X11_child), (231, 1, 3, g_X11_children)],
  [(97, [(0, 128), (1, 137), (2, 148), (3, 186)], 203)], 7, 3)
theorem one_X11_arc : ab_oneM m_X11_arc := List.forall_mem_cons.mpr ⟨o_X11_isIn, List.forall_mem_cons.mpr ⟨o_X11_letter, List.forall_mem_cons.mpr ⟨o_X11_isDictionary, List.forall_mem_cons.mpr ⟨o_X11_build, List.forall_mem_cons.mpr ⟨o_X11_isFinal, List.forall_mem_cons.mpr ⟨o_X11_child, List.forall_mem_cons.mpr ⟨o_X11_children, fun _ h => absurd h List.not_mem_nil⟩⟩⟩⟩⟩⟩⟩
noncomputable def f_X11_arc (l0 : Nat) (l1 : Int32) (l2 : Int32) (l3 : Int32) (l4 : Int32) (st : ab_S) : Option ab_R := ab_rc st l0 11 (ab_lim m_X11_arc 0 [.ref l0, .int l1, .int l2, .int l3, .int l4] [] st)
noncomputable def L_X11_arc_25 (l0 : Nat) (l1 : Int32) (l2 : Int32) (l3 : Int32) (l4 : Int32) (t0 : Int64) (t1 : Int64) (t2 : Int64) (st : ab_S) : Option ab_R := ab_lim m_X11_arc 25 [.ref l0, .int l1, .int l2, .int l3, .int l4] [.long t2, .long t1, .long t0] st
noncomputable def L_X11_arc_223 (l0 : Nat) (l1 : Int32) (l4 : Int32) (l5 : Int32) (t0 : Int32) (st : ab_S) : Option ab_R := ab_lim m_X11_arc 223 [.ref l0, .int l1, .int l4, .int l5] [.int t0] st
noncomputable def g_X11_arc : ab_G := fun as st k => match as with
  | [.ref a0, .int a1, .int a2, .int a3, .int a4] => ab_rl (f_X11_arc a0 a1 a2 a3 a4 st) (fun x t => k [.long x] t)
  | _ => none
theorem o_X11_arc : ab_one g_X11_arc := by
  intro as st k r h
  unfold g_X11_arc at h ⊢
  split at h
  · exact one_rl h
  · cases h
set_option maxRecDepth 100000 in
theorem e_X11_arc_0 (l0 : Nat) (l1 : Int32) (l2 : Int32) (l3 : Int32) (l4 : Int32) (st : ab_S) : f_X11_arc l0 l1 l2 l3 l4 st =
    ab_rc st l0 11 (
    ab_ri (f_X11_isDictionary l1 st) fun x2 s1 =>
    if x2 = 0
    then some (some (.long (-2 : Int64)), s1)
    else if l3 = (-1 : Int32)
      then L_X11_arc_25 l0 l1 l2 l3 l4 l4.toInt64 (0 : Int64) (3 : Int64) s1
      else L_X11_arc_25 l0 l1 l2 l3 l4 l4.toInt64 (0 : Int64) (2 : Int64) s1) := congrArg (ab_rc st l0 11) ((lm_eq one_X11_arc 0 _ _ _).trans rfl)
set_option maxRecDepth 100000 in
theorem e_X11_arc_25 (l0 : Nat) (l1 : Int32) (l2 : Int32) (l3 : Int32) (l4 : Int32) (t0 : Int64) (t1 : Int64) (t2 : Int64) (st : ab_S) : L_X11_arc_25 l0 l1 l2 l3 l4 t0 t1 t2 st =
    ab_ri (f_X11_isIn t0 t1 t2 st) fun x2 s1 =>
    if x2 = 0
    then some (some (.long (-2 : Int64)), s1)
    else Option.bind (ab_gR s1 l0 11 6) fun x3 =>
      Option.bind (ab_rB s1 x3 l1) fun x4 =>
      if x4 = 0
      then ab_rv (f_X11_build l0 l1 s1) fun s5 =>
        Option.bind (ab_gI s5 l0 11 25) fun x6 =>
        ab_ri (f_X11_isIn l2.toInt64 (0 : Int64) ((x6 - (1 : Int32)).toInt64) s5) fun x8 s7 =>
        if x8 = 0
        then some (some (.long (-1 : Int64)), s7)
        else Option.bind (ab_gR s7 l0 11 24) fun x9 =>
          Option.bind (ab_rI s7 x9 l2) fun x10 =>
          if l3 = (-1 : Int32)
          then ab_ri (f_X11_isFinal l0 l1 x10 s7) fun x12 s11 =>
            if l4 = 0 then ab_ri (f_X11_children l0 l1 x10 s11) fun x14 s13 =>
              some (some (.long x14.toInt64), s13)
            else if l4 = 1 then if x12 = 0
              then some (some (.long (0 : Int64)), s11)
              else some (some (.long (1 : Int64)), s11)
            else if l4 = 2 then if x12 = 0
              then some (some (.long (-1 : Int64)), s11)
              else Option.bind (ab_gR s11 l0 11 4) fun x15 =>
                Option.bind (ab_gR s11 l0 11 18) fun x16 =>
                Option.bind (ab_rI s11 x16 x10) fun x17 =>
                Option.bind (ab_rJ s11 x15 (((200 : Int32) * l1) + x17)) fun x18 =>
                Option.bind (ab_gR s11 l0 11 21) fun x19 =>
                Option.bind (ab_rJ s11 x19 x10) fun x20 =>
                some (some (.long (x18 - x20)), s11)
            else if l4 = 3 then Option.bind (ab_gR s11 l0 11 19) fun x21 =>
              Option.bind (ab_rI s11 x21 x10) fun x22 =>
              Option.bind (ab_gR s11 l0 11 18) fun x23 =>
              Option.bind (ab_rI s11 x23 x10) fun x24 =>
              some (some (.long ((x22 - x24).toInt64)), s11)
            else some (some (.long (-1 : Int64)), s11)
          else if 0 ≤ l3
            then ab_ri (f_X11_child l0 l1 x10 l3 s7) fun x26 s25 =>
              L_X11_arc_223 l0 l1 l4 x10 x26 s25
            else L_X11_arc_223 l0 l1 l4 x10 (-1 : Int32) s7
      else some (some (.long (-4 : Int64)), s1) := (lm_eq one_X11_arc 25 _ _ _).trans rfl
set_option maxRecDepth 100000 in
theorem e_X11_arc_223 (l0 : Nat) (l1 : Int32) (l4 : Int32) (l5 : Int32) (t0 : Int32) (st : ab_S) : L_X11_arc_223 l0 l1 l4 l5 t0 st =
    if t0 = (-1 : Int32)
    then some (some (.long (-1 : Int64)), st)
    else ab_ri (f_X11_isIn l4.toInt64 (0 : Int64) (2 : Int64) st) fun x2 s1 =>
      if x2 = 0
      then some (some (.long (-1 : Int64)), s1)
      else if l4 = 0
        then Option.bind (ab_gR s1 l0 11 18) fun x3 =>
          Option.bind (ab_rI s1 x3 t0) fun x4 =>
          Option.bind (ab_gR s1 l0 11 20) fun x5 =>
          Option.bind (ab_rI s1 x5 l5) fun x6 =>
          ab_ri (f_X11_letter l0 l1 x4 x6 s1) fun x8 s7 =>
          some (some (.long x8.toInt64), s7)
        else if l4 = (1 : Int32)
          then Option.bind (ab_gR s1 l0 11 23) fun x9 =>
            Option.bind (ab_rI s1 x9 t0) fun x10 =>
            some (some (.long x10.toInt64), s1)
          else Option.bind (ab_gR s1 l0 11 21) fun x11 =>
            Option.bind (ab_rJ s1 x11 t0) fun x12 =>
            Option.bind (ab_gR s1 l0 11 21) fun x13 =>
            Option.bind (ab_rJ s1 x13 l5) fun x14 =>
            some (some (.long (x12 - x14)), s1) := (lm_eq one_X11_arc 223 _ _ _).trans rfl
def c_X10_number : List (Nat × ab_I) := [(0, .iload_n 1, 1, .null, 1),
  (1, .invokestatic 95, 3, .null, 0),
  (4, .ifCond .ne (6), 3, .null, 10),
  (7, .bipush (-2), 2, (.int (-2)), 0),
  (9, .ireturn, 1, .null, 0),
  (10, .aload_n 0, 1, .null, 0),
  (11, .invokevirtual 91, 3, .null, 0),
  (14, .astore_n 2, 1, .null, 2),
  (15, .aload_n 0, 1, .null, 0),
  (16, .getfield 11, 3, .null, 0),
  (19, .iload_n 1, 1, .null, 1),
  (20, .aaload, 1, .null, 0),
  (21, .astore_n 3, 1, .null, 3),
  (22, .aload_n 3, 1, .null, 3),
  (23, .getfield 109, 3, .null, 0),
  (26, .ifCond .eq (8), 3, .null, 34),
  (29, .bipush (-4), 2, (.int (-4)), 0),
  (31, .goto (11), 3, .null, 42),
  (34, .aload_n 3, 1, .null, 3),
  (35, .getfield 99, 3, .null, 0),
  (38, .aload_n 2, 1, .null, 2),
  (39, .invokevirtual 143, 3, .null, 0),
  (42, .ireturn, 1, .null, 0)]
noncomputable def m_X10_number : ab_M := (c_X10_number, [(0, [0, 1])],
  [(11, 10, 0, 3), (99, 0, 0, 3), (109, 0, 2, 1)],
  [],
  [(91, 1, 1, g_X10_takeCollected), (95, 0, 1, g_X10_isDictionary), (143, 1, 2, g_X7_numberOf)],
  [], 4, 1)
theorem one_X10_number : ab_oneM m_X10_number := List.forall_mem_cons.mpr ⟨o_X10_takeCollected, List.forall_mem_cons.mpr ⟨o_X10_isDictionary, List.forall_mem_cons.mpr ⟨o_X7_numberOf, fun _ h => absurd h List.not_mem_nil⟩⟩⟩
noncomputable def f_X10_number (l0 : Nat) (l1 : Int32) (st : ab_S) : Option ab_R := ab_rc st l0 10 (ab_lim m_X10_number 0 [.ref l0, .int l1] [] st)
noncomputable def g_X10_number : ab_G := fun as st k => match as with
  | [.ref a0, .int a1] => ab_ri (f_X10_number a0 a1 st) (fun x t => k [.int x] t)
  | _ => none
theorem o_X10_number : ab_one g_X10_number := by
  intro as st k r h
  unfold g_X10_number at h ⊢
  split at h
  · exact one_ri h
  · cases h
set_option maxRecDepth 100000 in
theorem e_X10_number_0 (l0 : Nat) (l1 : Int32) (st : ab_S) : f_X10_number l0 l1 st =
    ab_rc st l0 10 (
    ab_ri (f_X10_isDictionary l1 st) fun x2 s1 =>
    if x2 = 0
    then some (some (.int (-2 : Int32)), s1)
    else ab_rr (f_X10_takeCollected l0 s1) fun x4 s3 =>
      Option.bind (ab_gR s3 l0 10 0) fun x5 =>
      Option.bind (ab_rR s3 x5 l1) fun x6 =>
      Option.bind (ab_gI s3 x6 0 2) fun x7 =>
      if x7 = 0
      then Option.bind (ab_gR s3 x6 0 0) fun x8 =>
        ab_ri (f_X7_numberOf x8 x4 s3) fun x10 s9 =>
        some (some (.int x10), s9)
      else some (some (.int (-4 : Int32)), s3)) := congrArg (ab_rc st l0 10) ((lm_eq one_X10_number 0 _ _ _).trans rfl)
def c_X11_number : List (Nat × ab_I) := [(0, .iload_n 1, 1, .null, 1),
  (1, .invokestatic 159, 3, .null, 0),
  (4, .ifCond .ne (6), 3, .null, 10),
  (7, .bipush (-2), 2, (.int (-2)), 0),
  (9, .ireturn, 1, .null, 0),
  (10, .aload_n 0, 1, .null, 0),
  (11, .invokevirtual 165, 3, .null, 0),
  (14, .istore_n 2, 1, .null, 2),
  (15, .aload_n 0, 1, .null, 0),
  (16, .getfield 27, 3, .null, 0),
  (19, .iload_n 1, 1, .null, 1),
  (20, .baload, 1, .null, 0),
  (21, .ifCond .eq (8), 3, .null, 29),
  (24, .bipush (-4), 2, (.int (-4)), 0),
  (26, .goto (9), 3, .null, 35),
  (29, .aload_n 0, 1, .null, 0),
  (30, .iload_n 1, 1, .null, 1),
  (31, .iload_n 2, 1, .null, 2),
  (32, .invokevirtual 220, 3, .null, 0),
  (35, .ireturn, 1, .null, 0)]
noncomputable def m_X11_number : ab_M := (c_X11_number, [(0, [0, 1])],
  [(27, 11, 6, 3)],
  [],
  [(159, 0, 1, g_X11_isDictionary), (165, 1, 1, g_X11_forget), (220, 1, 3, g_X11_place)],
  [], 3, 1)
theorem one_X11_number : ab_oneM m_X11_number := List.forall_mem_cons.mpr ⟨o_X11_isDictionary, List.forall_mem_cons.mpr ⟨o_X11_forget, List.forall_mem_cons.mpr ⟨o_X11_place, fun _ h => absurd h List.not_mem_nil⟩⟩⟩
noncomputable def f_X11_number (l0 : Nat) (l1 : Int32) (st : ab_S) : Option ab_R := ab_rc st l0 11 (ab_lim m_X11_number 0 [.ref l0, .int l1] [] st)
noncomputable def g_X11_number : ab_G := fun as st k => match as with
  | [.ref a0, .int a1] => ab_ri (f_X11_number a0 a1 st) (fun x t => k [.int x] t)
  | _ => none
theorem o_X11_number : ab_one g_X11_number := by
  intro as st k r h
  unfold g_X11_number at h ⊢
  split at h
  · exact one_ri h
  · cases h
set_option maxRecDepth 100000 in
theorem e_X11_number_0 (l0 : Nat) (l1 : Int32) (st : ab_S) : f_X11_number l0 l1 st =
    ab_rc st l0 11 (
    ab_ri (f_X11_isDictionary l1 st) fun x2 s1 =>
    if x2 = 0
    then some (some (.int (-2 : Int32)), s1)
    else ab_ri (f_X11_forget l0 s1) fun x4 s3 =>
      Option.bind (ab_gR s3 l0 11 6) fun x5 =>
      Option.bind (ab_rB s3 x5 l1) fun x6 =>
      if x6 = 0
      then ab_ri (f_X11_place l0 l1 x4 s3) fun x8 s7 =>
        some (some (.int x8), s7)
      else some (some (.int (-4 : Int32)), s3)) := congrArg (ab_rc st l0 11) ((lm_eq one_X11_number 0 _ _ _).trans rfl)
def c_X10_term : List (Nat × ab_I) := [(0, .iload_n 1, 1, .null, 1),
  (1, .invokestatic 95, 3, .null, 0),
  (4, .ifCond .ne (6), 3, .null, 10),
  (7, .bipush (-2), 2, (.int (-2)), 0),
  (9, .ireturn, 1, .null, 0),
  (10, .aload_n 0, 1, .null, 0),
  (11, .getfield 11, 3, .null, 0),
  (14, .iload_n 1, 1, .null, 1),
  (15, .aaload, 1, .null, 0),
  (16, .getfield 109, 3, .null, 0),
  (19, .ifCond .eq (6), 3, .null, 25),
  (22, .bipush (-4), 2, (.int (-4)), 0),
  (24, .ireturn, 1, .null, 0),
  (25, .aload_n 0, 1, .null, 0),
  (26, .getfield 11, 3, .null, 0),
  (29, .iload_n 1, 1, .null, 1),
  (30, .aaload, 1, .null, 0),
  (31, .getfield 99, 3, .null, 0),
  (34, .astore 4, 2, .null, 4),
  (36, .iload_n 3, 1, .null, 3),
  (37, .iconst (-1), 1, (.int (-1)), 0),
  (38, .if_icmp .ne (12), 3, .null, 50),
  (41, .aload 4, 2, .null, 4),
  (43, .iload_n 2, 1, .null, 2),
  (44, .invokevirtual 175, 3, .null, 0),
  (47, .goto (10), 3, .null, 57),
  (50, .aload 4, 2, .null, 4),
  (52, .iload_n 2, 1, .null, 2),
  (53, .iload_n 3, 1, .null, 3),
  (54, .invokevirtual 179, 3, .null, 0),
  (57, .ireturn, 1, .null, 0)]
noncomputable def m_X10_term : ab_M := (c_X10_term, [(0, [0, 1, 2, 3])],
  [(11, 10, 0, 3), (99, 0, 0, 3), (109, 0, 2, 1)],
  [],
  [(95, 0, 1, g_X10_isDictionary), (175, 1, 2, g_X7_lengthAt), (179, 1, 3, g_X7_signAt)],
  [], 5, 1)
theorem one_X10_term : ab_oneM m_X10_term := List.forall_mem_cons.mpr ⟨o_X10_isDictionary, List.forall_mem_cons.mpr ⟨o_X7_lengthAt, List.forall_mem_cons.mpr ⟨o_X7_signAt, fun _ h => absurd h List.not_mem_nil⟩⟩⟩
noncomputable def f_X10_term (l0 : Nat) (l1 : Int32) (l2 : Int32) (l3 : Int32) (st : ab_S) : Option ab_R := ab_rc st l0 10 (ab_lim m_X10_term 0 [.ref l0, .int l1, .int l2, .int l3] [] st)
noncomputable def g_X10_term : ab_G := fun as st k => match as with
  | [.ref a0, .int a1, .int a2, .int a3] => ab_ri (f_X10_term a0 a1 a2 a3 st) (fun x t => k [.int x] t)
  | _ => none
theorem o_X10_term : ab_one g_X10_term := by
  intro as st k r h
  unfold g_X10_term at h ⊢
  split at h
  · exact one_ri h
  · cases h
set_option maxRecDepth 100000 in
theorem e_X10_term_0 (l0 : Nat) (l1 : Int32) (l2 : Int32) (l3 : Int32) (st : ab_S) : f_X10_term l0 l1 l2 l3 st =
    ab_rc st l0 10 (
    ab_ri (f_X10_isDictionary l1 st) fun x2 s1 =>
    if x2 = 0
    then some (some (.int (-2 : Int32)), s1)
    else Option.bind (ab_gR s1 l0 10 0) fun x3 =>
      Option.bind (ab_rR s1 x3 l1) fun x4 =>
      Option.bind (ab_gI s1 x4 0 2) fun x5 =>
      if x5 = 0
      then Option.bind (ab_gR s1 l0 10 0) fun x6 =>
        Option.bind (ab_rR s1 x6 l1) fun x7 =>
        Option.bind (ab_gR s1 x7 0 0) fun x8 =>
        if l3 = (-1 : Int32)
        then ab_ri (f_X7_lengthAt x8 l2 s1) fun x10 s9 =>
          some (some (.int x10), s9)
        else ab_ri (f_X7_signAt x8 l2 l3 s1) fun x12 s11 =>
          some (some (.int x12), s11)
      else some (some (.int (-4 : Int32)), s1)) := congrArg (ab_rc st l0 10) ((lm_eq one_X10_term 0 _ _ _).trans rfl)
def c_X11_term : List (Nat × ab_I) := [(0, .iload_n 1, 1, .null, 1),
  (1, .invokestatic 159, 3, .null, 0),
  (4, .ifCond .ne (6), 3, .null, 10),
  (7, .bipush (-2), 2, (.int (-2)), 0),
  (9, .ireturn, 1, .null, 0),
  (10, .aload_n 0, 1, .null, 0),
  (11, .getfield 27, 3, .null, 0),
  (14, .iload_n 1, 1, .null, 1),
  (15, .baload, 1, .null, 0),
  (16, .ifCond .eq (6), 3, .null, 22),
  (19, .bipush (-4), 2, (.int (-4)), 0),
  (21, .ireturn, 1, .null, 0),
  (22, .iload_n 2, 1, .null, 2),
  (23, .i2l, 1, .null, 0),
  (24, .lconst 0, 1, (.long (0)), 0),
  (25, .aload_n 0, 1, .null, 0),
  (26, .getfield 24, 3, .null, 0),
  (29, .iload_n 1, 1, .null, 1),
  (30, .iaload, 1, .null, 0),
  (31, .iconst 1, 1, (.int (1)), 0),
  (32, .isub, 1, .null, 0),
  (33, .i2l, 1, .null, 0),
  (34, .invokestatic 146, 3, .null, 0),
  (37, .ifCond .eq (29), 3, .null, 66),
  (40, .iload_n 3, 1, .null, 3),
  (41, .i2l, 1, .null, 0),
  (42, .ldc2_w 224, 3, (.long (-1)), 0),
  (45, .aload_n 0, 1, .null, 0),
  (46, .getfield 16, 3, .null, 0),
  (49, .sipush (200), 3, (.int (200)), 0),
  (52, .iload_n 1, 1, .null, 1),
  (53, .imul, 1, .null, 0),
  (54, .iload_n 2, 1, .null, 2),
  (55, .iadd, 1, .null, 0),
  (56, .iaload, 1, .null, 0),
  (57, .iconst 1, 1, (.int (1)), 0),
  (58, .isub, 1, .null, 0),
  (59, .i2l, 1, .null, 0),
  (60, .invokestatic 146, 3, .null, 0),
  (63, .ifCond .ne (5), 3, .null, 68),
  (66, .iconst (-1), 1, (.int (-1)), 0),
  (67, .ireturn, 1, .null, 0),
  (68, .iload_n 3, 1, .null, 3),
  (69, .iconst (-1), 1, (.int (-1)), 0),
  (70, .if_icmp .ne (18), 3, .null, 88),
  (73, .aload_n 0, 1, .null, 0),
  (74, .getfield 16, 3, .null, 0),
  (77, .sipush (200), 3, (.int (200)), 0),
  (80, .iload_n 1, 1, .null, 1),
  (81, .imul, 1, .null, 0),
  (82, .iload_n 2, 1, .null, 2),
  (83, .iadd, 1, .null, 0),
  (84, .iaload, 1, .null, 0),
  (85, .goto (10), 3, .null, 95),
  (88, .aload_n 0, 1, .null, 0),
  (89, .iload_n 1, 1, .null, 1),
  (90, .iload_n 2, 1, .null, 2),
  (91, .iload_n 3, 1, .null, 3),
  (92, .invokevirtual 153, 3, .null, 0),
  (95, .ireturn, 1, .null, 0)]
noncomputable def m_X11_term : ab_M := (c_X11_term, [(0, [0, 1, 2, 3])],
  [(16, 11, 3, 3), (24, 11, 5, 3), (27, 11, 6, 3)],
  [],
  [(146, 0, 3, g_X11_isIn), (153, 1, 4, g_X11_letter), (159, 0, 1, g_X11_isDictionary)],
  [], 4, 1)
theorem one_X11_term : ab_oneM m_X11_term := List.forall_mem_cons.mpr ⟨o_X11_isIn, List.forall_mem_cons.mpr ⟨o_X11_letter, List.forall_mem_cons.mpr ⟨o_X11_isDictionary, fun _ h => absurd h List.not_mem_nil⟩⟩⟩
noncomputable def f_X11_term (l0 : Nat) (l1 : Int32) (l2 : Int32) (l3 : Int32) (st : ab_S) : Option ab_R := ab_rc st l0 11 (ab_lim m_X11_term 0 [.ref l0, .int l1, .int l2, .int l3] [] st)
noncomputable def g_X11_term : ab_G := fun as st k => match as with
  | [.ref a0, .int a1, .int a2, .int a3] => ab_ri (f_X11_term a0 a1 a2 a3 st) (fun x t => k [.int x] t)
  | _ => none
theorem o_X11_term : ab_one g_X11_term := by
  intro as st k r h
  unfold g_X11_term at h ⊢
  split at h
  · exact one_ri h
  · cases h
set_option maxRecDepth 100000 in
theorem e_X11_term_0 (l0 : Nat) (l1 : Int32) (l2 : Int32) (l3 : Int32) (st : ab_S) : f_X11_term l0 l1 l2 l3 st =
    ab_rc st l0 11 (
    ab_ri (f_X11_isDictionary l1 st) fun x2 s1 =>
    if x2 = 0
    then some (some (.int (-2 : Int32)), s1)
    else Option.bind (ab_gR s1 l0 11 6) fun x3 =>
      Option.bind (ab_rB s1 x3 l1) fun x4 =>
      if x4 = 0
      then Option.bind (ab_gR s1 l0 11 5) fun x5 =>
        Option.bind (ab_rI s1 x5 l1) fun x6 =>
        ab_ri (f_X11_isIn l2.toInt64 (0 : Int64) ((x6 - (1 : Int32)).toInt64) s1) fun x8 s7 =>
        if x8 = 0
        then some (some (.int (-1 : Int32)), s7)
        else Option.bind (ab_gR s7 l0 11 3) fun x9 =>
          Option.bind (ab_rI s7 x9 (((200 : Int32) * l1) + l2)) fun x10 =>
          ab_ri (f_X11_isIn l3.toInt64 (-1 : Int64) ((x10 - (1 : Int32)).toInt64) s7) fun x12 s11 =>
          if x12 = 0
          then some (some (.int (-1 : Int32)), s11)
          else if l3 = (-1 : Int32)
            then Option.bind (ab_gR s11 l0 11 3) fun x13 =>
              Option.bind (ab_rI s11 x13 (((200 : Int32) * l1) + l2)) fun x14 =>
              some (some (.int x14), s11)
            else ab_ri (f_X11_letter l0 l1 l2 l3 s11) fun x16 s15 =>
              some (some (.int x16), s15)
      else some (some (.int (-4 : Int32)), s1)) := congrArg (ab_rc st l0 11) ((lm_eq one_X11_term 0 _ _ _).trans rfl)
def c_X10_out : List (Nat × ab_I) := [(0, .iload_n 1, 1, .null, 1),
  (1, .invokestatic 95, 3, .null, 0),
  (4, .ifCond .ne (7), 3, .null, 11),
  (7, .ldc2_w 139, 3, (.long (-2)), 0),
  (10, .lreturn, 1, .null, 0),
  (11, .aload_n 0, 1, .null, 0),
  (12, .getfield 11, 3, .null, 0),
  (15, .iload_n 1, 1, .null, 1),
  (16, .aaload, 1, .null, 0),
  (17, .getfield 109, 3, .null, 0),
  (20, .ifCond .eq (9), 3, .null, 29),
  (23, .ldc2_w 141, 3, (.long (-4)), 0),
  (26, .goto (16), 3, .null, 42),
  (29, .aload_n 0, 1, .null, 0),
  (30, .getfield 11, 3, .null, 0),
  (33, .iload_n 1, 1, .null, 1),
  (34, .aaload, 1, .null, 0),
  (35, .getfield 99, 3, .null, 0),
  (38, .iload_n 2, 1, .null, 2),
  (39, .invokevirtual 147, 3, .null, 0),
  (42, .lreturn, 1, .null, 0)]
noncomputable def m_X10_out : ab_M := (c_X10_out, [(0, [0, 1, 2])],
  [(11, 10, 0, 3), (99, 0, 0, 3), (109, 0, 2, 1)],
  [],
  [(95, 0, 1, g_X10_isDictionary), (147, 1, 2, g_X7_outAt)],
  [], 3, 3)
theorem one_X10_out : ab_oneM m_X10_out := List.forall_mem_cons.mpr ⟨o_X10_isDictionary, List.forall_mem_cons.mpr ⟨o_X7_outAt, fun _ h => absurd h List.not_mem_nil⟩⟩
noncomputable def f_X10_out (l0 : Nat) (l1 : Int32) (l2 : Int32) (st : ab_S) : Option ab_R := ab_rc st l0 10 (ab_lim m_X10_out 0 [.ref l0, .int l1, .int l2] [] st)
noncomputable def g_X10_out : ab_G := fun as st k => match as with
  | [.ref a0, .int a1, .int a2] => ab_rl (f_X10_out a0 a1 a2 st) (fun x t => k [.long x] t)
  | _ => none
theorem o_X10_out : ab_one g_X10_out := by
  intro as st k r h
  unfold g_X10_out at h ⊢
  split at h
  · exact one_rl h
  · cases h
set_option maxRecDepth 100000 in
theorem e_X10_out_0 (l0 : Nat) (l1 : Int32) (l2 : Int32) (st : ab_S) : f_X10_out l0 l1 l2 st =
    ab_rc st l0 10 (
    ab_ri (f_X10_isDictionary l1 st) fun x2 s1 =>
    if x2 = 0
    then some (some (.long (-2 : Int64)), s1)
    else Option.bind (ab_gR s1 l0 10 0) fun x3 =>
      Option.bind (ab_rR s1 x3 l1) fun x4 =>
      Option.bind (ab_gI s1 x4 0 2) fun x5 =>
      if x5 = 0
      then Option.bind (ab_gR s1 l0 10 0) fun x6 =>
        Option.bind (ab_rR s1 x6 l1) fun x7 =>
        Option.bind (ab_gR s1 x7 0 0) fun x8 =>
        ab_rl (f_X7_outAt x8 l2 s1) fun x10 s9 =>
        some (some (.long x10), s9)
      else some (some (.long (-4 : Int64)), s1)) := congrArg (ab_rc st l0 10) ((lm_eq one_X10_out 0 _ _ _).trans rfl)
def c_X11_out : List (Nat × ab_I) := [(0, .iload_n 1, 1, .null, 1),
  (1, .invokestatic 159, 3, .null, 0),
  (4, .ifCond .ne (7), 3, .null, 11),
  (7, .ldc2_w 216, 3, (.long (-2)), 0),
  (10, .lreturn, 1, .null, 0),
  (11, .aload_n 0, 1, .null, 0),
  (12, .getfield 27, 3, .null, 0),
  (15, .iload_n 1, 1, .null, 1),
  (16, .baload, 1, .null, 0),
  (17, .ifCond .eq (7), 3, .null, 24),
  (20, .ldc2_w 218, 3, (.long (-4)), 0),
  (23, .lreturn, 1, .null, 0),
  (24, .iload_n 2, 1, .null, 2),
  (25, .i2l, 1, .null, 0),
  (26, .lconst 0, 1, (.long (0)), 0),
  (27, .aload_n 0, 1, .null, 0),
  (28, .getfield 24, 3, .null, 0),
  (31, .iload_n 1, 1, .null, 1),
  (32, .iaload, 1, .null, 0),
  (33, .iconst 1, 1, (.int (1)), 0),
  (34, .isub, 1, .null, 0),
  (35, .i2l, 1, .null, 0),
  (36, .invokestatic 146, 3, .null, 0),
  (39, .ifCond .eq (18), 3, .null, 57),
  (42, .aload_n 0, 1, .null, 0),
  (43, .getfield 20, 3, .null, 0),
  (46, .sipush (200), 3, (.int (200)), 0),
  (49, .iload_n 1, 1, .null, 1),
  (50, .imul, 1, .null, 0),
  (51, .iload_n 2, 1, .null, 2),
  (52, .iadd, 1, .null, 0),
  (53, .laload, 1, .null, 0),
  (54, .goto (6), 3, .null, 60),
  (57, .ldc2_w 224, 3, (.long (-1)), 0),
  (60, .lreturn, 1, .null, 0)]
noncomputable def m_X11_out : ab_M := (c_X11_out, [(0, [0, 1, 2])],
  [(20, 11, 4, 3), (24, 11, 5, 3), (27, 11, 6, 3)],
  [],
  [(146, 0, 3, g_X11_isIn), (159, 0, 1, g_X11_isDictionary)],
  [], 3, 3)
theorem one_X11_out : ab_oneM m_X11_out := List.forall_mem_cons.mpr ⟨o_X11_isIn, List.forall_mem_cons.mpr ⟨o_X11_isDictionary, fun _ h => absurd h List.not_mem_nil⟩⟩
noncomputable def f_X11_out (l0 : Nat) (l1 : Int32) (l2 : Int32) (st : ab_S) : Option ab_R := ab_rc st l0 11 (ab_lim m_X11_out 0 [.ref l0, .int l1, .int l2] [] st)
noncomputable def g_X11_out : ab_G := fun as st k => match as with
  | [.ref a0, .int a1, .int a2] => ab_rl (f_X11_out a0 a1 a2 st) (fun x t => k [.long x] t)
  | _ => none
theorem o_X11_out : ab_one g_X11_out := by
  intro as st k r h
  unfold g_X11_out at h ⊢
  split at h
  · exact one_rl h
  · cases h
set_option maxRecDepth 100000 in
theorem e_X11_out_0 (l0 : Nat) (l1 : Int32) (l2 : Int32) (st : ab_S) : f_X11_out l0 l1 l2 st =
    ab_rc st l0 11 (
    ab_ri (f_X11_isDictionary l1 st) fun x2 s1 =>
    if x2 = 0
    then some (some (.long (-2 : Int64)), s1)
    else Option.bind (ab_gR s1 l0 11 6) fun x3 =>
      Option.bind (ab_rB s1 x3 l1) fun x4 =>
      if x4 = 0
      then Option.bind (ab_gR s1 l0 11 5) fun x5 =>
        Option.bind (ab_rI s1 x5 l1) fun x6 =>
        ab_ri (f_X11_isIn l2.toInt64 (0 : Int64) ((x6 - (1 : Int32)).toInt64) s1) fun x8 s7 =>
        if x8 = 0
        then some (some (.long (-1 : Int64)), s7)
        else Option.bind (ab_gR s7 l0 11 4) fun x9 =>
          Option.bind (ab_rJ s7 x9 (((200 : Int32) * l1) + l2)) fun x10 =>
          some (some (.long x10), s7)
      else some (some (.long (-4 : Int64)), s1)) := congrArg (ab_rc st l0 11) ((lm_eq one_X11_out 0 _ _ _).trans rfl)
def c_X10_ceiling : List (Nat × ab_I) := [(0, .iload_n 1, 1, .null, 1),
  (1, .invokestatic 95, 3, .null, 0),
  (4, .ifCond .ne (6), 3, .null, 10),
  (7, .bipush (-2), 2, (.int (-2)), 0),
  (9, .ireturn, 1, .null, 0),
  (10, .aload_n 0, 1, .null, 0),
  (11, .invokevirtual 91, 3, .null, 0),
  (14, .astore_n 2, 1, .null, 2),
  (15, .aload_n 0, 1, .null, 0),
  (16, .getfield 11, 3, .null, 0),
  (19, .iload_n 1, 1, .null, 1),
  (20, .aaload, 1, .null, 0),
  (21, .getfield 109, 3, .null, 0),
  (24, .ifCond .eq (6), 3, .null, 30),
  (27, .bipush (-4), 2, (.int (-4)), 0),
  (29, .ireturn, 1, .null, 0),
  (30, .aload_n 0, 1, .null, 0),
  (31, .getfield 11, 3, .null, 0),
  (34, .iload_n 1, 1, .null, 1),
  (35, .aaload, 1, .null, 0),
  (36, .getfield 99, 3, .null, 0),
  (39, .astore_n 3, 1, .null, 3),
  (40, .aload_n 3, 1, .null, 3),
  (41, .aload_n 2, 1, .null, 2),
  (42, .invokevirtual 183, 3, .null, 0),
  (45, .istore 4, 2, .null, 4),
  (47, .iload 4, 2, .null, 4),
  (49, .aload_n 3, 1, .null, 3),
  (50, .getfield 103, 3, .null, 0),
  (53, .if_icmp .ge (8), 3, .null, 61),
  (56, .iload 4, 2, .null, 4),
  (58, .goto (4), 3, .null, 62),
  (61, .iconst (-1), 1, (.int (-1)), 0),
  (62, .ireturn, 1, .null, 0)]
noncomputable def m_X10_ceiling : ab_M := (c_X10_ceiling, [(0, [0, 1])],
  [(11, 10, 0, 3), (99, 0, 0, 3), (103, 7, 3, 0), (109, 0, 2, 1)],
  [],
  [(91, 1, 1, g_X10_takeCollected), (95, 0, 1, g_X10_isDictionary), (183, 1, 2, g_X7_leastNotBelow)],
  [], 5, 1)
theorem one_X10_ceiling : ab_oneM m_X10_ceiling := List.forall_mem_cons.mpr ⟨o_X10_takeCollected, List.forall_mem_cons.mpr ⟨o_X10_isDictionary, List.forall_mem_cons.mpr ⟨o_X7_leastNotBelow, fun _ h => absurd h List.not_mem_nil⟩⟩⟩
noncomputable def f_X10_ceiling (l0 : Nat) (l1 : Int32) (st : ab_S) : Option ab_R := ab_rc st l0 10 (ab_lim m_X10_ceiling 0 [.ref l0, .int l1] [] st)
noncomputable def g_X10_ceiling : ab_G := fun as st k => match as with
  | [.ref a0, .int a1] => ab_ri (f_X10_ceiling a0 a1 st) (fun x t => k [.int x] t)
  | _ => none
theorem o_X10_ceiling : ab_one g_X10_ceiling := by
  intro as st k r h
  unfold g_X10_ceiling at h ⊢
  split at h
  · exact one_ri h
  · cases h
set_option maxRecDepth 100000 in
theorem e_X10_ceiling_0 (l0 : Nat) (l1 : Int32) (st : ab_S) : f_X10_ceiling l0 l1 st =
    ab_rc st l0 10 (
    ab_ri (f_X10_isDictionary l1 st) fun x2 s1 =>
    if x2 = 0
    then some (some (.int (-2 : Int32)), s1)
    else ab_rr (f_X10_takeCollected l0 s1) fun x4 s3 =>
      Option.bind (ab_gR s3 l0 10 0) fun x5 =>
      Option.bind (ab_rR s3 x5 l1) fun x6 =>
      Option.bind (ab_gI s3 x6 0 2) fun x7 =>
      if x7 = 0
      then Option.bind (ab_gR s3 l0 10 0) fun x8 =>
        Option.bind (ab_rR s3 x8 l1) fun x9 =>
        Option.bind (ab_gR s3 x9 0 0) fun x10 =>
        ab_ri (f_X7_leastNotBelow x10 x4 s3) fun x12 s11 =>
        Option.bind (ab_gI s11 x10 7 3) fun x13 =>
        if x13 ≤ x12
        then some (some (.int (-1 : Int32)), s11)
        else some (some (.int x12), s11)
      else some (some (.int (-4 : Int32)), s3)) := congrArg (ab_rc st l0 10) ((lm_eq one_X10_ceiling 0 _ _ _).trans rfl)
def c_X11_above : List (Nat × ab_I) := [(0, .iconst 0, 1, (.int (0)), 0),
  (1, .istore_n 3, 1, .null, 3),
  (2, .iload_n 3, 1, .null, 3),
  (3, .aload_n 0, 1, .null, 0),
  (4, .getfield 24, 3, .null, 0),
  (7, .iload_n 1, 1, .null, 1),
  (8, .iaload, 1, .null, 0),
  (9, .if_icmp .ge (19), 3, .null, 28),
  (12, .aload_n 0, 1, .null, 0),
  (13, .iload_n 1, 1, .null, 1),
  (14, .iload_n 3, 1, .null, 3),
  (15, .iload_n 2, 1, .null, 2),
  (16, .invokevirtual 169, 3, .null, 0),
  (19, .ifCond .ge (9), 3, .null, 28),
  (22, .iinc 3 (1), 3, (.int (1)), 3),
  (25, .goto (-23), 3, .null, 2),
  (28, .iload_n 3, 1, .null, 3),
  (29, .ireturn, 1, .null, 0)]
noncomputable def m_X11_above : ab_M := (c_X11_above, [(0, [0, 1, 2]), (2, [0, 1, 2, 3])],
  [(24, 11, 5, 3)],
  [],
  [(169, 1, 4, g_X11_compare)],
  [], 4, 1)
theorem one_X11_above : ab_oneM m_X11_above := List.forall_mem_cons.mpr ⟨o_X11_compare, fun _ h => absurd h List.not_mem_nil⟩
noncomputable def f_X11_above (l0 : Nat) (l1 : Int32) (l2 : Int32) (st : ab_S) : Option ab_R := ab_rc st l0 11 (ab_lim m_X11_above 0 [.ref l0, .int l1, .int l2] [] st)
noncomputable def L_X11_above_2 (l0 : Nat) (l1 : Int32) (l2 : Int32) (l3 : Int32) (st : ab_S) : Option ab_R := ab_lim m_X11_above 2 [.ref l0, .int l1, .int l2, .int l3] [] st
noncomputable def g_X11_above : ab_G := fun as st k => match as with
  | [.ref a0, .int a1, .int a2] => ab_ri (f_X11_above a0 a1 a2 st) (fun x t => k [.int x] t)
  | _ => none
theorem o_X11_above : ab_one g_X11_above := by
  intro as st k r h
  unfold g_X11_above at h ⊢
  split at h
  · exact one_ri h
  · cases h
set_option maxRecDepth 100000 in
theorem e_X11_above_0 (l0 : Nat) (l1 : Int32) (l2 : Int32) (st : ab_S) : f_X11_above l0 l1 l2 st =
    ab_rc st l0 11 (
    L_X11_above_2 l0 l1 l2 (0 : Int32) st) := congrArg (ab_rc st l0 11) ((lm_eq one_X11_above 0 _ _ _).trans rfl)
set_option maxRecDepth 100000 in
theorem e_X11_above_2 (l0 : Nat) (l1 : Int32) (l2 : Int32) (l3 : Int32) (st : ab_S) : L_X11_above_2 l0 l1 l2 l3 st =
    Option.bind (ab_gR st l0 11 5) fun x1 =>
    Option.bind (ab_rI st x1 l1) fun x2 =>
    if x2 ≤ l3
    then some (some (.int l3), st)
    else ab_ri (f_X11_compare l0 l1 l3 l2 st) fun x4 s3 =>
      if 0 ≤ x4
      then some (some (.int l3), s3)
      else L_X11_above_2 l0 l1 l2 (l3 + (1 : Int32)) s3 := (lm_eq one_X11_above 2 _ _ _).trans rfl
def c_X11_ceiling : List (Nat × ab_I) := [(0, .iload_n 1, 1, .null, 1),
  (1, .invokestatic 159, 3, .null, 0),
  (4, .ifCond .ne (6), 3, .null, 10),
  (7, .bipush (-2), 2, (.int (-2)), 0),
  (9, .ireturn, 1, .null, 0),
  (10, .aload_n 0, 1, .null, 0),
  (11, .invokevirtual 165, 3, .null, 0),
  (14, .istore_n 2, 1, .null, 2),
  (15, .aload_n 0, 1, .null, 0),
  (16, .getfield 27, 3, .null, 0),
  (19, .iload_n 1, 1, .null, 1),
  (20, .baload, 1, .null, 0),
  (21, .ifCond .eq (6), 3, .null, 27),
  (24, .bipush (-4), 2, (.int (-4)), 0),
  (26, .ireturn, 1, .null, 0),
  (27, .aload_n 0, 1, .null, 0),
  (28, .iload_n 1, 1, .null, 1),
  (29, .iload_n 2, 1, .null, 2),
  (30, .invokevirtual 239, 3, .null, 0),
  (33, .istore_n 3, 1, .null, 3),
  (34, .iload_n 3, 1, .null, 3),
  (35, .aload_n 0, 1, .null, 0),
  (36, .getfield 24, 3, .null, 0),
  (39, .iload_n 1, 1, .null, 1),
  (40, .iaload, 1, .null, 0),
  (41, .if_icmp .ge (7), 3, .null, 48),
  (44, .iload_n 3, 1, .null, 3),
  (45, .goto (4), 3, .null, 49),
  (48, .iconst (-1), 1, (.int (-1)), 0),
  (49, .ireturn, 1, .null, 0)]
noncomputable def m_X11_ceiling : ab_M := (c_X11_ceiling, [(0, [0, 1])],
  [(24, 11, 5, 3), (27, 11, 6, 3)],
  [],
  [(159, 0, 1, g_X11_isDictionary), (165, 1, 1, g_X11_forget), (239, 1, 3, g_X11_above)],
  [], 4, 1)
theorem one_X11_ceiling : ab_oneM m_X11_ceiling := List.forall_mem_cons.mpr ⟨o_X11_isDictionary, List.forall_mem_cons.mpr ⟨o_X11_forget, List.forall_mem_cons.mpr ⟨o_X11_above, fun _ h => absurd h List.not_mem_nil⟩⟩⟩
noncomputable def f_X11_ceiling (l0 : Nat) (l1 : Int32) (st : ab_S) : Option ab_R := ab_rc st l0 11 (ab_lim m_X11_ceiling 0 [.ref l0, .int l1] [] st)
noncomputable def g_X11_ceiling : ab_G := fun as st k => match as with
  | [.ref a0, .int a1] => ab_ri (f_X11_ceiling a0 a1 st) (fun x t => k [.int x] t)
  | _ => none
theorem o_X11_ceiling : ab_one g_X11_ceiling := by
  intro as st k r h
  unfold g_X11_ceiling at h ⊢
  split at h
  · exact one_ri h
  · cases h
set_option maxRecDepth 100000 in
theorem e_X11_ceiling_0 (l0 : Nat) (l1 : Int32) (st : ab_S) : f_X11_ceiling l0 l1 st =
    ab_rc st l0 11 (
    ab_ri (f_X11_isDictionary l1 st) fun x2 s1 =>
    if x2 = 0
    then some (some (.int (-2 : Int32)), s1)
    else ab_ri (f_X11_forget l0 s1) fun x4 s3 =>
      Option.bind (ab_gR s3 l0 11 6) fun x5 =>
      Option.bind (ab_rB s3 x5 l1) fun x6 =>
      if x6 = 0
      then ab_ri (f_X11_above l0 l1 x4 s3) fun x8 s7 =>
        Option.bind (ab_gR s7 l0 11 5) fun x9 =>
        Option.bind (ab_rI s7 x9 l1) fun x10 =>
        if x10 ≤ x8
        then some (some (.int (-1 : Int32)), s7)
        else some (some (.int x8), s7)
      else some (some (.int (-4 : Int32)), s3)) := congrArg (ab_rc st l0 11) ((lm_eq one_X11_ceiling 0 _ _ _).trans rfl)
def c_X7_beginsWith : List (Nat × ab_I) := [(0, .aload_n 0, 1, .null, 0),
  (1, .iload_n 1, 1, .null, 1),
  (2, .invokevirtual 26, 3, .null, 0),
  (5, .ifCond .eq (15), 3, .null, 20),
  (8, .aload_n 2, 1, .null, 2),
  (9, .getfield 50, 3, .null, 0),
  (12, .aload_n 0, 1, .null, 0),
  (13, .iload_n 1, 1, .null, 1),
  (14, .invokevirtual 30, 3, .null, 0),
  (17, .if_icmp .le (5), 3, .null, 22),
  (20, .iconst 0, 1, (.int (0)), 0),
  (21, .ireturn, 1, .null, 0),
  (22, .iconst 0, 1, (.int (0)), 0),
  (23, .istore_n 3, 1, .null, 3),
  (24, .iload_n 3, 1, .null, 3),
  (25, .aload_n 2, 1, .null, 2),
  (26, .getfield 50, 3, .null, 0),
  (29, .if_icmp .ge (25), 3, .null, 54),
  (32, .aload_n 0, 1, .null, 0),
  (33, .iload_n 1, 1, .null, 1),
  (34, .iload_n 3, 1, .null, 3),
  (35, .invokevirtual 42, 3, .null, 0),
  (38, .aload_n 2, 1, .null, 2),
  (39, .iload_n 3, 1, .null, 3),
  (40, .invokevirtual 45, 3, .null, 0),
  (43, .if_icmp .eq (5), 3, .null, 48),
  (46, .iconst 0, 1, (.int (0)), 0),
  (47, .ireturn, 1, .null, 0),
  (48, .iinc 3 (1), 3, (.int (1)), 3),
  (51, .goto (-27), 3, .null, 24),
  (54, .iconst 1, 1, (.int (1)), 0),
  (55, .ireturn, 1, .null, 0)]
noncomputable def m_X7_beginsWith : ab_M := (c_X7_beginsWith, [(0, [0, 1, 2]), (24, [0, 1, 2, 3])],
  [(50, 6, 1, 0)],
  [],
  [(26, 1, 2, g_X7_has), (30, 1, 2, g_X7_lengthAt), (42, 1, 3, g_X7_signAt), (45, 1, 2, g_X6_at)],
  [], 4, 2)
theorem one_X7_beginsWith : ab_oneM m_X7_beginsWith := List.forall_mem_cons.mpr ⟨o_X7_has, List.forall_mem_cons.mpr ⟨o_X7_lengthAt, List.forall_mem_cons.mpr ⟨o_X7_signAt, List.forall_mem_cons.mpr ⟨o_X6_at, fun _ h => absurd h List.not_mem_nil⟩⟩⟩⟩
noncomputable def f_X7_beginsWith (l0 : Nat) (l1 : Int32) (l2 : Nat) (st : ab_S) : Option ab_R := ab_rc st l0 7 (ab_lim m_X7_beginsWith 0 [.ref l0, .int l1, .ref l2] [] st)
noncomputable def L_X7_beginsWith_24 (l0 : Nat) (l1 : Int32) (l2 : Nat) (l3 : Int32) (st : ab_S) : Option ab_R := ab_lim m_X7_beginsWith 24 [.ref l0, .int l1, .ref l2, .int l3] [] st
noncomputable def g_X7_beginsWith : ab_G := fun as st k => match as with
  | [.ref a0, .int a1, .ref a2] => ab_ri (f_X7_beginsWith a0 a1 a2 st) (fun x t => k [.int x] t)
  | _ => none
theorem o_X7_beginsWith : ab_one g_X7_beginsWith := by
  intro as st k r h
  unfold g_X7_beginsWith at h ⊢
  split at h
  · exact one_ri h
  · cases h
set_option maxRecDepth 100000 in
theorem e_X7_beginsWith_0 (l0 : Nat) (l1 : Int32) (l2 : Nat) (st : ab_S) : f_X7_beginsWith l0 l1 l2 st =
    ab_rc st l0 7 (
    ab_ri (f_X7_has l0 l1 st) fun x2 s1 =>
    if x2 = 0
    then ab_z (0 : Int32) (some (some (.int (0 : Int32)), s1))
    else Option.bind (ab_gI s1 l2 6 1) fun x3 =>
      ab_ri (f_X7_lengthAt l0 l1 s1) fun x5 s4 =>
      if x3 ≤ x5
      then L_X7_beginsWith_24 l0 l1 l2 (0 : Int32) s4
      else ab_z (0 : Int32) (some (some (.int (0 : Int32)), s4))) := congrArg (ab_rc st l0 7) ((lm_eq one_X7_beginsWith 0 _ _ _).trans rfl)
set_option maxRecDepth 100000 in
theorem e_X7_beginsWith_24 (l0 : Nat) (l1 : Int32) (l2 : Nat) (l3 : Int32) (st : ab_S) : L_X7_beginsWith_24 l0 l1 l2 l3 st =
    Option.bind (ab_gI st l2 6 1) fun x1 =>
    if x1 ≤ l3
    then ab_z (1 : Int32) (some (some (.int (1 : Int32)), st))
    else ab_ri (f_X7_signAt l0 l1 l3 st) fun x3 s2 =>
      ab_ri (f_X6_at l2 l3 s2) fun x5 s4 =>
      if x3 = x5
      then L_X7_beginsWith_24 l0 l1 l2 (l3 + (1 : Int32)) s4
      else ab_z (0 : Int32) (some (some (.int (0 : Int32)), s4)) := (lm_eq one_X7_beginsWith 24 _ _ _).trans rfl
def c_X10_rankFound : List (Nat × ab_I) := [(0, .aload_n 1, 1, .null, 1),
  (1, .iload_n 2, 1, .null, 2),
  (2, .invokevirtual 147, 3, .null, 0),
  (5, .lstore 4, 2, .null, 4),
  (7, .aload_n 0, 1, .null, 0),
  (8, .getfield 205, 3, .null, 0),
  (11, .istore 6, 2, .null, 6),
  (13, .aload_n 0, 1, .null, 0),
  (14, .getfield 205, 3, .null, 0),
  (17, .iconst 1, 1, (.int (1)), 0),
  (18, .isub, 1, .null, 0),
  (19, .istore 7, 2, .null, 7),
  (21, .iload 7, 2, .null, 7),
  (23, .ifCond .lt (30), 3, .null, 53),
  (26, .aload_n 1, 1, .null, 1),
  (27, .aload_n 0, 1, .null, 0),
  (28, .getfield 66, 3, .null, 0),
  (31, .iload 7, 2, .null, 7),
  (33, .iaload, 1, .null, 0),
  (34, .invokevirtual 147, 3, .null, 0),
  (37, .lload 4, 2, .null, 4),
  (39, .lcmp, 1, .null, 0),
  (40, .ifCond .le (13), 3, .null, 53),
  (43, .iload 7, 2, .null, 7),
  (45, .istore 6, 2, .null, 6),
  (47, .iinc 7 (-1), 3, (.int (-1)), 7),
  (50, .goto (-29), 3, .null, 21),
  (53, .iload 6, 2, .null, 6),
  (55, .iload_n 3, 1, .null, 3),
  (56, .if_icmp .ge (11), 3, .null, 67),
  (59, .iload 6, 2, .null, 6),
  (61, .sipush (200), 3, (.int (200)), 0),
  (64, .if_icmp .lt (4), 3, .null, 68),
  (67, .return_, 1, .null, 0),
  (68, .aload_n 0, 1, .null, 0),
  (69, .getfield 205, 3, .null, 0),
  (72, .iload_n 3, 1, .null, 3),
  (73, .if_icmp .ge (23), 3, .null, 96),
  (76, .aload_n 0, 1, .null, 0),
  (77, .getfield 205, 3, .null, 0),
  (80, .sipush (200), 3, (.int (200)), 0),
  (83, .if_icmp .ge (13), 3, .null, 96),
  (86, .aload_n 0, 1, .null, 0),
  (87, .dup, 1, .null, 0),
  (88, .getfield 205, 3, .null, 0),
  (91, .iconst 1, 1, (.int (1)), 0),
  (92, .iadd, 1, .null, 0),
  (93, .putfield 205, 3, .null, 0),
  (96, .aload_n 0, 1, .null, 0),
  (97, .getfield 205, 3, .null, 0),
  (100, .iconst 1, 1, (.int (1)), 0),
  (101, .isub, 1, .null, 0),
  (102, .istore 7, 2, .null, 7),
  (104, .iload 7, 2, .null, 7),
  (106, .iload 6, 2, .null, 6),
  (108, .if_icmp .le (25), 3, .null, 133),
  (111, .aload_n 0, 1, .null, 0),
  (112, .getfield 66, 3, .null, 0),
  (115, .iload 7, 2, .null, 7),
  (117, .aload_n 0, 1, .null, 0),
  (118, .getfield 66, 3, .null, 0),
  (121, .iload 7, 2, .null, 7),
  (123, .iconst 1, 1, (.int (1)), 0),
  (124, .isub, 1, .null, 0),
  (125, .iaload, 1, .null, 0),
  (126, .iastore, 1, .null, 0),
  (127, .iinc 7 (-1), 3, (.int (-1)), 7),
  (130, .goto (-26), 3, .null, 104),
  (133, .aload_n 0, 1, .null, 0),
  (134, .getfield 66, 3, .null, 0),
  (137, .iload 6, 2, .null, 6),
  (139, .iload_n 2, 1, .null, 2),
  (140, .iastore, 1, .null, 0),
  (141, .return_, 1, .null, 0)]
noncomputable def m_X10_rankFound : ab_M := (c_X10_rankFound, [(0, [0, 1, 2, 3]), (21, [0, 1, 2, 3, 4, 6, 7]), (53, [0, 2, 3, 6]), (96, [0, 2, 6]), (104, [0, 2, 6, 7])],
  [(66, 10, 9, 3), (205, 10, 10, 0)],
  [],
  [(147, 1, 2, g_X7_outAt)],
  [], 8, 0)
theorem one_X10_rankFound : ab_oneM m_X10_rankFound := List.forall_mem_cons.mpr ⟨o_X7_outAt, fun _ h => absurd h List.not_mem_nil⟩
noncomputable def f_X10_rankFound (l0 : Nat) (l1 : Nat) (l2 : Int32) (l3 : Int32) (st : ab_S) : Option ab_R := ab_rc st l0 10 (ab_lim m_X10_rankFound 0 [.ref l0, .ref l1, .int l2, .int l3] [] st)
noncomputable def L_X10_rankFound_21 (l0 : Nat) (l1 : Nat) (l2 : Int32) (l3 : Int32) (l4 : Int64) (l6 : Int32) (l7 : Int32) (st : ab_S) : Option ab_R := ab_lim m_X10_rankFound 21 [.ref l0, .ref l1, .int l2, .int l3, .long l4, .int l6, .int l7] [] st
noncomputable def L_X10_rankFound_53 (l0 : Nat) (l2 : Int32) (l3 : Int32) (l6 : Int32) (st : ab_S) : Option ab_R := ab_lim m_X10_rankFound 53 [.ref l0, .int l2, .int l3, .int l6] [] st
noncomputable def L_X10_rankFound_96 (l0 : Nat) (l2 : Int32) (l6 : Int32) (st : ab_S) : Option ab_R := ab_lim m_X10_rankFound 96 [.ref l0, .int l2, .int l6] [] st
noncomputable def L_X10_rankFound_104 (l0 : Nat) (l2 : Int32) (l6 : Int32) (l7 : Int32) (st : ab_S) : Option ab_R := ab_lim m_X10_rankFound 104 [.ref l0, .int l2, .int l6, .int l7] [] st
noncomputable def g_X10_rankFound : ab_G := fun as st k => match as with
  | [.ref a0, .ref a1, .int a2, .int a3] => ab_rv (f_X10_rankFound a0 a1 a2 a3 st) (fun t => k [] t)
  | _ => none
theorem o_X10_rankFound : ab_one g_X10_rankFound := by
  intro as st k r h
  unfold g_X10_rankFound at h ⊢
  split at h
  · exact one_rv h
  · cases h
set_option maxRecDepth 100000 in
theorem e_X10_rankFound_0 (l0 : Nat) (l1 : Nat) (l2 : Int32) (l3 : Int32) (st : ab_S) : f_X10_rankFound l0 l1 l2 l3 st =
    ab_rc st l0 10 (
    ab_rl (f_X7_outAt l1 l2 st) fun x2 s1 =>
    Option.bind (ab_gI s1 l0 10 10) fun x3 =>
    Option.bind (ab_gI s1 l0 10 10) fun x4 =>
    L_X10_rankFound_21 l0 l1 l2 l3 x2 x3 (x4 - (1 : Int32)) s1) := congrArg (ab_rc st l0 10) ((lm_eq one_X10_rankFound 0 _ _ _).trans rfl)
set_option maxRecDepth 100000 in
theorem e_X10_rankFound_21 (l0 : Nat) (l1 : Nat) (l2 : Int32) (l3 : Int32) (l4 : Int64) (l6 : Int32) (l7 : Int32) (st : ab_S) : L_X10_rankFound_21 l0 l1 l2 l3 l4 l6 l7 st =
    if l7 < 0
    then L_X10_rankFound_53 l0 l2 l3 l6 st
    else Option.bind (ab_gR st l0 10 9) fun x1 =>
      Option.bind (ab_rI st x1 l7) fun x2 =>
      ab_rl (f_X7_outAt l1 x2 st) fun x4 s3 =>
      if (lg_cmp x4 l4) ≤ 0
      then L_X10_rankFound_53 l0 l2 l3 l6 s3
      else L_X10_rankFound_21 l0 l1 l2 l3 l4 l7 (l7 + (-1 : Int32)) s3 := (lm_eq one_X10_rankFound 21 _ _ _).trans rfl
set_option maxRecDepth 100000 in
theorem e_X10_rankFound_53 (l0 : Nat) (l2 : Int32) (l3 : Int32) (l6 : Int32) (st : ab_S) : L_X10_rankFound_53 l0 l2 l3 l6 st =
    if l3 ≤ l6
    then some (none, st)
    else if l6 < (200 : Int32)
      then Option.bind (ab_gI st l0 10 10) fun x1 =>
        if l3 ≤ x1
        then L_X10_rankFound_96 l0 l2 l6 st
        else Option.bind (ab_gI st l0 10 10) fun x2 =>
          if (200 : Int32) ≤ x2
          then L_X10_rankFound_96 l0 l2 l6 st
          else Option.bind (ab_gI st l0 10 10) fun x3 =>
            Option.bind (ab_pI st l0 10 10 (x3 + (1 : Int32))) fun s4 =>
            L_X10_rankFound_96 l0 l2 l6 s4
      else some (none, st) := (lm_eq one_X10_rankFound 53 _ _ _).trans rfl
set_option maxRecDepth 100000 in
theorem e_X10_rankFound_96 (l0 : Nat) (l2 : Int32) (l6 : Int32) (st : ab_S) : L_X10_rankFound_96 l0 l2 l6 st =
    Option.bind (ab_gI st l0 10 10) fun x1 =>
    L_X10_rankFound_104 l0 l2 l6 (x1 - (1 : Int32)) st := (lm_eq one_X10_rankFound 96 _ _ _).trans rfl
set_option maxRecDepth 100000 in
theorem e_X10_rankFound_104 (l0 : Nat) (l2 : Int32) (l6 : Int32) (l7 : Int32) (st : ab_S) : L_X10_rankFound_104 l0 l2 l6 l7 st =
    if l7 ≤ l6
    then Option.bind (ab_gR st l0 10 9) fun x1 =>
      Option.bind (ab_wI st x1 l6 l2) fun s2 =>
      some (none, s2)
    else Option.bind (ab_gR st l0 10 9) fun x3 =>
      Option.bind (ab_gR st l0 10 9) fun x4 =>
      Option.bind (ab_rI st x4 (l7 - (1 : Int32))) fun x5 =>
      Option.bind (ab_wI st x3 l7 x5) fun s6 =>
      L_X10_rankFound_104 l0 l2 l6 (l7 + (-1 : Int32)) s6 := (lm_eq one_X10_rankFound 104 _ _ _).trans rfl
def c_X10_putFound : List (Nat × ab_I) := [(0, .aload_n 0, 1, .null, 0),
  (1, .getfield 205, 3, .null, 0),
  (4, .sipush (200), 3, (.int (200)), 0),
  (7, .if_icmp .ge (23), 3, .null, 30),
  (10, .aload_n 0, 1, .null, 0),
  (11, .getfield 66, 3, .null, 0),
  (14, .aload_n 0, 1, .null, 0),
  (15, .getfield 205, 3, .null, 0),
  (18, .iload_n 1, 1, .null, 1),
  (19, .iastore, 1, .null, 0),
  (20, .aload_n 0, 1, .null, 0),
  (21, .dup, 1, .null, 0),
  (22, .getfield 205, 3, .null, 0),
  (25, .iconst 1, 1, (.int (1)), 0),
  (26, .iadd, 1, .null, 0),
  (27, .putfield 205, 3, .null, 0),
  (30, .return_, 1, .null, 0)]
noncomputable def m_X10_putFound : ab_M := (c_X10_putFound, [(0, [0, 1])],
  [(66, 10, 9, 3), (205, 10, 10, 0)],
  [],
  [],
  [], 2, 0)
theorem one_X10_putFound : ab_oneM m_X10_putFound := fun _ h => absurd h List.not_mem_nil
noncomputable def f_X10_putFound (l0 : Nat) (l1 : Int32) (st : ab_S) : Option ab_R := ab_rc st l0 10 (ab_lim m_X10_putFound 0 [.ref l0, .int l1] [] st)
noncomputable def g_X10_putFound : ab_G := fun as st k => match as with
  | [.ref a0, .int a1] => ab_rv (f_X10_putFound a0 a1 st) (fun t => k [] t)
  | _ => none
theorem o_X10_putFound : ab_one g_X10_putFound := by
  intro as st k r h
  unfold g_X10_putFound at h ⊢
  split at h
  · exact one_rv h
  · cases h
set_option maxRecDepth 100000 in
theorem e_X10_putFound_0 (l0 : Nat) (l1 : Int32) (st : ab_S) : f_X10_putFound l0 l1 st =
    ab_rc st l0 10 (
    Option.bind (ab_gI st l0 10 10) fun x1 =>
    if (200 : Int32) ≤ x1
    then some (none, st)
    else Option.bind (ab_gR st l0 10 9) fun x2 =>
      Option.bind (ab_gI st l0 10 10) fun x3 =>
      Option.bind (ab_wI st x2 x3 l1) fun s4 =>
      Option.bind (ab_gI s4 l0 10 10) fun x5 =>
      Option.bind (ab_pI s4 l0 10 10 (x5 + (1 : Int32))) fun s6 =>
      some (none, s6)) := congrArg (ab_rc st l0 10) ((lm_eq one_X10_putFound 0 _ _ _).trans rfl)
def c_X10_keepBeginning : List (Nat × ab_I) := [(0, .aload_n 0, 1, .null, 0),
  (1, .invokevirtual 91, 3, .null, 0),
  (4, .astore 4, 2, .null, 4),
  (6, .aload_n 0, 1, .null, 0),
  (7, .getfield 11, 3, .null, 0),
  (10, .iload_n 1, 1, .null, 1),
  (11, .aaload, 1, .null, 0),
  (12, .getfield 109, 3, .null, 0),
  (15, .ifCond .eq (6), 3, .null, 21),
  (18, .bipush (-4), 2, (.int (-4)), 0),
  (20, .ireturn, 1, .null, 0),
  (21, .aload_n 0, 1, .null, 0),
  (22, .getfield 11, 3, .null, 0),
  (25, .iload_n 1, 1, .null, 1),
  (26, .aaload, 1, .null, 0),
  (27, .getfield 99, 3, .null, 0),
  (30, .astore 5, 2, .null, 5),
  (32, .aload_n 0, 1, .null, 0),
  (33, .iconst 0, 1, (.int (0)), 0),
  (34, .putfield 205, 3, .null, 0),
  (37, .aload 5, 2, .null, 5),
  (39, .aload 4, 2, .null, 4),
  (41, .invokevirtual 183, 3, .null, 0),
  (44, .istore 6, 2, .null, 6),
  (46, .iload 6, 2, .null, 6),
  (48, .istore 7, 2, .null, 7),
  (50, .iload 7, 2, .null, 7),
  (52, .aload 5, 2, .null, 5),
  (54, .getfield 103, 3, .null, 0),
  (57, .if_icmp .ge (43), 3, .null, 100),
  (60, .aload 5, 2, .null, 5),
  (62, .iload 7, 2, .null, 7),
  (64, .aload 4, 2, .null, 4),
  (66, .invokevirtual 249, 3, .null, 0),
  (69, .ifCond .eq (31), 3, .null, 100),
  (72, .iload_n 3, 1, .null, 3),
  (73, .ifCond .eq (15), 3, .null, 88),
  (76, .aload_n 0, 1, .null, 0),
  (77, .aload 5, 2, .null, 5),
  (79, .iload 7, 2, .null, 7),
  (81, .iload_n 2, 1, .null, 2),
  (82, .invokevirtual 253, 3, .null, 0),
  (85, .goto (9), 3, .null, 94),
  (88, .aload_n 0, 1, .null, 0),
  (89, .iload 7, 2, .null, 7),
  (91, .invokevirtual 257, 3, .null, 0),
  (94, .iinc 7 (1), 3, (.int (1)), 7),
  (97, .goto (-47), 3, .null, 50),
  (100, .aload_n 0, 1, .null, 0),
  (101, .getfield 205, 3, .null, 0),
  (104, .ireturn, 1, .null, 0)]
noncomputable def m_X10_keepBeginning : ab_M := (c_X10_keepBeginning, [(0, [0, 1, 2, 3]), (50, [0, 2, 3, 4, 5, 7]), (94, [0, 2, 3, 4, 5, 7]), (100, [0])],
  [(11, 10, 0, 3), (99, 0, 0, 3), (103, 7, 3, 0), (109, 0, 2, 1), (205, 10, 10, 0)],
  [],
  [(91, 1, 1, g_X10_takeCollected), (183, 1, 2, g_X7_leastNotBelow), (249, 1, 3, g_X7_beginsWith), (253, 1, 4, g_X10_rankFound), (257, 1, 2, g_X10_putFound)],
  [], 8, 1)
theorem one_X10_keepBeginning : ab_oneM m_X10_keepBeginning := List.forall_mem_cons.mpr ⟨o_X10_takeCollected, List.forall_mem_cons.mpr ⟨o_X7_leastNotBelow, List.forall_mem_cons.mpr ⟨o_X7_beginsWith, List.forall_mem_cons.mpr ⟨o_X10_rankFound, List.forall_mem_cons.mpr ⟨o_X10_putFound, fun _ h => absurd h List.not_mem_nil⟩⟩⟩⟩⟩
noncomputable def f_X10_keepBeginning (l0 : Nat) (l1 : Int32) (l2 : Int32) (l3 : Int32) (st : ab_S) : Option ab_R := ab_rc st l0 10 (ab_lim m_X10_keepBeginning 0 [.ref l0, .int l1, .int l2, .int l3] [] st)
noncomputable def L_X10_keepBeginning_50 (l0 : Nat) (l2 : Int32) (l3 : Int32) (l4 : Nat) (l5 : Nat) (l7 : Int32) (st : ab_S) : Option ab_R := ab_lim m_X10_keepBeginning 50 [.ref l0, .int l2, .int l3, .ref l4, .ref l5, .int l7] [] st
noncomputable def L_X10_keepBeginning_94 (l0 : Nat) (l2 : Int32) (l3 : Int32) (l4 : Nat) (l5 : Nat) (l7 : Int32) (st : ab_S) : Option ab_R := ab_lim m_X10_keepBeginning 94 [.ref l0, .int l2, .int l3, .ref l4, .ref l5, .int l7] [] st
noncomputable def L_X10_keepBeginning_100 (l0 : Nat) (st : ab_S) : Option ab_R := ab_lim m_X10_keepBeginning 100 [.ref l0] [] st
noncomputable def g_X10_keepBeginning : ab_G := fun as st k => match as with
  | [.ref a0, .int a1, .int a2, .int a3] => ab_ri (f_X10_keepBeginning a0 a1 a2 a3 st) (fun x t => k [.int x] t)
  | _ => none
theorem o_X10_keepBeginning : ab_one g_X10_keepBeginning := by
  intro as st k r h
  unfold g_X10_keepBeginning at h ⊢
  split at h
  · exact one_ri h
  · cases h
set_option maxRecDepth 100000 in
theorem e_X10_keepBeginning_0 (l0 : Nat) (l1 : Int32) (l2 : Int32) (l3 : Int32) (st : ab_S) : f_X10_keepBeginning l0 l1 l2 l3 st =
    ab_rc st l0 10 (
    ab_rr (f_X10_takeCollected l0 st) fun x2 s1 =>
    Option.bind (ab_gR s1 l0 10 0) fun x3 =>
    Option.bind (ab_rR s1 x3 l1) fun x4 =>
    Option.bind (ab_gI s1 x4 0 2) fun x5 =>
    if x5 = 0
    then Option.bind (ab_gR s1 l0 10 0) fun x6 =>
      Option.bind (ab_rR s1 x6 l1) fun x7 =>
      Option.bind (ab_gR s1 x7 0 0) fun x8 =>
      Option.bind (ab_pI s1 l0 10 10 (0 : Int32)) fun s9 =>
      ab_ri (f_X7_leastNotBelow x8 x2 s9) fun x11 s10 =>
      L_X10_keepBeginning_50 l0 l2 l3 x2 x8 x11 s10
    else some (some (.int (-4 : Int32)), s1)) := congrArg (ab_rc st l0 10) ((lm_eq one_X10_keepBeginning 0 _ _ _).trans rfl)
set_option maxRecDepth 100000 in
theorem e_X10_keepBeginning_50 (l0 : Nat) (l2 : Int32) (l3 : Int32) (l4 : Nat) (l5 : Nat) (l7 : Int32) (st : ab_S) : L_X10_keepBeginning_50 l0 l2 l3 l4 l5 l7 st =
    Option.bind (ab_gI st l5 7 3) fun x1 =>
    if x1 ≤ l7
    then L_X10_keepBeginning_100 l0 st
    else ab_ri (f_X7_beginsWith l5 l7 l4 st) fun x3 s2 =>
      if x3 = 0
      then L_X10_keepBeginning_100 l0 s2
      else if l3 = 0
        then ab_rv (f_X10_putFound l0 l7 s2) fun s4 =>
          L_X10_keepBeginning_94 l0 l2 l3 l4 l5 l7 s4
        else ab_rv (f_X10_rankFound l0 l5 l7 l2 s2) fun s5 =>
          L_X10_keepBeginning_94 l0 l2 l3 l4 l5 l7 s5 := (lm_eq one_X10_keepBeginning 50 _ _ _).trans rfl
set_option maxRecDepth 100000 in
theorem e_X10_keepBeginning_94 (l0 : Nat) (l2 : Int32) (l3 : Int32) (l4 : Nat) (l5 : Nat) (l7 : Int32) (st : ab_S) : L_X10_keepBeginning_94 l0 l2 l3 l4 l5 l7 st =
    L_X10_keepBeginning_50 l0 l2 l3 l4 l5 (l7 + (1 : Int32)) st := (lm_eq one_X10_keepBeginning 94 _ _ _).trans rfl
set_option maxRecDepth 100000 in
theorem e_X10_keepBeginning_100 (l0 : Nat) (st : ab_S) : L_X10_keepBeginning_100 l0 st =
    Option.bind (ab_gI st l0 10 10) fun x1 =>
    some (some (.int x1), st) := (lm_eq one_X10_keepBeginning 100 _ _ _).trans rfl
