def c_X8_init : List (Nat × ab_I) := [(0, .aload_n 0, 1, .null, 0),
  (1, .invokespecial 3, 3, .null, 0),
  (4, .aload_n 0, 1, .null, 0),
  (5, .sipush (2401), 3, (.int (2401)), 0),
  (8, .newarray .int, 2, .null, 0),
  (10, .putfield 9, 3, .null, 0),
  (13, .aload_n 0, 1, .null, 0),
  (14, .sipush (2401), 3, (.int (2401)), 0),
  (17, .newarray .int, 2, .null, 0),
  (19, .putfield 15, 3, .null, 0),
  (22, .aload_n 0, 1, .null, 0),
  (23, .sipush (2401), 3, (.int (2401)), 0),
  (26, .newarray .int, 2, .null, 0),
  (28, .putfield 18, 3, .null, 0),
  (31, .aload_n 0, 1, .null, 0),
  (32, .sipush (2401), 3, (.int (2401)), 0),
  (35, .newarray .long, 2, .null, 0),
  (37, .putfield 21, 3, .null, 0),
  (40, .aload_n 0, 1, .null, 0),
  (41, .sipush (2401), 3, (.int (2401)), 0),
  (44, .newarray .long, 2, .null, 0),
  (46, .putfield 25, 3, .null, 0),
  (49, .aload_n 0, 1, .null, 0),
  (50, .sipush (2401), 3, (.int (2401)), 0),
  (53, .newarray .int, 2, .null, 0),
  (55, .putfield 28, 3, .null, 0),
  (58, .aload_n 0, 1, .null, 0),
  (59, .sipush (2401), 3, (.int (2401)), 0),
  (62, .newarray .int, 2, .null, 0),
  (64, .putfield 31, 3, .null, 0),
  (67, .aload_n 0, 1, .null, 0),
  (68, .sipush (2401), 3, (.int (2401)), 0),
  (71, .newarray .int, 2, .null, 0),
  (73, .putfield 34, 3, .null, 0),
  (76, .aload_n 0, 1, .null, 0),
  (77, .sipush (2401), 3, (.int (2401)), 0),
  (80, .newarray .int, 2, .null, 0),
  (82, .putfield 37, 3, .null, 0),
  (85, .aload_n 0, 1, .null, 0),
  (86, .sipush (2401), 3, (.int (2401)), 0),
  (89, .newarray .int, 2, .null, 0),
  (91, .putfield 40, 3, .null, 0),
  (94, .aload_n 0, 1, .null, 0),
  (95, .sipush (2401), 3, (.int (2401)), 0),
  (98, .newarray .int, 2, .null, 0),
  (100, .putfield 43, 3, .null, 0),
  (103, .aload_n 0, 1, .null, 0),
  (104, .sipush (4096), 3, (.int (4096)), 0),
  (107, .newarray .int, 2, .null, 0),
  (109, .putfield 46, 3, .null, 0),
  (112, .aload_n 0, 1, .null, 0),
  (113, .bipush (13), 2, (.int (13)), 0),
  (115, .newarray .int, 2, .null, 0),
  (117, .putfield 49, 3, .null, 0),
  (120, .return_, 1, .null, 0)]
noncomputable def m_X8_init : ab_M := (c_X8_init, [(0, [0])],
  [(9, 8, 0, 3), (15, 8, 1, 3), (18, 8, 2, 3), (21, 8, 3, 3), (25, 8, 4, 3), (28, 8, 5, 3), (31, 8, 6, 3), (34, 8, 7, 3), (37, 8, 8, 3), (40, 8, 9, 3), (43, 8, 10, 3), (46, 8, 11, 3), (49, 8, 12, 3)],
  [],
  [(3, 2, 1, g_obj)],
  [], 1, 0)
theorem one_X8_init : ab_oneM m_X8_init := List.forall_mem_cons.mpr ⟨o_obj, fun _ h => absurd h List.not_mem_nil⟩
noncomputable def f_X8_init (l0 : Nat) (st : ab_S) : Option ab_R := ab_rc st l0 8 (ab_lim m_X8_init 0 [.ref l0] [] st)
noncomputable def g_X8_init : ab_G := fun as st k => match as with
  | [.ref a0] => ab_rv (f_X8_init a0 st) (fun t => k [] t)
  | _ => none
theorem o_X8_init : ab_one g_X8_init := by
  intro as st k r h
  unfold g_X8_init at h ⊢
  split at h
  · exact one_rv h
  · cases h
set_option maxRecDepth 100000 in
theorem e_X8_init_0 (l0 : Nat) (st : ab_S) : f_X8_init l0 st =
    ab_rc st l0 8 (
    if l0 = 0 then none else
    ab_newn st (2401 : Int32) 1 fun o1 s2 =>
    Option.bind (ab_pR s2 l0 8 0 o1) fun s3 =>
    ab_newn s3 (2401 : Int32) 1 fun o4 s5 =>
    Option.bind (ab_pR s5 l0 8 1 o4) fun s6 =>
    ab_newn s6 (2401 : Int32) 1 fun o7 s8 =>
    Option.bind (ab_pR s8 l0 8 2 o7) fun s9 =>
    ab_newn s9 (2401 : Int32) 2 fun o10 s11 =>
    Option.bind (ab_pR s11 l0 8 3 o10) fun s12 =>
    ab_newn s12 (2401 : Int32) 2 fun o13 s14 =>
    Option.bind (ab_pR s14 l0 8 4 o13) fun s15 =>
    ab_newn s15 (2401 : Int32) 1 fun o16 s17 =>
    Option.bind (ab_pR s17 l0 8 5 o16) fun s18 =>
    ab_newn s18 (2401 : Int32) 1 fun o19 s20 =>
    Option.bind (ab_pR s20 l0 8 6 o19) fun s21 =>
    ab_newn s21 (2401 : Int32) 1 fun o22 s23 =>
    Option.bind (ab_pR s23 l0 8 7 o22) fun s24 =>
    ab_newn s24 (2401 : Int32) 1 fun o25 s26 =>
    Option.bind (ab_pR s26 l0 8 8 o25) fun s27 =>
    ab_newn s27 (2401 : Int32) 1 fun o28 s29 =>
    Option.bind (ab_pR s29 l0 8 9 o28) fun s30 =>
    ab_newn s30 (2401 : Int32) 1 fun o31 s32 =>
    Option.bind (ab_pR s32 l0 8 10 o31) fun s33 =>
    ab_newn s33 (4096 : Int32) 1 fun o34 s35 =>
    Option.bind (ab_pR s35 l0 8 11 o34) fun s36 =>
    ab_newn s36 (13 : Int32) 1 fun o37 s38 =>
    Option.bind (ab_pR s38 l0 8 12 o37) fun s39 =>
    some (none, s39)) := congrArg (ab_rc st l0 8) ((lm_eq one_X8_init 0 _ _ _).trans rfl)
def c_X3_init : List (Nat × ab_I) := [(0, .aload_n 0, 1, .null, 0),
  (1, .invokespecial 3, 3, .null, 0),
  (4, .aload_n 0, 1, .null, 0),
  (5, .bipush (12), 2, (.int (12)), 0),
  (7, .newarray .int, 2, .null, 0),
  (9, .putfield 9, 3, .null, 0),
  (12, .aload_n 0, 1, .null, 0),
  (13, .bipush (13), 2, (.int (13)), 0),
  (15, .newarray .int, 2, .null, 0),
  (17, .putfield 15, 3, .null, 0),
  (20, .aload_n 0, 1, .null, 0),
  (21, .bipush (13), 2, (.int (13)), 0),
  (23, .newarray .int, 2, .null, 0),
  (25, .putfield 18, 3, .null, 0),
  (28, .aload_n 0, 1, .null, 0),
  (29, .bipush (13), 2, (.int (13)), 0),
  (31, .newarray .long, 2, .null, 0),
  (33, .putfield 21, 3, .null, 0),
  (36, .return_, 1, .null, 0)]
noncomputable def m_X3_init : ab_M := (c_X3_init, [(0, [0])],
  [(9, 3, 0, 3), (15, 3, 1, 3), (18, 3, 2, 3), (21, 3, 3, 3)],
  [],
  [(3, 2, 1, g_obj)],
  [], 1, 0)
theorem one_X3_init : ab_oneM m_X3_init := List.forall_mem_cons.mpr ⟨o_obj, fun _ h => absurd h List.not_mem_nil⟩
noncomputable def f_X3_init (l0 : Nat) (st : ab_S) : Option ab_R := ab_rc st l0 3 (ab_lim m_X3_init 0 [.ref l0] [] st)
noncomputable def g_X3_init : ab_G := fun as st k => match as with
  | [.ref a0] => ab_rv (f_X3_init a0 st) (fun t => k [] t)
  | _ => none
theorem o_X3_init : ab_one g_X3_init := by
  intro as st k r h
  unfold g_X3_init at h ⊢
  split at h
  · exact one_rv h
  · cases h
set_option maxRecDepth 100000 in
theorem e_X3_init_0 (l0 : Nat) (st : ab_S) : f_X3_init l0 st =
    ab_rc st l0 3 (
    if l0 = 0 then none else
    ab_newn st (12 : Int32) 1 fun o1 s2 =>
    Option.bind (ab_pR s2 l0 3 0 o1) fun s3 =>
    ab_newn s3 (13 : Int32) 1 fun o4 s5 =>
    Option.bind (ab_pR s5 l0 3 1 o4) fun s6 =>
    ab_newn s6 (13 : Int32) 1 fun o7 s8 =>
    Option.bind (ab_pR s8 l0 3 2 o7) fun s9 =>
    ab_newn s9 (13 : Int32) 2 fun o10 s11 =>
    Option.bind (ab_pR s11 l0 3 3 o10) fun s12 =>
    some (none, s12)) := congrArg (ab_rc st l0 3) ((lm_eq one_X3_init 0 _ _ _).trans rfl)
def c_X4_init : List (Nat × ab_I) := [(0, .aload_n 0, 1, .null, 0),
  (1, .invokespecial 1, 3, .null, 0),
  (4, .return_, 1, .null, 0)]
noncomputable def m_X4_init : ab_M := (c_X4_init, [(0, [0])],
  [],
  [],
  [(1, 2, 1, g_obj)],
  [], 1, 0)
theorem one_X4_init : ab_oneM m_X4_init := List.forall_mem_cons.mpr ⟨o_obj, fun _ h => absurd h List.not_mem_nil⟩
noncomputable def f_X4_init (l0 : Nat) (st : ab_S) : Option ab_R := ab_rc st l0 4 (ab_lim m_X4_init 0 [.ref l0] [] st)
noncomputable def g_X4_init : ab_G := fun as st k => match as with
  | [.ref a0] => ab_rv (f_X4_init a0 st) (fun t => k [] t)
  | _ => none
theorem o_X4_init : ab_one g_X4_init := by
  intro as st k r h
  unfold g_X4_init at h ⊢
  split at h
  · exact one_rv h
  · cases h
set_option maxRecDepth 100000 in
theorem e_X4_init_0 (l0 : Nat) (st : ab_S) : f_X4_init l0 st =
    ab_rc st l0 4 (
    if l0 = 0 then none else
    some (none, st)) := congrArg (ab_rc st l0 4) ((lm_eq one_X4_init 0 _ _ _).trans rfl)
def c_X5_init : List (Nat × ab_I) := [(0, .aload_n 0, 1, .null, 0),
  (1, .invokespecial 3, 3, .null, 0),
  (4, .aload_n 0, 1, .null, 0),
  (5, .sipush (256), 3, (.int (256)), 0),
  (8, .newarray .int, 2, .null, 0),
  (10, .putfield 9, 3, .null, 0),
  (13, .aload_n 0, 1, .null, 0),
  (14, .bipush (24), 2, (.int (24)), 0),
  (16, .newarray .int, 2, .null, 0),
  (18, .putfield 15, 3, .null, 0),
  (21, .aload_n 0, 1, .null, 0),
  (22, .sipush (256), 3, (.int (256)), 0),
  (25, .newarray .int, 2, .null, 0),
  (27, .putfield 18, 3, .null, 0),
  (30, .aload_n 0, 1, .null, 0),
  (31, .iconst 5, 1, (.int (5)), 0),
  (32, .anewarray 21, 3, .null, 0),
  (35, .putfield 23, 3, .null, 0),
  (38, .aload_n 0, 1, .null, 0),
  (39, .iconst 5, 1, (.int (5)), 0),
  (40, .anewarray 21, 3, .null, 0),
  (43, .putfield 27, 3, .null, 0),
  (46, .aload_n 0, 1, .null, 0),
  (47, .new 21, 3, .null, 0),
  (50, .dup, 1, .null, 0),
  (51, .invokespecial 30, 3, .null, 0),
  (54, .putfield 31, 3, .null, 0),
  (57, .iconst 0, 1, (.int (0)), 0),
  (58, .istore_n 1, 1, .null, 1),
  (59, .iload_n 1, 1, .null, 1),
  (60, .iconst 4, 1, (.int (4)), 0),
  (61, .if_icmp .gt (35), 3, .null, 96),
  (64, .aload_n 0, 1, .null, 0),
  (65, .getfield 23, 3, .null, 0),
  (68, .iload_n 1, 1, .null, 1),
  (69, .new 21, 3, .null, 0),
  (72, .dup, 1, .null, 0),
  (73, .invokespecial 30, 3, .null, 0),
  (76, .aastore, 1, .null, 0),
  (77, .aload_n 0, 1, .null, 0),
  (78, .getfield 27, 3, .null, 0),
  (81, .iload_n 1, 1, .null, 1),
  (82, .new 21, 3, .null, 0),
  (85, .dup, 1, .null, 0),
  (86, .invokespecial 30, 3, .null, 0),
  (89, .aastore, 1, .null, 0),
  (90, .iinc 1 (1), 3, (.int (1)), 1),
  (93, .goto (-34), 3, .null, 59),
  (96, .return_, 1, .null, 0)]
noncomputable def m_X5_init : ab_M := (c_X5_init, [(0, [0]), (59, [0, 1])],
  [(9, 5, 0, 3), (15, 5, 1, 3), (18, 5, 2, 3), (23, 5, 3, 3), (27, 5, 4, 3), (31, 5, 5, 3)],
  [(21, 4)],
  [(3, 2, 1, g_obj), (30, 2, 1, g_X4_init)],
  [], 2, 0)
theorem one_X5_init : ab_oneM m_X5_init := List.forall_mem_cons.mpr ⟨o_obj, List.forall_mem_cons.mpr ⟨o_X4_init, fun _ h => absurd h List.not_mem_nil⟩⟩
noncomputable def f_X5_init (l0 : Nat) (st : ab_S) : Option ab_R := ab_rc st l0 5 (ab_lim m_X5_init 0 [.ref l0] [] st)
noncomputable def L_X5_init_59 (l0 : Nat) (l1 : Int32) (st : ab_S) : Option ab_R := ab_lim m_X5_init 59 [.ref l0, .int l1] [] st
noncomputable def g_X5_init : ab_G := fun as st k => match as with
  | [.ref a0] => ab_rv (f_X5_init a0 st) (fun t => k [] t)
  | _ => none
theorem o_X5_init : ab_one g_X5_init := by
  intro as st k r h
  unfold g_X5_init at h ⊢
  split at h
  · exact one_rv h
  · cases h
set_option maxRecDepth 100000 in
theorem e_X5_init_0 (l0 : Nat) (st : ab_S) : f_X5_init l0 st =
    ab_rc st l0 5 (
    if l0 = 0 then none else
    ab_newn st (256 : Int32) 1 fun o1 s2 =>
    Option.bind (ab_pR s2 l0 5 0 o1) fun s3 =>
    ab_newn s3 (24 : Int32) 1 fun o4 s5 =>
    Option.bind (ab_pR s5 l0 5 1 o4) fun s6 =>
    ab_newn s6 (256 : Int32) 1 fun o7 s8 =>
    Option.bind (ab_pR s8 l0 5 2 o7) fun s9 =>
    ab_newn s9 (5 : Int32) 12 fun o10 s11 =>
    Option.bind (ab_pR s11 l0 5 3 o10) fun s12 =>
    ab_newn s12 (5 : Int32) 12 fun o13 s14 =>
    Option.bind (ab_pR s14 l0 5 4 o13) fun s15 =>
    ab_newo s15 4 fun o16 s17 =>
    ab_rv (f_X4_init o16 s17) fun s18 =>
    Option.bind (ab_pR s18 l0 5 5 o16) fun s19 =>
    L_X5_init_59 l0 (0 : Int32) s19) := congrArg (ab_rc st l0 5) ((lm_eq one_X5_init 0 _ _ _).trans rfl)
set_option maxRecDepth 100000 in
theorem e_X5_init_59 (l0 : Nat) (l1 : Int32) (st : ab_S) : L_X5_init_59 l0 l1 st =
    if (4 : Int32) < l1
    then some (none, st)
    else Option.bind (ab_gR st l0 5 3) fun x1 =>
      ab_newo st 4 fun o2 s3 =>
      ab_rv (f_X4_init o2 s3) fun s4 =>
      Option.bind (ab_wR s4 x1 l1 o2) fun s5 =>
      Option.bind (ab_gR s5 l0 5 4) fun x6 =>
      ab_newo s5 4 fun o7 s8 =>
      ab_rv (f_X4_init o7 s8) fun s9 =>
      Option.bind (ab_wR s9 x6 l1 o7) fun s10 =>
      L_X5_init_59 l0 (l1 + (1 : Int32)) s10 := (lm_eq one_X5_init 59 _ _ _).trans rfl
def c_X2_init : List (Nat × ab_I) := [(0, .aload_n 0, 1, .null, 0),
  (1, .invokespecial 3, 3, .null, 0),
  (4, .aload_n 0, 1, .null, 0),
  (5, .bipush (13), 2, (.int (13)), 0),
  (7, .bipush (13), 2, (.int (13)), 0),
  (9, .multianewarray 9 2, 4, .null, 0),
  (13, .putfield 11, 3, .null, 0),
  (16, .return_, 1, .null, 0)]
noncomputable def m_X2_init : ab_M := (c_X2_init, [(0, [0])],
  [(11, 2, 0, 3)],
  [],
  [(3, 2, 1, g_obj)],
  [], 1, 0)
theorem one_X2_init : ab_oneM m_X2_init := List.forall_mem_cons.mpr ⟨o_obj, fun _ h => absurd h List.not_mem_nil⟩
noncomputable def f_X2_init (l0 : Nat) (st : ab_S) : Option ab_R := ab_rc st l0 2 (ab_lim m_X2_init 0 [.ref l0] [] st)
noncomputable def g_X2_init : ab_G := fun as st k => match as with
  | [.ref a0] => ab_rv (f_X2_init a0 st) (fun t => k [] t)
  | _ => none
theorem o_X2_init : ab_one g_X2_init := by
  intro as st k r h
  unfold g_X2_init at h ⊢
  split at h
  · exact one_rv h
  · cases h
set_option maxRecDepth 100000 in
theorem e_X2_init_0 (l0 : Nat) (st : ab_S) : f_X2_init l0 st =
    ab_rc st l0 2 (
    if l0 = 0 then none else
    ab_newm st (13 : Int32) (13 : Int32) fun o1 s2 =>
    Option.bind (ab_pR s2 l0 2 0 o1) fun s3 =>
    some (none, s3)) := congrArg (ab_rc st l0 2) ((lm_eq one_X2_init 0 _ _ _).trans rfl)
def c_X6_init : List (Nat × ab_I) := [(0, .aload_n 0, 1, .null, 0),
  (1, .invokespecial 3, 3, .null, 0),
  (4, .aload_n 0, 1, .null, 0),
  (5, .iload_n 1, 1, .null, 1),
  (6, .iconst 0, 1, (.int (0)), 0),
  (7, .invokestatic 9, 3, .null, 0),
  (10, .newarray .int, 2, .null, 0),
  (12, .putfield 15, 3, .null, 0),
  (15, .return_, 1, .null, 0)]
noncomputable def m_X6_init : ab_M := (c_X6_init, [(0, [0, 1])],
  [(15, 6, 0, 3)],
  [],
  [(3, 2, 1, g_obj), (9, 0, 2, g_max)],
  [], 2, 0)
theorem one_X6_init : ab_oneM m_X6_init := List.forall_mem_cons.mpr ⟨o_obj, List.forall_mem_cons.mpr ⟨o_max, fun _ h => absurd h List.not_mem_nil⟩⟩
noncomputable def f_X6_init (l0 : Nat) (l1 : Int32) (st : ab_S) : Option ab_R := ab_rc st l0 6 (ab_lim m_X6_init 0 [.ref l0, .int l1] [] st)
noncomputable def g_X6_init : ab_G := fun as st k => match as with
  | [.ref a0, .int a1] => ab_rv (f_X6_init a0 a1 st) (fun t => k [] t)
  | _ => none
theorem o_X6_init : ab_one g_X6_init := by
  intro as st k r h
  unfold g_X6_init at h ⊢
  split at h
  · exact one_rv h
  · cases h
set_option maxRecDepth 100000 in
theorem e_X6_init_0 (l0 : Nat) (l1 : Int32) (st : ab_S) : f_X6_init l0 l1 st =
    ab_rc st l0 6 (
    if l0 = 0 then none else
    ab_newn st (if l1 < (0 : Int32) then (0 : Int32) else l1) 1 fun o1 s2 =>
    Option.bind (ab_pR s2 l0 6 0 o1) fun s3 =>
    some (none, s3)) := congrArg (ab_rc st l0 6) ((lm_eq one_X6_init 0 _ _ _).trans rfl)
def c_X7_init : List (Nat × ab_I) := [(0, .aload_n 0, 1, .null, 0),
  (1, .invokespecial 3, 3, .null, 0),
  (4, .aload_n 0, 1, .null, 0),
  (5, .sipush (200), 3, (.int (200)), 0),
  (8, .newarray .int, 2, .null, 0),
  (10, .putfield 9, 3, .null, 0),
  (13, .aload_n 0, 1, .null, 0),
  (14, .sipush (2400), 3, (.int (2400)), 0),
  (17, .newarray .int, 2, .null, 0),
  (19, .putfield 15, 3, .null, 0),
  (22, .aload_n 0, 1, .null, 0),
  (23, .sipush (200), 3, (.int (200)), 0),
  (26, .newarray .long, 2, .null, 0),
  (28, .putfield 18, 3, .null, 0),
  (31, .return_, 1, .null, 0)]
noncomputable def m_X7_init : ab_M := (c_X7_init, [(0, [0])],
  [(9, 7, 0, 3), (15, 7, 1, 3), (18, 7, 2, 3)],
  [],
  [(3, 2, 1, g_obj)],
  [], 1, 0)
theorem one_X7_init : ab_oneM m_X7_init := List.forall_mem_cons.mpr ⟨o_obj, fun _ h => absurd h List.not_mem_nil⟩
noncomputable def f_X7_init (l0 : Nat) (st : ab_S) : Option ab_R := ab_rc st l0 7 (ab_lim m_X7_init 0 [.ref l0] [] st)
noncomputable def g_X7_init : ab_G := fun as st k => match as with
  | [.ref a0] => ab_rv (f_X7_init a0 st) (fun t => k [] t)
  | _ => none
theorem o_X7_init : ab_one g_X7_init := by
  intro as st k r h
  unfold g_X7_init at h ⊢
  split at h
  · exact one_rv h
  · cases h
set_option maxRecDepth 100000 in
theorem e_X7_init_0 (l0 : Nat) (st : ab_S) : f_X7_init l0 st =
    ab_rc st l0 7 (
    if l0 = 0 then none else
    ab_newn st (200 : Int32) 1 fun o1 s2 =>
    Option.bind (ab_pR s2 l0 7 0 o1) fun s3 =>
    ab_newn s3 (2400 : Int32) 1 fun o4 s5 =>
    Option.bind (ab_pR s5 l0 7 1 o4) fun s6 =>
    ab_newn s6 (200 : Int32) 2 fun o7 s8 =>
    Option.bind (ab_pR s8 l0 7 2 o7) fun s9 =>
    some (none, s9)) := congrArg (ab_rc st l0 7) ((lm_eq one_X7_init 0 _ _ _).trans rfl)
def c_X1_clear : List (Nat × ab_I) := [(0, .aload_n 0, 1, .null, 0),
  (1, .lload_n 1, 1, .null, 1),
  (2, .putfield 41, 3, .null, 0),
  (5, .aload_n 0, 1, .null, 0),
  (6, .iload_n 3, 1, .null, 3),
  (7, .putfield 45, 3, .null, 0),
  (10, .aload_n 0, 1, .null, 0),
  (11, .iconst 0, 1, (.int (0)), 0),
  (12, .putfield 49, 3, .null, 0),
  (15, .aload_n 0, 1, .null, 0),
  (16, .iconst 0, 1, (.int (0)), 0),
  (17, .putfield 52, 3, .null, 0),
  (20, .aload_n 0, 1, .null, 0),
  (21, .iconst 0, 1, (.int (0)), 0),
  (22, .putfield 55, 3, .null, 0),
  (25, .aload_n 0, 1, .null, 0),
  (26, .getfield 9, 3, .null, 0),
  (29, .iconst 0, 1, (.int (0)), 0),
  (30, .iconst 0, 1, (.int (0)), 0),
  (31, .iastore, 1, .null, 0),
  (32, .return_, 1, .null, 0)]
noncomputable def m_X1_clear : ab_M := (c_X1_clear, [(0, [0, 1, 3])],
  [(9, 1, 0, 3), (41, 1, 6, 2), (45, 1, 10, 0), (49, 1, 7, 0), (52, 1, 8, 0), (55, 1, 9, 0)],
  [],
  [],
  [], 4, 0)
theorem one_X1_clear : ab_oneM m_X1_clear := fun _ h => absurd h List.not_mem_nil
noncomputable def f_X1_clear (l0 : Nat) (l1 : Int64) (l3 : Int32) (st : ab_S) : Option ab_R := ab_rc st l0 1 (ab_lim m_X1_clear 0 [.ref l0, .long l1, .int l3] [] st)
noncomputable def g_X1_clear : ab_G := fun as st k => match as with
  | [.ref a0, .long a1, .int a2] => ab_rv (f_X1_clear a0 a1 a2 st) (fun t => k [] t)
  | _ => none
theorem o_X1_clear : ab_one g_X1_clear := by
  intro as st k r h
  unfold g_X1_clear at h ⊢
  split at h
  · exact one_rv h
  · cases h
set_option maxRecDepth 100000 in
theorem e_X1_clear_0 (l0 : Nat) (l1 : Int64) (l3 : Int32) (st : ab_S) : f_X1_clear l0 l1 l3 st =
    ab_rc st l0 1 (
    Option.bind (ab_pJ st l0 1 6 l1) fun s1 =>
    Option.bind (ab_pI s1 l0 1 10 l3) fun s2 =>
    Option.bind (ab_pI s2 l0 1 7 (0 : Int32)) fun s3 =>
    Option.bind (ab_pI s3 l0 1 8 (0 : Int32)) fun s4 =>
    Option.bind (ab_pI s4 l0 1 9 (0 : Int32)) fun s5 =>
    Option.bind (ab_gR s5 l0 1 0) fun x6 =>
    Option.bind (ab_wI s5 x6 (0 : Int32) (0 : Int32)) fun s7 =>
    some (none, s7)) := congrArg (ab_rc st l0 1) ((lm_eq one_X1_clear 0 _ _ _).trans rfl)
def c_X1_putState : List (Nat × ab_I) := [(0, .aload_n 0, 1, .null, 0),
  (1, .getfield 49, 3, .null, 0),
  (4, .sipush (2401), 3, (.int (2401)), 0),
  (7, .if_icmp .lt (5), 3, .null, 12),
  (10, .iconst 0, 1, (.int (0)), 0),
  (11, .ireturn, 1, .null, 0),
  (12, .aload_n 0, 1, .null, 0),
  (13, .getfield 15, 3, .null, 0),
  (16, .aload_n 0, 1, .null, 0),
  (17, .getfield 49, 3, .null, 0),
  (20, .lload_n 1, 1, .null, 1),
  (21, .lastore, 1, .null, 0),
  (22, .aload_n 0, 1, .null, 0),
  (23, .getfield 19, 3, .null, 0),
  (26, .aload_n 0, 1, .null, 0),
  (27, .getfield 49, 3, .null, 0),
  (30, .iload_n 3, 1, .null, 3),
  (31, .iastore, 1, .null, 0),
  (32, .aload_n 0, 1, .null, 0),
  (33, .dup, 1, .null, 0),
  (34, .getfield 55, 3, .null, 0),
  (37, .lload_n 1, 1, .null, 1),
  (38, .ldc2_w 35, 3, (.long (-1)), 0),
  (41, .lcmp, 1, .null, 0),
  (42, .ifCond .ne (7), 3, .null, 49),
  (45, .iconst 0, 1, (.int (0)), 0),
  (46, .goto (4), 3, .null, 50),
  (49, .iconst 1, 1, (.int (1)), 0),
  (50, .iadd, 1, .null, 0),
  (51, .putfield 55, 3, .null, 0),
  (54, .aload_n 0, 1, .null, 0),
  (55, .dup, 1, .null, 0),
  (56, .getfield 49, 3, .null, 0),
  (59, .iconst 1, 1, (.int (1)), 0),
  (60, .iadd, 1, .null, 0),
  (61, .putfield 49, 3, .null, 0),
  (64, .aload_n 0, 1, .null, 0),
  (65, .getfield 9, 3, .null, 0),
  (68, .aload_n 0, 1, .null, 0),
  (69, .getfield 49, 3, .null, 0),
  (72, .aload_n 0, 1, .null, 0),
  (73, .getfield 52, 3, .null, 0),
  (76, .iastore, 1, .null, 0),
  (77, .iconst 1, 1, (.int (1)), 0),
  (78, .ireturn, 1, .null, 0)]
noncomputable def m_X1_putState : ab_M := (c_X1_putState, [(0, [0, 1, 3]), (50, [0])],
  [(9, 1, 0, 3), (15, 1, 1, 3), (19, 1, 2, 3), (49, 1, 7, 0), (52, 1, 8, 0), (55, 1, 9, 0)],
  [],
  [],
  [], 4, 2)
theorem one_X1_putState : ab_oneM m_X1_putState := fun _ h => absurd h List.not_mem_nil
noncomputable def f_X1_putState (l0 : Nat) (l1 : Int64) (l3 : Int32) (st : ab_S) : Option ab_R := ab_rc st l0 1 (ab_lim m_X1_putState 0 [.ref l0, .long l1, .int l3] [] st)
noncomputable def L_X1_putState_50 (l0 : Nat) (t0 : Nat) (t1 : Int32) (t2 : Int32) (st : ab_S) : Option ab_R := ab_lim m_X1_putState 50 [.ref l0] [.int t2, .int t1, .ref t0] st
noncomputable def g_X1_putState : ab_G := fun as st k => match as with
  | [.ref a0, .long a1, .int a2] => ab_ri (f_X1_putState a0 a1 a2 st) (fun x t => k [.int x] t)
  | _ => none
theorem o_X1_putState : ab_one g_X1_putState := by
  intro as st k r h
  unfold g_X1_putState at h ⊢
  split at h
  · exact one_ri h
  · cases h
set_option maxRecDepth 100000 in
theorem e_X1_putState_0 (l0 : Nat) (l1 : Int64) (l3 : Int32) (st : ab_S) : f_X1_putState l0 l1 l3 st =
    ab_rc st l0 1 (
    Option.bind (ab_gI st l0 1 7) fun x1 =>
    if x1 < (2401 : Int32)
    then Option.bind (ab_gR st l0 1 1) fun x2 =>
      Option.bind (ab_gI st l0 1 7) fun x3 =>
      Option.bind (ab_wJ st x2 x3 l1) fun s4 =>
      Option.bind (ab_gR s4 l0 1 2) fun x5 =>
      Option.bind (ab_gI s4 l0 1 7) fun x6 =>
      Option.bind (ab_wI s4 x5 x6 l3) fun s7 =>
      Option.bind (ab_gI s7 l0 1 9) fun x8 =>
      if (lg_cmp l1 (-1 : Int64)) = 0
      then L_X1_putState_50 l0 l0 x8 (0 : Int32) s7
      else L_X1_putState_50 l0 l0 x8 (1 : Int32) s7
    else ab_z (0 : Int32) (some (some (.int (0 : Int32)), st))) := congrArg (ab_rc st l0 1) ((lm_eq one_X1_putState 0 _ _ _).trans rfl)
set_option maxRecDepth 100000 in
theorem e_X1_putState_50 (l0 : Nat) (t0 : Nat) (t1 : Int32) (t2 : Int32) (st : ab_S) : L_X1_putState_50 l0 t0 t1 t2 st =
    Option.bind (ab_pI st t0 1 9 (t1 + t2)) fun s1 =>
    Option.bind (ab_gI s1 l0 1 7) fun x2 =>
    Option.bind (ab_pI s1 l0 1 7 (x2 + (1 : Int32))) fun s3 =>
    Option.bind (ab_gR s3 l0 1 0) fun x4 =>
    Option.bind (ab_gI s3 l0 1 7) fun x5 =>
    Option.bind (ab_gI s3 l0 1 8) fun x6 =>
    Option.bind (ab_wI s3 x4 x5 x6) fun s7 =>
    ab_z (1 : Int32) (some (some (.int (1 : Int32)), s7)) := (lm_eq one_X1_putState 50 _ _ _).trans rfl
def c_X1_init : List (Nat × ab_I) := [(0, .aload_n 0, 1, .null, 0),
  (1, .invokespecial 3, 3, .null, 0),
  (4, .aload_n 0, 1, .null, 0),
  (5, .sipush (2402), 3, (.int (2402)), 0),
  (8, .newarray .int, 2, .null, 0),
  (10, .putfield 9, 3, .null, 0),
  (13, .aload_n 0, 1, .null, 0),
  (14, .sipush (2401), 3, (.int (2401)), 0),
  (17, .newarray .long, 2, .null, 0),
  (19, .putfield 15, 3, .null, 0),
  (22, .aload_n 0, 1, .null, 0),
  (23, .sipush (2401), 3, (.int (2401)), 0),
  (26, .newarray .int, 2, .null, 0),
  (28, .putfield 19, 3, .null, 0),
  (31, .aload_n 0, 1, .null, 0),
  (32, .sipush (2400), 3, (.int (2400)), 0),
  (35, .newarray .int, 2, .null, 0),
  (37, .putfield 22, 3, .null, 0),
  (40, .aload_n 0, 1, .null, 0),
  (41, .sipush (2400), 3, (.int (2400)), 0),
  (44, .newarray .int, 2, .null, 0),
  (46, .putfield 25, 3, .null, 0),
  (49, .aload_n 0, 1, .null, 0),
  (50, .sipush (2400), 3, (.int (2400)), 0),
  (53, .newarray .long, 2, .null, 0),
  (55, .putfield 28, 3, .null, 0),
  (58, .aload_n 0, 1, .null, 0),
  (59, .lconst 0, 1, (.long (0)), 0),
  (60, .iconst 1, 1, (.int (1)), 0),
  (61, .invokevirtual 31, 3, .null, 0),
  (64, .aload_n 0, 1, .null, 0),
  (65, .ldc2_w 35, 3, (.long (-1)), 0),
  (68, .iconst 0, 1, (.int (0)), 0),
  (69, .invokevirtual 37, 3, .null, 0),
  (72, .pop, 1, .null, 0),
  (73, .return_, 1, .null, 0)]
noncomputable def m_X1_init : ab_M := (c_X1_init, [(0, [0])],
  [(9, 1, 0, 3), (15, 1, 1, 3), (19, 1, 2, 3), (22, 1, 3, 3), (25, 1, 4, 3), (28, 1, 5, 3)],
  [],
  [(3, 2, 1, g_obj), (31, 1, 3, g_X1_clear), (37, 1, 3, g_X1_putState)],
  [], 1, 0)
theorem one_X1_init : ab_oneM m_X1_init := List.forall_mem_cons.mpr ⟨o_obj, List.forall_mem_cons.mpr ⟨o_X1_clear, List.forall_mem_cons.mpr ⟨o_X1_putState, fun _ h => absurd h List.not_mem_nil⟩⟩⟩
noncomputable def f_X1_init (l0 : Nat) (st : ab_S) : Option ab_R := ab_rc st l0 1 (ab_lim m_X1_init 0 [.ref l0] [] st)
noncomputable def g_X1_init : ab_G := fun as st k => match as with
  | [.ref a0] => ab_rv (f_X1_init a0 st) (fun t => k [] t)
  | _ => none
theorem o_X1_init : ab_one g_X1_init := by
  intro as st k r h
  unfold g_X1_init at h ⊢
  split at h
  · exact one_rv h
  · cases h
set_option maxRecDepth 100000 in
theorem e_X1_init_0 (l0 : Nat) (st : ab_S) : f_X1_init l0 st =
    ab_rc st l0 1 (
    if l0 = 0 then none else
    ab_newn st (2402 : Int32) 1 fun o1 s2 =>
    Option.bind (ab_pR s2 l0 1 0 o1) fun s3 =>
    ab_newn s3 (2401 : Int32) 2 fun o4 s5 =>
    Option.bind (ab_pR s5 l0 1 1 o4) fun s6 =>
    ab_newn s6 (2401 : Int32) 1 fun o7 s8 =>
    Option.bind (ab_pR s8 l0 1 2 o7) fun s9 =>
    ab_newn s9 (2400 : Int32) 1 fun o10 s11 =>
    Option.bind (ab_pR s11 l0 1 3 o10) fun s12 =>
    ab_newn s12 (2400 : Int32) 1 fun o13 s14 =>
    Option.bind (ab_pR s14 l0 1 4 o13) fun s15 =>
    ab_newn s15 (2400 : Int32) 2 fun o16 s17 =>
    Option.bind (ab_pR s17 l0 1 5 o16) fun s18 =>
    ab_rv (f_X1_clear l0 (0 : Int64) (1 : Int32) s18) fun s19 =>
    ab_ri (f_X1_putState l0 (-1 : Int64) (0 : Int32) s19) fun x21 s20 =>
    some (none, s20)) := congrArg (ab_rc st l0 1) ((lm_eq one_X1_init 0 _ _ _).trans rfl)
def c_X0_init : List (Nat × ab_I) := [(0, .aload_n 0, 1, .null, 0),
  (1, .invokespecial 1, 3, .null, 0),
  (4, .aload_n 0, 1, .null, 0),
  (5, .new 7, 3, .null, 0),
  (8, .dup, 1, .null, 0),
  (9, .invokespecial 9, 3, .null, 0),
  (12, .putfield 10, 3, .null, 0),
  (15, .aload_n 0, 1, .null, 0),
  (16, .new 16, 3, .null, 0),
  (19, .dup, 1, .null, 0),
  (20, .invokespecial 18, 3, .null, 0),
  (23, .putfield 19, 3, .null, 0),
  (26, .return_, 1, .null, 0)]
noncomputable def m_X0_init : ab_M := (c_X0_init, [(0, [0])],
  [(10, 0, 0, 3), (19, 0, 1, 3)],
  [(7, 7), (16, 1)],
  [(1, 2, 1, g_obj), (9, 2, 1, g_X7_init), (18, 2, 1, g_X1_init)],
  [], 1, 0)
theorem one_X0_init : ab_oneM m_X0_init := List.forall_mem_cons.mpr ⟨o_obj, List.forall_mem_cons.mpr ⟨o_X7_init, List.forall_mem_cons.mpr ⟨o_X1_init, fun _ h => absurd h List.not_mem_nil⟩⟩⟩
noncomputable def f_X0_init (l0 : Nat) (st : ab_S) : Option ab_R := ab_rc st l0 0 (ab_lim m_X0_init 0 [.ref l0] [] st)
noncomputable def g_X0_init : ab_G := fun as st k => match as with
  | [.ref a0] => ab_rv (f_X0_init a0 st) (fun t => k [] t)
  | _ => none
theorem o_X0_init : ab_one g_X0_init := by
  intro as st k r h
  unfold g_X0_init at h ⊢
  split at h
  · exact one_rv h
  · cases h
set_option maxRecDepth 100000 in
theorem e_X0_init_0 (l0 : Nat) (st : ab_S) : f_X0_init l0 st =
    ab_rc st l0 0 (
    if l0 = 0 then none else
    ab_newo st 7 fun o1 s2 =>
    ab_rv (f_X7_init o1 s2) fun s3 =>
    Option.bind (ab_pR s3 l0 0 0 o1) fun s4 =>
    ab_newo s4 1 fun o5 s6 =>
    ab_rv (f_X1_init o5 s6) fun s7 =>
    Option.bind (ab_pR s7 l0 0 1 o5) fun s8 =>
    some (none, s8)) := congrArg (ab_rc st l0 0) ((lm_eq one_X0_init 0 _ _ _).trans rfl)
def c_X9_init : List (Nat × ab_I) := [(0, .aload_n 0, 1, .null, 0),
  (1, .invokespecial 3, 3, .null, 0),
  (4, .aload_n 0, 1, .null, 0),
  (5, .iconst (-1), 1, (.int (-1)), 0),
  (6, .putfield 9, 3, .null, 0),
  (9, .return_, 1, .null, 0)]
noncomputable def m_X9_init : ab_M := (c_X9_init, [(0, [0])],
  [(9, 9, 0, 0)],
  [],
  [(3, 2, 1, g_obj)],
  [], 1, 0)
theorem one_X9_init : ab_oneM m_X9_init := List.forall_mem_cons.mpr ⟨o_obj, fun _ h => absurd h List.not_mem_nil⟩
noncomputable def f_X9_init (l0 : Nat) (st : ab_S) : Option ab_R := ab_rc st l0 9 (ab_lim m_X9_init 0 [.ref l0] [] st)
noncomputable def g_X9_init : ab_G := fun as st k => match as with
  | [.ref a0] => ab_rv (f_X9_init a0 st) (fun t => k [] t)
  | _ => none
theorem o_X9_init : ab_one g_X9_init := by
  intro as st k r h
  unfold g_X9_init at h ⊢
  split at h
  · exact one_rv h
  · cases h
set_option maxRecDepth 100000 in
theorem e_X9_init_0 (l0 : Nat) (st : ab_S) : f_X9_init l0 st =
    ab_rc st l0 9 (
    if l0 = 0 then none else
    Option.bind (ab_pI st l0 9 0 (-1 : Int32)) fun s1 =>
    some (none, s1)) := congrArg (ab_rc st l0 9) ((lm_eq one_X9_init 0 _ _ _).trans rfl)
def c_X10_init : List (Nat × ab_I) := [(0, .aload_n 0, 1, .null, 0),
  (1, .invokespecial 3, 3, .null, 0),
  (4, .aload_n 0, 1, .null, 0),
  (5, .iconst 4, 1, (.int (4)), 0),
  (6, .anewarray 9, 3, .null, 0),
  (9, .putfield 11, 3, .null, 0),
  (12, .aload_n 0, 1, .null, 0),
  (13, .iconst 4, 1, (.int (4)), 0),
  (14, .newarray .int, 2, .null, 0),
  (16, .putfield 15, 3, .null, 0),
  (19, .aload_n 0, 1, .null, 0),
  (20, .iconst 4, 1, (.int (4)), 0),
  (21, .anewarray 19, 3, .null, 0),
  (24, .putfield 21, 3, .null, 0),
  (27, .aload_n 0, 1, .null, 0),
  (28, .new 25, 3, .null, 0),
  (31, .dup, 1, .null, 0),
  (32, .invokespecial 27, 3, .null, 0),
  (35, .putfield 28, 3, .null, 0),
  (38, .aload_n 0, 1, .null, 0),
  (39, .new 32, 3, .null, 0),
  (42, .dup, 1, .null, 0),
  (43, .invokespecial 34, 3, .null, 0),
  (46, .putfield 35, 3, .null, 0),
  (49, .aload_n 0, 1, .null, 0),
  (50, .new 39, 3, .null, 0),
  (53, .dup, 1, .null, 0),
  (54, .invokespecial 41, 3, .null, 0),
  (57, .putfield 42, 3, .null, 0),
  (60, .aload_n 0, 1, .null, 0),
  (61, .new 46, 3, .null, 0),
  (64, .dup, 1, .null, 0),
  (65, .invokespecial 48, 3, .null, 0),
  (68, .putfield 49, 3, .null, 0),
  (71, .aload_n 0, 1, .null, 0),
  (72, .new 53, 3, .null, 0),
  (75, .dup, 1, .null, 0),
  (76, .ldc 55, 2, (.int (43219)), 0),
  (78, .invokespecial 56, 3, .null, 0),
  (81, .putfield 59, 3, .null, 0),
  (84, .aload_n 0, 1, .null, 0),
  (85, .new 53, 3, .null, 0),
  (88, .dup, 1, .null, 0),
  (89, .sipush (4000), 3, (.int (4000)), 0),
  (92, .invokespecial 56, 3, .null, 0),
  (95, .putfield 63, 3, .null, 0),
  (98, .aload_n 0, 1, .null, 0),
  (99, .sipush (200), 3, (.int (200)), 0),
  (102, .newarray .int, 2, .null, 0),
  (104, .putfield 66, 3, .null, 0),
  (107, .aload_n 0, 1, .null, 0),
  (108, .iconst (-1), 1, (.int (-1)), 0),
  (109, .putfield 69, 3, .null, 0),
  (112, .aload_n 0, 1, .null, 0),
  (113, .new 53, 3, .null, 0),
  (116, .dup, 1, .null, 0),
  (117, .sipush (4000), 3, (.int (4000)), 0),
  (120, .invokespecial 56, 3, .null, 0),
  (123, .putfield 73, 3, .null, 0),
  (126, .aload_n 0, 1, .null, 0),
  (127, .new 53, 3, .null, 0),
  (130, .dup, 1, .null, 0),
  (131, .sipush (4000), 3, (.int (4000)), 0),
  (134, .invokespecial 56, 3, .null, 0),
  (137, .putfield 76, 3, .null, 0),
  (140, .aload_n 0, 1, .null, 0),
  (141, .new 9, 3, .null, 0),
  (144, .dup, 1, .null, 0),
  (145, .invokespecial 79, 3, .null, 0),
  (148, .putfield 80, 3, .null, 0),
  (151, .iconst 0, 1, (.int (0)), 0),
  (152, .istore_n 1, 1, .null, 1),
  (153, .iload_n 1, 1, .null, 1),
  (154, .iconst 4, 1, (.int (4)), 0),
  (155, .if_icmp .ge (22), 3, .null, 177),
  (158, .aload_n 0, 1, .null, 0),
  (159, .getfield 11, 3, .null, 0),
  (162, .iload_n 1, 1, .null, 1),
  (163, .new 9, 3, .null, 0),
  (166, .dup, 1, .null, 0),
  (167, .invokespecial 79, 3, .null, 0),
  (170, .aastore, 1, .null, 0),
  (171, .iinc 1 (1), 3, (.int (1)), 1),
  (174, .goto (-21), 3, .null, 153),
  (177, .iconst 0, 1, (.int (0)), 0),
  (178, .istore_n 1, 1, .null, 1),
  (179, .iload_n 1, 1, .null, 1),
  (180, .iconst 4, 1, (.int (4)), 0),
  (181, .if_icmp .ge (22), 3, .null, 203),
  (184, .aload_n 0, 1, .null, 0),
  (185, .getfield 21, 3, .null, 0),
  (188, .iload_n 1, 1, .null, 1),
  (189, .new 19, 3, .null, 0),
  (192, .dup, 1, .null, 0),
  (193, .invokespecial 84, 3, .null, 0),
  (196, .aastore, 1, .null, 0),
  (197, .iinc 1 (1), 3, (.int (1)), 1),
  (200, .goto (-21), 3, .null, 179),
  (203, .return_, 1, .null, 0)]
noncomputable def m_X10_init : ab_M := (c_X10_init, [(0, [0]), (153, [0, 1]), (179, [0, 1])],
  [(11, 10, 0, 3), (15, 10, 1, 3), (21, 10, 2, 3), (28, 10, 3, 3), (35, 10, 4, 3), (42, 10, 5, 3), (49, 10, 6, 3), (59, 10, 7, 3), (63, 10, 8, 3), (66, 10, 9, 3), (69, 10, 11, 0), (73, 10, 12, 3), (76, 10, 13, 3), (80, 10, 14, 3)],
  [(9, 0), (19, 9), (25, 8), (32, 3), (39, 5), (46, 2), (53, 6)],
  [(3, 2, 1, g_obj), (27, 2, 1, g_X8_init), (34, 2, 1, g_X3_init), (41, 2, 1, g_X5_init), (48, 2, 1, g_X2_init), (56, 2, 2, g_X6_init), (79, 2, 1, g_X0_init), (84, 2, 1, g_X9_init)],
  [], 2, 0)
theorem one_X10_init : ab_oneM m_X10_init := List.forall_mem_cons.mpr ⟨o_obj, List.forall_mem_cons.mpr ⟨o_X8_init, List.forall_mem_cons.mpr ⟨o_X3_init, List.forall_mem_cons.mpr ⟨o_X5_init, List.forall_mem_cons.mpr ⟨o_X2_init, List.forall_mem_cons.mpr ⟨o_X6_init, List.forall_mem_cons.mpr ⟨o_X0_init, List.forall_mem_cons.mpr ⟨o_X9_init, fun _ h => absurd h List.not_mem_nil⟩⟩⟩⟩⟩⟩⟩⟩
noncomputable def f_X10_init (l0 : Nat) (st : ab_S) : Option ab_R := ab_rc st l0 10 (ab_lim m_X10_init 0 [.ref l0] [] st)
noncomputable def L_X10_init_153 (l0 : Nat) (l1 : Int32) (st : ab_S) : Option ab_R := ab_lim m_X10_init 153 [.ref l0, .int l1] [] st
noncomputable def L_X10_init_179 (l0 : Nat) (l1 : Int32) (st : ab_S) : Option ab_R := ab_lim m_X10_init 179 [.ref l0, .int l1] [] st
noncomputable def g_X10_init : ab_G := fun as st k => match as with
  | [.ref a0] => ab_rv (f_X10_init a0 st) (fun t => k [] t)
  | _ => none
theorem o_X10_init : ab_one g_X10_init := by
  intro as st k r h
  unfold g_X10_init at h ⊢
  split at h
  · exact one_rv h
  · cases h
set_option maxRecDepth 100000 in
theorem e_X10_init_0 (l0 : Nat) (st : ab_S) : f_X10_init l0 st =
    ab_rc st l0 10 (
    if l0 = 0 then none else
    ab_newn st (4 : Int32) 8 fun o1 s2 =>
    Option.bind (ab_pR s2 l0 10 0 o1) fun s3 =>
    ab_newn s3 (4 : Int32) 1 fun o4 s5 =>
    Option.bind (ab_pR s5 l0 10 1 o4) fun s6 =>
    ab_newn s6 (4 : Int32) 17 fun o7 s8 =>
    Option.bind (ab_pR s8 l0 10 2 o7) fun s9 =>
    ab_newo s9 8 fun o10 s11 =>
    ab_rv (f_X8_init o10 s11) fun s12 =>
    Option.bind (ab_pR s12 l0 10 3 o10) fun s13 =>
    ab_newo s13 3 fun o14 s15 =>
    ab_rv (f_X3_init o14 s15) fun s16 =>
    Option.bind (ab_pR s16 l0 10 4 o14) fun s17 =>
    ab_newo s17 5 fun o18 s19 =>
    ab_rv (f_X5_init o18 s19) fun s20 =>
    Option.bind (ab_pR s20 l0 10 5 o18) fun s21 =>
    ab_newo s21 2 fun o22 s23 =>
    ab_rv (f_X2_init o22 s23) fun s24 =>
    Option.bind (ab_pR s24 l0 10 6 o22) fun s25 =>
    ab_newo s25 6 fun o26 s27 =>
    ab_rv (f_X6_init o26 (43219 : Int32) s27) fun s28 =>
    Option.bind (ab_pR s28 l0 10 7 o26) fun s29 =>
    ab_newo s29 6 fun o30 s31 =>
    ab_rv (f_X6_init o30 (4000 : Int32) s31) fun s32 =>
    Option.bind (ab_pR s32 l0 10 8 o30) fun s33 =>
    ab_newn s33 (200 : Int32) 1 fun o34 s35 =>
    Option.bind (ab_pR s35 l0 10 9 o34) fun s36 =>
    Option.bind (ab_pI s36 l0 10 11 (-1 : Int32)) fun s37 =>
    ab_newo s37 6 fun o38 s39 =>
    ab_rv (f_X6_init o38 (4000 : Int32) s39) fun s40 =>
    Option.bind (ab_pR s40 l0 10 12 o38) fun s41 =>
    ab_newo s41 6 fun o42 s43 =>
    ab_rv (f_X6_init o42 (4000 : Int32) s43) fun s44 =>
    Option.bind (ab_pR s44 l0 10 13 o42) fun s45 =>
    ab_newo s45 0 fun o46 s47 =>
    ab_rv (f_X0_init o46 s47) fun s48 =>
    Option.bind (ab_pR s48 l0 10 14 o46) fun s49 =>
    L_X10_init_153 l0 (0 : Int32) s49) := congrArg (ab_rc st l0 10) ((lm_eq one_X10_init 0 _ _ _).trans rfl)
set_option maxRecDepth 100000 in
theorem e_X10_init_153 (l0 : Nat) (l1 : Int32) (st : ab_S) : L_X10_init_153 l0 l1 st =
    if (4 : Int32) ≤ l1
    then L_X10_init_179 l0 (0 : Int32) st
    else Option.bind (ab_gR st l0 10 0) fun x1 =>
      ab_newo st 0 fun o2 s3 =>
      ab_rv (f_X0_init o2 s3) fun s4 =>
      Option.bind (ab_wR s4 x1 l1 o2) fun s5 =>
      L_X10_init_153 l0 (l1 + (1 : Int32)) s5 := (lm_eq one_X10_init 153 _ _ _).trans rfl
set_option maxRecDepth 100000 in
theorem e_X10_init_179 (l0 : Nat) (l1 : Int32) (st : ab_S) : L_X10_init_179 l0 l1 st =
    if (4 : Int32) ≤ l1
    then some (none, st)
    else Option.bind (ab_gR st l0 10 2) fun x1 =>
      ab_newo st 9 fun o2 s3 =>
      ab_rv (f_X9_init o2 s3) fun s4 =>
      Option.bind (ab_wR s4 x1 l1 o2) fun s5 =>
      L_X10_init_179 l0 (l1 + (1 : Int32)) s5 := (lm_eq one_X10_init 179 _ _ _).trans rfl
def c_X11_init : List (Nat × ab_I) := [(0, .aload_n 0, 1, .null, 0),
  (1, .invokespecial 1, 3, .null, 0),
  (4, .aload_n 0, 1, .null, 0),
  (5, .sipush (4000), 3, (.int (4000)), 0),
  (8, .newarray .byte, 2, .null, 0),
  (10, .putfield 7, 3, .null, 0),
  (13, .aload_n 0, 1, .null, 0),
  (14, .sipush (14400), 3, (.int (14400)), 0),
  (17, .newarray .byte, 2, .null, 0),
  (19, .putfield 13, 3, .null, 0),
  (22, .aload_n 0, 1, .null, 0),
  (23, .sipush (1200), 3, (.int (1200)), 0),
  (26, .newarray .int, 2, .null, 0),
  (28, .putfield 16, 3, .null, 0),
  (31, .aload_n 0, 1, .null, 0),
  (32, .sipush (1200), 3, (.int (1200)), 0),
  (35, .newarray .long, 2, .null, 0),
  (37, .putfield 20, 3, .null, 0),
  (40, .aload_n 0, 1, .null, 0),
  (41, .bipush (6), 2, (.int (6)), 0),
  (43, .newarray .int, 2, .null, 0),
  (45, .putfield 24, 3, .null, 0),
  (48, .aload_n 0, 1, .null, 0),
  (49, .iconst 4, 1, (.int (4)), 0),
  (50, .newarray .boolean, 2, .null, 0),
  (52, .putfield 27, 3, .null, 0),
  (55, .aload_n 0, 1, .null, 0),
  (56, .iconst 4, 1, (.int (4)), 0),
  (57, .newarray .int, 2, .null, 0),
  (59, .putfield 31, 3, .null, 0),
  (62, .aload_n 0, 1, .null, 0),
  (63, .sipush (200), 3, (.int (200)), 0),
  (66, .newarray .int, 2, .null, 0),
  (68, .putfield 34, 3, .null, 0),
  (71, .aload_n 0, 1, .null, 0),
  (72, .iconst (-1), 1, (.int (-1)), 0),
  (73, .putfield 37, 3, .null, 0),
  (76, .aload_n 0, 1, .null, 0),
  (77, .ldc 41, 2, (.int (50000)), 0),
  (79, .newarray .byte, 2, .null, 0),
  (81, .putfield 42, 3, .null, 0),
  (84, .aload_n 0, 1, .null, 0),
  (85, .iconst 4, 1, (.int (4)), 0),
  (86, .newarray .int, 2, .null, 0),
  (88, .putfield 45, 3, .null, 0),
  (91, .aload_n 0, 1, .null, 0),
  (92, .iconst 4, 1, (.int (4)), 0),
  (93, .newarray .int, 2, .null, 0),
  (95, .putfield 48, 3, .null, 0),
  (98, .aload_n 0, 1, .null, 0),
  (99, .iconst 4, 1, (.int (4)), 0),
  (100, .newarray .int, 2, .null, 0),
  (102, .putfield 51, 3, .null, 0),
  (105, .aload_n 0, 1, .null, 0),
  (106, .iconst 4, 1, (.int (4)), 0),
  (107, .newarray .boolean, 2, .null, 0),
  (109, .putfield 54, 3, .null, 0),
  (112, .aload_n 0, 1, .null, 0),
  (113, .sipush (2401), 3, (.int (2401)), 0),
  (116, .newarray .int, 2, .null, 0),
  (118, .putfield 57, 3, .null, 0),
  (121, .aload_n 0, 1, .null, 0),
  (122, .sipush (2401), 3, (.int (2401)), 0),
  (125, .newarray .int, 2, .null, 0),
  (127, .putfield 60, 3, .null, 0),
  (130, .aload_n 0, 1, .null, 0),
  (131, .sipush (2401), 3, (.int (2401)), 0),
  (134, .newarray .int, 2, .null, 0),
  (136, .putfield 63, 3, .null, 0),
  (139, .aload_n 0, 1, .null, 0),
  (140, .sipush (2401), 3, (.int (2401)), 0),
  (143, .newarray .long, 2, .null, 0),
  (145, .putfield 66, 3, .null, 0),
  (148, .aload_n 0, 1, .null, 0),
  (149, .sipush (2401), 3, (.int (2401)), 0),
  (152, .newarray .long, 2, .null, 0),
  (154, .putfield 69, 3, .null, 0),
  (157, .aload_n 0, 1, .null, 0),
  (158, .sipush (2401), 3, (.int (2401)), 0),
  (161, .newarray .int, 2, .null, 0),
  (163, .putfield 72, 3, .null, 0),
  (166, .aload_n 0, 1, .null, 0),
  (167, .sipush (2401), 3, (.int (2401)), 0),
  (170, .newarray .int, 2, .null, 0),
  (172, .putfield 75, 3, .null, 0),
  (175, .aload_n 0, 1, .null, 0),
  (176, .sipush (400), 3, (.int (400)), 0),
  (179, .newarray .int, 2, .null, 0),
  (181, .putfield 78, 3, .null, 0),
  (184, .aload_n 0, 1, .null, 0),
  (185, .sipush (400), 3, (.int (400)), 0),
  (188, .newarray .int, 2, .null, 0),
  (190, .putfield 81, 3, .null, 0),
  (193, .aload_n 0, 1, .null, 0),
  (194, .sipush (400), 3, (.int (400)), 0),
  (197, .newarray .int, 2, .null, 0),
  (199, .putfield 84, 3, .null, 0),
  (202, .aload_n 0, 1, .null, 0),
  (203, .sipush (10240), 3, (.int (10240)), 0),
  (206, .newarray .boolean, 2, .null, 0),
  (208, .putfield 87, 3, .null, 0),
  (211, .aload_n 0, 1, .null, 0),
  (212, .bipush (6), 2, (.int (6)), 0),
  (214, .newarray .int, 2, .null, 0),
  (216, .putfield 90, 3, .null, 0),
  (219, .aload_n 0, 1, .null, 0),
  (220, .bipush (6), 2, (.int (6)), 0),
  (222, .newarray .int, 2, .null, 0),
  (224, .putfield 93, 3, .null, 0),
  (227, .aload_n 0, 1, .null, 0),
  (228, .bipush (6), 2, (.int (6)), 0),
  (230, .newarray .int, 2, .null, 0),
  (232, .putfield 96, 3, .null, 0),
  (235, .aload_n 0, 1, .null, 0),
  (236, .bipush (6), 2, (.int (6)), 0),
  (238, .newarray .int, 2, .null, 0),
  (240, .putfield 99, 3, .null, 0),
  (243, .aload_n 0, 1, .null, 0),
  (244, .sipush (400), 3, (.int (400)), 0),
  (247, .newarray .boolean, 2, .null, 0),
  (249, .putfield 102, 3, .null, 0),
  (252, .aload_n 0, 1, .null, 0),
  (253, .sipush (400), 3, (.int (400)), 0),
  (256, .newarray .boolean, 2, .null, 0),
  (258, .putfield 105, 3, .null, 0),
  (261, .aload_n 0, 1, .null, 0),
  (262, .sipush (364), 3, (.int (364)), 0),
  (265, .newarray .boolean, 2, .null, 0),
  (267, .putfield 108, 3, .null, 0),
  (270, .aload_n 0, 1, .null, 0),
  (271, .sipush (196), 3, (.int (196)), 0),
  (274, .newarray .int, 2, .null, 0),
  (276, .putfield 111, 3, .null, 0),
  (279, .aload_n 0, 1, .null, 0),
  (280, .ldc 41, 2, (.int (50000)), 0),
  (282, .newarray .byte, 2, .null, 0),
  (284, .putfield 114, 3, .null, 0),
  (287, .aload_n 0, 1, .null, 0),
  (288, .sipush (2402), 3, (.int (2402)), 0),
  (291, .newarray .long, 2, .null, 0),
  (293, .putfield 117, 3, .null, 0),
  (296, .aload_n 0, 1, .null, 0),
  (297, .sipush (2403), 3, (.int (2403)), 0),
  (300, .newarray .int, 2, .null, 0),
  (302, .putfield 120, 3, .null, 0),
  (305, .aload_n 0, 1, .null, 0),
  (306, .sipush (4000), 3, (.int (4000)), 0),
  (309, .newarray .int, 2, .null, 0),
  (311, .putfield 123, 3, .null, 0),
  (314, .aload_n 0, 1, .null, 0),
  (315, .sipush (4000), 3, (.int (4000)), 0),
  (318, .newarray .int, 2, .null, 0),
  (320, .putfield 126, 3, .null, 0),
  (323, .aload_n 0, 1, .null, 0),
  (324, .sipush (4000), 3, (.int (4000)), 0),
  (327, .newarray .long, 2, .null, 0),
  (329, .putfield 129, 3, .null, 0),
  (332, .aload_n 0, 1, .null, 0),
  (333, .bipush (13), 2, (.int (13)), 0),
  (335, .newarray .int, 2, .null, 0),
  (337, .putfield 132, 3, .null, 0),
  (340, .aload_n 0, 1, .null, 0),
  (341, .bipush (13), 2, (.int (13)), 0),
  (343, .newarray .int, 2, .null, 0),
  (345, .putfield 135, 3, .null, 0),
  (348, .aload_n 0, 1, .null, 0),
  (349, .bipush (13), 2, (.int (13)), 0),
  (351, .newarray .long, 2, .null, 0),
  (353, .putfield 138, 3, .null, 0),
  (356, .aload_n 0, 1, .null, 0),
  (357, .bipush (12), 2, (.int (12)), 0),
  (359, .newarray .byte, 2, .null, 0),
  (361, .putfield 141, 3, .null, 0),
  (364, .iconst 0, 1, (.int (0)), 0),
  (365, .istore_n 1, 1, .null, 1),
  (366, .iload_n 1, 1, .null, 1),
  (367, .iconst 4, 1, (.int (4)), 0),
  (368, .if_icmp .ge (16), 3, .null, 384),
  (371, .aload_n 0, 1, .null, 0),
  (372, .getfield 45, 3, .null, 0),
  (375, .iload_n 1, 1, .null, 1),
  (376, .iconst (-1), 1, (.int (-1)), 0),
  (377, .iastore, 1, .null, 0),
  (378, .iinc 1 (1), 3, (.int (1)), 1),
  (381, .goto (-15), 3, .null, 366),
  (384, .return_, 1, .null, 0)]
noncomputable def m_X11_init : ab_M := (c_X11_init, [(0, [0]), (366, [0, 1])],
  [(7, 11, 0, 3), (13, 11, 2, 3), (16, 11, 3, 3), (20, 11, 4, 3), (24, 11, 5, 3), (27, 11, 6, 3), (31, 11, 7, 3), (34, 11, 8, 3), (37, 11, 10, 0), (42, 11, 11, 3), (45, 11, 13, 3), (48, 11, 14, 3), (51, 11, 15, 3), (54, 11, 16, 3), (57, 11, 18, 3), (60, 11, 19, 3), (63, 11, 20, 3), (66, 11, 21, 3), (69, 11, 22, 3), (72, 11, 23, 3), (75, 11, 24, 3), (78, 11, 26, 3), (81, 11, 27, 3), (84, 11, 28, 3), (87, 11, 31, 3), (90, 11, 37, 3), (93, 11, 38, 3), (96, 11, 39, 3), (99, 11, 40, 3), (102, 11, 41, 3), (105, 11, 42, 3), (108, 11, 43, 3), (111, 11, 44, 3), (114, 11, 45, 3), (117, 11, 46, 3), (120, 11, 47, 3), (123, 11, 48, 3), (126, 11, 49, 3), (129, 11, 50, 3), (132, 11, 53, 3), (135, 11, 54, 3), (138, 11, 55, 3), (141, 11, 56, 3)],
  [],
  [(1, 2, 1, g_obj)],
  [], 2, 0)
theorem one_X11_init : ab_oneM m_X11_init := List.forall_mem_cons.mpr ⟨o_obj, fun _ h => absurd h List.not_mem_nil⟩
noncomputable def f_X11_init (l0 : Nat) (st : ab_S) : Option ab_R := ab_rc st l0 11 (ab_lim m_X11_init 0 [.ref l0] [] st)
noncomputable def L_X11_init_366 (l0 : Nat) (l1 : Int32) (st : ab_S) : Option ab_R := ab_lim m_X11_init 366 [.ref l0, .int l1] [] st
noncomputable def g_X11_init : ab_G := fun as st k => match as with
  | [.ref a0] => ab_rv (f_X11_init a0 st) (fun t => k [] t)
  | _ => none
theorem o_X11_init : ab_one g_X11_init := by
  intro as st k r h
  unfold g_X11_init at h ⊢
  split at h
  · exact one_rv h
  · cases h
set_option maxRecDepth 100000 in
theorem e_X11_init_0 (l0 : Nat) (st : ab_S) : f_X11_init l0 st =
    ab_rc st l0 11 (
    if l0 = 0 then none else
    ab_newn st (4000 : Int32) 3 fun o1 s2 =>
    Option.bind (ab_pR s2 l0 11 0 o1) fun s3 =>
    ab_newn s3 (14400 : Int32) 3 fun o4 s5 =>
    Option.bind (ab_pR s5 l0 11 2 o4) fun s6 =>
    ab_newn s6 (1200 : Int32) 1 fun o7 s8 =>
    Option.bind (ab_pR s8 l0 11 3 o7) fun s9 =>
    ab_newn s9 (1200 : Int32) 2 fun o10 s11 =>
    Option.bind (ab_pR s11 l0 11 4 o10) fun s12 =>
    ab_newn s12 (6 : Int32) 1 fun o13 s14 =>
    Option.bind (ab_pR s14 l0 11 5 o13) fun s15 =>
    ab_newn s15 (4 : Int32) 4 fun o16 s17 =>
    Option.bind (ab_pR s17 l0 11 6 o16) fun s18 =>
    ab_newn s18 (4 : Int32) 1 fun o19 s20 =>
    Option.bind (ab_pR s20 l0 11 7 o19) fun s21 =>
    ab_newn s21 (200 : Int32) 1 fun o22 s23 =>
    Option.bind (ab_pR s23 l0 11 8 o22) fun s24 =>
    Option.bind (ab_pI s24 l0 11 10 (-1 : Int32)) fun s25 =>
    ab_newn s25 (50000 : Int32) 3 fun o26 s27 =>
    Option.bind (ab_pR s27 l0 11 11 o26) fun s28 =>
    ab_newn s28 (4 : Int32) 1 fun o29 s30 =>
    Option.bind (ab_pR s30 l0 11 13 o29) fun s31 =>
    ab_newn s31 (4 : Int32) 1 fun o32 s33 =>
    Option.bind (ab_pR s33 l0 11 14 o32) fun s34 =>
    ab_newn s34 (4 : Int32) 1 fun o35 s36 =>
    Option.bind (ab_pR s36 l0 11 15 o35) fun s37 =>
    ab_newn s37 (4 : Int32) 4 fun o38 s39 =>
    Option.bind (ab_pR s39 l0 11 16 o38) fun s40 =>
    ab_newn s40 (2401 : Int32) 1 fun o41 s42 =>
    Option.bind (ab_pR s42 l0 11 18 o41) fun s43 =>
    ab_newn s43 (2401 : Int32) 1 fun o44 s45 =>
    Option.bind (ab_pR s45 l0 11 19 o44) fun s46 =>
    ab_newn s46 (2401 : Int32) 1 fun o47 s48 =>
    Option.bind (ab_pR s48 l0 11 20 o47) fun s49 =>
    ab_newn s49 (2401 : Int32) 2 fun o50 s51 =>
    Option.bind (ab_pR s51 l0 11 21 o50) fun s52 =>
    ab_newn s52 (2401 : Int32) 2 fun o53 s54 =>
    Option.bind (ab_pR s54 l0 11 22 o53) fun s55 =>
    ab_newn s55 (2401 : Int32) 1 fun o56 s57 =>
    Option.bind (ab_pR s57 l0 11 23 o56) fun s58 =>
    ab_newn s58 (2401 : Int32) 1 fun o59 s60 =>
    Option.bind (ab_pR s60 l0 11 24 o59) fun s61 =>
    ab_newn s61 (400 : Int32) 1 fun o62 s63 =>
    Option.bind (ab_pR s63 l0 11 26 o62) fun s64 =>
    ab_newn s64 (400 : Int32) 1 fun o65 s66 =>
    Option.bind (ab_pR s66 l0 11 27 o65) fun s67 =>
    ab_newn s67 (400 : Int32) 1 fun o68 s69 =>
    Option.bind (ab_pR s69 l0 11 28 o68) fun s70 =>
    ab_newn s70 (10240 : Int32) 4 fun o71 s72 =>
    Option.bind (ab_pR s72 l0 11 31 o71) fun s73 =>
    ab_newn s73 (6 : Int32) 1 fun o74 s75 =>
    Option.bind (ab_pR s75 l0 11 37 o74) fun s76 =>
    ab_newn s76 (6 : Int32) 1 fun o77 s78 =>
    Option.bind (ab_pR s78 l0 11 38 o77) fun s79 =>
    ab_newn s79 (6 : Int32) 1 fun o80 s81 =>
    Option.bind (ab_pR s81 l0 11 39 o80) fun s82 =>
    ab_newn s82 (6 : Int32) 1 fun o83 s84 =>
    Option.bind (ab_pR s84 l0 11 40 o83) fun s85 =>
    ab_newn s85 (400 : Int32) 4 fun o86 s87 =>
    Option.bind (ab_pR s87 l0 11 41 o86) fun s88 =>
    ab_newn s88 (400 : Int32) 4 fun o89 s90 =>
    Option.bind (ab_pR s90 l0 11 42 o89) fun s91 =>
    ab_newn s91 (364 : Int32) 4 fun o92 s93 =>
    Option.bind (ab_pR s93 l0 11 43 o92) fun s94 =>
    ab_newn s94 (196 : Int32) 1 fun o95 s96 =>
    Option.bind (ab_pR s96 l0 11 44 o95) fun s97 =>
    ab_newn s97 (50000 : Int32) 3 fun o98 s99 =>
    Option.bind (ab_pR s99 l0 11 45 o98) fun s100 =>
    ab_newn s100 (2402 : Int32) 2 fun o101 s102 =>
    Option.bind (ab_pR s102 l0 11 46 o101) fun s103 =>
    ab_newn s103 (2403 : Int32) 1 fun o104 s105 =>
    Option.bind (ab_pR s105 l0 11 47 o104) fun s106 =>
    ab_newn s106 (4000 : Int32) 1 fun o107 s108 =>
    Option.bind (ab_pR s108 l0 11 48 o107) fun s109 =>
    ab_newn s109 (4000 : Int32) 1 fun o110 s111 =>
    Option.bind (ab_pR s111 l0 11 49 o110) fun s112 =>
    ab_newn s112 (4000 : Int32) 2 fun o113 s114 =>
    Option.bind (ab_pR s114 l0 11 50 o113) fun s115 =>
    ab_newn s115 (13 : Int32) 1 fun o116 s117 =>
    Option.bind (ab_pR s117 l0 11 53 o116) fun s118 =>
    ab_newn s118 (13 : Int32) 1 fun o119 s120 =>
    Option.bind (ab_pR s120 l0 11 54 o119) fun s121 =>
    ab_newn s121 (13 : Int32) 2 fun o122 s123 =>
    Option.bind (ab_pR s123 l0 11 55 o122) fun s124 =>
    ab_newn s124 (12 : Int32) 3 fun o125 s126 =>
    Option.bind (ab_pR s126 l0 11 56 o125) fun s127 =>
    L_X11_init_366 l0 (0 : Int32) s127) := congrArg (ab_rc st l0 11) ((lm_eq one_X11_init 0 _ _ _).trans rfl)
set_option maxRecDepth 100000 in
theorem e_X11_init_366 (l0 : Nat) (l1 : Int32) (st : ab_S) : L_X11_init_366 l0 l1 st =
    if (4 : Int32) ≤ l1
    then some (none, st)
    else Option.bind (ab_gR st l0 11 13) fun x1 =>
      Option.bind (ab_wI st x1 l1 (-1 : Int32)) fun s2 =>
      L_X11_init_366 l0 (l1 + (1 : Int32)) s2 := (lm_eq one_X11_init 366 _ _ _).trans rfl
def c_X6_put : List (Nat × ab_I) := [(0, .aload_n 0, 1, .null, 0),
  (1, .getfield 21, 3, .null, 0),
  (4, .aload_n 0, 1, .null, 0),
  (5, .getfield 15, 3, .null, 0),
  (8, .arraylength, 1, .null, 0),
  (9, .if_icmp .ge (17), 3, .null, 26),
  (12, .aload_n 0, 1, .null, 0),
  (13, .getfield 15, 3, .null, 0),
  (16, .aload_n 0, 1, .null, 0),
  (17, .getfield 21, 3, .null, 0),
  (20, .iload_n 1, 1, .null, 1),
  (21, .sipush (255), 3, (.int (255)), 0),
  (24, .iand, 1, .null, 0),
  (25, .iastore, 1, .null, 0),
  (26, .aload_n 0, 1, .null, 0),
  (27, .dup, 1, .null, 0),
  (28, .getfield 21, 3, .null, 0),
  (31, .iconst 1, 1, (.int (1)), 0),
  (32, .iadd, 1, .null, 0),
  (33, .putfield 21, 3, .null, 0),
  (36, .return_, 1, .null, 0)]
noncomputable def m_X6_put : ab_M := (c_X6_put, [(0, [0, 1]), (26, [0])],
  [(15, 6, 0, 3), (21, 6, 1, 0)],
  [],
  [],
  [], 2, 0)
theorem one_X6_put : ab_oneM m_X6_put := fun _ h => absurd h List.not_mem_nil
noncomputable def f_X6_put (l0 : Nat) (l1 : Int32) (st : ab_S) : Option ab_R := ab_rc st l0 6 (ab_lim m_X6_put 0 [.ref l0, .int l1] [] st)
noncomputable def L_X6_put_26 (l0 : Nat) (st : ab_S) : Option ab_R := ab_lim m_X6_put 26 [.ref l0] [] st
noncomputable def g_X6_put : ab_G := fun as st k => match as with
  | [.ref a0, .int a1] => ab_rv (f_X6_put a0 a1 st) (fun t => k [] t)
  | _ => none
theorem o_X6_put : ab_one g_X6_put := by
  intro as st k r h
  unfold g_X6_put at h ⊢
  split at h
  · exact one_rv h
  · cases h
set_option maxRecDepth 100000 in
theorem e_X6_put_0 (l0 : Nat) (l1 : Int32) (st : ab_S) : f_X6_put l0 l1 st =
    ab_rc st l0 6 (
    Option.bind (ab_gI st l0 6 1) fun x1 =>
    Option.bind (ab_gR st l0 6 0) fun x2 =>
    Option.bind (ab_n st x2) fun n3 =>
    if (Int32.ofNat n3) ≤ x1
    then L_X6_put_26 l0 st
    else Option.bind (ab_gR st l0 6 0) fun x4 =>
      Option.bind (ab_gI st l0 6 1) fun x5 =>
      Option.bind (ab_wI st x4 x5 (l1 &&& (255 : Int32))) fun s6 =>
      L_X6_put_26 l0 s6) := congrArg (ab_rc st l0 6) ((lm_eq one_X6_put 0 _ _ _).trans rfl)
set_option maxRecDepth 100000 in
theorem e_X6_put_26 (l0 : Nat) (st : ab_S) : L_X6_put_26 l0 st =
    Option.bind (ab_gI st l0 6 1) fun x1 =>
    Option.bind (ab_pI st l0 6 1 (x1 + (1 : Int32))) fun s2 =>
    some (none, s2) := (lm_eq one_X6_put 26 _ _ _).trans rfl
def c_X10_collect : List (Nat × ab_I) := [(0, .iload_n 3, 1, .null, 3),
  (1, .iconst 1, 1, (.int (1)), 0),
  (2, .if_icmp .lt (9), 3, .null, 11),
  (5, .iload_n 3, 1, .null, 3),
  (6, .bipush (8), 2, (.int (8)), 0),
  (8, .if_icmp .le (6), 3, .null, 14),
  (11, .bipush (-2), 2, (.int (-2)), 0),
  (13, .ireturn, 1, .null, 0),
  (14, .aload_n 0, 1, .null, 0),
  (15, .getfield 73, 3, .null, 0),
  (18, .getfield 85, 3, .null, 0),
  (21, .iload_n 3, 1, .null, 3),
  (22, .iadd, 1, .null, 0),
  (23, .sipush (4000), 3, (.int (4000)), 0),
  (26, .if_icmp .le (6), 3, .null, 32),
  (29, .bipush (-3), 2, (.int (-3)), 0),
  (31, .ireturn, 1, .null, 0),
  (32, .iconst 0, 1, (.int (0)), 0),
  (33, .istore 4, 2, .null, 4),
  (35, .iload 4, 2, .null, 4),
  (37, .iload_n 3, 1, .null, 3),
  (38, .if_icmp .ge (24), 3, .null, 62),
  (41, .aload_n 0, 1, .null, 0),
  (42, .getfield 73, 3, .null, 0),
  (45, .lload_n 1, 1, .null, 1),
  (46, .bipush (8), 2, (.int (8)), 0),
  (48, .iload 4, 2, .null, 4),
  (50, .imul, 1, .null, 0),
  (51, .lushr, 1, .null, 0),
  (52, .l2i, 1, .null, 0),
  (53, .invokevirtual 88, 3, .null, 0),
  (56, .iinc 4 (1), 3, (.int (1)), 4),
  (59, .goto (-24), 3, .null, 35),
  (62, .aload_n 0, 1, .null, 0),
  (63, .getfield 73, 3, .null, 0),
  (66, .getfield 85, 3, .null, 0),
  (69, .ireturn, 1, .null, 0)]
noncomputable def m_X10_collect : ab_M := (c_X10_collect, [(0, [0, 1, 3]), (35, [0, 1, 3, 4])],
  [(73, 10, 12, 3), (85, 6, 1, 0)],
  [],
  [(88, 1, 2, g_X6_put)],
  [], 5, 1)
theorem one_X10_collect : ab_oneM m_X10_collect := List.forall_mem_cons.mpr ⟨o_X6_put, fun _ h => absurd h List.not_mem_nil⟩
noncomputable def f_X10_collect (l0 : Nat) (l1 : Int64) (l3 : Int32) (st : ab_S) : Option ab_R := ab_rc st l0 10 (ab_lim m_X10_collect 0 [.ref l0, .long l1, .int l3] [] st)
noncomputable def L_X10_collect_35 (l0 : Nat) (l1 : Int64) (l3 : Int32) (l4 : Int32) (st : ab_S) : Option ab_R := ab_lim m_X10_collect 35 [.ref l0, .long l1, .int l3, .int l4] [] st
noncomputable def g_X10_collect : ab_G := fun as st k => match as with
  | [.ref a0, .long a1, .int a2] => ab_ri (f_X10_collect a0 a1 a2 st) (fun x t => k [.int x] t)
  | _ => none
theorem o_X10_collect : ab_one g_X10_collect := by
  intro as st k r h
  unfold g_X10_collect at h ⊢
  split at h
  · exact one_ri h
  · cases h
set_option maxRecDepth 100000 in
theorem e_X10_collect_0 (l0 : Nat) (l1 : Int64) (l3 : Int32) (st : ab_S) : f_X10_collect l0 l1 l3 st =
    ab_rc st l0 10 (
    if l3 < (1 : Int32)
    then some (some (.int (-2 : Int32)), st)
    else if l3 ≤ (8 : Int32)
      then Option.bind (ab_gR st l0 10 12) fun x1 =>
        Option.bind (ab_gI st x1 6 1) fun x2 =>
        if (x2 + l3) ≤ (4000 : Int32)
        then L_X10_collect_35 l0 l1 l3 (0 : Int32) st
        else some (some (.int (-3 : Int32)), st)
      else some (some (.int (-2 : Int32)), st)) := congrArg (ab_rc st l0 10) ((lm_eq one_X10_collect 0 _ _ _).trans rfl)
set_option maxRecDepth 100000 in
theorem e_X10_collect_35 (l0 : Nat) (l1 : Int64) (l3 : Int32) (l4 : Int32) (st : ab_S) : L_X10_collect_35 l0 l1 l3 l4 st =
    if l3 ≤ l4
    then Option.bind (ab_gR st l0 10 12) fun x1 =>
      Option.bind (ab_gI st x1 6 1) fun x2 =>
      some (some (.int x2), st)
    else Option.bind (ab_gR st l0 10 12) fun x3 =>
      ab_rv (f_X6_put x3 ((l1.toUInt64 >>> (((8 : Int32) * l4).toInt64.toUInt64 &&& Int64.toUInt64 63)).toInt64.toInt32) st) fun s4 =>
      L_X10_collect_35 l0 l1 l3 (l4 + (1 : Int32)) s4 := (lm_eq one_X10_collect 35 _ _ _).trans rfl
def c_X11_isIn : List (Nat × ab_I) := [(0, .lload_n 0, 1, .null, 0),
  (1, .lload_n 2, 1, .null, 2),
  (2, .lcmp, 1, .null, 0),
  (3, .ifCond .lt (14), 3, .null, 17),
  (6, .lload_n 0, 1, .null, 0),
  (7, .lload 4, 2, .null, 4),
  (9, .lcmp, 1, .null, 0),
  (10, .ifCond .gt (7), 3, .null, 17),
  (13, .iconst 1, 1, (.int (1)), 0),
  (14, .goto (4), 3, .null, 18),
  (17, .iconst 0, 1, (.int (0)), 0),
  (18, .ireturn, 1, .null, 0)]
noncomputable def m_X11_isIn : ab_M := (c_X11_isIn, [(0, [0, 2, 4])],
  [],
  [],
  [],
  [], 6, 2)
theorem one_X11_isIn : ab_oneM m_X11_isIn := fun _ h => absurd h List.not_mem_nil
noncomputable def f_X11_isIn (l0 : Int64) (l2 : Int64) (l4 : Int64) (st : ab_S) : Option ab_R := ab_lim m_X11_isIn 0 [.long l0, .long l2, .long l4] [] st
noncomputable def g_X11_isIn : ab_G := fun as st k => match as with
  | [.long a0, .long a1, .long a2] => ab_ri (f_X11_isIn a0 a1 a2 st) (fun x t => k [.int x] t)
  | _ => none
theorem o_X11_isIn : ab_one g_X11_isIn := by
  intro as st k r h
  unfold g_X11_isIn at h ⊢
  split at h
  · exact one_ri h
  · cases h
set_option maxRecDepth 100000 in
theorem e_X11_isIn_0 (l0 : Int64) (l2 : Int64) (l4 : Int64) (st : ab_S) : f_X11_isIn l0 l2 l4 st =
    if (lg_cmp l0 l2) < 0
    then ab_z (0 : Int32) (some (some (.int (0 : Int32)), st))
    else if 0 < (lg_cmp l0 l4)
      then ab_z (0 : Int32) (some (some (.int (0 : Int32)), st))
      else ab_z (1 : Int32) (some (some (.int (1 : Int32)), st)) := (lm_eq one_X11_isIn 0 _ _ _).trans rfl
def c_X11_collect : List (Nat × ab_I) := [(0, .iload_n 3, 1, .null, 3),
  (1, .i2l, 1, .null, 0),
  (2, .lconst 1, 1, (.long (1)), 0),
  (3, .ldc2_w 144, 3, (.long (8)), 0),
  (6, .invokestatic 146, 3, .null, 0),
  (9, .ifCond .ne (6), 3, .null, 15),
  (12, .bipush (-2), 2, (.int (-2)), 0),
  (14, .ireturn, 1, .null, 0),
  (15, .aload_n 0, 1, .null, 0),
  (16, .getfield 150, 3, .null, 0),
  (19, .iload_n 3, 1, .null, 3),
  (20, .iadd, 1, .null, 0),
  (21, .sipush (4000), 3, (.int (4000)), 0),
  (24, .if_icmp .le (6), 3, .null, 30),
  (27, .bipush (-3), 2, (.int (-3)), 0),
  (29, .ireturn, 1, .null, 0),
  (30, .iconst 0, 1, (.int (0)), 0),
  (31, .istore 4, 2, .null, 4),
  (33, .iload 4, 2, .null, 4),
  (35, .iload_n 3, 1, .null, 3),
  (36, .if_icmp .ge (30), 3, .null, 66),
  (39, .aload_n 0, 1, .null, 0),
  (40, .getfield 7, 3, .null, 0),
  (43, .aload_n 0, 1, .null, 0),
  (44, .getfield 150, 3, .null, 0),
  (47, .iload 4, 2, .null, 4),
  (49, .iadd, 1, .null, 0),
  (50, .lload_n 1, 1, .null, 1),
  (51, .bipush (8), 2, (.int (8)), 0),
  (53, .iload 4, 2, .null, 4),
  (55, .imul, 1, .null, 0),
  (56, .lshr, 1, .null, 0),
  (57, .l2i, 1, .null, 0),
  (58, .i2b, 1, .null, 0),
  (59, .bastore, 1, .null, 0),
  (60, .iinc 4 (1), 3, (.int (1)), 4),
  (63, .goto (-30), 3, .null, 33),
  (66, .aload_n 0, 1, .null, 0),
  (67, .dup, 1, .null, 0),
  (68, .getfield 150, 3, .null, 0),
  (71, .iload_n 3, 1, .null, 3),
  (72, .iadd, 1, .null, 0),
  (73, .putfield 150, 3, .null, 0),
  (76, .aload_n 0, 1, .null, 0),
  (77, .getfield 150, 3, .null, 0),
  (80, .ireturn, 1, .null, 0)]
noncomputable def m_X11_collect : ab_M := (c_X11_collect, [(0, [0, 1, 3]), (33, [0, 1, 3, 4])],
  [(7, 11, 0, 3), (150, 11, 1, 0)],
  [],
  [(146, 0, 3, g_X11_isIn)],
  [], 5, 1)
theorem one_X11_collect : ab_oneM m_X11_collect := List.forall_mem_cons.mpr ⟨o_X11_isIn, fun _ h => absurd h List.not_mem_nil⟩
noncomputable def f_X11_collect (l0 : Nat) (l1 : Int64) (l3 : Int32) (st : ab_S) : Option ab_R := ab_rc st l0 11 (ab_lim m_X11_collect 0 [.ref l0, .long l1, .int l3] [] st)
noncomputable def L_X11_collect_33 (l0 : Nat) (l1 : Int64) (l3 : Int32) (l4 : Int32) (st : ab_S) : Option ab_R := ab_lim m_X11_collect 33 [.ref l0, .long l1, .int l3, .int l4] [] st
noncomputable def g_X11_collect : ab_G := fun as st k => match as with
  | [.ref a0, .long a1, .int a2] => ab_ri (f_X11_collect a0 a1 a2 st) (fun x t => k [.int x] t)
  | _ => none
theorem o_X11_collect : ab_one g_X11_collect := by
  intro as st k r h
  unfold g_X11_collect at h ⊢
  split at h
  · exact one_ri h
  · cases h
set_option maxRecDepth 100000 in
theorem e_X11_collect_0 (l0 : Nat) (l1 : Int64) (l3 : Int32) (st : ab_S) : f_X11_collect l0 l1 l3 st =
    ab_rc st l0 11 (
    ab_ri (f_X11_isIn l3.toInt64 (1 : Int64) (8 : Int64) st) fun x2 s1 =>
    if x2 = 0
    then some (some (.int (-2 : Int32)), s1)
    else Option.bind (ab_gI s1 l0 11 1) fun x3 =>
      if (x3 + l3) ≤ (4000 : Int32)
      then L_X11_collect_33 l0 l1 l3 (0 : Int32) s1
      else some (some (.int (-3 : Int32)), s1)) := congrArg (ab_rc st l0 11) ((lm_eq one_X11_collect 0 _ _ _).trans rfl)
set_option maxRecDepth 100000 in
theorem e_X11_collect_33 (l0 : Nat) (l1 : Int64) (l3 : Int32) (l4 : Int32) (st : ab_S) : L_X11_collect_33 l0 l1 l3 l4 st =
    if l3 ≤ l4
    then Option.bind (ab_gI st l0 11 1) fun x1 =>
      Option.bind (ab_pI st l0 11 1 (x1 + l3)) fun s2 =>
      Option.bind (ab_gI s2 l0 11 1) fun x3 =>
      some (some (.int x3), s2)
    else Option.bind (ab_gR st l0 11 0) fun x4 =>
      Option.bind (ab_gI st l0 11 1) fun x5 =>
      Option.bind (ab_wB st x4 (x5 + l4) ((l1 >>> (((8 : Int32) * l4).toInt64 &&& 63)).toInt32.toInt8.toInt32)) fun s6 =>
      L_X11_collect_33 l0 l1 l3 (l4 + (1 : Int32)) s6 := (lm_eq one_X11_collect 33 _ _ _).trans rfl
def c_X6_clear : List (Nat × ab_I) := [(0, .aload_n 0, 1, .null, 0),
  (1, .iconst 0, 1, (.int (0)), 0),
  (2, .putfield 21, 3, .null, 0),
  (5, .return_, 1, .null, 0)]
noncomputable def m_X6_clear : ab_M := (c_X6_clear, [(0, [0])],
  [(21, 6, 1, 0)],
  [],
  [],
  [], 1, 0)
theorem one_X6_clear : ab_oneM m_X6_clear := fun _ h => absurd h List.not_mem_nil
noncomputable def f_X6_clear (l0 : Nat) (st : ab_S) : Option ab_R := ab_rc st l0 6 (ab_lim m_X6_clear 0 [.ref l0] [] st)
noncomputable def g_X6_clear : ab_G := fun as st k => match as with
  | [.ref a0] => ab_rv (f_X6_clear a0 st) (fun t => k [] t)
  | _ => none
theorem o_X6_clear : ab_one g_X6_clear := by
  intro as st k r h
  unfold g_X6_clear at h ⊢
  split at h
  · exact one_rv h
  · cases h
set_option maxRecDepth 100000 in
theorem e_X6_clear_0 (l0 : Nat) (st : ab_S) : f_X6_clear l0 st =
    ab_rc st l0 6 (
    Option.bind (ab_pI st l0 6 1 (0 : Int32)) fun s1 =>
    some (none, s1)) := congrArg (ab_rc st l0 6) ((lm_eq one_X6_clear 0 _ _ _).trans rfl)
def c_X10_takeCollected : List (Nat × ab_I) := [(0, .aload_n 0, 1, .null, 0),
  (1, .getfield 73, 3, .null, 0),
  (4, .astore_n 1, 1, .null, 1),
  (5, .aload_n 0, 1, .null, 0),
  (6, .aload_n 0, 1, .null, 0),
  (7, .getfield 76, 3, .null, 0),
  (10, .putfield 73, 3, .null, 0),
  (13, .aload_n 0, 1, .null, 0),
  (14, .aload_n 1, 1, .null, 1),
  (15, .putfield 76, 3, .null, 0),
  (18, .aload_n 0, 1, .null, 0),
  (19, .getfield 73, 3, .null, 0),
  (22, .invokevirtual 248, 3, .null, 0),
  (25, .aload_n 1, 1, .null, 1),
  (26, .areturn, 1, .null, 0)]
noncomputable def m_X10_takeCollected : ab_M := (c_X10_takeCollected, [(0, [0])],
  [(73, 10, 12, 3), (76, 10, 13, 3)],
  [],
  [(248, 1, 1, g_X6_clear)],
  [], 2, 4)
theorem one_X10_takeCollected : ab_oneM m_X10_takeCollected := List.forall_mem_cons.mpr ⟨o_X6_clear, fun _ h => absurd h List.not_mem_nil⟩
noncomputable def f_X10_takeCollected (l0 : Nat) (st : ab_S) : Option ab_R := ab_rc st l0 10 (ab_lim m_X10_takeCollected 0 [.ref l0] [] st)
noncomputable def g_X10_takeCollected : ab_G := fun as st k => match as with
  | [.ref a0] => ab_rr (f_X10_takeCollected a0 st) (fun x t => k [.ref x] t)
  | _ => none
theorem o_X10_takeCollected : ab_one g_X10_takeCollected := by
  intro as st k r h
  unfold g_X10_takeCollected at h ⊢
  split at h
  · exact one_rr h
  · cases h
set_option maxRecDepth 100000 in
theorem e_X10_takeCollected_0 (l0 : Nat) (st : ab_S) : f_X10_takeCollected l0 st =
    ab_rc st l0 10 (
    Option.bind (ab_gR st l0 10 12) fun x1 =>
    Option.bind (ab_gR st l0 10 13) fun x2 =>
    Option.bind (ab_pR st l0 10 12 x2) fun s3 =>
    Option.bind (ab_pR s3 l0 10 13 x1) fun s4 =>
    Option.bind (ab_gR s4 l0 10 12) fun x5 =>
    ab_rv (f_X6_clear x5 s4) fun s6 =>
    some (some (.ref x1), s6)) := congrArg (ab_rc st l0 10) ((lm_eq one_X10_takeCollected 0 _ _ _).trans rfl)
def c_X10_forget : List (Nat × ab_I) := [(0, .aload_n 0, 1, .null, 0),
  (1, .invokevirtual 91, 3, .null, 0),
  (4, .getfield 85, 3, .null, 0),
  (7, .ireturn, 1, .null, 0)]
noncomputable def m_X10_forget : ab_M := (c_X10_forget, [(0, [0])],
  [(85, 6, 1, 0)],
  [],
  [(91, 1, 1, g_X10_takeCollected)],
  [], 1, 1)
theorem one_X10_forget : ab_oneM m_X10_forget := List.forall_mem_cons.mpr ⟨o_X10_takeCollected, fun _ h => absurd h List.not_mem_nil⟩
noncomputable def f_X10_forget (l0 : Nat) (st : ab_S) : Option ab_R := ab_rc st l0 10 (ab_lim m_X10_forget 0 [.ref l0] [] st)
noncomputable def g_X10_forget : ab_G := fun as st k => match as with
  | [.ref a0] => ab_ri (f_X10_forget a0 st) (fun x t => k [.int x] t)
  | _ => none
theorem o_X10_forget : ab_one g_X10_forget := by
  intro as st k r h
  unfold g_X10_forget at h ⊢
  split at h
  · exact one_ri h
  · cases h
set_option maxRecDepth 100000 in
theorem e_X10_forget_0 (l0 : Nat) (st : ab_S) : f_X10_forget l0 st =
    ab_rc st l0 10 (
    ab_rr (f_X10_takeCollected l0 st) fun x2 s1 =>
    Option.bind (ab_gI s1 x2 6 1) fun x3 =>
    some (some (.int x3), s1)) := congrArg (ab_rc st l0 10) ((lm_eq one_X10_forget 0 _ _ _).trans rfl)
def c_X11_forget : List (Nat × ab_I) := [(0, .aload_n 0, 1, .null, 0),
  (1, .getfield 150, 3, .null, 0),
  (4, .istore_n 1, 1, .null, 1),
  (5, .aload_n 0, 1, .null, 0),
  (6, .iconst 0, 1, (.int (0)), 0),
  (7, .putfield 150, 3, .null, 0),
  (10, .iload_n 1, 1, .null, 1),
  (11, .ireturn, 1, .null, 0)]
noncomputable def m_X11_forget : ab_M := (c_X11_forget, [(0, [0])],
  [(150, 11, 1, 0)],
  [],
  [],
  [], 2, 1)
theorem one_X11_forget : ab_oneM m_X11_forget := fun _ h => absurd h List.not_mem_nil
noncomputable def f_X11_forget (l0 : Nat) (st : ab_S) : Option ab_R := ab_rc st l0 11 (ab_lim m_X11_forget 0 [.ref l0] [] st)
noncomputable def g_X11_forget : ab_G := fun as st k => match as with
  | [.ref a0] => ab_ri (f_X11_forget a0 st) (fun x t => k [.int x] t)
  | _ => none
theorem o_X11_forget : ab_one g_X11_forget := by
  intro as st k r h
  unfold g_X11_forget at h ⊢
  split at h
  · exact one_ri h
  · cases h
set_option maxRecDepth 100000 in
theorem e_X11_forget_0 (l0 : Nat) (st : ab_S) : f_X11_forget l0 st =
    ab_rc st l0 11 (
    Option.bind (ab_gI st l0 11 1) fun x1 =>
    Option.bind (ab_pI st l0 11 1 (0 : Int32)) fun s2 =>
    some (some (.int x1), s2)) := congrArg (ab_rc st l0 11) ((lm_eq one_X11_forget 0 _ _ _).trans rfl)
def c_X10_isDictionary : List (Nat × ab_I) := [(0, .iload_n 0, 1, .null, 0),
  (1, .ifCond .lt (12), 3, .null, 13),
  (4, .iload_n 0, 1, .null, 0),
  (5, .iconst 4, 1, (.int (4)), 0),
  (6, .if_icmp .ge (7), 3, .null, 13),
  (9, .iconst 1, 1, (.int (1)), 0),
  (10, .goto (4), 3, .null, 14),
  (13, .iconst 0, 1, (.int (0)), 0),
  (14, .ireturn, 1, .null, 0)]
noncomputable def m_X10_isDictionary : ab_M := (c_X10_isDictionary, [(0, [0])],
  [],
  [],
  [],
  [], 1, 2)
theorem one_X10_isDictionary : ab_oneM m_X10_isDictionary := fun _ h => absurd h List.not_mem_nil
noncomputable def f_X10_isDictionary (l0 : Int32) (st : ab_S) : Option ab_R := ab_lim m_X10_isDictionary 0 [.int l0] [] st
noncomputable def g_X10_isDictionary : ab_G := fun as st k => match as with
  | [.int a0] => ab_ri (f_X10_isDictionary a0 st) (fun x t => k [.int x] t)
  | _ => none
theorem o_X10_isDictionary : ab_one g_X10_isDictionary := by
  intro as st k r h
  unfold g_X10_isDictionary at h ⊢
  split at h
  · exact one_ri h
  · cases h
set_option maxRecDepth 100000 in
theorem e_X10_isDictionary_0 (l0 : Int32) (st : ab_S) : f_X10_isDictionary l0 st =
    if l0 < 0
    then ab_z (0 : Int32) (some (some (.int (0 : Int32)), st))
    else if (4 : Int32) ≤ l0
      then ab_z (0 : Int32) (some (some (.int (0 : Int32)), st))
      else ab_z (1 : Int32) (some (some (.int (1 : Int32)), st)) := (lm_eq one_X10_isDictionary 0 _ _ _).trans rfl
def c_X7_clear : List (Nat × ab_I) := [(0, .aload_n 0, 1, .null, 0),
  (1, .iconst 0, 1, (.int (0)), 0),
  (2, .putfield 22, 3, .null, 0),
  (5, .return_, 1, .null, 0)]
noncomputable def m_X7_clear : ab_M := (c_X7_clear, [(0, [0])],
  [(22, 7, 3, 0)],
  [],
  [],
  [], 1, 0)
theorem one_X7_clear : ab_oneM m_X7_clear := fun _ h => absurd h List.not_mem_nil
noncomputable def f_X7_clear (l0 : Nat) (st : ab_S) : Option ab_R := ab_rc st l0 7 (ab_lim m_X7_clear 0 [.ref l0] [] st)
noncomputable def g_X7_clear : ab_G := fun as st k => match as with
  | [.ref a0] => ab_rv (f_X7_clear a0 st) (fun t => k [] t)
  | _ => none
theorem o_X7_clear : ab_one g_X7_clear := by
  intro as st k r h
  unfold g_X7_clear at h ⊢
  split at h
  · exact one_rv h
  · cases h
set_option maxRecDepth 100000 in
theorem e_X7_clear_0 (l0 : Nat) (st : ab_S) : f_X7_clear l0 st =
    ab_rc st l0 7 (
    Option.bind (ab_pI st l0 7 3 (0 : Int32)) fun s1 =>
    some (none, s1)) := congrArg (ab_rc st l0 7) ((lm_eq one_X7_clear 0 _ _ _).trans rfl)
def c_X10_begin : List (Nat × ab_I) := [(0, .iload_n 1, 1, .null, 1),
  (1, .invokestatic 95, 3, .null, 0),
  (4, .ifCond .ne (6), 3, .null, 10),
  (7, .bipush (-2), 2, (.int (-2)), 0),
  (9, .ireturn, 1, .null, 0),
  (10, .aload_n 0, 1, .null, 0),
  (11, .getfield 11, 3, .null, 0),
  (14, .iload_n 1, 1, .null, 1),
  (15, .aaload, 1, .null, 0),
  (16, .astore_n 2, 1, .null, 2),
  (17, .aload_n 2, 1, .null, 2),
  (18, .getfield 99, 3, .null, 0),
  (21, .getfield 103, 3, .null, 0),
  (24, .istore_n 3, 1, .null, 3),
  (25, .aload_n 2, 1, .null, 2),
  (26, .getfield 99, 3, .null, 0),
  (29, .invokevirtual 106, 3, .null, 0),
  (32, .aload_n 2, 1, .null, 2),
  (33, .iconst 1, 1, (.int (1)), 0),
  (34, .putfield 109, 3, .null, 0),
  (37, .aload_n 0, 1, .null, 0),
  (38, .getfield 15, 3, .null, 0),
  (41, .iload_n 1, 1, .null, 1),
  (42, .dup2, 1, .null, 0),
  (43, .iaload, 1, .null, 0),
  (44, .iconst 1, 1, (.int (1)), 0),
  (45, .iadd, 1, .null, 0),
  (46, .iastore, 1, .null, 0),
  (47, .iload_n 3, 1, .null, 3),
  (48, .ireturn, 1, .null, 0)]
noncomputable def m_X10_begin : ab_M := (c_X10_begin, [(0, [0, 1])],
  [(11, 10, 0, 3), (15, 10, 1, 3), (99, 0, 0, 3), (103, 7, 3, 0), (109, 0, 2, 1)],
  [],
  [(95, 0, 1, g_X10_isDictionary), (106, 1, 1, g_X7_clear)],
  [], 4, 1)
theorem one_X10_begin : ab_oneM m_X10_begin := List.forall_mem_cons.mpr ⟨o_X10_isDictionary, List.forall_mem_cons.mpr ⟨o_X7_clear, fun _ h => absurd h List.not_mem_nil⟩⟩
noncomputable def f_X10_begin (l0 : Nat) (l1 : Int32) (st : ab_S) : Option ab_R := ab_rc st l0 10 (ab_lim m_X10_begin 0 [.ref l0, .int l1] [] st)
noncomputable def g_X10_begin : ab_G := fun as st k => match as with
  | [.ref a0, .int a1] => ab_ri (f_X10_begin a0 a1 st) (fun x t => k [.int x] t)
  | _ => none
theorem o_X10_begin : ab_one g_X10_begin := by
  intro as st k r h
  unfold g_X10_begin at h ⊢
  split at h
  · exact one_ri h
  · cases h
set_option maxRecDepth 100000 in
theorem e_X10_begin_0 (l0 : Nat) (l1 : Int32) (st : ab_S) : f_X10_begin l0 l1 st =
    ab_rc st l0 10 (
    ab_ri (f_X10_isDictionary l1 st) fun x2 s1 =>
    if x2 = 0
    then some (some (.int (-2 : Int32)), s1)
    else Option.bind (ab_gR s1 l0 10 0) fun x3 =>
      Option.bind (ab_rR s1 x3 l1) fun x4 =>
      Option.bind (ab_gR s1 x4 0 0) fun x5 =>
      Option.bind (ab_gI s1 x5 7 3) fun x6 =>
      Option.bind (ab_gR s1 x4 0 0) fun x7 =>
      ab_rv (f_X7_clear x7 s1) fun s8 =>
      Option.bind (ab_pZ s8 x4 0 2 (1 : Int32)) fun s9 =>
      Option.bind (ab_gR s9 l0 10 1) fun x10 =>
      Option.bind (ab_rI s9 x10 l1) fun x11 =>
      Option.bind (ab_wI s9 x10 l1 (x11 + (1 : Int32))) fun s12 =>
      some (some (.int x6), s12)) := congrArg (ab_rc st l0 10) ((lm_eq one_X10_begin 0 _ _ _).trans rfl)
def c_X11_isDictionary : List (Nat × ab_I) := [(0, .iload_n 0, 1, .null, 0),
  (1, .i2l, 1, .null, 0),
  (2, .lconst 0, 1, (.long (0)), 0),
  (3, .ldc2_w 157, 3, (.long (3)), 0),
  (6, .invokestatic 146, 3, .null, 0),
  (9, .ireturn, 1, .null, 0)]
noncomputable def m_X11_isDictionary : ab_M := (c_X11_isDictionary, [(0, [0])],
  [],
  [],
  [(146, 0, 3, g_X11_isIn)],
  [], 1, 2)
theorem one_X11_isDictionary : ab_oneM m_X11_isDictionary := List.forall_mem_cons.mpr ⟨o_X11_isIn, fun _ h => absurd h List.not_mem_nil⟩
noncomputable def f_X11_isDictionary (l0 : Int32) (st : ab_S) : Option ab_R := ab_lim m_X11_isDictionary 0 [.int l0] [] st
noncomputable def g_X11_isDictionary : ab_G := fun as st k => match as with
  | [.int a0] => ab_ri (f_X11_isDictionary a0 st) (fun x t => k [.int x] t)
  | _ => none
theorem o_X11_isDictionary : ab_one g_X11_isDictionary := by
  intro as st k r h
  unfold g_X11_isDictionary at h ⊢
  split at h
  · exact one_ri h
  · cases h
set_option maxRecDepth 100000 in
theorem e_X11_isDictionary_0 (l0 : Int32) (st : ab_S) : f_X11_isDictionary l0 st =
    ab_ri (f_X11_isIn l0.toInt64 (0 : Int64) (3 : Int64) st) fun x2 s1 =>
    ab_z x2 (some (some (.int x2), s1)) := (lm_eq one_X11_isDictionary 0 _ _ _).trans rfl
def c_X11_begin : List (Nat × ab_I) := [(0, .iload_n 1, 1, .null, 1),
  (1, .invokestatic 159, 3, .null, 0),
  (4, .ifCond .ne (6), 3, .null, 10),
  (7, .bipush (-2), 2, (.int (-2)), 0),
  (9, .ireturn, 1, .null, 0),
  (10, .aload_n 0, 1, .null, 0),
  (11, .getfield 24, 3, .null, 0),
  (14, .iload_n 1, 1, .null, 1),
  (15, .iaload, 1, .null, 0),
  (16, .istore_n 2, 1, .null, 2),
  (17, .aload_n 0, 1, .null, 0),
  (18, .getfield 24, 3, .null, 0),
  (21, .iload_n 1, 1, .null, 1),
  (22, .iconst 0, 1, (.int (0)), 0),
  (23, .iastore, 1, .null, 0),
  (24, .aload_n 0, 1, .null, 0),
  (25, .getfield 27, 3, .null, 0),
  (28, .iload_n 1, 1, .null, 1),
  (29, .iconst 1, 1, (.int (1)), 0),
  (30, .bastore, 1, .null, 0),
  (31, .aload_n 0, 1, .null, 0),
  (32, .getfield 31, 3, .null, 0),
  (35, .iload_n 1, 1, .null, 1),
  (36, .dup2, 1, .null, 0),
  (37, .iaload, 1, .null, 0),
  (38, .iconst 1, 1, (.int (1)), 0),
  (39, .iadd, 1, .null, 0),
  (40, .iastore, 1, .null, 0),
  (41, .iload_n 2, 1, .null, 2),
  (42, .ireturn, 1, .null, 0)]
noncomputable def m_X11_begin : ab_M := (c_X11_begin, [(0, [0, 1])],
  [(24, 11, 5, 3), (27, 11, 6, 3), (31, 11, 7, 3)],
  [],
  [(159, 0, 1, g_X11_isDictionary)],
  [], 3, 1)
theorem one_X11_begin : ab_oneM m_X11_begin := List.forall_mem_cons.mpr ⟨o_X11_isDictionary, fun _ h => absurd h List.not_mem_nil⟩
noncomputable def f_X11_begin (l0 : Nat) (l1 : Int32) (st : ab_S) : Option ab_R := ab_rc st l0 11 (ab_lim m_X11_begin 0 [.ref l0, .int l1] [] st)
noncomputable def g_X11_begin : ab_G := fun as st k => match as with
  | [.ref a0, .int a1] => ab_ri (f_X11_begin a0 a1 st) (fun x t => k [.int x] t)
  | _ => none
theorem o_X11_begin : ab_one g_X11_begin := by
  intro as st k r h
  unfold g_X11_begin at h ⊢
  split at h
  · exact one_ri h
  · cases h
set_option maxRecDepth 100000 in
theorem e_X11_begin_0 (l0 : Nat) (l1 : Int32) (st : ab_S) : f_X11_begin l0 l1 st =
    ab_rc st l0 11 (
    ab_ri (f_X11_isDictionary l1 st) fun x2 s1 =>
    if x2 = 0
    then some (some (.int (-2 : Int32)), s1)
    else Option.bind (ab_gR s1 l0 11 5) fun x3 =>
      Option.bind (ab_rI s1 x3 l1) fun x4 =>
      Option.bind (ab_gR s1 l0 11 5) fun x5 =>
      Option.bind (ab_wI s1 x5 l1 (0 : Int32)) fun s6 =>
      Option.bind (ab_gR s6 l0 11 6) fun x7 =>
      Option.bind (ab_wB s6 x7 l1 (1 : Int32)) fun s8 =>
      Option.bind (ab_gR s8 l0 11 7) fun x9 =>
      Option.bind (ab_rI s8 x9 l1) fun x10 =>
      Option.bind (ab_wI s8 x9 l1 (x10 + (1 : Int32))) fun s11 =>
      some (some (.int x4), s11)) := congrArg (ab_rc st l0 11) ((lm_eq one_X11_begin 0 _ _ _).trans rfl)
def c_X7_has : List (Nat × ab_I) := [(0, .iload_n 1, 1, .null, 1),
  (1, .ifCond .lt (22), 3, .null, 23),
  (4, .iload_n 1, 1, .null, 1),
  (5, .aload_n 0, 1, .null, 0),
  (6, .getfield 22, 3, .null, 0),
  (9, .if_icmp .ge (14), 3, .null, 23),
  (12, .iload_n 1, 1, .null, 1),
  (13, .sipush (200), 3, (.int (200)), 0),
  (16, .if_icmp .ge (7), 3, .null, 23),
  (19, .iconst 1, 1, (.int (1)), 0),
  (20, .goto (4), 3, .null, 24),
  (23, .iconst 0, 1, (.int (0)), 0),
  (24, .ireturn, 1, .null, 0)]
noncomputable def m_X7_has : ab_M := (c_X7_has, [(0, [0, 1])],
  [(22, 7, 3, 0)],
  [],
  [],
  [], 2, 2)
theorem one_X7_has : ab_oneM m_X7_has := fun _ h => absurd h List.not_mem_nil
noncomputable def f_X7_has (l0 : Nat) (l1 : Int32) (st : ab_S) : Option ab_R := ab_rc st l0 7 (ab_lim m_X7_has 0 [.ref l0, .int l1] [] st)
noncomputable def g_X7_has : ab_G := fun as st k => match as with
  | [.ref a0, .int a1] => ab_ri (f_X7_has a0 a1 st) (fun x t => k [.int x] t)
  | _ => none
theorem o_X7_has : ab_one g_X7_has := by
  intro as st k r h
  unfold g_X7_has at h ⊢
  split at h
  · exact one_ri h
  · cases h
set_option maxRecDepth 100000 in
theorem e_X7_has_0 (l0 : Nat) (l1 : Int32) (st : ab_S) : f_X7_has l0 l1 st =
    ab_rc st l0 7 (
    if l1 < 0
    then ab_z (0 : Int32) (some (some (.int (0 : Int32)), st))
    else Option.bind (ab_gI st l0 7 3) fun x1 =>
      if x1 ≤ l1
      then ab_z (0 : Int32) (some (some (.int (0 : Int32)), st))
      else if (200 : Int32) ≤ l1
        then ab_z (0 : Int32) (some (some (.int (0 : Int32)), st))
        else ab_z (1 : Int32) (some (some (.int (1 : Int32)), st))) := congrArg (ab_rc st l0 7) ((lm_eq one_X7_has 0 _ _ _).trans rfl)
def c_X7_lengthAt : List (Nat × ab_I) := [(0, .aload_n 0, 1, .null, 0),
  (1, .iload_n 1, 1, .null, 1),
  (2, .invokevirtual 26, 3, .null, 0),
  (5, .ifCond .eq (12), 3, .null, 17),
  (8, .aload_n 0, 1, .null, 0),
  (9, .getfield 9, 3, .null, 0),
  (12, .iload_n 1, 1, .null, 1),
  (13, .iaload, 1, .null, 0),
  (14, .goto (4), 3, .null, 18),
  (17, .iconst (-1), 1, (.int (-1)), 0),
  (18, .ireturn, 1, .null, 0)]
noncomputable def m_X7_lengthAt : ab_M := (c_X7_lengthAt, [(0, [0, 1])],
  [(9, 7, 0, 3)],
  [],
  [(26, 1, 2, g_X7_has)],
  [], 2, 1)
theorem one_X7_lengthAt : ab_oneM m_X7_lengthAt := List.forall_mem_cons.mpr ⟨o_X7_has, fun _ h => absurd h List.not_mem_nil⟩
noncomputable def f_X7_lengthAt (l0 : Nat) (l1 : Int32) (st : ab_S) : Option ab_R := ab_rc st l0 7 (ab_lim m_X7_lengthAt 0 [.ref l0, .int l1] [] st)
noncomputable def g_X7_lengthAt : ab_G := fun as st k => match as with
  | [.ref a0, .int a1] => ab_ri (f_X7_lengthAt a0 a1 st) (fun x t => k [.int x] t)
  | _ => none
theorem o_X7_lengthAt : ab_one g_X7_lengthAt := by
  intro as st k r h
  unfold g_X7_lengthAt at h ⊢
  split at h
  · exact one_ri h
  · cases h
set_option maxRecDepth 100000 in
theorem e_X7_lengthAt_0 (l0 : Nat) (l1 : Int32) (st : ab_S) : f_X7_lengthAt l0 l1 st =
    ab_rc st l0 7 (
    ab_ri (f_X7_has l0 l1 st) fun x2 s1 =>
    if x2 = 0
    then some (some (.int (-1 : Int32)), s1)
    else Option.bind (ab_gR s1 l0 7 0) fun x3 =>
      Option.bind (ab_rI s1 x3 l1) fun x4 =>
      some (some (.int x4), s1)) := congrArg (ab_rc st l0 7) ((lm_eq one_X7_lengthAt 0 _ _ _).trans rfl)
def c_X7_signAt : List (Nat × ab_I) := [(0, .iload_n 2, 1, .null, 2),
  (1, .ifCond .lt (12), 3, .null, 13),
  (4, .iload_n 2, 1, .null, 2),
  (5, .aload_n 0, 1, .null, 0),
  (6, .iload_n 1, 1, .null, 1),
  (7, .invokevirtual 30, 3, .null, 0),
  (10, .if_icmp .lt (7), 3, .null, 17),
  (13, .iconst (-1), 1, (.int (-1)), 0),
  (14, .goto (14), 3, .null, 28),
  (17, .aload_n 0, 1, .null, 0),
  (18, .getfield 15, 3, .null, 0),
  (21, .iload_n 1, 1, .null, 1),
  (22, .bipush (12), 2, (.int (12)), 0),
  (24, .imul, 1, .null, 0),
  (25, .iload_n 2, 1, .null, 2),
  (26, .iadd, 1, .null, 0),
  (27, .iaload, 1, .null, 0),
  (28, .ireturn, 1, .null, 0)]
noncomputable def m_X7_signAt : ab_M := (c_X7_signAt, [(0, [0, 1, 2])],
  [(15, 7, 1, 3)],
  [],
  [(30, 1, 2, g_X7_lengthAt)],
  [], 3, 1)
theorem one_X7_signAt : ab_oneM m_X7_signAt := List.forall_mem_cons.mpr ⟨o_X7_lengthAt, fun _ h => absurd h List.not_mem_nil⟩
noncomputable def f_X7_signAt (l0 : Nat) (l1 : Int32) (l2 : Int32) (st : ab_S) : Option ab_R := ab_rc st l0 7 (ab_lim m_X7_signAt 0 [.ref l0, .int l1, .int l2] [] st)
noncomputable def g_X7_signAt : ab_G := fun as st k => match as with
  | [.ref a0, .int a1, .int a2] => ab_ri (f_X7_signAt a0 a1 a2 st) (fun x t => k [.int x] t)
  | _ => none
theorem o_X7_signAt : ab_one g_X7_signAt := by
  intro as st k r h
  unfold g_X7_signAt at h ⊢
  split at h
  · exact one_ri h
  · cases h
set_option maxRecDepth 100000 in
theorem e_X7_signAt_0 (l0 : Nat) (l1 : Int32) (l2 : Int32) (st : ab_S) : f_X7_signAt l0 l1 l2 st =
    ab_rc st l0 7 (
    if l2 < 0
    then some (some (.int (-1 : Int32)), st)
    else ab_ri (f_X7_lengthAt l0 l1 st) fun x2 s1 =>
      if l2 < x2
      then Option.bind (ab_gR s1 l0 7 1) fun x3 =>
        Option.bind (ab_rI s1 x3 ((l1 * (12 : Int32)) + l2)) fun x4 =>
        some (some (.int x4), s1)
      else some (some (.int (-1 : Int32)), s1)) := congrArg (ab_rc st l0 7) ((lm_eq one_X7_signAt 0 _ _ _).trans rfl)
def c_X6_at : List (Nat × ab_I) := [(0, .iload_n 1, 1, .null, 1),
  (1, .ifCond .lt (20), 3, .null, 21),
  (4, .iload_n 1, 1, .null, 1),
  (5, .aload_n 0, 1, .null, 0),
  (6, .getfield 21, 3, .null, 0),
  (9, .if_icmp .ge (12), 3, .null, 21),
  (12, .iload_n 1, 1, .null, 1),
  (13, .aload_n 0, 1, .null, 0),
  (14, .getfield 15, 3, .null, 0),
  (17, .arraylength, 1, .null, 0),
  (18, .if_icmp .lt (7), 3, .null, 25),
  (21, .iconst (-1), 1, (.int (-1)), 0),
  (22, .goto (9), 3, .null, 31),
  (25, .aload_n 0, 1, .null, 0),
  (26, .getfield 15, 3, .null, 0),
  (29, .iload_n 1, 1, .null, 1),
  (30, .iaload, 1, .null, 0),
  (31, .ireturn, 1, .null, 0)]
noncomputable def m_X6_at : ab_M := (c_X6_at, [(0, [0, 1])],
  [(15, 6, 0, 3), (21, 6, 1, 0)],
  [],
  [],
  [], 2, 1)
theorem one_X6_at : ab_oneM m_X6_at := fun _ h => absurd h List.not_mem_nil
noncomputable def f_X6_at (l0 : Nat) (l1 : Int32) (st : ab_S) : Option ab_R := ab_rc st l0 6 (ab_lim m_X6_at 0 [.ref l0, .int l1] [] st)
noncomputable def g_X6_at : ab_G := fun as st k => match as with
  | [.ref a0, .int a1] => ab_ri (f_X6_at a0 a1 st) (fun x t => k [.int x] t)
  | _ => none
theorem o_X6_at : ab_one g_X6_at := by
  intro as st k r h
  unfold g_X6_at at h ⊢
  split at h
  · exact one_ri h
  · cases h
set_option maxRecDepth 100000 in
theorem e_X6_at_0 (l0 : Nat) (l1 : Int32) (st : ab_S) : f_X6_at l0 l1 st =
    ab_rc st l0 6 (
    if l1 < 0
    then some (some (.int (-1 : Int32)), st)
    else Option.bind (ab_gI st l0 6 1) fun x1 =>
      if x1 ≤ l1
      then some (some (.int (-1 : Int32)), st)
      else Option.bind (ab_gR st l0 6 0) fun x2 =>
        Option.bind (ab_n st x2) fun n3 =>
        if l1 < (Int32.ofNat n3)
        then Option.bind (ab_gR st l0 6 0) fun x4 =>
          Option.bind (ab_rI st x4 l1) fun x5 =>
          some (some (.int x5), st)
        else some (some (.int (-1 : Int32)), st)) := congrArg (ab_rc st l0 6) ((lm_eq one_X6_at 0 _ _ _).trans rfl)
def c_X7_compareWith : List (Nat × ab_I) := [(0, .iconst 0, 1, (.int (0)), 0),
  (1, .istore_n 3, 1, .null, 3),
  (2, .iload_n 3, 1, .null, 3),
  (3, .bipush (12), 2, (.int (12)), 0),
  (5, .if_icmp .gt (52), 3, .null, 57),
  (8, .aload_n 0, 1, .null, 0),
  (9, .iload_n 1, 1, .null, 1),
  (10, .iload_n 3, 1, .null, 3),
  (11, .invokevirtual 42, 3, .null, 0),
  (14, .istore 4, 2, .null, 4),
  (16, .aload_n 2, 1, .null, 2),
  (17, .iload_n 3, 1, .null, 3),
  (18, .invokevirtual 45, 3, .null, 0),
  (21, .istore 5, 2, .null, 5),
  (23, .iload 4, 2, .null, 4),
  (25, .iload 5, 2, .null, 5),
  (27, .if_icmp .eq (16), 3, .null, 43),
  (30, .iload 4, 2, .null, 4),
  (32, .iload 5, 2, .null, 5),
  (34, .if_icmp .ge (7), 3, .null, 41),
  (37, .iconst (-1), 1, (.int (-1)), 0),
  (38, .goto (4), 3, .null, 42),
  (41, .iconst 1, 1, (.int (1)), 0),
  (42, .ireturn, 1, .null, 0),
  (43, .iload 4, 2, .null, 4),
  (45, .iconst (-1), 1, (.int (-1)), 0),
  (46, .if_icmp .ne (5), 3, .null, 51),
  (49, .iconst 0, 1, (.int (0)), 0),
  (50, .ireturn, 1, .null, 0),
  (51, .iinc 3 (1), 3, (.int (1)), 3),
  (54, .goto (-52), 3, .null, 2),
  (57, .iconst 0, 1, (.int (0)), 0),
  (58, .ireturn, 1, .null, 0)]
noncomputable def m_X7_compareWith : ab_M := (c_X7_compareWith, [(0, [0, 1, 2]), (2, [0, 1, 2, 3])],
  [],
  [],
  [(42, 1, 3, g_X7_signAt), (45, 1, 2, g_X6_at)],
  [], 6, 1)
theorem one_X7_compareWith : ab_oneM m_X7_compareWith := List.forall_mem_cons.mpr ⟨o_X7_signAt, List.forall_mem_cons.mpr ⟨o_X6_at, fun _ h => absurd h List.not_mem_nil⟩⟩
noncomputable def f_X7_compareWith (l0 : Nat) (l1 : Int32) (l2 : Nat) (st : ab_S) : Option ab_R := ab_rc st l0 7 (ab_lim m_X7_compareWith 0 [.ref l0, .int l1, .ref l2] [] st)
noncomputable def L_X7_compareWith_2 (l0 : Nat) (l1 : Int32) (l2 : Nat) (l3 : Int32) (st : ab_S) : Option ab_R := ab_lim m_X7_compareWith 2 [.ref l0, .int l1, .ref l2, .int l3] [] st
noncomputable def g_X7_compareWith : ab_G := fun as st k => match as with
  | [.ref a0, .int a1, .ref a2] => ab_ri (f_X7_compareWith a0 a1 a2 st) (fun x t => k [.int x] t)
  | _ => none
theorem o_X7_compareWith : ab_one g_X7_compareWith := by
  intro as st k r h
  unfold g_X7_compareWith at h ⊢
  split at h
  · exact one_ri h
  · cases h
set_option maxRecDepth 100000 in
theorem e_X7_compareWith_0 (l0 : Nat) (l1 : Int32) (l2 : Nat) (st : ab_S) : f_X7_compareWith l0 l1 l2 st =
    ab_rc st l0 7 (
    L_X7_compareWith_2 l0 l1 l2 (0 : Int32) st) := congrArg (ab_rc st l0 7) ((lm_eq one_X7_compareWith 0 _ _ _).trans rfl)
set_option maxRecDepth 100000 in
theorem e_X7_compareWith_2 (l0 : Nat) (l1 : Int32) (l2 : Nat) (l3 : Int32) (st : ab_S) : L_X7_compareWith_2 l0 l1 l2 l3 st =
    if (12 : Int32) < l3
    then some (some (.int (0 : Int32)), st)
    else ab_ri (f_X7_signAt l0 l1 l3 st) fun x2 s1 =>
      ab_ri (f_X6_at l2 l3 s1) fun x4 s3 =>
      if x2 = x4
      then if x2 = (-1 : Int32)
        then some (some (.int (0 : Int32)), s3)
        else L_X7_compareWith_2 l0 l1 l2 (l3 + (1 : Int32)) s3
      else if x4 ≤ x2
        then some (some (.int (1 : Int32)), s3)
        else some (some (.int (-1 : Int32)), s3) := (lm_eq one_X7_compareWith 2 _ _ _).trans rfl
def c_X7_append : List (Nat × ab_I) := [(0, .iload_n 2, 1, .null, 2),
  (1, .ifCond .lt (19), 3, .null, 20),
  (4, .iload_n 3, 1, .null, 3),
  (5, .ifCond .lt (15), 3, .null, 20),
  (8, .iload_n 2, 1, .null, 2),
  (9, .aload_n 1, 1, .null, 1),
  (10, .arraylength, 1, .null, 0),
  (11, .iload_n 3, 1, .null, 3),
  (12, .isub, 1, .null, 0),
  (13, .if_icmp .gt (7), 3, .null, 20),
  (16, .iconst 1, 1, (.int (1)), 0),
  (17, .goto (4), 3, .null, 21),
  (20, .iconst 0, 1, (.int (0)), 0),
  (21, .istore 6, 2, .null, 6),
  (23, .aload_n 0, 1, .null, 0),
  (24, .getfield 22, 3, .null, 0),
  (27, .sipush (200), 3, (.int (200)), 0),
  (30, .if_icmp .ge (14), 3, .null, 44),
  (33, .iload_n 3, 1, .null, 3),
  (34, .bipush (12), 2, (.int (12)), 0),
  (36, .if_icmp .gt (8), 3, .null, 44),
  (39, .iload 6, 2, .null, 6),
  (41, .ifCond .ne (5), 3, .null, 46),
  (44, .iconst 0, 1, (.int (0)), 0),
  (45, .ireturn, 1, .null, 0),
  (46, .iconst 0, 1, (.int (0)), 0),
  (47, .istore 7, 2, .null, 7),
  (49, .iload 7, 2, .null, 7),
  (51, .iload_n 3, 1, .null, 3),
  (52, .if_icmp .ge (30), 3, .null, 82),
  (55, .aload_n 0, 1, .null, 0),
  (56, .getfield 15, 3, .null, 0),
  (59, .aload_n 0, 1, .null, 0),
  (60, .getfield 22, 3, .null, 0),
  (63, .bipush (12), 2, (.int (12)), 0),
  (65, .imul, 1, .null, 0),
  (66, .iload 7, 2, .null, 7),
  (68, .iadd, 1, .null, 0),
  (69, .aload_n 1, 1, .null, 1),
  (70, .iload_n 2, 1, .null, 2),
  (71, .iload 7, 2, .null, 7),
  (73, .iadd, 1, .null, 0),
  (74, .iaload, 1, .null, 0),
  (75, .iastore, 1, .null, 0),
  (76, .iinc 7 (1), 3, (.int (1)), 7),
  (79, .goto (-30), 3, .null, 49),
  (82, .aload_n 0, 1, .null, 0),
  (83, .getfield 9, 3, .null, 0),
  (86, .aload_n 0, 1, .null, 0),
  (87, .getfield 22, 3, .null, 0),
  (90, .iload_n 3, 1, .null, 3),
  (91, .iastore, 1, .null, 0),
  (92, .aload_n 0, 1, .null, 0),
  (93, .getfield 18, 3, .null, 0),
  (96, .aload_n 0, 1, .null, 0),
  (97, .getfield 22, 3, .null, 0),
  (100, .lload 4, 2, .null, 4),
  (102, .lastore, 1, .null, 0),
  (103, .aload_n 0, 1, .null, 0),
  (104, .dup, 1, .null, 0),
  (105, .getfield 22, 3, .null, 0),
  (108, .iconst 1, 1, (.int (1)), 0),
  (109, .iadd, 1, .null, 0),
  (110, .putfield 22, 3, .null, 0),
  (113, .iconst 1, 1, (.int (1)), 0),
  (114, .ireturn, 1, .null, 0)]
noncomputable def m_X7_append : ab_M := (c_X7_append, [(0, [0, 1, 2, 3, 4]), (20, [0, 1, 2, 3, 4]), (21, [0, 1, 2, 3, 4]), (49, [0, 1, 2, 3, 4, 7])],
  [(9, 7, 0, 3), (15, 7, 1, 3), (18, 7, 2, 3), (22, 7, 3, 0)],
  [],
  [],
  [], 8, 2)
theorem one_X7_append : ab_oneM m_X7_append := fun _ h => absurd h List.not_mem_nil
noncomputable def f_X7_append (l0 : Nat) (l1 : Nat) (l2 : Int32) (l3 : Int32) (l4 : Int64) (st : ab_S) : Option ab_R := ab_rc st l0 7 (ab_lim m_X7_append 0 [.ref l0, .ref l1, .int l2, .int l3, .long l4] [] st)
noncomputable def L_X7_append_20 (l0 : Nat) (l1 : Nat) (l2 : Int32) (l3 : Int32) (l4 : Int64) (st : ab_S) : Option ab_R := ab_lim m_X7_append 20 [.ref l0, .ref l1, .int l2, .int l3, .long l4] [] st
noncomputable def L_X7_append_21 (l0 : Nat) (l1 : Nat) (l2 : Int32) (l3 : Int32) (l4 : Int64) (t0 : Int32) (st : ab_S) : Option ab_R := ab_lim m_X7_append 21 [.ref l0, .ref l1, .int l2, .int l3, .long l4] [.int t0] st
noncomputable def L_X7_append_49 (l0 : Nat) (l1 : Nat) (l2 : Int32) (l3 : Int32) (l4 : Int64) (l7 : Int32) (st : ab_S) : Option ab_R := ab_lim m_X7_append 49 [.ref l0, .ref l1, .int l2, .int l3, .long l4, .int l7] [] st
noncomputable def g_X7_append : ab_G := fun as st k => match as with
  | [.ref a0, .ref a1, .int a2, .int a3, .long a4] => ab_ri (f_X7_append a0 a1 a2 a3 a4 st) (fun x t => k [.int x] t)
  | _ => none
theorem o_X7_append : ab_one g_X7_append := by
  intro as st k r h
  unfold g_X7_append at h ⊢
  split at h
  · exact one_ri h
  · cases h
set_option maxRecDepth 100000 in
theorem e_X7_append_0 (l0 : Nat) (l1 : Nat) (l2 : Int32) (l3 : Int32) (l4 : Int64) (st : ab_S) : f_X7_append l0 l1 l2 l3 l4 st =
    ab_rc st l0 7 (
    if l2 < 0
    then L_X7_append_20 l0 l1 l2 l3 l4 st
    else if l3 < 0
      then L_X7_append_20 l0 l1 l2 l3 l4 st
      else Option.bind (ab_n st l1) fun n1 =>
        if ((Int32.ofNat n1) - l3) < l2
        then L_X7_append_20 l0 l1 l2 l3 l4 st
        else L_X7_append_21 l0 l1 l2 l3 l4 (1 : Int32) st) := congrArg (ab_rc st l0 7) ((lm_eq one_X7_append 0 _ _ _).trans rfl)
set_option maxRecDepth 100000 in
theorem e_X7_append_20 (l0 : Nat) (l1 : Nat) (l2 : Int32) (l3 : Int32) (l4 : Int64) (st : ab_S) : L_X7_append_20 l0 l1 l2 l3 l4 st =
    L_X7_append_21 l0 l1 l2 l3 l4 (0 : Int32) st := (lm_eq one_X7_append 20 _ _ _).trans rfl
set_option maxRecDepth 100000 in
theorem e_X7_append_21 (l0 : Nat) (l1 : Nat) (l2 : Int32) (l3 : Int32) (l4 : Int64) (t0 : Int32) (st : ab_S) : L_X7_append_21 l0 l1 l2 l3 l4 t0 st =
    Option.bind (ab_gI st l0 7 3) fun x1 =>
    if (200 : Int32) ≤ x1
    then ab_z (0 : Int32) (some (some (.int (0 : Int32)), st))
    else if (12 : Int32) < l3
      then ab_z (0 : Int32) (some (some (.int (0 : Int32)), st))
      else if t0 = 0
        then ab_z (0 : Int32) (some (some (.int (0 : Int32)), st))
        else L_X7_append_49 l0 l1 l2 l3 l4 (0 : Int32) st := (lm_eq one_X7_append 21 _ _ _).trans rfl
set_option maxRecDepth 100000 in
theorem e_X7_append_49 (l0 : Nat) (l1 : Nat) (l2 : Int32) (l3 : Int32) (l4 : Int64) (l7 : Int32) (st : ab_S) : L_X7_append_49 l0 l1 l2 l3 l4 l7 st =
    if l3 ≤ l7
    then Option.bind (ab_gR st l0 7 0) fun x1 =>
      Option.bind (ab_gI st l0 7 3) fun x2 =>
      Option.bind (ab_wI st x1 x2 l3) fun s3 =>
      Option.bind (ab_gR s3 l0 7 2) fun x4 =>
      Option.bind (ab_gI s3 l0 7 3) fun x5 =>
      Option.bind (ab_wJ s3 x4 x5 l4) fun s6 =>
      Option.bind (ab_gI s6 l0 7 3) fun x7 =>
      Option.bind (ab_pI s6 l0 7 3 (x7 + (1 : Int32))) fun s8 =>
      ab_z (1 : Int32) (some (some (.int (1 : Int32)), s8))
    else Option.bind (ab_gR st l0 7 1) fun x9 =>
      Option.bind (ab_gI st l0 7 3) fun x10 =>
      Option.bind (ab_rI st l1 (l2 + l7)) fun x11 =>
      Option.bind (ab_wI st x9 ((x10 * (12 : Int32)) + l7) x11) fun s12 =>
      L_X7_append_49 l0 l1 l2 l3 l4 (l7 + (1 : Int32)) s12 := (lm_eq one_X7_append 49 _ _ _).trans rfl
