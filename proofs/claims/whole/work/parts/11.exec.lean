/-! ONE INSTRUCTION of the abstract machine, in front of what comes behind it (K). An entry of a method's table: the instruction, its length, the constant that it pushes (or adds), its target or its place among the locals. -/
abbrev ab_I : Type := Instr × Nat × Value × Nat
/-- a method: its instructions by pc; its labels, with the locals that live there; its fields by index: (class, place, kind), kind 0 int, 1 boolean, 2 long, 3 reference; its classes by index; its callees by index; its switches by pc: cases and default; how many locals; what it returns: 0 nothing, 1 int, 2 boolean, 3 long, 4 a reference -/
abbrev ab_M : Type := List (Nat × ab_I) × List (Nat × List Nat) × List (Nat × Nat × Nat × Nat) × List (Nat × Nat) × List (Nat × ab_C) × List (Nat × List (Int32 × Nat) × Nat) × Nat × Nat
def mC (M : ab_M) : List (Nat × ab_I) := M.1
def mL (M : ab_M) : List (Nat × List Nat) := M.2.1
def mF (M : ab_M) : List (Nat × Nat × Nat × Nat) := M.2.2.1
def mK (M : ab_M) : List (Nat × Nat) := M.2.2.2.1
def mG (M : ab_M) : List (Nat × ab_C) := M.2.2.2.2.1
def mS (M : ab_M) : List (Nat × List (Int32 × Nat) × Nat) := M.2.2.2.2.2.1
def mN (M : ab_M) : Nat := M.2.2.2.2.2.2.1
def mR (M : ab_M) : Nat := M.2.2.2.2.2.2.2

def tk_i (stk : List Value) (f : Int32 → List Value → Option ab_R) : Option ab_R := match stk with
  | .int x :: r => f x r
  | _ => none
def tk_l (stk : List Value) (f : Int64 → List Value → Option ab_R) : Option ab_R := match stk with
  | .long x :: r => f x r
  | _ => none
def tk_r (stk : List Value) (f : Nat → List Value → Option ab_R) : Option ab_R := match stk with
  | .ref x :: r => f x r
  | _ => none
def tk_ii (stk : List Value) (f : Int32 → Int32 → List Value → Option ab_R) : Option ab_R := match stk with
  | .int y :: .int x :: r => f x y r
  | _ => none
def tk_ll (stk : List Value) (f : Int64 → Int64 → List Value → Option ab_R) : Option ab_R := match stk with
  | .long y :: .long x :: r => f x y r
  | _ => none
def tk_li (stk : List Value) (f : Int64 → Int32 → List Value → Option ab_R) : Option ab_R := match stk with
  | .int y :: .long x :: r => f x y r
  | _ => none
def tk_ri (stk : List Value) (f : Nat → Int32 → List Value → Option ab_R) : Option ab_R := match stk with
  | .int i :: .ref a :: r => f a i r
  | _ => none
def tk_rii (stk : List Value) (f : Nat → Int32 → Int32 → List Value → Option ab_R) : Option ab_R := match stk with
  | .int v :: .int i :: .ref a :: r => f a i v r
  | _ => none
def tk_ril (stk : List Value) (f : Nat → Int32 → Int64 → List Value → Option ab_R) : Option ab_R := match stk with
  | .long v :: .int i :: .ref a :: r => f a i v r
  | _ => none
def tk_rir (stk : List Value) (f : Nat → Int32 → Nat → List Value → Option ab_R) : Option ab_R := match stk with
  | .ref v :: .int i :: .ref a :: r => f a i v r
  | _ => none
def tk_rl (stk : List Value) (f : Nat → Int64 → List Value → Option ab_R) : Option ab_R := match stk with
  | .long v :: .ref a :: r => f a v r
  | _ => none
def tk_rr (stk : List Value) (f : Nat → Nat → List Value → Option ab_R) : Option ab_R := match stk with
  | .ref v :: .ref a :: r => f a v r
  | _ => none
def ld_i (ls : ab_L) (i : Nat) (f : Int32 → Option ab_R) : Option ab_R := match ab_look ls i with
  | some (.int x) => f x
  | _ => none
def ld_l (ls : ab_L) (i : Nat) (f : Int64 → Option ab_R) : Option ab_R := match ab_look ls i with
  | some (.long x) => f x
  | _ => none
def ld_r (ls : ab_L) (i : Nat) (f : Nat → Option ab_R) : Option ab_R := match ab_look ls i with
  | some (.ref x) => f x
  | _ => none
/-- only a place among the locals -/
def ab_lt (i n : Nat) (r : Option ab_R) : Option ab_R := match Nat.blt i n with
  | true => r
  | false => none
def ab_sw (x : Int32) (G : Nat → Option ab_R) (d : Nat) : List (Int32 × Nat) → Option ab_R
  | [] => G d
  | q :: r => if x = q.1 then G q.2 else ab_sw x G d r
def ab_sum : List Value → Nat
  | [] => 0
  | v :: r => v.category + ab_sum r
/-- a call: n values from the stack, in their order; what stays below is small -/
def ab_call (C : Option ab_C) (kd : Nat) (stk : List Value) (st : ab_S) (k : List Value → List Value → ab_S → Option ab_R) : Option ab_R := match C with
  | some (kd', n, f) => match Nat.beq kd kd', Nat.ble n stk.length, Nat.ble (ab_sum (stk.drop n)) 8 with
    | true, true, true => f (stk.take n).reverse st (fun rs st' => k rs (stk.drop n) st')
    | _, _, _ => none
  | none => none
def ab_getf (F : Option (Nat × Nat × Nat)) (o : Nat) (st : ab_S) (k : Value → Option ab_R) : Option ab_R := match F with
  | some (c, p, 2) => (ab_gJ st o c p).bind (fun x => k (.long x))
  | some (c, p, 3) => (ab_gR st o c p).bind (fun x => k (.ref x))
  | some (c, p, _) => (ab_gI st o c p).bind (fun x => k (.int x))
  | none => none
def ab_putf (F : Option (Nat × Nat × Nat)) (stk : List Value) (st : ab_S) (k : List Value → ab_S → Option ab_R) : Option ab_R := match F with
  | some (c, p, 0) => tk_ri stk (fun o v r => (ab_pI st o c p v).bind (fun t => k r t))
  | some (c, p, 1) => tk_ri stk (fun o v r => (ab_pZ st o c p v).bind (fun t => k r t))
  | some (c, p, 2) => tk_rl stk (fun o v r => (ab_pJ st o c p v).bind (fun t => k r t))
  | some (c, p, 3) => tk_rr stk (fun o v r => (ab_pR st o c p v).bind (fun t => k r t))
  | _ => none
def ab_ret (kd : Nat) (stk : List Value) (st : ab_S) : Option ab_R := match kd, stk with
  | 1, [.int v] => some (some (.int v), st)
  | 2, [.int v] => ab_z v (some (some (.int v), st))
  | _, _ => none
def ab_retl (kd : Nat) (stk : List Value) (st : ab_S) : Option ab_R := match kd, stk with
  | 3, [.long v] => some (some (.long v), st)
  | _, _ => none
def ab_retr (kd : Nat) (stk : List Value) (st : ab_S) : Option ab_R := match kd, stk with
  | 4, [.ref v] => some (some (.ref v), st)
  | _, _ => none
def ab_retv (kd : Nat) (stk : List Value) (st : ab_S) : Option ab_R := match kd, stk with
  | 0, [] => some (none, st)
  | _, _ => none
/-- a new cell; the guard keeps it from being reckoned too early -/
def ab_mo (st : ab_S) (h : Nat × Nat) : Option ab_S := if (sH st).length < 2 then none else some (ab_mk st h)
def ab_newn (st : ab_S) (n : Int32) (kd : Nat) (k : Nat → ab_S → Option ab_R) : Option ab_R := if n < 0 ∨ 50000 < n.toNatClampNeg then none else (ab_mo st (kd, n.toNatClampNeg)).bind (fun t => k (sH st).length t)
def ab_atk : ArrayType → Nat
  | .int => 1
  | .long => 2
  | .byte => 3
  | .boolean => 4
  | _ => 6
/-- new int[n][k] -/
def ab_rows (st : ab_S) (a k : Nat) : Nat → ab_S
  | 0 => st
  | i + 1 => let t := ab_rows st a k i; uR (ab_mk t (1, k)) a i (sH t).length

def ab_newo (st : ab_S) (c : Nat) (k : Nat → ab_S → Option ab_R) : Option ab_R := (ab_mo st (0, c)).bind (fun t => k (sH st).length t)
def ab_mm (st : ab_S) (a b : Int32) : Option ab_S := if (sH st).length < 2 ∨ a < 0 ∨ b < 0 ∨ 1000 < a.toNatClampNeg ∨ 1000 < b.toNatClampNeg then none else some (ab_rows (ab_mk st (5, a.toNatClampNeg)) (sH st).length b.toNatClampNeg a.toNatClampNeg)
def ab_newm (st : ab_S) (a b : Int32) (k : Nat → ab_S → Option ab_R) : Option ab_R := (ab_mm st a b).bind (fun t => k (sH st).length t)

def ab_exec (M : ab_M) (K : ab_K) (pc : Nat) (ls : ab_L) (stk : List Value) (st : ab_S) (ins : Instr) (n : Nat) (x : Value) (t : Nat) : Option ab_R := match ins with
  | .iconst _ => K (pc + n) ls (x :: stk) st
  | .bipush _ => K (pc + n) ls (x :: stk) st
  | .sipush _ => K (pc + n) ls (x :: stk) st
  | .lconst _ => K (pc + n) ls (x :: stk) st
  | .ldc _ => K (pc + n) ls (x :: stk) st
  | .ldc2_w _ => K (pc + n) ls (x :: stk) st
  | .iload _ => ld_i ls t (fun v => K (pc + n) ls (.int v :: stk) st)
  | .iload_n _ => ld_i ls t (fun v => K (pc + n) ls (.int v :: stk) st)
  | .lload _ => ld_l ls t (fun v => K (pc + n) ls (.long v :: stk) st)
  | .lload_n _ => ld_l ls t (fun v => K (pc + n) ls (.long v :: stk) st)
  | .aload _ => ld_r ls t (fun v => K (pc + n) ls (.ref v :: stk) st)
  | .aload_n _ => ld_r ls t (fun v => K (pc + n) ls (.ref v :: stk) st)
  | .istore _ => ab_lt t (mN M) (tk_i stk (fun v r => K (pc + n) (ab_st1 ls t (.int v)) r st))
  | .istore_n _ => ab_lt t (mN M) (tk_i stk (fun v r => K (pc + n) (ab_st1 ls t (.int v)) r st))
  | .lstore _ => ab_lt (t + 1) (mN M) (tk_l stk (fun v r => K (pc + n) (ab_st2 ls t (.long v)) r st))
  | .lstore_n _ => ab_lt (t + 1) (mN M) (tk_l stk (fun v r => K (pc + n) (ab_st2 ls t (.long v)) r st))
  | .astore _ => ab_lt t (mN M) (tk_r stk (fun v r => K (pc + n) (ab_st1 ls t (.ref v)) r st))
  | .astore_n _ => ab_lt t (mN M) (tk_r stk (fun v r => K (pc + n) (ab_st1 ls t (.ref v)) r st))
  | .iinc _ _ => ab_lt t (mN M) (ld_i ls t (fun v => match x with
    | .int d => K (pc + n) (ab_st1 ls t (.int (v + d))) stk st
    | _ => none))
  | .iadd => tk_ii stk (fun a b r => K (pc + n) ls (.int (a + b) :: r) st)
  | .isub => tk_ii stk (fun a b r => K (pc + n) ls (.int (a - b) :: r) st)
  | .imul => tk_ii stk (fun a b r => K (pc + n) ls (.int (a * b) :: r) st)
  | .iand => tk_ii stk (fun a b r => K (pc + n) ls (.int (a &&& b) :: r) st)
  | .ior => tk_ii stk (fun a b r => K (pc + n) ls (.int (a ||| b) :: r) st)
  | .ishl => tk_ii stk (fun a b r => K (pc + n) ls (.int (a <<< (b &&& 31)) :: r) st)
  | .iushr => tk_ii stk (fun a b r => K (pc + n) ls (.int (a.toUInt32 >>> (b.toUInt32 &&& Int32.toUInt32 31)).toInt32 :: r) st)
  | .ineg => tk_i stk (fun a r => K (pc + n) ls (.int (-a) :: r) st)
  | .ladd => tk_ll stk (fun a b r => K (pc + n) ls (.long (a + b) :: r) st)
  | .lsub => tk_ll stk (fun a b r => K (pc + n) ls (.long (a - b) :: r) st)
  | .lmul => tk_ll stk (fun a b r => K (pc + n) ls (.long (a * b) :: r) st)
  | .land => tk_ll stk (fun a b r => K (pc + n) ls (.long (a &&& b) :: r) st)
  | .lor => tk_ll stk (fun a b r => K (pc + n) ls (.long (a ||| b) :: r) st)
  | .lxor => tk_ll stk (fun a b r => K (pc + n) ls (.long (a ^^^ b) :: r) st)
  | .lcmp => tk_ll stk (fun a b r => K (pc + n) ls (.int (lg_cmp a b) :: r) st)
  | .lshl => tk_li stk (fun a b r => K (pc + n) ls (.long (a <<< (b.toInt64 &&& 63)) :: r) st)
  | .lshr => tk_li stk (fun a b r => K (pc + n) ls (.long (a >>> (b.toInt64 &&& 63)) :: r) st)
  | .lushr => tk_li stk (fun a b r => K (pc + n) ls (.long (a.toUInt64 >>> (b.toInt64.toUInt64 &&& Int64.toUInt64 63)).toInt64 :: r) st)
  | .i2l => tk_i stk (fun a r => K (pc + n) ls (.long a.toInt64 :: r) st)
  | .l2i => tk_l stk (fun a r => K (pc + n) ls (.int a.toInt32 :: r) st)
  | .i2b => tk_i stk (fun a r => K (pc + n) ls (.int a.toInt8.toInt32 :: r) st)
  | .dup => tk_r stk (fun a r => K (pc + n) ls (.ref a :: .ref a :: r) st)
  | .dup2 => tk_ri stk (fun a i r => K (pc + n) ls (.int i :: .ref a :: .int i :: .ref a :: r) st)
  | .pop => tk_i stk (fun _ r => K (pc + n) ls r st)
  | .goto _ => K t ls stk st
  | .if_icmp .eq _ => tk_ii stk (fun a b r => if a = b then K t ls r st else K (pc + n) ls r st)
  | .if_icmp .ne _ => tk_ii stk (fun a b r => if a = b then K (pc + n) ls r st else K t ls r st)
  | .if_icmp .lt _ => tk_ii stk (fun a b r => if a < b then K t ls r st else K (pc + n) ls r st)
  | .if_icmp .ge _ => tk_ii stk (fun a b r => if b ≤ a then K t ls r st else K (pc + n) ls r st)
  | .if_icmp .gt _ => tk_ii stk (fun a b r => if b < a then K t ls r st else K (pc + n) ls r st)
  | .if_icmp .le _ => tk_ii stk (fun a b r => if a ≤ b then K t ls r st else K (pc + n) ls r st)
  | .ifCond .eq _ => tk_i stk (fun a r => if a = 0 then K t ls r st else K (pc + n) ls r st)
  | .ifCond .ne _ => tk_i stk (fun a r => if a = 0 then K (pc + n) ls r st else K t ls r st)
  | .ifCond .lt _ => tk_i stk (fun a r => if a < 0 then K t ls r st else K (pc + n) ls r st)
  | .ifCond .ge _ => tk_i stk (fun a r => if 0 ≤ a then K t ls r st else K (pc + n) ls r st)
  | .ifCond .gt _ => tk_i stk (fun a r => if 0 < a then K t ls r st else K (pc + n) ls r st)
  | .ifCond .le _ => tk_i stk (fun a r => if a ≤ 0 then K t ls r st else K (pc + n) ls r st)
  | .ifnull _ => tk_r stk (fun a r => if a = 0 then K t ls r st else K (pc + n) ls r st)
  | .tableswitch _ _ _ _ => match ab_look (mS M) pc with
    | some (cs, d) => tk_i stk (fun a r => ab_sw a (fun t => K t ls r st) d cs)
    | none => none
  | .lookupswitch _ _ => match ab_look (mS M) pc with
    | some (cs, d) => tk_i stk (fun a r => ab_sw a (fun t => K t ls r st) d cs)
    | none => none
  | .getfield i => tk_r stk (fun o r => ab_getf (ab_look (mF M) i) o st (fun v => K (pc + n) ls (v :: r) st))
  | .putfield i => ab_putf (ab_look (mF M) i) stk st (fun r st' => K (pc + n) ls r st')
  | .iaload => tk_ri stk (fun a i r => (ab_rI st a i).bind (fun v => K (pc + n) ls (.int v :: r) st))
  | .baload => tk_ri stk (fun a i r => (ab_rB st a i).bind (fun v => K (pc + n) ls (.int v :: r) st))
  | .laload => tk_ri stk (fun a i r => (ab_rJ st a i).bind (fun v => K (pc + n) ls (.long v :: r) st))
  | .aaload => tk_ri stk (fun a i r => (ab_rR st a i).bind (fun v => K (pc + n) ls (.ref v :: r) st))
  | .iastore => tk_rii stk (fun a i v r => (ab_wI st a i v).bind (fun st' => K (pc + n) ls r st'))
  | .bastore => tk_rii stk (fun a i v r => (ab_wB st a i v).bind (fun st' => K (pc + n) ls r st'))
  | .lastore => tk_ril stk (fun a i v r => (ab_wJ st a i v).bind (fun st' => K (pc + n) ls r st'))
  | .aastore => tk_rir stk (fun a i v r => (ab_wR st a i v).bind (fun st' => K (pc + n) ls r st'))
  | .arraylength => tk_r stk (fun a r => (ab_n st a).bind (fun v => K (pc + n) ls (.int (Int32.ofNat v) :: r) st))
  | .new i => match ab_look (mK M) i with
    | some c => ab_newo st c (fun o st' => K (pc + n) ls (.ref o :: stk) st')
    | none => none
  | .newarray a => tk_i stk (fun v r => ab_newn st v (ab_atk a) (fun o st' => K (pc + n) ls (.ref o :: r) st'))
  | .anewarray i => match ab_look (mK M) i with
    | some c => tk_i stk (fun v r => ab_newn st v (8 + c) (fun o st' => K (pc + n) ls (.ref o :: r) st'))
    | none => none
  | .multianewarray _ 2 => tk_ii stk (fun a b r => ab_newm st a b (fun o st' => K (pc + n) ls (.ref o :: r) st'))
  | .invokestatic i => ab_call (ab_look (mG M) i) 0 stk st (fun rs r st' => K (pc + n) ls (rs ++ r) st')
  | .invokevirtual i => ab_call (ab_look (mG M) i) 1 stk st (fun rs r st' => K (pc + n) ls (rs ++ r) st')
  | .invokespecial i => ab_call (ab_look (mG M) i) 2 stk st (fun rs r st' => K (pc + n) ls (rs ++ r) st')
  | .ireturn => ab_ret (mR M) stk st
  | .lreturn => ab_retl (mR M) stk st
  | .areturn => ab_retr (mR M) stk st
  | .return_ => ab_retv (mR M) stk st
  | _ => none

/-- at a label its own function; elsewhere the next instruction -/
def ab_jmp (M : ab_M) (Lf : ab_F) (K : ab_K) : ab_K := fun pc ls stk st => match ab_look (mL M) pc with
  | some sl => match ab_pick ls sl with
    | some vs => Lf pc vs stk st
    | none => none
  | none => K pc ls stk st
def ab_walk (M : ab_M) (Lf : ab_F) : Nat → ab_K
  | 0 => fun _ _ _ _ => none
  | f + 1 => fun pc ls stk st => match ab_look (mC M) pc with
    | some (ins, n, x, t) => ab_exec M (ab_jmp M Lf (ab_walk M Lf f)) pc ls stk st ins n x t
    | none => none
/-- from a label, with its locals' values -/
def ab_from (M : ab_M) (Lf : ab_F) : ab_F := fun pc vs stk st => match ab_look (mL M) pc with
  | some sl => match Nat.beq sl.length vs.length with
    | true => ab_walk M Lf 2000 pc (sl.zip vs) stk st
    | false => none
  | none => none
def ab_run (M : ab_M) : Nat → ab_F
  | 0 => fun _ _ _ _ => none
  | f + 1 => ab_from M (ab_run M f)
