section
/-! THE ABSTRACT MACHINE. A state: ints, longs, references by object number and place; the shapes by object number.
Number 0 is null, 1 is the script, from 2 on the cells that the law has made, in their order.
A shape (0, c): an object of class number c; (1, n) int[n]; (2, n) long[n]; (3, n) byte[n]; (4, n) boolean[n]; (5, n) int[n][]; (7, n) the script; (8 + c, n) an array of n objects of class c. -/
abbrev ab_S : Type := (Nat → Nat → Int32) × (Nat → Nat → Int64) × (Nat → Nat → Nat) × List (Nat × Nat)
abbrev ab_R : Type := Option Value × ab_S
abbrev ab_L : Type := List (Nat × Value)
abbrev ab_K : Type := Nat → ab_L → List Value → ab_S → Option ab_R
abbrev ab_F : Type := Nat → List Value → List Value → ab_S → Option ab_R
/-- a callee: 0 static, 1 virtual, 2 special, 3 Object.<init>; how many values it takes from the stack; what it does, and what comes behind it -/
abbrev ab_C : Type := Nat × Nat × (List Value → ab_S → (List Value → ab_S → Option ab_R) → Option ab_R)
def sI (st : ab_S) (o k : Nat) : Int32 := st.1 o k
def sJ (st : ab_S) (o k : Nat) : Int64 := st.2.1 o k
def sR (st : ab_S) (o k : Nat) : Nat := st.2.2.1 o k
def sH (st : ab_S) : List (Nat × Nat) := st.2.2.2
def uI (st : ab_S) (o k : Nat) (v : Int32) : ab_S := (fun a b => if a = o ∧ b = k then v else st.1 a b, st.2)
def uJ (st : ab_S) (o k : Nat) (v : Int64) : ab_S := (st.1, fun a b => if a = o ∧ b = k then v else st.2.1 a b, st.2.2)
def uR (st : ab_S) (o k : Nat) (v : Nat) : ab_S := (st.1, st.2.1, fun a b => if a = o ∧ b = k then v else st.2.2.1 a b, st.2.2.2)
/-- a new cell -/
def ab_mk (st : ab_S) (h : Nat × Nat) : ab_S := (fun a b => if a = st.2.2.2.length then 0 else st.1 a b, fun a b => if a = st.2.2.2.length then 0 else st.2.1 a b, fun a b => if a = st.2.2.2.length then 0 else st.2.2.1 a b, st.2.2.2 ++ [h])

def ab_look {α : Type} : List (Nat × α) → Nat → Option α
  | [], _ => none
  | q :: r, i => match Nat.beq q.1 i with
    | true => some q.2
    | false => ab_look r i
def ab_pick (ls : ab_L) : List Nat → Option (List Value)
  | [] => some []
  | i :: r => match ab_look ls i with
    | some v => match ab_pick ls r with
      | some vs => some (v :: vs)
      | none => none
    | none => none
def ab_st1 (ls : ab_L) (i : Nat) (v : Value) : ab_L := (i, v) :: ls.filter (fun q => !(q.1 == i) && !(q.1 + 1 == i && q.2.category == 2))
def ab_st2 (ls : ab_L) (i : Nat) (v : Value) : ab_L := (i, v) :: ls.filter (fun q => !(q.1 == i) && (!(q.1 == i + 1) && !(q.1 + 1 == i && q.2.category == 2)))
-- what can fail: fields, arrays
def ab_gI (st : ab_S) (o c k : Nat) : Option Int32 := if (sH st)[o]? = some (0, c) then some (sI st o k) else none
def ab_gJ (st : ab_S) (o c k : Nat) : Option Int64 := if (sH st)[o]? = some (0, c) then some (sJ st o k) else none
def ab_gR (st : ab_S) (o c k : Nat) : Option Nat := if (sH st)[o]? = some (0, c) then some (sR st o k) else none
def ab_pI (st : ab_S) (o c k : Nat) (v : Int32) : Option ab_S := if (sH st)[o]? = some (0, c) then some (uI st o k v) else none
def ab_pZ (st : ab_S) (o c k : Nat) (v : Int32) : Option ab_S := if (sH st)[o]? = some (0, c) ∧ (v = 0 ∨ v = 1) then some (uI st o k v) else none
def ab_pJ (st : ab_S) (o c k : Nat) (v : Int64) : Option ab_S := if (sH st)[o]? = some (0, c) then some (uJ st o k v) else none
def ab_pR (st : ab_S) (o c k : Nat) (v : Nat) : Option ab_S := if (sH st)[o]? = some (0, c) then some (uR st o k v) else none
def ab_in (i : Int32) (n : Nat) : Prop := ¬ (i < 0 ∨ n ≤ i.toNatClampNeg)
def ab_n (st : ab_S) (a : Nat) : Option Nat := match (sH st)[a]? with
  | some (k, n) => if k = 0 ∨ k = 6 then none else some n
  | none => none
def ab_rd (st : ab_S) (a : Nat) (i : Int32) (p : Nat → Bool) : Option Nat := match (sH st)[a]? with
  | some (k, n) => if p k = true ∧ ¬ (i < 0 ∨ n ≤ i.toNatClampNeg) then some k else none
  | none => none
def ab_rI (st : ab_S) (a : Nat) (i : Int32) : Option Int32 := (ab_rd st a i (fun k => k == 1 || k == 7)).map (fun _ => sI st a i.toNatClampNeg)
def ab_rB (st : ab_S) (a : Nat) (i : Int32) : Option Int32 := (ab_rd st a i (fun k => k == 3 || k == 4)).map (fun _ => sI st a i.toNatClampNeg)
def ab_rJ (st : ab_S) (a : Nat) (i : Int32) : Option Int64 := (ab_rd st a i (fun k => k == 2)).map (fun _ => sJ st a i.toNatClampNeg)
def ab_rR (st : ab_S) (a : Nat) (i : Int32) : Option Nat := (ab_rd st a i (fun k => k == 5 || Nat.ble 8 k)).map (fun _ => sR st a i.toNatClampNeg)
def ab_wI (st : ab_S) (a : Nat) (i : Int32) (v : Int32) : Option ab_S := (ab_rd st a i (fun k => k == 1)).map (fun _ => uI st a i.toNatClampNeg v)
def ab_wB (st : ab_S) (a : Nat) (i : Int32) (v : Int32) : Option ab_S := (ab_rd st a i (fun k => k == 3 || k == 4)).map (fun k => uI st a i.toNatClampNeg (if k = 3 then v.toInt8.toInt32 else v &&& 1))
def ab_wJ (st : ab_S) (a : Nat) (i : Int32) (v : Int64) : Option ab_S := (ab_rd st a i (fun k => k == 2)).map (fun _ => uJ st a i.toNatClampNeg v)
def ab_wR (st : ab_S) (a : Nat) (i : Int32) (v : Nat) : Option ab_S := (ab_rd st a i (fun k => Nat.ble 8 k)).bind (fun k => if (sH st)[v]? = some (0, k - 8) then some (uR st a i.toNatClampNeg v) else none)
def ab_z (v : Int32) (r : Option ab_R) : Option ab_R := if v = 0 ∨ v = 1 then r else none
-- what a callee answered
def ab_rv (r : Option ab_R) (k : List Value → ab_S → Option ab_R) : Option ab_R := r.bind (fun q => match q.1 with
  | none => k [] q.2
  | _ => none)
def ab_ri (r : Option ab_R) (k : List Value → ab_S → Option ab_R) : Option ab_R := r.bind (fun q => match q.1 with
  | some (.int x) => k [.int x] q.2
  | _ => none)
def ab_rl (r : Option ab_R) (k : List Value → ab_S → Option ab_R) : Option ab_R := r.bind (fun q => match q.1 with
  | some (.long x) => k [.long x] q.2
  | _ => none)
def ab_rr (r : Option ab_R) (k : List Value → ab_S → Option ab_R) : Option ab_R := r.bind (fun q => match q.1 with
  | some (.ref x) => k [.ref x] q.2
  | _ => none)
end
section
/-! ONE INSTRUCTION of the abstract machine, in front of what comes behind it (K). An entry of a method's table: the instruction, its length, the constant that it pushes (or adds), its target or its place among the locals. -/
abbrev ab_I : Type := Instr × Nat × Value × Nat
/-- a method: its instructions by pc; its labels, with the locals that live there; its fields by index: (class, place, kind), kind 0 int, 1 boolean, 2 long, 3 reference; its classes by index; its callees by index; its switches by pc: cases and default; how many locals; what it returns: 0 nothing, 1 int, 2 boolean, 3 long, 4 a reference -/
abbrev ab_M : Type := List (Nat × ab_I) × List (Nat × List Nat) × List (Nat × Nat × Nat × Nat) × List (Nat × Nat) × List (Nat × ab_C) × List (Nat × List (Int32 × Nat) × Nat) × Nat × Nat
def mC (M : ab_M) : List (Nat × ab_I) := M.1
def mL (M : ab_M) : List (Nat × List Nat) := M.2.1
def mF (M : ab_M) : List (Nat × Nat × Nat × Nat) := M.2.2.1
def mK (M : ab_M) : List (Nat × Nat) := M.2.2.2.1
def mG (M : ab_M) : List (Nat × ab_C) := M.2.2.2.2.1
def mS (M : ab_M) : List (Nat × List (Int32 × Nat) × Nat) := M.2.2.2.2.2.1
def mN (M : ab_M) : Nat := M.2.2.2.2.2.2.1
def mR (M : ab_M) : Nat := M.2.2.2.2.2.2.2

def tk_i (stk : List Value) (f : Int32 → List Value → Option ab_R) : Option ab_R := match stk with
  | .int x :: r => f x r
  | _ => none
def tk_l (stk : List Value) (f : Int64 → List Value → Option ab_R) : Option ab_R := match stk with
  | .long x :: r => f x r
  | _ => none
def tk_r (stk : List Value) (f : Nat → List Value → Option ab_R) : Option ab_R := match stk with
  | .ref x :: r => f x r
  | _ => none
def tk_ii (stk : List Value) (f : Int32 → Int32 → List Value → Option ab_R) : Option ab_R := match stk with
  | .int y :: .int x :: r => f x y r
  | _ => none
def tk_ll (stk : List Value) (f : Int64 → Int64 → List Value → Option ab_R) : Option ab_R := match stk with
  | .long y :: .long x :: r => f x y r
  | _ => none
def tk_li (stk : List Value) (f : Int64 → Int32 → List Value → Option ab_R) : Option ab_R := match stk with
  | .int y :: .long x :: r => f x y r
  | _ => none
def tk_ri (stk : List Value) (f : Nat → Int32 → List Value → Option ab_R) : Option ab_R := match stk with
  | .int i :: .ref a :: r => f a i r
  | _ => none
def tk_rii (stk : List Value) (f : Nat → Int32 → Int32 → List Value → Option ab_R) : Option ab_R := match stk with
  | .int v :: .int i :: .ref a :: r => f a i v r
  | _ => none
def tk_ril (stk : List Value) (f : Nat → Int32 → Int64 → List Value → Option ab_R) : Option ab_R := match stk with
  | .long v :: .int i :: .ref a :: r => f a i v r
  | _ => none
def tk_rir (stk : List Value) (f : Nat → Int32 → Nat → List Value → Option ab_R) : Option ab_R := match stk with
  | .ref v :: .int i :: .ref a :: r => f a i v r
  | _ => none
def tk_rl (stk : List Value) (f : Nat → Int64 → List Value → Option ab_R) : Option ab_R := match stk with
  | .long v :: .ref a :: r => f a v r
  | _ => none
def tk_rr (stk : List Value) (f : Nat → Nat → List Value → Option ab_R) : Option ab_R := match stk with
  | .ref v :: .ref a :: r => f a v r
  | _ => none
def ld_i (ls : ab_L) (i : Nat) (f : Int32 → Option ab_R) : Option ab_R := match ab_look ls i with
  | some (.int x) => f x
  | _ => none
def ld_l (ls : ab_L) (i : Nat) (f : Int64 → Option ab_R) : Option ab_R := match ab_look ls i with
  | some (.long x) => f x
  | _ => none
def ld_r (ls : ab_L) (i : Nat) (f : Nat → Option ab_R) : Option ab_R := match ab_look ls i with
  | some (.ref x) => f x
  | _ => none
/-- only a place among the locals -/
def ab_lt (i n : Nat) (r : Option ab_R) : Option ab_R := match Nat.blt i n with
  | true => r
  | false => none
def ab_sw (x : Int32) (G : Nat → Option ab_R) (d : Nat) : List (Int32 × Nat) → Option ab_R
  | [] => G d
  | q :: r => if x = q.1 then G q.2 else ab_sw x G d r
def ab_cat (v : Value) : Nat := match v with
  | .long _ => 2
  | _ => 1
def ab_sum : List Value → Nat
  | [] => 0
  | v :: r => ab_cat v + ab_sum r
/-- a call: n values from the stack, in their order; what stays below is small -/
def ab_call (C : Option ab_C) (kd : Nat) (stk : List Value) (st : ab_S) (k : List Value → List Value → ab_S → Option ab_R) : Option ab_R := match C with
  | some (kd', n, f) => match Nat.beq kd kd', Nat.ble n stk.length, Nat.ble (ab_sum (stk.drop n)) 8 with
    | true, true, true => f (stk.take n).reverse st (fun rs st' => k rs (stk.drop n) st')
    | _, _, _ => none
  | none => none
def ab_getf (F : Option (Nat × Nat × Nat)) (o : Nat) (st : ab_S) (k : Value → Option ab_R) : Option ab_R := match F with
  | some (c, p, 2) => (ab_gJ st o c p).bind (fun x => k (.long x))
  | some (c, p, 3) => (ab_gR st o c p).bind (fun x => k (.ref x))
  | some (c, p, _) => (ab_gI st o c p).bind (fun x => k (.int x))
  | none => none
def ab_putf (F : Option (Nat × Nat × Nat)) (stk : List Value) (st : ab_S) (k : List Value → ab_S → Option ab_R) : Option ab_R := match F with
  | some (c, p, 0) => tk_ri stk (fun o v r => (ab_pI st o c p v).bind (fun t => k r t))
  | some (c, p, 1) => tk_ri stk (fun o v r => (ab_pZ st o c p v).bind (fun t => k r t))
  | some (c, p, 2) => tk_rl stk (fun o v r => (ab_pJ st o c p v).bind (fun t => k r t))
  | some (c, p, 3) => tk_rr stk (fun o v r => (ab_pR st o c p v).bind (fun t => k r t))
  | _ => none
def ab_ret (kd : Nat) (stk : List Value) (st : ab_S) : Option ab_R := match kd, stk with
  | 1, [.int v] => some (some (.int v), st)
  | 2, [.int v] => ab_z v (some (some (.int v), st))
  | _, _ => none
def ab_newn (st : ab_S) (n : Int32) (kd : Nat) (k : Nat → ab_S → Option ab_R) : Option ab_R := if n < 0 ∨ 50000 < n.toNatClampNeg then none else k (sH st).length (ab_mk st (kd, n.toNatClampNeg))
def ab_atk : ArrayType → Nat
  | .int => 1
  | .long => 2
  | .byte => 3
  | .boolean => 4
  | _ => 6
/-- new int[n][k] -/
def ab_rows (st : ab_S) (a k : Nat) : Nat → ab_S
  | 0 => st
  | i + 1 => let t := ab_rows st a k i; uR (ab_mk t (1, k)) a i (sH t).length

def ab_exec (M : ab_M) (K : ab_K) (pc : Nat) (ls : ab_L) (stk : List Value) (st : ab_S) (ins : Instr) (n : Nat) (x : Value) (t : Nat) : Option ab_R := match ins with
  | .iconst _ => K (pc + n) ls (x :: stk) st
  | .bipush _ => K (pc + n) ls (x :: stk) st
  | .sipush _ => K (pc + n) ls (x :: stk) st
  | .lconst _ => K (pc + n) ls (x :: stk) st
  | .ldc _ => K (pc + n) ls (x :: stk) st
  | .ldc2_w _ => K (pc + n) ls (x :: stk) st
  | .iload _ => ld_i ls t (fun v => K (pc + n) ls (.int v :: stk) st)
  | .iload_n _ => ld_i ls t (fun v => K (pc + n) ls (.int v :: stk) st)
  | .lload _ => ld_l ls t (fun v => K (pc + n) ls (.long v :: stk) st)
  | .lload_n _ => ld_l ls t (fun v => K (pc + n) ls (.long v :: stk) st)
  | .aload _ => ld_r ls t (fun v => K (pc + n) ls (.ref v :: stk) st)
  | .aload_n _ => ld_r ls t (fun v => K (pc + n) ls (.ref v :: stk) st)
  | .istore _ => ab_lt t (mN M) (tk_i stk (fun v r => K (pc + n) (ab_st1 ls t (.int v)) r st))
  | .istore_n _ => ab_lt t (mN M) (tk_i stk (fun v r => K (pc + n) (ab_st1 ls t (.int v)) r st))
  | .lstore _ => ab_lt (t + 1) (mN M) (tk_l stk (fun v r => K (pc + n) (ab_st2 ls t (.long v)) r st))
  | .lstore_n _ => ab_lt (t + 1) (mN M) (tk_l stk (fun v r => K (pc + n) (ab_st2 ls t (.long v)) r st))
  | .astore _ => ab_lt t (mN M) (tk_r stk (fun v r => K (pc + n) (ab_st1 ls t (.ref v)) r st))
  | .astore_n _ => ab_lt t (mN M) (tk_r stk (fun v r => K (pc + n) (ab_st1 ls t (.ref v)) r st))
  | .iinc _ _ => ab_lt t (mN M) (ld_i ls t (fun v => match x with
    | .int d => K (pc + n) (ab_st1 ls t (.int (v + d))) stk st
    | _ => none))
  | .iadd => tk_ii stk (fun a b r => K (pc + n) ls (.int (a + b) :: r) st)
  | .isub => tk_ii stk (fun a b r => K (pc + n) ls (.int (a - b) :: r) st)
  | .imul => tk_ii stk (fun a b r => K (pc + n) ls (.int (a * b) :: r) st)
  | .iand => tk_ii stk (fun a b r => K (pc + n) ls (.int (a &&& b) :: r) st)
  | .ior => tk_ii stk (fun a b r => K (pc + n) ls (.int (a ||| b) :: r) st)
  | .ishl => tk_ii stk (fun a b r => K (pc + n) ls (.int (a <<< (b &&& 31)) :: r) st)
  | .iushr => tk_ii stk (fun a b r => K (pc + n) ls (.int (a.toUInt32 >>> (b.toUInt32 &&& Int32.toUInt32 31)).toInt32 :: r) st)
  | .ineg => tk_i stk (fun a r => K (pc + n) ls (.int (-a) :: r) st)
  | .ladd => tk_ll stk (fun a b r => K (pc + n) ls (.long (a + b) :: r) st)
  | .lsub => tk_ll stk (fun a b r => K (pc + n) ls (.long (a - b) :: r) st)
  | .lmul => tk_ll stk (fun a b r => K (pc + n) ls (.long (a * b) :: r) st)
  | .land => tk_ll stk (fun a b r => K (pc + n) ls (.long (a &&& b) :: r) st)
  | .lor => tk_ll stk (fun a b r => K (pc + n) ls (.long (a ||| b) :: r) st)
  | .lxor => tk_ll stk (fun a b r => K (pc + n) ls (.long (a ^^^ b) :: r) st)
  | .lcmp => tk_ll stk (fun a b r => K (pc + n) ls (.int (lg_cmp a b) :: r) st)
  | .lshl => tk_li stk (fun a b r => K (pc + n) ls (.long (a <<< (b.toInt64 &&& 63)) :: r) st)
  | .lshr => tk_li stk (fun a b r => K (pc + n) ls (.long (a >>> (b.toInt64 &&& 63)) :: r) st)
  | .lushr => tk_li stk (fun a b r => K (pc + n) ls (.long (a.toUInt64 >>> (b.toInt64.toUInt64 &&& Int64.toUInt64 63)).toInt64 :: r) st)
  | .i2l => tk_i stk (fun a r => K (pc + n) ls (.long a.toInt64 :: r) st)
  | .l2i => tk_l stk (fun a r => K (pc + n) ls (.int a.toInt32 :: r) st)
  | .i2b => tk_i stk (fun a r => K (pc + n) ls (.int a.toInt8.toInt32 :: r) st)
  | .dup => tk_r stk (fun a r => K (pc + n) ls (.ref a :: .ref a :: r) st)
  | .dup2 => tk_ri stk (fun a i r => K (pc + n) ls (.int i :: .ref a :: .int i :: .ref a :: r) st)
  | .pop => tk_i stk (fun _ r => K (pc + n) ls r st)
  | .goto _ => K t ls stk st
  | .if_icmp .eq _ => tk_ii stk (fun a b r => if a = b then K t ls r st else K (pc + n) ls r st)
  | .if_icmp .ne _ => tk_ii stk (fun a b r => if a = b then K (pc + n) ls r st else K t ls r st)
  | .if_icmp .lt _ => tk_ii stk (fun a b r => if a < b then K t ls r st else K (pc + n) ls r st)
  | .if_icmp .ge _ => tk_ii stk (fun a b r => if b ≤ a then K t ls r st else K (pc + n) ls r st)
  | .if_icmp .gt _ => tk_ii stk (fun a b r => if b < a then K t ls r st else K (pc + n) ls r st)
  | .if_icmp .le _ => tk_ii stk (fun a b r => if a ≤ b then K t ls r st else K (pc + n) ls r st)
  | .ifCond .eq _ => tk_i stk (fun a r => if a = 0 then K t ls r st else K (pc + n) ls r st)
  | .ifCond .ne _ => tk_i stk (fun a r => if a = 0 then K (pc + n) ls r st else K t ls r st)
  | .ifCond .lt _ => tk_i stk (fun a r => if a < 0 then K t ls r st else K (pc + n) ls r st)
  | .ifCond .ge _ => tk_i stk (fun a r => if 0 ≤ a then K t ls r st else K (pc + n) ls r st)
  | .ifCond .gt _ => tk_i stk (fun a r => if 0 < a then K t ls r st else K (pc + n) ls r st)
  | .ifCond .le _ => tk_i stk (fun a r => if a ≤ 0 then K t ls r st else K (pc + n) ls r st)
  | .ifnull _ => tk_r stk (fun a r => if a = 0 then K t ls r st else K (pc + n) ls r st)
  | .tableswitch _ _ _ _ => match ab_look (mS M) pc with
    | some (cs, d) => tk_i stk (fun a r => ab_sw a (fun t => K t ls r st) d cs)
    | none => none
  | .lookupswitch _ _ => match ab_look (mS M) pc with
    | some (cs, d) => tk_i stk (fun a r => ab_sw a (fun t => K t ls r st) d cs)
    | none => none
  | .getfield i => tk_r stk (fun o r => ab_getf (ab_look (mF M) i) o st (fun v => K (pc + n) ls (v :: r) st))
  | .putfield i => ab_putf (ab_look (mF M) i) stk st (fun r st' => K (pc + n) ls r st')
  | .iaload => tk_ri stk (fun a i r => (ab_rI st a i).bind (fun v => K (pc + n) ls (.int v :: r) st))
  | .baload => tk_ri stk (fun a i r => (ab_rB st a i).bind (fun v => K (pc + n) ls (.int v :: r) st))
  | .laload => tk_ri stk (fun a i r => (ab_rJ st a i).bind (fun v => K (pc + n) ls (.long v :: r) st))
  | .aaload => tk_ri stk (fun a i r => (ab_rR st a i).bind (fun v => K (pc + n) ls (.ref v :: r) st))
  | .iastore => tk_rii stk (fun a i v r => (ab_wI st a i v).bind (fun st' => K (pc + n) ls r st'))
  | .bastore => tk_rii stk (fun a i v r => (ab_wB st a i v).bind (fun st' => K (pc + n) ls r st'))
  | .lastore => tk_ril stk (fun a i v r => (ab_wJ st a i v).bind (fun st' => K (pc + n) ls r st'))
  | .aastore => tk_rir stk (fun a i v r => (ab_wR st a i v).bind (fun st' => K (pc + n) ls r st'))
  | .arraylength => tk_r stk (fun a r => (ab_n st a).bind (fun v => K (pc + n) ls (.int (Int32.ofNat v) :: r) st))
  | .new i => match ab_look (mK M) i with
    | some c => K (pc + n) ls (.ref (sH st).length :: stk) (ab_mk st (0, c))
    | none => none
  | .newarray a => tk_i stk (fun v r => ab_newn st v (ab_atk a) (fun o st' => K (pc + n) ls (.ref o :: r) st'))
  | .anewarray i => match ab_look (mK M) i with
    | some c => tk_i stk (fun v r => ab_newn st v (8 + c) (fun o st' => K (pc + n) ls (.ref o :: r) st'))
    | none => none
  | .multianewarray _ 2 => tk_ii stk (fun a b r => if a < 0 ∨ b < 0 ∨ 1000 < a.toNatClampNeg ∨ 1000 < b.toNatClampNeg then none else K (pc + n) ls (.ref (sH st).length :: r) (ab_rows (ab_mk st (5, a.toNatClampNeg)) (sH st).length b.toNatClampNeg a.toNatClampNeg))
  | .invokestatic i => ab_call (ab_look (mG M) i) 0 stk st (fun rs r st' => K (pc + n) ls (rs ++ r) st')
  | .invokevirtual i => ab_call (ab_look (mG M) i) 1 stk st (fun rs r st' => K (pc + n) ls (rs ++ r) st')
  | .invokespecial i => ab_call (ab_look (mG M) i) 2 stk st (fun rs r st' => K (pc + n) ls (rs ++ r) st')
  | .ireturn => ab_ret (mR M) stk st
  | .lreturn => match mR M, stk with
    | 3, [.long v] => some (some (.long v), st)
    | _, _ => none
  | .areturn => match mR M, stk with
    | 4, [.ref v] => some (some (.ref v), st)
    | _, _ => none
  | .return_ => match mR M, stk with
    | 0, [] => some (none, st)
    | _, _ => none
  | _ => none

/-- at a label its own function; elsewhere the next instruction -/
def ab_jmp (M : ab_M) (Lf : ab_F) (K : ab_K) : ab_K := fun pc ls stk st => match ab_look (mL M) pc with
  | some sl => match ab_pick ls sl with
    | some vs => Lf pc vs stk st
    | none => none
  | none => K pc ls stk st
def ab_walk (M : ab_M) (Lf : ab_F) : Nat → ab_K
  | 0 => fun _ _ _ _ => none
  | f + 1 => fun pc ls stk st => match ab_look (mC M) pc with
    | some (ins, n, x, t) => ab_exec M (ab_jmp M Lf (ab_walk M Lf f)) pc ls stk st ins n x t
    | none => none
/-- from a label, with its locals' values -/
def ab_from (M : ab_M) (Lf : ab_F) : ab_F := fun pc vs stk st => match ab_look (mL M) pc with
  | some sl => match Nat.beq sl.length vs.length with
    | true => ab_walk M Lf 2000 pc (sl.zip vs) stk st
    | false => none
  | none => none
def ab_run (M : ab_M) : Nat → ab_F
  | 0 => fun _ _ _ _ => none
  | f + 1 => ab_from M (ab_run M f)
end
section
/-! THE LIMIT: what a method answers, with any number of labels passed; its own equation (lm_eq), by which all is reckoned later -/
def pt_K (G : ab_K → Option ab_R) : Prop := ∀ K r, G K = some r → (∀ K', G K' = some r) ∨ ∃ pc ls stk st, K pc ls stk st = some r ∧ ∀ K' : ab_K, K' pc ls stk st = some r → G K' = some r
def pt_F (G : ab_F → Option ab_R) : Prop := ∀ K r, G K = some r → (∀ K', G K' = some r) ∨ ∃ pc ls stk st, K pc ls stk st = some r ∧ ∀ K' : ab_F, K' pc ls stk st = some r → G K' = some r
/-- a callee goes on at one place -/
def ab_one (f : List Value → ab_S → (List Value → ab_S → Option ab_R) → Option ab_R) : Prop := ∀ as st k r, f as st k = some r → ∃ rs st', k rs st' = some r ∧ ∀ k' : List Value → ab_S → Option ab_R, k' rs st' = some r → f as st k' = some r
theorem pk_one {pc : Nat} {ls : ab_L} {stk : List Value} {st : ab_S} : pt_K (fun K => K pc ls stk st) := fun _ _ h => Or.inr ⟨_, _, _, _, h, fun _ h => h⟩
theorem pk_c {v : Option ab_R} : pt_K (fun _ => v) := fun _ _ h => Or.inl (fun _ => h)
theorem pk_ite {c : Prop} [Decidable c] {A B : ab_K → Option ab_R} (ha : pt_K A) (hb : pt_K B) : pt_K (fun K => if c then A K else B K) := by
  by_cases h : c
  · simpa [h] using ha
  · simpa [h] using hb
theorem pk_bind {α : Type} {o : Option α} {A : ab_K → α → Option ab_R} (h : ∀ x, pt_K (fun K => A K x)) : pt_K (fun K => o.bind (A K)) := by
  cases o with
  | none => exact pk_c
  | some x => exact h x
theorem pk_i {stk : List Value} {A : ab_K → Int32 → List Value → Option ab_R} (h : ∀ x r, pt_K (fun K => A K x r)) : pt_K (fun K => tk_i stk (A K)) := by
  unfold tk_i; split <;> first | exact h _ _ | exact pk_c
theorem pk_l {stk : List Value} {A : ab_K → Int64 → List Value → Option ab_R} (h : ∀ x r, pt_K (fun K => A K x r)) : pt_K (fun K => tk_l stk (A K)) := by
  unfold tk_l; split <;> first | exact h _ _ | exact pk_c
theorem pk_r {stk : List Value} {A : ab_K → Nat → List Value → Option ab_R} (h : ∀ x r, pt_K (fun K => A K x r)) : pt_K (fun K => tk_r stk (A K)) := by
  unfold tk_r; split <;> first | exact h _ _ | exact pk_c
theorem pk_ii {stk : List Value} {A : ab_K → Int32 → Int32 → List Value → Option ab_R} (h : ∀ x y r, pt_K (fun K => A K x y r)) : pt_K (fun K => tk_ii stk (A K)) := by
  unfold tk_ii; split <;> first | exact h _ _ _ | exact pk_c
theorem pk_ll {stk : List Value} {A : ab_K → Int64 → Int64 → List Value → Option ab_R} (h : ∀ x y r, pt_K (fun K => A K x y r)) : pt_K (fun K => tk_ll stk (A K)) := by
  unfold tk_ll; split <;> first | exact h _ _ _ | exact pk_c
theorem pk_li {stk : List Value} {A : ab_K → Int64 → Int32 → List Value → Option ab_R} (h : ∀ x y r, pt_K (fun K => A K x y r)) : pt_K (fun K => tk_li stk (A K)) := by
  unfold tk_li; split <;> first | exact h _ _ _ | exact pk_c
theorem pk_ri {stk : List Value} {A : ab_K → Nat → Int32 → List Value → Option ab_R} (h : ∀ x y r, pt_K (fun K => A K x y r)) : pt_K (fun K => tk_ri stk (A K)) := by
  unfold tk_ri; split <;> first | exact h _ _ _ | exact pk_c
theorem pk_rl {stk : List Value} {A : ab_K → Nat → Int64 → List Value → Option ab_R} (h : ∀ x y r, pt_K (fun K => A K x y r)) : pt_K (fun K => tk_rl stk (A K)) := by
  unfold tk_rl; split <;> first | exact h _ _ _ | exact pk_c
theorem pk_rr {stk : List Value} {A : ab_K → Nat → Nat → List Value → Option ab_R} (h : ∀ x y r, pt_K (fun K => A K x y r)) : pt_K (fun K => tk_rr stk (A K)) := by
  unfold tk_rr; split <;> first | exact h _ _ _ | exact pk_c
theorem pk_rii {stk : List Value} {A : ab_K → Nat → Int32 → Int32 → List Value → Option ab_R} (h : ∀ x y z r, pt_K (fun K => A K x y z r)) : pt_K (fun K => tk_rii stk (A K)) := by
  unfold tk_rii; split <;> first | exact h _ _ _ _ | exact pk_c
theorem pk_ril {stk : List Value} {A : ab_K → Nat → Int32 → Int64 → List Value → Option ab_R} (h : ∀ x y z r, pt_K (fun K => A K x y z r)) : pt_K (fun K => tk_ril stk (A K)) := by
  unfold tk_ril; split <;> first | exact h _ _ _ _ | exact pk_c
theorem pk_rir {stk : List Value} {A : ab_K → Nat → Int32 → Nat → List Value → Option ab_R} (h : ∀ x y z r, pt_K (fun K => A K x y z r)) : pt_K (fun K => tk_rir stk (A K)) := by
  unfold tk_rir; split <;> first | exact h _ _ _ _ | exact pk_c
theorem pk_di {ls : ab_L} {i : Nat} {A : ab_K → Int32 → Option ab_R} (h : ∀ x, pt_K (fun K => A K x)) : pt_K (fun K => ld_i ls i (A K)) := by
  unfold ld_i; split <;> first | exact h _ | exact pk_c
theorem pk_dl {ls : ab_L} {i : Nat} {A : ab_K → Int64 → Option ab_R} (h : ∀ x, pt_K (fun K => A K x)) : pt_K (fun K => ld_l ls i (A K)) := by
  unfold ld_l; split <;> first | exact h _ | exact pk_c
theorem pk_dr {ls : ab_L} {i : Nat} {A : ab_K → Nat → Option ab_R} (h : ∀ x, pt_K (fun K => A K x)) : pt_K (fun K => ld_r ls i (A K)) := by
  unfold ld_r; split <;> first | exact h _ | exact pk_c
theorem pk_lt2 {i n : Nat} {A : ab_K → Option ab_R} (h : pt_K A) : pt_K (fun K => ab_lt i n (A K)) := by
  unfold ab_lt; split <;> first | exact h | exact pk_c
theorem pk_sw {x : Int32} {A : ab_K → Nat → Option ab_R} {d : Nat} (h : ∀ t, pt_K (fun K => A K t)) : ∀ cs, pt_K (fun K => ab_sw x (A K) d cs)
  | [] => h d
  | q :: r => pk_ite (c := x = q.1) (h q.2) (pk_sw h r)
theorem pk_getf {F : Option (Nat × Nat × Nat)} {o : Nat} {st : ab_S} {A : ab_K → Value → Option ab_R} (h : ∀ x, pt_K (fun K => A K x)) : pt_K (fun K => ab_getf F o st (A K)) := by
  unfold ab_getf; split <;> first | exact pk_bind (fun x => h _) | exact pk_c
theorem pk_putf {F : Option (Nat × Nat × Nat)} {stk : List Value} {st : ab_S} {A : ab_K → List Value → ab_S → Option ab_R} (h : ∀ r t, pt_K (fun K => A K r t)) : pt_K (fun K => ab_putf F stk st (A K)) := by
  unfold ab_putf
  split
  · exact pk_ri (fun o v r => pk_bind (fun t => h r t))
  · exact pk_ri (fun o v r => pk_bind (fun t => h r t))
  · exact pk_rl (fun o v r => pk_bind (fun t => h r t))
  · exact pk_rr (fun o v r => pk_bind (fun t => h r t))
  · exact pk_c
theorem pk_newn {st : ab_S} {n : Int32} {kd : Nat} {A : ab_K → Nat → ab_S → Option ab_R} (h : ∀ o t, pt_K (fun K => A K o t)) : pt_K (fun K => ab_newn st n kd (A K)) := by
  unfold ab_newn; split <;> first | exact h _ _ | exact pk_c
theorem pk_call {C : Option ab_C} {kd : Nat} {stk : List Value} {st : ab_S} {A : ab_K → List Value → List Value → ab_S → Option ab_R} (hC : ∀ q, C = some q → ab_one q.2.2) (h : ∀ rs r t, pt_K (fun K => A K rs r t)) : pt_K (fun K => ab_call C kd stk st (A K)) := by
  unfold ab_call
  split
  · next kd' n f =>
    have h1 : ab_one f := hC _ rfl
    split
    · intro K r hr
      obtain ⟨rs, st', h2, h3⟩ := h1 _ _ _ _ hr
      rcases h rs (stk.drop n) st' K r h2 with h4 | ⟨pc, ls, sk, s2, h4, h5⟩
      · exact Or.inl (fun K' => h3 _ (h4 K'))
      · exact Or.inr ⟨pc, ls, sk, s2, h4, fun K' h6 => h3 _ (h5 K' h6)⟩
    · exact pk_c
  · exact pk_c
theorem ab_look_mem {α : Type} : ∀ {l : List (Nat × α)} {i : Nat} {v : α}, ab_look l i = some v → (i, v) ∈ l
  | [], _, _, h => by cases h
  | q :: r, i, v, h => by
    unfold ab_look at h
    split at h
    · next hq =>
      cases h
      rw [← Nat.eq_of_beq_eq_true hq]
      exact List.mem_cons_self
    · exact List.mem_cons_of_mem _ (ab_look_mem h)
def ab_oneM (M : ab_M) : Prop := ∀ q ∈ mG M, ab_one q.2.2.2
set_option maxHeartbeats 4000000 in
theorem pk_exec {M : ab_M} (hM : ab_oneM M) {pc : Nat} {ls : ab_L} {stk : List Value} {st : ab_S} {ins : Instr} {n : Nat} {x : Value} {t : Nat} : pt_K (fun K => ab_exec M K pc ls stk st ins n x t) := by
  have hC : ∀ i q, ab_look (mG M) i = some q → ab_one q.2.2 := fun i q h => hM _ (ab_look_mem h)
  unfold ab_exec
  split <;> first
    | exact pk_one
    | exact pk_c
    | exact pk_di (fun _ => pk_one)
    | exact pk_dl (fun _ => pk_one)
    | exact pk_dr (fun _ => pk_one)
    | exact pk_lt2 (pk_i (fun _ _ => pk_one))
    | exact pk_lt2 (pk_l (fun _ _ => pk_one))
    | exact pk_lt2 (pk_r (fun _ _ => pk_one))
    | exact pk_i (fun _ _ => pk_one)
    | exact pk_l (fun _ _ => pk_one)
    | exact pk_r (fun _ _ => pk_one)
    | exact pk_ii (fun _ _ _ => pk_one)
    | exact pk_ll (fun _ _ _ => pk_one)
    | exact pk_li (fun _ _ _ => pk_one)
    | exact pk_ri (fun _ _ _ => pk_one)
    | exact pk_ii (fun _ _ _ => pk_ite pk_one pk_one)
    | exact pk_ii (fun _ _ _ => pk_ite pk_c pk_one)
    | exact pk_i (fun _ _ => pk_ite pk_one pk_one)
    | exact pk_r (fun _ _ => pk_ite pk_one pk_one)
    | exact pk_r (fun _ _ => pk_getf (fun _ => pk_one))
    | exact pk_putf (fun _ _ => pk_one)
    | exact pk_ri (fun _ _ _ => pk_bind (fun _ => pk_one))
    | exact pk_rii (fun _ _ _ _ => pk_bind (fun _ => pk_one))
    | exact pk_ril (fun _ _ _ _ => pk_bind (fun _ => pk_one))
    | exact pk_rir (fun _ _ _ _ => pk_bind (fun _ => pk_one))
    | exact pk_r (fun _ _ => pk_bind (fun _ => pk_one))
    | exact pk_i (fun _ _ => pk_newn (fun _ _ => pk_one))
    | exact pk_call (fun q h => hC _ q h) (fun _ _ _ => pk_one)
    | (split <;> first | exact pk_one | exact pk_c | exact pk_i (fun _ _ => pk_sw (fun _ => pk_one) _) | exact pk_i (fun _ _ => pk_newn (fun _ _ => pk_one)))
    | exact pk_lt2 (pk_di (fun _ => by split <;> first | exact pk_one | exact pk_c))
theorem pt_walk {M : ab_M} (hM : ab_oneM M) : ∀ (f pc : Nat) (ls : ab_L) (stk : List Value) (st : ab_S), pt_F (fun Lf => ab_walk M Lf f pc ls stk st)
  | 0, _, _, _, _ => fun _ _ h => by cases h
  | f + 1, pc, ls, stk, st => by
    intro Lf r h
    unfold ab_walk at h ⊢
    split at h
    · next ins n x t hl =>
      rcases pk_exec hM _ _ h with h1 | ⟨pc2, ls2, stk2, st2, h1, h2⟩
      · exact Or.inl (fun K' => by simpa using h1 _)
      · unfold ab_jmp at h1
        split at h1
        · next sl hsl =>
          split at h1
          · next vs hvs =>
            refine Or.inr ⟨pc2, vs, stk2, st2, h1, fun K' h3 => ?_⟩
            refine h2 _ ?_
            unfold ab_jmp
            rw [hsl]
            simp only [hvs]
            exact h3
          · cases h1
        · next hsl =>
          rcases pt_walk hM f pc2 ls2 stk2 st2 Lf r h1 with h3 | ⟨a, b, c, d, h3, h4⟩
          · refine Or.inl (fun K' => h2 _ ?_)
            unfold ab_jmp
            rw [hsl]
            exact h3 K'
          · refine Or.inr ⟨a, b, c, d, h3, fun K' h5 => h2 _ ?_⟩
            unfold ab_jmp
            rw [hsl]
            exact h4 K' h5
    · cases h
theorem pt_from {M : ab_M} (hM : ab_oneM M) (pc : Nat) (vs stk : List Value) (st : ab_S) : pt_F (fun Lf => ab_from M Lf pc vs stk st) := by
  unfold ab_from
  split
  · split
    · exact pt_walk hM _ _ _ _ _
    · intro _ _ h; cases h
  · intro _ _ h; cases h
theorem pt_mono {G : ab_F → Option ab_R} (h : pt_F G) {A B : ab_F} (hAB : ∀ pc vs stk st r, A pc vs stk st = some r → B pc vs stk st = some r) {r : ab_R} (hA : G A = some r) : G B = some r := by
  rcases h A r hA with h1 | ⟨a, b, c, d, h1, h2⟩
  · exact h1 B
  · exact h2 B (hAB _ _ _ _ _ h1)
theorem run_up {M : ab_M} (hM : ab_oneM M) : ∀ (f pc : Nat) (vs stk : List Value) (st : ab_S) (r : ab_R), ab_run M f pc vs stk st = some r → ab_run M (f + 1) pc vs stk st = some r
  | 0, _, _, _, _, _, h => by cases h
  | f + 1, pc, vs, stk, st, r, h => pt_mono (pt_from hM pc vs stk st) (run_up hM f) h
theorem run_le {M : ab_M} (hM : ab_oneM M) {f g : Nat} (h : f ≤ g) {pc : Nat} {vs stk : List Value} {st : ab_S} {r : ab_R} (hr : ab_run M f pc vs stk st = some r) : ab_run M g pc vs stk st = some r := by
  induction h with
  | refl => exact hr
  | step _ ih => exact run_up hM _ _ _ _ _ _ ih
noncomputable def ab_lim (M : ab_M) : ab_F := fun pc vs stk st => @dite _ (∃ q : Nat × ab_R, ab_run M q.1 pc vs stk st = some q.2) (Classical.propDecidable _) (fun h => some h.choose.2) (fun _ => none)
theorem lm_iff {M : ab_M} (hM : ab_oneM M) {pc : Nat} {vs stk : List Value} {st : ab_S} {r : ab_R} : ab_lim M pc vs stk st = some r ↔ ∃ f, ab_run M f pc vs stk st = some r := by
  unfold ab_lim
  by_cases h : ∃ q : Nat × ab_R, ab_run M q.1 pc vs stk st = some q.2
  · rw [dif_pos h]
    have hq := h.choose_spec
    generalize h.choose = q at hq
    constructor
    · intro e
      cases e
      exact ⟨q.1, hq⟩
    · rintro ⟨f, hf⟩
      have h1 := run_le hM (Nat.le_max_left q.1 f) hq
      have h2 := run_le hM (Nat.le_max_right q.1 f) hf
      rw [h1] at h2
      exact h2
  · rw [dif_neg h]
    constructor
    · intro e; cases e
    · rintro ⟨f, hf⟩
      exact absurd ⟨(f, r), hf⟩ h
theorem lm_eq {M : ab_M} (hM : ab_oneM M) (pc : Nat) (vs stk : List Value) (st : ab_S) : ab_lim M pc vs stk st = ab_from M (ab_lim M) pc vs stk st := by
  apply Option.ext
  intro r
  rw [lm_iff hM]
  constructor
  · rintro ⟨f, hf⟩
    cases f with
    | zero => cases hf
    | succ f => exact pt_mono (pt_from hM pc vs stk st) (fun _ _ _ _ _ h => (lm_iff hM).mpr ⟨f, h⟩) hf
  · intro h
    rcases pt_from hM pc vs stk st _ _ h with h1 | ⟨a, b, c, d, h1, h2⟩
    · exact ⟨1, h1 _⟩
    · obtain ⟨f, hf⟩ := (lm_iff hM).mp h1
      exact ⟨f + 1, h2 _ hf⟩
end
