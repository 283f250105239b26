section
/-! THE ABSTRACT MACHINE. A state: ints, longs, references by object number and place; the shapes by object number.
Number 0 is null, 1 is the script, from 2 on the cells that the law has made, in their order.
A shape (0, c): an object of class number c; (1, n) int[n]; (2, n) long[n]; (3, n) byte[n]; (4, n) boolean[n]; (5, n) int[n][]; (7, n) the script; (8 + c, n) an array of n objects of class c. -/
abbrev ab_S : Type := (Nat → Nat → Int32) × (Nat → Nat → Int64) × (Nat → Nat → Nat) × List (Nat × Nat)
abbrev ab_R : Type := Option Value × ab_S
abbrev ab_L : Type := List (Nat × Value)
abbrev ab_K : Type := Nat → ab_L → List Value → ab_S → Option ab_R
abbrev ab_F : Type := Nat → List Value → List Value → ab_S → Option ab_R
/-- a callee: 0 static, 1 virtual, 2 special, 3 Object.<init>; how many values it takes from the stack; what it does, and what comes behind it -/
abbrev ab_G : Type := List Value → ab_S → (List Value → ab_S → Option ab_R) → Option ab_R
abbrev ab_C : Type := Nat × Nat × ab_G
def sI (st : ab_S) (o k : Nat) : Int32 := st.1 o k
def sJ (st : ab_S) (o k : Nat) : Int64 := st.2.1 o k
def sR (st : ab_S) (o k : Nat) : Nat := st.2.2.1 o k
def sH (st : ab_S) : List (Nat × Nat) := st.2.2.2
def uI (st : ab_S) (o k : Nat) (v : Int32) : ab_S := (fun a b => if a = o ∧ b = k then v else st.1 a b, st.2)
def uJ (st : ab_S) (o k : Nat) (v : Int64) : ab_S := (st.1, fun a b => if a = o ∧ b = k then v else st.2.1 a b, st.2.2)
def uR (st : ab_S) (o k : Nat) (v : Nat) : ab_S := (st.1, st.2.1, fun a b => if a = o ∧ b = k then v else st.2.2.1 a b, st.2.2.2)
/-- a new cell -/
def ab_mk (st : ab_S) (h : Nat × Nat) : ab_S := (fun a b => if a = st.2.2.2.length then 0 else st.1 a b, fun a b => if a = st.2.2.2.length then 0 else st.2.1 a b, fun a b => if a = st.2.2.2.length then 0 else st.2.2.1 a b, st.2.2.2 ++ [h])

def ab_look {α : Type} : List (Nat × α) → Nat → Option α
  | [], _ => none
  | q :: r, i => match Nat.beq q.1 i with
    | true => some q.2
    | false => ab_look r i
def ab_pick (ls : ab_L) : List Nat → Option (List Value)
  | [] => some []
  | i :: r => match ab_look ls i with
    | some v => match ab_pick ls r with
      | some vs => some (v :: vs)
      | none => none
    | none => none
def ab_st1 (ls : ab_L) (i : Nat) (v : Value) : ab_L := (i, v) :: ls.filter (fun q => !(q.1 == i) && !(q.1 + 1 == i && q.2.category == 2))
def ab_st2 (ls : ab_L) (i : Nat) (v : Value) : ab_L := (i, v) :: ls.filter (fun q => !(q.1 == i) && (!(q.1 == i + 1) && !(q.1 + 1 == i && q.2.category == 2)))
-- what can fail: fields, arrays
def ab_gI (st : ab_S) (o c k : Nat) : Option Int32 := if (sH st)[o]? = some (0, c) then some (sI st o k) else none
def ab_gJ (st : ab_S) (o c k : Nat) : Option Int64 := if (sH st)[o]? = some (0, c) then some (sJ st o k) else none
def ab_gR (st : ab_S) (o c k : Nat) : Option Nat := if (sH st)[o]? = some (0, c) then some (sR st o k) else none
def ab_pI (st : ab_S) (o c k : Nat) (v : Int32) : Option ab_S := if (sH st)[o]? = some (0, c) then some (uI st o k v) else none
def ab_pZ (st : ab_S) (o c k : Nat) (v : Int32) : Option ab_S := if (sH st)[o]? = some (0, c) ∧ (v = 0 ∨ v = 1) then some (uI st o k v) else none
def ab_pJ (st : ab_S) (o c k : Nat) (v : Int64) : Option ab_S := if (sH st)[o]? = some (0, c) then some (uJ st o k v) else none
def ab_pR (st : ab_S) (o c k : Nat) (v : Nat) : Option ab_S := if (sH st)[o]? = some (0, c) then some (uR st o k v) else none
def ab_in (i : Int32) (n : Nat) : Prop := ¬ (i < 0 ∨ n ≤ i.toNatClampNeg)
def ab_n (st : ab_S) (a : Nat) : Option Nat := match (sH st)[a]? with
  | some (k, n) => if k = 0 ∨ k = 6 then none else some n
  | none => none
def ab_rd (st : ab_S) (a : Nat) (i : Int32) (p : Nat → Bool) : Option Nat := match (sH st)[a]? with
  | some (k, n) => if p k = true ∧ ¬ (i < 0 ∨ n ≤ i.toNatClampNeg) then some k else none
  | none => none
def ab_rI (st : ab_S) (a : Nat) (i : Int32) : Option Int32 := (ab_rd st a i (fun k => k == 1 || k == 7)).map (fun _ => sI st a i.toNatClampNeg)
def ab_rB (st : ab_S) (a : Nat) (i : Int32) : Option Int32 := (ab_rd st a i (fun k => k == 3 || k == 4)).map (fun _ => sI st a i.toNatClampNeg)
def ab_rJ (st : ab_S) (a : Nat) (i : Int32) : Option Int64 := (ab_rd st a i (fun k => k == 2)).map (fun _ => sJ st a i.toNatClampNeg)
def ab_rR (st : ab_S) (a : Nat) (i : Int32) : Option Nat := (ab_rd st a i (fun k => k == 5 || Nat.ble 8 k)).map (fun _ => sR st a i.toNatClampNeg)
def ab_wI (st : ab_S) (a : Nat) (i : Int32) (v : Int32) : Option ab_S := (ab_rd st a i (fun k => k == 1)).map (fun _ => uI st a i.toNatClampNeg v)
def ab_wB (st : ab_S) (a : Nat) (i : Int32) (v : Int32) : Option ab_S := (ab_rd st a i (fun k => k == 3 || k == 4)).map (fun k => uI st a i.toNatClampNeg (if k = 3 then v.toInt8.toInt32 else v &&& 1))
def ab_wJ (st : ab_S) (a : Nat) (i : Int32) (v : Int64) : Option ab_S := (ab_rd st a i (fun k => k == 2)).map (fun _ => uJ st a i.toNatClampNeg v)
def ab_wR (st : ab_S) (a : Nat) (i : Int32) (v : Nat) : Option ab_S := (ab_rd st a i (fun k => Nat.ble 8 k)).bind (fun k => if (sH st)[v]? = some (0, k - 8) then some (uR st a i.toNatClampNeg v) else none)
def ab_z (v : Int32) (r : Option ab_R) : Option ab_R := if v = 0 ∨ v = 1 then r else none
/-- the receiver is an object of its class -/
def ab_rc (st : ab_S) (o c : Nat) (r : Option ab_R) : Option ab_R := if (sH st)[o]? = some (0, c) then r else none
-- what a callee answered
def ab_rv (r : Option ab_R) (k : ab_S → Option ab_R) : Option ab_R := r.bind (fun q => match q.1 with
  | none => k q.2
  | _ => none)
def ab_ri (r : Option ab_R) (k : Int32 → ab_S → Option ab_R) : Option ab_R := r.bind (fun q => match q.1 with
  | some (.int x) => k x q.2
  | _ => none)
def ab_rl (r : Option ab_R) (k : Int64 → ab_S → Option ab_R) : Option ab_R := r.bind (fun q => match q.1 with
  | some (.long x) => k x q.2
  | _ => none)
def ab_rr (r : Option ab_R) (k : Nat → ab_S → Option ab_R) : Option ab_R := r.bind (fun q => match q.1 with
  | some (.ref x) => k x q.2
  | _ => none)
/-- Object.<init> -/
def g_obj : ab_G := fun as st k => match as with
  | [.ref _] => k [] st
  | _ => none
end
section
/-! ONE INSTRUCTION of the abstract machine, in front of what comes behind it (K). An entry of a method's table: the instruction, its length, the constant that it pushes (or adds), its target or its place among the locals. -/
abbrev ab_I : Type := Instr × Nat × Value × Nat
/-- a method: its instructions by pc; its labels, with the locals that live there; its fields by index: (class, place, kind), kind 0 int, 1 boolean, 2 long, 3 reference; its classes by index; its callees by index; its switches by pc: cases and default; how many locals; what it returns: 0 nothing, 1 int, 2 boolean, 3 long, 4 a reference -/
abbrev ab_M : Type := List (Nat × ab_I) × List (Nat × List Nat) × List (Nat × Nat × Nat × Nat) × List (Nat × Nat) × List (Nat × ab_C) × List (Nat × List (Int32 × Nat) × Nat) × Nat × Nat
def mC (M : ab_M) : List (Nat × ab_I) := M.1
def mL (M : ab_M) : List (Nat × List Nat) := M.2.1
def mF (M : ab_M) : List (Nat × Nat × Nat × Nat) := M.2.2.1
def mK (M : ab_M) : List (Nat × Nat) := M.2.2.2.1
def mG (M : ab_M) : List (Nat × ab_C) := M.2.2.2.2.1
def mS (M : ab_M) : List (Nat × List (Int32 × Nat) × Nat) := M.2.2.2.2.2.1
def mN (M : ab_M) : Nat := M.2.2.2.2.2.2.1
def mR (M : ab_M) : Nat := M.2.2.2.2.2.2.2

def tk_i (stk : List Value) (f : Int32 → List Value → Option ab_R) : Option ab_R := match stk with
  | .int x :: r => f x r
  | _ => none
def tk_l (stk : List Value) (f : Int64 → List Value → Option ab_R) : Option ab_R := match stk with
  | .long x :: r => f x r
  | _ => none
def tk_r (stk : List Value) (f : Nat → List Value → Option ab_R) : Option ab_R := match stk with
  | .ref x :: r => f x r
  | _ => none
def tk_ii (stk : List Value) (f : Int32 → Int32 → List Value → Option ab_R) : Option ab_R := match stk with
  | .int y :: .int x :: r => f x y r
  | _ => none
def tk_ll (stk : List Value) (f : Int64 → Int64 → List Value → Option ab_R) : Option ab_R := match stk with
  | .long y :: .long x :: r => f x y r
  | _ => none
def tk_li (stk : List Value) (f : Int64 → Int32 → List Value → Option ab_R) : Option ab_R := match stk with
  | .int y :: .long x :: r => f x y r
  | _ => none
def tk_ri (stk : List Value) (f : Nat → Int32 → List Value → Option ab_R) : Option ab_R := match stk with
  | .int i :: .ref a :: r => f a i r
  | _ => none
def tk_rii (stk : List Value) (f : Nat → Int32 → Int32 → List Value → Option ab_R) : Option ab_R := match stk with
  | .int v :: .int i :: .ref a :: r => f a i v r
  | _ => none
def tk_ril (stk : List Value) (f : Nat → Int32 → Int64 → List Value → Option ab_R) : Option ab_R := match stk with
  | .long v :: .int i :: .ref a :: r => f a i v r
  | _ => none
def tk_rir (stk : List Value) (f : Nat → Int32 → Nat → List Value → Option ab_R) : Option ab_R := match stk with
  | .ref v :: .int i :: .ref a :: r => f a i v r
  | _ => none
def tk_rl (stk : List Value) (f : Nat → Int64 → List Value → Option ab_R) : Option ab_R := match stk with
  | .long v :: .ref a :: r => f a v r
  | _ => none
def tk_rr (stk : List Value) (f : Nat → Nat → List Value → Option ab_R) : Option ab_R := match stk with
  | .ref v :: .ref a :: r => f a v r
  | _ => none
def ld_i (ls : ab_L) (i : Nat) (f : Int32 → Option ab_R) : Option ab_R := match ab_look ls i with
  | some (.int x) => f x
  | _ => none
def ld_l (ls : ab_L) (i : Nat) (f : Int64 → Option ab_R) : Option ab_R := match ab_look ls i with
  | some (.long x) => f x
  | _ => none
def ld_r (ls : ab_L) (i : Nat) (f : Nat → Option ab_R) : Option ab_R := match ab_look ls i with
  | some (.ref x) => f x
  | _ => none
/-- only a place among the locals -/
def ab_lt (i n : Nat) (r : Option ab_R) : Option ab_R := match Nat.blt i n with
  | true => r
  | false => none
def ab_sw (x : Int32) (G : Nat → Option ab_R) (d : Nat) : List (Int32 × Nat) → Option ab_R
  | [] => G d
  | q :: r => if x = q.1 then G q.2 else ab_sw x G d r
def ab_cat (v : Value) : Nat := match v with
  | .long _ => 2
  | _ => 1
def ab_sum : List Value → Nat
  | [] => 0
  | v :: r => ab_cat v + ab_sum r
/-- a call: n values from the stack, in their order; what stays below is small -/
def ab_call (C : Option ab_C) (kd : Nat) (stk : List Value) (st : ab_S) (k : List Value → List Value → ab_S → Option ab_R) : Option ab_R := match C with
  | some (kd', n, f) => match Nat.beq kd kd', Nat.ble n stk.length, Nat.ble (ab_sum (stk.drop n)) 8 with
    | true, true, true => f (stk.take n).reverse st (fun rs st' => k rs (stk.drop n) st')
    | _, _, _ => none
  | none => none
def ab_getf (F : Option (Nat × Nat × Nat)) (o : Nat) (st : ab_S) (k : Value → Option ab_R) : Option ab_R := match F with
  | some (c, p, 2) => (ab_gJ st o c p).bind (fun x => k (.long x))
  | some (c, p, 3) => (ab_gR st o c p).bind (fun x => k (.ref x))
  | some (c, p, _) => (ab_gI st o c p).bind (fun x => k (.int x))
  | none => none
def ab_putf (F : Option (Nat × Nat × Nat)) (stk : List Value) (st : ab_S) (k : List Value → ab_S → Option ab_R) : Option ab_R := match F with
  | some (c, p, 0) => tk_ri stk (fun o v r => (ab_pI st o c p v).bind (fun t => k r t))
  | some (c, p, 1) => tk_ri stk (fun o v r => (ab_pZ st o c p v).bind (fun t => k r t))
  | some (c, p, 2) => tk_rl stk (fun o v r => (ab_pJ st o c p v).bind (fun t => k r t))
  | some (c, p, 3) => tk_rr stk (fun o v r => (ab_pR st o c p v).bind (fun t => k r t))
  | _ => none
def ab_ret (kd : Nat) (stk : List Value) (st : ab_S) : Option ab_R := match kd, stk with
  | 1, [.int v] => some (some (.int v), st)
  | 2, [.int v] => ab_z v (some (some (.int v), st))
  | _, _ => none
/-- a new cell; the guard keeps it from being reckoned too early -/
def ab_mo (st : ab_S) (h : Nat × Nat) : Option ab_S := if (sH st).length < 2 then none else some (ab_mk st h)
def ab_newn (st : ab_S) (n : Int32) (kd : Nat) (k : Nat → ab_S → Option ab_R) : Option ab_R := if n < 0 ∨ 50000 < n.toNatClampNeg then none else (ab_mo st (kd, n.toNatClampNeg)).bind (fun t => k (sH st).length t)
def ab_atk : ArrayType → Nat
  | .int => 1
  | .long => 2
  | .byte => 3
  | .boolean => 4
  | _ => 6
/-- new int[n][k] -/
def ab_rows (st : ab_S) (a k : Nat) : Nat → ab_S
  | 0 => st
  | i + 1 => let t := ab_rows st a k i; uR (ab_mk t (1, k)) a i (sH t).length

def ab_newo (st : ab_S) (c : Nat) (k : Nat → ab_S → Option ab_R) : Option ab_R := (ab_mo st (0, c)).bind (fun t => k (sH st).length t)
def ab_mm (st : ab_S) (a b : Int32) : Option ab_S := if (sH st).length < 2 ∨ a < 0 ∨ b < 0 ∨ 1000 < a.toNatClampNeg ∨ 1000 < b.toNatClampNeg then none else some (ab_rows (ab_mk st (5, a.toNatClampNeg)) (sH st).length b.toNatClampNeg a.toNatClampNeg)
def ab_newm (st : ab_S) (a b : Int32) (k : Nat → ab_S → Option ab_R) : Option ab_R := (ab_mm st a b).bind (fun t => k (sH st).length t)

def ab_exec (M : ab_M) (K : ab_K) (pc : Nat) (ls : ab_L) (stk : List Value) (st : ab_S) (ins : Instr) (n : Nat) (x : Value) (t : Nat) : Option ab_R := match ins with
  | .iconst _ => K (pc + n) ls (x :: stk) st
  | .bipush _ => K (pc + n) ls (x :: stk) st
  | .sipush _ => K (pc + n) ls (x :: stk) st
  | .lconst _ => K (pc + n) ls (x :: stk) st
  | .ldc _ => K (pc + n) ls (x :: stk) st
  | .ldc2_w _ => K (pc + n) ls (x :: stk) st
  | .iload _ => ld_i ls t (fun v => K (pc + n) ls (.int v :: stk) st)
  | .iload_n _ => ld_i ls t (fun v => K (pc + n) ls (.int v :: stk) st)
  | .lload _ => ld_l ls t (fun v => K (pc + n) ls (.long v :: stk) st)
  | .lload_n _ => ld_l ls t (fun v => K (pc + n) ls (.long v :: stk) st)
  | .aload _ => ld_r ls t (fun v => K (pc + n) ls (.ref v :: stk) st)
  | .aload_n _ => ld_r ls t (fun v => K (pc + n) ls (.ref v :: stk) st)
  | .istore _ => ab_lt t (mN M) (tk_i stk (fun v r => K (pc + n) (ab_st1 ls t (.int v)) r st))
  | .istore_n _ => ab_lt t (mN M) (tk_i stk (fun v r => K (pc + n) (ab_st1 ls t (.int v)) r st))
  | .lstore _ => ab_lt (t + 1) (mN M) (tk_l stk (fun v r => K (pc + n) (ab_st2 ls t (.long v)) r st))
  | .lstore_n _ => ab_lt (t + 1) (mN M) (tk_l stk (fun v r => K (pc + n) (ab_st2 ls t (.long v)) r st))
  | .astore _ => ab_lt t (mN M) (tk_r stk (fun v r => K (pc + n) (ab_st1 ls t (.ref v)) r st))
  | .astore_n _ => ab_lt t (mN M) (tk_r stk (fun v r => K (pc + n) (ab_st1 ls t (.ref v)) r st))
  | .iinc _ _ => ab_lt t (mN M) (ld_i ls t (fun v => match x with
    | .int d => K (pc + n) (ab_st1 ls t (.int (v + d))) stk st
    | _ => none))
  | .iadd => tk_ii stk (fun a b r => K (pc + n) ls (.int (a + b) :: r) st)
  | .isub => tk_ii stk (fun a b r => K (pc + n) ls (.int (a - b) :: r) st)
  | .imul => tk_ii stk (fun a b r => K (pc + n) ls (.int (a * b) :: r) st)
  | .iand => tk_ii stk (fun a b r => K (pc + n) ls (.int (a &&& b) :: r) st)
  | .ior => tk_ii stk (fun a b r => K (pc + n) ls (.int (a ||| b) :: r) st)
  | .ishl => tk_ii stk (fun a b r => K (pc + n) ls (.int (a <<< (b &&& 31)) :: r) st)
  | .iushr => tk_ii stk (fun a b r => K (pc + n) ls (.int (a.toUInt32 >>> (b.toUInt32 &&& Int32.toUInt32 31)).toInt32 :: r) st)
  | .ineg => tk_i stk (fun a r => K (pc + n) ls (.int (-a) :: r) st)
  | .ladd => tk_ll stk (fun a b r => K (pc + n) ls (.long (a + b) :: r) st)
  | .lsub => tk_ll stk (fun a b r => K (pc + n) ls (.long (a - b) :: r) st)
  | .lmul => tk_ll stk (fun a b r => K (pc + n) ls (.long (a * b) :: r) st)
  | .land => tk_ll stk (fun a b r => K (pc + n) ls (.long (a &&& b) :: r) st)
  | .lor => tk_ll stk (fun a b r => K (pc + n) ls (.long (a ||| b) :: r) st)
  | .lxor => tk_ll stk (fun a b r => K (pc + n) ls (.long (a ^^^ b) :: r) st)
  | .lcmp => tk_ll stk (fun a b r => K (pc + n) ls (.int (lg_cmp a b) :: r) st)
  | .lshl => tk_li stk (fun a b r => K (pc + n) ls (.long (a <<< (b.toInt64 &&& 63)) :: r) st)
  | .lshr => tk_li stk (fun a b r => K (pc + n) ls (.long (a >>> (b.toInt64 &&& 63)) :: r) st)
  | .lushr => tk_li stk (fun a b r => K (pc + n) ls (.long (a.toUInt64 >>> (b.toInt64.toUInt64 &&& Int64.toUInt64 63)).toInt64 :: r) st)
  | .i2l => tk_i stk (fun a r => K (pc + n) ls (.long a.toInt64 :: r) st)
  | .l2i => tk_l stk (fun a r => K (pc + n) ls (.int a.toInt32 :: r) st)
  | .i2b => tk_i stk (fun a r => K (pc + n) ls (.int a.toInt8.toInt32 :: r) st)
  | .dup => tk_r stk (fun a r => K (pc + n) ls (.ref a :: .ref a :: r) st)
  | .dup2 => tk_ri stk (fun a i r => K (pc + n) ls (.int i :: .ref a :: .int i :: .ref a :: r) st)
  | .pop => tk_i stk (fun _ r => K (pc + n) ls r st)
  | .goto _ => K t ls stk st
  | .if_icmp .eq _ => tk_ii stk (fun a b r => if a = b then K t ls r st else K (pc + n) ls r st)
  | .if_icmp .ne _ => tk_ii stk (fun a b r => if a = b then K (pc + n) ls r st else K t ls r st)
  | .if_icmp .lt _ => tk_ii stk (fun a b r => if a < b then K t ls r st else K (pc + n) ls r st)
  | .if_icmp .ge _ => tk_ii stk (fun a b r => if b ≤ a then K t ls r st else K (pc + n) ls r st)
  | .if_icmp .gt _ => tk_ii stk (fun a b r => if b < a then K t ls r st else K (pc + n) ls r st)
  | .if_icmp .le _ => tk_ii stk (fun a b r => if a ≤ b then K t ls r st else K (pc + n) ls r st)
  | .ifCond .eq _ => tk_i stk (fun a r => if a = 0 then K t ls r st else K (pc + n) ls r st)
  | .ifCond .ne _ => tk_i stk (fun a r => if a = 0 then K (pc + n) ls r st else K t ls r st)
  | .ifCond .lt _ => tk_i stk (fun a r => if a < 0 then K t ls r st else K (pc + n) ls r st)
  | .ifCond .ge _ => tk_i stk (fun a r => if 0 ≤ a then K t ls r st else K (pc + n) ls r st)
  | .ifCond .gt _ => tk_i stk (fun a r => if 0 < a then K t ls r st else K (pc + n) ls r st)
  | .ifCond .le _ => tk_i stk (fun a r => if a ≤ 0 then K t ls r st else K (pc + n) ls r st)
  | .ifnull _ => tk_r stk (fun a r => if a = 0 then K t ls r st else K (pc + n) ls r st)
  | .tableswitch _ _ _ _ => match ab_look (mS M) pc with
    | some (cs, d) => tk_i stk (fun a r => ab_sw a (fun t => K t ls r st) d cs)
    | none => none
  | .lookupswitch _ _ => match ab_look (mS M) pc with
    | some (cs, d) => tk_i stk (fun a r => ab_sw a (fun t => K t ls r st) d cs)
    | none => none
  | .getfield i => tk_r stk (fun o r => ab_getf (ab_look (mF M) i) o st (fun v => K (pc + n) ls (v :: r) st))
  | .putfield i => ab_putf (ab_look (mF M) i) stk st (fun r st' => K (pc + n) ls r st')
  | .iaload => tk_ri stk (fun a i r => (ab_rI st a i).bind (fun v => K (pc + n) ls (.int v :: r) st))
  | .baload => tk_ri stk (fun a i r => (ab_rB st a i).bind (fun v => K (pc + n) ls (.int v :: r) st))
  | .laload => tk_ri stk (fun a i r => (ab_rJ st a i).bind (fun v => K (pc + n) ls (.long v :: r) st))
  | .aaload => tk_ri stk (fun a i r => (ab_rR st a i).bind (fun v => K (pc + n) ls (.ref v :: r) st))
  | .iastore => tk_rii stk (fun a i v r => (ab_wI st a i v).bind (fun st' => K (pc + n) ls r st'))
  | .bastore => tk_rii stk (fun a i v r => (ab_wB st a i v).bind (fun st' => K (pc + n) ls r st'))
  | .lastore => tk_ril stk (fun a i v r => (ab_wJ st a i v).bind (fun st' => K (pc + n) ls r st'))
  | .aastore => tk_rir stk (fun a i v r => (ab_wR st a i v).bind (fun st' => K (pc + n) ls r st'))
  | .arraylength => tk_r stk (fun a r => (ab_n st a).bind (fun v => K (pc + n) ls (.int (Int32.ofNat v) :: r) st))
  | .new i => match ab_look (mK M) i with
    | some c => ab_newo st c (fun o st' => K (pc + n) ls (.ref o :: stk) st')
    | none => none
  | .newarray a => tk_i stk (fun v r => ab_newn st v (ab_atk a) (fun o st' => K (pc + n) ls (.ref o :: r) st'))
  | .anewarray i => match ab_look (mK M) i with
    | some c => tk_i stk (fun v r => ab_newn st v (8 + c) (fun o st' => K (pc + n) ls (.ref o :: r) st'))
    | none => none
  | .multianewarray _ 2 => tk_ii stk (fun a b r => ab_newm st a b (fun o st' => K (pc + n) ls (.ref o :: r) st'))
  | .invokestatic i => ab_call (ab_look (mG M) i) 0 stk st (fun rs r st' => K (pc + n) ls (rs ++ r) st')
  | .invokevirtual i => ab_call (ab_look (mG M) i) 1 stk st (fun rs r st' => K (pc + n) ls (rs ++ r) st')
  | .invokespecial i => ab_call (ab_look (mG M) i) 2 stk st (fun rs r st' => K (pc + n) ls (rs ++ r) st')
  | .ireturn => ab_ret (mR M) stk st
  | .lreturn => match mR M, stk with
    | 3, [.long v] => some (some (.long v), st)
    | _, _ => none
  | .areturn => match mR M, stk with
    | 4, [.ref v] => some (some (.ref v), st)
    | _, _ => none
  | .return_ => match mR M, stk with
    | 0, [] => some (none, st)
    | _, _ => none
  | _ => none

/-- at a label its own function; elsewhere the next instruction -/
def ab_jmp (M : ab_M) (Lf : ab_F) (K : ab_K) : ab_K := fun pc ls stk st => match ab_look (mL M) pc with
  | some sl => match ab_pick ls sl with
    | some vs => Lf pc vs stk st
    | none => none
  | none => K pc ls stk st
def ab_walk (M : ab_M) (Lf : ab_F) : Nat → ab_K
  | 0 => fun _ _ _ _ => none
  | f + 1 => fun pc ls stk st => match ab_look (mC M) pc with
    | some (ins, n, x, t) => ab_exec M (ab_jmp M Lf (ab_walk M Lf f)) pc ls stk st ins n x t
    | none => none
/-- from a label, with its locals' values -/
def ab_from (M : ab_M) (Lf : ab_F) : ab_F := fun pc vs stk st => match ab_look (mL M) pc with
  | some sl => match Nat.beq sl.length vs.length with
    | true => ab_walk M Lf 2000 pc (sl.zip vs) stk st
    | false => none
  | none => none
def ab_run (M : ab_M) : Nat → ab_F
  | 0 => fun _ _ _ _ => none
  | f + 1 => ab_from M (ab_run M f)
end
section
/-! THE LIMIT: what a method answers, with any number of labels passed; its own equation (lm_eq), by which all is reckoned later -/
def pt_K (G : ab_K → Option ab_R) : Prop := ∀ K r, G K = some r → (∀ K', G K' = some r) ∨ ∃ pc ls stk st, K pc ls stk st = some r ∧ ∀ K' : ab_K, K' pc ls stk st = some r → G K' = some r
def pt_F (G : ab_F → Option ab_R) : Prop := ∀ K r, G K = some r → (∀ K', G K' = some r) ∨ ∃ pc ls stk st, K pc ls stk st = some r ∧ ∀ K' : ab_F, K' pc ls stk st = some r → G K' = some r
/-- a callee goes on at one place -/
def ab_one (f : ab_G) : Prop := ∀ as st k r, f as st k = some r → ∃ rs st', k rs st' = some r ∧ ∀ k' : List Value → ab_S → Option ab_R, k' rs st' = some r → f as st k' = some r
theorem pk_one {pc : Nat} {ls : ab_L} {stk : List Value} {st : ab_S} : pt_K (fun K => K pc ls stk st) := fun _ _ h => Or.inr ⟨_, _, _, _, h, fun _ h => h⟩
theorem pk_c {v : Option ab_R} : pt_K (fun _ => v) := fun _ _ h => Or.inl (fun _ => h)
theorem pk_ite {c : Prop} [Decidable c] {A B : ab_K → Option ab_R} (ha : pt_K A) (hb : pt_K B) : pt_K (fun K => if c then A K else B K) := by
  by_cases h : c
  · simpa [h] using ha
  · simpa [h] using hb
theorem pk_bind {α : Type} {o : Option α} {A : ab_K → α → Option ab_R} (h : ∀ x, pt_K (fun K => A K x)) : pt_K (fun K => o.bind (A K)) := by
  cases o with
  | none => exact pk_c
  | some x => exact h x
theorem pk_i {stk : List Value} {A : ab_K → Int32 → List Value → Option ab_R} (h : ∀ x r, pt_K (fun K => A K x r)) : pt_K (fun K => tk_i stk (A K)) := by
  unfold tk_i; split <;> first | exact h _ _ | exact pk_c
theorem pk_l {stk : List Value} {A : ab_K → Int64 → List Value → Option ab_R} (h : ∀ x r, pt_K (fun K => A K x r)) : pt_K (fun K => tk_l stk (A K)) := by
  unfold tk_l; split <;> first | exact h _ _ | exact pk_c
theorem pk_r {stk : List Value} {A : ab_K → Nat → List Value → Option ab_R} (h : ∀ x r, pt_K (fun K => A K x r)) : pt_K (fun K => tk_r stk (A K)) := by
  unfold tk_r; split <;> first | exact h _ _ | exact pk_c
theorem pk_ii {stk : List Value} {A : ab_K → Int32 → Int32 → List Value → Option ab_R} (h : ∀ x y r, pt_K (fun K => A K x y r)) : pt_K (fun K => tk_ii stk (A K)) := by
  unfold tk_ii; split <;> first | exact h _ _ _ | exact pk_c
theorem pk_ll {stk : List Value} {A : ab_K → Int64 → Int64 → List Value → Option ab_R} (h : ∀ x y r, pt_K (fun K => A K x y r)) : pt_K (fun K => tk_ll stk (A K)) := by
  unfold tk_ll; split <;> first | exact h _ _ _ | exact pk_c
theorem pk_li {stk : List Value} {A : ab_K → Int64 → Int32 → List Value → Option ab_R} (h : ∀ x y r, pt_K (fun K => A K x y r)) : pt_K (fun K => tk_li stk (A K)) := by
  unfold tk_li; split <;> first | exact h _ _ _ | exact pk_c
theorem pk_ri {stk : List Value} {A : ab_K → Nat → Int32 → List Value → Option ab_R} (h : ∀ x y r, pt_K (fun K => A K x y r)) : pt_K (fun K => tk_ri stk (A K)) := by
  unfold tk_ri; split <;> first | exact h _ _ _ | exact pk_c
theorem pk_rl {stk : List Value} {A : ab_K → Nat → Int64 → List Value → Option ab_R} (h : ∀ x y r, pt_K (fun K => A K x y r)) : pt_K (fun K => tk_rl stk (A K)) := by
  unfold tk_rl; split <;> first | exact h _ _ _ | exact pk_c
theorem pk_rr {stk : List Value} {A : ab_K → Nat → Nat → List Value → Option ab_R} (h : ∀ x y r, pt_K (fun K => A K x y r)) : pt_K (fun K => tk_rr stk (A K)) := by
  unfold tk_rr; split <;> first | exact h _ _ _ | exact pk_c
theorem pk_rii {stk : List Value} {A : ab_K → Nat → Int32 → Int32 → List Value → Option ab_R} (h : ∀ x y z r, pt_K (fun K => A K x y z r)) : pt_K (fun K => tk_rii stk (A K)) := by
  unfold tk_rii; split <;> first | exact h _ _ _ _ | exact pk_c
theorem pk_ril {stk : List Value} {A : ab_K → Nat → Int32 → Int64 → List Value → Option ab_R} (h : ∀ x y z r, pt_K (fun K => A K x y z r)) : pt_K (fun K => tk_ril stk (A K)) := by
  unfold tk_ril; split <;> first | exact h _ _ _ _ | exact pk_c
theorem pk_rir {stk : List Value} {A : ab_K → Nat → Int32 → Nat → List Value → Option ab_R} (h : ∀ x y z r, pt_K (fun K => A K x y z r)) : pt_K (fun K => tk_rir stk (A K)) := by
  unfold tk_rir; split <;> first | exact h _ _ _ _ | exact pk_c
theorem pk_di {ls : ab_L} {i : Nat} {A : ab_K → Int32 → Option ab_R} (h : ∀ x, pt_K (fun K => A K x)) : pt_K (fun K => ld_i ls i (A K)) := by
  unfold ld_i; split <;> first | exact h _ | exact pk_c
theorem pk_dl {ls : ab_L} {i : Nat} {A : ab_K → Int64 → Option ab_R} (h : ∀ x, pt_K (fun K => A K x)) : pt_K (fun K => ld_l ls i (A K)) := by
  unfold ld_l; split <;> first | exact h _ | exact pk_c
theorem pk_dr {ls : ab_L} {i : Nat} {A : ab_K → Nat → Option ab_R} (h : ∀ x, pt_K (fun K => A K x)) : pt_K (fun K => ld_r ls i (A K)) := by
  unfold ld_r; split <;> first | exact h _ | exact pk_c
theorem pk_lt2 {i n : Nat} {A : ab_K → Option ab_R} (h : pt_K A) : pt_K (fun K => ab_lt i n (A K)) := by
  unfold ab_lt; split <;> first | exact h | exact pk_c
theorem pk_sw {x : Int32} {A : ab_K → Nat → Option ab_R} {d : Nat} (h : ∀ t, pt_K (fun K => A K t)) : ∀ cs, pt_K (fun K => ab_sw x (A K) d cs)
  | [] => h d
  | q :: r => pk_ite (c := x = q.1) (h q.2) (pk_sw h r)
theorem pk_getf {F : Option (Nat × Nat × Nat)} {o : Nat} {st : ab_S} {A : ab_K → Value → Option ab_R} (h : ∀ x, pt_K (fun K => A K x)) : pt_K (fun K => ab_getf F o st (A K)) := by
  unfold ab_getf; split <;> first | exact pk_bind (fun x => h _) | exact pk_c
theorem pk_putf {F : Option (Nat × Nat × Nat)} {stk : List Value} {st : ab_S} {A : ab_K → List Value → ab_S → Option ab_R} (h : ∀ r t, pt_K (fun K => A K r t)) : pt_K (fun K => ab_putf F stk st (A K)) := by
  unfold ab_putf
  split
  · exact pk_ri (fun o v r => pk_bind (fun t => h r t))
  · exact pk_ri (fun o v r => pk_bind (fun t => h r t))
  · exact pk_rl (fun o v r => pk_bind (fun t => h r t))
  · exact pk_rr (fun o v r => pk_bind (fun t => h r t))
  · exact pk_c
theorem pk_newn {st : ab_S} {n : Int32} {kd : Nat} {A : ab_K → Nat → ab_S → Option ab_R} (h : ∀ o t, pt_K (fun K => A K o t)) : pt_K (fun K => ab_newn st n kd (A K)) := by
  unfold ab_newn; split <;> first | exact pk_bind (fun t => h _ t) | exact pk_c
theorem pk_newo {st : ab_S} {c : Nat} {A : ab_K → Nat → ab_S → Option ab_R} (h : ∀ o t, pt_K (fun K => A K o t)) : pt_K (fun K => ab_newo st c (A K)) := pk_bind (fun t => h _ t)
theorem pk_newm {st : ab_S} {a b : Int32} {A : ab_K → Nat → ab_S → Option ab_R} (h : ∀ o t, pt_K (fun K => A K o t)) : pt_K (fun K => ab_newm st a b (A K)) := pk_bind (fun t => h _ t)
theorem pk_call {C : Option ab_C} {kd : Nat} {stk : List Value} {st : ab_S} {A : ab_K → List Value → List Value → ab_S → Option ab_R} (hC : ∀ q, C = some q → ab_one q.2.2) (h : ∀ rs r t, pt_K (fun K => A K rs r t)) : pt_K (fun K => ab_call C kd stk st (A K)) := by
  unfold ab_call
  split
  · next kd' n f =>
    have h1 : ab_one f := hC _ rfl
    split
    · intro K r hr
      obtain ⟨rs, st', h2, h3⟩ := h1 _ _ _ _ hr
      rcases h rs (stk.drop n) st' K r h2 with h4 | ⟨pc, ls, sk, s2, h4, h5⟩
      · exact Or.inl (fun K' => h3 _ (h4 K'))
      · exact Or.inr ⟨pc, ls, sk, s2, h4, fun K' h6 => h3 _ (h5 K' h6)⟩
    · exact pk_c
  · exact pk_c
theorem ab_look_mem {α : Type} : ∀ {l : List (Nat × α)} {i : Nat} {v : α}, ab_look l i = some v → (i, v) ∈ l
  | [], _, _, h => by cases h
  | q :: r, i, v, h => by
    unfold ab_look at h
    split at h
    · next hq =>
      cases h
      rw [← Nat.eq_of_beq_eq_true hq]
      exact List.mem_cons_self
    · exact List.mem_cons_of_mem _ (ab_look_mem h)
def ab_oneM (M : ab_M) : Prop := ∀ q ∈ mG M, ab_one q.2.2.2
set_option maxHeartbeats 4000000 in
theorem pk_exec {M : ab_M} (hM : ab_oneM M) {pc : Nat} {ls : ab_L} {stk : List Value} {st : ab_S} {ins : Instr} {n : Nat} {x : Value} {t : Nat} : pt_K (fun K => ab_exec M K pc ls stk st ins n x t) := by
  have hC : ∀ i q, ab_look (mG M) i = some q → ab_one q.2.2 := fun i q h => hM _ (ab_look_mem h)
  unfold ab_exec
  split <;> first
    | exact pk_one
    | exact pk_c
    | exact pk_di (fun _ => pk_one)
    | exact pk_dl (fun _ => pk_one)
    | exact pk_dr (fun _ => pk_one)
    | exact pk_lt2 (pk_i (fun _ _ => pk_one))
    | exact pk_lt2 (pk_l (fun _ _ => pk_one))
    | exact pk_lt2 (pk_r (fun _ _ => pk_one))
    | exact pk_i (fun _ _ => pk_one)
    | exact pk_l (fun _ _ => pk_one)
    | exact pk_r (fun _ _ => pk_one)
    | exact pk_ii (fun _ _ _ => pk_one)
    | exact pk_ll (fun _ _ _ => pk_one)
    | exact pk_li (fun _ _ _ => pk_one)
    | exact pk_ri (fun _ _ _ => pk_one)
    | exact pk_ii (fun _ _ _ => pk_ite pk_one pk_one)
    | exact pk_ii (fun _ _ _ => pk_newm (fun _ _ => pk_one))
    | exact pk_i (fun _ _ => pk_ite pk_one pk_one)
    | exact pk_r (fun _ _ => pk_ite pk_one pk_one)
    | exact pk_r (fun _ _ => pk_getf (fun _ => pk_one))
    | exact pk_putf (fun _ _ => pk_one)
    | exact pk_ri (fun _ _ _ => pk_bind (fun _ => pk_one))
    | exact pk_rii (fun _ _ _ _ => pk_bind (fun _ => pk_one))
    | exact pk_ril (fun _ _ _ _ => pk_bind (fun _ => pk_one))
    | exact pk_rir (fun _ _ _ _ => pk_bind (fun _ => pk_one))
    | exact pk_r (fun _ _ => pk_bind (fun _ => pk_one))
    | exact pk_i (fun _ _ => pk_newn (fun _ _ => pk_one))
    | exact pk_call (fun q h => hC _ q h) (fun _ _ _ => pk_one)
    | (split <;> first | exact pk_newo (fun _ _ => pk_one) | exact pk_one | exact pk_c | exact pk_i (fun _ _ => pk_sw (fun _ => pk_one) _) | exact pk_i (fun _ _ => pk_newn (fun _ _ => pk_one)))
    | exact pk_lt2 (pk_di (fun _ => by split <;> first | exact pk_one | exact pk_c))
theorem pt_walk {M : ab_M} (hM : ab_oneM M) : ∀ (f pc : Nat) (ls : ab_L) (stk : List Value) (st : ab_S), pt_F (fun Lf => ab_walk M Lf f pc ls stk st)
  | 0, _, _, _, _ => fun _ _ h => by cases h
  | f + 1, pc, ls, stk, st => by
    intro Lf r h
    unfold ab_walk at h ⊢
    split at h
    · next ins n x t hl =>
      rcases pk_exec hM _ _ h with h1 | ⟨pc2, ls2, stk2, st2, h1, h2⟩
      · exact Or.inl (fun K' => by simpa using h1 _)
      · unfold ab_jmp at h1
        split at h1
        · next sl hsl =>
          split at h1
          · next vs hvs =>
            refine Or.inr ⟨pc2, vs, stk2, st2, h1, fun K' h3 => ?_⟩
            refine h2 _ ?_
            unfold ab_jmp
            rw [hsl]
            simp only [hvs]
            exact h3
          · cases h1
        · next hsl =>
          rcases pt_walk hM f pc2 ls2 stk2 st2 Lf r h1 with h3 | ⟨a, b, c, d, h3, h4⟩
          · refine Or.inl (fun K' => h2 _ ?_)
            unfold ab_jmp
            rw [hsl]
            exact h3 K'
          · refine Or.inr ⟨a, b, c, d, h3, fun K' h5 => h2 _ ?_⟩
            unfold ab_jmp
            rw [hsl]
            exact h4 K' h5
    · cases h
theorem pt_from {M : ab_M} (hM : ab_oneM M) (pc : Nat) (vs stk : List Value) (st : ab_S) : pt_F (fun Lf => ab_from M Lf pc vs stk st) := by
  unfold ab_from
  split
  · split
    · exact pt_walk hM _ _ _ _ _
    · intro _ _ h; cases h
  · intro _ _ h; cases h
theorem pt_mono {G : ab_F → Option ab_R} (h : pt_F G) {A B : ab_F} (hAB : ∀ pc vs stk st r, A pc vs stk st = some r → B pc vs stk st = some r) {r : ab_R} (hA : G A = some r) : G B = some r := by
  rcases h A r hA with h1 | ⟨a, b, c, d, h1, h2⟩
  · exact h1 B
  · exact h2 B (hAB _ _ _ _ _ h1)
theorem run_up {M : ab_M} (hM : ab_oneM M) : ∀ (f pc : Nat) (vs stk : List Value) (st : ab_S) (r : ab_R), ab_run M f pc vs stk st = some r → ab_run M (f + 1) pc vs stk st = some r
  | 0, _, _, _, _, _, h => by cases h
  | f + 1, pc, vs, stk, st, r, h => pt_mono (pt_from hM pc vs stk st) (run_up hM f) h
theorem run_le {M : ab_M} (hM : ab_oneM M) {f g : Nat} (h : f ≤ g) {pc : Nat} {vs stk : List Value} {st : ab_S} {r : ab_R} (hr : ab_run M f pc vs stk st = some r) : ab_run M g pc vs stk st = some r := by
  induction h with
  | refl => exact hr
  | step _ ih => exact run_up hM _ _ _ _ _ _ ih
noncomputable def ab_lim (M : ab_M) : ab_F := fun pc vs stk st => @dite _ (∃ q : Nat × ab_R, ab_run M q.1 pc vs stk st = some q.2) (Classical.propDecidable _) (fun h => some h.choose.2) (fun _ => none)
theorem lm_iff {M : ab_M} (hM : ab_oneM M) {pc : Nat} {vs stk : List Value} {st : ab_S} {r : ab_R} : ab_lim M pc vs stk st = some r ↔ ∃ f, ab_run M f pc vs stk st = some r := by
  unfold ab_lim
  by_cases h : ∃ q : Nat × ab_R, ab_run M q.1 pc vs stk st = some q.2
  · rw [dif_pos h]
    have hq := h.choose_spec
    generalize h.choose = q at hq
    constructor
    · intro e
      cases e
      exact ⟨q.1, hq⟩
    · rintro ⟨f, hf⟩
      have h1 := run_le hM (Nat.le_max_left q.1 f) hq
      have h2 := run_le hM (Nat.le_max_right q.1 f) hf
      rw [h1] at h2
      exact h2
  · rw [dif_neg h]
    constructor
    · intro e; cases e
    · rintro ⟨f, hf⟩
      exact absurd ⟨(f, r), hf⟩ h
theorem lm_eq {M : ab_M} (hM : ab_oneM M) (pc : Nat) (vs stk : List Value) (st : ab_S) : ab_lim M pc vs stk st = ab_from M (ab_lim M) pc vs stk st := by
  apply Option.ext
  intro r
  rw [lm_iff hM]
  constructor
  · rintro ⟨f, hf⟩
    cases f with
    | zero => cases hf
    | succ f => exact pt_mono (pt_from hM pc vs stk st) (fun _ _ _ _ _ h => (lm_iff hM).mpr ⟨f, h⟩) hf
  · intro h
    rcases pt_from hM pc vs stk st _ _ h with h1 | ⟨a, b, c, d, h1, h2⟩
    · exact ⟨1, h1 _⟩
    · obtain ⟨f, hf⟩ := (lm_iff hM).mp h1
      exact ⟨f + 1, h2 _ hf⟩
/-! callees -/
theorem one_rv {r0 : Option ab_R} {k : List Value → ab_S → Option ab_R} {r : ab_R} (h : ab_rv r0 (fun t => k [] t) = some r) : ∃ rs st', k rs st' = some r ∧ ∀ k' : List Value → ab_S → Option ab_R, k' rs st' = some r → ab_rv r0 (fun t => k' [] t) = some r := by
  cases r0 with
  | none => cases h
  | some q =>
    obtain ⟨v, t⟩ := q
    cases v with
    | none => exact ⟨[], t, h, fun k' h' => h'⟩
    | some v => cases h
theorem one_ri {r0 : Option ab_R} {k : List Value → ab_S → Option ab_R} {r : ab_R} (h : ab_ri r0 (fun x t => k [.int x] t) = some r) : ∃ rs st', k rs st' = some r ∧ ∀ k' : List Value → ab_S → Option ab_R, k' rs st' = some r → ab_ri r0 (fun x t => k' [.int x] t) = some r := by
  cases r0 with
  | none => cases h
  | some q =>
    obtain ⟨v, t⟩ := q
    cases v with
    | none => cases h
    | some v => cases v <;> first | exact ⟨_, t, h, fun k' h' => h'⟩ | cases h
theorem one_rl {r0 : Option ab_R} {k : List Value → ab_S → Option ab_R} {r : ab_R} (h : ab_rl r0 (fun x t => k [.long x] t) = some r) : ∃ rs st', k rs st' = some r ∧ ∀ k' : List Value → ab_S → Option ab_R, k' rs st' = some r → ab_rl r0 (fun x t => k' [.long x] t) = some r := by
  cases r0 with
  | none => cases h
  | some q =>
    obtain ⟨v, t⟩ := q
    cases v with
    | none => cases h
    | some v => cases v <;> first | exact ⟨_, t, h, fun k' h' => h'⟩ | cases h
theorem one_rr {r0 : Option ab_R} {k : List Value → ab_S → Option ab_R} {r : ab_R} (h : ab_rr r0 (fun x t => k [.ref x] t) = some r) : ∃ rs st', k rs st' = some r ∧ ∀ k' : List Value → ab_S → Option ab_R, k' rs st' = some r → ab_rr r0 (fun x t => k' [.ref x] t) = some r := by
  cases r0 with
  | none => cases h
  | some q =>
    obtain ⟨v, t⟩ := q
    cases v with
    | none => cases h
    | some v => cases v <;> first | exact ⟨_, t, h, fun k' h' => h'⟩ | cases h
theorem o_obj : ab_one g_obj := by
  intro as st k r h
  unfold g_obj at h ⊢
  split at h
  · exact ⟨_, _, h, fun _ h' => h'⟩
  · cases h
end
section
def c_X8_init : List (Nat × ab_I) := [(0, .aload_n 0, 1, .null, 0),
  (1, .invokespecial 3, 3, .null, 0),
  (4, .aload_n 0, 1, .null, 0),
  (5, .sipush (2401), 3, (.int (2401)), 0),
  (8, .newarray .int, 2, .null, 0),
  (10, .putfield 9, 3, .null, 0),
  (13, .aload_n 0, 1, .null, 0),
  (14, .sipush (2401), 3, (.int (2401)), 0),
  (17, .newarray .int, 2, .null, 0),
  (19, .putfield 15, 3, .null, 0),
  (22, .aload_n 0, 1, .null, 0),
  (23, .sipush (2401), 3, (.int (2401)), 0),
  (26, .newarray .int, 2, .null, 0),
  (28, .putfield 18, 3, .null, 0),
  (31, .aload_n 0, 1, .null, 0),
  (32, .sipush (2401), 3, (.int (2401)), 0),
  (35, .newarray .long, 2, .null, 0),
  (37, .putfield 21, 3, .null, 0),
  (40, .aload_n 0, 1, .null, 0),
  (41, .sipush (2401), 3, (.int (2401)), 0),
  (44, .newarray .long, 2, .null, 0),
  (46, .putfield 25, 3, .null, 0),
  (49, .aload_n 0, 1, .null, 0),
  (50, .sipush (2401), 3, (.int (2401)), 0),
  (53, .newarray .int, 2, .null, 0),
  (55, .putfield 28, 3, .null, 0),
  (58, .aload_n 0, 1, .null, 0),
  (59, .sipush (2401), 3, (.int (2401)), 0),
  (62, .newarray .int, 2, .null, 0),
  (64, .putfield 31, 3, .null, 0),
  (67, .aload_n 0, 1, .null, 0),
  (68, .sipush (2401), 3, (.int (2401)), 0),
  (71, .newarray .int, 2, .null, 0),
  (73, .putfield 34, 3, .null, 0),
  (76, .aload_n 0, 1, .null, 0),
  (77, .sipush (2401), 3, (.int (2401)), 0),
  (80, .newarray .int, 2, .null, 0),
  (82, .putfield 37, 3, .null, 0),
  (85, .aload_n 0, 1, .null, 0),
  (86, .sipush (2401), 3, (.int (2401)), 0),
  (89, .newarray .int, 2, .null, 0),
  (91, .putfield 40, 3, .null, 0),
  (94, .aload_n 0, 1, .null, 0),
  (95, .sipush (2401), 3, (.int (2401)), 0),
  (98, .newarray .int, 2, .null, 0),
  (100, .putfield 43, 3, .null, 0),
  (103, .aload_n 0, 1, .null, 0),
  (104, .sipush (4096), 3, (.int (4096)), 0),
  (107, .newarray .int, 2, .null, 0),
  (109, .putfield 46, 3, .null, 0),
  (112, .aload_n 0, 1, .null, 0),
  (113, .bipush (13), 2, (.int (13)), 0),
  (115, .newarray .int, 2, .null, 0),
  (117, .putfield 49, 3, .null, 0),
  (120, .return_, 1, .null, 0)]
noncomputable def m_X8_init : ab_M := (c_X8_init, [(0, [0])],
  [(9, 8, 0, 3), (15, 8, 1, 3), (18, 8, 2, 3), (21, 8, 3, 3), (25, 8, 4, 3), (28, 8, 5, 3), (31, 8, 6, 3), (34, 8, 7, 3), (37, 8, 8, 3), (40, 8, 9, 3), (43, 8, 10, 3), (46, 8, 11, 3), (49, 8, 12, 3)],
  [],
  [(3, 2, 1, g_obj)],
  [], 1, 0)
theorem one_X8_init : ab_oneM m_X8_init := List.forall_mem_cons.mpr ⟨o_obj, fun _ h => absurd h List.not_mem_nil⟩
noncomputable def f_X8_init (l0 : Nat) (st : ab_S) : Option ab_R := ab_lim m_X8_init 0 [.ref l0] [] st
noncomputable def g_X8_init : ab_G := fun as st k => match as with
  | [.ref a0] => ab_rv (f_X8_init a0 st) (fun t => k [] t)
  | _ => none
theorem o_X8_init : ab_one g_X8_init := by
  intro as st k r h
  unfold g_X8_init at h ⊢
  split at h
  · exact one_rv h
  · cases h
set_option maxRecDepth 100000 in
theorem e_X8_init_0 (l0 : Nat) (st : ab_S) : f_X8_init l0 st =
    ab_newn st (2401 : Int32) 1 fun o1 s2 =>
    Option.bind (ab_pR s2 l0 8 0 o1) fun s3 =>
    ab_newn s3 (2401 : Int32) 1 fun o4 s5 =>
    Option.bind (ab_pR s5 l0 8 1 o4) fun s6 =>
    ab_newn s6 (2401 : Int32) 1 fun o7 s8 =>
    Option.bind (ab_pR s8 l0 8 2 o7) fun s9 =>
    ab_newn s9 (2401 : Int32) 2 fun o10 s11 =>
    Option.bind (ab_pR s11 l0 8 3 o10) fun s12 =>
    ab_newn s12 (2401 : Int32) 2 fun o13 s14 =>
    Option.bind (ab_pR s14 l0 8 4 o13) fun s15 =>
    ab_newn s15 (2401 : Int32) 1 fun o16 s17 =>
    Option.bind (ab_pR s17 l0 8 5 o16) fun s18 =>
    ab_newn s18 (2401 : Int32) 1 fun o19 s20 =>
    Option.bind (ab_pR s20 l0 8 6 o19) fun s21 =>
    ab_newn s21 (2401 : Int32) 1 fun o22 s23 =>
    Option.bind (ab_pR s23 l0 8 7 o22) fun s24 =>
    ab_newn s24 (2401 : Int32) 1 fun o25 s26 =>
    Option.bind (ab_pR s26 l0 8 8 o25) fun s27 =>
    ab_newn s27 (2401 : Int32) 1 fun o28 s29 =>
    Option.bind (ab_pR s29 l0 8 9 o28) fun s30 =>
    ab_newn s30 (2401 : Int32) 1 fun o31 s32 =>
    Option.bind (ab_pR s32 l0 8 10 o31) fun s33 =>
    ab_newn s33 (4096 : Int32) 1 fun o34 s35 =>
    Option.bind (ab_pR s35 l0 8 11 o34) fun s36 =>
    ab_newn s36 (13 : Int32) 1 fun o37 s38 =>
    Option.bind (ab_pR s38 l0 8 12 o37) fun s39 =>
    some (none, s39) := (lm_eq one_X8_init 0 _ _ _).trans rfl
def c_X3_init : List (Nat × ab_I) := [(0, .aload_n 0, 1, .null, 0),
  (1, .invokespecial 3, 3, .null, 0),
  (4, .aload_n 0, 1, .null, 0),
  (5, .bipush (12), 2, (.int (12)), 0),
  (7, .newarray .int, 2, .null, 0),
  (9, .putfield 9, 3, .null, 0),
  (12, .aload_n 0, 1, .null, 0),
  (13, .bipush (13), 2, (.int (13)), 0),
  (15, .newarray .int, 2, .null, 0),
  (17, .putfield 15, 3, .null, 0),
  (20, .aload_n 0, 1, .null, 0),
  (21, .bipush (13), 2, (.int (13)), 0),
  (23, .newarray .int, 2, .null, 0),
  (25, .putfield 18, 3, .null, 0),
  (28, .aload_n 0, 1, .null, 0),
  (29, .bipush (13), 2, (.int (13)), 0),
  (31, .newarray .long, 2, .null, 0),
  (33, .putfield 21, 3, .null, 0),
  (36, .return_, 1, .null, 0)]
noncomputable def m_X3_init : ab_M := (c_X3_init, [(0, [0])],
  [(9, 3, 0, 3), (15, 3, 1, 3), (18, 3, 2, 3), (21, 3, 3, 3)],
  [],
  [(3, 2, 1, g_obj)],
  [], 1, 0)
theorem one_X3_init : ab_oneM m_X3_init := List.forall_mem_cons.mpr ⟨o_obj, fun _ h => absurd h List.not_mem_nil⟩
noncomputable def f_X3_init (l0 : Nat) (st : ab_S) : Option ab_R := ab_lim m_X3_init 0 [.ref l0] [] st
noncomputable def g_X3_init : ab_G := fun as st k => match as with
  | [.ref a0] => ab_rv (f_X3_init a0 st) (fun t => k [] t)
  | _ => none
theorem o_X3_init : ab_one g_X3_init := by
  intro as st k r h
  unfold g_X3_init at h ⊢
  split at h
  · exact one_rv h
  · cases h
set_option maxRecDepth 100000 in
theorem e_X3_init_0 (l0 : Nat) (st : ab_S) : f_X3_init l0 st =
    ab_newn st (12 : Int32) 1 fun o1 s2 =>
    Option.bind (ab_pR s2 l0 3 0 o1) fun s3 =>
    ab_newn s3 (13 : Int32) 1 fun o4 s5 =>
    Option.bind (ab_pR s5 l0 3 1 o4) fun s6 =>
    ab_newn s6 (13 : Int32) 1 fun o7 s8 =>
    Option.bind (ab_pR s8 l0 3 2 o7) fun s9 =>
    ab_newn s9 (13 : Int32) 2 fun o10 s11 =>
    Option.bind (ab_pR s11 l0 3 3 o10) fun s12 =>
    some (none, s12) := (lm_eq one_X3_init 0 _ _ _).trans rfl
def c_X4_init : List (Nat × ab_I) := [(0, .aload_n 0, 1, .null, 0),
  (1, .invokespecial 1, 3, .null, 0),
  (4, .return_, 1, .null, 0)]
noncomputable def m_X4_init : ab_M := (c_X4_init, [(0, [0])],
  [],
  [],
  [(1, 2, 1, g_obj)],
  [], 1, 0)
theorem one_X4_init : ab_oneM m_X4_init := List.forall_mem_cons.mpr ⟨o_obj, fun _ h => absurd h List.not_mem_nil⟩
noncomputable def f_X4_init (l0 : Nat) (st : ab_S) : Option ab_R := ab_lim m_X4_init 0 [.ref l0] [] st
noncomputable def g_X4_init : ab_G := fun as st k => match as with
  | [.ref a0] => ab_rv (f_X4_init a0 st) (fun t => k [] t)
  | _ => none
theorem o_X4_init : ab_one g_X4_init := by
  intro as st k r h
  unfold g_X4_init at h ⊢
  split at h
  · exact one_rv h
  · cases h
set_option maxRecDepth 100000 in
theorem e_X4_init_0 (l0 : Nat) (st : ab_S) : f_X4_init l0 st =
    some (none, st) := (lm_eq one_X4_init 0 _ _ _).trans rfl
def c_X5_init : List (Nat × ab_I) := [(0, .aload_n 0, 1, .null, 0),
  (1, .invokespecial 3, 3, .null, 0),
  (4, .aload_n 0, 1, .null, 0),
  (5, .sipush (256), 3, (.int (256)), 0),
  (8, .newarray .int, 2, .null, 0),
  (10, .putfield 9, 3, .null, 0),
  (13, .aload_n 0, 1, .null, 0),
  (14, .bipush (24), 2, (.int (24)), 0),
  (16, .newarray .int, 2, .null, 0),
  (18, .putfield 15, 3, .null, 0),
  (21, .aload_n 0, 1, .null, 0),
  (22, .sipush (256), 3, (.int (256)), 0),
  (25, .newarray .int, 2, .null, 0),
  (27, .putfield 18, 3, .null, 0),
  (30, .aload_n 0, 1, .null, 0),
  (31, .iconst 5, 1, (.int (5)), 0),
  (32, .anewarray 21, 3, .null, 0),
  (35, .putfield 23, 3, .null, 0),
  (38, .aload_n 0, 1, .null, 0),
  (39, .iconst 5, 1, (.int (5)), 0),
  (40, .anewarray 21, 3, .null, 0),
  (43, .putfield 27, 3, .null, 0),
  (46, .aload_n 0, 1, .null, 0),
  (47, .new 21, 3, .null, 0),
  (50, .dup, 1, .null, 0),
  (51, .invokespecial 30, 3, .null, 0),
  (54, .putfield 31, 3, .null, 0),
  (57, .iconst 0, 1, (.int (0)), 0),
  (58, .istore_n 1, 1, .null, 1),
  (59, .iload_n 1, 1, .null, 1),
  (60, .iconst 4, 1, (.int (4)), 0),
  (61, .if_icmp .gt (35), 3, .null, 96),
  (64, .aload_n 0, 1, .null, 0),
  (65, .getfield 23, 3, .null, 0),
  (68, .iload_n 1, 1, .null, 1),
  (69, .new 21, 3, .null, 0),
  (72, .dup, 1, .null, 0),
  (73, .invokespecial 30, 3, .null, 0),
  (76, .aastore, 1, .null, 0),
  (77, .aload_n 0, 1, .null, 0),
  (78, .getfield 27, 3, .null, 0),
  (81, .iload_n 1, 1, .null, 1),
  (82, .new 21, 3, .null, 0),
  (85, .dup, 1, .null, 0),
  (86, .invokespecial 30, 3, .null, 0),
  (89, .aastore, 1, .null, 0),
  (90, .iinc 1 (1), 3, (.int (1)), 1),
  (93, .goto (-34), 3, .null, 59),
  (96, .return_, 1, .null, 0)]
noncomputable def m_X5_init : ab_M := (c_X5_init, [(0, [0]), (59, [0, 1])],
  [(9, 5, 0, 3), (15, 5, 1, 3), (18, 5, 2, 3), (23, 5, 3, 3), (27, 5, 4, 3), (31, 5, 5, 3)],
  [(21, 4)],
  [(3, 2, 1, g_obj), (30, 2, 1, g_X4_init)],
  [], 2, 0)
theorem one_X5_init : ab_oneM m_X5_init := List.forall_mem_cons.mpr ⟨o_obj, List.forall_mem_cons.mpr ⟨o_X4_init, fun _ h => absurd h List.not_mem_nil⟩⟩
noncomputable def f_X5_init (l0 : Nat) (st : ab_S) : Option ab_R := ab_lim m_X5_init 0 [.ref l0] [] st
noncomputable def L_X5_init_59 (l0 : Nat) (l1 : Int32) (st : ab_S) : Option ab_R := ab_lim m_X5_init 59 [.ref l0, .int l1] [] st
noncomputable def g_X5_init : ab_G := fun as st k => match as with
  | [.ref a0] => ab_rv (f_X5_init a0 st) (fun t => k [] t)
  | _ => none
theorem o_X5_init : ab_one g_X5_init := by
  intro as st k r h
  unfold g_X5_init at h ⊢
  split at h
  · exact one_rv h
  · cases h
set_option maxRecDepth 100000 in
theorem e_X5_init_0 (l0 : Nat) (st : ab_S) : f_X5_init l0 st =
    ab_newn st (256 : Int32) 1 fun o1 s2 =>
    Option.bind (ab_pR s2 l0 5 0 o1) fun s3 =>
    ab_newn s3 (24 : Int32) 1 fun o4 s5 =>
    Option.bind (ab_pR s5 l0 5 1 o4) fun s6 =>
    ab_newn s6 (256 : Int32) 1 fun o7 s8 =>
    Option.bind (ab_pR s8 l0 5 2 o7) fun s9 =>
    ab_newn s9 (5 : Int32) 12 fun o10 s11 =>
    Option.bind (ab_pR s11 l0 5 3 o10) fun s12 =>
    ab_newn s12 (5 : Int32) 12 fun o13 s14 =>
    Option.bind (ab_pR s14 l0 5 4 o13) fun s15 =>
    ab_newo s15 4 fun o16 s17 =>
    ab_rv (f_X4_init o16 s17) fun s18 =>
    Option.bind (ab_pR s18 l0 5 5 o16) fun s19 =>
    L_X5_init_59 l0 (0 : Int32) s19 := (lm_eq one_X5_init 0 _ _ _).trans rfl
set_option maxRecDepth 100000 in
theorem e_X5_init_59 (l0 : Nat) (l1 : Int32) (st : ab_S) : L_X5_init_59 l0 l1 st =
    if (4 : Int32) < l1
    then some (none, st)
    else Option.bind (ab_gR st l0 5 3) fun x1 =>
      ab_newo st 4 fun o2 s3 =>
      ab_rv (f_X4_init o2 s3) fun s4 =>
      Option.bind (ab_wR s4 x1 l1 o2) fun s5 =>
      Option.bind (ab_gR s5 l0 5 4) fun x6 =>
      ab_newo s5 4 fun o7 s8 =>
      ab_rv (f_X4_init o7 s8) fun s9 =>
      Option.bind (ab_wR s9 x6 l1 o7) fun s10 =>
      L_X5_init_59 l0 (l1 + (1 : Int32)) s10 := (lm_eq one_X5_init 59 _ _ _).trans rfl
def c_X2_init : List (Nat × ab_I) := [(0, .aload_n 0, 1, .null, 0),
  (1, .invokespecial 3, 3, .null, 0),
  (4, .aload_n 0, 1, .null, 0),
  (5, .bipush (13), 2, (.int (13)), 0),
  (7, .bipush (13), 2, (.int (13)), 0),
  (9, .multianewarray 9 2, 4, .null, 0),
  (13, .putfield 11, 3, .null, 0),
  (16, .return_, 1, .null, 0)]
noncomputable def m_X2_init : ab_M := (c_X2_init, [(0, [0])],
  [(11, 2, 0, 3)],
  [],
  [(3, 2, 1, g_obj)],
  [], 1, 0)
theorem one_X2_init : ab_oneM m_X2_init := List.forall_mem_cons.mpr ⟨o_obj, fun _ h => absurd h List.not_mem_nil⟩
noncomputable def f_X2_init (l0 : Nat) (st : ab_S) : Option ab_R := ab_lim m_X2_init 0 [.ref l0] [] st
noncomputable def g_X2_init : ab_G := fun as st k => match as with
  | [.ref a0] => ab_rv (f_X2_init a0 st) (fun t => k [] t)
  | _ => none
theorem o_X2_init : ab_one g_X2_init := by
  intro as st k r h
  unfold g_X2_init at h ⊢
  split at h
  · exact one_rv h
  · cases h
set_option maxRecDepth 100000 in
theorem e_X2_init_0 (l0 : Nat) (st : ab_S) : f_X2_init l0 st =
    ab_newm st (13 : Int32) (13 : Int32) fun o1 s2 =>
    Option.bind (ab_pR s2 l0 2 0 o1) fun s3 =>
    some (none, s3) := (lm_eq one_X2_init 0 _ _ _).trans rfl
def c_J_max : List (Nat × ab_I) := [(0, .iload_n 0, 1, .null, 0),
  (1, .iload_n 1, 1, .null, 1),
  (2, .if_icmp .lt (7), 3, .null, 9),
  (5, .iload_n 0, 1, .null, 0),
  (6, .goto (4), 3, .null, 10),
  (9, .iload_n 1, 1, .null, 1),
  (10, .ireturn, 1, .null, 0)]
noncomputable def m_J_max : ab_M := (c_J_max, [(0, [0, 1])],
  [],
  [],
  [],
  [], 2, 1)
theorem one_J_max : ab_oneM m_J_max := fun _ h => absurd h List.not_mem_nil
noncomputable def f_J_max (l0 : Int32) (l1 : Int32) (st : ab_S) : Option ab_R := ab_lim m_J_max 0 [.int l0, .int l1] [] st
noncomputable def g_J_max : ab_G := fun as st k => match as with
  | [.int a0, .int a1] => ab_ri (f_J_max a0 a1 st) (fun x t => k [.int x] t)
  | _ => none
theorem o_J_max : ab_one g_J_max := by
  intro as st k r h
  unfold g_J_max at h ⊢
  split at h
  · exact one_ri h
  · cases h
set_option maxRecDepth 100000 in
theorem e_J_max_0 (l0 : Int32) (l1 : Int32) (st : ab_S) : f_J_max l0 l1 st =
    if l0 < l1
    then some (some (.int l1), st)
    else some (some (.int l0), st) := (lm_eq one_J_max 0 _ _ _).trans rfl
def c_X6_init : List (Nat × ab_I) := [(0, .aload_n 0, 1, .null, 0),
  (1, .invokespecial 3, 3, .null, 0),
  (4, .aload_n 0, 1, .null, 0),
  (5, .iload_n 1, 1, .null, 1),
  (6, .iconst 0, 1, (.int (0)), 0),
  (7, .invokestatic 9, 3, .null, 0),
  (10, .newarray .int, 2, .null, 0),
  (12, .putfield 15, 3, .null, 0),
  (15, .return_, 1, .null, 0)]
noncomputable def m_X6_init : ab_M := (c_X6_init, [(0, [0, 1])],
  [(15, 6, 0, 3)],
  [],
  [(3, 2, 1, g_obj), (9, 0, 2, g_J_max)],
  [], 2, 0)
theorem one_X6_init : ab_oneM m_X6_init := List.forall_mem_cons.mpr ⟨o_obj, List.forall_mem_cons.mpr ⟨o_J_max, fun _ h => absurd h List.not_mem_nil⟩⟩
noncomputable def f_X6_init (l0 : Nat) (l1 : Int32) (st : ab_S) : Option ab_R := ab_lim m_X6_init 0 [.ref l0, .int l1] [] st
noncomputable def g_X6_init : ab_G := fun as st k => match as with
  | [.ref a0, .int a1] => ab_rv (f_X6_init a0 a1 st) (fun t => k [] t)
  | _ => none
theorem o_X6_init : ab_one g_X6_init := by
  intro as st k r h
  unfold g_X6_init at h ⊢
  split at h
  · exact one_rv h
  · cases h
set_option maxRecDepth 100000 in
theorem e_X6_init_0 (l0 : Nat) (l1 : Int32) (st : ab_S) : f_X6_init l0 l1 st =
    ab_ri (f_J_max l1 (0 : Int32) st) fun x2 s1 =>
    ab_newn s1 x2 1 fun o3 s4 =>
    Option.bind (ab_pR s4 l0 6 0 o3) fun s5 =>
    some (none, s5) := (lm_eq one_X6_init 0 _ _ _).trans rfl
def c_X7_init : List (Nat × ab_I) := [(0, .aload_n 0, 1, .null, 0),
  (1, .invokespecial 3, 3, .null, 0),
  (4, .aload_n 0, 1, .null, 0),
  (5, .sipush (200), 3, (.int (200)), 0),
  (8, .newarray .int, 2, .null, 0),
  (10, .putfield 9, 3, .null, 0),
  (13, .aload_n 0, 1, .null, 0),
  (14, .sipush (2400), 3, (.int (2400)), 0),
  (17, .newarray .int, 2, .null, 0),
  (19, .putfield 15, 3, .null, 0),
  (22, .aload_n 0, 1, .null, 0),
  (23, .sipush (200), 3, (.int (200)), 0),
  (26, .newarray .long, 2, .null, 0),
  (28, .putfield 18, 3, .null, 0),
  (31, .return_, 1, .null, 0)]
noncomputable def m_X7_init : ab_M := (c_X7_init, [(0, [0])],
  [(9, 7, 0, 3), (15, 7, 1, 3), (18, 7, 2, 3)],
  [],
  [(3, 2, 1, g_obj)],
  [], 1, 0)
theorem one_X7_init : ab_oneM m_X7_init := List.forall_mem_cons.mpr ⟨o_obj, fun _ h => absurd h List.not_mem_nil⟩
noncomputable def f_X7_init (l0 : Nat) (st : ab_S) : Option ab_R := ab_lim m_X7_init 0 [.ref l0] [] st
noncomputable def g_X7_init : ab_G := fun as st k => match as with
  | [.ref a0] => ab_rv (f_X7_init a0 st) (fun t => k [] t)
  | _ => none
theorem o_X7_init : ab_one g_X7_init := by
  intro as st k r h
  unfold g_X7_init at h ⊢
  split at h
  · exact one_rv h
  · cases h
set_option maxRecDepth 100000 in
theorem e_X7_init_0 (l0 : Nat) (st : ab_S) : f_X7_init l0 st =
    ab_newn st (200 : Int32) 1 fun o1 s2 =>
    Option.bind (ab_pR s2 l0 7 0 o1) fun s3 =>
    ab_newn s3 (2400 : Int32) 1 fun o4 s5 =>
    Option.bind (ab_pR s5 l0 7 1 o4) fun s6 =>
    ab_newn s6 (200 : Int32) 2 fun o7 s8 =>
    Option.bind (ab_pR s8 l0 7 2 o7) fun s9 =>
    some (none, s9) := (lm_eq one_X7_init 0 _ _ _).trans rfl
def c_X1_clear : List (Nat × ab_I) := [(0, .aload_n 0, 1, .null, 0),
  (1, .lload_n 1, 1, .null, 1),
  (2, .putfield 41, 3, .null, 0),
  (5, .aload_n 0, 1, .null, 0),
  (6, .iload_n 3, 1, .null, 3),
  (7, .putfield 45, 3, .null, 0),
  (10, .aload_n 0, 1, .null, 0),
  (11, .iconst 0, 1, (.int (0)), 0),
  (12, .putfield 49, 3, .null, 0),
  (15, .aload_n 0, 1, .null, 0),
  (16, .iconst 0, 1, (.int (0)), 0),
  (17, .putfield 52, 3, .null, 0),
  (20, .aload_n 0, 1, .null, 0),
  (21, .iconst 0, 1, (.int (0)), 0),
  (22, .putfield 55, 3, .null, 0),
  (25, .aload_n 0, 1, .null, 0),
  (26, .getfield 9, 3, .null, 0),
  (29, .iconst 0, 1, (.int (0)), 0),
  (30, .iconst 0, 1, (.int (0)), 0),
  (31, .iastore, 1, .null, 0),
  (32, .return_, 1, .null, 0)]
noncomputable def m_X1_clear : ab_M := (c_X1_clear, [(0, [0, 1, 3])],
  [(9, 1, 0, 3), (41, 1, 6, 2), (45, 1, 10, 0), (49, 1, 7, 0), (52, 1, 8, 0), (55, 1, 9, 0)],
  [],
  [],
  [], 4, 0)
theorem one_X1_clear : ab_oneM m_X1_clear := fun _ h => absurd h List.not_mem_nil
noncomputable def f_X1_clear (l0 : Nat) (l1 : Int64) (l3 : Int32) (st : ab_S) : Option ab_R := ab_rc st l0 1 (ab_lim m_X1_clear 0 [.ref l0, .long l1, .int l3] [] st)
noncomputable def g_X1_clear : ab_G := fun as st k => match as with
  | [.ref a0, .long a1, .int a2] => ab_rv (f_X1_clear a0 a1 a2 st) (fun t => k [] t)
  | _ => none
theorem o_X1_clear : ab_one g_X1_clear := by
  intro as st k r h
  unfold g_X1_clear at h ⊢
  split at h
  · exact one_rv h
  · cases h
set_option maxRecDepth 100000 in
theorem e_X1_clear_0 (l0 : Nat) (l1 : Int64) (l3 : Int32) (st : ab_S) : f_X1_clear l0 l1 l3 st =
    ab_rc st l0 1 (
    Option.bind (ab_pJ st l0 1 6 l1) fun s1 =>
    Option.bind (ab_pI s1 l0 1 10 l3) fun s2 =>
    Option.bind (ab_pI s2 l0 1 7 (0 : Int32)) fun s3 =>
    Option.bind (ab_pI s3 l0 1 8 (0 : Int32)) fun s4 =>
    Option.bind (ab_pI s4 l0 1 9 (0 : Int32)) fun s5 =>
    Option.bind (ab_gR s5 l0 1 0) fun x6 =>
    Option.bind (ab_wI s5 x6 (0 : Int32) (0 : Int32)) fun s7 =>
    some (none, s7)) := congrArg (ab_rc st l0 1) ((lm_eq one_X1_clear 0 _ _ _).trans rfl)
def c_X1_putState : List (Nat × ab_I) := [(0, .aload_n 0, 1, .null, 0),
  (1, .getfield 49, 3, .null, 0),
  (4, .sipush (2401), 3, (.int (2401)), 0),
  (7, .if_icmp .lt (5), 3, .null, 12),
  (10, .iconst 0, 1, (.int (0)), 0),
  (11, .ireturn, 1, .null, 0),
  (12, .aload_n 0, 1, .null, 0),
  (13, .getfield 15, 3, .null, 0),
  (16, .aload_n 0, 1, .null, 0),
  (17, .getfield 49, 3, .null, 0),
  (20, .lload_n 1, 1, .null, 1),
  (21, .lastore, 1, .null, 0),
  (22, .aload_n 0, 1, .null, 0),
  (23, .getfield 19, 3, .null, 0),
  (26, .aload_n 0, 1, .null, 0),
  (27, .getfield 49, 3, .null, 0),
  (30, .iload_n 3, 1, .null, 3),
  (31, .iastore, 1, .null, 0),
  (32, .aload_n 0, 1, .null, 0),
  (33, .dup, 1, .null, 0),
  (34, .getfield 55, 3, .null, 0),
  (37, .lload_n 1, 1, .null, 1),
  (38, .ldc2_w 35, 3, (.long (-1)), 0),
  (41, .lcmp, 1, .null, 0),
  (42, .ifCond .ne (7), 3, .null, 49),
  (45, .iconst 0, 1, (.int (0)), 0),
  (46, .goto (4), 3, .null, 50),
  (49, .iconst 1, 1, (.int (1)), 0),
  (50, .iadd, 1, .null, 0),
  (51, .putfield 55, 3, .null, 0),
  (54, .aload_n 0, 1, .null, 0),
  (55, .dup, 1, .null, 0),
  (56, .getfield 49, 3, .null, 0),
  (59, .iconst 1, 1, (.int (1)), 0),
  (60, .iadd, 1, .null, 0),
  (61, .putfield 49, 3, .null, 0),
  (64, .aload_n 0, 1, .null, 0),
  (65, .getfield 9, 3, .null, 0),
  (68, .aload_n 0, 1, .null, 0),
  (69, .getfield 49, 3, .null, 0),
  (72, .aload_n 0, 1, .null, 0),
  (73, .getfield 52, 3, .null, 0),
  (76, .iastore, 1, .null, 0),
  (77, .iconst 1, 1, (.int (1)), 0),
  (78, .ireturn, 1, .null, 0)]
noncomputable def m_X1_putState : ab_M := (c_X1_putState, [(0, [0, 1, 3]), (50, [0])],
  [(9, 1, 0, 3), (15, 1, 1, 3), (19, 1, 2, 3), (49, 1, 7, 0), (52, 1, 8, 0), (55, 1, 9, 0)],
  [],
  [],
  [], 4, 2)
theorem one_X1_putState : ab_oneM m_X1_putState := fun _ h => absurd h List.not_mem_nil
noncomputable def f_X1_putState (l0 : Nat) (l1 : Int64) (l3 : Int32) (st : ab_S) : Option ab_R := ab_rc st l0 1 (ab_lim m_X1_putState 0 [.ref l0, .long l1, .int l3] [] st)
noncomputable def L_X1_putState_50 (l0 : Nat) (t0 : Nat) (t1 : Int32) (t2 : Int32) (st : ab_S) : Option ab_R := ab_lim m_X1_putState 50 [.ref l0] [.int t2, .int t1, .ref t0] st
noncomputable def g_X1_putState : ab_G := fun as st k => match as with
  | [.ref a0, .long a1, .int a2] => ab_ri (f_X1_putState a0 a1 a2 st) (fun x t => k [.int x] t)
  | _ => none
theorem o_X1_putState : ab_one g_X1_putState := by
  intro as st k r h
  unfold g_X1_putState at h ⊢
  split at h
  · exact one_ri h
  · cases h
set_option maxRecDepth 100000 in
theorem e_X1_putState_0 (l0 : Nat) (l1 : Int64) (l3 : Int32) (st : ab_S) : f_X1_putState l0 l1 l3 st =
    ab_rc st l0 1 (
    Option.bind (ab_gI st l0 1 7) fun x1 =>
    if x1 < (2401 : Int32)
    then Option.bind (ab_gR st l0 1 1) fun x2 =>
      Option.bind (ab_gI st l0 1 7) fun x3 =>
      Option.bind (ab_wJ st x2 x3 l1) fun s4 =>
      Option.bind (ab_gR s4 l0 1 2) fun x5 =>
      Option.bind (ab_gI s4 l0 1 7) fun x6 =>
      Option.bind (ab_wI s4 x5 x6 l3) fun s7 =>
      Option.bind (ab_gI s7 l0 1 9) fun x8 =>
      if (lg_cmp l1 (-1 : Int64)) = 0
      then L_X1_putState_50 l0 l0 x8 (0 : Int32) s7
      else L_X1_putState_50 l0 l0 x8 (1 : Int32) s7
    else ab_z (0 : Int32) (some (some (.int (0 : Int32)), st))) := congrArg (ab_rc st l0 1) ((lm_eq one_X1_putState 0 _ _ _).trans rfl)
set_option maxRecDepth 100000 in
theorem e_X1_putState_50 (l0 : Nat) (t0 : Nat) (t1 : Int32) (t2 : Int32) (st : ab_S) : L_X1_putState_50 l0 t0 t1 t2 st =
    Option.bind (ab_pI st t0 1 9 (t1 + t2)) fun s1 =>
    Option.bind (ab_gI s1 l0 1 7) fun x2 =>
    Option.bind (ab_pI s1 l0 1 7 (x2 + (1 : Int32))) fun s3 =>
    Option.bind (ab_gR s3 l0 1 0) fun x4 =>
    Option.bind (ab_gI s3 l0 1 7) fun x5 =>
    Option.bind (ab_gI s3 l0 1 8) fun x6 =>
    Option.bind (ab_wI s3 x4 x5 x6) fun s7 =>
    ab_z (1 : Int32) (some (some (.int (1 : Int32)), s7)) := (lm_eq one_X1_putState 50 _ _ _).trans rfl
def c_X1_init : List (Nat × ab_I) := [(0, .aload_n 0, 1, .null, 0),
  (1, .invokespecial 3, 3, .null, 0),
  (4, .aload_n 0, 1, .null, 0),
  (5, .sipush (2402), 3, (.int (2402)), 0),
  (8, .newarray .int, 2, .null, 0),
  (10, .putfield 9, 3, .null, 0),
  (13, .aload_n 0, 1, .null, 0),
  (14, .sipush (2401), 3, (.int (2401)), 0),
  (17, .newarray .long, 2, .null, 0),
  (19, .putfield 15, 3, .null, 0),
  (22, .aload_n 0, 1, .null, 0),
  (23, .sipush (2401), 3, (.int (2401)), 0),
  (26, .newarray .int, 2, .null, 0),
  (28, .putfield 19, 3, .null, 0),
  (31, .aload_n 0, 1, .null, 0),
  (32, .sipush (2400), 3, (.int (2400)), 0),
  (35, .newarray .int, 2, .null, 0),
  (37, .putfield 22, 3, .null, 0),
  (40, .aload_n 0, 1, .null, 0),
  (41, .sipush (2400), 3, (.int (2400)), 0),
  (44, .newarray .int, 2, .null, 0),
  (46, .putfield 25, 3, .null, 0),
  (49, .aload_n 0, 1, .null, 0),
  (50, .sipush (2400), 3, (.int (2400)), 0),
  (53, .newarray .long, 2, .null, 0),
  (55, .putfield 28, 3, .null, 0),
  (58, .aload_n 0, 1, .null, 0),
  (59, .lconst 0, 1, (.long (0)), 0),
  (60, .iconst 1, 1, (.int (1)), 0),
  (61, .invokevirtual 31, 3, .null, 0),
  (64, .aload_n 0, 1, .null, 0),
  (65, .ldc2_w 35, 3, (.long (-1)), 0),
  (68, .iconst 0, 1, (.int (0)), 0),
  (69, .invokevirtual 37, 3, .null, 0),
  (72, .pop, 1, .null, 0),
  (73, .return_, 1, .null, 0)]
noncomputable def m_X1_init : ab_M := (c_X1_init, [(0, [0])],
  [(9, 1, 0, 3), (15, 1, 1, 3), (19, 1, 2, 3), (22, 1, 3, 3), (25, 1, 4, 3), (28, 1, 5, 3)],
  [],
  [(3, 2, 1, g_obj), (31, 1, 3, g_X1_clear), (37, 1, 3, g_X1_putState)],
  [], 1, 0)
theorem one_X1_init : ab_oneM m_X1_init := List.forall_mem_cons.mpr ⟨o_obj, List.forall_mem_cons.mpr ⟨o_X1_clear, List.forall_mem_cons.mpr ⟨o_X1_putState, fun _ h => absurd h List.not_mem_nil⟩⟩⟩
noncomputable def f_X1_init (l0 : Nat) (st : ab_S) : Option ab_R := ab_lim m_X1_init 0 [.ref l0] [] st
noncomputable def g_X1_init : ab_G := fun as st k => match as with
  | [.ref a0] => ab_rv (f_X1_init a0 st) (fun t => k [] t)
  | _ => none
theorem o_X1_init : ab_one g_X1_init := by
  intro as st k r h
  unfold g_X1_init at h ⊢
  split at h
  · exact one_rv h
  · cases h
set_option maxRecDepth 100000 in
theorem e_X1_init_0 (l0 : Nat) (st : ab_S) : f_X1_init l0 st =
    ab_newn st (2402 : Int32) 1 fun o1 s2 =>
    Option.bind (ab_pR s2 l0 1 0 o1) fun s3 =>
    ab_newn s3 (2401 : Int32) 2 fun o4 s5 =>
    Option.bind (ab_pR s5 l0 1 1 o4) fun s6 =>
    ab_newn s6 (2401 : Int32) 1 fun o7 s8 =>
    Option.bind (ab_pR s8 l0 1 2 o7) fun s9 =>
    ab_newn s9 (2400 : Int32) 1 fun o10 s11 =>
    Option.bind (ab_pR s11 l0 1 3 o10) fun s12 =>
    ab_newn s12 (2400 : Int32) 1 fun o13 s14 =>
    Option.bind (ab_pR s14 l0 1 4 o13) fun s15 =>
    ab_newn s15 (2400 : Int32) 2 fun o16 s17 =>
    Option.bind (ab_pR s17 l0 1 5 o16) fun s18 =>
    ab_rv (f_X1_clear l0 (0 : Int64) (1 : Int32) s18) fun s19 =>
    ab_ri (f_X1_putState l0 (-1 : Int64) (0 : Int32) s19) fun x21 s20 =>
    some (none, s20) := (lm_eq one_X1_init 0 _ _ _).trans rfl
def c_X0_init : List (Nat × ab_I) := [(0, .aload_n 0, 1, .null, 0),
  (1, .invokespecial 1, 3, .null, 0),
  (4, .aload_n 0, 1, .null, 0),
  (5, .new 7, 3, .null, 0),
  (8, .dup, 1, .null, 0),
  (9, .invokespecial 9, 3, .null, 0),
  (12, .putfield 10, 3, .null, 0),
  (15, .aload_n 0, 1, .null, 0),
  (16, .new 16, 3, .null, 0),
  (19, .dup, 1, .null, 0),
  (20, .invokespecial 18, 3, .null, 0),
  (23, .putfield 19, 3, .null, 0),
  (26, .return_, 1, .null, 0)]
noncomputable def m_X0_init : ab_M := (c_X0_init, [(0, [0])],
  [(10, 0, 0, 3), (19, 0, 1, 3)],
  [(7, 7), (16, 1)],
  [(1, 2, 1, g_obj), (9, 2, 1, g_X7_init), (18, 2, 1, g_X1_init)],
  [], 1, 0)
theorem one_X0_init : ab_oneM m_X0_init := List.forall_mem_cons.mpr ⟨o_obj, List.forall_mem_cons.mpr ⟨o_X7_init, List.forall_mem_cons.mpr ⟨o_X1_init, fun _ h => absurd h List.not_mem_nil⟩⟩⟩
noncomputable def f_X0_init (l0 : Nat) (st : ab_S) : Option ab_R := ab_lim m_X0_init 0 [.ref l0] [] st
noncomputable def g_X0_init : ab_G := fun as st k => match as with
  | [.ref a0] => ab_rv (f_X0_init a0 st) (fun t => k [] t)
  | _ => none
theorem o_X0_init : ab_one g_X0_init := by
  intro as st k r h
  unfold g_X0_init at h ⊢
  split at h
  · exact one_rv h
  · cases h
set_option maxRecDepth 100000 in
theorem e_X0_init_0 (l0 : Nat) (st : ab_S) : f_X0_init l0 st =
    ab_newo st 7 fun o1 s2 =>
    ab_rv (f_X7_init o1 s2) fun s3 =>
    Option.bind (ab_pR s3 l0 0 0 o1) fun s4 =>
    ab_newo s4 1 fun o5 s6 =>
    ab_rv (f_X1_init o5 s6) fun s7 =>
    Option.bind (ab_pR s7 l0 0 1 o5) fun s8 =>
    some (none, s8) := (lm_eq one_X0_init 0 _ _ _).trans rfl
def c_X9_init : List (Nat × ab_I) := [(0, .aload_n 0, 1, .null, 0),
  (1, .invokespecial 3, 3, .null, 0),
  (4, .aload_n 0, 1, .null, 0),
  (5, .iconst (-1), 1, (.int (-1)), 0),
  (6, .putfield 9, 3, .null, 0),
  (9, .return_, 1, .null, 0)]
noncomputable def m_X9_init : ab_M := (c_X9_init, [(0, [0])],
  [(9, 9, 0, 0)],
  [],
  [(3, 2, 1, g_obj)],
  [], 1, 0)
theorem one_X9_init : ab_oneM m_X9_init := List.forall_mem_cons.mpr ⟨o_obj, fun _ h => absurd h List.not_mem_nil⟩
noncomputable def f_X9_init (l0 : Nat) (st : ab_S) : Option ab_R := ab_lim m_X9_init 0 [.ref l0] [] st
noncomputable def g_X9_init : ab_G := fun as st k => match as with
  | [.ref a0] => ab_rv (f_X9_init a0 st) (fun t => k [] t)
  | _ => none
theorem o_X9_init : ab_one g_X9_init := by
  intro as st k r h
  unfold g_X9_init at h ⊢
  split at h
  · exact one_rv h
  · cases h
set_option maxRecDepth 100000 in
theorem e_X9_init_0 (l0 : Nat) (st : ab_S) : f_X9_init l0 st =
    Option.bind (ab_pI st l0 9 0 (-1 : Int32)) fun s1 =>
    some (none, s1) := (lm_eq one_X9_init 0 _ _ _).trans rfl
def c_X10_init : List (Nat × ab_I) := [(0, .aload_n 0, 1, .null, 0),
  (1, .invokespecial 3, 3, .null, 0),
  (4, .aload_n 0, 1, .null, 0),
  (5, .iconst 4, 1, (.int (4)), 0),
  (6, .anewarray 9, 3, .null, 0),
  (9, .putfield 11, 3, .null, 0),
  (12, .aload_n 0, 1, .null, 0),
  (13, .iconst 4, 1, (.int (4)), 0),
  (14, .newarray .int, 2, .null, 0),
  (16, .putfield 15, 3, .null, 0),
  (19, .aload_n 0, 1, .null, 0),
  (20, .iconst 4, 1, (.int (4)), 0),
  (21, .anewarray 19, 3, .null, 0),
  (24, .putfield 21, 3, .null, 0),
  (27, .aload_n 0, 1, .null, 0),
  (28, .new 25, 3, .null, 0),
  (31, .dup, 1, .null, 0),
  (32, .invokespecial 27, 3, .null, 0),
  (35, .putfield 28, 3, .null, 0),
  (38, .aload_n 0, 1, .null, 0),
  (39, .new 32, 3, .null, 0),
  (42, .dup, 1, .null, 0),
  (43, .invokespecial 34, 3, .null, 0),
  (46, .putfield 35, 3, .null, 0),
  (49, .aload_n 0, 1, .null, 0),
  (50, .new 39, 3, .null, 0),
  (53, .dup, 1, .null, 0),
  (54, .invokespecial 41, 3, .null, 0),
  (57, .putfield 42, 3, .null, 0),
  (60, .aload_n 0, 1, .null, 0),
  (61, .new 46, 3, .null, 0),
  (64, .dup, 1, .null, 0),
  (65, .invokespecial 48, 3, .null, 0),
  (68, .putfield 49, 3, .null, 0),
  (71, .aload_n 0, 1, .null, 0),
  (72, .new 53, 3, .null, 0),
  (75, .dup, 1, .null, 0),
  (76, .ldc 55, 2, (.int (43219)), 0),
  (78, .invokespecial 56, 3, .null, 0),
  (81, .putfield 59, 3, .null, 0),
  (84, .aload_n 0, 1, .null, 0),
  (85, .new 53, 3, .null, 0),
  (88, .dup, 1, .null, 0),
  (89, .sipush (4000), 3, (.int (4000)), 0),
  (92, .invokespecial 56, 3, .null, 0),
  (95, .putfield 63, 3, .null, 0),
  (98, .aload_n 0, 1, .null, 0),
  (99, .sipush (200), 3, (.int (200)), 0),
  (102, .newarray .int, 2, .null, 0),
  (104, .putfield 66, 3, .null, 0),
  (107, .aload_n 0, 1, .null, 0),
  (108, .iconst (-1), 1, (.int (-1)), 0),
  (109, .putfield 69, 3, .null, 0),
  (112, .aload_n 0, 1, .null, 0),
  (113, .new 53, 3, .null, 0),
  (116, .dup, 1, .null, 0),
  (117, .sipush (4000), 3, (.int (4000)), 0),
  (120, .invokespecial 56, 3, .null, 0),
  (123, .putfield 73, 3, .null, 0),
  (126, .aload_n 0, 1, .null, 0),
  (127, .new 53, 3, .null, 0),
  (130, .dup, 1, .null, 0),
  (131, .sipush (4000), 3, (.int (4000)), 0),
  (134, .invokespecial 56, 3, .null, 0),
  (137, .putfield 76, 3, .null, 0),
  (140, .aload_n 0, 1, .null, 0),
  (141, .new 9, 3, .null, 0),
  (144, .dup, 1, .null, 0),
  (145, .invokespecial 79, 3, .null, 0),
  (148, .putfield 80, 3, .null, 0),
  (151, .iconst 0, 1, (.int (0)), 0),
  (152, .istore_n 1, 1, .null, 1),
  (153, .iload_n 1, 1, .null, 1),
  (154, .iconst 4, 1, (.int (4)), 0),
  (155, .if_icmp .ge (22), 3, .null, 177),
  (158, .aload_n 0, 1, .null, 0),
  (159, .getfield 11, 3, .null, 0),
  (162, .iload_n 1, 1, .null, 1),
  (163, .new 9, 3, .null, 0),
  (166, .dup, 1, .null, 0),
  (167, .invokespecial 79, 3, .null, 0),
  (170, .aastore, 1, .null, 0),
  (171, .iinc 1 (1), 3, (.int (1)), 1),
  (174, .goto (-21), 3, .null, 153),
  (177, .iconst 0, 1, (.int (0)), 0),
  (178, .istore_n 1, 1, .null, 1),
  (179, .iload_n 1, 1, .null, 1),
  (180, .iconst 4, 1, (.int (4)), 0),
  (181, .if_icmp .ge (22), 3, .null, 203),
  (184, .aload_n 0, 1, .null, 0),
  (185, .getfield 21, 3, .null, 0),
  (188, .iload_n 1, 1, .null, 1),
  (189, .new 19, 3, .null, 0),
  (192, .dup, 1, .null, 0),
  (193, .invokespecial 84, 3, .null, 0),
  (196, .aastore, 1, .null, 0),
  (197, .iinc 1 (1), 3, (.int (1)), 1),
  (200, .goto (-21), 3, .null, 179),
  (203, .return_, 1, .null, 0)]
noncomputable def m_X10_init : ab_M := (c_X10_init, [(0, [0]), (153, [0, 1]), (179, [0, 1])],
  [(11, 10, 0, 3), (15, 10, 1, 3), (21, 10, 2, 3), (28, 10, 3, 3), (35, 10, 4, 3), (42, 10, 5, 3), (49, 10, 6, 3), (59, 10, 7, 3), (63, 10, 8, 3), (66, 10, 9, 3), (69, 10, 11, 0), (73, 10, 12, 3), (76, 10, 13, 3), (80, 10, 14, 3)],
  [(9, 0), (19, 9), (25, 8), (32, 3), (39, 5), (46, 2), (53, 6)],
  [(3, 2, 1, g_obj), (27, 2, 1, g_X8_init), (34, 2, 1, g_X3_init), (41, 2, 1, g_X5_init), (48, 2, 1, g_X2_init), (56, 2, 2, g_X6_init), (79, 2, 1, g_X0_init), (84, 2, 1, g_X9_init)],
  [], 2, 0)
theorem one_X10_init : ab_oneM m_X10_init := List.forall_mem_cons.mpr ⟨o_obj, List.forall_mem_cons.mpr ⟨o_X8_init, List.forall_mem_cons.mpr ⟨o_X3_init, List.forall_mem_cons.mpr ⟨o_X5_init, List.forall_mem_cons.mpr ⟨o_X2_init, List.forall_mem_cons.mpr ⟨o_X6_init, List.forall_mem_cons.mpr ⟨o_X0_init, List.forall_mem_cons.mpr ⟨o_X9_init, fun _ h => absurd h List.not_mem_nil⟩⟩⟩⟩⟩⟩⟩⟩
noncomputable def f_X10_init (l0 : Nat) (st : ab_S) : Option ab_R := ab_lim m_X10_init 0 [.ref l0] [] st
noncomputable def L_X10_init_153 (l0 : Nat) (l1 : Int32) (st : ab_S) : Option ab_R := ab_lim m_X10_init 153 [.ref l0, .int l1] [] st
noncomputable def L_X10_init_179 (l0 : Nat) (l1 : Int32) (st : ab_S) : Option ab_R := ab_lim m_X10_init 179 [.ref l0, .int l1] [] st
noncomputable def g_X10_init : ab_G := fun as st k => match as with
  | [.ref a0] => ab_rv (f_X10_init a0 st) (fun t => k [] t)
  | _ => none
theorem o_X10_init : ab_one g_X10_init := by
  intro as st k r h
  unfold g_X10_init at h ⊢
  split at h
  · exact one_rv h
  · cases h
set_option maxRecDepth 100000 in
theorem e_X10_init_0 (l0 : Nat) (st : ab_S) : f_X10_init l0 st =
    ab_newn st (4 : Int32) 8 fun o1 s2 =>
    Option.bind (ab_pR s2 l0 10 0 o1) fun s3 =>
    ab_newn s3 (4 : Int32) 1 fun o4 s5 =>
    Option.bind (ab_pR s5 l0 10 1 o4) fun s6 =>
    ab_newn s6 (4 : Int32) 17 fun o7 s8 =>
    Option.bind (ab_pR s8 l0 10 2 o7) fun s9 =>
    ab_newo s9 8 fun o10 s11 =>
    ab_rv (f_X8_init o10 s11) fun s12 =>
    Option.bind (ab_pR s12 l0 10 3 o10) fun s13 =>
    ab_newo s13 3 fun o14 s15 =>
    ab_rv (f_X3_init o14 s15) fun s16 =>
    Option.bind (ab_pR s16 l0 10 4 o14) fun s17 =>
    ab_newo s17 5 fun o18 s19 =>
    ab_rv (f_X5_init o18 s19) fun s20 =>
    Option.bind (ab_pR s20 l0 10 5 o18) fun s21 =>
    ab_newo s21 2 fun o22 s23 =>
    ab_rv (f_X2_init o22 s23) fun s24 =>
    Option.bind (ab_pR s24 l0 10 6 o22) fun s25 =>
    ab_newo s25 6 fun o26 s27 =>
    ab_rv (f_X6_init o26 (43219 : Int32) s27) fun s28 =>
    Option.bind (ab_pR s28 l0 10 7 o26) fun s29 =>
    ab_newo s29 6 fun o30 s31 =>
    ab_rv (f_X6_init o30 (4000 : Int32) s31) fun s32 =>
    Option.bind (ab_pR s32 l0 10 8 o30) fun s33 =>
    ab_newn s33 (200 : Int32) 1 fun o34 s35 =>
    Option.bind (ab_pR s35 l0 10 9 o34) fun s36 =>
    Option.bind (ab_pI s36 l0 10 11 (-1 : Int32)) fun s37 =>
    ab_newo s37 6 fun o38 s39 =>
    ab_rv (f_X6_init o38 (4000 : Int32) s39) fun s40 =>
    Option.bind (ab_pR s40 l0 10 12 o38) fun s41 =>
    ab_newo s41 6 fun o42 s43 =>
    ab_rv (f_X6_init o42 (4000 : Int32) s43) fun s44 =>
    Option.bind (ab_pR s44 l0 10 13 o42) fun s45 =>
    ab_newo s45 0 fun o46 s47 =>
    ab_rv (f_X0_init o46 s47) fun s48 =>
    Option.bind (ab_pR s48 l0 10 14 o46) fun s49 =>
    L_X10_init_153 l0 (0 : Int32) s49 := (lm_eq one_X10_init 0 _ _ _).trans rfl
set_option maxRecDepth 100000 in
theorem e_X10_init_153 (l0 : Nat) (l1 : Int32) (st : ab_S) : L_X10_init_153 l0 l1 st =
    if (4 : Int32) ≤ l1
    then L_X10_init_179 l0 (0 : Int32) st
    else Option.bind (ab_gR st l0 10 0) fun x1 =>
      ab_newo st 0 fun o2 s3 =>
      ab_rv (f_X0_init o2 s3) fun s4 =>
      Option.bind (ab_wR s4 x1 l1 o2) fun s5 =>
      L_X10_init_153 l0 (l1 + (1 : Int32)) s5 := (lm_eq one_X10_init 153 _ _ _).trans rfl
set_option maxRecDepth 100000 in
theorem e_X10_init_179 (l0 : Nat) (l1 : Int32) (st : ab_S) : L_X10_init_179 l0 l1 st =
    if (4 : Int32) ≤ l1
    then some (none, st)
    else Option.bind (ab_gR st l0 10 2) fun x1 =>
      ab_newo st 9 fun o2 s3 =>
      ab_rv (f_X9_init o2 s3) fun s4 =>
      Option.bind (ab_wR s4 x1 l1 o2) fun s5 =>
      L_X10_init_179 l0 (l1 + (1 : Int32)) s5 := (lm_eq one_X10_init 179 _ _ _).trans rfl
def c_X11_init : List (Nat × ab_I) := [(0, .aload_n 0, 1, .null, 0),
  (1, .invokespecial 1, 3, .null, 0),
  (4, .aload_n 0, 1, .null, 0),
  (5, .sipush (4000), 3, (.int (4000)), 0),
  (8, .newarray .byte, 2, .null, 0),
  (10, .putfield 7, 3, .null, 0),
  (13, .aload_n 0, 1, .null, 0),
  (14, .sipush (14400), 3, (.int (14400)), 0),
  (17, .newarray .byte, 2, .null, 0),
  (19, .putfield 13, 3, .null, 0),
  (22, .aload_n 0, 1, .null, 0),
  (23, .sipush (1200), 3, (.int (1200)), 0),
  (26, .newarray .int, 2, .null, 0),
  (28, .putfield 16, 3, .null, 0),
  (31, .aload_n 0, 1, .null, 0),
  (32, .sipush (1200), 3, (.int (1200)), 0),
  (35, .newarray .long, 2, .null, 0),
  (37, .putfield 20, 3, .null, 0),
  (40, .aload_n 0, 1, .null, 0),
  (41, .bipush (6), 2, (.int (6)), 0),
  (43, .newarray .int, 2, .null, 0),
  (45, .putfield 24, 3, .null, 0),
  (48, .aload_n 0, 1, .null, 0),
  (49, .iconst 4, 1, (.int (4)), 0),
  (50, .newarray .boolean, 2, .null, 0),
  (52, .putfield 27, 3, .null, 0),
  (55, .aload_n 0, 1, .null, 0),
  (56, .iconst 4, 1, (.int (4)), 0),
  (57, .newarray .int, 2, .null, 0),
  (59, .putfield 31, 3, .null, 0),
  (62, .aload_n 0, 1, .null, 0),
  (63, .sipush (200), 3, (.int (200)), 0),
  (66, .newarray .int, 2, .null, 0),
  (68, .putfield 34, 3, .null, 0),
  (71, .aload_n 0, 1, .null, 0),
  (72, .iconst (-1), 1, (.int (-1)), 0),
  (73, .putfield 37, 3, .null, 0),
  (76, .aload_n 0, 1, .null, 0),
  (77, .ldc 41, 2, (.int (50000)), 0),
  (79, .newarray .byte, 2, .null, 0),
  (81, .putfield 42, 3, .null, 0),
  (84, .aload_n 0, 1, .null, 0),
  (85, .iconst 4, 1, (.int (4)), 0),
  (86, .newarray .int, 2, .null, 0),
  (88, .putfield 45, 3, .null, 0),
  (91, .aload_n 0, 1, .null, 0),
  (92, .iconst 4, 1, (.int (4)), 0),
  (93, .newarray .int, 2, .null, 0),
  (95, .putfield 48, 3, .null, 0),
  (98, .aload_n 0, 1, .null, 0),
  (99, .iconst 4, 1, (.int (4)), 0),
  (100, .newarray .int, 2, .null, 0),
  (102, .putfield 51, 3, .null, 0),
  (105, .aload_n 0, 1, .null, 0),
  (106, .iconst 4, 1, (.int (4)), 0),
  (107, .newarray .boolean, 2, .null, 0),
  (109, .putfield 54, 3, .null, 0),
  (112, .aload_n 0, 1, .null, 0),
  (113, .sipush (2401), 3, (.int (2401)), 0),
  (116, .newarray .int, 2, .null, 0),
  (118, .putfield 57, 3, .null, 0),
  (121, .aload_n 0, 1, .null, 0),
  (122, .sipush (2401), 3, (.int (2401)), 0),
  (125, .newarray .int, 2, .null, 0),
  (127, .putfield 60, 3, .null, 0),
  (130, .aload_n 0, 1, .null, 0),
  (131, .sipush (2401), 3, (.int (2401)), 0),
  (134, .newarray .int, 2, .null, 0),
  (136, .putfield 63, 3, .null, 0),
  (139, .aload_n 0, 1, .null, 0),
  (140, .sipush (2401), 3, (.int (2401)), 0),
  (143, .newarray .long, 2, .null, 0),
  (145, .putfield 66, 3, .null, 0),
  (148, .aload_n 0, 1, .null, 0),
  (149, .sipush (2401), 3, (.int (2401)), 0),
  (152, .newarray .long, 2, .null, 0),
  (154, .putfield 69, 3, .null, 0),
  (157, .aload_n 0, 1, .null, 0),
  (158, .sipush (2401), 3, (.int (2401)), 0),
  (161, .newarray .int, 2, .null, 0),
  (163, .putfield 72, 3, .null, 0),
  (166, .aload_n 0, 1, .null, 0),
  (167, .sipush (2401), 3, (.int (2401)), 0),
  (170, .newarray .int, 2, .null, 0),
  (172, .putfield 75, 3, .null, 0),
  (175, .aload_n 0, 1, .null, 0),
  (176, .sipush (400), 3, (.int (400)), 0),
  (179, .newarray .int, 2, .null, 0),
  (181, .putfield 78, 3, .null, 0),
  (184, .aload_n 0, 1, .null, 0),
  (185, .sipush (400), 3, (.int (400)), 0),
  (188, .newarray .int, 2, .null, 0),
  (190, .putfield 81, 3, .null, 0),
  (193, .aload_n 0, 1, .null, 0),
  (194, .sipush (400), 3, (.int (400)), 0),
  (197, .newarray .int, 2, .null, 0),
  (199, .putfield 84, 3, .null, 0),
  (202, .aload_n 0, 1, .null, 0),
  (203, .sipush (10240), 3, (.int (10240)), 0),
  (206, .newarray .boolean, 2, .null, 0),
  (208, .putfield 87, 3, .null, 0),
  (211, .aload_n 0, 1, .null, 0),
  (212, .bipush (6), 2, (.int (6)), 0),
  (214, .newarray .int, 2, .null, 0),
  (216, .putfield 90, 3, .null, 0),
  (219, .aload_n 0, 1, .null, 0),
  (220, .bipush (6), 2, (.int (6)), 0),
  (222, .newarray .int, 2, .null, 0),
  (224, .putfield 93, 3, .null, 0),
  (227, .aload_n 0, 1, .null, 0),
  (228, .bipush (6), 2, (.int (6)), 0),
  (230, .newarray .int, 2, .null, 0),
  (232, .putfield 96, 3, .null, 0),
  (235, .aload_n 0, 1, .null, 0),
  (236, .bipush (6), 2, (.int (6)), 0),
  (238, .newarray .int, 2, .null, 0),
  (240, .putfield 99, 3, .null, 0),
  (243, .aload_n 0, 1, .null, 0),
  (244, .sipush (400), 3, (.int (400)), 0),
  (247, .newarray .boolean, 2, .null, 0),
  (249, .putfield 102, 3, .null, 0),
  (252, .aload_n 0, 1, .null, 0),
  (253, .sipush (400), 3, (.int (400)), 0),
  (256, .newarray .boolean, 2, .null, 0),
  (258, .putfield 105, 3, .null, 0),
  (261, .aload_n 0, 1, .null, 0),
  (262, .sipush (364), 3, (.int (364)), 0),
  (265, .newarray .boolean, 2, .null, 0),
  (267, .putfield 108, 3, .null, 0),
  (270, .aload_n 0, 1, .null, 0),
  (271, .sipush (196), 3, (.int (196)), 0),
  (274, .newarray .int, 2, .null, 0),
  (276, .putfield 111, 3, .null, 0),
  (279, .aload_n 0, 1, .null, 0),
  (280, .ldc 41, 2, (.int (50000)), 0),
  (282, .newarray .byte, 2, .null, 0),
  (284, .putfield 114, 3, .null, 0),
  (287, .aload_n 0, 1, .null, 0),
  (288, .sipush (2402), 3, (.int (2402)), 0),
  (291, .newarray .long, 2, .null, 0),
  (293, .putfield 117, 3, .null, 0),
  (296, .aload_n 0, 1, .null, 0),
  (297, .sipush (2403), 3, (.int (2403)), 0),
  (300, .newarray .int, 2, .null, 0),
  (302, .putfield 120, 3, .null, 0),
  (305, .aload_n 0, 1, .null, 0),
  (306, .sipush (4000), 3, (.int (4000)), 0),
  (309, .newarray .int, 2, .null, 0),
  (311, .putfield 123, 3, .null, 0),
  (314, .aload_n 0, 1, .null, 0),
  (315, .sipush (4000), 3, (.int (4000)), 0),
  (318, .newarray .int, 2, .null, 0),
  (320, .putfield 126, 3, .null, 0),
  (323, .aload_n 0, 1, .null, 0),
  (324, .sipush (4000), 3, (.int (4000)), 0),
  (327, .newarray .long, 2, .null, 0),
  (329, .putfield 129, 3, .null, 0),
  (332, .aload_n 0, 1, .null, 0),
  (333, .bipush (13), 2, (.int (13)), 0),
  (335, .newarray .int, 2, .null, 0),
  (337, .putfield 132, 3, .null, 0),
  (340, .aload_n 0, 1, .null, 0),
  (341, .bipush (13), 2, (.int (13)), 0),
  (343, .newarray .int, 2, .null, 0),
  (345, .putfield 135, 3, .null, 0),
  (348, .aload_n 0, 1, .null, 0),
  (349, .bipush (13), 2, (.int (13)), 0),
  (351, .newarray .long, 2, .null, 0),
  (353, .putfield 138, 3, .null, 0),
  (356, .aload_n 0, 1, .null, 0),
  (357, .bipush (12), 2, (.int (12)), 0),
  (359, .newarray .byte, 2, .null, 0),
  (361, .putfield 141, 3, .null, 0),
  (364, .iconst 0, 1, (.int (0)), 0),
  (365, .istore_n 1, 1, .null, 1),
  (366, .iload_n 1, 1, .null, 1),
  (367, .iconst 4, 1, (.int (4)), 0),
  (368, .if_icmp .ge (16), 3, .null, 384),
  (371, .aload_n 0, 1, .null, 0),
  (372, .getfield 45, 3, .null, 0),
  (375, .iload_n 1, 1, .null, 1),
  (376, .iconst (-1), 1, (.int (-1)), 0),
  (377, .iastore, 1, .null, 0),
  (378, .iinc 1 (1), 3, (.int (1)), 1),
  (381, .goto (-15), 3, .null, 366),
  (384, .return_, 1, .null, 0)]
noncomputable def m_X11_init : ab_M := (c_X11_init, [(0, [0]), (366, [0, 1])],
  [(7, 11, 0, 3), (13, 11, 2, 3), (16, 11, 3, 3), (20, 11, 4, 3), (24, 11, 5, 3), (27, 11, 6, 3), (31, 11, 7, 3), (34, 11, 8, 3), (37, 11, 10, 0), (42, 11, 11, 3), (45, 11, 13, 3), (48, 11, 14, 3), (51, 11, 15, 3), (54, 11, 16, 3), (57, 11, 18, 3), (60, 11, 19, 3), (63, 11, 20, 3), (66, 11, 21, 3), (69, 11, 22, 3), (72, 11, 23, 3), (75, 11, 24, 3), (78, 11, 26, 3), (81, 11, 27, 3), (84, 11, 28, 3), (87, 11, 31, 3), (90, 11, 37, 3), (93, 11, 38, 3), (96, 11, 39, 3), (99, 11, 40, 3), (102, 11, 41, 3), (105, 11, 42, 3), (108, 11, 43, 3), (111, 11, 44, 3), (114, 11, 45, 3), (117, 11, 46, 3), (120, 11, 47, 3), (123, 11, 48, 3), (126, 11, 49, 3), (129, 11, 50, 3), (132, 11, 53, 3), (135, 11, 54, 3), (138, 11, 55, 3), (141, 11, 56, 3)],
  [],
  [(1, 2, 1, g_obj)],
  [], 2, 0)
theorem one_X11_init : ab_oneM m_X11_init := List.forall_mem_cons.mpr ⟨o_obj, fun _ h => absurd h List.not_mem_nil⟩
noncomputable def f_X11_init (l0 : Nat) (st : ab_S) : Option ab_R := ab_lim m_X11_init 0 [.ref l0] [] st
noncomputable def L_X11_init_366 (l0 : Nat) (l1 : Int32) (st : ab_S) : Option ab_R := ab_lim m_X11_init 366 [.ref l0, .int l1] [] st
noncomputable def g_X11_init : ab_G := fun as st k => match as with
  | [.ref a0] => ab_rv (f_X11_init a0 st) (fun t => k [] t)
  | _ => none
theorem o_X11_init : ab_one g_X11_init := by
  intro as st k r h
  unfold g_X11_init at h ⊢
  split at h
  · exact one_rv h
  · cases h
set_option maxRecDepth 100000 in
theorem e_X11_init_0 (l0 : Nat) (st : ab_S) : f_X11_init l0 st =
    ab_newn st (4000 : Int32) 3 fun o1 s2 =>
    Option.bind (ab_pR s2 l0 11 0 o1) fun s3 =>
    ab_newn s3 (14400 : Int32) 3 fun o4 s5 =>
    Option.bind (ab_pR s5 l0 11 2 o4) fun s6 =>
    ab_newn s6 (1200 : Int32) 1 fun o7 s8 =>
    Option.bind (ab_pR s8 l0 11 3 o7) fun s9 =>
    ab_newn s9 (1200 : Int32) 2 fun o10 s11 =>
    Option.bind (ab_pR s11 l0 11 4 o10) fun s12 =>
    ab_newn s12 (6 : Int32) 1 fun o13 s14 =>
    Option.bind (ab_pR s14 l0 11 5 o13) fun s15 =>
    ab_newn s15 (4 : Int32) 4 fun o16 s17 =>
    Option.bind (ab_pR s17 l0 11 6 o16) fun s18 =>
    ab_newn s18 (4 : Int32) 1 fun o19 s20 =>
    Option.bind (ab_pR s20 l0 11 7 o19) fun s21 =>
    ab_newn s21 (200 : Int32) 1 fun o22 s23 =>
    Option.bind (ab_pR s23 l0 11 8 o22) fun s24 =>
    Option.bind (ab_pI s24 l0 11 10 (-1 : Int32)) fun s25 =>
    ab_newn s25 (50000 : Int32) 3 fun o26 s27 =>
    Option.bind (ab_pR s27 l0 11 11 o26) fun s28 =>
    ab_newn s28 (4 : Int32) 1 fun o29 s30 =>
    Option.bind (ab_pR s30 l0 11 13 o29) fun s31 =>
    ab_newn s31 (4 : Int32) 1 fun o32 s33 =>
    Option.bind (ab_pR s33 l0 11 14 o32) fun s34 =>
    ab_newn s34 (4 : Int32) 1 fun o35 s36 =>
    Option.bind (ab_pR s36 l0 11 15 o35) fun s37 =>
    ab_newn s37 (4 : Int32) 4 fun o38 s39 =>
    Option.bind (ab_pR s39 l0 11 16 o38) fun s40 =>
    ab_newn s40 (2401 : Int32) 1 fun o41 s42 =>
    Option.bind (ab_pR s42 l0 11 18 o41) fun s43 =>
    ab_newn s43 (2401 : Int32) 1 fun o44 s45 =>
    Option.bind (ab_pR s45 l0 11 19 o44) fun s46 =>
    ab_newn s46 (2401 : Int32) 1 fun o47 s48 =>
    Option.bind (ab_pR s48 l0 11 20 o47) fun s49 =>
    ab_newn s49 (2401 : Int32) 2 fun o50 s51 =>
    Option.bind (ab_pR s51 l0 11 21 o50) fun s52 =>
    ab_newn s52 (2401 : Int32) 2 fun o53 s54 =>
    Option.bind (ab_pR s54 l0 11 22 o53) fun s55 =>
    ab_newn s55 (2401 : Int32) 1 fun o56 s57 =>
    Option.bind (ab_pR s57 l0 11 23 o56) fun s58 =>
    ab_newn s58 (2401 : Int32) 1 fun o59 s60 =>
    Option.bind (ab_pR s60 l0 11 24 o59) fun s61 =>
    ab_newn s61 (400 : Int32) 1 fun o62 s63 =>
    Option.bind (ab_pR s63 l0 11 26 o62) fun s64 =>
    ab_newn s64 (400 : Int32) 1 fun o65 s66 =>
    Option.bind (ab_pR s66 l0 11 27 o65) fun s67 =>
    ab_newn s67 (400 : Int32) 1 fun o68 s69 =>
    Option.bind (ab_pR s69 l0 11 28 o68) fun s70 =>
    ab_newn s70 (10240 : Int32) 4 fun o71 s72 =>
    Option.bind (ab_pR s72 l0 11 31 o71) fun s73 =>
    ab_newn s73 (6 : Int32) 1 fun o74 s75 =>
    Option.bind (ab_pR s75 l0 11 37 o74) fun s76 =>
    ab_newn s76 (6 : Int32) 1 fun o77 s78 =>
    Option.bind (ab_pR s78 l0 11 38 o77) fun s79 =>
    ab_newn s79 (6 : Int32) 1 fun o80 s81 =>
    Option.bind (ab_pR s81 l0 11 39 o80) fun s82 =>
    ab_newn s82 (6 : Int32) 1 fun o83 s84 =>
    Option.bind (ab_pR s84 l0 11 40 o83) fun s85 =>
    ab_newn s85 (400 : Int32) 4 fun o86 s87 =>
    Option.bind (ab_pR s87 l0 11 41 o86) fun s88 =>
    ab_newn s88 (400 : Int32) 4 fun o89 s90 =>
    Option.bind (ab_pR s90 l0 11 42 o89) fun s91 =>
    ab_newn s91 (364 : Int32) 4 fun o92 s93 =>
    Option.bind (ab_pR s93 l0 11 43 o92) fun s94 =>
    ab_newn s94 (196 : Int32) 1 fun o95 s96 =>
    Option.bind (ab_pR s96 l0 11 44 o95) fun s97 =>
    ab_newn s97 (50000 : Int32) 3 fun o98 s99 =>
    Option.bind (ab_pR s99 l0 11 45 o98) fun s100 =>
    ab_newn s100 (2402 : Int32) 2 fun o101 s102 =>
    Option.bind (ab_pR s102 l0 11 46 o101) fun s103 =>
    ab_newn s103 (2403 : Int32) 1 fun o104 s105 =>
    Option.bind (ab_pR s105 l0 11 47 o104) fun s106 =>
    ab_newn s106 (4000 : Int32) 1 fun o107 s108 =>
    Option.bind (ab_pR s108 l0 11 48 o107) fun s109 =>
    ab_newn s109 (4000 : Int32) 1 fun o110 s111 =>
    Option.bind (ab_pR s111 l0 11 49 o110) fun s112 =>
    ab_newn s112 (4000 : Int32) 2 fun o113 s114 =>
    Option.bind (ab_pR s114 l0 11 50 o113) fun s115 =>
    ab_newn s115 (13 : Int32) 1 fun o116 s117 =>
    Option.bind (ab_pR s117 l0 11 53 o116) fun s118 =>
    ab_newn s118 (13 : Int32) 1 fun o119 s120 =>
    Option.bind (ab_pR s120 l0 11 54 o119) fun s121 =>
    ab_newn s121 (13 : Int32) 2 fun o122 s123 =>
    Option.bind (ab_pR s123 l0 11 55 o122) fun s124 =>
    ab_newn s124 (12 : Int32) 3 fun o125 s126 =>
    Option.bind (ab_pR s126 l0 11 56 o125) fun s127 =>
    L_X11_init_366 l0 (0 : Int32) s127 := (lm_eq one_X11_init 0 _ _ _).trans rfl
set_option maxRecDepth 100000 in
theorem e_X11_init_366 (l0 : Nat) (l1 : Int32) (st : ab_S) : L_X11_init_366 l0 l1 st =
    if (4 : Int32) ≤ l1
    then some (none, st)
    else Option.bind (ab_gR st l0 11 13) fun x1 =>
      Option.bind (ab_wI st x1 l1 (-1 : Int32)) fun s2 =>
      L_X11_init_366 l0 (l1 + (1 : Int32)) s2 := (lm_eq one_X11_init 366 _ _ _).trans rfl
def c_X6_put : List (Nat × ab_I) := [(0, .aload_n 0, 1, .null, 0),
  (1, .getfield 21, 3, .null, 0),
  (4, .aload_n 0, 1, .null, 0),
  (5, .getfield 15, 3, .null, 0),
  (8, .arraylength, 1, .null, 0),
  (9, .if_icmp .ge (17), 3, .null, 26),
  (12, .aload_n 0, 1, .null, 0),
  (13, .getfield 15, 3, .null, 0),
  (16, .aload_n 0, 1, .null, 0),
  (17, .getfield 21, 3, .null, 0),
  (20, .iload_n 1, 1, .null, 1),
  (21, .sipush (255), 3, (.int (255)), 0),
  (24, .iand, 1, .null, 0),
  (25, .iastore, 1, .null, 0),
  (26, .aload_n 0, 1, .null, 0),
  (27, .dup, 1, .null, 0),
  (28, .getfield 21, 3, .null, 0),
  (31, .iconst 1, 1, (.int (1)), 0),
  (32, .iadd, 1, .null, 0),
  (33, .putfield 21, 3, .null, 0),
  (36, .return_, 1, .null, 0)]
noncomputable def m_X6_put : ab_M := (c_X6_put, [(0, [0, 1]), (26, [0])],
  [(15, 6, 0, 3), (21, 6, 1, 0)],
  [],
  [],
  [], 2, 0)
theorem one_X6_put : ab_oneM m_X6_put := fun _ h => absurd h List.not_mem_nil
noncomputable def f_X6_put (l0 : Nat) (l1 : Int32) (st : ab_S) : Option ab_R := ab_rc st l0 6 (ab_lim m_X6_put 0 [.ref l0, .int l1] [] st)
noncomputable def L_X6_put_26 (l0 : Nat) (st : ab_S) : Option ab_R := ab_lim m_X6_put 26 [.ref l0] [] st
noncomputable def g_X6_put : ab_G := fun as st k => match as with
  | [.ref a0, .int a1] => ab_rv (f_X6_put a0 a1 st) (fun t => k [] t)
  | _ => none
theorem o_X6_put : ab_one g_X6_put := by
  intro as st k r h
  unfold g_X6_put at h ⊢
  split at h
  · exact one_rv h
  · cases h
set_option maxRecDepth 100000 in
theorem e_X6_put_0 (l0 : Nat) (l1 : Int32) (st : ab_S) : f_X6_put l0 l1 st =
    ab_rc st l0 6 (
    Option.bind (ab_gI st l0 6 1) fun x1 =>
    Option.bind (ab_gR st l0 6 0) fun x2 =>
    Option.bind (ab_n st x2) fun n3 =>
    if (Int32.ofNat n3) ≤ x1
    then L_X6_put_26 l0 st
    else Option.bind (ab_gR st l0 6 0) fun x4 =>
      Option.bind (ab_gI st l0 6 1) fun x5 =>
      Option.bind (ab_wI st x4 x5 (l1 &&& (255 : Int32))) fun s6 =>
      L_X6_put_26 l0 s6) := congrArg (ab_rc st l0 6) ((lm_eq one_X6_put 0 _ _ _).trans rfl)
set_option maxRecDepth 100000 in
theorem e_X6_put_26 (l0 : Nat) (st : ab_S) : L_X6_put_26 l0 st =
    Option.bind (ab_gI st l0 6 1) fun x1 =>
    Option.bind (ab_pI st l0 6 1 (x1 + (1 : Int32))) fun s2 =>
    some (none, s2) := (lm_eq one_X6_put 26 _ _ _).trans rfl
def c_X10_collect : List (Nat × ab_I) := [(0, .iload_n 3, 1, .null, 3),
  (1, .iconst 1, 1, (.int (1)), 0),
  (2, .if_icmp .lt (9), 3, .null, 11),
  (5, .iload_n 3, 1, .null, 3),
  (6, .bipush (8), 2, (.int (8)), 0),
  (8, .if_icmp .le (6), 3, .null, 14),
  (11, .bipush (-2), 2, (.int (-2)), 0),
  (13, .ireturn, 1, .null, 0),
  (14, .aload_n 0, 1, .null, 0),
  (15, .getfield 73, 3, .null, 0),
  (18, .getfield 85, 3, .null, 0),
  (21, .iload_n 3, 1, .null, 3),
  (22, .iadd, 1, .null, 0),
  (23, .sipush (4000), 3, (.int (4000)), 0),
  (26, .if_icmp .le (6), 3, .null, 32),
  (29, .bipush (-3), 2, (.int (-3)), 0),
  (31, .ireturn, 1, .null, 0),
  (32, .iconst 0, 1, (.int (0)), 0),
  (33, .istore 4, 2, .null, 4),
  (35, .iload 4, 2, .null, 4),
  (37, .iload_n 3, 1, .null, 3),
  (38, .if_icmp .ge (24), 3, .null, 62),
  (41, .aload_n 0, 1, .null, 0),
  (42, .getfield 73, 3, .null, 0),
  (45, .lload_n 1, 1, .null, 1),
  (46, .bipush (8), 2, (.int (8)), 0),
  (48, .iload 4, 2, .null, 4),
  (50, .imul, 1, .null, 0),
  (51, .lushr, 1, .null, 0),
  (52, .l2i, 1, .null, 0),
  (53, .invokevirtual 88, 3, .null, 0),
  (56, .iinc 4 (1), 3, (.int (1)), 4),
  (59, .goto (-24), 3, .null, 35),
  (62, .aload_n 0, 1, .null, 0),
  (63, .getfield 73, 3, .null, 0),
  (66, .getfield 85, 3, .null, 0),
  (69, .ireturn, 1, .null, 0)]
noncomputable def m_X10_collect : ab_M := (c_X10_collect, [(0, [0, 1, 3]), (35, [0, 1, 3, 4])],
  [(73, 10, 12, 3), (85, 6, 1, 0)],
  [],
  [(88, 1, 2, g_X6_put)],
  [], 5, 1)
theorem one_X10_collect : ab_oneM m_X10_collect := List.forall_mem_cons.mpr ⟨o_X6_put, fun _ h => absurd h List.not_mem_nil⟩
noncomputable def f_X10_collect (l0 : Nat) (l1 : Int64) (l3 : Int32) (st : ab_S) : Option ab_R := ab_rc st l0 10 (ab_lim m_X10_collect 0 [.ref l0, .long l1, .int l3] [] st)
noncomputable def L_X10_collect_35 (l0 : Nat) (l1 : Int64) (l3 : Int32) (l4 : Int32) (st : ab_S) : Option ab_R := ab_lim m_X10_collect 35 [.ref l0, .long l1, .int l3, .int l4] [] st
noncomputable def g_X10_collect : ab_G := fun as st k => match as with
  | [.ref a0, .long a1, .int a2] => ab_ri (f_X10_collect a0 a1 a2 st) (fun x t => k [.int x] t)
  | _ => none
theorem o_X10_collect : ab_one g_X10_collect := by
  intro as st k r h
  unfold g_X10_collect at h ⊢
  split at h
  · exact one_ri h
  · cases h
set_option maxRecDepth 100000 in
theorem e_X10_collect_0 (l0 : Nat) (l1 : Int64) (l3 : Int32) (st : ab_S) : f_X10_collect l0 l1 l3 st =
    ab_rc st l0 10 (
    if l3 < (1 : Int32)
    then some (some (.int (-2 : Int32)), st)
    else if l3 ≤ (8 : Int32)
      then Option.bind (ab_gR st l0 10 12) fun x1 =>
        Option.bind (ab_gI st x1 6 1) fun x2 =>
        if (x2 + l3) ≤ (4000 : Int32)
        then L_X10_collect_35 l0 l1 l3 (0 : Int32) st
        else some (some (.int (-3 : Int32)), st)
      else some (some (.int (-2 : Int32)), st)) := congrArg (ab_rc st l0 10) ((lm_eq one_X10_collect 0 _ _ _).trans rfl)
set_option maxRecDepth 100000 in
theorem e_X10_collect_35 (l0 : Nat) (l1 : Int64) (l3 : Int32) (l4 : Int32) (st : ab_S) : L_X10_collect_35 l0 l1 l3 l4 st =
    if l3 ≤ l4
    then Option.bind (ab_gR st l0 10 12) fun x1 =>
      Option.bind (ab_gI st x1 6 1) fun x2 =>
      some (some (.int x2), st)
    else Option.bind (ab_gR st l0 10 12) fun x3 =>
      ab_rv (f_X6_put x3 ((l1.toUInt64 >>> (((8 : Int32) * l4).toInt64.toUInt64 &&& Int64.toUInt64 63)).toInt64.toInt32) st) fun s4 =>
      L_X10_collect_35 l0 l1 l3 (l4 + (1 : Int32)) s4 := (lm_eq one_X10_collect 35 _ _ _).trans rfl
def c_X11_isIn : List (Nat × ab_I) := [(0, .lload_n 0, 1, .null, 0),
  (1, .lload_n 2, 1, .null, 2),
  (2, .lcmp, 1, .null, 0),
  (3, .ifCond .lt (14), 3, .null, 17),
  (6, .lload_n 0, 1, .null, 0),
  (7, .lload 4, 2, .null, 4),
  (9, .lcmp, 1, .null, 0),
  (10, .ifCond .gt (7), 3, .null, 17),
  (13, .iconst 1, 1, (.int (1)), 0),
  (14, .goto (4), 3, .null, 18),
  (17, .iconst 0, 1, (.int (0)), 0),
  (18, .ireturn, 1, .null, 0)]
noncomputable def m_X11_isIn : ab_M := (c_X11_isIn, [(0, [0, 2, 4])],
  [],
  [],
  [],
  [], 6, 2)
theorem one_X11_isIn : ab_oneM m_X11_isIn := fun _ h => absurd h List.not_mem_nil
noncomputable def f_X11_isIn (l0 : Int64) (l2 : Int64) (l4 : Int64) (st : ab_S) : Option ab_R := ab_lim m_X11_isIn 0 [.long l0, .long l2, .long l4] [] st
noncomputable def g_X11_isIn : ab_G := fun as st k => match as with
  | [.long a0, .long a1, .long a2] => ab_ri (f_X11_isIn a0 a1 a2 st) (fun x t => k [.int x] t)
  | _ => none
theorem o_X11_isIn : ab_one g_X11_isIn := by
  intro as st k r h
  unfold g_X11_isIn at h ⊢
  split at h
  · exact one_ri h
  · cases h
set_option maxRecDepth 100000 in
theorem e_X11_isIn_0 (l0 : Int64) (l2 : Int64) (l4 : Int64) (st : ab_S) : f_X11_isIn l0 l2 l4 st =
    if (lg_cmp l0 l2) < 0
    then ab_z (0 : Int32) (some (some (.int (0 : Int32)), st))
    else if 0 < (lg_cmp l0 l4)
      then ab_z (0 : Int32) (some (some (.int (0 : Int32)), st))
      else ab_z (1 : Int32) (some (some (.int (1 : Int32)), st)) := (lm_eq one_X11_isIn 0 _ _ _).trans rfl
def c_X11_collect : List (Nat × ab_I) := [(0, .iload_n 3, 1, .null, 3),
  (1, .i2l, 1, .null, 0),
  (2, .lconst 1, 1, (.long (1)), 0),
  (3, .ldc2_w 144, 3, (.long (8)), 0),
  (6, .invokestatic 146, 3, .null, 0),
  (9, .ifCond .ne (6), 3, .null, 15),
  (12, .bipush (-2), 2, (.int (-2)), 0),
  (14, .ireturn, 1, .null, 0),
  (15, .aload_n 0, 1, .null, 0),
  (16, .getfield 150, 3, .null, 0),
  (19, .iload_n 3, 1, .null, 3),
  (20, .iadd, 1, .null, 0),
  (21, .sipush (4000), 3, (.int (4000)), 0),
  (24, .if_icmp .le (6), 3, .null, 30),
  (27, .bipush (-3), 2, (.int (-3)), 0),
  (29, .ireturn, 1, .null, 0),
  (30, .iconst 0, 1, (.int (0)), 0),
  (31, .istore 4, 2, .null, 4),
  (33, .iload 4, 2, .null, 4),
  (35, .iload_n 3, 1, .null, 3),
  (36, .if_icmp .ge (30), 3, .null, 66),
  (39, .aload_n 0, 1, .null, 0),
  (40, .getfield 7, 3, .null, 0),
  (43, .aload_n 0, 1, .null, 0),
  (44, .getfield 150, 3, .null, 0),
  (47, .iload 4, 2, .null, 4),
  (49, .iadd, 1, .null, 0),
  (50, .lload_n 1, 1, .null, 1),
  (51, .bipush (8), 2, (.int (8)), 0),
  (53, .iload 4, 2, .null, 4),
  (55, .imul, 1, .null, 0),
  (56, .lshr, 1, .null, 0),
  (57, .l2i, 1, .null, 0),
  (58, .i2b, 1, .null, 0),
  (59, .bastore, 1, .null, 0),
  (60, .iinc 4 (1), 3, (.int (1)), 4),
  (63, .goto (-30), 3, .null, 33),
  (66, .aload_n 0, 1, .null, 0),
  (67, .dup, 1, .null, 0),
  (68, .getfield 150, 3, .null, 0),
  (71, .iload_n 3, 1, .null, 3),
  (72, .iadd, 1, .null, 0),
  (73, .putfield 150, 3, .null, 0),
  (76, .aload_n 0, 1, .null, 0),
  (77, .getfield 150, 3, .null, 0),
  (80, .ireturn, 1, .null, 0)]
noncomputable def m_X11_collect : ab_M := (c_X11_collect, [(0, [0, 1, 3]), (33, [0, 1, 3, 4])],
  [(7, 11, 0, 3), (150, 11, 1, 0)],
  [],
  [(146, 0, 3, g_X11_isIn)],
  [], 5, 1)
theorem one_X11_collect : ab_oneM m_X11_collect := List.forall_mem_cons.mpr ⟨o_X11_isIn, fun _ h => absurd h List.not_mem_nil⟩
noncomputable def f_X11_collect (l0 : Nat) (l1 : Int64) (l3 : Int32) (st : ab_S) : Option ab_R := ab_rc st l0 11 (ab_lim m_X11_collect 0 [.ref l0, .long l1, .int l3] [] st)
noncomputable def L_X11_collect_33 (l0 : Nat) (l1 : Int64) (l3 : Int32) (l4 : Int32) (st : ab_S) : Option ab_R := ab_lim m_X11_collect 33 [.ref l0, .long l1, .int l3, .int l4] [] st
noncomputable def g_X11_collect : ab_G := fun as st k => match as with
  | [.ref a0, .long a1, .int a2] => ab_ri (f_X11_collect a0 a1 a2 st) (fun x t => k [.int x] t)
  | _ => none
theorem o_X11_collect : ab_one g_X11_collect := by
  intro as st k r h
  unfold g_X11_collect at h ⊢
  split at h
  · exact one_ri h
  · cases h
set_option maxRecDepth 100000 in
theorem e_X11_collect_0 (l0 : Nat) (l1 : Int64) (l3 : Int32) (st : ab_S) : f_X11_collect l0 l1 l3 st =
    ab_rc st l0 11 (
    ab_ri (f_X11_isIn l3.toInt64 (1 : Int64) (8 : Int64) st) fun x2 s1 =>
    if x2 = 0
    then some (some (.int (-2 : Int32)), s1)
    else Option.bind (ab_gI s1 l0 11 1) fun x3 =>
      if (x3 + l3) ≤ (4000 : Int32)
      then L_X11_collect_33 l0 l1 l3 (0 : Int32) s1
      else some (some (.int (-3 : Int32)), s1)) := congrArg (ab_rc st l0 11) ((lm_eq one_X11_collect 0 _ _ _).trans rfl)
set_option maxRecDepth 100000 in
theorem e_X11_collect_33 (l0 : Nat) (l1 : Int64) (l3 : Int32) (l4 : Int32) (st : ab_S) : L_X11_collect_33 l0 l1 l3 l4 st =
    if l3 ≤ l4
    then Option.bind (ab_gI st l0 11 1) fun x1 =>
      Option.bind (ab_pI st l0 11 1 (x1 + l3)) fun s2 =>
      Option.bind (ab_gI s2 l0 11 1) fun x3 =>
      some (some (.int x3), s2)
    else Option.bind (ab_gR st l0 11 0) fun x4 =>
      Option.bind (ab_gI st l0 11 1) fun x5 =>
      Option.bind (ab_wB st x4 (x5 + l4) ((l1 >>> (((8 : Int32) * l4).toInt64 &&& 63)).toInt32.toInt8.toInt32)) fun s6 =>
      L_X11_collect_33 l0 l1 l3 (l4 + (1 : Int32)) s6 := (lm_eq one_X11_collect 33 _ _ _).trans rfl
def c_X6_clear : List (Nat × ab_I) := [(0, .aload_n 0, 1, .null, 0),
  (1, .iconst 0, 1, (.int (0)), 0),
  (2, .putfield 21, 3, .null, 0),
  (5, .return_, 1, .null, 0)]
noncomputable def m_X6_clear : ab_M := (c_X6_clear, [(0, [0])],
  [(21, 6, 1, 0)],
  [],
  [],
  [], 1, 0)
theorem one_X6_clear : ab_oneM m_X6_clear := fun _ h => absurd h List.not_mem_nil
noncomputable def f_X6_clear (l0 : Nat) (st : ab_S) : Option ab_R := ab_rc st l0 6 (ab_lim m_X6_clear 0 [.ref l0] [] st)
noncomputable def g_X6_clear : ab_G := fun as st k => match as with
  | [.ref a0] => ab_rv (f_X6_clear a0 st) (fun t => k [] t)
  | _ => none
theorem o_X6_clear : ab_one g_X6_clear := by
  intro as st k r h
  unfold g_X6_clear at h ⊢
  split at h
  · exact one_rv h
  · cases h
set_option maxRecDepth 100000 in
theorem e_X6_clear_0 (l0 : Nat) (st : ab_S) : f_X6_clear l0 st =
    ab_rc st l0 6 (
    Option.bind (ab_pI st l0 6 1 (0 : Int32)) fun s1 =>
    some (none, s1)) := congrArg (ab_rc st l0 6) ((lm_eq one_X6_clear 0 _ _ _).trans rfl)
def c_X10_takeCollected : List (Nat × ab_I) := [(0, .aload_n 0, 1, .null, 0),
  (1, .getfield 73, 3, .null, 0),
  (4, .astore_n 1, 1, .null, 1),
  (5, .aload_n 0, 1, .null, 0),
  (6, .aload_n 0, 1, .null, 0),
  (7, .getfield 76, 3, .null, 0),
  (10, .putfield 73, 3, .null, 0),
  (13, .aload_n 0, 1, .null, 0),
  (14, .aload_n 1, 1, .null, 1),
  (15, .putfield 76, 3, .null, 0),
  (18, .aload_n 0, 1, .null, 0),
  (19, .getfield 73, 3, .null, 0),
  (22, .invokevirtual 255, 3, .null, 0),
  (25, .aload_n 1, 1, .null, 1),
  (26, .areturn, 1, .null, 0)]
noncomputable def m_X10_takeCollected : ab_M := (c_X10_takeCollected, [(0, [0])],
  [(73, 10, 12, 3), (76, 10, 13, 3)],
  [],
  [(255, 1, 1, g_X6_clear)],
  [], 2, 4)
theorem one_X10_takeCollected : ab_oneM m_X10_takeCollected := List.forall_mem_cons.mpr ⟨o_X6_clear, fun _ h => absurd h List.not_mem_nil⟩
noncomputable def f_X10_takeCollected (l0 : Nat) (st : ab_S) : Option ab_R := ab_rc st l0 10 (ab_lim m_X10_takeCollected 0 [.ref l0] [] st)
noncomputable def g_X10_takeCollected : ab_G := fun as st k => match as with
  | [.ref a0] => ab_rr (f_X10_takeCollected a0 st) (fun x t => k [.ref x] t)
  | _ => none
theorem o_X10_takeCollected : ab_one g_X10_takeCollected := by
  intro as st k r h
  unfold g_X10_takeCollected at h ⊢
  split at h
  · exact one_rr h
  · cases h
set_option maxRecDepth 100000 in
theorem e_X10_takeCollected_0 (l0 : Nat) (st : ab_S) : f_X10_takeCollected l0 st =
    ab_rc st l0 10 (
    Option.bind (ab_gR st l0 10 12) fun x1 =>
    Option.bind (ab_gR st l0 10 13) fun x2 =>
    Option.bind (ab_pR st l0 10 12 x2) fun s3 =>
    Option.bind (ab_pR s3 l0 10 13 x1) fun s4 =>
    Option.bind (ab_gR s4 l0 10 12) fun x5 =>
    ab_rv (f_X6_clear x5 s4) fun s6 =>
    some (some (.ref x1), s6)) := congrArg (ab_rc st l0 10) ((lm_eq one_X10_takeCollected 0 _ _ _).trans rfl)
def c_X10_forget : List (Nat × ab_I) := [(0, .aload_n 0, 1, .null, 0),
  (1, .invokevirtual 91, 3, .null, 0),
  (4, .getfield 85, 3, .null, 0),
  (7, .ireturn, 1, .null, 0)]
noncomputable def m_X10_forget : ab_M := (c_X10_forget, [(0, [0])],
  [(85, 6, 1, 0)],
  [],
  [(91, 1, 1, g_X10_takeCollected)],
  [], 1, 1)
theorem one_X10_forget : ab_oneM m_X10_forget := List.forall_mem_cons.mpr ⟨o_X10_takeCollected, fun _ h => absurd h List.not_mem_nil⟩
noncomputable def f_X10_forget (l0 : Nat) (st : ab_S) : Option ab_R := ab_rc st l0 10 (ab_lim m_X10_forget 0 [.ref l0] [] st)
noncomputable def g_X10_forget : ab_G := fun as st k => match as with
  | [.ref a0] => ab_ri (f_X10_forget a0 st) (fun x t => k [.int x] t)
  | _ => none
theorem o_X10_forget : ab_one g_X10_forget := by
  intro as st k r h
  unfold g_X10_forget at h ⊢
  split at h
  · exact one_ri h
  · cases h
set_option maxRecDepth 100000 in
theorem e_X10_forget_0 (l0 : Nat) (st : ab_S) : f_X10_forget l0 st =
    ab_rc st l0 10 (
    ab_rr (f_X10_takeCollected l0 st) fun x2 s1 =>
    Option.bind (ab_gI s1 x2 6 1) fun x3 =>
    some (some (.int x3), s1)) := congrArg (ab_rc st l0 10) ((lm_eq one_X10_forget 0 _ _ _).trans rfl)
def c_X11_forget : List (Nat × ab_I) := [(0, .aload_n 0, 1, .null, 0),
  (1, .getfield 150, 3, .null, 0),
  (4, .istore_n 1, 1, .null, 1),
  (5, .aload_n 0, 1, .null, 0),
  (6, .iconst 0, 1, (.int (0)), 0),
  (7, .putfield 150, 3, .null, 0),
  (10, .iload_n 1, 1, .null, 1),
  (11, .ireturn, 1, .null, 0)]
noncomputable def m_X11_forget : ab_M := (c_X11_forget, [(0, [0])],
  [(150, 11, 1, 0)],
  [],
  [],
  [], 2, 1)
theorem one_X11_forget : ab_oneM m_X11_forget := fun _ h => absurd h List.not_mem_nil
noncomputable def f_X11_forget (l0 : Nat) (st : ab_S) : Option ab_R := ab_rc st l0 11 (ab_lim m_X11_forget 0 [.ref l0] [] st)
noncomputable def g_X11_forget : ab_G := fun as st k => match as with
  | [.ref a0] => ab_ri (f_X11_forget a0 st) (fun x t => k [.int x] t)
  | _ => none
theorem o_X11_forget : ab_one g_X11_forget := by
  intro as st k r h
  unfold g_X11_forget at h ⊢
  split at h
  · exact one_ri h
  · cases h
set_option maxRecDepth 100000 in
theorem e_X11_forget_0 (l0 : Nat) (st : ab_S) : f_X11_forget l0 st =
    ab_rc st l0 11 (
    Option.bind (ab_gI st l0 11 1) fun x1 =>
    Option.bind (ab_pI st l0 11 1 (0 : Int32)) fun s2 =>
    some (some (.int x1), s2)) := congrArg (ab_rc st l0 11) ((lm_eq one_X11_forget 0 _ _ _).trans rfl)
def c_X10_isDictionary : List (Nat × ab_I) := [(0, .iload_n 0, 1, .null, 0),
  (1, .ifCond .lt (12), 3, .null, 13),
  (4, .iload_n 0, 1, .null, 0),
  (5, .iconst 4, 1, (.int (4)), 0),
  (6, .if_icmp .ge (7), 3, .null, 13),
  (9, .iconst 1, 1, (.int (1)), 0),
  (10, .goto (4), 3, .null, 14),
  (13, .iconst 0, 1, (.int (0)), 0),
  (14, .ireturn, 1, .null, 0)]
noncomputable def m_X10_isDictionary : ab_M := (c_X10_isDictionary, [(0, [0])],
  [],
  [],
  [],
  [], 1, 2)
theorem one_X10_isDictionary : ab_oneM m_X10_isDictionary := fun _ h => absurd h List.not_mem_nil
noncomputable def f_X10_isDictionary (l0 : Int32) (st : ab_S) : Option ab_R := ab_lim m_X10_isDictionary 0 [.int l0] [] st
noncomputable def g_X10_isDictionary : ab_G := fun as st k => match as with
  | [.int a0] => ab_ri (f_X10_isDictionary a0 st) (fun x t => k [.int x] t)
  | _ => none
theorem o_X10_isDictionary : ab_one g_X10_isDictionary := by
  intro as st k r h
  unfold g_X10_isDictionary at h ⊢
  split at h
  · exact one_ri h
  · cases h
set_option maxRecDepth 100000 in
theorem e_X10_isDictionary_0 (l0 : Int32) (st : ab_S) : f_X10_isDictionary l0 st =
    if l0 < 0
    then ab_z (0 : Int32) (some (some (.int (0 : Int32)), st))
    else if (4 : Int32) ≤ l0
      then ab_z (0 : Int32) (some (some (.int (0 : Int32)), st))
      else ab_z (1 : Int32) (some (some (.int (1 : Int32)), st)) := (lm_eq one_X10_isDictionary 0 _ _ _).trans rfl
def c_X7_clear : List (Nat × ab_I) := [(0, .aload_n 0, 1, .null, 0),
  (1, .iconst 0, 1, (.int (0)), 0),
  (2, .putfield 22, 3, .null, 0),
  (5, .return_, 1, .null, 0)]
noncomputable def m_X7_clear : ab_M := (c_X7_clear, [(0, [0])],
  [(22, 7, 3, 0)],
  [],
  [],
  [], 1, 0)
theorem one_X7_clear : ab_oneM m_X7_clear := fun _ h => absurd h List.not_mem_nil
noncomputable def f_X7_clear (l0 : Nat) (st : ab_S) : Option ab_R := ab_rc st l0 7 (ab_lim m_X7_clear 0 [.ref l0] [] st)
noncomputable def g_X7_clear : ab_G := fun as st k => match as with
  | [.ref a0] => ab_rv (f_X7_clear a0 st) (fun t => k [] t)
  | _ => none
theorem o_X7_clear : ab_one g_X7_clear := by
  intro as st k r h
  unfold g_X7_clear at h ⊢
  split at h
  · exact one_rv h
  · cases h
set_option maxRecDepth 100000 in
theorem e_X7_clear_0 (l0 : Nat) (st : ab_S) : f_X7_clear l0 st =
    ab_rc st l0 7 (
    Option.bind (ab_pI st l0 7 3 (0 : Int32)) fun s1 =>
    some (none, s1)) := congrArg (ab_rc st l0 7) ((lm_eq one_X7_clear 0 _ _ _).trans rfl)
def c_X10_begin : List (Nat × ab_I) := [(0, .iload_n 1, 1, .null, 1),
  (1, .invokestatic 95, 3, .null, 0),
  (4, .ifCond .ne (6), 3, .null, 10),
  (7, .bipush (-2), 2, (.int (-2)), 0),
  (9, .ireturn, 1, .null, 0),
  (10, .aload_n 0, 1, .null, 0),
  (11, .getfield 11, 3, .null, 0),
  (14, .iload_n 1, 1, .null, 1),
  (15, .aaload, 1, .null, 0),
  (16, .astore_n 2, 1, .null, 2),
  (17, .aload_n 2, 1, .null, 2),
  (18, .getfield 99, 3, .null, 0),
  (21, .getfield 103, 3, .null, 0),
  (24, .istore_n 3, 1, .null, 3),
  (25, .aload_n 2, 1, .null, 2),
  (26, .getfield 99, 3, .null, 0),
  (29, .invokevirtual 106, 3, .null, 0),
  (32, .aload_n 2, 1, .null, 2),
  (33, .iconst 1, 1, (.int (1)), 0),
  (34, .putfield 109, 3, .null, 0),
  (37, .aload_n 0, 1, .null, 0),
  (38, .getfield 15, 3, .null, 0),
  (41, .iload_n 1, 1, .null, 1),
  (42, .dup2, 1, .null, 0),
  (43, .iaload, 1, .null, 0),
  (44, .iconst 1, 1, (.int (1)), 0),
  (45, .iadd, 1, .null, 0),
  (46, .iastore, 1, .null, 0),
  (47, .iload_n 3, 1, .null, 3),
  (48, .ireturn, 1, .null, 0)]
noncomputable def m_X10_begin : ab_M := (c_X10_begin, [(0, [0, 1])],
  [(11, 10, 0, 3), (15, 10, 1, 3), (99, 0, 0, 3), (103, 7, 3, 0), (109, 0, 2, 1)],
  [],
  [(95, 0, 1, g_X10_isDictionary), (106, 1, 1, g_X7_clear)],
  [], 4, 1)
theorem one_X10_begin : ab_oneM m_X10_begin := List.forall_mem_cons.mpr ⟨o_X10_isDictionary, List.forall_mem_cons.mpr ⟨o_X7_clear, fun _ h => absurd h List.not_mem_nil⟩⟩
noncomputable def f_X10_begin (l0 : Nat) (l1 : Int32) (st : ab_S) : Option ab_R := ab_rc st l0 10 (ab_lim m_X10_begin 0 [.ref l0, .int l1] [] st)
noncomputable def g_X10_begin : ab_G := fun as st k => match as with
  | [.ref a0, .int a1] => ab_ri (f_X10_begin a0 a1 st) (fun x t => k [.int x] t)
  | _ => none
theorem o_X10_begin : ab_one g_X10_begin := by
  intro as st k r h
  unfold g_X10_begin at h ⊢
  split at h
  · exact one_ri h
  · cases h
set_option maxRecDepth 100000 in
theorem e_X10_begin_0 (l0 : Nat) (l1 : Int32) (st : ab_S) : f_X10_begin l0 l1 st =
    ab_rc st l0 10 (
    ab_ri (f_X10_isDictionary l1 st) fun x2 s1 =>
    if x2 = 0
    then some (some (.int (-2 : Int32)), s1)
    else Option.bind (ab_gR s1 l0 10 0) fun x3 =>
      Option.bind (ab_rR s1 x3 l1) fun x4 =>
      Option.bind (ab_gR s1 x4 0 0) fun x5 =>
      Option.bind (ab_gI s1 x5 7 3) fun x6 =>
      Option.bind (ab_gR s1 x4 0 0) fun x7 =>
      ab_rv (f_X7_clear x7 s1) fun s8 =>
      Option.bind (ab_pZ s8 x4 0 2 (1 : Int32)) fun s9 =>
      Option.bind (ab_gR s9 l0 10 1) fun x10 =>
      Option.bind (ab_rI s9 x10 l1) fun x11 =>
      Option.bind (ab_wI s9 x10 l1 (x11 + (1 : Int32))) fun s12 =>
      some (some (.int x6), s12)) := congrArg (ab_rc st l0 10) ((lm_eq one_X10_begin 0 _ _ _).trans rfl)
def c_X11_isDictionary : List (Nat × ab_I) := [(0, .iload_n 0, 1, .null, 0),
  (1, .i2l, 1, .null, 0),
  (2, .lconst 0, 1, (.long (0)), 0),
  (3, .ldc2_w 157, 3, (.long (3)), 0),
  (6, .invokestatic 146, 3, .null, 0),
  (9, .ireturn, 1, .null, 0)]
noncomputable def m_X11_isDictionary : ab_M := (c_X11_isDictionary, [(0, [0])],
  [],
  [],
  [(146, 0, 3, g_X11_isIn)],
  [], 1, 2)
theorem one_X11_isDictionary : ab_oneM m_X11_isDictionary := List.forall_mem_cons.mpr ⟨o_X11_isIn, fun _ h => absurd h List.not_mem_nil⟩
noncomputable def f_X11_isDictionary (l0 : Int32) (st : ab_S) : Option ab_R := ab_lim m_X11_isDictionary 0 [.int l0] [] st
noncomputable def g_X11_isDictionary : ab_G := fun as st k => match as with
  | [.int a0] => ab_ri (f_X11_isDictionary a0 st) (fun x t => k [.int x] t)
  | _ => none
theorem o_X11_isDictionary : ab_one g_X11_isDictionary := by
  intro as st k r h
  unfold g_X11_isDictionary at h ⊢
  split at h
  · exact one_ri h
  · cases h
set_option maxRecDepth 100000 in
theorem e_X11_isDictionary_0 (l0 : Int32) (st : ab_S) : f_X11_isDictionary l0 st =
    ab_ri (f_X11_isIn l0.toInt64 (0 : Int64) (3 : Int64) st) fun x2 s1 =>
    ab_z x2 (some (some (.int x2), s1)) := (lm_eq one_X11_isDictionary 0 _ _ _).trans rfl
def c_X11_begin : List (Nat × ab_I) := [(0, .iload_n 1, 1, .null, 1),
  (1, .invokestatic 159, 3, .null, 0),
  (4, .ifCond .ne (6), 3, .null, 10),
  (7, .bipush (-2), 2, (.int (-2)), 0),
  (9, .ireturn, 1, .null, 0),
  (10, .aload_n 0, 1, .null, 0),
  (11, .getfield 24, 3, .null, 0),
  (14, .iload_n 1, 1, .null, 1),
  (15, .iaload, 1, .null, 0),
  (16, .istore_n 2, 1, .null, 2),
  (17, .aload_n 0, 1, .null, 0),
  (18, .getfield 24, 3, .null, 0),
  (21, .iload_n 1, 1, .null, 1),
  (22, .iconst 0, 1, (.int (0)), 0),
  (23, .iastore, 1, .null, 0),
  (24, .aload_n 0, 1, .null, 0),
  (25, .getfield 27, 3, .null, 0),
  (28, .iload_n 1, 1, .null, 1),
  (29, .iconst 1, 1, (.int (1)), 0),
  (30, .bastore, 1, .null, 0),
  (31, .aload_n 0, 1, .null, 0),
  (32, .getfield 31, 3, .null, 0),
  (35, .iload_n 1, 1, .null, 1),
  (36, .dup2, 1, .null, 0),
  (37, .iaload, 1, .null, 0),
  (38, .iconst 1, 1, (.int (1)), 0),
  (39, .iadd, 1, .null, 0),
  (40, .iastore, 1, .null, 0),
  (41, .iload_n 2, 1, .null, 2),
  (42, .ireturn, 1, .null, 0)]
noncomputable def m_X11_begin : ab_M := (c_X11_begin, [(0, [0, 1])],
  [(24, 11, 5, 3), (27, 11, 6, 3), (31, 11, 7, 3)],
  [],
  [(159, 0, 1, g_X11_isDictionary)],
  [], 3, 1)
theorem one_X11_begin : ab_oneM m_X11_begin := List.forall_mem_cons.mpr ⟨o_X11_isDictionary, fun _ h => absurd h List.not_mem_nil⟩
noncomputable def f_X11_begin (l0 : Nat) (l1 : Int32) (st : ab_S) : Option ab_R := ab_rc st l0 11 (ab_lim m_X11_begin 0 [.ref l0, .int l1] [] st)
noncomputable def g_X11_begin : ab_G := fun as st k => match as with
  | [.ref a0, .int a1] => ab_ri (f_X11_begin a0 a1 st) (fun x t => k [.int x] t)
  | _ => none
theorem o_X11_begin : ab_one g_X11_begin := by
  intro as st k r h
  unfold g_X11_begin at h ⊢
  split at h
  · exact one_ri h
  · cases h
set_option maxRecDepth 100000 in
theorem e_X11_begin_0 (l0 : Nat) (l1 : Int32) (st : ab_S) : f_X11_begin l0 l1 st =
    ab_rc st l0 11 (
    ab_ri (f_X11_isDictionary l1 st) fun x2 s1 =>
    if x2 = 0
    then some (some (.int (-2 : Int32)), s1)
    else Option.bind (ab_gR s1 l0 11 5) fun x3 =>
      Option.bind (ab_rI s1 x3 l1) fun x4 =>
      Option.bind (ab_gR s1 l0 11 5) fun x5 =>
      Option.bind (ab_wI s1 x5 l1 (0 : Int32)) fun s6 =>
      Option.bind (ab_gR s6 l0 11 6) fun x7 =>
      Option.bind (ab_wB s6 x7 l1 (1 : Int32)) fun s8 =>
      Option.bind (ab_gR s8 l0 11 7) fun x9 =>
      Option.bind (ab_rI s8 x9 l1) fun x10 =>
      Option.bind (ab_wI s8 x9 l1 (x10 + (1 : Int32))) fun s11 =>
      some (some (.int x4), s11)) := congrArg (ab_rc st l0 11) ((lm_eq one_X11_begin 0 _ _ _).trans rfl)
def c_X7_has : List (Nat × ab_I) := [(0, .iload_n 1, 1, .null, 1),
  (1, .ifCond .lt (22), 3, .null, 23),
  (4, .iload_n 1, 1, .null, 1),
  (5, .aload_n 0, 1, .null, 0),
  (6, .getfield 22, 3, .null, 0),
  (9, .if_icmp .ge (14), 3, .null, 23),
  (12, .iload_n 1, 1, .null, 1),
  (13, .sipush (200), 3, (.int (200)), 0),
  (16, .if_icmp .ge (7), 3, .null, 23),
  (19, .iconst 1, 1, (.int (1)), 0),
  (20, .goto (4), 3, .null, 24),
  (23, .iconst 0, 1, (.int (0)), 0),
  (24, .ireturn, 1, .null, 0)]
noncomputable def m_X7_has : ab_M := (c_X7_has, [(0, [0, 1])],
  [(22, 7, 3, 0)],
  [],
  [],
  [], 2, 2)
theorem one_X7_has : ab_oneM m_X7_has := fun _ h => absurd h List.not_mem_nil
noncomputable def f_X7_has (l0 : Nat) (l1 : Int32) (st : ab_S) : Option ab_R := ab_rc st l0 7 (ab_lim m_X7_has 0 [.ref l0, .int l1] [] st)
noncomputable def g_X7_has : ab_G := fun as st k => match as with
  | [.ref a0, .int a1] => ab_ri (f_X7_has a0 a1 st) (fun x t => k [.int x] t)
  | _ => none
theorem o_X7_has : ab_one g_X7_has := by
  intro as st k r h
  unfold g_X7_has at h ⊢
  split at h
  · exact one_ri h
  · cases h
set_option maxRecDepth 100000 in
theorem e_X7_has_0 (l0 : Nat) (l1 : Int32) (st : ab_S) : f_X7_has l0 l1 st =
    ab_rc st l0 7 (
    if l1 < 0
    then ab_z (0 : Int32) (some (some (.int (0 : Int32)), st))
    else Option.bind (ab_gI st l0 7 3) fun x1 =>
      if x1 ≤ l1
      then ab_z (0 : Int32) (some (some (.int (0 : Int32)), st))
      else if (200 : Int32) ≤ l1
        then ab_z (0 : Int32) (some (some (.int (0 : Int32)), st))
        else ab_z (1 : Int32) (some (some (.int (1 : Int32)), st))) := congrArg (ab_rc st l0 7) ((lm_eq one_X7_has 0 _ _ _).trans rfl)
def c_X7_lengthAt : List (Nat × ab_I) := [(0, .aload_n 0, 1, .null, 0),
  (1, .iload_n 1, 1, .null, 1),
  (2, .invokevirtual 26, 3, .null, 0),
  (5, .ifCond .eq (12), 3, .null, 17),
  (8, .aload_n 0, 1, .null, 0),
  (9, .getfield 9, 3, .null, 0),
  (12, .iload_n 1, 1, .null, 1),
  (13, .iaload, 1, .null, 0),
  (14, .goto (4), 3, .null, 18),
  (17, .iconst (-1), 1, (.int (-1)), 0),
  (18, .ireturn, 1, .null, 0)]
noncomputable def m_X7_lengthAt : ab_M := (c_X7_lengthAt, [(0, [0, 1])],
  [(9, 7, 0, 3)],
  [],
  [(26, 1, 2, g_X7_has)],
  [], 2, 1)
theorem one_X7_lengthAt : ab_oneM m_X7_lengthAt := List.forall_mem_cons.mpr ⟨o_X7_has, fun _ h => absurd h List.not_mem_nil⟩
noncomputable def f_X7_lengthAt (l0 : Nat) (l1 : Int32) (st : ab_S) : Option ab_R := ab_rc st l0 7 (ab_lim m_X7_lengthAt 0 [.ref l0, .int l1] [] st)
noncomputable def g_X7_lengthAt : ab_G := fun as st k => match as with
  | [.ref a0, .int a1] => ab_ri (f_X7_lengthAt a0 a1 st) (fun x t => k [.int x] t)
  | _ => none
theorem o_X7_lengthAt : ab_one g_X7_lengthAt := by
  intro as st k r h
  unfold g_X7_lengthAt at h ⊢
  split at h
  · exact one_ri h
  · cases h
set_option maxRecDepth 100000 in
theorem e_X7_lengthAt_0 (l0 : Nat) (l1 : Int32) (st : ab_S) : f_X7_lengthAt l0 l1 st =
    ab_rc st l0 7 (
    ab_ri (f_X7_has l0 l1 st) fun x2 s1 =>
    if x2 = 0
    then some (some (.int (-1 : Int32)), s1)
    else Option.bind (ab_gR s1 l0 7 0) fun x3 =>
      Option.bind (ab_rI s1 x3 l1) fun x4 =>
      some (some (.int x4), s1)) := congrArg (ab_rc st l0 7) ((lm_eq one_X7_lengthAt 0 _ _ _).trans rfl)
def c_X7_signAt : List (Nat × ab_I) := [(0, .iload_n 2, 1, .null, 2),
  (1, .ifCond .lt (12), 3, .null, 13),
  (4, .iload_n 2, 1, .null, 2),
  (5, .aload_n 0, 1, .null, 0),
  (6, .iload_n 1, 1, .null, 1),
  (7, .invokevirtual 30, 3, .null, 0),
  (10, .if_icmp .lt (7), 3, .null, 17),
  (13, .iconst (-1), 1, (.int (-1)), 0),
  (14, .goto (14), 3, .null, 28),
  (17, .aload_n 0, 1, .null, 0),
  (18, .getfield 15, 3, .null, 0),
  (21, .iload_n 1, 1, .null, 1),
  (22, .bipush (12), 2, (.int (12)), 0),
  (24, .imul, 1, .null, 0),
  (25, .iload_n 2, 1, .null, 2),
  (26, .iadd, 1, .null, 0),
  (27, .iaload, 1, .null, 0),
  (28, .ireturn, 1, .null, 0)]
noncomputable def m_X7_signAt : ab_M := (c_X7_signAt, [(0, [0, 1, 2])],
  [(15, 7, 1, 3)],
  [],
  [(30, 1, 2, g_X7_lengthAt)],
  [], 3, 1)
theorem one_X7_signAt : ab_oneM m_X7_signAt := List.forall_mem_cons.mpr ⟨o_X7_lengthAt, fun _ h => absurd h List.not_mem_nil⟩
noncomputable def f_X7_signAt (l0 : Nat) (l1 : Int32) (l2 : Int32) (st : ab_S) : Option ab_R := ab_rc st l0 7 (ab_lim m_X7_signAt 0 [.ref l0, .int l1, .int l2] [] st)
noncomputable def g_X7_signAt : ab_G := fun as st k => match as with
  | [.ref a0, .int a1, .int a2] => ab_ri (f_X7_signAt a0 a1 a2 st) (fun x t => k [.int x] t)
  | _ => none
theorem o_X7_signAt : ab_one g_X7_signAt := by
  intro as st k r h
  unfold g_X7_signAt at h ⊢
  split at h
  · exact one_ri h
  · cases h
set_option maxRecDepth 100000 in
theorem e_X7_signAt_0 (l0 : Nat) (l1 : Int32) (l2 : Int32) (st : ab_S) : f_X7_signAt l0 l1 l2 st =
    ab_rc st l0 7 (
    if l2 < 0
    then some (some (.int (-1 : Int32)), st)
    else ab_ri (f_X7_lengthAt l0 l1 st) fun x2 s1 =>
      if l2 < x2
      then Option.bind (ab_gR s1 l0 7 1) fun x3 =>
        Option.bind (ab_rI s1 x3 ((l1 * (12 : Int32)) + l2)) fun x4 =>
        some (some (.int x4), s1)
      else some (some (.int (-1 : Int32)), s1)) := congrArg (ab_rc st l0 7) ((lm_eq one_X7_signAt 0 _ _ _).trans rfl)
def c_X6_at : List (Nat × ab_I) := [(0, .iload_n 1, 1, .null, 1),
  (1, .ifCond .lt (20), 3, .null, 21),
  (4, .iload_n 1, 1, .null, 1),
  (5, .aload_n 0, 1, .null, 0),
  (6, .getfield 21, 3, .null, 0),
  (9, .if_icmp .ge (12), 3, .null, 21),
  (12, .iload_n 1, 1, .null, 1),
  (13, .aload_n 0, 1, .null, 0),
  (14, .getfield 15, 3, .null, 0),
  (17, .arraylength, 1, .null, 0),
  (18, .if_icmp .lt (7), 3, .null, 25),
  (21, .iconst (-1), 1, (.int (-1)), 0),
  (22, .goto (9), 3, .null, 31),
  (25, .aload_n 0, 1, .null, 0),
  (26, .getfield 15, 3, .null, 0),
  (29, .iload_n 1, 1, .null, 1),
  (30, .iaload, 1, .null, 0),
  (31, .ireturn, 1, .null, 0)]
noncomputable def m_X6_at : ab_M := (c_X6_at, [(0, [0, 1])],
  [(15, 6, 0, 3), (21, 6, 1, 0)],
  [],
  [],
  [], 2, 1)
theorem one_X6_at : ab_oneM m_X6_at := fun _ h => absurd h List.not_mem_nil
noncomputable def f_X6_at (l0 : Nat) (l1 : Int32) (st : ab_S) : Option ab_R := ab_rc st l0 6 (ab_lim m_X6_at 0 [.ref l0, .int l1] [] st)
noncomputable def g_X6_at : ab_G := fun as st k => match as with
  | [.ref a0, .int a1] => ab_ri (f_X6_at a0 a1 st) (fun x t => k [.int x] t)
  | _ => none
theorem o_X6_at : ab_one g_X6_at := by
  intro as st k r h
  unfold g_X6_at at h ⊢
  split at h
  · exact one_ri h
  · cases h
set_option maxRecDepth 100000 in
theorem e_X6_at_0 (l0 : Nat) (l1 : Int32) (st : ab_S) : f_X6_at l0 l1 st =
    ab_rc st l0 6 (
    if l1 < 0
    then some (some (.int (-1 : Int32)), st)
    else Option.bind (ab_gI st l0 6 1) fun x1 =>
      if x1 ≤ l1
      then some (some (.int (-1 : Int32)), st)
      else Option.bind (ab_gR st l0 6 0) fun x2 =>
        Option.bind (ab_n st x2) fun n3 =>
        if l1 < (Int32.ofNat n3)
        then Option.bind (ab_gR st l0 6 0) fun x4 =>
          Option.bind (ab_rI st x4 l1) fun x5 =>
          some (some (.int x5), st)
        else some (some (.int (-1 : Int32)), st)) := congrArg (ab_rc st l0 6) ((lm_eq one_X6_at 0 _ _ _).trans rfl)
def c_X7_compareWith : List (Nat × ab_I) := [(0, .iconst 0, 1, (.int (0)), 0),
  (1, .istore_n 3, 1, .null, 3),
  (2, .iload_n 3, 1, .null, 3),
  (3, .bipush (12), 2, (.int (12)), 0),
  (5, .if_icmp .gt (52), 3, .null, 57),
  (8, .aload_n 0, 1, .null, 0),
  (9, .iload_n 1, 1, .null, 1),
  (10, .iload_n 3, 1, .null, 3),
  (11, .invokevirtual 42, 3, .null, 0),
  (14, .istore 4, 2, .null, 4),
  (16, .aload_n 2, 1, .null, 2),
  (17, .iload_n 3, 1, .null, 3),
  (18, .invokevirtual 45, 3, .null, 0),
  (21, .istore 5, 2, .null, 5),
  (23, .iload 4, 2, .null, 4),
  (25, .iload 5, 2, .null, 5),
  (27, .if_icmp .eq (16), 3, .null, 43),
  (30, .iload 4, 2, .null, 4),
  (32, .iload 5, 2, .null, 5),
  (34, .if_icmp .ge (7), 3, .null, 41),
  (37, .iconst (-1), 1, (.int (-1)), 0),
  (38, .goto (4), 3, .null, 42),
  (41, .iconst 1, 1, (.int (1)), 0),
  (42, .ireturn, 1, .null, 0),
  (43, .iload 4, 2, .null, 4),
  (45, .iconst (-1), 1, (.int (-1)), 0),
  (46, .if_icmp .ne (5), 3, .null, 51),
  (49, .iconst 0, 1, (.int (0)), 0),
  (50, .ireturn, 1, .null, 0),
  (51, .iinc 3 (1), 3, (.int (1)), 3),
  (54, .goto (-52), 3, .null, 2),
  (57, .iconst 0, 1, (.int (0)), 0),
  (58, .ireturn, 1, .null, 0)]
noncomputable def m_X7_compareWith : ab_M := (c_X7_compareWith, [(0, [0, 1, 2]), (2, [0, 1, 2, 3])],
  [],
  [],
  [(42, 1, 3, g_X7_signAt), (45, 1, 2, g_X6_at)],
  [], 6, 1)
theorem one_X7_compareWith : ab_oneM m_X7_compareWith := List.forall_mem_cons.mpr ⟨o_X7_signAt, List.forall_mem_cons.mpr ⟨o_X6_at, fun _ h => absurd h List.not_mem_nil⟩⟩
noncomputable def f_X7_compareWith (l0 : Nat) (l1 : Int32) (l2 : Nat) (st : ab_S) : Option ab_R := ab_rc st l0 7 (ab_lim m_X7_compareWith 0 [.ref l0, .int l1, .ref l2] [] st)
noncomputable def L_X7_compareWith_2 (l0 : Nat) (l1 : Int32) (l2 : Nat) (l3 : Int32) (st : ab_S) : Option ab_R := ab_lim m_X7_compareWith 2 [.ref l0, .int l1, .ref l2, .int l3] [] st
noncomputable def g_X7_compareWith : ab_G := fun as st k => match as with
  | [.ref a0, .int a1, .ref a2] => ab_ri (f_X7_compareWith a0 a1 a2 st) (fun x t => k [.int x] t)
  | _ => none
theorem o_X7_compareWith : ab_one g_X7_compareWith := by
  intro as st k r h
  unfold g_X7_compareWith at h ⊢
  split at h
  · exact one_ri h
  · cases h
set_option maxRecDepth 100000 in
theorem e_X7_compareWith_0 (l0 : Nat) (l1 : Int32) (l2 : Nat) (st : ab_S) : f_X7_compareWith l0 l1 l2 st =
    ab_rc st l0 7 (
    L_X7_compareWith_2 l0 l1 l2 (0 : Int32) st) := congrArg (ab_rc st l0 7) ((lm_eq one_X7_compareWith 0 _ _ _).trans rfl)
set_option maxRecDepth 100000 in
theorem e_X7_compareWith_2 (l0 : Nat) (l1 : Int32) (l2 : Nat) (l3 : Int32) (st : ab_S) : L_X7_compareWith_2 l0 l1 l2 l3 st =
    if (12 : Int32) < l3
    then some (some (.int (0 : Int32)), st)
    else ab_ri (f_X7_signAt l0 l1 l3 st) fun x2 s1 =>
      ab_ri (f_X6_at l2 l3 s1) fun x4 s3 =>
      if x2 = x4
      then if x2 = (-1 : Int32)
        then some (some (.int (0 : Int32)), s3)
        else L_X7_compareWith_2 l0 l1 l2 (l3 + (1 : Int32)) s3
      else if x4 ≤ x2
        then some (some (.int (1 : Int32)), s3)
        else some (some (.int (-1 : Int32)), s3) := (lm_eq one_X7_compareWith 2 _ _ _).trans rfl
def c_X7_append : List (Nat × ab_I) := [(0, .iload_n 2, 1, .null, 2),
  (1, .ifCond .lt (19), 3, .null, 20),
  (4, .iload_n 3, 1, .null, 3),
  (5, .ifCond .lt (15), 3, .null, 20),
  (8, .iload_n 2, 1, .null, 2),
  (9, .aload_n 1, 1, .null, 1),
  (10, .arraylength, 1, .null, 0),
  (11, .iload_n 3, 1, .null, 3),
  (12, .isub, 1, .null, 0),
  (13, .if_icmp .gt (7), 3, .null, 20),
  (16, .iconst 1, 1, (.int (1)), 0),
  (17, .goto (4), 3, .null, 21),
  (20, .iconst 0, 1, (.int (0)), 0),
  (21, .istore 6, 2, .null, 6),
  (23, .aload_n 0, 1, .null, 0),
  (24, .getfield 22, 3, .null, 0),
  (27, .sipush (200), 3, (.int (200)), 0),
  (30, .if_icmp .ge (14), 3, .null, 44),
  (33, .iload_n 3, 1, .null, 3),
  (34, .bipush (12), 2, (.int (12)), 0),
  (36, .if_icmp .gt (8), 3, .null, 44),
  (39, .iload 6, 2, .null, 6),
  (41, .ifCond .ne (5), 3, .null, 46),
  (44, .iconst 0, 1, (.int (0)), 0),
  (45, .ireturn, 1, .null, 0),
  (46, .iconst 0, 1, (.int (0)), 0),
  (47, .istore 7, 2, .null, 7),
  (49, .iload 7, 2, .null, 7),
  (51, .iload_n 3, 1, .null, 3),
  (52, .if_icmp .ge (30), 3, .null, 82),
  (55, .aload_n 0, 1, .null, 0),
  (56, .getfield 15, 3, .null, 0),
  (59, .aload_n 0, 1, .null, 0),
  (60, .getfield 22, 3, .null, 0),
  (63, .bipush (12), 2, (.int (12)), 0),
  (65, .imul, 1, .null, 0),
  (66, .iload 7, 2, .null, 7),
  (68, .iadd, 1, .null, 0),
  (69, .aload_n 1, 1, .null, 1),
  (70, .iload_n 2, 1, .null, 2),
  (71, .iload 7, 2, .null, 7),
  (73, .iadd, 1, .null, 0),
  (74, .iaload, 1, .null, 0),
  (75, .iastore, 1, .null, 0),
  (76, .iinc 7 (1), 3, (.int (1)), 7),
  (79, .goto (-30), 3, .null, 49),
  (82, .aload_n 0, 1, .null, 0),
  (83, .getfield 9, 3, .null, 0),
  (86, .aload_n 0, 1, .null, 0),
  (87, .getfield 22, 3, .null, 0),
  (90, .iload_n 3, 1, .null, 3),
  (91, .iastore, 1, .null, 0),
  (92, .aload_n 0, 1, .null, 0),
  (93, .getfield 18, 3, .null, 0),
  (96, .aload_n 0, 1, .null, 0),
  (97, .getfield 22, 3, .null, 0),
  (100, .lload 4, 2, .null, 4),
  (102, .lastore, 1, .null, 0),
  (103, .aload_n 0, 1, .null, 0),
  (104, .dup, 1, .null, 0),
  (105, .getfield 22, 3, .null, 0),
  (108, .iconst 1, 1, (.int (1)), 0),
  (109, .iadd, 1, .null, 0),
  (110, .putfield 22, 3, .null, 0),
  (113, .iconst 1, 1, (.int (1)), 0),
  (114, .ireturn, 1, .null, 0)]
noncomputable def m_X7_append : ab_M := (c_X7_append, [(0, [0, 1, 2, 3, 4]), (20, [0, 1, 2, 3, 4]), (21, [0, 1, 2, 3, 4]), (49, [0, 1, 2, 3, 4, 7])],
  [(9, 7, 0, 3), (15, 7, 1, 3), (18, 7, 2, 3), (22, 7, 3, 0)],
  [],
  [],
  [], 8, 2)
theorem one_X7_append : ab_oneM m_X7_append := fun _ h => absurd h List.not_mem_nil
noncomputable def f_X7_append (l0 : Nat) (l1 : Nat) (l2 : Int32) (l3 : Int32) (l4 : Int64) (st : ab_S) : Option ab_R := ab_rc st l0 7 (ab_lim m_X7_append 0 [.ref l0, .ref l1, .int l2, .int l3, .long l4] [] st)
noncomputable def L_X7_append_20 (l0 : Nat) (l1 : Nat) (l2 : Int32) (l3 : Int32) (l4 : Int64) (st : ab_S) : Option ab_R := ab_lim m_X7_append 20 [.ref l0, .ref l1, .int l2, .int l3, .long l4] [] st
noncomputable def L_X7_append_21 (l0 : Nat) (l1 : Nat) (l2 : Int32) (l3 : Int32) (l4 : Int64) (t0 : Int32) (st : ab_S) : Option ab_R := ab_lim m_X7_append 21 [.ref l0, .ref l1, .int l2, .int l3, .long l4] [.int t0] st
noncomputable def L_X7_append_49 (l0 : Nat) (l1 : Nat) (l2 : Int32) (l3 : Int32) (l4 : Int64) (l7 : Int32) (st : ab_S) : Option ab_R := ab_lim m_X7_append 49 [.ref l0, .ref l1, .int l2, .int l3, .long l4, .int l7] [] st
noncomputable def g_X7_append : ab_G := fun as st k => match as with
  | [.ref a0, .ref a1, .int a2, .int a3, .long a4] => ab_ri (f_X7_append a0 a1 a2 a3 a4 st) (fun x t => k [.int x] t)
  | _ => none
theorem o_X7_append : ab_one g_X7_append := by
  intro as st k r h
  unfold g_X7_append at h ⊢
  split at h
  · exact one_ri h
  · cases h
set_option maxRecDepth 100000 in
theorem e_X7_append_0 (l0 : Nat) (l1 : Nat) (l2 : Int32) (l3 : Int32) (l4 : Int64) (st : ab_S) : f_X7_append l0 l1 l2 l3 l4 st =
    ab_rc st l0 7 (
    if l2 < 0
    then L_X7_append_20 l0 l1 l2 l3 l4 st
    else if l3 < 0
      then L_X7_append_20 l0 l1 l2 l3 l4 st
      else Option.bind (ab_n st l1) fun n1 =>
        if ((Int32.ofNat n1) - l3) < l2
        then L_X7_append_20 l0 l1 l2 l3 l4 st
        else L_X7_append_21 l0 l1 l2 l3 l4 (1 : Int32) st) := congrArg (ab_rc st l0 7) ((lm_eq one_X7_append 0 _ _ _).trans rfl)
set_option maxRecDepth 100000 in
theorem e_X7_append_20 (l0 : Nat) (l1 : Nat) (l2 : Int32) (l3 : Int32) (l4 : Int64) (st : ab_S) : L_X7_append_20 l0 l1 l2 l3 l4 st =
    L_X7_append_21 l0 l1 l2 l3 l4 (0 : Int32) st := (lm_eq one_X7_append 20 _ _ _).trans rfl
set_option maxRecDepth 100000 in
theorem e_X7_append_21 (l0 : Nat) (l1 : Nat) (l2 : Int32) (l3 : Int32) (l4 : Int64) (t0 : Int32) (st : ab_S) : L_X7_append_21 l0 l1 l2 l3 l4 t0 st =
    Option.bind (ab_gI st l0 7 3) fun x1 =>
    if (200 : Int32) ≤ x1
    then ab_z (0 : Int32) (some (some (.int (0 : Int32)), st))
    else if (12 : Int32) < l3
      then ab_z (0 : Int32) (some (some (.int (0 : Int32)), st))
      else if t0 = 0
        then ab_z (0 : Int32) (some (some (.int (0 : Int32)), st))
        else L_X7_append_49 l0 l1 l2 l3 l4 (0 : Int32) st := (lm_eq one_X7_append 21 _ _ _).trans rfl
set_option maxRecDepth 100000 in
theorem e_X7_append_49 (l0 : Nat) (l1 : Nat) (l2 : Int32) (l3 : Int32) (l4 : Int64) (l7 : Int32) (st : ab_S) : L_X7_append_49 l0 l1 l2 l3 l4 l7 st =
    if l3 ≤ l7
    then Option.bind (ab_gR st l0 7 0) fun x1 =>
      Option.bind (ab_gI st l0 7 3) fun x2 =>
      Option.bind (ab_wI st x1 x2 l3) fun s3 =>
      Option.bind (ab_gR s3 l0 7 2) fun x4 =>
      Option.bind (ab_gI s3 l0 7 3) fun x5 =>
      Option.bind (ab_wJ s3 x4 x5 l4) fun s6 =>
      Option.bind (ab_gI s6 l0 7 3) fun x7 =>
      Option.bind (ab_pI s6 l0 7 3 (x7 + (1 : Int32))) fun s8 =>
      ab_z (1 : Int32) (some (some (.int (1 : Int32)), s8))
    else Option.bind (ab_gR st l0 7 1) fun x9 =>
      Option.bind (ab_gI st l0 7 3) fun x10 =>
      Option.bind (ab_rI st l1 (l2 + l7)) fun x11 =>
      Option.bind (ab_wI st x9 ((x10 * (12 : Int32)) + l7) x11) fun s12 =>
      L_X7_append_49 l0 l1 l2 l3 l4 (l7 + (1 : Int32)) s12 := (lm_eq one_X7_append 49 _ _ _).trans rfl
end
section
def c_X10_add : List (Nat × ab_I) := [(0, .iload_n 1, 1, .null, 1),
  (1, .invokestatic 95, 3, .null, 0),
  (4, .ifCond .eq (17), 3, .null, 21),
  (7, .lload_n 2, 1, .null, 2),
  (8, .lconst 0, 1, (.long (0)), 0),
  (9, .lcmp, 1, .null, 0),
  (10, .ifCond .lt (11), 3, .null, 21),
  (13, .lload_n 2, 1, .null, 2),
  (14, .ldc2_w 113, 3, (.long (1000000000000)), 0),
  (17, .lcmp, 1, .null, 0),
  (18, .ifCond .le (6), 3, .null, 24),
  (21, .bipush (-2), 2, (.int (-2)), 0),
  (23, .ireturn, 1, .null, 0),
  (24, .aload_n 0, 1, .null, 0),
  (25, .invokevirtual 91, 3, .null, 0),
  (28, .astore 4, 2, .null, 4),
  (30, .aload_n 0, 1, .null, 0),
  (31, .getfield 11, 3, .null, 0),
  (34, .iload_n 1, 1, .null, 1),
  (35, .aaload, 1, .null, 0),
  (36, .getfield 109, 3, .null, 0),
  (39, .ifCond .ne (6), 3, .null, 45),
  (42, .bipush (-4), 2, (.int (-4)), 0),
  (44, .ireturn, 1, .null, 0),
  (45, .aload 4, 2, .null, 4),
  (47, .getfield 85, 3, .null, 0),
  (50, .bipush (12), 2, (.int (12)), 0),
  (52, .if_icmp .le (6), 3, .null, 58),
  (55, .bipush (-6), 2, (.int (-6)), 0),
  (57, .ireturn, 1, .null, 0),
  (58, .aload_n 0, 1, .null, 0),
  (59, .getfield 11, 3, .null, 0),
  (62, .iload_n 1, 1, .null, 1),
  (63, .aaload, 1, .null, 0),
  (64, .getfield 99, 3, .null, 0),
  (67, .astore 5, 2, .null, 5),
  (69, .aload 5, 2, .null, 5),
  (71, .getfield 103, 3, .null, 0),
  (74, .ifCond .le (23), 3, .null, 97),
  (77, .aload 5, 2, .null, 5),
  (79, .aload 5, 2, .null, 5),
  (81, .getfield 103, 3, .null, 0),
  (84, .iconst 1, 1, (.int (1)), 0),
  (85, .isub, 1, .null, 0),
  (86, .aload 4, 2, .null, 4),
  (88, .invokevirtual 115, 3, .null, 0),
  (91, .ifCond .lt (6), 3, .null, 97),
  (94, .bipush (-5), 2, (.int (-5)), 0),
  (96, .ireturn, 1, .null, 0),
  (97, .aload 5, 2, .null, 5),
  (99, .aload 4, 2, .null, 4),
  (101, .getfield 119, 3, .null, 0),
  (104, .iconst 0, 1, (.int (0)), 0),
  (105, .aload 4, 2, .null, 4),
  (107, .getfield 85, 3, .null, 0),
  (110, .lload_n 2, 1, .null, 2),
  (111, .invokevirtual 122, 3, .null, 0),
  (114, .ifCond .eq (11), 3, .null, 125),
  (117, .aload 5, 2, .null, 5),
  (119, .getfield 103, 3, .null, 0),
  (122, .goto (5), 3, .null, 127),
  (125, .bipush (-3), 2, (.int (-3)), 0),
  (127, .ireturn, 1, .null, 0)]
noncomputable def m_X10_add : ab_M := (c_X10_add, [(0, [0, 1, 2]), (97, [2, 4, 5])],
  [(11, 10, 0, 3), (85, 6, 1, 0), (99, 0, 0, 3), (103, 7, 3, 0), (109, 0, 2, 1), (119, 6, 0, 3)],
  [],
  [(91, 1, 1, g_X10_takeCollected), (95, 0, 1, g_X10_isDictionary), (115, 1, 3, g_X7_compareWith), (122, 1, 5, g_X7_append)],
  [], 6, 1)
theorem one_X10_add : ab_oneM m_X10_add := List.forall_mem_cons.mpr ⟨o_X10_takeCollected, List.forall_mem_cons.mpr ⟨o_X10_isDictionary, List.forall_mem_cons.mpr ⟨o_X7_compareWith, List.forall_mem_cons.mpr ⟨o_X7_append, fun _ h => absurd h List.not_mem_nil⟩⟩⟩⟩
noncomputable def f_X10_add (l0 : Nat) (l1 : Int32) (l2 : Int64) (st : ab_S) : Option ab_R := ab_rc st l0 10 (ab_lim m_X10_add 0 [.ref l0, .int l1, .long l2] [] st)
noncomputable def L_X10_add_97 (l2 : Int64) (l4 : Nat) (l5 : Nat) (st : ab_S) : Option ab_R := ab_lim m_X10_add 97 [.long l2, .ref l4, .ref l5] [] st
noncomputable def g_X10_add : ab_G := fun as st k => match as with
  | [.ref a0, .int a1, .long a2] => ab_ri (f_X10_add a0 a1 a2 st) (fun x t => k [.int x] t)
  | _ => none
theorem o_X10_add : ab_one g_X10_add := by
  intro as st k r h
  unfold g_X10_add at h ⊢
  split at h
  · exact one_ri h
  · cases h
set_option maxRecDepth 100000 in
theorem e_X10_add_0 (l0 : Nat) (l1 : Int32) (l2 : Int64) (st : ab_S) : f_X10_add l0 l1 l2 st =
    ab_rc st l0 10 (
    ab_ri (f_X10_isDictionary l1 st) fun x2 s1 =>
    if x2 = 0
    then some (some (.int (-2 : Int32)), s1)
    else if (lg_cmp l2 (0 : Int64)) < 0
      then some (some (.int (-2 : Int32)), s1)
      else if (lg_cmp l2 (1000000000000 : Int64)) ≤ 0
        then ab_rr (f_X10_takeCollected l0 s1) fun x4 s3 =>
          Option.bind (ab_gR s3 l0 10 0) fun x5 =>
          Option.bind (ab_rR s3 x5 l1) fun x6 =>
          Option.bind (ab_gI s3 x6 0 2) fun x7 =>
          if x7 = 0
          then some (some (.int (-4 : Int32)), s3)
          else Option.bind (ab_gI s3 x4 6 1) fun x8 =>
            if x8 ≤ (12 : Int32)
            then Option.bind (ab_gR s3 l0 10 0) fun x9 =>
              Option.bind (ab_rR s3 x9 l1) fun x10 =>
              Option.bind (ab_gR s3 x10 0 0) fun x11 =>
              Option.bind (ab_gI s3 x11 7 3) fun x12 =>
              if x12 ≤ 0
              then L_X10_add_97 l2 x4 x11 s3
              else Option.bind (ab_gI s3 x11 7 3) fun x13 =>
                ab_ri (f_X7_compareWith x11 (x13 - (1 : Int32)) x4 s3) fun x15 s14 =>
                if x15 < 0
                then L_X10_add_97 l2 x4 x11 s14
                else some (some (.int (-5 : Int32)), s14)
            else some (some (.int (-6 : Int32)), s3)
        else some (some (.int (-2 : Int32)), s1)) := congrArg (ab_rc st l0 10) ((lm_eq one_X10_add 0 _ _ _).trans rfl)
set_option maxRecDepth 100000 in
theorem e_X10_add_97 (l2 : Int64) (l4 : Nat) (l5 : Nat) (st : ab_S) : L_X10_add_97 l2 l4 l5 st =
    Option.bind (ab_gR st l4 6 0) fun x1 =>
    Option.bind (ab_gI st l4 6 1) fun x2 =>
    ab_ri (f_X7_append l5 x1 (0 : Int32) x2 l2 st) fun x4 s3 =>
    if x4 = 0
    then some (some (.int (-3 : Int32)), s3)
    else Option.bind (ab_gI s3 l5 7 3) fun x5 =>
      some (some (.int x5), s3) := (lm_eq one_X10_add 97 _ _ _).trans rfl
def c_X11_letter : List (Nat × ab_I) := [(0, .aload_n 0, 1, .null, 0),
  (1, .getfield 13, 3, .null, 0),
  (4, .sipush (200), 3, (.int (200)), 0),
  (7, .iload_n 1, 1, .null, 1),
  (8, .imul, 1, .null, 0),
  (9, .iload_n 2, 1, .null, 2),
  (10, .iadd, 1, .null, 0),
  (11, .bipush (12), 2, (.int (12)), 0),
  (13, .imul, 1, .null, 0),
  (14, .iload_n 3, 1, .null, 3),
  (15, .iadd, 1, .null, 0),
  (16, .baload, 1, .null, 0),
  (17, .sipush (255), 3, (.int (255)), 0),
  (20, .iand, 1, .null, 0),
  (21, .ireturn, 1, .null, 0)]
noncomputable def m_X11_letter : ab_M := (c_X11_letter, [(0, [0, 1, 2, 3])],
  [(13, 11, 2, 3)],
  [],
  [],
  [], 4, 1)
theorem one_X11_letter : ab_oneM m_X11_letter := fun _ h => absurd h List.not_mem_nil
noncomputable def f_X11_letter (l0 : Nat) (l1 : Int32) (l2 : Int32) (l3 : Int32) (st : ab_S) : Option ab_R := ab_rc st l0 11 (ab_lim m_X11_letter 0 [.ref l0, .int l1, .int l2, .int l3] [] st)
noncomputable def g_X11_letter : ab_G := fun as st k => match as with
  | [.ref a0, .int a1, .int a2, .int a3] => ab_ri (f_X11_letter a0 a1 a2 a3 st) (fun x t => k [.int x] t)
  | _ => none
theorem o_X11_letter : ab_one g_X11_letter := by
  intro as st k r h
  unfold g_X11_letter at h ⊢
  split at h
  · exact one_ri h
  · cases h
set_option maxRecDepth 100000 in
theorem e_X11_letter_0 (l0 : Nat) (l1 : Int32) (l2 : Int32) (l3 : Int32) (st : ab_S) : f_X11_letter l0 l1 l2 l3 st =
    ab_rc st l0 11 (
    Option.bind (ab_gR st l0 11 2) fun x1 =>
    Option.bind (ab_rB st x1 (((((200 : Int32) * l1) + l2) * (12 : Int32)) + l3)) fun x2 =>
    some (some (.int (x2 &&& (255 : Int32))), st)) := congrArg (ab_rc st l0 11) ((lm_eq one_X11_letter 0 _ _ _).trans rfl)
def c_X11_compare : List (Nat × ab_I) := [(0, .aload_n 0, 1, .null, 0),
  (1, .getfield 16, 3, .null, 0),
  (4, .sipush (200), 3, (.int (200)), 0),
  (7, .iload_n 1, 1, .null, 1),
  (8, .imul, 1, .null, 0),
  (9, .iload_n 2, 1, .null, 2),
  (10, .iadd, 1, .null, 0),
  (11, .iaload, 1, .null, 0),
  (12, .istore 4, 2, .null, 4),
  (14, .iconst 0, 1, (.int (0)), 0),
  (15, .istore 5, 2, .null, 5),
  (17, .iload 5, 2, .null, 5),
  (19, .iload 4, 2, .null, 4),
  (21, .if_icmp .ge (45), 3, .null, 66),
  (24, .iload 5, 2, .null, 5),
  (26, .iload_n 3, 1, .null, 3),
  (27, .if_icmp .ge (39), 3, .null, 66),
  (30, .aload_n 0, 1, .null, 0),
  (31, .iload_n 1, 1, .null, 1),
  (32, .iload_n 2, 1, .null, 2),
  (33, .iload 5, 2, .null, 5),
  (35, .invokevirtual 153, 3, .null, 0),
  (38, .aload_n 0, 1, .null, 0),
  (39, .getfield 7, 3, .null, 0),
  (42, .iload 5, 2, .null, 5),
  (44, .baload, 1, .null, 0),
  (45, .sipush (255), 3, (.int (255)), 0),
  (48, .iand, 1, .null, 0),
  (49, .isub, 1, .null, 0),
  (50, .istore 6, 2, .null, 6),
  (52, .iload 6, 2, .null, 6),
  (54, .ifCond .eq (6), 3, .null, 60),
  (57, .iload 6, 2, .null, 6),
  (59, .ireturn, 1, .null, 0),
  (60, .iinc 5 (1), 3, (.int (1)), 5),
  (63, .goto (-46), 3, .null, 17),
  (66, .iload 4, 2, .null, 4),
  (68, .iload_n 3, 1, .null, 3),
  (69, .isub, 1, .null, 0),
  (70, .ireturn, 1, .null, 0)]
noncomputable def m_X11_compare : ab_M := (c_X11_compare, [(0, [0, 1, 2, 3]), (17, [0, 1, 2, 3, 4, 5])],
  [(7, 11, 0, 3), (16, 11, 3, 3)],
  [],
  [(153, 1, 4, g_X11_letter)],
  [], 7, 1)
theorem one_X11_compare : ab_oneM m_X11_compare := List.forall_mem_cons.mpr ⟨o_X11_letter, fun _ h => absurd h List.not_mem_nil⟩
noncomputable def f_X11_compare (l0 : Nat) (l1 : Int32) (l2 : Int32) (l3 : Int32) (st : ab_S) : Option ab_R := ab_rc st l0 11 (ab_lim m_X11_compare 0 [.ref l0, .int l1, .int l2, .int l3] [] st)
noncomputable def L_X11_compare_17 (l0 : Nat) (l1 : Int32) (l2 : Int32) (l3 : Int32) (l4 : Int32) (l5 : Int32) (st : ab_S) : Option ab_R := ab_lim m_X11_compare 17 [.ref l0, .int l1, .int l2, .int l3, .int l4, .int l5] [] st
noncomputable def g_X11_compare : ab_G := fun as st k => match as with
  | [.ref a0, .int a1, .int a2, .int a3] => ab_ri (f_X11_compare a0 a1 a2 a3 st) (fun x t => k [.int x] t)
  | _ => none
theorem o_X11_compare : ab_one g_X11_compare := by
  intro as st k r h
  unfold g_X11_compare at h ⊢
  split at h
  · exact one_ri h
  · cases h
set_option maxRecDepth 100000 in
theorem e_X11_compare_0 (l0 : Nat) (l1 : Int32) (l2 : Int32) (l3 : Int32) (st : ab_S) : f_X11_compare l0 l1 l2 l3 st =
    ab_rc st l0 11 (
    Option.bind (ab_gR st l0 11 3) fun x1 =>
    Option.bind (ab_rI st x1 (((200 : Int32) * l1) + l2)) fun x2 =>
    L_X11_compare_17 l0 l1 l2 l3 x2 (0 : Int32) st) := congrArg (ab_rc st l0 11) ((lm_eq one_X11_compare 0 _ _ _).trans rfl)
set_option maxRecDepth 100000 in
theorem e_X11_compare_17 (l0 : Nat) (l1 : Int32) (l2 : Int32) (l3 : Int32) (l4 : Int32) (l5 : Int32) (st : ab_S) : L_X11_compare_17 l0 l1 l2 l3 l4 l5 st =
    if l4 ≤ l5
    then some (some (.int (l4 - l3)), st)
    else if l3 ≤ l5
      then some (some (.int (l4 - l3)), st)
      else ab_ri (f_X11_letter l0 l1 l2 l5 st) fun x2 s1 =>
        Option.bind (ab_gR s1 l0 11 0) fun x3 =>
        Option.bind (ab_rB s1 x3 l5) fun x4 =>
        if (x2 - (x4 &&& (255 : Int32))) = 0
        then L_X11_compare_17 l0 l1 l2 l3 l4 (l5 + (1 : Int32)) s1
        else some (some (.int (x2 - (x4 &&& (255 : Int32)))), s1) := (lm_eq one_X11_compare 17 _ _ _).trans rfl
def c_X11_append : List (Nat × ab_I) := [(0, .sipush (200), 3, (.int (200)), 0),
  (3, .iload_n 1, 1, .null, 1),
  (4, .imul, 1, .null, 0),
  (5, .aload_n 0, 1, .null, 0),
  (6, .getfield 24, 3, .null, 0),
  (9, .iload_n 1, 1, .null, 1),
  (10, .iaload, 1, .null, 0),
  (11, .iadd, 1, .null, 0),
  (12, .istore 7, 2, .null, 7),
  (14, .iconst 0, 1, (.int (0)), 0),
  (15, .istore 8, 2, .null, 8),
  (17, .iload 8, 2, .null, 8),
  (19, .iload 4, 2, .null, 4),
  (21, .if_icmp .ge (28), 3, .null, 49),
  (24, .aload_n 0, 1, .null, 0),
  (25, .getfield 13, 3, .null, 0),
  (28, .bipush (12), 2, (.int (12)), 0),
  (30, .iload 7, 2, .null, 7),
  (32, .imul, 1, .null, 0),
  (33, .iload 8, 2, .null, 8),
  (35, .iadd, 1, .null, 0),
  (36, .aload_n 2, 1, .null, 2),
  (37, .iload_n 3, 1, .null, 3),
  (38, .iload 8, 2, .null, 8),
  (40, .iadd, 1, .null, 0),
  (41, .baload, 1, .null, 0),
  (42, .bastore, 1, .null, 0),
  (43, .iinc 8 (1), 3, (.int (1)), 8),
  (46, .goto (-29), 3, .null, 17),
  (49, .aload_n 0, 1, .null, 0),
  (50, .getfield 16, 3, .null, 0),
  (53, .iload 7, 2, .null, 7),
  (55, .iload 4, 2, .null, 4),
  (57, .iastore, 1, .null, 0),
  (58, .aload_n 0, 1, .null, 0),
  (59, .getfield 20, 3, .null, 0),
  (62, .iload 7, 2, .null, 7),
  (64, .lload 5, 2, .null, 5),
  (66, .lastore, 1, .null, 0),
  (67, .aload_n 0, 1, .null, 0),
  (68, .getfield 24, 3, .null, 0),
  (71, .iload_n 1, 1, .null, 1),
  (72, .dup2, 1, .null, 0),
  (73, .iaload, 1, .null, 0),
  (74, .iconst 1, 1, (.int (1)), 0),
  (75, .iadd, 1, .null, 0),
  (76, .iastore, 1, .null, 0),
  (77, .return_, 1, .null, 0)]
noncomputable def m_X11_append : ab_M := (c_X11_append, [(0, [0, 1, 2, 3, 4, 5]), (17, [0, 1, 2, 3, 4, 5, 7, 8])],
  [(13, 11, 2, 3), (16, 11, 3, 3), (20, 11, 4, 3), (24, 11, 5, 3)],
  [],
  [],
  [], 9, 0)
theorem one_X11_append : ab_oneM m_X11_append := fun _ h => absurd h List.not_mem_nil
noncomputable def f_X11_append (l0 : Nat) (l1 : Int32) (l2 : Nat) (l3 : Int32) (l4 : Int32) (l5 : Int64) (st : ab_S) : Option ab_R := ab_rc st l0 11 (ab_lim m_X11_append 0 [.ref l0, .int l1, .ref l2, .int l3, .int l4, .long l5] [] st)
noncomputable def L_X11_append_17 (l0 : Nat) (l1 : Int32) (l2 : Nat) (l3 : Int32) (l4 : Int32) (l5 : Int64) (l7 : Int32) (l8 : Int32) (st : ab_S) : Option ab_R := ab_lim m_X11_append 17 [.ref l0, .int l1, .ref l2, .int l3, .int l4, .long l5, .int l7, .int l8] [] st
noncomputable def g_X11_append : ab_G := fun as st k => match as with
  | [.ref a0, .int a1, .ref a2, .int a3, .int a4, .long a5] => ab_rv (f_X11_append a0 a1 a2 a3 a4 a5 st) (fun t => k [] t)
  | _ => none
theorem o_X11_append : ab_one g_X11_append := by
  intro as st k r h
  unfold g_X11_append at h ⊢
  split at h
  · exact one_rv h
  · cases h
set_option maxRecDepth 100000 in
theorem e_X11_append_0 (l0 : Nat) (l1 : Int32) (l2 : Nat) (l3 : Int32) (l4 : Int32) (l5 : Int64) (st : ab_S) : f_X11_append l0 l1 l2 l3 l4 l5 st =
    ab_rc st l0 11 (
    Option.bind (ab_gR st l0 11 5) fun x1 =>
    Option.bind (ab_rI st x1 l1) fun x2 =>
    L_X11_append_17 l0 l1 l2 l3 l4 l5 (((200 : Int32) * l1) + x2) (0 : Int32) st) := congrArg (ab_rc st l0 11) ((lm_eq one_X11_append 0 _ _ _).trans rfl)
set_option maxRecDepth 100000 in
theorem e_X11_append_17 (l0 : Nat) (l1 : Int32) (l2 : Nat) (l3 : Int32) (l4 : Int32) (l5 : Int64) (l7 : Int32) (l8 : Int32) (st : ab_S) : L_X11_append_17 l0 l1 l2 l3 l4 l5 l7 l8 st =
    if l4 ≤ l8
    then Option.bind (ab_gR st l0 11 3) fun x1 =>
      Option.bind (ab_wI st x1 l7 l4) fun s2 =>
      Option.bind (ab_gR s2 l0 11 4) fun x3 =>
      Option.bind (ab_wJ s2 x3 l7 l5) fun s4 =>
      Option.bind (ab_gR s4 l0 11 5) fun x5 =>
      Option.bind (ab_rI s4 x5 l1) fun x6 =>
      Option.bind (ab_wI s4 x5 l1 (x6 + (1 : Int32))) fun s7 =>
      some (none, s7)
    else Option.bind (ab_gR st l0 11 2) fun x8 =>
      Option.bind (ab_rB st l2 (l3 + l8)) fun x9 =>
      Option.bind (ab_wB st x8 (((12 : Int32) * l7) + l8) x9) fun s10 =>
      L_X11_append_17 l0 l1 l2 l3 l4 l5 l7 (l8 + (1 : Int32)) s10 := (lm_eq one_X11_append 17 _ _ _).trans rfl
def c_X11_add : List (Nat × ab_I) := [(0, .iload_n 1, 1, .null, 1),
  (1, .invokestatic 159, 3, .null, 0),
  (4, .ifCond .eq (14), 3, .null, 18),
  (7, .lload_n 2, 1, .null, 2),
  (8, .lconst 0, 1, (.long (0)), 0),
  (9, .ldc2_w 163, 3, (.long (1000000000000)), 0),
  (12, .invokestatic 146, 3, .null, 0),
  (15, .ifCond .ne (6), 3, .null, 21),
  (18, .bipush (-2), 2, (.int (-2)), 0),
  (20, .ireturn, 1, .null, 0),
  (21, .aload_n 0, 1, .null, 0),
  (22, .invokevirtual 165, 3, .null, 0),
  (25, .istore 4, 2, .null, 4),
  (27, .aload_n 0, 1, .null, 0),
  (28, .getfield 27, 3, .null, 0),
  (31, .iload_n 1, 1, .null, 1),
  (32, .baload, 1, .null, 0),
  (33, .ifCond .ne (6), 3, .null, 39),
  (36, .bipush (-4), 2, (.int (-4)), 0),
  (38, .ireturn, 1, .null, 0),
  (39, .iload 4, 2, .null, 4),
  (41, .bipush (12), 2, (.int (12)), 0),
  (43, .if_icmp .le (6), 3, .null, 49),
  (46, .bipush (-6), 2, (.int (-6)), 0),
  (48, .ireturn, 1, .null, 0),
  (49, .aload_n 0, 1, .null, 0),
  (50, .getfield 24, 3, .null, 0),
  (53, .iload_n 1, 1, .null, 1),
  (54, .iaload, 1, .null, 0),
  (55, .ifCond .le (24), 3, .null, 79),
  (58, .aload_n 0, 1, .null, 0),
  (59, .iload_n 1, 1, .null, 1),
  (60, .aload_n 0, 1, .null, 0),
  (61, .getfield 24, 3, .null, 0),
  (64, .iload_n 1, 1, .null, 1),
  (65, .iaload, 1, .null, 0),
  (66, .iconst 1, 1, (.int (1)), 0),
  (67, .isub, 1, .null, 0),
  (68, .iload 4, 2, .null, 4),
  (70, .invokevirtual 169, 3, .null, 0),
  (73, .ifCond .lt (6), 3, .null, 79),
  (76, .bipush (-5), 2, (.int (-5)), 0),
  (78, .ireturn, 1, .null, 0),
  (79, .aload_n 0, 1, .null, 0),
  (80, .getfield 24, 3, .null, 0),
  (83, .iload_n 1, 1, .null, 1),
  (84, .iaload, 1, .null, 0),
  (85, .sipush (200), 3, (.int (200)), 0),
  (88, .if_icmp .ne (6), 3, .null, 94),
  (91, .bipush (-3), 2, (.int (-3)), 0),
  (93, .ireturn, 1, .null, 0),
  (94, .aload_n 0, 1, .null, 0),
  (95, .iload_n 1, 1, .null, 1),
  (96, .aload_n 0, 1, .null, 0),
  (97, .getfield 7, 3, .null, 0),
  (100, .iconst 0, 1, (.int (0)), 0),
  (101, .iload 4, 2, .null, 4),
  (103, .lload_n 2, 1, .null, 2),
  (104, .invokevirtual 172, 3, .null, 0),
  (107, .aload_n 0, 1, .null, 0),
  (108, .getfield 24, 3, .null, 0),
  (111, .iload_n 1, 1, .null, 1),
  (112, .iaload, 1, .null, 0),
  (113, .ireturn, 1, .null, 0)]
noncomputable def m_X11_add : ab_M := (c_X11_add, [(0, [0, 1, 2]), (79, [0, 1, 2, 4])],
  [(7, 11, 0, 3), (24, 11, 5, 3), (27, 11, 6, 3)],
  [],
  [(146, 0, 3, g_X11_isIn), (159, 0, 1, g_X11_isDictionary), (165, 1, 1, g_X11_forget), (169, 1, 4, g_X11_compare), (172, 1, 6, g_X11_append)],
  [], 5, 1)
theorem one_X11_add : ab_oneM m_X11_add := List.forall_mem_cons.mpr ⟨o_X11_isIn, List.forall_mem_cons.mpr ⟨o_X11_isDictionary, List.forall_mem_cons.mpr ⟨o_X11_forget, List.forall_mem_cons.mpr ⟨o_X11_compare, List.forall_mem_cons.mpr ⟨o_X11_append, fun _ h => absurd h List.not_mem_nil⟩⟩⟩⟩⟩
noncomputable def f_X11_add (l0 : Nat) (l1 : Int32) (l2 : Int64) (st : ab_S) : Option ab_R := ab_rc st l0 11 (ab_lim m_X11_add 0 [.ref l0, .int l1, .long l2] [] st)
noncomputable def L_X11_add_79 (l0 : Nat) (l1 : Int32) (l2 : Int64) (l4 : Int32) (st : ab_S) : Option ab_R := ab_lim m_X11_add 79 [.ref l0, .int l1, .long l2, .int l4] [] st
noncomputable def g_X11_add : ab_G := fun as st k => match as with
  | [.ref a0, .int a1, .long a2] => ab_ri (f_X11_add a0 a1 a2 st) (fun x t => k [.int x] t)
  | _ => none
theorem o_X11_add : ab_one g_X11_add := by
  intro as st k r h
  unfold g_X11_add at h ⊢
  split at h
  · exact one_ri h
  · cases h
set_option maxRecDepth 100000 in
theorem e_X11_add_0 (l0 : Nat) (l1 : Int32) (l2 : Int64) (st : ab_S) : f_X11_add l0 l1 l2 st =
    ab_rc st l0 11 (
    ab_ri (f_X11_isDictionary l1 st) fun x2 s1 =>
    if x2 = 0
    then some (some (.int (-2 : Int32)), s1)
    else ab_ri (f_X11_isIn l2 (0 : Int64) (1000000000000 : Int64) s1) fun x4 s3 =>
      if x4 = 0
      then some (some (.int (-2 : Int32)), s3)
      else ab_ri (f_X11_forget l0 s3) fun x6 s5 =>
        Option.bind (ab_gR s5 l0 11 6) fun x7 =>
        Option.bind (ab_rB s5 x7 l1) fun x8 =>
        if x8 = 0
        then some (some (.int (-4 : Int32)), s5)
        else if x6 ≤ (12 : Int32)
          then Option.bind (ab_gR s5 l0 11 5) fun x9 =>
            Option.bind (ab_rI s5 x9 l1) fun x10 =>
            if x10 ≤ 0
            then L_X11_add_79 l0 l1 l2 x6 s5
            else Option.bind (ab_gR s5 l0 11 5) fun x11 =>
              Option.bind (ab_rI s5 x11 l1) fun x12 =>
              ab_ri (f_X11_compare l0 l1 (x12 - (1 : Int32)) x6 s5) fun x14 s13 =>
              if x14 < 0
              then L_X11_add_79 l0 l1 l2 x6 s13
              else some (some (.int (-5 : Int32)), s13)
          else some (some (.int (-6 : Int32)), s5)) := congrArg (ab_rc st l0 11) ((lm_eq one_X11_add 0 _ _ _).trans rfl)
set_option maxRecDepth 100000 in
theorem e_X11_add_79 (l0 : Nat) (l1 : Int32) (l2 : Int64) (l4 : Int32) (st : ab_S) : L_X11_add_79 l0 l1 l2 l4 st =
    Option.bind (ab_gR st l0 11 5) fun x1 =>
    Option.bind (ab_rI st x1 l1) fun x2 =>
    if x2 = (200 : Int32)
    then some (some (.int (-3 : Int32)), st)
    else Option.bind (ab_gR st l0 11 0) fun x3 =>
      ab_rv (f_X11_append l0 l1 x3 (0 : Int32) l4 l2 st) fun s4 =>
      Option.bind (ab_gR s4 l0 11 5) fun x5 =>
      Option.bind (ab_rI s4 x5 l1) fun x6 =>
      some (some (.int x6), s4) := (lm_eq one_X11_add 79 _ _ _).trans rfl
def c_J_min : List (Nat × ab_I) := [(0, .iload_n 0, 1, .null, 0),
  (1, .iload_n 1, 1, .null, 1),
  (2, .if_icmp .gt (7), 3, .null, 9),
  (5, .iload_n 0, 1, .null, 0),
  (6, .goto (4), 3, .null, 10),
  (9, .iload_n 1, 1, .null, 1),
  (10, .ireturn, 1, .null, 0)]
noncomputable def m_J_min : ab_M := (c_J_min, [(0, [0, 1])],
  [],
  [],
  [],
  [], 2, 1)
theorem one_J_min : ab_oneM m_J_min := fun _ h => absurd h List.not_mem_nil
noncomputable def f_J_min (l0 : Int32) (l1 : Int32) (st : ab_S) : Option ab_R := ab_lim m_J_min 0 [.int l0, .int l1] [] st
noncomputable def g_J_min : ab_G := fun as st k => match as with
  | [.int a0, .int a1] => ab_ri (f_J_min a0 a1 st) (fun x t => k [.int x] t)
  | _ => none
theorem o_J_min : ab_one g_J_min := by
  intro as st k r h
  unfold g_J_min at h ⊢
  split at h
  · exact one_ri h
  · cases h
set_option maxRecDepth 100000 in
theorem e_J_min_0 (l0 : Int32) (l1 : Int32) (st : ab_S) : f_J_min l0 l1 st =
    if l1 < l0
    then some (some (.int l1), st)
    else some (some (.int l0), st) := (lm_eq one_J_min 0 _ _ _).trans rfl
def c_X8_grow : List (Nat × ab_I) := [(0, .aload_n 0, 1, .null, 0),
  (1, .getfield 76, 3, .null, 0),
  (4, .sipush (2400), 3, (.int (2400)), 0),
  (7, .invokestatic 93, 3, .null, 0),
  (10, .istore 5, 2, .null, 5),
  (12, .aload_n 0, 1, .null, 0),
  (13, .getfield 9, 3, .null, 0),
  (16, .iload 5, 2, .null, 5),
  (18, .iload_n 1, 1, .null, 1),
  (19, .iastore, 1, .null, 0),
  (20, .aload_n 0, 1, .null, 0),
  (21, .getfield 15, 3, .null, 0),
  (24, .iload 5, 2, .null, 5),
  (26, .iload_n 2, 1, .null, 2),
  (27, .iastore, 1, .null, 0),
  (28, .aload_n 0, 1, .null, 0),
  (29, .getfield 18, 3, .null, 0),
  (32, .iload 5, 2, .null, 5),
  (34, .iconst 0, 1, (.int (0)), 0),
  (35, .iastore, 1, .null, 0),
  (36, .aload_n 0, 1, .null, 0),
  (37, .getfield 21, 3, .null, 0),
  (40, .iload 5, 2, .null, 5),
  (42, .lload_n 3, 1, .null, 3),
  (43, .lastore, 1, .null, 0),
  (44, .aload_n 0, 1, .null, 0),
  (45, .getfield 25, 3, .null, 0),
  (48, .iload 5, 2, .null, 5),
  (50, .ldc2_w 114, 3, (.long (-1)), 0),
  (53, .lastore, 1, .null, 0),
  (54, .aload_n 0, 1, .null, 0),
  (55, .getfield 28, 3, .null, 0),
  (58, .iload 5, 2, .null, 5),
  (60, .iconst (-1), 1, (.int (-1)), 0),
  (61, .iastore, 1, .null, 0),
  (62, .aload_n 0, 1, .null, 0),
  (63, .iload 5, 2, .null, 5),
  (65, .iconst 1, 1, (.int (1)), 0),
  (66, .iadd, 1, .null, 0),
  (67, .putfield 76, 3, .null, 0),
  (70, .iload 5, 2, .null, 5),
  (72, .ireturn, 1, .null, 0)]
noncomputable def m_X8_grow : ab_M := (c_X8_grow, [(0, [0, 1, 2, 3])],
  [(9, 8, 0, 3), (15, 8, 1, 3), (18, 8, 2, 3), (21, 8, 3, 3), (25, 8, 4, 3), (28, 8, 5, 3), (76, 8, 13, 0)],
  [],
  [(93, 0, 2, g_J_min)],
  [], 6, 1)
theorem one_X8_grow : ab_oneM m_X8_grow := List.forall_mem_cons.mpr ⟨o_J_min, fun _ h => absurd h List.not_mem_nil⟩
noncomputable def f_X8_grow (l0 : Nat) (l1 : Int32) (l2 : Int32) (l3 : Int64) (st : ab_S) : Option ab_R := ab_rc st l0 8 (ab_lim m_X8_grow 0 [.ref l0, .int l1, .int l2, .long l3] [] st)
noncomputable def g_X8_grow : ab_G := fun as st k => match as with
  | [.ref a0, .int a1, .int a2, .long a3] => ab_ri (f_X8_grow a0 a1 a2 a3 st) (fun x t => k [.int x] t)
  | _ => none
theorem o_X8_grow : ab_one g_X8_grow := by
  intro as st k r h
  unfold g_X8_grow at h ⊢
  split at h
  · exact one_ri h
  · cases h
set_option maxRecDepth 100000 in
theorem e_X8_grow_0 (l0 : Nat) (l1 : Int32) (l2 : Int32) (l3 : Int64) (st : ab_S) : f_X8_grow l0 l1 l2 l3 st =
    ab_rc st l0 8 (
    Option.bind (ab_gI st l0 8 13) fun x1 =>
    ab_ri (f_J_min x1 (2400 : Int32) st) fun x3 s2 =>
    Option.bind (ab_gR s2 l0 8 0) fun x4 =>
    Option.bind (ab_wI s2 x4 x3 l1) fun s5 =>
    Option.bind (ab_gR s5 l0 8 1) fun x6 =>
    Option.bind (ab_wI s5 x6 x3 l2) fun s7 =>
    Option.bind (ab_gR s7 l0 8 2) fun x8 =>
    Option.bind (ab_wI s7 x8 x3 (0 : Int32)) fun s9 =>
    Option.bind (ab_gR s9 l0 8 3) fun x10 =>
    Option.bind (ab_wJ s9 x10 x3 l3) fun s11 =>
    Option.bind (ab_gR s11 l0 8 4) fun x12 =>
    Option.bind (ab_wJ s11 x12 x3 (-1 : Int64)) fun s13 =>
    Option.bind (ab_gR s13 l0 8 5) fun x14 =>
    Option.bind (ab_wI s13 x14 x3 (-1 : Int32)) fun s15 =>
    Option.bind (ab_pI s15 l0 8 13 (x3 + (1 : Int32))) fun s16 =>
    some (some (.int x3), s16)) := congrArg (ab_rc st l0 8) ((lm_eq one_X8_grow 0 _ _ _).trans rfl)
def c_X8_sharedWithLast : List (Nat × ab_I) := [(0, .iconst 0, 1, (.int (0)), 0),
  (1, .istore_n 3, 1, .null, 3),
  (2, .iload_n 3, 1, .null, 3),
  (3, .iload_n 2, 1, .null, 2),
  (4, .if_icmp .ge (26), 3, .null, 30),
  (7, .aload_n 0, 1, .null, 0),
  (8, .iload_n 1, 1, .null, 1),
  (9, .iload_n 3, 1, .null, 3),
  (10, .invokevirtual 103, 3, .null, 0),
  (13, .aload_n 0, 1, .null, 0),
  (14, .iload_n 1, 1, .null, 1),
  (15, .iconst 1, 1, (.int (1)), 0),
  (16, .isub, 1, .null, 0),
  (17, .iload_n 3, 1, .null, 3),
  (18, .invokevirtual 103, 3, .null, 0),
  (21, .if_icmp .ne (9), 3, .null, 30),
  (24, .iinc 3 (1), 3, (.int (1)), 3),
  (27, .goto (-25), 3, .null, 2),
  (30, .iload_n 3, 1, .null, 3),
  (31, .ireturn, 1, .null, 0)]
noncomputable def m_X8_sharedWithLast : ab_M := (c_X8_sharedWithLast, [(0, [0, 1, 2]), (2, [0, 1, 2, 3])],
  [],
  [],
  [(103, 1, 3, g_X7_signAt)],
  [], 4, 1)
theorem one_X8_sharedWithLast : ab_oneM m_X8_sharedWithLast := List.forall_mem_cons.mpr ⟨o_X7_signAt, fun _ h => absurd h List.not_mem_nil⟩
noncomputable def f_X8_sharedWithLast (l0 : Nat) (l1 : Int32) (l2 : Int32) (st : ab_S) : Option ab_R := ab_lim m_X8_sharedWithLast 0 [.ref l0, .int l1, .int l2] [] st
noncomputable def L_X8_sharedWithLast_2 (l0 : Nat) (l1 : Int32) (l2 : Int32) (l3 : Int32) (st : ab_S) : Option ab_R := ab_lim m_X8_sharedWithLast 2 [.ref l0, .int l1, .int l2, .int l3] [] st
noncomputable def g_X8_sharedWithLast : ab_G := fun as st k => match as with
  | [.ref a0, .int a1, .int a2] => ab_ri (f_X8_sharedWithLast a0 a1 a2 st) (fun x t => k [.int x] t)
  | _ => none
theorem o_X8_sharedWithLast : ab_one g_X8_sharedWithLast := by
  intro as st k r h
  unfold g_X8_sharedWithLast at h ⊢
  split at h
  · exact one_ri h
  · cases h
set_option maxRecDepth 100000 in
theorem e_X8_sharedWithLast_0 (l0 : Nat) (l1 : Int32) (l2 : Int32) (st : ab_S) : f_X8_sharedWithLast l0 l1 l2 st =
    L_X8_sharedWithLast_2 l0 l1 l2 (0 : Int32) st := (lm_eq one_X8_sharedWithLast 0 _ _ _).trans rfl
set_option maxRecDepth 100000 in
theorem e_X8_sharedWithLast_2 (l0 : Nat) (l1 : Int32) (l2 : Int32) (l3 : Int32) (st : ab_S) : L_X8_sharedWithLast_2 l0 l1 l2 l3 st =
    if l2 ≤ l3
    then some (some (.int l3), st)
    else ab_ri (f_X7_signAt l0 l1 l3 st) fun x2 s1 =>
      ab_ri (f_X7_signAt l0 (l1 - (1 : Int32)) l3 s1) fun x4 s3 =>
      if x2 = x4
      then L_X8_sharedWithLast_2 l0 l1 l2 (l3 + (1 : Int32)) s3
      else some (some (.int l3), s3) := (lm_eq one_X8_sharedWithLast 2 _ _ _).trans rfl
def c_X7_outAt : List (Nat × ab_I) := [(0, .aload_n 0, 1, .null, 0),
  (1, .iload_n 1, 1, .null, 1),
  (2, .invokevirtual 26, 3, .null, 0),
  (5, .ifCond .eq (12), 3, .null, 17),
  (8, .aload_n 0, 1, .null, 0),
  (9, .getfield 18, 3, .null, 0),
  (12, .iload_n 1, 1, .null, 1),
  (13, .laload, 1, .null, 0),
  (14, .goto (6), 3, .null, 20),
  (17, .ldc2_w 34, 3, (.long (-1)), 0),
  (20, .lreturn, 1, .null, 0)]
noncomputable def m_X7_outAt : ab_M := (c_X7_outAt, [(0, [0, 1])],
  [(18, 7, 2, 3)],
  [],
  [(26, 1, 2, g_X7_has)],
  [], 2, 3)
theorem one_X7_outAt : ab_oneM m_X7_outAt := List.forall_mem_cons.mpr ⟨o_X7_has, fun _ h => absurd h List.not_mem_nil⟩
noncomputable def f_X7_outAt (l0 : Nat) (l1 : Int32) (st : ab_S) : Option ab_R := ab_rc st l0 7 (ab_lim m_X7_outAt 0 [.ref l0, .int l1] [] st)
noncomputable def g_X7_outAt : ab_G := fun as st k => match as with
  | [.ref a0, .int a1] => ab_rl (f_X7_outAt a0 a1 st) (fun x t => k [.long x] t)
  | _ => none
theorem o_X7_outAt : ab_one g_X7_outAt := by
  intro as st k r h
  unfold g_X7_outAt at h ⊢
  split at h
  · exact one_rl h
  · cases h
set_option maxRecDepth 100000 in
theorem e_X7_outAt_0 (l0 : Nat) (l1 : Int32) (st : ab_S) : f_X7_outAt l0 l1 st =
    ab_rc st l0 7 (
    ab_ri (f_X7_has l0 l1 st) fun x2 s1 =>
    if x2 = 0
    then some (some (.long (-1 : Int64)), s1)
    else Option.bind (ab_gR s1 l0 7 2) fun x3 =>
      Option.bind (ab_rJ s1 x3 l1) fun x4 =>
      some (some (.long x4), s1)) := congrArg (ab_rc st l0 7) ((lm_eq one_X7_outAt 0 _ _ _).trans rfl)
def c_J_minl : List (Nat × ab_I) := [(0, .lload_n 0, 1, .null, 0),
  (1, .lload_n 2, 1, .null, 2),
  (2, .lcmp, 1, .null, 0),
  (3, .ifCond .gt (7), 3, .null, 10),
  (6, .lload_n 0, 1, .null, 0),
  (7, .goto (4), 3, .null, 11),
  (10, .lload_n 2, 1, .null, 2),
  (11, .lreturn, 1, .null, 0)]
noncomputable def m_J_minl : ab_M := (c_J_minl, [(0, [0, 2])],
  [],
  [],
  [],
  [], 4, 3)
theorem one_J_minl : ab_oneM m_J_minl := fun _ h => absurd h List.not_mem_nil
noncomputable def f_J_minl (l0 : Int64) (l2 : Int64) (st : ab_S) : Option ab_R := ab_lim m_J_minl 0 [.long l0, .long l2] [] st
noncomputable def g_J_minl : ab_G := fun as st k => match as with
  | [.long a0, .long a1] => ab_rl (f_J_minl a0 a1 st) (fun x t => k [.long x] t)
  | _ => none
theorem o_J_minl : ab_one g_J_minl := by
  intro as st k r h
  unfold g_J_minl at h ⊢
  split at h
  · exact one_rl h
  · cases h
set_option maxRecDepth 100000 in
theorem e_J_minl_0 (l0 : Int64) (l2 : Int64) (st : ab_S) : f_J_minl l0 l2 st =
    if 0 < (lg_cmp l0 l2)
    then some (some (.long l2), st)
    else some (some (.long l0), st) := (lm_eq one_J_minl 0 _ _ _).trans rfl
def c_X8_countAlongPath : List (Nat × ab_I) := [(0, .iconst 0, 1, (.int (0)), 0),
  (1, .istore 4, 2, .null, 4),
  (3, .iload 4, 2, .null, 4),
  (5, .iload_n 1, 1, .null, 1),
  (6, .if_icmp .gt (47), 3, .null, 53),
  (9, .aload_n 0, 1, .null, 0),
  (10, .getfield 49, 3, .null, 0),
  (13, .iload 4, 2, .null, 4),
  (15, .iaload, 1, .null, 0),
  (16, .istore 5, 2, .null, 5),
  (18, .aload_n 0, 1, .null, 0),
  (19, .getfield 18, 3, .null, 0),
  (22, .iload 5, 2, .null, 5),
  (24, .dup2, 1, .null, 0),
  (25, .iaload, 1, .null, 0),
  (26, .iconst 1, 1, (.int (1)), 0),
  (27, .iadd, 1, .null, 0),
  (28, .iastore, 1, .null, 0),
  (29, .aload_n 0, 1, .null, 0),
  (30, .getfield 21, 3, .null, 0),
  (33, .iload 5, 2, .null, 5),
  (35, .aload_n 0, 1, .null, 0),
  (36, .getfield 21, 3, .null, 0),
  (39, .iload 5, 2, .null, 5),
  (41, .laload, 1, .null, 0),
  (42, .lload_n 2, 1, .null, 2),
  (43, .invokestatic 116, 3, .null, 0),
  (46, .lastore, 1, .null, 0),
  (47, .iinc 4 (1), 3, (.int (1)), 4),
  (50, .goto (-47), 3, .null, 3),
  (53, .aload_n 0, 1, .null, 0),
  (54, .getfield 25, 3, .null, 0),
  (57, .aload_n 0, 1, .null, 0),
  (58, .getfield 49, 3, .null, 0),
  (61, .iload_n 1, 1, .null, 1),
  (62, .iaload, 1, .null, 0),
  (63, .lload_n 2, 1, .null, 2),
  (64, .lastore, 1, .null, 0),
  (65, .return_, 1, .null, 0)]
noncomputable def m_X8_countAlongPath : ab_M := (c_X8_countAlongPath, [(0, [0, 1, 2]), (3, [0, 1, 2, 4])],
  [(18, 8, 2, 3), (21, 8, 3, 3), (25, 8, 4, 3), (49, 8, 12, 3)],
  [],
  [(116, 0, 2, g_J_minl)],
  [], 6, 0)
theorem one_X8_countAlongPath : ab_oneM m_X8_countAlongPath := List.forall_mem_cons.mpr ⟨o_J_minl, fun _ h => absurd h List.not_mem_nil⟩
noncomputable def f_X8_countAlongPath (l0 : Nat) (l1 : Int32) (l2 : Int64) (st : ab_S) : Option ab_R := ab_rc st l0 8 (ab_lim m_X8_countAlongPath 0 [.ref l0, .int l1, .long l2] [] st)
noncomputable def L_X8_countAlongPath_3 (l0 : Nat) (l1 : Int32) (l2 : Int64) (l4 : Int32) (st : ab_S) : Option ab_R := ab_lim m_X8_countAlongPath 3 [.ref l0, .int l1, .long l2, .int l4] [] st
noncomputable def g_X8_countAlongPath : ab_G := fun as st k => match as with
  | [.ref a0, .int a1, .long a2] => ab_rv (f_X8_countAlongPath a0 a1 a2 st) (fun t => k [] t)
  | _ => none
theorem o_X8_countAlongPath : ab_one g_X8_countAlongPath := by
  intro as st k r h
  unfold g_X8_countAlongPath at h ⊢
  split at h
  · exact one_rv h
  · cases h
set_option maxRecDepth 100000 in
theorem e_X8_countAlongPath_0 (l0 : Nat) (l1 : Int32) (l2 : Int64) (st : ab_S) : f_X8_countAlongPath l0 l1 l2 st =
    ab_rc st l0 8 (
    L_X8_countAlongPath_3 l0 l1 l2 (0 : Int32) st) := congrArg (ab_rc st l0 8) ((lm_eq one_X8_countAlongPath 0 _ _ _).trans rfl)
set_option maxRecDepth 100000 in
theorem e_X8_countAlongPath_3 (l0 : Nat) (l1 : Int32) (l2 : Int64) (l4 : Int32) (st : ab_S) : L_X8_countAlongPath_3 l0 l1 l2 l4 st =
    if l1 < l4
    then Option.bind (ab_gR st l0 8 4) fun x1 =>
      Option.bind (ab_gR st l0 8 12) fun x2 =>
      Option.bind (ab_rI st x2 l1) fun x3 =>
      Option.bind (ab_wJ st x1 x3 l2) fun s4 =>
      some (none, s4)
    else Option.bind (ab_gR st l0 8 12) fun x5 =>
      Option.bind (ab_rI st x5 l4) fun x6 =>
      Option.bind (ab_gR st l0 8 2) fun x7 =>
      Option.bind (ab_rI st x7 x6) fun x8 =>
      Option.bind (ab_wI st x7 x6 (x8 + (1 : Int32))) fun s9 =>
      Option.bind (ab_gR s9 l0 8 3) fun x10 =>
      Option.bind (ab_gR s9 l0 8 3) fun x11 =>
      Option.bind (ab_rJ s9 x11 x6) fun x12 =>
      ab_rl (f_J_minl x12 l2 s9) fun x14 s13 =>
      Option.bind (ab_wJ s13 x10 x6 x14) fun s15 =>
      L_X8_countAlongPath_3 l0 l1 l2 (l4 + (1 : Int32)) s15 := (lm_eq one_X8_countAlongPath 3 _ _ _).trans rfl
def c_X8_plant : List (Nat × ab_I) := [(0, .aload_n 0, 1, .null, 0),
  (1, .iconst 0, 1, (.int (0)), 0),
  (2, .putfield 76, 3, .null, 0),
  (5, .aload_n 0, 1, .null, 0),
  (6, .getfield 49, 3, .null, 0),
  (9, .iconst 0, 1, (.int (0)), 0),
  (10, .aload_n 0, 1, .null, 0),
  (11, .iconst (-1), 1, (.int (-1)), 0),
  (12, .iconst (-1), 1, (.int (-1)), 0),
  (13, .aload_n 1, 1, .null, 1),
  (14, .getfield 80, 3, .null, 0),
  (17, .ifCond .ne (7), 3, .null, 24),
  (20, .lconst 0, 1, (.long (0)), 0),
  (21, .goto (6), 3, .null, 27),
  (24, .ldc2_w 83, 3, (.long (1000000000000)), 0),
  (27, .invokevirtual 85, 3, .null, 0),
  (30, .iastore, 1, .null, 0),
  (31, .iconst 0, 1, (.int (0)), 0),
  (32, .istore_n 2, 1, .null, 2),
  (33, .iload_n 2, 1, .null, 2),
  (34, .aload_n 1, 1, .null, 1),
  (35, .getfield 80, 3, .null, 0),
  (38, .if_icmp .ge (80), 3, .null, 118),
  (41, .aload_n 1, 1, .null, 1),
  (42, .iload_n 2, 1, .null, 2),
  (43, .invokevirtual 89, 3, .null, 0),
  (46, .bipush (12), 2, (.int (12)), 0),
  (48, .invokestatic 93, 3, .null, 0),
  (51, .istore_n 3, 1, .null, 3),
  (52, .aload_n 1, 1, .null, 1),
  (53, .iload_n 2, 1, .null, 2),
  (54, .iload_n 3, 1, .null, 3),
  (55, .invokestatic 99, 3, .null, 0),
  (58, .istore 4, 2, .null, 4),
  (60, .iload 4, 2, .null, 4),
  (62, .iload_n 3, 1, .null, 3),
  (63, .if_icmp .ge (39), 3, .null, 102),
  (66, .aload_n 0, 1, .null, 0),
  (67, .getfield 49, 3, .null, 0),
  (70, .iload 4, 2, .null, 4),
  (72, .iconst 1, 1, (.int (1)), 0),
  (73, .iadd, 1, .null, 0),
  (74, .aload_n 0, 1, .null, 0),
  (75, .aload_n 0, 1, .null, 0),
  (76, .getfield 49, 3, .null, 0),
  (79, .iload 4, 2, .null, 4),
  (81, .iaload, 1, .null, 0),
  (82, .aload_n 1, 1, .null, 1),
  (83, .iload_n 2, 1, .null, 2),
  (84, .iload 4, 2, .null, 4),
  (86, .invokevirtual 103, 3, .null, 0),
  (89, .ldc2_w 83, 3, (.long (1000000000000)), 0),
  (92, .invokevirtual 85, 3, .null, 0),
  (95, .iastore, 1, .null, 0),
  (96, .iinc 4 (1), 3, (.int (1)), 4),
  (99, .goto (-39), 3, .null, 60),
  (102, .aload_n 0, 1, .null, 0),
  (103, .iload_n 3, 1, .null, 3),
  (104, .aload_n 1, 1, .null, 1),
  (105, .iload_n 2, 1, .null, 2),
  (106, .invokevirtual 106, 3, .null, 0),
  (109, .invokevirtual 110, 3, .null, 0),
  (112, .iinc 2 (1), 3, (.int (1)), 2),
  (115, .goto (-82), 3, .null, 33),
  (118, .return_, 1, .null, 0)]
noncomputable def m_X8_plant : ab_M := (c_X8_plant, [(0, [0, 1]), (27, [0, 1]), (33, [0, 1, 2]), (60, [0, 1, 2, 3, 4])],
  [(49, 8, 12, 3), (76, 8, 13, 0), (80, 7, 3, 0)],
  [],
  [(85, 1, 4, g_X8_grow), (89, 1, 2, g_X7_lengthAt), (93, 0, 2, g_J_min), (99, 0, 3, g_X8_sharedWithLast), (103, 1, 3, g_X7_signAt), (106, 1, 2, g_X7_outAt), (110, 1, 3, g_X8_countAlongPath)],
  [], 5, 0)
theorem one_X8_plant : ab_oneM m_X8_plant := List.forall_mem_cons.mpr ⟨o_X8_grow, List.forall_mem_cons.mpr ⟨o_X7_lengthAt, List.forall_mem_cons.mpr ⟨o_J_min, List.forall_mem_cons.mpr ⟨o_X8_sharedWithLast, List.forall_mem_cons.mpr ⟨o_X7_signAt, List.forall_mem_cons.mpr ⟨o_X7_outAt, List.forall_mem_cons.mpr ⟨o_X8_countAlongPath, fun _ h => absurd h List.not_mem_nil⟩⟩⟩⟩⟩⟩⟩
noncomputable def f_X8_plant (l0 : Nat) (l1 : Nat) (st : ab_S) : Option ab_R := ab_rc st l0 8 (ab_lim m_X8_plant 0 [.ref l0, .ref l1] [] st)
noncomputable def L_X8_plant_27 (l0 : Nat) (l1 : Nat) (t0 : Nat) (t1 : Int32) (t2 : Nat) (t3 : Int32) (t4 : Int32) (t5 : Int64) (st : ab_S) : Option ab_R := ab_lim m_X8_plant 27 [.ref l0, .ref l1] [.long t5, .int t4, .int t3, .ref t2, .int t1, .ref t0] st
noncomputable def L_X8_plant_33 (l0 : Nat) (l1 : Nat) (l2 : Int32) (st : ab_S) : Option ab_R := ab_lim m_X8_plant 33 [.ref l0, .ref l1, .int l2] [] st
noncomputable def L_X8_plant_60 (l0 : Nat) (l1 : Nat) (l2 : Int32) (l3 : Int32) (l4 : Int32) (st : ab_S) : Option ab_R := ab_lim m_X8_plant 60 [.ref l0, .ref l1, .int l2, .int l3, .int l4] [] st
noncomputable def g_X8_plant : ab_G := fun as st k => match as with
  | [.ref a0, .ref a1] => ab_rv (f_X8_plant a0 a1 st) (fun t => k [] t)
  | _ => none
theorem o_X8_plant : ab_one g_X8_plant := by
  intro as st k r h
  unfold g_X8_plant at h ⊢
  split at h
  · exact one_rv h
  · cases h
set_option maxRecDepth 100000 in
theorem e_X8_plant_0 (l0 : Nat) (l1 : Nat) (st : ab_S) : f_X8_plant l0 l1 st =
    ab_rc st l0 8 (
    Option.bind (ab_pI st l0 8 13 (0 : Int32)) fun s1 =>
    Option.bind (ab_gR s1 l0 8 12) fun x2 =>
    Option.bind (ab_gI s1 l1 7 3) fun x3 =>
    if x3 = 0
    then L_X8_plant_27 l0 l1 x2 (0 : Int32) l0 (-1 : Int32) (-1 : Int32) (0 : Int64) s1
    else L_X8_plant_27 l0 l1 x2 (0 : Int32) l0 (-1 : Int32) (-1 : Int32) (1000000000000 : Int64) s1) := congrArg (ab_rc st l0 8) ((lm_eq one_X8_plant 0 _ _ _).trans rfl)
set_option maxRecDepth 100000 in
theorem e_X8_plant_27 (l0 : Nat) (l1 : Nat) (t0 : Nat) (t1 : Int32) (t2 : Nat) (t3 : Int32) (t4 : Int32) (t5 : Int64) (st : ab_S) : L_X8_plant_27 l0 l1 t0 t1 t2 t3 t4 t5 st =
    ab_ri (f_X8_grow t2 t3 t4 t5 st) fun x2 s1 =>
    Option.bind (ab_wI s1 t0 t1 x2) fun s3 =>
    L_X8_plant_33 l0 l1 (0 : Int32) s3 := (lm_eq one_X8_plant 27 _ _ _).trans rfl
set_option maxRecDepth 100000 in
theorem e_X8_plant_33 (l0 : Nat) (l1 : Nat) (l2 : Int32) (st : ab_S) : L_X8_plant_33 l0 l1 l2 st =
    Option.bind (ab_gI st l1 7 3) fun x1 =>
    if x1 ≤ l2
    then some (none, st)
    else ab_ri (f_X7_lengthAt l1 l2 st) fun x3 s2 =>
      ab_ri (f_J_min x3 (12 : Int32) s2) fun x5 s4 =>
      ab_ri (f_X8_sharedWithLast l1 l2 x5 s4) fun x7 s6 =>
      L_X8_plant_60 l0 l1 l2 x5 x7 s6 := (lm_eq one_X8_plant 33 _ _ _).trans rfl
set_option maxRecDepth 100000 in
theorem e_X8_plant_60 (l0 : Nat) (l1 : Nat) (l2 : Int32) (l3 : Int32) (l4 : Int32) (st : ab_S) : L_X8_plant_60 l0 l1 l2 l3 l4 st =
    if l3 ≤ l4
    then ab_rl (f_X7_outAt l1 l2 st) fun x2 s1 =>
      ab_rv (f_X8_countAlongPath l0 l3 x2 s1) fun s3 =>
      L_X8_plant_33 l0 l1 (l2 + (1 : Int32)) s3
    else Option.bind (ab_gR st l0 8 12) fun x4 =>
      Option.bind (ab_gR st l0 8 12) fun x5 =>
      Option.bind (ab_rI st x5 l4) fun x6 =>
      ab_ri (f_X7_signAt l1 l2 l4 st) fun x8 s7 =>
      ab_ri (f_X8_grow l0 x6 x8 (1000000000000 : Int64) s7) fun x10 s9 =>
      Option.bind (ab_wI s9 x4 (l4 + (1 : Int32)) x10) fun s11 =>
      L_X8_plant_60 l0 l1 l2 l3 (l4 + (1 : Int32)) s11 := (lm_eq one_X8_plant 60 _ _ _).trans rfl
def c_X8_lastOutput : List (Nat × ab_I) := [(0, .aload_n 0, 1, .null, 0),
  (1, .getfield 25, 3, .null, 0),
  (4, .iload_n 1, 1, .null, 1),
  (5, .laload, 1, .null, 0),
  (6, .ldc2_w 114, 3, (.long (-1)), 0),
  (9, .lcmp, 1, .null, 0),
  (10, .ifCond .ne (9), 3, .null, 19),
  (13, .ldc2_w 114, 3, (.long (-1)), 0),
  (16, .goto (16), 3, .null, 32),
  (19, .aload_n 0, 1, .null, 0),
  (20, .getfield 25, 3, .null, 0),
  (23, .iload_n 1, 1, .null, 1),
  (24, .laload, 1, .null, 0),
  (25, .aload_n 0, 1, .null, 0),
  (26, .getfield 21, 3, .null, 0),
  (29, .iload_n 1, 1, .null, 1),
  (30, .laload, 1, .null, 0),
  (31, .lsub, 1, .null, 0),
  (32, .lreturn, 1, .null, 0)]
noncomputable def m_X8_lastOutput : ab_M := (c_X8_lastOutput, [(0, [0, 1])],
  [(21, 8, 3, 3), (25, 8, 4, 3)],
  [],
  [],
  [], 2, 3)
theorem one_X8_lastOutput : ab_oneM m_X8_lastOutput := fun _ h => absurd h List.not_mem_nil
noncomputable def f_X8_lastOutput (l0 : Nat) (l1 : Int32) (st : ab_S) : Option ab_R := ab_rc st l0 8 (ab_lim m_X8_lastOutput 0 [.ref l0, .int l1] [] st)
noncomputable def g_X8_lastOutput : ab_G := fun as st k => match as with
  | [.ref a0, .int a1] => ab_rl (f_X8_lastOutput a0 a1 st) (fun x t => k [.long x] t)
  | _ => none
theorem o_X8_lastOutput : ab_one g_X8_lastOutput := by
  intro as st k r h
  unfold g_X8_lastOutput at h ⊢
  split at h
  · exact one_rl h
  · cases h
set_option maxRecDepth 100000 in
theorem e_X8_lastOutput_0 (l0 : Nat) (l1 : Int32) (st : ab_S) : f_X8_lastOutput l0 l1 st =
    ab_rc st l0 8 (
    Option.bind (ab_gR st l0 8 4) fun x1 =>
    Option.bind (ab_rJ st x1 l1) fun x2 =>
    if (lg_cmp x2 (-1 : Int64)) = 0
    then some (some (.long (-1 : Int64)), st)
    else Option.bind (ab_gR st l0 8 4) fun x3 =>
      Option.bind (ab_rJ st x3 l1) fun x4 =>
      Option.bind (ab_gR st l0 8 3) fun x5 =>
      Option.bind (ab_rJ st x5 l1) fun x6 =>
      some (some (.long (x4 - x6)), st)) := congrArg (ab_rc st l0 8) ((lm_eq one_X8_lastOutput 0 _ _ _).trans rfl)
def c_X8_output : List (Nat × ab_I) := [(0, .aload_n 0, 1, .null, 0),
  (1, .getfield 21, 3, .null, 0),
  (4, .iload_n 2, 1, .null, 2),
  (5, .laload, 1, .null, 0),
  (6, .aload_n 0, 1, .null, 0),
  (7, .getfield 21, 3, .null, 0),
  (10, .iload_n 1, 1, .null, 1),
  (11, .laload, 1, .null, 0),
  (12, .lsub, 1, .null, 0),
  (13, .lreturn, 1, .null, 0)]
noncomputable def m_X8_output : ab_M := (c_X8_output, [(0, [0, 1, 2])],
  [(21, 8, 3, 3)],
  [],
  [],
  [], 3, 3)
theorem one_X8_output : ab_oneM m_X8_output := fun _ h => absurd h List.not_mem_nil
noncomputable def f_X8_output (l0 : Nat) (l1 : Int32) (l2 : Int32) (st : ab_S) : Option ab_R := ab_rc st l0 8 (ab_lim m_X8_output 0 [.ref l0, .int l1, .int l2] [] st)
noncomputable def g_X8_output : ab_G := fun as st k => match as with
  | [.ref a0, .int a1, .int a2] => ab_rl (f_X8_output a0 a1 a2 st) (fun x t => k [.long x] t)
  | _ => none
theorem o_X8_output : ab_one g_X8_output := by
  intro as st k r h
  unfold g_X8_output at h ⊢
  split at h
  · exact one_rl h
  · cases h
set_option maxRecDepth 100000 in
theorem e_X8_output_0 (l0 : Nat) (l1 : Int32) (l2 : Int32) (st : ab_S) : f_X8_output l0 l1 l2 st =
    ab_rc st l0 8 (
    Option.bind (ab_gR st l0 8 3) fun x1 =>
    Option.bind (ab_rJ st x1 l2) fun x2 =>
    Option.bind (ab_gR st l0 8 3) fun x3 =>
    Option.bind (ab_rJ st x3 l1) fun x4 =>
    some (some (.long (x2 - x4)), st)) := congrArg (ab_rc st l0 8) ((lm_eq one_X8_output 0 _ _ _).trans rfl)
def c_X8_mixed : List (Nat × ab_I) := [(0, .aload_n 0, 1, .null, 0),
  (1, .iload_n 1, 1, .null, 1),
  (2, .invokevirtual 129, 3, .null, 0),
  (5, .lstore_n 2, 1, .null, 2),
  (6, .aload_n 0, 1, .null, 0),
  (7, .getfield 28, 3, .null, 0),
  (10, .iload_n 1, 1, .null, 1),
  (11, .iaload, 1, .null, 0),
  (12, .istore 4, 2, .null, 4),
  (14, .iconst 0, 1, (.int (0)), 0),
  (15, .istore 5, 2, .null, 5),
  (17, .iload 5, 2, .null, 5),
  (19, .sipush (256), 3, (.int (256)), 0),
  (22, .if_icmp .ge (74), 3, .null, 96),
  (25, .iload 4, 2, .null, 4),
  (27, .iconst (-1), 1, (.int (-1)), 0),
  (28, .if_icmp .eq (68), 3, .null, 96),
  (31, .lload_n 2, 1, .null, 2),
  (32, .aload_n 0, 1, .null, 0),
  (33, .getfield 15, 3, .null, 0),
  (36, .iload 4, 2, .null, 4),
  (38, .iaload, 1, .null, 0),
  (39, .i2l, 1, .null, 0),
  (40, .ladd, 1, .null, 0),
  (41, .ldc2_w 136, 3, (.long (-7046029254386353131)), 0),
  (44, .lmul, 1, .null, 0),
  (45, .lstore_n 2, 1, .null, 2),
  (46, .lload_n 2, 1, .null, 2),
  (47, .lload_n 2, 1, .null, 2),
  (48, .bipush (29), 2, (.int (29)), 0),
  (50, .lushr, 1, .null, 0),
  (51, .lxor, 1, .null, 0),
  (52, .aload_n 0, 1, .null, 0),
  (53, .getfield 34, 3, .null, 0),
  (56, .iload 4, 2, .null, 4),
  (58, .iaload, 1, .null, 0),
  (59, .i2l, 1, .null, 0),
  (60, .ladd, 1, .null, 0),
  (61, .ldc2_w 136, 3, (.long (-7046029254386353131)), 0),
  (64, .lmul, 1, .null, 0),
  (65, .lstore_n 2, 1, .null, 2),
  (66, .lload_n 2, 1, .null, 2),
  (67, .lload_n 2, 1, .null, 2),
  (68, .bipush (29), 2, (.int (29)), 0),
  (70, .lushr, 1, .null, 0),
  (71, .lxor, 1, .null, 0),
  (72, .aload_n 0, 1, .null, 0),
  (73, .iload_n 1, 1, .null, 1),
  (74, .iload 4, 2, .null, 4),
  (76, .invokevirtual 132, 3, .null, 0),
  (79, .ladd, 1, .null, 0),
  (80, .lstore_n 2, 1, .null, 2),
  (81, .aload_n 0, 1, .null, 0),
  (82, .getfield 31, 3, .null, 0),
  (85, .iload 4, 2, .null, 4),
  (87, .iaload, 1, .null, 0),
  (88, .istore 4, 2, .null, 4),
  (90, .iinc 5 (1), 3, (.int (1)), 5),
  (93, .goto (-76), 3, .null, 17),
  (96, .lload_n 2, 1, .null, 2),
  (97, .ldc2_w 136, 3, (.long (-7046029254386353131)), 0),
  (100, .lmul, 1, .null, 0),
  (101, .bipush (40), 2, (.int (40)), 0),
  (103, .lushr, 1, .null, 0),
  (104, .l2i, 1, .null, 0),
  (105, .ireturn, 1, .null, 0)]
noncomputable def m_X8_mixed : ab_M := (c_X8_mixed, [(0, [0, 1]), (17, [0, 1, 2, 4, 5]), (96, [2])],
  [(15, 8, 1, 3), (28, 8, 5, 3), (31, 8, 6, 3), (34, 8, 7, 3)],
  [],
  [(129, 1, 2, g_X8_lastOutput), (132, 1, 3, g_X8_output)],
  [], 6, 1)
theorem one_X8_mixed : ab_oneM m_X8_mixed := List.forall_mem_cons.mpr ⟨o_X8_lastOutput, List.forall_mem_cons.mpr ⟨o_X8_output, fun _ h => absurd h List.not_mem_nil⟩⟩
noncomputable def f_X8_mixed (l0 : Nat) (l1 : Int32) (st : ab_S) : Option ab_R := ab_rc st l0 8 (ab_lim m_X8_mixed 0 [.ref l0, .int l1] [] st)
noncomputable def L_X8_mixed_17 (l0 : Nat) (l1 : Int32) (l2 : Int64) (l4 : Int32) (l5 : Int32) (st : ab_S) : Option ab_R := ab_lim m_X8_mixed 17 [.ref l0, .int l1, .long l2, .int l4, .int l5] [] st
noncomputable def L_X8_mixed_96 (l2 : Int64) (st : ab_S) : Option ab_R := ab_lim m_X8_mixed 96 [.long l2] [] st
noncomputable def g_X8_mixed : ab_G := fun as st k => match as with
  | [.ref a0, .int a1] => ab_ri (f_X8_mixed a0 a1 st) (fun x t => k [.int x] t)
  | _ => none
theorem o_X8_mixed : ab_one g_X8_mixed := by
  intro as st k r h
  unfold g_X8_mixed at h ⊢
  split at h
  · exact one_ri h
  · cases h
set_option maxRecDepth 100000 in
theorem e_X8_mixed_0 (l0 : Nat) (l1 : Int32) (st : ab_S) : f_X8_mixed l0 l1 st =
    ab_rc st l0 8 (
    ab_rl (f_X8_lastOutput l0 l1 st) fun x2 s1 =>
    Option.bind (ab_gR s1 l0 8 5) fun x3 =>
    Option.bind (ab_rI s1 x3 l1) fun x4 =>
    L_X8_mixed_17 l0 l1 x2 x4 (0 : Int32) s1) := congrArg (ab_rc st l0 8) ((lm_eq one_X8_mixed 0 _ _ _).trans rfl)
set_option maxRecDepth 100000 in
theorem e_X8_mixed_17 (l0 : Nat) (l1 : Int32) (l2 : Int64) (l4 : Int32) (l5 : Int32) (st : ab_S) : L_X8_mixed_17 l0 l1 l2 l4 l5 st =
    if (256 : Int32) ≤ l5
    then L_X8_mixed_96 l2 st
    else if l4 = (-1 : Int32)
      then L_X8_mixed_96 l2 st
      else Option.bind (ab_gR st l0 8 1) fun x1 =>
        Option.bind (ab_rI st x1 l4) fun x2 =>
        Option.bind (ab_gR st l0 8 7) fun x3 =>
        Option.bind (ab_rI st x3 l4) fun x4 =>
        ab_rl (f_X8_output l0 l1 l4 st) fun x6 s5 =>
        Option.bind (ab_gR s5 l0 8 6) fun x7 =>
        Option.bind (ab_rI s5 x7 l4) fun x8 =>
        L_X8_mixed_17 l0 l1 (((((((l2 + x2.toInt64) * (-7046029254386353131 : Int64)) ^^^ (((l2 + x2.toInt64) * (-7046029254386353131 : Int64)).toUInt64 >>> ((29 : Int32).toInt64.toUInt64 &&& Int64.toUInt64 63)).toInt64) + x4.toInt64) * (-7046029254386353131 : Int64)) ^^^ ((((((l2 + x2.toInt64) * (-7046029254386353131 : Int64)) ^^^ (((l2 + x2.toInt64) * (-7046029254386353131 : Int64)).toUInt64 >>> ((29 : Int32).toInt64.toUInt64 &&& Int64.toUInt64 63)).toInt64) + x4.toInt64) * (-7046029254386353131 : Int64)).toUInt64 >>> ((29 : Int32).toInt64.toUInt64 &&& Int64.toUInt64 63)).toInt64) + x6) x8 (l5 + (1 : Int32)) s5 := (lm_eq one_X8_mixed 17 _ _ _).trans rfl
set_option maxRecDepth 100000 in
theorem e_X8_mixed_96 (l2 : Int64) (st : ab_S) : L_X8_mixed_96 l2 st =
    some (some (.int (((l2 * (-7046029254386353131 : Int64)).toUInt64 >>> ((40 : Int32).toInt64.toUInt64 &&& Int64.toUInt64 63)).toInt64.toInt32)), st) := (lm_eq one_X8_mixed 96 _ _ _).trans rfl
def c_X8_haveSameRest : List (Nat × ab_I) := [(0, .aload_n 0, 1, .null, 0),
  (1, .getfield 18, 3, .null, 0),
  (4, .iload_n 1, 1, .null, 1),
  (5, .iaload, 1, .null, 0),
  (6, .aload_n 0, 1, .null, 0),
  (7, .getfield 18, 3, .null, 0),
  (10, .iload_n 2, 1, .null, 2),
  (11, .iaload, 1, .null, 0),
  (12, .if_icmp .ne (17), 3, .null, 29),
  (15, .aload_n 0, 1, .null, 0),
  (16, .iload_n 1, 1, .null, 1),
  (17, .invokevirtual 129, 3, .null, 0),
  (20, .aload_n 0, 1, .null, 0),
  (21, .iload_n 2, 1, .null, 2),
  (22, .invokevirtual 129, 3, .null, 0),
  (25, .lcmp, 1, .null, 0),
  (26, .ifCond .eq (5), 3, .null, 31),
  (29, .iconst 0, 1, (.int (0)), 0),
  (30, .ireturn, 1, .null, 0),
  (31, .aload_n 0, 1, .null, 0),
  (32, .getfield 28, 3, .null, 0),
  (35, .iload_n 1, 1, .null, 1),
  (36, .iaload, 1, .null, 0),
  (37, .istore_n 3, 1, .null, 3),
  (38, .aload_n 0, 1, .null, 0),
  (39, .getfield 28, 3, .null, 0),
  (42, .iload_n 2, 1, .null, 2),
  (43, .iaload, 1, .null, 0),
  (44, .istore 4, 2, .null, 4),
  (46, .iconst 0, 1, (.int (0)), 0),
  (47, .istore 5, 2, .null, 5),
  (49, .iload 5, 2, .null, 5),
  (51, .sipush (256), 3, (.int (256)), 0),
  (54, .if_icmp .ge (87), 3, .null, 141),
  (57, .iload_n 3, 1, .null, 3),
  (58, .iconst (-1), 1, (.int (-1)), 0),
  (59, .if_icmp .eq (82), 3, .null, 141),
  (62, .iload 4, 2, .null, 4),
  (64, .iconst (-1), 1, (.int (-1)), 0),
  (65, .if_icmp .eq (76), 3, .null, 141),
  (68, .aload_n 0, 1, .null, 0),
  (69, .getfield 15, 3, .null, 0),
  (72, .iload_n 3, 1, .null, 3),
  (73, .iaload, 1, .null, 0),
  (74, .aload_n 0, 1, .null, 0),
  (75, .getfield 15, 3, .null, 0),
  (78, .iload 4, 2, .null, 4),
  (80, .iaload, 1, .null, 0),
  (81, .if_icmp .ne (36), 3, .null, 117),
  (84, .aload_n 0, 1, .null, 0),
  (85, .getfield 34, 3, .null, 0),
  (88, .iload_n 3, 1, .null, 3),
  (89, .iaload, 1, .null, 0),
  (90, .aload_n 0, 1, .null, 0),
  (91, .getfield 34, 3, .null, 0),
  (94, .iload 4, 2, .null, 4),
  (96, .iaload, 1, .null, 0),
  (97, .if_icmp .ne (20), 3, .null, 117),
  (100, .aload_n 0, 1, .null, 0),
  (101, .iload_n 1, 1, .null, 1),
  (102, .iload_n 3, 1, .null, 3),
  (103, .invokevirtual 132, 3, .null, 0),
  (106, .aload_n 0, 1, .null, 0),
  (107, .iload_n 2, 1, .null, 2),
  (108, .iload 4, 2, .null, 4),
  (110, .invokevirtual 132, 3, .null, 0),
  (113, .lcmp, 1, .null, 0),
  (114, .ifCond .eq (5), 3, .null, 119),
  (117, .iconst 0, 1, (.int (0)), 0),
  (118, .ireturn, 1, .null, 0),
  (119, .aload_n 0, 1, .null, 0),
  (120, .getfield 31, 3, .null, 0),
  (123, .iload_n 3, 1, .null, 3),
  (124, .iaload, 1, .null, 0),
  (125, .istore_n 3, 1, .null, 3),
  (126, .aload_n 0, 1, .null, 0),
  (127, .getfield 31, 3, .null, 0),
  (130, .iload 4, 2, .null, 4),
  (132, .iaload, 1, .null, 0),
  (133, .istore 4, 2, .null, 4),
  (135, .iinc 5 (1), 3, (.int (1)), 5),
  (138, .goto (-89), 3, .null, 49),
  (141, .iload_n 3, 1, .null, 3),
  (142, .iconst (-1), 1, (.int (-1)), 0),
  (143, .if_icmp .ne (13), 3, .null, 156),
  (146, .iload 4, 2, .null, 4),
  (148, .iconst (-1), 1, (.int (-1)), 0),
  (149, .if_icmp .ne (7), 3, .null, 156),
  (152, .iconst 1, 1, (.int (1)), 0),
  (153, .goto (4), 3, .null, 157),
  (156, .iconst 0, 1, (.int (0)), 0),
  (157, .ireturn, 1, .null, 0)]
noncomputable def m_X8_haveSameRest : ab_M := (c_X8_haveSameRest, [(0, [0, 1, 2]), (49, [0, 1, 2, 3, 4, 5]), (141, [3, 4])],
  [(15, 8, 1, 3), (18, 8, 2, 3), (28, 8, 5, 3), (31, 8, 6, 3), (34, 8, 7, 3)],
  [],
  [(129, 1, 2, g_X8_lastOutput), (132, 1, 3, g_X8_output)],
  [], 6, 2)
theorem one_X8_haveSameRest : ab_oneM m_X8_haveSameRest := List.forall_mem_cons.mpr ⟨o_X8_lastOutput, List.forall_mem_cons.mpr ⟨o_X8_output, fun _ h => absurd h List.not_mem_nil⟩⟩
noncomputable def f_X8_haveSameRest (l0 : Nat) (l1 : Int32) (l2 : Int32) (st : ab_S) : Option ab_R := ab_rc st l0 8 (ab_lim m_X8_haveSameRest 0 [.ref l0, .int l1, .int l2] [] st)
noncomputable def L_X8_haveSameRest_49 (l0 : Nat) (l1 : Int32) (l2 : Int32) (l3 : Int32) (l4 : Int32) (l5 : Int32) (st : ab_S) : Option ab_R := ab_lim m_X8_haveSameRest 49 [.ref l0, .int l1, .int l2, .int l3, .int l4, .int l5] [] st
noncomputable def L_X8_haveSameRest_141 (l3 : Int32) (l4 : Int32) (st : ab_S) : Option ab_R := ab_lim m_X8_haveSameRest 141 [.int l3, .int l4] [] st
noncomputable def g_X8_haveSameRest : ab_G := fun as st k => match as with
  | [.ref a0, .int a1, .int a2] => ab_ri (f_X8_haveSameRest a0 a1 a2 st) (fun x t => k [.int x] t)
  | _ => none
theorem o_X8_haveSameRest : ab_one g_X8_haveSameRest := by
  intro as st k r h
  unfold g_X8_haveSameRest at h ⊢
  split at h
  · exact one_ri h
  · cases h
set_option maxRecDepth 100000 in
theorem e_X8_haveSameRest_0 (l0 : Nat) (l1 : Int32) (l2 : Int32) (st : ab_S) : f_X8_haveSameRest l0 l1 l2 st =
    ab_rc st l0 8 (
    Option.bind (ab_gR st l0 8 2) fun x1 =>
    Option.bind (ab_rI st x1 l1) fun x2 =>
    Option.bind (ab_gR st l0 8 2) fun x3 =>
    Option.bind (ab_rI st x3 l2) fun x4 =>
    if x2 = x4
    then ab_rl (f_X8_lastOutput l0 l1 st) fun x6 s5 =>
      ab_rl (f_X8_lastOutput l0 l2 s5) fun x8 s7 =>
      if (lg_cmp x6 x8) = 0
      then Option.bind (ab_gR s7 l0 8 5) fun x9 =>
        Option.bind (ab_rI s7 x9 l1) fun x10 =>
        Option.bind (ab_gR s7 l0 8 5) fun x11 =>
        Option.bind (ab_rI s7 x11 l2) fun x12 =>
        L_X8_haveSameRest_49 l0 l1 l2 x10 x12 (0 : Int32) s7
      else ab_z (0 : Int32) (some (some (.int (0 : Int32)), s7))
    else ab_z (0 : Int32) (some (some (.int (0 : Int32)), st))) := congrArg (ab_rc st l0 8) ((lm_eq one_X8_haveSameRest 0 _ _ _).trans rfl)
set_option maxRecDepth 100000 in
theorem e_X8_haveSameRest_49 (l0 : Nat) (l1 : Int32) (l2 : Int32) (l3 : Int32) (l4 : Int32) (l5 : Int32) (st : ab_S) : L_X8_haveSameRest_49 l0 l1 l2 l3 l4 l5 st =
    if (256 : Int32) ≤ l5
    then L_X8_haveSameRest_141 l3 l4 st
    else if l3 = (-1 : Int32)
      then L_X8_haveSameRest_141 l3 l4 st
      else if l4 = (-1 : Int32)
        then L_X8_haveSameRest_141 l3 l4 st
        else Option.bind (ab_gR st l0 8 1) fun x1 =>
          Option.bind (ab_rI st x1 l3) fun x2 =>
          Option.bind (ab_gR st l0 8 1) fun x3 =>
          Option.bind (ab_rI st x3 l4) fun x4 =>
          if x2 = x4
          then Option.bind (ab_gR st l0 8 7) fun x5 =>
            Option.bind (ab_rI st x5 l3) fun x6 =>
            Option.bind (ab_gR st l0 8 7) fun x7 =>
            Option.bind (ab_rI st x7 l4) fun x8 =>
            if x6 = x8
            then ab_rl (f_X8_output l0 l1 l3 st) fun x10 s9 =>
              ab_rl (f_X8_output l0 l2 l4 s9) fun x12 s11 =>
              if (lg_cmp x10 x12) = 0
              then Option.bind (ab_gR s11 l0 8 6) fun x13 =>
                Option.bind (ab_rI s11 x13 l3) fun x14 =>
                Option.bind (ab_gR s11 l0 8 6) fun x15 =>
                Option.bind (ab_rI s11 x15 l4) fun x16 =>
                L_X8_haveSameRest_49 l0 l1 l2 x14 x16 (l5 + (1 : Int32)) s11
              else ab_z (0 : Int32) (some (some (.int (0 : Int32)), s11))
            else ab_z (0 : Int32) (some (some (.int (0 : Int32)), st))
          else ab_z (0 : Int32) (some (some (.int (0 : Int32)), st)) := (lm_eq one_X8_haveSameRest 49 _ _ _).trans rfl
set_option maxRecDepth 100000 in
theorem e_X8_haveSameRest_141 (l3 : Int32) (l4 : Int32) (st : ab_S) : L_X8_haveSameRest_141 l3 l4 st =
    if l3 = (-1 : Int32)
    then if l4 = (-1 : Int32)
      then ab_z (1 : Int32) (some (some (.int (1 : Int32)), st))
      else ab_z (0 : Int32) (some (some (.int (0 : Int32)), st))
    else ab_z (0 : Int32) (some (some (.int (0 : Int32)), st)) := (lm_eq one_X8_haveSameRest 141 _ _ _).trans rfl
def c_X8_firstAlike : List (Nat × ab_I) := [(0, .aload_n 0, 1, .null, 0),
  (1, .getfield 46, 3, .null, 0),
  (4, .iload_n 2, 1, .null, 2),
  (5, .iaload, 1, .null, 0),
  (6, .istore_n 3, 1, .null, 3),
  (7, .iconst 0, 1, (.int (0)), 0),
  (8, .istore 4, 2, .null, 4),
  (10, .iload 4, 2, .null, 4),
  (12, .aload_n 0, 1, .null, 0),
  (13, .getfield 76, 3, .null, 0),
  (16, .if_icmp .ge (32), 3, .null, 48),
  (19, .iload_n 3, 1, .null, 3),
  (20, .iconst (-1), 1, (.int (-1)), 0),
  (21, .if_icmp .eq (27), 3, .null, 48),
  (24, .aload_n 0, 1, .null, 0),
  (25, .iload_n 1, 1, .null, 1),
  (26, .iload_n 3, 1, .null, 3),
  (27, .invokevirtual 125, 3, .null, 0),
  (30, .ifCond .eq (5), 3, .null, 35),
  (33, .iload_n 3, 1, .null, 3),
  (34, .ireturn, 1, .null, 0),
  (35, .aload_n 0, 1, .null, 0),
  (36, .getfield 37, 3, .null, 0),
  (39, .iload_n 3, 1, .null, 3),
  (40, .iaload, 1, .null, 0),
  (41, .istore_n 3, 1, .null, 3),
  (42, .iinc 4 (1), 3, (.int (1)), 4),
  (45, .goto (-35), 3, .null, 10),
  (48, .aload_n 0, 1, .null, 0),
  (49, .getfield 37, 3, .null, 0),
  (52, .iload_n 1, 1, .null, 1),
  (53, .aload_n 0, 1, .null, 0),
  (54, .getfield 46, 3, .null, 0),
  (57, .iload_n 2, 1, .null, 2),
  (58, .iaload, 1, .null, 0),
  (59, .iastore, 1, .null, 0),
  (60, .aload_n 0, 1, .null, 0),
  (61, .getfield 46, 3, .null, 0),
  (64, .iload_n 2, 1, .null, 2),
  (65, .iload_n 1, 1, .null, 1),
  (66, .iastore, 1, .null, 0),
  (67, .iload_n 1, 1, .null, 1),
  (68, .ireturn, 1, .null, 0)]
noncomputable def m_X8_firstAlike : ab_M := (c_X8_firstAlike, [(0, [0, 1, 2]), (10, [0, 1, 2, 3, 4]), (48, [0, 1, 2])],
  [(37, 8, 8, 3), (46, 8, 11, 3), (76, 8, 13, 0)],
  [],
  [(125, 1, 3, g_X8_haveSameRest)],
  [], 5, 1)
theorem one_X8_firstAlike : ab_oneM m_X8_firstAlike := List.forall_mem_cons.mpr ⟨o_X8_haveSameRest, fun _ h => absurd h List.not_mem_nil⟩
noncomputable def f_X8_firstAlike (l0 : Nat) (l1 : Int32) (l2 : Int32) (st : ab_S) : Option ab_R := ab_rc st l0 8 (ab_lim m_X8_firstAlike 0 [.ref l0, .int l1, .int l2] [] st)
noncomputable def L_X8_firstAlike_10 (l0 : Nat) (l1 : Int32) (l2 : Int32) (l3 : Int32) (l4 : Int32) (st : ab_S) : Option ab_R := ab_lim m_X8_firstAlike 10 [.ref l0, .int l1, .int l2, .int l3, .int l4] [] st
noncomputable def L_X8_firstAlike_48 (l0 : Nat) (l1 : Int32) (l2 : Int32) (st : ab_S) : Option ab_R := ab_lim m_X8_firstAlike 48 [.ref l0, .int l1, .int l2] [] st
noncomputable def g_X8_firstAlike : ab_G := fun as st k => match as with
  | [.ref a0, .int a1, .int a2] => ab_ri (f_X8_firstAlike a0 a1 a2 st) (fun x t => k [.int x] t)
  | _ => none
theorem o_X8_firstAlike : ab_one g_X8_firstAlike := by
  intro as st k r h
  unfold g_X8_firstAlike at h ⊢
  split at h
  · exact one_ri h
  · cases h
set_option maxRecDepth 100000 in
theorem e_X8_firstAlike_0 (l0 : Nat) (l1 : Int32) (l2 : Int32) (st : ab_S) : f_X8_firstAlike l0 l1 l2 st =
    ab_rc st l0 8 (
    Option.bind (ab_gR st l0 8 11) fun x1 =>
    Option.bind (ab_rI st x1 l2) fun x2 =>
    L_X8_firstAlike_10 l0 l1 l2 x2 (0 : Int32) st) := congrArg (ab_rc st l0 8) ((lm_eq one_X8_firstAlike 0 _ _ _).trans rfl)
set_option maxRecDepth 100000 in
theorem e_X8_firstAlike_10 (l0 : Nat) (l1 : Int32) (l2 : Int32) (l3 : Int32) (l4 : Int32) (st : ab_S) : L_X8_firstAlike_10 l0 l1 l2 l3 l4 st =
    Option.bind (ab_gI st l0 8 13) fun x1 =>
    if x1 ≤ l4
    then L_X8_firstAlike_48 l0 l1 l2 st
    else if l3 = (-1 : Int32)
      then L_X8_firstAlike_48 l0 l1 l2 st
      else ab_ri (f_X8_haveSameRest l0 l1 l3 st) fun x3 s2 =>
        if x3 = 0
        then Option.bind (ab_gR s2 l0 8 8) fun x4 =>
          Option.bind (ab_rI s2 x4 l3) fun x5 =>
          L_X8_firstAlike_10 l0 l1 l2 x5 (l4 + (1 : Int32)) s2
        else some (some (.int l3), s2) := (lm_eq one_X8_firstAlike 10 _ _ _).trans rfl
set_option maxRecDepth 100000 in
theorem e_X8_firstAlike_48 (l0 : Nat) (l1 : Int32) (l2 : Int32) (st : ab_S) : L_X8_firstAlike_48 l0 l1 l2 st =
    Option.bind (ab_gR st l0 8 8) fun x1 =>
    Option.bind (ab_gR st l0 8 11) fun x2 =>
    Option.bind (ab_rI st x2 l2) fun x3 =>
    Option.bind (ab_wI st x1 l1 x3) fun s4 =>
    Option.bind (ab_gR s4 l0 8 11) fun x5 =>
    Option.bind (ab_wI s4 x5 l2 l1) fun s6 =>
    some (some (.int l1), s6) := (lm_eq one_X8_firstAlike 48 _ _ _).trans rfl
def c_X8_findAlike : List (Nat × ab_I) := [(0, .iconst 1, 1, (.int (1)), 0),
  (1, .istore_n 1, 1, .null, 1),
  (2, .iload_n 1, 1, .null, 1),
  (3, .aload_n 0, 1, .null, 0),
  (4, .getfield 76, 3, .null, 0),
  (7, .if_icmp .ge (17), 3, .null, 24),
  (10, .iload_n 1, 1, .null, 1),
  (11, .sipush (4096), 3, (.int (4096)), 0),
  (14, .if_icmp .ge (10), 3, .null, 24),
  (17, .iload_n 1, 1, .null, 1),
  (18, .iconst 2, 1, (.int (2)), 0),
  (19, .imul, 1, .null, 0),
  (20, .istore_n 1, 1, .null, 1),
  (21, .goto (-19), 3, .null, 2),
  (24, .iconst 0, 1, (.int (0)), 0),
  (25, .istore_n 2, 1, .null, 2),
  (26, .iload_n 2, 1, .null, 2),
  (27, .iload_n 1, 1, .null, 1),
  (28, .if_icmp .ge (16), 3, .null, 44),
  (31, .aload_n 0, 1, .null, 0),
  (32, .getfield 46, 3, .null, 0),
  (35, .iload_n 2, 1, .null, 2),
  (36, .iconst (-1), 1, (.int (-1)), 0),
  (37, .iastore, 1, .null, 0),
  (38, .iinc 2 (1), 3, (.int (1)), 2),
  (41, .goto (-15), 3, .null, 26),
  (44, .aload_n 0, 1, .null, 0),
  (45, .getfield 76, 3, .null, 0),
  (48, .iconst 1, 1, (.int (1)), 0),
  (49, .isub, 1, .null, 0),
  (50, .istore_n 2, 1, .null, 2),
  (51, .iload_n 2, 1, .null, 2),
  (52, .ifCond .lt (59), 3, .null, 111),
  (55, .aload_n 0, 1, .null, 0),
  (56, .getfield 34, 3, .null, 0),
  (59, .iload_n 2, 1, .null, 2),
  (60, .aload_n 0, 1, .null, 0),
  (61, .iload_n 2, 1, .null, 2),
  (62, .aload_n 0, 1, .null, 0),
  (63, .iload_n 2, 1, .null, 2),
  (64, .invokevirtual 119, 3, .null, 0),
  (67, .iload_n 1, 1, .null, 1),
  (68, .iconst 1, 1, (.int (1)), 0),
  (69, .isub, 1, .null, 0),
  (70, .iand, 1, .null, 0),
  (71, .invokevirtual 122, 3, .null, 0),
  (74, .iastore, 1, .null, 0),
  (75, .aload_n 0, 1, .null, 0),
  (76, .getfield 9, 3, .null, 0),
  (79, .iload_n 2, 1, .null, 2),
  (80, .iaload, 1, .null, 0),
  (81, .istore_n 3, 1, .null, 3),
  (82, .iload_n 3, 1, .null, 3),
  (83, .ifCond .lt (22), 3, .null, 105),
  (86, .aload_n 0, 1, .null, 0),
  (87, .getfield 31, 3, .null, 0),
  (90, .iload_n 2, 1, .null, 2),
  (91, .aload_n 0, 1, .null, 0),
  (92, .getfield 28, 3, .null, 0),
  (95, .iload_n 3, 1, .null, 3),
  (96, .iaload, 1, .null, 0),
  (97, .iastore, 1, .null, 0),
  (98, .aload_n 0, 1, .null, 0),
  (99, .getfield 28, 3, .null, 0),
  (102, .iload_n 3, 1, .null, 3),
  (103, .iload_n 2, 1, .null, 2),
  (104, .iastore, 1, .null, 0),
  (105, .iinc 2 (-1), 3, (.int (-1)), 2),
  (108, .goto (-57), 3, .null, 51),
  (111, .return_, 1, .null, 0)]
noncomputable def m_X8_findAlike : ab_M := (c_X8_findAlike, [(0, [0]), (2, [0, 1]), (24, [0, 1]), (26, [0, 1, 2]), (51, [0, 1, 2]), (105, [0, 1, 2])],
  [(9, 8, 0, 3), (28, 8, 5, 3), (31, 8, 6, 3), (34, 8, 7, 3), (46, 8, 11, 3), (76, 8, 13, 0)],
  [],
  [(119, 1, 2, g_X8_mixed), (122, 1, 3, g_X8_firstAlike)],
  [], 4, 0)
theorem one_X8_findAlike : ab_oneM m_X8_findAlike := List.forall_mem_cons.mpr ⟨o_X8_mixed, List.forall_mem_cons.mpr ⟨o_X8_firstAlike, fun _ h => absurd h List.not_mem_nil⟩⟩
noncomputable def f_X8_findAlike (l0 : Nat) (st : ab_S) : Option ab_R := ab_rc st l0 8 (ab_lim m_X8_findAlike 0 [.ref l0] [] st)
noncomputable def L_X8_findAlike_2 (l0 : Nat) (l1 : Int32) (st : ab_S) : Option ab_R := ab_lim m_X8_findAlike 2 [.ref l0, .int l1] [] st
noncomputable def L_X8_findAlike_24 (l0 : Nat) (l1 : Int32) (st : ab_S) : Option ab_R := ab_lim m_X8_findAlike 24 [.ref l0, .int l1] [] st
noncomputable def L_X8_findAlike_26 (l0 : Nat) (l1 : Int32) (l2 : Int32) (st : ab_S) : Option ab_R := ab_lim m_X8_findAlike 26 [.ref l0, .int l1, .int l2] [] st
noncomputable def L_X8_findAlike_51 (l0 : Nat) (l1 : Int32) (l2 : Int32) (st : ab_S) : Option ab_R := ab_lim m_X8_findAlike 51 [.ref l0, .int l1, .int l2] [] st
noncomputable def L_X8_findAlike_105 (l0 : Nat) (l1 : Int32) (l2 : Int32) (st : ab_S) : Option ab_R := ab_lim m_X8_findAlike 105 [.ref l0, .int l1, .int l2] [] st
noncomputable def g_X8_findAlike : ab_G := fun as st k => match as with
  | [.ref a0] => ab_rv (f_X8_findAlike a0 st) (fun t => k [] t)
  | _ => none
theorem o_X8_findAlike : ab_one g_X8_findAlike := by
  intro as st k r h
  unfold g_X8_findAlike at h ⊢
  split at h
  · exact one_rv h
  · cases h
set_option maxRecDepth 100000 in
theorem e_X8_findAlike_0 (l0 : Nat) (st : ab_S) : f_X8_findAlike l0 st =
    ab_rc st l0 8 (
    L_X8_findAlike_2 l0 (1 : Int32) st) := congrArg (ab_rc st l0 8) ((lm_eq one_X8_findAlike 0 _ _ _).trans rfl)
set_option maxRecDepth 100000 in
theorem e_X8_findAlike_2 (l0 : Nat) (l1 : Int32) (st : ab_S) : L_X8_findAlike_2 l0 l1 st =
    Option.bind (ab_gI st l0 8 13) fun x1 =>
    if x1 ≤ l1
    then L_X8_findAlike_24 l0 l1 st
    else if (4096 : Int32) ≤ l1
      then L_X8_findAlike_24 l0 l1 st
      else L_X8_findAlike_2 l0 (l1 * (2 : Int32)) st := (lm_eq one_X8_findAlike 2 _ _ _).trans rfl
set_option maxRecDepth 100000 in
theorem e_X8_findAlike_24 (l0 : Nat) (l1 : Int32) (st : ab_S) : L_X8_findAlike_24 l0 l1 st =
    L_X8_findAlike_26 l0 l1 (0 : Int32) st := (lm_eq one_X8_findAlike 24 _ _ _).trans rfl
set_option maxRecDepth 100000 in
theorem e_X8_findAlike_26 (l0 : Nat) (l1 : Int32) (l2 : Int32) (st : ab_S) : L_X8_findAlike_26 l0 l1 l2 st =
    if l1 ≤ l2
    then Option.bind (ab_gI st l0 8 13) fun x1 =>
      L_X8_findAlike_51 l0 l1 (x1 - (1 : Int32)) st
    else Option.bind (ab_gR st l0 8 11) fun x2 =>
      Option.bind (ab_wI st x2 l2 (-1 : Int32)) fun s3 =>
      L_X8_findAlike_26 l0 l1 (l2 + (1 : Int32)) s3 := (lm_eq one_X8_findAlike 26 _ _ _).trans rfl
set_option maxRecDepth 100000 in
theorem e_X8_findAlike_51 (l0 : Nat) (l1 : Int32) (l2 : Int32) (st : ab_S) : L_X8_findAlike_51 l0 l1 l2 st =
    if l2 < 0
    then some (none, st)
    else Option.bind (ab_gR st l0 8 7) fun x1 =>
      ab_ri (f_X8_mixed l0 l2 st) fun x3 s2 =>
      ab_ri (f_X8_firstAlike l0 l2 (x3 &&& (l1 - (1 : Int32))) s2) fun x5 s4 =>
      Option.bind (ab_wI s4 x1 l2 x5) fun s6 =>
      Option.bind (ab_gR s6 l0 8 0) fun x7 =>
      Option.bind (ab_rI s6 x7 l2) fun x8 =>
      if x8 < 0
      then L_X8_findAlike_105 l0 l1 l2 s6
      else Option.bind (ab_gR s6 l0 8 6) fun x9 =>
        Option.bind (ab_gR s6 l0 8 5) fun x10 =>
        Option.bind (ab_rI s6 x10 x8) fun x11 =>
        Option.bind (ab_wI s6 x9 l2 x11) fun s12 =>
        Option.bind (ab_gR s12 l0 8 5) fun x13 =>
        Option.bind (ab_wI s12 x13 x8 l2) fun s14 =>
        L_X8_findAlike_105 l0 l1 l2 s14 := (lm_eq one_X8_findAlike 51 _ _ _).trans rfl
set_option maxRecDepth 100000 in
theorem e_X8_findAlike_105 (l0 : Nat) (l1 : Int32) (l2 : Int32) (st : ab_S) : L_X8_findAlike_105 l0 l1 l2 st =
    L_X8_findAlike_51 l0 l1 (l2 + (-1 : Int32)) st := (lm_eq one_X8_findAlike 105 _ _ _).trans rfl
def c_X8_numberStates : List (Nat × ab_I) := [(0, .aload_n 0, 1, .null, 0),
  (1, .iconst 0, 1, (.int (0)), 0),
  (2, .putfield 138, 3, .null, 0),
  (5, .iconst 0, 1, (.int (0)), 0),
  (6, .istore_n 1, 1, .null, 1),
  (7, .iload_n 1, 1, .null, 1),
  (8, .aload_n 0, 1, .null, 0),
  (9, .getfield 76, 3, .null, 0),
  (12, .if_icmp .ge (16), 3, .null, 28),
  (15, .aload_n 0, 1, .null, 0),
  (16, .getfield 40, 3, .null, 0),
  (19, .iload_n 1, 1, .null, 1),
  (20, .iconst (-1), 1, (.int (-1)), 0),
  (21, .iastore, 1, .null, 0),
  (22, .iinc 1 (1), 3, (.int (1)), 1),
  (25, .goto (-18), 3, .null, 7),
  (28, .iconst 0, 1, (.int (0)), 0),
  (29, .istore_n 1, 1, .null, 1),
  (30, .iload_n 1, 1, .null, 1),
  (31, .aload_n 0, 1, .null, 0),
  (32, .getfield 76, 3, .null, 0),
  (35, .if_icmp .ge (56), 3, .null, 91),
  (38, .aload_n 0, 1, .null, 0),
  (39, .getfield 34, 3, .null, 0),
  (42, .iload_n 1, 1, .null, 1),
  (43, .iaload, 1, .null, 0),
  (44, .istore_n 2, 1, .null, 2),
  (45, .aload_n 0, 1, .null, 0),
  (46, .getfield 40, 3, .null, 0),
  (49, .iload_n 2, 1, .null, 2),
  (50, .iaload, 1, .null, 0),
  (51, .iconst (-1), 1, (.int (-1)), 0),
  (52, .if_icmp .ne (33), 3, .null, 85),
  (55, .aload_n 0, 1, .null, 0),
  (56, .getfield 40, 3, .null, 0),
  (59, .iload_n 2, 1, .null, 2),
  (60, .aload_n 0, 1, .null, 0),
  (61, .getfield 138, 3, .null, 0),
  (64, .iastore, 1, .null, 0),
  (65, .aload_n 0, 1, .null, 0),
  (66, .getfield 43, 3, .null, 0),
  (69, .aload_n 0, 1, .null, 0),
  (70, .getfield 138, 3, .null, 0),
  (73, .iload_n 2, 1, .null, 2),
  (74, .iastore, 1, .null, 0),
  (75, .aload_n 0, 1, .null, 0),
  (76, .dup, 1, .null, 0),
  (77, .getfield 138, 3, .null, 0),
  (80, .iconst 1, 1, (.int (1)), 0),
  (81, .iadd, 1, .null, 0),
  (82, .putfield 138, 3, .null, 0),
  (85, .iinc 1 (1), 3, (.int (1)), 1),
  (88, .goto (-58), 3, .null, 30),
  (91, .return_, 1, .null, 0)]
noncomputable def m_X8_numberStates : ab_M := (c_X8_numberStates, [(0, [0]), (7, [0, 1]), (30, [0, 1]), (85, [0, 1])],
  [(34, 8, 7, 3), (40, 8, 9, 3), (43, 8, 10, 3), (76, 8, 13, 0), (138, 8, 14, 0)],
  [],
  [],
  [], 3, 0)
theorem one_X8_numberStates : ab_oneM m_X8_numberStates := fun _ h => absurd h List.not_mem_nil
noncomputable def f_X8_numberStates (l0 : Nat) (st : ab_S) : Option ab_R := ab_rc st l0 8 (ab_lim m_X8_numberStates 0 [.ref l0] [] st)
noncomputable def L_X8_numberStates_7 (l0 : Nat) (l1 : Int32) (st : ab_S) : Option ab_R := ab_lim m_X8_numberStates 7 [.ref l0, .int l1] [] st
noncomputable def L_X8_numberStates_30 (l0 : Nat) (l1 : Int32) (st : ab_S) : Option ab_R := ab_lim m_X8_numberStates 30 [.ref l0, .int l1] [] st
noncomputable def L_X8_numberStates_85 (l0 : Nat) (l1 : Int32) (st : ab_S) : Option ab_R := ab_lim m_X8_numberStates 85 [.ref l0, .int l1] [] st
noncomputable def g_X8_numberStates : ab_G := fun as st k => match as with
  | [.ref a0] => ab_rv (f_X8_numberStates a0 st) (fun t => k [] t)
  | _ => none
theorem o_X8_numberStates : ab_one g_X8_numberStates := by
  intro as st k r h
  unfold g_X8_numberStates at h ⊢
  split at h
  · exact one_rv h
  · cases h
set_option maxRecDepth 100000 in
theorem e_X8_numberStates_0 (l0 : Nat) (st : ab_S) : f_X8_numberStates l0 st =
    ab_rc st l0 8 (
    Option.bind (ab_pI st l0 8 14 (0 : Int32)) fun s1 =>
    L_X8_numberStates_7 l0 (0 : Int32) s1) := congrArg (ab_rc st l0 8) ((lm_eq one_X8_numberStates 0 _ _ _).trans rfl)
set_option maxRecDepth 100000 in
theorem e_X8_numberStates_7 (l0 : Nat) (l1 : Int32) (st : ab_S) : L_X8_numberStates_7 l0 l1 st =
    Option.bind (ab_gI st l0 8 13) fun x1 =>
    if x1 ≤ l1
    then L_X8_numberStates_30 l0 (0 : Int32) st
    else Option.bind (ab_gR st l0 8 9) fun x2 =>
      Option.bind (ab_wI st x2 l1 (-1 : Int32)) fun s3 =>
      L_X8_numberStates_7 l0 (l1 + (1 : Int32)) s3 := (lm_eq one_X8_numberStates 7 _ _ _).trans rfl
set_option maxRecDepth 100000 in
theorem e_X8_numberStates_30 (l0 : Nat) (l1 : Int32) (st : ab_S) : L_X8_numberStates_30 l0 l1 st =
    Option.bind (ab_gI st l0 8 13) fun x1 =>
    if x1 ≤ l1
    then some (none, st)
    else Option.bind (ab_gR st l0 8 7) fun x2 =>
      Option.bind (ab_rI st x2 l1) fun x3 =>
      Option.bind (ab_gR st l0 8 9) fun x4 =>
      Option.bind (ab_rI st x4 x3) fun x5 =>
      if x5 = (-1 : Int32)
      then Option.bind (ab_gR st l0 8 9) fun x6 =>
        Option.bind (ab_gI st l0 8 14) fun x7 =>
        Option.bind (ab_wI st x6 x3 x7) fun s8 =>
        Option.bind (ab_gR s8 l0 8 10) fun x9 =>
        Option.bind (ab_gI s8 l0 8 14) fun x10 =>
        Option.bind (ab_wI s8 x9 x10 x3) fun s11 =>
        Option.bind (ab_gI s11 l0 8 14) fun x12 =>
        Option.bind (ab_pI s11 l0 8 14 (x12 + (1 : Int32))) fun s13 =>
        L_X8_numberStates_85 l0 l1 s13
      else L_X8_numberStates_85 l0 l1 st := (lm_eq one_X8_numberStates 30 _ _ _).trans rfl
set_option maxRecDepth 100000 in
theorem e_X8_numberStates_85 (l0 : Nat) (l1 : Int32) (st : ab_S) : L_X8_numberStates_85 l0 l1 st =
    L_X8_numberStates_30 l0 (l1 + (1 : Int32)) st := (lm_eq one_X8_numberStates 85 _ _ _).trans rfl
def c_X1_putArc : List (Nat × ab_I) := [(0, .aload_n 0, 1, .null, 0),
  (1, .getfield 52, 3, .null, 0),
  (4, .sipush (2400), 3, (.int (2400)), 0),
  (7, .if_icmp .ge (13), 3, .null, 20),
  (10, .aload_n 0, 1, .null, 0),
  (11, .getfield 49, 3, .null, 0),
  (14, .sipush (2401), 3, (.int (2401)), 0),
  (17, .if_icmp .le (5), 3, .null, 22),
  (20, .iconst 0, 1, (.int (0)), 0),
  (21, .ireturn, 1, .null, 0),
  (22, .aload_n 0, 1, .null, 0),
  (23, .getfield 22, 3, .null, 0),
  (26, .aload_n 0, 1, .null, 0),
  (27, .getfield 52, 3, .null, 0),
  (30, .iload_n 1, 1, .null, 1),
  (31, .iastore, 1, .null, 0),
  (32, .aload_n 0, 1, .null, 0),
  (33, .getfield 25, 3, .null, 0),
  (36, .aload_n 0, 1, .null, 0),
  (37, .getfield 52, 3, .null, 0),
  (40, .iload_n 2, 1, .null, 2),
  (41, .iastore, 1, .null, 0),
  (42, .aload_n 0, 1, .null, 0),
  (43, .getfield 28, 3, .null, 0),
  (46, .aload_n 0, 1, .null, 0),
  (47, .getfield 52, 3, .null, 0),
  (50, .lload_n 3, 1, .null, 3),
  (51, .lastore, 1, .null, 0),
  (52, .aload_n 0, 1, .null, 0),
  (53, .dup, 1, .null, 0),
  (54, .getfield 52, 3, .null, 0),
  (57, .iconst 1, 1, (.int (1)), 0),
  (58, .iadd, 1, .null, 0),
  (59, .putfield 52, 3, .null, 0),
  (62, .aload_n 0, 1, .null, 0),
  (63, .getfield 9, 3, .null, 0),
  (66, .aload_n 0, 1, .null, 0),
  (67, .getfield 49, 3, .null, 0),
  (70, .aload_n 0, 1, .null, 0),
  (71, .getfield 52, 3, .null, 0),
  (74, .iastore, 1, .null, 0),
  (75, .iconst 1, 1, (.int (1)), 0),
  (76, .ireturn, 1, .null, 0)]
noncomputable def m_X1_putArc : ab_M := (c_X1_putArc, [(0, [0, 1, 2, 3])],
  [(9, 1, 0, 3), (22, 1, 3, 3), (25, 1, 4, 3), (28, 1, 5, 3), (49, 1, 7, 0), (52, 1, 8, 0)],
  [],
  [],
  [], 5, 2)
theorem one_X1_putArc : ab_oneM m_X1_putArc := fun _ h => absurd h List.not_mem_nil
noncomputable def f_X1_putArc (l0 : Nat) (l1 : Int32) (l2 : Int32) (l3 : Int64) (st : ab_S) : Option ab_R := ab_rc st l0 1 (ab_lim m_X1_putArc 0 [.ref l0, .int l1, .int l2, .long l3] [] st)
noncomputable def g_X1_putArc : ab_G := fun as st k => match as with
  | [.ref a0, .int a1, .int a2, .long a3] => ab_ri (f_X1_putArc a0 a1 a2 a3 st) (fun x t => k [.int x] t)
  | _ => none
theorem o_X1_putArc : ab_one g_X1_putArc := by
  intro as st k r h
  unfold g_X1_putArc at h ⊢
  split at h
  · exact one_ri h
  · cases h
set_option maxRecDepth 100000 in
theorem e_X1_putArc_0 (l0 : Nat) (l1 : Int32) (l2 : Int32) (l3 : Int64) (st : ab_S) : f_X1_putArc l0 l1 l2 l3 st =
    ab_rc st l0 1 (
    Option.bind (ab_gI st l0 1 8) fun x1 =>
    if (2400 : Int32) ≤ x1
    then ab_z (0 : Int32) (some (some (.int (0 : Int32)), st))
    else Option.bind (ab_gI st l0 1 7) fun x2 =>
      if x2 ≤ (2401 : Int32)
      then Option.bind (ab_gR st l0 1 3) fun x3 =>
        Option.bind (ab_gI st l0 1 8) fun x4 =>
        Option.bind (ab_wI st x3 x4 l1) fun s5 =>
        Option.bind (ab_gR s5 l0 1 4) fun x6 =>
        Option.bind (ab_gI s5 l0 1 8) fun x7 =>
        Option.bind (ab_wI s5 x6 x7 l2) fun s8 =>
        Option.bind (ab_gR s8 l0 1 5) fun x9 =>
        Option.bind (ab_gI s8 l0 1 8) fun x10 =>
        Option.bind (ab_wJ s8 x9 x10 l3) fun s11 =>
        Option.bind (ab_gI s11 l0 1 8) fun x12 =>
        Option.bind (ab_pI s11 l0 1 8 (x12 + (1 : Int32))) fun s13 =>
        Option.bind (ab_gR s13 l0 1 0) fun x14 =>
        Option.bind (ab_gI s13 l0 1 7) fun x15 =>
        Option.bind (ab_gI s13 l0 1 8) fun x16 =>
        Option.bind (ab_wI s13 x14 x15 x16) fun s17 =>
        ab_z (1 : Int32) (some (some (.int (1 : Int32)), s17))
      else ab_z (0 : Int32) (some (some (.int (0 : Int32)), st))) := congrArg (ab_rc st l0 1) ((lm_eq one_X1_putArc 0 _ _ _).trans rfl)
def c_X8_draw : List (Nat × ab_I) := [(0, .aload_n 1, 1, .null, 1),
  (1, .aload_n 0, 1, .null, 0),
  (2, .getfield 21, 3, .null, 0),
  (5, .iconst 0, 1, (.int (0)), 0),
  (6, .laload, 1, .null, 0),
  (7, .aload_n 0, 1, .null, 0),
  (8, .getfield 76, 3, .null, 0),
  (11, .invokevirtual 141, 3, .null, 0),
  (14, .iconst 0, 1, (.int (0)), 0),
  (15, .istore_n 2, 1, .null, 2),
  (16, .iload_n 2, 1, .null, 2),
  (17, .aload_n 0, 1, .null, 0),
  (18, .getfield 138, 3, .null, 0),
  (21, .if_icmp .ge (103), 3, .null, 124),
  (24, .aload_n 0, 1, .null, 0),
  (25, .getfield 43, 3, .null, 0),
  (28, .iload_n 2, 1, .null, 2),
  (29, .iaload, 1, .null, 0),
  (30, .istore_n 3, 1, .null, 3),
  (31, .aload_n 1, 1, .null, 1),
  (32, .aload_n 0, 1, .null, 0),
  (33, .iload_n 3, 1, .null, 3),
  (34, .invokevirtual 129, 3, .null, 0),
  (37, .aload_n 0, 1, .null, 0),
  (38, .getfield 18, 3, .null, 0),
  (41, .iload_n 3, 1, .null, 3),
  (42, .iaload, 1, .null, 0),
  (43, .invokevirtual 147, 3, .null, 0),
  (46, .pop, 1, .null, 0),
  (47, .aload_n 0, 1, .null, 0),
  (48, .getfield 28, 3, .null, 0),
  (51, .iload_n 3, 1, .null, 3),
  (52, .iaload, 1, .null, 0),
  (53, .istore 4, 2, .null, 4),
  (55, .iconst 0, 1, (.int (0)), 0),
  (56, .istore 5, 2, .null, 5),
  (58, .iload 5, 2, .null, 5),
  (60, .sipush (256), 3, (.int (256)), 0),
  (63, .if_icmp .ge (55), 3, .null, 118),
  (66, .iload 4, 2, .null, 4),
  (68, .iconst (-1), 1, (.int (-1)), 0),
  (69, .if_icmp .eq (49), 3, .null, 118),
  (72, .aload_n 1, 1, .null, 1),
  (73, .aload_n 0, 1, .null, 0),
  (74, .getfield 15, 3, .null, 0),
  (77, .iload 4, 2, .null, 4),
  (79, .iaload, 1, .null, 0),
  (80, .aload_n 0, 1, .null, 0),
  (81, .getfield 40, 3, .null, 0),
  (84, .aload_n 0, 1, .null, 0),
  (85, .getfield 34, 3, .null, 0),
  (88, .iload 4, 2, .null, 4),
  (90, .iaload, 1, .null, 0),
  (91, .iaload, 1, .null, 0),
  (92, .aload_n 0, 1, .null, 0),
  (93, .iload_n 3, 1, .null, 3),
  (94, .iload 4, 2, .null, 4),
  (96, .invokevirtual 132, 3, .null, 0),
  (99, .invokevirtual 151, 3, .null, 0),
  (102, .pop, 1, .null, 0),
  (103, .aload_n 0, 1, .null, 0),
  (104, .getfield 31, 3, .null, 0),
  (107, .iload 4, 2, .null, 4),
  (109, .iaload, 1, .null, 0),
  (110, .istore 4, 2, .null, 4),
  (112, .iinc 5 (1), 3, (.int (1)), 5),
  (115, .goto (-57), 3, .null, 58),
  (118, .iinc 2 (1), 3, (.int (1)), 2),
  (121, .goto (-105), 3, .null, 16),
  (124, .return_, 1, .null, 0)]
noncomputable def m_X8_draw : ab_M := (c_X8_draw, [(0, [0, 1]), (16, [0, 1, 2]), (58, [0, 1, 2, 3, 4, 5]), (118, [0, 1, 2])],
  [(15, 8, 1, 3), (18, 8, 2, 3), (21, 8, 3, 3), (28, 8, 5, 3), (31, 8, 6, 3), (34, 8, 7, 3), (40, 8, 9, 3), (43, 8, 10, 3), (76, 8, 13, 0), (138, 8, 14, 0)],
  [],
  [(129, 1, 2, g_X8_lastOutput), (132, 1, 3, g_X8_output), (141, 1, 3, g_X1_clear), (147, 1, 3, g_X1_putState), (151, 1, 4, g_X1_putArc)],
  [], 6, 0)
theorem one_X8_draw : ab_oneM m_X8_draw := List.forall_mem_cons.mpr ⟨o_X8_lastOutput, List.forall_mem_cons.mpr ⟨o_X8_output, List.forall_mem_cons.mpr ⟨o_X1_clear, List.forall_mem_cons.mpr ⟨o_X1_putState, List.forall_mem_cons.mpr ⟨o_X1_putArc, fun _ h => absurd h List.not_mem_nil⟩⟩⟩⟩⟩
noncomputable def f_X8_draw (l0 : Nat) (l1 : Nat) (st : ab_S) : Option ab_R := ab_rc st l0 8 (ab_lim m_X8_draw 0 [.ref l0, .ref l1] [] st)
noncomputable def L_X8_draw_16 (l0 : Nat) (l1 : Nat) (l2 : Int32) (st : ab_S) : Option ab_R := ab_lim m_X8_draw 16 [.ref l0, .ref l1, .int l2] [] st
noncomputable def L_X8_draw_58 (l0 : Nat) (l1 : Nat) (l2 : Int32) (l3 : Int32) (l4 : Int32) (l5 : Int32) (st : ab_S) : Option ab_R := ab_lim m_X8_draw 58 [.ref l0, .ref l1, .int l2, .int l3, .int l4, .int l5] [] st
noncomputable def L_X8_draw_118 (l0 : Nat) (l1 : Nat) (l2 : Int32) (st : ab_S) : Option ab_R := ab_lim m_X8_draw 118 [.ref l0, .ref l1, .int l2] [] st
noncomputable def g_X8_draw : ab_G := fun as st k => match as with
  | [.ref a0, .ref a1] => ab_rv (f_X8_draw a0 a1 st) (fun t => k [] t)
  | _ => none
theorem o_X8_draw : ab_one g_X8_draw := by
  intro as st k r h
  unfold g_X8_draw at h ⊢
  split at h
  · exact one_rv h
  · cases h
set_option maxRecDepth 100000 in
theorem e_X8_draw_0 (l0 : Nat) (l1 : Nat) (st : ab_S) : f_X8_draw l0 l1 st =
    ab_rc st l0 8 (
    Option.bind (ab_gR st l0 8 3) fun x1 =>
    Option.bind (ab_rJ st x1 (0 : Int32)) fun x2 =>
    Option.bind (ab_gI st l0 8 13) fun x3 =>
    ab_rv (f_X1_clear l1 x2 x3 st) fun s4 =>
    L_X8_draw_16 l0 l1 (0 : Int32) s4) := congrArg (ab_rc st l0 8) ((lm_eq one_X8_draw 0 _ _ _).trans rfl)
set_option maxRecDepth 100000 in
theorem e_X8_draw_16 (l0 : Nat) (l1 : Nat) (l2 : Int32) (st : ab_S) : L_X8_draw_16 l0 l1 l2 st =
    Option.bind (ab_gI st l0 8 14) fun x1 =>
    if x1 ≤ l2
    then some (none, st)
    else Option.bind (ab_gR st l0 8 10) fun x2 =>
      Option.bind (ab_rI st x2 l2) fun x3 =>
      ab_rl (f_X8_lastOutput l0 x3 st) fun x5 s4 =>
      Option.bind (ab_gR s4 l0 8 2) fun x6 =>
      Option.bind (ab_rI s4 x6 x3) fun x7 =>
      ab_ri (f_X1_putState l1 x5 x7 s4) fun x9 s8 =>
      Option.bind (ab_gR s8 l0 8 5) fun x10 =>
      Option.bind (ab_rI s8 x10 x3) fun x11 =>
      L_X8_draw_58 l0 l1 l2 x3 x11 (0 : Int32) s8 := (lm_eq one_X8_draw 16 _ _ _).trans rfl
set_option maxRecDepth 100000 in
theorem e_X8_draw_58 (l0 : Nat) (l1 : Nat) (l2 : Int32) (l3 : Int32) (l4 : Int32) (l5 : Int32) (st : ab_S) : L_X8_draw_58 l0 l1 l2 l3 l4 l5 st =
    if (256 : Int32) ≤ l5
    then L_X8_draw_118 l0 l1 l2 st
    else if l4 = (-1 : Int32)
      then L_X8_draw_118 l0 l1 l2 st
      else Option.bind (ab_gR st l0 8 1) fun x1 =>
        Option.bind (ab_rI st x1 l4) fun x2 =>
        Option.bind (ab_gR st l0 8 9) fun x3 =>
        Option.bind (ab_gR st l0 8 7) fun x4 =>
        Option.bind (ab_rI st x4 l4) fun x5 =>
        Option.bind (ab_rI st x3 x5) fun x6 =>
        ab_rl (f_X8_output l0 l3 l4 st) fun x8 s7 =>
        ab_ri (f_X1_putArc l1 x2 x6 x8 s7) fun x10 s9 =>
        Option.bind (ab_gR s9 l0 8 6) fun x11 =>
        Option.bind (ab_rI s9 x11 l4) fun x12 =>
        L_X8_draw_58 l0 l1 l2 l3 x12 (l5 + (1 : Int32)) s9 := (lm_eq one_X8_draw 58 _ _ _).trans rfl
set_option maxRecDepth 100000 in
theorem e_X8_draw_118 (l0 : Nat) (l1 : Nat) (l2 : Int32) (st : ab_S) : L_X8_draw_118 l0 l1 l2 st =
    L_X8_draw_16 l0 l1 (l2 + (1 : Int32)) st := (lm_eq one_X8_draw 118 _ _ _).trans rfl
def c_X8_build : List (Nat × ab_I) := [(0, .aload_n 0, 1, .null, 0),
  (1, .aload_n 1, 1, .null, 1),
  (2, .getfield 52, 3, .null, 0),
  (5, .invokevirtual 58, 3, .null, 0),
  (8, .aload_n 0, 1, .null, 0),
  (9, .invokevirtual 62, 3, .null, 0),
  (12, .aload_n 0, 1, .null, 0),
  (13, .invokevirtual 65, 3, .null, 0),
  (16, .aload_n 0, 1, .null, 0),
  (17, .aload_n 1, 1, .null, 1),
  (18, .getfield 68, 3, .null, 0),
  (21, .invokevirtual 72, 3, .null, 0),
  (24, .return_, 1, .null, 0)]
noncomputable def m_X8_build : ab_M := (c_X8_build, [(0, [0, 1])],
  [(52, 0, 0, 3), (68, 0, 1, 3)],
  [],
  [(58, 1, 2, g_X8_plant), (62, 1, 1, g_X8_findAlike), (65, 1, 1, g_X8_numberStates), (72, 1, 2, g_X8_draw)],
  [], 2, 0)
theorem one_X8_build : ab_oneM m_X8_build := List.forall_mem_cons.mpr ⟨o_X8_plant, List.forall_mem_cons.mpr ⟨o_X8_findAlike, List.forall_mem_cons.mpr ⟨o_X8_numberStates, List.forall_mem_cons.mpr ⟨o_X8_draw, fun _ h => absurd h List.not_mem_nil⟩⟩⟩⟩
noncomputable def f_X8_build (l0 : Nat) (l1 : Nat) (st : ab_S) : Option ab_R := ab_rc st l0 8 (ab_lim m_X8_build 0 [.ref l0, .ref l1] [] st)
noncomputable def g_X8_build : ab_G := fun as st k => match as with
  | [.ref a0, .ref a1] => ab_rv (f_X8_build a0 a1 st) (fun t => k [] t)
  | _ => none
theorem o_X8_build : ab_one g_X8_build := by
  intro as st k r h
  unfold g_X8_build at h ⊢
  split at h
  · exact one_rv h
  · cases h
set_option maxRecDepth 100000 in
theorem e_X8_build_0 (l0 : Nat) (l1 : Nat) (st : ab_S) : f_X8_build l0 l1 st =
    ab_rc st l0 8 (
    Option.bind (ab_gR st l1 0 0) fun x1 =>
    ab_rv (f_X8_plant l0 x1 st) fun s2 =>
    ab_rv (f_X8_findAlike l0 s2) fun s3 =>
    ab_rv (f_X8_numberStates l0 s3) fun s4 =>
    Option.bind (ab_gR s4 l1 0 1) fun x5 =>
    ab_rv (f_X8_draw l0 x5 s4) fun s6 =>
    some (none, s6)) := congrArg (ab_rc st l0 8) ((lm_eq one_X8_build 0 _ _ _).trans rfl)
end
section
def c_X10_done : List (Nat × ab_I) := [(0, .iload_n 1, 1, .null, 1),
  (1, .invokestatic 95, 3, .null, 0),
  (4, .ifCond .ne (6), 3, .null, 10),
  (7, .bipush (-2), 2, (.int (-2)), 0),
  (9, .ireturn, 1, .null, 0),
  (10, .aload_n 0, 1, .null, 0),
  (11, .getfield 11, 3, .null, 0),
  (14, .iload_n 1, 1, .null, 1),
  (15, .aaload, 1, .null, 0),
  (16, .astore_n 2, 1, .null, 2),
  (17, .aload_n 2, 1, .null, 2),
  (18, .getfield 109, 3, .null, 0),
  (21, .ifCond .ne (6), 3, .null, 27),
  (24, .bipush (-4), 2, (.int (-4)), 0),
  (26, .ireturn, 1, .null, 0),
  (27, .aload_n 0, 1, .null, 0),
  (28, .getfield 28, 3, .null, 0),
  (31, .aload_n 2, 1, .null, 2),
  (32, .invokevirtual 126, 3, .null, 0),
  (35, .aload_n 2, 1, .null, 2),
  (36, .iconst 0, 1, (.int (0)), 0),
  (37, .putfield 109, 3, .null, 0),
  (40, .aload_n 2, 1, .null, 2),
  (41, .getfield 130, 3, .null, 0),
  (44, .getfield 134, 3, .null, 0),
  (47, .ireturn, 1, .null, 0)]
noncomputable def m_X10_done : ab_M := (c_X10_done, [(0, [0, 1])],
  [(11, 10, 0, 3), (28, 10, 3, 3), (109, 0, 2, 1), (130, 0, 1, 3), (134, 1, 7, 0)],
  [],
  [(95, 0, 1, g_X10_isDictionary), (126, 1, 2, g_X8_build)],
  [], 3, 1)
theorem one_X10_done : ab_oneM m_X10_done := List.forall_mem_cons.mpr ⟨o_X10_isDictionary, List.forall_mem_cons.mpr ⟨o_X8_build, fun _ h => absurd h List.not_mem_nil⟩⟩
noncomputable def f_X10_done (l0 : Nat) (l1 : Int32) (st : ab_S) : Option ab_R := ab_rc st l0 10 (ab_lim m_X10_done 0 [.ref l0, .int l1] [] st)
noncomputable def g_X10_done : ab_G := fun as st k => match as with
  | [.ref a0, .int a1] => ab_ri (f_X10_done a0 a1 st) (fun x t => k [.int x] t)
  | _ => none
theorem o_X10_done : ab_one g_X10_done := by
  intro as st k r h
  unfold g_X10_done at h ⊢
  split at h
  · exact one_ri h
  · cases h
set_option maxRecDepth 100000 in
theorem e_X10_done_0 (l0 : Nat) (l1 : Int32) (st : ab_S) : f_X10_done l0 l1 st =
    ab_rc st l0 10 (
    ab_ri (f_X10_isDictionary l1 st) fun x2 s1 =>
    if x2 = 0
    then some (some (.int (-2 : Int32)), s1)
    else Option.bind (ab_gR s1 l0 10 0) fun x3 =>
      Option.bind (ab_rR s1 x3 l1) fun x4 =>
      Option.bind (ab_gI s1 x4 0 2) fun x5 =>
      if x5 = 0
      then some (some (.int (-4 : Int32)), s1)
      else Option.bind (ab_gR s1 l0 10 3) fun x6 =>
        ab_rv (f_X8_build x6 x4 s1) fun s7 =>
        Option.bind (ab_pZ s7 x4 0 2 (0 : Int32)) fun s8 =>
        Option.bind (ab_gR s8 x4 0 1) fun x9 =>
        Option.bind (ab_gI s8 x9 1 7) fun x10 =>
        some (some (.int x10), s8)) := congrArg (ab_rc st l0 10) ((lm_eq one_X10_done 0 _ _ _).trans rfl)
def c_X11_lesser : List (Nat × ab_I) := [(0, .lload_n 0, 1, .null, 0),
  (1, .lload_n 2, 1, .null, 2),
  (2, .lcmp, 1, .null, 0),
  (3, .ifCond .ge (7), 3, .null, 10),
  (6, .lload_n 0, 1, .null, 0),
  (7, .goto (4), 3, .null, 11),
  (10, .lload_n 2, 1, .null, 2),
  (11, .lreturn, 1, .null, 0)]
noncomputable def m_X11_lesser : ab_M := (c_X11_lesser, [(0, [0, 2])],
  [],
  [],
  [],
  [], 4, 3)
theorem one_X11_lesser : ab_oneM m_X11_lesser := fun _ h => absurd h List.not_mem_nil
noncomputable def f_X11_lesser (l0 : Int64) (l2 : Int64) (st : ab_S) : Option ab_R := ab_lim m_X11_lesser 0 [.long l0, .long l2] [] st
noncomputable def g_X11_lesser : ab_G := fun as st k => match as with
  | [.long a0, .long a1] => ab_rl (f_X11_lesser a0 a1 st) (fun x t => k [.long x] t)
  | _ => none
theorem o_X11_lesser : ab_one g_X11_lesser := by
  intro as st k r h
  unfold g_X11_lesser at h ⊢
  split at h
  · exact one_rl h
  · cases h
set_option maxRecDepth 100000 in
theorem e_X11_lesser_0 (l0 : Int64) (l2 : Int64) (st : ab_S) : f_X11_lesser l0 l2 st =
    if 0 ≤ (lg_cmp l0 l2)
    then some (some (.long l2), st)
    else some (some (.long l0), st) := (lm_eq one_X11_lesser 0 _ _ _).trans rfl
def c_X11_put : List (Nat × ab_I) := [(0, .aload_n 0, 1, .null, 0),
  (1, .getfield 183, 3, .null, 0),
  (4, .istore 5, 2, .null, 5),
  (6, .aload_n 0, 1, .null, 0),
  (7, .dup, 1, .null, 0),
  (8, .getfield 183, 3, .null, 0),
  (11, .iconst 1, 1, (.int (1)), 0),
  (12, .iadd, 1, .null, 0),
  (13, .putfield 183, 3, .null, 0),
  (16, .aload_n 0, 1, .null, 0),
  (17, .getfield 57, 3, .null, 0),
  (20, .iload 5, 2, .null, 5),
  (22, .iload_n 2, 1, .null, 2),
  (23, .iastore, 1, .null, 0),
  (24, .aload_n 0, 1, .null, 0),
  (25, .getfield 60, 3, .null, 0),
  (28, .iload 5, 2, .null, 5),
  (30, .iload_n 3, 1, .null, 3),
  (31, .iastore, 1, .null, 0),
  (32, .aload_n 0, 1, .null, 0),
  (33, .getfield 63, 3, .null, 0),
  (36, .iload 5, 2, .null, 5),
  (38, .iload 4, 2, .null, 4),
  (40, .iastore, 1, .null, 0),
  (41, .iload_n 2, 1, .null, 2),
  (42, .iload_n 3, 1, .null, 3),
  (43, .if_icmp .ge (18), 3, .null, 61),
  (46, .aload_n 0, 1, .null, 0),
  (47, .getfield 20, 3, .null, 0),
  (50, .sipush (200), 3, (.int (200)), 0),
  (53, .iload_n 1, 1, .null, 1),
  (54, .imul, 1, .null, 0),
  (55, .iload_n 2, 1, .null, 2),
  (56, .iadd, 1, .null, 0),
  (57, .laload, 1, .null, 0),
  (58, .goto (4), 3, .null, 62),
  (61, .lconst 0, 1, (.long (0)), 0),
  (62, .lstore 6, 2, .null, 6),
  (64, .iload_n 2, 1, .null, 2),
  (65, .istore 8, 2, .null, 8),
  (67, .iload 8, 2, .null, 8),
  (69, .iload_n 3, 1, .null, 3),
  (70, .if_icmp .ge (29), 3, .null, 99),
  (73, .lload 6, 2, .null, 6),
  (75, .aload_n 0, 1, .null, 0),
  (76, .getfield 20, 3, .null, 0),
  (79, .sipush (200), 3, (.int (200)), 0),
  (82, .iload_n 1, 1, .null, 1),
  (83, .imul, 1, .null, 0),
  (84, .iload 8, 2, .null, 8),
  (86, .iadd, 1, .null, 0),
  (87, .laload, 1, .null, 0),
  (88, .invokestatic 198, 3, .null, 0),
  (91, .lstore 6, 2, .null, 6),
  (93, .iinc 8 (1), 3, (.int (1)), 8),
  (96, .goto (-29), 3, .null, 67),
  (99, .aload_n 0, 1, .null, 0),
  (100, .getfield 66, 3, .null, 0),
  (103, .iload 5, 2, .null, 5),
  (105, .lload 6, 2, .null, 6),
  (107, .lastore, 1, .null, 0),
  (108, .iload_n 3, 1, .null, 3),
  (109, .iload_n 2, 1, .null, 2),
  (110, .isub, 1, .null, 0),
  (111, .i2l, 1, .null, 0),
  (112, .lstore 8, 2, .null, 8),
  (114, .iload_n 2, 1, .null, 2),
  (115, .istore 10, 2, .null, 10),
  (117, .iload 10, 2, .null, 10),
  (119, .iload_n 3, 1, .null, 3),
  (120, .if_icmp .ge (83), 3, .null, 203),
  (123, .lload 8, 2, .null, 8),
  (125, .ldc2_w 202, 3, (.long (1000003)), 0),
  (128, .lmul, 1, .null, 0),
  (129, .aload_n 0, 1, .null, 0),
  (130, .getfield 20, 3, .null, 0),
  (133, .sipush (200), 3, (.int (200)), 0),
  (136, .iload_n 1, 1, .null, 1),
  (137, .imul, 1, .null, 0),
  (138, .iload 10, 2, .null, 10),
  (140, .iadd, 1, .null, 0),
  (141, .laload, 1, .null, 0),
  (142, .ladd, 1, .null, 0),
  (143, .lload 6, 2, .null, 6),
  (145, .lsub, 1, .null, 0),
  (146, .lstore 8, 2, .null, 8),
  (148, .iload 4, 2, .null, 4),
  (150, .istore 11, 2, .null, 11),
  (152, .iload 11, 2, .null, 11),
  (154, .aload_n 0, 1, .null, 0),
  (155, .getfield 16, 3, .null, 0),
  (158, .sipush (200), 3, (.int (200)), 0),
  (161, .iload_n 1, 1, .null, 1),
  (162, .imul, 1, .null, 0),
  (163, .iload 10, 2, .null, 10),
  (165, .iadd, 1, .null, 0),
  (166, .iaload, 1, .null, 0),
  (167, .if_icmp .ge (30), 3, .null, 197),
  (170, .lload 8, 2, .null, 8),
  (172, .ldc2_w 204, 3, (.long (31)), 0),
  (175, .lmul, 1, .null, 0),
  (176, .aload_n 0, 1, .null, 0),
  (177, .iload_n 1, 1, .null, 1),
  (178, .iload 10, 2, .null, 10),
  (180, .iload 11, 2, .null, 11),
  (182, .invokevirtual 153, 3, .null, 0),
  (185, .i2l, 1, .null, 0),
  (186, .ladd, 1, .null, 0),
  (187, .lconst 1, 1, (.long (1)), 0),
  (188, .ladd, 1, .null, 0),
  (189, .lstore 8, 2, .null, 8),
  (191, .iinc 11 (1), 3, (.int (1)), 11),
  (194, .goto (-42), 3, .null, 152),
  (197, .iinc 10 (1), 3, (.int (1)), 10),
  (200, .goto (-83), 3, .null, 117),
  (203, .aload_n 0, 1, .null, 0),
  (204, .getfield 69, 3, .null, 0),
  (207, .iload 5, 2, .null, 5),
  (209, .lload 8, 2, .null, 8),
  (211, .lastore, 1, .null, 0),
  (212, .return_, 1, .null, 0)]
noncomputable def m_X11_put : ab_M := (c_X11_put, [(0, [0, 1, 2, 3, 4]), (62, [0, 1, 2, 3, 4, 5]), (67, [0, 1, 2, 3, 4, 5, 6, 8]), (117, [0, 1, 3, 4, 5, 6, 8, 10]), (152, [0, 1, 3, 4, 5, 6, 8, 10, 11])],
  [(16, 11, 3, 3), (20, 11, 4, 3), (57, 11, 18, 3), (60, 11, 19, 3), (63, 11, 20, 3), (66, 11, 21, 3), (69, 11, 22, 3), (183, 11, 17, 0)],
  [],
  [(153, 1, 4, g_X11_letter), (198, 0, 2, g_X11_lesser)],
  [], 12, 0)
theorem one_X11_put : ab_oneM m_X11_put := List.forall_mem_cons.mpr ⟨o_X11_letter, List.forall_mem_cons.mpr ⟨o_X11_lesser, fun _ h => absurd h List.not_mem_nil⟩⟩
noncomputable def f_X11_put (l0 : Nat) (l1 : Int32) (l2 : Int32) (l3 : Int32) (l4 : Int32) (st : ab_S) : Option ab_R := ab_rc st l0 11 (ab_lim m_X11_put 0 [.ref l0, .int l1, .int l2, .int l3, .int l4] [] st)
noncomputable def L_X11_put_62 (l0 : Nat) (l1 : Int32) (l2 : Int32) (l3 : Int32) (l4 : Int32) (l5 : Int32) (t0 : Int64) (st : ab_S) : Option ab_R := ab_lim m_X11_put 62 [.ref l0, .int l1, .int l2, .int l3, .int l4, .int l5] [.long t0] st
noncomputable def L_X11_put_67 (l0 : Nat) (l1 : Int32) (l2 : Int32) (l3 : Int32) (l4 : Int32) (l5 : Int32) (l6 : Int64) (l8 : Int32) (st : ab_S) : Option ab_R := ab_lim m_X11_put 67 [.ref l0, .int l1, .int l2, .int l3, .int l4, .int l5, .long l6, .int l8] [] st
noncomputable def L_X11_put_117 (l0 : Nat) (l1 : Int32) (l3 : Int32) (l4 : Int32) (l5 : Int32) (l6 : Int64) (l8 : Int64) (l10 : Int32) (st : ab_S) : Option ab_R := ab_lim m_X11_put 117 [.ref l0, .int l1, .int l3, .int l4, .int l5, .long l6, .long l8, .int l10] [] st
noncomputable def L_X11_put_152 (l0 : Nat) (l1 : Int32) (l3 : Int32) (l4 : Int32) (l5 : Int32) (l6 : Int64) (l8 : Int64) (l10 : Int32) (l11 : Int32) (st : ab_S) : Option ab_R := ab_lim m_X11_put 152 [.ref l0, .int l1, .int l3, .int l4, .int l5, .long l6, .long l8, .int l10, .int l11] [] st
noncomputable def g_X11_put : ab_G := fun as st k => match as with
  | [.ref a0, .int a1, .int a2, .int a3, .int a4] => ab_rv (f_X11_put a0 a1 a2 a3 a4 st) (fun t => k [] t)
  | _ => none
theorem o_X11_put : ab_one g_X11_put := by
  intro as st k r h
  unfold g_X11_put at h ⊢
  split at h
  · exact one_rv h
  · cases h
set_option maxRecDepth 100000 in
theorem e_X11_put_0 (l0 : Nat) (l1 : Int32) (l2 : Int32) (l3 : Int32) (l4 : Int32) (st : ab_S) : f_X11_put l0 l1 l2 l3 l4 st =
    ab_rc st l0 11 (
    Option.bind (ab_gI st l0 11 17) fun x1 =>
    Option.bind (ab_gI st l0 11 17) fun x2 =>
    Option.bind (ab_pI st l0 11 17 (x2 + (1 : Int32))) fun s3 =>
    Option.bind (ab_gR s3 l0 11 18) fun x4 =>
    Option.bind (ab_wI s3 x4 x1 l2) fun s5 =>
    Option.bind (ab_gR s5 l0 11 19) fun x6 =>
    Option.bind (ab_wI s5 x6 x1 l3) fun s7 =>
    Option.bind (ab_gR s7 l0 11 20) fun x8 =>
    Option.bind (ab_wI s7 x8 x1 l4) fun s9 =>
    if l3 ≤ l2
    then L_X11_put_62 l0 l1 l2 l3 l4 x1 (0 : Int64) s9
    else Option.bind (ab_gR s9 l0 11 4) fun x10 =>
      Option.bind (ab_rJ s9 x10 (((200 : Int32) * l1) + l2)) fun x11 =>
      L_X11_put_62 l0 l1 l2 l3 l4 x1 x11 s9) := congrArg (ab_rc st l0 11) ((lm_eq one_X11_put 0 _ _ _).trans rfl)
set_option maxRecDepth 100000 in
theorem e_X11_put_62 (l0 : Nat) (l1 : Int32) (l2 : Int32) (l3 : Int32) (l4 : Int32) (l5 : Int32) (t0 : Int64) (st : ab_S) : L_X11_put_62 l0 l1 l2 l3 l4 l5 t0 st =
    L_X11_put_67 l0 l1 l2 l3 l4 l5 t0 l2 st := (lm_eq one_X11_put 62 _ _ _).trans rfl
set_option maxRecDepth 100000 in
theorem e_X11_put_67 (l0 : Nat) (l1 : Int32) (l2 : Int32) (l3 : Int32) (l4 : Int32) (l5 : Int32) (l6 : Int64) (l8 : Int32) (st : ab_S) : L_X11_put_67 l0 l1 l2 l3 l4 l5 l6 l8 st =
    if l3 ≤ l8
    then Option.bind (ab_gR st l0 11 21) fun x1 =>
      Option.bind (ab_wJ st x1 l5 l6) fun s2 =>
      L_X11_put_117 l0 l1 l3 l4 l5 l6 (l3 - l2).toInt64 l2 s2
    else Option.bind (ab_gR st l0 11 4) fun x3 =>
      Option.bind (ab_rJ st x3 (((200 : Int32) * l1) + l8)) fun x4 =>
      ab_rl (f_X11_lesser l6 x4 st) fun x6 s5 =>
      L_X11_put_67 l0 l1 l2 l3 l4 l5 x6 (l8 + (1 : Int32)) s5 := (lm_eq one_X11_put 67 _ _ _).trans rfl
set_option maxRecDepth 100000 in
theorem e_X11_put_117 (l0 : Nat) (l1 : Int32) (l3 : Int32) (l4 : Int32) (l5 : Int32) (l6 : Int64) (l8 : Int64) (l10 : Int32) (st : ab_S) : L_X11_put_117 l0 l1 l3 l4 l5 l6 l8 l10 st =
    if l3 ≤ l10
    then Option.bind (ab_gR st l0 11 22) fun x1 =>
      Option.bind (ab_wJ st x1 l5 l8) fun s2 =>
      some (none, s2)
    else Option.bind (ab_gR st l0 11 4) fun x3 =>
      Option.bind (ab_rJ st x3 (((200 : Int32) * l1) + l10)) fun x4 =>
      L_X11_put_152 l0 l1 l3 l4 l5 l6 (((l8 * (1000003 : Int64)) + x4) - l6) l10 l4 st := (lm_eq one_X11_put 117 _ _ _).trans rfl
set_option maxRecDepth 100000 in
theorem e_X11_put_152 (l0 : Nat) (l1 : Int32) (l3 : Int32) (l4 : Int32) (l5 : Int32) (l6 : Int64) (l8 : Int64) (l10 : Int32) (l11 : Int32) (st : ab_S) : L_X11_put_152 l0 l1 l3 l4 l5 l6 l8 l10 l11 st =
    Option.bind (ab_gR st l0 11 3) fun x1 =>
    Option.bind (ab_rI st x1 (((200 : Int32) * l1) + l10)) fun x2 =>
    if x2 ≤ l11
    then L_X11_put_117 l0 l1 l3 l4 l5 l6 l8 (l10 + (1 : Int32)) st
    else ab_ri (f_X11_letter l0 l1 l10 l11 st) fun x4 s3 =>
      L_X11_put_152 l0 l1 l3 l4 l5 l6 (((l8 * (31 : Int64)) + x4.toInt64) + (1 : Int64)) l10 (l11 + (1 : Int32)) s3 := (lm_eq one_X11_put 152 _ _ _).trans rfl
def c_X11_isShared : List (Nat × ab_I) := [(0, .aload_n 0, 1, .null, 0),
  (1, .getfield 16, 3, .null, 0),
  (4, .sipush (200), 3, (.int (200)), 0),
  (7, .iload_n 1, 1, .null, 1),
  (8, .imul, 1, .null, 0),
  (9, .iload_n 3, 1, .null, 3),
  (10, .iadd, 1, .null, 0),
  (11, .iaload, 1, .null, 0),
  (12, .iload 4, 2, .null, 4),
  (14, .if_icmp .lt (7), 3, .null, 21),
  (17, .iconst 1, 1, (.int (1)), 0),
  (18, .goto (4), 3, .null, 22),
  (21, .iconst 0, 1, (.int (0)), 0),
  (22, .istore 5, 2, .null, 5),
  (24, .iconst 0, 1, (.int (0)), 0),
  (25, .istore 6, 2, .null, 6),
  (27, .iload 6, 2, .null, 6),
  (29, .iload 4, 2, .null, 4),
  (31, .if_icmp .ge (40), 3, .null, 71),
  (34, .iload 5, 2, .null, 5),
  (36, .ifCond .eq (35), 3, .null, 71),
  (39, .aload_n 0, 1, .null, 0),
  (40, .iload_n 1, 1, .null, 1),
  (41, .iload_n 2, 1, .null, 2),
  (42, .iload 6, 2, .null, 6),
  (44, .invokevirtual 153, 3, .null, 0),
  (47, .aload_n 0, 1, .null, 0),
  (48, .iload_n 1, 1, .null, 1),
  (49, .iload_n 3, 1, .null, 3),
  (50, .iload 6, 2, .null, 6),
  (52, .invokevirtual 153, 3, .null, 0),
  (55, .if_icmp .ne (7), 3, .null, 62),
  (58, .iconst 1, 1, (.int (1)), 0),
  (59, .goto (4), 3, .null, 63),
  (62, .iconst 0, 1, (.int (0)), 0),
  (63, .istore 5, 2, .null, 5),
  (65, .iinc 6 (1), 3, (.int (1)), 6),
  (68, .goto (-41), 3, .null, 27),
  (71, .iload 5, 2, .null, 5),
  (73, .ireturn, 1, .null, 0)]
noncomputable def m_X11_isShared : ab_M := (c_X11_isShared, [(0, [0, 1, 2, 3, 4]), (22, [0, 1, 2, 3, 4]), (27, [0, 1, 2, 3, 4, 5, 6]), (63, [0, 1, 2, 3, 4, 6])],
  [(16, 11, 3, 3)],
  [],
  [(153, 1, 4, g_X11_letter)],
  [], 7, 2)
theorem one_X11_isShared : ab_oneM m_X11_isShared := List.forall_mem_cons.mpr ⟨o_X11_letter, fun _ h => absurd h List.not_mem_nil⟩
noncomputable def f_X11_isShared (l0 : Nat) (l1 : Int32) (l2 : Int32) (l3 : Int32) (l4 : Int32) (st : ab_S) : Option ab_R := ab_rc st l0 11 (ab_lim m_X11_isShared 0 [.ref l0, .int l1, .int l2, .int l3, .int l4] [] st)
noncomputable def L_X11_isShared_22 (l0 : Nat) (l1 : Int32) (l2 : Int32) (l3 : Int32) (l4 : Int32) (t0 : Int32) (st : ab_S) : Option ab_R := ab_lim m_X11_isShared 22 [.ref l0, .int l1, .int l2, .int l3, .int l4] [.int t0] st
noncomputable def L_X11_isShared_27 (l0 : Nat) (l1 : Int32) (l2 : Int32) (l3 : Int32) (l4 : Int32) (l5 : Int32) (l6 : Int32) (st : ab_S) : Option ab_R := ab_lim m_X11_isShared 27 [.ref l0, .int l1, .int l2, .int l3, .int l4, .int l5, .int l6] [] st
noncomputable def L_X11_isShared_63 (l0 : Nat) (l1 : Int32) (l2 : Int32) (l3 : Int32) (l4 : Int32) (l6 : Int32) (t0 : Int32) (st : ab_S) : Option ab_R := ab_lim m_X11_isShared 63 [.ref l0, .int l1, .int l2, .int l3, .int l4, .int l6] [.int t0] st
noncomputable def g_X11_isShared : ab_G := fun as st k => match as with
  | [.ref a0, .int a1, .int a2, .int a3, .int a4] => ab_ri (f_X11_isShared a0 a1 a2 a3 a4 st) (fun x t => k [.int x] t)
  | _ => none
theorem o_X11_isShared : ab_one g_X11_isShared := by
  intro as st k r h
  unfold g_X11_isShared at h ⊢
  split at h
  · exact one_ri h
  · cases h
set_option maxRecDepth 100000 in
theorem e_X11_isShared_0 (l0 : Nat) (l1 : Int32) (l2 : Int32) (l3 : Int32) (l4 : Int32) (st : ab_S) : f_X11_isShared l0 l1 l2 l3 l4 st =
    ab_rc st l0 11 (
    Option.bind (ab_gR st l0 11 3) fun x1 =>
    Option.bind (ab_rI st x1 (((200 : Int32) * l1) + l3)) fun x2 =>
    if x2 < l4
    then L_X11_isShared_22 l0 l1 l2 l3 l4 (0 : Int32) st
    else L_X11_isShared_22 l0 l1 l2 l3 l4 (1 : Int32) st) := congrArg (ab_rc st l0 11) ((lm_eq one_X11_isShared 0 _ _ _).trans rfl)
set_option maxRecDepth 100000 in
theorem e_X11_isShared_22 (l0 : Nat) (l1 : Int32) (l2 : Int32) (l3 : Int32) (l4 : Int32) (t0 : Int32) (st : ab_S) : L_X11_isShared_22 l0 l1 l2 l3 l4 t0 st =
    L_X11_isShared_27 l0 l1 l2 l3 l4 t0 (0 : Int32) st := (lm_eq one_X11_isShared 22 _ _ _).trans rfl
set_option maxRecDepth 100000 in
theorem e_X11_isShared_27 (l0 : Nat) (l1 : Int32) (l2 : Int32) (l3 : Int32) (l4 : Int32) (l5 : Int32) (l6 : Int32) (st : ab_S) : L_X11_isShared_27 l0 l1 l2 l3 l4 l5 l6 st =
    if l4 ≤ l6
    then ab_z l5 (some (some (.int l5), st))
    else if l5 = 0
      then ab_z l5 (some (some (.int l5), st))
      else ab_ri (f_X11_letter l0 l1 l2 l6 st) fun x2 s1 =>
        ab_ri (f_X11_letter l0 l1 l3 l6 s1) fun x4 s3 =>
        if x2 = x4
        then L_X11_isShared_63 l0 l1 l2 l3 l4 l6 (1 : Int32) s3
        else L_X11_isShared_63 l0 l1 l2 l3 l4 l6 (0 : Int32) s3 := (lm_eq one_X11_isShared 27 _ _ _).trans rfl
set_option maxRecDepth 100000 in
theorem e_X11_isShared_63 (l0 : Nat) (l1 : Int32) (l2 : Int32) (l3 : Int32) (l4 : Int32) (l6 : Int32) (t0 : Int32) (st : ab_S) : L_X11_isShared_63 l0 l1 l2 l3 l4 l6 t0 st =
    L_X11_isShared_27 l0 l1 l2 l3 l4 t0 (l6 + (1 : Int32)) st := (lm_eq one_X11_isShared 63 _ _ _).trans rfl
def c_X11_isSame : List (Nat × ab_I) := [(0, .aload_n 0, 1, .null, 0),
  (1, .getfield 60, 3, .null, 0),
  (4, .iload_n 2, 1, .null, 2),
  (5, .iaload, 1, .null, 0),
  (6, .aload_n 0, 1, .null, 0),
  (7, .getfield 57, 3, .null, 0),
  (10, .iload_n 2, 1, .null, 2),
  (11, .iaload, 1, .null, 0),
  (12, .isub, 1, .null, 0),
  (13, .istore 4, 2, .null, 4),
  (15, .aload_n 0, 1, .null, 0),
  (16, .getfield 69, 3, .null, 0),
  (19, .iload_n 2, 1, .null, 2),
  (20, .laload, 1, .null, 0),
  (21, .aload_n 0, 1, .null, 0),
  (22, .getfield 69, 3, .null, 0),
  (25, .iload_n 3, 1, .null, 3),
  (26, .laload, 1, .null, 0),
  (27, .lcmp, 1, .null, 0),
  (28, .ifCond .ne (21), 3, .null, 49),
  (31, .iload 4, 2, .null, 4),
  (33, .aload_n 0, 1, .null, 0),
  (34, .getfield 60, 3, .null, 0),
  (37, .iload_n 3, 1, .null, 3),
  (38, .iaload, 1, .null, 0),
  (39, .aload_n 0, 1, .null, 0),
  (40, .getfield 57, 3, .null, 0),
  (43, .iload_n 3, 1, .null, 3),
  (44, .iaload, 1, .null, 0),
  (45, .isub, 1, .null, 0),
  (46, .if_icmp .eq (5), 3, .null, 51),
  (49, .iconst 0, 1, (.int (0)), 0),
  (50, .ireturn, 1, .null, 0),
  (51, .iconst 0, 1, (.int (0)), 0),
  (52, .istore 5, 2, .null, 5),
  (54, .iload 5, 2, .null, 5),
  (56, .iload 4, 2, .null, 4),
  (58, .if_icmp .ge (185), 3, .null, 243),
  (61, .sipush (200), 3, (.int (200)), 0),
  (64, .iload_n 1, 1, .null, 1),
  (65, .imul, 1, .null, 0),
  (66, .aload_n 0, 1, .null, 0),
  (67, .getfield 57, 3, .null, 0),
  (70, .iload_n 2, 1, .null, 2),
  (71, .iaload, 1, .null, 0),
  (72, .iadd, 1, .null, 0),
  (73, .iload 5, 2, .null, 5),
  (75, .iadd, 1, .null, 0),
  (76, .istore 6, 2, .null, 6),
  (78, .sipush (200), 3, (.int (200)), 0),
  (81, .iload_n 1, 1, .null, 1),
  (82, .imul, 1, .null, 0),
  (83, .aload_n 0, 1, .null, 0),
  (84, .getfield 57, 3, .null, 0),
  (87, .iload_n 3, 1, .null, 3),
  (88, .iaload, 1, .null, 0),
  (89, .iadd, 1, .null, 0),
  (90, .iload 5, 2, .null, 5),
  (92, .iadd, 1, .null, 0),
  (93, .istore 7, 2, .null, 7),
  (95, .aload_n 0, 1, .null, 0),
  (96, .getfield 20, 3, .null, 0),
  (99, .iload 6, 2, .null, 6),
  (101, .laload, 1, .null, 0),
  (102, .aload_n 0, 1, .null, 0),
  (103, .getfield 66, 3, .null, 0),
  (106, .iload_n 2, 1, .null, 2),
  (107, .laload, 1, .null, 0),
  (108, .lsub, 1, .null, 0),
  (109, .aload_n 0, 1, .null, 0),
  (110, .getfield 20, 3, .null, 0),
  (113, .iload 7, 2, .null, 7),
  (115, .laload, 1, .null, 0),
  (116, .aload_n 0, 1, .null, 0),
  (117, .getfield 66, 3, .null, 0),
  (120, .iload_n 3, 1, .null, 3),
  (121, .laload, 1, .null, 0),
  (122, .lsub, 1, .null, 0),
  (123, .lcmp, 1, .null, 0),
  (124, .ifCond .ne (34), 3, .null, 158),
  (127, .aload_n 0, 1, .null, 0),
  (128, .getfield 16, 3, .null, 0),
  (131, .iload 6, 2, .null, 6),
  (133, .iaload, 1, .null, 0),
  (134, .aload_n 0, 1, .null, 0),
  (135, .getfield 63, 3, .null, 0),
  (138, .iload_n 2, 1, .null, 2),
  (139, .iaload, 1, .null, 0),
  (140, .isub, 1, .null, 0),
  (141, .aload_n 0, 1, .null, 0),
  (142, .getfield 16, 3, .null, 0),
  (145, .iload 7, 2, .null, 7),
  (147, .iaload, 1, .null, 0),
  (148, .aload_n 0, 1, .null, 0),
  (149, .getfield 63, 3, .null, 0),
  (152, .iload_n 3, 1, .null, 3),
  (153, .iaload, 1, .null, 0),
  (154, .isub, 1, .null, 0),
  (155, .if_icmp .eq (5), 3, .null, 160),
  (158, .iconst 0, 1, (.int (0)), 0),
  (159, .ireturn, 1, .null, 0),
  (160, .aload_n 0, 1, .null, 0),
  (161, .getfield 63, 3, .null, 0),
  (164, .iload_n 2, 1, .null, 2),
  (165, .iaload, 1, .null, 0),
  (166, .istore 8, 2, .null, 8),
  (168, .iload 8, 2, .null, 8),
  (170, .aload_n 0, 1, .null, 0),
  (171, .getfield 16, 3, .null, 0),
  (174, .iload 6, 2, .null, 6),
  (176, .iaload, 1, .null, 0),
  (177, .if_icmp .ge (60), 3, .null, 237),
  (180, .aload_n 0, 1, .null, 0),
  (181, .iload_n 1, 1, .null, 1),
  (182, .aload_n 0, 1, .null, 0),
  (183, .getfield 57, 3, .null, 0),
  (186, .iload_n 2, 1, .null, 2),
  (187, .iaload, 1, .null, 0),
  (188, .iload 5, 2, .null, 5),
  (190, .iadd, 1, .null, 0),
  (191, .iload 8, 2, .null, 8),
  (193, .invokevirtual 153, 3, .null, 0),
  (196, .aload_n 0, 1, .null, 0),
  (197, .iload_n 1, 1, .null, 1),
  (198, .aload_n 0, 1, .null, 0),
  (199, .getfield 57, 3, .null, 0),
  (202, .iload_n 3, 1, .null, 3),
  (203, .iaload, 1, .null, 0),
  (204, .iload 5, 2, .null, 5),
  (206, .iadd, 1, .null, 0),
  (207, .iload 8, 2, .null, 8),
  (209, .aload_n 0, 1, .null, 0),
  (210, .getfield 63, 3, .null, 0),
  (213, .iload_n 2, 1, .null, 2),
  (214, .iaload, 1, .null, 0),
  (215, .isub, 1, .null, 0),
  (216, .aload_n 0, 1, .null, 0),
  (217, .getfield 63, 3, .null, 0),
  (220, .iload_n 3, 1, .null, 3),
  (221, .iaload, 1, .null, 0),
  (222, .iadd, 1, .null, 0),
  (223, .invokevirtual 153, 3, .null, 0),
  (226, .if_icmp .eq (5), 3, .null, 231),
  (229, .iconst 0, 1, (.int (0)), 0),
  (230, .ireturn, 1, .null, 0),
  (231, .iinc 8 (1), 3, (.int (1)), 8),
  (234, .goto (-66), 3, .null, 168),
  (237, .iinc 5 (1), 3, (.int (1)), 5),
  (240, .goto (-186), 3, .null, 54),
  (243, .iconst 1, 1, (.int (1)), 0),
  (244, .ireturn, 1, .null, 0)]
noncomputable def m_X11_isSame : ab_M := (c_X11_isSame, [(0, [0, 1, 2, 3]), (54, [0, 1, 2, 3, 4, 5]), (168, [0, 1, 2, 3, 4, 5, 6, 8])],
  [(16, 11, 3, 3), (20, 11, 4, 3), (57, 11, 18, 3), (60, 11, 19, 3), (63, 11, 20, 3), (66, 11, 21, 3), (69, 11, 22, 3)],
  [],
  [(153, 1, 4, g_X11_letter)],
  [], 9, 2)
theorem one_X11_isSame : ab_oneM m_X11_isSame := List.forall_mem_cons.mpr ⟨o_X11_letter, fun _ h => absurd h List.not_mem_nil⟩
noncomputable def f_X11_isSame (l0 : Nat) (l1 : Int32) (l2 : Int32) (l3 : Int32) (st : ab_S) : Option ab_R := ab_rc st l0 11 (ab_lim m_X11_isSame 0 [.ref l0, .int l1, .int l2, .int l3] [] st)
noncomputable def L_X11_isSame_54 (l0 : Nat) (l1 : Int32) (l2 : Int32) (l3 : Int32) (l4 : Int32) (l5 : Int32) (st : ab_S) : Option ab_R := ab_lim m_X11_isSame 54 [.ref l0, .int l1, .int l2, .int l3, .int l4, .int l5] [] st
noncomputable def L_X11_isSame_168 (l0 : Nat) (l1 : Int32) (l2 : Int32) (l3 : Int32) (l4 : Int32) (l5 : Int32) (l6 : Int32) (l8 : Int32) (st : ab_S) : Option ab_R := ab_lim m_X11_isSame 168 [.ref l0, .int l1, .int l2, .int l3, .int l4, .int l5, .int l6, .int l8] [] st
noncomputable def g_X11_isSame : ab_G := fun as st k => match as with
  | [.ref a0, .int a1, .int a2, .int a3] => ab_ri (f_X11_isSame a0 a1 a2 a3 st) (fun x t => k [.int x] t)
  | _ => none
theorem o_X11_isSame : ab_one g_X11_isSame := by
  intro as st k r h
  unfold g_X11_isSame at h ⊢
  split at h
  · exact one_ri h
  · cases h
set_option maxRecDepth 100000 in
theorem e_X11_isSame_0 (l0 : Nat) (l1 : Int32) (l2 : Int32) (l3 : Int32) (st : ab_S) : f_X11_isSame l0 l1 l2 l3 st =
    ab_rc st l0 11 (
    Option.bind (ab_gR st l0 11 19) fun x1 =>
    Option.bind (ab_rI st x1 l2) fun x2 =>
    Option.bind (ab_gR st l0 11 18) fun x3 =>
    Option.bind (ab_rI st x3 l2) fun x4 =>
    Option.bind (ab_gR st l0 11 22) fun x5 =>
    Option.bind (ab_rJ st x5 l2) fun x6 =>
    Option.bind (ab_gR st l0 11 22) fun x7 =>
    Option.bind (ab_rJ st x7 l3) fun x8 =>
    if (lg_cmp x6 x8) = 0
    then Option.bind (ab_gR st l0 11 19) fun x9 =>
      Option.bind (ab_rI st x9 l3) fun x10 =>
      Option.bind (ab_gR st l0 11 18) fun x11 =>
      Option.bind (ab_rI st x11 l3) fun x12 =>
      if (x2 - x4) = (x10 - x12)
      then L_X11_isSame_54 l0 l1 l2 l3 (x2 - x4) (0 : Int32) st
      else ab_z (0 : Int32) (some (some (.int (0 : Int32)), st))
    else ab_z (0 : Int32) (some (some (.int (0 : Int32)), st))) := congrArg (ab_rc st l0 11) ((lm_eq one_X11_isSame 0 _ _ _).trans rfl)
set_option maxRecDepth 100000 in
theorem e_X11_isSame_54 (l0 : Nat) (l1 : Int32) (l2 : Int32) (l3 : Int32) (l4 : Int32) (l5 : Int32) (st : ab_S) : L_X11_isSame_54 l0 l1 l2 l3 l4 l5 st =
    if l4 ≤ l5
    then ab_z (1 : Int32) (some (some (.int (1 : Int32)), st))
    else Option.bind (ab_gR st l0 11 18) fun x1 =>
      Option.bind (ab_rI st x1 l2) fun x2 =>
      Option.bind (ab_gR st l0 11 18) fun x3 =>
      Option.bind (ab_rI st x3 l3) fun x4 =>
      Option.bind (ab_gR st l0 11 4) fun x5 =>
      Option.bind (ab_rJ st x5 ((((200 : Int32) * l1) + x2) + l5)) fun x6 =>
      Option.bind (ab_gR st l0 11 21) fun x7 =>
      Option.bind (ab_rJ st x7 l2) fun x8 =>
      Option.bind (ab_gR st l0 11 4) fun x9 =>
      Option.bind (ab_rJ st x9 ((((200 : Int32) * l1) + x4) + l5)) fun x10 =>
      Option.bind (ab_gR st l0 11 21) fun x11 =>
      Option.bind (ab_rJ st x11 l3) fun x12 =>
      if (lg_cmp (x6 - x8) (x10 - x12)) = 0
      then Option.bind (ab_gR st l0 11 3) fun x13 =>
        Option.bind (ab_rI st x13 ((((200 : Int32) * l1) + x2) + l5)) fun x14 =>
        Option.bind (ab_gR st l0 11 20) fun x15 =>
        Option.bind (ab_rI st x15 l2) fun x16 =>
        Option.bind (ab_gR st l0 11 3) fun x17 =>
        Option.bind (ab_rI st x17 ((((200 : Int32) * l1) + x4) + l5)) fun x18 =>
        Option.bind (ab_gR st l0 11 20) fun x19 =>
        Option.bind (ab_rI st x19 l3) fun x20 =>
        if (x14 - x16) = (x18 - x20)
        then Option.bind (ab_gR st l0 11 20) fun x21 =>
          Option.bind (ab_rI st x21 l2) fun x22 =>
          L_X11_isSame_168 l0 l1 l2 l3 l4 l5 ((((200 : Int32) * l1) + x2) + l5) x22 st
        else ab_z (0 : Int32) (some (some (.int (0 : Int32)), st))
      else ab_z (0 : Int32) (some (some (.int (0 : Int32)), st)) := (lm_eq one_X11_isSame 54 _ _ _).trans rfl
set_option maxRecDepth 100000 in
theorem e_X11_isSame_168 (l0 : Nat) (l1 : Int32) (l2 : Int32) (l3 : Int32) (l4 : Int32) (l5 : Int32) (l6 : Int32) (l8 : Int32) (st : ab_S) : L_X11_isSame_168 l0 l1 l2 l3 l4 l5 l6 l8 st =
    Option.bind (ab_gR st l0 11 3) fun x1 =>
    Option.bind (ab_rI st x1 l6) fun x2 =>
    if x2 ≤ l8
    then L_X11_isSame_54 l0 l1 l2 l3 l4 (l5 + (1 : Int32)) st
    else Option.bind (ab_gR st l0 11 18) fun x3 =>
      Option.bind (ab_rI st x3 l2) fun x4 =>
      ab_ri (f_X11_letter l0 l1 (x4 + l5) l8 st) fun x6 s5 =>
      Option.bind (ab_gR s5 l0 11 18) fun x7 =>
      Option.bind (ab_rI s5 x7 l3) fun x8 =>
      Option.bind (ab_gR s5 l0 11 20) fun x9 =>
      Option.bind (ab_rI s5 x9 l2) fun x10 =>
      Option.bind (ab_gR s5 l0 11 20) fun x11 =>
      Option.bind (ab_rI s5 x11 l3) fun x12 =>
      ab_ri (f_X11_letter l0 l1 (x8 + l5) ((l8 - x10) + x12) s5) fun x14 s13 =>
      if x6 = x14
      then L_X11_isSame_168 l0 l1 l2 l3 l4 l5 l6 (l8 + (1 : Int32)) s13
      else ab_z (0 : Int32) (some (some (.int (0 : Int32)), s13)) := (lm_eq one_X11_isSame 168 _ _ _).trans rfl
def c_X11_build : List (Nat × ab_I) := [(0, .aload_n 0, 1, .null, 0),
  (1, .iconst 0, 1, (.int (0)), 0),
  (2, .putfield 183, 3, .null, 0),
  (5, .aload_n 0, 1, .null, 0),
  (6, .iload_n 1, 1, .null, 1),
  (7, .iconst 0, 1, (.int (0)), 0),
  (8, .aload_n 0, 1, .null, 0),
  (9, .getfield 24, 3, .null, 0),
  (12, .iload_n 1, 1, .null, 1),
  (13, .iaload, 1, .null, 0),
  (14, .iconst 0, 1, (.int (0)), 0),
  (15, .invokevirtual 186, 3, .null, 0),
  (18, .iconst 0, 1, (.int (0)), 0),
  (19, .istore_n 2, 1, .null, 2),
  (20, .iload_n 2, 1, .null, 2),
  (21, .aload_n 0, 1, .null, 0),
  (22, .getfield 24, 3, .null, 0),
  (25, .iload_n 1, 1, .null, 1),
  (26, .iaload, 1, .null, 0),
  (27, .if_icmp .ge (147), 3, .null, 174),
  (30, .iconst 0, 1, (.int (0)), 0),
  (31, .istore_n 3, 1, .null, 3),
  (32, .iload_n 2, 1, .null, 2),
  (33, .ifCond .le (62), 3, .null, 95),
  (36, .iload_n 3, 1, .null, 3),
  (37, .aload_n 0, 1, .null, 0),
  (38, .getfield 16, 3, .null, 0),
  (41, .sipush (200), 3, (.int (200)), 0),
  (44, .iload_n 1, 1, .null, 1),
  (45, .imul, 1, .null, 0),
  (46, .iload_n 2, 1, .null, 2),
  (47, .iadd, 1, .null, 0),
  (48, .iconst 1, 1, (.int (1)), 0),
  (49, .isub, 1, .null, 0),
  (50, .iaload, 1, .null, 0),
  (51, .if_icmp .ge (44), 3, .null, 95),
  (54, .iload_n 3, 1, .null, 3),
  (55, .aload_n 0, 1, .null, 0),
  (56, .getfield 16, 3, .null, 0),
  (59, .sipush (200), 3, (.int (200)), 0),
  (62, .iload_n 1, 1, .null, 1),
  (63, .imul, 1, .null, 0),
  (64, .iload_n 2, 1, .null, 2),
  (65, .iadd, 1, .null, 0),
  (66, .iaload, 1, .null, 0),
  (67, .if_icmp .ge (28), 3, .null, 95),
  (70, .aload_n 0, 1, .null, 0),
  (71, .iload_n 1, 1, .null, 1),
  (72, .iload_n 2, 1, .null, 2),
  (73, .iconst 1, 1, (.int (1)), 0),
  (74, .isub, 1, .null, 0),
  (75, .iload_n 3, 1, .null, 3),
  (76, .invokevirtual 153, 3, .null, 0),
  (79, .aload_n 0, 1, .null, 0),
  (80, .iload_n 1, 1, .null, 1),
  (81, .iload_n 2, 1, .null, 2),
  (82, .iload_n 3, 1, .null, 3),
  (83, .invokevirtual 153, 3, .null, 0),
  (86, .if_icmp .ne (9), 3, .null, 95),
  (89, .iinc 3 (1), 3, (.int (1)), 3),
  (92, .goto (-56), 3, .null, 36),
  (95, .iload_n 3, 1, .null, 3),
  (96, .iconst 1, 1, (.int (1)), 0),
  (97, .iadd, 1, .null, 0),
  (98, .istore 4, 2, .null, 4),
  (100, .iload 4, 2, .null, 4),
  (102, .aload_n 0, 1, .null, 0),
  (103, .getfield 16, 3, .null, 0),
  (106, .sipush (200), 3, (.int (200)), 0),
  (109, .iload_n 1, 1, .null, 1),
  (110, .imul, 1, .null, 0),
  (111, .iload_n 2, 1, .null, 2),
  (112, .iadd, 1, .null, 0),
  (113, .iaload, 1, .null, 0),
  (114, .if_icmp .gt (54), 3, .null, 168),
  (117, .iload_n 2, 1, .null, 2),
  (118, .iconst 1, 1, (.int (1)), 0),
  (119, .iadd, 1, .null, 0),
  (120, .istore 5, 2, .null, 5),
  (122, .iload 5, 2, .null, 5),
  (124, .aload_n 0, 1, .null, 0),
  (125, .getfield 24, 3, .null, 0),
  (128, .iload_n 1, 1, .null, 1),
  (129, .iaload, 1, .null, 0),
  (130, .if_icmp .ge (22), 3, .null, 152),
  (133, .aload_n 0, 1, .null, 0),
  (134, .iload_n 1, 1, .null, 1),
  (135, .iload_n 2, 1, .null, 2),
  (136, .iload 5, 2, .null, 5),
  (138, .iload 4, 2, .null, 4),
  (140, .invokevirtual 190, 3, .null, 0),
  (143, .ifCond .eq (9), 3, .null, 152),
  (146, .iinc 5 (1), 3, (.int (1)), 5),
  (149, .goto (-27), 3, .null, 122),
  (152, .aload_n 0, 1, .null, 0),
  (153, .iload_n 1, 1, .null, 1),
  (154, .iload_n 2, 1, .null, 2),
  (155, .iload 5, 2, .null, 5),
  (157, .iload 4, 2, .null, 4),
  (159, .invokevirtual 186, 3, .null, 0),
  (162, .iinc 4 (1), 3, (.int (1)), 4),
  (165, .goto (-65), 3, .null, 100),
  (168, .iinc 2 (1), 3, (.int (1)), 2),
  (171, .goto (-151), 3, .null, 20),
  (174, .aload_n 0, 1, .null, 0),
  (175, .iconst 0, 1, (.int (0)), 0),
  (176, .putfield 180, 3, .null, 0),
  (179, .iconst 0, 1, (.int (0)), 0),
  (180, .istore_n 2, 1, .null, 2),
  (181, .iload_n 2, 1, .null, 2),
  (182, .aload_n 0, 1, .null, 0),
  (183, .getfield 183, 3, .null, 0),
  (186, .if_icmp .ge (72), 3, .null, 258),
  (189, .iconst 0, 1, (.int (0)), 0),
  (190, .istore_n 3, 1, .null, 3),
  (191, .iload_n 3, 1, .null, 3),
  (192, .aload_n 0, 1, .null, 0),
  (193, .getfield 180, 3, .null, 0),
  (196, .if_icmp .ge (24), 3, .null, 220),
  (199, .aload_n 0, 1, .null, 0),
  (200, .iload_n 1, 1, .null, 1),
  (201, .aload_n 0, 1, .null, 0),
  (202, .getfield 75, 3, .null, 0),
  (205, .iload_n 3, 1, .null, 3),
  (206, .iaload, 1, .null, 0),
  (207, .iload_n 2, 1, .null, 2),
  (208, .invokevirtual 194, 3, .null, 0),
  (211, .ifCond .ne (9), 3, .null, 220),
  (214, .iinc 3 (1), 3, (.int (1)), 3),
  (217, .goto (-26), 3, .null, 191),
  (220, .iload_n 3, 1, .null, 3),
  (221, .aload_n 0, 1, .null, 0),
  (222, .getfield 180, 3, .null, 0),
  (225, .if_icmp .ne (20), 3, .null, 245),
  (228, .aload_n 0, 1, .null, 0),
  (229, .getfield 75, 3, .null, 0),
  (232, .iload_n 3, 1, .null, 3),
  (233, .iload_n 2, 1, .null, 2),
  (234, .iastore, 1, .null, 0),
  (235, .aload_n 0, 1, .null, 0),
  (236, .dup, 1, .null, 0),
  (237, .getfield 180, 3, .null, 0),
  (240, .iconst 1, 1, (.int (1)), 0),
  (241, .iadd, 1, .null, 0),
  (242, .putfield 180, 3, .null, 0),
  (245, .aload_n 0, 1, .null, 0),
  (246, .getfield 72, 3, .null, 0),
  (249, .iload_n 2, 1, .null, 2),
  (250, .iload_n 3, 1, .null, 3),
  (251, .iastore, 1, .null, 0),
  (252, .iinc 2 (1), 3, (.int (1)), 2),
  (255, .goto (-74), 3, .null, 181),
  (258, .return_, 1, .null, 0)]
noncomputable def m_X11_build : ab_M := (c_X11_build, [(0, [0, 1]), (20, [0, 1, 2]), (36, [0, 1, 2, 3]), (95, [0, 1, 2, 3]), (100, [0, 1, 2, 4]), (122, [0, 1, 2, 4, 5]), (152, [0, 1, 2, 4, 5]), (181, [0, 1, 2]), (191, [0, 1, 2, 3]), (220, [0, 1, 2, 3]), (245, [0, 1, 2, 3])],
  [(16, 11, 3, 3), (24, 11, 5, 3), (72, 11, 23, 3), (75, 11, 24, 3), (180, 11, 25, 0), (183, 11, 17, 0)],
  [],
  [(153, 1, 4, g_X11_letter), (186, 1, 5, g_X11_put), (190, 1, 5, g_X11_isShared), (194, 1, 4, g_X11_isSame)],
  [], 6, 0)
theorem one_X11_build : ab_oneM m_X11_build := List.forall_mem_cons.mpr ⟨o_X11_letter, List.forall_mem_cons.mpr ⟨o_X11_put, List.forall_mem_cons.mpr ⟨o_X11_isShared, List.forall_mem_cons.mpr ⟨o_X11_isSame, fun _ h => absurd h List.not_mem_nil⟩⟩⟩⟩
noncomputable def f_X11_build (l0 : Nat) (l1 : Int32) (st : ab_S) : Option ab_R := ab_rc st l0 11 (ab_lim m_X11_build 0 [.ref l0, .int l1] [] st)
noncomputable def L_X11_build_20 (l0 : Nat) (l1 : Int32) (l2 : Int32) (st : ab_S) : Option ab_R := ab_lim m_X11_build 20 [.ref l0, .int l1, .int l2] [] st
noncomputable def L_X11_build_36 (l0 : Nat) (l1 : Int32) (l2 : Int32) (l3 : Int32) (st : ab_S) : Option ab_R := ab_lim m_X11_build 36 [.ref l0, .int l1, .int l2, .int l3] [] st
noncomputable def L_X11_build_95 (l0 : Nat) (l1 : Int32) (l2 : Int32) (l3 : Int32) (st : ab_S) : Option ab_R := ab_lim m_X11_build 95 [.ref l0, .int l1, .int l2, .int l3] [] st
noncomputable def L_X11_build_100 (l0 : Nat) (l1 : Int32) (l2 : Int32) (l4 : Int32) (st : ab_S) : Option ab_R := ab_lim m_X11_build 100 [.ref l0, .int l1, .int l2, .int l4] [] st
noncomputable def L_X11_build_122 (l0 : Nat) (l1 : Int32) (l2 : Int32) (l4 : Int32) (l5 : Int32) (st : ab_S) : Option ab_R := ab_lim m_X11_build 122 [.ref l0, .int l1, .int l2, .int l4, .int l5] [] st
noncomputable def L_X11_build_152 (l0 : Nat) (l1 : Int32) (l2 : Int32) (l4 : Int32) (l5 : Int32) (st : ab_S) : Option ab_R := ab_lim m_X11_build 152 [.ref l0, .int l1, .int l2, .int l4, .int l5] [] st
noncomputable def L_X11_build_181 (l0 : Nat) (l1 : Int32) (l2 : Int32) (st : ab_S) : Option ab_R := ab_lim m_X11_build 181 [.ref l0, .int l1, .int l2] [] st
noncomputable def L_X11_build_191 (l0 : Nat) (l1 : Int32) (l2 : Int32) (l3 : Int32) (st : ab_S) : Option ab_R := ab_lim m_X11_build 191 [.ref l0, .int l1, .int l2, .int l3] [] st
noncomputable def L_X11_build_220 (l0 : Nat) (l1 : Int32) (l2 : Int32) (l3 : Int32) (st : ab_S) : Option ab_R := ab_lim m_X11_build 220 [.ref l0, .int l1, .int l2, .int l3] [] st
noncomputable def L_X11_build_245 (l0 : Nat) (l1 : Int32) (l2 : Int32) (l3 : Int32) (st : ab_S) : Option ab_R := ab_lim m_X11_build 245 [.ref l0, .int l1, .int l2, .int l3] [] st
noncomputable def g_X11_build : ab_G := fun as st k => match as with
  | [.ref a0, .int a1] => ab_rv (f_X11_build a0 a1 st) (fun t => k [] t)
  | _ => none
theorem o_X11_build : ab_one g_X11_build := by
  intro as st k r h
  unfold g_X11_build at h ⊢
  split at h
  · exact one_rv h
  · cases h
set_option maxRecDepth 100000 in
theorem e_X11_build_0 (l0 : Nat) (l1 : Int32) (st : ab_S) : f_X11_build l0 l1 st =
    ab_rc st l0 11 (
    Option.bind (ab_pI st l0 11 17 (0 : Int32)) fun s1 =>
    Option.bind (ab_gR s1 l0 11 5) fun x2 =>
    Option.bind (ab_rI s1 x2 l1) fun x3 =>
    ab_rv (f_X11_put l0 l1 (0 : Int32) x3 (0 : Int32) s1) fun s4 =>
    L_X11_build_20 l0 l1 (0 : Int32) s4) := congrArg (ab_rc st l0 11) ((lm_eq one_X11_build 0 _ _ _).trans rfl)
set_option maxRecDepth 100000 in
theorem e_X11_build_20 (l0 : Nat) (l1 : Int32) (l2 : Int32) (st : ab_S) : L_X11_build_20 l0 l1 l2 st =
    Option.bind (ab_gR st l0 11 5) fun x1 =>
    Option.bind (ab_rI st x1 l1) fun x2 =>
    if x2 ≤ l2
    then Option.bind (ab_pI st l0 11 25 (0 : Int32)) fun s3 =>
      L_X11_build_181 l0 l1 (0 : Int32) s3
    else if l2 ≤ 0
      then L_X11_build_95 l0 l1 l2 (0 : Int32) st
      else L_X11_build_36 l0 l1 l2 (0 : Int32) st := (lm_eq one_X11_build 20 _ _ _).trans rfl
set_option maxRecDepth 100000 in
theorem e_X11_build_36 (l0 : Nat) (l1 : Int32) (l2 : Int32) (l3 : Int32) (st : ab_S) : L_X11_build_36 l0 l1 l2 l3 st =
    Option.bind (ab_gR st l0 11 3) fun x1 =>
    Option.bind (ab_rI st x1 ((((200 : Int32) * l1) + l2) - (1 : Int32))) fun x2 =>
    if x2 ≤ l3
    then L_X11_build_95 l0 l1 l2 l3 st
    else Option.bind (ab_gR st l0 11 3) fun x3 =>
      Option.bind (ab_rI st x3 (((200 : Int32) * l1) + l2)) fun x4 =>
      if x4 ≤ l3
      then L_X11_build_95 l0 l1 l2 l3 st
      else ab_ri (f_X11_letter l0 l1 (l2 - (1 : Int32)) l3 st) fun x6 s5 =>
        ab_ri (f_X11_letter l0 l1 l2 l3 s5) fun x8 s7 =>
        if x6 = x8
        then L_X11_build_36 l0 l1 l2 (l3 + (1 : Int32)) s7
        else L_X11_build_95 l0 l1 l2 l3 s7 := (lm_eq one_X11_build 36 _ _ _).trans rfl
set_option maxRecDepth 100000 in
theorem e_X11_build_95 (l0 : Nat) (l1 : Int32) (l2 : Int32) (l3 : Int32) (st : ab_S) : L_X11_build_95 l0 l1 l2 l3 st =
    L_X11_build_100 l0 l1 l2 (l3 + (1 : Int32)) st := (lm_eq one_X11_build 95 _ _ _).trans rfl
set_option maxRecDepth 100000 in
theorem e_X11_build_100 (l0 : Nat) (l1 : Int32) (l2 : Int32) (l4 : Int32) (st : ab_S) : L_X11_build_100 l0 l1 l2 l4 st =
    Option.bind (ab_gR st l0 11 3) fun x1 =>
    Option.bind (ab_rI st x1 (((200 : Int32) * l1) + l2)) fun x2 =>
    if x2 < l4
    then L_X11_build_20 l0 l1 (l2 + (1 : Int32)) st
    else L_X11_build_122 l0 l1 l2 l4 (l2 + (1 : Int32)) st := (lm_eq one_X11_build 100 _ _ _).trans rfl
set_option maxRecDepth 100000 in
theorem e_X11_build_122 (l0 : Nat) (l1 : Int32) (l2 : Int32) (l4 : Int32) (l5 : Int32) (st : ab_S) : L_X11_build_122 l0 l1 l2 l4 l5 st =
    Option.bind (ab_gR st l0 11 5) fun x1 =>
    Option.bind (ab_rI st x1 l1) fun x2 =>
    if x2 ≤ l5
    then L_X11_build_152 l0 l1 l2 l4 l5 st
    else ab_ri (f_X11_isShared l0 l1 l2 l5 l4 st) fun x4 s3 =>
      if x4 = 0
      then L_X11_build_152 l0 l1 l2 l4 l5 s3
      else L_X11_build_122 l0 l1 l2 l4 (l5 + (1 : Int32)) s3 := (lm_eq one_X11_build 122 _ _ _).trans rfl
set_option maxRecDepth 100000 in
theorem e_X11_build_152 (l0 : Nat) (l1 : Int32) (l2 : Int32) (l4 : Int32) (l5 : Int32) (st : ab_S) : L_X11_build_152 l0 l1 l2 l4 l5 st =
    ab_rv (f_X11_put l0 l1 l2 l5 l4 st) fun s1 =>
    L_X11_build_100 l0 l1 l2 (l4 + (1 : Int32)) s1 := (lm_eq one_X11_build 152 _ _ _).trans rfl
set_option maxRecDepth 100000 in
theorem e_X11_build_181 (l0 : Nat) (l1 : Int32) (l2 : Int32) (st : ab_S) : L_X11_build_181 l0 l1 l2 st =
    Option.bind (ab_gI st l0 11 17) fun x1 =>
    if x1 ≤ l2
    then some (none, st)
    else L_X11_build_191 l0 l1 l2 (0 : Int32) st := (lm_eq one_X11_build 181 _ _ _).trans rfl
set_option maxRecDepth 100000 in
theorem e_X11_build_191 (l0 : Nat) (l1 : Int32) (l2 : Int32) (l3 : Int32) (st : ab_S) : L_X11_build_191 l0 l1 l2 l3 st =
    Option.bind (ab_gI st l0 11 25) fun x1 =>
    if x1 ≤ l3
    then L_X11_build_220 l0 l1 l2 l3 st
    else Option.bind (ab_gR st l0 11 24) fun x2 =>
      Option.bind (ab_rI st x2 l3) fun x3 =>
      ab_ri (f_X11_isSame l0 l1 x3 l2 st) fun x5 s4 =>
      if x5 = 0
      then L_X11_build_191 l0 l1 l2 (l3 + (1 : Int32)) s4
      else L_X11_build_220 l0 l1 l2 l3 s4 := (lm_eq one_X11_build 191 _ _ _).trans rfl
set_option maxRecDepth 100000 in
theorem e_X11_build_220 (l0 : Nat) (l1 : Int32) (l2 : Int32) (l3 : Int32) (st : ab_S) : L_X11_build_220 l0 l1 l2 l3 st =
    Option.bind (ab_gI st l0 11 25) fun x1 =>
    if l3 = x1
    then Option.bind (ab_gR st l0 11 24) fun x2 =>
      Option.bind (ab_wI st x2 l3 l2) fun s3 =>
      Option.bind (ab_gI s3 l0 11 25) fun x4 =>
      Option.bind (ab_pI s3 l0 11 25 (x4 + (1 : Int32))) fun s5 =>
      L_X11_build_245 l0 l1 l2 l3 s5
    else L_X11_build_245 l0 l1 l2 l3 st := (lm_eq one_X11_build 220 _ _ _).trans rfl
set_option maxRecDepth 100000 in
theorem e_X11_build_245 (l0 : Nat) (l1 : Int32) (l2 : Int32) (l3 : Int32) (st : ab_S) : L_X11_build_245 l0 l1 l2 l3 st =
    Option.bind (ab_gR st l0 11 23) fun x1 =>
    Option.bind (ab_wI st x1 l2 l3) fun s2 =>
    L_X11_build_181 l0 l1 (l2 + (1 : Int32)) s2 := (lm_eq one_X11_build 245 _ _ _).trans rfl
def c_X11_done : List (Nat × ab_I) := [(0, .iload_n 1, 1, .null, 1),
  (1, .invokestatic 159, 3, .null, 0),
  (4, .ifCond .ne (6), 3, .null, 10),
  (7, .bipush (-2), 2, (.int (-2)), 0),
  (9, .ireturn, 1, .null, 0),
  (10, .aload_n 0, 1, .null, 0),
  (11, .getfield 27, 3, .null, 0),
  (14, .iload_n 1, 1, .null, 1),
  (15, .baload, 1, .null, 0),
  (16, .ifCond .ne (6), 3, .null, 22),
  (19, .bipush (-4), 2, (.int (-4)), 0),
  (21, .ireturn, 1, .null, 0),
  (22, .aload_n 0, 1, .null, 0),
  (23, .getfield 27, 3, .null, 0),
  (26, .iload_n 1, 1, .null, 1),
  (27, .iconst 0, 1, (.int (0)), 0),
  (28, .bastore, 1, .null, 0),
  (29, .aload_n 0, 1, .null, 0),
  (30, .iload_n 1, 1, .null, 1),
  (31, .invokevirtual 176, 3, .null, 0),
  (34, .aload_n 0, 1, .null, 0),
  (35, .getfield 180, 3, .null, 0),
  (38, .ireturn, 1, .null, 0)]
noncomputable def m_X11_done : ab_M := (c_X11_done, [(0, [0, 1])],
  [(27, 11, 6, 3), (180, 11, 25, 0)],
  [],
  [(159, 0, 1, g_X11_isDictionary), (176, 1, 2, g_X11_build)],
  [], 2, 1)
theorem one_X11_done : ab_oneM m_X11_done := List.forall_mem_cons.mpr ⟨o_X11_isDictionary, List.forall_mem_cons.mpr ⟨o_X11_build, fun _ h => absurd h List.not_mem_nil⟩⟩
noncomputable def f_X11_done (l0 : Nat) (l1 : Int32) (st : ab_S) : Option ab_R := ab_rc st l0 11 (ab_lim m_X11_done 0 [.ref l0, .int l1] [] st)
noncomputable def g_X11_done : ab_G := fun as st k => match as with
  | [.ref a0, .int a1] => ab_ri (f_X11_done a0 a1 st) (fun x t => k [.int x] t)
  | _ => none
theorem o_X11_done : ab_one g_X11_done := by
  intro as st k r h
  unfold g_X11_done at h ⊢
  split at h
  · exact one_ri h
  · cases h
set_option maxRecDepth 100000 in
theorem e_X11_done_0 (l0 : Nat) (l1 : Int32) (st : ab_S) : f_X11_done l0 l1 st =
    ab_rc st l0 11 (
    ab_ri (f_X11_isDictionary l1 st) fun x2 s1 =>
    if x2 = 0
    then some (some (.int (-2 : Int32)), s1)
    else Option.bind (ab_gR s1 l0 11 6) fun x3 =>
      Option.bind (ab_rB s1 x3 l1) fun x4 =>
      if x4 = 0
      then some (some (.int (-4 : Int32)), s1)
      else Option.bind (ab_gR s1 l0 11 6) fun x5 =>
        Option.bind (ab_wB s1 x5 l1 (0 : Int32)) fun s6 =>
        ab_rv (f_X11_build l0 l1 s6) fun s7 =>
        Option.bind (ab_gI s7 l0 11 25) fun x8 =>
        some (some (.int x8), s7)) := congrArg (ab_rc st l0 11) ((lm_eq one_X11_done 0 _ _ _).trans rfl)
def c_X7_leastNotBelow : List (Nat × ab_I) := [(0, .iconst 0, 1, (.int (0)), 0),
  (1, .istore_n 2, 1, .null, 2),
  (2, .aload_n 0, 1, .null, 0),
  (3, .getfield 22, 3, .null, 0),
  (6, .istore_n 3, 1, .null, 3),
  (7, .iconst 0, 1, (.int (0)), 0),
  (8, .istore 4, 2, .null, 4),
  (10, .iload 4, 2, .null, 4),
  (12, .sipush (200), 3, (.int (200)), 0),
  (15, .if_icmp .gt (42), 3, .null, 57),
  (18, .iload_n 2, 1, .null, 2),
  (19, .iload_n 3, 1, .null, 3),
  (20, .if_icmp .ge (37), 3, .null, 57),
  (23, .iload_n 2, 1, .null, 2),
  (24, .iload_n 3, 1, .null, 3),
  (25, .iadd, 1, .null, 0),
  (26, .iconst 1, 1, (.int (1)), 0),
  (27, .iushr, 1, .null, 0),
  (28, .istore 5, 2, .null, 5),
  (30, .aload_n 0, 1, .null, 0),
  (31, .iload 5, 2, .null, 5),
  (33, .aload_n 1, 1, .null, 1),
  (34, .invokevirtual 51, 3, .null, 0),
  (37, .ifCond .ge (11), 3, .null, 48),
  (40, .iload 5, 2, .null, 5),
  (42, .iconst 1, 1, (.int (1)), 0),
  (43, .iadd, 1, .null, 0),
  (44, .istore_n 2, 1, .null, 2),
  (45, .goto (6), 3, .null, 51),
  (48, .iload 5, 2, .null, 5),
  (50, .istore_n 3, 1, .null, 3),
  (51, .iinc 4 (1), 3, (.int (1)), 4),
  (54, .goto (-44), 3, .null, 10),
  (57, .iload_n 2, 1, .null, 2),
  (58, .ireturn, 1, .null, 0)]
noncomputable def m_X7_leastNotBelow : ab_M := (c_X7_leastNotBelow, [(0, [0, 1]), (10, [0, 1, 2, 3, 4]), (51, [0, 1, 2, 3, 4])],
  [(22, 7, 3, 0)],
  [],
  [(51, 1, 3, g_X7_compareWith)],
  [], 6, 1)
theorem one_X7_leastNotBelow : ab_oneM m_X7_leastNotBelow := List.forall_mem_cons.mpr ⟨o_X7_compareWith, fun _ h => absurd h List.not_mem_nil⟩
noncomputable def f_X7_leastNotBelow (l0 : Nat) (l1 : Nat) (st : ab_S) : Option ab_R := ab_rc st l0 7 (ab_lim m_X7_leastNotBelow 0 [.ref l0, .ref l1] [] st)
noncomputable def L_X7_leastNotBelow_10 (l0 : Nat) (l1 : Nat) (l2 : Int32) (l3 : Int32) (l4 : Int32) (st : ab_S) : Option ab_R := ab_lim m_X7_leastNotBelow 10 [.ref l0, .ref l1, .int l2, .int l3, .int l4] [] st
noncomputable def L_X7_leastNotBelow_51 (l0 : Nat) (l1 : Nat) (l2 : Int32) (l3 : Int32) (l4 : Int32) (st : ab_S) : Option ab_R := ab_lim m_X7_leastNotBelow 51 [.ref l0, .ref l1, .int l2, .int l3, .int l4] [] st
noncomputable def g_X7_leastNotBelow : ab_G := fun as st k => match as with
  | [.ref a0, .ref a1] => ab_ri (f_X7_leastNotBelow a0 a1 st) (fun x t => k [.int x] t)
  | _ => none
theorem o_X7_leastNotBelow : ab_one g_X7_leastNotBelow := by
  intro as st k r h
  unfold g_X7_leastNotBelow at h ⊢
  split at h
  · exact one_ri h
  · cases h
set_option maxRecDepth 100000 in
theorem e_X7_leastNotBelow_0 (l0 : Nat) (l1 : Nat) (st : ab_S) : f_X7_leastNotBelow l0 l1 st =
    ab_rc st l0 7 (
    Option.bind (ab_gI st l0 7 3) fun x1 =>
    L_X7_leastNotBelow_10 l0 l1 (0 : Int32) x1 (0 : Int32) st) := congrArg (ab_rc st l0 7) ((lm_eq one_X7_leastNotBelow 0 _ _ _).trans rfl)
set_option maxRecDepth 100000 in
theorem e_X7_leastNotBelow_10 (l0 : Nat) (l1 : Nat) (l2 : Int32) (l3 : Int32) (l4 : Int32) (st : ab_S) : L_X7_leastNotBelow_10 l0 l1 l2 l3 l4 st =
    if (200 : Int32) < l4
    then some (some (.int l2), st)
    else if l3 ≤ l2
      then some (some (.int l2), st)
      else ab_ri (f_X7_compareWith l0 (((l2 + l3).toUInt32 >>> ((1 : Int32).toUInt32 &&& Int32.toUInt32 31)).toInt32) l1 st) fun x2 s1 =>
        if 0 ≤ x2
        then L_X7_leastNotBelow_51 l0 l1 l2 ((l2 + l3).toUInt32 >>> ((1 : Int32).toUInt32 &&& Int32.toUInt32 31)).toInt32 l4 s1
        else L_X7_leastNotBelow_51 l0 l1 (((l2 + l3).toUInt32 >>> ((1 : Int32).toUInt32 &&& Int32.toUInt32 31)).toInt32 + (1 : Int32)) l3 l4 s1 := (lm_eq one_X7_leastNotBelow 10 _ _ _).trans rfl
set_option maxRecDepth 100000 in
theorem e_X7_leastNotBelow_51 (l0 : Nat) (l1 : Nat) (l2 : Int32) (l3 : Int32) (l4 : Int32) (st : ab_S) : L_X7_leastNotBelow_51 l0 l1 l2 l3 l4 st =
    L_X7_leastNotBelow_10 l0 l1 l2 l3 (l4 + (1 : Int32)) st := (lm_eq one_X7_leastNotBelow 51 _ _ _).trans rfl
def c_X7_numberOf : List (Nat × ab_I) := [(0, .aload_n 0, 1, .null, 0),
  (1, .aload_n 1, 1, .null, 1),
  (2, .invokevirtual 55, 3, .null, 0),
  (5, .istore_n 2, 1, .null, 2),
  (6, .iload_n 2, 1, .null, 2),
  (7, .aload_n 0, 1, .null, 0),
  (8, .getfield 22, 3, .null, 0),
  (11, .if_icmp .ge (16), 3, .null, 27),
  (14, .aload_n 0, 1, .null, 0),
  (15, .iload_n 2, 1, .null, 2),
  (16, .aload_n 1, 1, .null, 1),
  (17, .invokevirtual 51, 3, .null, 0),
  (20, .ifCond .ne (7), 3, .null, 27),
  (23, .iload_n 2, 1, .null, 2),
  (24, .goto (4), 3, .null, 28),
  (27, .iconst (-1), 1, (.int (-1)), 0),
  (28, .ireturn, 1, .null, 0)]
noncomputable def m_X7_numberOf : ab_M := (c_X7_numberOf, [(0, [0, 1])],
  [(22, 7, 3, 0)],
  [],
  [(51, 1, 3, g_X7_compareWith), (55, 1, 2, g_X7_leastNotBelow)],
  [], 3, 1)
theorem one_X7_numberOf : ab_oneM m_X7_numberOf := List.forall_mem_cons.mpr ⟨o_X7_compareWith, List.forall_mem_cons.mpr ⟨o_X7_leastNotBelow, fun _ h => absurd h List.not_mem_nil⟩⟩
noncomputable def f_X7_numberOf (l0 : Nat) (l1 : Nat) (st : ab_S) : Option ab_R := ab_rc st l0 7 (ab_lim m_X7_numberOf 0 [.ref l0, .ref l1] [] st)
noncomputable def g_X7_numberOf : ab_G := fun as st k => match as with
  | [.ref a0, .ref a1] => ab_ri (f_X7_numberOf a0 a1 st) (fun x t => k [.int x] t)
  | _ => none
theorem o_X7_numberOf : ab_one g_X7_numberOf := by
  intro as st k r h
  unfold g_X7_numberOf at h ⊢
  split at h
  · exact one_ri h
  · cases h
set_option maxRecDepth 100000 in
theorem e_X7_numberOf_0 (l0 : Nat) (l1 : Nat) (st : ab_S) : f_X7_numberOf l0 l1 st =
    ab_rc st l0 7 (
    ab_ri (f_X7_leastNotBelow l0 l1 st) fun x2 s1 =>
    Option.bind (ab_gI s1 l0 7 3) fun x3 =>
    if x3 ≤ x2
    then some (some (.int (-1 : Int32)), s1)
    else ab_ri (f_X7_compareWith l0 x2 l1 s1) fun x5 s4 =>
      if x5 = 0
      then some (some (.int x2), s4)
      else some (some (.int (-1 : Int32)), s4)) := congrArg (ab_rc st l0 7) ((lm_eq one_X7_numberOf 0 _ _ _).trans rfl)
def c_X10_find : List (Nat × ab_I) := [(0, .iload_n 1, 1, .null, 1),
  (1, .invokestatic 95, 3, .null, 0),
  (4, .ifCond .ne (7), 3, .null, 11),
  (7, .ldc2_w 139, 3, (.long (-2)), 0),
  (10, .lreturn, 1, .null, 0),
  (11, .aload_n 0, 1, .null, 0),
  (12, .invokevirtual 91, 3, .null, 0),
  (15, .astore_n 2, 1, .null, 2),
  (16, .aload_n 0, 1, .null, 0),
  (17, .getfield 11, 3, .null, 0),
  (20, .iload_n 1, 1, .null, 1),
  (21, .aaload, 1, .null, 0),
  (22, .astore_n 3, 1, .null, 3),
  (23, .aload_n 3, 1, .null, 3),
  (24, .getfield 109, 3, .null, 0),
  (27, .ifCond .eq (9), 3, .null, 36),
  (30, .ldc2_w 141, 3, (.long (-4)), 0),
  (33, .goto (18), 3, .null, 51),
  (36, .aload_n 3, 1, .null, 3),
  (37, .getfield 99, 3, .null, 0),
  (40, .aload_n 3, 1, .null, 3),
  (41, .getfield 99, 3, .null, 0),
  (44, .aload_n 2, 1, .null, 2),
  (45, .invokevirtual 143, 3, .null, 0),
  (48, .invokevirtual 147, 3, .null, 0),
  (51, .lreturn, 1, .null, 0)]
noncomputable def m_X10_find : ab_M := (c_X10_find, [(0, [0, 1])],
  [(11, 10, 0, 3), (99, 0, 0, 3), (109, 0, 2, 1)],
  [],
  [(91, 1, 1, g_X10_takeCollected), (95, 0, 1, g_X10_isDictionary), (143, 1, 2, g_X7_numberOf), (147, 1, 2, g_X7_outAt)],
  [], 4, 3)
theorem one_X10_find : ab_oneM m_X10_find := List.forall_mem_cons.mpr ⟨o_X10_takeCollected, List.forall_mem_cons.mpr ⟨o_X10_isDictionary, List.forall_mem_cons.mpr ⟨o_X7_numberOf, List.forall_mem_cons.mpr ⟨o_X7_outAt, fun _ h => absurd h List.not_mem_nil⟩⟩⟩⟩
noncomputable def f_X10_find (l0 : Nat) (l1 : Int32) (st : ab_S) : Option ab_R := ab_rc st l0 10 (ab_lim m_X10_find 0 [.ref l0, .int l1] [] st)
noncomputable def g_X10_find : ab_G := fun as st k => match as with
  | [.ref a0, .int a1] => ab_rl (f_X10_find a0 a1 st) (fun x t => k [.long x] t)
  | _ => none
theorem o_X10_find : ab_one g_X10_find := by
  intro as st k r h
  unfold g_X10_find at h ⊢
  split at h
  · exact one_rl h
  · cases h
set_option maxRecDepth 100000 in
theorem e_X10_find_0 (l0 : Nat) (l1 : Int32) (st : ab_S) : f_X10_find l0 l1 st =
    ab_rc st l0 10 (
    ab_ri (f_X10_isDictionary l1 st) fun x2 s1 =>
    if x2 = 0
    then some (some (.long (-2 : Int64)), s1)
    else ab_rr (f_X10_takeCollected l0 s1) fun x4 s3 =>
      Option.bind (ab_gR s3 l0 10 0) fun x5 =>
      Option.bind (ab_rR s3 x5 l1) fun x6 =>
      Option.bind (ab_gI s3 x6 0 2) fun x7 =>
      if x7 = 0
      then Option.bind (ab_gR s3 x6 0 0) fun x8 =>
        Option.bind (ab_gR s3 x6 0 0) fun x9 =>
        ab_ri (f_X7_numberOf x9 x4 s3) fun x11 s10 =>
        ab_rl (f_X7_outAt x8 x11 s10) fun x13 s12 =>
        some (some (.long x13), s12)
      else some (some (.long (-4 : Int64)), s3)) := congrArg (ab_rc st l0 10) ((lm_eq one_X10_find 0 _ _ _).trans rfl)
def c_X11_place : List (Nat × ab_I) := [(0, .iconst 0, 1, (.int (0)), 0),
  (1, .istore_n 3, 1, .null, 3),
  (2, .iload_n 3, 1, .null, 3),
  (3, .aload_n 0, 1, .null, 0),
  (4, .getfield 24, 3, .null, 0),
  (7, .iload_n 1, 1, .null, 1),
  (8, .iaload, 1, .null, 0),
  (9, .if_icmp .ge (21), 3, .null, 30),
  (12, .aload_n 0, 1, .null, 0),
  (13, .iload_n 1, 1, .null, 1),
  (14, .iload_n 3, 1, .null, 3),
  (15, .iload_n 2, 1, .null, 2),
  (16, .invokevirtual 169, 3, .null, 0),
  (19, .ifCond .ne (5), 3, .null, 24),
  (22, .iload_n 3, 1, .null, 3),
  (23, .ireturn, 1, .null, 0),
  (24, .iinc 3 (1), 3, (.int (1)), 3),
  (27, .goto (-25), 3, .null, 2),
  (30, .iconst (-1), 1, (.int (-1)), 0),
  (31, .ireturn, 1, .null, 0)]
noncomputable def m_X11_place : ab_M := (c_X11_place, [(0, [0, 1, 2]), (2, [0, 1, 2, 3])],
  [(24, 11, 5, 3)],
  [],
  [(169, 1, 4, g_X11_compare)],
  [], 4, 1)
theorem one_X11_place : ab_oneM m_X11_place := List.forall_mem_cons.mpr ⟨o_X11_compare, fun _ h => absurd h List.not_mem_nil⟩
noncomputable def f_X11_place (l0 : Nat) (l1 : Int32) (l2 : Int32) (st : ab_S) : Option ab_R := ab_rc st l0 11 (ab_lim m_X11_place 0 [.ref l0, .int l1, .int l2] [] st)
noncomputable def L_X11_place_2 (l0 : Nat) (l1 : Int32) (l2 : Int32) (l3 : Int32) (st : ab_S) : Option ab_R := ab_lim m_X11_place 2 [.ref l0, .int l1, .int l2, .int l3] [] st
noncomputable def g_X11_place : ab_G := fun as st k => match as with
  | [.ref a0, .int a1, .int a2] => ab_ri (f_X11_place a0 a1 a2 st) (fun x t => k [.int x] t)
  | _ => none
theorem o_X11_place : ab_one g_X11_place := by
  intro as st k r h
  unfold g_X11_place at h ⊢
  split at h
  · exact one_ri h
  · cases h
set_option maxRecDepth 100000 in
theorem e_X11_place_0 (l0 : Nat) (l1 : Int32) (l2 : Int32) (st : ab_S) : f_X11_place l0 l1 l2 st =
    ab_rc st l0 11 (
    L_X11_place_2 l0 l1 l2 (0 : Int32) st) := congrArg (ab_rc st l0 11) ((lm_eq one_X11_place 0 _ _ _).trans rfl)
set_option maxRecDepth 100000 in
theorem e_X11_place_2 (l0 : Nat) (l1 : Int32) (l2 : Int32) (l3 : Int32) (st : ab_S) : L_X11_place_2 l0 l1 l2 l3 st =
    Option.bind (ab_gR st l0 11 5) fun x1 =>
    Option.bind (ab_rI st x1 l1) fun x2 =>
    if x2 ≤ l3
    then some (some (.int (-1 : Int32)), st)
    else ab_ri (f_X11_compare l0 l1 l3 l2 st) fun x4 s3 =>
      if x4 = 0
      then some (some (.int l3), s3)
      else L_X11_place_2 l0 l1 l2 (l3 + (1 : Int32)) s3 := (lm_eq one_X11_place 2 _ _ _).trans rfl
def c_X11_find : List (Nat × ab_I) := [(0, .iload_n 1, 1, .null, 1),
  (1, .invokestatic 159, 3, .null, 0),
  (4, .ifCond .ne (7), 3, .null, 11),
  (7, .ldc2_w 216, 3, (.long (-2)), 0),
  (10, .lreturn, 1, .null, 0),
  (11, .aload_n 0, 1, .null, 0),
  (12, .invokevirtual 165, 3, .null, 0),
  (15, .istore_n 2, 1, .null, 2),
  (16, .aload_n 0, 1, .null, 0),
  (17, .getfield 27, 3, .null, 0),
  (20, .iload_n 1, 1, .null, 1),
  (21, .baload, 1, .null, 0),
  (22, .ifCond .eq (7), 3, .null, 29),
  (25, .ldc2_w 218, 3, (.long (-4)), 0),
  (28, .lreturn, 1, .null, 0),
  (29, .aload_n 0, 1, .null, 0),
  (30, .iload_n 1, 1, .null, 1),
  (31, .iload_n 2, 1, .null, 2),
  (32, .invokevirtual 220, 3, .null, 0),
  (35, .istore_n 3, 1, .null, 3),
  (36, .iload_n 3, 1, .null, 3),
  (37, .iconst (-1), 1, (.int (-1)), 0),
  (38, .if_icmp .ne (9), 3, .null, 47),
  (41, .ldc2_w 224, 3, (.long (-1)), 0),
  (44, .goto (15), 3, .null, 59),
  (47, .aload_n 0, 1, .null, 0),
  (48, .getfield 20, 3, .null, 0),
  (51, .sipush (200), 3, (.int (200)), 0),
  (54, .iload_n 1, 1, .null, 1),
  (55, .imul, 1, .null, 0),
  (56, .iload_n 3, 1, .null, 3),
  (57, .iadd, 1, .null, 0),
  (58, .laload, 1, .null, 0),
  (59, .lreturn, 1, .null, 0)]
noncomputable def m_X11_find : ab_M := (c_X11_find, [(0, [0, 1])],
  [(20, 11, 4, 3), (27, 11, 6, 3)],
  [],
  [(159, 0, 1, g_X11_isDictionary), (165, 1, 1, g_X11_forget), (220, 1, 3, g_X11_place)],
  [], 4, 3)
theorem one_X11_find : ab_oneM m_X11_find := List.forall_mem_cons.mpr ⟨o_X11_isDictionary, List.forall_mem_cons.mpr ⟨o_X11_forget, List.forall_mem_cons.mpr ⟨o_X11_place, fun _ h => absurd h List.not_mem_nil⟩⟩⟩
noncomputable def f_X11_find (l0 : Nat) (l1 : Int32) (st : ab_S) : Option ab_R := ab_rc st l0 11 (ab_lim m_X11_find 0 [.ref l0, .int l1] [] st)
noncomputable def g_X11_find : ab_G := fun as st k => match as with
  | [.ref a0, .int a1] => ab_rl (f_X11_find a0 a1 st) (fun x t => k [.long x] t)
  | _ => none
theorem o_X11_find : ab_one g_X11_find := by
  intro as st k r h
  unfold g_X11_find at h ⊢
  split at h
  · exact one_rl h
  · cases h
set_option maxRecDepth 100000 in
theorem e_X11_find_0 (l0 : Nat) (l1 : Int32) (st : ab_S) : f_X11_find l0 l1 st =
    ab_rc st l0 11 (
    ab_ri (f_X11_isDictionary l1 st) fun x2 s1 =>
    if x2 = 0
    then some (some (.long (-2 : Int64)), s1)
    else ab_ri (f_X11_forget l0 s1) fun x4 s3 =>
      Option.bind (ab_gR s3 l0 11 6) fun x5 =>
      Option.bind (ab_rB s3 x5 l1) fun x6 =>
      if x6 = 0
      then ab_ri (f_X11_place l0 l1 x4 s3) fun x8 s7 =>
        if x8 = (-1 : Int32)
        then some (some (.long (-1 : Int64)), s7)
        else Option.bind (ab_gR s7 l0 11 4) fun x9 =>
          Option.bind (ab_rJ s7 x9 (((200 : Int32) * l1) + x8)) fun x10 =>
          some (some (.long x10), s7)
      else some (some (.long (-4 : Int64)), s3)) := congrArg (ab_rc st l0 11) ((lm_eq one_X11_find 0 _ _ _).trans rfl)
def c_X1_has : List (Nat × ab_I) := [(0, .iload_n 1, 1, .null, 1),
  (1, .ifCond .lt (22), 3, .null, 23),
  (4, .iload_n 1, 1, .null, 1),
  (5, .aload_n 0, 1, .null, 0),
  (6, .getfield 49, 3, .null, 0),
  (9, .if_icmp .ge (14), 3, .null, 23),
  (12, .iload_n 1, 1, .null, 1),
  (13, .sipush (2401), 3, (.int (2401)), 0),
  (16, .if_icmp .ge (7), 3, .null, 23),
  (19, .iconst 1, 1, (.int (1)), 0),
  (20, .goto (4), 3, .null, 24),
  (23, .iconst 0, 1, (.int (0)), 0),
  (24, .ireturn, 1, .null, 0)]
noncomputable def m_X1_has : ab_M := (c_X1_has, [(0, [0, 1])],
  [(49, 1, 7, 0)],
  [],
  [],
  [], 2, 2)
theorem one_X1_has : ab_oneM m_X1_has := fun _ h => absurd h List.not_mem_nil
noncomputable def f_X1_has (l0 : Nat) (l1 : Int32) (st : ab_S) : Option ab_R := ab_rc st l0 1 (ab_lim m_X1_has 0 [.ref l0, .int l1] [] st)
noncomputable def g_X1_has : ab_G := fun as st k => match as with
  | [.ref a0, .int a1] => ab_ri (f_X1_has a0 a1 st) (fun x t => k [.int x] t)
  | _ => none
theorem o_X1_has : ab_one g_X1_has := by
  intro as st k r h
  unfold g_X1_has at h ⊢
  split at h
  · exact one_ri h
  · cases h
set_option maxRecDepth 100000 in
theorem e_X1_has_0 (l0 : Nat) (l1 : Int32) (st : ab_S) : f_X1_has l0 l1 st =
    ab_rc st l0 1 (
    if l1 < 0
    then ab_z (0 : Int32) (some (some (.int (0 : Int32)), st))
    else Option.bind (ab_gI st l0 1 7) fun x1 =>
      if x1 ≤ l1
      then ab_z (0 : Int32) (some (some (.int (0 : Int32)), st))
      else if (2401 : Int32) ≤ l1
        then ab_z (0 : Int32) (some (some (.int (0 : Int32)), st))
        else ab_z (1 : Int32) (some (some (.int (1 : Int32)), st))) := congrArg (ab_rc st l0 1) ((lm_eq one_X1_has 0 _ _ _).trans rfl)
def c_X1_arcsOf : List (Nat × ab_I) := [(0, .aload_n 0, 1, .null, 0),
  (1, .iload_n 1, 1, .null, 1),
  (2, .invokevirtual 58, 3, .null, 0),
  (5, .ifCond .eq (21), 3, .null, 26),
  (8, .aload_n 0, 1, .null, 0),
  (9, .getfield 9, 3, .null, 0),
  (12, .iload_n 1, 1, .null, 1),
  (13, .iconst 1, 1, (.int (1)), 0),
  (14, .iadd, 1, .null, 0),
  (15, .iaload, 1, .null, 0),
  (16, .aload_n 0, 1, .null, 0),
  (17, .getfield 9, 3, .null, 0),
  (20, .iload_n 1, 1, .null, 1),
  (21, .iaload, 1, .null, 0),
  (22, .isub, 1, .null, 0),
  (23, .goto (4), 3, .null, 27),
  (26, .iconst 0, 1, (.int (0)), 0),
  (27, .ireturn, 1, .null, 0)]
noncomputable def m_X1_arcsOf : ab_M := (c_X1_arcsOf, [(0, [0, 1])],
  [(9, 1, 0, 3)],
  [],
  [(58, 1, 2, g_X1_has)],
  [], 2, 1)
theorem one_X1_arcsOf : ab_oneM m_X1_arcsOf := List.forall_mem_cons.mpr ⟨o_X1_has, fun _ h => absurd h List.not_mem_nil⟩
noncomputable def f_X1_arcsOf (l0 : Nat) (l1 : Int32) (st : ab_S) : Option ab_R := ab_rc st l0 1 (ab_lim m_X1_arcsOf 0 [.ref l0, .int l1] [] st)
noncomputable def g_X1_arcsOf : ab_G := fun as st k => match as with
  | [.ref a0, .int a1] => ab_ri (f_X1_arcsOf a0 a1 st) (fun x t => k [.int x] t)
  | _ => none
theorem o_X1_arcsOf : ab_one g_X1_arcsOf := by
  intro as st k r h
  unfold g_X1_arcsOf at h ⊢
  split at h
  · exact one_ri h
  · cases h
set_option maxRecDepth 100000 in
theorem e_X1_arcsOf_0 (l0 : Nat) (l1 : Int32) (st : ab_S) : f_X1_arcsOf l0 l1 st =
    ab_rc st l0 1 (
    ab_ri (f_X1_has l0 l1 st) fun x2 s1 =>
    if x2 = 0
    then some (some (.int (0 : Int32)), s1)
    else Option.bind (ab_gR s1 l0 1 0) fun x3 =>
      Option.bind (ab_rI s1 x3 (l1 + (1 : Int32))) fun x4 =>
      Option.bind (ab_gR s1 l0 1 0) fun x5 =>
      Option.bind (ab_rI s1 x5 l1) fun x6 =>
      some (some (.int (x4 - x6)), s1)) := congrArg (ab_rc st l0 1) ((lm_eq one_X1_arcsOf 0 _ _ _).trans rfl)
def c_X1_placeOfArc : List (Nat × ab_I) := [(0, .iload_n 2, 1, .null, 2),
  (1, .ifCond .lt (12), 3, .null, 13),
  (4, .iload_n 2, 1, .null, 2),
  (5, .aload_n 0, 1, .null, 0),
  (6, .iload_n 1, 1, .null, 1),
  (7, .invokevirtual 62, 3, .null, 0),
  (10, .if_icmp .lt (7), 3, .null, 17),
  (13, .iconst (-1), 1, (.int (-1)), 0),
  (14, .goto (11), 3, .null, 25),
  (17, .aload_n 0, 1, .null, 0),
  (18, .getfield 9, 3, .null, 0),
  (21, .iload_n 1, 1, .null, 1),
  (22, .iaload, 1, .null, 0),
  (23, .iload_n 2, 1, .null, 2),
  (24, .iadd, 1, .null, 0),
  (25, .ireturn, 1, .null, 0)]
noncomputable def m_X1_placeOfArc : ab_M := (c_X1_placeOfArc, [(0, [0, 1, 2])],
  [(9, 1, 0, 3)],
  [],
  [(62, 1, 2, g_X1_arcsOf)],
  [], 3, 1)
theorem one_X1_placeOfArc : ab_oneM m_X1_placeOfArc := List.forall_mem_cons.mpr ⟨o_X1_arcsOf, fun _ h => absurd h List.not_mem_nil⟩
noncomputable def f_X1_placeOfArc (l0 : Nat) (l1 : Int32) (l2 : Int32) (st : ab_S) : Option ab_R := ab_rc st l0 1 (ab_lim m_X1_placeOfArc 0 [.ref l0, .int l1, .int l2] [] st)
noncomputable def g_X1_placeOfArc : ab_G := fun as st k => match as with
  | [.ref a0, .int a1, .int a2] => ab_ri (f_X1_placeOfArc a0 a1 a2 st) (fun x t => k [.int x] t)
  | _ => none
theorem o_X1_placeOfArc : ab_one g_X1_placeOfArc := by
  intro as st k r h
  unfold g_X1_placeOfArc at h ⊢
  split at h
  · exact one_ri h
  · cases h
set_option maxRecDepth 100000 in
theorem e_X1_placeOfArc_0 (l0 : Nat) (l1 : Int32) (l2 : Int32) (st : ab_S) : f_X1_placeOfArc l0 l1 l2 st =
    ab_rc st l0 1 (
    if l2 < 0
    then some (some (.int (-1 : Int32)), st)
    else ab_ri (f_X1_arcsOf l0 l1 st) fun x2 s1 =>
      if l2 < x2
      then Option.bind (ab_gR s1 l0 1 0) fun x3 =>
        Option.bind (ab_rI s1 x3 l1) fun x4 =>
        some (some (.int (x4 + l2)), s1)
      else some (some (.int (-1 : Int32)), s1)) := congrArg (ab_rc st l0 1) ((lm_eq one_X1_placeOfArc 0 _ _ _).trans rfl)
def c_X1_tellArc : List (Nat × ab_I) := [(0, .aload_n 0, 1, .null, 0),
  (1, .iload_n 1, 1, .null, 1),
  (2, .iload_n 2, 1, .null, 2),
  (3, .invokevirtual 66, 3, .null, 0),
  (6, .istore 4, 2, .null, 4),
  (8, .iload 4, 2, .null, 4),
  (10, .ifCond .lt (11), 3, .null, 21),
  (13, .iload 4, 2, .null, 4),
  (15, .sipush (2400), 3, (.int (2400)), 0),
  (18, .if_icmp .lt (7), 3, .null, 25),
  (21, .ldc2_w 35, 3, (.long (-1)), 0),
  (24, .lreturn, 1, .null, 0),
  (25, .iload_n 3, 1, .null, 3),
  (26, .lookupswitch (44) #[(0, 26), (1, 35)], 26, .null, 0),
  (52, .aload_n 0, 1, .null, 0),
  (53, .getfield 22, 3, .null, 0),
  (56, .iload 4, 2, .null, 4),
  (58, .iaload, 1, .null, 0),
  (59, .i2l, 1, .null, 0),
  (60, .lreturn, 1, .null, 0),
  (61, .aload_n 0, 1, .null, 0),
  (62, .getfield 25, 3, .null, 0),
  (65, .iload 4, 2, .null, 4),
  (67, .iaload, 1, .null, 0),
  (68, .i2l, 1, .null, 0),
  (69, .lreturn, 1, .null, 0),
  (70, .aload_n 0, 1, .null, 0),
  (71, .getfield 28, 3, .null, 0),
  (74, .iload 4, 2, .null, 4),
  (76, .laload, 1, .null, 0),
  (77, .lreturn, 1, .null, 0)]
noncomputable def m_X1_tellArc : ab_M := (c_X1_tellArc, [(0, [0, 1, 2, 3])],
  [(22, 1, 3, 3), (25, 1, 4, 3), (28, 1, 5, 3)],
  [],
  [(66, 1, 3, g_X1_placeOfArc)],
  [(26, [(0, 52), (1, 61)], 70)], 5, 3)
theorem one_X1_tellArc : ab_oneM m_X1_tellArc := List.forall_mem_cons.mpr ⟨o_X1_placeOfArc, fun _ h => absurd h List.not_mem_nil⟩
noncomputable def f_X1_tellArc (l0 : Nat) (l1 : Int32) (l2 : Int32) (l3 : Int32) (st : ab_S) : Option ab_R := ab_rc st l0 1 (ab_lim m_X1_tellArc 0 [.ref l0, .int l1, .int l2, .int l3] [] st)
noncomputable def g_X1_tellArc : ab_G := fun as st k => match as with
  | [.ref a0, .int a1, .int a2, .int a3] => ab_rl (f_X1_tellArc a0 a1 a2 a3 st) (fun x t => k [.long x] t)
  | _ => none
theorem o_X1_tellArc : ab_one g_X1_tellArc := by
  intro as st k r h
  unfold g_X1_tellArc at h ⊢
  split at h
  · exact one_rl h
  · cases h
set_option maxRecDepth 100000 in
theorem e_X1_tellArc_0 (l0 : Nat) (l1 : Int32) (l2 : Int32) (l3 : Int32) (st : ab_S) : f_X1_tellArc l0 l1 l2 l3 st =
    ab_rc st l0 1 (
    ab_ri (f_X1_placeOfArc l0 l1 l2 st) fun x2 s1 =>
    if x2 < 0
    then some (some (.long (-1 : Int64)), s1)
    else if x2 < (2400 : Int32)
      then if l3 = 0 then Option.bind (ab_gR s1 l0 1 3) fun x3 =>
          Option.bind (ab_rI s1 x3 x2) fun x4 =>
          some (some (.long x4.toInt64), s1)
        else if l3 = 1 then Option.bind (ab_gR s1 l0 1 4) fun x5 =>
          Option.bind (ab_rI s1 x5 x2) fun x6 =>
          some (some (.long x6.toInt64), s1)
        else Option.bind (ab_gR s1 l0 1 5) fun x7 =>
          Option.bind (ab_rJ s1 x7 x2) fun x8 =>
          some (some (.long x8), s1)
      else some (some (.long (-1 : Int64)), s1)) := congrArg (ab_rc st l0 1) ((lm_eq one_X1_tellArc 0 _ _ _).trans rfl)
def c_X1_stateBehindSign : List (Nat × ab_I) := [(0, .iconst 0, 1, (.int (0)), 0),
  (1, .istore_n 3, 1, .null, 3),
  (2, .iload_n 3, 1, .null, 3),
  (3, .aload_n 0, 1, .null, 0),
  (4, .iload_n 1, 1, .null, 1),
  (5, .invokevirtual 62, 3, .null, 0),
  (8, .if_icmp .ge (31), 3, .null, 39),
  (11, .aload_n 0, 1, .null, 0),
  (12, .iload_n 1, 1, .null, 1),
  (13, .iload_n 3, 1, .null, 3),
  (14, .iconst 0, 1, (.int (0)), 0),
  (15, .invokevirtual 81, 3, .null, 0),
  (18, .iload_n 2, 1, .null, 2),
  (19, .i2l, 1, .null, 0),
  (20, .lcmp, 1, .null, 0),
  (21, .ifCond .ne (12), 3, .null, 33),
  (24, .aload_n 0, 1, .null, 0),
  (25, .iload_n 1, 1, .null, 1),
  (26, .iload_n 3, 1, .null, 3),
  (27, .iconst 1, 1, (.int (1)), 0),
  (28, .invokevirtual 81, 3, .null, 0),
  (31, .l2i, 1, .null, 0),
  (32, .ireturn, 1, .null, 0),
  (33, .iinc 3 (1), 3, (.int (1)), 3),
  (36, .goto (-34), 3, .null, 2),
  (39, .iconst (-1), 1, (.int (-1)), 0),
  (40, .ireturn, 1, .null, 0)]
noncomputable def m_X1_stateBehindSign : ab_M := (c_X1_stateBehindSign, [(0, [0, 1, 2]), (2, [0, 1, 2, 3])],
  [],
  [],
  [(62, 1, 2, g_X1_arcsOf), (81, 1, 4, g_X1_tellArc)],
  [], 4, 1)
theorem one_X1_stateBehindSign : ab_oneM m_X1_stateBehindSign := List.forall_mem_cons.mpr ⟨o_X1_arcsOf, List.forall_mem_cons.mpr ⟨o_X1_tellArc, fun _ h => absurd h List.not_mem_nil⟩⟩
noncomputable def f_X1_stateBehindSign (l0 : Nat) (l1 : Int32) (l2 : Int32) (st : ab_S) : Option ab_R := ab_rc st l0 1 (ab_lim m_X1_stateBehindSign 0 [.ref l0, .int l1, .int l2] [] st)
noncomputable def L_X1_stateBehindSign_2 (l0 : Nat) (l1 : Int32) (l2 : Int32) (l3 : Int32) (st : ab_S) : Option ab_R := ab_lim m_X1_stateBehindSign 2 [.ref l0, .int l1, .int l2, .int l3] [] st
noncomputable def g_X1_stateBehindSign : ab_G := fun as st k => match as with
  | [.ref a0, .int a1, .int a2] => ab_ri (f_X1_stateBehindSign a0 a1 a2 st) (fun x t => k [.int x] t)
  | _ => none
theorem o_X1_stateBehindSign : ab_one g_X1_stateBehindSign := by
  intro as st k r h
  unfold g_X1_stateBehindSign at h ⊢
  split at h
  · exact one_ri h
  · cases h
set_option maxRecDepth 100000 in
theorem e_X1_stateBehindSign_0 (l0 : Nat) (l1 : Int32) (l2 : Int32) (st : ab_S) : f_X1_stateBehindSign l0 l1 l2 st =
    ab_rc st l0 1 (
    L_X1_stateBehindSign_2 l0 l1 l2 (0 : Int32) st) := congrArg (ab_rc st l0 1) ((lm_eq one_X1_stateBehindSign 0 _ _ _).trans rfl)
set_option maxRecDepth 100000 in
theorem e_X1_stateBehindSign_2 (l0 : Nat) (l1 : Int32) (l2 : Int32) (l3 : Int32) (st : ab_S) : L_X1_stateBehindSign_2 l0 l1 l2 l3 st =
    ab_ri (f_X1_arcsOf l0 l1 st) fun x2 s1 =>
    if x2 ≤ l3
    then some (some (.int (-1 : Int32)), s1)
    else ab_rl (f_X1_tellArc l0 l1 l3 (0 : Int32) s1) fun x4 s3 =>
      if (lg_cmp x4 l2.toInt64) = 0
      then ab_rl (f_X1_tellArc l0 l1 l3 (1 : Int32) s3) fun x6 s5 =>
        some (some (.int x6.toInt32), s5)
      else L_X1_stateBehindSign_2 l0 l1 l2 (l3 + (1 : Int32)) s3 := (lm_eq one_X1_stateBehindSign 2 _ _ _).trans rfl
def c_X1_stateBehind : List (Nat × ab_I) := [(0, .iconst 0, 1, (.int (0)), 0),
  (1, .istore_n 2, 1, .null, 2),
  (2, .iconst 0, 1, (.int (0)), 0),
  (3, .istore_n 3, 1, .null, 3),
  (4, .iload_n 3, 1, .null, 3),
  (5, .aload_n 1, 1, .null, 1),
  (6, .getfield 70, 3, .null, 0),
  (9, .if_icmp .ge (25), 3, .null, 34),
  (12, .iload_n 2, 1, .null, 2),
  (13, .iconst (-1), 1, (.int (-1)), 0),
  (14, .if_icmp .eq (20), 3, .null, 34),
  (17, .aload_n 0, 1, .null, 0),
  (18, .iload_n 2, 1, .null, 2),
  (19, .aload_n 1, 1, .null, 1),
  (20, .iload_n 3, 1, .null, 3),
  (21, .invokevirtual 75, 3, .null, 0),
  (24, .invokevirtual 78, 3, .null, 0),
  (27, .istore_n 2, 1, .null, 2),
  (28, .iinc 3 (1), 3, (.int (1)), 3),
  (31, .goto (-27), 3, .null, 4),
  (34, .iload_n 2, 1, .null, 2),
  (35, .ireturn, 1, .null, 0)]
noncomputable def m_X1_stateBehind : ab_M := (c_X1_stateBehind, [(0, [0, 1]), (4, [0, 1, 2, 3])],
  [(70, 6, 1, 0)],
  [],
  [(75, 1, 2, g_X6_at), (78, 1, 3, g_X1_stateBehindSign)],
  [], 4, 1)
theorem one_X1_stateBehind : ab_oneM m_X1_stateBehind := List.forall_mem_cons.mpr ⟨o_X6_at, List.forall_mem_cons.mpr ⟨o_X1_stateBehindSign, fun _ h => absurd h List.not_mem_nil⟩⟩
noncomputable def f_X1_stateBehind (l0 : Nat) (l1 : Nat) (st : ab_S) : Option ab_R := ab_rc st l0 1 (ab_lim m_X1_stateBehind 0 [.ref l0, .ref l1] [] st)
noncomputable def L_X1_stateBehind_4 (l0 : Nat) (l1 : Nat) (l2 : Int32) (l3 : Int32) (st : ab_S) : Option ab_R := ab_lim m_X1_stateBehind 4 [.ref l0, .ref l1, .int l2, .int l3] [] st
noncomputable def g_X1_stateBehind : ab_G := fun as st k => match as with
  | [.ref a0, .ref a1] => ab_ri (f_X1_stateBehind a0 a1 st) (fun x t => k [.int x] t)
  | _ => none
theorem o_X1_stateBehind : ab_one g_X1_stateBehind := by
  intro as st k r h
  unfold g_X1_stateBehind at h ⊢
  split at h
  · exact one_ri h
  · cases h
set_option maxRecDepth 100000 in
theorem e_X1_stateBehind_0 (l0 : Nat) (l1 : Nat) (st : ab_S) : f_X1_stateBehind l0 l1 st =
    ab_rc st l0 1 (
    L_X1_stateBehind_4 l0 l1 (0 : Int32) (0 : Int32) st) := congrArg (ab_rc st l0 1) ((lm_eq one_X1_stateBehind 0 _ _ _).trans rfl)
set_option maxRecDepth 100000 in
theorem e_X1_stateBehind_4 (l0 : Nat) (l1 : Nat) (l2 : Int32) (l3 : Int32) (st : ab_S) : L_X1_stateBehind_4 l0 l1 l2 l3 st =
    Option.bind (ab_gI st l1 6 1) fun x1 =>
    if x1 ≤ l3
    then some (some (.int l2), st)
    else if l2 = (-1 : Int32)
      then some (some (.int l2), st)
      else ab_ri (f_X6_at l1 l3 st) fun x3 s2 =>
        ab_ri (f_X1_stateBehindSign l0 l2 x3 s2) fun x5 s4 =>
        L_X1_stateBehind_4 l0 l1 x5 (l3 + (1 : Int32)) s4 := (lm_eq one_X1_stateBehind 4 _ _ _).trans rfl
def c_X10_state : List (Nat × ab_I) := [(0, .iload_n 1, 1, .null, 1),
  (1, .invokestatic 95, 3, .null, 0),
  (4, .ifCond .ne (6), 3, .null, 10),
  (7, .bipush (-2), 2, (.int (-2)), 0),
  (9, .ireturn, 1, .null, 0),
  (10, .aload_n 0, 1, .null, 0),
  (11, .invokevirtual 91, 3, .null, 0),
  (14, .astore_n 2, 1, .null, 2),
  (15, .aload_n 0, 1, .null, 0),
  (16, .getfield 11, 3, .null, 0),
  (19, .iload_n 1, 1, .null, 1),
  (20, .aaload, 1, .null, 0),
  (21, .astore_n 3, 1, .null, 3),
  (22, .aload_n 3, 1, .null, 3),
  (23, .getfield 109, 3, .null, 0),
  (26, .ifCond .eq (8), 3, .null, 34),
  (29, .bipush (-4), 2, (.int (-4)), 0),
  (31, .goto (11), 3, .null, 42),
  (34, .aload_n 3, 1, .null, 3),
  (35, .getfield 130, 3, .null, 0),
  (38, .aload_n 2, 1, .null, 2),
  (39, .invokevirtual 151, 3, .null, 0),
  (42, .ireturn, 1, .null, 0)]
noncomputable def m_X10_state : ab_M := (c_X10_state, [(0, [0, 1])],
  [(11, 10, 0, 3), (109, 0, 2, 1), (130, 0, 1, 3)],
  [],
  [(91, 1, 1, g_X10_takeCollected), (95, 0, 1, g_X10_isDictionary), (151, 1, 2, g_X1_stateBehind)],
  [], 4, 1)
theorem one_X10_state : ab_oneM m_X10_state := List.forall_mem_cons.mpr ⟨o_X10_takeCollected, List.forall_mem_cons.mpr ⟨o_X10_isDictionary, List.forall_mem_cons.mpr ⟨o_X1_stateBehind, fun _ h => absurd h List.not_mem_nil⟩⟩⟩
noncomputable def f_X10_state (l0 : Nat) (l1 : Int32) (st : ab_S) : Option ab_R := ab_rc st l0 10 (ab_lim m_X10_state 0 [.ref l0, .int l1] [] st)
noncomputable def g_X10_state : ab_G := fun as st k => match as with
  | [.ref a0, .int a1] => ab_ri (f_X10_state a0 a1 st) (fun x t => k [.int x] t)
  | _ => none
theorem o_X10_state : ab_one g_X10_state := by
  intro as st k r h
  unfold g_X10_state at h ⊢
  split at h
  · exact one_ri h
  · cases h
set_option maxRecDepth 100000 in
theorem e_X10_state_0 (l0 : Nat) (l1 : Int32) (st : ab_S) : f_X10_state l0 l1 st =
    ab_rc st l0 10 (
    ab_ri (f_X10_isDictionary l1 st) fun x2 s1 =>
    if x2 = 0
    then some (some (.int (-2 : Int32)), s1)
    else ab_rr (f_X10_takeCollected l0 s1) fun x4 s3 =>
      Option.bind (ab_gR s3 l0 10 0) fun x5 =>
      Option.bind (ab_rR s3 x5 l1) fun x6 =>
      Option.bind (ab_gI s3 x6 0 2) fun x7 =>
      if x7 = 0
      then Option.bind (ab_gR s3 x6 0 1) fun x8 =>
        ab_ri (f_X1_stateBehind x8 x4 s3) fun x10 s9 =>
        some (some (.int x10), s9)
      else some (some (.int (-4 : Int32)), s3)) := congrArg (ab_rc st l0 10) ((lm_eq one_X10_state 0 _ _ _).trans rfl)
def c_X11_isBeginning : List (Nat × ab_I) := [(0, .aload_n 0, 1, .null, 0),
  (1, .getfield 16, 3, .null, 0),
  (4, .sipush (200), 3, (.int (200)), 0),
  (7, .iload_n 1, 1, .null, 1),
  (8, .imul, 1, .null, 0),
  (9, .iload_n 2, 1, .null, 2),
  (10, .iadd, 1, .null, 0),
  (11, .iaload, 1, .null, 0),
  (12, .iload_n 3, 1, .null, 3),
  (13, .if_icmp .lt (7), 3, .null, 20),
  (16, .iconst 1, 1, (.int (1)), 0),
  (17, .goto (4), 3, .null, 21),
  (20, .iconst 0, 1, (.int (0)), 0),
  (21, .istore 4, 2, .null, 4),
  (23, .iconst 0, 1, (.int (0)), 0),
  (24, .istore 5, 2, .null, 5),
  (26, .iload 5, 2, .null, 5),
  (28, .iload_n 3, 1, .null, 3),
  (29, .if_icmp .ge (43), 3, .null, 72),
  (32, .iload 4, 2, .null, 4),
  (34, .ifCond .eq (38), 3, .null, 72),
  (37, .aload_n 0, 1, .null, 0),
  (38, .iload_n 1, 1, .null, 1),
  (39, .iload_n 2, 1, .null, 2),
  (40, .iload 5, 2, .null, 5),
  (42, .invokevirtual 153, 3, .null, 0),
  (45, .aload_n 0, 1, .null, 0),
  (46, .getfield 7, 3, .null, 0),
  (49, .iload 5, 2, .null, 5),
  (51, .baload, 1, .null, 0),
  (52, .sipush (255), 3, (.int (255)), 0),
  (55, .iand, 1, .null, 0),
  (56, .if_icmp .ne (7), 3, .null, 63),
  (59, .iconst 1, 1, (.int (1)), 0),
  (60, .goto (4), 3, .null, 64),
  (63, .iconst 0, 1, (.int (0)), 0),
  (64, .istore 4, 2, .null, 4),
  (66, .iinc 5 (1), 3, (.int (1)), 5),
  (69, .goto (-43), 3, .null, 26),
  (72, .iload 4, 2, .null, 4),
  (74, .ireturn, 1, .null, 0)]
noncomputable def m_X11_isBeginning : ab_M := (c_X11_isBeginning, [(0, [0, 1, 2, 3]), (21, [0, 1, 2, 3]), (26, [0, 1, 2, 3, 4, 5]), (64, [0, 1, 2, 3, 5])],
  [(7, 11, 0, 3), (16, 11, 3, 3)],
  [],
  [(153, 1, 4, g_X11_letter)],
  [], 6, 2)
theorem one_X11_isBeginning : ab_oneM m_X11_isBeginning := List.forall_mem_cons.mpr ⟨o_X11_letter, fun _ h => absurd h List.not_mem_nil⟩
noncomputable def f_X11_isBeginning (l0 : Nat) (l1 : Int32) (l2 : Int32) (l3 : Int32) (st : ab_S) : Option ab_R := ab_rc st l0 11 (ab_lim m_X11_isBeginning 0 [.ref l0, .int l1, .int l2, .int l3] [] st)
noncomputable def L_X11_isBeginning_21 (l0 : Nat) (l1 : Int32) (l2 : Int32) (l3 : Int32) (t0 : Int32) (st : ab_S) : Option ab_R := ab_lim m_X11_isBeginning 21 [.ref l0, .int l1, .int l2, .int l3] [.int t0] st
noncomputable def L_X11_isBeginning_26 (l0 : Nat) (l1 : Int32) (l2 : Int32) (l3 : Int32) (l4 : Int32) (l5 : Int32) (st : ab_S) : Option ab_R := ab_lim m_X11_isBeginning 26 [.ref l0, .int l1, .int l2, .int l3, .int l4, .int l5] [] st
noncomputable def L_X11_isBeginning_64 (l0 : Nat) (l1 : Int32) (l2 : Int32) (l3 : Int32) (l5 : Int32) (t0 : Int32) (st : ab_S) : Option ab_R := ab_lim m_X11_isBeginning 64 [.ref l0, .int l1, .int l2, .int l3, .int l5] [.int t0] st
noncomputable def g_X11_isBeginning : ab_G := fun as st k => match as with
  | [.ref a0, .int a1, .int a2, .int a3] => ab_ri (f_X11_isBeginning a0 a1 a2 a3 st) (fun x t => k [.int x] t)
  | _ => none
theorem o_X11_isBeginning : ab_one g_X11_isBeginning := by
  intro as st k r h
  unfold g_X11_isBeginning at h ⊢
  split at h
  · exact one_ri h
  · cases h
set_option maxRecDepth 100000 in
theorem e_X11_isBeginning_0 (l0 : Nat) (l1 : Int32) (l2 : Int32) (l3 : Int32) (st : ab_S) : f_X11_isBeginning l0 l1 l2 l3 st =
    ab_rc st l0 11 (
    Option.bind (ab_gR st l0 11 3) fun x1 =>
    Option.bind (ab_rI st x1 (((200 : Int32) * l1) + l2)) fun x2 =>
    if x2 < l3
    then L_X11_isBeginning_21 l0 l1 l2 l3 (0 : Int32) st
    else L_X11_isBeginning_21 l0 l1 l2 l3 (1 : Int32) st) := congrArg (ab_rc st l0 11) ((lm_eq one_X11_isBeginning 0 _ _ _).trans rfl)
set_option maxRecDepth 100000 in
theorem e_X11_isBeginning_21 (l0 : Nat) (l1 : Int32) (l2 : Int32) (l3 : Int32) (t0 : Int32) (st : ab_S) : L_X11_isBeginning_21 l0 l1 l2 l3 t0 st =
    L_X11_isBeginning_26 l0 l1 l2 l3 t0 (0 : Int32) st := (lm_eq one_X11_isBeginning 21 _ _ _).trans rfl
set_option maxRecDepth 100000 in
theorem e_X11_isBeginning_26 (l0 : Nat) (l1 : Int32) (l2 : Int32) (l3 : Int32) (l4 : Int32) (l5 : Int32) (st : ab_S) : L_X11_isBeginning_26 l0 l1 l2 l3 l4 l5 st =
    if l3 ≤ l5
    then ab_z l4 (some (some (.int l4), st))
    else if l4 = 0
      then ab_z l4 (some (some (.int l4), st))
      else ab_ri (f_X11_letter l0 l1 l2 l5 st) fun x2 s1 =>
        Option.bind (ab_gR s1 l0 11 0) fun x3 =>
        Option.bind (ab_rB s1 x3 l5) fun x4 =>
        if x2 = (x4 &&& (255 : Int32))
        then L_X11_isBeginning_64 l0 l1 l2 l3 l5 (1 : Int32) s1
        else L_X11_isBeginning_64 l0 l1 l2 l3 l5 (0 : Int32) s1 := (lm_eq one_X11_isBeginning 26 _ _ _).trans rfl
set_option maxRecDepth 100000 in
theorem e_X11_isBeginning_64 (l0 : Nat) (l1 : Int32) (l2 : Int32) (l3 : Int32) (l5 : Int32) (t0 : Int32) (st : ab_S) : L_X11_isBeginning_64 l0 l1 l2 l3 l5 t0 st =
    L_X11_isBeginning_26 l0 l1 l2 l3 t0 (l5 + (1 : Int32)) st := (lm_eq one_X11_isBeginning 64 _ _ _).trans rfl
def c_X11_state : List (Nat × ab_I) := [(0, .iload_n 1, 1, .null, 1),
  (1, .invokestatic 159, 3, .null, 0),
  (4, .ifCond .ne (6), 3, .null, 10),
  (7, .bipush (-2), 2, (.int (-2)), 0),
  (9, .ireturn, 1, .null, 0),
  (10, .aload_n 0, 1, .null, 0),
  (11, .invokevirtual 165, 3, .null, 0),
  (14, .istore_n 2, 1, .null, 2),
  (15, .aload_n 0, 1, .null, 0),
  (16, .getfield 27, 3, .null, 0),
  (19, .iload_n 1, 1, .null, 1),
  (20, .baload, 1, .null, 0),
  (21, .ifCond .eq (6), 3, .null, 27),
  (24, .bipush (-4), 2, (.int (-4)), 0),
  (26, .ireturn, 1, .null, 0),
  (27, .aload_n 0, 1, .null, 0),
  (28, .iload_n 1, 1, .null, 1),
  (29, .invokevirtual 176, 3, .null, 0),
  (32, .iconst 0, 1, (.int (0)), 0),
  (33, .istore_n 3, 1, .null, 3),
  (34, .iload_n 3, 1, .null, 3),
  (35, .aload_n 0, 1, .null, 0),
  (36, .getfield 183, 3, .null, 0),
  (39, .if_icmp .ge (45), 3, .null, 84),
  (42, .aload_n 0, 1, .null, 0),
  (43, .getfield 63, 3, .null, 0),
  (46, .iload_n 3, 1, .null, 3),
  (47, .iaload, 1, .null, 0),
  (48, .iload_n 2, 1, .null, 2),
  (49, .if_icmp .ne (29), 3, .null, 78),
  (52, .iload_n 2, 1, .null, 2),
  (53, .ifCond .eq (18), 3, .null, 71),
  (56, .aload_n 0, 1, .null, 0),
  (57, .iload_n 1, 1, .null, 1),
  (58, .aload_n 0, 1, .null, 0),
  (59, .getfield 57, 3, .null, 0),
  (62, .iload_n 3, 1, .null, 3),
  (63, .iaload, 1, .null, 0),
  (64, .iload_n 2, 1, .null, 2),
  (65, .invokevirtual 226, 3, .null, 0),
  (68, .ifCond .eq (10), 3, .null, 78),
  (71, .aload_n 0, 1, .null, 0),
  (72, .getfield 72, 3, .null, 0),
  (75, .iload_n 3, 1, .null, 3),
  (76, .iaload, 1, .null, 0),
  (77, .ireturn, 1, .null, 0),
  (78, .iinc 3 (1), 3, (.int (1)), 3),
  (81, .goto (-47), 3, .null, 34),
  (84, .iconst (-1), 1, (.int (-1)), 0),
  (85, .ireturn, 1, .null, 0)]
noncomputable def m_X11_state : ab_M := (c_X11_state, [(0, [0, 1]), (34, [0, 1, 2, 3]), (71, [0, 3]), (78, [0, 1, 2, 3])],
  [(27, 11, 6, 3), (57, 11, 18, 3), (63, 11, 20, 3), (72, 11, 23, 3), (183, 11, 17, 0)],
  [],
  [(159, 0, 1, g_X11_isDictionary), (165, 1, 1, g_X11_forget), (176, 1, 2, g_X11_build), (226, 1, 4, g_X11_isBeginning)],
  [], 4, 1)
theorem one_X11_state : ab_oneM m_X11_state := List.forall_mem_cons.mpr ⟨o_X11_isDictionary, List.forall_mem_cons.mpr ⟨o_X11_forget, List.forall_mem_cons.mpr ⟨o_X11_build, List.forall_mem_cons.mpr ⟨o_X11_isBeginning, fun _ h => absurd h List.not_mem_nil⟩⟩⟩⟩
noncomputable def f_X11_state (l0 : Nat) (l1 : Int32) (st : ab_S) : Option ab_R := ab_rc st l0 11 (ab_lim m_X11_state 0 [.ref l0, .int l1] [] st)
noncomputable def L_X11_state_34 (l0 : Nat) (l1 : Int32) (l2 : Int32) (l3 : Int32) (st : ab_S) : Option ab_R := ab_lim m_X11_state 34 [.ref l0, .int l1, .int l2, .int l3] [] st
noncomputable def L_X11_state_71 (l0 : Nat) (l3 : Int32) (st : ab_S) : Option ab_R := ab_lim m_X11_state 71 [.ref l0, .int l3] [] st
noncomputable def L_X11_state_78 (l0 : Nat) (l1 : Int32) (l2 : Int32) (l3 : Int32) (st : ab_S) : Option ab_R := ab_lim m_X11_state 78 [.ref l0, .int l1, .int l2, .int l3] [] st
noncomputable def g_X11_state : ab_G := fun as st k => match as with
  | [.ref a0, .int a1] => ab_ri (f_X11_state a0 a1 st) (fun x t => k [.int x] t)
  | _ => none
theorem o_X11_state : ab_one g_X11_state := by
  intro as st k r h
  unfold g_X11_state at h ⊢
  split at h
  · exact one_ri h
  · cases h
set_option maxRecDepth 100000 in
theorem e_X11_state_0 (l0 : Nat) (l1 : Int32) (st : ab_S) : f_X11_state l0 l1 st =
    ab_rc st l0 11 (
    ab_ri (f_X11_isDictionary l1 st) fun x2 s1 =>
    if x2 = 0
    then some (some (.int (-2 : Int32)), s1)
    else ab_ri (f_X11_forget l0 s1) fun x4 s3 =>
      Option.bind (ab_gR s3 l0 11 6) fun x5 =>
      Option.bind (ab_rB s3 x5 l1) fun x6 =>
      if x6 = 0
      then ab_rv (f_X11_build l0 l1 s3) fun s7 =>
        L_X11_state_34 l0 l1 x4 (0 : Int32) s7
      else some (some (.int (-4 : Int32)), s3)) := congrArg (ab_rc st l0 11) ((lm_eq one_X11_state 0 _ _ _).trans rfl)
set_option maxRecDepth 100000 in
theorem e_X11_state_34 (l0 : Nat) (l1 : Int32) (l2 : Int32) (l3 : Int32) (st : ab_S) : L_X11_state_34 l0 l1 l2 l3 st =
    Option.bind (ab_gI st l0 11 17) fun x1 =>
    if x1 ≤ l3
    then some (some (.int (-1 : Int32)), st)
    else Option.bind (ab_gR st l0 11 20) fun x2 =>
      Option.bind (ab_rI st x2 l3) fun x3 =>
      if x3 = l2
      then if l2 = 0
        then L_X11_state_71 l0 l3 st
        else Option.bind (ab_gR st l0 11 18) fun x4 =>
          Option.bind (ab_rI st x4 l3) fun x5 =>
          ab_ri (f_X11_isBeginning l0 l1 x5 l2 st) fun x7 s6 =>
          if x7 = 0
          then L_X11_state_78 l0 l1 l2 l3 s6
          else L_X11_state_71 l0 l3 s6
      else L_X11_state_78 l0 l1 l2 l3 st := (lm_eq one_X11_state 34 _ _ _).trans rfl
set_option maxRecDepth 100000 in
theorem e_X11_state_71 (l0 : Nat) (l3 : Int32) (st : ab_S) : L_X11_state_71 l0 l3 st =
    Option.bind (ab_gR st l0 11 23) fun x1 =>
    Option.bind (ab_rI st x1 l3) fun x2 =>
    some (some (.int x2), st) := (lm_eq one_X11_state 71 _ _ _).trans rfl
set_option maxRecDepth 100000 in
theorem e_X11_state_78 (l0 : Nat) (l1 : Int32) (l2 : Int32) (l3 : Int32) (st : ab_S) : L_X11_state_78 l0 l1 l2 l3 st =
    L_X11_state_34 l0 l1 l2 (l3 + (1 : Int32)) st := (lm_eq one_X11_state 78 _ _ _).trans rfl
def c_X7_longest : List (Nat × ab_I) := [(0, .iconst 0, 1, (.int (0)), 0),
  (1, .istore_n 1, 1, .null, 1),
  (2, .iconst 0, 1, (.int (0)), 0),
  (3, .istore_n 2, 1, .null, 2),
  (4, .iload_n 2, 1, .null, 2),
  (5, .aload_n 0, 1, .null, 0),
  (6, .getfield 22, 3, .null, 0),
  (9, .if_icmp .ge (19), 3, .null, 28),
  (12, .iload_n 1, 1, .null, 1),
  (13, .aload_n 0, 1, .null, 0),
  (14, .iload_n 2, 1, .null, 2),
  (15, .invokevirtual 30, 3, .null, 0),
  (18, .invokestatic 36, 3, .null, 0),
  (21, .istore_n 1, 1, .null, 1),
  (22, .iinc 2 (1), 3, (.int (1)), 2),
  (25, .goto (-21), 3, .null, 4),
  (28, .iload_n 1, 1, .null, 1),
  (29, .ireturn, 1, .null, 0)]
noncomputable def m_X7_longest : ab_M := (c_X7_longest, [(0, [0]), (4, [0, 1, 2])],
  [(22, 7, 3, 0)],
  [],
  [(30, 1, 2, g_X7_lengthAt), (36, 0, 2, g_J_max)],
  [], 3, 1)
theorem one_X7_longest : ab_oneM m_X7_longest := List.forall_mem_cons.mpr ⟨o_X7_lengthAt, List.forall_mem_cons.mpr ⟨o_J_max, fun _ h => absurd h List.not_mem_nil⟩⟩
noncomputable def f_X7_longest (l0 : Nat) (st : ab_S) : Option ab_R := ab_rc st l0 7 (ab_lim m_X7_longest 0 [.ref l0] [] st)
noncomputable def L_X7_longest_4 (l0 : Nat) (l1 : Int32) (l2 : Int32) (st : ab_S) : Option ab_R := ab_lim m_X7_longest 4 [.ref l0, .int l1, .int l2] [] st
noncomputable def g_X7_longest : ab_G := fun as st k => match as with
  | [.ref a0] => ab_ri (f_X7_longest a0 st) (fun x t => k [.int x] t)
  | _ => none
theorem o_X7_longest : ab_one g_X7_longest := by
  intro as st k r h
  unfold g_X7_longest at h ⊢
  split at h
  · exact one_ri h
  · cases h
set_option maxRecDepth 100000 in
theorem e_X7_longest_0 (l0 : Nat) (st : ab_S) : f_X7_longest l0 st =
    ab_rc st l0 7 (
    L_X7_longest_4 l0 (0 : Int32) (0 : Int32) st) := congrArg (ab_rc st l0 7) ((lm_eq one_X7_longest 0 _ _ _).trans rfl)
set_option maxRecDepth 100000 in
theorem e_X7_longest_4 (l0 : Nat) (l1 : Int32) (l2 : Int32) (st : ab_S) : L_X7_longest_4 l0 l1 l2 st =
    Option.bind (ab_gI st l0 7 3) fun x1 =>
    if x1 ≤ l2
    then some (some (.int l1), st)
    else ab_ri (f_X7_lengthAt l0 l2 st) fun x3 s2 =>
      ab_ri (f_J_max l1 x3 s2) fun x5 s4 =>
      L_X7_longest_4 l0 x5 (l2 + (1 : Int32)) s4 := (lm_eq one_X7_longest 4 _ _ _).trans rfl
end
section
def c_X10_count : List (Nat × ab_I) := [(0, .iload_n 1, 1, .null, 1),
  (1, .invokestatic 95, 3, .null, 0),
  (4, .ifCond .eq (13), 3, .null, 17),
  (7, .iload_n 2, 1, .null, 2),
  (8, .ifCond .lt (9), 3, .null, 17),
  (11, .iload_n 2, 1, .null, 2),
  (12, .bipush (6), 2, (.int (6)), 0),
  (14, .if_icmp .le (6), 3, .null, 20),
  (17, .bipush (-2), 2, (.int (-2)), 0),
  (19, .ireturn, 1, .null, 0),
  (20, .aload_n 0, 1, .null, 0),
  (21, .getfield 11, 3, .null, 0),
  (24, .iload_n 1, 1, .null, 1),
  (25, .aaload, 1, .null, 0),
  (26, .astore_n 3, 1, .null, 3),
  (27, .iload_n 2, 1, .null, 2),
  (28, .ifCond .ne (11), 3, .null, 39),
  (31, .aload_n 3, 1, .null, 3),
  (32, .getfield 99, 3, .null, 0),
  (35, .getfield 103, 3, .null, 0),
  (38, .ireturn, 1, .null, 0),
  (39, .iload_n 2, 1, .null, 2),
  (40, .iconst 1, 1, (.int (1)), 0),
  (41, .if_icmp .ne (16), 3, .null, 57),
  (44, .aload_n 3, 1, .null, 3),
  (45, .getfield 109, 3, .null, 0),
  (48, .ifCond .eq (7), 3, .null, 55),
  (51, .iconst 1, 1, (.int (1)), 0),
  (52, .goto (4), 3, .null, 56),
  (55, .iconst 0, 1, (.int (0)), 0),
  (56, .ireturn, 1, .null, 0),
  (57, .aload_n 3, 1, .null, 3),
  (58, .getfield 109, 3, .null, 0),
  (61, .ifCond .eq (6), 3, .null, 67),
  (64, .bipush (-4), 2, (.int (-4)), 0),
  (66, .ireturn, 1, .null, 0),
  (67, .iload_n 2, 1, .null, 2),
  (68, .tableswitch (64) (2) (5) #[32, 40, 48, 56], 32, .null, 0),
  (100, .aload_n 3, 1, .null, 3),
  (101, .getfield 130, 3, .null, 0),
  (104, .getfield 134, 3, .null, 0),
  (107, .ireturn, 1, .null, 0),
  (108, .aload_n 3, 1, .null, 3),
  (109, .getfield 130, 3, .null, 0),
  (112, .getfield 154, 3, .null, 0),
  (115, .ireturn, 1, .null, 0),
  (116, .aload_n 3, 1, .null, 3),
  (117, .getfield 130, 3, .null, 0),
  (120, .getfield 157, 3, .null, 0),
  (123, .ireturn, 1, .null, 0),
  (124, .aload_n 3, 1, .null, 3),
  (125, .getfield 99, 3, .null, 0),
  (128, .invokevirtual 160, 3, .null, 0),
  (131, .ireturn, 1, .null, 0),
  (132, .aload_n 3, 1, .null, 3),
  (133, .getfield 130, 3, .null, 0),
  (136, .getfield 164, 3, .null, 0),
  (139, .ireturn, 1, .null, 0)]
noncomputable def m_X10_count : ab_M := (c_X10_count, [(0, [0, 1, 2])],
  [(11, 10, 0, 3), (99, 0, 0, 3), (103, 7, 3, 0), (109, 0, 2, 1), (130, 0, 1, 3), (134, 1, 7, 0), (154, 1, 8, 0), (157, 1, 9, 0), (164, 1, 10, 0)],
  [],
  [(95, 0, 1, g_X10_isDictionary), (160, 1, 1, g_X7_longest)],
  [(68, [(2, 100), (3, 108), (4, 116), (5, 124)], 132)], 4, 1)
theorem one_X10_count : ab_oneM m_X10_count := List.forall_mem_cons.mpr ⟨o_X10_isDictionary, List.forall_mem_cons.mpr ⟨o_X7_longest, fun _ h => absurd h List.not_mem_nil⟩⟩
noncomputable def f_X10_count (l0 : Nat) (l1 : Int32) (l2 : Int32) (st : ab_S) : Option ab_R := ab_rc st l0 10 (ab_lim m_X10_count 0 [.ref l0, .int l1, .int l2] [] st)
noncomputable def g_X10_count : ab_G := fun as st k => match as with
  | [.ref a0, .int a1, .int a2] => ab_ri (f_X10_count a0 a1 a2 st) (fun x t => k [.int x] t)
  | _ => none
theorem o_X10_count : ab_one g_X10_count := by
  intro as st k r h
  unfold g_X10_count at h ⊢
  split at h
  · exact one_ri h
  · cases h
set_option maxRecDepth 100000 in
theorem e_X10_count_0 (l0 : Nat) (l1 : Int32) (l2 : Int32) (st : ab_S) : f_X10_count l0 l1 l2 st =
    ab_rc st l0 10 (
    ab_ri (f_X10_isDictionary l1 st) fun x2 s1 =>
    if x2 = 0
    then some (some (.int (-2 : Int32)), s1)
    else if l2 < 0
      then some (some (.int (-2 : Int32)), s1)
      else if l2 ≤ (6 : Int32)
        then Option.bind (ab_gR s1 l0 10 0) fun x3 =>
          Option.bind (ab_rR s1 x3 l1) fun x4 =>
          if l2 = 0
          then Option.bind (ab_gR s1 x4 0 0) fun x5 =>
            Option.bind (ab_gI s1 x5 7 3) fun x6 =>
            some (some (.int x6), s1)
          else if l2 = (1 : Int32)
            then Option.bind (ab_gI s1 x4 0 2) fun x7 =>
              if x7 = 0
              then some (some (.int (0 : Int32)), s1)
              else some (some (.int (1 : Int32)), s1)
            else Option.bind (ab_gI s1 x4 0 2) fun x8 =>
              if x8 = 0
              then if l2 = 2 then Option.bind (ab_gR s1 x4 0 1) fun x9 =>
                  Option.bind (ab_gI s1 x9 1 7) fun x10 =>
                  some (some (.int x10), s1)
                else if l2 = 3 then Option.bind (ab_gR s1 x4 0 1) fun x11 =>
                  Option.bind (ab_gI s1 x11 1 8) fun x12 =>
                  some (some (.int x12), s1)
                else if l2 = 4 then Option.bind (ab_gR s1 x4 0 1) fun x13 =>
                  Option.bind (ab_gI s1 x13 1 9) fun x14 =>
                  some (some (.int x14), s1)
                else if l2 = 5 then Option.bind (ab_gR s1 x4 0 0) fun x15 =>
                  ab_ri (f_X7_longest x15 s1) fun x17 s16 =>
                  some (some (.int x17), s16)
                else Option.bind (ab_gR s1 x4 0 1) fun x18 =>
                  Option.bind (ab_gI s1 x18 1 10) fun x19 =>
                  some (some (.int x19), s1)
              else some (some (.int (-4 : Int32)), s1)
        else some (some (.int (-2 : Int32)), s1)) := congrArg (ab_rc st l0 10) ((lm_eq one_X10_count 0 _ _ _).trans rfl)
def c_X11_isFinal : List (Nat × ab_I) := [(0, .aload_n 0, 1, .null, 0),
  (1, .getfield 57, 3, .null, 0),
  (4, .iload_n 2, 1, .null, 2),
  (5, .iaload, 1, .null, 0),
  (6, .aload_n 0, 1, .null, 0),
  (7, .getfield 60, 3, .null, 0),
  (10, .iload_n 2, 1, .null, 2),
  (11, .iaload, 1, .null, 0),
  (12, .if_icmp .ge (33), 3, .null, 45),
  (15, .aload_n 0, 1, .null, 0),
  (16, .getfield 16, 3, .null, 0),
  (19, .sipush (200), 3, (.int (200)), 0),
  (22, .iload_n 1, 1, .null, 1),
  (23, .imul, 1, .null, 0),
  (24, .aload_n 0, 1, .null, 0),
  (25, .getfield 57, 3, .null, 0),
  (28, .iload_n 2, 1, .null, 2),
  (29, .iaload, 1, .null, 0),
  (30, .iadd, 1, .null, 0),
  (31, .iaload, 1, .null, 0),
  (32, .aload_n 0, 1, .null, 0),
  (33, .getfield 63, 3, .null, 0),
  (36, .iload_n 2, 1, .null, 2),
  (37, .iaload, 1, .null, 0),
  (38, .if_icmp .ne (7), 3, .null, 45),
  (41, .iconst 1, 1, (.int (1)), 0),
  (42, .goto (4), 3, .null, 46),
  (45, .iconst 0, 1, (.int (0)), 0),
  (46, .ireturn, 1, .null, 0)]
noncomputable def m_X11_isFinal : ab_M := (c_X11_isFinal, [(0, [0, 1, 2])],
  [(16, 11, 3, 3), (57, 11, 18, 3), (60, 11, 19, 3), (63, 11, 20, 3)],
  [],
  [],
  [], 3, 2)
theorem one_X11_isFinal : ab_oneM m_X11_isFinal := fun _ h => absurd h List.not_mem_nil
noncomputable def f_X11_isFinal (l0 : Nat) (l1 : Int32) (l2 : Int32) (st : ab_S) : Option ab_R := ab_rc st l0 11 (ab_lim m_X11_isFinal 0 [.ref l0, .int l1, .int l2] [] st)
noncomputable def g_X11_isFinal : ab_G := fun as st k => match as with
  | [.ref a0, .int a1, .int a2] => ab_ri (f_X11_isFinal a0 a1 a2 st) (fun x t => k [.int x] t)
  | _ => none
theorem o_X11_isFinal : ab_one g_X11_isFinal := by
  intro as st k r h
  unfold g_X11_isFinal at h ⊢
  split at h
  · exact one_ri h
  · cases h
set_option maxRecDepth 100000 in
theorem e_X11_isFinal_0 (l0 : Nat) (l1 : Int32) (l2 : Int32) (st : ab_S) : f_X11_isFinal l0 l1 l2 st =
    ab_rc st l0 11 (
    Option.bind (ab_gR st l0 11 18) fun x1 =>
    Option.bind (ab_rI st x1 l2) fun x2 =>
    Option.bind (ab_gR st l0 11 19) fun x3 =>
    Option.bind (ab_rI st x3 l2) fun x4 =>
    if x4 ≤ x2
    then ab_z (0 : Int32) (some (some (.int (0 : Int32)), st))
    else Option.bind (ab_gR st l0 11 3) fun x5 =>
      Option.bind (ab_gR st l0 11 18) fun x6 =>
      Option.bind (ab_rI st x6 l2) fun x7 =>
      Option.bind (ab_rI st x5 (((200 : Int32) * l1) + x7)) fun x8 =>
      Option.bind (ab_gR st l0 11 20) fun x9 =>
      Option.bind (ab_rI st x9 l2) fun x10 =>
      if x8 = x10
      then ab_z (1 : Int32) (some (some (.int (1 : Int32)), st))
      else ab_z (0 : Int32) (some (some (.int (0 : Int32)), st))) := congrArg (ab_rc st l0 11) ((lm_eq one_X11_isFinal 0 _ _ _).trans rfl)
def c_X11_beginningOf : List (Nat × ab_I) := [(0, .iconst 0, 1, (.int (0)), 0),
  (1, .istore 4, 2, .null, 4),
  (3, .aload_n 0, 1, .null, 0),
  (4, .getfield 63, 3, .null, 0),
  (7, .iload 4, 2, .null, 4),
  (9, .iaload, 1, .null, 0),
  (10, .iload_n 3, 1, .null, 3),
  (11, .if_icmp .ne (25), 3, .null, 36),
  (14, .iload_n 2, 1, .null, 2),
  (15, .aload_n 0, 1, .null, 0),
  (16, .getfield 57, 3, .null, 0),
  (19, .iload 4, 2, .null, 4),
  (21, .iaload, 1, .null, 0),
  (22, .if_icmp .lt (14), 3, .null, 36),
  (25, .iload_n 2, 1, .null, 2),
  (26, .aload_n 0, 1, .null, 0),
  (27, .getfield 60, 3, .null, 0),
  (30, .iload 4, 2, .null, 4),
  (32, .iaload, 1, .null, 0),
  (33, .if_icmp .lt (9), 3, .null, 42),
  (36, .iinc 4 (1), 3, (.int (1)), 4),
  (39, .goto (-36), 3, .null, 3),
  (42, .iload 4, 2, .null, 4),
  (44, .ireturn, 1, .null, 0)]
noncomputable def m_X11_beginningOf : ab_M := (c_X11_beginningOf, [(0, [0, 1, 2, 3]), (3, [0, 2, 3, 4]), (36, [0, 2, 3, 4])],
  [(57, 11, 18, 3), (60, 11, 19, 3), (63, 11, 20, 3)],
  [],
  [],
  [], 5, 1)
theorem one_X11_beginningOf : ab_oneM m_X11_beginningOf := fun _ h => absurd h List.not_mem_nil
noncomputable def f_X11_beginningOf (l0 : Nat) (l1 : Int32) (l2 : Int32) (l3 : Int32) (st : ab_S) : Option ab_R := ab_rc st l0 11 (ab_lim m_X11_beginningOf 0 [.ref l0, .int l1, .int l2, .int l3] [] st)
noncomputable def L_X11_beginningOf_3 (l0 : Nat) (l2 : Int32) (l3 : Int32) (l4 : Int32) (st : ab_S) : Option ab_R := ab_lim m_X11_beginningOf 3 [.ref l0, .int l2, .int l3, .int l4] [] st
noncomputable def L_X11_beginningOf_36 (l0 : Nat) (l2 : Int32) (l3 : Int32) (l4 : Int32) (st : ab_S) : Option ab_R := ab_lim m_X11_beginningOf 36 [.ref l0, .int l2, .int l3, .int l4] [] st
noncomputable def g_X11_beginningOf : ab_G := fun as st k => match as with
  | [.ref a0, .int a1, .int a2, .int a3] => ab_ri (f_X11_beginningOf a0 a1 a2 a3 st) (fun x t => k [.int x] t)
  | _ => none
theorem o_X11_beginningOf : ab_one g_X11_beginningOf := by
  intro as st k r h
  unfold g_X11_beginningOf at h ⊢
  split at h
  · exact one_ri h
  · cases h
set_option maxRecDepth 100000 in
theorem e_X11_beginningOf_0 (l0 : Nat) (l1 : Int32) (l2 : Int32) (l3 : Int32) (st : ab_S) : f_X11_beginningOf l0 l1 l2 l3 st =
    ab_rc st l0 11 (
    L_X11_beginningOf_3 l0 l2 l3 (0 : Int32) st) := congrArg (ab_rc st l0 11) ((lm_eq one_X11_beginningOf 0 _ _ _).trans rfl)
set_option maxRecDepth 100000 in
theorem e_X11_beginningOf_3 (l0 : Nat) (l2 : Int32) (l3 : Int32) (l4 : Int32) (st : ab_S) : L_X11_beginningOf_3 l0 l2 l3 l4 st =
    Option.bind (ab_gR st l0 11 20) fun x1 =>
    Option.bind (ab_rI st x1 l4) fun x2 =>
    if x2 = l3
    then Option.bind (ab_gR st l0 11 18) fun x3 =>
      Option.bind (ab_rI st x3 l4) fun x4 =>
      if l2 < x4
      then L_X11_beginningOf_36 l0 l2 l3 l4 st
      else Option.bind (ab_gR st l0 11 19) fun x5 =>
        Option.bind (ab_rI st x5 l4) fun x6 =>
        if l2 < x6
        then some (some (.int l4), st)
        else L_X11_beginningOf_36 l0 l2 l3 l4 st
    else L_X11_beginningOf_36 l0 l2 l3 l4 st := (lm_eq one_X11_beginningOf 3 _ _ _).trans rfl
set_option maxRecDepth 100000 in
theorem e_X11_beginningOf_36 (l0 : Nat) (l2 : Int32) (l3 : Int32) (l4 : Int32) (st : ab_S) : L_X11_beginningOf_36 l0 l2 l3 l4 st =
    L_X11_beginningOf_3 l0 l2 l3 (l4 + (1 : Int32)) st := (lm_eq one_X11_beginningOf 36 _ _ _).trans rfl
def c_X11_child : List (Nat × ab_I) := [(0, .iconst 0, 1, (.int (0)), 0),
  (1, .istore 4, 2, .null, 4),
  (3, .aload_n 0, 1, .null, 0),
  (4, .getfield 57, 3, .null, 0),
  (7, .iload_n 2, 1, .null, 2),
  (8, .iaload, 1, .null, 0),
  (9, .aload_n 0, 1, .null, 0),
  (10, .iload_n 1, 1, .null, 1),
  (11, .iload_n 2, 1, .null, 2),
  (12, .invokevirtual 206, 3, .null, 0),
  (15, .ifCond .eq (7), 3, .null, 22),
  (18, .iconst 1, 1, (.int (1)), 0),
  (19, .goto (4), 3, .null, 23),
  (22, .iconst 0, 1, (.int (0)), 0),
  (23, .iadd, 1, .null, 0),
  (24, .istore 5, 2, .null, 5),
  (26, .iload 5, 2, .null, 5),
  (28, .aload_n 0, 1, .null, 0),
  (29, .getfield 60, 3, .null, 0),
  (32, .iload_n 2, 1, .null, 2),
  (33, .iaload, 1, .null, 0),
  (34, .if_icmp .ge (81), 3, .null, 115),
  (37, .iload 4, 2, .null, 4),
  (39, .iload_n 3, 1, .null, 3),
  (40, .if_icmp .ne (19), 3, .null, 59),
  (43, .aload_n 0, 1, .null, 0),
  (44, .iload_n 1, 1, .null, 1),
  (45, .iload 5, 2, .null, 5),
  (47, .aload_n 0, 1, .null, 0),
  (48, .getfield 63, 3, .null, 0),
  (51, .iload_n 2, 1, .null, 2),
  (52, .iaload, 1, .null, 0),
  (53, .iconst 1, 1, (.int (1)), 0),
  (54, .iadd, 1, .null, 0),
  (55, .invokevirtual 210, 3, .null, 0),
  (58, .ireturn, 1, .null, 0),
  (59, .aload_n 0, 1, .null, 0),
  (60, .iload_n 1, 1, .null, 1),
  (61, .iload 5, 2, .null, 5),
  (63, .aload_n 0, 1, .null, 0),
  (64, .getfield 63, 3, .null, 0),
  (67, .iload_n 2, 1, .null, 2),
  (68, .iaload, 1, .null, 0),
  (69, .invokevirtual 153, 3, .null, 0),
  (72, .istore 6, 2, .null, 6),
  (74, .iload 5, 2, .null, 5),
  (76, .aload_n 0, 1, .null, 0),
  (77, .getfield 60, 3, .null, 0),
  (80, .iload_n 2, 1, .null, 2),
  (81, .iaload, 1, .null, 0),
  (82, .if_icmp .ge (27), 3, .null, 109),
  (85, .aload_n 0, 1, .null, 0),
  (86, .iload_n 1, 1, .null, 1),
  (87, .iload 5, 2, .null, 5),
  (89, .aload_n 0, 1, .null, 0),
  (90, .getfield 63, 3, .null, 0),
  (93, .iload_n 2, 1, .null, 2),
  (94, .iaload, 1, .null, 0),
  (95, .invokevirtual 153, 3, .null, 0),
  (98, .iload 6, 2, .null, 6),
  (100, .if_icmp .ne (9), 3, .null, 109),
  (103, .iinc 5 (1), 3, (.int (1)), 5),
  (106, .goto (-32), 3, .null, 74),
  (109, .iinc 4 (1), 3, (.int (1)), 4),
  (112, .goto (-86), 3, .null, 26),
  (115, .iconst (-1), 1, (.int (-1)), 0),
  (116, .ireturn, 1, .null, 0)]
noncomputable def m_X11_child : ab_M := (c_X11_child, [(0, [0, 1, 2, 3]), (23, [0, 1, 2, 3, 4]), (26, [0, 1, 2, 3, 4, 5]), (74, [0, 1, 2, 3, 4, 5, 6]), (109, [0, 1, 2, 3, 4, 5])],
  [(57, 11, 18, 3), (60, 11, 19, 3), (63, 11, 20, 3)],
  [],
  [(153, 1, 4, g_X11_letter), (206, 1, 3, g_X11_isFinal), (210, 1, 4, g_X11_beginningOf)],
  [], 7, 1)
theorem one_X11_child : ab_oneM m_X11_child := List.forall_mem_cons.mpr ⟨o_X11_letter, List.forall_mem_cons.mpr ⟨o_X11_isFinal, List.forall_mem_cons.mpr ⟨o_X11_beginningOf, fun _ h => absurd h List.not_mem_nil⟩⟩⟩
noncomputable def f_X11_child (l0 : Nat) (l1 : Int32) (l2 : Int32) (l3 : Int32) (st : ab_S) : Option ab_R := ab_rc st l0 11 (ab_lim m_X11_child 0 [.ref l0, .int l1, .int l2, .int l3] [] st)
noncomputable def L_X11_child_23 (l0 : Nat) (l1 : Int32) (l2 : Int32) (l3 : Int32) (l4 : Int32) (t0 : Int32) (t1 : Int32) (st : ab_S) : Option ab_R := ab_lim m_X11_child 23 [.ref l0, .int l1, .int l2, .int l3, .int l4] [.int t1, .int t0] st
noncomputable def L_X11_child_26 (l0 : Nat) (l1 : Int32) (l2 : Int32) (l3 : Int32) (l4 : Int32) (l5 : Int32) (st : ab_S) : Option ab_R := ab_lim m_X11_child 26 [.ref l0, .int l1, .int l2, .int l3, .int l4, .int l5] [] st
noncomputable def L_X11_child_74 (l0 : Nat) (l1 : Int32) (l2 : Int32) (l3 : Int32) (l4 : Int32) (l5 : Int32) (l6 : Int32) (st : ab_S) : Option ab_R := ab_lim m_X11_child 74 [.ref l0, .int l1, .int l2, .int l3, .int l4, .int l5, .int l6] [] st
noncomputable def L_X11_child_109 (l0 : Nat) (l1 : Int32) (l2 : Int32) (l3 : Int32) (l4 : Int32) (l5 : Int32) (st : ab_S) : Option ab_R := ab_lim m_X11_child 109 [.ref l0, .int l1, .int l2, .int l3, .int l4, .int l5] [] st
noncomputable def g_X11_child : ab_G := fun as st k => match as with
  | [.ref a0, .int a1, .int a2, .int a3] => ab_ri (f_X11_child a0 a1 a2 a3 st) (fun x t => k [.int x] t)
  | _ => none
theorem o_X11_child : ab_one g_X11_child := by
  intro as st k r h
  unfold g_X11_child at h ⊢
  split at h
  · exact one_ri h
  · cases h
set_option maxRecDepth 100000 in
theorem e_X11_child_0 (l0 : Nat) (l1 : Int32) (l2 : Int32) (l3 : Int32) (st : ab_S) : f_X11_child l0 l1 l2 l3 st =
    ab_rc st l0 11 (
    Option.bind (ab_gR st l0 11 18) fun x1 =>
    Option.bind (ab_rI st x1 l2) fun x2 =>
    ab_ri (f_X11_isFinal l0 l1 l2 st) fun x4 s3 =>
    if x4 = 0
    then L_X11_child_23 l0 l1 l2 l3 (0 : Int32) x2 (0 : Int32) s3
    else L_X11_child_23 l0 l1 l2 l3 (0 : Int32) x2 (1 : Int32) s3) := congrArg (ab_rc st l0 11) ((lm_eq one_X11_child 0 _ _ _).trans rfl)
set_option maxRecDepth 100000 in
theorem e_X11_child_23 (l0 : Nat) (l1 : Int32) (l2 : Int32) (l3 : Int32) (l4 : Int32) (t0 : Int32) (t1 : Int32) (st : ab_S) : L_X11_child_23 l0 l1 l2 l3 l4 t0 t1 st =
    L_X11_child_26 l0 l1 l2 l3 l4 (t0 + t1) st := (lm_eq one_X11_child 23 _ _ _).trans rfl
set_option maxRecDepth 100000 in
theorem e_X11_child_26 (l0 : Nat) (l1 : Int32) (l2 : Int32) (l3 : Int32) (l4 : Int32) (l5 : Int32) (st : ab_S) : L_X11_child_26 l0 l1 l2 l3 l4 l5 st =
    Option.bind (ab_gR st l0 11 19) fun x1 =>
    Option.bind (ab_rI st x1 l2) fun x2 =>
    if x2 ≤ l5
    then some (some (.int (-1 : Int32)), st)
    else if l4 = l3
      then Option.bind (ab_gR st l0 11 20) fun x3 =>
        Option.bind (ab_rI st x3 l2) fun x4 =>
        ab_ri (f_X11_beginningOf l0 l1 l5 (x4 + (1 : Int32)) st) fun x6 s5 =>
        some (some (.int x6), s5)
      else Option.bind (ab_gR st l0 11 20) fun x7 =>
        Option.bind (ab_rI st x7 l2) fun x8 =>
        ab_ri (f_X11_letter l0 l1 l5 x8 st) fun x10 s9 =>
        L_X11_child_74 l0 l1 l2 l3 l4 l5 x10 s9 := (lm_eq one_X11_child 26 _ _ _).trans rfl
set_option maxRecDepth 100000 in
theorem e_X11_child_74 (l0 : Nat) (l1 : Int32) (l2 : Int32) (l3 : Int32) (l4 : Int32) (l5 : Int32) (l6 : Int32) (st : ab_S) : L_X11_child_74 l0 l1 l2 l3 l4 l5 l6 st =
    Option.bind (ab_gR st l0 11 19) fun x1 =>
    Option.bind (ab_rI st x1 l2) fun x2 =>
    if x2 ≤ l5
    then L_X11_child_109 l0 l1 l2 l3 l4 l5 st
    else Option.bind (ab_gR st l0 11 20) fun x3 =>
      Option.bind (ab_rI st x3 l2) fun x4 =>
      ab_ri (f_X11_letter l0 l1 l5 x4 st) fun x6 s5 =>
      if x6 = l6
      then L_X11_child_74 l0 l1 l2 l3 l4 (l5 + (1 : Int32)) l6 s5
      else L_X11_child_109 l0 l1 l2 l3 l4 l5 s5 := (lm_eq one_X11_child 74 _ _ _).trans rfl
set_option maxRecDepth 100000 in
theorem e_X11_child_109 (l0 : Nat) (l1 : Int32) (l2 : Int32) (l3 : Int32) (l4 : Int32) (l5 : Int32) (st : ab_S) : L_X11_child_109 l0 l1 l2 l3 l4 l5 st =
    L_X11_child_26 l0 l1 l2 l3 (l4 + (1 : Int32)) l5 st := (lm_eq one_X11_child 109 _ _ _).trans rfl
def c_X11_children : List (Nat × ab_I) := [(0, .iconst 0, 1, (.int (0)), 0),
  (1, .istore_n 3, 1, .null, 3),
  (2, .aload_n 0, 1, .null, 0),
  (3, .iload_n 1, 1, .null, 1),
  (4, .iload_n 2, 1, .null, 2),
  (5, .iload_n 3, 1, .null, 3),
  (6, .invokevirtual 213, 3, .null, 0),
  (9, .iconst (-1), 1, (.int (-1)), 0),
  (10, .if_icmp .eq (9), 3, .null, 19),
  (13, .iinc 3 (1), 3, (.int (1)), 3),
  (16, .goto (-14), 3, .null, 2),
  (19, .iload_n 3, 1, .null, 3),
  (20, .ireturn, 1, .null, 0)]
noncomputable def m_X11_children : ab_M := (c_X11_children, [(0, [0, 1, 2]), (2, [0, 1, 2, 3])],
  [],
  [],
  [(213, 1, 4, g_X11_child)],
  [], 4, 1)
theorem one_X11_children : ab_oneM m_X11_children := List.forall_mem_cons.mpr ⟨o_X11_child, fun _ h => absurd h List.not_mem_nil⟩
noncomputable def f_X11_children (l0 : Nat) (l1 : Int32) (l2 : Int32) (st : ab_S) : Option ab_R := ab_rc st l0 11 (ab_lim m_X11_children 0 [.ref l0, .int l1, .int l2] [] st)
noncomputable def L_X11_children_2 (l0 : Nat) (l1 : Int32) (l2 : Int32) (l3 : Int32) (st : ab_S) : Option ab_R := ab_lim m_X11_children 2 [.ref l0, .int l1, .int l2, .int l3] [] st
noncomputable def g_X11_children : ab_G := fun as st k => match as with
  | [.ref a0, .int a1, .int a2] => ab_ri (f_X11_children a0 a1 a2 st) (fun x t => k [.int x] t)
  | _ => none
theorem o_X11_children : ab_one g_X11_children := by
  intro as st k r h
  unfold g_X11_children at h ⊢
  split at h
  · exact one_ri h
  · cases h
set_option maxRecDepth 100000 in
theorem e_X11_children_0 (l0 : Nat) (l1 : Int32) (l2 : Int32) (st : ab_S) : f_X11_children l0 l1 l2 st =
    ab_rc st l0 11 (
    L_X11_children_2 l0 l1 l2 (0 : Int32) st) := congrArg (ab_rc st l0 11) ((lm_eq one_X11_children 0 _ _ _).trans rfl)
set_option maxRecDepth 100000 in
theorem e_X11_children_2 (l0 : Nat) (l1 : Int32) (l2 : Int32) (l3 : Int32) (st : ab_S) : L_X11_children_2 l0 l1 l2 l3 st =
    ab_ri (f_X11_child l0 l1 l2 l3 st) fun x2 s1 =>
    if x2 = (-1 : Int32)
    then some (some (.int l3), s1)
    else L_X11_children_2 l0 l1 l2 (l3 + (1 : Int32)) s1 := (lm_eq one_X11_children 2 _ _ _).trans rfl
def c_X11_greater : List (Nat × ab_I) := [(0, .lload_n 0, 1, .null, 0),
  (1, .lload_n 2, 1, .null, 2),
  (2, .lcmp, 1, .null, 0),
  (3, .ifCond .ge (7), 3, .null, 10),
  (6, .lload_n 2, 1, .null, 2),
  (7, .goto (4), 3, .null, 11),
  (10, .lload_n 0, 1, .null, 0),
  (11, .lreturn, 1, .null, 0)]
noncomputable def m_X11_greater : ab_M := (c_X11_greater, [(0, [0, 2])],
  [],
  [],
  [],
  [], 4, 3)
theorem one_X11_greater : ab_oneM m_X11_greater := fun _ h => absurd h List.not_mem_nil
noncomputable def f_X11_greater (l0 : Int64) (l2 : Int64) (st : ab_S) : Option ab_R := ab_lim m_X11_greater 0 [.long l0, .long l2] [] st
noncomputable def g_X11_greater : ab_G := fun as st k => match as with
  | [.long a0, .long a1] => ab_rl (f_X11_greater a0 a1 st) (fun x t => k [.long x] t)
  | _ => none
theorem o_X11_greater : ab_one g_X11_greater := by
  intro as st k r h
  unfold g_X11_greater at h ⊢
  split at h
  · exact one_rl h
  · cases h
set_option maxRecDepth 100000 in
theorem e_X11_greater_0 (l0 : Int64) (l2 : Int64) (st : ab_S) : f_X11_greater l0 l2 st =
    if 0 ≤ (lg_cmp l0 l2)
    then some (some (.long l0), st)
    else some (some (.long l2), st) := (lm_eq one_X11_greater 0 _ _ _).trans rfl
def c_X11_count : List (Nat × ab_I) := [(0, .iload_n 1, 1, .null, 1),
  (1, .invokestatic 159, 3, .null, 0),
  (4, .ifCond .eq (15), 3, .null, 19),
  (7, .iload_n 2, 1, .null, 2),
  (8, .i2l, 1, .null, 0),
  (9, .lconst 0, 1, (.long (0)), 0),
  (10, .ldc2_w 229, 3, (.long (6)), 0),
  (13, .invokestatic 146, 3, .null, 0),
  (16, .ifCond .ne (6), 3, .null, 22),
  (19, .bipush (-2), 2, (.int (-2)), 0),
  (21, .ireturn, 1, .null, 0),
  (22, .iload_n 2, 1, .null, 2),
  (23, .iconst 2, 1, (.int (2)), 0),
  (24, .if_icmp .ge (31), 3, .null, 55),
  (27, .iload_n 2, 1, .null, 2),
  (28, .ifCond .ne (12), 3, .null, 40),
  (31, .aload_n 0, 1, .null, 0),
  (32, .getfield 24, 3, .null, 0),
  (35, .iload_n 1, 1, .null, 1),
  (36, .iaload, 1, .null, 0),
  (37, .goto (17), 3, .null, 54),
  (40, .aload_n 0, 1, .null, 0),
  (41, .getfield 27, 3, .null, 0),
  (44, .iload_n 1, 1, .null, 1),
  (45, .baload, 1, .null, 0),
  (46, .ifCond .eq (7), 3, .null, 53),
  (49, .iconst 1, 1, (.int (1)), 0),
  (50, .goto (4), 3, .null, 54),
  (53, .iconst 0, 1, (.int (0)), 0),
  (54, .ireturn, 1, .null, 0),
  (55, .aload_n 0, 1, .null, 0),
  (56, .getfield 27, 3, .null, 0),
  (59, .iload_n 1, 1, .null, 1),
  (60, .baload, 1, .null, 0),
  (61, .ifCond .eq (6), 3, .null, 67),
  (64, .bipush (-4), 2, (.int (-4)), 0),
  (66, .ireturn, 1, .null, 0),
  (67, .aload_n 0, 1, .null, 0),
  (68, .iload_n 1, 1, .null, 1),
  (69, .invokevirtual 176, 3, .null, 0),
  (72, .iconst 0, 1, (.int (0)), 0),
  (73, .istore_n 3, 1, .null, 3),
  (74, .iconst 0, 1, (.int (0)), 0),
  (75, .istore 4, 2, .null, 4),
  (77, .iload 4, 2, .null, 4),
  (79, .aload_n 0, 1, .null, 0),
  (80, .getfield 180, 3, .null, 0),
  (83, .if_icmp .ge (66), 3, .null, 149),
  (86, .iload_n 2, 1, .null, 2),
  (87, .iconst 5, 1, (.int (5)), 0),
  (88, .if_icmp .ge (61), 3, .null, 149),
  (91, .iload_n 3, 1, .null, 3),
  (92, .iload_n 2, 1, .null, 2),
  (93, .iconst 2, 1, (.int (2)), 0),
  (94, .if_icmp .ne (7), 3, .null, 101),
  (97, .iconst 1, 1, (.int (1)), 0),
  (98, .goto (43), 3, .null, 141),
  (101, .iload_n 2, 1, .null, 2),
  (102, .iconst 3, 1, (.int (3)), 0),
  (103, .if_icmp .ne (18), 3, .null, 121),
  (106, .aload_n 0, 1, .null, 0),
  (107, .iload_n 1, 1, .null, 1),
  (108, .aload_n 0, 1, .null, 0),
  (109, .getfield 75, 3, .null, 0),
  (112, .iload 4, 2, .null, 4),
  (114, .iaload, 1, .null, 0),
  (115, .invokevirtual 231, 3, .null, 0),
  (118, .goto (23), 3, .null, 141),
  (121, .aload_n 0, 1, .null, 0),
  (122, .iload_n 1, 1, .null, 1),
  (123, .aload_n 0, 1, .null, 0),
  (124, .getfield 75, 3, .null, 0),
  (127, .iload 4, 2, .null, 4),
  (129, .iaload, 1, .null, 0),
  (130, .invokevirtual 206, 3, .null, 0),
  (133, .ifCond .eq (7), 3, .null, 140),
  (136, .iconst 1, 1, (.int (1)), 0),
  (137, .goto (4), 3, .null, 141),
  (140, .iconst 0, 1, (.int (0)), 0),
  (141, .iadd, 1, .null, 0),
  (142, .istore_n 3, 1, .null, 3),
  (143, .iinc 4 (1), 3, (.int (1)), 4),
  (146, .goto (-69), 3, .null, 77),
  (149, .iconst 0, 1, (.int (0)), 0),
  (150, .istore 4, 2, .null, 4),
  (152, .iload 4, 2, .null, 4),
  (154, .aload_n 0, 1, .null, 0),
  (155, .getfield 24, 3, .null, 0),
  (158, .iload_n 1, 1, .null, 1),
  (159, .iaload, 1, .null, 0),
  (160, .if_icmp .ge (35), 3, .null, 195),
  (163, .iload_n 2, 1, .null, 2),
  (164, .iconst 5, 1, (.int (5)), 0),
  (165, .if_icmp .ne (30), 3, .null, 195),
  (168, .iload_n 3, 1, .null, 3),
  (169, .i2l, 1, .null, 0),
  (170, .aload_n 0, 1, .null, 0),
  (171, .getfield 16, 3, .null, 0),
  (174, .sipush (200), 3, (.int (200)), 0),
  (177, .iload_n 1, 1, .null, 1),
  (178, .imul, 1, .null, 0),
  (179, .iload 4, 2, .null, 4),
  (181, .iadd, 1, .null, 0),
  (182, .iaload, 1, .null, 0),
  (183, .i2l, 1, .null, 0),
  (184, .invokestatic 234, 3, .null, 0),
  (187, .l2i, 1, .null, 0),
  (188, .istore_n 3, 1, .null, 3),
  (189, .iinc 4 (1), 3, (.int (1)), 4),
  (192, .goto (-40), 3, .null, 152),
  (195, .iload_n 2, 1, .null, 2),
  (196, .bipush (6), 2, (.int (6)), 0),
  (198, .if_icmp .ne (10), 3, .null, 208),
  (201, .aload_n 0, 1, .null, 0),
  (202, .getfield 183, 3, .null, 0),
  (205, .goto (4), 3, .null, 209),
  (208, .iload_n 3, 1, .null, 3),
  (209, .ireturn, 1, .null, 0)]
noncomputable def m_X11_count : ab_M := (c_X11_count, [(0, [0, 1, 2]), (77, [0, 1, 2, 3, 4]), (141, [0, 1, 2, 4]), (149, [0, 1, 2, 3]), (152, [0, 1, 2, 3, 4]), (195, [0, 2, 3])],
  [(16, 11, 3, 3), (24, 11, 5, 3), (27, 11, 6, 3), (75, 11, 24, 3), (180, 11, 25, 0), (183, 11, 17, 0)],
  [],
  [(146, 0, 3, g_X11_isIn), (159, 0, 1, g_X11_isDictionary), (176, 1, 2, g_X11_build), (206, 1, 3, g_X11_isFinal), (231, 1, 3, g_X11_children), (234, 0, 2, g_X11_greater)],
  [], 5, 1)
theorem one_X11_count : ab_oneM m_X11_count := List.forall_mem_cons.mpr ⟨o_X11_isIn, List.forall_mem_cons.mpr ⟨o_X11_isDictionary, List.forall_mem_cons.mpr ⟨o_X11_build, List.forall_mem_cons.mpr ⟨o_X11_isFinal, List.forall_mem_cons.mpr ⟨o_X11_children, List.forall_mem_cons.mpr ⟨o_X11_greater, fun _ h => absurd h List.not_mem_nil⟩⟩⟩⟩⟩⟩
noncomputable def f_X11_count (l0 : Nat) (l1 : Int32) (l2 : Int32) (st : ab_S) : Option ab_R := ab_rc st l0 11 (ab_lim m_X11_count 0 [.ref l0, .int l1, .int l2] [] st)
noncomputable def L_X11_count_77 (l0 : Nat) (l1 : Int32) (l2 : Int32) (l3 : Int32) (l4 : Int32) (st : ab_S) : Option ab_R := ab_lim m_X11_count 77 [.ref l0, .int l1, .int l2, .int l3, .int l4] [] st
noncomputable def L_X11_count_141 (l0 : Nat) (l1 : Int32) (l2 : Int32) (l4 : Int32) (t0 : Int32) (t1 : Int32) (st : ab_S) : Option ab_R := ab_lim m_X11_count 141 [.ref l0, .int l1, .int l2, .int l4] [.int t1, .int t0] st
noncomputable def L_X11_count_149 (l0 : Nat) (l1 : Int32) (l2 : Int32) (l3 : Int32) (st : ab_S) : Option ab_R := ab_lim m_X11_count 149 [.ref l0, .int l1, .int l2, .int l3] [] st
noncomputable def L_X11_count_152 (l0 : Nat) (l1 : Int32) (l2 : Int32) (l3 : Int32) (l4 : Int32) (st : ab_S) : Option ab_R := ab_lim m_X11_count 152 [.ref l0, .int l1, .int l2, .int l3, .int l4] [] st
noncomputable def L_X11_count_195 (l0 : Nat) (l2 : Int32) (l3 : Int32) (st : ab_S) : Option ab_R := ab_lim m_X11_count 195 [.ref l0, .int l2, .int l3] [] st
noncomputable def g_X11_count : ab_G := fun as st k => match as with
  | [.ref a0, .int a1, .int a2] => ab_ri (f_X11_count a0 a1 a2 st) (fun x t => k [.int x] t)
  | _ => none
theorem o_X11_count : ab_one g_X11_count := by
  intro as st k r h
  unfold g_X11_count at h ⊢
  split at h
  · exact one_ri h
  · cases h
set_option maxRecDepth 100000 in
theorem e_X11_count_0 (l0 : Nat) (l1 : Int32) (l2 : Int32) (st : ab_S) : f_X11_count l0 l1 l2 st =
    ab_rc st l0 11 (
    ab_ri (f_X11_isDictionary l1 st) fun x2 s1 =>
    if x2 = 0
    then some (some (.int (-2 : Int32)), s1)
    else ab_ri (f_X11_isIn l2.toInt64 (0 : Int64) (6 : Int64) s1) fun x4 s3 =>
      if x4 = 0
      then some (some (.int (-2 : Int32)), s3)
      else if (2 : Int32) ≤ l2
        then Option.bind (ab_gR s3 l0 11 6) fun x5 =>
          Option.bind (ab_rB s3 x5 l1) fun x6 =>
          if x6 = 0
          then ab_rv (f_X11_build l0 l1 s3) fun s7 =>
            L_X11_count_77 l0 l1 l2 (0 : Int32) (0 : Int32) s7
          else some (some (.int (-4 : Int32)), s3)
        else if l2 = 0
          then Option.bind (ab_gR s3 l0 11 5) fun x8 =>
            Option.bind (ab_rI s3 x8 l1) fun x9 =>
            some (some (.int x9), s3)
          else Option.bind (ab_gR s3 l0 11 6) fun x10 =>
            Option.bind (ab_rB s3 x10 l1) fun x11 =>
            if x11 = 0
            then some (some (.int (0 : Int32)), s3)
            else some (some (.int (1 : Int32)), s3)) := congrArg (ab_rc st l0 11) ((lm_eq one_X11_count 0 _ _ _).trans rfl)
set_option maxRecDepth 100000 in
theorem e_X11_count_77 (l0 : Nat) (l1 : Int32) (l2 : Int32) (l3 : Int32) (l4 : Int32) (st : ab_S) : L_X11_count_77 l0 l1 l2 l3 l4 st =
    Option.bind (ab_gI st l0 11 25) fun x1 =>
    if x1 ≤ l4
    then L_X11_count_149 l0 l1 l2 l3 st
    else if (5 : Int32) ≤ l2
      then L_X11_count_149 l0 l1 l2 l3 st
      else if l2 = (2 : Int32)
        then L_X11_count_141 l0 l1 l2 l4 l3 (1 : Int32) st
        else if l2 = (3 : Int32)
          then Option.bind (ab_gR st l0 11 24) fun x2 =>
            Option.bind (ab_rI st x2 l4) fun x3 =>
            ab_ri (f_X11_children l0 l1 x3 st) fun x5 s4 =>
            L_X11_count_141 l0 l1 l2 l4 l3 x5 s4
          else Option.bind (ab_gR st l0 11 24) fun x6 =>
            Option.bind (ab_rI st x6 l4) fun x7 =>
            ab_ri (f_X11_isFinal l0 l1 x7 st) fun x9 s8 =>
            if x9 = 0
            then L_X11_count_141 l0 l1 l2 l4 l3 (0 : Int32) s8
            else L_X11_count_141 l0 l1 l2 l4 l3 (1 : Int32) s8 := (lm_eq one_X11_count 77 _ _ _).trans rfl
set_option maxRecDepth 100000 in
theorem e_X11_count_141 (l0 : Nat) (l1 : Int32) (l2 : Int32) (l4 : Int32) (t0 : Int32) (t1 : Int32) (st : ab_S) : L_X11_count_141 l0 l1 l2 l4 t0 t1 st =
    L_X11_count_77 l0 l1 l2 (t0 + t1) (l4 + (1 : Int32)) st := (lm_eq one_X11_count 141 _ _ _).trans rfl
set_option maxRecDepth 100000 in
theorem e_X11_count_149 (l0 : Nat) (l1 : Int32) (l2 : Int32) (l3 : Int32) (st : ab_S) : L_X11_count_149 l0 l1 l2 l3 st =
    L_X11_count_152 l0 l1 l2 l3 (0 : Int32) st := (lm_eq one_X11_count 149 _ _ _).trans rfl
set_option maxRecDepth 100000 in
theorem e_X11_count_152 (l0 : Nat) (l1 : Int32) (l2 : Int32) (l3 : Int32) (l4 : Int32) (st : ab_S) : L_X11_count_152 l0 l1 l2 l3 l4 st =
    Option.bind (ab_gR st l0 11 5) fun x1 =>
    Option.bind (ab_rI st x1 l1) fun x2 =>
    if x2 ≤ l4
    then L_X11_count_195 l0 l2 l3 st
    else if l2 = (5 : Int32)
      then Option.bind (ab_gR st l0 11 3) fun x3 =>
        Option.bind (ab_rI st x3 (((200 : Int32) * l1) + l4)) fun x4 =>
        ab_rl (f_X11_greater l3.toInt64 x4.toInt64 st) fun x6 s5 =>
        L_X11_count_152 l0 l1 l2 x6.toInt32 (l4 + (1 : Int32)) s5
      else L_X11_count_195 l0 l2 l3 st := (lm_eq one_X11_count 152 _ _ _).trans rfl
set_option maxRecDepth 100000 in
theorem e_X11_count_195 (l0 : Nat) (l2 : Int32) (l3 : Int32) (st : ab_S) : L_X11_count_195 l0 l2 l3 st =
    if l2 = (6 : Int32)
    then Option.bind (ab_gI st l0 11 17) fun x1 =>
      some (some (.int x1), st)
    else some (some (.int l3), st) := (lm_eq one_X11_count 195 _ _ _).trans rfl
def c_X1_tellState : List (Nat × ab_I) := [(0, .aload_n 0, 1, .null, 0),
  (1, .iload_n 1, 1, .null, 1),
  (2, .invokevirtual 58, 3, .null, 0),
  (5, .ifCond .ne (7), 3, .null, 12),
  (8, .ldc2_w 35, 3, (.long (-1)), 0),
  (11, .lreturn, 1, .null, 0),
  (12, .iload_n 2, 1, .null, 2),
  (13, .tableswitch (60) (0) (2) #[27, 34, 53], 27, .null, 0),
  (40, .aload_n 0, 1, .null, 0),
  (41, .iload_n 1, 1, .null, 1),
  (42, .invokevirtual 62, 3, .null, 0),
  (45, .i2l, 1, .null, 0),
  (46, .lreturn, 1, .null, 0),
  (47, .aload_n 0, 1, .null, 0),
  (48, .getfield 15, 3, .null, 0),
  (51, .iload_n 1, 1, .null, 1),
  (52, .laload, 1, .null, 0),
  (53, .ldc2_w 35, 3, (.long (-1)), 0),
  (56, .lcmp, 1, .null, 0),
  (57, .ifCond .ne (7), 3, .null, 64),
  (60, .lconst 0, 1, (.long (0)), 0),
  (61, .goto (4), 3, .null, 65),
  (64, .lconst 1, 1, (.long (1)), 0),
  (65, .lreturn, 1, .null, 0),
  (66, .aload_n 0, 1, .null, 0),
  (67, .getfield 15, 3, .null, 0),
  (70, .iload_n 1, 1, .null, 1),
  (71, .laload, 1, .null, 0),
  (72, .lreturn, 1, .null, 0),
  (73, .aload_n 0, 1, .null, 0),
  (74, .getfield 19, 3, .null, 0),
  (77, .iload_n 1, 1, .null, 1),
  (78, .iaload, 1, .null, 0),
  (79, .i2l, 1, .null, 0),
  (80, .lreturn, 1, .null, 0)]
noncomputable def m_X1_tellState : ab_M := (c_X1_tellState, [(0, [0, 1, 2])],
  [(15, 1, 1, 3), (19, 1, 2, 3)],
  [],
  [(58, 1, 2, g_X1_has), (62, 1, 2, g_X1_arcsOf)],
  [(13, [(0, 40), (1, 47), (2, 66)], 73)], 3, 3)
theorem one_X1_tellState : ab_oneM m_X1_tellState := List.forall_mem_cons.mpr ⟨o_X1_has, List.forall_mem_cons.mpr ⟨o_X1_arcsOf, fun _ h => absurd h List.not_mem_nil⟩⟩
noncomputable def f_X1_tellState (l0 : Nat) (l1 : Int32) (l2 : Int32) (st : ab_S) : Option ab_R := ab_rc st l0 1 (ab_lim m_X1_tellState 0 [.ref l0, .int l1, .int l2] [] st)
noncomputable def g_X1_tellState : ab_G := fun as st k => match as with
  | [.ref a0, .int a1, .int a2] => ab_rl (f_X1_tellState a0 a1 a2 st) (fun x t => k [.long x] t)
  | _ => none
theorem o_X1_tellState : ab_one g_X1_tellState := by
  intro as st k r h
  unfold g_X1_tellState at h ⊢
  split at h
  · exact one_rl h
  · cases h
set_option maxRecDepth 100000 in
theorem e_X1_tellState_0 (l0 : Nat) (l1 : Int32) (l2 : Int32) (st : ab_S) : f_X1_tellState l0 l1 l2 st =
    ab_rc st l0 1 (
    ab_ri (f_X1_has l0 l1 st) fun x2 s1 =>
    if x2 = 0
    then some (some (.long (-1 : Int64)), s1)
    else if l2 = 0 then ab_ri (f_X1_arcsOf l0 l1 s1) fun x4 s3 =>
        some (some (.long x4.toInt64), s3)
      else if l2 = 1 then Option.bind (ab_gR s1 l0 1 1) fun x5 =>
        Option.bind (ab_rJ s1 x5 l1) fun x6 =>
        if (lg_cmp x6 (-1 : Int64)) = 0
        then some (some (.long (0 : Int64)), s1)
        else some (some (.long (1 : Int64)), s1)
      else if l2 = 2 then Option.bind (ab_gR s1 l0 1 1) fun x7 =>
        Option.bind (ab_rJ s1 x7 l1) fun x8 =>
        some (some (.long x8), s1)
      else Option.bind (ab_gR s1 l0 1 2) fun x9 =>
        Option.bind (ab_rI s1 x9 l1) fun x10 =>
        some (some (.long x10.toInt64), s1)) := congrArg (ab_rc st l0 1) ((lm_eq one_X1_tellState 0 _ _ _).trans rfl)
def c_X10_arc : List (Nat × ab_I) := [(0, .iload_n 3, 1, .null, 3),
  (1, .iconst (-1), 1, (.int (-1)), 0),
  (2, .if_icmp .ne (7), 3, .null, 9),
  (5, .iconst 1, 1, (.int (1)), 0),
  (6, .goto (4), 3, .null, 10),
  (9, .iconst 0, 1, (.int (0)), 0),
  (10, .istore 5, 2, .null, 5),
  (12, .iload_n 1, 1, .null, 1),
  (13, .invokestatic 95, 3, .null, 0),
  (16, .ifCond .eq (23), 3, .null, 39),
  (19, .iload 4, 2, .null, 4),
  (21, .ifCond .lt (18), 3, .null, 39),
  (24, .iload 4, 2, .null, 4),
  (26, .iload 5, 2, .null, 5),
  (28, .ifCond .eq (7), 3, .null, 35),
  (31, .iconst 3, 1, (.int (3)), 0),
  (32, .goto (4), 3, .null, 36),
  (35, .iconst 2, 1, (.int (2)), 0),
  (36, .if_icmp .le (7), 3, .null, 43),
  (39, .ldc2_w 139, 3, (.long (-2)), 0),
  (42, .lreturn, 1, .null, 0),
  (43, .aload_n 0, 1, .null, 0),
  (44, .getfield 11, 3, .null, 0),
  (47, .iload_n 1, 1, .null, 1),
  (48, .aaload, 1, .null, 0),
  (49, .getfield 109, 3, .null, 0),
  (52, .ifCond .eq (7), 3, .null, 59),
  (55, .ldc2_w 141, 3, (.long (-4)), 0),
  (58, .lreturn, 1, .null, 0),
  (59, .aload_n 0, 1, .null, 0),
  (60, .getfield 11, 3, .null, 0),
  (63, .iload_n 1, 1, .null, 1),
  (64, .aaload, 1, .null, 0),
  (65, .getfield 130, 3, .null, 0),
  (68, .astore 6, 2, .null, 6),
  (70, .iload 5, 2, .null, 5),
  (72, .ifCond .eq (14), 3, .null, 86),
  (75, .aload 6, 2, .null, 6),
  (77, .iload_n 2, 1, .null, 2),
  (78, .iload 4, 2, .null, 4),
  (80, .invokevirtual 167, 3, .null, 0),
  (83, .goto (12), 3, .null, 95),
  (86, .aload 6, 2, .null, 6),
  (88, .iload_n 2, 1, .null, 2),
  (89, .iload_n 3, 1, .null, 3),
  (90, .iload 4, 2, .null, 4),
  (92, .invokevirtual 171, 3, .null, 0),
  (95, .lreturn, 1, .null, 0)]
noncomputable def m_X10_arc : ab_M := (c_X10_arc, [(0, [0, 1, 2, 3, 4]), (10, [0, 1, 2, 3, 4]), (36, [0, 1, 2, 3, 4, 5])],
  [(11, 10, 0, 3), (109, 0, 2, 1), (130, 0, 1, 3)],
  [],
  [(95, 0, 1, g_X10_isDictionary), (167, 1, 3, g_X1_tellState), (171, 1, 4, g_X1_tellArc)],
  [], 7, 3)
theorem one_X10_arc : ab_oneM m_X10_arc := List.forall_mem_cons.mpr ⟨o_X10_isDictionary, List.forall_mem_cons.mpr ⟨o_X1_tellState, List.forall_mem_cons.mpr ⟨o_X1_tellArc, fun _ h => absurd h List.not_mem_nil⟩⟩⟩
noncomputable def f_X10_arc (l0 : Nat) (l1 : Int32) (l2 : Int32) (l3 : Int32) (l4 : Int32) (st : ab_S) : Option ab_R := ab_rc st l0 10 (ab_lim m_X10_arc 0 [.ref l0, .int l1, .int l2, .int l3, .int l4] [] st)
noncomputable def L_X10_arc_10 (l0 : Nat) (l1 : Int32) (l2 : Int32) (l3 : Int32) (l4 : Int32) (t0 : Int32) (st : ab_S) : Option ab_R := ab_lim m_X10_arc 10 [.ref l0, .int l1, .int l2, .int l3, .int l4] [.int t0] st
noncomputable def L_X10_arc_36 (l0 : Nat) (l1 : Int32) (l2 : Int32) (l3 : Int32) (l4 : Int32) (l5 : Int32) (t0 : Int32) (t1 : Int32) (st : ab_S) : Option ab_R := ab_lim m_X10_arc 36 [.ref l0, .int l1, .int l2, .int l3, .int l4, .int l5] [.int t1, .int t0] st
noncomputable def g_X10_arc : ab_G := fun as st k => match as with
  | [.ref a0, .int a1, .int a2, .int a3, .int a4] => ab_rl (f_X10_arc a0 a1 a2 a3 a4 st) (fun x t => k [.long x] t)
  | _ => none
theorem o_X10_arc : ab_one g_X10_arc := by
  intro as st k r h
  unfold g_X10_arc at h ⊢
  split at h
  · exact one_rl h
  · cases h
set_option maxRecDepth 100000 in
theorem e_X10_arc_0 (l0 : Nat) (l1 : Int32) (l2 : Int32) (l3 : Int32) (l4 : Int32) (st : ab_S) : f_X10_arc l0 l1 l2 l3 l4 st =
    ab_rc st l0 10 (
    if l3 = (-1 : Int32)
    then L_X10_arc_10 l0 l1 l2 l3 l4 (1 : Int32) st
    else L_X10_arc_10 l0 l1 l2 l3 l4 (0 : Int32) st) := congrArg (ab_rc st l0 10) ((lm_eq one_X10_arc 0 _ _ _).trans rfl)
set_option maxRecDepth 100000 in
theorem e_X10_arc_10 (l0 : Nat) (l1 : Int32) (l2 : Int32) (l3 : Int32) (l4 : Int32) (t0 : Int32) (st : ab_S) : L_X10_arc_10 l0 l1 l2 l3 l4 t0 st =
    ab_ri (f_X10_isDictionary l1 st) fun x2 s1 =>
    if x2 = 0
    then some (some (.long (-2 : Int64)), s1)
    else if l4 < 0
      then some (some (.long (-2 : Int64)), s1)
      else if t0 = 0
        then L_X10_arc_36 l0 l1 l2 l3 l4 t0 l4 (2 : Int32) s1
        else L_X10_arc_36 l0 l1 l2 l3 l4 t0 l4 (3 : Int32) s1 := (lm_eq one_X10_arc 10 _ _ _).trans rfl
set_option maxRecDepth 100000 in
theorem e_X10_arc_36 (l0 : Nat) (l1 : Int32) (l2 : Int32) (l3 : Int32) (l4 : Int32) (l5 : Int32) (t0 : Int32) (t1 : Int32) (st : ab_S) : L_X10_arc_36 l0 l1 l2 l3 l4 l5 t0 t1 st =
    if t0 ≤ t1
    then Option.bind (ab_gR st l0 10 0) fun x1 =>
      Option.bind (ab_rR st x1 l1) fun x2 =>
      Option.bind (ab_gI st x2 0 2) fun x3 =>
      if x3 = 0
      then Option.bind (ab_gR st l0 10 0) fun x4 =>
        Option.bind (ab_rR st x4 l1) fun x5 =>
        Option.bind (ab_gR st x5 0 1) fun x6 =>
        if l5 = 0
        then ab_rl (f_X1_tellArc x6 l2 l3 l4 st) fun x8 s7 =>
          some (some (.long x8), s7)
        else ab_rl (f_X1_tellState x6 l2 l4 st) fun x10 s9 =>
          some (some (.long x10), s9)
      else some (some (.long (-4 : Int64)), st)
    else some (some (.long (-2 : Int64)), st) := (lm_eq one_X10_arc 36 _ _ _).trans rfl
def c_X11_arc : List (Nat × ab_I) := [(0, .iload_n 1, 1, .null, 1),
  (1, .invokestatic 159, 3, .null, 0),
  (4, .ifCond .eq (27), 3, .null, 31),
  (7, .iload 4, 2, .null, 4),
  (9, .i2l, 1, .null, 0),
  (10, .lconst 0, 1, (.long (0)), 0),
  (11, .iload_n 3, 1, .null, 3),
  (12, .iconst (-1), 1, (.int (-1)), 0),
  (13, .if_icmp .ne (9), 3, .null, 22),
  (16, .ldc2_w 157, 3, (.long (3)), 0),
  (19, .goto (6), 3, .null, 25),
  (22, .ldc2_w 237, 3, (.long (2)), 0),
  (25, .invokestatic 146, 3, .null, 0),
  (28, .ifCond .ne (7), 3, .null, 35),
  (31, .ldc2_w 216, 3, (.long (-2)), 0),
  (34, .lreturn, 1, .null, 0),
  (35, .aload_n 0, 1, .null, 0),
  (36, .getfield 27, 3, .null, 0),
  (39, .iload_n 1, 1, .null, 1),
  (40, .baload, 1, .null, 0),
  (41, .ifCond .eq (7), 3, .null, 48),
  (44, .ldc2_w 218, 3, (.long (-4)), 0),
  (47, .lreturn, 1, .null, 0),
  (48, .aload_n 0, 1, .null, 0),
  (49, .iload_n 1, 1, .null, 1),
  (50, .invokevirtual 176, 3, .null, 0),
  (53, .iload_n 2, 1, .null, 2),
  (54, .i2l, 1, .null, 0),
  (55, .lconst 0, 1, (.long (0)), 0),
  (56, .aload_n 0, 1, .null, 0),
  (57, .getfield 180, 3, .null, 0),
  (60, .iconst 1, 1, (.int (1)), 0),
  (61, .isub, 1, .null, 0),
  (62, .i2l, 1, .null, 0),
  (63, .invokestatic 146, 3, .null, 0),
  (66, .ifCond .ne (7), 3, .null, 73),
  (69, .ldc2_w 224, 3, (.long (-1)), 0),
  (72, .lreturn, 1, .null, 0),
  (73, .aload_n 0, 1, .null, 0),
  (74, .getfield 75, 3, .null, 0),
  (77, .iload_n 2, 1, .null, 2),
  (78, .iaload, 1, .null, 0),
  (79, .istore 5, 2, .null, 5),
  (81, .iload_n 3, 1, .null, 3),
  (82, .iconst (-1), 1, (.int (-1)), 0),
  (83, .if_icmp .ne (124), 3, .null, 207),
  (86, .aload_n 0, 1, .null, 0),
  (87, .iload_n 1, 1, .null, 1),
  (88, .iload 5, 2, .null, 5),
  (90, .invokevirtual 206, 3, .null, 0),
  (93, .istore 6, 2, .null, 6),
  (95, .iload 4, 2, .null, 4),
  (97, .tableswitch (106) (0) (3) #[31, 40, 51, 89], 31, .null, 0),
  (128, .aload_n 0, 1, .null, 0),
  (129, .iload_n 1, 1, .null, 1),
  (130, .iload 5, 2, .null, 5),
  (132, .invokevirtual 231, 3, .null, 0),
  (135, .i2l, 1, .null, 0),
  (136, .lreturn, 1, .null, 0),
  (137, .iload 6, 2, .null, 6),
  (139, .ifCond .eq (7), 3, .null, 146),
  (142, .lconst 1, 1, (.long (1)), 0),
  (143, .goto (4), 3, .null, 147),
  (146, .lconst 0, 1, (.long (0)), 0),
  (147, .lreturn, 1, .null, 0),
  (148, .iload 6, 2, .null, 6),
  (150, .ifCond .eq (32), 3, .null, 182),
  (153, .aload_n 0, 1, .null, 0),
  (154, .getfield 20, 3, .null, 0),
  (157, .sipush (200), 3, (.int (200)), 0),
  (160, .iload_n 1, 1, .null, 1),
  (161, .imul, 1, .null, 0),
  (162, .aload_n 0, 1, .null, 0),
  (163, .getfield 57, 3, .null, 0),
  (166, .iload 5, 2, .null, 5),
  (168, .iaload, 1, .null, 0),
  (169, .iadd, 1, .null, 0),
  (170, .laload, 1, .null, 0),
  (171, .aload_n 0, 1, .null, 0),
  (172, .getfield 66, 3, .null, 0),
  (175, .iload 5, 2, .null, 5),
  (177, .laload, 1, .null, 0),
  (178, .lsub, 1, .null, 0),
  (179, .goto (6), 3, .null, 185),
  (182, .ldc2_w 224, 3, (.long (-1)), 0),
  (185, .lreturn, 1, .null, 0),
  (186, .aload_n 0, 1, .null, 0),
  (187, .getfield 60, 3, .null, 0),
  (190, .iload 5, 2, .null, 5),
  (192, .iaload, 1, .null, 0),
  (193, .aload_n 0, 1, .null, 0),
  (194, .getfield 57, 3, .null, 0),
  (197, .iload 5, 2, .null, 5),
  (199, .iaload, 1, .null, 0),
  (200, .isub, 1, .null, 0),
  (201, .i2l, 1, .null, 0),
  (202, .lreturn, 1, .null, 0),
  (203, .ldc2_w 224, 3, (.long (-1)), 0),
  (206, .lreturn, 1, .null, 0),
  (207, .iload_n 3, 1, .null, 3),
  (208, .ifCond .ge (7), 3, .null, 215),
  (211, .iconst (-1), 1, (.int (-1)), 0),
  (212, .goto (11), 3, .null, 223),
  (215, .aload_n 0, 1, .null, 0),
  (216, .iload_n 1, 1, .null, 1),
  (217, .iload 5, 2, .null, 5),
  (219, .iload_n 3, 1, .null, 3),
  (220, .invokevirtual 213, 3, .null, 0),
  (223, .istore 6, 2, .null, 6),
  (225, .iload 6, 2, .null, 6),
  (227, .iconst (-1), 1, (.int (-1)), 0),
  (228, .if_icmp .eq (16), 3, .null, 244),
  (231, .iload 4, 2, .null, 4),
  (233, .i2l, 1, .null, 0),
  (234, .lconst 0, 1, (.long (0)), 0),
  (235, .ldc2_w 237, 3, (.long (2)), 0),
  (238, .invokestatic 146, 3, .null, 0),
  (241, .ifCond .ne (7), 3, .null, 248),
  (244, .ldc2_w 224, 3, (.long (-1)), 0),
  (247, .lreturn, 1, .null, 0),
  (248, .iload 4, 2, .null, 4),
  (250, .ifCond .ne (26), 3, .null, 276),
  (253, .aload_n 0, 1, .null, 0),
  (254, .iload_n 1, 1, .null, 1),
  (255, .aload_n 0, 1, .null, 0),
  (256, .getfield 57, 3, .null, 0),
  (259, .iload 6, 2, .null, 6),
  (261, .iaload, 1, .null, 0),
  (262, .aload_n 0, 1, .null, 0),
  (263, .getfield 63, 3, .null, 0),
  (266, .iload 5, 2, .null, 5),
  (268, .iaload, 1, .null, 0),
  (269, .invokevirtual 153, 3, .null, 0),
  (272, .i2l, 1, .null, 0),
  (273, .goto (35), 3, .null, 308),
  (276, .iload 4, 2, .null, 4),
  (278, .iconst 1, 1, (.int (1)), 0),
  (279, .if_icmp .ne (14), 3, .null, 293),
  (282, .aload_n 0, 1, .null, 0),
  (283, .getfield 72, 3, .null, 0),
  (286, .iload 6, 2, .null, 6),
  (288, .iaload, 1, .null, 0),
  (289, .i2l, 1, .null, 0),
  (290, .goto (18), 3, .null, 308),
  (293, .aload_n 0, 1, .null, 0),
  (294, .getfield 66, 3, .null, 0),
  (297, .iload 6, 2, .null, 6),
  (299, .laload, 1, .null, 0),
  (300, .aload_n 0, 1, .null, 0),
  (301, .getfield 66, 3, .null, 0),
  (304, .iload 5, 2, .null, 5),
  (306, .laload, 1, .null, 0),
  (307, .lsub, 1, .null, 0),
  (308, .lreturn, 1, .null, 0)]
noncomputable def m_X11_arc : ab_M := (c_X11_arc, [(0, [0, 1, 2, 3, 4]), (25, [0, 1, 2, 3, 4]), (223, [0, 1, 4, 5])],
  [(20, 11, 4, 3), (27, 11, 6, 3), (57, 11, 18, 3), (60, 11, 19, 3), (63, 11, 20, 3), (66, 11, 21, 3), (72, 11, 23, 3), (75, 11, 24, 3), (180, 11, 25, 0)],
  [],
  [(146, 0, 3, g_X11_isIn), (153, 1, 4, g_X11_letter), (159, 0, 1, g_X11_isDictionary), (176, 1, 2, g_X11_build), (206, 1, 3, g_X11_isFinal), (213, 1, 4, g_X11_child), (231, 1, 3, g_X11_children)],
  [(97, [(0, 128), (1, 137), (2, 148), (3, 186)], 203)], 7, 3)
theorem one_X11_arc : ab_oneM m_X11_arc := List.forall_mem_cons.mpr ⟨o_X11_isIn, List.forall_mem_cons.mpr ⟨o_X11_letter, List.forall_mem_cons.mpr ⟨o_X11_isDictionary, List.forall_mem_cons.mpr ⟨o_X11_build, List.forall_mem_cons.mpr ⟨o_X11_isFinal, List.forall_mem_cons.mpr ⟨o_X11_child, List.forall_mem_cons.mpr ⟨o_X11_children, fun _ h => absurd h List.not_mem_nil⟩⟩⟩⟩⟩⟩⟩
noncomputable def f_X11_arc (l0 : Nat) (l1 : Int32) (l2 : Int32) (l3 : Int32) (l4 : Int32) (st : ab_S) : Option ab_R := ab_rc st l0 11 (ab_lim m_X11_arc 0 [.ref l0, .int l1, .int l2, .int l3, .int l4] [] st)
noncomputable def L_X11_arc_25 (l0 : Nat) (l1 : Int32) (l2 : Int32) (l3 : Int32) (l4 : Int32) (t0 : Int64) (t1 : Int64) (t2 : Int64) (st : ab_S) : Option ab_R := ab_lim m_X11_arc 25 [.ref l0, .int l1, .int l2, .int l3, .int l4] [.long t2, .long t1, .long t0] st
noncomputable def L_X11_arc_223 (l0 : Nat) (l1 : Int32) (l4 : Int32) (l5 : Int32) (t0 : Int32) (st : ab_S) : Option ab_R := ab_lim m_X11_arc 223 [.ref l0, .int l1, .int l4, .int l5] [.int t0] st
noncomputable def g_X11_arc : ab_G := fun as st k => match as with
  | [.ref a0, .int a1, .int a2, .int a3, .int a4] => ab_rl (f_X11_arc a0 a1 a2 a3 a4 st) (fun x t => k [.long x] t)
  | _ => none
theorem o_X11_arc : ab_one g_X11_arc := by
  intro as st k r h
  unfold g_X11_arc at h ⊢
  split at h
  · exact one_rl h
  · cases h
set_option maxRecDepth 100000 in
theorem e_X11_arc_0 (l0 : Nat) (l1 : Int32) (l2 : Int32) (l3 : Int32) (l4 : Int32) (st : ab_S) : f_X11_arc l0 l1 l2 l3 l4 st =
    ab_rc st l0 11 (
    ab_ri (f_X11_isDictionary l1 st) fun x2 s1 =>
    if x2 = 0
    then some (some (.long (-2 : Int64)), s1)
    else if l3 = (-1 : Int32)
      then L_X11_arc_25 l0 l1 l2 l3 l4 l4.toInt64 (0 : Int64) (3 : Int64) s1
      else L_X11_arc_25 l0 l1 l2 l3 l4 l4.toInt64 (0 : Int64) (2 : Int64) s1) := congrArg (ab_rc st l0 11) ((lm_eq one_X11_arc 0 _ _ _).trans rfl)
set_option maxRecDepth 100000 in
theorem e_X11_arc_25 (l0 : Nat) (l1 : Int32) (l2 : Int32) (l3 : Int32) (l4 : Int32) (t0 : Int64) (t1 : Int64) (t2 : Int64) (st : ab_S) : L_X11_arc_25 l0 l1 l2 l3 l4 t0 t1 t2 st =
    ab_ri (f_X11_isIn t0 t1 t2 st) fun x2 s1 =>
    if x2 = 0
    then some (some (.long (-2 : Int64)), s1)
    else Option.bind (ab_gR s1 l0 11 6) fun x3 =>
      Option.bind (ab_rB s1 x3 l1) fun x4 =>
      if x4 = 0
      then ab_rv (f_X11_build l0 l1 s1) fun s5 =>
        Option.bind (ab_gI s5 l0 11 25) fun x6 =>
        ab_ri (f_X11_isIn l2.toInt64 (0 : Int64) ((x6 - (1 : Int32)).toInt64) s5) fun x8 s7 =>
        if x8 = 0
        then some (some (.long (-1 : Int64)), s7)
        else Option.bind (ab_gR s7 l0 11 24) fun x9 =>
          Option.bind (ab_rI s7 x9 l2) fun x10 =>
          if l3 = (-1 : Int32)
          then ab_ri (f_X11_isFinal l0 l1 x10 s7) fun x12 s11 =>
            if l4 = 0 then ab_ri (f_X11_children l0 l1 x10 s11) fun x14 s13 =>
              some (some (.long x14.toInt64), s13)
            else if l4 = 1 then if x12 = 0
              then some (some (.long (0 : Int64)), s11)
              else some (some (.long (1 : Int64)), s11)
            else if l4 = 2 then if x12 = 0
              then some (some (.long (-1 : Int64)), s11)
              else Option.bind (ab_gR s11 l0 11 4) fun x15 =>
                Option.bind (ab_gR s11 l0 11 18) fun x16 =>
                Option.bind (ab_rI s11 x16 x10) fun x17 =>
                Option.bind (ab_rJ s11 x15 (((200 : Int32) * l1) + x17)) fun x18 =>
                Option.bind (ab_gR s11 l0 11 21) fun x19 =>
                Option.bind (ab_rJ s11 x19 x10) fun x20 =>
                some (some (.long (x18 - x20)), s11)
            else if l4 = 3 then Option.bind (ab_gR s11 l0 11 19) fun x21 =>
              Option.bind (ab_rI s11 x21 x10) fun x22 =>
              Option.bind (ab_gR s11 l0 11 18) fun x23 =>
              Option.bind (ab_rI s11 x23 x10) fun x24 =>
              some (some (.long ((x22 - x24).toInt64)), s11)
            else some (some (.long (-1 : Int64)), s11)
          else if 0 ≤ l3
            then ab_ri (f_X11_child l0 l1 x10 l3 s7) fun x26 s25 =>
              L_X11_arc_223 l0 l1 l4 x10 x26 s25
            else L_X11_arc_223 l0 l1 l4 x10 (-1 : Int32) s7
      else some (some (.long (-4 : Int64)), s1) := (lm_eq one_X11_arc 25 _ _ _).trans rfl
set_option maxRecDepth 100000 in
theorem e_X11_arc_223 (l0 : Nat) (l1 : Int32) (l4 : Int32) (l5 : Int32) (t0 : Int32) (st : ab_S) : L_X11_arc_223 l0 l1 l4 l5 t0 st =
    if t0 = (-1 : Int32)
    then some (some (.long (-1 : Int64)), st)
    else ab_ri (f_X11_isIn l4.toInt64 (0 : Int64) (2 : Int64) st) fun x2 s1 =>
      if x2 = 0
      then some (some (.long (-1 : Int64)), s1)
      else if l4 = 0
        then Option.bind (ab_gR s1 l0 11 18) fun x3 =>
          Option.bind (ab_rI s1 x3 t0) fun x4 =>
          Option.bind (ab_gR s1 l0 11 20) fun x5 =>
          Option.bind (ab_rI s1 x5 l5) fun x6 =>
          ab_ri (f_X11_letter l0 l1 x4 x6 s1) fun x8 s7 =>
          some (some (.long x8.toInt64), s7)
        else if l4 = (1 : Int32)
          then Option.bind (ab_gR s1 l0 11 23) fun x9 =>
            Option.bind (ab_rI s1 x9 t0) fun x10 =>
            some (some (.long x10.toInt64), s1)
          else Option.bind (ab_gR s1 l0 11 21) fun x11 =>
            Option.bind (ab_rJ s1 x11 t0) fun x12 =>
            Option.bind (ab_gR s1 l0 11 21) fun x13 =>
            Option.bind (ab_rJ s1 x13 l5) fun x14 =>
            some (some (.long (x12 - x14)), s1) := (lm_eq one_X11_arc 223 _ _ _).trans rfl
def c_X10_number : List (Nat × ab_I) := [(0, .iload_n 1, 1, .null, 1),
  (1, .invokestatic 95, 3, .null, 0),
  (4, .ifCond .ne (6), 3, .null, 10),
  (7, .bipush (-2), 2, (.int (-2)), 0),
  (9, .ireturn, 1, .null, 0),
  (10, .aload_n 0, 1, .null, 0),
  (11, .invokevirtual 91, 3, .null, 0),
  (14, .astore_n 2, 1, .null, 2),
  (15, .aload_n 0, 1, .null, 0),
  (16, .getfield 11, 3, .null, 0),
  (19, .iload_n 1, 1, .null, 1),
  (20, .aaload, 1, .null, 0),
  (21, .astore_n 3, 1, .null, 3),
  (22, .aload_n 3, 1, .null, 3),
  (23, .getfield 109, 3, .null, 0),
  (26, .ifCond .eq (8), 3, .null, 34),
  (29, .bipush (-4), 2, (.int (-4)), 0),
  (31, .goto (11), 3, .null, 42),
  (34, .aload_n 3, 1, .null, 3),
  (35, .getfield 99, 3, .null, 0),
  (38, .aload_n 2, 1, .null, 2),
  (39, .invokevirtual 143, 3, .null, 0),
  (42, .ireturn, 1, .null, 0)]
noncomputable def m_X10_number : ab_M := (c_X10_number, [(0, [0, 1])],
  [(11, 10, 0, 3), (99, 0, 0, 3), (109, 0, 2, 1)],
  [],
  [(91, 1, 1, g_X10_takeCollected), (95, 0, 1, g_X10_isDictionary), (143, 1, 2, g_X7_numberOf)],
  [], 4, 1)
theorem one_X10_number : ab_oneM m_X10_number := List.forall_mem_cons.mpr ⟨o_X10_takeCollected, List.forall_mem_cons.mpr ⟨o_X10_isDictionary, List.forall_mem_cons.mpr ⟨o_X7_numberOf, fun _ h => absurd h List.not_mem_nil⟩⟩⟩
noncomputable def f_X10_number (l0 : Nat) (l1 : Int32) (st : ab_S) : Option ab_R := ab_rc st l0 10 (ab_lim m_X10_number 0 [.ref l0, .int l1] [] st)
noncomputable def g_X10_number : ab_G := fun as st k => match as with
  | [.ref a0, .int a1] => ab_ri (f_X10_number a0 a1 st) (fun x t => k [.int x] t)
  | _ => none
theorem o_X10_number : ab_one g_X10_number := by
  intro as st k r h
  unfold g_X10_number at h ⊢
  split at h
  · exact one_ri h
  · cases h
set_option maxRecDepth 100000 in
theorem e_X10_number_0 (l0 : Nat) (l1 : Int32) (st : ab_S) : f_X10_number l0 l1 st =
    ab_rc st l0 10 (
    ab_ri (f_X10_isDictionary l1 st) fun x2 s1 =>
    if x2 = 0
    then some (some (.int (-2 : Int32)), s1)
    else ab_rr (f_X10_takeCollected l0 s1) fun x4 s3 =>
      Option.bind (ab_gR s3 l0 10 0) fun x5 =>
      Option.bind (ab_rR s3 x5 l1) fun x6 =>
      Option.bind (ab_gI s3 x6 0 2) fun x7 =>
      if x7 = 0
      then Option.bind (ab_gR s3 x6 0 0) fun x8 =>
        ab_ri (f_X7_numberOf x8 x4 s3) fun x10 s9 =>
        some (some (.int x10), s9)
      else some (some (.int (-4 : Int32)), s3)) := congrArg (ab_rc st l0 10) ((lm_eq one_X10_number 0 _ _ _).trans rfl)
def c_X11_number : List (Nat × ab_I) := [(0, .iload_n 1, 1, .null, 1),
  (1, .invokestatic 159, 3, .null, 0),
  (4, .ifCond .ne (6), 3, .null, 10),
  (7, .bipush (-2), 2, (.int (-2)), 0),
  (9, .ireturn, 1, .null, 0),
  (10, .aload_n 0, 1, .null, 0),
  (11, .invokevirtual 165, 3, .null, 0),
  (14, .istore_n 2, 1, .null, 2),
  (15, .aload_n 0, 1, .null, 0),
  (16, .getfield 27, 3, .null, 0),
  (19, .iload_n 1, 1, .null, 1),
  (20, .baload, 1, .null, 0),
  (21, .ifCond .eq (8), 3, .null, 29),
  (24, .bipush (-4), 2, (.int (-4)), 0),
  (26, .goto (9), 3, .null, 35),
  (29, .aload_n 0, 1, .null, 0),
  (30, .iload_n 1, 1, .null, 1),
  (31, .iload_n 2, 1, .null, 2),
  (32, .invokevirtual 220, 3, .null, 0),
  (35, .ireturn, 1, .null, 0)]
noncomputable def m_X11_number : ab_M := (c_X11_number, [(0, [0, 1])],
  [(27, 11, 6, 3)],
  [],
  [(159, 0, 1, g_X11_isDictionary), (165, 1, 1, g_X11_forget), (220, 1, 3, g_X11_place)],
  [], 3, 1)
theorem one_X11_number : ab_oneM m_X11_number := List.forall_mem_cons.mpr ⟨o_X11_isDictionary, List.forall_mem_cons.mpr ⟨o_X11_forget, List.forall_mem_cons.mpr ⟨o_X11_place, fun _ h => absurd h List.not_mem_nil⟩⟩⟩
noncomputable def f_X11_number (l0 : Nat) (l1 : Int32) (st : ab_S) : Option ab_R := ab_rc st l0 11 (ab_lim m_X11_number 0 [.ref l0, .int l1] [] st)
noncomputable def g_X11_number : ab_G := fun as st k => match as with
  | [.ref a0, .int a1] => ab_ri (f_X11_number a0 a1 st) (fun x t => k [.int x] t)
  | _ => none
theorem o_X11_number : ab_one g_X11_number := by
  intro as st k r h
  unfold g_X11_number at h ⊢
  split at h
  · exact one_ri h
  · cases h
set_option maxRecDepth 100000 in
theorem e_X11_number_0 (l0 : Nat) (l1 : Int32) (st : ab_S) : f_X11_number l0 l1 st =
    ab_rc st l0 11 (
    ab_ri (f_X11_isDictionary l1 st) fun x2 s1 =>
    if x2 = 0
    then some (some (.int (-2 : Int32)), s1)
    else ab_ri (f_X11_forget l0 s1) fun x4 s3 =>
      Option.bind (ab_gR s3 l0 11 6) fun x5 =>
      Option.bind (ab_rB s3 x5 l1) fun x6 =>
      if x6 = 0
      then ab_ri (f_X11_place l0 l1 x4 s3) fun x8 s7 =>
        some (some (.int x8), s7)
      else some (some (.int (-4 : Int32)), s3)) := congrArg (ab_rc st l0 11) ((lm_eq one_X11_number 0 _ _ _).trans rfl)
def c_X10_term : List (Nat × ab_I) := [(0, .iload_n 1, 1, .null, 1),
  (1, .invokestatic 95, 3, .null, 0),
  (4, .ifCond .ne (6), 3, .null, 10),
  (7, .bipush (-2), 2, (.int (-2)), 0),
  (9, .ireturn, 1, .null, 0),
  (10, .aload_n 0, 1, .null, 0),
  (11, .getfield 11, 3, .null, 0),
  (14, .iload_n 1, 1, .null, 1),
  (15, .aaload, 1, .null, 0),
  (16, .getfield 109, 3, .null, 0),
  (19, .ifCond .eq (6), 3, .null, 25),
  (22, .bipush (-4), 2, (.int (-4)), 0),
  (24, .ireturn, 1, .null, 0),
  (25, .aload_n 0, 1, .null, 0),
  (26, .getfield 11, 3, .null, 0),
  (29, .iload_n 1, 1, .null, 1),
  (30, .aaload, 1, .null, 0),
  (31, .getfield 99, 3, .null, 0),
  (34, .astore 4, 2, .null, 4),
  (36, .iload_n 3, 1, .null, 3),
  (37, .iconst (-1), 1, (.int (-1)), 0),
  (38, .if_icmp .ne (12), 3, .null, 50),
  (41, .aload 4, 2, .null, 4),
  (43, .iload_n 2, 1, .null, 2),
  (44, .invokevirtual 175, 3, .null, 0),
  (47, .goto (10), 3, .null, 57),
  (50, .aload 4, 2, .null, 4),
  (52, .iload_n 2, 1, .null, 2),
  (53, .iload_n 3, 1, .null, 3),
  (54, .invokevirtual 179, 3, .null, 0),
  (57, .ireturn, 1, .null, 0)]
noncomputable def m_X10_term : ab_M := (c_X10_term, [(0, [0, 1, 2, 3])],
  [(11, 10, 0, 3), (99, 0, 0, 3), (109, 0, 2, 1)],
  [],
  [(95, 0, 1, g_X10_isDictionary), (175, 1, 2, g_X7_lengthAt), (179, 1, 3, g_X7_signAt)],
  [], 5, 1)
theorem one_X10_term : ab_oneM m_X10_term := List.forall_mem_cons.mpr ⟨o_X10_isDictionary, List.forall_mem_cons.mpr ⟨o_X7_lengthAt, List.forall_mem_cons.mpr ⟨o_X7_signAt, fun _ h => absurd h List.not_mem_nil⟩⟩⟩
noncomputable def f_X10_term (l0 : Nat) (l1 : Int32) (l2 : Int32) (l3 : Int32) (st : ab_S) : Option ab_R := ab_rc st l0 10 (ab_lim m_X10_term 0 [.ref l0, .int l1, .int l2, .int l3] [] st)
noncomputable def g_X10_term : ab_G := fun as st k => match as with
  | [.ref a0, .int a1, .int a2, .int a3] => ab_ri (f_X10_term a0 a1 a2 a3 st) (fun x t => k [.int x] t)
  | _ => none
theorem o_X10_term : ab_one g_X10_term := by
  intro as st k r h
  unfold g_X10_term at h ⊢
  split at h
  · exact one_ri h
  · cases h
set_option maxRecDepth 100000 in
theorem e_X10_term_0 (l0 : Nat) (l1 : Int32) (l2 : Int32) (l3 : Int32) (st : ab_S) : f_X10_term l0 l1 l2 l3 st =
    ab_rc st l0 10 (
    ab_ri (f_X10_isDictionary l1 st) fun x2 s1 =>
    if x2 = 0
    then some (some (.int (-2 : Int32)), s1)
    else Option.bind (ab_gR s1 l0 10 0) fun x3 =>
      Option.bind (ab_rR s1 x3 l1) fun x4 =>
      Option.bind (ab_gI s1 x4 0 2) fun x5 =>
      if x5 = 0
      then Option.bind (ab_gR s1 l0 10 0) fun x6 =>
        Option.bind (ab_rR s1 x6 l1) fun x7 =>
        Option.bind (ab_gR s1 x7 0 0) fun x8 =>
        if l3 = (-1 : Int32)
        then ab_ri (f_X7_lengthAt x8 l2 s1) fun x10 s9 =>
          some (some (.int x10), s9)
        else ab_ri (f_X7_signAt x8 l2 l3 s1) fun x12 s11 =>
          some (some (.int x12), s11)
      else some (some (.int (-4 : Int32)), s1)) := congrArg (ab_rc st l0 10) ((lm_eq one_X10_term 0 _ _ _).trans rfl)
def c_X11_term : List (Nat × ab_I) := [(0, .iload_n 1, 1, .null, 1),
  (1, .invokestatic 159, 3, .null, 0),
  (4, .ifCond .ne (6), 3, .null, 10),
  (7, .bipush (-2), 2, (.int (-2)), 0),
  (9, .ireturn, 1, .null, 0),
  (10, .aload_n 0, 1, .null, 0),
  (11, .getfield 27, 3, .null, 0),
  (14, .iload_n 1, 1, .null, 1),
  (15, .baload, 1, .null, 0),
  (16, .ifCond .eq (6), 3, .null, 22),
  (19, .bipush (-4), 2, (.int (-4)), 0),
  (21, .ireturn, 1, .null, 0),
  (22, .iload_n 2, 1, .null, 2),
  (23, .i2l, 1, .null, 0),
  (24, .lconst 0, 1, (.long (0)), 0),
  (25, .aload_n 0, 1, .null, 0),
  (26, .getfield 24, 3, .null, 0),
  (29, .iload_n 1, 1, .null, 1),
  (30, .iaload, 1, .null, 0),
  (31, .iconst 1, 1, (.int (1)), 0),
  (32, .isub, 1, .null, 0),
  (33, .i2l, 1, .null, 0),
  (34, .invokestatic 146, 3, .null, 0),
  (37, .ifCond .eq (29), 3, .null, 66),
  (40, .iload_n 3, 1, .null, 3),
  (41, .i2l, 1, .null, 0),
  (42, .ldc2_w 224, 3, (.long (-1)), 0),
  (45, .aload_n 0, 1, .null, 0),
  (46, .getfield 16, 3, .null, 0),
  (49, .sipush (200), 3, (.int (200)), 0),
  (52, .iload_n 1, 1, .null, 1),
  (53, .imul, 1, .null, 0),
  (54, .iload_n 2, 1, .null, 2),
  (55, .iadd, 1, .null, 0),
  (56, .iaload, 1, .null, 0),
  (57, .iconst 1, 1, (.int (1)), 0),
  (58, .isub, 1, .null, 0),
  (59, .i2l, 1, .null, 0),
  (60, .invokestatic 146, 3, .null, 0),
  (63, .ifCond .ne (5), 3, .null, 68),
  (66, .iconst (-1), 1, (.int (-1)), 0),
  (67, .ireturn, 1, .null, 0),
  (68, .iload_n 3, 1, .null, 3),
  (69, .iconst (-1), 1, (.int (-1)), 0),
  (70, .if_icmp .ne (18), 3, .null, 88),
  (73, .aload_n 0, 1, .null, 0),
  (74, .getfield 16, 3, .null, 0),
  (77, .sipush (200), 3, (.int (200)), 0),
  (80, .iload_n 1, 1, .null, 1),
  (81, .imul, 1, .null, 0),
  (82, .iload_n 2, 1, .null, 2),
  (83, .iadd, 1, .null, 0),
  (84, .iaload, 1, .null, 0),
  (85, .goto (10), 3, .null, 95),
  (88, .aload_n 0, 1, .null, 0),
  (89, .iload_n 1, 1, .null, 1),
  (90, .iload_n 2, 1, .null, 2),
  (91, .iload_n 3, 1, .null, 3),
  (92, .invokevirtual 153, 3, .null, 0),
  (95, .ireturn, 1, .null, 0)]
noncomputable def m_X11_term : ab_M := (c_X11_term, [(0, [0, 1, 2, 3])],
  [(16, 11, 3, 3), (24, 11, 5, 3), (27, 11, 6, 3)],
  [],
  [(146, 0, 3, g_X11_isIn), (153, 1, 4, g_X11_letter), (159, 0, 1, g_X11_isDictionary)],
  [], 4, 1)
theorem one_X11_term : ab_oneM m_X11_term := List.forall_mem_cons.mpr ⟨o_X11_isIn, List.forall_mem_cons.mpr ⟨o_X11_letter, List.forall_mem_cons.mpr ⟨o_X11_isDictionary, fun _ h => absurd h List.not_mem_nil⟩⟩⟩
noncomputable def f_X11_term (l0 : Nat) (l1 : Int32) (l2 : Int32) (l3 : Int32) (st : ab_S) : Option ab_R := ab_rc st l0 11 (ab_lim m_X11_term 0 [.ref l0, .int l1, .int l2, .int l3] [] st)
noncomputable def g_X11_term : ab_G := fun as st k => match as with
  | [.ref a0, .int a1, .int a2, .int a3] => ab_ri (f_X11_term a0 a1 a2 a3 st) (fun x t => k [.int x] t)
  | _ => none
theorem o_X11_term : ab_one g_X11_term := by
  intro as st k r h
  unfold g_X11_term at h ⊢
  split at h
  · exact one_ri h
  · cases h
set_option maxRecDepth 100000 in
theorem e_X11_term_0 (l0 : Nat) (l1 : Int32) (l2 : Int32) (l3 : Int32) (st : ab_S) : f_X11_term l0 l1 l2 l3 st =
    ab_rc st l0 11 (
    ab_ri (f_X11_isDictionary l1 st) fun x2 s1 =>
    if x2 = 0
    then some (some (.int (-2 : Int32)), s1)
    else Option.bind (ab_gR s1 l0 11 6) fun x3 =>
      Option.bind (ab_rB s1 x3 l1) fun x4 =>
      if x4 = 0
      then Option.bind (ab_gR s1 l0 11 5) fun x5 =>
        Option.bind (ab_rI s1 x5 l1) fun x6 =>
        ab_ri (f_X11_isIn l2.toInt64 (0 : Int64) ((x6 - (1 : Int32)).toInt64) s1) fun x8 s7 =>
        if x8 = 0
        then some (some (.int (-1 : Int32)), s7)
        else Option.bind (ab_gR s7 l0 11 3) fun x9 =>
          Option.bind (ab_rI s7 x9 (((200 : Int32) * l1) + l2)) fun x10 =>
          ab_ri (f_X11_isIn l3.toInt64 (-1 : Int64) ((x10 - (1 : Int32)).toInt64) s7) fun x12 s11 =>
          if x12 = 0
          then some (some (.int (-1 : Int32)), s11)
          else if l3 = (-1 : Int32)
            then Option.bind (ab_gR s11 l0 11 3) fun x13 =>
              Option.bind (ab_rI s11 x13 (((200 : Int32) * l1) + l2)) fun x14 =>
              some (some (.int x14), s11)
            else ab_ri (f_X11_letter l0 l1 l2 l3 s11) fun x16 s15 =>
              some (some (.int x16), s15)
      else some (some (.int (-4 : Int32)), s1)) := congrArg (ab_rc st l0 11) ((lm_eq one_X11_term 0 _ _ _).trans rfl)
def c_X10_out : List (Nat × ab_I) := [(0, .iload_n 1, 1, .null, 1),
  (1, .invokestatic 95, 3, .null, 0),
  (4, .ifCond .ne (7), 3, .null, 11),
  (7, .ldc2_w 139, 3, (.long (-2)), 0),
  (10, .lreturn, 1, .null, 0),
  (11, .aload_n 0, 1, .null, 0),
  (12, .getfield 11, 3, .null, 0),
  (15, .iload_n 1, 1, .null, 1),
  (16, .aaload, 1, .null, 0),
  (17, .getfield 109, 3, .null, 0),
  (20, .ifCond .eq (9), 3, .null, 29),
  (23, .ldc2_w 141, 3, (.long (-4)), 0),
  (26, .goto (16), 3, .null, 42),
  (29, .aload_n 0, 1, .null, 0),
  (30, .getfield 11, 3, .null, 0),
  (33, .iload_n 1, 1, .null, 1),
  (34, .aaload, 1, .null, 0),
  (35, .getfield 99, 3, .null, 0),
  (38, .iload_n 2, 1, .null, 2),
  (39, .invokevirtual 147, 3, .null, 0),
  (42, .lreturn, 1, .null, 0)]
noncomputable def m_X10_out : ab_M := (c_X10_out, [(0, [0, 1, 2])],
  [(11, 10, 0, 3), (99, 0, 0, 3), (109, 0, 2, 1)],
  [],
  [(95, 0, 1, g_X10_isDictionary), (147, 1, 2, g_X7_outAt)],
  [], 3, 3)
theorem one_X10_out : ab_oneM m_X10_out := List.forall_mem_cons.mpr ⟨o_X10_isDictionary, List.forall_mem_cons.mpr ⟨o_X7_outAt, fun _ h => absurd h List.not_mem_nil⟩⟩
noncomputable def f_X10_out (l0 : Nat) (l1 : Int32) (l2 : Int32) (st : ab_S) : Option ab_R := ab_rc st l0 10 (ab_lim m_X10_out 0 [.ref l0, .int l1, .int l2] [] st)
noncomputable def g_X10_out : ab_G := fun as st k => match as with
  | [.ref a0, .int a1, .int a2] => ab_rl (f_X10_out a0 a1 a2 st) (fun x t => k [.long x] t)
  | _ => none
theorem o_X10_out : ab_one g_X10_out := by
  intro as st k r h
  unfold g_X10_out at h ⊢
  split at h
  · exact one_rl h
  · cases h
set_option maxRecDepth 100000 in
theorem e_X10_out_0 (l0 : Nat) (l1 : Int32) (l2 : Int32) (st : ab_S) : f_X10_out l0 l1 l2 st =
    ab_rc st l0 10 (
    ab_ri (f_X10_isDictionary l1 st) fun x2 s1 =>
    if x2 = 0
    then some (some (.long (-2 : Int64)), s1)
    else Option.bind (ab_gR s1 l0 10 0) fun x3 =>
      Option.bind (ab_rR s1 x3 l1) fun x4 =>
      Option.bind (ab_gI s1 x4 0 2) fun x5 =>
      if x5 = 0
      then Option.bind (ab_gR s1 l0 10 0) fun x6 =>
        Option.bind (ab_rR s1 x6 l1) fun x7 =>
        Option.bind (ab_gR s1 x7 0 0) fun x8 =>
        ab_rl (f_X7_outAt x8 l2 s1) fun x10 s9 =>
        some (some (.long x10), s9)
      else some (some (.long (-4 : Int64)), s1)) := congrArg (ab_rc st l0 10) ((lm_eq one_X10_out 0 _ _ _).trans rfl)
def c_X11_out : List (Nat × ab_I) := [(0, .iload_n 1, 1, .null, 1),
  (1, .invokestatic 159, 3, .null, 0),
  (4, .ifCond .ne (7), 3, .null, 11),
  (7, .ldc2_w 216, 3, (.long (-2)), 0),
  (10, .lreturn, 1, .null, 0),
  (11, .aload_n 0, 1, .null, 0),
  (12, .getfield 27, 3, .null, 0),
  (15, .iload_n 1, 1, .null, 1),
  (16, .baload, 1, .null, 0),
  (17, .ifCond .eq (7), 3, .null, 24),
  (20, .ldc2_w 218, 3, (.long (-4)), 0),
  (23, .lreturn, 1, .null, 0),
  (24, .iload_n 2, 1, .null, 2),
  (25, .i2l, 1, .null, 0),
  (26, .lconst 0, 1, (.long (0)), 0),
  (27, .aload_n 0, 1, .null, 0),
  (28, .getfield 24, 3, .null, 0),
  (31, .iload_n 1, 1, .null, 1),
  (32, .iaload, 1, .null, 0),
  (33, .iconst 1, 1, (.int (1)), 0),
  (34, .isub, 1, .null, 0),
  (35, .i2l, 1, .null, 0),
  (36, .invokestatic 146, 3, .null, 0),
  (39, .ifCond .eq (18), 3, .null, 57),
  (42, .aload_n 0, 1, .null, 0),
  (43, .getfield 20, 3, .null, 0),
  (46, .sipush (200), 3, (.int (200)), 0),
  (49, .iload_n 1, 1, .null, 1),
  (50, .imul, 1, .null, 0),
  (51, .iload_n 2, 1, .null, 2),
  (52, .iadd, 1, .null, 0),
  (53, .laload, 1, .null, 0),
  (54, .goto (6), 3, .null, 60),
  (57, .ldc2_w 224, 3, (.long (-1)), 0),
  (60, .lreturn, 1, .null, 0)]
noncomputable def m_X11_out : ab_M := (c_X11_out, [(0, [0, 1, 2])],
  [(20, 11, 4, 3), (24, 11, 5, 3), (27, 11, 6, 3)],
  [],
  [(146, 0, 3, g_X11_isIn), (159, 0, 1, g_X11_isDictionary)],
  [], 3, 3)
theorem one_X11_out : ab_oneM m_X11_out := List.forall_mem_cons.mpr ⟨o_X11_isIn, List.forall_mem_cons.mpr ⟨o_X11_isDictionary, fun _ h => absurd h List.not_mem_nil⟩⟩
noncomputable def f_X11_out (l0 : Nat) (l1 : Int32) (l2 : Int32) (st : ab_S) : Option ab_R := ab_rc st l0 11 (ab_lim m_X11_out 0 [.ref l0, .int l1, .int l2] [] st)
noncomputable def g_X11_out : ab_G := fun as st k => match as with
  | [.ref a0, .int a1, .int a2] => ab_rl (f_X11_out a0 a1 a2 st) (fun x t => k [.long x] t)
  | _ => none
theorem o_X11_out : ab_one g_X11_out := by
  intro as st k r h
  unfold g_X11_out at h ⊢
  split at h
  · exact one_rl h
  · cases h
set_option maxRecDepth 100000 in
theorem e_X11_out_0 (l0 : Nat) (l1 : Int32) (l2 : Int32) (st : ab_S) : f_X11_out l0 l1 l2 st =
    ab_rc st l0 11 (
    ab_ri (f_X11_isDictionary l1 st) fun x2 s1 =>
    if x2 = 0
    then some (some (.long (-2 : Int64)), s1)
    else Option.bind (ab_gR s1 l0 11 6) fun x3 =>
      Option.bind (ab_rB s1 x3 l1) fun x4 =>
      if x4 = 0
      then Option.bind (ab_gR s1 l0 11 5) fun x5 =>
        Option.bind (ab_rI s1 x5 l1) fun x6 =>
        ab_ri (f_X11_isIn l2.toInt64 (0 : Int64) ((x6 - (1 : Int32)).toInt64) s1) fun x8 s7 =>
        if x8 = 0
        then some (some (.long (-1 : Int64)), s7)
        else Option.bind (ab_gR s7 l0 11 4) fun x9 =>
          Option.bind (ab_rJ s7 x9 (((200 : Int32) * l1) + l2)) fun x10 =>
          some (some (.long x10), s7)
      else some (some (.long (-4 : Int64)), s1)) := congrArg (ab_rc st l0 11) ((lm_eq one_X11_out 0 _ _ _).trans rfl)
def c_X10_ceiling : List (Nat × ab_I) := [(0, .iload_n 1, 1, .null, 1),
  (1, .invokestatic 95, 3, .null, 0),
  (4, .ifCond .ne (6), 3, .null, 10),
  (7, .bipush (-2), 2, (.int (-2)), 0),
  (9, .ireturn, 1, .null, 0),
  (10, .aload_n 0, 1, .null, 0),
  (11, .invokevirtual 91, 3, .null, 0),
  (14, .astore_n 2, 1, .null, 2),
  (15, .aload_n 0, 1, .null, 0),
  (16, .getfield 11, 3, .null, 0),
  (19, .iload_n 1, 1, .null, 1),
  (20, .aaload, 1, .null, 0),
  (21, .getfield 109, 3, .null, 0),
  (24, .ifCond .eq (6), 3, .null, 30),
  (27, .bipush (-4), 2, (.int (-4)), 0),
  (29, .ireturn, 1, .null, 0),
  (30, .aload_n 0, 1, .null, 0),
  (31, .getfield 11, 3, .null, 0),
  (34, .iload_n 1, 1, .null, 1),
  (35, .aaload, 1, .null, 0),
  (36, .getfield 99, 3, .null, 0),
  (39, .astore_n 3, 1, .null, 3),
  (40, .aload_n 3, 1, .null, 3),
  (41, .aload_n 2, 1, .null, 2),
  (42, .invokevirtual 183, 3, .null, 0),
  (45, .istore 4, 2, .null, 4),
  (47, .iload 4, 2, .null, 4),
  (49, .aload_n 3, 1, .null, 3),
  (50, .getfield 103, 3, .null, 0),
  (53, .if_icmp .ge (8), 3, .null, 61),
  (56, .iload 4, 2, .null, 4),
  (58, .goto (4), 3, .null, 62),
  (61, .iconst (-1), 1, (.int (-1)), 0),
  (62, .ireturn, 1, .null, 0)]
noncomputable def m_X10_ceiling : ab_M := (c_X10_ceiling, [(0, [0, 1])],
  [(11, 10, 0, 3), (99, 0, 0, 3), (103, 7, 3, 0), (109, 0, 2, 1)],
  [],
  [(91, 1, 1, g_X10_takeCollected), (95, 0, 1, g_X10_isDictionary), (183, 1, 2, g_X7_leastNotBelow)],
  [], 5, 1)
theorem one_X10_ceiling : ab_oneM m_X10_ceiling := List.forall_mem_cons.mpr ⟨o_X10_takeCollected, List.forall_mem_cons.mpr ⟨o_X10_isDictionary, List.forall_mem_cons.mpr ⟨o_X7_leastNotBelow, fun _ h => absurd h List.not_mem_nil⟩⟩⟩
noncomputable def f_X10_ceiling (l0 : Nat) (l1 : Int32) (st : ab_S) : Option ab_R := ab_rc st l0 10 (ab_lim m_X10_ceiling 0 [.ref l0, .int l1] [] st)
noncomputable def g_X10_ceiling : ab_G := fun as st k => match as with
  | [.ref a0, .int a1] => ab_ri (f_X10_ceiling a0 a1 st) (fun x t => k [.int x] t)
  | _ => none
theorem o_X10_ceiling : ab_one g_X10_ceiling := by
  intro as st k r h
  unfold g_X10_ceiling at h ⊢
  split at h
  · exact one_ri h
  · cases h
set_option maxRecDepth 100000 in
theorem e_X10_ceiling_0 (l0 : Nat) (l1 : Int32) (st : ab_S) : f_X10_ceiling l0 l1 st =
    ab_rc st l0 10 (
    ab_ri (f_X10_isDictionary l1 st) fun x2 s1 =>
    if x2 = 0
    then some (some (.int (-2 : Int32)), s1)
    else ab_rr (f_X10_takeCollected l0 s1) fun x4 s3 =>
      Option.bind (ab_gR s3 l0 10 0) fun x5 =>
      Option.bind (ab_rR s3 x5 l1) fun x6 =>
      Option.bind (ab_gI s3 x6 0 2) fun x7 =>
      if x7 = 0
      then Option.bind (ab_gR s3 l0 10 0) fun x8 =>
        Option.bind (ab_rR s3 x8 l1) fun x9 =>
        Option.bind (ab_gR s3 x9 0 0) fun x10 =>
        ab_ri (f_X7_leastNotBelow x10 x4 s3) fun x12 s11 =>
        Option.bind (ab_gI s11 x10 7 3) fun x13 =>
        if x13 ≤ x12
        then some (some (.int (-1 : Int32)), s11)
        else some (some (.int x12), s11)
      else some (some (.int (-4 : Int32)), s3)) := congrArg (ab_rc st l0 10) ((lm_eq one_X10_ceiling 0 _ _ _).trans rfl)
def c_X11_above : List (Nat × ab_I) := [(0, .iconst 0, 1, (.int (0)), 0),
  (1, .istore_n 3, 1, .null, 3),
  (2, .iload_n 3, 1, .null, 3),
  (3, .aload_n 0, 1, .null, 0),
  (4, .getfield 24, 3, .null, 0),
  (7, .iload_n 1, 1, .null, 1),
  (8, .iaload, 1, .null, 0),
  (9, .if_icmp .ge (19), 3, .null, 28),
  (12, .aload_n 0, 1, .null, 0),
  (13, .iload_n 1, 1, .null, 1),
  (14, .iload_n 3, 1, .null, 3),
  (15, .iload_n 2, 1, .null, 2),
  (16, .invokevirtual 169, 3, .null, 0),
  (19, .ifCond .ge (9), 3, .null, 28),
  (22, .iinc 3 (1), 3, (.int (1)), 3),
  (25, .goto (-23), 3, .null, 2),
  (28, .iload_n 3, 1, .null, 3),
  (29, .ireturn, 1, .null, 0)]
noncomputable def m_X11_above : ab_M := (c_X11_above, [(0, [0, 1, 2]), (2, [0, 1, 2, 3])],
  [(24, 11, 5, 3)],
  [],
  [(169, 1, 4, g_X11_compare)],
  [], 4, 1)
theorem one_X11_above : ab_oneM m_X11_above := List.forall_mem_cons.mpr ⟨o_X11_compare, fun _ h => absurd h List.not_mem_nil⟩
noncomputable def f_X11_above (l0 : Nat) (l1 : Int32) (l2 : Int32) (st : ab_S) : Option ab_R := ab_rc st l0 11 (ab_lim m_X11_above 0 [.ref l0, .int l1, .int l2] [] st)
noncomputable def L_X11_above_2 (l0 : Nat) (l1 : Int32) (l2 : Int32) (l3 : Int32) (st : ab_S) : Option ab_R := ab_lim m_X11_above 2 [.ref l0, .int l1, .int l2, .int l3] [] st
noncomputable def g_X11_above : ab_G := fun as st k => match as with
  | [.ref a0, .int a1, .int a2] => ab_ri (f_X11_above a0 a1 a2 st) (fun x t => k [.int x] t)
  | _ => none
theorem o_X11_above : ab_one g_X11_above := by
  intro as st k r h
  unfold g_X11_above at h ⊢
  split at h
  · exact one_ri h
  · cases h
set_option maxRecDepth 100000 in
theorem e_X11_above_0 (l0 : Nat) (l1 : Int32) (l2 : Int32) (st : ab_S) : f_X11_above l0 l1 l2 st =
    ab_rc st l0 11 (
    L_X11_above_2 l0 l1 l2 (0 : Int32) st) := congrArg (ab_rc st l0 11) ((lm_eq one_X11_above 0 _ _ _).trans rfl)
set_option maxRecDepth 100000 in
theorem e_X11_above_2 (l0 : Nat) (l1 : Int32) (l2 : Int32) (l3 : Int32) (st : ab_S) : L_X11_above_2 l0 l1 l2 l3 st =
    Option.bind (ab_gR st l0 11 5) fun x1 =>
    Option.bind (ab_rI st x1 l1) fun x2 =>
    if x2 ≤ l3
    then some (some (.int l3), st)
    else ab_ri (f_X11_compare l0 l1 l3 l2 st) fun x4 s3 =>
      if 0 ≤ x4
      then some (some (.int l3), s3)
      else L_X11_above_2 l0 l1 l2 (l3 + (1 : Int32)) s3 := (lm_eq one_X11_above 2 _ _ _).trans rfl
def c_X11_ceiling : List (Nat × ab_I) := [(0, .iload_n 1, 1, .null, 1),
  (1, .invokestatic 159, 3, .null, 0),
  (4, .ifCond .ne (6), 3, .null, 10),
  (7, .bipush (-2), 2, (.int (-2)), 0),
  (9, .ireturn, 1, .null, 0),
  (10, .aload_n 0, 1, .null, 0),
  (11, .invokevirtual 165, 3, .null, 0),
  (14, .istore_n 2, 1, .null, 2),
  (15, .aload_n 0, 1, .null, 0),
  (16, .getfield 27, 3, .null, 0),
  (19, .iload_n 1, 1, .null, 1),
  (20, .baload, 1, .null, 0),
  (21, .ifCond .eq (6), 3, .null, 27),
  (24, .bipush (-4), 2, (.int (-4)), 0),
  (26, .ireturn, 1, .null, 0),
  (27, .aload_n 0, 1, .null, 0),
  (28, .iload_n 1, 1, .null, 1),
  (29, .iload_n 2, 1, .null, 2),
  (30, .invokevirtual 239, 3, .null, 0),
  (33, .istore_n 3, 1, .null, 3),
  (34, .iload_n 3, 1, .null, 3),
  (35, .aload_n 0, 1, .null, 0),
  (36, .getfield 24, 3, .null, 0),
  (39, .iload_n 1, 1, .null, 1),
  (40, .iaload, 1, .null, 0),
  (41, .if_icmp .ge (7), 3, .null, 48),
  (44, .iload_n 3, 1, .null, 3),
  (45, .goto (4), 3, .null, 49),
  (48, .iconst (-1), 1, (.int (-1)), 0),
  (49, .ireturn, 1, .null, 0)]
noncomputable def m_X11_ceiling : ab_M := (c_X11_ceiling, [(0, [0, 1])],
  [(24, 11, 5, 3), (27, 11, 6, 3)],
  [],
  [(159, 0, 1, g_X11_isDictionary), (165, 1, 1, g_X11_forget), (239, 1, 3, g_X11_above)],
  [], 4, 1)
theorem one_X11_ceiling : ab_oneM m_X11_ceiling := List.forall_mem_cons.mpr ⟨o_X11_isDictionary, List.forall_mem_cons.mpr ⟨o_X11_forget, List.forall_mem_cons.mpr ⟨o_X11_above, fun _ h => absurd h List.not_mem_nil⟩⟩⟩
noncomputable def f_X11_ceiling (l0 : Nat) (l1 : Int32) (st : ab_S) : Option ab_R := ab_rc st l0 11 (ab_lim m_X11_ceiling 0 [.ref l0, .int l1] [] st)
noncomputable def g_X11_ceiling : ab_G := fun as st k => match as with
  | [.ref a0, .int a1] => ab_ri (f_X11_ceiling a0 a1 st) (fun x t => k [.int x] t)
  | _ => none
theorem o_X11_ceiling : ab_one g_X11_ceiling := by
  intro as st k r h
  unfold g_X11_ceiling at h ⊢
  split at h
  · exact one_ri h
  · cases h
set_option maxRecDepth 100000 in
theorem e_X11_ceiling_0 (l0 : Nat) (l1 : Int32) (st : ab_S) : f_X11_ceiling l0 l1 st =
    ab_rc st l0 11 (
    ab_ri (f_X11_isDictionary l1 st) fun x2 s1 =>
    if x2 = 0
    then some (some (.int (-2 : Int32)), s1)
    else ab_ri (f_X11_forget l0 s1) fun x4 s3 =>
      Option.bind (ab_gR s3 l0 11 6) fun x5 =>
      Option.bind (ab_rB s3 x5 l1) fun x6 =>
      if x6 = 0
      then ab_ri (f_X11_above l0 l1 x4 s3) fun x8 s7 =>
        Option.bind (ab_gR s7 l0 11 5) fun x9 =>
        Option.bind (ab_rI s7 x9 l1) fun x10 =>
        if x10 ≤ x8
        then some (some (.int (-1 : Int32)), s7)
        else some (some (.int x8), s7)
      else some (some (.int (-4 : Int32)), s3)) := congrArg (ab_rc st l0 11) ((lm_eq one_X11_ceiling 0 _ _ _).trans rfl)
def c_X7_beginsWith : List (Nat × ab_I) := [(0, .aload_n 0, 1, .null, 0),
  (1, .iload_n 1, 1, .null, 1),
  (2, .invokevirtual 26, 3, .null, 0),
  (5, .ifCond .eq (15), 3, .null, 20),
  (8, .aload_n 2, 1, .null, 2),
  (9, .getfield 50, 3, .null, 0),
  (12, .aload_n 0, 1, .null, 0),
  (13, .iload_n 1, 1, .null, 1),
  (14, .invokevirtual 30, 3, .null, 0),
  (17, .if_icmp .le (5), 3, .null, 22),
  (20, .iconst 0, 1, (.int (0)), 0),
  (21, .ireturn, 1, .null, 0),
  (22, .iconst 0, 1, (.int (0)), 0),
  (23, .istore_n 3, 1, .null, 3),
  (24, .iload_n 3, 1, .null, 3),
  (25, .aload_n 2, 1, .null, 2),
  (26, .getfield 50, 3, .null, 0),
  (29, .if_icmp .ge (25), 3, .null, 54),
  (32, .aload_n 0, 1, .null, 0),
  (33, .iload_n 1, 1, .null, 1),
  (34, .iload_n 3, 1, .null, 3),
  (35, .invokevirtual 42, 3, .null, 0),
  (38, .aload_n 2, 1, .null, 2),
  (39, .iload_n 3, 1, .null, 3),
  (40, .invokevirtual 45, 3, .null, 0),
  (43, .if_icmp .eq (5), 3, .null, 48),
  (46, .iconst 0, 1, (.int (0)), 0),
  (47, .ireturn, 1, .null, 0),
  (48, .iinc 3 (1), 3, (.int (1)), 3),
  (51, .goto (-27), 3, .null, 24),
  (54, .iconst 1, 1, (.int (1)), 0),
  (55, .ireturn, 1, .null, 0)]
noncomputable def m_X7_beginsWith : ab_M := (c_X7_beginsWith, [(0, [0, 1, 2]), (24, [0, 1, 2, 3])],
  [(50, 6, 1, 0)],
  [],
  [(26, 1, 2, g_X7_has), (30, 1, 2, g_X7_lengthAt), (42, 1, 3, g_X7_signAt), (45, 1, 2, g_X6_at)],
  [], 4, 2)
theorem one_X7_beginsWith : ab_oneM m_X7_beginsWith := List.forall_mem_cons.mpr ⟨o_X7_has, List.forall_mem_cons.mpr ⟨o_X7_lengthAt, List.forall_mem_cons.mpr ⟨o_X7_signAt, List.forall_mem_cons.mpr ⟨o_X6_at, fun _ h => absurd h List.not_mem_nil⟩⟩⟩⟩
noncomputable def f_X7_beginsWith (l0 : Nat) (l1 : Int32) (l2 : Nat) (st : ab_S) : Option ab_R := ab_rc st l0 7 (ab_lim m_X7_beginsWith 0 [.ref l0, .int l1, .ref l2] [] st)
noncomputable def L_X7_beginsWith_24 (l0 : Nat) (l1 : Int32) (l2 : Nat) (l3 : Int32) (st : ab_S) : Option ab_R := ab_lim m_X7_beginsWith 24 [.ref l0, .int l1, .ref l2, .int l3] [] st
noncomputable def g_X7_beginsWith : ab_G := fun as st k => match as with
  | [.ref a0, .int a1, .ref a2] => ab_ri (f_X7_beginsWith a0 a1 a2 st) (fun x t => k [.int x] t)
  | _ => none
theorem o_X7_beginsWith : ab_one g_X7_beginsWith := by
  intro as st k r h
  unfold g_X7_beginsWith at h ⊢
  split at h
  · exact one_ri h
  · cases h
set_option maxRecDepth 100000 in
theorem e_X7_beginsWith_0 (l0 : Nat) (l1 : Int32) (l2 : Nat) (st : ab_S) : f_X7_beginsWith l0 l1 l2 st =
    ab_rc st l0 7 (
    ab_ri (f_X7_has l0 l1 st) fun x2 s1 =>
    if x2 = 0
    then ab_z (0 : Int32) (some (some (.int (0 : Int32)), s1))
    else Option.bind (ab_gI s1 l2 6 1) fun x3 =>
      ab_ri (f_X7_lengthAt l0 l1 s1) fun x5 s4 =>
      if x3 ≤ x5
      then L_X7_beginsWith_24 l0 l1 l2 (0 : Int32) s4
      else ab_z (0 : Int32) (some (some (.int (0 : Int32)), s4))) := congrArg (ab_rc st l0 7) ((lm_eq one_X7_beginsWith 0 _ _ _).trans rfl)
set_option maxRecDepth 100000 in
theorem e_X7_beginsWith_24 (l0 : Nat) (l1 : Int32) (l2 : Nat) (l3 : Int32) (st : ab_S) : L_X7_beginsWith_24 l0 l1 l2 l3 st =
    Option.bind (ab_gI st l2 6 1) fun x1 =>
    if x1 ≤ l3
    then ab_z (1 : Int32) (some (some (.int (1 : Int32)), st))
    else ab_ri (f_X7_signAt l0 l1 l3 st) fun x3 s2 =>
      ab_ri (f_X6_at l2 l3 s2) fun x5 s4 =>
      if x3 = x5
      then L_X7_beginsWith_24 l0 l1 l2 (l3 + (1 : Int32)) s4
      else ab_z (0 : Int32) (some (some (.int (0 : Int32)), s4)) := (lm_eq one_X7_beginsWith 24 _ _ _).trans rfl
def c_X10_putFound : List (Nat × ab_I) := [(0, .aload_n 0, 1, .null, 0),
  (1, .getfield 186, 3, .null, 0),
  (4, .sipush (200), 3, (.int (200)), 0),
  (7, .if_icmp .ge (23), 3, .null, 30),
  (10, .aload_n 0, 1, .null, 0),
  (11, .getfield 66, 3, .null, 0),
  (14, .aload_n 0, 1, .null, 0),
  (15, .getfield 186, 3, .null, 0),
  (18, .iload_n 1, 1, .null, 1),
  (19, .iastore, 1, .null, 0),
  (20, .aload_n 0, 1, .null, 0),
  (21, .dup, 1, .null, 0),
  (22, .getfield 186, 3, .null, 0),
  (25, .iconst 1, 1, (.int (1)), 0),
  (26, .iadd, 1, .null, 0),
  (27, .putfield 186, 3, .null, 0),
  (30, .return_, 1, .null, 0)]
noncomputable def m_X10_putFound : ab_M := (c_X10_putFound, [(0, [0, 1])],
  [(66, 10, 9, 3), (186, 10, 10, 0)],
  [],
  [],
  [], 2, 0)
theorem one_X10_putFound : ab_oneM m_X10_putFound := fun _ h => absurd h List.not_mem_nil
noncomputable def f_X10_putFound (l0 : Nat) (l1 : Int32) (st : ab_S) : Option ab_R := ab_rc st l0 10 (ab_lim m_X10_putFound 0 [.ref l0, .int l1] [] st)
noncomputable def g_X10_putFound : ab_G := fun as st k => match as with
  | [.ref a0, .int a1] => ab_rv (f_X10_putFound a0 a1 st) (fun t => k [] t)
  | _ => none
theorem o_X10_putFound : ab_one g_X10_putFound := by
  intro as st k r h
  unfold g_X10_putFound at h ⊢
  split at h
  · exact one_rv h
  · cases h
set_option maxRecDepth 100000 in
theorem e_X10_putFound_0 (l0 : Nat) (l1 : Int32) (st : ab_S) : f_X10_putFound l0 l1 st =
    ab_rc st l0 10 (
    Option.bind (ab_gI st l0 10 10) fun x1 =>
    if (200 : Int32) ≤ x1
    then some (none, st)
    else Option.bind (ab_gR st l0 10 9) fun x2 =>
      Option.bind (ab_gI st l0 10 10) fun x3 =>
      Option.bind (ab_wI st x2 x3 l1) fun s4 =>
      Option.bind (ab_gI s4 l0 10 10) fun x5 =>
      Option.bind (ab_pI s4 l0 10 10 (x5 + (1 : Int32))) fun s6 =>
      some (none, s6)) := congrArg (ab_rc st l0 10) ((lm_eq one_X10_putFound 0 _ _ _).trans rfl)
def c_X10_prefix : List (Nat × ab_I) := [(0, .iload_n 1, 1, .null, 1),
  (1, .invokestatic 95, 3, .null, 0),
  (4, .ifCond .ne (6), 3, .null, 10),
  (7, .bipush (-2), 2, (.int (-2)), 0),
  (9, .ireturn, 1, .null, 0),
  (10, .aload_n 0, 1, .null, 0),
  (11, .invokevirtual 91, 3, .null, 0),
  (14, .astore_n 2, 1, .null, 2),
  (15, .aload_n 0, 1, .null, 0),
  (16, .getfield 11, 3, .null, 0),
  (19, .iload_n 1, 1, .null, 1),
  (20, .aaload, 1, .null, 0),
  (21, .getfield 109, 3, .null, 0),
  (24, .ifCond .eq (6), 3, .null, 30),
  (27, .bipush (-4), 2, (.int (-4)), 0),
  (29, .ireturn, 1, .null, 0),
  (30, .aload_n 0, 1, .null, 0),
  (31, .getfield 11, 3, .null, 0),
  (34, .iload_n 1, 1, .null, 1),
  (35, .aaload, 1, .null, 0),
  (36, .getfield 99, 3, .null, 0),
  (39, .astore_n 3, 1, .null, 3),
  (40, .aload_n 0, 1, .null, 0),
  (41, .iconst 0, 1, (.int (0)), 0),
  (42, .putfield 186, 3, .null, 0),
  (45, .aload_n 3, 1, .null, 3),
  (46, .aload_n 2, 1, .null, 2),
  (47, .invokevirtual 183, 3, .null, 0),
  (50, .istore 4, 2, .null, 4),
  (52, .iload 4, 2, .null, 4),
  (54, .istore 5, 2, .null, 5),
  (56, .iload 5, 2, .null, 5),
  (58, .aload_n 3, 1, .null, 3),
  (59, .getfield 103, 3, .null, 0),
  (62, .if_icmp .ge (25), 3, .null, 87),
  (65, .aload_n 3, 1, .null, 3),
  (66, .iload 5, 2, .null, 5),
  (68, .aload_n 2, 1, .null, 2),
  (69, .invokevirtual 189, 3, .null, 0),
  (72, .ifCond .eq (15), 3, .null, 87),
  (75, .aload_n 0, 1, .null, 0),
  (76, .iload 5, 2, .null, 5),
  (78, .invokevirtual 193, 3, .null, 0),
  (81, .iinc 5 (1), 3, (.int (1)), 5),
  (84, .goto (-28), 3, .null, 56),
  (87, .aload_n 0, 1, .null, 0),
  (88, .getfield 186, 3, .null, 0),
  (91, .ireturn, 1, .null, 0)]
noncomputable def m_X10_prefix : ab_M := (c_X10_prefix, [(0, [0, 1]), (56, [0, 2, 3, 5]), (87, [0])],
  [(11, 10, 0, 3), (99, 0, 0, 3), (103, 7, 3, 0), (109, 0, 2, 1), (186, 10, 10, 0)],
  [],
  [(91, 1, 1, g_X10_takeCollected), (95, 0, 1, g_X10_isDictionary), (183, 1, 2, g_X7_leastNotBelow), (189, 1, 3, g_X7_beginsWith), (193, 1, 2, g_X10_putFound)],
  [], 6, 1)
theorem one_X10_prefix : ab_oneM m_X10_prefix := List.forall_mem_cons.mpr ⟨o_X10_takeCollected, List.forall_mem_cons.mpr ⟨o_X10_isDictionary, List.forall_mem_cons.mpr ⟨o_X7_leastNotBelow, List.forall_mem_cons.mpr ⟨o_X7_beginsWith, List.forall_mem_cons.mpr ⟨o_X10_putFound, fun _ h => absurd h List.not_mem_nil⟩⟩⟩⟩⟩
noncomputable def f_X10_prefix (l0 : Nat) (l1 : Int32) (st : ab_S) : Option ab_R := ab_rc st l0 10 (ab_lim m_X10_prefix 0 [.ref l0, .int l1] [] st)
noncomputable def L_X10_prefix_56 (l0 : Nat) (l2 : Nat) (l3 : Nat) (l5 : Int32) (st : ab_S) : Option ab_R := ab_lim m_X10_prefix 56 [.ref l0, .ref l2, .ref l3, .int l5] [] st
noncomputable def L_X10_prefix_87 (l0 : Nat) (st : ab_S) : Option ab_R := ab_lim m_X10_prefix 87 [.ref l0] [] st
noncomputable def g_X10_prefix : ab_G := fun as st k => match as with
  | [.ref a0, .int a1] => ab_ri (f_X10_prefix a0 a1 st) (fun x t => k [.int x] t)
  | _ => none
theorem o_X10_prefix : ab_one g_X10_prefix := by
  intro as st k r h
  unfold g_X10_prefix at h ⊢
  split at h
  · exact one_ri h
  · cases h
set_option maxRecDepth 100000 in
theorem e_X10_prefix_0 (l0 : Nat) (l1 : Int32) (st : ab_S) : f_X10_prefix l0 l1 st =
    ab_rc st l0 10 (
    ab_ri (f_X10_isDictionary l1 st) fun x2 s1 =>
    if x2 = 0
    then some (some (.int (-2 : Int32)), s1)
    else ab_rr (f_X10_takeCollected l0 s1) fun x4 s3 =>
      Option.bind (ab_gR s3 l0 10 0) fun x5 =>
      Option.bind (ab_rR s3 x5 l1) fun x6 =>
      Option.bind (ab_gI s3 x6 0 2) fun x7 =>
      if x7 = 0
      then Option.bind (ab_gR s3 l0 10 0) fun x8 =>
        Option.bind (ab_rR s3 x8 l1) fun x9 =>
        Option.bind (ab_gR s3 x9 0 0) fun x10 =>
        Option.bind (ab_pI s3 l0 10 10 (0 : Int32)) fun s11 =>
        ab_ri (f_X7_leastNotBelow x10 x4 s11) fun x13 s12 =>
        L_X10_prefix_56 l0 x4 x10 x13 s12
      else some (some (.int (-4 : Int32)), s3)) := congrArg (ab_rc st l0 10) ((lm_eq one_X10_prefix 0 _ _ _).trans rfl)
set_option maxRecDepth 100000 in
theorem e_X10_prefix_56 (l0 : Nat) (l2 : Nat) (l3 : Nat) (l5 : Int32) (st : ab_S) : L_X10_prefix_56 l0 l2 l3 l5 st =
    Option.bind (ab_gI st l3 7 3) fun x1 =>
    if x1 ≤ l5
    then L_X10_prefix_87 l0 st
    else ab_ri (f_X7_beginsWith l3 l5 l2 st) fun x3 s2 =>
      if x3 = 0
      then L_X10_prefix_87 l0 s2
      else ab_rv (f_X10_putFound l0 l5 s2) fun s4 =>
        L_X10_prefix_56 l0 l2 l3 (l5 + (1 : Int32)) s4 := (lm_eq one_X10_prefix 56 _ _ _).trans rfl
set_option maxRecDepth 100000 in
theorem e_X10_prefix_87 (l0 : Nat) (st : ab_S) : L_X10_prefix_87 l0 st =
    Option.bind (ab_gI st l0 10 10) fun x1 =>
    some (some (.int x1), st) := (lm_eq one_X10_prefix 87 _ _ _).trans rfl
end
section
def c_X11_gather : List (Nat × ab_I) := [(0, .aload_n 0, 1, .null, 0),
  (1, .iconst 0, 1, (.int (0)), 0),
  (2, .putfield 242, 3, .null, 0),
  (5, .iconst 0, 1, (.int (0)), 0),
  (6, .istore_n 3, 1, .null, 3),
  (7, .iload_n 3, 1, .null, 3),
  (8, .aload_n 0, 1, .null, 0),
  (9, .getfield 24, 3, .null, 0),
  (12, .iload_n 1, 1, .null, 1),
  (13, .iaload, 1, .null, 0),
  (14, .if_icmp .ge (39), 3, .null, 53),
  (17, .aload_n 0, 1, .null, 0),
  (18, .iload_n 1, 1, .null, 1),
  (19, .iload_n 3, 1, .null, 3),
  (20, .iload_n 2, 1, .null, 2),
  (21, .invokevirtual 226, 3, .null, 0),
  (24, .ifCond .eq (23), 3, .null, 47),
  (27, .aload_n 0, 1, .null, 0),
  (28, .getfield 34, 3, .null, 0),
  (31, .aload_n 0, 1, .null, 0),
  (32, .getfield 242, 3, .null, 0),
  (35, .iload_n 3, 1, .null, 3),
  (36, .iastore, 1, .null, 0),
  (37, .aload_n 0, 1, .null, 0),
  (38, .dup, 1, .null, 0),
  (39, .getfield 242, 3, .null, 0),
  (42, .iconst 1, 1, (.int (1)), 0),
  (43, .iadd, 1, .null, 0),
  (44, .putfield 242, 3, .null, 0),
  (47, .iinc 3 (1), 3, (.int (1)), 3),
  (50, .goto (-43), 3, .null, 7),
  (53, .return_, 1, .null, 0)]
noncomputable def m_X11_gather : ab_M := (c_X11_gather, [(0, [0, 1, 2]), (7, [0, 1, 2, 3]), (47, [0, 1, 2, 3])],
  [(24, 11, 5, 3), (34, 11, 8, 3), (242, 11, 9, 0)],
  [],
  [(226, 1, 4, g_X11_isBeginning)],
  [], 4, 0)
theorem one_X11_gather : ab_oneM m_X11_gather := List.forall_mem_cons.mpr ⟨o_X11_isBeginning, fun _ h => absurd h List.not_mem_nil⟩
noncomputable def f_X11_gather (l0 : Nat) (l1 : Int32) (l2 : Int32) (st : ab_S) : Option ab_R := ab_rc st l0 11 (ab_lim m_X11_gather 0 [.ref l0, .int l1, .int l2] [] st)
noncomputable def L_X11_gather_7 (l0 : Nat) (l1 : Int32) (l2 : Int32) (l3 : Int32) (st : ab_S) : Option ab_R := ab_lim m_X11_gather 7 [.ref l0, .int l1, .int l2, .int l3] [] st
noncomputable def L_X11_gather_47 (l0 : Nat) (l1 : Int32) (l2 : Int32) (l3 : Int32) (st : ab_S) : Option ab_R := ab_lim m_X11_gather 47 [.ref l0, .int l1, .int l2, .int l3] [] st
noncomputable def g_X11_gather : ab_G := fun as st k => match as with
  | [.ref a0, .int a1, .int a2] => ab_rv (f_X11_gather a0 a1 a2 st) (fun t => k [] t)
  | _ => none
theorem o_X11_gather : ab_one g_X11_gather := by
  intro as st k r h
  unfold g_X11_gather at h ⊢
  split at h
  · exact one_rv h
  · cases h
set_option maxRecDepth 100000 in
theorem e_X11_gather_0 (l0 : Nat) (l1 : Int32) (l2 : Int32) (st : ab_S) : f_X11_gather l0 l1 l2 st =
    ab_rc st l0 11 (
    Option.bind (ab_pI st l0 11 9 (0 : Int32)) fun s1 =>
    L_X11_gather_7 l0 l1 l2 (0 : Int32) s1) := congrArg (ab_rc st l0 11) ((lm_eq one_X11_gather 0 _ _ _).trans rfl)
set_option maxRecDepth 100000 in
theorem e_X11_gather_7 (l0 : Nat) (l1 : Int32) (l2 : Int32) (l3 : Int32) (st : ab_S) : L_X11_gather_7 l0 l1 l2 l3 st =
    Option.bind (ab_gR st l0 11 5) fun x1 =>
    Option.bind (ab_rI st x1 l1) fun x2 =>
    if x2 ≤ l3
    then some (none, st)
    else ab_ri (f_X11_isBeginning l0 l1 l3 l2 st) fun x4 s3 =>
      if x4 = 0
      then L_X11_gather_47 l0 l1 l2 l3 s3
      else Option.bind (ab_gR s3 l0 11 8) fun x5 =>
        Option.bind (ab_gI s3 l0 11 9) fun x6 =>
        Option.bind (ab_wI s3 x5 x6 l3) fun s7 =>
        Option.bind (ab_gI s7 l0 11 9) fun x8 =>
        Option.bind (ab_pI s7 l0 11 9 (x8 + (1 : Int32))) fun s9 =>
        L_X11_gather_47 l0 l1 l2 l3 s9 := (lm_eq one_X11_gather 7 _ _ _).trans rfl
set_option maxRecDepth 100000 in
theorem e_X11_gather_47 (l0 : Nat) (l1 : Int32) (l2 : Int32) (l3 : Int32) (st : ab_S) : L_X11_gather_47 l0 l1 l2 l3 st =
    L_X11_gather_7 l0 l1 l2 (l3 + (1 : Int32)) st := (lm_eq one_X11_gather 47 _ _ _).trans rfl
def c_X11_prefix : List (Nat × ab_I) := [(0, .iload_n 1, 1, .null, 1),
  (1, .invokestatic 159, 3, .null, 0),
  (4, .ifCond .ne (6), 3, .null, 10),
  (7, .bipush (-2), 2, (.int (-2)), 0),
  (9, .ireturn, 1, .null, 0),
  (10, .aload_n 0, 1, .null, 0),
  (11, .invokevirtual 165, 3, .null, 0),
  (14, .istore_n 2, 1, .null, 2),
  (15, .aload_n 0, 1, .null, 0),
  (16, .getfield 27, 3, .null, 0),
  (19, .iload_n 1, 1, .null, 1),
  (20, .baload, 1, .null, 0),
  (21, .ifCond .eq (6), 3, .null, 27),
  (24, .bipush (-4), 2, (.int (-4)), 0),
  (26, .ireturn, 1, .null, 0),
  (27, .aload_n 0, 1, .null, 0),
  (28, .iload_n 1, 1, .null, 1),
  (29, .iload_n 2, 1, .null, 2),
  (30, .invokevirtual 245, 3, .null, 0),
  (33, .aload_n 0, 1, .null, 0),
  (34, .getfield 242, 3, .null, 0),
  (37, .ireturn, 1, .null, 0)]
noncomputable def m_X11_prefix : ab_M := (c_X11_prefix, [(0, [0, 1])],
  [(27, 11, 6, 3), (242, 11, 9, 0)],
  [],
  [(159, 0, 1, g_X11_isDictionary), (165, 1, 1, g_X11_forget), (245, 1, 3, g_X11_gather)],
  [], 3, 1)
theorem one_X11_prefix : ab_oneM m_X11_prefix := List.forall_mem_cons.mpr ⟨o_X11_isDictionary, List.forall_mem_cons.mpr ⟨o_X11_forget, List.forall_mem_cons.mpr ⟨o_X11_gather, fun _ h => absurd h List.not_mem_nil⟩⟩⟩
noncomputable def f_X11_prefix (l0 : Nat) (l1 : Int32) (st : ab_S) : Option ab_R := ab_rc st l0 11 (ab_lim m_X11_prefix 0 [.ref l0, .int l1] [] st)
noncomputable def g_X11_prefix : ab_G := fun as st k => match as with
  | [.ref a0, .int a1] => ab_ri (f_X11_prefix a0 a1 st) (fun x t => k [.int x] t)
  | _ => none
theorem o_X11_prefix : ab_one g_X11_prefix := by
  intro as st k r h
  unfold g_X11_prefix at h ⊢
  split at h
  · exact one_ri h
  · cases h
set_option maxRecDepth 100000 in
theorem e_X11_prefix_0 (l0 : Nat) (l1 : Int32) (st : ab_S) : f_X11_prefix l0 l1 st =
    ab_rc st l0 11 (
    ab_ri (f_X11_isDictionary l1 st) fun x2 s1 =>
    if x2 = 0
    then some (some (.int (-2 : Int32)), s1)
    else ab_ri (f_X11_forget l0 s1) fun x4 s3 =>
      Option.bind (ab_gR s3 l0 11 6) fun x5 =>
      Option.bind (ab_rB s3 x5 l1) fun x6 =>
      if x6 = 0
      then ab_rv (f_X11_gather l0 l1 x4 s3) fun s7 =>
        Option.bind (ab_gI s7 l0 11 9) fun x8 =>
        some (some (.int x8), s7)
      else some (some (.int (-4 : Int32)), s3)) := congrArg (ab_rc st l0 11) ((lm_eq one_X11_prefix 0 _ _ _).trans rfl)
def c_X10_rankFound : List (Nat × ab_I) := [(0, .aload_n 1, 1, .null, 1),
  (1, .iload_n 2, 1, .null, 2),
  (2, .invokevirtual 147, 3, .null, 0),
  (5, .lstore 4, 2, .null, 4),
  (7, .aload_n 0, 1, .null, 0),
  (8, .getfield 186, 3, .null, 0),
  (11, .istore 6, 2, .null, 6),
  (13, .aload_n 0, 1, .null, 0),
  (14, .getfield 186, 3, .null, 0),
  (17, .iconst 1, 1, (.int (1)), 0),
  (18, .isub, 1, .null, 0),
  (19, .istore 7, 2, .null, 7),
  (21, .iload 7, 2, .null, 7),
  (23, .ifCond .lt (30), 3, .null, 53),
  (26, .aload_n 1, 1, .null, 1),
  (27, .aload_n 0, 1, .null, 0),
  (28, .getfield 66, 3, .null, 0),
  (31, .iload 7, 2, .null, 7),
  (33, .iaload, 1, .null, 0),
  (34, .invokevirtual 147, 3, .null, 0),
  (37, .lload 4, 2, .null, 4),
  (39, .lcmp, 1, .null, 0),
  (40, .ifCond .le (13), 3, .null, 53),
  (43, .iload 7, 2, .null, 7),
  (45, .istore 6, 2, .null, 6),
  (47, .iinc 7 (-1), 3, (.int (-1)), 7),
  (50, .goto (-29), 3, .null, 21),
  (53, .iload 6, 2, .null, 6),
  (55, .iload_n 3, 1, .null, 3),
  (56, .if_icmp .ge (11), 3, .null, 67),
  (59, .iload 6, 2, .null, 6),
  (61, .sipush (200), 3, (.int (200)), 0),
  (64, .if_icmp .lt (4), 3, .null, 68),
  (67, .return_, 1, .null, 0),
  (68, .aload_n 0, 1, .null, 0),
  (69, .getfield 186, 3, .null, 0),
  (72, .iload_n 3, 1, .null, 3),
  (73, .if_icmp .ge (23), 3, .null, 96),
  (76, .aload_n 0, 1, .null, 0),
  (77, .getfield 186, 3, .null, 0),
  (80, .sipush (200), 3, (.int (200)), 0),
  (83, .if_icmp .ge (13), 3, .null, 96),
  (86, .aload_n 0, 1, .null, 0),
  (87, .dup, 1, .null, 0),
  (88, .getfield 186, 3, .null, 0),
  (91, .iconst 1, 1, (.int (1)), 0),
  (92, .iadd, 1, .null, 0),
  (93, .putfield 186, 3, .null, 0),
  (96, .aload_n 0, 1, .null, 0),
  (97, .getfield 186, 3, .null, 0),
  (100, .iconst 1, 1, (.int (1)), 0),
  (101, .isub, 1, .null, 0),
  (102, .istore 7, 2, .null, 7),
  (104, .iload 7, 2, .null, 7),
  (106, .iload 6, 2, .null, 6),
  (108, .if_icmp .le (25), 3, .null, 133),
  (111, .aload_n 0, 1, .null, 0),
  (112, .getfield 66, 3, .null, 0),
  (115, .iload 7, 2, .null, 7),
  (117, .aload_n 0, 1, .null, 0),
  (118, .getfield 66, 3, .null, 0),
  (121, .iload 7, 2, .null, 7),
  (123, .iconst 1, 1, (.int (1)), 0),
  (124, .isub, 1, .null, 0),
  (125, .iaload, 1, .null, 0),
  (126, .iastore, 1, .null, 0),
  (127, .iinc 7 (-1), 3, (.int (-1)), 7),
  (130, .goto (-26), 3, .null, 104),
  (133, .aload_n 0, 1, .null, 0),
  (134, .getfield 66, 3, .null, 0),
  (137, .iload 6, 2, .null, 6),
  (139, .iload_n 2, 1, .null, 2),
  (140, .iastore, 1, .null, 0),
  (141, .return_, 1, .null, 0)]
noncomputable def m_X10_rankFound : ab_M := (c_X10_rankFound, [(0, [0, 1, 2, 3]), (21, [0, 1, 2, 3, 4, 6, 7]), (53, [0, 2, 3, 6]), (96, [0, 2, 6]), (104, [0, 2, 6, 7])],
  [(66, 10, 9, 3), (186, 10, 10, 0)],
  [],
  [(147, 1, 2, g_X7_outAt)],
  [], 8, 0)
theorem one_X10_rankFound : ab_oneM m_X10_rankFound := List.forall_mem_cons.mpr ⟨o_X7_outAt, fun _ h => absurd h List.not_mem_nil⟩
noncomputable def f_X10_rankFound (l0 : Nat) (l1 : Nat) (l2 : Int32) (l3 : Int32) (st : ab_S) : Option ab_R := ab_rc st l0 10 (ab_lim m_X10_rankFound 0 [.ref l0, .ref l1, .int l2, .int l3] [] st)
noncomputable def L_X10_rankFound_21 (l0 : Nat) (l1 : Nat) (l2 : Int32) (l3 : Int32) (l4 : Int64) (l6 : Int32) (l7 : Int32) (st : ab_S) : Option ab_R := ab_lim m_X10_rankFound 21 [.ref l0, .ref l1, .int l2, .int l3, .long l4, .int l6, .int l7] [] st
noncomputable def L_X10_rankFound_53 (l0 : Nat) (l2 : Int32) (l3 : Int32) (l6 : Int32) (st : ab_S) : Option ab_R := ab_lim m_X10_rankFound 53 [.ref l0, .int l2, .int l3, .int l6] [] st
noncomputable def L_X10_rankFound_96 (l0 : Nat) (l2 : Int32) (l6 : Int32) (st : ab_S) : Option ab_R := ab_lim m_X10_rankFound 96 [.ref l0, .int l2, .int l6] [] st
noncomputable def L_X10_rankFound_104 (l0 : Nat) (l2 : Int32) (l6 : Int32) (l7 : Int32) (st : ab_S) : Option ab_R := ab_lim m_X10_rankFound 104 [.ref l0, .int l2, .int l6, .int l7] [] st
noncomputable def g_X10_rankFound : ab_G := fun as st k => match as with
  | [.ref a0, .ref a1, .int a2, .int a3] => ab_rv (f_X10_rankFound a0 a1 a2 a3 st) (fun t => k [] t)
  | _ => none
theorem o_X10_rankFound : ab_one g_X10_rankFound := by
  intro as st k r h
  unfold g_X10_rankFound at h ⊢
  split at h
  · exact one_rv h
  · cases h
set_option maxRecDepth 100000 in
theorem e_X10_rankFound_0 (l0 : Nat) (l1 : Nat) (l2 : Int32) (l3 : Int32) (st : ab_S) : f_X10_rankFound l0 l1 l2 l3 st =
    ab_rc st l0 10 (
    ab_rl (f_X7_outAt l1 l2 st) fun x2 s1 =>
    Option.bind (ab_gI s1 l0 10 10) fun x3 =>
    Option.bind (ab_gI s1 l0 10 10) fun x4 =>
    L_X10_rankFound_21 l0 l1 l2 l3 x2 x3 (x4 - (1 : Int32)) s1) := congrArg (ab_rc st l0 10) ((lm_eq one_X10_rankFound 0 _ _ _).trans rfl)
set_option maxRecDepth 100000 in
theorem e_X10_rankFound_21 (l0 : Nat) (l1 : Nat) (l2 : Int32) (l3 : Int32) (l4 : Int64) (l6 : Int32) (l7 : Int32) (st : ab_S) : L_X10_rankFound_21 l0 l1 l2 l3 l4 l6 l7 st =
    if l7 < 0
    then L_X10_rankFound_53 l0 l2 l3 l6 st
    else Option.bind (ab_gR st l0 10 9) fun x1 =>
      Option.bind (ab_rI st x1 l7) fun x2 =>
      ab_rl (f_X7_outAt l1 x2 st) fun x4 s3 =>
      if (lg_cmp x4 l4) ≤ 0
      then L_X10_rankFound_53 l0 l2 l3 l6 s3
      else L_X10_rankFound_21 l0 l1 l2 l3 l4 l7 (l7 + (-1 : Int32)) s3 := (lm_eq one_X10_rankFound 21 _ _ _).trans rfl
set_option maxRecDepth 100000 in
theorem e_X10_rankFound_53 (l0 : Nat) (l2 : Int32) (l3 : Int32) (l6 : Int32) (st : ab_S) : L_X10_rankFound_53 l0 l2 l3 l6 st =
    if l3 ≤ l6
    then some (none, st)
    else if l6 < (200 : Int32)
      then Option.bind (ab_gI st l0 10 10) fun x1 =>
        if l3 ≤ x1
        then L_X10_rankFound_96 l0 l2 l6 st
        else Option.bind (ab_gI st l0 10 10) fun x2 =>
          if (200 : Int32) ≤ x2
          then L_X10_rankFound_96 l0 l2 l6 st
          else Option.bind (ab_gI st l0 10 10) fun x3 =>
            Option.bind (ab_pI st l0 10 10 (x3 + (1 : Int32))) fun s4 =>
            L_X10_rankFound_96 l0 l2 l6 s4
      else some (none, st) := (lm_eq one_X10_rankFound 53 _ _ _).trans rfl
set_option maxRecDepth 100000 in
theorem e_X10_rankFound_96 (l0 : Nat) (l2 : Int32) (l6 : Int32) (st : ab_S) : L_X10_rankFound_96 l0 l2 l6 st =
    Option.bind (ab_gI st l0 10 10) fun x1 =>
    L_X10_rankFound_104 l0 l2 l6 (x1 - (1 : Int32)) st := (lm_eq one_X10_rankFound 96 _ _ _).trans rfl
set_option maxRecDepth 100000 in
theorem e_X10_rankFound_104 (l0 : Nat) (l2 : Int32) (l6 : Int32) (l7 : Int32) (st : ab_S) : L_X10_rankFound_104 l0 l2 l6 l7 st =
    if l7 ≤ l6
    then Option.bind (ab_gR st l0 10 9) fun x1 =>
      Option.bind (ab_wI st x1 l6 l2) fun s2 =>
      some (none, s2)
    else Option.bind (ab_gR st l0 10 9) fun x3 =>
      Option.bind (ab_gR st l0 10 9) fun x4 =>
      Option.bind (ab_rI st x4 (l7 - (1 : Int32))) fun x5 =>
      Option.bind (ab_wI st x3 l7 x5) fun s6 =>
      L_X10_rankFound_104 l0 l2 l6 (l7 + (-1 : Int32)) s6 := (lm_eq one_X10_rankFound 104 _ _ _).trans rfl
def c_X10_cheapest : List (Nat × ab_I) := [(0, .iload_n 1, 1, .null, 1),
  (1, .invokestatic 95, 3, .null, 0),
  (4, .ifCond .eq (15), 3, .null, 19),
  (7, .iload_n 2, 1, .null, 2),
  (8, .iconst 1, 1, (.int (1)), 0),
  (9, .if_icmp .lt (10), 3, .null, 19),
  (12, .iload_n 2, 1, .null, 2),
  (13, .sipush (200), 3, (.int (200)), 0),
  (16, .if_icmp .le (6), 3, .null, 22),
  (19, .bipush (-2), 2, (.int (-2)), 0),
  (21, .ireturn, 1, .null, 0),
  (22, .aload_n 0, 1, .null, 0),
  (23, .invokevirtual 91, 3, .null, 0),
  (26, .astore_n 3, 1, .null, 3),
  (27, .aload_n 0, 1, .null, 0),
  (28, .getfield 11, 3, .null, 0),
  (31, .iload_n 1, 1, .null, 1),
  (32, .aaload, 1, .null, 0),
  (33, .getfield 109, 3, .null, 0),
  (36, .ifCond .eq (6), 3, .null, 42),
  (39, .bipush (-4), 2, (.int (-4)), 0),
  (41, .ireturn, 1, .null, 0),
  (42, .aload_n 0, 1, .null, 0),
  (43, .getfield 11, 3, .null, 0),
  (46, .iload_n 1, 1, .null, 1),
  (47, .aaload, 1, .null, 0),
  (48, .getfield 99, 3, .null, 0),
  (51, .astore 4, 2, .null, 4),
  (53, .aload_n 0, 1, .null, 0),
  (54, .iconst 0, 1, (.int (0)), 0),
  (55, .putfield 186, 3, .null, 0),
  (58, .aload 4, 2, .null, 4),
  (60, .aload_n 3, 1, .null, 3),
  (61, .invokevirtual 183, 3, .null, 0),
  (64, .istore 5, 2, .null, 5),
  (66, .iload 5, 2, .null, 5),
  (68, .istore 6, 2, .null, 6),
  (70, .iload 6, 2, .null, 6),
  (72, .aload 4, 2, .null, 4),
  (74, .getfield 103, 3, .null, 0),
  (77, .if_icmp .ge (29), 3, .null, 106),
  (80, .aload 4, 2, .null, 4),
  (82, .iload 6, 2, .null, 6),
  (84, .aload_n 3, 1, .null, 3),
  (85, .invokevirtual 189, 3, .null, 0),
  (88, .ifCond .eq (18), 3, .null, 106),
  (91, .aload_n 0, 1, .null, 0),
  (92, .aload 4, 2, .null, 4),
  (94, .iload 6, 2, .null, 6),
  (96, .iload_n 2, 1, .null, 2),
  (97, .invokevirtual 196, 3, .null, 0),
  (100, .iinc 6 (1), 3, (.int (1)), 6),
  (103, .goto (-33), 3, .null, 70),
  (106, .aload_n 0, 1, .null, 0),
  (107, .getfield 186, 3, .null, 0),
  (110, .ireturn, 1, .null, 0)]
noncomputable def m_X10_cheapest : ab_M := (c_X10_cheapest, [(0, [0, 1, 2]), (70, [0, 2, 3, 4, 6]), (106, [0])],
  [(11, 10, 0, 3), (99, 0, 0, 3), (103, 7, 3, 0), (109, 0, 2, 1), (186, 10, 10, 0)],
  [],
  [(91, 1, 1, g_X10_takeCollected), (95, 0, 1, g_X10_isDictionary), (183, 1, 2, g_X7_leastNotBelow), (189, 1, 3, g_X7_beginsWith), (196, 1, 4, g_X10_rankFound)],
  [], 7, 1)
theorem one_X10_cheapest : ab_oneM m_X10_cheapest := List.forall_mem_cons.mpr ⟨o_X10_takeCollected, List.forall_mem_cons.mpr ⟨o_X10_isDictionary, List.forall_mem_cons.mpr ⟨o_X7_leastNotBelow, List.forall_mem_cons.mpr ⟨o_X7_beginsWith, List.forall_mem_cons.mpr ⟨o_X10_rankFound, fun _ h => absurd h List.not_mem_nil⟩⟩⟩⟩⟩
noncomputable def f_X10_cheapest (l0 : Nat) (l1 : Int32) (l2 : Int32) (st : ab_S) : Option ab_R := ab_rc st l0 10 (ab_lim m_X10_cheapest 0 [.ref l0, .int l1, .int l2] [] st)
noncomputable def L_X10_cheapest_70 (l0 : Nat) (l2 : Int32) (l3 : Nat) (l4 : Nat) (l6 : Int32) (st : ab_S) : Option ab_R := ab_lim m_X10_cheapest 70 [.ref l0, .int l2, .ref l3, .ref l4, .int l6] [] st
noncomputable def L_X10_cheapest_106 (l0 : Nat) (st : ab_S) : Option ab_R := ab_lim m_X10_cheapest 106 [.ref l0] [] st
noncomputable def g_X10_cheapest : ab_G := fun as st k => match as with
  | [.ref a0, .int a1, .int a2] => ab_ri (f_X10_cheapest a0 a1 a2 st) (fun x t => k [.int x] t)
  | _ => none
theorem o_X10_cheapest : ab_one g_X10_cheapest := by
  intro as st k r h
  unfold g_X10_cheapest at h ⊢
  split at h
  · exact one_ri h
  · cases h
set_option maxRecDepth 100000 in
theorem e_X10_cheapest_0 (l0 : Nat) (l1 : Int32) (l2 : Int32) (st : ab_S) : f_X10_cheapest l0 l1 l2 st =
    ab_rc st l0 10 (
    ab_ri (f_X10_isDictionary l1 st) fun x2 s1 =>
    if x2 = 0
    then some (some (.int (-2 : Int32)), s1)
    else if l2 < (1 : Int32)
      then some (some (.int (-2 : Int32)), s1)
      else if l2 ≤ (200 : Int32)
        then ab_rr (f_X10_takeCollected l0 s1) fun x4 s3 =>
          Option.bind (ab_gR s3 l0 10 0) fun x5 =>
          Option.bind (ab_rR s3 x5 l1) fun x6 =>
          Option.bind (ab_gI s3 x6 0 2) fun x7 =>
          if x7 = 0
          then Option.bind (ab_gR s3 l0 10 0) fun x8 =>
            Option.bind (ab_rR s3 x8 l1) fun x9 =>
            Option.bind (ab_gR s3 x9 0 0) fun x10 =>
            Option.bind (ab_pI s3 l0 10 10 (0 : Int32)) fun s11 =>
            ab_ri (f_X7_leastNotBelow x10 x4 s11) fun x13 s12 =>
            L_X10_cheapest_70 l0 l2 x4 x10 x13 s12
          else some (some (.int (-4 : Int32)), s3)
        else some (some (.int (-2 : Int32)), s1)) := congrArg (ab_rc st l0 10) ((lm_eq one_X10_cheapest 0 _ _ _).trans rfl)
set_option maxRecDepth 100000 in
theorem e_X10_cheapest_70 (l0 : Nat) (l2 : Int32) (l3 : Nat) (l4 : Nat) (l6 : Int32) (st : ab_S) : L_X10_cheapest_70 l0 l2 l3 l4 l6 st =
    Option.bind (ab_gI st l4 7 3) fun x1 =>
    if x1 ≤ l6
    then L_X10_cheapest_106 l0 st
    else ab_ri (f_X7_beginsWith l4 l6 l3 st) fun x3 s2 =>
      if x3 = 0
      then L_X10_cheapest_106 l0 s2
      else ab_rv (f_X10_rankFound l0 l4 l6 l2 s2) fun s4 =>
        L_X10_cheapest_70 l0 l2 l3 l4 (l6 + (1 : Int32)) s4 := (lm_eq one_X10_cheapest 70 _ _ _).trans rfl
set_option maxRecDepth 100000 in
theorem e_X10_cheapest_106 (l0 : Nat) (st : ab_S) : L_X10_cheapest_106 l0 st =
    Option.bind (ab_gI st l0 10 10) fun x1 =>
    some (some (.int x1), st) := (lm_eq one_X10_cheapest 106 _ _ _).trans rfl
def c_X11_cheapest : List (Nat × ab_I) := [(0, .iload_n 1, 1, .null, 1),
  (1, .invokestatic 159, 3, .null, 0),
  (4, .ifCond .eq (15), 3, .null, 19),
  (7, .iload_n 2, 1, .null, 2),
  (8, .i2l, 1, .null, 0),
  (9, .lconst 1, 1, (.long (1)), 0),
  (10, .ldc2_w 249, 3, (.long (200)), 0),
  (13, .invokestatic 146, 3, .null, 0),
  (16, .ifCond .ne (6), 3, .null, 22),
  (19, .bipush (-2), 2, (.int (-2)), 0),
  (21, .ireturn, 1, .null, 0),
  (22, .aload_n 0, 1, .null, 0),
  (23, .invokevirtual 165, 3, .null, 0),
  (26, .istore_n 3, 1, .null, 3),
  (27, .aload_n 0, 1, .null, 0),
  (28, .getfield 27, 3, .null, 0),
  (31, .iload_n 1, 1, .null, 1),
  (32, .baload, 1, .null, 0),
  (33, .ifCond .eq (6), 3, .null, 39),
  (36, .bipush (-4), 2, (.int (-4)), 0),
  (38, .ireturn, 1, .null, 0),
  (39, .aload_n 0, 1, .null, 0),
  (40, .iload_n 1, 1, .null, 1),
  (41, .iload_n 3, 1, .null, 3),
  (42, .invokevirtual 245, 3, .null, 0),
  (45, .iconst 1, 1, (.int (1)), 0),
  (46, .istore 4, 2, .null, 4),
  (48, .iload 4, 2, .null, 4),
  (50, .aload_n 0, 1, .null, 0),
  (51, .getfield 242, 3, .null, 0),
  (54, .if_icmp .ge (95), 3, .null, 149),
  (57, .aload_n 0, 1, .null, 0),
  (58, .getfield 34, 3, .null, 0),
  (61, .iload 4, 2, .null, 4),
  (63, .iaload, 1, .null, 0),
  (64, .istore 5, 2, .null, 5),
  (66, .iload 4, 2, .null, 4),
  (68, .istore 6, 2, .null, 6),
  (70, .iload 6, 2, .null, 6),
  (72, .ifCond .le (62), 3, .null, 134),
  (75, .aload_n 0, 1, .null, 0),
  (76, .getfield 20, 3, .null, 0),
  (79, .sipush (200), 3, (.int (200)), 0),
  (82, .iload_n 1, 1, .null, 1),
  (83, .imul, 1, .null, 0),
  (84, .aload_n 0, 1, .null, 0),
  (85, .getfield 34, 3, .null, 0),
  (88, .iload 6, 2, .null, 6),
  (90, .iconst 1, 1, (.int (1)), 0),
  (91, .isub, 1, .null, 0),
  (92, .iaload, 1, .null, 0),
  (93, .iadd, 1, .null, 0),
  (94, .laload, 1, .null, 0),
  (95, .aload_n 0, 1, .null, 0),
  (96, .getfield 20, 3, .null, 0),
  (99, .sipush (200), 3, (.int (200)), 0),
  (102, .iload_n 1, 1, .null, 1),
  (103, .imul, 1, .null, 0),
  (104, .iload 5, 2, .null, 5),
  (106, .iadd, 1, .null, 0),
  (107, .laload, 1, .null, 0),
  (108, .lcmp, 1, .null, 0),
  (109, .ifCond .le (25), 3, .null, 134),
  (112, .aload_n 0, 1, .null, 0),
  (113, .getfield 34, 3, .null, 0),
  (116, .iload 6, 2, .null, 6),
  (118, .aload_n 0, 1, .null, 0),
  (119, .getfield 34, 3, .null, 0),
  (122, .iload 6, 2, .null, 6),
  (124, .iconst 1, 1, (.int (1)), 0),
  (125, .isub, 1, .null, 0),
  (126, .iaload, 1, .null, 0),
  (127, .iastore, 1, .null, 0),
  (128, .iinc 6 (-1), 3, (.int (-1)), 6),
  (131, .goto (-61), 3, .null, 70),
  (134, .aload_n 0, 1, .null, 0),
  (135, .getfield 34, 3, .null, 0),
  (138, .iload 6, 2, .null, 6),
  (140, .iload 5, 2, .null, 5),
  (142, .iastore, 1, .null, 0),
  (143, .iinc 4 (1), 3, (.int (1)), 4),
  (146, .goto (-98), 3, .null, 48),
  (149, .aload_n 0, 1, .null, 0),
  (150, .aload_n 0, 1, .null, 0),
  (151, .getfield 242, 3, .null, 0),
  (154, .i2l, 1, .null, 0),
  (155, .iload_n 2, 1, .null, 2),
  (156, .i2l, 1, .null, 0),
  (157, .invokestatic 198, 3, .null, 0),
  (160, .l2i, 1, .null, 0),
  (161, .putfield 242, 3, .null, 0),
  (164, .aload_n 0, 1, .null, 0),
  (165, .getfield 242, 3, .null, 0),
  (168, .ireturn, 1, .null, 0)]
noncomputable def m_X11_cheapest : ab_M := (c_X11_cheapest, [(0, [0, 1, 2]), (48, [0, 1, 2, 4]), (70, [0, 1, 2, 4, 5, 6]), (134, [0, 1, 2, 4, 5, 6])],
  [(20, 11, 4, 3), (27, 11, 6, 3), (34, 11, 8, 3), (242, 11, 9, 0)],
  [],
  [(146, 0, 3, g_X11_isIn), (159, 0, 1, g_X11_isDictionary), (165, 1, 1, g_X11_forget), (198, 0, 2, g_X11_lesser), (245, 1, 3, g_X11_gather)],
  [], 7, 1)
theorem one_X11_cheapest : ab_oneM m_X11_cheapest := List.forall_mem_cons.mpr ⟨o_X11_isIn, List.forall_mem_cons.mpr ⟨o_X11_isDictionary, List.forall_mem_cons.mpr ⟨o_X11_forget, List.forall_mem_cons.mpr ⟨o_X11_lesser, List.forall_mem_cons.mpr ⟨o_X11_gather, fun _ h => absurd h List.not_mem_nil⟩⟩⟩⟩⟩
noncomputable def f_X11_cheapest (l0 : Nat) (l1 : Int32) (l2 : Int32) (st : ab_S) : Option ab_R := ab_rc st l0 11 (ab_lim m_X11_cheapest 0 [.ref l0, .int l1, .int l2] [] st)
noncomputable def L_X11_cheapest_48 (l0 : Nat) (l1 : Int32) (l2 : Int32) (l4 : Int32) (st : ab_S) : Option ab_R := ab_lim m_X11_cheapest 48 [.ref l0, .int l1, .int l2, .int l4] [] st
noncomputable def L_X11_cheapest_70 (l0 : Nat) (l1 : Int32) (l2 : Int32) (l4 : Int32) (l5 : Int32) (l6 : Int32) (st : ab_S) : Option ab_R := ab_lim m_X11_cheapest 70 [.ref l0, .int l1, .int l2, .int l4, .int l5, .int l6] [] st
noncomputable def L_X11_cheapest_134 (l0 : Nat) (l1 : Int32) (l2 : Int32) (l4 : Int32) (l5 : Int32) (l6 : Int32) (st : ab_S) : Option ab_R := ab_lim m_X11_cheapest 134 [.ref l0, .int l1, .int l2, .int l4, .int l5, .int l6] [] st
noncomputable def g_X11_cheapest : ab_G := fun as st k => match as with
  | [.ref a0, .int a1, .int a2] => ab_ri (f_X11_cheapest a0 a1 a2 st) (fun x t => k [.int x] t)
  | _ => none
theorem o_X11_cheapest : ab_one g_X11_cheapest := by
  intro as st k r h
  unfold g_X11_cheapest at h ⊢
  split at h
  · exact one_ri h
  · cases h
set_option maxRecDepth 100000 in
theorem e_X11_cheapest_0 (l0 : Nat) (l1 : Int32) (l2 : Int32) (st : ab_S) : f_X11_cheapest l0 l1 l2 st =
    ab_rc st l0 11 (
    ab_ri (f_X11_isDictionary l1 st) fun x2 s1 =>
    if x2 = 0
    then some (some (.int (-2 : Int32)), s1)
    else ab_ri (f_X11_isIn l2.toInt64 (1 : Int64) (200 : Int64) s1) fun x4 s3 =>
      if x4 = 0
      then some (some (.int (-2 : Int32)), s3)
      else ab_ri (f_X11_forget l0 s3) fun x6 s5 =>
        Option.bind (ab_gR s5 l0 11 6) fun x7 =>
        Option.bind (ab_rB s5 x7 l1) fun x8 =>
        if x8 = 0
        then ab_rv (f_X11_gather l0 l1 x6 s5) fun s9 =>
          L_X11_cheapest_48 l0 l1 l2 (1 : Int32) s9
        else some (some (.int (-4 : Int32)), s5)) := congrArg (ab_rc st l0 11) ((lm_eq one_X11_cheapest 0 _ _ _).trans rfl)
set_option maxRecDepth 100000 in
theorem e_X11_cheapest_48 (l0 : Nat) (l1 : Int32) (l2 : Int32) (l4 : Int32) (st : ab_S) : L_X11_cheapest_48 l0 l1 l2 l4 st =
    Option.bind (ab_gI st l0 11 9) fun x1 =>
    if x1 ≤ l4
    then Option.bind (ab_gI st l0 11 9) fun x2 =>
      ab_rl (f_X11_lesser x2.toInt64 l2.toInt64 st) fun x4 s3 =>
      Option.bind (ab_pI s3 l0 11 9 x4.toInt32) fun s5 =>
      Option.bind (ab_gI s5 l0 11 9) fun x6 =>
      some (some (.int x6), s5)
    else Option.bind (ab_gR st l0 11 8) fun x7 =>
      Option.bind (ab_rI st x7 l4) fun x8 =>
      L_X11_cheapest_70 l0 l1 l2 l4 x8 l4 st := (lm_eq one_X11_cheapest 48 _ _ _).trans rfl
set_option maxRecDepth 100000 in
theorem e_X11_cheapest_70 (l0 : Nat) (l1 : Int32) (l2 : Int32) (l4 : Int32) (l5 : Int32) (l6 : Int32) (st : ab_S) : L_X11_cheapest_70 l0 l1 l2 l4 l5 l6 st =
    if l6 ≤ 0
    then L_X11_cheapest_134 l0 l1 l2 l4 l5 l6 st
    else Option.bind (ab_gR st l0 11 4) fun x1 =>
      Option.bind (ab_gR st l0 11 8) fun x2 =>
      Option.bind (ab_rI st x2 (l6 - (1 : Int32))) fun x3 =>
      Option.bind (ab_rJ st x1 (((200 : Int32) * l1) + x3)) fun x4 =>
      Option.bind (ab_gR st l0 11 4) fun x5 =>
      Option.bind (ab_rJ st x5 (((200 : Int32) * l1) + l5)) fun x6 =>
      if (lg_cmp x4 x6) ≤ 0
      then L_X11_cheapest_134 l0 l1 l2 l4 l5 l6 st
      else Option.bind (ab_gR st l0 11 8) fun x7 =>
        Option.bind (ab_gR st l0 11 8) fun x8 =>
        Option.bind (ab_rI st x8 (l6 - (1 : Int32))) fun x9 =>
        Option.bind (ab_wI st x7 l6 x9) fun s10 =>
        L_X11_cheapest_70 l0 l1 l2 l4 l5 (l6 + (-1 : Int32)) s10 := (lm_eq one_X11_cheapest 70 _ _ _).trans rfl
set_option maxRecDepth 100000 in
theorem e_X11_cheapest_134 (l0 : Nat) (l1 : Int32) (l2 : Int32) (l4 : Int32) (l5 : Int32) (l6 : Int32) (st : ab_S) : L_X11_cheapest_134 l0 l1 l2 l4 l5 l6 st =
    Option.bind (ab_gR st l0 11 8) fun x1 =>
    Option.bind (ab_wI st x1 l6 l5) fun s2 =>
    L_X11_cheapest_48 l0 l1 l2 (l4 + (1 : Int32)) s2 := (lm_eq one_X11_cheapest 134 _ _ _).trans rfl
def c_J_fill : List (Nat × ab_I) := [(0, .iconst 0, 1, (.int (0)), 0),
  (1, .istore_n 2, 1, .null, 2),
  (2, .aload_n 0, 1, .null, 0),
  (3, .arraylength, 1, .null, 0),
  (4, .istore_n 3, 1, .null, 3),
  (5, .iload_n 2, 1, .null, 2),
  (6, .iload_n 3, 1, .null, 3),
  (7, .if_icmp .ge (13), 3, .null, 20),
  (10, .aload_n 0, 1, .null, 0),
  (11, .iload_n 2, 1, .null, 2),
  (12, .iload_n 1, 1, .null, 1),
  (13, .iastore, 1, .null, 0),
  (14, .iinc 2 (1), 3, (.int (1)), 2),
  (17, .goto (-12), 3, .null, 5),
  (20, .return_, 1, .null, 0)]
noncomputable def m_J_fill : ab_M := (c_J_fill, [(0, [0, 1]), (5, [0, 1, 2, 3])],
  [],
  [],
  [],
  [], 4, 0)
theorem one_J_fill : ab_oneM m_J_fill := fun _ h => absurd h List.not_mem_nil
noncomputable def f_J_fill (l0 : Nat) (l1 : Int32) (st : ab_S) : Option ab_R := ab_lim m_J_fill 0 [.ref l0, .int l1] [] st
noncomputable def L_J_fill_5 (l0 : Nat) (l1 : Int32) (l2 : Int32) (l3 : Int32) (st : ab_S) : Option ab_R := ab_lim m_J_fill 5 [.ref l0, .int l1, .int l2, .int l3] [] st
noncomputable def g_J_fill : ab_G := fun as st k => match as with
  | [.ref a0, .int a1] => ab_rv (f_J_fill a0 a1 st) (fun t => k [] t)
  | _ => none
theorem o_J_fill : ab_one g_J_fill := by
  intro as st k r h
  unfold g_J_fill at h ⊢
  split at h
  · exact one_rv h
  · cases h
set_option maxRecDepth 100000 in
theorem e_J_fill_0 (l0 : Nat) (l1 : Int32) (st : ab_S) : f_J_fill l0 l1 st =
    Option.bind (ab_n st l0) fun n1 =>
    L_J_fill_5 l0 l1 (0 : Int32) (Int32.ofNat n1) st := (lm_eq one_J_fill 0 _ _ _).trans rfl
set_option maxRecDepth 100000 in
theorem e_J_fill_5 (l0 : Nat) (l1 : Int32) (l2 : Int32) (l3 : Int32) (st : ab_S) : L_J_fill_5 l0 l1 l2 l3 st =
    if l3 ≤ l2
    then some (none, st)
    else Option.bind (ab_wI st l0 l2 l1) fun s1 =>
      L_J_fill_5 l0 l1 (l2 + (1 : Int32)) l3 s1 := (lm_eq one_J_fill 5 _ _ _).trans rfl
def c_X4_become : List (Nat × ab_I) := [(0, .aload_n 0, 1, .null, 0),
  (1, .iload_n 1, 1, .null, 1),
  (2, .putfield 7, 3, .null, 0),
  (5, .aload_n 0, 1, .null, 0),
  (6, .iload_n 2, 1, .null, 2),
  (7, .putfield 13, 3, .null, 0),
  (10, .aload_n 0, 1, .null, 0),
  (11, .iload_n 3, 1, .null, 3),
  (12, .putfield 17, 3, .null, 0),
  (15, .return_, 1, .null, 0)]
noncomputable def m_X4_become : ab_M := (c_X4_become, [(0, [0, 1, 2, 3])],
  [(7, 4, 0, 1), (13, 4, 1, 0), (17, 4, 2, 0)],
  [],
  [],
  [], 4, 0)
theorem one_X4_become : ab_oneM m_X4_become := fun _ h => absurd h List.not_mem_nil
noncomputable def f_X4_become (l0 : Nat) (l1 : Int32) (l2 : Int32) (l3 : Int32) (st : ab_S) : Option ab_R := ab_rc st l0 4 (ab_lim m_X4_become 0 [.ref l0, .int l1, .int l2, .int l3] [] st)
noncomputable def g_X4_become : ab_G := fun as st k => match as with
  | [.ref a0, .int a1, .int a2, .int a3] => ab_rv (f_X4_become a0 a1 a2 a3 st) (fun t => k [] t)
  | _ => none
theorem o_X4_become : ab_one g_X4_become := by
  intro as st k r h
  unfold g_X4_become at h ⊢
  split at h
  · exact one_rv h
  · cases h
set_option maxRecDepth 100000 in
theorem e_X4_become_0 (l0 : Nat) (l1 : Int32) (l2 : Int32) (l3 : Int32) (st : ab_S) : f_X4_become l0 l1 l2 l3 st =
    ab_rc st l0 4 (
    Option.bind (ab_pZ st l0 4 0 l1) fun s1 =>
    Option.bind (ab_pI s1 l0 4 1 l2) fun s2 =>
    Option.bind (ab_pI s2 l0 4 2 l3) fun s3 =>
    some (none, s3)) := congrArg (ab_rc st l0 4) ((lm_eq one_X4_become 0 _ _ _).trans rfl)
def c_X5_startLevel : List (Nat × ab_I) := [(0, .aload_n 0, 1, .null, 0),
  (1, .getfield 23, 3, .null, 0),
  (4, .aload_n 0, 1, .null, 0),
  (5, .getfield 69, 3, .null, 0),
  (8, .aaload, 1, .null, 0),
  (9, .iconst 0, 1, (.int (0)), 0),
  (10, .iconst 0, 1, (.int (0)), 0),
  (11, .iconst 0, 1, (.int (0)), 0),
  (12, .invokevirtual 88, 3, .null, 0),
  (15, .aload_n 0, 1, .null, 0),
  (16, .getfield 27, 3, .null, 0),
  (19, .aload_n 0, 1, .null, 0),
  (20, .getfield 69, 3, .null, 0),
  (23, .aaload, 1, .null, 0),
  (24, .iconst 1, 1, (.int (1)), 0),
  (25, .iconst 0, 1, (.int (0)), 0),
  (26, .iconst 0, 1, (.int (0)), 0),
  (27, .invokevirtual 88, 3, .null, 0),
  (30, .return_, 1, .null, 0)]
noncomputable def m_X5_startLevel : ab_M := (c_X5_startLevel, [(0, [0])],
  [(23, 5, 3, 3), (27, 5, 4, 3), (69, 5, 7, 0)],
  [],
  [(88, 1, 4, g_X4_become)],
  [], 1, 0)
theorem one_X5_startLevel : ab_oneM m_X5_startLevel := List.forall_mem_cons.mpr ⟨o_X4_become, fun _ h => absurd h List.not_mem_nil⟩
noncomputable def f_X5_startLevel (l0 : Nat) (st : ab_S) : Option ab_R := ab_rc st l0 5 (ab_lim m_X5_startLevel 0 [.ref l0] [] st)
noncomputable def g_X5_startLevel : ab_G := fun as st k => match as with
  | [.ref a0] => ab_rv (f_X5_startLevel a0 st) (fun t => k [] t)
  | _ => none
theorem o_X5_startLevel : ab_one g_X5_startLevel := by
  intro as st k r h
  unfold g_X5_startLevel at h ⊢
  split at h
  · exact one_rv h
  · cases h
set_option maxRecDepth 100000 in
theorem e_X5_startLevel_0 (l0 : Nat) (st : ab_S) : f_X5_startLevel l0 st =
    ab_rc st l0 5 (
    Option.bind (ab_gR st l0 5 3) fun x1 =>
    Option.bind (ab_gI st l0 5 7) fun x2 =>
    Option.bind (ab_rR st x1 x2) fun x3 =>
    ab_rv (f_X4_become x3 (0 : Int32) (0 : Int32) (0 : Int32) st) fun s4 =>
    Option.bind (ab_gR s4 l0 5 4) fun x5 =>
    Option.bind (ab_gI s4 l0 5 7) fun x6 =>
    Option.bind (ab_rR s4 x5 x6) fun x7 =>
    ab_rv (f_X4_become x7 (1 : Int32) (0 : Int32) (0 : Int32) s4) fun s8 =>
    some (none, s8)) := congrArg (ab_rc st l0 5) ((lm_eq one_X5_startLevel 0 _ _ _).trans rfl)
def c_X5_start : List (Nat × ab_I) := [(0, .aload_n 0, 1, .null, 0),
  (1, .getfield 9, 3, .null, 0),
  (4, .iconst 0, 1, (.int (0)), 0),
  (5, .invokestatic 72, 3, .null, 0),
  (8, .aload_n 0, 1, .null, 0),
  (9, .getfield 15, 3, .null, 0),
  (12, .iconst 0, 1, (.int (0)), 0),
  (13, .invokestatic 72, 3, .null, 0),
  (16, .aload_n 0, 1, .null, 0),
  (17, .iconst 0, 1, (.int (0)), 0),
  (18, .putfield 78, 3, .null, 0),
  (21, .aload_n 0, 1, .null, 0),
  (22, .iconst (-1), 1, (.int (-1)), 0),
  (23, .putfield 62, 3, .null, 0),
  (26, .aload_n 0, 1, .null, 0),
  (27, .iconst 0, 1, (.int (0)), 0),
  (28, .putfield 81, 3, .null, 0),
  (31, .aload_n 0, 1, .null, 0),
  (32, .iconst 0, 1, (.int (0)), 0),
  (33, .putfield 69, 3, .null, 0),
  (36, .aload_n 0, 1, .null, 0),
  (37, .invokevirtual 85, 3, .null, 0),
  (40, .return_, 1, .null, 0)]
noncomputable def m_X5_start : ab_M := (c_X5_start, [(0, [0])],
  [(9, 5, 0, 3), (15, 5, 1, 3), (62, 5, 9, 0), (69, 5, 7, 0), (78, 5, 8, 0), (81, 5, 6, 1)],
  [],
  [(72, 0, 2, g_J_fill), (85, 1, 1, g_X5_startLevel)],
  [], 1, 0)
theorem one_X5_start : ab_oneM m_X5_start := List.forall_mem_cons.mpr ⟨o_J_fill, List.forall_mem_cons.mpr ⟨o_X5_startLevel, fun _ h => absurd h List.not_mem_nil⟩⟩
noncomputable def f_X5_start (l0 : Nat) (st : ab_S) : Option ab_R := ab_rc st l0 5 (ab_lim m_X5_start 0 [.ref l0] [] st)
noncomputable def g_X5_start : ab_G := fun as st k => match as with
  | [.ref a0] => ab_rv (f_X5_start a0 st) (fun t => k [] t)
  | _ => none
theorem o_X5_start : ab_one g_X5_start := by
  intro as st k r h
  unfold g_X5_start at h ⊢
  split at h
  · exact one_rv h
  · cases h
set_option maxRecDepth 100000 in
theorem e_X5_start_0 (l0 : Nat) (st : ab_S) : f_X5_start l0 st =
    ab_rc st l0 5 (
    Option.bind (ab_gR st l0 5 0) fun x1 =>
    ab_rv (f_J_fill x1 (0 : Int32) st) fun s2 =>
    Option.bind (ab_gR s2 l0 5 1) fun x3 =>
    ab_rv (f_J_fill x3 (0 : Int32) s2) fun s4 =>
    Option.bind (ab_pI s4 l0 5 8 (0 : Int32)) fun s5 =>
    Option.bind (ab_pI s5 l0 5 9 (-1 : Int32)) fun s6 =>
    Option.bind (ab_pZ s6 l0 5 6 (0 : Int32)) fun s7 =>
    Option.bind (ab_pI s7 l0 5 7 (0 : Int32)) fun s8 =>
    ab_rv (f_X5_startLevel l0 s8) fun s9 =>
    some (none, s9)) := congrArg (ab_rc st l0 5) ((lm_eq one_X5_start 0 _ _ _).trans rfl)
def c_X5_lead : List (Nat × ab_I) := [(0, .iconst 0, 1, (.int (0)), 0),
  (1, .istore_n 3, 1, .null, 3),
  (2, .iload_n 3, 1, .null, 3),
  (3, .aload_n 0, 1, .null, 0),
  (4, .getfield 78, 3, .null, 0),
  (7, .if_icmp .ge (33), 3, .null, 40),
  (10, .iload_n 3, 1, .null, 3),
  (11, .bipush (24), 2, (.int (24)), 0),
  (13, .if_icmp .ge (27), 3, .null, 40),
  (16, .iload_n 1, 1, .null, 1),
  (17, .iload_n 3, 1, .null, 3),
  (18, .iushr, 1, .null, 0),
  (19, .iconst 1, 1, (.int (1)), 0),
  (20, .iand, 1, .null, 0),
  (21, .ifCond .eq (13), 3, .null, 34),
  (24, .aload_n 0, 1, .null, 0),
  (25, .getfield 15, 3, .null, 0),
  (28, .iload_n 3, 1, .null, 3),
  (29, .dup2, 1, .null, 0),
  (30, .iaload, 1, .null, 0),
  (31, .iload_n 2, 1, .null, 2),
  (32, .ior, 1, .null, 0),
  (33, .iastore, 1, .null, 0),
  (34, .iinc 3 (1), 3, (.int (1)), 3),
  (37, .goto (-35), 3, .null, 2),
  (40, .return_, 1, .null, 0)]
noncomputable def m_X5_lead : ab_M := (c_X5_lead, [(0, [0, 1, 2]), (2, [0, 1, 2, 3]), (34, [0, 1, 2, 3])],
  [(15, 5, 1, 3), (78, 5, 8, 0)],
  [],
  [],
  [], 4, 0)
theorem one_X5_lead : ab_oneM m_X5_lead := fun _ h => absurd h List.not_mem_nil
noncomputable def f_X5_lead (l0 : Nat) (l1 : Int32) (l2 : Int32) (st : ab_S) : Option ab_R := ab_rc st l0 5 (ab_lim m_X5_lead 0 [.ref l0, .int l1, .int l2] [] st)
noncomputable def L_X5_lead_2 (l0 : Nat) (l1 : Int32) (l2 : Int32) (l3 : Int32) (st : ab_S) : Option ab_R := ab_lim m_X5_lead 2 [.ref l0, .int l1, .int l2, .int l3] [] st
noncomputable def L_X5_lead_34 (l0 : Nat) (l1 : Int32) (l2 : Int32) (l3 : Int32) (st : ab_S) : Option ab_R := ab_lim m_X5_lead 34 [.ref l0, .int l1, .int l2, .int l3] [] st
noncomputable def g_X5_lead : ab_G := fun as st k => match as with
  | [.ref a0, .int a1, .int a2] => ab_rv (f_X5_lead a0 a1 a2 st) (fun t => k [] t)
  | _ => none
theorem o_X5_lead : ab_one g_X5_lead := by
  intro as st k r h
  unfold g_X5_lead at h ⊢
  split at h
  · exact one_rv h
  · cases h
set_option maxRecDepth 100000 in
theorem e_X5_lead_0 (l0 : Nat) (l1 : Int32) (l2 : Int32) (st : ab_S) : f_X5_lead l0 l1 l2 st =
    ab_rc st l0 5 (
    L_X5_lead_2 l0 l1 l2 (0 : Int32) st) := congrArg (ab_rc st l0 5) ((lm_eq one_X5_lead 0 _ _ _).trans rfl)
set_option maxRecDepth 100000 in
theorem e_X5_lead_2 (l0 : Nat) (l1 : Int32) (l2 : Int32) (l3 : Int32) (st : ab_S) : L_X5_lead_2 l0 l1 l2 l3 st =
    Option.bind (ab_gI st l0 5 8) fun x1 =>
    if x1 ≤ l3
    then some (none, st)
    else if (24 : Int32) ≤ l3
      then some (none, st)
      else if ((l1.toUInt32 >>> (l3.toUInt32 &&& Int32.toUInt32 31)).toInt32 &&& (1 : Int32)) = 0
        then L_X5_lead_34 l0 l1 l2 l3 st
        else Option.bind (ab_gR st l0 5 1) fun x2 =>
          Option.bind (ab_rI st x2 l3) fun x3 =>
          Option.bind (ab_wI st x2 l3 (x3 ||| l2)) fun s4 =>
          L_X5_lead_34 l0 l1 l2 l3 s4 := (lm_eq one_X5_lead 2 _ _ _).trans rfl
set_option maxRecDepth 100000 in
theorem e_X5_lead_34 (l0 : Nat) (l1 : Int32) (l2 : Int32) (l3 : Int32) (st : ab_S) : L_X5_lead_34 l0 l1 l2 l3 st =
    L_X5_lead_2 l0 l1 l2 (l3 + (1 : Int32)) st := (lm_eq one_X5_lead 34 _ _ _).trans rfl
def c_X5_repeat : List (Nat × ab_I) := [(0, .iload_n 1, 1, .null, 1),
  (1, .bipush (63), 2, (.int (63)), 0),
  (3, .if_icmp .eq (21), 3, .null, 24),
  (6, .aload_n 0, 1, .null, 0),
  (7, .aload_n 0, 1, .null, 0),
  (8, .getfield 31, 3, .null, 0),
  (11, .getfield 116, 3, .null, 0),
  (14, .aload_n 0, 1, .null, 0),
  (15, .getfield 31, 3, .null, 0),
  (18, .getfield 113, 3, .null, 0),
  (21, .invokevirtual 138, 3, .null, 0),
  (24, .iload_n 1, 1, .null, 1),
  (25, .bipush (43), 2, (.int (43)), 0),
  (27, .if_icmp .eq (11), 3, .null, 38),
  (30, .aload_n 0, 1, .null, 0),
  (31, .getfield 31, 3, .null, 0),
  (34, .iconst 1, 1, (.int (1)), 0),
  (35, .putfield 110, 3, .null, 0),
  (38, .return_, 1, .null, 0)]
noncomputable def m_X5_repeat : ab_M := (c_X5_repeat, [(0, [0, 1]), (24, [0, 1])],
  [(31, 5, 5, 3), (110, 4, 0, 1), (113, 4, 1, 0), (116, 4, 2, 0)],
  [],
  [(138, 1, 3, g_X5_lead)],
  [], 2, 0)
theorem one_X5_repeat : ab_oneM m_X5_repeat := List.forall_mem_cons.mpr ⟨o_X5_lead, fun _ h => absurd h List.not_mem_nil⟩
noncomputable def f_X5_repeat (l0 : Nat) (l1 : Int32) (st : ab_S) : Option ab_R := ab_rc st l0 5 (ab_lim m_X5_repeat 0 [.ref l0, .int l1] [] st)
noncomputable def L_X5_repeat_24 (l0 : Nat) (l1 : Int32) (st : ab_S) : Option ab_R := ab_lim m_X5_repeat 24 [.ref l0, .int l1] [] st
noncomputable def g_X5_repeat : ab_G := fun as st k => match as with
  | [.ref a0, .int a1] => ab_rv (f_X5_repeat a0 a1 st) (fun t => k [] t)
  | _ => none
theorem o_X5_repeat : ab_one g_X5_repeat := by
  intro as st k r h
  unfold g_X5_repeat at h ⊢
  split at h
  · exact one_rv h
  · cases h
set_option maxRecDepth 100000 in
theorem e_X5_repeat_0 (l0 : Nat) (l1 : Int32) (st : ab_S) : f_X5_repeat l0 l1 st =
    ab_rc st l0 5 (
    if l1 = (63 : Int32)
    then L_X5_repeat_24 l0 l1 st
    else Option.bind (ab_gR st l0 5 5) fun x1 =>
      Option.bind (ab_gI st x1 4 2) fun x2 =>
      Option.bind (ab_gR st l0 5 5) fun x3 =>
      Option.bind (ab_gI st x3 4 1) fun x4 =>
      ab_rv (f_X5_lead l0 x2 x4 st) fun s5 =>
      L_X5_repeat_24 l0 l1 s5) := congrArg (ab_rc st l0 5) ((lm_eq one_X5_repeat 0 _ _ _).trans rfl)
set_option maxRecDepth 100000 in
theorem e_X5_repeat_24 (l0 : Nat) (l1 : Int32) (st : ab_S) : L_X5_repeat_24 l0 l1 st =
    if l1 = (43 : Int32)
    then some (none, st)
    else Option.bind (ab_gR st l0 5 5) fun x1 =>
      Option.bind (ab_pZ st x1 4 0 (1 : Int32)) fun s2 =>
      some (none, s2) := (lm_eq one_X5_repeat 24 _ _ _).trans rfl
def c_X5_settlePiece : List (Nat × ab_I) := [(0, .aload_n 0, 1, .null, 0),
  (1, .getfield 81, 3, .null, 0),
  (4, .ifCond .ne (4), 3, .null, 8),
  (7, .return_, 1, .null, 0),
  (8, .aload_n 0, 1, .null, 0),
  (9, .iconst 0, 1, (.int (0)), 0),
  (10, .putfield 81, 3, .null, 0),
  (13, .aload_n 0, 1, .null, 0),
  (14, .getfield 27, 3, .null, 0),
  (17, .aload_n 0, 1, .null, 0),
  (18, .getfield 69, 3, .null, 0),
  (21, .aaload, 1, .null, 0),
  (22, .astore_n 1, 1, .null, 1),
  (23, .aload_n 0, 1, .null, 0),
  (24, .aload_n 1, 1, .null, 1),
  (25, .getfield 116, 3, .null, 0),
  (28, .aload_n 0, 1, .null, 0),
  (29, .getfield 31, 3, .null, 0),
  (32, .getfield 113, 3, .null, 0),
  (35, .invokevirtual 138, 3, .null, 0),
  (38, .aload_n 1, 1, .null, 1),
  (39, .getfield 110, 3, .null, 0),
  (42, .ifCond .eq (18), 3, .null, 60),
  (45, .aload_n 1, 1, .null, 1),
  (46, .getfield 113, 3, .null, 0),
  (49, .aload_n 0, 1, .null, 0),
  (50, .getfield 31, 3, .null, 0),
  (53, .getfield 113, 3, .null, 0),
  (56, .ior, 1, .null, 0),
  (57, .goto (7), 3, .null, 64),
  (60, .aload_n 1, 1, .null, 1),
  (61, .getfield 113, 3, .null, 0),
  (64, .istore_n 2, 1, .null, 2),
  (65, .aload_n 0, 1, .null, 0),
  (66, .getfield 31, 3, .null, 0),
  (69, .getfield 110, 3, .null, 0),
  (72, .ifCond .eq (18), 3, .null, 90),
  (75, .aload_n 1, 1, .null, 1),
  (76, .getfield 116, 3, .null, 0),
  (79, .aload_n 0, 1, .null, 0),
  (80, .getfield 31, 3, .null, 0),
  (83, .getfield 116, 3, .null, 0),
  (86, .ior, 1, .null, 0),
  (87, .goto (10), 3, .null, 97),
  (90, .aload_n 0, 1, .null, 0),
  (91, .getfield 31, 3, .null, 0),
  (94, .getfield 116, 3, .null, 0),
  (97, .istore_n 3, 1, .null, 3),
  (98, .aload_n 1, 1, .null, 1),
  (99, .aload_n 1, 1, .null, 1),
  (100, .getfield 110, 3, .null, 0),
  (103, .ifCond .eq (17), 3, .null, 120),
  (106, .aload_n 0, 1, .null, 0),
  (107, .getfield 31, 3, .null, 0),
  (110, .getfield 110, 3, .null, 0),
  (113, .ifCond .eq (7), 3, .null, 120),
  (116, .iconst 1, 1, (.int (1)), 0),
  (117, .goto (4), 3, .null, 121),
  (120, .iconst 0, 1, (.int (0)), 0),
  (121, .iload_n 2, 1, .null, 2),
  (122, .iload_n 3, 1, .null, 3),
  (123, .invokevirtual 88, 3, .null, 0),
  (126, .return_, 1, .null, 0)]
noncomputable def m_X5_settlePiece : ab_M := (c_X5_settlePiece, [(0, [0]), (64, [0, 1]), (97, [0, 1, 2]), (120, [2, 3]), (121, [2, 3])],
  [(27, 5, 4, 3), (31, 5, 5, 3), (69, 5, 7, 0), (81, 5, 6, 1), (110, 4, 0, 1), (113, 4, 1, 0), (116, 4, 2, 0)],
  [],
  [(88, 1, 4, g_X4_become), (138, 1, 3, g_X5_lead)],
  [], 4, 0)
theorem one_X5_settlePiece : ab_oneM m_X5_settlePiece := List.forall_mem_cons.mpr ⟨o_X4_become, List.forall_mem_cons.mpr ⟨o_X5_lead, fun _ h => absurd h List.not_mem_nil⟩⟩
noncomputable def f_X5_settlePiece (l0 : Nat) (st : ab_S) : Option ab_R := ab_rc st l0 5 (ab_lim m_X5_settlePiece 0 [.ref l0] [] st)
noncomputable def L_X5_settlePiece_64 (l0 : Nat) (l1 : Nat) (t0 : Int32) (st : ab_S) : Option ab_R := ab_lim m_X5_settlePiece 64 [.ref l0, .ref l1] [.int t0] st
noncomputable def L_X5_settlePiece_97 (l0 : Nat) (l1 : Nat) (l2 : Int32) (t0 : Int32) (st : ab_S) : Option ab_R := ab_lim m_X5_settlePiece 97 [.ref l0, .ref l1, .int l2] [.int t0] st
noncomputable def L_X5_settlePiece_120 (l2 : Int32) (l3 : Int32) (t0 : Nat) (st : ab_S) : Option ab_R := ab_lim m_X5_settlePiece 120 [.int l2, .int l3] [.ref t0] st
noncomputable def L_X5_settlePiece_121 (l2 : Int32) (l3 : Int32) (t0 : Nat) (t1 : Int32) (st : ab_S) : Option ab_R := ab_lim m_X5_settlePiece 121 [.int l2, .int l3] [.int t1, .ref t0] st
noncomputable def g_X5_settlePiece : ab_G := fun as st k => match as with
  | [.ref a0] => ab_rv (f_X5_settlePiece a0 st) (fun t => k [] t)
  | _ => none
theorem o_X5_settlePiece : ab_one g_X5_settlePiece := by
  intro as st k r h
  unfold g_X5_settlePiece at h ⊢
  split at h
  · exact one_rv h
  · cases h
set_option maxRecDepth 100000 in
theorem e_X5_settlePiece_0 (l0 : Nat) (st : ab_S) : f_X5_settlePiece l0 st =
    ab_rc st l0 5 (
    Option.bind (ab_gI st l0 5 6) fun x1 =>
    if x1 = 0
    then some (none, st)
    else Option.bind (ab_pZ st l0 5 6 (0 : Int32)) fun s2 =>
      Option.bind (ab_gR s2 l0 5 4) fun x3 =>
      Option.bind (ab_gI s2 l0 5 7) fun x4 =>
      Option.bind (ab_rR s2 x3 x4) fun x5 =>
      Option.bind (ab_gI s2 x5 4 2) fun x6 =>
      Option.bind (ab_gR s2 l0 5 5) fun x7 =>
      Option.bind (ab_gI s2 x7 4 1) fun x8 =>
      ab_rv (f_X5_lead l0 x6 x8 s2) fun s9 =>
      Option.bind (ab_gI s9 x5 4 0) fun x10 =>
      if x10 = 0
      then Option.bind (ab_gI s9 x5 4 1) fun x11 =>
        L_X5_settlePiece_64 l0 x5 x11 s9
      else Option.bind (ab_gI s9 x5 4 1) fun x12 =>
        Option.bind (ab_gR s9 l0 5 5) fun x13 =>
        Option.bind (ab_gI s9 x13 4 1) fun x14 =>
        L_X5_settlePiece_64 l0 x5 (x12 ||| x14) s9) := congrArg (ab_rc st l0 5) ((lm_eq one_X5_settlePiece 0 _ _ _).trans rfl)
set_option maxRecDepth 100000 in
theorem e_X5_settlePiece_64 (l0 : Nat) (l1 : Nat) (t0 : Int32) (st : ab_S) : L_X5_settlePiece_64 l0 l1 t0 st =
    Option.bind (ab_gR st l0 5 5) fun x1 =>
    Option.bind (ab_gI st x1 4 0) fun x2 =>
    if x2 = 0
    then Option.bind (ab_gR st l0 5 5) fun x3 =>
      Option.bind (ab_gI st x3 4 2) fun x4 =>
      L_X5_settlePiece_97 l0 l1 t0 x4 st
    else Option.bind (ab_gI st l1 4 2) fun x5 =>
      Option.bind (ab_gR st l0 5 5) fun x6 =>
      Option.bind (ab_gI st x6 4 2) fun x7 =>
      L_X5_settlePiece_97 l0 l1 t0 (x5 ||| x7) st := (lm_eq one_X5_settlePiece 64 _ _ _).trans rfl
set_option maxRecDepth 100000 in
theorem e_X5_settlePiece_97 (l0 : Nat) (l1 : Nat) (l2 : Int32) (t0 : Int32) (st : ab_S) : L_X5_settlePiece_97 l0 l1 l2 t0 st =
    Option.bind (ab_gI st l1 4 0) fun x1 =>
    if x1 = 0
    then L_X5_settlePiece_120 l2 t0 l1 st
    else Option.bind (ab_gR st l0 5 5) fun x2 =>
      Option.bind (ab_gI st x2 4 0) fun x3 =>
      if x3 = 0
      then L_X5_settlePiece_120 l2 t0 l1 st
      else L_X5_settlePiece_121 l2 t0 l1 (1 : Int32) st := (lm_eq one_X5_settlePiece 97 _ _ _).trans rfl
set_option maxRecDepth 100000 in
theorem e_X5_settlePiece_120 (l2 : Int32) (l3 : Int32) (t0 : Nat) (st : ab_S) : L_X5_settlePiece_120 l2 l3 t0 st =
    L_X5_settlePiece_121 l2 l3 t0 (0 : Int32) st := (lm_eq one_X5_settlePiece 120 _ _ _).trans rfl
set_option maxRecDepth 100000 in
theorem e_X5_settlePiece_121 (l2 : Int32) (l3 : Int32) (t0 : Nat) (t1 : Int32) (st : ab_S) : L_X5_settlePiece_121 l2 l3 t0 t1 st =
    ab_rv (f_X4_become t0 t1 l2 l3 st) fun s1 =>
    some (none, s1) := (lm_eq one_X5_settlePiece 121 _ _ _).trans rfl
def c_X5_readRepeat : List (Nat × ab_I) := [(0, .aload_n 0, 1, .null, 0),
  (1, .getfield 81, 3, .null, 0),
  (4, .ifCond .eq (15), 3, .null, 19),
  (7, .aload_n 0, 1, .null, 0),
  (8, .iload_n 1, 1, .null, 1),
  (9, .invokevirtual 52, 3, .null, 0),
  (12, .aload_n 0, 1, .null, 0),
  (13, .invokevirtual 56, 3, .null, 0),
  (16, .goto (8), 3, .null, 24),
  (19, .aload_n 0, 1, .null, 0),
  (20, .iload_n 2, 1, .null, 2),
  (21, .putfield 62, 3, .null, 0),
  (24, .return_, 1, .null, 0)]
noncomputable def m_X5_readRepeat : ab_M := (c_X5_readRepeat, [(0, [0, 1, 2])],
  [(62, 5, 9, 0), (81, 5, 6, 1)],
  [],
  [(52, 1, 2, g_X5_repeat), (56, 1, 1, g_X5_settlePiece)],
  [], 3, 0)
theorem one_X5_readRepeat : ab_oneM m_X5_readRepeat := List.forall_mem_cons.mpr ⟨o_X5_repeat, List.forall_mem_cons.mpr ⟨o_X5_settlePiece, fun _ h => absurd h List.not_mem_nil⟩⟩
noncomputable def f_X5_readRepeat (l0 : Nat) (l1 : Int32) (l2 : Int32) (st : ab_S) : Option ab_R := ab_rc st l0 5 (ab_lim m_X5_readRepeat 0 [.ref l0, .int l1, .int l2] [] st)
noncomputable def g_X5_readRepeat : ab_G := fun as st k => match as with
  | [.ref a0, .int a1, .int a2] => ab_rv (f_X5_readRepeat a0 a1 a2 st) (fun t => k [] t)
  | _ => none
theorem o_X5_readRepeat : ab_one g_X5_readRepeat := by
  intro as st k r h
  unfold g_X5_readRepeat at h ⊢
  split at h
  · exact one_rv h
  · cases h
set_option maxRecDepth 100000 in
theorem e_X5_readRepeat_0 (l0 : Nat) (l1 : Int32) (l2 : Int32) (st : ab_S) : f_X5_readRepeat l0 l1 l2 st =
    ab_rc st l0 5 (
    Option.bind (ab_gI st l0 5 6) fun x1 =>
    if x1 = 0
    then Option.bind (ab_pI st l0 5 9 l2) fun s2 =>
      some (none, s2)
    else ab_rv (f_X5_repeat l0 l1 st) fun s3 =>
      ab_rv (f_X5_settlePiece l0 s3) fun s4 =>
      some (none, s4)) := congrArg (ab_rc st l0 5) ((lm_eq one_X5_readRepeat 0 _ _ _).trans rfl)
def c_X5_settleSequence : List (Nat × ab_I) := [(0, .aload_n 0, 1, .null, 0),
  (1, .getfield 23, 3, .null, 0),
  (4, .aload_n 0, 1, .null, 0),
  (5, .getfield 69, 3, .null, 0),
  (8, .aaload, 1, .null, 0),
  (9, .astore_n 1, 1, .null, 1),
  (10, .aload_n 0, 1, .null, 0),
  (11, .getfield 27, 3, .null, 0),
  (14, .aload_n 0, 1, .null, 0),
  (15, .getfield 69, 3, .null, 0),
  (18, .aaload, 1, .null, 0),
  (19, .astore_n 2, 1, .null, 2),
  (20, .aload_n 1, 1, .null, 1),
  (21, .aload_n 1, 1, .null, 1),
  (22, .getfield 110, 3, .null, 0),
  (25, .ifCond .ne (10), 3, .null, 35),
  (28, .aload_n 2, 1, .null, 2),
  (29, .getfield 110, 3, .null, 0),
  (32, .ifCond .eq (7), 3, .null, 39),
  (35, .iconst 1, 1, (.int (1)), 0),
  (36, .goto (4), 3, .null, 40),
  (39, .iconst 0, 1, (.int (0)), 0),
  (40, .aload_n 1, 1, .null, 1),
  (41, .getfield 113, 3, .null, 0),
  (44, .aload_n 2, 1, .null, 2),
  (45, .getfield 113, 3, .null, 0),
  (48, .ior, 1, .null, 0),
  (49, .aload_n 1, 1, .null, 1),
  (50, .getfield 116, 3, .null, 0),
  (53, .aload_n 2, 1, .null, 2),
  (54, .getfield 116, 3, .null, 0),
  (57, .ior, 1, .null, 0),
  (58, .invokevirtual 88, 3, .null, 0),
  (61, .aload_n 2, 1, .null, 2),
  (62, .iconst 1, 1, (.int (1)), 0),
  (63, .iconst 0, 1, (.int (0)), 0),
  (64, .iconst 0, 1, (.int (0)), 0),
  (65, .invokevirtual 88, 3, .null, 0),
  (68, .return_, 1, .null, 0)]
noncomputable def m_X5_settleSequence : ab_M := (c_X5_settleSequence, [(0, [0]), (35, [1, 2]), (40, [1, 2])],
  [(23, 5, 3, 3), (27, 5, 4, 3), (69, 5, 7, 0), (110, 4, 0, 1), (113, 4, 1, 0), (116, 4, 2, 0)],
  [],
  [(88, 1, 4, g_X4_become)],
  [], 3, 0)
theorem one_X5_settleSequence : ab_oneM m_X5_settleSequence := List.forall_mem_cons.mpr ⟨o_X4_become, fun _ h => absurd h List.not_mem_nil⟩
noncomputable def f_X5_settleSequence (l0 : Nat) (st : ab_S) : Option ab_R := ab_rc st l0 5 (ab_lim m_X5_settleSequence 0 [.ref l0] [] st)
noncomputable def L_X5_settleSequence_35 (l1 : Nat) (l2 : Nat) (t0 : Nat) (st : ab_S) : Option ab_R := ab_lim m_X5_settleSequence 35 [.ref l1, .ref l2] [.ref t0] st
noncomputable def L_X5_settleSequence_40 (l1 : Nat) (l2 : Nat) (t0 : Nat) (t1 : Int32) (st : ab_S) : Option ab_R := ab_lim m_X5_settleSequence 40 [.ref l1, .ref l2] [.int t1, .ref t0] st
noncomputable def g_X5_settleSequence : ab_G := fun as st k => match as with
  | [.ref a0] => ab_rv (f_X5_settleSequence a0 st) (fun t => k [] t)
  | _ => none
theorem o_X5_settleSequence : ab_one g_X5_settleSequence := by
  intro as st k r h
  unfold g_X5_settleSequence at h ⊢
  split at h
  · exact one_rv h
  · cases h
set_option maxRecDepth 100000 in
theorem e_X5_settleSequence_0 (l0 : Nat) (st : ab_S) : f_X5_settleSequence l0 st =
    ab_rc st l0 5 (
    Option.bind (ab_gR st l0 5 3) fun x1 =>
    Option.bind (ab_gI st l0 5 7) fun x2 =>
    Option.bind (ab_rR st x1 x2) fun x3 =>
    Option.bind (ab_gR st l0 5 4) fun x4 =>
    Option.bind (ab_gI st l0 5 7) fun x5 =>
    Option.bind (ab_rR st x4 x5) fun x6 =>
    Option.bind (ab_gI st x3 4 0) fun x7 =>
    if x7 = 0
    then Option.bind (ab_gI st x6 4 0) fun x8 =>
      if x8 = 0
      then L_X5_settleSequence_40 x3 x6 x3 (0 : Int32) st
      else L_X5_settleSequence_35 x3 x6 x3 st
    else L_X5_settleSequence_35 x3 x6 x3 st) := congrArg (ab_rc st l0 5) ((lm_eq one_X5_settleSequence 0 _ _ _).trans rfl)
set_option maxRecDepth 100000 in
theorem e_X5_settleSequence_35 (l1 : Nat) (l2 : Nat) (t0 : Nat) (st : ab_S) : L_X5_settleSequence_35 l1 l2 t0 st =
    L_X5_settleSequence_40 l1 l2 t0 (1 : Int32) st := (lm_eq one_X5_settleSequence 35 _ _ _).trans rfl
set_option maxRecDepth 100000 in
theorem e_X5_settleSequence_40 (l1 : Nat) (l2 : Nat) (t0 : Nat) (t1 : Int32) (st : ab_S) : L_X5_settleSequence_40 l1 l2 t0 t1 st =
    Option.bind (ab_gI st l1 4 1) fun x1 =>
    Option.bind (ab_gI st l2 4 1) fun x2 =>
    Option.bind (ab_gI st l1 4 2) fun x3 =>
    Option.bind (ab_gI st l2 4 2) fun x4 =>
    ab_rv (f_X4_become t0 t1 (x1 ||| x2) (x3 ||| x4) st) fun s5 =>
    ab_rv (f_X4_become l2 (1 : Int32) (0 : Int32) (0 : Int32) s5) fun s6 =>
    some (none, s6) := (lm_eq one_X5_settleSequence 40 _ _ _).trans rfl
def c_X5_openBracket : List (Nat × ab_I) := [(0, .aload_n 0, 1, .null, 0),
  (1, .getfield 69, 3, .null, 0),
  (4, .iconst 4, 1, (.int (4)), 0),
  (5, .if_icmp .lt (9), 3, .null, 14),
  (8, .aload_n 0, 1, .null, 0),
  (9, .iload_n 1, 1, .null, 1),
  (10, .putfield 62, 3, .null, 0),
  (13, .return_, 1, .null, 0),
  (14, .aload_n 0, 1, .null, 0),
  (15, .dup, 1, .null, 0),
  (16, .getfield 69, 3, .null, 0),
  (19, .iconst 1, 1, (.int (1)), 0),
  (20, .iadd, 1, .null, 0),
  (21, .putfield 69, 3, .null, 0),
  (24, .aload_n 0, 1, .null, 0),
  (25, .invokevirtual 85, 3, .null, 0),
  (28, .return_, 1, .null, 0)]
noncomputable def m_X5_openBracket : ab_M := (c_X5_openBracket, [(0, [0, 1])],
  [(62, 5, 9, 0), (69, 5, 7, 0)],
  [],
  [(85, 1, 1, g_X5_startLevel)],
  [], 2, 0)
theorem one_X5_openBracket : ab_oneM m_X5_openBracket := List.forall_mem_cons.mpr ⟨o_X5_startLevel, fun _ h => absurd h List.not_mem_nil⟩
noncomputable def f_X5_openBracket (l0 : Nat) (l1 : Int32) (st : ab_S) : Option ab_R := ab_rc st l0 5 (ab_lim m_X5_openBracket 0 [.ref l0, .int l1] [] st)
noncomputable def g_X5_openBracket : ab_G := fun as st k => match as with
  | [.ref a0, .int a1] => ab_rv (f_X5_openBracket a0 a1 st) (fun t => k [] t)
  | _ => none
theorem o_X5_openBracket : ab_one g_X5_openBracket := by
  intro as st k r h
  unfold g_X5_openBracket at h ⊢
  split at h
  · exact one_rv h
  · cases h
set_option maxRecDepth 100000 in
theorem e_X5_openBracket_0 (l0 : Nat) (l1 : Int32) (st : ab_S) : f_X5_openBracket l0 l1 st =
    ab_rc st l0 5 (
    Option.bind (ab_gI st l0 5 7) fun x1 =>
    if x1 < (4 : Int32)
    then Option.bind (ab_gI st l0 5 7) fun x2 =>
      Option.bind (ab_pI st l0 5 7 (x2 + (1 : Int32))) fun s3 =>
      ab_rv (f_X5_startLevel l0 s3) fun s4 =>
      some (none, s4)
    else Option.bind (ab_pI st l0 5 9 l1) fun s5 =>
      some (none, s5)) := congrArg (ab_rc st l0 5) ((lm_eq one_X5_openBracket 0 _ _ _).trans rfl)
def c_X5_closeBracket : List (Nat × ab_I) := [(0, .aload_n 0, 1, .null, 0),
  (1, .getfield 69, 3, .null, 0),
  (4, .ifCond .gt (9), 3, .null, 13),
  (7, .aload_n 0, 1, .null, 0),
  (8, .iload_n 1, 1, .null, 1),
  (9, .putfield 62, 3, .null, 0),
  (12, .return_, 1, .null, 0),
  (13, .aload_n 0, 1, .null, 0),
  (14, .invokevirtual 59, 3, .null, 0),
  (17, .aload_n 0, 1, .null, 0),
  (18, .getfield 23, 3, .null, 0),
  (21, .aload_n 0, 1, .null, 0),
  (22, .getfield 69, 3, .null, 0),
  (25, .aaload, 1, .null, 0),
  (26, .astore_n 2, 1, .null, 2),
  (27, .aload_n 0, 1, .null, 0),
  (28, .dup, 1, .null, 0),
  (29, .getfield 69, 3, .null, 0),
  (32, .iconst 1, 1, (.int (1)), 0),
  (33, .isub, 1, .null, 0),
  (34, .putfield 69, 3, .null, 0),
  (37, .aload_n 0, 1, .null, 0),
  (38, .getfield 31, 3, .null, 0),
  (41, .aload_n 2, 1, .null, 2),
  (42, .getfield 110, 3, .null, 0),
  (45, .aload_n 2, 1, .null, 2),
  (46, .getfield 113, 3, .null, 0),
  (49, .aload_n 2, 1, .null, 2),
  (50, .getfield 116, 3, .null, 0),
  (53, .invokevirtual 88, 3, .null, 0),
  (56, .aload_n 0, 1, .null, 0),
  (57, .iconst 1, 1, (.int (1)), 0),
  (58, .putfield 81, 3, .null, 0),
  (61, .return_, 1, .null, 0)]
noncomputable def m_X5_closeBracket : ab_M := (c_X5_closeBracket, [(0, [0, 1])],
  [(23, 5, 3, 3), (31, 5, 5, 3), (62, 5, 9, 0), (69, 5, 7, 0), (81, 5, 6, 1), (110, 4, 0, 1), (113, 4, 1, 0), (116, 4, 2, 0)],
  [],
  [(59, 1, 1, g_X5_settleSequence), (88, 1, 4, g_X4_become)],
  [], 3, 0)
theorem one_X5_closeBracket : ab_oneM m_X5_closeBracket := List.forall_mem_cons.mpr ⟨o_X5_settleSequence, List.forall_mem_cons.mpr ⟨o_X4_become, fun _ h => absurd h List.not_mem_nil⟩⟩
noncomputable def f_X5_closeBracket (l0 : Nat) (l1 : Int32) (st : ab_S) : Option ab_R := ab_rc st l0 5 (ab_lim m_X5_closeBracket 0 [.ref l0, .int l1] [] st)
noncomputable def g_X5_closeBracket : ab_G := fun as st k => match as with
  | [.ref a0, .int a1] => ab_rv (f_X5_closeBracket a0 a1 st) (fun t => k [] t)
  | _ => none
theorem o_X5_closeBracket : ab_one g_X5_closeBracket := by
  intro as st k r h
  unfold g_X5_closeBracket at h ⊢
  split at h
  · exact one_rv h
  · cases h
set_option maxRecDepth 100000 in
theorem e_X5_closeBracket_0 (l0 : Nat) (l1 : Int32) (st : ab_S) : f_X5_closeBracket l0 l1 st =
    ab_rc st l0 5 (
    Option.bind (ab_gI st l0 5 7) fun x1 =>
    if 0 < x1
    then ab_rv (f_X5_settleSequence l0 st) fun s2 =>
      Option.bind (ab_gR s2 l0 5 3) fun x3 =>
      Option.bind (ab_gI s2 l0 5 7) fun x4 =>
      Option.bind (ab_rR s2 x3 x4) fun x5 =>
      Option.bind (ab_gI s2 l0 5 7) fun x6 =>
      Option.bind (ab_pI s2 l0 5 7 (x6 - (1 : Int32))) fun s7 =>
      Option.bind (ab_gR s7 l0 5 5) fun x8 =>
      Option.bind (ab_gI s7 x5 4 0) fun x9 =>
      Option.bind (ab_gI s7 x5 4 1) fun x10 =>
      Option.bind (ab_gI s7 x5 4 2) fun x11 =>
      ab_rv (f_X4_become x8 x9 x10 x11 s7) fun s12 =>
      Option.bind (ab_pZ s12 l0 5 6 (1 : Int32)) fun s13 =>
      some (none, s13)
    else Option.bind (ab_pI st l0 5 9 l1) fun s14 =>
      some (none, s14)) := congrArg (ab_rc st l0 5) ((lm_eq one_X5_closeBracket 0 _ _ _).trans rfl)
def c_X5_newPlace : List (Nat × ab_I) := [(0, .aload_n 0, 1, .null, 0),
  (1, .getfield 78, 3, .null, 0),
  (4, .bipush (24), 2, (.int (24)), 0),
  (6, .if_icmp .ge (12), 3, .null, 18),
  (9, .iconst 1, 1, (.int (1)), 0),
  (10, .aload_n 0, 1, .null, 0),
  (11, .getfield 78, 3, .null, 0),
  (14, .ishl, 1, .null, 0),
  (15, .goto (4), 3, .null, 19),
  (18, .iconst 0, 1, (.int (0)), 0),
  (19, .istore_n 1, 1, .null, 1),
  (20, .aload_n 0, 1, .null, 0),
  (21, .aload_n 0, 1, .null, 0),
  (22, .getfield 78, 3, .null, 0),
  (25, .iconst 1, 1, (.int (1)), 0),
  (26, .iadd, 1, .null, 0),
  (27, .bipush (24), 2, (.int (24)), 0),
  (29, .invokestatic 135, 3, .null, 0),
  (32, .putfield 78, 3, .null, 0),
  (35, .aload_n 0, 1, .null, 0),
  (36, .getfield 31, 3, .null, 0),
  (39, .iconst 0, 1, (.int (0)), 0),
  (40, .iload_n 1, 1, .null, 1),
  (41, .iload_n 1, 1, .null, 1),
  (42, .invokevirtual 88, 3, .null, 0),
  (45, .aload_n 0, 1, .null, 0),
  (46, .iconst 1, 1, (.int (1)), 0),
  (47, .putfield 81, 3, .null, 0),
  (50, .iload_n 1, 1, .null, 1),
  (51, .ireturn, 1, .null, 0)]
noncomputable def m_X5_newPlace : ab_M := (c_X5_newPlace, [(0, [0]), (19, [0])],
  [(31, 5, 5, 3), (78, 5, 8, 0), (81, 5, 6, 1)],
  [],
  [(88, 1, 4, g_X4_become), (135, 0, 2, g_J_min)],
  [], 2, 1)
theorem one_X5_newPlace : ab_oneM m_X5_newPlace := List.forall_mem_cons.mpr ⟨o_X4_become, List.forall_mem_cons.mpr ⟨o_J_min, fun _ h => absurd h List.not_mem_nil⟩⟩
noncomputable def f_X5_newPlace (l0 : Nat) (st : ab_S) : Option ab_R := ab_rc st l0 5 (ab_lim m_X5_newPlace 0 [.ref l0] [] st)
noncomputable def L_X5_newPlace_19 (l0 : Nat) (t0 : Int32) (st : ab_S) : Option ab_R := ab_lim m_X5_newPlace 19 [.ref l0] [.int t0] st
noncomputable def g_X5_newPlace : ab_G := fun as st k => match as with
  | [.ref a0] => ab_ri (f_X5_newPlace a0 st) (fun x t => k [.int x] t)
  | _ => none
theorem o_X5_newPlace : ab_one g_X5_newPlace := by
  intro as st k r h
  unfold g_X5_newPlace at h ⊢
  split at h
  · exact one_ri h
  · cases h
set_option maxRecDepth 100000 in
theorem e_X5_newPlace_0 (l0 : Nat) (st : ab_S) : f_X5_newPlace l0 st =
    ab_rc st l0 5 (
    Option.bind (ab_gI st l0 5 8) fun x1 =>
    if (24 : Int32) ≤ x1
    then L_X5_newPlace_19 l0 (0 : Int32) st
    else Option.bind (ab_gI st l0 5 8) fun x2 =>
      L_X5_newPlace_19 l0 ((1 : Int32) <<< (x2 &&& 31)) st) := congrArg (ab_rc st l0 5) ((lm_eq one_X5_newPlace 0 _ _ _).trans rfl)
set_option maxRecDepth 100000 in
theorem e_X5_newPlace_19 (l0 : Nat) (t0 : Int32) (st : ab_S) : L_X5_newPlace_19 l0 t0 st =
    Option.bind (ab_gI st l0 5 8) fun x1 =>
    ab_ri (f_J_min (x1 + (1 : Int32)) (24 : Int32) st) fun x3 s2 =>
    Option.bind (ab_pI s2 l0 5 8 x3) fun s4 =>
    Option.bind (ab_gR s4 l0 5 5) fun x5 =>
    ab_rv (f_X4_become x5 (0 : Int32) t0 t0 s4) fun s6 =>
    Option.bind (ab_pZ s6 l0 5 6 (1 : Int32)) fun s7 =>
    some (some (.int t0), s7) := (lm_eq one_X5_newPlace 19 _ _ _).trans rfl
def c_X5_putPlaceOfSet : List (Nat × ab_I) := [(0, .aload_n 0, 1, .null, 0),
  (1, .invokevirtual 131, 3, .null, 0),
  (4, .istore_n 2, 1, .null, 2),
  (5, .iconst 0, 1, (.int (0)), 0),
  (6, .istore_n 3, 1, .null, 3),
  (7, .iload_n 3, 1, .null, 3),
  (8, .sipush (256), 3, (.int (256)), 0),
  (11, .if_icmp .ge (29), 3, .null, 40),
  (14, .aload_n 0, 1, .null, 0),
  (15, .getfield 18, 3, .null, 0),
  (18, .iload_n 3, 1, .null, 3),
  (19, .iaload, 1, .null, 0),
  (20, .iload_n 1, 1, .null, 1),
  (21, .if_icmp .ne (13), 3, .null, 34),
  (24, .aload_n 0, 1, .null, 0),
  (25, .getfield 9, 3, .null, 0),
  (28, .iload_n 3, 1, .null, 3),
  (29, .dup2, 1, .null, 0),
  (30, .iaload, 1, .null, 0),
  (31, .iload_n 2, 1, .null, 2),
  (32, .ior, 1, .null, 0),
  (33, .iastore, 1, .null, 0),
  (34, .iinc 3 (1), 3, (.int (1)), 3),
  (37, .goto (-30), 3, .null, 7),
  (40, .return_, 1, .null, 0)]
noncomputable def m_X5_putPlaceOfSet : ab_M := (c_X5_putPlaceOfSet, [(0, [0, 1]), (7, [0, 1, 2, 3]), (34, [0, 1, 2, 3])],
  [(9, 5, 0, 3), (18, 5, 2, 3)],
  [],
  [(131, 1, 1, g_X5_newPlace)],
  [], 4, 0)
theorem one_X5_putPlaceOfSet : ab_oneM m_X5_putPlaceOfSet := List.forall_mem_cons.mpr ⟨o_X5_newPlace, fun _ h => absurd h List.not_mem_nil⟩
noncomputable def f_X5_putPlaceOfSet (l0 : Nat) (l1 : Int32) (st : ab_S) : Option ab_R := ab_rc st l0 5 (ab_lim m_X5_putPlaceOfSet 0 [.ref l0, .int l1] [] st)
noncomputable def L_X5_putPlaceOfSet_7 (l0 : Nat) (l1 : Int32) (l2 : Int32) (l3 : Int32) (st : ab_S) : Option ab_R := ab_lim m_X5_putPlaceOfSet 7 [.ref l0, .int l1, .int l2, .int l3] [] st
noncomputable def L_X5_putPlaceOfSet_34 (l0 : Nat) (l1 : Int32) (l2 : Int32) (l3 : Int32) (st : ab_S) : Option ab_R := ab_lim m_X5_putPlaceOfSet 34 [.ref l0, .int l1, .int l2, .int l3] [] st
noncomputable def g_X5_putPlaceOfSet : ab_G := fun as st k => match as with
  | [.ref a0, .int a1] => ab_rv (f_X5_putPlaceOfSet a0 a1 st) (fun t => k [] t)
  | _ => none
theorem o_X5_putPlaceOfSet : ab_one g_X5_putPlaceOfSet := by
  intro as st k r h
  unfold g_X5_putPlaceOfSet at h ⊢
  split at h
  · exact one_rv h
  · cases h
set_option maxRecDepth 100000 in
theorem e_X5_putPlaceOfSet_0 (l0 : Nat) (l1 : Int32) (st : ab_S) : f_X5_putPlaceOfSet l0 l1 st =
    ab_rc st l0 5 (
    ab_ri (f_X5_newPlace l0 st) fun x2 s1 =>
    L_X5_putPlaceOfSet_7 l0 l1 x2 (0 : Int32) s1) := congrArg (ab_rc st l0 5) ((lm_eq one_X5_putPlaceOfSet 0 _ _ _).trans rfl)
set_option maxRecDepth 100000 in
theorem e_X5_putPlaceOfSet_7 (l0 : Nat) (l1 : Int32) (l2 : Int32) (l3 : Int32) (st : ab_S) : L_X5_putPlaceOfSet_7 l0 l1 l2 l3 st =
    if (256 : Int32) ≤ l3
    then some (none, st)
    else Option.bind (ab_gR st l0 5 2) fun x1 =>
      Option.bind (ab_rI st x1 l3) fun x2 =>
      if x2 = l1
      then Option.bind (ab_gR st l0 5 0) fun x3 =>
        Option.bind (ab_rI st x3 l3) fun x4 =>
        Option.bind (ab_wI st x3 l3 (x4 ||| l2)) fun s5 =>
        L_X5_putPlaceOfSet_34 l0 l1 l2 l3 s5
      else L_X5_putPlaceOfSet_34 l0 l1 l2 l3 st := (lm_eq one_X5_putPlaceOfSet 7 _ _ _).trans rfl
set_option maxRecDepth 100000 in
theorem e_X5_putPlaceOfSet_34 (l0 : Nat) (l1 : Int32) (l2 : Int32) (l3 : Int32) (st : ab_S) : L_X5_putPlaceOfSet_34 l0 l1 l2 l3 st =
    L_X5_putPlaceOfSet_7 l0 l1 l2 (l3 + (1 : Int32)) st := (lm_eq one_X5_putPlaceOfSet 34 _ _ _).trans rfl
def c_X5_pastEscape : List (Nat × ab_I) := [(0, .aload_n 0, 1, .null, 0),
  (1, .iload_n 1, 1, .null, 1),
  (2, .invokevirtual 44, 3, .null, 0),
  (5, .bipush (92), 2, (.int (92)), 0),
  (7, .if_icmp .ne (9), 3, .null, 16),
  (10, .iload_n 1, 1, .null, 1),
  (11, .iconst 1, 1, (.int (1)), 0),
  (12, .iadd, 1, .null, 0),
  (13, .goto (4), 3, .null, 17),
  (16, .iload_n 1, 1, .null, 1),
  (17, .ireturn, 1, .null, 0)]
noncomputable def m_X5_pastEscape : ab_M := (c_X5_pastEscape, [(0, [0, 1])],
  [],
  [],
  [(44, 1, 2, g_X6_at)],
  [], 2, 1)
theorem one_X5_pastEscape : ab_oneM m_X5_pastEscape := List.forall_mem_cons.mpr ⟨o_X6_at, fun _ h => absurd h List.not_mem_nil⟩
noncomputable def f_X5_pastEscape (l0 : Nat) (l1 : Int32) (st : ab_S) : Option ab_R := ab_lim m_X5_pastEscape 0 [.ref l0, .int l1] [] st
noncomputable def g_X5_pastEscape : ab_G := fun as st k => match as with
  | [.ref a0, .int a1] => ab_ri (f_X5_pastEscape a0 a1 st) (fun x t => k [.int x] t)
  | _ => none
theorem o_X5_pastEscape : ab_one g_X5_pastEscape := by
  intro as st k r h
  unfold g_X5_pastEscape at h ⊢
  split at h
  · exact one_ri h
  · cases h
set_option maxRecDepth 100000 in
theorem e_X5_pastEscape_0 (l0 : Nat) (l1 : Int32) (st : ab_S) : f_X5_pastEscape l0 l1 st =
    ab_ri (f_X6_at l0 l1 st) fun x2 s1 =>
    if x2 = (92 : Int32)
    then some (some (.int (l1 + (1 : Int32))), s1)
    else some (some (.int l1), s1) := (lm_eq one_X5_pastEscape 0 _ _ _).trans rfl
def c_X5_readItem : List (Nat × ab_I) := [(0, .aload_n 1, 1, .null, 1),
  (1, .iload_n 2, 1, .null, 2),
  (2, .invokestatic 107, 3, .null, 0),
  (5, .istore_n 3, 1, .null, 3),
  (6, .aload_n 1, 1, .null, 1),
  (7, .iload_n 3, 1, .null, 3),
  (8, .invokevirtual 44, 3, .null, 0),
  (11, .istore 4, 2, .null, 4),
  (13, .iload 4, 2, .null, 4),
  (15, .istore 5, 2, .null, 5),
  (17, .iload 4, 2, .null, 4),
  (19, .iconst (-1), 1, (.int (-1)), 0),
  (20, .if_icmp .ne (14), 3, .null, 34),
  (23, .aload_n 0, 1, .null, 0),
  (24, .aload_n 1, 1, .null, 1),
  (25, .getfield 38, 3, .null, 0),
  (28, .putfield 62, 3, .null, 0),
  (31, .goto (87), 3, .null, 118),
  (34, .iload 4, 2, .null, 4),
  (36, .bipush (93), 2, (.int (93)), 0),
  (38, .if_icmp .ne (16), 3, .null, 54),
  (41, .iload_n 3, 1, .null, 3),
  (42, .iload_n 2, 1, .null, 2),
  (43, .if_icmp .ne (11), 3, .null, 54),
  (46, .aload_n 0, 1, .null, 0),
  (47, .iload_n 2, 1, .null, 2),
  (48, .putfield 62, 3, .null, 0),
  (51, .goto (67), 3, .null, 118),
  (54, .aload_n 1, 1, .null, 1),
  (55, .iload_n 3, 1, .null, 3),
  (56, .iconst 1, 1, (.int (1)), 0),
  (57, .iadd, 1, .null, 0),
  (58, .invokevirtual 44, 3, .null, 0),
  (61, .bipush (45), 2, (.int (45)), 0),
  (63, .if_icmp .ne (55), 3, .null, 118),
  (66, .aload_n 1, 1, .null, 1),
  (67, .iload_n 3, 1, .null, 3),
  (68, .iconst 2, 1, (.int (2)), 0),
  (69, .iadd, 1, .null, 0),
  (70, .invokevirtual 44, 3, .null, 0),
  (73, .bipush (93), 2, (.int (93)), 0),
  (75, .if_icmp .eq (43), 3, .null, 118),
  (78, .aload_n 1, 1, .null, 1),
  (79, .iload_n 3, 1, .null, 3),
  (80, .iconst 2, 1, (.int (2)), 0),
  (81, .iadd, 1, .null, 0),
  (82, .invokestatic 107, 3, .null, 0),
  (85, .istore_n 3, 1, .null, 3),
  (86, .aload_n 1, 1, .null, 1),
  (87, .iload_n 3, 1, .null, 3),
  (88, .invokevirtual 44, 3, .null, 0),
  (91, .istore 5, 2, .null, 5),
  (93, .iload 5, 2, .null, 5),
  (95, .iload 4, 2, .null, 4),
  (97, .if_icmp .ge (21), 3, .null, 118),
  (100, .aload_n 0, 1, .null, 0),
  (101, .iload 5, 2, .null, 5),
  (103, .iconst (-1), 1, (.int (-1)), 0),
  (104, .if_icmp .ne (10), 3, .null, 114),
  (107, .aload_n 1, 1, .null, 1),
  (108, .getfield 38, 3, .null, 0),
  (111, .goto (4), 3, .null, 115),
  (114, .iload_n 3, 1, .null, 3),
  (115, .putfield 62, 3, .null, 0),
  (118, .iload 4, 2, .null, 4),
  (120, .iconst 0, 1, (.int (0)), 0),
  (121, .invokestatic 125, 3, .null, 0),
  (124, .istore 6, 2, .null, 6),
  (126, .iload 6, 2, .null, 6),
  (128, .iload 5, 2, .null, 5),
  (130, .if_icmp .gt (25), 3, .null, 155),
  (133, .iload 6, 2, .null, 6),
  (135, .sipush (256), 3, (.int (256)), 0),
  (138, .if_icmp .ge (17), 3, .null, 155),
  (141, .aload_n 0, 1, .null, 0),
  (142, .getfield 18, 3, .null, 0),
  (145, .iload 6, 2, .null, 6),
  (147, .iconst 1, 1, (.int (1)), 0),
  (148, .iastore, 1, .null, 0),
  (149, .iinc 6 (1), 3, (.int (1)), 6),
  (152, .goto (-26), 3, .null, 126),
  (155, .iload_n 3, 1, .null, 3),
  (156, .iconst 1, 1, (.int (1)), 0),
  (157, .iadd, 1, .null, 0),
  (158, .ireturn, 1, .null, 0)]
noncomputable def m_X5_readItem : ab_M := (c_X5_readItem, [(0, [0, 1, 2]), (54, [0, 1, 3, 4, 5]), (115, [0, 3, 4, 5]), (118, [0, 3, 4, 5]), (126, [0, 3, 5, 6])],
  [(18, 5, 2, 3), (38, 6, 1, 0), (62, 5, 9, 0)],
  [],
  [(44, 1, 2, g_X6_at), (107, 0, 2, g_X5_pastEscape), (125, 0, 2, g_J_max)],
  [], 7, 1)
theorem one_X5_readItem : ab_oneM m_X5_readItem := List.forall_mem_cons.mpr ⟨o_X6_at, List.forall_mem_cons.mpr ⟨o_X5_pastEscape, List.forall_mem_cons.mpr ⟨o_J_max, fun _ h => absurd h List.not_mem_nil⟩⟩⟩
noncomputable def f_X5_readItem (l0 : Nat) (l1 : Nat) (l2 : Int32) (st : ab_S) : Option ab_R := ab_rc st l0 5 (ab_lim m_X5_readItem 0 [.ref l0, .ref l1, .int l2] [] st)
noncomputable def L_X5_readItem_54 (l0 : Nat) (l1 : Nat) (l3 : Int32) (l4 : Int32) (l5 : Int32) (st : ab_S) : Option ab_R := ab_lim m_X5_readItem 54 [.ref l0, .ref l1, .int l3, .int l4, .int l5] [] st
noncomputable def L_X5_readItem_115 (l0 : Nat) (l3 : Int32) (l4 : Int32) (l5 : Int32) (t0 : Nat) (t1 : Int32) (st : ab_S) : Option ab_R := ab_lim m_X5_readItem 115 [.ref l0, .int l3, .int l4, .int l5] [.int t1, .ref t0] st
noncomputable def L_X5_readItem_118 (l0 : Nat) (l3 : Int32) (l4 : Int32) (l5 : Int32) (st : ab_S) : Option ab_R := ab_lim m_X5_readItem 118 [.ref l0, .int l3, .int l4, .int l5] [] st
noncomputable def L_X5_readItem_126 (l0 : Nat) (l3 : Int32) (l5 : Int32) (l6 : Int32) (st : ab_S) : Option ab_R := ab_lim m_X5_readItem 126 [.ref l0, .int l3, .int l5, .int l6] [] st
noncomputable def g_X5_readItem : ab_G := fun as st k => match as with
  | [.ref a0, .ref a1, .int a2] => ab_ri (f_X5_readItem a0 a1 a2 st) (fun x t => k [.int x] t)
  | _ => none
theorem o_X5_readItem : ab_one g_X5_readItem := by
  intro as st k r h
  unfold g_X5_readItem at h ⊢
  split at h
  · exact one_ri h
  · cases h
set_option maxRecDepth 100000 in
theorem e_X5_readItem_0 (l0 : Nat) (l1 : Nat) (l2 : Int32) (st : ab_S) : f_X5_readItem l0 l1 l2 st =
    ab_rc st l0 5 (
    ab_ri (f_X5_pastEscape l1 l2 st) fun x2 s1 =>
    ab_ri (f_X6_at l1 x2 s1) fun x4 s3 =>
    if x4 = (-1 : Int32)
    then Option.bind (ab_gI s3 l1 6 1) fun x5 =>
      Option.bind (ab_pI s3 l0 5 9 x5) fun s6 =>
      L_X5_readItem_118 l0 x2 x4 x4 s6
    else if x4 = (93 : Int32)
      then if x2 = l2
        then Option.bind (ab_pI s3 l0 5 9 l2) fun s7 =>
          L_X5_readItem_118 l0 x2 x4 x4 s7
        else L_X5_readItem_54 l0 l1 x2 x4 x4 s3
      else L_X5_readItem_54 l0 l1 x2 x4 x4 s3) := congrArg (ab_rc st l0 5) ((lm_eq one_X5_readItem 0 _ _ _).trans rfl)
set_option maxRecDepth 100000 in
theorem e_X5_readItem_54 (l0 : Nat) (l1 : Nat) (l3 : Int32) (l4 : Int32) (l5 : Int32) (st : ab_S) : L_X5_readItem_54 l0 l1 l3 l4 l5 st =
    ab_ri (f_X6_at l1 (l3 + (1 : Int32)) st) fun x2 s1 =>
    if x2 = (45 : Int32)
    then ab_ri (f_X6_at l1 (l3 + (2 : Int32)) s1) fun x4 s3 =>
      if x4 = (93 : Int32)
      then L_X5_readItem_118 l0 l3 l4 l5 s3
      else ab_ri (f_X5_pastEscape l1 (l3 + (2 : Int32)) s3) fun x6 s5 =>
        ab_ri (f_X6_at l1 x6 s5) fun x8 s7 =>
        if l4 ≤ x8
        then L_X5_readItem_118 l0 x6 l4 x8 s7
        else if x8 = (-1 : Int32)
          then Option.bind (ab_gI s7 l1 6 1) fun x9 =>
            L_X5_readItem_115 l0 x6 l4 x8 l0 x9 s7
          else L_X5_readItem_115 l0 x6 l4 x8 l0 x6 s7
    else L_X5_readItem_118 l0 l3 l4 l5 s1 := (lm_eq one_X5_readItem 54 _ _ _).trans rfl
set_option maxRecDepth 100000 in
theorem e_X5_readItem_115 (l0 : Nat) (l3 : Int32) (l4 : Int32) (l5 : Int32) (t0 : Nat) (t1 : Int32) (st : ab_S) : L_X5_readItem_115 l0 l3 l4 l5 t0 t1 st =
    Option.bind (ab_pI st t0 5 9 t1) fun s1 =>
    L_X5_readItem_118 l0 l3 l4 l5 s1 := (lm_eq one_X5_readItem 115 _ _ _).trans rfl
set_option maxRecDepth 100000 in
theorem e_X5_readItem_118 (l0 : Nat) (l3 : Int32) (l4 : Int32) (l5 : Int32) (st : ab_S) : L_X5_readItem_118 l0 l3 l4 l5 st =
    ab_ri (f_J_max l4 (0 : Int32) st) fun x2 s1 =>
    L_X5_readItem_126 l0 l3 l5 x2 s1 := (lm_eq one_X5_readItem 118 _ _ _).trans rfl
set_option maxRecDepth 100000 in
theorem e_X5_readItem_126 (l0 : Nat) (l3 : Int32) (l5 : Int32) (l6 : Int32) (st : ab_S) : L_X5_readItem_126 l0 l3 l5 l6 st =
    if l5 < l6
    then some (some (.int (l3 + (1 : Int32))), st)
    else if (256 : Int32) ≤ l6
      then some (some (.int (l3 + (1 : Int32))), st)
      else Option.bind (ab_gR st l0 5 2) fun x1 =>
        Option.bind (ab_wI st x1 l6 (1 : Int32)) fun s2 =>
        L_X5_readItem_126 l0 l3 l5 (l6 + (1 : Int32)) s2 := (lm_eq one_X5_readItem 126 _ _ _).trans rfl
def c_X5_readSet : List (Nat × ab_I) := [(0, .aload_n 0, 1, .null, 0),
  (1, .getfield 18, 3, .null, 0),
  (4, .iconst 0, 1, (.int (0)), 0),
  (5, .invokestatic 72, 3, .null, 0),
  (8, .aload_n 1, 1, .null, 1),
  (9, .iload_n 2, 1, .null, 2),
  (10, .invokevirtual 44, 3, .null, 0),
  (13, .bipush (94), 2, (.int (94)), 0),
  (15, .if_icmp .ne (7), 3, .null, 22),
  (18, .iconst 1, 1, (.int (1)), 0),
  (19, .goto (4), 3, .null, 23),
  (22, .iconst 0, 1, (.int (0)), 0),
  (23, .istore_n 3, 1, .null, 3),
  (24, .iload_n 3, 1, .null, 3),
  (25, .ifCond .eq (9), 3, .null, 34),
  (28, .iload_n 2, 1, .null, 2),
  (29, .iconst 1, 1, (.int (1)), 0),
  (30, .iadd, 1, .null, 0),
  (31, .goto (4), 3, .null, 35),
  (34, .iload_n 2, 1, .null, 2),
  (35, .istore 4, 2, .null, 4),
  (37, .iload 4, 2, .null, 4),
  (39, .istore 5, 2, .null, 5),
  (41, .iconst 0, 1, (.int (0)), 0),
  (42, .istore 6, 2, .null, 6),
  (44, .iload 6, 2, .null, 6),
  (46, .bipush (24), 2, (.int (24)), 0),
  (48, .if_icmp .gt (62), 3, .null, 110),
  (51, .aload_n 0, 1, .null, 0),
  (52, .getfield 62, 3, .null, 0),
  (55, .iconst (-1), 1, (.int (-1)), 0),
  (56, .if_icmp .ne (54), 3, .null, 110),
  (59, .iload 5, 2, .null, 5),
  (61, .iload 4, 2, .null, 4),
  (63, .if_icmp .le (32), 3, .null, 95),
  (66, .aload_n 1, 1, .null, 1),
  (67, .iload 5, 2, .null, 5),
  (69, .invokevirtual 44, 3, .null, 0),
  (72, .bipush (93), 2, (.int (93)), 0),
  (74, .if_icmp .ne (21), 3, .null, 95),
  (77, .aload_n 0, 1, .null, 0),
  (78, .iload_n 3, 1, .null, 3),
  (79, .ifCond .eq (7), 3, .null, 86),
  (82, .iconst 0, 1, (.int (0)), 0),
  (83, .goto (4), 3, .null, 87),
  (86, .iconst 1, 1, (.int (1)), 0),
  (87, .invokevirtual 119, 3, .null, 0),
  (90, .iload 5, 2, .null, 5),
  (92, .iconst 1, 1, (.int (1)), 0),
  (93, .iadd, 1, .null, 0),
  (94, .ireturn, 1, .null, 0),
  (95, .aload_n 0, 1, .null, 0),
  (96, .aload_n 1, 1, .null, 1),
  (97, .iload 5, 2, .null, 5),
  (99, .invokevirtual 122, 3, .null, 0),
  (102, .istore 5, 2, .null, 5),
  (104, .iinc 6 (1), 3, (.int (1)), 6),
  (107, .goto (-63), 3, .null, 44),
  (110, .iload 5, 2, .null, 5),
  (112, .ireturn, 1, .null, 0)]
noncomputable def m_X5_readSet : ab_M := (c_X5_readSet, [(0, [0, 1, 2]), (23, [0, 1, 2]), (35, [0, 1, 3]), (44, [0, 1, 3, 4, 5, 6]), (87, [5]), (95, [0, 1, 3, 4, 5, 6])],
  [(18, 5, 2, 3), (62, 5, 9, 0)],
  [],
  [(44, 1, 2, g_X6_at), (72, 0, 2, g_J_fill), (119, 1, 2, g_X5_putPlaceOfSet), (122, 1, 3, g_X5_readItem)],
  [], 7, 1)
theorem one_X5_readSet : ab_oneM m_X5_readSet := List.forall_mem_cons.mpr ⟨o_X6_at, List.forall_mem_cons.mpr ⟨o_J_fill, List.forall_mem_cons.mpr ⟨o_X5_putPlaceOfSet, List.forall_mem_cons.mpr ⟨o_X5_readItem, fun _ h => absurd h List.not_mem_nil⟩⟩⟩⟩
noncomputable def f_X5_readSet (l0 : Nat) (l1 : Nat) (l2 : Int32) (st : ab_S) : Option ab_R := ab_rc st l0 5 (ab_lim m_X5_readSet 0 [.ref l0, .ref l1, .int l2] [] st)
noncomputable def L_X5_readSet_23 (l0 : Nat) (l1 : Nat) (l2 : Int32) (t0 : Int32) (st : ab_S) : Option ab_R := ab_lim m_X5_readSet 23 [.ref l0, .ref l1, .int l2] [.int t0] st
noncomputable def L_X5_readSet_35 (l0 : Nat) (l1 : Nat) (l3 : Int32) (t0 : Int32) (st : ab_S) : Option ab_R := ab_lim m_X5_readSet 35 [.ref l0, .ref l1, .int l3] [.int t0] st
noncomputable def L_X5_readSet_44 (l0 : Nat) (l1 : Nat) (l3 : Int32) (l4 : Int32) (l5 : Int32) (l6 : Int32) (st : ab_S) : Option ab_R := ab_lim m_X5_readSet 44 [.ref l0, .ref l1, .int l3, .int l4, .int l5, .int l6] [] st
noncomputable def L_X5_readSet_87 (l5 : Int32) (t0 : Nat) (t1 : Int32) (st : ab_S) : Option ab_R := ab_lim m_X5_readSet 87 [.int l5] [.int t1, .ref t0] st
noncomputable def L_X5_readSet_95 (l0 : Nat) (l1 : Nat) (l3 : Int32) (l4 : Int32) (l5 : Int32) (l6 : Int32) (st : ab_S) : Option ab_R := ab_lim m_X5_readSet 95 [.ref l0, .ref l1, .int l3, .int l4, .int l5, .int l6] [] st
noncomputable def g_X5_readSet : ab_G := fun as st k => match as with
  | [.ref a0, .ref a1, .int a2] => ab_ri (f_X5_readSet a0 a1 a2 st) (fun x t => k [.int x] t)
  | _ => none
theorem o_X5_readSet : ab_one g_X5_readSet := by
  intro as st k r h
  unfold g_X5_readSet at h ⊢
  split at h
  · exact one_ri h
  · cases h
set_option maxRecDepth 100000 in
theorem e_X5_readSet_0 (l0 : Nat) (l1 : Nat) (l2 : Int32) (st : ab_S) : f_X5_readSet l0 l1 l2 st =
    ab_rc st l0 5 (
    Option.bind (ab_gR st l0 5 2) fun x1 =>
    ab_rv (f_J_fill x1 (0 : Int32) st) fun s2 =>
    ab_ri (f_X6_at l1 l2 s2) fun x4 s3 =>
    if x4 = (94 : Int32)
    then L_X5_readSet_23 l0 l1 l2 (1 : Int32) s3
    else L_X5_readSet_23 l0 l1 l2 (0 : Int32) s3) := congrArg (ab_rc st l0 5) ((lm_eq one_X5_readSet 0 _ _ _).trans rfl)
set_option maxRecDepth 100000 in
theorem e_X5_readSet_23 (l0 : Nat) (l1 : Nat) (l2 : Int32) (t0 : Int32) (st : ab_S) : L_X5_readSet_23 l0 l1 l2 t0 st =
    if t0 = 0
    then L_X5_readSet_35 l0 l1 t0 l2 st
    else L_X5_readSet_35 l0 l1 t0 (l2 + (1 : Int32)) st := (lm_eq one_X5_readSet 23 _ _ _).trans rfl
set_option maxRecDepth 100000 in
theorem e_X5_readSet_35 (l0 : Nat) (l1 : Nat) (l3 : Int32) (t0 : Int32) (st : ab_S) : L_X5_readSet_35 l0 l1 l3 t0 st =
    L_X5_readSet_44 l0 l1 l3 t0 t0 (0 : Int32) st := (lm_eq one_X5_readSet 35 _ _ _).trans rfl
set_option maxRecDepth 100000 in
theorem e_X5_readSet_44 (l0 : Nat) (l1 : Nat) (l3 : Int32) (l4 : Int32) (l5 : Int32) (l6 : Int32) (st : ab_S) : L_X5_readSet_44 l0 l1 l3 l4 l5 l6 st =
    if (24 : Int32) < l6
    then some (some (.int l5), st)
    else Option.bind (ab_gI st l0 5 9) fun x1 =>
      if x1 = (-1 : Int32)
      then if l5 ≤ l4
        then L_X5_readSet_95 l0 l1 l3 l4 l5 l6 st
        else ab_ri (f_X6_at l1 l5 st) fun x3 s2 =>
          if x3 = (93 : Int32)
          then if l3 = 0
            then L_X5_readSet_87 l5 l0 (1 : Int32) s2
            else L_X5_readSet_87 l5 l0 (0 : Int32) s2
          else L_X5_readSet_95 l0 l1 l3 l4 l5 l6 s2
      else some (some (.int l5), st) := (lm_eq one_X5_readSet 44 _ _ _).trans rfl
set_option maxRecDepth 100000 in
theorem e_X5_readSet_87 (l5 : Int32) (t0 : Nat) (t1 : Int32) (st : ab_S) : L_X5_readSet_87 l5 t0 t1 st =
    ab_rv (f_X5_putPlaceOfSet t0 t1 st) fun s1 =>
    some (some (.int (l5 + (1 : Int32))), s1) := (lm_eq one_X5_readSet 87 _ _ _).trans rfl
set_option maxRecDepth 100000 in
theorem e_X5_readSet_95 (l0 : Nat) (l1 : Nat) (l3 : Int32) (l4 : Int32) (l5 : Int32) (l6 : Int32) (st : ab_S) : L_X5_readSet_95 l0 l1 l3 l4 l5 l6 st =
    ab_ri (f_X5_readItem l0 l1 l5 st) fun x2 s1 =>
    L_X5_readSet_44 l0 l1 l3 l4 x2 (l6 + (1 : Int32)) s1 := (lm_eq one_X5_readSet 95 _ _ _).trans rfl
def c_X5_putPlace : List (Nat × ab_I) := [(0, .aload_n 0, 1, .null, 0),
  (1, .invokevirtual 131, 3, .null, 0),
  (4, .istore_n 3, 1, .null, 3),
  (5, .iload_n 1, 1, .null, 1),
  (6, .iconst 0, 1, (.int (0)), 0),
  (7, .invokestatic 125, 3, .null, 0),
  (10, .istore 4, 2, .null, 4),
  (12, .iload 4, 2, .null, 4),
  (14, .iload_n 2, 1, .null, 2),
  (15, .if_icmp .gt (28), 3, .null, 43),
  (18, .iload 4, 2, .null, 4),
  (20, .sipush (256), 3, (.int (256)), 0),
  (23, .if_icmp .ge (20), 3, .null, 43),
  (26, .aload_n 0, 1, .null, 0),
  (27, .getfield 9, 3, .null, 0),
  (30, .iload 4, 2, .null, 4),
  (32, .dup2, 1, .null, 0),
  (33, .iaload, 1, .null, 0),
  (34, .iload_n 3, 1, .null, 3),
  (35, .ior, 1, .null, 0),
  (36, .iastore, 1, .null, 0),
  (37, .iinc 4 (1), 3, (.int (1)), 4),
  (40, .goto (-28), 3, .null, 12),
  (43, .return_, 1, .null, 0)]
noncomputable def m_X5_putPlace : ab_M := (c_X5_putPlace, [(0, [0, 1, 2]), (12, [0, 2, 3, 4])],
  [(9, 5, 0, 3)],
  [],
  [(125, 0, 2, g_J_max), (131, 1, 1, g_X5_newPlace)],
  [], 5, 0)
theorem one_X5_putPlace : ab_oneM m_X5_putPlace := List.forall_mem_cons.mpr ⟨o_J_max, List.forall_mem_cons.mpr ⟨o_X5_newPlace, fun _ h => absurd h List.not_mem_nil⟩⟩
noncomputable def f_X5_putPlace (l0 : Nat) (l1 : Int32) (l2 : Int32) (st : ab_S) : Option ab_R := ab_rc st l0 5 (ab_lim m_X5_putPlace 0 [.ref l0, .int l1, .int l2] [] st)
noncomputable def L_X5_putPlace_12 (l0 : Nat) (l2 : Int32) (l3 : Int32) (l4 : Int32) (st : ab_S) : Option ab_R := ab_lim m_X5_putPlace 12 [.ref l0, .int l2, .int l3, .int l4] [] st
noncomputable def g_X5_putPlace : ab_G := fun as st k => match as with
  | [.ref a0, .int a1, .int a2] => ab_rv (f_X5_putPlace a0 a1 a2 st) (fun t => k [] t)
  | _ => none
theorem o_X5_putPlace : ab_one g_X5_putPlace := by
  intro as st k r h
  unfold g_X5_putPlace at h ⊢
  split at h
  · exact one_rv h
  · cases h
set_option maxRecDepth 100000 in
theorem e_X5_putPlace_0 (l0 : Nat) (l1 : Int32) (l2 : Int32) (st : ab_S) : f_X5_putPlace l0 l1 l2 st =
    ab_rc st l0 5 (
    ab_ri (f_X5_newPlace l0 st) fun x2 s1 =>
    ab_ri (f_J_max l1 (0 : Int32) s1) fun x4 s3 =>
    L_X5_putPlace_12 l0 l2 x2 x4 s3) := congrArg (ab_rc st l0 5) ((lm_eq one_X5_putPlace 0 _ _ _).trans rfl)
set_option maxRecDepth 100000 in
theorem e_X5_putPlace_12 (l0 : Nat) (l2 : Int32) (l3 : Int32) (l4 : Int32) (st : ab_S) : L_X5_putPlace_12 l0 l2 l3 l4 st =
    if l2 < l4
    then some (none, st)
    else if (256 : Int32) ≤ l4
      then some (none, st)
      else Option.bind (ab_gR st l0 5 0) fun x1 =>
        Option.bind (ab_rI st x1 l4) fun x2 =>
        Option.bind (ab_wI st x1 l4 (x2 ||| l3)) fun s3 =>
        L_X5_putPlace_12 l0 l2 l3 (l4 + (1 : Int32)) s3 := (lm_eq one_X5_putPlace 12 _ _ _).trans rfl
def c_X5_readPlain : List (Nat × ab_I) := [(0, .aload_n 1, 1, .null, 1),
  (1, .iload_n 2, 1, .null, 2),
  (2, .invokestatic 107, 3, .null, 0),
  (5, .istore_n 3, 1, .null, 3),
  (6, .aload_n 1, 1, .null, 1),
  (7, .iload_n 3, 1, .null, 3),
  (8, .invokevirtual 44, 3, .null, 0),
  (11, .istore 4, 2, .null, 4),
  (13, .iload 4, 2, .null, 4),
  (15, .iconst (-1), 1, (.int (-1)), 0),
  (16, .if_icmp .ne (14), 3, .null, 30),
  (19, .aload_n 0, 1, .null, 0),
  (20, .aload_n 1, 1, .null, 1),
  (21, .getfield 38, 3, .null, 0),
  (24, .putfield 62, 3, .null, 0),
  (27, .goto (11), 3, .null, 38),
  (30, .aload_n 0, 1, .null, 0),
  (31, .iload 4, 2, .null, 4),
  (33, .iload 4, 2, .null, 4),
  (35, .invokevirtual 48, 3, .null, 0),
  (38, .iload_n 3, 1, .null, 3),
  (39, .iconst 1, 1, (.int (1)), 0),
  (40, .iadd, 1, .null, 0),
  (41, .ireturn, 1, .null, 0)]
noncomputable def m_X5_readPlain : ab_M := (c_X5_readPlain, [(0, [0, 1, 2])],
  [(38, 6, 1, 0), (62, 5, 9, 0)],
  [],
  [(44, 1, 2, g_X6_at), (48, 1, 3, g_X5_putPlace), (107, 0, 2, g_X5_pastEscape)],
  [], 5, 1)
theorem one_X5_readPlain : ab_oneM m_X5_readPlain := List.forall_mem_cons.mpr ⟨o_X6_at, List.forall_mem_cons.mpr ⟨o_X5_putPlace, List.forall_mem_cons.mpr ⟨o_X5_pastEscape, fun _ h => absurd h List.not_mem_nil⟩⟩⟩
noncomputable def f_X5_readPlain (l0 : Nat) (l1 : Nat) (l2 : Int32) (st : ab_S) : Option ab_R := ab_rc st l0 5 (ab_lim m_X5_readPlain 0 [.ref l0, .ref l1, .int l2] [] st)
noncomputable def g_X5_readPlain : ab_G := fun as st k => match as with
  | [.ref a0, .ref a1, .int a2] => ab_ri (f_X5_readPlain a0 a1 a2 st) (fun x t => k [.int x] t)
  | _ => none
theorem o_X5_readPlain : ab_one g_X5_readPlain := by
  intro as st k r h
  unfold g_X5_readPlain at h ⊢
  split at h
  · exact one_ri h
  · cases h
set_option maxRecDepth 100000 in
theorem e_X5_readPlain_0 (l0 : Nat) (l1 : Nat) (l2 : Int32) (st : ab_S) : f_X5_readPlain l0 l1 l2 st =
    ab_rc st l0 5 (
    ab_ri (f_X5_pastEscape l1 l2 st) fun x2 s1 =>
    ab_ri (f_X6_at l1 x2 s1) fun x4 s3 =>
    if x4 = (-1 : Int32)
    then Option.bind (ab_gI s3 l1 6 1) fun x5 =>
      Option.bind (ab_pI s3 l0 5 9 x5) fun s6 =>
      some (some (.int (x2 + (1 : Int32))), s6)
    else ab_rv (f_X5_putPlace l0 x4 x4 s3) fun s7 =>
      some (some (.int (x2 + (1 : Int32))), s7)) := congrArg (ab_rc st l0 5) ((lm_eq one_X5_readPlain 0 _ _ _).trans rfl)
def c_X5_readOne : List (Nat × ab_I) := [(0, .aload_n 1, 1, .null, 1),
  (1, .iload_n 2, 1, .null, 2),
  (2, .invokevirtual 44, 3, .null, 0),
  (5, .istore_n 3, 1, .null, 3),
  (6, .iload_n 3, 1, .null, 3),
  (7, .bipush (42), 2, (.int (42)), 0),
  (9, .if_icmp .eq (15), 3, .null, 24),
  (12, .iload_n 3, 1, .null, 3),
  (13, .bipush (43), 2, (.int (43)), 0),
  (15, .if_icmp .eq (9), 3, .null, 24),
  (18, .iload_n 3, 1, .null, 3),
  (19, .bipush (63), 2, (.int (63)), 0),
  (21, .if_icmp .ne (13), 3, .null, 34),
  (24, .aload_n 0, 1, .null, 0),
  (25, .iload_n 3, 1, .null, 3),
  (26, .iload_n 2, 1, .null, 2),
  (27, .invokevirtual 92, 3, .null, 0),
  (30, .iload_n 2, 1, .null, 2),
  (31, .iconst 1, 1, (.int (1)), 0),
  (32, .iadd, 1, .null, 0),
  (33, .ireturn, 1, .null, 0),
  (34, .aload_n 0, 1, .null, 0),
  (35, .invokevirtual 56, 3, .null, 0),
  (38, .iload_n 3, 1, .null, 3),
  (39, .lookupswitch (113) #[(40, 65), (41, 74), (46, 101), (91, 83), (93, 92), (124, 57)], 57, .null, 0),
  (96, .aload_n 0, 1, .null, 0),
  (97, .invokevirtual 59, 3, .null, 0),
  (100, .iload_n 2, 1, .null, 2),
  (101, .iconst 1, 1, (.int (1)), 0),
  (102, .iadd, 1, .null, 0),
  (103, .ireturn, 1, .null, 0),
  (104, .aload_n 0, 1, .null, 0),
  (105, .iload_n 2, 1, .null, 2),
  (106, .invokevirtual 95, 3, .null, 0),
  (109, .iload_n 2, 1, .null, 2),
  (110, .iconst 1, 1, (.int (1)), 0),
  (111, .iadd, 1, .null, 0),
  (112, .ireturn, 1, .null, 0),
  (113, .aload_n 0, 1, .null, 0),
  (114, .iload_n 2, 1, .null, 2),
  (115, .invokevirtual 98, 3, .null, 0),
  (118, .iload_n 2, 1, .null, 2),
  (119, .iconst 1, 1, (.int (1)), 0),
  (120, .iadd, 1, .null, 0),
  (121, .ireturn, 1, .null, 0),
  (122, .aload_n 0, 1, .null, 0),
  (123, .aload_n 1, 1, .null, 1),
  (124, .iload_n 2, 1, .null, 2),
  (125, .iconst 1, 1, (.int (1)), 0),
  (126, .iadd, 1, .null, 0),
  (127, .invokevirtual 101, 3, .null, 0),
  (130, .ireturn, 1, .null, 0),
  (131, .aload_n 0, 1, .null, 0),
  (132, .iload_n 2, 1, .null, 2),
  (133, .putfield 62, 3, .null, 0),
  (136, .iload_n 2, 1, .null, 2),
  (137, .iconst 1, 1, (.int (1)), 0),
  (138, .iadd, 1, .null, 0),
  (139, .ireturn, 1, .null, 0),
  (140, .aload_n 0, 1, .null, 0),
  (141, .iconst 0, 1, (.int (0)), 0),
  (142, .sipush (255), 3, (.int (255)), 0),
  (145, .invokevirtual 48, 3, .null, 0),
  (148, .iload_n 2, 1, .null, 2),
  (149, .iconst 1, 1, (.int (1)), 0),
  (150, .iadd, 1, .null, 0),
  (151, .ireturn, 1, .null, 0),
  (152, .aload_n 0, 1, .null, 0),
  (153, .aload_n 1, 1, .null, 1),
  (154, .iload_n 2, 1, .null, 2),
  (155, .invokevirtual 104, 3, .null, 0),
  (158, .ireturn, 1, .null, 0)]
noncomputable def m_X5_readOne : ab_M := (c_X5_readOne, [(0, [0, 1, 2]), (24, [0, 2, 3])],
  [(62, 5, 9, 0)],
  [],
  [(44, 1, 2, g_X6_at), (48, 1, 3, g_X5_putPlace), (56, 1, 1, g_X5_settlePiece), (59, 1, 1, g_X5_settleSequence), (92, 1, 3, g_X5_readRepeat), (95, 1, 2, g_X5_openBracket), (98, 1, 2, g_X5_closeBracket), (101, 1, 3, g_X5_readSet), (104, 1, 3, g_X5_readPlain)],
  [(39, [(40, 104), (41, 113), (46, 140), (91, 122), (93, 131), (124, 96)], 152)], 4, 1)
theorem one_X5_readOne : ab_oneM m_X5_readOne := List.forall_mem_cons.mpr ⟨o_X6_at, List.forall_mem_cons.mpr ⟨o_X5_putPlace, List.forall_mem_cons.mpr ⟨o_X5_settlePiece, List.forall_mem_cons.mpr ⟨o_X5_settleSequence, List.forall_mem_cons.mpr ⟨o_X5_readRepeat, List.forall_mem_cons.mpr ⟨o_X5_openBracket, List.forall_mem_cons.mpr ⟨o_X5_closeBracket, List.forall_mem_cons.mpr ⟨o_X5_readSet, List.forall_mem_cons.mpr ⟨o_X5_readPlain, fun _ h => absurd h List.not_mem_nil⟩⟩⟩⟩⟩⟩⟩⟩⟩
noncomputable def f_X5_readOne (l0 : Nat) (l1 : Nat) (l2 : Int32) (st : ab_S) : Option ab_R := ab_rc st l0 5 (ab_lim m_X5_readOne 0 [.ref l0, .ref l1, .int l2] [] st)
noncomputable def L_X5_readOne_24 (l0 : Nat) (l2 : Int32) (l3 : Int32) (st : ab_S) : Option ab_R := ab_lim m_X5_readOne 24 [.ref l0, .int l2, .int l3] [] st
noncomputable def g_X5_readOne : ab_G := fun as st k => match as with
  | [.ref a0, .ref a1, .int a2] => ab_ri (f_X5_readOne a0 a1 a2 st) (fun x t => k [.int x] t)
  | _ => none
theorem o_X5_readOne : ab_one g_X5_readOne := by
  intro as st k r h
  unfold g_X5_readOne at h ⊢
  split at h
  · exact one_ri h
  · cases h
set_option maxRecDepth 100000 in
theorem e_X5_readOne_0 (l0 : Nat) (l1 : Nat) (l2 : Int32) (st : ab_S) : f_X5_readOne l0 l1 l2 st =
    ab_rc st l0 5 (
    ab_ri (f_X6_at l1 l2 st) fun x2 s1 =>
    if x2 = (42 : Int32)
    then L_X5_readOne_24 l0 l2 x2 s1
    else if x2 = (43 : Int32)
      then L_X5_readOne_24 l0 l2 x2 s1
      else if x2 = (63 : Int32)
        then L_X5_readOne_24 l0 l2 x2 s1
        else ab_rv (f_X5_settlePiece l0 s1) fun s3 =>
          if x2 = 40 then ab_rv (f_X5_openBracket l0 l2 s3) fun s4 =>
            some (some (.int (l2 + (1 : Int32))), s4)
          else if x2 = 41 then ab_rv (f_X5_closeBracket l0 l2 s3) fun s5 =>
            some (some (.int (l2 + (1 : Int32))), s5)
          else if x2 = 46 then ab_rv (f_X5_putPlace l0 (0 : Int32) (255 : Int32) s3) fun s6 =>
            some (some (.int (l2 + (1 : Int32))), s6)
          else if x2 = 91 then ab_ri (f_X5_readSet l0 l1 (l2 + (1 : Int32)) s3) fun x8 s7 =>
            some (some (.int x8), s7)
          else if x2 = 93 then Option.bind (ab_pI s3 l0 5 9 l2) fun s9 =>
            some (some (.int (l2 + (1 : Int32))), s9)
          else if x2 = 124 then ab_rv (f_X5_settleSequence l0 s3) fun s10 =>
            some (some (.int (l2 + (1 : Int32))), s10)
          else ab_ri (f_X5_readPlain l0 l1 l2 s3) fun x12 s11 =>
            some (some (.int x12), s11)) := congrArg (ab_rc st l0 5) ((lm_eq one_X5_readOne 0 _ _ _).trans rfl)
set_option maxRecDepth 100000 in
theorem e_X5_readOne_24 (l0 : Nat) (l2 : Int32) (l3 : Int32) (st : ab_S) : L_X5_readOne_24 l0 l2 l3 st =
    ab_rv (f_X5_readRepeat l0 l3 l2 st) fun s1 =>
    some (some (.int (l2 + (1 : Int32))), s1) := (lm_eq one_X5_readOne 24 _ _ _).trans rfl
def c_X5_readPattern : List (Nat × ab_I) := [(0, .aload_n 0, 1, .null, 0),
  (1, .invokevirtual 35, 3, .null, 0),
  (4, .iconst 0, 1, (.int (0)), 0),
  (5, .istore_n 2, 1, .null, 2),
  (6, .iconst 0, 1, (.int (0)), 0),
  (7, .istore_n 3, 1, .null, 3),
  (8, .iload_n 3, 1, .null, 3),
  (9, .bipush (24), 2, (.int (24)), 0),
  (11, .if_icmp .ge (32), 3, .null, 43),
  (14, .iload_n 2, 1, .null, 2),
  (15, .aload_n 1, 1, .null, 1),
  (16, .getfield 38, 3, .null, 0),
  (19, .if_icmp .ge (24), 3, .null, 43),
  (22, .aload_n 0, 1, .null, 0),
  (23, .getfield 62, 3, .null, 0),
  (26, .iconst (-1), 1, (.int (-1)), 0),
  (27, .if_icmp .ne (16), 3, .null, 43),
  (30, .aload_n 0, 1, .null, 0),
  (31, .aload_n 1, 1, .null, 1),
  (32, .iload_n 2, 1, .null, 2),
  (33, .invokevirtual 65, 3, .null, 0),
  (36, .istore_n 2, 1, .null, 2),
  (37, .iinc 3 (1), 3, (.int (1)), 3),
  (40, .goto (-32), 3, .null, 8),
  (43, .aload_n 0, 1, .null, 0),
  (44, .getfield 62, 3, .null, 0),
  (47, .iconst (-1), 1, (.int (-1)), 0),
  (48, .if_icmp .ne (18), 3, .null, 66),
  (51, .aload_n 0, 1, .null, 0),
  (52, .getfield 69, 3, .null, 0),
  (55, .ifCond .le (11), 3, .null, 66),
  (58, .aload_n 0, 1, .null, 0),
  (59, .aload_n 1, 1, .null, 1),
  (60, .getfield 38, 3, .null, 0),
  (63, .putfield 62, 3, .null, 0),
  (66, .aload_n 0, 1, .null, 0),
  (67, .invokevirtual 56, 3, .null, 0),
  (70, .aload_n 0, 1, .null, 0),
  (71, .invokevirtual 59, 3, .null, 0),
  (74, .aload_n 0, 1, .null, 0),
  (75, .getfield 62, 3, .null, 0),
  (78, .ireturn, 1, .null, 0)]
noncomputable def m_X5_readPattern : ab_M := (c_X5_readPattern, [(0, [0, 1]), (8, [0, 1, 2, 3]), (43, [0, 1]), (66, [0])],
  [(38, 6, 1, 0), (62, 5, 9, 0), (69, 5, 7, 0)],
  [],
  [(35, 1, 1, g_X5_start), (56, 1, 1, g_X5_settlePiece), (59, 1, 1, g_X5_settleSequence), (65, 1, 3, g_X5_readOne)],
  [], 4, 1)
theorem one_X5_readPattern : ab_oneM m_X5_readPattern := List.forall_mem_cons.mpr ⟨o_X5_start, List.forall_mem_cons.mpr ⟨o_X5_settlePiece, List.forall_mem_cons.mpr ⟨o_X5_settleSequence, List.forall_mem_cons.mpr ⟨o_X5_readOne, fun _ h => absurd h List.not_mem_nil⟩⟩⟩⟩
noncomputable def f_X5_readPattern (l0 : Nat) (l1 : Nat) (st : ab_S) : Option ab_R := ab_rc st l0 5 (ab_lim m_X5_readPattern 0 [.ref l0, .ref l1] [] st)
noncomputable def L_X5_readPattern_8 (l0 : Nat) (l1 : Nat) (l2 : Int32) (l3 : Int32) (st : ab_S) : Option ab_R := ab_lim m_X5_readPattern 8 [.ref l0, .ref l1, .int l2, .int l3] [] st
noncomputable def L_X5_readPattern_43 (l0 : Nat) (l1 : Nat) (st : ab_S) : Option ab_R := ab_lim m_X5_readPattern 43 [.ref l0, .ref l1] [] st
noncomputable def L_X5_readPattern_66 (l0 : Nat) (st : ab_S) : Option ab_R := ab_lim m_X5_readPattern 66 [.ref l0] [] st
noncomputable def g_X5_readPattern : ab_G := fun as st k => match as with
  | [.ref a0, .ref a1] => ab_ri (f_X5_readPattern a0 a1 st) (fun x t => k [.int x] t)
  | _ => none
theorem o_X5_readPattern : ab_one g_X5_readPattern := by
  intro as st k r h
  unfold g_X5_readPattern at h ⊢
  split at h
  · exact one_ri h
  · cases h
set_option maxRecDepth 100000 in
theorem e_X5_readPattern_0 (l0 : Nat) (l1 : Nat) (st : ab_S) : f_X5_readPattern l0 l1 st =
    ab_rc st l0 5 (
    ab_rv (f_X5_start l0 st) fun s1 =>
    L_X5_readPattern_8 l0 l1 (0 : Int32) (0 : Int32) s1) := congrArg (ab_rc st l0 5) ((lm_eq one_X5_readPattern 0 _ _ _).trans rfl)
set_option maxRecDepth 100000 in
theorem e_X5_readPattern_8 (l0 : Nat) (l1 : Nat) (l2 : Int32) (l3 : Int32) (st : ab_S) : L_X5_readPattern_8 l0 l1 l2 l3 st =
    if (24 : Int32) ≤ l3
    then L_X5_readPattern_43 l0 l1 st
    else Option.bind (ab_gI st l1 6 1) fun x1 =>
      if x1 ≤ l2
      then L_X5_readPattern_43 l0 l1 st
      else Option.bind (ab_gI st l0 5 9) fun x2 =>
        if x2 = (-1 : Int32)
        then ab_ri (f_X5_readOne l0 l1 l2 st) fun x4 s3 =>
          L_X5_readPattern_8 l0 l1 x4 (l3 + (1 : Int32)) s3
        else L_X5_readPattern_43 l0 l1 st := (lm_eq one_X5_readPattern 8 _ _ _).trans rfl
set_option maxRecDepth 100000 in
theorem e_X5_readPattern_43 (l0 : Nat) (l1 : Nat) (st : ab_S) : L_X5_readPattern_43 l0 l1 st =
    Option.bind (ab_gI st l0 5 9) fun x1 =>
    if x1 = (-1 : Int32)
    then Option.bind (ab_gI st l0 5 7) fun x2 =>
      if x2 ≤ 0
      then L_X5_readPattern_66 l0 st
      else Option.bind (ab_gI st l1 6 1) fun x3 =>
        Option.bind (ab_pI st l0 5 9 x3) fun s4 =>
        L_X5_readPattern_66 l0 s4
    else L_X5_readPattern_66 l0 st := (lm_eq one_X5_readPattern 43 _ _ _).trans rfl
set_option maxRecDepth 100000 in
theorem e_X5_readPattern_66 (l0 : Nat) (st : ab_S) : L_X5_readPattern_66 l0 st =
    ab_rv (f_X5_settlePiece l0 st) fun s1 =>
    ab_rv (f_X5_settleSequence l0 s1) fun s2 =>
    Option.bind (ab_gI s2 l0 5 9) fun x3 =>
    some (some (.int x3), s2) := (lm_eq one_X5_readPattern 66 _ _ _).trans rfl
end
section
def c_X5_readWild : List (Nat × ab_I) := [(0, .aload_n 0, 1, .null, 0),
  (1, .invokevirtual 35, 3, .null, 0),
  (4, .iconst 0, 1, (.int (0)), 0),
  (5, .istore_n 2, 1, .null, 2),
  (6, .iload_n 2, 1, .null, 2),
  (7, .aload_n 1, 1, .null, 1),
  (8, .getfield 38, 3, .null, 0),
  (11, .if_icmp .ge (60), 3, .null, 71),
  (14, .aload_n 1, 1, .null, 1),
  (15, .iload_n 2, 1, .null, 2),
  (16, .invokevirtual 44, 3, .null, 0),
  (19, .istore_n 3, 1, .null, 3),
  (20, .iload_n 3, 1, .null, 3),
  (21, .bipush (42), 2, (.int (42)), 0),
  (23, .if_icmp .eq (9), 3, .null, 32),
  (26, .iload_n 3, 1, .null, 3),
  (27, .bipush (63), 2, (.int (63)), 0),
  (29, .if_icmp .ne (14), 3, .null, 43),
  (32, .aload_n 0, 1, .null, 0),
  (33, .iconst 0, 1, (.int (0)), 0),
  (34, .sipush (255), 3, (.int (255)), 0),
  (37, .invokevirtual 48, 3, .null, 0),
  (40, .goto (9), 3, .null, 49),
  (43, .aload_n 0, 1, .null, 0),
  (44, .iload_n 3, 1, .null, 3),
  (45, .iload_n 3, 1, .null, 3),
  (46, .invokevirtual 48, 3, .null, 0),
  (49, .iload_n 3, 1, .null, 3),
  (50, .bipush (42), 2, (.int (42)), 0),
  (52, .if_icmp .ne (9), 3, .null, 61),
  (55, .aload_n 0, 1, .null, 0),
  (56, .bipush (42), 2, (.int (42)), 0),
  (58, .invokevirtual 52, 3, .null, 0),
  (61, .aload_n 0, 1, .null, 0),
  (62, .invokevirtual 56, 3, .null, 0),
  (65, .iinc 2 (1), 3, (.int (1)), 2),
  (68, .goto (-62), 3, .null, 6),
  (71, .aload_n 0, 1, .null, 0),
  (72, .invokevirtual 59, 3, .null, 0),
  (75, .return_, 1, .null, 0)]
noncomputable def m_X5_readWild : ab_M := (c_X5_readWild, [(0, [0, 1]), (6, [0, 1, 2]), (32, [0, 1, 2, 3]), (49, [0, 1, 2, 3]), (61, [0, 1, 2])],
  [(38, 6, 1, 0)],
  [],
  [(35, 1, 1, g_X5_start), (44, 1, 2, g_X6_at), (48, 1, 3, g_X5_putPlace), (52, 1, 2, g_X5_repeat), (56, 1, 1, g_X5_settlePiece), (59, 1, 1, g_X5_settleSequence)],
  [], 4, 0)
theorem one_X5_readWild : ab_oneM m_X5_readWild := List.forall_mem_cons.mpr ⟨o_X5_start, List.forall_mem_cons.mpr ⟨o_X6_at, List.forall_mem_cons.mpr ⟨o_X5_putPlace, List.forall_mem_cons.mpr ⟨o_X5_repeat, List.forall_mem_cons.mpr ⟨o_X5_settlePiece, List.forall_mem_cons.mpr ⟨o_X5_settleSequence, fun _ h => absurd h List.not_mem_nil⟩⟩⟩⟩⟩⟩
noncomputable def f_X5_readWild (l0 : Nat) (l1 : Nat) (st : ab_S) : Option ab_R := ab_rc st l0 5 (ab_lim m_X5_readWild 0 [.ref l0, .ref l1] [] st)
noncomputable def L_X5_readWild_6 (l0 : Nat) (l1 : Nat) (l2 : Int32) (st : ab_S) : Option ab_R := ab_lim m_X5_readWild 6 [.ref l0, .ref l1, .int l2] [] st
noncomputable def L_X5_readWild_32 (l0 : Nat) (l1 : Nat) (l2 : Int32) (l3 : Int32) (st : ab_S) : Option ab_R := ab_lim m_X5_readWild 32 [.ref l0, .ref l1, .int l2, .int l3] [] st
noncomputable def L_X5_readWild_49 (l0 : Nat) (l1 : Nat) (l2 : Int32) (l3 : Int32) (st : ab_S) : Option ab_R := ab_lim m_X5_readWild 49 [.ref l0, .ref l1, .int l2, .int l3] [] st
noncomputable def L_X5_readWild_61 (l0 : Nat) (l1 : Nat) (l2 : Int32) (st : ab_S) : Option ab_R := ab_lim m_X5_readWild 61 [.ref l0, .ref l1, .int l2] [] st
noncomputable def g_X5_readWild : ab_G := fun as st k => match as with
  | [.ref a0, .ref a1] => ab_rv (f_X5_readWild a0 a1 st) (fun t => k [] t)
  | _ => none
theorem o_X5_readWild : ab_one g_X5_readWild := by
  intro as st k r h
  unfold g_X5_readWild at h ⊢
  split at h
  · exact one_rv h
  · cases h
set_option maxRecDepth 100000 in
theorem e_X5_readWild_0 (l0 : Nat) (l1 : Nat) (st : ab_S) : f_X5_readWild l0 l1 st =
    ab_rc st l0 5 (
    ab_rv (f_X5_start l0 st) fun s1 =>
    L_X5_readWild_6 l0 l1 (0 : Int32) s1) := congrArg (ab_rc st l0 5) ((lm_eq one_X5_readWild 0 _ _ _).trans rfl)
set_option maxRecDepth 100000 in
theorem e_X5_readWild_6 (l0 : Nat) (l1 : Nat) (l2 : Int32) (st : ab_S) : L_X5_readWild_6 l0 l1 l2 st =
    Option.bind (ab_gI st l1 6 1) fun x1 =>
    if x1 ≤ l2
    then ab_rv (f_X5_settleSequence l0 st) fun s2 =>
      some (none, s2)
    else ab_ri (f_X6_at l1 l2 st) fun x4 s3 =>
      if x4 = (42 : Int32)
      then L_X5_readWild_32 l0 l1 l2 x4 s3
      else if x4 = (63 : Int32)
        then L_X5_readWild_32 l0 l1 l2 x4 s3
        else ab_rv (f_X5_putPlace l0 x4 x4 s3) fun s5 =>
          L_X5_readWild_49 l0 l1 l2 x4 s5 := (lm_eq one_X5_readWild 6 _ _ _).trans rfl
set_option maxRecDepth 100000 in
theorem e_X5_readWild_32 (l0 : Nat) (l1 : Nat) (l2 : Int32) (l3 : Int32) (st : ab_S) : L_X5_readWild_32 l0 l1 l2 l3 st =
    ab_rv (f_X5_putPlace l0 (0 : Int32) (255 : Int32) st) fun s1 =>
    L_X5_readWild_49 l0 l1 l2 l3 s1 := (lm_eq one_X5_readWild 32 _ _ _).trans rfl
set_option maxRecDepth 100000 in
theorem e_X5_readWild_49 (l0 : Nat) (l1 : Nat) (l2 : Int32) (l3 : Int32) (st : ab_S) : L_X5_readWild_49 l0 l1 l2 l3 st =
    if l3 = (42 : Int32)
    then ab_rv (f_X5_repeat l0 (42 : Int32) st) fun s1 =>
      L_X5_readWild_61 l0 l1 l2 s1
    else L_X5_readWild_61 l0 l1 l2 st := (lm_eq one_X5_readWild 49 _ _ _).trans rfl
set_option maxRecDepth 100000 in
theorem e_X5_readWild_61 (l0 : Nat) (l1 : Nat) (l2 : Int32) (st : ab_S) : L_X5_readWild_61 l0 l1 l2 st =
    ab_rv (f_X5_settlePiece l0 st) fun s1 =>
    L_X5_readWild_6 l0 l1 (l2 + (1 : Int32)) s1 := (lm_eq one_X5_readWild 61 _ _ _).trans rfl
def c_X2_read : List (Nat × ab_I) := [(0, .aload_n 0, 1, .null, 0),
  (1, .aload_n 1, 1, .null, 1),
  (2, .putfield 16, 3, .null, 0),
  (5, .aload_n 0, 1, .null, 0),
  (6, .iload_n 2, 1, .null, 2),
  (7, .putfield 20, 3, .null, 0),
  (10, .return_, 1, .null, 0)]
noncomputable def m_X2_read : ab_M := (c_X2_read, [(0, [0, 1, 2])],
  [(16, 2, 1, 3), (20, 2, 2, 0)],
  [],
  [],
  [], 3, 0)
theorem one_X2_read : ab_oneM m_X2_read := fun _ h => absurd h List.not_mem_nil
noncomputable def f_X2_read (l0 : Nat) (l1 : Nat) (l2 : Int32) (st : ab_S) : Option ab_R := ab_rc st l0 2 (ab_lim m_X2_read 0 [.ref l0, .ref l1, .int l2] [] st)
noncomputable def g_X2_read : ab_G := fun as st k => match as with
  | [.ref a0, .ref a1, .int a2] => ab_rv (f_X2_read a0 a1 a2 st) (fun t => k [] t)
  | _ => none
theorem o_X2_read : ab_one g_X2_read := by
  intro as st k r h
  unfold g_X2_read at h ⊢
  split at h
  · exact one_rv h
  · cases h
set_option maxRecDepth 100000 in
theorem e_X2_read_0 (l0 : Nat) (l1 : Nat) (l2 : Int32) (st : ab_S) : f_X2_read l0 l1 l2 st =
    ab_rc st l0 2 (
    Option.bind (ab_pR st l0 2 1 l1) fun s1 =>
    Option.bind (ab_pI s1 l0 2 2 l2) fun s2 =>
    some (none, s2)) := congrArg (ab_rc st l0 2) ((lm_eq one_X2_read 0 _ _ _).trans rfl)
def c_J_abs : List (Nat × ab_I) := [(0, .iload_n 0, 1, .null, 0),
  (1, .ifCond .ge (8), 3, .null, 9),
  (4, .iload_n 0, 1, .null, 0),
  (5, .ineg, 1, .null, 0),
  (6, .goto (4), 3, .null, 10),
  (9, .iload_n 0, 1, .null, 0),
  (10, .ireturn, 1, .null, 0)]
noncomputable def m_J_abs : ab_M := (c_J_abs, [(0, [0])],
  [],
  [],
  [],
  [], 1, 1)
theorem one_J_abs : ab_oneM m_J_abs := fun _ h => absurd h List.not_mem_nil
noncomputable def f_J_abs (l0 : Int32) (st : ab_S) : Option ab_R := ab_lim m_J_abs 0 [.int l0] [] st
noncomputable def g_J_abs : ab_G := fun as st k => match as with
  | [.int a0] => ab_ri (f_J_abs a0 st) (fun x t => k [.int x] t)
  | _ => none
theorem o_J_abs : ab_one g_J_abs := by
  intro as st k r h
  unfold g_J_abs at h ⊢
  split at h
  · exact one_ri h
  · cases h
set_option maxRecDepth 100000 in
theorem e_J_abs_0 (l0 : Int32) (st : ab_S) : f_J_abs l0 st =
    if 0 ≤ l0
    then some (some (.int l0), st)
    else some (some (.int (-l0)), st) := (lm_eq one_J_abs 0 _ _ _).trans rfl
def c_X2_fewest : List (Nat × ab_I) := [(0, .aload_n 0, 1, .null, 0),
  (1, .getfield 16, 3, .null, 0),
  (4, .iload_n 3, 1, .null, 3),
  (5, .iconst 1, 1, (.int (1)), 0),
  (6, .isub, 1, .null, 0),
  (7, .invokevirtual 44, 3, .null, 0),
  (10, .istore 5, 2, .null, 5),
  (12, .aload_n 1, 1, .null, 1),
  (13, .iload_n 2, 1, .null, 2),
  (14, .iload 4, 2, .null, 4),
  (16, .iconst 1, 1, (.int (1)), 0),
  (17, .isub, 1, .null, 0),
  (18, .invokevirtual 47, 3, .null, 0),
  (21, .istore 6, 2, .null, 6),
  (23, .aload_n 0, 1, .null, 0),
  (24, .getfield 11, 3, .null, 0),
  (27, .iload_n 3, 1, .null, 3),
  (28, .iconst 1, 1, (.int (1)), 0),
  (29, .isub, 1, .null, 0),
  (30, .aaload, 1, .null, 0),
  (31, .iload 4, 2, .null, 4),
  (33, .iaload, 1, .null, 0),
  (34, .aload_n 0, 1, .null, 0),
  (35, .getfield 11, 3, .null, 0),
  (38, .iload_n 3, 1, .null, 3),
  (39, .aaload, 1, .null, 0),
  (40, .iload 4, 2, .null, 4),
  (42, .iconst 1, 1, (.int (1)), 0),
  (43, .isub, 1, .null, 0),
  (44, .iaload, 1, .null, 0),
  (45, .invokestatic 51, 3, .null, 0),
  (48, .iconst 1, 1, (.int (1)), 0),
  (49, .iadd, 1, .null, 0),
  (50, .istore 7, 2, .null, 7),
  (52, .iload 7, 2, .null, 7),
  (54, .aload_n 0, 1, .null, 0),
  (55, .getfield 11, 3, .null, 0),
  (58, .iload_n 3, 1, .null, 3),
  (59, .iconst 1, 1, (.int (1)), 0),
  (60, .isub, 1, .null, 0),
  (61, .aaload, 1, .null, 0),
  (62, .iload 4, 2, .null, 4),
  (64, .iconst 1, 1, (.int (1)), 0),
  (65, .isub, 1, .null, 0),
  (66, .iaload, 1, .null, 0),
  (67, .iload 5, 2, .null, 5),
  (69, .iload 6, 2, .null, 6),
  (71, .if_icmp .ne (7), 3, .null, 78),
  (74, .iconst 0, 1, (.int (0)), 0),
  (75, .goto (4), 3, .null, 79),
  (78, .iconst 1, 1, (.int (1)), 0),
  (79, .iadd, 1, .null, 0),
  (80, .invokestatic 51, 3, .null, 0),
  (83, .istore 7, 2, .null, 7),
  (85, .iload_n 3, 1, .null, 3),
  (86, .iconst 1, 1, (.int (1)), 0),
  (87, .if_icmp .le (42), 3, .null, 129),
  (90, .iload 4, 2, .null, 4),
  (92, .iconst 1, 1, (.int (1)), 0),
  (93, .if_icmp .le (36), 3, .null, 129),
  (96, .aload_n 0, 1, .null, 0),
  (97, .getfield 16, 3, .null, 0),
  (100, .iload_n 3, 1, .null, 3),
  (101, .iconst 2, 1, (.int (2)), 0),
  (102, .isub, 1, .null, 0),
  (103, .invokevirtual 44, 3, .null, 0),
  (106, .iload 6, 2, .null, 6),
  (108, .if_icmp .ne (21), 3, .null, 129),
  (111, .iload 5, 2, .null, 5),
  (113, .aload_n 1, 1, .null, 1),
  (114, .iload_n 2, 1, .null, 2),
  (115, .iload 4, 2, .null, 4),
  (117, .iconst 2, 1, (.int (2)), 0),
  (118, .isub, 1, .null, 0),
  (119, .invokevirtual 47, 3, .null, 0),
  (122, .if_icmp .ne (7), 3, .null, 129),
  (125, .iconst 1, 1, (.int (1)), 0),
  (126, .goto (4), 3, .null, 130),
  (129, .iconst 0, 1, (.int (0)), 0),
  (130, .istore 8, 2, .null, 8),
  (132, .iload 8, 2, .null, 8),
  (134, .ifCond .eq (26), 3, .null, 160),
  (137, .iload 7, 2, .null, 7),
  (139, .aload_n 0, 1, .null, 0),
  (140, .getfield 11, 3, .null, 0),
  (143, .iload_n 3, 1, .null, 3),
  (144, .iconst 2, 1, (.int (2)), 0),
  (145, .isub, 1, .null, 0),
  (146, .aaload, 1, .null, 0),
  (147, .iload 4, 2, .null, 4),
  (149, .iconst 2, 1, (.int (2)), 0),
  (150, .isub, 1, .null, 0),
  (151, .iaload, 1, .null, 0),
  (152, .iconst 1, 1, (.int (1)), 0),
  (153, .iadd, 1, .null, 0),
  (154, .invokestatic 51, 3, .null, 0),
  (157, .goto (5), 3, .null, 162),
  (160, .iload 7, 2, .null, 7),
  (162, .ireturn, 1, .null, 0)]
noncomputable def m_X2_fewest : ab_M := (c_X2_fewest, [(0, [0, 1, 2, 3, 4]), (79, [0, 1, 2, 3, 4, 5, 6]), (129, [0, 3, 4, 7]), (130, [0, 3, 4, 7])],
  [(11, 2, 0, 3), (16, 2, 1, 3)],
  [],
  [(44, 1, 2, g_X6_at), (47, 1, 3, g_X7_signAt), (51, 0, 2, g_J_min)],
  [], 9, 1)
theorem one_X2_fewest : ab_oneM m_X2_fewest := List.forall_mem_cons.mpr ⟨o_X6_at, List.forall_mem_cons.mpr ⟨o_X7_signAt, List.forall_mem_cons.mpr ⟨o_J_min, fun _ h => absurd h List.not_mem_nil⟩⟩⟩
noncomputable def f_X2_fewest (l0 : Nat) (l1 : Nat) (l2 : Int32) (l3 : Int32) (l4 : Int32) (st : ab_S) : Option ab_R := ab_rc st l0 2 (ab_lim m_X2_fewest 0 [.ref l0, .ref l1, .int l2, .int l3, .int l4] [] st)
noncomputable def L_X2_fewest_79 (l0 : Nat) (l1 : Nat) (l2 : Int32) (l3 : Int32) (l4 : Int32) (l5 : Int32) (l6 : Int32) (t0 : Int32) (t1 : Int32) (t2 : Int32) (st : ab_S) : Option ab_R := ab_lim m_X2_fewest 79 [.ref l0, .ref l1, .int l2, .int l3, .int l4, .int l5, .int l6] [.int t2, .int t1, .int t0] st
noncomputable def L_X2_fewest_129 (l0 : Nat) (l3 : Int32) (l4 : Int32) (l7 : Int32) (st : ab_S) : Option ab_R := ab_lim m_X2_fewest 129 [.ref l0, .int l3, .int l4, .int l7] [] st
noncomputable def L_X2_fewest_130 (l0 : Nat) (l3 : Int32) (l4 : Int32) (l7 : Int32) (t0 : Int32) (st : ab_S) : Option ab_R := ab_lim m_X2_fewest 130 [.ref l0, .int l3, .int l4, .int l7] [.int t0] st
noncomputable def g_X2_fewest : ab_G := fun as st k => match as with
  | [.ref a0, .ref a1, .int a2, .int a3, .int a4] => ab_ri (f_X2_fewest a0 a1 a2 a3 a4 st) (fun x t => k [.int x] t)
  | _ => none
theorem o_X2_fewest : ab_one g_X2_fewest := by
  intro as st k r h
  unfold g_X2_fewest at h ⊢
  split at h
  · exact one_ri h
  · cases h
set_option maxRecDepth 100000 in
theorem e_X2_fewest_0 (l0 : Nat) (l1 : Nat) (l2 : Int32) (l3 : Int32) (l4 : Int32) (st : ab_S) : f_X2_fewest l0 l1 l2 l3 l4 st =
    ab_rc st l0 2 (
    Option.bind (ab_gR st l0 2 1) fun x1 =>
    ab_ri (f_X6_at x1 (l3 - (1 : Int32)) st) fun x3 s2 =>
    ab_ri (f_X7_signAt l1 l2 (l4 - (1 : Int32)) s2) fun x5 s4 =>
    Option.bind (ab_gR s4 l0 2 0) fun x6 =>
    Option.bind (ab_rR s4 x6 (l3 - (1 : Int32))) fun x7 =>
    Option.bind (ab_rI s4 x7 l4) fun x8 =>
    Option.bind (ab_gR s4 l0 2 0) fun x9 =>
    Option.bind (ab_rR s4 x9 l3) fun x10 =>
    Option.bind (ab_rI s4 x10 (l4 - (1 : Int32))) fun x11 =>
    ab_ri (f_J_min x8 x11 s4) fun x13 s12 =>
    Option.bind (ab_gR s12 l0 2 0) fun x14 =>
    Option.bind (ab_rR s12 x14 (l3 - (1 : Int32))) fun x15 =>
    Option.bind (ab_rI s12 x15 (l4 - (1 : Int32))) fun x16 =>
    if x3 = x5
    then L_X2_fewest_79 l0 l1 l2 l3 l4 x3 x5 (x13 + (1 : Int32)) x16 (0 : Int32) s12
    else L_X2_fewest_79 l0 l1 l2 l3 l4 x3 x5 (x13 + (1 : Int32)) x16 (1 : Int32) s12) := congrArg (ab_rc st l0 2) ((lm_eq one_X2_fewest 0 _ _ _).trans rfl)
set_option maxRecDepth 100000 in
theorem e_X2_fewest_79 (l0 : Nat) (l1 : Nat) (l2 : Int32) (l3 : Int32) (l4 : Int32) (l5 : Int32) (l6 : Int32) (t0 : Int32) (t1 : Int32) (t2 : Int32) (st : ab_S) : L_X2_fewest_79 l0 l1 l2 l3 l4 l5 l6 t0 t1 t2 st =
    ab_ri (f_J_min t0 (t1 + t2) st) fun x2 s1 =>
    if l3 ≤ (1 : Int32)
    then L_X2_fewest_129 l0 l3 l4 x2 s1
    else if l4 ≤ (1 : Int32)
      then L_X2_fewest_129 l0 l3 l4 x2 s1
      else Option.bind (ab_gR s1 l0 2 1) fun x3 =>
        ab_ri (f_X6_at x3 (l3 - (2 : Int32)) s1) fun x5 s4 =>
        if x5 = l6
        then ab_ri (f_X7_signAt l1 l2 (l4 - (2 : Int32)) s4) fun x7 s6 =>
          if l5 = x7
          then L_X2_fewest_130 l0 l3 l4 x2 (1 : Int32) s6
          else L_X2_fewest_129 l0 l3 l4 x2 s6
        else L_X2_fewest_129 l0 l3 l4 x2 s4 := (lm_eq one_X2_fewest 79 _ _ _).trans rfl
set_option maxRecDepth 100000 in
theorem e_X2_fewest_129 (l0 : Nat) (l3 : Int32) (l4 : Int32) (l7 : Int32) (st : ab_S) : L_X2_fewest_129 l0 l3 l4 l7 st =
    L_X2_fewest_130 l0 l3 l4 l7 (0 : Int32) st := (lm_eq one_X2_fewest 129 _ _ _).trans rfl
set_option maxRecDepth 100000 in
theorem e_X2_fewest_130 (l0 : Nat) (l3 : Int32) (l4 : Int32) (l7 : Int32) (t0 : Int32) (st : ab_S) : L_X2_fewest_130 l0 l3 l4 l7 t0 st =
    if t0 = 0
    then some (some (.int l7), st)
    else Option.bind (ab_gR st l0 2 0) fun x1 =>
      Option.bind (ab_rR st x1 (l3 - (2 : Int32))) fun x2 =>
      Option.bind (ab_rI st x2 (l4 - (2 : Int32))) fun x3 =>
      ab_ri (f_J_min l7 (x3 + (1 : Int32)) st) fun x5 s4 =>
      some (some (.int x5), s4) := (lm_eq one_X2_fewest 130 _ _ _).trans rfl
def c_X2_accepts : List (Nat × ab_I) := [(0, .aload_n 1, 1, .null, 1),
  (1, .iload_n 2, 1, .null, 2),
  (2, .invokevirtual 24, 3, .null, 0),
  (5, .istore_n 3, 1, .null, 3),
  (6, .aload_n 0, 1, .null, 0),
  (7, .getfield 16, 3, .null, 0),
  (10, .ifnull (25), 3, .null, 35),
  (13, .aload_n 0, 1, .null, 0),
  (14, .getfield 16, 3, .null, 0),
  (17, .getfield 30, 3, .null, 0),
  (20, .bipush (12), 2, (.int (12)), 0),
  (22, .if_icmp .gt (13), 3, .null, 35),
  (25, .iload_n 3, 1, .null, 3),
  (26, .ifCond .lt (9), 3, .null, 35),
  (29, .iload_n 3, 1, .null, 3),
  (30, .bipush (12), 2, (.int (12)), 0),
  (32, .if_icmp .le (5), 3, .null, 37),
  (35, .iconst 0, 1, (.int (0)), 0),
  (36, .ireturn, 1, .null, 0),
  (37, .aload_n 0, 1, .null, 0),
  (38, .getfield 16, 3, .null, 0),
  (41, .getfield 30, 3, .null, 0),
  (44, .iload_n 3, 1, .null, 3),
  (45, .isub, 1, .null, 0),
  (46, .invokestatic 35, 3, .null, 0),
  (49, .aload_n 0, 1, .null, 0),
  (50, .getfield 20, 3, .null, 0),
  (53, .if_icmp .le (5), 3, .null, 58),
  (56, .iconst 0, 1, (.int (0)), 0),
  (57, .ireturn, 1, .null, 0),
  (58, .iconst 0, 1, (.int (0)), 0),
  (59, .istore 4, 2, .null, 4),
  (61, .iload 4, 2, .null, 4),
  (63, .aload_n 0, 1, .null, 0),
  (64, .getfield 16, 3, .null, 0),
  (67, .getfield 30, 3, .null, 0),
  (70, .if_icmp .gt (62), 3, .null, 132),
  (73, .iconst 0, 1, (.int (0)), 0),
  (74, .istore 5, 2, .null, 5),
  (76, .iload 5, 2, .null, 5),
  (78, .iload_n 3, 1, .null, 3),
  (79, .if_icmp .gt (47), 3, .null, 126),
  (82, .aload_n 0, 1, .null, 0),
  (83, .getfield 11, 3, .null, 0),
  (86, .iload 4, 2, .null, 4),
  (88, .aaload, 1, .null, 0),
  (89, .iload 5, 2, .null, 5),
  (91, .iload 4, 2, .null, 4),
  (93, .ifCond .eq (8), 3, .null, 101),
  (96, .iload 5, 2, .null, 5),
  (98, .ifCond .ne (11), 3, .null, 109),
  (101, .iload 4, 2, .null, 4),
  (103, .iload 5, 2, .null, 5),
  (105, .iadd, 1, .null, 0),
  (106, .goto (13), 3, .null, 119),
  (109, .aload_n 0, 1, .null, 0),
  (110, .aload_n 1, 1, .null, 1),
  (111, .iload_n 2, 1, .null, 2),
  (112, .iload 4, 2, .null, 4),
  (114, .iload 5, 2, .null, 5),
  (116, .invokevirtual 40, 3, .null, 0),
  (119, .iastore, 1, .null, 0),
  (120, .iinc 5 (1), 3, (.int (1)), 5),
  (123, .goto (-47), 3, .null, 76),
  (126, .iinc 4 (1), 3, (.int (1)), 4),
  (129, .goto (-68), 3, .null, 61),
  (132, .aload_n 0, 1, .null, 0),
  (133, .getfield 11, 3, .null, 0),
  (136, .aload_n 0, 1, .null, 0),
  (137, .getfield 16, 3, .null, 0),
  (140, .getfield 30, 3, .null, 0),
  (143, .aaload, 1, .null, 0),
  (144, .iload_n 3, 1, .null, 3),
  (145, .iaload, 1, .null, 0),
  (146, .aload_n 0, 1, .null, 0),
  (147, .getfield 20, 3, .null, 0),
  (150, .if_icmp .gt (7), 3, .null, 157),
  (153, .iconst 1, 1, (.int (1)), 0),
  (154, .goto (4), 3, .null, 158),
  (157, .iconst 0, 1, (.int (0)), 0),
  (158, .ireturn, 1, .null, 0)]
noncomputable def m_X2_accepts : ab_M := (c_X2_accepts, [(0, [0, 1, 2]), (61, [0, 1, 2, 3, 4]), (76, [0, 1, 2, 3, 4, 5]), (101, [0, 1, 2, 3, 4, 5]), (119, [0, 1, 2, 3, 4, 5])],
  [(11, 2, 0, 3), (16, 2, 1, 3), (20, 2, 2, 0), (30, 6, 1, 0)],
  [],
  [(24, 1, 2, g_X7_lengthAt), (35, 0, 1, g_J_abs), (40, 1, 5, g_X2_fewest)],
  [], 6, 2)
theorem one_X2_accepts : ab_oneM m_X2_accepts := List.forall_mem_cons.mpr ⟨o_X7_lengthAt, List.forall_mem_cons.mpr ⟨o_J_abs, List.forall_mem_cons.mpr ⟨o_X2_fewest, fun _ h => absurd h List.not_mem_nil⟩⟩⟩
noncomputable def f_X2_accepts (l0 : Nat) (l1 : Nat) (l2 : Int32) (st : ab_S) : Option ab_R := ab_rc st l0 2 (ab_lim m_X2_accepts 0 [.ref l0, .ref l1, .int l2] [] st)
noncomputable def L_X2_accepts_61 (l0 : Nat) (l1 : Nat) (l2 : Int32) (l3 : Int32) (l4 : Int32) (st : ab_S) : Option ab_R := ab_lim m_X2_accepts 61 [.ref l0, .ref l1, .int l2, .int l3, .int l4] [] st
noncomputable def L_X2_accepts_76 (l0 : Nat) (l1 : Nat) (l2 : Int32) (l3 : Int32) (l4 : Int32) (l5 : Int32) (st : ab_S) : Option ab_R := ab_lim m_X2_accepts 76 [.ref l0, .ref l1, .int l2, .int l3, .int l4, .int l5] [] st
noncomputable def L_X2_accepts_101 (l0 : Nat) (l1 : Nat) (l2 : Int32) (l3 : Int32) (l4 : Int32) (l5 : Int32) (t0 : Nat) (t1 : Int32) (st : ab_S) : Option ab_R := ab_lim m_X2_accepts 101 [.ref l0, .ref l1, .int l2, .int l3, .int l4, .int l5] [.int t1, .ref t0] st
noncomputable def L_X2_accepts_119 (l0 : Nat) (l1 : Nat) (l2 : Int32) (l3 : Int32) (l4 : Int32) (l5 : Int32) (t0 : Nat) (t1 : Int32) (t2 : Int32) (st : ab_S) : Option ab_R := ab_lim m_X2_accepts 119 [.ref l0, .ref l1, .int l2, .int l3, .int l4, .int l5] [.int t2, .int t1, .ref t0] st
noncomputable def g_X2_accepts : ab_G := fun as st k => match as with
  | [.ref a0, .ref a1, .int a2] => ab_ri (f_X2_accepts a0 a1 a2 st) (fun x t => k [.int x] t)
  | _ => none
theorem o_X2_accepts : ab_one g_X2_accepts := by
  intro as st k r h
  unfold g_X2_accepts at h ⊢
  split at h
  · exact one_ri h
  · cases h
set_option maxRecDepth 100000 in
theorem e_X2_accepts_0 (l0 : Nat) (l1 : Nat) (l2 : Int32) (st : ab_S) : f_X2_accepts l0 l1 l2 st =
    ab_rc st l0 2 (
    ab_ri (f_X7_lengthAt l1 l2 st) fun x2 s1 =>
    Option.bind (ab_gR s1 l0 2 1) fun x3 =>
    if x3 = 0
    then ab_z (0 : Int32) (some (some (.int (0 : Int32)), s1))
    else Option.bind (ab_gR s1 l0 2 1) fun x4 =>
      Option.bind (ab_gI s1 x4 6 1) fun x5 =>
      if (12 : Int32) < x5
      then ab_z (0 : Int32) (some (some (.int (0 : Int32)), s1))
      else if x2 < 0
        then ab_z (0 : Int32) (some (some (.int (0 : Int32)), s1))
        else if x2 ≤ (12 : Int32)
          then Option.bind (ab_gR s1 l0 2 1) fun x6 =>
            Option.bind (ab_gI s1 x6 6 1) fun x7 =>
            ab_ri (f_J_abs (x7 - x2) s1) fun x9 s8 =>
            Option.bind (ab_gI s8 l0 2 2) fun x10 =>
            if x9 ≤ x10
            then L_X2_accepts_61 l0 l1 l2 x2 (0 : Int32) s8
            else ab_z (0 : Int32) (some (some (.int (0 : Int32)), s8))
          else ab_z (0 : Int32) (some (some (.int (0 : Int32)), s1))) := congrArg (ab_rc st l0 2) ((lm_eq one_X2_accepts 0 _ _ _).trans rfl)
set_option maxRecDepth 100000 in
theorem e_X2_accepts_61 (l0 : Nat) (l1 : Nat) (l2 : Int32) (l3 : Int32) (l4 : Int32) (st : ab_S) : L_X2_accepts_61 l0 l1 l2 l3 l4 st =
    Option.bind (ab_gR st l0 2 1) fun x1 =>
    Option.bind (ab_gI st x1 6 1) fun x2 =>
    if x2 < l4
    then Option.bind (ab_gR st l0 2 0) fun x3 =>
      Option.bind (ab_gR st l0 2 1) fun x4 =>
      Option.bind (ab_gI st x4 6 1) fun x5 =>
      Option.bind (ab_rR st x3 x5) fun x6 =>
      Option.bind (ab_rI st x6 l3) fun x7 =>
      Option.bind (ab_gI st l0 2 2) fun x8 =>
      if x8 < x7
      then ab_z (0 : Int32) (some (some (.int (0 : Int32)), st))
      else ab_z (1 : Int32) (some (some (.int (1 : Int32)), st))
    else L_X2_accepts_76 l0 l1 l2 l3 l4 (0 : Int32) st := (lm_eq one_X2_accepts 61 _ _ _).trans rfl
set_option maxRecDepth 100000 in
theorem e_X2_accepts_76 (l0 : Nat) (l1 : Nat) (l2 : Int32) (l3 : Int32) (l4 : Int32) (l5 : Int32) (st : ab_S) : L_X2_accepts_76 l0 l1 l2 l3 l4 l5 st =
    if l3 < l5
    then L_X2_accepts_61 l0 l1 l2 l3 (l4 + (1 : Int32)) st
    else Option.bind (ab_gR st l0 2 0) fun x1 =>
      Option.bind (ab_rR st x1 l4) fun x2 =>
      if l4 = 0
      then L_X2_accepts_101 l0 l1 l2 l3 l4 l5 x2 l5 st
      else if l5 = 0
        then L_X2_accepts_101 l0 l1 l2 l3 l4 l5 x2 l5 st
        else ab_ri (f_X2_fewest l0 l1 l2 l4 l5 st) fun x4 s3 =>
          L_X2_accepts_119 l0 l1 l2 l3 l4 l5 x2 l5 x4 s3 := (lm_eq one_X2_accepts 76 _ _ _).trans rfl
set_option maxRecDepth 100000 in
theorem e_X2_accepts_101 (l0 : Nat) (l1 : Nat) (l2 : Int32) (l3 : Int32) (l4 : Int32) (l5 : Int32) (t0 : Nat) (t1 : Int32) (st : ab_S) : L_X2_accepts_101 l0 l1 l2 l3 l4 l5 t0 t1 st =
    L_X2_accepts_119 l0 l1 l2 l3 l4 l5 t0 t1 (l4 + l5) st := (lm_eq one_X2_accepts 101 _ _ _).trans rfl
set_option maxRecDepth 100000 in
theorem e_X2_accepts_119 (l0 : Nat) (l1 : Nat) (l2 : Int32) (l3 : Int32) (l4 : Int32) (l5 : Int32) (t0 : Nat) (t1 : Int32) (t2 : Int32) (st : ab_S) : L_X2_accepts_119 l0 l1 l2 l3 l4 l5 t0 t1 t2 st =
    Option.bind (ab_wI st t0 t1 t2) fun s1 =>
    L_X2_accepts_76 l0 l1 l2 l3 l4 (l5 + (1 : Int32)) s1 := (lm_eq one_X2_accepts 119 _ _ _).trans rfl
def c_X5_takersOf : List (Nat × ab_I) := [(0, .iload_n 1, 1, .null, 1),
  (1, .ifCond .lt (10), 3, .null, 11),
  (4, .iload_n 1, 1, .null, 1),
  (5, .sipush (256), 3, (.int (256)), 0),
  (8, .if_icmp .lt (7), 3, .null, 15),
  (11, .iconst 0, 1, (.int (0)), 0),
  (12, .goto (9), 3, .null, 21),
  (15, .aload_n 0, 1, .null, 0),
  (16, .getfield 9, 3, .null, 0),
  (19, .iload_n 1, 1, .null, 1),
  (20, .iaload, 1, .null, 0),
  (21, .ireturn, 1, .null, 0)]
noncomputable def m_X5_takersOf : ab_M := (c_X5_takersOf, [(0, [0, 1])],
  [(9, 5, 0, 3)],
  [],
  [],
  [], 2, 1)
theorem one_X5_takersOf : ab_oneM m_X5_takersOf := fun _ h => absurd h List.not_mem_nil
noncomputable def f_X5_takersOf (l0 : Nat) (l1 : Int32) (st : ab_S) : Option ab_R := ab_rc st l0 5 (ab_lim m_X5_takersOf 0 [.ref l0, .int l1] [] st)
noncomputable def g_X5_takersOf : ab_G := fun as st k => match as with
  | [.ref a0, .int a1] => ab_ri (f_X5_takersOf a0 a1 st) (fun x t => k [.int x] t)
  | _ => none
theorem o_X5_takersOf : ab_one g_X5_takersOf := by
  intro as st k r h
  unfold g_X5_takersOf at h ⊢
  split at h
  · exact one_ri h
  · cases h
set_option maxRecDepth 100000 in
theorem e_X5_takersOf_0 (l0 : Nat) (l1 : Int32) (st : ab_S) : f_X5_takersOf l0 l1 st =
    ab_rc st l0 5 (
    if l1 < 0
    then some (some (.int (0 : Int32)), st)
    else if l1 < (256 : Int32)
      then Option.bind (ab_gR st l0 5 0) fun x1 =>
        Option.bind (ab_rI st x1 l1) fun x2 =>
        some (some (.int x2), st)
      else some (some (.int (0 : Int32)), st)) := congrArg (ab_rc st l0 5) ((lm_eq one_X5_takersOf 0 _ _ _).trans rfl)
def c_X5_reachedFrom : List (Nat × ab_I) := [(0, .iconst 0, 1, (.int (0)), 0),
  (1, .istore_n 2, 1, .null, 2),
  (2, .iconst 0, 1, (.int (0)), 0),
  (3, .istore_n 3, 1, .null, 3),
  (4, .iload_n 3, 1, .null, 3),
  (5, .aload_n 0, 1, .null, 0),
  (6, .getfield 78, 3, .null, 0),
  (9, .if_icmp .ge (32), 3, .null, 41),
  (12, .iload_n 3, 1, .null, 3),
  (13, .bipush (24), 2, (.int (24)), 0),
  (15, .if_icmp .ge (26), 3, .null, 41),
  (18, .iload_n 1, 1, .null, 1),
  (19, .iload_n 3, 1, .null, 3),
  (20, .iushr, 1, .null, 0),
  (21, .iconst 1, 1, (.int (1)), 0),
  (22, .iand, 1, .null, 0),
  (23, .ifCond .eq (12), 3, .null, 35),
  (26, .iload_n 2, 1, .null, 2),
  (27, .aload_n 0, 1, .null, 0),
  (28, .getfield 15, 3, .null, 0),
  (31, .iload_n 3, 1, .null, 3),
  (32, .iaload, 1, .null, 0),
  (33, .ior, 1, .null, 0),
  (34, .istore_n 2, 1, .null, 2),
  (35, .iinc 3 (1), 3, (.int (1)), 3),
  (38, .goto (-34), 3, .null, 4),
  (41, .iload_n 2, 1, .null, 2),
  (42, .ireturn, 1, .null, 0)]
noncomputable def m_X5_reachedFrom : ab_M := (c_X5_reachedFrom, [(0, [0, 1]), (4, [0, 1, 2, 3]), (35, [0, 1, 2, 3])],
  [(15, 5, 1, 3), (78, 5, 8, 0)],
  [],
  [],
  [], 4, 1)
theorem one_X5_reachedFrom : ab_oneM m_X5_reachedFrom := fun _ h => absurd h List.not_mem_nil
noncomputable def f_X5_reachedFrom (l0 : Nat) (l1 : Int32) (st : ab_S) : Option ab_R := ab_rc st l0 5 (ab_lim m_X5_reachedFrom 0 [.ref l0, .int l1] [] st)
noncomputable def L_X5_reachedFrom_4 (l0 : Nat) (l1 : Int32) (l2 : Int32) (l3 : Int32) (st : ab_S) : Option ab_R := ab_lim m_X5_reachedFrom 4 [.ref l0, .int l1, .int l2, .int l3] [] st
noncomputable def L_X5_reachedFrom_35 (l0 : Nat) (l1 : Int32) (l2 : Int32) (l3 : Int32) (st : ab_S) : Option ab_R := ab_lim m_X5_reachedFrom 35 [.ref l0, .int l1, .int l2, .int l3] [] st
noncomputable def g_X5_reachedFrom : ab_G := fun as st k => match as with
  | [.ref a0, .int a1] => ab_ri (f_X5_reachedFrom a0 a1 st) (fun x t => k [.int x] t)
  | _ => none
theorem o_X5_reachedFrom : ab_one g_X5_reachedFrom := by
  intro as st k r h
  unfold g_X5_reachedFrom at h ⊢
  split at h
  · exact one_ri h
  · cases h
set_option maxRecDepth 100000 in
theorem e_X5_reachedFrom_0 (l0 : Nat) (l1 : Int32) (st : ab_S) : f_X5_reachedFrom l0 l1 st =
    ab_rc st l0 5 (
    L_X5_reachedFrom_4 l0 l1 (0 : Int32) (0 : Int32) st) := congrArg (ab_rc st l0 5) ((lm_eq one_X5_reachedFrom 0 _ _ _).trans rfl)
set_option maxRecDepth 100000 in
theorem e_X5_reachedFrom_4 (l0 : Nat) (l1 : Int32) (l2 : Int32) (l3 : Int32) (st : ab_S) : L_X5_reachedFrom_4 l0 l1 l2 l3 st =
    Option.bind (ab_gI st l0 5 8) fun x1 =>
    if x1 ≤ l3
    then some (some (.int l2), st)
    else if (24 : Int32) ≤ l3
      then some (some (.int l2), st)
      else if ((l1.toUInt32 >>> (l3.toUInt32 &&& Int32.toUInt32 31)).toInt32 &&& (1 : Int32)) = 0
        then L_X5_reachedFrom_35 l0 l1 l2 l3 st
        else Option.bind (ab_gR st l0 5 1) fun x2 =>
          Option.bind (ab_rI st x2 l3) fun x3 =>
          L_X5_reachedFrom_35 l0 l1 (l2 ||| x3) l3 st := (lm_eq one_X5_reachedFrom 4 _ _ _).trans rfl
set_option maxRecDepth 100000 in
theorem e_X5_reachedFrom_35 (l0 : Nat) (l1 : Int32) (l2 : Int32) (l3 : Int32) (st : ab_S) : L_X5_reachedFrom_35 l0 l1 l2 l3 st =
    L_X5_reachedFrom_4 l0 l1 l2 (l3 + (1 : Int32)) st := (lm_eq one_X5_reachedFrom 35 _ _ _).trans rfl
def c_X5_accepts : List (Nat × ab_I) := [(0, .aload_n 0, 1, .null, 0),
  (1, .getfield 23, 3, .null, 0),
  (4, .iconst 0, 1, (.int (0)), 0),
  (5, .aaload, 1, .null, 0),
  (6, .astore_n 3, 1, .null, 3),
  (7, .aload_n 1, 1, .null, 1),
  (8, .iload_n 2, 1, .null, 2),
  (9, .invokevirtual 141, 3, .null, 0),
  (12, .istore 4, 2, .null, 4),
  (14, .iload 4, 2, .null, 4),
  (16, .ifCond .gt (21), 3, .null, 37),
  (19, .iload 4, 2, .null, 4),
  (21, .ifCond .ne (14), 3, .null, 35),
  (24, .aload_n 3, 1, .null, 3),
  (25, .getfield 110, 3, .null, 0),
  (28, .ifCond .eq (7), 3, .null, 35),
  (31, .iconst 1, 1, (.int (1)), 0),
  (32, .goto (4), 3, .null, 36),
  (35, .iconst 0, 1, (.int (0)), 0),
  (36, .ireturn, 1, .null, 0),
  (37, .aload_n 3, 1, .null, 3),
  (38, .getfield 113, 3, .null, 0),
  (41, .aload_n 0, 1, .null, 0),
  (42, .aload_n 1, 1, .null, 1),
  (43, .iload_n 2, 1, .null, 2),
  (44, .iconst 0, 1, (.int (0)), 0),
  (45, .invokevirtual 146, 3, .null, 0),
  (48, .invokevirtual 149, 3, .null, 0),
  (51, .iand, 1, .null, 0),
  (52, .istore 5, 2, .null, 5),
  (54, .iconst 1, 1, (.int (1)), 0),
  (55, .istore 6, 2, .null, 6),
  (57, .iload 6, 2, .null, 6),
  (59, .iload 4, 2, .null, 4),
  (61, .if_icmp .ge (34), 3, .null, 95),
  (64, .iload 5, 2, .null, 5),
  (66, .ifCond .eq (29), 3, .null, 95),
  (69, .aload_n 0, 1, .null, 0),
  (70, .iload 5, 2, .null, 5),
  (72, .invokevirtual 152, 3, .null, 0),
  (75, .aload_n 0, 1, .null, 0),
  (76, .aload_n 1, 1, .null, 1),
  (77, .iload_n 2, 1, .null, 2),
  (78, .iload 6, 2, .null, 6),
  (80, .invokevirtual 146, 3, .null, 0),
  (83, .invokevirtual 149, 3, .null, 0),
  (86, .iand, 1, .null, 0),
  (87, .istore 5, 2, .null, 5),
  (89, .iinc 6 (1), 3, (.int (1)), 6),
  (92, .goto (-35), 3, .null, 57),
  (95, .iload 5, 2, .null, 5),
  (97, .aload_n 3, 1, .null, 3),
  (98, .getfield 116, 3, .null, 0),
  (101, .iand, 1, .null, 0),
  (102, .ifCond .eq (7), 3, .null, 109),
  (105, .iconst 1, 1, (.int (1)), 0),
  (106, .goto (4), 3, .null, 110),
  (109, .iconst 0, 1, (.int (0)), 0),
  (110, .ireturn, 1, .null, 0)]
noncomputable def m_X5_accepts : ab_M := (c_X5_accepts, [(0, [0, 1, 2]), (57, [0, 1, 2, 3, 4, 5, 6]), (95, [3, 5])],
  [(23, 5, 3, 3), (110, 4, 0, 1), (113, 4, 1, 0), (116, 4, 2, 0)],
  [],
  [(141, 1, 2, g_X7_lengthAt), (146, 1, 3, g_X7_signAt), (149, 1, 2, g_X5_takersOf), (152, 1, 2, g_X5_reachedFrom)],
  [], 7, 2)
theorem one_X5_accepts : ab_oneM m_X5_accepts := List.forall_mem_cons.mpr ⟨o_X7_lengthAt, List.forall_mem_cons.mpr ⟨o_X7_signAt, List.forall_mem_cons.mpr ⟨o_X5_takersOf, List.forall_mem_cons.mpr ⟨o_X5_reachedFrom, fun _ h => absurd h List.not_mem_nil⟩⟩⟩⟩
noncomputable def f_X5_accepts (l0 : Nat) (l1 : Nat) (l2 : Int32) (st : ab_S) : Option ab_R := ab_rc st l0 5 (ab_lim m_X5_accepts 0 [.ref l0, .ref l1, .int l2] [] st)
noncomputable def L_X5_accepts_57 (l0 : Nat) (l1 : Nat) (l2 : Int32) (l3 : Nat) (l4 : Int32) (l5 : Int32) (l6 : Int32) (st : ab_S) : Option ab_R := ab_lim m_X5_accepts 57 [.ref l0, .ref l1, .int l2, .ref l3, .int l4, .int l5, .int l6] [] st
noncomputable def L_X5_accepts_95 (l3 : Nat) (l5 : Int32) (st : ab_S) : Option ab_R := ab_lim m_X5_accepts 95 [.ref l3, .int l5] [] st
noncomputable def g_X5_accepts : ab_G := fun as st k => match as with
  | [.ref a0, .ref a1, .int a2] => ab_ri (f_X5_accepts a0 a1 a2 st) (fun x t => k [.int x] t)
  | _ => none
theorem o_X5_accepts : ab_one g_X5_accepts := by
  intro as st k r h
  unfold g_X5_accepts at h ⊢
  split at h
  · exact one_ri h
  · cases h
set_option maxRecDepth 100000 in
theorem e_X5_accepts_0 (l0 : Nat) (l1 : Nat) (l2 : Int32) (st : ab_S) : f_X5_accepts l0 l1 l2 st =
    ab_rc st l0 5 (
    Option.bind (ab_gR st l0 5 3) fun x1 =>
    Option.bind (ab_rR st x1 (0 : Int32)) fun x2 =>
    ab_ri (f_X7_lengthAt l1 l2 st) fun x4 s3 =>
    if 0 < x4
    then Option.bind (ab_gI s3 x2 4 1) fun x5 =>
      ab_ri (f_X7_signAt l1 l2 (0 : Int32) s3) fun x7 s6 =>
      ab_ri (f_X5_takersOf l0 x7 s6) fun x9 s8 =>
      L_X5_accepts_57 l0 l1 l2 x2 x4 (x5 &&& x9) (1 : Int32) s8
    else if x4 = 0
      then Option.bind (ab_gI s3 x2 4 0) fun x10 =>
        if x10 = 0
        then ab_z (0 : Int32) (some (some (.int (0 : Int32)), s3))
        else ab_z (1 : Int32) (some (some (.int (1 : Int32)), s3))
      else ab_z (0 : Int32) (some (some (.int (0 : Int32)), s3))) := congrArg (ab_rc st l0 5) ((lm_eq one_X5_accepts 0 _ _ _).trans rfl)
set_option maxRecDepth 100000 in
theorem e_X5_accepts_57 (l0 : Nat) (l1 : Nat) (l2 : Int32) (l3 : Nat) (l4 : Int32) (l5 : Int32) (l6 : Int32) (st : ab_S) : L_X5_accepts_57 l0 l1 l2 l3 l4 l5 l6 st =
    if l4 ≤ l6
    then L_X5_accepts_95 l3 l5 st
    else if l5 = 0
      then L_X5_accepts_95 l3 l5 st
      else ab_ri (f_X5_reachedFrom l0 l5 st) fun x2 s1 =>
        ab_ri (f_X7_signAt l1 l2 l6 s1) fun x4 s3 =>
        ab_ri (f_X5_takersOf l0 x4 s3) fun x6 s5 =>
        L_X5_accepts_57 l0 l1 l2 l3 l4 (x2 &&& x6) (l6 + (1 : Int32)) s5 := (lm_eq one_X5_accepts 57 _ _ _).trans rfl
set_option maxRecDepth 100000 in
theorem e_X5_accepts_95 (l3 : Nat) (l5 : Int32) (st : ab_S) : L_X5_accepts_95 l3 l5 st =
    Option.bind (ab_gI st l3 4 2) fun x1 =>
    if (l5 &&& x1) = 0
    then ab_z (0 : Int32) (some (some (.int (0 : Int32)), st))
    else ab_z (1 : Int32) (some (some (.int (1 : Int32)), st)) := (lm_eq one_X5_accepts 95 _ _ _).trans rfl
def c_X10_keepAccepted : List (Nat × ab_I) := [(0, .aload_n 0, 1, .null, 0),
  (1, .iconst 0, 1, (.int (0)), 0),
  (2, .putfield 186, 3, .null, 0),
  (5, .iconst 0, 1, (.int (0)), 0),
  (6, .istore_n 3, 1, .null, 3),
  (7, .iload_n 3, 1, .null, 3),
  (8, .aload_n 1, 1, .null, 1),
  (9, .getfield 103, 3, .null, 0),
  (12, .if_icmp .ge (45), 3, .null, 57),
  (15, .iload_n 2, 1, .null, 2),
  (16, .ifCond .eq (18), 3, .null, 34),
  (19, .aload_n 0, 1, .null, 0),
  (20, .getfield 49, 3, .null, 0),
  (23, .aload_n 1, 1, .null, 1),
  (24, .iload_n 3, 1, .null, 3),
  (25, .invokevirtual 256, 3, .null, 0),
  (28, .ifCond .eq (23), 3, .null, 51),
  (31, .goto (15), 3, .null, 46),
  (34, .aload_n 0, 1, .null, 0),
  (35, .getfield 42, 3, .null, 0),
  (38, .aload_n 1, 1, .null, 1),
  (39, .iload_n 3, 1, .null, 3),
  (40, .invokevirtual 260, 3, .null, 0),
  (43, .ifCond .eq (8), 3, .null, 51),
  (46, .aload_n 0, 1, .null, 0),
  (47, .iload_n 3, 1, .null, 3),
  (48, .invokevirtual 193, 3, .null, 0),
  (51, .iinc 3 (1), 3, (.int (1)), 3),
  (54, .goto (-47), 3, .null, 7),
  (57, .aload_n 0, 1, .null, 0),
  (58, .getfield 186, 3, .null, 0),
  (61, .ireturn, 1, .null, 0)]
noncomputable def m_X10_keepAccepted : ab_M := (c_X10_keepAccepted, [(0, [0, 1, 2]), (7, [0, 1, 2, 3]), (46, [0, 1, 2, 3]), (51, [0, 1, 2, 3])],
  [(42, 10, 5, 3), (49, 10, 6, 3), (103, 7, 3, 0), (186, 10, 10, 0)],
  [],
  [(193, 1, 2, g_X10_putFound), (256, 1, 3, g_X2_accepts), (260, 1, 3, g_X5_accepts)],
  [], 4, 1)
theorem one_X10_keepAccepted : ab_oneM m_X10_keepAccepted := List.forall_mem_cons.mpr ⟨o_X10_putFound, List.forall_mem_cons.mpr ⟨o_X2_accepts, List.forall_mem_cons.mpr ⟨o_X5_accepts, fun _ h => absurd h List.not_mem_nil⟩⟩⟩
noncomputable def f_X10_keepAccepted (l0 : Nat) (l1 : Nat) (l2 : Int32) (st : ab_S) : Option ab_R := ab_rc st l0 10 (ab_lim m_X10_keepAccepted 0 [.ref l0, .ref l1, .int l2] [] st)
noncomputable def L_X10_keepAccepted_7 (l0 : Nat) (l1 : Nat) (l2 : Int32) (l3 : Int32) (st : ab_S) : Option ab_R := ab_lim m_X10_keepAccepted 7 [.ref l0, .ref l1, .int l2, .int l3] [] st
noncomputable def L_X10_keepAccepted_46 (l0 : Nat) (l1 : Nat) (l2 : Int32) (l3 : Int32) (st : ab_S) : Option ab_R := ab_lim m_X10_keepAccepted 46 [.ref l0, .ref l1, .int l2, .int l3] [] st
noncomputable def L_X10_keepAccepted_51 (l0 : Nat) (l1 : Nat) (l2 : Int32) (l3 : Int32) (st : ab_S) : Option ab_R := ab_lim m_X10_keepAccepted 51 [.ref l0, .ref l1, .int l2, .int l3] [] st
noncomputable def g_X10_keepAccepted : ab_G := fun as st k => match as with
  | [.ref a0, .ref a1, .int a2] => ab_ri (f_X10_keepAccepted a0 a1 a2 st) (fun x t => k [.int x] t)
  | _ => none
theorem o_X10_keepAccepted : ab_one g_X10_keepAccepted := by
  intro as st k r h
  unfold g_X10_keepAccepted at h ⊢
  split at h
  · exact one_ri h
  · cases h
set_option maxRecDepth 100000 in
theorem e_X10_keepAccepted_0 (l0 : Nat) (l1 : Nat) (l2 : Int32) (st : ab_S) : f_X10_keepAccepted l0 l1 l2 st =
    ab_rc st l0 10 (
    Option.bind (ab_pI st l0 10 10 (0 : Int32)) fun s1 =>
    L_X10_keepAccepted_7 l0 l1 l2 (0 : Int32) s1) := congrArg (ab_rc st l0 10) ((lm_eq one_X10_keepAccepted 0 _ _ _).trans rfl)
set_option maxRecDepth 100000 in
theorem e_X10_keepAccepted_7 (l0 : Nat) (l1 : Nat) (l2 : Int32) (l3 : Int32) (st : ab_S) : L_X10_keepAccepted_7 l0 l1 l2 l3 st =
    Option.bind (ab_gI st l1 7 3) fun x1 =>
    if x1 ≤ l3
    then Option.bind (ab_gI st l0 10 10) fun x2 =>
      some (some (.int x2), st)
    else if l2 = 0
      then Option.bind (ab_gR st l0 10 5) fun x3 =>
        ab_ri (f_X5_accepts x3 l1 l3 st) fun x5 s4 =>
        if x5 = 0
        then L_X10_keepAccepted_51 l0 l1 l2 l3 s4
        else L_X10_keepAccepted_46 l0 l1 l2 l3 s4
      else Option.bind (ab_gR st l0 10 6) fun x6 =>
        ab_ri (f_X2_accepts x6 l1 l3 st) fun x8 s7 =>
        if x8 = 0
        then L_X10_keepAccepted_51 l0 l1 l2 l3 s7
        else L_X10_keepAccepted_46 l0 l1 l2 l3 s7 := (lm_eq one_X10_keepAccepted 7 _ _ _).trans rfl
set_option maxRecDepth 100000 in
theorem e_X10_keepAccepted_46 (l0 : Nat) (l1 : Nat) (l2 : Int32) (l3 : Int32) (st : ab_S) : L_X10_keepAccepted_46 l0 l1 l2 l3 st =
    ab_rv (f_X10_putFound l0 l3 st) fun s1 =>
    L_X10_keepAccepted_51 l0 l1 l2 l3 s1 := (lm_eq one_X10_keepAccepted 46 _ _ _).trans rfl
set_option maxRecDepth 100000 in
theorem e_X10_keepAccepted_51 (l0 : Nat) (l1 : Nat) (l2 : Int32) (l3 : Int32) (st : ab_S) : L_X10_keepAccepted_51 l0 l1 l2 l3 st =
    L_X10_keepAccepted_7 l0 l1 l2 (l3 + (1 : Int32)) st := (lm_eq one_X10_keepAccepted 51 _ _ _).trans rfl
def c_X10_meet : List (Nat × ab_I) := [(0, .iload_n 1, 1, .null, 1),
  (1, .invokestatic 95, 3, .null, 0),
  (4, .ifCond .eq (12), 3, .null, 16),
  (7, .iload_n 2, 1, .null, 2),
  (8, .ifCond .lt (8), 3, .null, 16),
  (11, .iload_n 2, 1, .null, 2),
  (12, .iconst 5, 1, (.int (5)), 0),
  (13, .if_icmp .lt (6), 3, .null, 19),
  (16, .bipush (-2), 2, (.int (-2)), 0),
  (18, .ireturn, 1, .null, 0),
  (19, .aload_n 0, 1, .null, 0),
  (20, .invokevirtual 91, 3, .null, 0),
  (23, .astore_n 3, 1, .null, 3),
  (24, .aload_n 0, 1, .null, 0),
  (25, .getfield 11, 3, .null, 0),
  (28, .iload_n 1, 1, .null, 1),
  (29, .aaload, 1, .null, 0),
  (30, .getfield 109, 3, .null, 0),
  (33, .ifCond .eq (6), 3, .null, 39),
  (36, .bipush (-4), 2, (.int (-4)), 0),
  (38, .ireturn, 1, .null, 0),
  (39, .aload_n 3, 1, .null, 3),
  (40, .getfield 85, 3, .null, 0),
  (43, .iload_n 2, 1, .null, 2),
  (44, .iconst 2, 1, (.int (2)), 0),
  (45, .if_icmp .ge (8), 3, .null, 53),
  (48, .bipush (24), 2, (.int (24)), 0),
  (50, .goto (5), 3, .null, 55),
  (53, .bipush (12), 2, (.int (12)), 0),
  (55, .if_icmp .le (6), 3, .null, 61),
  (58, .bipush (-6), 2, (.int (-6)), 0),
  (60, .ireturn, 1, .null, 0),
  (61, .iload_n 2, 1, .null, 2),
  (62, .iconst 1, 1, (.int (1)), 0),
  (63, .if_icmp .ne (26), 3, .null, 89),
  (66, .aload_n 0, 1, .null, 0),
  (67, .aload_n 0, 1, .null, 0),
  (68, .getfield 42, 3, .null, 0),
  (71, .aload_n 3, 1, .null, 3),
  (72, .invokevirtual 200, 3, .null, 0),
  (75, .putfield 69, 3, .null, 0),
  (78, .aload_n 0, 1, .null, 0),
  (79, .getfield 69, 3, .null, 0),
  (82, .iconst (-1), 1, (.int (-1)), 0),
  (83, .if_icmp .eq (33), 3, .null, 116),
  (86, .bipush (-7), 2, (.int (-7)), 0),
  (88, .ireturn, 1, .null, 0),
  (89, .iload_n 2, 1, .null, 2),
  (90, .iconst 2, 1, (.int (2)), 0),
  (91, .if_icmp .ge (14), 3, .null, 105),
  (94, .aload_n 0, 1, .null, 0),
  (95, .getfield 42, 3, .null, 0),
  (98, .aload_n 3, 1, .null, 3),
  (99, .invokevirtual 203, 3, .null, 0),
  (102, .goto (14), 3, .null, 116),
  (105, .aload_n 0, 1, .null, 0),
  (106, .getfield 49, 3, .null, 0),
  (109, .aload_n 3, 1, .null, 3),
  (110, .iload_n 2, 1, .null, 2),
  (111, .iconst 2, 1, (.int (2)), 0),
  (112, .isub, 1, .null, 0),
  (113, .invokevirtual 207, 3, .null, 0),
  (116, .aload_n 0, 1, .null, 0),
  (117, .aload_n 0, 1, .null, 0),
  (118, .getfield 11, 3, .null, 0),
  (121, .iload_n 1, 1, .null, 1),
  (122, .aaload, 1, .null, 0),
  (123, .getfield 99, 3, .null, 0),
  (126, .iload_n 2, 1, .null, 2),
  (127, .iconst 2, 1, (.int (2)), 0),
  (128, .if_icmp .lt (7), 3, .null, 135),
  (131, .iconst 1, 1, (.int (1)), 0),
  (132, .goto (4), 3, .null, 136),
  (135, .iconst 0, 1, (.int (0)), 0),
  (136, .invokevirtual 211, 3, .null, 0),
  (139, .ireturn, 1, .null, 0)]
noncomputable def m_X10_meet : ab_M := (c_X10_meet, [(0, [0, 1, 2]), (55, [0, 1, 2, 3]), (116, [0, 1, 2]), (136, [])],
  [(11, 10, 0, 3), (42, 10, 5, 3), (49, 10, 6, 3), (69, 10, 11, 0), (85, 6, 1, 0), (99, 0, 0, 3), (109, 0, 2, 1)],
  [],
  [(91, 1, 1, g_X10_takeCollected), (95, 0, 1, g_X10_isDictionary), (200, 1, 2, g_X5_readPattern), (203, 1, 2, g_X5_readWild), (207, 1, 3, g_X2_read), (211, 1, 3, g_X10_keepAccepted)],
  [], 4, 1)
theorem one_X10_meet : ab_oneM m_X10_meet := List.forall_mem_cons.mpr ⟨o_X10_takeCollected, List.forall_mem_cons.mpr ⟨o_X10_isDictionary, List.forall_mem_cons.mpr ⟨o_X5_readPattern, List.forall_mem_cons.mpr ⟨o_X5_readWild, List.forall_mem_cons.mpr ⟨o_X2_read, List.forall_mem_cons.mpr ⟨o_X10_keepAccepted, fun _ h => absurd h List.not_mem_nil⟩⟩⟩⟩⟩⟩
noncomputable def f_X10_meet (l0 : Nat) (l1 : Int32) (l2 : Int32) (st : ab_S) : Option ab_R := ab_rc st l0 10 (ab_lim m_X10_meet 0 [.ref l0, .int l1, .int l2] [] st)
noncomputable def L_X10_meet_55 (l0 : Nat) (l1 : Int32) (l2 : Int32) (l3 : Nat) (t0 : Int32) (t1 : Int32) (st : ab_S) : Option ab_R := ab_lim m_X10_meet 55 [.ref l0, .int l1, .int l2, .ref l3] [.int t1, .int t0] st
noncomputable def L_X10_meet_116 (l0 : Nat) (l1 : Int32) (l2 : Int32) (st : ab_S) : Option ab_R := ab_lim m_X10_meet 116 [.ref l0, .int l1, .int l2] [] st
noncomputable def L_X10_meet_136 (t0 : Nat) (t1 : Nat) (t2 : Int32) (st : ab_S) : Option ab_R := ab_lim m_X10_meet 136 [] [.int t2, .ref t1, .ref t0] st
noncomputable def g_X10_meet : ab_G := fun as st k => match as with
  | [.ref a0, .int a1, .int a2] => ab_ri (f_X10_meet a0 a1 a2 st) (fun x t => k [.int x] t)
  | _ => none
theorem o_X10_meet : ab_one g_X10_meet := by
  intro as st k r h
  unfold g_X10_meet at h ⊢
  split at h
  · exact one_ri h
  · cases h
set_option maxRecDepth 100000 in
theorem e_X10_meet_0 (l0 : Nat) (l1 : Int32) (l2 : Int32) (st : ab_S) : f_X10_meet l0 l1 l2 st =
    ab_rc st l0 10 (
    ab_ri (f_X10_isDictionary l1 st) fun x2 s1 =>
    if x2 = 0
    then some (some (.int (-2 : Int32)), s1)
    else if l2 < 0
      then some (some (.int (-2 : Int32)), s1)
      else if l2 < (5 : Int32)
        then ab_rr (f_X10_takeCollected l0 s1) fun x4 s3 =>
          Option.bind (ab_gR s3 l0 10 0) fun x5 =>
          Option.bind (ab_rR s3 x5 l1) fun x6 =>
          Option.bind (ab_gI s3 x6 0 2) fun x7 =>
          if x7 = 0
          then Option.bind (ab_gI s3 x4 6 1) fun x8 =>
            if (2 : Int32) ≤ l2
            then L_X10_meet_55 l0 l1 l2 x4 x8 (12 : Int32) s3
            else L_X10_meet_55 l0 l1 l2 x4 x8 (24 : Int32) s3
          else some (some (.int (-4 : Int32)), s3)
        else some (some (.int (-2 : Int32)), s1)) := congrArg (ab_rc st l0 10) ((lm_eq one_X10_meet 0 _ _ _).trans rfl)
set_option maxRecDepth 100000 in
theorem e_X10_meet_55 (l0 : Nat) (l1 : Int32) (l2 : Int32) (l3 : Nat) (t0 : Int32) (t1 : Int32) (st : ab_S) : L_X10_meet_55 l0 l1 l2 l3 t0 t1 st =
    if t0 ≤ t1
    then if l2 = (1 : Int32)
      then Option.bind (ab_gR st l0 10 5) fun x1 =>
        ab_ri (f_X5_readPattern x1 l3 st) fun x3 s2 =>
        Option.bind (ab_pI s2 l0 10 11 x3) fun s4 =>
        Option.bind (ab_gI s4 l0 10 11) fun x5 =>
        if x5 = (-1 : Int32)
        then L_X10_meet_116 l0 l1 l2 s4
        else some (some (.int (-7 : Int32)), s4)
      else if (2 : Int32) ≤ l2
        then Option.bind (ab_gR st l0 10 6) fun x6 =>
          ab_rv (f_X2_read x6 l3 (l2 - (2 : Int32)) st) fun s7 =>
          L_X10_meet_116 l0 l1 l2 s7
        else Option.bind (ab_gR st l0 10 5) fun x8 =>
          ab_rv (f_X5_readWild x8 l3 st) fun s9 =>
          L_X10_meet_116 l0 l1 l2 s9
    else some (some (.int (-6 : Int32)), st) := (lm_eq one_X10_meet 55 _ _ _).trans rfl
set_option maxRecDepth 100000 in
theorem e_X10_meet_116 (l0 : Nat) (l1 : Int32) (l2 : Int32) (st : ab_S) : L_X10_meet_116 l0 l1 l2 st =
    Option.bind (ab_gR st l0 10 0) fun x1 =>
    Option.bind (ab_rR st x1 l1) fun x2 =>
    Option.bind (ab_gR st x2 0 0) fun x3 =>
    if l2 < (2 : Int32)
    then L_X10_meet_136 l0 x3 (0 : Int32) st
    else L_X10_meet_136 l0 x3 (1 : Int32) st := (lm_eq one_X10_meet 116 _ _ _).trans rfl
set_option maxRecDepth 100000 in
theorem e_X10_meet_136 (t0 : Nat) (t1 : Nat) (t2 : Int32) (st : ab_S) : L_X10_meet_136 t0 t1 t2 st =
    ab_ri (f_X10_keepAccepted t0 t1 t2 st) fun x2 s1 =>
    some (some (.int x2), s1) := (lm_eq one_X10_meet 136 _ _ _).trans rfl
def c_X11_spot : List (Nat × ab_I) := [(0, .aload_n 0, 1, .null, 0),
  (1, .dup, 1, .null, 0),
  (2, .getfield 254, 3, .null, 0),
  (5, .iconst 1, 1, (.int (1)), 0),
  (6, .iadd, 1, .null, 0),
  (7, .putfield 254, 3, .null, 0),
  (10, .aload_n 0, 1, .null, 0),
  (11, .getfield 254, 3, .null, 0),
  (14, .iconst 1, 1, (.int (1)), 0),
  (15, .isub, 1, .null, 0),
  (16, .ireturn, 1, .null, 0)]
noncomputable def m_X11_spot : ab_M := (c_X11_spot, [(0, [0])],
  [(254, 11, 30, 0)],
  [],
  [],
  [], 1, 1)
theorem one_X11_spot : ab_oneM m_X11_spot := fun _ h => absurd h List.not_mem_nil
noncomputable def f_X11_spot (l0 : Nat) (st : ab_S) : Option ab_R := ab_rc st l0 11 (ab_lim m_X11_spot 0 [.ref l0] [] st)
noncomputable def g_X11_spot : ab_G := fun as st k => match as with
  | [.ref a0] => ab_ri (f_X11_spot a0 st) (fun x t => k [.int x] t)
  | _ => none
theorem o_X11_spot : ab_one g_X11_spot := by
  intro as st k r h
  unfold g_X11_spot at h ⊢
  split at h
  · exact one_ri h
  · cases h
set_option maxRecDepth 100000 in
theorem e_X11_spot_0 (l0 : Nat) (st : ab_S) : f_X11_spot l0 st =
    ab_rc st l0 11 (
    Option.bind (ab_gI st l0 11 30) fun x1 =>
    Option.bind (ab_pI st l0 11 30 (x1 + (1 : Int32))) fun s2 =>
    Option.bind (ab_gI s2 l0 11 30) fun x3 =>
    some (some (.int (x3 - (1 : Int32))), s2)) := congrArg (ab_rc st l0 11) ((lm_eq one_X11_spot 0 _ _ _).trans rfl)
def c_X11_step : List (Nat × ab_I) := [(0, .aload_n 0, 1, .null, 0),
  (1, .getfield 78, 3, .null, 0),
  (4, .aload_n 0, 1, .null, 0),
  (5, .getfield 251, 3, .null, 0),
  (8, .iload_n 1, 1, .null, 1),
  (9, .iastore, 1, .null, 0),
  (10, .aload_n 0, 1, .null, 0),
  (11, .getfield 81, 3, .null, 0),
  (14, .aload_n 0, 1, .null, 0),
  (15, .getfield 251, 3, .null, 0),
  (18, .iload_n 2, 1, .null, 2),
  (19, .iastore, 1, .null, 0),
  (20, .aload_n 0, 1, .null, 0),
  (21, .getfield 84, 3, .null, 0),
  (24, .aload_n 0, 1, .null, 0),
  (25, .getfield 251, 3, .null, 0),
  (28, .iload_n 3, 1, .null, 3),
  (29, .iastore, 1, .null, 0),
  (30, .aload_n 0, 1, .null, 0),
  (31, .dup, 1, .null, 0),
  (32, .getfield 251, 3, .null, 0),
  (35, .iconst 1, 1, (.int (1)), 0),
  (36, .iadd, 1, .null, 0),
  (37, .putfield 251, 3, .null, 0),
  (40, .return_, 1, .null, 0)]
noncomputable def m_X11_step : ab_M := (c_X11_step, [(0, [0, 1, 2, 3])],
  [(78, 11, 26, 3), (81, 11, 27, 3), (84, 11, 28, 3), (251, 11, 29, 0)],
  [],
  [],
  [], 4, 0)
theorem one_X11_step : ab_oneM m_X11_step := fun _ h => absurd h List.not_mem_nil
noncomputable def f_X11_step (l0 : Nat) (l1 : Int32) (l2 : Int32) (l3 : Int32) (st : ab_S) : Option ab_R := ab_rc st l0 11 (ab_lim m_X11_step 0 [.ref l0, .int l1, .int l2, .int l3] [] st)
noncomputable def g_X11_step : ab_G := fun as st k => match as with
  | [.ref a0, .int a1, .int a2, .int a3] => ab_rv (f_X11_step a0 a1 a2 a3 st) (fun t => k [] t)
  | _ => none
theorem o_X11_step : ab_one g_X11_step := by
  intro as st k r h
  unfold g_X11_step at h ⊢
  split at h
  · exact one_rv h
  · cases h
set_option maxRecDepth 100000 in
theorem e_X11_step_0 (l0 : Nat) (l1 : Int32) (l2 : Int32) (l3 : Int32) (st : ab_S) : f_X11_step l0 l1 l2 l3 st =
    ab_rc st l0 11 (
    Option.bind (ab_gR st l0 11 26) fun x1 =>
    Option.bind (ab_gI st l0 11 29) fun x2 =>
    Option.bind (ab_wI st x1 x2 l1) fun s3 =>
    Option.bind (ab_gR s3 l0 11 27) fun x4 =>
    Option.bind (ab_gI s3 l0 11 29) fun x5 =>
    Option.bind (ab_wI s3 x4 x5 l2) fun s6 =>
    Option.bind (ab_gR s6 l0 11 28) fun x7 =>
    Option.bind (ab_gI s6 l0 11 29) fun x8 =>
    Option.bind (ab_wI s6 x7 x8 l3) fun s9 =>
    Option.bind (ab_gI s9 l0 11 29) fun x10 =>
    Option.bind (ab_pI s9 l0 11 29 (x10 + (1 : Int32))) fun s11 =>
    some (none, s11)) := congrArg (ab_rc st l0 11) ((lm_eq one_X11_step 0 _ _ _).trans rfl)
def c_X11_openSequence : List (Nat × ab_I) := [(0, .aload_n 0, 1, .null, 0),
  (1, .getfield 96, 3, .null, 0),
  (4, .iload_n 1, 1, .null, 1),
  (5, .aload_n 0, 1, .null, 0),
  (6, .invokevirtual 266, 3, .null, 0),
  (9, .iastore, 1, .null, 0),
  (10, .aload_n 0, 1, .null, 0),
  (11, .aload_n 0, 1, .null, 0),
  (12, .getfield 90, 3, .null, 0),
  (15, .iload_n 1, 1, .null, 1),
  (16, .iaload, 1, .null, 0),
  (17, .aload_n 0, 1, .null, 0),
  (18, .getfield 96, 3, .null, 0),
  (21, .iload_n 1, 1, .null, 1),
  (22, .iaload, 1, .null, 0),
  (23, .iconst (-1), 1, (.int (-1)), 0),
  (24, .invokevirtual 272, 3, .null, 0),
  (27, .return_, 1, .null, 0)]
noncomputable def m_X11_openSequence : ab_M := (c_X11_openSequence, [(0, [0, 1])],
  [(90, 11, 37, 3), (96, 11, 39, 3)],
  [],
  [(266, 1, 1, g_X11_spot), (272, 1, 4, g_X11_step)],
  [], 2, 0)
theorem one_X11_openSequence : ab_oneM m_X11_openSequence := List.forall_mem_cons.mpr ⟨o_X11_spot, List.forall_mem_cons.mpr ⟨o_X11_step, fun _ h => absurd h List.not_mem_nil⟩⟩
noncomputable def f_X11_openSequence (l0 : Nat) (l1 : Int32) (st : ab_S) : Option ab_R := ab_rc st l0 11 (ab_lim m_X11_openSequence 0 [.ref l0, .int l1] [] st)
noncomputable def g_X11_openSequence : ab_G := fun as st k => match as with
  | [.ref a0, .int a1] => ab_rv (f_X11_openSequence a0 a1 st) (fun t => k [] t)
  | _ => none
theorem o_X11_openSequence : ab_one g_X11_openSequence := by
  intro as st k r h
  unfold g_X11_openSequence at h ⊢
  split at h
  · exact one_rv h
  · cases h
set_option maxRecDepth 100000 in
theorem e_X11_openSequence_0 (l0 : Nat) (l1 : Int32) (st : ab_S) : f_X11_openSequence l0 l1 st =
    ab_rc st l0 11 (
    Option.bind (ab_gR st l0 11 39) fun x1 =>
    ab_ri (f_X11_spot l0 st) fun x3 s2 =>
    Option.bind (ab_wI s2 x1 l1 x3) fun s4 =>
    Option.bind (ab_gR s4 l0 11 37) fun x5 =>
    Option.bind (ab_rI s4 x5 l1) fun x6 =>
    Option.bind (ab_gR s4 l0 11 39) fun x7 =>
    Option.bind (ab_rI s4 x7 l1) fun x8 =>
    ab_rv (f_X11_step l0 x6 x8 (-1 : Int32) s4) fun s9 =>
    some (none, s9)) := congrArg (ab_rc st l0 11) ((lm_eq one_X11_openSequence 0 _ _ _).trans rfl)
def c_X11_openAlt : List (Nat × ab_I) := [(0, .aload_n 0, 1, .null, 0),
  (1, .getfield 90, 3, .null, 0),
  (4, .iload_n 1, 1, .null, 1),
  (5, .iload_n 2, 1, .null, 2),
  (6, .iastore, 1, .null, 0),
  (7, .aload_n 0, 1, .null, 0),
  (8, .getfield 93, 3, .null, 0),
  (11, .iload_n 1, 1, .null, 1),
  (12, .aload_n 0, 1, .null, 0),
  (13, .invokevirtual 266, 3, .null, 0),
  (16, .iastore, 1, .null, 0),
  (17, .aload_n 0, 1, .null, 0),
  (18, .iload_n 1, 1, .null, 1),
  (19, .invokevirtual 269, 3, .null, 0),
  (22, .return_, 1, .null, 0)]
noncomputable def m_X11_openAlt : ab_M := (c_X11_openAlt, [(0, [0, 1, 2])],
  [(90, 11, 37, 3), (93, 11, 38, 3)],
  [],
  [(266, 1, 1, g_X11_spot), (269, 1, 2, g_X11_openSequence)],
  [], 3, 0)
theorem one_X11_openAlt : ab_oneM m_X11_openAlt := List.forall_mem_cons.mpr ⟨o_X11_spot, List.forall_mem_cons.mpr ⟨o_X11_openSequence, fun _ h => absurd h List.not_mem_nil⟩⟩
noncomputable def f_X11_openAlt (l0 : Nat) (l1 : Int32) (l2 : Int32) (st : ab_S) : Option ab_R := ab_rc st l0 11 (ab_lim m_X11_openAlt 0 [.ref l0, .int l1, .int l2] [] st)
noncomputable def g_X11_openAlt : ab_G := fun as st k => match as with
  | [.ref a0, .int a1, .int a2] => ab_rv (f_X11_openAlt a0 a1 a2 st) (fun t => k [] t)
  | _ => none
theorem o_X11_openAlt : ab_one g_X11_openAlt := by
  intro as st k r h
  unfold g_X11_openAlt at h ⊢
  split at h
  · exact one_rv h
  · cases h
set_option maxRecDepth 100000 in
theorem e_X11_openAlt_0 (l0 : Nat) (l1 : Int32) (l2 : Int32) (st : ab_S) : f_X11_openAlt l0 l1 l2 st =
    ab_rc st l0 11 (
    Option.bind (ab_gR st l0 11 37) fun x1 =>
    Option.bind (ab_wI st x1 l1 l2) fun s2 =>
    Option.bind (ab_gR s2 l0 11 38) fun x3 =>
    ab_ri (f_X11_spot l0 s2) fun x5 s4 =>
    Option.bind (ab_wI s4 x3 l1 x5) fun s6 =>
    ab_rv (f_X11_openSequence l0 l1 s6) fun s7 =>
    some (none, s7)) := congrArg (ab_rc st l0 11) ((lm_eq one_X11_openAlt 0 _ _ _).trans rfl)
def c_X11_here : List (Nat × ab_I) := [(0, .aload_n 0, 1, .null, 0),
  (1, .getfield 257, 3, .null, 0),
  (4, .aload_n 0, 1, .null, 0),
  (5, .getfield 260, 3, .null, 0),
  (8, .if_icmp .ge (19), 3, .null, 27),
  (11, .aload_n 0, 1, .null, 0),
  (12, .getfield 7, 3, .null, 0),
  (15, .aload_n 0, 1, .null, 0),
  (16, .getfield 257, 3, .null, 0),
  (19, .baload, 1, .null, 0),
  (20, .sipush (255), 3, (.int (255)), 0),
  (23, .iand, 1, .null, 0),
  (24, .goto (4), 3, .null, 28),
  (27, .iconst (-1), 1, (.int (-1)), 0),
  (28, .ireturn, 1, .null, 0)]
noncomputable def m_X11_here : ab_M := (c_X11_here, [(0, [0])],
  [(7, 11, 0, 3), (257, 11, 33, 0), (260, 11, 34, 0)],
  [],
  [],
  [], 1, 1)
theorem one_X11_here : ab_oneM m_X11_here := fun _ h => absurd h List.not_mem_nil
noncomputable def f_X11_here (l0 : Nat) (st : ab_S) : Option ab_R := ab_rc st l0 11 (ab_lim m_X11_here 0 [.ref l0] [] st)
noncomputable def g_X11_here : ab_G := fun as st k => match as with
  | [.ref a0] => ab_ri (f_X11_here a0 st) (fun x t => k [.int x] t)
  | _ => none
theorem o_X11_here : ab_one g_X11_here := by
  intro as st k r h
  unfold g_X11_here at h ⊢
  split at h
  · exact one_ri h
  · cases h
set_option maxRecDepth 100000 in
theorem e_X11_here_0 (l0 : Nat) (st : ab_S) : f_X11_here l0 st =
    ab_rc st l0 11 (
    Option.bind (ab_gI st l0 11 33) fun x1 =>
    Option.bind (ab_gI st l0 11 34) fun x2 =>
    if x2 ≤ x1
    then some (some (.int (-1 : Int32)), st)
    else Option.bind (ab_gR st l0 11 0) fun x3 =>
      Option.bind (ab_gI st l0 11 33) fun x4 =>
      Option.bind (ab_rB st x3 x4) fun x5 =>
      some (some (.int (x5 &&& (255 : Int32))), st)) := congrArg (ab_rc st l0 11) ((lm_eq one_X11_here 0 _ _ _).trans rfl)
def c_X11_fail : List (Nat × ab_I) := [(0, .aload_n 0, 1, .null, 0),
  (1, .aload_n 0, 1, .null, 0),
  (2, .getfield 263, 3, .null, 0),
  (5, .iconst (-1), 1, (.int (-1)), 0),
  (6, .if_icmp .ne (7), 3, .null, 13),
  (9, .iload_n 1, 1, .null, 1),
  (10, .goto (7), 3, .null, 17),
  (13, .aload_n 0, 1, .null, 0),
  (14, .getfield 263, 3, .null, 0),
  (17, .putfield 263, 3, .null, 0),
  (20, .return_, 1, .null, 0)]
noncomputable def m_X11_fail : ab_M := (c_X11_fail, [(0, [0, 1]), (17, [])],
  [(263, 11, 35, 0)],
  [],
  [],
  [], 2, 0)
theorem one_X11_fail : ab_oneM m_X11_fail := fun _ h => absurd h List.not_mem_nil
noncomputable def f_X11_fail (l0 : Nat) (l1 : Int32) (st : ab_S) : Option ab_R := ab_rc st l0 11 (ab_lim m_X11_fail 0 [.ref l0, .int l1] [] st)
noncomputable def L_X11_fail_17 (t0 : Nat) (t1 : Int32) (st : ab_S) : Option ab_R := ab_lim m_X11_fail 17 [] [.int t1, .ref t0] st
noncomputable def g_X11_fail : ab_G := fun as st k => match as with
  | [.ref a0, .int a1] => ab_rv (f_X11_fail a0 a1 st) (fun t => k [] t)
  | _ => none
theorem o_X11_fail : ab_one g_X11_fail := by
  intro as st k r h
  unfold g_X11_fail at h ⊢
  split at h
  · exact one_rv h
  · cases h
set_option maxRecDepth 100000 in
theorem e_X11_fail_0 (l0 : Nat) (l1 : Int32) (st : ab_S) : f_X11_fail l0 l1 st =
    ab_rc st l0 11 (
    Option.bind (ab_gI st l0 11 35) fun x1 =>
    if x1 = (-1 : Int32)
    then L_X11_fail_17 l0 l1 st
    else Option.bind (ab_gI st l0 11 35) fun x2 =>
      L_X11_fail_17 l0 x2 st) := congrArg (ab_rc st l0 11) ((lm_eq one_X11_fail 0 _ _ _).trans rfl)
set_option maxRecDepth 100000 in
theorem e_X11_fail_17 (t0 : Nat) (t1 : Int32) (st : ab_S) : L_X11_fail_17 t0 t1 st =
    Option.bind (ab_pI st t0 11 35 t1) fun s1 =>
    some (none, s1) := (lm_eq one_X11_fail 17 _ _ _).trans rfl
def c_X11_closePiece : List (Nat × ab_I) := [(0, .aload_n 0, 1, .null, 0),
  (1, .invokevirtual 276, 3, .null, 0),
  (4, .istore 4, 2, .null, 4),
  (6, .iload 4, 2, .null, 4),
  (8, .bipush (42), 2, (.int (42)), 0),
  (10, .if_icmp .eq (17), 3, .null, 27),
  (13, .iload 4, 2, .null, 4),
  (15, .bipush (43), 2, (.int (43)), 0),
  (17, .if_icmp .eq (10), 3, .null, 27),
  (20, .iload 4, 2, .null, 4),
  (22, .bipush (63), 2, (.int (63)), 0),
  (24, .if_icmp .ne (41), 3, .null, 65),
  (27, .aload_n 0, 1, .null, 0),
  (28, .dup, 1, .null, 0),
  (29, .getfield 257, 3, .null, 0),
  (32, .iconst 1, 1, (.int (1)), 0),
  (33, .iadd, 1, .null, 0),
  (34, .putfield 257, 3, .null, 0),
  (37, .iload 4, 2, .null, 4),
  (39, .bipush (63), 2, (.int (63)), 0),
  (41, .if_icmp .eq (10), 3, .null, 51),
  (44, .aload_n 0, 1, .null, 0),
  (45, .iload_n 3, 1, .null, 3),
  (46, .iload_n 2, 1, .null, 2),
  (47, .iconst (-1), 1, (.int (-1)), 0),
  (48, .invokevirtual 272, 3, .null, 0),
  (51, .iload 4, 2, .null, 4),
  (53, .bipush (43), 2, (.int (43)), 0),
  (55, .if_icmp .eq (10), 3, .null, 65),
  (58, .aload_n 0, 1, .null, 0),
  (59, .iload_n 2, 1, .null, 2),
  (60, .iload_n 3, 1, .null, 3),
  (61, .iconst (-1), 1, (.int (-1)), 0),
  (62, .invokevirtual 272, 3, .null, 0),
  (65, .aload_n 0, 1, .null, 0),
  (66, .getfield 96, 3, .null, 0),
  (69, .iload_n 1, 1, .null, 1),
  (70, .aload_n 0, 1, .null, 0),
  (71, .invokevirtual 266, 3, .null, 0),
  (74, .iastore, 1, .null, 0),
  (75, .aload_n 0, 1, .null, 0),
  (76, .iload_n 3, 1, .null, 3),
  (77, .aload_n 0, 1, .null, 0),
  (78, .getfield 96, 3, .null, 0),
  (81, .iload_n 1, 1, .null, 1),
  (82, .iaload, 1, .null, 0),
  (83, .iconst (-1), 1, (.int (-1)), 0),
  (84, .invokevirtual 272, 3, .null, 0),
  (87, .return_, 1, .null, 0)]
noncomputable def m_X11_closePiece : ab_M := (c_X11_closePiece, [(0, [0, 1, 2, 3]), (27, [0, 1, 2, 3, 4]), (51, [0, 1, 2, 3, 4]), (65, [0, 1, 3])],
  [(96, 11, 39, 3), (257, 11, 33, 0)],
  [],
  [(266, 1, 1, g_X11_spot), (272, 1, 4, g_X11_step), (276, 1, 1, g_X11_here)],
  [], 5, 0)
theorem one_X11_closePiece : ab_oneM m_X11_closePiece := List.forall_mem_cons.mpr ⟨o_X11_spot, List.forall_mem_cons.mpr ⟨o_X11_step, List.forall_mem_cons.mpr ⟨o_X11_here, fun _ h => absurd h List.not_mem_nil⟩⟩⟩
noncomputable def f_X11_closePiece (l0 : Nat) (l1 : Int32) (l2 : Int32) (l3 : Int32) (st : ab_S) : Option ab_R := ab_rc st l0 11 (ab_lim m_X11_closePiece 0 [.ref l0, .int l1, .int l2, .int l3] [] st)
noncomputable def L_X11_closePiece_27 (l0 : Nat) (l1 : Int32) (l2 : Int32) (l3 : Int32) (l4 : Int32) (st : ab_S) : Option ab_R := ab_lim m_X11_closePiece 27 [.ref l0, .int l1, .int l2, .int l3, .int l4] [] st
noncomputable def L_X11_closePiece_51 (l0 : Nat) (l1 : Int32) (l2 : Int32) (l3 : Int32) (l4 : Int32) (st : ab_S) : Option ab_R := ab_lim m_X11_closePiece 51 [.ref l0, .int l1, .int l2, .int l3, .int l4] [] st
noncomputable def L_X11_closePiece_65 (l0 : Nat) (l1 : Int32) (l3 : Int32) (st : ab_S) : Option ab_R := ab_lim m_X11_closePiece 65 [.ref l0, .int l1, .int l3] [] st
noncomputable def g_X11_closePiece : ab_G := fun as st k => match as with
  | [.ref a0, .int a1, .int a2, .int a3] => ab_rv (f_X11_closePiece a0 a1 a2 a3 st) (fun t => k [] t)
  | _ => none
theorem o_X11_closePiece : ab_one g_X11_closePiece := by
  intro as st k r h
  unfold g_X11_closePiece at h ⊢
  split at h
  · exact one_rv h
  · cases h
set_option maxRecDepth 100000 in
theorem e_X11_closePiece_0 (l0 : Nat) (l1 : Int32) (l2 : Int32) (l3 : Int32) (st : ab_S) : f_X11_closePiece l0 l1 l2 l3 st =
    ab_rc st l0 11 (
    ab_ri (f_X11_here l0 st) fun x2 s1 =>
    if x2 = (42 : Int32)
    then L_X11_closePiece_27 l0 l1 l2 l3 x2 s1
    else if x2 = (43 : Int32)
      then L_X11_closePiece_27 l0 l1 l2 l3 x2 s1
      else if x2 = (63 : Int32)
        then L_X11_closePiece_27 l0 l1 l2 l3 x2 s1
        else L_X11_closePiece_65 l0 l1 l3 s1) := congrArg (ab_rc st l0 11) ((lm_eq one_X11_closePiece 0 _ _ _).trans rfl)
set_option maxRecDepth 100000 in
theorem e_X11_closePiece_27 (l0 : Nat) (l1 : Int32) (l2 : Int32) (l3 : Int32) (l4 : Int32) (st : ab_S) : L_X11_closePiece_27 l0 l1 l2 l3 l4 st =
    Option.bind (ab_gI st l0 11 33) fun x1 =>
    Option.bind (ab_pI st l0 11 33 (x1 + (1 : Int32))) fun s2 =>
    if l4 = (63 : Int32)
    then L_X11_closePiece_51 l0 l1 l2 l3 l4 s2
    else ab_rv (f_X11_step l0 l3 l2 (-1 : Int32) s2) fun s3 =>
      L_X11_closePiece_51 l0 l1 l2 l3 l4 s3 := (lm_eq one_X11_closePiece 27 _ _ _).trans rfl
set_option maxRecDepth 100000 in
theorem e_X11_closePiece_51 (l0 : Nat) (l1 : Int32) (l2 : Int32) (l3 : Int32) (l4 : Int32) (st : ab_S) : L_X11_closePiece_51 l0 l1 l2 l3 l4 st =
    if l4 = (43 : Int32)
    then L_X11_closePiece_65 l0 l1 l3 st
    else ab_rv (f_X11_step l0 l2 l3 (-1 : Int32) st) fun s1 =>
      L_X11_closePiece_65 l0 l1 l3 s1 := (lm_eq one_X11_closePiece 51 _ _ _).trans rfl
set_option maxRecDepth 100000 in
theorem e_X11_closePiece_65 (l0 : Nat) (l1 : Int32) (l3 : Int32) (st : ab_S) : L_X11_closePiece_65 l0 l1 l3 st =
    Option.bind (ab_gR st l0 11 39) fun x1 =>
    ab_ri (f_X11_spot l0 st) fun x3 s2 =>
    Option.bind (ab_wI s2 x1 l1 x3) fun s4 =>
    Option.bind (ab_gR s4 l0 11 39) fun x5 =>
    Option.bind (ab_rI s4 x5 l1) fun x6 =>
    ab_rv (f_X11_step l0 l3 x6 (-1 : Int32) s4) fun s7 =>
    some (none, s7) := (lm_eq one_X11_closePiece 65 _ _ _).trans rfl
def c_X11_fill : List (Nat × ab_I) := [(0, .iload_n 1, 1, .null, 1),
  (1, .istore_n 3, 1, .null, 3),
  (2, .iload_n 3, 1, .null, 3),
  (3, .iload_n 2, 1, .null, 2),
  (4, .if_icmp .gt (25), 3, .null, 29),
  (7, .aload_n 0, 1, .null, 0),
  (8, .getfield 87, 3, .null, 0),
  (11, .sipush (256), 3, (.int (256)), 0),
  (14, .aload_n 0, 1, .null, 0),
  (15, .getfield 295, 3, .null, 0),
  (18, .imul, 1, .null, 0),
  (19, .iload_n 3, 1, .null, 3),
  (20, .iadd, 1, .null, 0),
  (21, .iconst 1, 1, (.int (1)), 0),
  (22, .bastore, 1, .null, 0),
  (23, .iinc 3 (1), 3, (.int (1)), 3),
  (26, .goto (-24), 3, .null, 2),
  (29, .return_, 1, .null, 0)]
noncomputable def m_X11_fill : ab_M := (c_X11_fill, [(0, [0, 1, 2]), (2, [0, 2, 3])],
  [(87, 11, 31, 3), (295, 11, 32, 0)],
  [],
  [],
  [], 4, 0)
theorem one_X11_fill : ab_oneM m_X11_fill := fun _ h => absurd h List.not_mem_nil
noncomputable def f_X11_fill (l0 : Nat) (l1 : Int32) (l2 : Int32) (st : ab_S) : Option ab_R := ab_rc st l0 11 (ab_lim m_X11_fill 0 [.ref l0, .int l1, .int l2] [] st)
noncomputable def L_X11_fill_2 (l0 : Nat) (l2 : Int32) (l3 : Int32) (st : ab_S) : Option ab_R := ab_lim m_X11_fill 2 [.ref l0, .int l2, .int l3] [] st
noncomputable def g_X11_fill : ab_G := fun as st k => match as with
  | [.ref a0, .int a1, .int a2] => ab_rv (f_X11_fill a0 a1 a2 st) (fun t => k [] t)
  | _ => none
theorem o_X11_fill : ab_one g_X11_fill := by
  intro as st k r h
  unfold g_X11_fill at h ⊢
  split at h
  · exact one_rv h
  · cases h
set_option maxRecDepth 100000 in
theorem e_X11_fill_0 (l0 : Nat) (l1 : Int32) (l2 : Int32) (st : ab_S) : f_X11_fill l0 l1 l2 st =
    ab_rc st l0 11 (
    L_X11_fill_2 l0 l2 l1 st) := congrArg (ab_rc st l0 11) ((lm_eq one_X11_fill 0 _ _ _).trans rfl)
set_option maxRecDepth 100000 in
theorem e_X11_fill_2 (l0 : Nat) (l2 : Int32) (l3 : Int32) (st : ab_S) : L_X11_fill_2 l0 l2 l3 st =
    if l2 < l3
    then some (none, st)
    else Option.bind (ab_gR st l0 11 31) fun x1 =>
      Option.bind (ab_gI st l0 11 32) fun x2 =>
      Option.bind (ab_wB st x1 (((256 : Int32) * x2) + l3) (1 : Int32)) fun s3 =>
      L_X11_fill_2 l0 l2 (l3 + (1 : Int32)) s3 := (lm_eq one_X11_fill 2 _ _ _).trans rfl
def c_X11_oneOf : List (Nat × ab_I) := [(0, .aload_n 0, 1, .null, 0),
  (1, .invokevirtual 266, 3, .null, 0),
  (4, .istore_n 2, 1, .null, 2),
  (5, .aload_n 0, 1, .null, 0),
  (6, .iload_n 1, 1, .null, 1),
  (7, .iload_n 2, 1, .null, 2),
  (8, .aload_n 0, 1, .null, 0),
  (9, .getfield 295, 3, .null, 0),
  (12, .invokevirtual 272, 3, .null, 0),
  (15, .aload_n 0, 1, .null, 0),
  (16, .dup, 1, .null, 0),
  (17, .getfield 295, 3, .null, 0),
  (20, .iconst 1, 1, (.int (1)), 0),
  (21, .iadd, 1, .null, 0),
  (22, .putfield 295, 3, .null, 0),
  (25, .iload_n 2, 1, .null, 2),
  (26, .ireturn, 1, .null, 0)]
noncomputable def m_X11_oneOf : ab_M := (c_X11_oneOf, [(0, [0, 1])],
  [(295, 11, 32, 0)],
  [],
  [(266, 1, 1, g_X11_spot), (272, 1, 4, g_X11_step)],
  [], 3, 1)
theorem one_X11_oneOf : ab_oneM m_X11_oneOf := List.forall_mem_cons.mpr ⟨o_X11_spot, List.forall_mem_cons.mpr ⟨o_X11_step, fun _ h => absurd h List.not_mem_nil⟩⟩
noncomputable def f_X11_oneOf (l0 : Nat) (l1 : Int32) (st : ab_S) : Option ab_R := ab_rc st l0 11 (ab_lim m_X11_oneOf 0 [.ref l0, .int l1] [] st)
noncomputable def g_X11_oneOf : ab_G := fun as st k => match as with
  | [.ref a0, .int a1] => ab_ri (f_X11_oneOf a0 a1 st) (fun x t => k [.int x] t)
  | _ => none
theorem o_X11_oneOf : ab_one g_X11_oneOf := by
  intro as st k r h
  unfold g_X11_oneOf at h ⊢
  split at h
  · exact one_ri h
  · cases h
set_option maxRecDepth 100000 in
theorem e_X11_oneOf_0 (l0 : Nat) (l1 : Int32) (st : ab_S) : f_X11_oneOf l0 l1 st =
    ab_rc st l0 11 (
    ab_ri (f_X11_spot l0 st) fun x2 s1 =>
    Option.bind (ab_gI s1 l0 11 32) fun x3 =>
    ab_rv (f_X11_step l0 l1 x2 x3 s1) fun s4 =>
    Option.bind (ab_gI s4 l0 11 32) fun x5 =>
    Option.bind (ab_pI s4 l0 11 32 (x5 + (1 : Int32))) fun s6 =>
    some (some (.int x2), s6)) := congrArg (ab_rc st l0 11) ((lm_eq one_X11_oneOf 0 _ _ _).trans rfl)
def c_X11_setSign : List (Nat × ab_I) := [(0, .aload_n 0, 1, .null, 0),
  (1, .invokevirtual 276, 3, .null, 0),
  (4, .bipush (92), 2, (.int (92)), 0),
  (6, .if_icmp .ne (13), 3, .null, 19),
  (9, .aload_n 0, 1, .null, 0),
  (10, .dup, 1, .null, 0),
  (11, .getfield 257, 3, .null, 0),
  (14, .iconst 1, 1, (.int (1)), 0),
  (15, .iadd, 1, .null, 0),
  (16, .putfield 257, 3, .null, 0),
  (19, .aload_n 0, 1, .null, 0),
  (20, .getfield 257, 3, .null, 0),
  (23, .aload_n 0, 1, .null, 0),
  (24, .getfield 260, 3, .null, 0),
  (27, .if_icmp .ne (13), 3, .null, 40),
  (30, .aload_n 0, 1, .null, 0),
  (31, .aload_n 0, 1, .null, 0),
  (32, .getfield 260, 3, .null, 0),
  (35, .invokevirtual 282, 3, .null, 0),
  (38, .iconst 0, 1, (.int (0)), 0),
  (39, .ireturn, 1, .null, 0),
  (40, .aload_n 0, 1, .null, 0),
  (41, .invokevirtual 276, 3, .null, 0),
  (44, .istore_n 1, 1, .null, 1),
  (45, .aload_n 0, 1, .null, 0),
  (46, .dup, 1, .null, 0),
  (47, .getfield 257, 3, .null, 0),
  (50, .iconst 1, 1, (.int (1)), 0),
  (51, .iadd, 1, .null, 0),
  (52, .putfield 257, 3, .null, 0),
  (55, .iload_n 1, 1, .null, 1),
  (56, .ireturn, 1, .null, 0)]
noncomputable def m_X11_setSign : ab_M := (c_X11_setSign, [(0, [0]), (19, [0])],
  [(257, 11, 33, 0), (260, 11, 34, 0)],
  [],
  [(276, 1, 1, g_X11_here), (282, 1, 2, g_X11_fail)],
  [], 2, 1)
theorem one_X11_setSign : ab_oneM m_X11_setSign := List.forall_mem_cons.mpr ⟨o_X11_here, List.forall_mem_cons.mpr ⟨o_X11_fail, fun _ h => absurd h List.not_mem_nil⟩⟩
noncomputable def f_X11_setSign (l0 : Nat) (st : ab_S) : Option ab_R := ab_rc st l0 11 (ab_lim m_X11_setSign 0 [.ref l0] [] st)
noncomputable def L_X11_setSign_19 (l0 : Nat) (st : ab_S) : Option ab_R := ab_lim m_X11_setSign 19 [.ref l0] [] st
noncomputable def g_X11_setSign : ab_G := fun as st k => match as with
  | [.ref a0] => ab_ri (f_X11_setSign a0 st) (fun x t => k [.int x] t)
  | _ => none
theorem o_X11_setSign : ab_one g_X11_setSign := by
  intro as st k r h
  unfold g_X11_setSign at h ⊢
  split at h
  · exact one_ri h
  · cases h
set_option maxRecDepth 100000 in
theorem e_X11_setSign_0 (l0 : Nat) (st : ab_S) : f_X11_setSign l0 st =
    ab_rc st l0 11 (
    ab_ri (f_X11_here l0 st) fun x2 s1 =>
    if x2 = (92 : Int32)
    then Option.bind (ab_gI s1 l0 11 33) fun x3 =>
      Option.bind (ab_pI s1 l0 11 33 (x3 + (1 : Int32))) fun s4 =>
      L_X11_setSign_19 l0 s4
    else L_X11_setSign_19 l0 s1) := congrArg (ab_rc st l0 11) ((lm_eq one_X11_setSign 0 _ _ _).trans rfl)
set_option maxRecDepth 100000 in
theorem e_X11_setSign_19 (l0 : Nat) (st : ab_S) : L_X11_setSign_19 l0 st =
    Option.bind (ab_gI st l0 11 33) fun x1 =>
    Option.bind (ab_gI st l0 11 34) fun x2 =>
    if x1 = x2
    then Option.bind (ab_gI st l0 11 34) fun x3 =>
      ab_rv (f_X11_fail l0 x3 st) fun s4 =>
      some (some (.int (0 : Int32)), s4)
    else ab_ri (f_X11_here l0 st) fun x6 s5 =>
      Option.bind (ab_gI s5 l0 11 33) fun x7 =>
      Option.bind (ab_pI s5 l0 11 33 (x7 + (1 : Int32))) fun s8 =>
      some (some (.int x6), s8) := (lm_eq one_X11_setSign 19 _ _ _).trans rfl
def c_X11_parseSet : List (Nat × ab_I) := [(0, .aload_n 0, 1, .null, 0),
  (1, .invokevirtual 276, 3, .null, 0),
  (4, .bipush (94), 2, (.int (94)), 0),
  (6, .if_icmp .ne (7), 3, .null, 13),
  (9, .iconst 1, 1, (.int (1)), 0),
  (10, .goto (4), 3, .null, 14),
  (13, .iconst 0, 1, (.int (0)), 0),
  (14, .istore_n 1, 1, .null, 1),
  (15, .aload_n 0, 1, .null, 0),
  (16, .dup, 1, .null, 0),
  (17, .getfield 257, 3, .null, 0),
  (20, .iload_n 1, 1, .null, 1),
  (21, .ifCond .eq (7), 3, .null, 28),
  (24, .iconst 1, 1, (.int (1)), 0),
  (25, .goto (4), 3, .null, 29),
  (28, .iconst 0, 1, (.int (0)), 0),
  (29, .iadd, 1, .null, 0),
  (30, .putfield 257, 3, .null, 0),
  (33, .aload_n 0, 1, .null, 0),
  (34, .invokevirtual 276, 3, .null, 0),
  (37, .bipush (93), 2, (.int (93)), 0),
  (39, .if_icmp .ne (12), 3, .null, 51),
  (42, .aload_n 0, 1, .null, 0),
  (43, .aload_n 0, 1, .null, 0),
  (44, .getfield 257, 3, .null, 0),
  (47, .invokevirtual 282, 3, .null, 0),
  (50, .return_, 1, .null, 0),
  (51, .aload_n 0, 1, .null, 0),
  (52, .getfield 263, 3, .null, 0),
  (55, .iconst (-1), 1, (.int (-1)), 0),
  (56, .if_icmp .ne (120), 3, .null, 176),
  (59, .aload_n 0, 1, .null, 0),
  (60, .invokevirtual 276, 3, .null, 0),
  (63, .bipush (93), 2, (.int (93)), 0),
  (65, .if_icmp .eq (111), 3, .null, 176),
  (68, .aload_n 0, 1, .null, 0),
  (69, .invokevirtual 307, 3, .null, 0),
  (72, .istore_n 2, 1, .null, 2),
  (73, .iload_n 2, 1, .null, 2),
  (74, .istore_n 3, 1, .null, 3),
  (75, .aload_n 0, 1, .null, 0),
  (76, .getfield 263, 3, .null, 0),
  (79, .iconst (-1), 1, (.int (-1)), 0),
  (80, .if_icmp .ne (79), 3, .null, 159),
  (83, .aload_n 0, 1, .null, 0),
  (84, .invokevirtual 276, 3, .null, 0),
  (87, .bipush (45), 2, (.int (45)), 0),
  (89, .if_icmp .ne (70), 3, .null, 159),
  (92, .aload_n 0, 1, .null, 0),
  (93, .getfield 257, 3, .null, 0),
  (96, .iconst 1, 1, (.int (1)), 0),
  (97, .iadd, 1, .null, 0),
  (98, .aload_n 0, 1, .null, 0),
  (99, .getfield 260, 3, .null, 0),
  (102, .if_icmp .ge (19), 3, .null, 121),
  (105, .aload_n 0, 1, .null, 0),
  (106, .getfield 7, 3, .null, 0),
  (109, .aload_n 0, 1, .null, 0),
  (110, .getfield 257, 3, .null, 0),
  (113, .iconst 1, 1, (.int (1)), 0),
  (114, .iadd, 1, .null, 0),
  (115, .baload, 1, .null, 0),
  (116, .bipush (93), 2, (.int (93)), 0),
  (118, .if_icmp .eq (41), 3, .null, 159),
  (121, .aload_n 0, 1, .null, 0),
  (122, .dup, 1, .null, 0),
  (123, .getfield 257, 3, .null, 0),
  (126, .iconst 1, 1, (.int (1)), 0),
  (127, .iadd, 1, .null, 0),
  (128, .putfield 257, 3, .null, 0),
  (131, .aload_n 0, 1, .null, 0),
  (132, .invokevirtual 307, 3, .null, 0),
  (135, .istore_n 3, 1, .null, 3),
  (136, .aload_n 0, 1, .null, 0),
  (137, .getfield 263, 3, .null, 0),
  (140, .iconst (-1), 1, (.int (-1)), 0),
  (141, .if_icmp .ne (18), 3, .null, 159),
  (144, .iload_n 3, 1, .null, 3),
  (145, .iload_n 2, 1, .null, 2),
  (146, .if_icmp .ge (13), 3, .null, 159),
  (149, .aload_n 0, 1, .null, 0),
  (150, .aload_n 0, 1, .null, 0),
  (151, .getfield 257, 3, .null, 0),
  (154, .iconst 1, 1, (.int (1)), 0),
  (155, .isub, 1, .null, 0),
  (156, .invokevirtual 282, 3, .null, 0),
  (159, .aload_n 0, 1, .null, 0),
  (160, .getfield 263, 3, .null, 0),
  (163, .iconst (-1), 1, (.int (-1)), 0),
  (164, .if_icmp .ne (9), 3, .null, 173),
  (167, .aload_n 0, 1, .null, 0),
  (168, .iload_n 2, 1, .null, 2),
  (169, .iload_n 3, 1, .null, 3),
  (170, .invokevirtual 298, 3, .null, 0),
  (173, .goto (-122), 3, .null, 51),
  (176, .aload_n 0, 1, .null, 0),
  (177, .getfield 263, 3, .null, 0),
  (180, .iconst (-1), 1, (.int (-1)), 0),
  (181, .if_icmp .ne (70), 3, .null, 251),
  (184, .aload_n 0, 1, .null, 0),
  (185, .dup, 1, .null, 0),
  (186, .getfield 257, 3, .null, 0),
  (189, .iconst 1, 1, (.int (1)), 0),
  (190, .iadd, 1, .null, 0),
  (191, .putfield 257, 3, .null, 0),
  (194, .iconst 0, 1, (.int (0)), 0),
  (195, .istore_n 2, 1, .null, 2),
  (196, .iload_n 2, 1, .null, 2),
  (197, .sipush (256), 3, (.int (256)), 0),
  (200, .if_icmp .ge (51), 3, .null, 251),
  (203, .iload_n 1, 1, .null, 1),
  (204, .ifCond .eq (47), 3, .null, 251),
  (207, .aload_n 0, 1, .null, 0),
  (208, .getfield 87, 3, .null, 0),
  (211, .sipush (256), 3, (.int (256)), 0),
  (214, .aload_n 0, 1, .null, 0),
  (215, .getfield 295, 3, .null, 0),
  (218, .imul, 1, .null, 0),
  (219, .iload_n 2, 1, .null, 2),
  (220, .iadd, 1, .null, 0),
  (221, .aload_n 0, 1, .null, 0),
  (222, .getfield 87, 3, .null, 0),
  (225, .sipush (256), 3, (.int (256)), 0),
  (228, .aload_n 0, 1, .null, 0),
  (229, .getfield 295, 3, .null, 0),
  (232, .imul, 1, .null, 0),
  (233, .iload_n 2, 1, .null, 2),
  (234, .iadd, 1, .null, 0),
  (235, .baload, 1, .null, 0),
  (236, .ifCond .ne (7), 3, .null, 243),
  (239, .iconst 1, 1, (.int (1)), 0),
  (240, .goto (4), 3, .null, 244),
  (243, .iconst 0, 1, (.int (0)), 0),
  (244, .bastore, 1, .null, 0),
  (245, .iinc 2 (1), 3, (.int (1)), 2),
  (248, .goto (-52), 3, .null, 196),
  (251, .return_, 1, .null, 0)]
noncomputable def m_X11_parseSet : ab_M := (c_X11_parseSet, [(0, [0]), (14, [0]), (29, [0, 1]), (51, [0, 1]), (121, [0, 1, 2]), (159, [0, 1, 2, 3]), (173, [0, 1]), (176, [0, 1]), (196, [0, 1, 2]), (244, [0, 1, 2])],
  [(7, 11, 0, 3), (87, 11, 31, 3), (257, 11, 33, 0), (260, 11, 34, 0), (263, 11, 35, 0), (295, 11, 32, 0)],
  [],
  [(276, 1, 1, g_X11_here), (282, 1, 2, g_X11_fail), (298, 1, 3, g_X11_fill), (307, 1, 1, g_X11_setSign)],
  [], 4, 0)
theorem one_X11_parseSet : ab_oneM m_X11_parseSet := List.forall_mem_cons.mpr ⟨o_X11_here, List.forall_mem_cons.mpr ⟨o_X11_fail, List.forall_mem_cons.mpr ⟨o_X11_fill, List.forall_mem_cons.mpr ⟨o_X11_setSign, fun _ h => absurd h List.not_mem_nil⟩⟩⟩⟩
noncomputable def f_X11_parseSet (l0 : Nat) (st : ab_S) : Option ab_R := ab_rc st l0 11 (ab_lim m_X11_parseSet 0 [.ref l0] [] st)
noncomputable def L_X11_parseSet_14 (l0 : Nat) (t0 : Int32) (st : ab_S) : Option ab_R := ab_lim m_X11_parseSet 14 [.ref l0] [.int t0] st
noncomputable def L_X11_parseSet_29 (l0 : Nat) (l1 : Int32) (t0 : Nat) (t1 : Int32) (t2 : Int32) (st : ab_S) : Option ab_R := ab_lim m_X11_parseSet 29 [.ref l0, .int l1] [.int t2, .int t1, .ref t0] st
noncomputable def L_X11_parseSet_51 (l0 : Nat) (l1 : Int32) (st : ab_S) : Option ab_R := ab_lim m_X11_parseSet 51 [.ref l0, .int l1] [] st
noncomputable def L_X11_parseSet_121 (l0 : Nat) (l1 : Int32) (l2 : Int32) (st : ab_S) : Option ab_R := ab_lim m_X11_parseSet 121 [.ref l0, .int l1, .int l2] [] st
noncomputable def L_X11_parseSet_159 (l0 : Nat) (l1 : Int32) (l2 : Int32) (l3 : Int32) (st : ab_S) : Option ab_R := ab_lim m_X11_parseSet 159 [.ref l0, .int l1, .int l2, .int l3] [] st
noncomputable def L_X11_parseSet_173 (l0 : Nat) (l1 : Int32) (st : ab_S) : Option ab_R := ab_lim m_X11_parseSet 173 [.ref l0, .int l1] [] st
noncomputable def L_X11_parseSet_176 (l0 : Nat) (l1 : Int32) (st : ab_S) : Option ab_R := ab_lim m_X11_parseSet 176 [.ref l0, .int l1] [] st
noncomputable def L_X11_parseSet_196 (l0 : Nat) (l1 : Int32) (l2 : Int32) (st : ab_S) : Option ab_R := ab_lim m_X11_parseSet 196 [.ref l0, .int l1, .int l2] [] st
noncomputable def L_X11_parseSet_244 (l0 : Nat) (l1 : Int32) (l2 : Int32) (t0 : Nat) (t1 : Int32) (t2 : Int32) (st : ab_S) : Option ab_R := ab_lim m_X11_parseSet 244 [.ref l0, .int l1, .int l2] [.int t2, .int t1, .ref t0] st
noncomputable def g_X11_parseSet : ab_G := fun as st k => match as with
  | [.ref a0] => ab_rv (f_X11_parseSet a0 st) (fun t => k [] t)
  | _ => none
theorem o_X11_parseSet : ab_one g_X11_parseSet := by
  intro as st k r h
  unfold g_X11_parseSet at h ⊢
  split at h
  · exact one_rv h
  · cases h
set_option maxRecDepth 100000 in
theorem e_X11_parseSet_0 (l0 : Nat) (st : ab_S) : f_X11_parseSet l0 st =
    ab_rc st l0 11 (
    ab_ri (f_X11_here l0 st) fun x2 s1 =>
    if x2 = (94 : Int32)
    then L_X11_parseSet_14 l0 (1 : Int32) s1
    else L_X11_parseSet_14 l0 (0 : Int32) s1) := congrArg (ab_rc st l0 11) ((lm_eq one_X11_parseSet 0 _ _ _).trans rfl)
set_option maxRecDepth 100000 in
theorem e_X11_parseSet_14 (l0 : Nat) (t0 : Int32) (st : ab_S) : L_X11_parseSet_14 l0 t0 st =
    Option.bind (ab_gI st l0 11 33) fun x1 =>
    if t0 = 0
    then L_X11_parseSet_29 l0 t0 l0 x1 (0 : Int32) st
    else L_X11_parseSet_29 l0 t0 l0 x1 (1 : Int32) st := (lm_eq one_X11_parseSet 14 _ _ _).trans rfl
set_option maxRecDepth 100000 in
theorem e_X11_parseSet_29 (l0 : Nat) (l1 : Int32) (t0 : Nat) (t1 : Int32) (t2 : Int32) (st : ab_S) : L_X11_parseSet_29 l0 l1 t0 t1 t2 st =
    Option.bind (ab_pI st t0 11 33 (t1 + t2)) fun s1 =>
    ab_ri (f_X11_here l0 s1) fun x3 s2 =>
    if x3 = (93 : Int32)
    then Option.bind (ab_gI s2 l0 11 33) fun x4 =>
      ab_rv (f_X11_fail l0 x4 s2) fun s5 =>
      some (none, s5)
    else L_X11_parseSet_51 l0 l1 s2 := (lm_eq one_X11_parseSet 29 _ _ _).trans rfl
set_option maxRecDepth 100000 in
theorem e_X11_parseSet_51 (l0 : Nat) (l1 : Int32) (st : ab_S) : L_X11_parseSet_51 l0 l1 st =
    Option.bind (ab_gI st l0 11 35) fun x1 =>
    if x1 = (-1 : Int32)
    then ab_ri (f_X11_here l0 st) fun x3 s2 =>
      if x3 = (93 : Int32)
      then L_X11_parseSet_176 l0 l1 s2
      else ab_ri (f_X11_setSign l0 s2) fun x5 s4 =>
        Option.bind (ab_gI s4 l0 11 35) fun x6 =>
        if x6 = (-1 : Int32)
        then ab_ri (f_X11_here l0 s4) fun x8 s7 =>
          if x8 = (45 : Int32)
          then Option.bind (ab_gI s7 l0 11 33) fun x9 =>
            Option.bind (ab_gI s7 l0 11 34) fun x10 =>
            if x10 ≤ (x9 + (1 : Int32))
            then L_X11_parseSet_121 l0 l1 x5 s7
            else Option.bind (ab_gR s7 l0 11 0) fun x11 =>
              Option.bind (ab_gI s7 l0 11 33) fun x12 =>
              Option.bind (ab_rB s7 x11 (x12 + (1 : Int32))) fun x13 =>
              if x13 = (93 : Int32)
              then L_X11_parseSet_159 l0 l1 x5 x5 s7
              else L_X11_parseSet_121 l0 l1 x5 s7
          else L_X11_parseSet_159 l0 l1 x5 x5 s7
        else L_X11_parseSet_159 l0 l1 x5 x5 s4
    else L_X11_parseSet_176 l0 l1 st := (lm_eq one_X11_parseSet 51 _ _ _).trans rfl
set_option maxRecDepth 100000 in
theorem e_X11_parseSet_121 (l0 : Nat) (l1 : Int32) (l2 : Int32) (st : ab_S) : L_X11_parseSet_121 l0 l1 l2 st =
    Option.bind (ab_gI st l0 11 33) fun x1 =>
    Option.bind (ab_pI st l0 11 33 (x1 + (1 : Int32))) fun s2 =>
    ab_ri (f_X11_setSign l0 s2) fun x4 s3 =>
    Option.bind (ab_gI s3 l0 11 35) fun x5 =>
    if x5 = (-1 : Int32)
    then if l2 ≤ x4
      then L_X11_parseSet_159 l0 l1 l2 x4 s3
      else Option.bind (ab_gI s3 l0 11 33) fun x6 =>
        ab_rv (f_X11_fail l0 (x6 - (1 : Int32)) s3) fun s7 =>
        L_X11_parseSet_159 l0 l1 l2 x4 s7
    else L_X11_parseSet_159 l0 l1 l2 x4 s3 := (lm_eq one_X11_parseSet 121 _ _ _).trans rfl
set_option maxRecDepth 100000 in
theorem e_X11_parseSet_159 (l0 : Nat) (l1 : Int32) (l2 : Int32) (l3 : Int32) (st : ab_S) : L_X11_parseSet_159 l0 l1 l2 l3 st =
    Option.bind (ab_gI st l0 11 35) fun x1 =>
    if x1 = (-1 : Int32)
    then ab_rv (f_X11_fill l0 l2 l3 st) fun s2 =>
      L_X11_parseSet_173 l0 l1 s2
    else L_X11_parseSet_173 l0 l1 st := (lm_eq one_X11_parseSet 159 _ _ _).trans rfl
set_option maxRecDepth 100000 in
theorem e_X11_parseSet_173 (l0 : Nat) (l1 : Int32) (st : ab_S) : L_X11_parseSet_173 l0 l1 st =
    L_X11_parseSet_51 l0 l1 st := (lm_eq one_X11_parseSet 173 _ _ _).trans rfl
set_option maxRecDepth 100000 in
theorem e_X11_parseSet_176 (l0 : Nat) (l1 : Int32) (st : ab_S) : L_X11_parseSet_176 l0 l1 st =
    Option.bind (ab_gI st l0 11 35) fun x1 =>
    if x1 = (-1 : Int32)
    then Option.bind (ab_gI st l0 11 33) fun x2 =>
      Option.bind (ab_pI st l0 11 33 (x2 + (1 : Int32))) fun s3 =>
      L_X11_parseSet_196 l0 l1 (0 : Int32) s3
    else some (none, st) := (lm_eq one_X11_parseSet 176 _ _ _).trans rfl
set_option maxRecDepth 100000 in
theorem e_X11_parseSet_196 (l0 : Nat) (l1 : Int32) (l2 : Int32) (st : ab_S) : L_X11_parseSet_196 l0 l1 l2 st =
    if (256 : Int32) ≤ l2
    then some (none, st)
    else if l1 = 0
      then some (none, st)
      else Option.bind (ab_gR st l0 11 31) fun x1 =>
        Option.bind (ab_gI st l0 11 32) fun x2 =>
        Option.bind (ab_gR st l0 11 31) fun x3 =>
        Option.bind (ab_gI st l0 11 32) fun x4 =>
        Option.bind (ab_rB st x3 (((256 : Int32) * x4) + l2)) fun x5 =>
        if x5 = 0
        then L_X11_parseSet_244 l0 l1 l2 x1 (((256 : Int32) * x2) + l2) (1 : Int32) st
        else L_X11_parseSet_244 l0 l1 l2 x1 (((256 : Int32) * x2) + l2) (0 : Int32) st := (lm_eq one_X11_parseSet 196 _ _ _).trans rfl
set_option maxRecDepth 100000 in
theorem e_X11_parseSet_244 (l0 : Nat) (l1 : Int32) (l2 : Int32) (t0 : Nat) (t1 : Int32) (t2 : Int32) (st : ab_S) : L_X11_parseSet_244 l0 l1 l2 t0 t1 t2 st =
    Option.bind (ab_wB st t0 t1 t2) fun s1 =>
    L_X11_parseSet_196 l0 l1 (l2 + (1 : Int32)) s1 := (lm_eq one_X11_parseSet 244 _ _ _).trans rfl
def c_X11_parseAtom : List (Nat × ab_I) := [(0, .aload_n 0, 1, .null, 0),
  (1, .invokevirtual 276, 3, .null, 0),
  (4, .istore_n 2, 1, .null, 2),
  (5, .iconst 0, 1, (.int (0)), 0),
  (6, .istore_n 3, 1, .null, 3),
  (7, .iload_n 3, 1, .null, 3),
  (8, .sipush (256), 3, (.int (256)), 0),
  (11, .if_icmp .ge (25), 3, .null, 36),
  (14, .aload_n 0, 1, .null, 0),
  (15, .getfield 87, 3, .null, 0),
  (18, .sipush (256), 3, (.int (256)), 0),
  (21, .aload_n 0, 1, .null, 0),
  (22, .getfield 295, 3, .null, 0),
  (25, .imul, 1, .null, 0),
  (26, .iload_n 3, 1, .null, 3),
  (27, .iadd, 1, .null, 0),
  (28, .iconst 0, 1, (.int (0)), 0),
  (29, .bastore, 1, .null, 0),
  (30, .iinc 3 (1), 3, (.int (1)), 3),
  (33, .goto (-26), 3, .null, 7),
  (36, .iload_n 2, 1, .null, 2),
  (37, .lookupswitch (196) #[(41, 186), (42, 186), (43, 186), (46, 83), (63, 186), (91, 107), (92, 127), (93, 186), (124, 186)], 83, .null, 0),
  (120, .aload_n 0, 1, .null, 0),
  (121, .dup, 1, .null, 0),
  (122, .getfield 257, 3, .null, 0),
  (125, .iconst 1, 1, (.int (1)), 0),
  (126, .iadd, 1, .null, 0),
  (127, .putfield 257, 3, .null, 0),
  (130, .aload_n 0, 1, .null, 0),
  (131, .iconst 0, 1, (.int (0)), 0),
  (132, .sipush (255), 3, (.int (255)), 0),
  (135, .invokevirtual 298, 3, .null, 0),
  (138, .aload_n 0, 1, .null, 0),
  (139, .iload_n 1, 1, .null, 1),
  (140, .invokevirtual 301, 3, .null, 0),
  (143, .ireturn, 1, .null, 0),
  (144, .aload_n 0, 1, .null, 0),
  (145, .dup, 1, .null, 0),
  (146, .getfield 257, 3, .null, 0),
  (149, .iconst 1, 1, (.int (1)), 0),
  (150, .iadd, 1, .null, 0),
  (151, .putfield 257, 3, .null, 0),
  (154, .aload_n 0, 1, .null, 0),
  (155, .invokevirtual 304, 3, .null, 0),
  (158, .aload_n 0, 1, .null, 0),
  (159, .iload_n 1, 1, .null, 1),
  (160, .invokevirtual 301, 3, .null, 0),
  (163, .ireturn, 1, .null, 0),
  (164, .aload_n 0, 1, .null, 0),
  (165, .dup, 1, .null, 0),
  (166, .getfield 257, 3, .null, 0),
  (169, .iconst 1, 1, (.int (1)), 0),
  (170, .iadd, 1, .null, 0),
  (171, .putfield 257, 3, .null, 0),
  (174, .aload_n 0, 1, .null, 0),
  (175, .getfield 257, 3, .null, 0),
  (178, .aload_n 0, 1, .null, 0),
  (179, .getfield 260, 3, .null, 0),
  (182, .if_icmp .ne (13), 3, .null, 195),
  (185, .aload_n 0, 1, .null, 0),
  (186, .aload_n 0, 1, .null, 0),
  (187, .getfield 260, 3, .null, 0),
  (190, .invokevirtual 282, 3, .null, 0),
  (193, .iload_n 1, 1, .null, 1),
  (194, .ireturn, 1, .null, 0),
  (195, .aload_n 0, 1, .null, 0),
  (196, .aload_n 0, 1, .null, 0),
  (197, .invokevirtual 276, 3, .null, 0),
  (200, .aload_n 0, 1, .null, 0),
  (201, .invokevirtual 276, 3, .null, 0),
  (204, .invokevirtual 298, 3, .null, 0),
  (207, .aload_n 0, 1, .null, 0),
  (208, .dup, 1, .null, 0),
  (209, .getfield 257, 3, .null, 0),
  (212, .iconst 1, 1, (.int (1)), 0),
  (213, .iadd, 1, .null, 0),
  (214, .putfield 257, 3, .null, 0),
  (217, .aload_n 0, 1, .null, 0),
  (218, .iload_n 1, 1, .null, 1),
  (219, .invokevirtual 301, 3, .null, 0),
  (222, .ireturn, 1, .null, 0),
  (223, .aload_n 0, 1, .null, 0),
  (224, .aload_n 0, 1, .null, 0),
  (225, .getfield 257, 3, .null, 0),
  (228, .invokevirtual 282, 3, .null, 0),
  (231, .iload_n 1, 1, .null, 1),
  (232, .ireturn, 1, .null, 0),
  (233, .aload_n 0, 1, .null, 0),
  (234, .iload_n 2, 1, .null, 2),
  (235, .iload_n 2, 1, .null, 2),
  (236, .invokevirtual 298, 3, .null, 0),
  (239, .aload_n 0, 1, .null, 0),
  (240, .dup, 1, .null, 0),
  (241, .getfield 257, 3, .null, 0),
  (244, .iconst 1, 1, (.int (1)), 0),
  (245, .iadd, 1, .null, 0),
  (246, .putfield 257, 3, .null, 0),
  (249, .aload_n 0, 1, .null, 0),
  (250, .iload_n 1, 1, .null, 1),
  (251, .invokevirtual 301, 3, .null, 0),
  (254, .ireturn, 1, .null, 0)]
noncomputable def m_X11_parseAtom : ab_M := (c_X11_parseAtom, [(0, [0, 1]), (7, [0, 1, 2, 3])],
  [(87, 11, 31, 3), (257, 11, 33, 0), (260, 11, 34, 0), (295, 11, 32, 0)],
  [],
  [(276, 1, 1, g_X11_here), (282, 1, 2, g_X11_fail), (298, 1, 3, g_X11_fill), (301, 1, 2, g_X11_oneOf), (304, 1, 1, g_X11_parseSet)],
  [(37, [(41, 223), (42, 223), (43, 223), (46, 120), (63, 223), (91, 144), (92, 164), (93, 223), (124, 223)], 233)], 4, 1)
theorem one_X11_parseAtom : ab_oneM m_X11_parseAtom := List.forall_mem_cons.mpr ⟨o_X11_here, List.forall_mem_cons.mpr ⟨o_X11_fail, List.forall_mem_cons.mpr ⟨o_X11_fill, List.forall_mem_cons.mpr ⟨o_X11_oneOf, List.forall_mem_cons.mpr ⟨o_X11_parseSet, fun _ h => absurd h List.not_mem_nil⟩⟩⟩⟩⟩
noncomputable def f_X11_parseAtom (l0 : Nat) (l1 : Int32) (st : ab_S) : Option ab_R := ab_rc st l0 11 (ab_lim m_X11_parseAtom 0 [.ref l0, .int l1] [] st)
noncomputable def L_X11_parseAtom_7 (l0 : Nat) (l1 : Int32) (l2 : Int32) (l3 : Int32) (st : ab_S) : Option ab_R := ab_lim m_X11_parseAtom 7 [.ref l0, .int l1, .int l2, .int l3] [] st
noncomputable def g_X11_parseAtom : ab_G := fun as st k => match as with
  | [.ref a0, .int a1] => ab_ri (f_X11_parseAtom a0 a1 st) (fun x t => k [.int x] t)
  | _ => none
theorem o_X11_parseAtom : ab_one g_X11_parseAtom := by
  intro as st k r h
  unfold g_X11_parseAtom at h ⊢
  split at h
  · exact one_ri h
  · cases h
set_option maxRecDepth 100000 in
theorem e_X11_parseAtom_0 (l0 : Nat) (l1 : Int32) (st : ab_S) : f_X11_parseAtom l0 l1 st =
    ab_rc st l0 11 (
    ab_ri (f_X11_here l0 st) fun x2 s1 =>
    L_X11_parseAtom_7 l0 l1 x2 (0 : Int32) s1) := congrArg (ab_rc st l0 11) ((lm_eq one_X11_parseAtom 0 _ _ _).trans rfl)
set_option maxRecDepth 100000 in
theorem e_X11_parseAtom_7 (l0 : Nat) (l1 : Int32) (l2 : Int32) (l3 : Int32) (st : ab_S) : L_X11_parseAtom_7 l0 l1 l2 l3 st =
    if (256 : Int32) ≤ l3
    then if l2 = 41 then Option.bind (ab_gI st l0 11 33) fun x1 =>
        ab_rv (f_X11_fail l0 x1 st) fun s2 =>
        some (some (.int l1), s2)
      else if l2 = 42 then Option.bind (ab_gI st l0 11 33) fun x3 =>
        ab_rv (f_X11_fail l0 x3 st) fun s4 =>
        some (some (.int l1), s4)
      else if l2 = 43 then Option.bind (ab_gI st l0 11 33) fun x5 =>
        ab_rv (f_X11_fail l0 x5 st) fun s6 =>
        some (some (.int l1), s6)
      else if l2 = 46 then Option.bind (ab_gI st l0 11 33) fun x7 =>
        Option.bind (ab_pI st l0 11 33 (x7 + (1 : Int32))) fun s8 =>
        ab_rv (f_X11_fill l0 (0 : Int32) (255 : Int32) s8) fun s9 =>
        ab_ri (f_X11_oneOf l0 l1 s9) fun x11 s10 =>
        some (some (.int x11), s10)
      else if l2 = 63 then Option.bind (ab_gI st l0 11 33) fun x12 =>
        ab_rv (f_X11_fail l0 x12 st) fun s13 =>
        some (some (.int l1), s13)
      else if l2 = 91 then Option.bind (ab_gI st l0 11 33) fun x14 =>
        Option.bind (ab_pI st l0 11 33 (x14 + (1 : Int32))) fun s15 =>
        ab_rv (f_X11_parseSet l0 s15) fun s16 =>
        ab_ri (f_X11_oneOf l0 l1 s16) fun x18 s17 =>
        some (some (.int x18), s17)
      else if l2 = 92 then Option.bind (ab_gI st l0 11 33) fun x19 =>
        Option.bind (ab_pI st l0 11 33 (x19 + (1 : Int32))) fun s20 =>
        Option.bind (ab_gI s20 l0 11 33) fun x21 =>
        Option.bind (ab_gI s20 l0 11 34) fun x22 =>
        if x21 = x22
        then Option.bind (ab_gI s20 l0 11 34) fun x23 =>
          ab_rv (f_X11_fail l0 x23 s20) fun s24 =>
          some (some (.int l1), s24)
        else ab_ri (f_X11_here l0 s20) fun x26 s25 =>
          ab_ri (f_X11_here l0 s25) fun x28 s27 =>
          ab_rv (f_X11_fill l0 x26 x28 s27) fun s29 =>
          Option.bind (ab_gI s29 l0 11 33) fun x30 =>
          Option.bind (ab_pI s29 l0 11 33 (x30 + (1 : Int32))) fun s31 =>
          ab_ri (f_X11_oneOf l0 l1 s31) fun x33 s32 =>
          some (some (.int x33), s32)
      else if l2 = 93 then Option.bind (ab_gI st l0 11 33) fun x34 =>
        ab_rv (f_X11_fail l0 x34 st) fun s35 =>
        some (some (.int l1), s35)
      else if l2 = 124 then Option.bind (ab_gI st l0 11 33) fun x36 =>
        ab_rv (f_X11_fail l0 x36 st) fun s37 =>
        some (some (.int l1), s37)
      else ab_rv (f_X11_fill l0 l2 l2 st) fun s38 =>
        Option.bind (ab_gI s38 l0 11 33) fun x39 =>
        Option.bind (ab_pI s38 l0 11 33 (x39 + (1 : Int32))) fun s40 =>
        ab_ri (f_X11_oneOf l0 l1 s40) fun x42 s41 =>
        some (some (.int x42), s41)
    else Option.bind (ab_gR st l0 11 31) fun x43 =>
      Option.bind (ab_gI st l0 11 32) fun x44 =>
      Option.bind (ab_wB st x43 (((256 : Int32) * x44) + l3) (0 : Int32)) fun s45 =>
      L_X11_parseAtom_7 l0 l1 l2 (l3 + (1 : Int32)) s45 := (lm_eq one_X11_parseAtom 7 _ _ _).trans rfl
def c_X11_parseAll : List (Nat × ab_I) := [(0, .iconst 0, 1, (.int (0)), 0),
  (1, .istore_n 1, 1, .null, 1),
  (2, .aload_n 0, 1, .null, 0),
  (3, .iconst 0, 1, (.int (0)), 0),
  (4, .aload_n 0, 1, .null, 0),
  (5, .invokevirtual 266, 3, .null, 0),
  (8, .invokevirtual 279, 3, .null, 0),
  (11, .iconst 1, 1, (.int (1)), 0),
  (12, .istore_n 2, 1, .null, 2),
  (13, .iload_n 2, 1, .null, 2),
  (14, .ifCond .eq (255), 3, .null, 269),
  (17, .aload_n 0, 1, .null, 0),
  (18, .getfield 263, 3, .null, 0),
  (21, .iconst (-1), 1, (.int (-1)), 0),
  (22, .if_icmp .ne (247), 3, .null, 269),
  (25, .aload_n 0, 1, .null, 0),
  (26, .invokevirtual 276, 3, .null, 0),
  (29, .istore_n 3, 1, .null, 3),
  (30, .iload_n 3, 1, .null, 3),
  (31, .iconst (-1), 1, (.int (-1)), 0),
  (32, .if_icmp .eq (15), 3, .null, 47),
  (35, .iload_n 3, 1, .null, 3),
  (36, .bipush (124), 2, (.int (124)), 0),
  (38, .if_icmp .eq (9), 3, .null, 47),
  (41, .iload_n 3, 1, .null, 3),
  (42, .bipush (41), 2, (.int (41)), 0),
  (44, .if_icmp .ne (119), 3, .null, 163),
  (47, .aload_n 0, 1, .null, 0),
  (48, .aload_n 0, 1, .null, 0),
  (49, .getfield 96, 3, .null, 0),
  (52, .iload_n 1, 1, .null, 1),
  (53, .iaload, 1, .null, 0),
  (54, .aload_n 0, 1, .null, 0),
  (55, .getfield 93, 3, .null, 0),
  (58, .iload_n 1, 1, .null, 1),
  (59, .iaload, 1, .null, 0),
  (60, .iconst (-1), 1, (.int (-1)), 0),
  (61, .invokevirtual 272, 3, .null, 0),
  (64, .iload_n 3, 1, .null, 3),
  (65, .bipush (124), 2, (.int (124)), 0),
  (67, .if_icmp .ne (21), 3, .null, 88),
  (70, .aload_n 0, 1, .null, 0),
  (71, .dup, 1, .null, 0),
  (72, .getfield 257, 3, .null, 0),
  (75, .iconst 1, 1, (.int (1)), 0),
  (76, .iadd, 1, .null, 0),
  (77, .putfield 257, 3, .null, 0),
  (80, .aload_n 0, 1, .null, 0),
  (81, .iload_n 1, 1, .null, 1),
  (82, .invokevirtual 269, 3, .null, 0),
  (85, .goto (181), 3, .null, 266),
  (88, .iload_n 1, 1, .null, 1),
  (89, .ifCond .ne (22), 3, .null, 111),
  (92, .iconst 0, 1, (.int (0)), 0),
  (93, .istore_n 2, 1, .null, 2),
  (94, .iload_n 3, 1, .null, 3),
  (95, .bipush (41), 2, (.int (41)), 0),
  (97, .if_icmp .ne (169), 3, .null, 266),
  (100, .aload_n 0, 1, .null, 0),
  (101, .aload_n 0, 1, .null, 0),
  (102, .getfield 257, 3, .null, 0),
  (105, .invokevirtual 282, 3, .null, 0),
  (108, .goto (158), 3, .null, 266),
  (111, .iload_n 3, 1, .null, 3),
  (112, .bipush (41), 2, (.int (41)), 0),
  (114, .if_icmp .ne (38), 3, .null, 152),
  (117, .aload_n 0, 1, .null, 0),
  (118, .dup, 1, .null, 0),
  (119, .getfield 257, 3, .null, 0),
  (122, .iconst 1, 1, (.int (1)), 0),
  (123, .iadd, 1, .null, 0),
  (124, .putfield 257, 3, .null, 0),
  (127, .iinc 1 (-1), 3, (.int (-1)), 1),
  (130, .aload_n 0, 1, .null, 0),
  (131, .iload_n 1, 1, .null, 1),
  (132, .aload_n 0, 1, .null, 0),
  (133, .getfield 99, 3, .null, 0),
  (136, .iload_n 1, 1, .null, 1),
  (137, .iaload, 1, .null, 0),
  (138, .aload_n 0, 1, .null, 0),
  (139, .getfield 93, 3, .null, 0),
  (142, .iload_n 1, 1, .null, 1),
  (143, .iconst 1, 1, (.int (1)), 0),
  (144, .iadd, 1, .null, 0),
  (145, .iaload, 1, .null, 0),
  (146, .invokevirtual 285, 3, .null, 0),
  (149, .goto (117), 3, .null, 266),
  (152, .aload_n 0, 1, .null, 0),
  (153, .aload_n 0, 1, .null, 0),
  (154, .getfield 260, 3, .null, 0),
  (157, .invokevirtual 282, 3, .null, 0),
  (160, .goto (106), 3, .null, 266),
  (163, .aload_n 0, 1, .null, 0),
  (164, .invokevirtual 266, 3, .null, 0),
  (167, .istore 4, 2, .null, 4),
  (169, .aload_n 0, 1, .null, 0),
  (170, .aload_n 0, 1, .null, 0),
  (171, .getfield 96, 3, .null, 0),
  (174, .iload_n 1, 1, .null, 1),
  (175, .iaload, 1, .null, 0),
  (176, .iload 4, 2, .null, 4),
  (178, .iconst (-1), 1, (.int (-1)), 0),
  (179, .invokevirtual 272, 3, .null, 0),
  (182, .aload_n 0, 1, .null, 0),
  (183, .getfield 99, 3, .null, 0),
  (186, .iload_n 1, 1, .null, 1),
  (187, .iload 4, 2, .null, 4),
  (189, .iastore, 1, .null, 0),
  (190, .iload_n 3, 1, .null, 3),
  (191, .bipush (40), 2, (.int (40)), 0),
  (193, .if_icmp .ne (19), 3, .null, 212),
  (196, .iload_n 1, 1, .null, 1),
  (197, .iconst 4, 1, (.int (4)), 0),
  (198, .if_icmp .ne (14), 3, .null, 212),
  (201, .aload_n 0, 1, .null, 0),
  (202, .aload_n 0, 1, .null, 0),
  (203, .getfield 257, 3, .null, 0),
  (206, .invokevirtual 282, 3, .null, 0),
  (209, .goto (57), 3, .null, 266),
  (212, .iload_n 3, 1, .null, 3),
  (213, .bipush (40), 2, (.int (40)), 0),
  (215, .if_icmp .ne (26), 3, .null, 241),
  (218, .aload_n 0, 1, .null, 0),
  (219, .dup, 1, .null, 0),
  (220, .getfield 257, 3, .null, 0),
  (223, .iconst 1, 1, (.int (1)), 0),
  (224, .iadd, 1, .null, 0),
  (225, .putfield 257, 3, .null, 0),
  (228, .iinc 1 (1), 3, (.int (1)), 1),
  (231, .aload_n 0, 1, .null, 0),
  (232, .iload_n 1, 1, .null, 1),
  (233, .iload 4, 2, .null, 4),
  (235, .invokevirtual 279, 3, .null, 0),
  (238, .goto (28), 3, .null, 266),
  (241, .aload_n 0, 1, .null, 0),
  (242, .iload 4, 2, .null, 4),
  (244, .invokevirtual 288, 3, .null, 0),
  (247, .istore 5, 2, .null, 5),
  (249, .aload_n 0, 1, .null, 0),
  (250, .getfield 263, 3, .null, 0),
  (253, .iconst (-1), 1, (.int (-1)), 0),
  (254, .if_icmp .ne (12), 3, .null, 266),
  (257, .aload_n 0, 1, .null, 0),
  (258, .iload_n 1, 1, .null, 1),
  (259, .iload 4, 2, .null, 4),
  (261, .iload 5, 2, .null, 5),
  (263, .invokevirtual 285, 3, .null, 0),
  (266, .goto (-253), 3, .null, 13),
  (269, .aload_n 0, 1, .null, 0),
  (270, .aload_n 0, 1, .null, 0),
  (271, .getfield 93, 3, .null, 0),
  (274, .iconst 0, 1, (.int (0)), 0),
  (275, .iaload, 1, .null, 0),
  (276, .putfield 292, 3, .null, 0),
  (279, .return_, 1, .null, 0)]
noncomputable def m_X11_parseAll : ab_M := (c_X11_parseAll, [(0, [0]), (13, [0, 1, 2]), (47, [0, 1, 2, 3]), (212, [0, 1, 2, 3, 4]), (266, [0, 1, 2]), (269, [0])],
  [(93, 11, 38, 3), (96, 11, 39, 3), (99, 11, 40, 3), (257, 11, 33, 0), (260, 11, 34, 0), (263, 11, 35, 0), (292, 11, 36, 0)],
  [],
  [(266, 1, 1, g_X11_spot), (269, 1, 2, g_X11_openSequence), (272, 1, 4, g_X11_step), (276, 1, 1, g_X11_here), (279, 1, 3, g_X11_openAlt), (282, 1, 2, g_X11_fail), (285, 1, 4, g_X11_closePiece), (288, 1, 2, g_X11_parseAtom)],
  [], 6, 0)
theorem one_X11_parseAll : ab_oneM m_X11_parseAll := List.forall_mem_cons.mpr ⟨o_X11_spot, List.forall_mem_cons.mpr ⟨o_X11_openSequence, List.forall_mem_cons.mpr ⟨o_X11_step, List.forall_mem_cons.mpr ⟨o_X11_here, List.forall_mem_cons.mpr ⟨o_X11_openAlt, List.forall_mem_cons.mpr ⟨o_X11_fail, List.forall_mem_cons.mpr ⟨o_X11_closePiece, List.forall_mem_cons.mpr ⟨o_X11_parseAtom, fun _ h => absurd h List.not_mem_nil⟩⟩⟩⟩⟩⟩⟩⟩
noncomputable def f_X11_parseAll (l0 : Nat) (st : ab_S) : Option ab_R := ab_rc st l0 11 (ab_lim m_X11_parseAll 0 [.ref l0] [] st)
noncomputable def L_X11_parseAll_13 (l0 : Nat) (l1 : Int32) (l2 : Int32) (st : ab_S) : Option ab_R := ab_lim m_X11_parseAll 13 [.ref l0, .int l1, .int l2] [] st
noncomputable def L_X11_parseAll_47 (l0 : Nat) (l1 : Int32) (l2 : Int32) (l3 : Int32) (st : ab_S) : Option ab_R := ab_lim m_X11_parseAll 47 [.ref l0, .int l1, .int l2, .int l3] [] st
noncomputable def L_X11_parseAll_212 (l0 : Nat) (l1 : Int32) (l2 : Int32) (l3 : Int32) (l4 : Int32) (st : ab_S) : Option ab_R := ab_lim m_X11_parseAll 212 [.ref l0, .int l1, .int l2, .int l3, .int l4] [] st
noncomputable def L_X11_parseAll_266 (l0 : Nat) (l1 : Int32) (l2 : Int32) (st : ab_S) : Option ab_R := ab_lim m_X11_parseAll 266 [.ref l0, .int l1, .int l2] [] st
noncomputable def L_X11_parseAll_269 (l0 : Nat) (st : ab_S) : Option ab_R := ab_lim m_X11_parseAll 269 [.ref l0] [] st
noncomputable def g_X11_parseAll : ab_G := fun as st k => match as with
  | [.ref a0] => ab_rv (f_X11_parseAll a0 st) (fun t => k [] t)
  | _ => none
theorem o_X11_parseAll : ab_one g_X11_parseAll := by
  intro as st k r h
  unfold g_X11_parseAll at h ⊢
  split at h
  · exact one_rv h
  · cases h
set_option maxRecDepth 100000 in
theorem e_X11_parseAll_0 (l0 : Nat) (st : ab_S) : f_X11_parseAll l0 st =
    ab_rc st l0 11 (
    ab_ri (f_X11_spot l0 st) fun x2 s1 =>
    ab_rv (f_X11_openAlt l0 (0 : Int32) x2 s1) fun s3 =>
    L_X11_parseAll_13 l0 (0 : Int32) (1 : Int32) s3) := congrArg (ab_rc st l0 11) ((lm_eq one_X11_parseAll 0 _ _ _).trans rfl)
set_option maxRecDepth 100000 in
theorem e_X11_parseAll_13 (l0 : Nat) (l1 : Int32) (l2 : Int32) (st : ab_S) : L_X11_parseAll_13 l0 l1 l2 st =
    if l2 = 0
    then L_X11_parseAll_269 l0 st
    else Option.bind (ab_gI st l0 11 35) fun x1 =>
      if x1 = (-1 : Int32)
      then ab_ri (f_X11_here l0 st) fun x3 s2 =>
        if x3 = (-1 : Int32)
        then L_X11_parseAll_47 l0 l1 l2 x3 s2
        else if x3 = (124 : Int32)
          then L_X11_parseAll_47 l0 l1 l2 x3 s2
          else if x3 = (41 : Int32)
            then L_X11_parseAll_47 l0 l1 l2 x3 s2
            else ab_ri (f_X11_spot l0 s2) fun x5 s4 =>
              Option.bind (ab_gR s4 l0 11 39) fun x6 =>
              Option.bind (ab_rI s4 x6 l1) fun x7 =>
              ab_rv (f_X11_step l0 x7 x5 (-1 : Int32) s4) fun s8 =>
              Option.bind (ab_gR s8 l0 11 40) fun x9 =>
              Option.bind (ab_wI s8 x9 l1 x5) fun s10 =>
              if x3 = (40 : Int32)
              then if l1 = (4 : Int32)
                then Option.bind (ab_gI s10 l0 11 33) fun x11 =>
                  ab_rv (f_X11_fail l0 x11 s10) fun s12 =>
                  L_X11_parseAll_266 l0 l1 l2 s12
                else L_X11_parseAll_212 l0 l1 l2 x3 x5 s10
              else L_X11_parseAll_212 l0 l1 l2 x3 x5 s10
      else L_X11_parseAll_269 l0 st := (lm_eq one_X11_parseAll 13 _ _ _).trans rfl
set_option maxRecDepth 100000 in
theorem e_X11_parseAll_47 (l0 : Nat) (l1 : Int32) (l2 : Int32) (l3 : Int32) (st : ab_S) : L_X11_parseAll_47 l0 l1 l2 l3 st =
    Option.bind (ab_gR st l0 11 39) fun x1 =>
    Option.bind (ab_rI st x1 l1) fun x2 =>
    Option.bind (ab_gR st l0 11 38) fun x3 =>
    Option.bind (ab_rI st x3 l1) fun x4 =>
    ab_rv (f_X11_step l0 x2 x4 (-1 : Int32) st) fun s5 =>
    if l3 = (124 : Int32)
    then Option.bind (ab_gI s5 l0 11 33) fun x6 =>
      Option.bind (ab_pI s5 l0 11 33 (x6 + (1 : Int32))) fun s7 =>
      ab_rv (f_X11_openSequence l0 l1 s7) fun s8 =>
      L_X11_parseAll_266 l0 l1 l2 s8
    else if l1 = 0
      then if l3 = (41 : Int32)
        then Option.bind (ab_gI s5 l0 11 33) fun x9 =>
          ab_rv (f_X11_fail l0 x9 s5) fun s10 =>
          L_X11_parseAll_266 l0 l1 (0 : Int32) s10
        else L_X11_parseAll_266 l0 l1 (0 : Int32) s5
      else if l3 = (41 : Int32)
        then Option.bind (ab_gI s5 l0 11 33) fun x11 =>
          Option.bind (ab_pI s5 l0 11 33 (x11 + (1 : Int32))) fun s12 =>
          Option.bind (ab_gR s12 l0 11 40) fun x13 =>
          Option.bind (ab_rI s12 x13 (l1 + (-1 : Int32))) fun x14 =>
          Option.bind (ab_gR s12 l0 11 38) fun x15 =>
          Option.bind (ab_rI s12 x15 ((l1 + (-1 : Int32)) + (1 : Int32))) fun x16 =>
          ab_rv (f_X11_closePiece l0 (l1 + (-1 : Int32)) x14 x16 s12) fun s17 =>
          L_X11_parseAll_266 l0 (l1 + (-1 : Int32)) l2 s17
        else Option.bind (ab_gI s5 l0 11 34) fun x18 =>
          ab_rv (f_X11_fail l0 x18 s5) fun s19 =>
          L_X11_parseAll_266 l0 l1 l2 s19 := (lm_eq one_X11_parseAll 47 _ _ _).trans rfl
set_option maxRecDepth 100000 in
theorem e_X11_parseAll_212 (l0 : Nat) (l1 : Int32) (l2 : Int32) (l3 : Int32) (l4 : Int32) (st : ab_S) : L_X11_parseAll_212 l0 l1 l2 l3 l4 st =
    if l3 = (40 : Int32)
    then Option.bind (ab_gI st l0 11 33) fun x1 =>
      Option.bind (ab_pI st l0 11 33 (x1 + (1 : Int32))) fun s2 =>
      ab_rv (f_X11_openAlt l0 (l1 + (1 : Int32)) l4 s2) fun s3 =>
      L_X11_parseAll_266 l0 (l1 + (1 : Int32)) l2 s3
    else ab_ri (f_X11_parseAtom l0 l4 st) fun x5 s4 =>
      Option.bind (ab_gI s4 l0 11 35) fun x6 =>
      if x6 = (-1 : Int32)
      then ab_rv (f_X11_closePiece l0 l1 l4 x5 s4) fun s7 =>
        L_X11_parseAll_266 l0 l1 l2 s7
      else L_X11_parseAll_266 l0 l1 l2 s4 := (lm_eq one_X11_parseAll 212 _ _ _).trans rfl
set_option maxRecDepth 100000 in
theorem e_X11_parseAll_266 (l0 : Nat) (l1 : Int32) (l2 : Int32) (st : ab_S) : L_X11_parseAll_266 l0 l1 l2 st =
    L_X11_parseAll_13 l0 l1 l2 st := (lm_eq one_X11_parseAll 266 _ _ _).trans rfl
set_option maxRecDepth 100000 in
theorem e_X11_parseAll_269 (l0 : Nat) (st : ab_S) : L_X11_parseAll_269 l0 st =
    Option.bind (ab_gR st l0 11 38) fun x1 =>
    Option.bind (ab_rI st x1 (0 : Int32)) fun x2 =>
    Option.bind (ab_pI st l0 11 36 x2) fun s3 =>
    some (none, s3) := (lm_eq one_X11_parseAll 269 _ _ _).trans rfl
end
section
def c_X11_parsePattern : List (Nat × ab_I) := [(0, .aload_n 0, 1, .null, 0),
  (1, .iconst 0, 1, (.int (0)), 0),
  (2, .putfield 257, 3, .null, 0),
  (5, .aload_n 0, 1, .null, 0),
  (6, .iload_n 1, 1, .null, 1),
  (7, .putfield 260, 3, .null, 0),
  (10, .aload_n 0, 1, .null, 0),
  (11, .iconst (-1), 1, (.int (-1)), 0),
  (12, .putfield 263, 3, .null, 0),
  (15, .aload_n 0, 1, .null, 0),
  (16, .iconst 0, 1, (.int (0)), 0),
  (17, .putfield 251, 3, .null, 0),
  (20, .aload_n 0, 1, .null, 0),
  (21, .iconst 0, 1, (.int (0)), 0),
  (22, .putfield 254, 3, .null, 0),
  (25, .aload_n 0, 1, .null, 0),
  (26, .iconst 0, 1, (.int (0)), 0),
  (27, .putfield 295, 3, .null, 0),
  (30, .aload_n 0, 1, .null, 0),
  (31, .invokevirtual 310, 3, .null, 0),
  (34, .return_, 1, .null, 0)]
noncomputable def m_X11_parsePattern : ab_M := (c_X11_parsePattern, [(0, [0, 1])],
  [(251, 11, 29, 0), (254, 11, 30, 0), (257, 11, 33, 0), (260, 11, 34, 0), (263, 11, 35, 0), (295, 11, 32, 0)],
  [],
  [(310, 1, 1, g_X11_parseAll)],
  [], 2, 0)
theorem one_X11_parsePattern : ab_oneM m_X11_parsePattern := List.forall_mem_cons.mpr ⟨o_X11_parseAll, fun _ h => absurd h List.not_mem_nil⟩
noncomputable def f_X11_parsePattern (l0 : Nat) (l1 : Int32) (st : ab_S) : Option ab_R := ab_rc st l0 11 (ab_lim m_X11_parsePattern 0 [.ref l0, .int l1] [] st)
noncomputable def g_X11_parsePattern : ab_G := fun as st k => match as with
  | [.ref a0, .int a1] => ab_rv (f_X11_parsePattern a0 a1 st) (fun t => k [] t)
  | _ => none
theorem o_X11_parsePattern : ab_one g_X11_parsePattern := by
  intro as st k r h
  unfold g_X11_parsePattern at h ⊢
  split at h
  · exact one_rv h
  · cases h
set_option maxRecDepth 100000 in
theorem e_X11_parsePattern_0 (l0 : Nat) (l1 : Int32) (st : ab_S) : f_X11_parsePattern l0 l1 st =
    ab_rc st l0 11 (
    Option.bind (ab_pI st l0 11 33 (0 : Int32)) fun s1 =>
    Option.bind (ab_pI s1 l0 11 34 l1) fun s2 =>
    Option.bind (ab_pI s2 l0 11 35 (-1 : Int32)) fun s3 =>
    Option.bind (ab_pI s3 l0 11 29 (0 : Int32)) fun s4 =>
    Option.bind (ab_pI s4 l0 11 30 (0 : Int32)) fun s5 =>
    Option.bind (ab_pI s5 l0 11 32 (0 : Int32)) fun s6 =>
    ab_rv (f_X11_parseAll l0 s6) fun s7 =>
    some (none, s7)) := congrArg (ab_rc st l0 11) ((lm_eq one_X11_parsePattern 0 _ _ _).trans rfl)
def c_X11_isWild : List (Nat × ab_I) := [(0, .aload_n 0, 1, .null, 0),
  (1, .getfield 16, 3, .null, 0),
  (4, .sipush (200), 3, (.int (200)), 0),
  (7, .iload_n 1, 1, .null, 1),
  (8, .imul, 1, .null, 0),
  (9, .iload_n 2, 1, .null, 2),
  (10, .iadd, 1, .null, 0),
  (11, .iaload, 1, .null, 0),
  (12, .istore 4, 2, .null, 4),
  (14, .iconst 0, 1, (.int (0)), 0),
  (15, .istore 5, 2, .null, 5),
  (17, .iload 5, 2, .null, 5),
  (19, .iload_n 3, 1, .null, 3),
  (20, .if_icmp .gt (197), 3, .null, 217),
  (23, .iconst 0, 1, (.int (0)), 0),
  (24, .istore 6, 2, .null, 6),
  (26, .iload 6, 2, .null, 6),
  (28, .iload 4, 2, .null, 4),
  (30, .if_icmp .gt (181), 3, .null, 211),
  (33, .iload 5, 2, .null, 5),
  (35, .ifCond .ne (18), 3, .null, 53),
  (38, .iload 6, 2, .null, 6),
  (40, .ifCond .ne (7), 3, .null, 47),
  (43, .iconst 1, 1, (.int (1)), 0),
  (44, .goto (4), 3, .null, 48),
  (47, .iconst 0, 1, (.int (0)), 0),
  (48, .istore 7, 2, .null, 7),
  (50, .goto (140), 3, .null, 190),
  (53, .aload_n 0, 1, .null, 0),
  (54, .getfield 7, 3, .null, 0),
  (57, .iload 5, 2, .null, 5),
  (59, .iconst 1, 1, (.int (1)), 0),
  (60, .isub, 1, .null, 0),
  (61, .baload, 1, .null, 0),
  (62, .bipush (42), 2, (.int (42)), 0),
  (64, .if_icmp .ne (54), 3, .null, 118),
  (67, .aload_n 0, 1, .null, 0),
  (68, .getfield 108, 3, .null, 0),
  (71, .bipush (14), 2, (.int (14)), 0),
  (73, .iload 5, 2, .null, 5),
  (75, .iconst 1, 1, (.int (1)), 0),
  (76, .isub, 1, .null, 0),
  (77, .imul, 1, .null, 0),
  (78, .iload 6, 2, .null, 6),
  (80, .iadd, 1, .null, 0),
  (81, .baload, 1, .null, 0),
  (82, .ifCond .ne (26), 3, .null, 108),
  (85, .iload 6, 2, .null, 6),
  (87, .ifCond .le (25), 3, .null, 112),
  (90, .aload_n 0, 1, .null, 0),
  (91, .getfield 108, 3, .null, 0),
  (94, .bipush (14), 2, (.int (14)), 0),
  (96, .iload 5, 2, .null, 5),
  (98, .imul, 1, .null, 0),
  (99, .iload 6, 2, .null, 6),
  (101, .iadd, 1, .null, 0),
  (102, .iconst 1, 1, (.int (1)), 0),
  (103, .isub, 1, .null, 0),
  (104, .baload, 1, .null, 0),
  (105, .ifCond .eq (7), 3, .null, 112),
  (108, .iconst 1, 1, (.int (1)), 0),
  (109, .goto (4), 3, .null, 113),
  (112, .iconst 0, 1, (.int (0)), 0),
  (113, .istore 7, 2, .null, 7),
  (115, .goto (75), 3, .null, 190),
  (118, .iload 6, 2, .null, 6),
  (120, .ifCond .le (67), 3, .null, 187),
  (123, .aload_n 0, 1, .null, 0),
  (124, .getfield 108, 3, .null, 0),
  (127, .bipush (14), 2, (.int (14)), 0),
  (129, .iload 5, 2, .null, 5),
  (131, .iconst 1, 1, (.int (1)), 0),
  (132, .isub, 1, .null, 0),
  (133, .imul, 1, .null, 0),
  (134, .iload 6, 2, .null, 6),
  (136, .iadd, 1, .null, 0),
  (137, .iconst 1, 1, (.int (1)), 0),
  (138, .isub, 1, .null, 0),
  (139, .baload, 1, .null, 0),
  (140, .ifCond .eq (47), 3, .null, 187),
  (143, .aload_n 0, 1, .null, 0),
  (144, .getfield 7, 3, .null, 0),
  (147, .iload 5, 2, .null, 5),
  (149, .iconst 1, 1, (.int (1)), 0),
  (150, .isub, 1, .null, 0),
  (151, .baload, 1, .null, 0),
  (152, .bipush (63), 2, (.int (63)), 0),
  (154, .if_icmp .eq (29), 3, .null, 183),
  (157, .aload_n 0, 1, .null, 0),
  (158, .getfield 7, 3, .null, 0),
  (161, .iload 5, 2, .null, 5),
  (163, .iconst 1, 1, (.int (1)), 0),
  (164, .isub, 1, .null, 0),
  (165, .baload, 1, .null, 0),
  (166, .sipush (255), 3, (.int (255)), 0),
  (169, .iand, 1, .null, 0),
  (170, .aload_n 0, 1, .null, 0),
  (171, .iload_n 1, 1, .null, 1),
  (172, .iload_n 2, 1, .null, 2),
  (173, .iload 6, 2, .null, 6),
  (175, .iconst 1, 1, (.int (1)), 0),
  (176, .isub, 1, .null, 0),
  (177, .invokevirtual 153, 3, .null, 0),
  (180, .if_icmp .ne (7), 3, .null, 187),
  (183, .iconst 1, 1, (.int (1)), 0),
  (184, .goto (4), 3, .null, 188),
  (187, .iconst 0, 1, (.int (0)), 0),
  (188, .istore 7, 2, .null, 7),
  (190, .aload_n 0, 1, .null, 0),
  (191, .getfield 108, 3, .null, 0),
  (194, .bipush (14), 2, (.int (14)), 0),
  (196, .iload 5, 2, .null, 5),
  (198, .imul, 1, .null, 0),
  (199, .iload 6, 2, .null, 6),
  (201, .iadd, 1, .null, 0),
  (202, .iload 7, 2, .null, 7),
  (204, .bastore, 1, .null, 0),
  (205, .iinc 6 (1), 3, (.int (1)), 6),
  (208, .goto (-182), 3, .null, 26),
  (211, .iinc 5 (1), 3, (.int (1)), 5),
  (214, .goto (-197), 3, .null, 17),
  (217, .aload_n 0, 1, .null, 0),
  (218, .getfield 108, 3, .null, 0),
  (221, .bipush (14), 2, (.int (14)), 0),
  (223, .iload_n 3, 1, .null, 3),
  (224, .imul, 1, .null, 0),
  (225, .iload 4, 2, .null, 4),
  (227, .iadd, 1, .null, 0),
  (228, .baload, 1, .null, 0),
  (229, .ireturn, 1, .null, 0)]
noncomputable def m_X11_isWild : ab_M := (c_X11_isWild, [(0, [0, 1, 2, 3]), (17, [0, 1, 2, 3, 4, 5]), (26, [0, 1, 2, 3, 4, 5, 6]), (48, [0, 1, 2, 3, 4, 5, 6]), (108, [0, 1, 2, 3, 4, 5, 6]), (112, [0, 1, 2, 3, 4, 5, 6]), (113, [0, 1, 2, 3, 4, 5, 6]), (183, [0, 1, 2, 3, 4, 5, 6]), (187, [0, 1, 2, 3, 4, 5, 6]), (188, [0, 1, 2, 3, 4, 5, 6]), (190, [0, 1, 2, 3, 4, 5, 6, 7])],
  [(7, 11, 0, 3), (16, 11, 3, 3), (108, 11, 43, 3)],
  [],
  [(153, 1, 4, g_X11_letter)],
  [], 8, 2)
theorem one_X11_isWild : ab_oneM m_X11_isWild := List.forall_mem_cons.mpr ⟨o_X11_letter, fun _ h => absurd h List.not_mem_nil⟩
noncomputable def f_X11_isWild (l0 : Nat) (l1 : Int32) (l2 : Int32) (l3 : Int32) (st : ab_S) : Option ab_R := ab_rc st l0 11 (ab_lim m_X11_isWild 0 [.ref l0, .int l1, .int l2, .int l3] [] st)
noncomputable def L_X11_isWild_17 (l0 : Nat) (l1 : Int32) (l2 : Int32) (l3 : Int32) (l4 : Int32) (l5 : Int32) (st : ab_S) : Option ab_R := ab_lim m_X11_isWild 17 [.ref l0, .int l1, .int l2, .int l3, .int l4, .int l5] [] st
noncomputable def L_X11_isWild_26 (l0 : Nat) (l1 : Int32) (l2 : Int32) (l3 : Int32) (l4 : Int32) (l5 : Int32) (l6 : Int32) (st : ab_S) : Option ab_R := ab_lim m_X11_isWild 26 [.ref l0, .int l1, .int l2, .int l3, .int l4, .int l5, .int l6] [] st
noncomputable def L_X11_isWild_48 (l0 : Nat) (l1 : Int32) (l2 : Int32) (l3 : Int32) (l4 : Int32) (l5 : Int32) (l6 : Int32) (t0 : Int32) (st : ab_S) : Option ab_R := ab_lim m_X11_isWild 48 [.ref l0, .int l1, .int l2, .int l3, .int l4, .int l5, .int l6] [.int t0] st
noncomputable def L_X11_isWild_108 (l0 : Nat) (l1 : Int32) (l2 : Int32) (l3 : Int32) (l4 : Int32) (l5 : Int32) (l6 : Int32) (st : ab_S) : Option ab_R := ab_lim m_X11_isWild 108 [.ref l0, .int l1, .int l2, .int l3, .int l4, .int l5, .int l6] [] st
noncomputable def L_X11_isWild_112 (l0 : Nat) (l1 : Int32) (l2 : Int32) (l3 : Int32) (l4 : Int32) (l5 : Int32) (l6 : Int32) (st : ab_S) : Option ab_R := ab_lim m_X11_isWild 112 [.ref l0, .int l1, .int l2, .int l3, .int l4, .int l5, .int l6] [] st
noncomputable def L_X11_isWild_113 (l0 : Nat) (l1 : Int32) (l2 : Int32) (l3 : Int32) (l4 : Int32) (l5 : Int32) (l6 : Int32) (t0 : Int32) (st : ab_S) : Option ab_R := ab_lim m_X11_isWild 113 [.ref l0, .int l1, .int l2, .int l3, .int l4, .int l5, .int l6] [.int t0] st
noncomputable def L_X11_isWild_183 (l0 : Nat) (l1 : Int32) (l2 : Int32) (l3 : Int32) (l4 : Int32) (l5 : Int32) (l6 : Int32) (st : ab_S) : Option ab_R := ab_lim m_X11_isWild 183 [.ref l0, .int l1, .int l2, .int l3, .int l4, .int l5, .int l6] [] st
noncomputable def L_X11_isWild_187 (l0 : Nat) (l1 : Int32) (l2 : Int32) (l3 : Int32) (l4 : Int32) (l5 : Int32) (l6 : Int32) (st : ab_S) : Option ab_R := ab_lim m_X11_isWild 187 [.ref l0, .int l1, .int l2, .int l3, .int l4, .int l5, .int l6] [] st
noncomputable def L_X11_isWild_188 (l0 : Nat) (l1 : Int32) (l2 : Int32) (l3 : Int32) (l4 : Int32) (l5 : Int32) (l6 : Int32) (t0 : Int32) (st : ab_S) : Option ab_R := ab_lim m_X11_isWild 188 [.ref l0, .int l1, .int l2, .int l3, .int l4, .int l5, .int l6] [.int t0] st
noncomputable def L_X11_isWild_190 (l0 : Nat) (l1 : Int32) (l2 : Int32) (l3 : Int32) (l4 : Int32) (l5 : Int32) (l6 : Int32) (l7 : Int32) (st : ab_S) : Option ab_R := ab_lim m_X11_isWild 190 [.ref l0, .int l1, .int l2, .int l3, .int l4, .int l5, .int l6, .int l7] [] st
noncomputable def g_X11_isWild : ab_G := fun as st k => match as with
  | [.ref a0, .int a1, .int a2, .int a3] => ab_ri (f_X11_isWild a0 a1 a2 a3 st) (fun x t => k [.int x] t)
  | _ => none
theorem o_X11_isWild : ab_one g_X11_isWild := by
  intro as st k r h
  unfold g_X11_isWild at h ⊢
  split at h
  · exact one_ri h
  · cases h
set_option maxRecDepth 100000 in
theorem e_X11_isWild_0 (l0 : Nat) (l1 : Int32) (l2 : Int32) (l3 : Int32) (st : ab_S) : f_X11_isWild l0 l1 l2 l3 st =
    ab_rc st l0 11 (
    Option.bind (ab_gR st l0 11 3) fun x1 =>
    Option.bind (ab_rI st x1 (((200 : Int32) * l1) + l2)) fun x2 =>
    L_X11_isWild_17 l0 l1 l2 l3 x2 (0 : Int32) st) := congrArg (ab_rc st l0 11) ((lm_eq one_X11_isWild 0 _ _ _).trans rfl)
set_option maxRecDepth 100000 in
theorem e_X11_isWild_17 (l0 : Nat) (l1 : Int32) (l2 : Int32) (l3 : Int32) (l4 : Int32) (l5 : Int32) (st : ab_S) : L_X11_isWild_17 l0 l1 l2 l3 l4 l5 st =
    if l3 < l5
    then Option.bind (ab_gR st l0 11 43) fun x1 =>
      Option.bind (ab_rB st x1 (((14 : Int32) * l3) + l4)) fun x2 =>
      ab_z x2 (some (some (.int x2), st))
    else L_X11_isWild_26 l0 l1 l2 l3 l4 l5 (0 : Int32) st := (lm_eq one_X11_isWild 17 _ _ _).trans rfl
set_option maxRecDepth 100000 in
theorem e_X11_isWild_26 (l0 : Nat) (l1 : Int32) (l2 : Int32) (l3 : Int32) (l4 : Int32) (l5 : Int32) (l6 : Int32) (st : ab_S) : L_X11_isWild_26 l0 l1 l2 l3 l4 l5 l6 st =
    if l4 < l6
    then L_X11_isWild_17 l0 l1 l2 l3 l4 (l5 + (1 : Int32)) st
    else if l5 = 0
      then if l6 = 0
        then L_X11_isWild_48 l0 l1 l2 l3 l4 l5 l6 (1 : Int32) st
        else L_X11_isWild_48 l0 l1 l2 l3 l4 l5 l6 (0 : Int32) st
      else Option.bind (ab_gR st l0 11 0) fun x1 =>
        Option.bind (ab_rB st x1 (l5 - (1 : Int32))) fun x2 =>
        if x2 = (42 : Int32)
        then Option.bind (ab_gR st l0 11 43) fun x3 =>
          Option.bind (ab_rB st x3 (((14 : Int32) * (l5 - (1 : Int32))) + l6)) fun x4 =>
          if x4 = 0
          then if l6 ≤ 0
            then L_X11_isWild_112 l0 l1 l2 l3 l4 l5 l6 st
            else Option.bind (ab_gR st l0 11 43) fun x5 =>
              Option.bind (ab_rB st x5 ((((14 : Int32) * l5) + l6) - (1 : Int32))) fun x6 =>
              if x6 = 0
              then L_X11_isWild_112 l0 l1 l2 l3 l4 l5 l6 st
              else L_X11_isWild_108 l0 l1 l2 l3 l4 l5 l6 st
          else L_X11_isWild_108 l0 l1 l2 l3 l4 l5 l6 st
        else if l6 ≤ 0
          then L_X11_isWild_187 l0 l1 l2 l3 l4 l5 l6 st
          else Option.bind (ab_gR st l0 11 43) fun x7 =>
            Option.bind (ab_rB st x7 ((((14 : Int32) * (l5 - (1 : Int32))) + l6) - (1 : Int32))) fun x8 =>
            if x8 = 0
            then L_X11_isWild_187 l0 l1 l2 l3 l4 l5 l6 st
            else Option.bind (ab_gR st l0 11 0) fun x9 =>
              Option.bind (ab_rB st x9 (l5 - (1 : Int32))) fun x10 =>
              if x10 = (63 : Int32)
              then L_X11_isWild_183 l0 l1 l2 l3 l4 l5 l6 st
              else Option.bind (ab_gR st l0 11 0) fun x11 =>
                Option.bind (ab_rB st x11 (l5 - (1 : Int32))) fun x12 =>
                ab_ri (f_X11_letter l0 l1 l2 (l6 - (1 : Int32)) st) fun x14 s13 =>
                if (x12 &&& (255 : Int32)) = x14
                then L_X11_isWild_183 l0 l1 l2 l3 l4 l5 l6 s13
                else L_X11_isWild_187 l0 l1 l2 l3 l4 l5 l6 s13 := (lm_eq one_X11_isWild 26 _ _ _).trans rfl
set_option maxRecDepth 100000 in
theorem e_X11_isWild_48 (l0 : Nat) (l1 : Int32) (l2 : Int32) (l3 : Int32) (l4 : Int32) (l5 : Int32) (l6 : Int32) (t0 : Int32) (st : ab_S) : L_X11_isWild_48 l0 l1 l2 l3 l4 l5 l6 t0 st =
    L_X11_isWild_190 l0 l1 l2 l3 l4 l5 l6 t0 st := (lm_eq one_X11_isWild 48 _ _ _).trans rfl
set_option maxRecDepth 100000 in
theorem e_X11_isWild_108 (l0 : Nat) (l1 : Int32) (l2 : Int32) (l3 : Int32) (l4 : Int32) (l5 : Int32) (l6 : Int32) (st : ab_S) : L_X11_isWild_108 l0 l1 l2 l3 l4 l5 l6 st =
    L_X11_isWild_113 l0 l1 l2 l3 l4 l5 l6 (1 : Int32) st := (lm_eq one_X11_isWild 108 _ _ _).trans rfl
set_option maxRecDepth 100000 in
theorem e_X11_isWild_112 (l0 : Nat) (l1 : Int32) (l2 : Int32) (l3 : Int32) (l4 : Int32) (l5 : Int32) (l6 : Int32) (st : ab_S) : L_X11_isWild_112 l0 l1 l2 l3 l4 l5 l6 st =
    L_X11_isWild_113 l0 l1 l2 l3 l4 l5 l6 (0 : Int32) st := (lm_eq one_X11_isWild 112 _ _ _).trans rfl
set_option maxRecDepth 100000 in
theorem e_X11_isWild_113 (l0 : Nat) (l1 : Int32) (l2 : Int32) (l3 : Int32) (l4 : Int32) (l5 : Int32) (l6 : Int32) (t0 : Int32) (st : ab_S) : L_X11_isWild_113 l0 l1 l2 l3 l4 l5 l6 t0 st =
    L_X11_isWild_190 l0 l1 l2 l3 l4 l5 l6 t0 st := (lm_eq one_X11_isWild 113 _ _ _).trans rfl
set_option maxRecDepth 100000 in
theorem e_X11_isWild_183 (l0 : Nat) (l1 : Int32) (l2 : Int32) (l3 : Int32) (l4 : Int32) (l5 : Int32) (l6 : Int32) (st : ab_S) : L_X11_isWild_183 l0 l1 l2 l3 l4 l5 l6 st =
    L_X11_isWild_188 l0 l1 l2 l3 l4 l5 l6 (1 : Int32) st := (lm_eq one_X11_isWild 183 _ _ _).trans rfl
set_option maxRecDepth 100000 in
theorem e_X11_isWild_187 (l0 : Nat) (l1 : Int32) (l2 : Int32) (l3 : Int32) (l4 : Int32) (l5 : Int32) (l6 : Int32) (st : ab_S) : L_X11_isWild_187 l0 l1 l2 l3 l4 l5 l6 st =
    L_X11_isWild_188 l0 l1 l2 l3 l4 l5 l6 (0 : Int32) st := (lm_eq one_X11_isWild 187 _ _ _).trans rfl
set_option maxRecDepth 100000 in
theorem e_X11_isWild_188 (l0 : Nat) (l1 : Int32) (l2 : Int32) (l3 : Int32) (l4 : Int32) (l5 : Int32) (l6 : Int32) (t0 : Int32) (st : ab_S) : L_X11_isWild_188 l0 l1 l2 l3 l4 l5 l6 t0 st =
    L_X11_isWild_190 l0 l1 l2 l3 l4 l5 l6 t0 st := (lm_eq one_X11_isWild 188 _ _ _).trans rfl
set_option maxRecDepth 100000 in
theorem e_X11_isWild_190 (l0 : Nat) (l1 : Int32) (l2 : Int32) (l3 : Int32) (l4 : Int32) (l5 : Int32) (l6 : Int32) (l7 : Int32) (st : ab_S) : L_X11_isWild_190 l0 l1 l2 l3 l4 l5 l6 l7 st =
    Option.bind (ab_gR st l0 11 43) fun x1 =>
    Option.bind (ab_wB st x1 (((14 : Int32) * l5) + l6) l7) fun s2 =>
    L_X11_isWild_26 l0 l1 l2 l3 l4 l5 (l6 + (1 : Int32)) s2 := (lm_eq one_X11_isWild 190 _ _ _).trans rfl
def c_X11_close : List (Nat × ab_I) := [(0, .iconst 1, 1, (.int (1)), 0),
  (1, .istore_n 2, 1, .null, 2),
  (2, .iload_n 2, 1, .null, 2),
  (3, .ifCond .eq (67), 3, .null, 70),
  (6, .iconst 0, 1, (.int (0)), 0),
  (7, .istore_n 2, 1, .null, 2),
  (8, .iconst 0, 1, (.int (0)), 0),
  (9, .istore_n 3, 1, .null, 3),
  (10, .iload_n 3, 1, .null, 3),
  (11, .aload_n 0, 1, .null, 0),
  (12, .getfield 251, 3, .null, 0),
  (15, .if_icmp .ge (52), 3, .null, 67),
  (18, .aload_n 0, 1, .null, 0),
  (19, .getfield 84, 3, .null, 0),
  (22, .iload_n 3, 1, .null, 3),
  (23, .iaload, 1, .null, 0),
  (24, .iconst (-1), 1, (.int (-1)), 0),
  (25, .if_icmp .ne (36), 3, .null, 61),
  (28, .aload_n 1, 1, .null, 1),
  (29, .aload_n 0, 1, .null, 0),
  (30, .getfield 78, 3, .null, 0),
  (33, .iload_n 3, 1, .null, 3),
  (34, .iaload, 1, .null, 0),
  (35, .baload, 1, .null, 0),
  (36, .ifCond .eq (25), 3, .null, 61),
  (39, .aload_n 1, 1, .null, 1),
  (40, .aload_n 0, 1, .null, 0),
  (41, .getfield 81, 3, .null, 0),
  (44, .iload_n 3, 1, .null, 3),
  (45, .iaload, 1, .null, 0),
  (46, .baload, 1, .null, 0),
  (47, .ifCond .ne (14), 3, .null, 61),
  (50, .aload_n 1, 1, .null, 1),
  (51, .aload_n 0, 1, .null, 0),
  (52, .getfield 81, 3, .null, 0),
  (55, .iload_n 3, 1, .null, 3),
  (56, .iaload, 1, .null, 0),
  (57, .iconst 1, 1, (.int (1)), 0),
  (58, .bastore, 1, .null, 0),
  (59, .iconst 1, 1, (.int (1)), 0),
  (60, .istore_n 2, 1, .null, 2),
  (61, .iinc 3 (1), 3, (.int (1)), 3),
  (64, .goto (-54), 3, .null, 10),
  (67, .goto (-65), 3, .null, 2),
  (70, .return_, 1, .null, 0)]
noncomputable def m_X11_close : ab_M := (c_X11_close, [(0, [0, 1]), (2, [0, 1, 2]), (10, [0, 1, 2, 3]), (61, [0, 1, 2, 3])],
  [(78, 11, 26, 3), (81, 11, 27, 3), (84, 11, 28, 3), (251, 11, 29, 0)],
  [],
  [],
  [], 4, 0)
theorem one_X11_close : ab_oneM m_X11_close := fun _ h => absurd h List.not_mem_nil
noncomputable def f_X11_close (l0 : Nat) (l1 : Nat) (st : ab_S) : Option ab_R := ab_rc st l0 11 (ab_lim m_X11_close 0 [.ref l0, .ref l1] [] st)
noncomputable def L_X11_close_2 (l0 : Nat) (l1 : Nat) (l2 : Int32) (st : ab_S) : Option ab_R := ab_lim m_X11_close 2 [.ref l0, .ref l1, .int l2] [] st
noncomputable def L_X11_close_10 (l0 : Nat) (l1 : Nat) (l2 : Int32) (l3 : Int32) (st : ab_S) : Option ab_R := ab_lim m_X11_close 10 [.ref l0, .ref l1, .int l2, .int l3] [] st
noncomputable def L_X11_close_61 (l0 : Nat) (l1 : Nat) (l2 : Int32) (l3 : Int32) (st : ab_S) : Option ab_R := ab_lim m_X11_close 61 [.ref l0, .ref l1, .int l2, .int l3] [] st
noncomputable def g_X11_close : ab_G := fun as st k => match as with
  | [.ref a0, .ref a1] => ab_rv (f_X11_close a0 a1 st) (fun t => k [] t)
  | _ => none
theorem o_X11_close : ab_one g_X11_close := by
  intro as st k r h
  unfold g_X11_close at h ⊢
  split at h
  · exact one_rv h
  · cases h
set_option maxRecDepth 100000 in
theorem e_X11_close_0 (l0 : Nat) (l1 : Nat) (st : ab_S) : f_X11_close l0 l1 st =
    ab_rc st l0 11 (
    L_X11_close_2 l0 l1 (1 : Int32) st) := congrArg (ab_rc st l0 11) ((lm_eq one_X11_close 0 _ _ _).trans rfl)
set_option maxRecDepth 100000 in
theorem e_X11_close_2 (l0 : Nat) (l1 : Nat) (l2 : Int32) (st : ab_S) : L_X11_close_2 l0 l1 l2 st =
    if l2 = 0
    then some (none, st)
    else L_X11_close_10 l0 l1 (0 : Int32) (0 : Int32) st := (lm_eq one_X11_close 2 _ _ _).trans rfl
set_option maxRecDepth 100000 in
theorem e_X11_close_10 (l0 : Nat) (l1 : Nat) (l2 : Int32) (l3 : Int32) (st : ab_S) : L_X11_close_10 l0 l1 l2 l3 st =
    Option.bind (ab_gI st l0 11 29) fun x1 =>
    if x1 ≤ l3
    then L_X11_close_2 l0 l1 l2 st
    else Option.bind (ab_gR st l0 11 28) fun x2 =>
      Option.bind (ab_rI st x2 l3) fun x3 =>
      if x3 = (-1 : Int32)
      then Option.bind (ab_gR st l0 11 26) fun x4 =>
        Option.bind (ab_rI st x4 l3) fun x5 =>
        Option.bind (ab_rB st l1 x5) fun x6 =>
        if x6 = 0
        then L_X11_close_61 l0 l1 l2 l3 st
        else Option.bind (ab_gR st l0 11 27) fun x7 =>
          Option.bind (ab_rI st x7 l3) fun x8 =>
          Option.bind (ab_rB st l1 x8) fun x9 =>
          if x9 = 0
          then Option.bind (ab_gR st l0 11 27) fun x10 =>
            Option.bind (ab_rI st x10 l3) fun x11 =>
            Option.bind (ab_wB st l1 x11 (1 : Int32)) fun s12 =>
            L_X11_close_61 l0 l1 (1 : Int32) l3 s12
          else L_X11_close_61 l0 l1 l2 l3 st
      else L_X11_close_61 l0 l1 l2 l3 st := (lm_eq one_X11_close 10 _ _ _).trans rfl
set_option maxRecDepth 100000 in
theorem e_X11_close_61 (l0 : Nat) (l1 : Nat) (l2 : Int32) (l3 : Int32) (st : ab_S) : L_X11_close_61 l0 l1 l2 l3 st =
    L_X11_close_10 l0 l1 l2 (l3 + (1 : Int32)) st := (lm_eq one_X11_close 61 _ _ _).trans rfl
def c_X11_isPattern : List (Nat × ab_I) := [(0, .iconst 0, 1, (.int (0)), 0),
  (1, .istore_n 3, 1, .null, 3),
  (2, .iload_n 3, 1, .null, 3),
  (3, .aload_n 0, 1, .null, 0),
  (4, .getfield 254, 3, .null, 0),
  (7, .if_icmp .ge (24), 3, .null, 31),
  (10, .aload_n 0, 1, .null, 0),
  (11, .getfield 102, 3, .null, 0),
  (14, .iload_n 3, 1, .null, 3),
  (15, .iload_n 3, 1, .null, 3),
  (16, .ifCond .ne (7), 3, .null, 23),
  (19, .iconst 1, 1, (.int (1)), 0),
  (20, .goto (4), 3, .null, 24),
  (23, .iconst 0, 1, (.int (0)), 0),
  (24, .bastore, 1, .null, 0),
  (25, .iinc 3 (1), 3, (.int (1)), 3),
  (28, .goto (-26), 3, .null, 2),
  (31, .aload_n 0, 1, .null, 0),
  (32, .aload_n 0, 1, .null, 0),
  (33, .getfield 102, 3, .null, 0),
  (36, .invokevirtual 313, 3, .null, 0),
  (39, .iconst 0, 1, (.int (0)), 0),
  (40, .istore_n 3, 1, .null, 3),
  (41, .iload_n 3, 1, .null, 3),
  (42, .aload_n 0, 1, .null, 0),
  (43, .getfield 16, 3, .null, 0),
  (46, .sipush (200), 3, (.int (200)), 0),
  (49, .iload_n 1, 1, .null, 1),
  (50, .imul, 1, .null, 0),
  (51, .iload_n 2, 1, .null, 2),
  (52, .iadd, 1, .null, 0),
  (53, .iaload, 1, .null, 0),
  (54, .if_icmp .ge (159), 3, .null, 213),
  (57, .iconst 0, 1, (.int (0)), 0),
  (58, .istore 4, 2, .null, 4),
  (60, .iload 4, 2, .null, 4),
  (62, .aload_n 0, 1, .null, 0),
  (63, .getfield 254, 3, .null, 0),
  (66, .if_icmp .ge (17), 3, .null, 83),
  (69, .aload_n 0, 1, .null, 0),
  (70, .getfield 105, 3, .null, 0),
  (73, .iload 4, 2, .null, 4),
  (75, .iconst 0, 1, (.int (0)), 0),
  (76, .bastore, 1, .null, 0),
  (77, .iinc 4 (1), 3, (.int (1)), 4),
  (80, .goto (-20), 3, .null, 60),
  (83, .iconst 0, 1, (.int (0)), 0),
  (84, .istore 4, 2, .null, 4),
  (86, .iload 4, 2, .null, 4),
  (88, .aload_n 0, 1, .null, 0),
  (89, .getfield 251, 3, .null, 0),
  (92, .if_icmp .ge (75), 3, .null, 167),
  (95, .aload_n 0, 1, .null, 0),
  (96, .getfield 84, 3, .null, 0),
  (99, .iload 4, 2, .null, 4),
  (101, .iaload, 1, .null, 0),
  (102, .iconst (-1), 1, (.int (-1)), 0),
  (103, .if_icmp .eq (58), 3, .null, 161),
  (106, .aload_n 0, 1, .null, 0),
  (107, .getfield 102, 3, .null, 0),
  (110, .aload_n 0, 1, .null, 0),
  (111, .getfield 78, 3, .null, 0),
  (114, .iload 4, 2, .null, 4),
  (116, .iaload, 1, .null, 0),
  (117, .baload, 1, .null, 0),
  (118, .ifCond .eq (43), 3, .null, 161),
  (121, .aload_n 0, 1, .null, 0),
  (122, .getfield 87, 3, .null, 0),
  (125, .sipush (256), 3, (.int (256)), 0),
  (128, .aload_n 0, 1, .null, 0),
  (129, .getfield 84, 3, .null, 0),
  (132, .iload 4, 2, .null, 4),
  (134, .iaload, 1, .null, 0),
  (135, .imul, 1, .null, 0),
  (136, .aload_n 0, 1, .null, 0),
  (137, .iload_n 1, 1, .null, 1),
  (138, .iload_n 2, 1, .null, 2),
  (139, .iload_n 3, 1, .null, 3),
  (140, .invokevirtual 153, 3, .null, 0),
  (143, .iadd, 1, .null, 0),
  (144, .baload, 1, .null, 0),
  (145, .ifCond .eq (16), 3, .null, 161),
  (148, .aload_n 0, 1, .null, 0),
  (149, .getfield 105, 3, .null, 0),
  (152, .aload_n 0, 1, .null, 0),
  (153, .getfield 81, 3, .null, 0),
  (156, .iload 4, 2, .null, 4),
  (158, .iaload, 1, .null, 0),
  (159, .iconst 1, 1, (.int (1)), 0),
  (160, .bastore, 1, .null, 0),
  (161, .iinc 4 (1), 3, (.int (1)), 4),
  (164, .goto (-78), 3, .null, 86),
  (167, .aload_n 0, 1, .null, 0),
  (168, .aload_n 0, 1, .null, 0),
  (169, .getfield 105, 3, .null, 0),
  (172, .invokevirtual 313, 3, .null, 0),
  (175, .iconst 0, 1, (.int (0)), 0),
  (176, .istore 4, 2, .null, 4),
  (178, .iload 4, 2, .null, 4),
  (180, .aload_n 0, 1, .null, 0),
  (181, .getfield 254, 3, .null, 0),
  (184, .if_icmp .ge (23), 3, .null, 207),
  (187, .aload_n 0, 1, .null, 0),
  (188, .getfield 102, 3, .null, 0),
  (191, .iload 4, 2, .null, 4),
  (193, .aload_n 0, 1, .null, 0),
  (194, .getfield 105, 3, .null, 0),
  (197, .iload 4, 2, .null, 4),
  (199, .baload, 1, .null, 0),
  (200, .bastore, 1, .null, 0),
  (201, .iinc 4 (1), 3, (.int (1)), 4),
  (204, .goto (-26), 3, .null, 178),
  (207, .iinc 3 (1), 3, (.int (1)), 3),
  (210, .goto (-169), 3, .null, 41),
  (213, .aload_n 0, 1, .null, 0),
  (214, .getfield 102, 3, .null, 0),
  (217, .aload_n 0, 1, .null, 0),
  (218, .getfield 292, 3, .null, 0),
  (221, .baload, 1, .null, 0),
  (222, .ireturn, 1, .null, 0)]
noncomputable def m_X11_isPattern : ab_M := (c_X11_isPattern, [(0, [0, 1, 2]), (2, [0, 1, 2, 3]), (24, [0, 1, 2, 3]), (41, [0, 1, 2, 3]), (60, [0, 1, 2, 3, 4]), (86, [0, 1, 2, 3, 4]), (161, [0, 1, 2, 3, 4]), (178, [0, 1, 2, 3, 4])],
  [(16, 11, 3, 3), (78, 11, 26, 3), (81, 11, 27, 3), (84, 11, 28, 3), (87, 11, 31, 3), (102, 11, 41, 3), (105, 11, 42, 3), (251, 11, 29, 0), (254, 11, 30, 0), (292, 11, 36, 0)],
  [],
  [(153, 1, 4, g_X11_letter), (313, 1, 2, g_X11_close)],
  [], 5, 2)
theorem one_X11_isPattern : ab_oneM m_X11_isPattern := List.forall_mem_cons.mpr ⟨o_X11_letter, List.forall_mem_cons.mpr ⟨o_X11_close, fun _ h => absurd h List.not_mem_nil⟩⟩
noncomputable def f_X11_isPattern (l0 : Nat) (l1 : Int32) (l2 : Int32) (st : ab_S) : Option ab_R := ab_rc st l0 11 (ab_lim m_X11_isPattern 0 [.ref l0, .int l1, .int l2] [] st)
noncomputable def L_X11_isPattern_2 (l0 : Nat) (l1 : Int32) (l2 : Int32) (l3 : Int32) (st : ab_S) : Option ab_R := ab_lim m_X11_isPattern 2 [.ref l0, .int l1, .int l2, .int l3] [] st
noncomputable def L_X11_isPattern_24 (l0 : Nat) (l1 : Int32) (l2 : Int32) (l3 : Int32) (t0 : Nat) (t1 : Int32) (t2 : Int32) (st : ab_S) : Option ab_R := ab_lim m_X11_isPattern 24 [.ref l0, .int l1, .int l2, .int l3] [.int t2, .int t1, .ref t0] st
noncomputable def L_X11_isPattern_41 (l0 : Nat) (l1 : Int32) (l2 : Int32) (l3 : Int32) (st : ab_S) : Option ab_R := ab_lim m_X11_isPattern 41 [.ref l0, .int l1, .int l2, .int l3] [] st
noncomputable def L_X11_isPattern_60 (l0 : Nat) (l1 : Int32) (l2 : Int32) (l3 : Int32) (l4 : Int32) (st : ab_S) : Option ab_R := ab_lim m_X11_isPattern 60 [.ref l0, .int l1, .int l2, .int l3, .int l4] [] st
noncomputable def L_X11_isPattern_86 (l0 : Nat) (l1 : Int32) (l2 : Int32) (l3 : Int32) (l4 : Int32) (st : ab_S) : Option ab_R := ab_lim m_X11_isPattern 86 [.ref l0, .int l1, .int l2, .int l3, .int l4] [] st
noncomputable def L_X11_isPattern_161 (l0 : Nat) (l1 : Int32) (l2 : Int32) (l3 : Int32) (l4 : Int32) (st : ab_S) : Option ab_R := ab_lim m_X11_isPattern 161 [.ref l0, .int l1, .int l2, .int l3, .int l4] [] st
noncomputable def L_X11_isPattern_178 (l0 : Nat) (l1 : Int32) (l2 : Int32) (l3 : Int32) (l4 : Int32) (st : ab_S) : Option ab_R := ab_lim m_X11_isPattern 178 [.ref l0, .int l1, .int l2, .int l3, .int l4] [] st
noncomputable def g_X11_isPattern : ab_G := fun as st k => match as with
  | [.ref a0, .int a1, .int a2] => ab_ri (f_X11_isPattern a0 a1 a2 st) (fun x t => k [.int x] t)
  | _ => none
theorem o_X11_isPattern : ab_one g_X11_isPattern := by
  intro as st k r h
  unfold g_X11_isPattern at h ⊢
  split at h
  · exact one_ri h
  · cases h
set_option maxRecDepth 100000 in
theorem e_X11_isPattern_0 (l0 : Nat) (l1 : Int32) (l2 : Int32) (st : ab_S) : f_X11_isPattern l0 l1 l2 st =
    ab_rc st l0 11 (
    L_X11_isPattern_2 l0 l1 l2 (0 : Int32) st) := congrArg (ab_rc st l0 11) ((lm_eq one_X11_isPattern 0 _ _ _).trans rfl)
set_option maxRecDepth 100000 in
theorem e_X11_isPattern_2 (l0 : Nat) (l1 : Int32) (l2 : Int32) (l3 : Int32) (st : ab_S) : L_X11_isPattern_2 l0 l1 l2 l3 st =
    Option.bind (ab_gI st l0 11 30) fun x1 =>
    if x1 ≤ l3
    then Option.bind (ab_gR st l0 11 41) fun x2 =>
      ab_rv (f_X11_close l0 x2 st) fun s3 =>
      L_X11_isPattern_41 l0 l1 l2 (0 : Int32) s3
    else Option.bind (ab_gR st l0 11 41) fun x4 =>
      if l3 = 0
      then L_X11_isPattern_24 l0 l1 l2 l3 x4 l3 (1 : Int32) st
      else L_X11_isPattern_24 l0 l1 l2 l3 x4 l3 (0 : Int32) st := (lm_eq one_X11_isPattern 2 _ _ _).trans rfl
set_option maxRecDepth 100000 in
theorem e_X11_isPattern_24 (l0 : Nat) (l1 : Int32) (l2 : Int32) (l3 : Int32) (t0 : Nat) (t1 : Int32) (t2 : Int32) (st : ab_S) : L_X11_isPattern_24 l0 l1 l2 l3 t0 t1 t2 st =
    Option.bind (ab_wB st t0 t1 t2) fun s1 =>
    L_X11_isPattern_2 l0 l1 l2 (l3 + (1 : Int32)) s1 := (lm_eq one_X11_isPattern 24 _ _ _).trans rfl
set_option maxRecDepth 100000 in
theorem e_X11_isPattern_41 (l0 : Nat) (l1 : Int32) (l2 : Int32) (l3 : Int32) (st : ab_S) : L_X11_isPattern_41 l0 l1 l2 l3 st =
    Option.bind (ab_gR st l0 11 3) fun x1 =>
    Option.bind (ab_rI st x1 (((200 : Int32) * l1) + l2)) fun x2 =>
    if x2 ≤ l3
    then Option.bind (ab_gR st l0 11 41) fun x3 =>
      Option.bind (ab_gI st l0 11 36) fun x4 =>
      Option.bind (ab_rB st x3 x4) fun x5 =>
      ab_z x5 (some (some (.int x5), st))
    else L_X11_isPattern_60 l0 l1 l2 l3 (0 : Int32) st := (lm_eq one_X11_isPattern 41 _ _ _).trans rfl
set_option maxRecDepth 100000 in
theorem e_X11_isPattern_60 (l0 : Nat) (l1 : Int32) (l2 : Int32) (l3 : Int32) (l4 : Int32) (st : ab_S) : L_X11_isPattern_60 l0 l1 l2 l3 l4 st =
    Option.bind (ab_gI st l0 11 30) fun x1 =>
    if x1 ≤ l4
    then L_X11_isPattern_86 l0 l1 l2 l3 (0 : Int32) st
    else Option.bind (ab_gR st l0 11 42) fun x2 =>
      Option.bind (ab_wB st x2 l4 (0 : Int32)) fun s3 =>
      L_X11_isPattern_60 l0 l1 l2 l3 (l4 + (1 : Int32)) s3 := (lm_eq one_X11_isPattern 60 _ _ _).trans rfl
set_option maxRecDepth 100000 in
theorem e_X11_isPattern_86 (l0 : Nat) (l1 : Int32) (l2 : Int32) (l3 : Int32) (l4 : Int32) (st : ab_S) : L_X11_isPattern_86 l0 l1 l2 l3 l4 st =
    Option.bind (ab_gI st l0 11 29) fun x1 =>
    if x1 ≤ l4
    then Option.bind (ab_gR st l0 11 42) fun x2 =>
      ab_rv (f_X11_close l0 x2 st) fun s3 =>
      L_X11_isPattern_178 l0 l1 l2 l3 (0 : Int32) s3
    else Option.bind (ab_gR st l0 11 28) fun x4 =>
      Option.bind (ab_rI st x4 l4) fun x5 =>
      if x5 = (-1 : Int32)
      then L_X11_isPattern_161 l0 l1 l2 l3 l4 st
      else Option.bind (ab_gR st l0 11 41) fun x6 =>
        Option.bind (ab_gR st l0 11 26) fun x7 =>
        Option.bind (ab_rI st x7 l4) fun x8 =>
        Option.bind (ab_rB st x6 x8) fun x9 =>
        if x9 = 0
        then L_X11_isPattern_161 l0 l1 l2 l3 l4 st
        else Option.bind (ab_gR st l0 11 31) fun x10 =>
          Option.bind (ab_gR st l0 11 28) fun x11 =>
          Option.bind (ab_rI st x11 l4) fun x12 =>
          ab_ri (f_X11_letter l0 l1 l2 l3 st) fun x14 s13 =>
          Option.bind (ab_rB s13 x10 (((256 : Int32) * x12) + x14)) fun x15 =>
          if x15 = 0
          then L_X11_isPattern_161 l0 l1 l2 l3 l4 s13
          else Option.bind (ab_gR s13 l0 11 42) fun x16 =>
            Option.bind (ab_gR s13 l0 11 27) fun x17 =>
            Option.bind (ab_rI s13 x17 l4) fun x18 =>
            Option.bind (ab_wB s13 x16 x18 (1 : Int32)) fun s19 =>
            L_X11_isPattern_161 l0 l1 l2 l3 l4 s19 := (lm_eq one_X11_isPattern 86 _ _ _).trans rfl
set_option maxRecDepth 100000 in
theorem e_X11_isPattern_161 (l0 : Nat) (l1 : Int32) (l2 : Int32) (l3 : Int32) (l4 : Int32) (st : ab_S) : L_X11_isPattern_161 l0 l1 l2 l3 l4 st =
    L_X11_isPattern_86 l0 l1 l2 l3 (l4 + (1 : Int32)) st := (lm_eq one_X11_isPattern 161 _ _ _).trans rfl
set_option maxRecDepth 100000 in
theorem e_X11_isPattern_178 (l0 : Nat) (l1 : Int32) (l2 : Int32) (l3 : Int32) (l4 : Int32) (st : ab_S) : L_X11_isPattern_178 l0 l1 l2 l3 l4 st =
    Option.bind (ab_gI st l0 11 30) fun x1 =>
    if x1 ≤ l4
    then L_X11_isPattern_41 l0 l1 l2 (l3 + (1 : Int32)) st
    else Option.bind (ab_gR st l0 11 41) fun x2 =>
      Option.bind (ab_gR st l0 11 42) fun x3 =>
      Option.bind (ab_rB st x3 l4) fun x4 =>
      Option.bind (ab_wB st x2 l4 x4) fun s5 =>
      L_X11_isPattern_178 l0 l1 l2 l3 (l4 + (1 : Int32)) s5 := (lm_eq one_X11_isPattern 178 _ _ _).trans rfl
def c_X11_distance : List (Nat × ab_I) := [(0, .aload_n 0, 1, .null, 0),
  (1, .getfield 16, 3, .null, 0),
  (4, .sipush (200), 3, (.int (200)), 0),
  (7, .iload_n 1, 1, .null, 1),
  (8, .imul, 1, .null, 0),
  (9, .iload_n 2, 1, .null, 2),
  (10, .iadd, 1, .null, 0),
  (11, .iaload, 1, .null, 0),
  (12, .istore 4, 2, .null, 4),
  (14, .iconst 0, 1, (.int (0)), 0),
  (15, .istore 5, 2, .null, 5),
  (17, .iload 5, 2, .null, 5),
  (19, .iload_n 3, 1, .null, 3),
  (20, .if_icmp .gt (274), 3, .null, 294),
  (23, .iconst 0, 1, (.int (0)), 0),
  (24, .istore 6, 2, .null, 6),
  (26, .iload 6, 2, .null, 6),
  (28, .iload 4, 2, .null, 4),
  (30, .if_icmp .gt (258), 3, .null, 288),
  (33, .iload 5, 2, .null, 5),
  (35, .ifCond .ne (8), 3, .null, 43),
  (38, .iload 6, 2, .null, 6),
  (40, .goto (51), 3, .null, 91),
  (43, .iload 6, 2, .null, 6),
  (45, .ifCond .ne (8), 3, .null, 53),
  (48, .iload 5, 2, .null, 5),
  (50, .goto (41), 3, .null, 91),
  (53, .aload_n 0, 1, .null, 0),
  (54, .getfield 111, 3, .null, 0),
  (57, .bipush (14), 2, (.int (14)), 0),
  (59, .iload 5, 2, .null, 5),
  (61, .iconst 1, 1, (.int (1)), 0),
  (62, .isub, 1, .null, 0),
  (63, .imul, 1, .null, 0),
  (64, .iload 6, 2, .null, 6),
  (66, .iadd, 1, .null, 0),
  (67, .iaload, 1, .null, 0),
  (68, .i2l, 1, .null, 0),
  (69, .aload_n 0, 1, .null, 0),
  (70, .getfield 111, 3, .null, 0),
  (73, .bipush (14), 2, (.int (14)), 0),
  (75, .iload 5, 2, .null, 5),
  (77, .imul, 1, .null, 0),
  (78, .iload 6, 2, .null, 6),
  (80, .iadd, 1, .null, 0),
  (81, .iconst 1, 1, (.int (1)), 0),
  (82, .isub, 1, .null, 0),
  (83, .iaload, 1, .null, 0),
  (84, .i2l, 1, .null, 0),
  (85, .invokestatic 198, 3, .null, 0),
  (88, .l2i, 1, .null, 0),
  (89, .iconst 1, 1, (.int (1)), 0),
  (90, .iadd, 1, .null, 0),
  (91, .istore 7, 2, .null, 7),
  (93, .iload 5, 2, .null, 5),
  (95, .ifCond .le (172), 3, .null, 267),
  (98, .iload 6, 2, .null, 6),
  (100, .ifCond .le (167), 3, .null, 267),
  (103, .aload_n 0, 1, .null, 0),
  (104, .getfield 7, 3, .null, 0),
  (107, .iload 5, 2, .null, 5),
  (109, .iconst 1, 1, (.int (1)), 0),
  (110, .isub, 1, .null, 0),
  (111, .baload, 1, .null, 0),
  (112, .sipush (255), 3, (.int (255)), 0),
  (115, .iand, 1, .null, 0),
  (116, .aload_n 0, 1, .null, 0),
  (117, .iload_n 1, 1, .null, 1),
  (118, .iload_n 2, 1, .null, 2),
  (119, .iload 6, 2, .null, 6),
  (121, .iconst 1, 1, (.int (1)), 0),
  (122, .isub, 1, .null, 0),
  (123, .invokevirtual 153, 3, .null, 0),
  (126, .if_icmp .ne (7), 3, .null, 133),
  (129, .iconst 1, 1, (.int (1)), 0),
  (130, .goto (4), 3, .null, 134),
  (133, .iconst 0, 1, (.int (0)), 0),
  (134, .istore 8, 2, .null, 8),
  (136, .iload 7, 2, .null, 7),
  (138, .i2l, 1, .null, 0),
  (139, .aload_n 0, 1, .null, 0),
  (140, .getfield 111, 3, .null, 0),
  (143, .bipush (14), 2, (.int (14)), 0),
  (145, .iload 5, 2, .null, 5),
  (147, .iconst 1, 1, (.int (1)), 0),
  (148, .isub, 1, .null, 0),
  (149, .imul, 1, .null, 0),
  (150, .iload 6, 2, .null, 6),
  (152, .iadd, 1, .null, 0),
  (153, .iconst 1, 1, (.int (1)), 0),
  (154, .isub, 1, .null, 0),
  (155, .iaload, 1, .null, 0),
  (156, .iload 8, 2, .null, 8),
  (158, .ifCond .eq (7), 3, .null, 165),
  (161, .iconst 0, 1, (.int (0)), 0),
  (162, .goto (4), 3, .null, 166),
  (165, .iconst 1, 1, (.int (1)), 0),
  (166, .iadd, 1, .null, 0),
  (167, .i2l, 1, .null, 0),
  (168, .invokestatic 198, 3, .null, 0),
  (171, .l2i, 1, .null, 0),
  (172, .istore 7, 2, .null, 7),
  (174, .iload 5, 2, .null, 5),
  (176, .iconst 1, 1, (.int (1)), 0),
  (177, .if_icmp .le (90), 3, .null, 267),
  (180, .iload 6, 2, .null, 6),
  (182, .iconst 1, 1, (.int (1)), 0),
  (183, .if_icmp .le (84), 3, .null, 267),
  (186, .aload_n 0, 1, .null, 0),
  (187, .getfield 7, 3, .null, 0),
  (190, .iload 5, 2, .null, 5),
  (192, .iconst 1, 1, (.int (1)), 0),
  (193, .isub, 1, .null, 0),
  (194, .baload, 1, .null, 0),
  (195, .sipush (255), 3, (.int (255)), 0),
  (198, .iand, 1, .null, 0),
  (199, .aload_n 0, 1, .null, 0),
  (200, .iload_n 1, 1, .null, 1),
  (201, .iload_n 2, 1, .null, 2),
  (202, .iload 6, 2, .null, 6),
  (204, .iconst 2, 1, (.int (2)), 0),
  (205, .isub, 1, .null, 0),
  (206, .invokevirtual 153, 3, .null, 0),
  (209, .if_icmp .ne (58), 3, .null, 267),
  (212, .aload_n 0, 1, .null, 0),
  (213, .getfield 7, 3, .null, 0),
  (216, .iload 5, 2, .null, 5),
  (218, .iconst 2, 1, (.int (2)), 0),
  (219, .isub, 1, .null, 0),
  (220, .baload, 1, .null, 0),
  (221, .sipush (255), 3, (.int (255)), 0),
  (224, .iand, 1, .null, 0),
  (225, .aload_n 0, 1, .null, 0),
  (226, .iload_n 1, 1, .null, 1),
  (227, .iload_n 2, 1, .null, 2),
  (228, .iload 6, 2, .null, 6),
  (230, .iconst 1, 1, (.int (1)), 0),
  (231, .isub, 1, .null, 0),
  (232, .invokevirtual 153, 3, .null, 0),
  (235, .if_icmp .ne (32), 3, .null, 267),
  (238, .iload 7, 2, .null, 7),
  (240, .i2l, 1, .null, 0),
  (241, .aload_n 0, 1, .null, 0),
  (242, .getfield 111, 3, .null, 0),
  (245, .bipush (14), 2, (.int (14)), 0),
  (247, .iload 5, 2, .null, 5),
  (249, .iconst 2, 1, (.int (2)), 0),
  (250, .isub, 1, .null, 0),
  (251, .imul, 1, .null, 0),
  (252, .iload 6, 2, .null, 6),
  (254, .iadd, 1, .null, 0),
  (255, .iconst 2, 1, (.int (2)), 0),
  (256, .isub, 1, .null, 0),
  (257, .iaload, 1, .null, 0),
  (258, .iconst 1, 1, (.int (1)), 0),
  (259, .iadd, 1, .null, 0),
  (260, .i2l, 1, .null, 0),
  (261, .invokestatic 198, 3, .null, 0),
  (264, .l2i, 1, .null, 0),
  (265, .istore 7, 2, .null, 7),
  (267, .aload_n 0, 1, .null, 0),
  (268, .getfield 111, 3, .null, 0),
  (271, .bipush (14), 2, (.int (14)), 0),
  (273, .iload 5, 2, .null, 5),
  (275, .imul, 1, .null, 0),
  (276, .iload 6, 2, .null, 6),
  (278, .iadd, 1, .null, 0),
  (279, .iload 7, 2, .null, 7),
  (281, .iastore, 1, .null, 0),
  (282, .iinc 6 (1), 3, (.int (1)), 6),
  (285, .goto (-259), 3, .null, 26),
  (288, .iinc 5 (1), 3, (.int (1)), 5),
  (291, .goto (-274), 3, .null, 17),
  (294, .aload_n 0, 1, .null, 0),
  (295, .getfield 111, 3, .null, 0),
  (298, .bipush (14), 2, (.int (14)), 0),
  (300, .iload_n 3, 1, .null, 3),
  (301, .imul, 1, .null, 0),
  (302, .iload 4, 2, .null, 4),
  (304, .iadd, 1, .null, 0),
  (305, .iaload, 1, .null, 0),
  (306, .ireturn, 1, .null, 0)]
noncomputable def m_X11_distance : ab_M := (c_X11_distance, [(0, [0, 1, 2, 3]), (17, [0, 1, 2, 3, 4, 5]), (26, [0, 1, 2, 3, 4, 5, 6]), (91, [0, 1, 2, 3, 4, 5, 6]), (134, [0, 1, 2, 3, 4, 5, 6, 7]), (166, [0, 1, 2, 3, 4, 5, 6]), (267, [0, 1, 2, 3, 4, 5, 6, 7])],
  [(7, 11, 0, 3), (16, 11, 3, 3), (111, 11, 44, 3)],
  [],
  [(153, 1, 4, g_X11_letter), (198, 0, 2, g_X11_lesser)],
  [], 9, 1)
theorem one_X11_distance : ab_oneM m_X11_distance := List.forall_mem_cons.mpr ⟨o_X11_letter, List.forall_mem_cons.mpr ⟨o_X11_lesser, fun _ h => absurd h List.not_mem_nil⟩⟩
noncomputable def f_X11_distance (l0 : Nat) (l1 : Int32) (l2 : Int32) (l3 : Int32) (st : ab_S) : Option ab_R := ab_rc st l0 11 (ab_lim m_X11_distance 0 [.ref l0, .int l1, .int l2, .int l3] [] st)
noncomputable def L_X11_distance_17 (l0 : Nat) (l1 : Int32) (l2 : Int32) (l3 : Int32) (l4 : Int32) (l5 : Int32) (st : ab_S) : Option ab_R := ab_lim m_X11_distance 17 [.ref l0, .int l1, .int l2, .int l3, .int l4, .int l5] [] st
noncomputable def L_X11_distance_26 (l0 : Nat) (l1 : Int32) (l2 : Int32) (l3 : Int32) (l4 : Int32) (l5 : Int32) (l6 : Int32) (st : ab_S) : Option ab_R := ab_lim m_X11_distance 26 [.ref l0, .int l1, .int l2, .int l3, .int l4, .int l5, .int l6] [] st
noncomputable def L_X11_distance_91 (l0 : Nat) (l1 : Int32) (l2 : Int32) (l3 : Int32) (l4 : Int32) (l5 : Int32) (l6 : Int32) (t0 : Int32) (st : ab_S) : Option ab_R := ab_lim m_X11_distance 91 [.ref l0, .int l1, .int l2, .int l3, .int l4, .int l5, .int l6] [.int t0] st
noncomputable def L_X11_distance_134 (l0 : Nat) (l1 : Int32) (l2 : Int32) (l3 : Int32) (l4 : Int32) (l5 : Int32) (l6 : Int32) (l7 : Int32) (t0 : Int32) (st : ab_S) : Option ab_R := ab_lim m_X11_distance 134 [.ref l0, .int l1, .int l2, .int l3, .int l4, .int l5, .int l6, .int l7] [.int t0] st
noncomputable def L_X11_distance_166 (l0 : Nat) (l1 : Int32) (l2 : Int32) (l3 : Int32) (l4 : Int32) (l5 : Int32) (l6 : Int32) (t0 : Int64) (t1 : Int32) (t2 : Int32) (st : ab_S) : Option ab_R := ab_lim m_X11_distance 166 [.ref l0, .int l1, .int l2, .int l3, .int l4, .int l5, .int l6] [.int t2, .int t1, .long t0] st
noncomputable def L_X11_distance_267 (l0 : Nat) (l1 : Int32) (l2 : Int32) (l3 : Int32) (l4 : Int32) (l5 : Int32) (l6 : Int32) (l7 : Int32) (st : ab_S) : Option ab_R := ab_lim m_X11_distance 267 [.ref l0, .int l1, .int l2, .int l3, .int l4, .int l5, .int l6, .int l7] [] st
noncomputable def g_X11_distance : ab_G := fun as st k => match as with
  | [.ref a0, .int a1, .int a2, .int a3] => ab_ri (f_X11_distance a0 a1 a2 a3 st) (fun x t => k [.int x] t)
  | _ => none
theorem o_X11_distance : ab_one g_X11_distance := by
  intro as st k r h
  unfold g_X11_distance at h ⊢
  split at h
  · exact one_ri h
  · cases h
set_option maxRecDepth 100000 in
theorem e_X11_distance_0 (l0 : Nat) (l1 : Int32) (l2 : Int32) (l3 : Int32) (st : ab_S) : f_X11_distance l0 l1 l2 l3 st =
    ab_rc st l0 11 (
    Option.bind (ab_gR st l0 11 3) fun x1 =>
    Option.bind (ab_rI st x1 (((200 : Int32) * l1) + l2)) fun x2 =>
    L_X11_distance_17 l0 l1 l2 l3 x2 (0 : Int32) st) := congrArg (ab_rc st l0 11) ((lm_eq one_X11_distance 0 _ _ _).trans rfl)
set_option maxRecDepth 100000 in
theorem e_X11_distance_17 (l0 : Nat) (l1 : Int32) (l2 : Int32) (l3 : Int32) (l4 : Int32) (l5 : Int32) (st : ab_S) : L_X11_distance_17 l0 l1 l2 l3 l4 l5 st =
    if l3 < l5
    then Option.bind (ab_gR st l0 11 44) fun x1 =>
      Option.bind (ab_rI st x1 (((14 : Int32) * l3) + l4)) fun x2 =>
      some (some (.int x2), st)
    else L_X11_distance_26 l0 l1 l2 l3 l4 l5 (0 : Int32) st := (lm_eq one_X11_distance 17 _ _ _).trans rfl
set_option maxRecDepth 100000 in
theorem e_X11_distance_26 (l0 : Nat) (l1 : Int32) (l2 : Int32) (l3 : Int32) (l4 : Int32) (l5 : Int32) (l6 : Int32) (st : ab_S) : L_X11_distance_26 l0 l1 l2 l3 l4 l5 l6 st =
    if l4 < l6
    then L_X11_distance_17 l0 l1 l2 l3 l4 (l5 + (1 : Int32)) st
    else if l5 = 0
      then L_X11_distance_91 l0 l1 l2 l3 l4 l5 l6 l6 st
      else if l6 = 0
        then L_X11_distance_91 l0 l1 l2 l3 l4 l5 l6 l5 st
        else Option.bind (ab_gR st l0 11 44) fun x1 =>
          Option.bind (ab_rI st x1 (((14 : Int32) * (l5 - (1 : Int32))) + l6)) fun x2 =>
          Option.bind (ab_gR st l0 11 44) fun x3 =>
          Option.bind (ab_rI st x3 ((((14 : Int32) * l5) + l6) - (1 : Int32))) fun x4 =>
          ab_rl (f_X11_lesser x2.toInt64 x4.toInt64 st) fun x6 s5 =>
          L_X11_distance_91 l0 l1 l2 l3 l4 l5 l6 (x6.toInt32 + (1 : Int32)) s5 := (lm_eq one_X11_distance 26 _ _ _).trans rfl
set_option maxRecDepth 100000 in
theorem e_X11_distance_91 (l0 : Nat) (l1 : Int32) (l2 : Int32) (l3 : Int32) (l4 : Int32) (l5 : Int32) (l6 : Int32) (t0 : Int32) (st : ab_S) : L_X11_distance_91 l0 l1 l2 l3 l4 l5 l6 t0 st =
    if l5 ≤ 0
    then L_X11_distance_267 l0 l1 l2 l3 l4 l5 l6 t0 st
    else if l6 ≤ 0
      then L_X11_distance_267 l0 l1 l2 l3 l4 l5 l6 t0 st
      else Option.bind (ab_gR st l0 11 0) fun x1 =>
        Option.bind (ab_rB st x1 (l5 - (1 : Int32))) fun x2 =>
        ab_ri (f_X11_letter l0 l1 l2 (l6 - (1 : Int32)) st) fun x4 s3 =>
        if (x2 &&& (255 : Int32)) = x4
        then L_X11_distance_134 l0 l1 l2 l3 l4 l5 l6 t0 (1 : Int32) s3
        else L_X11_distance_134 l0 l1 l2 l3 l4 l5 l6 t0 (0 : Int32) s3 := (lm_eq one_X11_distance 91 _ _ _).trans rfl
set_option maxRecDepth 100000 in
theorem e_X11_distance_134 (l0 : Nat) (l1 : Int32) (l2 : Int32) (l3 : Int32) (l4 : Int32) (l5 : Int32) (l6 : Int32) (l7 : Int32) (t0 : Int32) (st : ab_S) : L_X11_distance_134 l0 l1 l2 l3 l4 l5 l6 l7 t0 st =
    Option.bind (ab_gR st l0 11 44) fun x1 =>
    Option.bind (ab_rI st x1 ((((14 : Int32) * (l5 - (1 : Int32))) + l6) - (1 : Int32))) fun x2 =>
    if t0 = 0
    then L_X11_distance_166 l0 l1 l2 l3 l4 l5 l6 l7.toInt64 x2 (1 : Int32) st
    else L_X11_distance_166 l0 l1 l2 l3 l4 l5 l6 l7.toInt64 x2 (0 : Int32) st := (lm_eq one_X11_distance 134 _ _ _).trans rfl
set_option maxRecDepth 100000 in
theorem e_X11_distance_166 (l0 : Nat) (l1 : Int32) (l2 : Int32) (l3 : Int32) (l4 : Int32) (l5 : Int32) (l6 : Int32) (t0 : Int64) (t1 : Int32) (t2 : Int32) (st : ab_S) : L_X11_distance_166 l0 l1 l2 l3 l4 l5 l6 t0 t1 t2 st =
    ab_rl (f_X11_lesser t0 ((t1 + t2).toInt64) st) fun x2 s1 =>
    if l5 ≤ (1 : Int32)
    then L_X11_distance_267 l0 l1 l2 l3 l4 l5 l6 x2.toInt32 s1
    else if l6 ≤ (1 : Int32)
      then L_X11_distance_267 l0 l1 l2 l3 l4 l5 l6 x2.toInt32 s1
      else Option.bind (ab_gR s1 l0 11 0) fun x3 =>
        Option.bind (ab_rB s1 x3 (l5 - (1 : Int32))) fun x4 =>
        ab_ri (f_X11_letter l0 l1 l2 (l6 - (2 : Int32)) s1) fun x6 s5 =>
        if (x4 &&& (255 : Int32)) = x6
        then Option.bind (ab_gR s5 l0 11 0) fun x7 =>
          Option.bind (ab_rB s5 x7 (l5 - (2 : Int32))) fun x8 =>
          ab_ri (f_X11_letter l0 l1 l2 (l6 - (1 : Int32)) s5) fun x10 s9 =>
          if (x8 &&& (255 : Int32)) = x10
          then Option.bind (ab_gR s9 l0 11 44) fun x11 =>
            Option.bind (ab_rI s9 x11 ((((14 : Int32) * (l5 - (2 : Int32))) + l6) - (2 : Int32))) fun x12 =>
            ab_rl (f_X11_lesser x2.toInt32.toInt64 ((x12 + (1 : Int32)).toInt64) s9) fun x14 s13 =>
            L_X11_distance_267 l0 l1 l2 l3 l4 l5 l6 x14.toInt32 s13
          else L_X11_distance_267 l0 l1 l2 l3 l4 l5 l6 x2.toInt32 s9
        else L_X11_distance_267 l0 l1 l2 l3 l4 l5 l6 x2.toInt32 s5 := (lm_eq one_X11_distance 166 _ _ _).trans rfl
set_option maxRecDepth 100000 in
theorem e_X11_distance_267 (l0 : Nat) (l1 : Int32) (l2 : Int32) (l3 : Int32) (l4 : Int32) (l5 : Int32) (l6 : Int32) (l7 : Int32) (st : ab_S) : L_X11_distance_267 l0 l1 l2 l3 l4 l5 l6 l7 st =
    Option.bind (ab_gR st l0 11 44) fun x1 =>
    Option.bind (ab_wI st x1 (((14 : Int32) * l5) + l6) l7) fun s2 =>
    L_X11_distance_26 l0 l1 l2 l3 l4 l5 (l6 + (1 : Int32)) s2 := (lm_eq one_X11_distance 267 _ _ _).trans rfl
def c_X11_meet : List (Nat × ab_I) := [(0, .iload_n 1, 1, .null, 1),
  (1, .invokestatic 159, 3, .null, 0),
  (4, .ifCond .eq (15), 3, .null, 19),
  (7, .iload_n 2, 1, .null, 2),
  (8, .i2l, 1, .null, 0),
  (9, .lconst 0, 1, (.long (0)), 0),
  (10, .ldc2_w 317, 3, (.long (4)), 0),
  (13, .invokestatic 146, 3, .null, 0),
  (16, .ifCond .ne (6), 3, .null, 22),
  (19, .bipush (-2), 2, (.int (-2)), 0),
  (21, .ireturn, 1, .null, 0),
  (22, .aload_n 0, 1, .null, 0),
  (23, .invokevirtual 165, 3, .null, 0),
  (26, .istore_n 3, 1, .null, 3),
  (27, .aload_n 0, 1, .null, 0),
  (28, .getfield 27, 3, .null, 0),
  (31, .iload_n 1, 1, .null, 1),
  (32, .baload, 1, .null, 0),
  (33, .ifCond .eq (6), 3, .null, 39),
  (36, .bipush (-4), 2, (.int (-4)), 0),
  (38, .ireturn, 1, .null, 0),
  (39, .iload_n 3, 1, .null, 3),
  (40, .iload_n 2, 1, .null, 2),
  (41, .iconst 2, 1, (.int (2)), 0),
  (42, .if_icmp .ge (8), 3, .null, 50),
  (45, .bipush (24), 2, (.int (24)), 0),
  (47, .goto (5), 3, .null, 52),
  (50, .bipush (12), 2, (.int (12)), 0),
  (52, .if_icmp .le (6), 3, .null, 58),
  (55, .bipush (-6), 2, (.int (-6)), 0),
  (57, .ireturn, 1, .null, 0),
  (58, .iload_n 2, 1, .null, 2),
  (59, .iconst 1, 1, (.int (1)), 0),
  (60, .if_icmp .ne (27), 3, .null, 87),
  (63, .aload_n 0, 1, .null, 0),
  (64, .iload_n 3, 1, .null, 3),
  (65, .invokevirtual 319, 3, .null, 0),
  (68, .aload_n 0, 1, .null, 0),
  (69, .aload_n 0, 1, .null, 0),
  (70, .getfield 263, 3, .null, 0),
  (73, .putfield 37, 3, .null, 0),
  (76, .aload_n 0, 1, .null, 0),
  (77, .getfield 263, 3, .null, 0),
  (80, .iconst (-1), 1, (.int (-1)), 0),
  (81, .if_icmp .eq (6), 3, .null, 87),
  (84, .bipush (-7), 2, (.int (-7)), 0),
  (86, .ireturn, 1, .null, 0),
  (87, .aload_n 0, 1, .null, 0),
  (88, .iconst 0, 1, (.int (0)), 0),
  (89, .putfield 242, 3, .null, 0),
  (92, .iconst 0, 1, (.int (0)), 0),
  (93, .istore 4, 2, .null, 4),
  (95, .iload 4, 2, .null, 4),
  (97, .aload_n 0, 1, .null, 0),
  (98, .getfield 24, 3, .null, 0),
  (101, .iload_n 1, 1, .null, 1),
  (102, .iaload, 1, .null, 0),
  (103, .if_icmp .ge (86), 3, .null, 189),
  (106, .iload_n 2, 1, .null, 2),
  (107, .ifCond .ne (14), 3, .null, 121),
  (110, .aload_n 0, 1, .null, 0),
  (111, .iload_n 1, 1, .null, 1),
  (112, .iload 4, 2, .null, 4),
  (114, .iload_n 3, 1, .null, 3),
  (115, .invokevirtual 322, 3, .null, 0),
  (118, .goto (37), 3, .null, 155),
  (121, .iload_n 2, 1, .null, 2),
  (122, .iconst 1, 1, (.int (1)), 0),
  (123, .if_icmp .ne (13), 3, .null, 136),
  (126, .aload_n 0, 1, .null, 0),
  (127, .iload_n 1, 1, .null, 1),
  (128, .iload 4, 2, .null, 4),
  (130, .invokevirtual 325, 3, .null, 0),
  (133, .goto (22), 3, .null, 155),
  (136, .aload_n 0, 1, .null, 0),
  (137, .iload_n 1, 1, .null, 1),
  (138, .iload 4, 2, .null, 4),
  (140, .iload_n 3, 1, .null, 3),
  (141, .invokevirtual 328, 3, .null, 0),
  (144, .iload_n 2, 1, .null, 2),
  (145, .iconst 2, 1, (.int (2)), 0),
  (146, .isub, 1, .null, 0),
  (147, .if_icmp .gt (7), 3, .null, 154),
  (150, .iconst 1, 1, (.int (1)), 0),
  (151, .goto (4), 3, .null, 155),
  (154, .iconst 0, 1, (.int (0)), 0),
  (155, .istore 5, 2, .null, 5),
  (157, .iload 5, 2, .null, 5),
  (159, .ifCond .eq (24), 3, .null, 183),
  (162, .aload_n 0, 1, .null, 0),
  (163, .getfield 34, 3, .null, 0),
  (166, .aload_n 0, 1, .null, 0),
  (167, .getfield 242, 3, .null, 0),
  (170, .iload 4, 2, .null, 4),
  (172, .iastore, 1, .null, 0),
  (173, .aload_n 0, 1, .null, 0),
  (174, .dup, 1, .null, 0),
  (175, .getfield 242, 3, .null, 0),
  (178, .iconst 1, 1, (.int (1)), 0),
  (179, .iadd, 1, .null, 0),
  (180, .putfield 242, 3, .null, 0),
  (183, .iinc 4 (1), 3, (.int (1)), 4),
  (186, .goto (-91), 3, .null, 95),
  (189, .aload_n 0, 1, .null, 0),
  (190, .getfield 242, 3, .null, 0),
  (193, .ireturn, 1, .null, 0)]
noncomputable def m_X11_meet : ab_M := (c_X11_meet, [(0, [0, 1, 2]), (52, [0, 1, 2, 3]), (87, [0, 1, 2, 3]), (95, [0, 1, 2, 3, 4]), (155, [0, 1, 2, 3, 4]), (183, [0, 1, 2, 3, 4])],
  [(24, 11, 5, 3), (27, 11, 6, 3), (34, 11, 8, 3), (37, 11, 10, 0), (242, 11, 9, 0), (263, 11, 35, 0)],
  [],
  [(146, 0, 3, g_X11_isIn), (159, 0, 1, g_X11_isDictionary), (165, 1, 1, g_X11_forget), (319, 1, 2, g_X11_parsePattern), (322, 1, 4, g_X11_isWild), (325, 1, 3, g_X11_isPattern), (328, 1, 4, g_X11_distance)],
  [], 6, 1)
theorem one_X11_meet : ab_oneM m_X11_meet := List.forall_mem_cons.mpr ⟨o_X11_isIn, List.forall_mem_cons.mpr ⟨o_X11_isDictionary, List.forall_mem_cons.mpr ⟨o_X11_forget, List.forall_mem_cons.mpr ⟨o_X11_parsePattern, List.forall_mem_cons.mpr ⟨o_X11_isWild, List.forall_mem_cons.mpr ⟨o_X11_isPattern, List.forall_mem_cons.mpr ⟨o_X11_distance, fun _ h => absurd h List.not_mem_nil⟩⟩⟩⟩⟩⟩⟩
noncomputable def f_X11_meet (l0 : Nat) (l1 : Int32) (l2 : Int32) (st : ab_S) : Option ab_R := ab_rc st l0 11 (ab_lim m_X11_meet 0 [.ref l0, .int l1, .int l2] [] st)
noncomputable def L_X11_meet_52 (l0 : Nat) (l1 : Int32) (l2 : Int32) (l3 : Int32) (t0 : Int32) (t1 : Int32) (st : ab_S) : Option ab_R := ab_lim m_X11_meet 52 [.ref l0, .int l1, .int l2, .int l3] [.int t1, .int t0] st
noncomputable def L_X11_meet_87 (l0 : Nat) (l1 : Int32) (l2 : Int32) (l3 : Int32) (st : ab_S) : Option ab_R := ab_lim m_X11_meet 87 [.ref l0, .int l1, .int l2, .int l3] [] st
noncomputable def L_X11_meet_95 (l0 : Nat) (l1 : Int32) (l2 : Int32) (l3 : Int32) (l4 : Int32) (st : ab_S) : Option ab_R := ab_lim m_X11_meet 95 [.ref l0, .int l1, .int l2, .int l3, .int l4] [] st
noncomputable def L_X11_meet_155 (l0 : Nat) (l1 : Int32) (l2 : Int32) (l3 : Int32) (l4 : Int32) (t0 : Int32) (st : ab_S) : Option ab_R := ab_lim m_X11_meet 155 [.ref l0, .int l1, .int l2, .int l3, .int l4] [.int t0] st
noncomputable def L_X11_meet_183 (l0 : Nat) (l1 : Int32) (l2 : Int32) (l3 : Int32) (l4 : Int32) (st : ab_S) : Option ab_R := ab_lim m_X11_meet 183 [.ref l0, .int l1, .int l2, .int l3, .int l4] [] st
noncomputable def g_X11_meet : ab_G := fun as st k => match as with
  | [.ref a0, .int a1, .int a2] => ab_ri (f_X11_meet a0 a1 a2 st) (fun x t => k [.int x] t)
  | _ => none
theorem o_X11_meet : ab_one g_X11_meet := by
  intro as st k r h
  unfold g_X11_meet at h ⊢
  split at h
  · exact one_ri h
  · cases h
set_option maxRecDepth 100000 in
theorem e_X11_meet_0 (l0 : Nat) (l1 : Int32) (l2 : Int32) (st : ab_S) : f_X11_meet l0 l1 l2 st =
    ab_rc st l0 11 (
    ab_ri (f_X11_isDictionary l1 st) fun x2 s1 =>
    if x2 = 0
    then some (some (.int (-2 : Int32)), s1)
    else ab_ri (f_X11_isIn l2.toInt64 (0 : Int64) (4 : Int64) s1) fun x4 s3 =>
      if x4 = 0
      then some (some (.int (-2 : Int32)), s3)
      else ab_ri (f_X11_forget l0 s3) fun x6 s5 =>
        Option.bind (ab_gR s5 l0 11 6) fun x7 =>
        Option.bind (ab_rB s5 x7 l1) fun x8 =>
        if x8 = 0
        then if (2 : Int32) ≤ l2
          then L_X11_meet_52 l0 l1 l2 x6 x6 (12 : Int32) s5
          else L_X11_meet_52 l0 l1 l2 x6 x6 (24 : Int32) s5
        else some (some (.int (-4 : Int32)), s5)) := congrArg (ab_rc st l0 11) ((lm_eq one_X11_meet 0 _ _ _).trans rfl)
set_option maxRecDepth 100000 in
theorem e_X11_meet_52 (l0 : Nat) (l1 : Int32) (l2 : Int32) (l3 : Int32) (t0 : Int32) (t1 : Int32) (st : ab_S) : L_X11_meet_52 l0 l1 l2 l3 t0 t1 st =
    if t0 ≤ t1
    then if l2 = (1 : Int32)
      then ab_rv (f_X11_parsePattern l0 l3 st) fun s1 =>
        Option.bind (ab_gI s1 l0 11 35) fun x2 =>
        Option.bind (ab_pI s1 l0 11 10 x2) fun s3 =>
        Option.bind (ab_gI s3 l0 11 35) fun x4 =>
        if x4 = (-1 : Int32)
        then L_X11_meet_87 l0 l1 l2 l3 s3
        else some (some (.int (-7 : Int32)), s3)
      else L_X11_meet_87 l0 l1 l2 l3 st
    else some (some (.int (-6 : Int32)), st) := (lm_eq one_X11_meet 52 _ _ _).trans rfl
set_option maxRecDepth 100000 in
theorem e_X11_meet_87 (l0 : Nat) (l1 : Int32) (l2 : Int32) (l3 : Int32) (st : ab_S) : L_X11_meet_87 l0 l1 l2 l3 st =
    Option.bind (ab_pI st l0 11 9 (0 : Int32)) fun s1 =>
    L_X11_meet_95 l0 l1 l2 l3 (0 : Int32) s1 := (lm_eq one_X11_meet 87 _ _ _).trans rfl
set_option maxRecDepth 100000 in
theorem e_X11_meet_95 (l0 : Nat) (l1 : Int32) (l2 : Int32) (l3 : Int32) (l4 : Int32) (st : ab_S) : L_X11_meet_95 l0 l1 l2 l3 l4 st =
    Option.bind (ab_gR st l0 11 5) fun x1 =>
    Option.bind (ab_rI st x1 l1) fun x2 =>
    if x2 ≤ l4
    then Option.bind (ab_gI st l0 11 9) fun x3 =>
      some (some (.int x3), st)
    else if l2 = 0
      then ab_ri (f_X11_isWild l0 l1 l4 l3 st) fun x5 s4 =>
        L_X11_meet_155 l0 l1 l2 l3 l4 x5 s4
      else if l2 = (1 : Int32)
        then ab_ri (f_X11_isPattern l0 l1 l4 st) fun x7 s6 =>
          L_X11_meet_155 l0 l1 l2 l3 l4 x7 s6
        else ab_ri (f_X11_distance l0 l1 l4 l3 st) fun x9 s8 =>
          if (l2 - (2 : Int32)) < x9
          then L_X11_meet_155 l0 l1 l2 l3 l4 (0 : Int32) s8
          else L_X11_meet_155 l0 l1 l2 l3 l4 (1 : Int32) s8 := (lm_eq one_X11_meet 95 _ _ _).trans rfl
set_option maxRecDepth 100000 in
theorem e_X11_meet_155 (l0 : Nat) (l1 : Int32) (l2 : Int32) (l3 : Int32) (l4 : Int32) (t0 : Int32) (st : ab_S) : L_X11_meet_155 l0 l1 l2 l3 l4 t0 st =
    if t0 = 0
    then L_X11_meet_183 l0 l1 l2 l3 l4 st
    else Option.bind (ab_gR st l0 11 8) fun x1 =>
      Option.bind (ab_gI st l0 11 9) fun x2 =>
      Option.bind (ab_wI st x1 x2 l4) fun s3 =>
      Option.bind (ab_gI s3 l0 11 9) fun x4 =>
      Option.bind (ab_pI s3 l0 11 9 (x4 + (1 : Int32))) fun s5 =>
      L_X11_meet_183 l0 l1 l2 l3 l4 s5 := (lm_eq one_X11_meet 155 _ _ _).trans rfl
set_option maxRecDepth 100000 in
theorem e_X11_meet_183 (l0 : Nat) (l1 : Int32) (l2 : Int32) (l3 : Int32) (l4 : Int32) (st : ab_S) : L_X11_meet_183 l0 l1 l2 l3 l4 st =
    L_X11_meet_95 l0 l1 l2 l3 (l4 + (1 : Int32)) st := (lm_eq one_X11_meet 183 _ _ _).trans rfl
def c_X10_fault : List (Nat × ab_I) := [(0, .aload_n 0, 1, .null, 0),
  (1, .getfield 69, 3, .null, 0),
  (4, .ireturn, 1, .null, 0)]
noncomputable def m_X10_fault : ab_M := (c_X10_fault, [(0, [0])],
  [(69, 10, 11, 0)],
  [],
  [],
  [], 1, 1)
theorem one_X10_fault : ab_oneM m_X10_fault := fun _ h => absurd h List.not_mem_nil
noncomputable def f_X10_fault (l0 : Nat) (st : ab_S) : Option ab_R := ab_rc st l0 10 (ab_lim m_X10_fault 0 [.ref l0] [] st)
noncomputable def g_X10_fault : ab_G := fun as st k => match as with
  | [.ref a0] => ab_ri (f_X10_fault a0 st) (fun x t => k [.int x] t)
  | _ => none
theorem o_X10_fault : ab_one g_X10_fault := by
  intro as st k r h
  unfold g_X10_fault at h ⊢
  split at h
  · exact one_ri h
  · cases h
set_option maxRecDepth 100000 in
theorem e_X10_fault_0 (l0 : Nat) (st : ab_S) : f_X10_fault l0 st =
    ab_rc st l0 10 (
    Option.bind (ab_gI st l0 10 11) fun x1 =>
    some (some (.int x1), st)) := congrArg (ab_rc st l0 10) ((lm_eq one_X10_fault 0 _ _ _).trans rfl)
def c_X11_fault : List (Nat × ab_I) := [(0, .aload_n 0, 1, .null, 0),
  (1, .getfield 37, 3, .null, 0),
  (4, .ireturn, 1, .null, 0)]
noncomputable def m_X11_fault : ab_M := (c_X11_fault, [(0, [0])],
  [(37, 11, 10, 0)],
  [],
  [],
  [], 1, 1)
theorem one_X11_fault : ab_oneM m_X11_fault := fun _ h => absurd h List.not_mem_nil
noncomputable def f_X11_fault (l0 : Nat) (st : ab_S) : Option ab_R := ab_rc st l0 11 (ab_lim m_X11_fault 0 [.ref l0] [] st)
noncomputable def g_X11_fault : ab_G := fun as st k => match as with
  | [.ref a0] => ab_ri (f_X11_fault a0 st) (fun x t => k [.int x] t)
  | _ => none
theorem o_X11_fault : ab_one g_X11_fault := by
  intro as st k r h
  unfold g_X11_fault at h ⊢
  split at h
  · exact one_ri h
  · cases h
set_option maxRecDepth 100000 in
theorem e_X11_fault_0 (l0 : Nat) (st : ab_S) : f_X11_fault l0 st =
    ab_rc st l0 11 (
    Option.bind (ab_gI st l0 11 10) fun x1 =>
    some (some (.int x1), st)) := congrArg (ab_rc st l0 11) ((lm_eq one_X11_fault 0 _ _ _).trans rfl)
def c_X10_row : List (Nat × ab_I) := [(0, .iload_n 1, 1, .null, 1),
  (1, .ifCond .lt (18), 3, .null, 19),
  (4, .iload_n 1, 1, .null, 1),
  (5, .aload_n 0, 1, .null, 0),
  (6, .getfield 186, 3, .null, 0),
  (9, .if_icmp .ge (10), 3, .null, 19),
  (12, .iload_n 1, 1, .null, 1),
  (13, .sipush (200), 3, (.int (200)), 0),
  (16, .if_icmp .lt (7), 3, .null, 23),
  (19, .iconst (-1), 1, (.int (-1)), 0),
  (20, .goto (9), 3, .null, 29),
  (23, .aload_n 0, 1, .null, 0),
  (24, .getfield 66, 3, .null, 0),
  (27, .iload_n 1, 1, .null, 1),
  (28, .iaload, 1, .null, 0),
  (29, .ireturn, 1, .null, 0)]
noncomputable def m_X10_row : ab_M := (c_X10_row, [(0, [0, 1])],
  [(66, 10, 9, 3), (186, 10, 10, 0)],
  [],
  [],
  [], 2, 1)
theorem one_X10_row : ab_oneM m_X10_row := fun _ h => absurd h List.not_mem_nil
noncomputable def f_X10_row (l0 : Nat) (l1 : Int32) (st : ab_S) : Option ab_R := ab_rc st l0 10 (ab_lim m_X10_row 0 [.ref l0, .int l1] [] st)
noncomputable def g_X10_row : ab_G := fun as st k => match as with
  | [.ref a0, .int a1] => ab_ri (f_X10_row a0 a1 st) (fun x t => k [.int x] t)
  | _ => none
theorem o_X10_row : ab_one g_X10_row := by
  intro as st k r h
  unfold g_X10_row at h ⊢
  split at h
  · exact one_ri h
  · cases h
set_option maxRecDepth 100000 in
theorem e_X10_row_0 (l0 : Nat) (l1 : Int32) (st : ab_S) : f_X10_row l0 l1 st =
    ab_rc st l0 10 (
    if l1 < 0
    then some (some (.int (-1 : Int32)), st)
    else Option.bind (ab_gI st l0 10 10) fun x1 =>
      if x1 ≤ l1
      then some (some (.int (-1 : Int32)), st)
      else if l1 < (200 : Int32)
        then Option.bind (ab_gR st l0 10 9) fun x2 =>
          Option.bind (ab_rI st x2 l1) fun x3 =>
          some (some (.int x3), st)
        else some (some (.int (-1 : Int32)), st)) := congrArg (ab_rc st l0 10) ((lm_eq one_X10_row 0 _ _ _).trans rfl)
def c_X11_row : List (Nat × ab_I) := [(0, .iload_n 1, 1, .null, 1),
  (1, .i2l, 1, .null, 0),
  (2, .lconst 0, 1, (.long (0)), 0),
  (3, .aload_n 0, 1, .null, 0),
  (4, .getfield 242, 3, .null, 0),
  (7, .iconst 1, 1, (.int (1)), 0),
  (8, .isub, 1, .null, 0),
  (9, .i2l, 1, .null, 0),
  (10, .invokestatic 146, 3, .null, 0),
  (13, .ifCond .eq (12), 3, .null, 25),
  (16, .aload_n 0, 1, .null, 0),
  (17, .getfield 34, 3, .null, 0),
  (20, .iload_n 1, 1, .null, 1),
  (21, .iaload, 1, .null, 0),
  (22, .goto (4), 3, .null, 26),
  (25, .iconst (-1), 1, (.int (-1)), 0),
  (26, .ireturn, 1, .null, 0)]
noncomputable def m_X11_row : ab_M := (c_X11_row, [(0, [0, 1])],
  [(34, 11, 8, 3), (242, 11, 9, 0)],
  [],
  [(146, 0, 3, g_X11_isIn)],
  [], 2, 1)
theorem one_X11_row : ab_oneM m_X11_row := List.forall_mem_cons.mpr ⟨o_X11_isIn, fun _ h => absurd h List.not_mem_nil⟩
noncomputable def f_X11_row (l0 : Nat) (l1 : Int32) (st : ab_S) : Option ab_R := ab_rc st l0 11 (ab_lim m_X11_row 0 [.ref l0, .int l1] [] st)
noncomputable def g_X11_row : ab_G := fun as st k => match as with
  | [.ref a0, .int a1] => ab_ri (f_X11_row a0 a1 st) (fun x t => k [.int x] t)
  | _ => none
theorem o_X11_row : ab_one g_X11_row := by
  intro as st k r h
  unfold g_X11_row at h ⊢
  split at h
  · exact one_ri h
  · cases h
set_option maxRecDepth 100000 in
theorem e_X11_row_0 (l0 : Nat) (l1 : Int32) (st : ab_S) : f_X11_row l0 l1 st =
    ab_rc st l0 11 (
    Option.bind (ab_gI st l0 11 9) fun x1 =>
    ab_ri (f_X11_isIn l1.toInt64 (0 : Int64) ((x1 - (1 : Int32)).toInt64) st) fun x3 s2 =>
    if x3 = 0
    then some (some (.int (-1 : Int32)), s2)
    else Option.bind (ab_gR s2 l0 11 8) fun x4 =>
      Option.bind (ab_rI s2 x4 l1) fun x5 =>
      some (some (.int x5), s2)) := congrArg (ab_rc st l0 11) ((lm_eq one_X11_row 0 _ _ _).trans rfl)
def c_X7_compareTerms : List (Nat × ab_I) := [(0, .iconst 0, 1, (.int (0)), 0),
  (1, .istore 4, 2, .null, 4),
  (3, .iload 4, 2, .null, 4),
  (5, .bipush (12), 2, (.int (12)), 0),
  (7, .if_icmp .ge (47), 3, .null, 54),
  (10, .aload_n 0, 1, .null, 0),
  (11, .iload_n 1, 1, .null, 1),
  (12, .iload 4, 2, .null, 4),
  (14, .invokevirtual 42, 3, .null, 0),
  (17, .istore 5, 2, .null, 5),
  (19, .aload_n 2, 1, .null, 2),
  (20, .iload_n 3, 1, .null, 3),
  (21, .iload 4, 2, .null, 4),
  (23, .invokevirtual 42, 3, .null, 0),
  (26, .istore 6, 2, .null, 6),
  (28, .iload 5, 2, .null, 5),
  (30, .iload 6, 2, .null, 6),
  (32, .if_icmp .eq (16), 3, .null, 48),
  (35, .iload 5, 2, .null, 5),
  (37, .iload 6, 2, .null, 6),
  (39, .if_icmp .ge (7), 3, .null, 46),
  (42, .iconst (-1), 1, (.int (-1)), 0),
  (43, .goto (4), 3, .null, 47),
  (46, .iconst 1, 1, (.int (1)), 0),
  (47, .ireturn, 1, .null, 0),
  (48, .iinc 4 (1), 3, (.int (1)), 4),
  (51, .goto (-48), 3, .null, 3),
  (54, .iconst 0, 1, (.int (0)), 0),
  (55, .ireturn, 1, .null, 0)]
noncomputable def m_X7_compareTerms : ab_M := (c_X7_compareTerms, [(0, [0, 1, 2, 3]), (3, [0, 1, 2, 3, 4])],
  [],
  [],
  [(42, 1, 3, g_X7_signAt)],
  [], 7, 1)
theorem one_X7_compareTerms : ab_oneM m_X7_compareTerms := List.forall_mem_cons.mpr ⟨o_X7_signAt, fun _ h => absurd h List.not_mem_nil⟩
noncomputable def f_X7_compareTerms (l0 : Nat) (l1 : Int32) (l2 : Nat) (l3 : Int32) (st : ab_S) : Option ab_R := ab_lim m_X7_compareTerms 0 [.ref l0, .int l1, .ref l2, .int l3] [] st
noncomputable def L_X7_compareTerms_3 (l0 : Nat) (l1 : Int32) (l2 : Nat) (l3 : Int32) (l4 : Int32) (st : ab_S) : Option ab_R := ab_lim m_X7_compareTerms 3 [.ref l0, .int l1, .ref l2, .int l3, .int l4] [] st
noncomputable def g_X7_compareTerms : ab_G := fun as st k => match as with
  | [.ref a0, .int a1, .ref a2, .int a3] => ab_ri (f_X7_compareTerms a0 a1 a2 a3 st) (fun x t => k [.int x] t)
  | _ => none
theorem o_X7_compareTerms : ab_one g_X7_compareTerms := by
  intro as st k r h
  unfold g_X7_compareTerms at h ⊢
  split at h
  · exact one_ri h
  · cases h
set_option maxRecDepth 100000 in
theorem e_X7_compareTerms_0 (l0 : Nat) (l1 : Int32) (l2 : Nat) (l3 : Int32) (st : ab_S) : f_X7_compareTerms l0 l1 l2 l3 st =
    L_X7_compareTerms_3 l0 l1 l2 l3 (0 : Int32) st := (lm_eq one_X7_compareTerms 0 _ _ _).trans rfl
set_option maxRecDepth 100000 in
theorem e_X7_compareTerms_3 (l0 : Nat) (l1 : Int32) (l2 : Nat) (l3 : Int32) (l4 : Int32) (st : ab_S) : L_X7_compareTerms_3 l0 l1 l2 l3 l4 st =
    if (12 : Int32) ≤ l4
    then some (some (.int (0 : Int32)), st)
    else ab_ri (f_X7_signAt l0 l1 l4 st) fun x2 s1 =>
      ab_ri (f_X7_signAt l2 l3 l4 s1) fun x4 s3 =>
      if x2 = x4
      then L_X7_compareTerms_3 l0 l1 l2 l3 (l4 + (1 : Int32)) s3
      else if x4 ≤ x2
        then some (some (.int (1 : Int32)), s3)
        else some (some (.int (-1 : Int32)), s3) := (lm_eq one_X7_compareTerms 3 _ _ _).trans rfl
def c_X7_gatherOne : List (Nat × ab_I) := [(0, .aload_n 0, 1, .null, 0),
  (1, .aload_n 1, 1, .null, 1),
  (2, .getfield 15, 3, .null, 0),
  (5, .iload_n 2, 1, .null, 2),
  (6, .bipush (12), 2, (.int (12)), 0),
  (8, .imul, 1, .null, 0),
  (9, .aload_n 1, 1, .null, 1),
  (10, .iload_n 2, 1, .null, 2),
  (11, .invokevirtual 30, 3, .null, 0),
  (14, .lload_n 3, 1, .null, 3),
  (15, .invokevirtual 84, 3, .null, 0),
  (18, .ifCond .eq (10), 3, .null, 28),
  (21, .aload_n 0, 1, .null, 0),
  (22, .getfield 22, 3, .null, 0),
  (25, .goto (5), 3, .null, 30),
  (28, .bipush (-3), 2, (.int (-3)), 0),
  (30, .ireturn, 1, .null, 0)]
noncomputable def m_X7_gatherOne : ab_M := (c_X7_gatherOne, [(0, [0, 1, 2, 3])],
  [(15, 7, 1, 3), (22, 7, 3, 0)],
  [],
  [(30, 1, 2, g_X7_lengthAt), (84, 1, 5, g_X7_append)],
  [], 5, 1)
theorem one_X7_gatherOne : ab_oneM m_X7_gatherOne := List.forall_mem_cons.mpr ⟨o_X7_lengthAt, List.forall_mem_cons.mpr ⟨o_X7_append, fun _ h => absurd h List.not_mem_nil⟩⟩
noncomputable def f_X7_gatherOne (l0 : Nat) (l1 : Nat) (l2 : Int32) (l3 : Int64) (st : ab_S) : Option ab_R := ab_rc st l0 7 (ab_lim m_X7_gatherOne 0 [.ref l0, .ref l1, .int l2, .long l3] [] st)
noncomputable def g_X7_gatherOne : ab_G := fun as st k => match as with
  | [.ref a0, .ref a1, .int a2, .long a3] => ab_ri (f_X7_gatherOne a0 a1 a2 a3 st) (fun x t => k [.int x] t)
  | _ => none
theorem o_X7_gatherOne : ab_one g_X7_gatherOne := by
  intro as st k r h
  unfold g_X7_gatherOne at h ⊢
  split at h
  · exact one_ri h
  · cases h
set_option maxRecDepth 100000 in
theorem e_X7_gatherOne_0 (l0 : Nat) (l1 : Nat) (l2 : Int32) (l3 : Int64) (st : ab_S) : f_X7_gatherOne l0 l1 l2 l3 st =
    ab_rc st l0 7 (
    Option.bind (ab_gR st l1 7 1) fun x1 =>
    ab_ri (f_X7_lengthAt l1 l2 st) fun x3 s2 =>
    ab_ri (f_X7_append l0 x1 (l2 * (12 : Int32)) x3 l3 s2) fun x5 s4 =>
    if x5 = 0
    then some (some (.int (-3 : Int32)), s4)
    else Option.bind (ab_gI s4 l0 7 3) fun x6 =>
      some (some (.int x6), s4)) := congrArg (ab_rc st l0 7) ((lm_eq one_X7_gatherOne 0 _ _ _).trans rfl)
def c_X7_gatherBoth : List (Nat × ab_I) := [(0, .aload_n 1, 1, .null, 1),
  (1, .iload_n 2, 1, .null, 2),
  (2, .invokevirtual 66, 3, .null, 0),
  (5, .lstore 6, 2, .null, 6),
  (7, .iload 5, 2, .null, 5),
  (9, .ifCond .ne (16), 3, .null, 25),
  (12, .aload_n 0, 1, .null, 0),
  (13, .aload_n 1, 1, .null, 1),
  (14, .iload_n 2, 1, .null, 2),
  (15, .lload 6, 2, .null, 6),
  (17, .lload_n 3, 1, .null, 3),
  (18, .invokestatic 78, 3, .null, 0),
  (21, .invokevirtual 74, 3, .null, 0),
  (24, .ireturn, 1, .null, 0),
  (25, .iload 5, 2, .null, 5),
  (27, .iconst 1, 1, (.int (1)), 0),
  (28, .if_icmp .eq (8), 3, .null, 36),
  (31, .aload_n 0, 1, .null, 0),
  (32, .getfield 22, 3, .null, 0),
  (35, .ireturn, 1, .null, 0),
  (36, .lload 6, 2, .null, 6),
  (38, .lload_n 3, 1, .null, 3),
  (39, .ladd, 1, .null, 0),
  (40, .ldc2_w 82, 3, (.long (1000000000000)), 0),
  (43, .lcmp, 1, .null, 0),
  (44, .ifCond .le (8), 3, .null, 52),
  (47, .bipush (-6), 2, (.int (-6)), 0),
  (49, .goto (13), 3, .null, 62),
  (52, .aload_n 0, 1, .null, 0),
  (53, .aload_n 1, 1, .null, 1),
  (54, .iload_n 2, 1, .null, 2),
  (55, .lload 6, 2, .null, 6),
  (57, .lload_n 3, 1, .null, 3),
  (58, .ladd, 1, .null, 0),
  (59, .invokevirtual 74, 3, .null, 0),
  (62, .ireturn, 1, .null, 0)]
noncomputable def m_X7_gatherBoth : ab_M := (c_X7_gatherBoth, [(0, [0, 1, 2, 3, 5])],
  [(22, 7, 3, 0)],
  [],
  [(66, 1, 2, g_X7_outAt), (74, 1, 4, g_X7_gatherOne), (78, 0, 2, g_J_minl)],
  [], 8, 1)
theorem one_X7_gatherBoth : ab_oneM m_X7_gatherBoth := List.forall_mem_cons.mpr ⟨o_X7_outAt, List.forall_mem_cons.mpr ⟨o_X7_gatherOne, List.forall_mem_cons.mpr ⟨o_J_minl, fun _ h => absurd h List.not_mem_nil⟩⟩⟩
noncomputable def f_X7_gatherBoth (l0 : Nat) (l1 : Nat) (l2 : Int32) (l3 : Int64) (l5 : Int32) (st : ab_S) : Option ab_R := ab_rc st l0 7 (ab_lim m_X7_gatherBoth 0 [.ref l0, .ref l1, .int l2, .long l3, .int l5] [] st)
noncomputable def g_X7_gatherBoth : ab_G := fun as st k => match as with
  | [.ref a0, .ref a1, .int a2, .long a3, .int a4] => ab_ri (f_X7_gatherBoth a0 a1 a2 a3 a4 st) (fun x t => k [.int x] t)
  | _ => none
theorem o_X7_gatherBoth : ab_one g_X7_gatherBoth := by
  intro as st k r h
  unfold g_X7_gatherBoth at h ⊢
  split at h
  · exact one_ri h
  · cases h
set_option maxRecDepth 100000 in
theorem e_X7_gatherBoth_0 (l0 : Nat) (l1 : Nat) (l2 : Int32) (l3 : Int64) (l5 : Int32) (st : ab_S) : f_X7_gatherBoth l0 l1 l2 l3 l5 st =
    ab_rc st l0 7 (
    ab_rl (f_X7_outAt l1 l2 st) fun x2 s1 =>
    if l5 = 0
    then ab_rl (f_J_minl x2 l3 s1) fun x4 s3 =>
      ab_ri (f_X7_gatherOne l0 l1 l2 x4 s3) fun x6 s5 =>
      some (some (.int x6), s5)
    else if l5 = (1 : Int32)
      then if (lg_cmp (x2 + l3) (1000000000000 : Int64)) ≤ 0
        then ab_ri (f_X7_gatherOne l0 l1 l2 (x2 + l3) s1) fun x8 s7 =>
          some (some (.int x8), s7)
        else some (some (.int (-6 : Int32)), s1)
      else Option.bind (ab_gI s1 l0 7 3) fun x9 =>
        some (some (.int x9), s1)) := congrArg (ab_rc st l0 7) ((lm_eq one_X7_gatherBoth 0 _ _ _).trans rfl)
def c_X7_gather : List (Nat × ab_I) := [(0, .aload_n 0, 1, .null, 0),
  (1, .invokevirtual 59, 3, .null, 0),
  (4, .iconst 0, 1, (.int (0)), 0),
  (5, .istore 4, 2, .null, 4),
  (7, .iconst 0, 1, (.int (0)), 0),
  (8, .istore 5, 2, .null, 5),
  (10, .iconst 0, 1, (.int (0)), 0),
  (11, .istore 6, 2, .null, 6),
  (13, .iconst 0, 1, (.int (0)), 0),
  (14, .istore 7, 2, .null, 7),
  (16, .iload 7, 2, .null, 7),
  (18, .sipush (400), 3, (.int (400)), 0),
  (21, .if_icmp .ge (189), 3, .null, 210),
  (24, .iload 6, 2, .null, 6),
  (26, .ifCond .lt (184), 3, .null, 210),
  (29, .iload 4, 2, .null, 4),
  (31, .aload_n 1, 1, .null, 1),
  (32, .getfield 22, 3, .null, 0),
  (35, .if_icmp .lt (12), 3, .null, 47),
  (38, .iload 5, 2, .null, 5),
  (40, .aload_n 2, 1, .null, 2),
  (41, .getfield 22, 3, .null, 0),
  (44, .if_icmp .ge (166), 3, .null, 210),
  (47, .iload 4, 2, .null, 4),
  (49, .aload_n 1, 1, .null, 1),
  (50, .getfield 22, 3, .null, 0),
  (53, .if_icmp .lt (7), 3, .null, 60),
  (56, .iconst 1, 1, (.int (1)), 0),
  (57, .goto (25), 3, .null, 82),
  (60, .iload 5, 2, .null, 5),
  (62, .aload_n 2, 1, .null, 2),
  (63, .getfield 22, 3, .null, 0),
  (66, .if_icmp .lt (7), 3, .null, 73),
  (69, .iconst (-1), 1, (.int (-1)), 0),
  (70, .goto (12), 3, .null, 82),
  (73, .aload_n 1, 1, .null, 1),
  (74, .iload 4, 2, .null, 4),
  (76, .aload_n 2, 1, .null, 2),
  (77, .iload 5, 2, .null, 5),
  (79, .invokestatic 62, 3, .null, 0),
  (82, .istore 8, 2, .null, 8),
  (84, .iload 8, 2, .null, 8),
  (86, .ifCond .ne (22), 3, .null, 108),
  (89, .aload_n 0, 1, .null, 0),
  (90, .aload_n 1, 1, .null, 1),
  (91, .iload 4, 2, .null, 4),
  (93, .aload_n 2, 1, .null, 2),
  (94, .iload 5, 2, .null, 5),
  (96, .invokevirtual 66, 3, .null, 0),
  (99, .iload_n 3, 1, .null, 3),
  (100, .invokevirtual 70, 3, .null, 0),
  (103, .istore 6, 2, .null, 6),
  (105, .goto (69), 3, .null, 174),
  (108, .iload 8, 2, .null, 8),
  (110, .ifCond .ge (33), 3, .null, 143),
  (113, .iload_n 3, 1, .null, 3),
  (114, .iconst 1, 1, (.int (1)), 0),
  (115, .if_icmp .ne (10), 3, .null, 125),
  (118, .aload_n 0, 1, .null, 0),
  (119, .getfield 22, 3, .null, 0),
  (122, .goto (16), 3, .null, 138),
  (125, .aload_n 0, 1, .null, 0),
  (126, .aload_n 1, 1, .null, 1),
  (127, .iload 4, 2, .null, 4),
  (129, .aload_n 1, 1, .null, 1),
  (130, .iload 4, 2, .null, 4),
  (132, .invokevirtual 66, 3, .null, 0),
  (135, .invokevirtual 74, 3, .null, 0),
  (138, .istore 6, 2, .null, 6),
  (140, .goto (34), 3, .null, 174),
  (143, .iload_n 3, 1, .null, 3),
  (144, .ifCond .eq (8), 3, .null, 152),
  (147, .iload_n 3, 1, .null, 3),
  (148, .iconst 3, 1, (.int (3)), 0),
  (149, .if_icmp .ne (19), 3, .null, 168),
  (152, .aload_n 0, 1, .null, 0),
  (153, .aload_n 2, 1, .null, 2),
  (154, .iload 5, 2, .null, 5),
  (156, .aload_n 2, 1, .null, 2),
  (157, .iload 5, 2, .null, 5),
  (159, .invokevirtual 66, 3, .null, 0),
  (162, .invokevirtual 74, 3, .null, 0),
  (165, .goto (7), 3, .null, 172),
  (168, .aload_n 0, 1, .null, 0),
  (169, .getfield 22, 3, .null, 0),
  (172, .istore 6, 2, .null, 6),
  (174, .iload 4, 2, .null, 4),
  (176, .iload 8, 2, .null, 8),
  (178, .ifCond .gt (7), 3, .null, 185),
  (181, .iconst 1, 1, (.int (1)), 0),
  (182, .goto (4), 3, .null, 186),
  (185, .iconst 0, 1, (.int (0)), 0),
  (186, .iadd, 1, .null, 0),
  (187, .istore 4, 2, .null, 4),
  (189, .iload 5, 2, .null, 5),
  (191, .iload 8, 2, .null, 8),
  (193, .ifCond .lt (7), 3, .null, 200),
  (196, .iconst 1, 1, (.int (1)), 0),
  (197, .goto (4), 3, .null, 201),
  (200, .iconst 0, 1, (.int (0)), 0),
  (201, .iadd, 1, .null, 0),
  (202, .istore 5, 2, .null, 5),
  (204, .iinc 7 (1), 3, (.int (1)), 7),
  (207, .goto (-191), 3, .null, 16),
  (210, .iload 6, 2, .null, 6),
  (212, .ireturn, 1, .null, 0)]
noncomputable def m_X7_gather : ab_M := (c_X7_gather, [(0, [0, 1, 2, 3]), (16, [0, 1, 2, 3, 4, 5, 6, 7]), (47, [0, 1, 2, 3, 4, 5, 7]), (82, [0, 1, 2, 3, 4, 5, 7]), (138, [0, 1, 2, 3, 4, 5, 7, 8]), (152, [0, 1, 2, 3, 4, 5, 7, 8]), (172, [0, 1, 2, 3, 4, 5, 7, 8]), (174, [0, 1, 2, 3, 4, 5, 6, 7, 8]), (186, [0, 1, 2, 3, 5, 6, 7, 8]), (201, [0, 1, 2, 3, 4, 6, 7])],
  [(22, 7, 3, 0)],
  [],
  [(59, 1, 1, g_X7_clear), (62, 0, 4, g_X7_compareTerms), (66, 1, 2, g_X7_outAt), (70, 1, 5, g_X7_gatherBoth), (74, 1, 4, g_X7_gatherOne)],
  [], 9, 1)
theorem one_X7_gather : ab_oneM m_X7_gather := List.forall_mem_cons.mpr ⟨o_X7_clear, List.forall_mem_cons.mpr ⟨o_X7_compareTerms, List.forall_mem_cons.mpr ⟨o_X7_outAt, List.forall_mem_cons.mpr ⟨o_X7_gatherBoth, List.forall_mem_cons.mpr ⟨o_X7_gatherOne, fun _ h => absurd h List.not_mem_nil⟩⟩⟩⟩⟩
noncomputable def f_X7_gather (l0 : Nat) (l1 : Nat) (l2 : Nat) (l3 : Int32) (st : ab_S) : Option ab_R := ab_rc st l0 7 (ab_lim m_X7_gather 0 [.ref l0, .ref l1, .ref l2, .int l3] [] st)
noncomputable def L_X7_gather_16 (l0 : Nat) (l1 : Nat) (l2 : Nat) (l3 : Int32) (l4 : Int32) (l5 : Int32) (l6 : Int32) (l7 : Int32) (st : ab_S) : Option ab_R := ab_lim m_X7_gather 16 [.ref l0, .ref l1, .ref l2, .int l3, .int l4, .int l5, .int l6, .int l7] [] st
noncomputable def L_X7_gather_47 (l0 : Nat) (l1 : Nat) (l2 : Nat) (l3 : Int32) (l4 : Int32) (l5 : Int32) (l7 : Int32) (st : ab_S) : Option ab_R := ab_lim m_X7_gather 47 [.ref l0, .ref l1, .ref l2, .int l3, .int l4, .int l5, .int l7] [] st
noncomputable def L_X7_gather_82 (l0 : Nat) (l1 : Nat) (l2 : Nat) (l3 : Int32) (l4 : Int32) (l5 : Int32) (l7 : Int32) (t0 : Int32) (st : ab_S) : Option ab_R := ab_lim m_X7_gather 82 [.ref l0, .ref l1, .ref l2, .int l3, .int l4, .int l5, .int l7] [.int t0] st
noncomputable def L_X7_gather_138 (l0 : Nat) (l1 : Nat) (l2 : Nat) (l3 : Int32) (l4 : Int32) (l5 : Int32) (l7 : Int32) (l8 : Int32) (t0 : Int32) (st : ab_S) : Option ab_R := ab_lim m_X7_gather 138 [.ref l0, .ref l1, .ref l2, .int l3, .int l4, .int l5, .int l7, .int l8] [.int t0] st
noncomputable def L_X7_gather_152 (l0 : Nat) (l1 : Nat) (l2 : Nat) (l3 : Int32) (l4 : Int32) (l5 : Int32) (l7 : Int32) (l8 : Int32) (st : ab_S) : Option ab_R := ab_lim m_X7_gather 152 [.ref l0, .ref l1, .ref l2, .int l3, .int l4, .int l5, .int l7, .int l8] [] st
noncomputable def L_X7_gather_172 (l0 : Nat) (l1 : Nat) (l2 : Nat) (l3 : Int32) (l4 : Int32) (l5 : Int32) (l7 : Int32) (l8 : Int32) (t0 : Int32) (st : ab_S) : Option ab_R := ab_lim m_X7_gather 172 [.ref l0, .ref l1, .ref l2, .int l3, .int l4, .int l5, .int l7, .int l8] [.int t0] st
noncomputable def L_X7_gather_174 (l0 : Nat) (l1 : Nat) (l2 : Nat) (l3 : Int32) (l4 : Int32) (l5 : Int32) (l6 : Int32) (l7 : Int32) (l8 : Int32) (st : ab_S) : Option ab_R := ab_lim m_X7_gather 174 [.ref l0, .ref l1, .ref l2, .int l3, .int l4, .int l5, .int l6, .int l7, .int l8] [] st
noncomputable def L_X7_gather_186 (l0 : Nat) (l1 : Nat) (l2 : Nat) (l3 : Int32) (l5 : Int32) (l6 : Int32) (l7 : Int32) (l8 : Int32) (t0 : Int32) (t1 : Int32) (st : ab_S) : Option ab_R := ab_lim m_X7_gather 186 [.ref l0, .ref l1, .ref l2, .int l3, .int l5, .int l6, .int l7, .int l8] [.int t1, .int t0] st
noncomputable def L_X7_gather_201 (l0 : Nat) (l1 : Nat) (l2 : Nat) (l3 : Int32) (l4 : Int32) (l6 : Int32) (l7 : Int32) (t0 : Int32) (t1 : Int32) (st : ab_S) : Option ab_R := ab_lim m_X7_gather 201 [.ref l0, .ref l1, .ref l2, .int l3, .int l4, .int l6, .int l7] [.int t1, .int t0] st
noncomputable def g_X7_gather : ab_G := fun as st k => match as with
  | [.ref a0, .ref a1, .ref a2, .int a3] => ab_ri (f_X7_gather a0 a1 a2 a3 st) (fun x t => k [.int x] t)
  | _ => none
theorem o_X7_gather : ab_one g_X7_gather := by
  intro as st k r h
  unfold g_X7_gather at h ⊢
  split at h
  · exact one_ri h
  · cases h
set_option maxRecDepth 100000 in
theorem e_X7_gather_0 (l0 : Nat) (l1 : Nat) (l2 : Nat) (l3 : Int32) (st : ab_S) : f_X7_gather l0 l1 l2 l3 st =
    ab_rc st l0 7 (
    ab_rv (f_X7_clear l0 st) fun s1 =>
    L_X7_gather_16 l0 l1 l2 l3 (0 : Int32) (0 : Int32) (0 : Int32) (0 : Int32) s1) := congrArg (ab_rc st l0 7) ((lm_eq one_X7_gather 0 _ _ _).trans rfl)
set_option maxRecDepth 100000 in
theorem e_X7_gather_16 (l0 : Nat) (l1 : Nat) (l2 : Nat) (l3 : Int32) (l4 : Int32) (l5 : Int32) (l6 : Int32) (l7 : Int32) (st : ab_S) : L_X7_gather_16 l0 l1 l2 l3 l4 l5 l6 l7 st =
    if (400 : Int32) ≤ l7
    then some (some (.int l6), st)
    else if l6 < 0
      then some (some (.int l6), st)
      else Option.bind (ab_gI st l1 7 3) fun x1 =>
        if l4 < x1
        then L_X7_gather_47 l0 l1 l2 l3 l4 l5 l7 st
        else Option.bind (ab_gI st l2 7 3) fun x2 =>
          if x2 ≤ l5
          then some (some (.int l6), st)
          else L_X7_gather_47 l0 l1 l2 l3 l4 l5 l7 st := (lm_eq one_X7_gather 16 _ _ _).trans rfl
set_option maxRecDepth 100000 in
theorem e_X7_gather_47 (l0 : Nat) (l1 : Nat) (l2 : Nat) (l3 : Int32) (l4 : Int32) (l5 : Int32) (l7 : Int32) (st : ab_S) : L_X7_gather_47 l0 l1 l2 l3 l4 l5 l7 st =
    Option.bind (ab_gI st l1 7 3) fun x1 =>
    if l4 < x1
    then Option.bind (ab_gI st l2 7 3) fun x2 =>
      if l5 < x2
      then ab_ri (f_X7_compareTerms l1 l4 l2 l5 st) fun x4 s3 =>
        L_X7_gather_82 l0 l1 l2 l3 l4 l5 l7 x4 s3
      else L_X7_gather_82 l0 l1 l2 l3 l4 l5 l7 (-1 : Int32) st
    else L_X7_gather_82 l0 l1 l2 l3 l4 l5 l7 (1 : Int32) st := (lm_eq one_X7_gather 47 _ _ _).trans rfl
set_option maxRecDepth 100000 in
theorem e_X7_gather_82 (l0 : Nat) (l1 : Nat) (l2 : Nat) (l3 : Int32) (l4 : Int32) (l5 : Int32) (l7 : Int32) (t0 : Int32) (st : ab_S) : L_X7_gather_82 l0 l1 l2 l3 l4 l5 l7 t0 st =
    if t0 = 0
    then ab_rl (f_X7_outAt l2 l5 st) fun x2 s1 =>
      ab_ri (f_X7_gatherBoth l0 l1 l4 x2 l3 s1) fun x4 s3 =>
      L_X7_gather_174 l0 l1 l2 l3 l4 l5 x4 l7 t0 s3
    else if 0 ≤ t0
      then if l3 = 0
        then L_X7_gather_152 l0 l1 l2 l3 l4 l5 l7 t0 st
        else if l3 = (3 : Int32)
          then L_X7_gather_152 l0 l1 l2 l3 l4 l5 l7 t0 st
          else Option.bind (ab_gI st l0 7 3) fun x5 =>
            L_X7_gather_172 l0 l1 l2 l3 l4 l5 l7 t0 x5 st
      else if l3 = (1 : Int32)
        then Option.bind (ab_gI st l0 7 3) fun x6 =>
          L_X7_gather_138 l0 l1 l2 l3 l4 l5 l7 t0 x6 st
        else ab_rl (f_X7_outAt l1 l4 st) fun x8 s7 =>
          ab_ri (f_X7_gatherOne l0 l1 l4 x8 s7) fun x10 s9 =>
          L_X7_gather_138 l0 l1 l2 l3 l4 l5 l7 t0 x10 s9 := (lm_eq one_X7_gather 82 _ _ _).trans rfl
set_option maxRecDepth 100000 in
theorem e_X7_gather_138 (l0 : Nat) (l1 : Nat) (l2 : Nat) (l3 : Int32) (l4 : Int32) (l5 : Int32) (l7 : Int32) (l8 : Int32) (t0 : Int32) (st : ab_S) : L_X7_gather_138 l0 l1 l2 l3 l4 l5 l7 l8 t0 st =
    L_X7_gather_174 l0 l1 l2 l3 l4 l5 t0 l7 l8 st := (lm_eq one_X7_gather 138 _ _ _).trans rfl
set_option maxRecDepth 100000 in
theorem e_X7_gather_152 (l0 : Nat) (l1 : Nat) (l2 : Nat) (l3 : Int32) (l4 : Int32) (l5 : Int32) (l7 : Int32) (l8 : Int32) (st : ab_S) : L_X7_gather_152 l0 l1 l2 l3 l4 l5 l7 l8 st =
    ab_rl (f_X7_outAt l2 l5 st) fun x2 s1 =>
    ab_ri (f_X7_gatherOne l0 l2 l5 x2 s1) fun x4 s3 =>
    L_X7_gather_172 l0 l1 l2 l3 l4 l5 l7 l8 x4 s3 := (lm_eq one_X7_gather 152 _ _ _).trans rfl
set_option maxRecDepth 100000 in
theorem e_X7_gather_172 (l0 : Nat) (l1 : Nat) (l2 : Nat) (l3 : Int32) (l4 : Int32) (l5 : Int32) (l7 : Int32) (l8 : Int32) (t0 : Int32) (st : ab_S) : L_X7_gather_172 l0 l1 l2 l3 l4 l5 l7 l8 t0 st =
    L_X7_gather_174 l0 l1 l2 l3 l4 l5 t0 l7 l8 st := (lm_eq one_X7_gather 172 _ _ _).trans rfl
set_option maxRecDepth 100000 in
theorem e_X7_gather_174 (l0 : Nat) (l1 : Nat) (l2 : Nat) (l3 : Int32) (l4 : Int32) (l5 : Int32) (l6 : Int32) (l7 : Int32) (l8 : Int32) (st : ab_S) : L_X7_gather_174 l0 l1 l2 l3 l4 l5 l6 l7 l8 st =
    if 0 < l8
    then L_X7_gather_186 l0 l1 l2 l3 l5 l6 l7 l8 l4 (0 : Int32) st
    else L_X7_gather_186 l0 l1 l2 l3 l5 l6 l7 l8 l4 (1 : Int32) st := (lm_eq one_X7_gather 174 _ _ _).trans rfl
set_option maxRecDepth 100000 in
theorem e_X7_gather_186 (l0 : Nat) (l1 : Nat) (l2 : Nat) (l3 : Int32) (l5 : Int32) (l6 : Int32) (l7 : Int32) (l8 : Int32) (t0 : Int32) (t1 : Int32) (st : ab_S) : L_X7_gather_186 l0 l1 l2 l3 l5 l6 l7 l8 t0 t1 st =
    if l8 < 0
    then L_X7_gather_201 l0 l1 l2 l3 (t0 + t1) l6 l7 l5 (0 : Int32) st
    else L_X7_gather_201 l0 l1 l2 l3 (t0 + t1) l6 l7 l5 (1 : Int32) st := (lm_eq one_X7_gather 186 _ _ _).trans rfl
set_option maxRecDepth 100000 in
theorem e_X7_gather_201 (l0 : Nat) (l1 : Nat) (l2 : Nat) (l3 : Int32) (l4 : Int32) (l6 : Int32) (l7 : Int32) (t0 : Int32) (t1 : Int32) (st : ab_S) : L_X7_gather_201 l0 l1 l2 l3 l4 l6 l7 t0 t1 st =
    L_X7_gather_16 l0 l1 l2 l3 l4 (t0 + t1) l6 (l7 + (1 : Int32)) st := (lm_eq one_X7_gather 201 _ _ _).trans rfl
def c_X10_putSpareAt : List (Nat × ab_I) := [(0, .aload_n 0, 1, .null, 0),
  (1, .getfield 11, 3, .null, 0),
  (4, .iload_n 1, 1, .null, 1),
  (5, .aaload, 1, .null, 0),
  (6, .astore_n 2, 1, .null, 2),
  (7, .aload_n 0, 1, .null, 0),
  (8, .getfield 80, 3, .null, 0),
  (11, .iconst 0, 1, (.int (0)), 0),
  (12, .putfield 109, 3, .null, 0),
  (15, .aload_n 0, 1, .null, 0),
  (16, .getfield 11, 3, .null, 0),
  (19, .iload_n 1, 1, .null, 1),
  (20, .aload_n 0, 1, .null, 0),
  (21, .getfield 80, 3, .null, 0),
  (24, .aastore, 1, .null, 0),
  (25, .aload_n 0, 1, .null, 0),
  (26, .aload_n 2, 1, .null, 2),
  (27, .putfield 80, 3, .null, 0),
  (30, .aload_n 0, 1, .null, 0),
  (31, .getfield 15, 3, .null, 0),
  (34, .iload_n 1, 1, .null, 1),
  (35, .dup2, 1, .null, 0),
  (36, .iaload, 1, .null, 0),
  (37, .iconst 1, 1, (.int (1)), 0),
  (38, .iadd, 1, .null, 0),
  (39, .iastore, 1, .null, 0),
  (40, .return_, 1, .null, 0)]
noncomputable def m_X10_putSpareAt : ab_M := (c_X10_putSpareAt, [(0, [0, 1])],
  [(11, 10, 0, 3), (15, 10, 1, 3), (80, 10, 14, 3), (109, 0, 2, 1)],
  [],
  [],
  [], 3, 0)
theorem one_X10_putSpareAt : ab_oneM m_X10_putSpareAt := fun _ h => absurd h List.not_mem_nil
noncomputable def f_X10_putSpareAt (l0 : Nat) (l1 : Int32) (st : ab_S) : Option ab_R := ab_rc st l0 10 (ab_lim m_X10_putSpareAt 0 [.ref l0, .int l1] [] st)
noncomputable def g_X10_putSpareAt : ab_G := fun as st k => match as with
  | [.ref a0, .int a1] => ab_rv (f_X10_putSpareAt a0 a1 st) (fun t => k [] t)
  | _ => none
theorem o_X10_putSpareAt : ab_one g_X10_putSpareAt := by
  intro as st k r h
  unfold g_X10_putSpareAt at h ⊢
  split at h
  · exact one_rv h
  · cases h
set_option maxRecDepth 100000 in
theorem e_X10_putSpareAt_0 (l0 : Nat) (l1 : Int32) (st : ab_S) : f_X10_putSpareAt l0 l1 st =
    ab_rc st l0 10 (
    Option.bind (ab_gR st l0 10 0) fun x1 =>
    Option.bind (ab_rR st x1 l1) fun x2 =>
    Option.bind (ab_gR st l0 10 14) fun x3 =>
    Option.bind (ab_pZ st x3 0 2 (0 : Int32)) fun s4 =>
    Option.bind (ab_gR s4 l0 10 0) fun x5 =>
    Option.bind (ab_gR s4 l0 10 14) fun x6 =>
    Option.bind (ab_wR s4 x5 l1 x6) fun s7 =>
    Option.bind (ab_pR s7 l0 10 14 x2) fun s8 =>
    Option.bind (ab_gR s8 l0 10 1) fun x9 =>
    Option.bind (ab_rI s8 x9 l1) fun x10 =>
    Option.bind (ab_wI s8 x9 l1 (x10 + (1 : Int32))) fun s11 =>
    some (none, s11)) := congrArg (ab_rc st l0 10) ((lm_eq one_X10_putSpareAt 0 _ _ _).trans rfl)
def c_X10_join : List (Nat × ab_I) := [(0, .iload_n 1, 1, .null, 1),
  (1, .invokestatic 95, 3, .null, 0),
  (4, .ifCond .eq (28), 3, .null, 32),
  (7, .iload_n 2, 1, .null, 2),
  (8, .invokestatic 95, 3, .null, 0),
  (11, .ifCond .eq (21), 3, .null, 32),
  (14, .iload_n 3, 1, .null, 3),
  (15, .invokestatic 95, 3, .null, 0),
  (18, .ifCond .eq (14), 3, .null, 32),
  (21, .iload 4, 2, .null, 4),
  (23, .ifCond .lt (9), 3, .null, 32),
  (26, .iload 4, 2, .null, 4),
  (28, .iconst 4, 1, (.int (4)), 0),
  (29, .if_icmp .lt (6), 3, .null, 35),
  (32, .bipush (-2), 2, (.int (-2)), 0),
  (34, .ireturn, 1, .null, 0),
  (35, .aload_n 0, 1, .null, 0),
  (36, .getfield 11, 3, .null, 0),
  (39, .iload_n 1, 1, .null, 1),
  (40, .aaload, 1, .null, 0),
  (41, .getfield 109, 3, .null, 0),
  (44, .ifCond .ne (15), 3, .null, 59),
  (47, .aload_n 0, 1, .null, 0),
  (48, .getfield 11, 3, .null, 0),
  (51, .iload_n 2, 1, .null, 2),
  (52, .aaload, 1, .null, 0),
  (53, .getfield 109, 3, .null, 0),
  (56, .ifCond .eq (6), 3, .null, 62),
  (59, .bipush (-4), 2, (.int (-4)), 0),
  (61, .ireturn, 1, .null, 0),
  (62, .aload_n 0, 1, .null, 0),
  (63, .getfield 80, 3, .null, 0),
  (66, .getfield 99, 3, .null, 0),
  (69, .aload_n 0, 1, .null, 0),
  (70, .getfield 11, 3, .null, 0),
  (73, .iload_n 1, 1, .null, 1),
  (74, .aaload, 1, .null, 0),
  (75, .getfield 99, 3, .null, 0),
  (78, .aload_n 0, 1, .null, 0),
  (79, .getfield 11, 3, .null, 0),
  (82, .iload_n 2, 1, .null, 2),
  (83, .aaload, 1, .null, 0),
  (84, .getfield 99, 3, .null, 0),
  (87, .iload 4, 2, .null, 4),
  (89, .invokevirtual 215, 3, .null, 0),
  (92, .istore 5, 2, .null, 5),
  (94, .iload 5, 2, .null, 5),
  (96, .ifCond .lt (19), 3, .null, 115),
  (99, .aload_n 0, 1, .null, 0),
  (100, .getfield 28, 3, .null, 0),
  (103, .aload_n 0, 1, .null, 0),
  (104, .getfield 80, 3, .null, 0),
  (107, .invokevirtual 126, 3, .null, 0),
  (110, .aload_n 0, 1, .null, 0),
  (111, .iload_n 3, 1, .null, 3),
  (112, .invokevirtual 219, 3, .null, 0),
  (115, .iload 5, 2, .null, 5),
  (117, .ireturn, 1, .null, 0)]
noncomputable def m_X10_join : ab_M := (c_X10_join, [(0, [0, 1, 2, 3, 4])],
  [(11, 10, 0, 3), (28, 10, 3, 3), (80, 10, 14, 3), (99, 0, 0, 3), (109, 0, 2, 1)],
  [],
  [(95, 0, 1, g_X10_isDictionary), (126, 1, 2, g_X8_build), (215, 1, 4, g_X7_gather), (219, 1, 2, g_X10_putSpareAt)],
  [], 6, 1)
theorem one_X10_join : ab_oneM m_X10_join := List.forall_mem_cons.mpr ⟨o_X10_isDictionary, List.forall_mem_cons.mpr ⟨o_X8_build, List.forall_mem_cons.mpr ⟨o_X7_gather, List.forall_mem_cons.mpr ⟨o_X10_putSpareAt, fun _ h => absurd h List.not_mem_nil⟩⟩⟩⟩
noncomputable def f_X10_join (l0 : Nat) (l1 : Int32) (l2 : Int32) (l3 : Int32) (l4 : Int32) (st : ab_S) : Option ab_R := ab_rc st l0 10 (ab_lim m_X10_join 0 [.ref l0, .int l1, .int l2, .int l3, .int l4] [] st)
noncomputable def g_X10_join : ab_G := fun as st k => match as with
  | [.ref a0, .int a1, .int a2, .int a3, .int a4] => ab_ri (f_X10_join a0 a1 a2 a3 a4 st) (fun x t => k [.int x] t)
  | _ => none
theorem o_X10_join : ab_one g_X10_join := by
  intro as st k r h
  unfold g_X10_join at h ⊢
  split at h
  · exact one_ri h
  · cases h
set_option maxRecDepth 100000 in
theorem e_X10_join_0 (l0 : Nat) (l1 : Int32) (l2 : Int32) (l3 : Int32) (l4 : Int32) (st : ab_S) : f_X10_join l0 l1 l2 l3 l4 st =
    ab_rc st l0 10 (
    ab_ri (f_X10_isDictionary l1 st) fun x2 s1 =>
    if x2 = 0
    then some (some (.int (-2 : Int32)), s1)
    else ab_ri (f_X10_isDictionary l2 s1) fun x4 s3 =>
      if x4 = 0
      then some (some (.int (-2 : Int32)), s3)
      else ab_ri (f_X10_isDictionary l3 s3) fun x6 s5 =>
        if x6 = 0
        then some (some (.int (-2 : Int32)), s5)
        else if l4 < 0
          then some (some (.int (-2 : Int32)), s5)
          else if l4 < (4 : Int32)
            then Option.bind (ab_gR s5 l0 10 0) fun x7 =>
              Option.bind (ab_rR s5 x7 l1) fun x8 =>
              Option.bind (ab_gI s5 x8 0 2) fun x9 =>
              if x9 = 0
              then Option.bind (ab_gR s5 l0 10 0) fun x10 =>
                Option.bind (ab_rR s5 x10 l2) fun x11 =>
                Option.bind (ab_gI s5 x11 0 2) fun x12 =>
                if x12 = 0
                then Option.bind (ab_gR s5 l0 10 14) fun x13 =>
                  Option.bind (ab_gR s5 x13 0 0) fun x14 =>
                  Option.bind (ab_gR s5 l0 10 0) fun x15 =>
                  Option.bind (ab_rR s5 x15 l1) fun x16 =>
                  Option.bind (ab_gR s5 x16 0 0) fun x17 =>
                  Option.bind (ab_gR s5 l0 10 0) fun x18 =>
                  Option.bind (ab_rR s5 x18 l2) fun x19 =>
                  Option.bind (ab_gR s5 x19 0 0) fun x20 =>
                  ab_ri (f_X7_gather x14 x17 x20 l4 s5) fun x22 s21 =>
                  if x22 < 0
                  then some (some (.int x22), s21)
                  else Option.bind (ab_gR s21 l0 10 3) fun x23 =>
                    Option.bind (ab_gR s21 l0 10 14) fun x24 =>
                    ab_rv (f_X8_build x23 x24 s21) fun s25 =>
                    ab_rv (f_X10_putSpareAt l0 l3 s25) fun s26 =>
                    some (some (.int x22), s26)
                else some (some (.int (-4 : Int32)), s5)
              else some (some (.int (-4 : Int32)), s5)
            else some (some (.int (-2 : Int32)), s5)) := congrArg (ab_rc st l0 10) ((lm_eq one_X10_join 0 _ _ _).trans rfl)
end
section
def c_X11_compareTerms : List (Nat × ab_I) := [(0, .aload_n 0, 1, .null, 0),
  (1, .getfield 16, 3, .null, 0),
  (4, .sipush (200), 3, (.int (200)), 0),
  (7, .iload_n 1, 1, .null, 1),
  (8, .imul, 1, .null, 0),
  (9, .iload_n 2, 1, .null, 2),
  (10, .iadd, 1, .null, 0),
  (11, .iaload, 1, .null, 0),
  (12, .istore 5, 2, .null, 5),
  (14, .aload_n 0, 1, .null, 0),
  (15, .getfield 16, 3, .null, 0),
  (18, .sipush (200), 3, (.int (200)), 0),
  (21, .iload_n 3, 1, .null, 3),
  (22, .imul, 1, .null, 0),
  (23, .iload 4, 2, .null, 4),
  (25, .iadd, 1, .null, 0),
  (26, .iaload, 1, .null, 0),
  (27, .istore 6, 2, .null, 6),
  (29, .iconst 0, 1, (.int (0)), 0),
  (30, .istore 7, 2, .null, 7),
  (32, .iload 7, 2, .null, 7),
  (34, .iload 5, 2, .null, 5),
  (36, .if_icmp .ge (44), 3, .null, 80),
  (39, .iload 7, 2, .null, 7),
  (41, .iload 6, 2, .null, 6),
  (43, .if_icmp .ge (37), 3, .null, 80),
  (46, .aload_n 0, 1, .null, 0),
  (47, .iload_n 1, 1, .null, 1),
  (48, .iload_n 2, 1, .null, 2),
  (49, .iload 7, 2, .null, 7),
  (51, .invokevirtual 153, 3, .null, 0),
  (54, .aload_n 0, 1, .null, 0),
  (55, .iload_n 3, 1, .null, 3),
  (56, .iload 4, 2, .null, 4),
  (58, .iload 7, 2, .null, 7),
  (60, .invokevirtual 153, 3, .null, 0),
  (63, .isub, 1, .null, 0),
  (64, .istore 8, 2, .null, 8),
  (66, .iload 8, 2, .null, 8),
  (68, .ifCond .eq (6), 3, .null, 74),
  (71, .iload 8, 2, .null, 8),
  (73, .ireturn, 1, .null, 0),
  (74, .iinc 7 (1), 3, (.int (1)), 7),
  (77, .goto (-45), 3, .null, 32),
  (80, .iload 5, 2, .null, 5),
  (82, .iload 6, 2, .null, 6),
  (84, .isub, 1, .null, 0),
  (85, .ireturn, 1, .null, 0)]
noncomputable def m_X11_compareTerms : ab_M := (c_X11_compareTerms, [(0, [0, 1, 2, 3, 4]), (32, [0, 1, 2, 3, 4, 5, 6, 7])],
  [(16, 11, 3, 3)],
  [],
  [(153, 1, 4, g_X11_letter)],
  [], 9, 1)
theorem one_X11_compareTerms : ab_oneM m_X11_compareTerms := List.forall_mem_cons.mpr ⟨o_X11_letter, fun _ h => absurd h List.not_mem_nil⟩
noncomputable def f_X11_compareTerms (l0 : Nat) (l1 : Int32) (l2 : Int32) (l3 : Int32) (l4 : Int32) (st : ab_S) : Option ab_R := ab_rc st l0 11 (ab_lim m_X11_compareTerms 0 [.ref l0, .int l1, .int l2, .int l3, .int l4] [] st)
noncomputable def L_X11_compareTerms_32 (l0 : Nat) (l1 : Int32) (l2 : Int32) (l3 : Int32) (l4 : Int32) (l5 : Int32) (l6 : Int32) (l7 : Int32) (st : ab_S) : Option ab_R := ab_lim m_X11_compareTerms 32 [.ref l0, .int l1, .int l2, .int l3, .int l4, .int l5, .int l6, .int l7] [] st
noncomputable def g_X11_compareTerms : ab_G := fun as st k => match as with
  | [.ref a0, .int a1, .int a2, .int a3, .int a4] => ab_ri (f_X11_compareTerms a0 a1 a2 a3 a4 st) (fun x t => k [.int x] t)
  | _ => none
theorem o_X11_compareTerms : ab_one g_X11_compareTerms := by
  intro as st k r h
  unfold g_X11_compareTerms at h ⊢
  split at h
  · exact one_ri h
  · cases h
set_option maxRecDepth 100000 in
theorem e_X11_compareTerms_0 (l0 : Nat) (l1 : Int32) (l2 : Int32) (l3 : Int32) (l4 : Int32) (st : ab_S) : f_X11_compareTerms l0 l1 l2 l3 l4 st =
    ab_rc st l0 11 (
    Option.bind (ab_gR st l0 11 3) fun x1 =>
    Option.bind (ab_rI st x1 (((200 : Int32) * l1) + l2)) fun x2 =>
    Option.bind (ab_gR st l0 11 3) fun x3 =>
    Option.bind (ab_rI st x3 (((200 : Int32) * l3) + l4)) fun x4 =>
    L_X11_compareTerms_32 l0 l1 l2 l3 l4 x2 x4 (0 : Int32) st) := congrArg (ab_rc st l0 11) ((lm_eq one_X11_compareTerms 0 _ _ _).trans rfl)
set_option maxRecDepth 100000 in
theorem e_X11_compareTerms_32 (l0 : Nat) (l1 : Int32) (l2 : Int32) (l3 : Int32) (l4 : Int32) (l5 : Int32) (l6 : Int32) (l7 : Int32) (st : ab_S) : L_X11_compareTerms_32 l0 l1 l2 l3 l4 l5 l6 l7 st =
    if l5 ≤ l7
    then some (some (.int (l5 - l6)), st)
    else if l6 ≤ l7
      then some (some (.int (l5 - l6)), st)
      else ab_ri (f_X11_letter l0 l1 l2 l7 st) fun x2 s1 =>
        ab_ri (f_X11_letter l0 l3 l4 l7 s1) fun x4 s3 =>
        if (x2 - x4) = 0
        then L_X11_compareTerms_32 l0 l1 l2 l3 l4 l5 l6 (l7 + (1 : Int32)) s3
        else some (some (.int (x2 - x4)), s3) := (lm_eq one_X11_compareTerms 32 _ _ _).trans rfl
def c_X11_copy : List (Nat × ab_I) := [(0, .aload_n 0, 1, .null, 0),
  (1, .getfield 24, 3, .null, 0),
  (4, .iload_n 2, 1, .null, 2),
  (5, .aload_n 0, 1, .null, 0),
  (6, .getfield 24, 3, .null, 0),
  (9, .iload_n 1, 1, .null, 1),
  (10, .iaload, 1, .null, 0),
  (11, .iastore, 1, .null, 0),
  (12, .iconst 0, 1, (.int (0)), 0),
  (13, .istore_n 3, 1, .null, 3),
  (14, .iload_n 3, 1, .null, 3),
  (15, .sipush (2400), 3, (.int (2400)), 0),
  (18, .if_icmp .ge (33), 3, .null, 51),
  (21, .aload_n 0, 1, .null, 0),
  (22, .getfield 13, 3, .null, 0),
  (25, .sipush (2400), 3, (.int (2400)), 0),
  (28, .iload_n 2, 1, .null, 2),
  (29, .imul, 1, .null, 0),
  (30, .iload_n 3, 1, .null, 3),
  (31, .iadd, 1, .null, 0),
  (32, .aload_n 0, 1, .null, 0),
  (33, .getfield 13, 3, .null, 0),
  (36, .sipush (2400), 3, (.int (2400)), 0),
  (39, .iload_n 1, 1, .null, 1),
  (40, .imul, 1, .null, 0),
  (41, .iload_n 3, 1, .null, 3),
  (42, .iadd, 1, .null, 0),
  (43, .baload, 1, .null, 0),
  (44, .bastore, 1, .null, 0),
  (45, .iinc 3 (1), 3, (.int (1)), 3),
  (48, .goto (-34), 3, .null, 14),
  (51, .iconst 0, 1, (.int (0)), 0),
  (52, .istore_n 3, 1, .null, 3),
  (53, .iload_n 3, 1, .null, 3),
  (54, .sipush (200), 3, (.int (200)), 0),
  (57, .if_icmp .ge (57), 3, .null, 114),
  (60, .aload_n 0, 1, .null, 0),
  (61, .getfield 16, 3, .null, 0),
  (64, .sipush (200), 3, (.int (200)), 0),
  (67, .iload_n 2, 1, .null, 2),
  (68, .imul, 1, .null, 0),
  (69, .iload_n 3, 1, .null, 3),
  (70, .iadd, 1, .null, 0),
  (71, .aload_n 0, 1, .null, 0),
  (72, .getfield 16, 3, .null, 0),
  (75, .sipush (200), 3, (.int (200)), 0),
  (78, .iload_n 1, 1, .null, 1),
  (79, .imul, 1, .null, 0),
  (80, .iload_n 3, 1, .null, 3),
  (81, .iadd, 1, .null, 0),
  (82, .iaload, 1, .null, 0),
  (83, .iastore, 1, .null, 0),
  (84, .aload_n 0, 1, .null, 0),
  (85, .getfield 20, 3, .null, 0),
  (88, .sipush (200), 3, (.int (200)), 0),
  (91, .iload_n 2, 1, .null, 2),
  (92, .imul, 1, .null, 0),
  (93, .iload_n 3, 1, .null, 3),
  (94, .iadd, 1, .null, 0),
  (95, .aload_n 0, 1, .null, 0),
  (96, .getfield 20, 3, .null, 0),
  (99, .sipush (200), 3, (.int (200)), 0),
  (102, .iload_n 1, 1, .null, 1),
  (103, .imul, 1, .null, 0),
  (104, .iload_n 3, 1, .null, 3),
  (105, .iadd, 1, .null, 0),
  (106, .laload, 1, .null, 0),
  (107, .lastore, 1, .null, 0),
  (108, .iinc 3 (1), 3, (.int (1)), 3),
  (111, .goto (-58), 3, .null, 53),
  (114, .return_, 1, .null, 0)]
noncomputable def m_X11_copy : ab_M := (c_X11_copy, [(0, [0, 1, 2]), (14, [0, 1, 2, 3]), (53, [0, 1, 2, 3])],
  [(13, 11, 2, 3), (16, 11, 3, 3), (20, 11, 4, 3), (24, 11, 5, 3)],
  [],
  [],
  [], 4, 0)
theorem one_X11_copy : ab_oneM m_X11_copy := fun _ h => absurd h List.not_mem_nil
noncomputable def f_X11_copy (l0 : Nat) (l1 : Int32) (l2 : Int32) (st : ab_S) : Option ab_R := ab_rc st l0 11 (ab_lim m_X11_copy 0 [.ref l0, .int l1, .int l2] [] st)
noncomputable def L_X11_copy_14 (l0 : Nat) (l1 : Int32) (l2 : Int32) (l3 : Int32) (st : ab_S) : Option ab_R := ab_lim m_X11_copy 14 [.ref l0, .int l1, .int l2, .int l3] [] st
noncomputable def L_X11_copy_53 (l0 : Nat) (l1 : Int32) (l2 : Int32) (l3 : Int32) (st : ab_S) : Option ab_R := ab_lim m_X11_copy 53 [.ref l0, .int l1, .int l2, .int l3] [] st
noncomputable def g_X11_copy : ab_G := fun as st k => match as with
  | [.ref a0, .int a1, .int a2] => ab_rv (f_X11_copy a0 a1 a2 st) (fun t => k [] t)
  | _ => none
theorem o_X11_copy : ab_one g_X11_copy := by
  intro as st k r h
  unfold g_X11_copy at h ⊢
  split at h
  · exact one_rv h
  · cases h
set_option maxRecDepth 100000 in
theorem e_X11_copy_0 (l0 : Nat) (l1 : Int32) (l2 : Int32) (st : ab_S) : f_X11_copy l0 l1 l2 st =
    ab_rc st l0 11 (
    Option.bind (ab_gR st l0 11 5) fun x1 =>
    Option.bind (ab_gR st l0 11 5) fun x2 =>
    Option.bind (ab_rI st x2 l1) fun x3 =>
    Option.bind (ab_wI st x1 l2 x3) fun s4 =>
    L_X11_copy_14 l0 l1 l2 (0 : Int32) s4) := congrArg (ab_rc st l0 11) ((lm_eq one_X11_copy 0 _ _ _).trans rfl)
set_option maxRecDepth 100000 in
theorem e_X11_copy_14 (l0 : Nat) (l1 : Int32) (l2 : Int32) (l3 : Int32) (st : ab_S) : L_X11_copy_14 l0 l1 l2 l3 st =
    if (2400 : Int32) ≤ l3
    then L_X11_copy_53 l0 l1 l2 (0 : Int32) st
    else Option.bind (ab_gR st l0 11 2) fun x1 =>
      Option.bind (ab_gR st l0 11 2) fun x2 =>
      Option.bind (ab_rB st x2 (((2400 : Int32) * l1) + l3)) fun x3 =>
      Option.bind (ab_wB st x1 (((2400 : Int32) * l2) + l3) x3) fun s4 =>
      L_X11_copy_14 l0 l1 l2 (l3 + (1 : Int32)) s4 := (lm_eq one_X11_copy 14 _ _ _).trans rfl
set_option maxRecDepth 100000 in
theorem e_X11_copy_53 (l0 : Nat) (l1 : Int32) (l2 : Int32) (l3 : Int32) (st : ab_S) : L_X11_copy_53 l0 l1 l2 l3 st =
    if (200 : Int32) ≤ l3
    then some (none, st)
    else Option.bind (ab_gR st l0 11 3) fun x1 =>
      Option.bind (ab_gR st l0 11 3) fun x2 =>
      Option.bind (ab_rI st x2 (((200 : Int32) * l1) + l3)) fun x3 =>
      Option.bind (ab_wI st x1 (((200 : Int32) * l2) + l3) x3) fun s4 =>
      Option.bind (ab_gR s4 l0 11 4) fun x5 =>
      Option.bind (ab_gR s4 l0 11 4) fun x6 =>
      Option.bind (ab_rJ s4 x6 (((200 : Int32) * l1) + l3)) fun x7 =>
      Option.bind (ab_wJ s4 x5 (((200 : Int32) * l2) + l3) x7) fun s8 =>
      L_X11_copy_53 l0 l1 l2 (l3 + (1 : Int32)) s8 := (lm_eq one_X11_copy 53 _ _ _).trans rfl
def c_X11_come : List (Nat × ab_I) := [(0, .aload_n 0, 1, .null, 0),
  (1, .iconst 4, 1, (.int (4)), 0),
  (2, .iload_n 1, 1, .null, 1),
  (3, .invokevirtual 338, 3, .null, 0),
  (6, .aload_n 0, 1, .null, 0),
  (7, .getfield 27, 3, .null, 0),
  (10, .iload_n 1, 1, .null, 1),
  (11, .iconst 0, 1, (.int (0)), 0),
  (12, .bastore, 1, .null, 0),
  (13, .aload_n 0, 1, .null, 0),
  (14, .getfield 31, 3, .null, 0),
  (17, .iload_n 1, 1, .null, 1),
  (18, .dup2, 1, .null, 0),
  (19, .iaload, 1, .null, 0),
  (20, .iconst 1, 1, (.int (1)), 0),
  (21, .iadd, 1, .null, 0),
  (22, .iastore, 1, .null, 0),
  (23, .return_, 1, .null, 0)]
noncomputable def m_X11_come : ab_M := (c_X11_come, [(0, [0, 1])],
  [(27, 11, 6, 3), (31, 11, 7, 3)],
  [],
  [(338, 1, 3, g_X11_copy)],
  [], 2, 0)
theorem one_X11_come : ab_oneM m_X11_come := List.forall_mem_cons.mpr ⟨o_X11_copy, fun _ h => absurd h List.not_mem_nil⟩
noncomputable def f_X11_come (l0 : Nat) (l1 : Int32) (st : ab_S) : Option ab_R := ab_rc st l0 11 (ab_lim m_X11_come 0 [.ref l0, .int l1] [] st)
noncomputable def g_X11_come : ab_G := fun as st k => match as with
  | [.ref a0, .int a1] => ab_rv (f_X11_come a0 a1 st) (fun t => k [] t)
  | _ => none
theorem o_X11_come : ab_one g_X11_come := by
  intro as st k r h
  unfold g_X11_come at h ⊢
  split at h
  · exact one_rv h
  · cases h
set_option maxRecDepth 100000 in
theorem e_X11_come_0 (l0 : Nat) (l1 : Int32) (st : ab_S) : f_X11_come l0 l1 st =
    ab_rc st l0 11 (
    ab_rv (f_X11_copy l0 (4 : Int32) l1 st) fun s1 =>
    Option.bind (ab_gR s1 l0 11 6) fun x2 =>
    Option.bind (ab_wB s1 x2 l1 (0 : Int32)) fun s3 =>
    Option.bind (ab_gR s3 l0 11 7) fun x4 =>
    Option.bind (ab_rI s3 x4 l1) fun x5 =>
    Option.bind (ab_wI s3 x4 l1 (x5 + (1 : Int32))) fun s6 =>
    some (none, s6)) := congrArg (ab_rc st l0 11) ((lm_eq one_X11_come 0 _ _ _).trans rfl)
def c_X11_join : List (Nat × ab_I) := [(0, .iload_n 1, 1, .null, 1),
  (1, .invokestatic 159, 3, .null, 0),
  (4, .ifCond .eq (30), 3, .null, 34),
  (7, .iload_n 2, 1, .null, 2),
  (8, .invokestatic 159, 3, .null, 0),
  (11, .ifCond .eq (23), 3, .null, 34),
  (14, .iload_n 3, 1, .null, 3),
  (15, .invokestatic 159, 3, .null, 0),
  (18, .ifCond .eq (16), 3, .null, 34),
  (21, .iload 4, 2, .null, 4),
  (23, .i2l, 1, .null, 0),
  (24, .lconst 0, 1, (.long (0)), 0),
  (25, .ldc2_w 157, 3, (.long (3)), 0),
  (28, .invokestatic 146, 3, .null, 0),
  (31, .ifCond .ne (6), 3, .null, 37),
  (34, .bipush (-2), 2, (.int (-2)), 0),
  (36, .ireturn, 1, .null, 0),
  (37, .aload_n 0, 1, .null, 0),
  (38, .getfield 27, 3, .null, 0),
  (41, .iload_n 1, 1, .null, 1),
  (42, .baload, 1, .null, 0),
  (43, .ifCond .ne (12), 3, .null, 55),
  (46, .aload_n 0, 1, .null, 0),
  (47, .getfield 27, 3, .null, 0),
  (50, .iload_n 2, 1, .null, 2),
  (51, .baload, 1, .null, 0),
  (52, .ifCond .eq (6), 3, .null, 58),
  (55, .bipush (-4), 2, (.int (-4)), 0),
  (57, .ireturn, 1, .null, 0),
  (58, .iconst 0, 1, (.int (0)), 0),
  (59, .istore 5, 2, .null, 5),
  (61, .iconst 0, 1, (.int (0)), 0),
  (62, .istore 6, 2, .null, 6),
  (64, .iconst 0, 1, (.int (0)), 0),
  (65, .istore 7, 2, .null, 7),
  (67, .iconst 0, 1, (.int (0)), 0),
  (68, .istore 8, 2, .null, 8),
  (70, .aload_n 0, 1, .null, 0),
  (71, .getfield 24, 3, .null, 0),
  (74, .iconst 4, 1, (.int (4)), 0),
  (75, .iconst 0, 1, (.int (0)), 0),
  (76, .iastore, 1, .null, 0),
  (77, .iload 5, 2, .null, 5),
  (79, .aload_n 0, 1, .null, 0),
  (80, .getfield 24, 3, .null, 0),
  (83, .iload_n 1, 1, .null, 1),
  (84, .iaload, 1, .null, 0),
  (85, .if_icmp .lt (14), 3, .null, 99),
  (88, .iload 6, 2, .null, 6),
  (90, .aload_n 0, 1, .null, 0),
  (91, .getfield 24, 3, .null, 0),
  (94, .iload_n 2, 1, .null, 2),
  (95, .iaload, 1, .null, 0),
  (96, .if_icmp .ge (328), 3, .null, 424),
  (99, .iload 5, 2, .null, 5),
  (101, .aload_n 0, 1, .null, 0),
  (102, .getfield 24, 3, .null, 0),
  (105, .iload_n 1, 1, .null, 1),
  (106, .iaload, 1, .null, 0),
  (107, .if_icmp .ne (7), 3, .null, 114),
  (110, .iconst 1, 1, (.int (1)), 0),
  (111, .goto (28), 3, .null, 139),
  (114, .iload 6, 2, .null, 6),
  (116, .aload_n 0, 1, .null, 0),
  (117, .getfield 24, 3, .null, 0),
  (120, .iload_n 2, 1, .null, 2),
  (121, .iaload, 1, .null, 0),
  (122, .if_icmp .ne (7), 3, .null, 129),
  (125, .iconst (-1), 1, (.int (-1)), 0),
  (126, .goto (13), 3, .null, 139),
  (129, .aload_n 0, 1, .null, 0),
  (130, .iload_n 1, 1, .null, 1),
  (131, .iload 5, 2, .null, 5),
  (133, .iload_n 2, 1, .null, 2),
  (134, .iload 6, 2, .null, 6),
  (136, .invokevirtual 331, 3, .null, 0),
  (139, .istore 9, 2, .null, 9),
  (141, .iload 9, 2, .null, 9),
  (143, .ifCond .ne (17), 3, .null, 160),
  (146, .iload 4, 2, .null, 4),
  (148, .iconst 2, 1, (.int (2)), 0),
  (149, .if_icmp .ge (7), 3, .null, 156),
  (152, .iconst 1, 1, (.int (1)), 0),
  (153, .goto (42), 3, .null, 195),
  (156, .iconst 0, 1, (.int (0)), 0),
  (157, .goto (38), 3, .null, 195),
  (160, .iload 9, 2, .null, 9),
  (162, .ifCond .ge (17), 3, .null, 179),
  (165, .iload 4, 2, .null, 4),
  (167, .iconst 1, 1, (.int (1)), 0),
  (168, .if_icmp .eq (7), 3, .null, 175),
  (171, .iconst 1, 1, (.int (1)), 0),
  (172, .goto (23), 3, .null, 195),
  (175, .iconst 0, 1, (.int (0)), 0),
  (176, .goto (19), 3, .null, 195),
  (179, .iload 4, 2, .null, 4),
  (181, .ifCond .eq (9), 3, .null, 190),
  (184, .iload 4, 2, .null, 4),
  (186, .iconst 3, 1, (.int (3)), 0),
  (187, .if_icmp .ne (7), 3, .null, 194),
  (190, .iconst 1, 1, (.int (1)), 0),
  (191, .goto (4), 3, .null, 195),
  (194, .iconst 0, 1, (.int (0)), 0),
  (195, .istore 10, 2, .null, 10),
  (197, .iload 10, 2, .null, 10),
  (199, .ifCond .eq (192), 3, .null, 391),
  (202, .iload 9, 2, .null, 9),
  (204, .ifCond .ge (19), 3, .null, 223),
  (207, .aload_n 0, 1, .null, 0),
  (208, .getfield 20, 3, .null, 0),
  (211, .sipush (200), 3, (.int (200)), 0),
  (214, .iload_n 1, 1, .null, 1),
  (215, .imul, 1, .null, 0),
  (216, .iload 5, 2, .null, 5),
  (218, .iadd, 1, .null, 0),
  (219, .laload, 1, .null, 0),
  (220, .goto (88), 3, .null, 308),
  (223, .iload 9, 2, .null, 9),
  (225, .ifCond .le (19), 3, .null, 244),
  (228, .aload_n 0, 1, .null, 0),
  (229, .getfield 20, 3, .null, 0),
  (232, .sipush (200), 3, (.int (200)), 0),
  (235, .iload_n 2, 1, .null, 2),
  (236, .imul, 1, .null, 0),
  (237, .iload 6, 2, .null, 6),
  (239, .iadd, 1, .null, 0),
  (240, .laload, 1, .null, 0),
  (241, .goto (67), 3, .null, 308),
  (244, .iload 4, 2, .null, 4),
  (246, .ifCond .ne (35), 3, .null, 281),
  (249, .aload_n 0, 1, .null, 0),
  (250, .getfield 20, 3, .null, 0),
  (253, .sipush (200), 3, (.int (200)), 0),
  (256, .iload_n 1, 1, .null, 1),
  (257, .imul, 1, .null, 0),
  (258, .iload 5, 2, .null, 5),
  (260, .iadd, 1, .null, 0),
  (261, .laload, 1, .null, 0),
  (262, .aload_n 0, 1, .null, 0),
  (263, .getfield 20, 3, .null, 0),
  (266, .sipush (200), 3, (.int (200)), 0),
  (269, .iload_n 2, 1, .null, 2),
  (270, .imul, 1, .null, 0),
  (271, .iload 6, 2, .null, 6),
  (273, .iadd, 1, .null, 0),
  (274, .laload, 1, .null, 0),
  (275, .invokestatic 198, 3, .null, 0),
  (278, .goto (30), 3, .null, 308),
  (281, .aload_n 0, 1, .null, 0),
  (282, .getfield 20, 3, .null, 0),
  (285, .sipush (200), 3, (.int (200)), 0),
  (288, .iload_n 1, 1, .null, 1),
  (289, .imul, 1, .null, 0),
  (290, .iload 5, 2, .null, 5),
  (292, .iadd, 1, .null, 0),
  (293, .laload, 1, .null, 0),
  (294, .aload_n 0, 1, .null, 0),
  (295, .getfield 20, 3, .null, 0),
  (298, .sipush (200), 3, (.int (200)), 0),
  (301, .iload_n 2, 1, .null, 2),
  (302, .imul, 1, .null, 0),
  (303, .iload 6, 2, .null, 6),
  (305, .iadd, 1, .null, 0),
  (306, .laload, 1, .null, 0),
  (307, .ladd, 1, .null, 0),
  (308, .lstore 11, 2, .null, 11),
  (310, .iload 8, 2, .null, 8),
  (312, .ifCond .ne (12), 3, .null, 324),
  (315, .lload 11, 2, .null, 11),
  (317, .ldc2_w 163, 3, (.long (1000000000000)), 0),
  (320, .lcmp, 1, .null, 0),
  (321, .ifCond .le (7), 3, .null, 328),
  (324, .iconst 1, 1, (.int (1)), 0),
  (325, .goto (4), 3, .null, 329),
  (328, .iconst 0, 1, (.int (0)), 0),
  (329, .istore 8, 2, .null, 8),
  (331, .iload 9, 2, .null, 9),
  (333, .ifCond .le (14), 3, .null, 347),
  (336, .sipush (200), 3, (.int (200)), 0),
  (339, .iload_n 2, 1, .null, 2),
  (340, .imul, 1, .null, 0),
  (341, .iload 6, 2, .null, 6),
  (343, .iadd, 1, .null, 0),
  (344, .goto (11), 3, .null, 355),
  (347, .sipush (200), 3, (.int (200)), 0),
  (350, .iload_n 1, 1, .null, 1),
  (351, .imul, 1, .null, 0),
  (352, .iload 5, 2, .null, 5),
  (354, .iadd, 1, .null, 0),
  (355, .istore 13, 2, .null, 13),
  (357, .iload 7, 2, .null, 7),
  (359, .sipush (200), 3, (.int (200)), 0),
  (362, .if_icmp .ge (26), 3, .null, 388),
  (365, .aload_n 0, 1, .null, 0),
  (366, .iconst 4, 1, (.int (4)), 0),
  (367, .aload_n 0, 1, .null, 0),
  (368, .getfield 13, 3, .null, 0),
  (371, .bipush (12), 2, (.int (12)), 0),
  (373, .iload 13, 2, .null, 13),
  (375, .imul, 1, .null, 0),
  (376, .aload_n 0, 1, .null, 0),
  (377, .getfield 16, 3, .null, 0),
  (380, .iload 13, 2, .null, 13),
  (382, .iaload, 1, .null, 0),
  (383, .lload 11, 2, .null, 11),
  (385, .invokevirtual 172, 3, .null, 0),
  (388, .iinc 7 (1), 3, (.int (1)), 7),
  (391, .iload 5, 2, .null, 5),
  (393, .iload 9, 2, .null, 9),
  (395, .ifCond .gt (7), 3, .null, 402),
  (398, .iconst 1, 1, (.int (1)), 0),
  (399, .goto (4), 3, .null, 403),
  (402, .iconst 0, 1, (.int (0)), 0),
  (403, .iadd, 1, .null, 0),
  (404, .istore 5, 2, .null, 5),
  (406, .iload 6, 2, .null, 6),
  (408, .iload 9, 2, .null, 9),
  (410, .ifCond .lt (7), 3, .null, 417),
  (413, .iconst 1, 1, (.int (1)), 0),
  (414, .goto (4), 3, .null, 418),
  (417, .iconst 0, 1, (.int (0)), 0),
  (418, .iadd, 1, .null, 0),
  (419, .istore 6, 2, .null, 6),
  (421, .goto (-344), 3, .null, 77),
  (424, .iload 7, 2, .null, 7),
  (426, .sipush (200), 3, (.int (200)), 0),
  (429, .if_icmp .le (6), 3, .null, 435),
  (432, .bipush (-3), 2, (.int (-3)), 0),
  (434, .ireturn, 1, .null, 0),
  (435, .iload 8, 2, .null, 8),
  (437, .ifCond .eq (6), 3, .null, 443),
  (440, .bipush (-6), 2, (.int (-6)), 0),
  (442, .ireturn, 1, .null, 0),
  (443, .aload_n 0, 1, .null, 0),
  (444, .iload_n 3, 1, .null, 3),
  (445, .invokevirtual 335, 3, .null, 0),
  (448, .iload 7, 2, .null, 7),
  (450, .ireturn, 1, .null, 0)]
noncomputable def m_X11_join : ab_M := (c_X11_join, [(0, [0, 1, 2, 3, 4]), (77, [0, 1, 2, 3, 4, 5, 6, 7, 8]), (99, [0, 1, 2, 3, 4, 5, 6, 7, 8]), (139, [0, 1, 2, 3, 4, 5, 6, 7, 8]), (190, [0, 1, 2, 3, 4, 5, 6, 7, 8, 9]), (195, [0, 1, 2, 3, 4, 5, 6, 7, 8, 9]), (308, [0, 1, 2, 3, 4, 5, 6, 7, 8, 9]), (324, [0, 1, 2, 3, 4, 5, 6, 7, 9, 11]), (329, [0, 1, 2, 3, 4, 5, 6, 7, 9, 11]), (355, [0, 1, 2, 3, 4, 5, 6, 7, 8, 9, 11]), (388, [0, 1, 2, 3, 4, 5, 6, 7, 8, 9]), (391, [0, 1, 2, 3, 4, 5, 6, 7, 8, 9]), (403, [0, 1, 2, 3, 4, 6, 7, 8, 9]), (418, [0, 1, 2, 3, 4, 5, 7, 8])],
  [(13, 11, 2, 3), (16, 11, 3, 3), (20, 11, 4, 3), (24, 11, 5, 3), (27, 11, 6, 3)],
  [],
  [(146, 0, 3, g_X11_isIn), (159, 0, 1, g_X11_isDictionary), (172, 1, 6, g_X11_append), (198, 0, 2, g_X11_lesser), (331, 1, 5, g_X11_compareTerms), (335, 1, 2, g_X11_come)],
  [], 14, 1)
theorem one_X11_join : ab_oneM m_X11_join := List.forall_mem_cons.mpr ⟨o_X11_isIn, List.forall_mem_cons.mpr ⟨o_X11_isDictionary, List.forall_mem_cons.mpr ⟨o_X11_append, List.forall_mem_cons.mpr ⟨o_X11_lesser, List.forall_mem_cons.mpr ⟨o_X11_compareTerms, List.forall_mem_cons.mpr ⟨o_X11_come, fun _ h => absurd h List.not_mem_nil⟩⟩⟩⟩⟩⟩
noncomputable def f_X11_join (l0 : Nat) (l1 : Int32) (l2 : Int32) (l3 : Int32) (l4 : Int32) (st : ab_S) : Option ab_R := ab_rc st l0 11 (ab_lim m_X11_join 0 [.ref l0, .int l1, .int l2, .int l3, .int l4] [] st)
noncomputable def L_X11_join_77 (l0 : Nat) (l1 : Int32) (l2 : Int32) (l3 : Int32) (l4 : Int32) (l5 : Int32) (l6 : Int32) (l7 : Int32) (l8 : Int32) (st : ab_S) : Option ab_R := ab_lim m_X11_join 77 [.ref l0, .int l1, .int l2, .int l3, .int l4, .int l5, .int l6, .int l7, .int l8] [] st
noncomputable def L_X11_join_99 (l0 : Nat) (l1 : Int32) (l2 : Int32) (l3 : Int32) (l4 : Int32) (l5 : Int32) (l6 : Int32) (l7 : Int32) (l8 : Int32) (st : ab_S) : Option ab_R := ab_lim m_X11_join 99 [.ref l0, .int l1, .int l2, .int l3, .int l4, .int l5, .int l6, .int l7, .int l8] [] st
noncomputable def L_X11_join_139 (l0 : Nat) (l1 : Int32) (l2 : Int32) (l3 : Int32) (l4 : Int32) (l5 : Int32) (l6 : Int32) (l7 : Int32) (l8 : Int32) (t0 : Int32) (st : ab_S) : Option ab_R := ab_lim m_X11_join 139 [.ref l0, .int l1, .int l2, .int l3, .int l4, .int l5, .int l6, .int l7, .int l8] [.int t0] st
noncomputable def L_X11_join_190 (l0 : Nat) (l1 : Int32) (l2 : Int32) (l3 : Int32) (l4 : Int32) (l5 : Int32) (l6 : Int32) (l7 : Int32) (l8 : Int32) (l9 : Int32) (st : ab_S) : Option ab_R := ab_lim m_X11_join 190 [.ref l0, .int l1, .int l2, .int l3, .int l4, .int l5, .int l6, .int l7, .int l8, .int l9] [] st
noncomputable def L_X11_join_195 (l0 : Nat) (l1 : Int32) (l2 : Int32) (l3 : Int32) (l4 : Int32) (l5 : Int32) (l6 : Int32) (l7 : Int32) (l8 : Int32) (l9 : Int32) (t0 : Int32) (st : ab_S) : Option ab_R := ab_lim m_X11_join 195 [.ref l0, .int l1, .int l2, .int l3, .int l4, .int l5, .int l6, .int l7, .int l8, .int l9] [.int t0] st
noncomputable def L_X11_join_308 (l0 : Nat) (l1 : Int32) (l2 : Int32) (l3 : Int32) (l4 : Int32) (l5 : Int32) (l6 : Int32) (l7 : Int32) (l8 : Int32) (l9 : Int32) (t0 : Int64) (st : ab_S) : Option ab_R := ab_lim m_X11_join 308 [.ref l0, .int l1, .int l2, .int l3, .int l4, .int l5, .int l6, .int l7, .int l8, .int l9] [.long t0] st
noncomputable def L_X11_join_324 (l0 : Nat) (l1 : Int32) (l2 : Int32) (l3 : Int32) (l4 : Int32) (l5 : Int32) (l6 : Int32) (l7 : Int32) (l9 : Int32) (l11 : Int64) (st : ab_S) : Option ab_R := ab_lim m_X11_join 324 [.ref l0, .int l1, .int l2, .int l3, .int l4, .int l5, .int l6, .int l7, .int l9, .long l11] [] st
noncomputable def L_X11_join_329 (l0 : Nat) (l1 : Int32) (l2 : Int32) (l3 : Int32) (l4 : Int32) (l5 : Int32) (l6 : Int32) (l7 : Int32) (l9 : Int32) (l11 : Int64) (t0 : Int32) (st : ab_S) : Option ab_R := ab_lim m_X11_join 329 [.ref l0, .int l1, .int l2, .int l3, .int l4, .int l5, .int l6, .int l7, .int l9, .long l11] [.int t0] st
noncomputable def L_X11_join_355 (l0 : Nat) (l1 : Int32) (l2 : Int32) (l3 : Int32) (l4 : Int32) (l5 : Int32) (l6 : Int32) (l7 : Int32) (l8 : Int32) (l9 : Int32) (l11 : Int64) (t0 : Int32) (st : ab_S) : Option ab_R := ab_lim m_X11_join 355 [.ref l0, .int l1, .int l2, .int l3, .int l4, .int l5, .int l6, .int l7, .int l8, .int l9, .long l11] [.int t0] st
noncomputable def L_X11_join_388 (l0 : Nat) (l1 : Int32) (l2 : Int32) (l3 : Int32) (l4 : Int32) (l5 : Int32) (l6 : Int32) (l7 : Int32) (l8 : Int32) (l9 : Int32) (st : ab_S) : Option ab_R := ab_lim m_X11_join 388 [.ref l0, .int l1, .int l2, .int l3, .int l4, .int l5, .int l6, .int l7, .int l8, .int l9] [] st
noncomputable def L_X11_join_391 (l0 : Nat) (l1 : Int32) (l2 : Int32) (l3 : Int32) (l4 : Int32) (l5 : Int32) (l6 : Int32) (l7 : Int32) (l8 : Int32) (l9 : Int32) (st : ab_S) : Option ab_R := ab_lim m_X11_join 391 [.ref l0, .int l1, .int l2, .int l3, .int l4, .int l5, .int l6, .int l7, .int l8, .int l9] [] st
noncomputable def L_X11_join_403 (l0 : Nat) (l1 : Int32) (l2 : Int32) (l3 : Int32) (l4 : Int32) (l6 : Int32) (l7 : Int32) (l8 : Int32) (l9 : Int32) (t0 : Int32) (t1 : Int32) (st : ab_S) : Option ab_R := ab_lim m_X11_join 403 [.ref l0, .int l1, .int l2, .int l3, .int l4, .int l6, .int l7, .int l8, .int l9] [.int t1, .int t0] st
noncomputable def L_X11_join_418 (l0 : Nat) (l1 : Int32) (l2 : Int32) (l3 : Int32) (l4 : Int32) (l5 : Int32) (l7 : Int32) (l8 : Int32) (t0 : Int32) (t1 : Int32) (st : ab_S) : Option ab_R := ab_lim m_X11_join 418 [.ref l0, .int l1, .int l2, .int l3, .int l4, .int l5, .int l7, .int l8] [.int t1, .int t0] st
noncomputable def g_X11_join : ab_G := fun as st k => match as with
  | [.ref a0, .int a1, .int a2, .int a3, .int a4] => ab_ri (f_X11_join a0 a1 a2 a3 a4 st) (fun x t => k [.int x] t)
  | _ => none
theorem o_X11_join : ab_one g_X11_join := by
  intro as st k r h
  unfold g_X11_join at h ⊢
  split at h
  · exact one_ri h
  · cases h
set_option maxRecDepth 100000 in
theorem e_X11_join_0 (l0 : Nat) (l1 : Int32) (l2 : Int32) (l3 : Int32) (l4 : Int32) (st : ab_S) : f_X11_join l0 l1 l2 l3 l4 st =
    ab_rc st l0 11 (
    ab_ri (f_X11_isDictionary l1 st) fun x2 s1 =>
    if x2 = 0
    then some (some (.int (-2 : Int32)), s1)
    else ab_ri (f_X11_isDictionary l2 s1) fun x4 s3 =>
      if x4 = 0
      then some (some (.int (-2 : Int32)), s3)
      else ab_ri (f_X11_isDictionary l3 s3) fun x6 s5 =>
        if x6 = 0
        then some (some (.int (-2 : Int32)), s5)
        else ab_ri (f_X11_isIn l4.toInt64 (0 : Int64) (3 : Int64) s5) fun x8 s7 =>
          if x8 = 0
          then some (some (.int (-2 : Int32)), s7)
          else Option.bind (ab_gR s7 l0 11 6) fun x9 =>
            Option.bind (ab_rB s7 x9 l1) fun x10 =>
            if x10 = 0
            then Option.bind (ab_gR s7 l0 11 6) fun x11 =>
              Option.bind (ab_rB s7 x11 l2) fun x12 =>
              if x12 = 0
              then Option.bind (ab_gR s7 l0 11 5) fun x13 =>
                Option.bind (ab_wI s7 x13 (4 : Int32) (0 : Int32)) fun s14 =>
                L_X11_join_77 l0 l1 l2 l3 l4 (0 : Int32) (0 : Int32) (0 : Int32) (0 : Int32) s14
              else some (some (.int (-4 : Int32)), s7)
            else some (some (.int (-4 : Int32)), s7)) := congrArg (ab_rc st l0 11) ((lm_eq one_X11_join 0 _ _ _).trans rfl)
set_option maxRecDepth 100000 in
theorem e_X11_join_77 (l0 : Nat) (l1 : Int32) (l2 : Int32) (l3 : Int32) (l4 : Int32) (l5 : Int32) (l6 : Int32) (l7 : Int32) (l8 : Int32) (st : ab_S) : L_X11_join_77 l0 l1 l2 l3 l4 l5 l6 l7 l8 st =
    Option.bind (ab_gR st l0 11 5) fun x1 =>
    Option.bind (ab_rI st x1 l1) fun x2 =>
    if l5 < x2
    then L_X11_join_99 l0 l1 l2 l3 l4 l5 l6 l7 l8 st
    else Option.bind (ab_gR st l0 11 5) fun x3 =>
      Option.bind (ab_rI st x3 l2) fun x4 =>
      if x4 ≤ l6
      then if l7 ≤ (200 : Int32)
        then if l8 = 0
          then ab_rv (f_X11_come l0 l3 st) fun s5 =>
            some (some (.int l7), s5)
          else some (some (.int (-6 : Int32)), st)
        else some (some (.int (-3 : Int32)), st)
      else L_X11_join_99 l0 l1 l2 l3 l4 l5 l6 l7 l8 st := (lm_eq one_X11_join 77 _ _ _).trans rfl
set_option maxRecDepth 100000 in
theorem e_X11_join_99 (l0 : Nat) (l1 : Int32) (l2 : Int32) (l3 : Int32) (l4 : Int32) (l5 : Int32) (l6 : Int32) (l7 : Int32) (l8 : Int32) (st : ab_S) : L_X11_join_99 l0 l1 l2 l3 l4 l5 l6 l7 l8 st =
    Option.bind (ab_gR st l0 11 5) fun x1 =>
    Option.bind (ab_rI st x1 l1) fun x2 =>
    if l5 = x2
    then L_X11_join_139 l0 l1 l2 l3 l4 l5 l6 l7 l8 (1 : Int32) st
    else Option.bind (ab_gR st l0 11 5) fun x3 =>
      Option.bind (ab_rI st x3 l2) fun x4 =>
      if l6 = x4
      then L_X11_join_139 l0 l1 l2 l3 l4 l5 l6 l7 l8 (-1 : Int32) st
      else ab_ri (f_X11_compareTerms l0 l1 l5 l2 l6 st) fun x6 s5 =>
        L_X11_join_139 l0 l1 l2 l3 l4 l5 l6 l7 l8 x6 s5 := (lm_eq one_X11_join 99 _ _ _).trans rfl
set_option maxRecDepth 100000 in
theorem e_X11_join_139 (l0 : Nat) (l1 : Int32) (l2 : Int32) (l3 : Int32) (l4 : Int32) (l5 : Int32) (l6 : Int32) (l7 : Int32) (l8 : Int32) (t0 : Int32) (st : ab_S) : L_X11_join_139 l0 l1 l2 l3 l4 l5 l6 l7 l8 t0 st =
    if t0 = 0
    then if (2 : Int32) ≤ l4
      then L_X11_join_195 l0 l1 l2 l3 l4 l5 l6 l7 l8 t0 (0 : Int32) st
      else L_X11_join_195 l0 l1 l2 l3 l4 l5 l6 l7 l8 t0 (1 : Int32) st
    else if 0 ≤ t0
      then if l4 = 0
        then L_X11_join_190 l0 l1 l2 l3 l4 l5 l6 l7 l8 t0 st
        else if l4 = (3 : Int32)
          then L_X11_join_190 l0 l1 l2 l3 l4 l5 l6 l7 l8 t0 st
          else L_X11_join_195 l0 l1 l2 l3 l4 l5 l6 l7 l8 t0 (0 : Int32) st
      else if l4 = (1 : Int32)
        then L_X11_join_195 l0 l1 l2 l3 l4 l5 l6 l7 l8 t0 (0 : Int32) st
        else L_X11_join_195 l0 l1 l2 l3 l4 l5 l6 l7 l8 t0 (1 : Int32) st := (lm_eq one_X11_join 139 _ _ _).trans rfl
set_option maxRecDepth 100000 in
theorem e_X11_join_190 (l0 : Nat) (l1 : Int32) (l2 : Int32) (l3 : Int32) (l4 : Int32) (l5 : Int32) (l6 : Int32) (l7 : Int32) (l8 : Int32) (l9 : Int32) (st : ab_S) : L_X11_join_190 l0 l1 l2 l3 l4 l5 l6 l7 l8 l9 st =
    L_X11_join_195 l0 l1 l2 l3 l4 l5 l6 l7 l8 l9 (1 : Int32) st := (lm_eq one_X11_join 190 _ _ _).trans rfl
set_option maxRecDepth 100000 in
theorem e_X11_join_195 (l0 : Nat) (l1 : Int32) (l2 : Int32) (l3 : Int32) (l4 : Int32) (l5 : Int32) (l6 : Int32) (l7 : Int32) (l8 : Int32) (l9 : Int32) (t0 : Int32) (st : ab_S) : L_X11_join_195 l0 l1 l2 l3 l4 l5 l6 l7 l8 l9 t0 st =
    if t0 = 0
    then L_X11_join_391 l0 l1 l2 l3 l4 l5 l6 l7 l8 l9 st
    else if 0 ≤ l9
      then if l9 ≤ 0
        then if l4 = 0
          then Option.bind (ab_gR st l0 11 4) fun x1 =>
            Option.bind (ab_rJ st x1 (((200 : Int32) * l1) + l5)) fun x2 =>
            Option.bind (ab_gR st l0 11 4) fun x3 =>
            Option.bind (ab_rJ st x3 (((200 : Int32) * l2) + l6)) fun x4 =>
            ab_rl (f_X11_lesser x2 x4 st) fun x6 s5 =>
            L_X11_join_308 l0 l1 l2 l3 l4 l5 l6 l7 l8 l9 x6 s5
          else Option.bind (ab_gR st l0 11 4) fun x7 =>
            Option.bind (ab_rJ st x7 (((200 : Int32) * l1) + l5)) fun x8 =>
            Option.bind (ab_gR st l0 11 4) fun x9 =>
            Option.bind (ab_rJ st x9 (((200 : Int32) * l2) + l6)) fun x10 =>
            L_X11_join_308 l0 l1 l2 l3 l4 l5 l6 l7 l8 l9 (x8 + x10) st
        else Option.bind (ab_gR st l0 11 4) fun x11 =>
          Option.bind (ab_rJ st x11 (((200 : Int32) * l2) + l6)) fun x12 =>
          L_X11_join_308 l0 l1 l2 l3 l4 l5 l6 l7 l8 l9 x12 st
      else Option.bind (ab_gR st l0 11 4) fun x13 =>
        Option.bind (ab_rJ st x13 (((200 : Int32) * l1) + l5)) fun x14 =>
        L_X11_join_308 l0 l1 l2 l3 l4 l5 l6 l7 l8 l9 x14 st := (lm_eq one_X11_join 195 _ _ _).trans rfl
set_option maxRecDepth 100000 in
theorem e_X11_join_308 (l0 : Nat) (l1 : Int32) (l2 : Int32) (l3 : Int32) (l4 : Int32) (l5 : Int32) (l6 : Int32) (l7 : Int32) (l8 : Int32) (l9 : Int32) (t0 : Int64) (st : ab_S) : L_X11_join_308 l0 l1 l2 l3 l4 l5 l6 l7 l8 l9 t0 st =
    if l8 = 0
    then if (lg_cmp t0 (1000000000000 : Int64)) ≤ 0
      then L_X11_join_329 l0 l1 l2 l3 l4 l5 l6 l7 l9 t0 (0 : Int32) st
      else L_X11_join_324 l0 l1 l2 l3 l4 l5 l6 l7 l9 t0 st
    else L_X11_join_324 l0 l1 l2 l3 l4 l5 l6 l7 l9 t0 st := (lm_eq one_X11_join 308 _ _ _).trans rfl
set_option maxRecDepth 100000 in
theorem e_X11_join_324 (l0 : Nat) (l1 : Int32) (l2 : Int32) (l3 : Int32) (l4 : Int32) (l5 : Int32) (l6 : Int32) (l7 : Int32) (l9 : Int32) (l11 : Int64) (st : ab_S) : L_X11_join_324 l0 l1 l2 l3 l4 l5 l6 l7 l9 l11 st =
    L_X11_join_329 l0 l1 l2 l3 l4 l5 l6 l7 l9 l11 (1 : Int32) st := (lm_eq one_X11_join 324 _ _ _).trans rfl
set_option maxRecDepth 100000 in
theorem e_X11_join_329 (l0 : Nat) (l1 : Int32) (l2 : Int32) (l3 : Int32) (l4 : Int32) (l5 : Int32) (l6 : Int32) (l7 : Int32) (l9 : Int32) (l11 : Int64) (t0 : Int32) (st : ab_S) : L_X11_join_329 l0 l1 l2 l3 l4 l5 l6 l7 l9 l11 t0 st =
    if l9 ≤ 0
    then L_X11_join_355 l0 l1 l2 l3 l4 l5 l6 l7 t0 l9 l11 (((200 : Int32) * l1) + l5) st
    else L_X11_join_355 l0 l1 l2 l3 l4 l5 l6 l7 t0 l9 l11 (((200 : Int32) * l2) + l6) st := (lm_eq one_X11_join 329 _ _ _).trans rfl
set_option maxRecDepth 100000 in
theorem e_X11_join_355 (l0 : Nat) (l1 : Int32) (l2 : Int32) (l3 : Int32) (l4 : Int32) (l5 : Int32) (l6 : Int32) (l7 : Int32) (l8 : Int32) (l9 : Int32) (l11 : Int64) (t0 : Int32) (st : ab_S) : L_X11_join_355 l0 l1 l2 l3 l4 l5 l6 l7 l8 l9 l11 t0 st =
    if (200 : Int32) ≤ l7
    then L_X11_join_388 l0 l1 l2 l3 l4 l5 l6 l7 l8 l9 st
    else Option.bind (ab_gR st l0 11 2) fun x1 =>
      Option.bind (ab_gR st l0 11 3) fun x2 =>
      Option.bind (ab_rI st x2 t0) fun x3 =>
      ab_rv (f_X11_append l0 (4 : Int32) x1 ((12 : Int32) * t0) x3 l11 st) fun s4 =>
      L_X11_join_388 l0 l1 l2 l3 l4 l5 l6 l7 l8 l9 s4 := (lm_eq one_X11_join 355 _ _ _).trans rfl
set_option maxRecDepth 100000 in
theorem e_X11_join_388 (l0 : Nat) (l1 : Int32) (l2 : Int32) (l3 : Int32) (l4 : Int32) (l5 : Int32) (l6 : Int32) (l7 : Int32) (l8 : Int32) (l9 : Int32) (st : ab_S) : L_X11_join_388 l0 l1 l2 l3 l4 l5 l6 l7 l8 l9 st =
    L_X11_join_391 l0 l1 l2 l3 l4 l5 l6 (l7 + (1 : Int32)) l8 l9 st := (lm_eq one_X11_join 388 _ _ _).trans rfl
set_option maxRecDepth 100000 in
theorem e_X11_join_391 (l0 : Nat) (l1 : Int32) (l2 : Int32) (l3 : Int32) (l4 : Int32) (l5 : Int32) (l6 : Int32) (l7 : Int32) (l8 : Int32) (l9 : Int32) (st : ab_S) : L_X11_join_391 l0 l1 l2 l3 l4 l5 l6 l7 l8 l9 st =
    if 0 < l9
    then L_X11_join_403 l0 l1 l2 l3 l4 l6 l7 l8 l9 l5 (0 : Int32) st
    else L_X11_join_403 l0 l1 l2 l3 l4 l6 l7 l8 l9 l5 (1 : Int32) st := (lm_eq one_X11_join 391 _ _ _).trans rfl
set_option maxRecDepth 100000 in
theorem e_X11_join_403 (l0 : Nat) (l1 : Int32) (l2 : Int32) (l3 : Int32) (l4 : Int32) (l6 : Int32) (l7 : Int32) (l8 : Int32) (l9 : Int32) (t0 : Int32) (t1 : Int32) (st : ab_S) : L_X11_join_403 l0 l1 l2 l3 l4 l6 l7 l8 l9 t0 t1 st =
    if l9 < 0
    then L_X11_join_418 l0 l1 l2 l3 l4 (t0 + t1) l7 l8 l6 (0 : Int32) st
    else L_X11_join_418 l0 l1 l2 l3 l4 (t0 + t1) l7 l8 l6 (1 : Int32) st := (lm_eq one_X11_join 403 _ _ _).trans rfl
set_option maxRecDepth 100000 in
theorem e_X11_join_418 (l0 : Nat) (l1 : Int32) (l2 : Int32) (l3 : Int32) (l4 : Int32) (l5 : Int32) (l7 : Int32) (l8 : Int32) (t0 : Int32) (t1 : Int32) (st : ab_S) : L_X11_join_418 l0 l1 l2 l3 l4 l5 l7 l8 t0 t1 st =
    L_X11_join_77 l0 l1 l2 l3 l4 l5 (t0 + t1) l7 l8 st := (lm_eq one_X11_join 418 _ _ _).trans rfl
def c_X3_writeNumber : List (Nat × ab_I) := [(0, .lload_n 0, 1, .null, 0),
  (1, .lstore_n 3, 1, .null, 3),
  (2, .iconst 1, 1, (.int (1)), 0),
  (3, .istore 5, 2, .null, 5),
  (5, .iload 5, 2, .null, 5),
  (7, .bipush (6), 2, (.int (6)), 0),
  (9, .if_icmp .ge (36), 3, .null, 45),
  (12, .lload_n 3, 1, .null, 3),
  (13, .ldc2_w 66, 3, (.long (127)), 0),
  (16, .lcmp, 1, .null, 0),
  (17, .ifCond .le (28), 3, .null, 45),
  (20, .aload_n 2, 1, .null, 2),
  (21, .lload_n 3, 1, .null, 3),
  (22, .ldc2_w 66, 3, (.long (127)), 0),
  (25, .land, 1, .null, 0),
  (26, .l2i, 1, .null, 0),
  (27, .sipush (128), 3, (.int (128)), 0),
  (30, .ior, 1, .null, 0),
  (31, .invokevirtual 30, 3, .null, 0),
  (34, .lload_n 3, 1, .null, 3),
  (35, .bipush (7), 2, (.int (7)), 0),
  (37, .lushr, 1, .null, 0),
  (38, .lstore_n 3, 1, .null, 3),
  (39, .iinc 5 (1), 3, (.int (1)), 5),
  (42, .goto (-37), 3, .null, 5),
  (45, .aload_n 2, 1, .null, 2),
  (46, .lload_n 3, 1, .null, 3),
  (47, .l2i, 1, .null, 0),
  (48, .invokevirtual 30, 3, .null, 0),
  (51, .return_, 1, .null, 0)]
noncomputable def m_X3_writeNumber : ab_M := (c_X3_writeNumber, [(0, [0, 2]), (5, [2, 3, 5]), (45, [2, 3])],
  [],
  [],
  [(30, 1, 2, g_X6_put)],
  [], 6, 0)
theorem one_X3_writeNumber : ab_oneM m_X3_writeNumber := List.forall_mem_cons.mpr ⟨o_X6_put, fun _ h => absurd h List.not_mem_nil⟩
noncomputable def f_X3_writeNumber (l0 : Int64) (l2 : Nat) (st : ab_S) : Option ab_R := ab_lim m_X3_writeNumber 0 [.long l0, .ref l2] [] st
noncomputable def L_X3_writeNumber_5 (l2 : Nat) (l3 : Int64) (l5 : Int32) (st : ab_S) : Option ab_R := ab_lim m_X3_writeNumber 5 [.ref l2, .long l3, .int l5] [] st
noncomputable def L_X3_writeNumber_45 (l2 : Nat) (l3 : Int64) (st : ab_S) : Option ab_R := ab_lim m_X3_writeNumber 45 [.ref l2, .long l3] [] st
noncomputable def g_X3_writeNumber : ab_G := fun as st k => match as with
  | [.long a0, .ref a1] => ab_rv (f_X3_writeNumber a0 a1 st) (fun t => k [] t)
  | _ => none
theorem o_X3_writeNumber : ab_one g_X3_writeNumber := by
  intro as st k r h
  unfold g_X3_writeNumber at h ⊢
  split at h
  · exact one_rv h
  · cases h
set_option maxRecDepth 100000 in
theorem e_X3_writeNumber_0 (l0 : Int64) (l2 : Nat) (st : ab_S) : f_X3_writeNumber l0 l2 st =
    L_X3_writeNumber_5 l2 l0 (1 : Int32) st := (lm_eq one_X3_writeNumber 0 _ _ _).trans rfl
set_option maxRecDepth 100000 in
theorem e_X3_writeNumber_5 (l2 : Nat) (l3 : Int64) (l5 : Int32) (st : ab_S) : L_X3_writeNumber_5 l2 l3 l5 st =
    if (6 : Int32) ≤ l5
    then L_X3_writeNumber_45 l2 l3 st
    else if (lg_cmp l3 (127 : Int64)) ≤ 0
      then L_X3_writeNumber_45 l2 l3 st
      else ab_rv (f_X6_put l2 ((l3 &&& (127 : Int64)).toInt32 ||| (128 : Int32)) st) fun s1 =>
        L_X3_writeNumber_5 l2 (l3.toUInt64 >>> ((7 : Int32).toInt64.toUInt64 &&& Int64.toUInt64 63)).toInt64 (l5 + (1 : Int32)) s1 := (lm_eq one_X3_writeNumber 5 _ _ _).trans rfl
set_option maxRecDepth 100000 in
theorem e_X3_writeNumber_45 (l2 : Nat) (l3 : Int64) (st : ab_S) : L_X3_writeNumber_45 l2 l3 st =
    ab_rv (f_X6_put l2 l3.toInt32 st) fun s1 =>
    some (none, s1) := (lm_eq one_X3_writeNumber 45 _ _ _).trans rfl
def c_X1_lastOf : List (Nat × ab_I) := [(0, .aload_n 0, 1, .null, 0),
  (1, .iload_n 1, 1, .null, 1),
  (2, .invokevirtual 58, 3, .null, 0),
  (5, .ifCond .eq (12), 3, .null, 17),
  (8, .aload_n 0, 1, .null, 0),
  (9, .getfield 15, 3, .null, 0),
  (12, .iload_n 1, 1, .null, 1),
  (13, .laload, 1, .null, 0),
  (14, .goto (6), 3, .null, 20),
  (17, .ldc2_w 35, 3, (.long (-1)), 0),
  (20, .lreturn, 1, .null, 0)]
noncomputable def m_X1_lastOf : ab_M := (c_X1_lastOf, [(0, [0, 1])],
  [(15, 1, 1, 3)],
  [],
  [(58, 1, 2, g_X1_has)],
  [], 2, 3)
theorem one_X1_lastOf : ab_oneM m_X1_lastOf := List.forall_mem_cons.mpr ⟨o_X1_has, fun _ h => absurd h List.not_mem_nil⟩
noncomputable def f_X1_lastOf (l0 : Nat) (l1 : Int32) (st : ab_S) : Option ab_R := ab_rc st l0 1 (ab_lim m_X1_lastOf 0 [.ref l0, .int l1] [] st)
noncomputable def g_X1_lastOf : ab_G := fun as st k => match as with
  | [.ref a0, .int a1] => ab_rl (f_X1_lastOf a0 a1 st) (fun x t => k [.long x] t)
  | _ => none
theorem o_X1_lastOf : ab_one g_X1_lastOf := by
  intro as st k r h
  unfold g_X1_lastOf at h ⊢
  split at h
  · exact one_rl h
  · cases h
set_option maxRecDepth 100000 in
theorem e_X1_lastOf_0 (l0 : Nat) (l1 : Int32) (st : ab_S) : f_X1_lastOf l0 l1 st =
    ab_rc st l0 1 (
    ab_ri (f_X1_has l0 l1 st) fun x2 s1 =>
    if x2 = 0
    then some (some (.long (-1 : Int64)), s1)
    else Option.bind (ab_gR s1 l0 1 1) fun x3 =>
      Option.bind (ab_rJ s1 x3 l1) fun x4 =>
      some (some (.long x4), s1)) := congrArg (ab_rc st l0 1) ((lm_eq one_X1_lastOf 0 _ _ _).trans rfl)
def c_X3_writeState : List (Nat × ab_I) := [(0, .aload_n 1, 1, .null, 1),
  (1, .iload_n 2, 1, .null, 2),
  (2, .invokevirtual 52, 3, .null, 0),
  (5, .lstore 4, 2, .null, 4),
  (7, .lload 4, 2, .null, 4),
  (9, .ldc2_w 56, 3, (.long (-1)), 0),
  (12, .lcmp, 1, .null, 0),
  (13, .ifCond .ne (11), 3, .null, 24),
  (16, .aload_n 3, 1, .null, 3),
  (17, .iconst 0, 1, (.int (0)), 0),
  (18, .invokevirtual 30, 3, .null, 0),
  (21, .goto (14), 3, .null, 35),
  (24, .aload_n 3, 1, .null, 3),
  (25, .iconst 1, 1, (.int (1)), 0),
  (26, .invokevirtual 30, 3, .null, 0),
  (29, .lload 4, 2, .null, 4),
  (31, .aload_n 3, 1, .null, 3),
  (32, .invokestatic 40, 3, .null, 0),
  (35, .aload_n 1, 1, .null, 1),
  (36, .iload_n 2, 1, .null, 2),
  (37, .invokevirtual 58, 3, .null, 0),
  (40, .istore 6, 2, .null, 6),
  (42, .iload 6, 2, .null, 6),
  (44, .i2l, 1, .null, 0),
  (45, .aload_n 3, 1, .null, 3),
  (46, .invokestatic 40, 3, .null, 0),
  (49, .iconst 0, 1, (.int (0)), 0),
  (50, .istore 7, 2, .null, 7),
  (52, .iload 7, 2, .null, 7),
  (54, .iload 6, 2, .null, 6),
  (56, .if_icmp .ge (46), 3, .null, 102),
  (59, .aload_n 3, 1, .null, 3),
  (60, .aload_n 1, 1, .null, 1),
  (61, .iload_n 2, 1, .null, 2),
  (62, .iload 7, 2, .null, 7),
  (64, .iconst 0, 1, (.int (0)), 0),
  (65, .invokevirtual 62, 3, .null, 0),
  (68, .l2i, 1, .null, 0),
  (69, .invokevirtual 30, 3, .null, 0),
  (72, .aload_n 1, 1, .null, 1),
  (73, .iload_n 2, 1, .null, 2),
  (74, .iload 7, 2, .null, 7),
  (76, .iconst 1, 1, (.int (1)), 0),
  (77, .invokevirtual 62, 3, .null, 0),
  (80, .aload_n 3, 1, .null, 3),
  (81, .invokestatic 40, 3, .null, 0),
  (84, .aload_n 1, 1, .null, 1),
  (85, .iload_n 2, 1, .null, 2),
  (86, .iload 7, 2, .null, 7),
  (88, .iconst 2, 1, (.int (2)), 0),
  (89, .invokevirtual 62, 3, .null, 0),
  (92, .aload_n 3, 1, .null, 3),
  (93, .invokestatic 40, 3, .null, 0),
  (96, .iinc 7 (1), 3, (.int (1)), 7),
  (99, .goto (-47), 3, .null, 52),
  (102, .return_, 1, .null, 0)]
noncomputable def m_X3_writeState : ab_M := (c_X3_writeState, [(0, [0, 1, 2, 3]), (35, [1, 2, 3]), (52, [1, 2, 3, 6, 7])],
  [],
  [],
  [(30, 1, 2, g_X6_put), (40, 0, 2, g_X3_writeNumber), (52, 1, 2, g_X1_lastOf), (58, 1, 2, g_X1_arcsOf), (62, 1, 4, g_X1_tellArc)],
  [], 8, 0)
theorem one_X3_writeState : ab_oneM m_X3_writeState := List.forall_mem_cons.mpr ⟨o_X6_put, List.forall_mem_cons.mpr ⟨o_X3_writeNumber, List.forall_mem_cons.mpr ⟨o_X1_lastOf, List.forall_mem_cons.mpr ⟨o_X1_arcsOf, List.forall_mem_cons.mpr ⟨o_X1_tellArc, fun _ h => absurd h List.not_mem_nil⟩⟩⟩⟩⟩
noncomputable def f_X3_writeState (l0 : Nat) (l1 : Nat) (l2 : Int32) (l3 : Nat) (st : ab_S) : Option ab_R := ab_rc st l0 3 (ab_lim m_X3_writeState 0 [.ref l0, .ref l1, .int l2, .ref l3] [] st)
noncomputable def L_X3_writeState_35 (l1 : Nat) (l2 : Int32) (l3 : Nat) (st : ab_S) : Option ab_R := ab_lim m_X3_writeState 35 [.ref l1, .int l2, .ref l3] [] st
noncomputable def L_X3_writeState_52 (l1 : Nat) (l2 : Int32) (l3 : Nat) (l6 : Int32) (l7 : Int32) (st : ab_S) : Option ab_R := ab_lim m_X3_writeState 52 [.ref l1, .int l2, .ref l3, .int l6, .int l7] [] st
noncomputable def g_X3_writeState : ab_G := fun as st k => match as with
  | [.ref a0, .ref a1, .int a2, .ref a3] => ab_rv (f_X3_writeState a0 a1 a2 a3 st) (fun t => k [] t)
  | _ => none
theorem o_X3_writeState : ab_one g_X3_writeState := by
  intro as st k r h
  unfold g_X3_writeState at h ⊢
  split at h
  · exact one_rv h
  · cases h
set_option maxRecDepth 100000 in
theorem e_X3_writeState_0 (l0 : Nat) (l1 : Nat) (l2 : Int32) (l3 : Nat) (st : ab_S) : f_X3_writeState l0 l1 l2 l3 st =
    ab_rc st l0 3 (
    ab_rl (f_X1_lastOf l1 l2 st) fun x2 s1 =>
    if (lg_cmp x2 (-1 : Int64)) = 0
    then ab_rv (f_X6_put l3 (0 : Int32) s1) fun s3 =>
      L_X3_writeState_35 l1 l2 l3 s3
    else ab_rv (f_X6_put l3 (1 : Int32) s1) fun s4 =>
      ab_rv (f_X3_writeNumber x2 l3 s4) fun s5 =>
      L_X3_writeState_35 l1 l2 l3 s5) := congrArg (ab_rc st l0 3) ((lm_eq one_X3_writeState 0 _ _ _).trans rfl)
set_option maxRecDepth 100000 in
theorem e_X3_writeState_35 (l1 : Nat) (l2 : Int32) (l3 : Nat) (st : ab_S) : L_X3_writeState_35 l1 l2 l3 st =
    ab_ri (f_X1_arcsOf l1 l2 st) fun x2 s1 =>
    ab_rv (f_X3_writeNumber x2.toInt64 l3 s1) fun s3 =>
    L_X3_writeState_52 l1 l2 l3 x2 (0 : Int32) s3 := (lm_eq one_X3_writeState 35 _ _ _).trans rfl
set_option maxRecDepth 100000 in
theorem e_X3_writeState_52 (l1 : Nat) (l2 : Int32) (l3 : Nat) (l6 : Int32) (l7 : Int32) (st : ab_S) : L_X3_writeState_52 l1 l2 l3 l6 l7 st =
    if l6 ≤ l7
    then some (none, st)
    else ab_rl (f_X1_tellArc l1 l2 l7 (0 : Int32) st) fun x2 s1 =>
      ab_rv (f_X6_put l3 x2.toInt32 s1) fun s3 =>
      ab_rl (f_X1_tellArc l1 l2 l7 (1 : Int32) s3) fun x5 s4 =>
      ab_rv (f_X3_writeNumber x5 l3 s4) fun s6 =>
      ab_rl (f_X1_tellArc l1 l2 l7 (2 : Int32) s6) fun x8 s7 =>
      ab_rv (f_X3_writeNumber x8 l3 s7) fun s9 =>
      L_X3_writeState_52 l1 l2 l3 l6 (l7 + (1 : Int32)) s9 := (lm_eq one_X3_writeState 52 _ _ _).trans rfl
def c_X3_write : List (Nat × ab_I) := [(0, .aload_n 2, 1, .null, 2),
  (1, .invokevirtual 25, 3, .null, 0),
  (4, .aload_n 2, 1, .null, 2),
  (5, .bipush (84), 2, (.int (84)), 0),
  (7, .invokevirtual 30, 3, .null, 0),
  (10, .aload_n 2, 1, .null, 2),
  (11, .bipush (77), 2, (.int (77)), 0),
  (13, .invokevirtual 30, 3, .null, 0),
  (16, .aload_n 1, 1, .null, 1),
  (17, .getfield 34, 3, .null, 0),
  (20, .aload_n 2, 1, .null, 2),
  (21, .invokestatic 40, 3, .null, 0),
  (24, .aload_n 1, 1, .null, 1),
  (25, .getfield 44, 3, .null, 0),
  (28, .i2l, 1, .null, 0),
  (29, .aload_n 2, 1, .null, 2),
  (30, .invokestatic 40, 3, .null, 0),
  (33, .iconst 0, 1, (.int (0)), 0),
  (34, .istore_n 3, 1, .null, 3),
  (35, .iload_n 3, 1, .null, 3),
  (36, .aload_n 1, 1, .null, 1),
  (37, .getfield 44, 3, .null, 0),
  (40, .if_icmp .ge (16), 3, .null, 56),
  (43, .aload_n 0, 1, .null, 0),
  (44, .aload_n 1, 1, .null, 1),
  (45, .iload_n 3, 1, .null, 3),
  (46, .aload_n 2, 1, .null, 2),
  (47, .invokevirtual 48, 3, .null, 0),
  (50, .iinc 3 (1), 3, (.int (1)), 3),
  (53, .goto (-18), 3, .null, 35),
  (56, .return_, 1, .null, 0)]
noncomputable def m_X3_write : ab_M := (c_X3_write, [(0, [0, 1, 2]), (35, [0, 1, 2, 3])],
  [(34, 1, 6, 2), (44, 1, 7, 0)],
  [],
  [(25, 1, 1, g_X6_clear), (30, 1, 2, g_X6_put), (40, 0, 2, g_X3_writeNumber), (48, 1, 4, g_X3_writeState)],
  [], 4, 0)
theorem one_X3_write : ab_oneM m_X3_write := List.forall_mem_cons.mpr ⟨o_X6_clear, List.forall_mem_cons.mpr ⟨o_X6_put, List.forall_mem_cons.mpr ⟨o_X3_writeNumber, List.forall_mem_cons.mpr ⟨o_X3_writeState, fun _ h => absurd h List.not_mem_nil⟩⟩⟩⟩
noncomputable def f_X3_write (l0 : Nat) (l1 : Nat) (l2 : Nat) (st : ab_S) : Option ab_R := ab_rc st l0 3 (ab_lim m_X3_write 0 [.ref l0, .ref l1, .ref l2] [] st)
noncomputable def L_X3_write_35 (l0 : Nat) (l1 : Nat) (l2 : Nat) (l3 : Int32) (st : ab_S) : Option ab_R := ab_lim m_X3_write 35 [.ref l0, .ref l1, .ref l2, .int l3] [] st
noncomputable def g_X3_write : ab_G := fun as st k => match as with
  | [.ref a0, .ref a1, .ref a2] => ab_rv (f_X3_write a0 a1 a2 st) (fun t => k [] t)
  | _ => none
theorem o_X3_write : ab_one g_X3_write := by
  intro as st k r h
  unfold g_X3_write at h ⊢
  split at h
  · exact one_rv h
  · cases h
set_option maxRecDepth 100000 in
theorem e_X3_write_0 (l0 : Nat) (l1 : Nat) (l2 : Nat) (st : ab_S) : f_X3_write l0 l1 l2 st =
    ab_rc st l0 3 (
    ab_rv (f_X6_clear l2 st) fun s1 =>
    ab_rv (f_X6_put l2 (84 : Int32) s1) fun s2 =>
    ab_rv (f_X6_put l2 (77 : Int32) s2) fun s3 =>
    Option.bind (ab_gJ s3 l1 1 6) fun x4 =>
    ab_rv (f_X3_writeNumber x4 l2 s3) fun s5 =>
    Option.bind (ab_gI s5 l1 1 7) fun x6 =>
    ab_rv (f_X3_writeNumber x6.toInt64 l2 s5) fun s7 =>
    L_X3_write_35 l0 l1 l2 (0 : Int32) s7) := congrArg (ab_rc st l0 3) ((lm_eq one_X3_write 0 _ _ _).trans rfl)
set_option maxRecDepth 100000 in
theorem e_X3_write_35 (l0 : Nat) (l1 : Nat) (l2 : Nat) (l3 : Int32) (st : ab_S) : L_X3_write_35 l0 l1 l2 l3 st =
    Option.bind (ab_gI st l1 1 7) fun x1 =>
    if x1 ≤ l3
    then some (none, st)
    else ab_rv (f_X3_writeState l0 l1 l3 l2 st) fun s2 =>
      L_X3_write_35 l0 l1 l2 (l3 + (1 : Int32)) s2 := (lm_eq one_X3_write 35 _ _ _).trans rfl
def c_X10_packed : List (Nat × ab_I) := [(0, .iload_n 1, 1, .null, 1),
  (1, .invokestatic 95, 3, .null, 0),
  (4, .ifCond .ne (6), 3, .null, 10),
  (7, .bipush (-2), 2, (.int (-2)), 0),
  (9, .ireturn, 1, .null, 0),
  (10, .aload_n 0, 1, .null, 0),
  (11, .getfield 11, 3, .null, 0),
  (14, .iload_n 1, 1, .null, 1),
  (15, .aaload, 1, .null, 0),
  (16, .getfield 109, 3, .null, 0),
  (19, .ifCond .eq (6), 3, .null, 25),
  (22, .bipush (-4), 2, (.int (-4)), 0),
  (24, .ireturn, 1, .null, 0),
  (25, .aload_n 0, 1, .null, 0),
  (26, .getfield 35, 3, .null, 0),
  (29, .aload_n 0, 1, .null, 0),
  (30, .getfield 11, 3, .null, 0),
  (33, .iload_n 1, 1, .null, 1),
  (34, .aaload, 1, .null, 0),
  (35, .getfield 130, 3, .null, 0),
  (38, .aload_n 0, 1, .null, 0),
  (39, .getfield 59, 3, .null, 0),
  (42, .invokevirtual 222, 3, .null, 0),
  (45, .aload_n 0, 1, .null, 0),
  (46, .getfield 59, 3, .null, 0),
  (49, .getfield 85, 3, .null, 0),
  (52, .ireturn, 1, .null, 0)]
noncomputable def m_X10_packed : ab_M := (c_X10_packed, [(0, [0, 1])],
  [(11, 10, 0, 3), (35, 10, 4, 3), (59, 10, 7, 3), (85, 6, 1, 0), (109, 0, 2, 1), (130, 0, 1, 3)],
  [],
  [(95, 0, 1, g_X10_isDictionary), (222, 1, 3, g_X3_write)],
  [], 2, 1)
theorem one_X10_packed : ab_oneM m_X10_packed := List.forall_mem_cons.mpr ⟨o_X10_isDictionary, List.forall_mem_cons.mpr ⟨o_X3_write, fun _ h => absurd h List.not_mem_nil⟩⟩
noncomputable def f_X10_packed (l0 : Nat) (l1 : Int32) (st : ab_S) : Option ab_R := ab_rc st l0 10 (ab_lim m_X10_packed 0 [.ref l0, .int l1] [] st)
noncomputable def g_X10_packed : ab_G := fun as st k => match as with
  | [.ref a0, .int a1] => ab_ri (f_X10_packed a0 a1 st) (fun x t => k [.int x] t)
  | _ => none
theorem o_X10_packed : ab_one g_X10_packed := by
  intro as st k r h
  unfold g_X10_packed at h ⊢
  split at h
  · exact one_ri h
  · cases h
set_option maxRecDepth 100000 in
theorem e_X10_packed_0 (l0 : Nat) (l1 : Int32) (st : ab_S) : f_X10_packed l0 l1 st =
    ab_rc st l0 10 (
    ab_ri (f_X10_isDictionary l1 st) fun x2 s1 =>
    if x2 = 0
    then some (some (.int (-2 : Int32)), s1)
    else Option.bind (ab_gR s1 l0 10 0) fun x3 =>
      Option.bind (ab_rR s1 x3 l1) fun x4 =>
      Option.bind (ab_gI s1 x4 0 2) fun x5 =>
      if x5 = 0
      then Option.bind (ab_gR s1 l0 10 4) fun x6 =>
        Option.bind (ab_gR s1 l0 10 0) fun x7 =>
        Option.bind (ab_rR s1 x7 l1) fun x8 =>
        Option.bind (ab_gR s1 x8 0 1) fun x9 =>
        Option.bind (ab_gR s1 l0 10 7) fun x10 =>
        ab_rv (f_X3_write x6 x9 x10 s1) fun s11 =>
        Option.bind (ab_gR s11 l0 10 7) fun x12 =>
        Option.bind (ab_gI s11 x12 6 1) fun x13 =>
        some (some (.int x13), s11)
      else some (some (.int (-4 : Int32)), s1)) := congrArg (ab_rc st l0 10) ((lm_eq one_X10_packed 0 _ _ _).trans rfl)
def c_X11_write : List (Nat × ab_I) := [(0, .iload_n 2, 1, .null, 2),
  (1, .istore 5, 2, .null, 5),
  (3, .lload_n 3, 1, .null, 3),
  (4, .lstore 6, 2, .null, 6),
  (6, .lload 6, 2, .null, 6),
  (8, .ldc2_w 341, 3, (.long (127)), 0),
  (11, .lcmp, 1, .null, 0),
  (12, .ifCond .le (32), 3, .null, 44),
  (15, .aload_n 1, 1, .null, 1),
  (16, .iload 5, 2, .null, 5),
  (18, .lload 6, 2, .null, 6),
  (20, .ldc2_w 341, 3, (.long (127)), 0),
  (23, .land, 1, .null, 0),
  (24, .ldc2_w 343, 3, (.long (128)), 0),
  (27, .lor, 1, .null, 0),
  (28, .l2i, 1, .null, 0),
  (29, .i2b, 1, .null, 0),
  (30, .bastore, 1, .null, 0),
  (31, .lload 6, 2, .null, 6),
  (33, .bipush (7), 2, (.int (7)), 0),
  (35, .lshr, 1, .null, 0),
  (36, .lstore 6, 2, .null, 6),
  (38, .iinc 5 (1), 3, (.int (1)), 5),
  (41, .goto (-35), 3, .null, 6),
  (44, .aload_n 1, 1, .null, 1),
  (45, .iload 5, 2, .null, 5),
  (47, .lload 6, 2, .null, 6),
  (49, .l2i, 1, .null, 0),
  (50, .i2b, 1, .null, 0),
  (51, .bastore, 1, .null, 0),
  (52, .iload 5, 2, .null, 5),
  (54, .iconst 1, 1, (.int (1)), 0),
  (55, .iadd, 1, .null, 0),
  (56, .ireturn, 1, .null, 0)]
noncomputable def m_X11_write : ab_M := (c_X11_write, [(0, [0, 1, 2, 3]), (6, [1, 5, 6])],
  [],
  [],
  [],
  [], 8, 1)
theorem one_X11_write : ab_oneM m_X11_write := fun _ h => absurd h List.not_mem_nil
noncomputable def f_X11_write (l0 : Nat) (l1 : Nat) (l2 : Int32) (l3 : Int64) (st : ab_S) : Option ab_R := ab_rc st l0 11 (ab_lim m_X11_write 0 [.ref l0, .ref l1, .int l2, .long l3] [] st)
noncomputable def L_X11_write_6 (l1 : Nat) (l5 : Int32) (l6 : Int64) (st : ab_S) : Option ab_R := ab_lim m_X11_write 6 [.ref l1, .int l5, .long l6] [] st
noncomputable def g_X11_write : ab_G := fun as st k => match as with
  | [.ref a0, .ref a1, .int a2, .long a3] => ab_ri (f_X11_write a0 a1 a2 a3 st) (fun x t => k [.int x] t)
  | _ => none
theorem o_X11_write : ab_one g_X11_write := by
  intro as st k r h
  unfold g_X11_write at h ⊢
  split at h
  · exact one_ri h
  · cases h
set_option maxRecDepth 100000 in
theorem e_X11_write_0 (l0 : Nat) (l1 : Nat) (l2 : Int32) (l3 : Int64) (st : ab_S) : f_X11_write l0 l1 l2 l3 st =
    ab_rc st l0 11 (
    L_X11_write_6 l1 l2 l3 st) := congrArg (ab_rc st l0 11) ((lm_eq one_X11_write 0 _ _ _).trans rfl)
set_option maxRecDepth 100000 in
theorem e_X11_write_6 (l1 : Nat) (l5 : Int32) (l6 : Int64) (st : ab_S) : L_X11_write_6 l1 l5 l6 st =
    if (lg_cmp l6 (127 : Int64)) ≤ 0
    then Option.bind (ab_wB st l1 l5 l6.toInt32.toInt8.toInt32) fun s1 =>
      some (some (.int (l5 + (1 : Int32))), s1)
    else Option.bind (ab_wB st l1 l5 (((l6 &&& (127 : Int64)) ||| (128 : Int64)).toInt32.toInt8.toInt32)) fun s2 =>
      L_X11_write_6 l1 (l5 + (1 : Int32)) (l6 >>> ((7 : Int32).toInt64 &&& 63)) s2 := (lm_eq one_X11_write 6 _ _ _).trans rfl
def c_X11_pack : List (Nat × ab_I) := [(0, .aload_n 0, 1, .null, 0),
  (1, .iload_n 1, 1, .null, 1),
  (2, .invokevirtual 176, 3, .null, 0),
  (5, .aload_n 0, 1, .null, 0),
  (6, .getfield 114, 3, .null, 0),
  (9, .iconst 0, 1, (.int (0)), 0),
  (10, .bipush (84), 2, (.int (84)), 0),
  (12, .bastore, 1, .null, 0),
  (13, .aload_n 0, 1, .null, 0),
  (14, .getfield 114, 3, .null, 0),
  (17, .iconst 1, 1, (.int (1)), 0),
  (18, .bipush (77), 2, (.int (77)), 0),
  (20, .bastore, 1, .null, 0),
  (21, .aload_n 0, 1, .null, 0),
  (22, .aload_n 0, 1, .null, 0),
  (23, .getfield 114, 3, .null, 0),
  (26, .iconst 2, 1, (.int (2)), 0),
  (27, .aload_n 0, 1, .null, 0),
  (28, .getfield 66, 3, .null, 0),
  (31, .iconst 0, 1, (.int (0)), 0),
  (32, .laload, 1, .null, 0),
  (33, .invokevirtual 345, 3, .null, 0),
  (36, .istore_n 2, 1, .null, 2),
  (37, .aload_n 0, 1, .null, 0),
  (38, .aload_n 0, 1, .null, 0),
  (39, .getfield 114, 3, .null, 0),
  (42, .iload_n 2, 1, .null, 2),
  (43, .aload_n 0, 1, .null, 0),
  (44, .getfield 180, 3, .null, 0),
  (47, .i2l, 1, .null, 0),
  (48, .invokevirtual 345, 3, .null, 0),
  (51, .istore_n 2, 1, .null, 2),
  (52, .iconst 0, 1, (.int (0)), 0),
  (53, .istore_n 3, 1, .null, 3),
  (54, .iload_n 3, 1, .null, 3),
  (55, .aload_n 0, 1, .null, 0),
  (56, .getfield 180, 3, .null, 0),
  (59, .if_icmp .ge (207), 3, .null, 266),
  (62, .aload_n 0, 1, .null, 0),
  (63, .getfield 75, 3, .null, 0),
  (66, .iload_n 3, 1, .null, 3),
  (67, .iaload, 1, .null, 0),
  (68, .istore 4, 2, .null, 4),
  (70, .aload_n 0, 1, .null, 0),
  (71, .iload_n 1, 1, .null, 1),
  (72, .iload 4, 2, .null, 4),
  (74, .invokevirtual 206, 3, .null, 0),
  (77, .istore 5, 2, .null, 5),
  (79, .aload_n 0, 1, .null, 0),
  (80, .getfield 114, 3, .null, 0),
  (83, .iload_n 2, 1, .null, 2),
  (84, .iload 5, 2, .null, 5),
  (86, .ifCond .eq (7), 3, .null, 93),
  (89, .iconst 1, 1, (.int (1)), 0),
  (90, .goto (4), 3, .null, 94),
  (93, .iconst 0, 1, (.int (0)), 0),
  (94, .i2b, 1, .null, 0),
  (95, .bastore, 1, .null, 0),
  (96, .iinc 2 (1), 3, (.int (1)), 2),
  (99, .iload 5, 2, .null, 5),
  (101, .ifCond .eq (39), 3, .null, 140),
  (104, .aload_n 0, 1, .null, 0),
  (105, .aload_n 0, 1, .null, 0),
  (106, .getfield 114, 3, .null, 0),
  (109, .iload_n 2, 1, .null, 2),
  (110, .aload_n 0, 1, .null, 0),
  (111, .getfield 20, 3, .null, 0),
  (114, .sipush (200), 3, (.int (200)), 0),
  (117, .iload_n 1, 1, .null, 1),
  (118, .imul, 1, .null, 0),
  (119, .aload_n 0, 1, .null, 0),
  (120, .getfield 57, 3, .null, 0),
  (123, .iload 4, 2, .null, 4),
  (125, .iaload, 1, .null, 0),
  (126, .iadd, 1, .null, 0),
  (127, .laload, 1, .null, 0),
  (128, .aload_n 0, 1, .null, 0),
  (129, .getfield 66, 3, .null, 0),
  (132, .iload 4, 2, .null, 4),
  (134, .laload, 1, .null, 0),
  (135, .lsub, 1, .null, 0),
  (136, .invokevirtual 345, 3, .null, 0),
  (139, .istore_n 2, 1, .null, 2),
  (140, .aload_n 0, 1, .null, 0),
  (141, .iload_n 1, 1, .null, 1),
  (142, .iload 4, 2, .null, 4),
  (144, .invokevirtual 231, 3, .null, 0),
  (147, .istore 6, 2, .null, 6),
  (149, .aload_n 0, 1, .null, 0),
  (150, .aload_n 0, 1, .null, 0),
  (151, .getfield 114, 3, .null, 0),
  (154, .iload_n 2, 1, .null, 2),
  (155, .iload 6, 2, .null, 6),
  (157, .i2l, 1, .null, 0),
  (158, .invokevirtual 345, 3, .null, 0),
  (161, .istore_n 2, 1, .null, 2),
  (162, .iconst 0, 1, (.int (0)), 0),
  (163, .istore 7, 2, .null, 7),
  (165, .iload 7, 2, .null, 7),
  (167, .iload 6, 2, .null, 6),
  (169, .if_icmp .ge (91), 3, .null, 260),
  (172, .aload_n 0, 1, .null, 0),
  (173, .iload_n 1, 1, .null, 1),
  (174, .iload 4, 2, .null, 4),
  (176, .iload 7, 2, .null, 7),
  (178, .invokevirtual 213, 3, .null, 0),
  (181, .istore 8, 2, .null, 8),
  (183, .aload_n 0, 1, .null, 0),
  (184, .getfield 114, 3, .null, 0),
  (187, .iload_n 2, 1, .null, 2),
  (188, .aload_n 0, 1, .null, 0),
  (189, .iload_n 1, 1, .null, 1),
  (190, .aload_n 0, 1, .null, 0),
  (191, .getfield 57, 3, .null, 0),
  (194, .iload 8, 2, .null, 8),
  (196, .iaload, 1, .null, 0),
  (197, .aload_n 0, 1, .null, 0),
  (198, .getfield 63, 3, .null, 0),
  (201, .iload 4, 2, .null, 4),
  (203, .iaload, 1, .null, 0),
  (204, .invokevirtual 153, 3, .null, 0),
  (207, .i2b, 1, .null, 0),
  (208, .bastore, 1, .null, 0),
  (209, .aload_n 0, 1, .null, 0),
  (210, .aload_n 0, 1, .null, 0),
  (211, .getfield 114, 3, .null, 0),
  (214, .iload_n 2, 1, .null, 2),
  (215, .iconst 1, 1, (.int (1)), 0),
  (216, .iadd, 1, .null, 0),
  (217, .aload_n 0, 1, .null, 0),
  (218, .getfield 72, 3, .null, 0),
  (221, .iload 8, 2, .null, 8),
  (223, .iaload, 1, .null, 0),
  (224, .i2l, 1, .null, 0),
  (225, .invokevirtual 345, 3, .null, 0),
  (228, .istore_n 2, 1, .null, 2),
  (229, .aload_n 0, 1, .null, 0),
  (230, .aload_n 0, 1, .null, 0),
  (231, .getfield 114, 3, .null, 0),
  (234, .iload_n 2, 1, .null, 2),
  (235, .aload_n 0, 1, .null, 0),
  (236, .getfield 66, 3, .null, 0),
  (239, .iload 8, 2, .null, 8),
  (241, .laload, 1, .null, 0),
  (242, .aload_n 0, 1, .null, 0),
  (243, .getfield 66, 3, .null, 0),
  (246, .iload 4, 2, .null, 4),
  (248, .laload, 1, .null, 0),
  (249, .lsub, 1, .null, 0),
  (250, .invokevirtual 345, 3, .null, 0),
  (253, .istore_n 2, 1, .null, 2),
  (254, .iinc 7 (1), 3, (.int (1)), 7),
  (257, .goto (-92), 3, .null, 165),
  (260, .iinc 3 (1), 3, (.int (1)), 3),
  (263, .goto (-209), 3, .null, 54),
  (266, .iload_n 2, 1, .null, 2),
  (267, .ireturn, 1, .null, 0)]
noncomputable def m_X11_pack : ab_M := (c_X11_pack, [(0, [0, 1]), (54, [0, 1, 2, 3]), (94, [0, 1, 2, 3, 4, 5]), (140, [0, 1, 2, 3, 4]), (165, [0, 1, 2, 3, 4, 6, 7])],
  [(20, 11, 4, 3), (57, 11, 18, 3), (63, 11, 20, 3), (66, 11, 21, 3), (72, 11, 23, 3), (75, 11, 24, 3), (114, 11, 45, 3), (180, 11, 25, 0)],
  [],
  [(153, 1, 4, g_X11_letter), (176, 1, 2, g_X11_build), (206, 1, 3, g_X11_isFinal), (213, 1, 4, g_X11_child), (231, 1, 3, g_X11_children), (345, 1, 4, g_X11_write)],
  [], 9, 1)
theorem one_X11_pack : ab_oneM m_X11_pack := List.forall_mem_cons.mpr ⟨o_X11_letter, List.forall_mem_cons.mpr ⟨o_X11_build, List.forall_mem_cons.mpr ⟨o_X11_isFinal, List.forall_mem_cons.mpr ⟨o_X11_child, List.forall_mem_cons.mpr ⟨o_X11_children, List.forall_mem_cons.mpr ⟨o_X11_write, fun _ h => absurd h List.not_mem_nil⟩⟩⟩⟩⟩⟩
noncomputable def f_X11_pack (l0 : Nat) (l1 : Int32) (st : ab_S) : Option ab_R := ab_rc st l0 11 (ab_lim m_X11_pack 0 [.ref l0, .int l1] [] st)
noncomputable def L_X11_pack_54 (l0 : Nat) (l1 : Int32) (l2 : Int32) (l3 : Int32) (st : ab_S) : Option ab_R := ab_lim m_X11_pack 54 [.ref l0, .int l1, .int l2, .int l3] [] st
noncomputable def L_X11_pack_94 (l0 : Nat) (l1 : Int32) (l2 : Int32) (l3 : Int32) (l4 : Int32) (l5 : Int32) (t0 : Nat) (t1 : Int32) (t2 : Int32) (st : ab_S) : Option ab_R := ab_lim m_X11_pack 94 [.ref l0, .int l1, .int l2, .int l3, .int l4, .int l5] [.int t2, .int t1, .ref t0] st
noncomputable def L_X11_pack_140 (l0 : Nat) (l1 : Int32) (l2 : Int32) (l3 : Int32) (l4 : Int32) (st : ab_S) : Option ab_R := ab_lim m_X11_pack 140 [.ref l0, .int l1, .int l2, .int l3, .int l4] [] st
noncomputable def L_X11_pack_165 (l0 : Nat) (l1 : Int32) (l2 : Int32) (l3 : Int32) (l4 : Int32) (l6 : Int32) (l7 : Int32) (st : ab_S) : Option ab_R := ab_lim m_X11_pack 165 [.ref l0, .int l1, .int l2, .int l3, .int l4, .int l6, .int l7] [] st
noncomputable def g_X11_pack : ab_G := fun as st k => match as with
  | [.ref a0, .int a1] => ab_ri (f_X11_pack a0 a1 st) (fun x t => k [.int x] t)
  | _ => none
theorem o_X11_pack : ab_one g_X11_pack := by
  intro as st k r h
  unfold g_X11_pack at h ⊢
  split at h
  · exact one_ri h
  · cases h
set_option maxRecDepth 100000 in
theorem e_X11_pack_0 (l0 : Nat) (l1 : Int32) (st : ab_S) : f_X11_pack l0 l1 st =
    ab_rc st l0 11 (
    ab_rv (f_X11_build l0 l1 st) fun s1 =>
    Option.bind (ab_gR s1 l0 11 45) fun x2 =>
    Option.bind (ab_wB s1 x2 (0 : Int32) (84 : Int32)) fun s3 =>
    Option.bind (ab_gR s3 l0 11 45) fun x4 =>
    Option.bind (ab_wB s3 x4 (1 : Int32) (77 : Int32)) fun s5 =>
    Option.bind (ab_gR s5 l0 11 45) fun x6 =>
    Option.bind (ab_gR s5 l0 11 21) fun x7 =>
    Option.bind (ab_rJ s5 x7 (0 : Int32)) fun x8 =>
    ab_ri (f_X11_write l0 x6 (2 : Int32) x8 s5) fun x10 s9 =>
    Option.bind (ab_gR s9 l0 11 45) fun x11 =>
    Option.bind (ab_gI s9 l0 11 25) fun x12 =>
    ab_ri (f_X11_write l0 x11 x10 x12.toInt64 s9) fun x14 s13 =>
    L_X11_pack_54 l0 l1 x14 (0 : Int32) s13) := congrArg (ab_rc st l0 11) ((lm_eq one_X11_pack 0 _ _ _).trans rfl)
set_option maxRecDepth 100000 in
theorem e_X11_pack_54 (l0 : Nat) (l1 : Int32) (l2 : Int32) (l3 : Int32) (st : ab_S) : L_X11_pack_54 l0 l1 l2 l3 st =
    Option.bind (ab_gI st l0 11 25) fun x1 =>
    if x1 ≤ l3
    then some (some (.int l2), st)
    else Option.bind (ab_gR st l0 11 24) fun x2 =>
      Option.bind (ab_rI st x2 l3) fun x3 =>
      ab_ri (f_X11_isFinal l0 l1 x3 st) fun x5 s4 =>
      Option.bind (ab_gR s4 l0 11 45) fun x6 =>
      if x5 = 0
      then L_X11_pack_94 l0 l1 l2 l3 x3 x5 x6 l2 (0 : Int32) s4
      else L_X11_pack_94 l0 l1 l2 l3 x3 x5 x6 l2 (1 : Int32) s4 := (lm_eq one_X11_pack 54 _ _ _).trans rfl
set_option maxRecDepth 100000 in
theorem e_X11_pack_94 (l0 : Nat) (l1 : Int32) (l2 : Int32) (l3 : Int32) (l4 : Int32) (l5 : Int32) (t0 : Nat) (t1 : Int32) (t2 : Int32) (st : ab_S) : L_X11_pack_94 l0 l1 l2 l3 l4 l5 t0 t1 t2 st =
    Option.bind (ab_wB st t0 t1 t2.toInt8.toInt32) fun s1 =>
    if l5 = 0
    then L_X11_pack_140 l0 l1 (l2 + (1 : Int32)) l3 l4 s1
    else Option.bind (ab_gR s1 l0 11 45) fun x2 =>
      Option.bind (ab_gR s1 l0 11 4) fun x3 =>
      Option.bind (ab_gR s1 l0 11 18) fun x4 =>
      Option.bind (ab_rI s1 x4 l4) fun x5 =>
      Option.bind (ab_rJ s1 x3 (((200 : Int32) * l1) + x5)) fun x6 =>
      Option.bind (ab_gR s1 l0 11 21) fun x7 =>
      Option.bind (ab_rJ s1 x7 l4) fun x8 =>
      ab_ri (f_X11_write l0 x2 (l2 + (1 : Int32)) (x6 - x8) s1) fun x10 s9 =>
      L_X11_pack_140 l0 l1 x10 l3 l4 s9 := (lm_eq one_X11_pack 94 _ _ _).trans rfl
set_option maxRecDepth 100000 in
theorem e_X11_pack_140 (l0 : Nat) (l1 : Int32) (l2 : Int32) (l3 : Int32) (l4 : Int32) (st : ab_S) : L_X11_pack_140 l0 l1 l2 l3 l4 st =
    ab_ri (f_X11_children l0 l1 l4 st) fun x2 s1 =>
    Option.bind (ab_gR s1 l0 11 45) fun x3 =>
    ab_ri (f_X11_write l0 x3 l2 x2.toInt64 s1) fun x5 s4 =>
    L_X11_pack_165 l0 l1 x5 l3 l4 x2 (0 : Int32) s4 := (lm_eq one_X11_pack 140 _ _ _).trans rfl
set_option maxRecDepth 100000 in
theorem e_X11_pack_165 (l0 : Nat) (l1 : Int32) (l2 : Int32) (l3 : Int32) (l4 : Int32) (l6 : Int32) (l7 : Int32) (st : ab_S) : L_X11_pack_165 l0 l1 l2 l3 l4 l6 l7 st =
    if l6 ≤ l7
    then L_X11_pack_54 l0 l1 l2 (l3 + (1 : Int32)) st
    else ab_ri (f_X11_child l0 l1 l4 l7 st) fun x2 s1 =>
      Option.bind (ab_gR s1 l0 11 45) fun x3 =>
      Option.bind (ab_gR s1 l0 11 18) fun x4 =>
      Option.bind (ab_rI s1 x4 x2) fun x5 =>
      Option.bind (ab_gR s1 l0 11 20) fun x6 =>
      Option.bind (ab_rI s1 x6 l4) fun x7 =>
      ab_ri (f_X11_letter l0 l1 x5 x7 s1) fun x9 s8 =>
      Option.bind (ab_wB s8 x3 l2 x9.toInt8.toInt32) fun s10 =>
      Option.bind (ab_gR s10 l0 11 45) fun x11 =>
      Option.bind (ab_gR s10 l0 11 23) fun x12 =>
      Option.bind (ab_rI s10 x12 x2) fun x13 =>
      ab_ri (f_X11_write l0 x11 (l2 + (1 : Int32)) x13.toInt64 s10) fun x15 s14 =>
      Option.bind (ab_gR s14 l0 11 45) fun x16 =>
      Option.bind (ab_gR s14 l0 11 21) fun x17 =>
      Option.bind (ab_rJ s14 x17 x2) fun x18 =>
      Option.bind (ab_gR s14 l0 11 21) fun x19 =>
      Option.bind (ab_rJ s14 x19 l4) fun x20 =>
      ab_ri (f_X11_write l0 x16 x15 (x18 - x20) s14) fun x22 s21 =>
      L_X11_pack_165 l0 l1 x22 l3 l4 l6 (l7 + (1 : Int32)) s21 := (lm_eq one_X11_pack 165 _ _ _).trans rfl
def c_X11_packed : List (Nat × ab_I) := [(0, .iload_n 1, 1, .null, 1),
  (1, .invokestatic 159, 3, .null, 0),
  (4, .ifCond .ne (6), 3, .null, 10),
  (7, .bipush (-2), 2, (.int (-2)), 0),
  (9, .ireturn, 1, .null, 0),
  (10, .aload_n 0, 1, .null, 0),
  (11, .getfield 27, 3, .null, 0),
  (14, .iload_n 1, 1, .null, 1),
  (15, .baload, 1, .null, 0),
  (16, .ifCond .eq (6), 3, .null, 22),
  (19, .bipush (-4), 2, (.int (-4)), 0),
  (21, .ireturn, 1, .null, 0),
  (22, .aload_n 0, 1, .null, 0),
  (23, .aload_n 0, 1, .null, 0),
  (24, .iload_n 1, 1, .null, 1),
  (25, .invokevirtual 349, 3, .null, 0),
  (28, .putfield 352, 3, .null, 0),
  (31, .iconst 0, 1, (.int (0)), 0),
  (32, .istore_n 2, 1, .null, 2),
  (33, .iload_n 2, 1, .null, 2),
  (34, .aload_n 0, 1, .null, 0),
  (35, .getfield 352, 3, .null, 0),
  (38, .if_icmp .ge (21), 3, .null, 59),
  (41, .aload_n 0, 1, .null, 0),
  (42, .getfield 42, 3, .null, 0),
  (45, .iload_n 2, 1, .null, 2),
  (46, .aload_n 0, 1, .null, 0),
  (47, .getfield 114, 3, .null, 0),
  (50, .iload_n 2, 1, .null, 2),
  (51, .baload, 1, .null, 0),
  (52, .bastore, 1, .null, 0),
  (53, .iinc 2 (1), 3, (.int (1)), 2),
  (56, .goto (-23), 3, .null, 33),
  (59, .aload_n 0, 1, .null, 0),
  (60, .getfield 352, 3, .null, 0),
  (63, .ireturn, 1, .null, 0)]
noncomputable def m_X11_packed : ab_M := (c_X11_packed, [(0, [0, 1]), (33, [0, 2])],
  [(27, 11, 6, 3), (42, 11, 11, 3), (114, 11, 45, 3), (352, 11, 12, 0)],
  [],
  [(159, 0, 1, g_X11_isDictionary), (349, 1, 2, g_X11_pack)],
  [], 3, 1)
theorem one_X11_packed : ab_oneM m_X11_packed := List.forall_mem_cons.mpr ⟨o_X11_isDictionary, List.forall_mem_cons.mpr ⟨o_X11_pack, fun _ h => absurd h List.not_mem_nil⟩⟩
noncomputable def f_X11_packed (l0 : Nat) (l1 : Int32) (st : ab_S) : Option ab_R := ab_rc st l0 11 (ab_lim m_X11_packed 0 [.ref l0, .int l1] [] st)
noncomputable def L_X11_packed_33 (l0 : Nat) (l2 : Int32) (st : ab_S) : Option ab_R := ab_lim m_X11_packed 33 [.ref l0, .int l2] [] st
noncomputable def g_X11_packed : ab_G := fun as st k => match as with
  | [.ref a0, .int a1] => ab_ri (f_X11_packed a0 a1 st) (fun x t => k [.int x] t)
  | _ => none
theorem o_X11_packed : ab_one g_X11_packed := by
  intro as st k r h
  unfold g_X11_packed at h ⊢
  split at h
  · exact one_ri h
  · cases h
set_option maxRecDepth 100000 in
theorem e_X11_packed_0 (l0 : Nat) (l1 : Int32) (st : ab_S) : f_X11_packed l0 l1 st =
    ab_rc st l0 11 (
    ab_ri (f_X11_isDictionary l1 st) fun x2 s1 =>
    if x2 = 0
    then some (some (.int (-2 : Int32)), s1)
    else Option.bind (ab_gR s1 l0 11 6) fun x3 =>
      Option.bind (ab_rB s1 x3 l1) fun x4 =>
      if x4 = 0
      then ab_ri (f_X11_pack l0 l1 s1) fun x6 s5 =>
        Option.bind (ab_pI s5 l0 11 12 x6) fun s7 =>
        L_X11_packed_33 l0 (0 : Int32) s7
      else some (some (.int (-4 : Int32)), s1)) := congrArg (ab_rc st l0 11) ((lm_eq one_X11_packed 0 _ _ _).trans rfl)
set_option maxRecDepth 100000 in
theorem e_X11_packed_33 (l0 : Nat) (l2 : Int32) (st : ab_S) : L_X11_packed_33 l0 l2 st =
    Option.bind (ab_gI st l0 11 12) fun x1 =>
    if x1 ≤ l2
    then Option.bind (ab_gI st l0 11 12) fun x2 =>
      some (some (.int x2), st)
    else Option.bind (ab_gR st l0 11 11) fun x3 =>
      Option.bind (ab_gR st l0 11 45) fun x4 =>
      Option.bind (ab_rB st x4 l2) fun x5 =>
      Option.bind (ab_wB st x3 l2 x5) fun s6 =>
      L_X11_packed_33 l0 (l2 + (1 : Int32)) s6 := (lm_eq one_X11_packed 33 _ _ _).trans rfl
def c_X10_sign : List (Nat × ab_I) := [(0, .aload_n 0, 1, .null, 0),
  (1, .getfield 59, 3, .null, 0),
  (4, .iload_n 1, 1, .null, 1),
  (5, .invokevirtual 226, 3, .null, 0),
  (8, .ireturn, 1, .null, 0)]
noncomputable def m_X10_sign : ab_M := (c_X10_sign, [(0, [0, 1])],
  [(59, 10, 7, 3)],
  [],
  [(226, 1, 2, g_X6_at)],
  [], 2, 1)
theorem one_X10_sign : ab_oneM m_X10_sign := List.forall_mem_cons.mpr ⟨o_X6_at, fun _ h => absurd h List.not_mem_nil⟩
noncomputable def f_X10_sign (l0 : Nat) (l1 : Int32) (st : ab_S) : Option ab_R := ab_rc st l0 10 (ab_lim m_X10_sign 0 [.ref l0, .int l1] [] st)
noncomputable def g_X10_sign : ab_G := fun as st k => match as with
  | [.ref a0, .int a1] => ab_ri (f_X10_sign a0 a1 st) (fun x t => k [.int x] t)
  | _ => none
theorem o_X10_sign : ab_one g_X10_sign := by
  intro as st k r h
  unfold g_X10_sign at h ⊢
  split at h
  · exact one_ri h
  · cases h
set_option maxRecDepth 100000 in
theorem e_X10_sign_0 (l0 : Nat) (l1 : Int32) (st : ab_S) : f_X10_sign l0 l1 st =
    ab_rc st l0 10 (
    Option.bind (ab_gR st l0 10 7) fun x1 =>
    ab_ri (f_X6_at x1 l1 st) fun x3 s2 =>
    some (some (.int x3), s2)) := congrArg (ab_rc st l0 10) ((lm_eq one_X10_sign 0 _ _ _).trans rfl)
def c_X11_sign : List (Nat × ab_I) := [(0, .iload_n 1, 1, .null, 1),
  (1, .i2l, 1, .null, 0),
  (2, .lconst 0, 1, (.long (0)), 0),
  (3, .aload_n 0, 1, .null, 0),
  (4, .getfield 352, 3, .null, 0),
  (7, .iconst 1, 1, (.int (1)), 0),
  (8, .isub, 1, .null, 0),
  (9, .i2l, 1, .null, 0),
  (10, .invokestatic 146, 3, .null, 0),
  (13, .ifCond .eq (16), 3, .null, 29),
  (16, .aload_n 0, 1, .null, 0),
  (17, .getfield 42, 3, .null, 0),
  (20, .iload_n 1, 1, .null, 1),
  (21, .baload, 1, .null, 0),
  (22, .sipush (255), 3, (.int (255)), 0),
  (25, .iand, 1, .null, 0),
  (26, .goto (4), 3, .null, 30),
  (29, .iconst (-1), 1, (.int (-1)), 0),
  (30, .ireturn, 1, .null, 0)]
noncomputable def m_X11_sign : ab_M := (c_X11_sign, [(0, [0, 1])],
  [(42, 11, 11, 3), (352, 11, 12, 0)],
  [],
  [(146, 0, 3, g_X11_isIn)],
  [], 2, 1)
theorem one_X11_sign : ab_oneM m_X11_sign := List.forall_mem_cons.mpr ⟨o_X11_isIn, fun _ h => absurd h List.not_mem_nil⟩
noncomputable def f_X11_sign (l0 : Nat) (l1 : Int32) (st : ab_S) : Option ab_R := ab_rc st l0 11 (ab_lim m_X11_sign 0 [.ref l0, .int l1] [] st)
noncomputable def g_X11_sign : ab_G := fun as st k => match as with
  | [.ref a0, .int a1] => ab_ri (f_X11_sign a0 a1 st) (fun x t => k [.int x] t)
  | _ => none
theorem o_X11_sign : ab_one g_X11_sign := by
  intro as st k r h
  unfold g_X11_sign at h ⊢
  split at h
  · exact one_ri h
  · cases h
set_option maxRecDepth 100000 in
theorem e_X11_sign_0 (l0 : Nat) (l1 : Int32) (st : ab_S) : f_X11_sign l0 l1 st =
    ab_rc st l0 11 (
    Option.bind (ab_gI st l0 11 12) fun x1 =>
    ab_ri (f_X11_isIn l1.toInt64 (0 : Int64) ((x1 - (1 : Int32)).toInt64) st) fun x3 s2 =>
    if x3 = 0
    then some (some (.int (-1 : Int32)), s2)
    else Option.bind (ab_gR s2 l0 11 11) fun x4 =>
      Option.bind (ab_rB s2 x4 l1) fun x5 =>
      some (some (.int (x5 &&& (255 : Int32))), s2)) := congrArg (ab_rc st l0 11) ((lm_eq one_X11_sign 0 _ _ _).trans rfl)
def c_X3_readSign : List (Nat × ab_I) := [(0, .aload_n 1, 1, .null, 1),
  (1, .aload_n 0, 1, .null, 0),
  (2, .getfield 86, 3, .null, 0),
  (5, .invokevirtual 119, 3, .null, 0),
  (8, .istore_n 2, 1, .null, 2),
  (9, .aload_n 0, 1, .null, 0),
  (10, .dup, 1, .null, 0),
  (11, .getfield 86, 3, .null, 0),
  (14, .iconst 1, 1, (.int (1)), 0),
  (15, .iadd, 1, .null, 0),
  (16, .putfield 86, 3, .null, 0),
  (19, .iload_n 2, 1, .null, 2),
  (20, .ireturn, 1, .null, 0)]
noncomputable def m_X3_readSign : ab_M := (c_X3_readSign, [(0, [0, 1])],
  [(86, 3, 4, 0)],
  [],
  [(119, 1, 2, g_X6_at)],
  [], 3, 1)
theorem one_X3_readSign : ab_oneM m_X3_readSign := List.forall_mem_cons.mpr ⟨o_X6_at, fun _ h => absurd h List.not_mem_nil⟩
noncomputable def f_X3_readSign (l0 : Nat) (l1 : Nat) (st : ab_S) : Option ab_R := ab_rc st l0 3 (ab_lim m_X3_readSign 0 [.ref l0, .ref l1] [] st)
noncomputable def g_X3_readSign : ab_G := fun as st k => match as with
  | [.ref a0, .ref a1] => ab_ri (f_X3_readSign a0 a1 st) (fun x t => k [.int x] t)
  | _ => none
theorem o_X3_readSign : ab_one g_X3_readSign := by
  intro as st k r h
  unfold g_X3_readSign at h ⊢
  split at h
  · exact one_ri h
  · cases h
set_option maxRecDepth 100000 in
theorem e_X3_readSign_0 (l0 : Nat) (l1 : Nat) (st : ab_S) : f_X3_readSign l0 l1 st =
    ab_rc st l0 3 (
    Option.bind (ab_gI st l0 3 4) fun x1 =>
    ab_ri (f_X6_at l1 x1 st) fun x3 s2 =>
    Option.bind (ab_gI s2 l0 3 4) fun x4 =>
    Option.bind (ab_pI s2 l0 3 4 (x4 + (1 : Int32))) fun s5 =>
    some (some (.int x3), s5)) := congrArg (ab_rc st l0 3) ((lm_eq one_X3_readSign 0 _ _ _).trans rfl)
def c_X3_readNumber : List (Nat × ab_I) := [(0, .lconst 0, 1, (.long (0)), 0),
  (1, .lstore_n 2, 1, .null, 2),
  (2, .iconst 0, 1, (.int (0)), 0),
  (3, .istore 4, 2, .null, 4),
  (5, .iload 4, 2, .null, 4),
  (7, .bipush (6), 2, (.int (6)), 0),
  (9, .if_icmp .ge (51), 3, .null, 60),
  (12, .aload_n 0, 1, .null, 0),
  (13, .aload_n 1, 1, .null, 1),
  (14, .invokevirtual 89, 3, .null, 0),
  (17, .istore 5, 2, .null, 5),
  (19, .iload 5, 2, .null, 5),
  (21, .iconst (-1), 1, (.int (-1)), 0),
  (22, .if_icmp .ne (7), 3, .null, 29),
  (25, .ldc2_w 56, 3, (.long (-1)), 0),
  (28, .lreturn, 1, .null, 0),
  (29, .lload_n 2, 1, .null, 2),
  (30, .iload 5, 2, .null, 5),
  (32, .bipush (127), 2, (.int (127)), 0),
  (34, .iand, 1, .null, 0),
  (35, .i2l, 1, .null, 0),
  (36, .bipush (7), 2, (.int (7)), 0),
  (38, .iload 4, 2, .null, 4),
  (40, .imul, 1, .null, 0),
  (41, .lshl, 1, .null, 0),
  (42, .lor, 1, .null, 0),
  (43, .lstore_n 2, 1, .null, 2),
  (44, .iload 5, 2, .null, 5),
  (46, .sipush (128), 3, (.int (128)), 0),
  (49, .if_icmp .ge (5), 3, .null, 54),
  (52, .lload_n 2, 1, .null, 2),
  (53, .lreturn, 1, .null, 0),
  (54, .iinc 4 (1), 3, (.int (1)), 4),
  (57, .goto (-52), 3, .null, 5),
  (60, .ldc2_w 56, 3, (.long (-1)), 0),
  (63, .lreturn, 1, .null, 0)]
noncomputable def m_X3_readNumber : ab_M := (c_X3_readNumber, [(0, [0, 1]), (5, [0, 1, 2, 4])],
  [],
  [],
  [(89, 1, 2, g_X3_readSign)],
  [], 6, 3)
theorem one_X3_readNumber : ab_oneM m_X3_readNumber := List.forall_mem_cons.mpr ⟨o_X3_readSign, fun _ h => absurd h List.not_mem_nil⟩
noncomputable def f_X3_readNumber (l0 : Nat) (l1 : Nat) (st : ab_S) : Option ab_R := ab_rc st l0 3 (ab_lim m_X3_readNumber 0 [.ref l0, .ref l1] [] st)
noncomputable def L_X3_readNumber_5 (l0 : Nat) (l1 : Nat) (l2 : Int64) (l4 : Int32) (st : ab_S) : Option ab_R := ab_lim m_X3_readNumber 5 [.ref l0, .ref l1, .long l2, .int l4] [] st
noncomputable def g_X3_readNumber : ab_G := fun as st k => match as with
  | [.ref a0, .ref a1] => ab_rl (f_X3_readNumber a0 a1 st) (fun x t => k [.long x] t)
  | _ => none
theorem o_X3_readNumber : ab_one g_X3_readNumber := by
  intro as st k r h
  unfold g_X3_readNumber at h ⊢
  split at h
  · exact one_rl h
  · cases h
set_option maxRecDepth 100000 in
theorem e_X3_readNumber_0 (l0 : Nat) (l1 : Nat) (st : ab_S) : f_X3_readNumber l0 l1 st =
    ab_rc st l0 3 (
    L_X3_readNumber_5 l0 l1 (0 : Int64) (0 : Int32) st) := congrArg (ab_rc st l0 3) ((lm_eq one_X3_readNumber 0 _ _ _).trans rfl)
set_option maxRecDepth 100000 in
theorem e_X3_readNumber_5 (l0 : Nat) (l1 : Nat) (l2 : Int64) (l4 : Int32) (st : ab_S) : L_X3_readNumber_5 l0 l1 l2 l4 st =
    if (6 : Int32) ≤ l4
    then some (some (.long (-1 : Int64)), st)
    else ab_ri (f_X3_readSign l0 l1 st) fun x2 s1 =>
      if x2 = (-1 : Int32)
      then some (some (.long (-1 : Int64)), s1)
      else if (128 : Int32) ≤ x2
        then L_X3_readNumber_5 l0 l1 (l2 ||| ((x2 &&& (127 : Int32)).toInt64 <<< (((7 : Int32) * l4).toInt64 &&& 63))) (l4 + (1 : Int32)) s1
        else some (some (.long (l2 ||| ((x2 &&& (127 : Int32)).toInt64 <<< (((7 : Int32) * l4).toInt64 &&& 63)))), s1) := (lm_eq one_X3_readNumber 5 _ _ _).trans rfl
def c_X3_readState : List (Nat × ab_I) := [(0, .aload_n 0, 1, .null, 0),
  (1, .aload_n 1, 1, .null, 1),
  (2, .invokevirtual 89, 3, .null, 0),
  (5, .istore 4, 2, .null, 4),
  (7, .iload 4, 2, .null, 4),
  (9, .iconst 1, 1, (.int (1)), 0),
  (10, .if_icmp .ne (11), 3, .null, 21),
  (13, .aload_n 0, 1, .null, 0),
  (14, .aload_n 1, 1, .null, 1),
  (15, .invokevirtual 93, 3, .null, 0),
  (18, .goto (6), 3, .null, 24),
  (21, .ldc2_w 56, 3, (.long (-1)), 0),
  (24, .lstore 5, 2, .null, 5),
  (26, .aload_n 0, 1, .null, 0),
  (27, .aload_n 1, 1, .null, 1),
  (28, .invokevirtual 93, 3, .null, 0),
  (31, .lstore 7, 2, .null, 7),
  (33, .iload 4, 2, .null, 4),
  (35, .ifCond .eq (16), 3, .null, 51),
  (38, .iload 4, 2, .null, 4),
  (40, .iconst 1, 1, (.int (1)), 0),
  (41, .if_icmp .ne (14), 3, .null, 55),
  (44, .lload 5, 2, .null, 5),
  (46, .lconst 0, 1, (.long (0)), 0),
  (47, .lcmp, 1, .null, 0),
  (48, .ifCond .lt (7), 3, .null, 55),
  (51, .iconst 1, 1, (.int (1)), 0),
  (52, .goto (4), 3, .null, 56),
  (55, .iconst 0, 1, (.int (0)), 0),
  (56, .istore 9, 2, .null, 9),
  (58, .iload 9, 2, .null, 9),
  (60, .ifCond .eq (29), 3, .null, 89),
  (63, .lload 7, 2, .null, 7),
  (65, .lconst 0, 1, (.long (0)), 0),
  (66, .lcmp, 1, .null, 0),
  (67, .ifCond .lt (22), 3, .null, 89),
  (70, .lload 7, 2, .null, 7),
  (72, .ldc2_w 109, 3, (.long (256)), 0),
  (75, .lcmp, 1, .null, 0),
  (76, .ifCond .gt (13), 3, .null, 89),
  (79, .aload_n 2, 1, .null, 2),
  (80, .lload 5, 2, .null, 5),
  (82, .iconst 0, 1, (.int (0)), 0),
  (83, .invokevirtual 111, 3, .null, 0),
  (86, .ifCond .ne (5), 3, .null, 91),
  (89, .iconst 0, 1, (.int (0)), 0),
  (90, .ireturn, 1, .null, 0),
  (91, .iconst (-1), 1, (.int (-1)), 0),
  (92, .istore 10, 2, .null, 10),
  (94, .iconst 0, 1, (.int (0)), 0),
  (95, .istore 11, 2, .null, 11),
  (97, .iload 11, 2, .null, 11),
  (99, .i2l, 1, .null, 0),
  (100, .lload 7, 2, .null, 7),
  (102, .lcmp, 1, .null, 0),
  (103, .ifCond .ge (91), 3, .null, 194),
  (106, .aload_n 0, 1, .null, 0),
  (107, .aload_n 1, 1, .null, 1),
  (108, .invokevirtual 89, 3, .null, 0),
  (111, .istore 12, 2, .null, 12),
  (113, .aload_n 0, 1, .null, 0),
  (114, .aload_n 1, 1, .null, 1),
  (115, .invokevirtual 93, 3, .null, 0),
  (118, .lstore 13, 2, .null, 13),
  (120, .aload_n 0, 1, .null, 0),
  (121, .aload_n 1, 1, .null, 1),
  (122, .invokevirtual 93, 3, .null, 0),
  (125, .lstore 15, 2, .null, 15),
  (127, .lload 13, 2, .null, 13),
  (129, .lconst 0, 1, (.long (0)), 0),
  (130, .lcmp, 1, .null, 0),
  (131, .ifCond .lt (22), 3, .null, 153),
  (134, .lload 13, 2, .null, 13),
  (136, .iload_n 3, 1, .null, 3),
  (137, .i2l, 1, .null, 0),
  (138, .lcmp, 1, .null, 0),
  (139, .ifCond .ge (14), 3, .null, 153),
  (142, .lload 15, 2, .null, 15),
  (144, .lconst 0, 1, (.long (0)), 0),
  (145, .lcmp, 1, .null, 0),
  (146, .ifCond .lt (7), 3, .null, 153),
  (149, .iconst 1, 1, (.int (1)), 0),
  (150, .goto (4), 3, .null, 154),
  (153, .iconst 0, 1, (.int (0)), 0),
  (154, .istore 17, 2, .null, 17),
  (156, .iload 12, 2, .null, 12),
  (158, .iload 10, 2, .null, 10),
  (160, .if_icmp .le (22), 3, .null, 182),
  (163, .iload 17, 2, .null, 17),
  (165, .ifCond .eq (17), 3, .null, 182),
  (168, .aload_n 2, 1, .null, 2),
  (169, .iload 12, 2, .null, 12),
  (171, .lload 13, 2, .null, 13),
  (173, .l2i, 1, .null, 0),
  (174, .lload 15, 2, .null, 15),
  (176, .invokevirtual 115, 3, .null, 0),
  (179, .ifCond .ne (5), 3, .null, 184),
  (182, .iconst 0, 1, (.int (0)), 0),
  (183, .ireturn, 1, .null, 0),
  (184, .iload 12, 2, .null, 12),
  (186, .istore 10, 2, .null, 10),
  (188, .iinc 11 (1), 3, (.int (1)), 11),
  (191, .goto (-94), 3, .null, 97),
  (194, .iconst 1, 1, (.int (1)), 0),
  (195, .ireturn, 1, .null, 0)]
noncomputable def m_X3_readState : ab_M := (c_X3_readState, [(0, [0, 1, 2, 3]), (24, [0, 1, 2, 3, 4]), (51, [0, 1, 2, 3, 5, 7]), (55, [0, 1, 2, 3, 5, 7]), (56, [0, 1, 2, 3, 5, 7]), (97, [0, 1, 2, 3, 7, 10, 11]), (153, [0, 1, 2, 3, 7, 10, 11, 12, 13, 15]), (154, [0, 1, 2, 3, 7, 10, 11, 12, 13, 15])],
  [],
  [],
  [(89, 1, 2, g_X3_readSign), (93, 1, 2, g_X3_readNumber), (111, 1, 3, g_X1_putState), (115, 1, 4, g_X1_putArc)],
  [], 18, 2)
theorem one_X3_readState : ab_oneM m_X3_readState := List.forall_mem_cons.mpr ⟨o_X3_readSign, List.forall_mem_cons.mpr ⟨o_X3_readNumber, List.forall_mem_cons.mpr ⟨o_X1_putState, List.forall_mem_cons.mpr ⟨o_X1_putArc, fun _ h => absurd h List.not_mem_nil⟩⟩⟩⟩
noncomputable def f_X3_readState (l0 : Nat) (l1 : Nat) (l2 : Nat) (l3 : Int32) (st : ab_S) : Option ab_R := ab_rc st l0 3 (ab_lim m_X3_readState 0 [.ref l0, .ref l1, .ref l2, .int l3] [] st)
noncomputable def L_X3_readState_24 (l0 : Nat) (l1 : Nat) (l2 : Nat) (l3 : Int32) (l4 : Int32) (t0 : Int64) (st : ab_S) : Option ab_R := ab_lim m_X3_readState 24 [.ref l0, .ref l1, .ref l2, .int l3, .int l4] [.long t0] st
noncomputable def L_X3_readState_51 (l0 : Nat) (l1 : Nat) (l2 : Nat) (l3 : Int32) (l5 : Int64) (l7 : Int64) (st : ab_S) : Option ab_R := ab_lim m_X3_readState 51 [.ref l0, .ref l1, .ref l2, .int l3, .long l5, .long l7] [] st
noncomputable def L_X3_readState_55 (l0 : Nat) (l1 : Nat) (l2 : Nat) (l3 : Int32) (l5 : Int64) (l7 : Int64) (st : ab_S) : Option ab_R := ab_lim m_X3_readState 55 [.ref l0, .ref l1, .ref l2, .int l3, .long l5, .long l7] [] st
noncomputable def L_X3_readState_56 (l0 : Nat) (l1 : Nat) (l2 : Nat) (l3 : Int32) (l5 : Int64) (l7 : Int64) (t0 : Int32) (st : ab_S) : Option ab_R := ab_lim m_X3_readState 56 [.ref l0, .ref l1, .ref l2, .int l3, .long l5, .long l7] [.int t0] st
noncomputable def L_X3_readState_97 (l0 : Nat) (l1 : Nat) (l2 : Nat) (l3 : Int32) (l7 : Int64) (l10 : Int32) (l11 : Int32) (st : ab_S) : Option ab_R := ab_lim m_X3_readState 97 [.ref l0, .ref l1, .ref l2, .int l3, .long l7, .int l10, .int l11] [] st
noncomputable def L_X3_readState_153 (l0 : Nat) (l1 : Nat) (l2 : Nat) (l3 : Int32) (l7 : Int64) (l10 : Int32) (l11 : Int32) (l12 : Int32) (l13 : Int64) (l15 : Int64) (st : ab_S) : Option ab_R := ab_lim m_X3_readState 153 [.ref l0, .ref l1, .ref l2, .int l3, .long l7, .int l10, .int l11, .int l12, .long l13, .long l15] [] st
noncomputable def L_X3_readState_154 (l0 : Nat) (l1 : Nat) (l2 : Nat) (l3 : Int32) (l7 : Int64) (l10 : Int32) (l11 : Int32) (l12 : Int32) (l13 : Int64) (l15 : Int64) (t0 : Int32) (st : ab_S) : Option ab_R := ab_lim m_X3_readState 154 [.ref l0, .ref l1, .ref l2, .int l3, .long l7, .int l10, .int l11, .int l12, .long l13, .long l15] [.int t0] st
noncomputable def g_X3_readState : ab_G := fun as st k => match as with
  | [.ref a0, .ref a1, .ref a2, .int a3] => ab_ri (f_X3_readState a0 a1 a2 a3 st) (fun x t => k [.int x] t)
  | _ => none
theorem o_X3_readState : ab_one g_X3_readState := by
  intro as st k r h
  unfold g_X3_readState at h ⊢
  split at h
  · exact one_ri h
  · cases h
set_option maxRecDepth 100000 in
theorem e_X3_readState_0 (l0 : Nat) (l1 : Nat) (l2 : Nat) (l3 : Int32) (st : ab_S) : f_X3_readState l0 l1 l2 l3 st =
    ab_rc st l0 3 (
    ab_ri (f_X3_readSign l0 l1 st) fun x2 s1 =>
    if x2 = (1 : Int32)
    then ab_rl (f_X3_readNumber l0 l1 s1) fun x4 s3 =>
      L_X3_readState_24 l0 l1 l2 l3 x2 x4 s3
    else L_X3_readState_24 l0 l1 l2 l3 x2 (-1 : Int64) s1) := congrArg (ab_rc st l0 3) ((lm_eq one_X3_readState 0 _ _ _).trans rfl)
set_option maxRecDepth 100000 in
theorem e_X3_readState_24 (l0 : Nat) (l1 : Nat) (l2 : Nat) (l3 : Int32) (l4 : Int32) (t0 : Int64) (st : ab_S) : L_X3_readState_24 l0 l1 l2 l3 l4 t0 st =
    ab_rl (f_X3_readNumber l0 l1 st) fun x2 s1 =>
    if l4 = 0
    then L_X3_readState_51 l0 l1 l2 l3 t0 x2 s1
    else if l4 = (1 : Int32)
      then if (lg_cmp t0 (0 : Int64)) < 0
        then L_X3_readState_55 l0 l1 l2 l3 t0 x2 s1
        else L_X3_readState_51 l0 l1 l2 l3 t0 x2 s1
      else L_X3_readState_55 l0 l1 l2 l3 t0 x2 s1 := (lm_eq one_X3_readState 24 _ _ _).trans rfl
set_option maxRecDepth 100000 in
theorem e_X3_readState_51 (l0 : Nat) (l1 : Nat) (l2 : Nat) (l3 : Int32) (l5 : Int64) (l7 : Int64) (st : ab_S) : L_X3_readState_51 l0 l1 l2 l3 l5 l7 st =
    L_X3_readState_56 l0 l1 l2 l3 l5 l7 (1 : Int32) st := (lm_eq one_X3_readState 51 _ _ _).trans rfl
set_option maxRecDepth 100000 in
theorem e_X3_readState_55 (l0 : Nat) (l1 : Nat) (l2 : Nat) (l3 : Int32) (l5 : Int64) (l7 : Int64) (st : ab_S) : L_X3_readState_55 l0 l1 l2 l3 l5 l7 st =
    L_X3_readState_56 l0 l1 l2 l3 l5 l7 (0 : Int32) st := (lm_eq one_X3_readState 55 _ _ _).trans rfl
set_option maxRecDepth 100000 in
theorem e_X3_readState_56 (l0 : Nat) (l1 : Nat) (l2 : Nat) (l3 : Int32) (l5 : Int64) (l7 : Int64) (t0 : Int32) (st : ab_S) : L_X3_readState_56 l0 l1 l2 l3 l5 l7 t0 st =
    if t0 = 0
    then ab_z (0 : Int32) (some (some (.int (0 : Int32)), st))
    else if (lg_cmp l7 (0 : Int64)) < 0
      then ab_z (0 : Int32) (some (some (.int (0 : Int32)), st))
      else if 0 < (lg_cmp l7 (256 : Int64))
        then ab_z (0 : Int32) (some (some (.int (0 : Int32)), st))
        else ab_ri (f_X1_putState l2 l5 (0 : Int32) st) fun x2 s1 =>
          if x2 = 0
          then ab_z (0 : Int32) (some (some (.int (0 : Int32)), s1))
          else L_X3_readState_97 l0 l1 l2 l3 l7 (-1 : Int32) (0 : Int32) s1 := (lm_eq one_X3_readState 56 _ _ _).trans rfl
set_option maxRecDepth 100000 in
theorem e_X3_readState_97 (l0 : Nat) (l1 : Nat) (l2 : Nat) (l3 : Int32) (l7 : Int64) (l10 : Int32) (l11 : Int32) (st : ab_S) : L_X3_readState_97 l0 l1 l2 l3 l7 l10 l11 st =
    if 0 ≤ (lg_cmp l11.toInt64 l7)
    then ab_z (1 : Int32) (some (some (.int (1 : Int32)), st))
    else ab_ri (f_X3_readSign l0 l1 st) fun x2 s1 =>
      ab_rl (f_X3_readNumber l0 l1 s1) fun x4 s3 =>
      ab_rl (f_X3_readNumber l0 l1 s3) fun x6 s5 =>
      if (lg_cmp x4 (0 : Int64)) < 0
      then L_X3_readState_153 l0 l1 l2 l3 l7 l10 l11 x2 x4 x6 s5
      else if 0 ≤ (lg_cmp x4 l3.toInt64)
        then L_X3_readState_153 l0 l1 l2 l3 l7 l10 l11 x2 x4 x6 s5
        else if (lg_cmp x6 (0 : Int64)) < 0
          then L_X3_readState_153 l0 l1 l2 l3 l7 l10 l11 x2 x4 x6 s5
          else L_X3_readState_154 l0 l1 l2 l3 l7 l10 l11 x2 x4 x6 (1 : Int32) s5 := (lm_eq one_X3_readState 97 _ _ _).trans rfl
set_option maxRecDepth 100000 in
theorem e_X3_readState_153 (l0 : Nat) (l1 : Nat) (l2 : Nat) (l3 : Int32) (l7 : Int64) (l10 : Int32) (l11 : Int32) (l12 : Int32) (l13 : Int64) (l15 : Int64) (st : ab_S) : L_X3_readState_153 l0 l1 l2 l3 l7 l10 l11 l12 l13 l15 st =
    L_X3_readState_154 l0 l1 l2 l3 l7 l10 l11 l12 l13 l15 (0 : Int32) st := (lm_eq one_X3_readState 153 _ _ _).trans rfl
set_option maxRecDepth 100000 in
theorem e_X3_readState_154 (l0 : Nat) (l1 : Nat) (l2 : Nat) (l3 : Int32) (l7 : Int64) (l10 : Int32) (l11 : Int32) (l12 : Int32) (l13 : Int64) (l15 : Int64) (t0 : Int32) (st : ab_S) : L_X3_readState_154 l0 l1 l2 l3 l7 l10 l11 l12 l13 l15 t0 st =
    if l12 ≤ l10
    then ab_z (0 : Int32) (some (some (.int (0 : Int32)), st))
    else if t0 = 0
      then ab_z (0 : Int32) (some (some (.int (0 : Int32)), st))
      else ab_ri (f_X1_putArc l2 l12 l13.toInt32 l15 st) fun x2 s1 =>
        if x2 = 0
        then ab_z (0 : Int32) (some (some (.int (0 : Int32)), s1))
        else L_X3_readState_97 l0 l1 l2 l3 l7 l12 (l11 + (1 : Int32)) s1 := (lm_eq one_X3_readState 154 _ _ _).trans rfl
end
section
def c_X3_readMachine : List (Nat × ab_I) := [(0, .aload_n 0, 1, .null, 0),
  (1, .iconst 0, 1, (.int (0)), 0),
  (2, .putfield 86, 3, .null, 0),
  (5, .aload_n 0, 1, .null, 0),
  (6, .aload_n 1, 1, .null, 1),
  (7, .invokevirtual 89, 3, .null, 0),
  (10, .bipush (84), 2, (.int (84)), 0),
  (12, .if_icmp .ne (13), 3, .null, 25),
  (15, .aload_n 0, 1, .null, 0),
  (16, .aload_n 1, 1, .null, 1),
  (17, .invokevirtual 89, 3, .null, 0),
  (20, .bipush (77), 2, (.int (77)), 0),
  (22, .if_icmp .eq (5), 3, .null, 27),
  (25, .iconst 0, 1, (.int (0)), 0),
  (26, .ireturn, 1, .null, 0),
  (27, .aload_n 0, 1, .null, 0),
  (28, .aload_n 1, 1, .null, 1),
  (29, .invokevirtual 93, 3, .null, 0),
  (32, .lstore_n 3, 1, .null, 3),
  (33, .aload_n 0, 1, .null, 0),
  (34, .aload_n 1, 1, .null, 1),
  (35, .invokevirtual 93, 3, .null, 0),
  (38, .lstore 5, 2, .null, 5),
  (40, .lload_n 3, 1, .null, 3),
  (41, .lconst 0, 1, (.long (0)), 0),
  (42, .lcmp, 1, .null, 0),
  (43, .ifCond .lt (19), 3, .null, 62),
  (46, .lload 5, 2, .null, 5),
  (48, .lconst 1, 1, (.long (1)), 0),
  (49, .lcmp, 1, .null, 0),
  (50, .ifCond .lt (12), 3, .null, 62),
  (53, .lload 5, 2, .null, 5),
  (55, .ldc2_w 97, 3, (.long (2401)), 0),
  (58, .lcmp, 1, .null, 0),
  (59, .ifCond .le (5), 3, .null, 64),
  (62, .iconst 0, 1, (.int (0)), 0),
  (63, .ireturn, 1, .null, 0),
  (64, .aload_n 2, 1, .null, 2),
  (65, .lload_n 3, 1, .null, 3),
  (66, .iconst 0, 1, (.int (0)), 0),
  (67, .invokevirtual 99, 3, .null, 0),
  (70, .iconst 0, 1, (.int (0)), 0),
  (71, .istore 7, 2, .null, 7),
  (73, .iload 7, 2, .null, 7),
  (75, .i2l, 1, .null, 0),
  (76, .lload 5, 2, .null, 5),
  (78, .lcmp, 1, .null, 0),
  (79, .ifCond .ge (23), 3, .null, 102),
  (82, .aload_n 0, 1, .null, 0),
  (83, .aload_n 1, 1, .null, 1),
  (84, .aload_n 2, 1, .null, 2),
  (85, .lload 5, 2, .null, 5),
  (87, .l2i, 1, .null, 0),
  (88, .invokevirtual 102, 3, .null, 0),
  (91, .ifCond .ne (5), 3, .null, 96),
  (94, .iconst 0, 1, (.int (0)), 0),
  (95, .ireturn, 1, .null, 0),
  (96, .iinc 7 (1), 3, (.int (1)), 7),
  (99, .goto (-26), 3, .null, 73),
  (102, .aload_n 0, 1, .null, 0),
  (103, .getfield 86, 3, .null, 0),
  (106, .aload_n 1, 1, .null, 1),
  (107, .getfield 106, 3, .null, 0),
  (110, .if_icmp .ne (7), 3, .null, 117),
  (113, .iconst 1, 1, (.int (1)), 0),
  (114, .goto (4), 3, .null, 118),
  (117, .iconst 0, 1, (.int (0)), 0),
  (118, .ireturn, 1, .null, 0)]
noncomputable def m_X3_readMachine : ab_M := (c_X3_readMachine, [(0, [0, 1, 2]), (73, [0, 1, 2, 5, 7])],
  [(86, 3, 4, 0), (106, 6, 1, 0)],
  [],
  [(89, 1, 2, g_X3_readSign), (93, 1, 2, g_X3_readNumber), (99, 1, 3, g_X1_clear), (102, 1, 4, g_X3_readState)],
  [], 8, 2)
theorem one_X3_readMachine : ab_oneM m_X3_readMachine := List.forall_mem_cons.mpr ⟨o_X3_readSign, List.forall_mem_cons.mpr ⟨o_X3_readNumber, List.forall_mem_cons.mpr ⟨o_X1_clear, List.forall_mem_cons.mpr ⟨o_X3_readState, fun _ h => absurd h List.not_mem_nil⟩⟩⟩⟩
noncomputable def f_X3_readMachine (l0 : Nat) (l1 : Nat) (l2 : Nat) (st : ab_S) : Option ab_R := ab_rc st l0 3 (ab_lim m_X3_readMachine 0 [.ref l0, .ref l1, .ref l2] [] st)
noncomputable def L_X3_readMachine_73 (l0 : Nat) (l1 : Nat) (l2 : Nat) (l5 : Int64) (l7 : Int32) (st : ab_S) : Option ab_R := ab_lim m_X3_readMachine 73 [.ref l0, .ref l1, .ref l2, .long l5, .int l7] [] st
noncomputable def g_X3_readMachine : ab_G := fun as st k => match as with
  | [.ref a0, .ref a1, .ref a2] => ab_ri (f_X3_readMachine a0 a1 a2 st) (fun x t => k [.int x] t)
  | _ => none
theorem o_X3_readMachine : ab_one g_X3_readMachine := by
  intro as st k r h
  unfold g_X3_readMachine at h ⊢
  split at h
  · exact one_ri h
  · cases h
set_option maxRecDepth 100000 in
theorem e_X3_readMachine_0 (l0 : Nat) (l1 : Nat) (l2 : Nat) (st : ab_S) : f_X3_readMachine l0 l1 l2 st =
    ab_rc st l0 3 (
    Option.bind (ab_pI st l0 3 4 (0 : Int32)) fun s1 =>
    ab_ri (f_X3_readSign l0 l1 s1) fun x3 s2 =>
    if x3 = (84 : Int32)
    then ab_ri (f_X3_readSign l0 l1 s2) fun x5 s4 =>
      if x5 = (77 : Int32)
      then ab_rl (f_X3_readNumber l0 l1 s4) fun x7 s6 =>
        ab_rl (f_X3_readNumber l0 l1 s6) fun x9 s8 =>
        if (lg_cmp x7 (0 : Int64)) < 0
        then ab_z (0 : Int32) (some (some (.int (0 : Int32)), s8))
        else if (lg_cmp x9 (1 : Int64)) < 0
          then ab_z (0 : Int32) (some (some (.int (0 : Int32)), s8))
          else if (lg_cmp x9 (2401 : Int64)) ≤ 0
            then ab_rv (f_X1_clear l2 x7 (0 : Int32) s8) fun s10 =>
              L_X3_readMachine_73 l0 l1 l2 x9 (0 : Int32) s10
            else ab_z (0 : Int32) (some (some (.int (0 : Int32)), s8))
      else ab_z (0 : Int32) (some (some (.int (0 : Int32)), s4))
    else ab_z (0 : Int32) (some (some (.int (0 : Int32)), s2))) := congrArg (ab_rc st l0 3) ((lm_eq one_X3_readMachine 0 _ _ _).trans rfl)
set_option maxRecDepth 100000 in
theorem e_X3_readMachine_73 (l0 : Nat) (l1 : Nat) (l2 : Nat) (l5 : Int64) (l7 : Int32) (st : ab_S) : L_X3_readMachine_73 l0 l1 l2 l5 l7 st =
    if 0 ≤ (lg_cmp l7.toInt64 l5)
    then Option.bind (ab_gI st l0 3 4) fun x1 =>
      Option.bind (ab_gI st l1 6 1) fun x2 =>
      if x1 = x2
      then ab_z (1 : Int32) (some (some (.int (1 : Int32)), st))
      else ab_z (0 : Int32) (some (some (.int (0 : Int32)), st))
    else ab_ri (f_X3_readState l0 l1 l2 l5.toInt32 st) fun x4 s3 =>
      if x4 = 0
      then ab_z (0 : Int32) (some (some (.int (0 : Int32)), s3))
      else L_X3_readMachine_73 l0 l1 l2 l5 (l7 + (1 : Int32)) s3 := (lm_eq one_X3_readMachine 73 _ _ _).trans rfl
def c_X3_enter : List (Nat × ab_I) := [(0, .iload_n 3, 1, .null, 3),
  (1, .ifCond .lt (9), 3, .null, 10),
  (4, .iload_n 3, 1, .null, 3),
  (5, .bipush (12), 2, (.int (12)), 0),
  (7, .if_icmp .le (5), 3, .null, 12),
  (10, .iconst 0, 1, (.int (0)), 0),
  (11, .ireturn, 1, .null, 0),
  (12, .aload_n 0, 1, .null, 0),
  (13, .getfield 15, 3, .null, 0),
  (16, .iload_n 3, 1, .null, 3),
  (17, .iload 4, 2, .null, 4),
  (19, .iastore, 1, .null, 0),
  (20, .aload_n 0, 1, .null, 0),
  (21, .getfield 18, 3, .null, 0),
  (24, .iload_n 3, 1, .null, 3),
  (25, .iconst 0, 1, (.int (0)), 0),
  (26, .iastore, 1, .null, 0),
  (27, .aload_n 0, 1, .null, 0),
  (28, .getfield 21, 3, .null, 0),
  (31, .iload_n 3, 1, .null, 3),
  (32, .lload 5, 2, .null, 5),
  (34, .lastore, 1, .null, 0),
  (35, .aload_n 1, 1, .null, 1),
  (36, .iload 4, 2, .null, 4),
  (38, .invokevirtual 52, 3, .null, 0),
  (41, .lstore 7, 2, .null, 7),
  (43, .lload 7, 2, .null, 7),
  (45, .ldc2_w 56, 3, (.long (-1)), 0),
  (48, .lcmp, 1, .null, 0),
  (49, .ifCond .ne (22), 3, .null, 71),
  (52, .iload_n 3, 1, .null, 3),
  (53, .ifCond .eq (12), 3, .null, 65),
  (56, .aload_n 1, 1, .null, 1),
  (57, .iload 4, 2, .null, 4),
  (59, .invokevirtual 58, 3, .null, 0),
  (62, .ifCond .le (7), 3, .null, 69),
  (65, .iconst 1, 1, (.int (1)), 0),
  (66, .goto (4), 3, .null, 70),
  (69, .iconst 0, 1, (.int (0)), 0),
  (70, .ireturn, 1, .null, 0),
  (71, .lload 5, 2, .null, 5),
  (73, .lload 7, 2, .null, 7),
  (75, .ladd, 1, .null, 0),
  (76, .ldc2_w 134, 3, (.long (1000000000000)), 0),
  (79, .lcmp, 1, .null, 0),
  (80, .ifCond .gt (25), 3, .null, 105),
  (83, .aload_n 2, 1, .null, 2),
  (84, .aload_n 0, 1, .null, 0),
  (85, .getfield 9, 3, .null, 0),
  (88, .iconst 0, 1, (.int (0)), 0),
  (89, .iload_n 3, 1, .null, 3),
  (90, .lload 5, 2, .null, 5),
  (92, .lload 7, 2, .null, 7),
  (94, .ladd, 1, .null, 0),
  (95, .invokevirtual 136, 3, .null, 0),
  (98, .ifCond .eq (7), 3, .null, 105),
  (101, .iconst 1, 1, (.int (1)), 0),
  (102, .goto (4), 3, .null, 106),
  (105, .iconst 0, 1, (.int (0)), 0),
  (106, .ireturn, 1, .null, 0)]
noncomputable def m_X3_enter : ab_M := (c_X3_enter, [(0, [0, 1, 2, 3, 4, 5])],
  [(9, 3, 0, 3), (15, 3, 1, 3), (18, 3, 2, 3), (21, 3, 3, 3)],
  [],
  [(52, 1, 2, g_X1_lastOf), (58, 1, 2, g_X1_arcsOf), (136, 1, 5, g_X7_append)],
  [], 9, 2)
theorem one_X3_enter : ab_oneM m_X3_enter := List.forall_mem_cons.mpr ⟨o_X1_lastOf, List.forall_mem_cons.mpr ⟨o_X1_arcsOf, List.forall_mem_cons.mpr ⟨o_X7_append, fun _ h => absurd h List.not_mem_nil⟩⟩⟩
noncomputable def f_X3_enter (l0 : Nat) (l1 : Nat) (l2 : Nat) (l3 : Int32) (l4 : Int32) (l5 : Int64) (st : ab_S) : Option ab_R := ab_rc st l0 3 (ab_lim m_X3_enter 0 [.ref l0, .ref l1, .ref l2, .int l3, .int l4, .long l5] [] st)
noncomputable def g_X3_enter : ab_G := fun as st k => match as with
  | [.ref a0, .ref a1, .ref a2, .int a3, .int a4, .long a5] => ab_ri (f_X3_enter a0 a1 a2 a3 a4 a5 st) (fun x t => k [.int x] t)
  | _ => none
theorem o_X3_enter : ab_one g_X3_enter := by
  intro as st k r h
  unfold g_X3_enter at h ⊢
  split at h
  · exact one_ri h
  · cases h
set_option maxRecDepth 100000 in
theorem e_X3_enter_0 (l0 : Nat) (l1 : Nat) (l2 : Nat) (l3 : Int32) (l4 : Int32) (l5 : Int64) (st : ab_S) : f_X3_enter l0 l1 l2 l3 l4 l5 st =
    ab_rc st l0 3 (
    if l3 < 0
    then ab_z (0 : Int32) (some (some (.int (0 : Int32)), st))
    else if l3 ≤ (12 : Int32)
      then Option.bind (ab_gR st l0 3 1) fun x1 =>
        Option.bind (ab_wI st x1 l3 l4) fun s2 =>
        Option.bind (ab_gR s2 l0 3 2) fun x3 =>
        Option.bind (ab_wI s2 x3 l3 (0 : Int32)) fun s4 =>
        Option.bind (ab_gR s4 l0 3 3) fun x5 =>
        Option.bind (ab_wJ s4 x5 l3 l5) fun s6 =>
        ab_rl (f_X1_lastOf l1 l4 s6) fun x8 s7 =>
        if (lg_cmp x8 (-1 : Int64)) = 0
        then if l3 = 0
          then ab_z (1 : Int32) (some (some (.int (1 : Int32)), s7))
          else ab_ri (f_X1_arcsOf l1 l4 s7) fun x10 s9 =>
            if x10 ≤ 0
            then ab_z (0 : Int32) (some (some (.int (0 : Int32)), s9))
            else ab_z (1 : Int32) (some (some (.int (1 : Int32)), s9))
        else if 0 < (lg_cmp (l5 + x8) (1000000000000 : Int64))
          then ab_z (0 : Int32) (some (some (.int (0 : Int32)), s7))
          else Option.bind (ab_gR s7 l0 3 0) fun x11 =>
            ab_ri (f_X7_append l2 x11 (0 : Int32) l3 (l5 + x8) s7) fun x13 s12 =>
            if x13 = 0
            then ab_z (0 : Int32) (some (some (.int (0 : Int32)), s12))
            else ab_z (1 : Int32) (some (some (.int (1 : Int32)), s12))
      else ab_z (0 : Int32) (some (some (.int (0 : Int32)), st))) := congrArg (ab_rc st l0 3) ((lm_eq one_X3_enter 0 _ _ _).trans rfl)
def c_X3_follow : List (Nat × ab_I) := [(0, .aload_n 0, 1, .null, 0),
  (1, .getfield 15, 3, .null, 0),
  (4, .iload_n 3, 1, .null, 3),
  (5, .iaload, 1, .null, 0),
  (6, .istore 4, 2, .null, 4),
  (8, .aload_n 0, 1, .null, 0),
  (9, .getfield 18, 3, .null, 0),
  (12, .iload_n 3, 1, .null, 3),
  (13, .iaload, 1, .null, 0),
  (14, .istore 5, 2, .null, 5),
  (16, .aload_n 0, 1, .null, 0),
  (17, .getfield 18, 3, .null, 0),
  (20, .iload_n 3, 1, .null, 3),
  (21, .iload 5, 2, .null, 5),
  (23, .iconst 1, 1, (.int (1)), 0),
  (24, .iadd, 1, .null, 0),
  (25, .iastore, 1, .null, 0),
  (26, .aload_n 0, 1, .null, 0),
  (27, .getfield 21, 3, .null, 0),
  (30, .iload_n 3, 1, .null, 3),
  (31, .laload, 1, .null, 0),
  (32, .aload_n 1, 1, .null, 1),
  (33, .iload 4, 2, .null, 4),
  (35, .iload 5, 2, .null, 5),
  (37, .iconst 2, 1, (.int (2)), 0),
  (38, .invokevirtual 62, 3, .null, 0),
  (41, .ladd, 1, .null, 0),
  (42, .lstore 6, 2, .null, 6),
  (44, .aload_n 0, 1, .null, 0),
  (45, .aload_n 1, 1, .null, 1),
  (46, .aload_n 2, 1, .null, 2),
  (47, .iload_n 3, 1, .null, 3),
  (48, .iconst 1, 1, (.int (1)), 0),
  (49, .iadd, 1, .null, 0),
  (50, .aload_n 1, 1, .null, 1),
  (51, .iload 4, 2, .null, 4),
  (53, .iload 5, 2, .null, 5),
  (55, .iconst 1, 1, (.int (1)), 0),
  (56, .invokevirtual 62, 3, .null, 0),
  (59, .l2i, 1, .null, 0),
  (60, .lload 6, 2, .null, 6),
  (62, .invokevirtual 125, 3, .null, 0),
  (65, .ireturn, 1, .null, 0)]
noncomputable def m_X3_follow : ab_M := (c_X3_follow, [(0, [0, 1, 2, 3])],
  [(15, 3, 1, 3), (18, 3, 2, 3), (21, 3, 3, 3)],
  [],
  [(62, 1, 4, g_X1_tellArc), (125, 1, 6, g_X3_enter)],
  [], 8, 2)
theorem one_X3_follow : ab_oneM m_X3_follow := List.forall_mem_cons.mpr ⟨o_X1_tellArc, List.forall_mem_cons.mpr ⟨o_X3_enter, fun _ h => absurd h List.not_mem_nil⟩⟩
noncomputable def f_X3_follow (l0 : Nat) (l1 : Nat) (l2 : Nat) (l3 : Int32) (st : ab_S) : Option ab_R := ab_rc st l0 3 (ab_lim m_X3_follow 0 [.ref l0, .ref l1, .ref l2, .int l3] [] st)
noncomputable def g_X3_follow : ab_G := fun as st k => match as with
  | [.ref a0, .ref a1, .ref a2, .int a3] => ab_ri (f_X3_follow a0 a1 a2 a3 st) (fun x t => k [.int x] t)
  | _ => none
theorem o_X3_follow : ab_one g_X3_follow := by
  intro as st k r h
  unfold g_X3_follow at h ⊢
  split at h
  · exact one_ri h
  · cases h
set_option maxRecDepth 100000 in
theorem e_X3_follow_0 (l0 : Nat) (l1 : Nat) (l2 : Nat) (l3 : Int32) (st : ab_S) : f_X3_follow l0 l1 l2 l3 st =
    ab_rc st l0 3 (
    Option.bind (ab_gR st l0 3 1) fun x1 =>
    Option.bind (ab_rI st x1 l3) fun x2 =>
    Option.bind (ab_gR st l0 3 2) fun x3 =>
    Option.bind (ab_rI st x3 l3) fun x4 =>
    Option.bind (ab_gR st l0 3 2) fun x5 =>
    Option.bind (ab_wI st x5 l3 (x4 + (1 : Int32))) fun s6 =>
    Option.bind (ab_gR s6 l0 3 3) fun x7 =>
    Option.bind (ab_rJ s6 x7 l3) fun x8 =>
    ab_rl (f_X1_tellArc l1 x2 x4 (2 : Int32) s6) fun x10 s9 =>
    ab_rl (f_X1_tellArc l1 x2 x4 (1 : Int32) s9) fun x12 s11 =>
    ab_ri (f_X3_enter l0 l1 l2 (l3 + (1 : Int32)) x12.toInt32 (x8 + x10) s11) fun x14 s13 =>
    ab_z x14 (some (some (.int x14), s13))) := congrArg (ab_rc st l0 3) ((lm_eq one_X3_follow 0 _ _ _).trans rfl)
def c_X3_listTerms : List (Nat × ab_I) := [(0, .aload_n 2, 1, .null, 2),
  (1, .invokevirtual 122, 3, .null, 0),
  (4, .iconst 0, 1, (.int (0)), 0),
  (5, .istore_n 3, 1, .null, 3),
  (6, .aload_n 0, 1, .null, 0),
  (7, .aload_n 1, 1, .null, 1),
  (8, .aload_n 2, 1, .null, 2),
  (9, .iconst 0, 1, (.int (0)), 0),
  (10, .iconst 0, 1, (.int (0)), 0),
  (11, .aload_n 1, 1, .null, 1),
  (12, .getfield 34, 3, .null, 0),
  (15, .invokevirtual 125, 3, .null, 0),
  (18, .istore 4, 2, .null, 4),
  (20, .iconst 0, 1, (.int (0)), 0),
  (21, .istore 5, 2, .null, 5),
  (23, .iload 5, 2, .null, 5),
  (25, .ldc 129, 2, (.int (1000000)), 0),
  (27, .if_icmp .ge (92), 3, .null, 119),
  (30, .iload 4, 2, .null, 4),
  (32, .ifCond .eq (87), 3, .null, 119),
  (35, .aload_n 1, 1, .null, 1),
  (36, .aload_n 0, 1, .null, 0),
  (37, .getfield 15, 3, .null, 0),
  (40, .iload_n 3, 1, .null, 3),
  (41, .iaload, 1, .null, 0),
  (42, .aload_n 0, 1, .null, 0),
  (43, .getfield 18, 3, .null, 0),
  (46, .iload_n 3, 1, .null, 3),
  (47, .iaload, 1, .null, 0),
  (48, .iconst 0, 1, (.int (0)), 0),
  (49, .invokevirtual 62, 3, .null, 0),
  (52, .lstore 6, 2, .null, 6),
  (54, .lload 6, 2, .null, 6),
  (56, .ldc2_w 56, 3, (.long (-1)), 0),
  (59, .lcmp, 1, .null, 0),
  (60, .ifCond .ne (9), 3, .null, 69),
  (63, .iload_n 3, 1, .null, 3),
  (64, .ifCond .ne (5), 3, .null, 69),
  (67, .iconst 1, 1, (.int (1)), 0),
  (68, .ireturn, 1, .null, 0),
  (69, .lload 6, 2, .null, 6),
  (71, .ldc2_w 56, 3, (.long (-1)), 0),
  (74, .lcmp, 1, .null, 0),
  (75, .ifCond .ne (9), 3, .null, 84),
  (78, .iinc 3 (-1), 3, (.int (-1)), 3),
  (81, .goto (32), 3, .null, 113),
  (84, .iload_n 3, 1, .null, 3),
  (85, .bipush (12), 2, (.int (12)), 0),
  (87, .if_icmp .lt (5), 3, .null, 92),
  (90, .iconst 0, 1, (.int (0)), 0),
  (91, .ireturn, 1, .null, 0),
  (92, .aload_n 0, 1, .null, 0),
  (93, .getfield 9, 3, .null, 0),
  (96, .iload_n 3, 1, .null, 3),
  (97, .lload 6, 2, .null, 6),
  (99, .l2i, 1, .null, 0),
  (100, .iastore, 1, .null, 0),
  (101, .aload_n 0, 1, .null, 0),
  (102, .aload_n 1, 1, .null, 1),
  (103, .aload_n 2, 1, .null, 2),
  (104, .iload_n 3, 1, .null, 3),
  (105, .invokevirtual 130, 3, .null, 0),
  (108, .istore 4, 2, .null, 4),
  (110, .iinc 3 (1), 3, (.int (1)), 3),
  (113, .iinc 5 (1), 3, (.int (1)), 5),
  (116, .goto (-93), 3, .null, 23),
  (119, .iconst 0, 1, (.int (0)), 0),
  (120, .ireturn, 1, .null, 0)]
noncomputable def m_X3_listTerms : ab_M := (c_X3_listTerms, [(0, [0, 1, 2]), (23, [0, 1, 2, 3, 4, 5]), (69, [0, 1, 2, 3, 4, 5, 6]), (113, [0, 1, 2, 3, 4, 5])],
  [(9, 3, 0, 3), (15, 3, 1, 3), (18, 3, 2, 3), (34, 1, 6, 2)],
  [],
  [(62, 1, 4, g_X1_tellArc), (122, 1, 1, g_X7_clear), (125, 1, 6, g_X3_enter), (130, 1, 4, g_X3_follow)],
  [], 8, 2)
theorem one_X3_listTerms : ab_oneM m_X3_listTerms := List.forall_mem_cons.mpr ⟨o_X1_tellArc, List.forall_mem_cons.mpr ⟨o_X7_clear, List.forall_mem_cons.mpr ⟨o_X3_enter, List.forall_mem_cons.mpr ⟨o_X3_follow, fun _ h => absurd h List.not_mem_nil⟩⟩⟩⟩
noncomputable def f_X3_listTerms (l0 : Nat) (l1 : Nat) (l2 : Nat) (st : ab_S) : Option ab_R := ab_rc st l0 3 (ab_lim m_X3_listTerms 0 [.ref l0, .ref l1, .ref l2] [] st)
noncomputable def L_X3_listTerms_23 (l0 : Nat) (l1 : Nat) (l2 : Nat) (l3 : Int32) (l4 : Int32) (l5 : Int32) (st : ab_S) : Option ab_R := ab_lim m_X3_listTerms 23 [.ref l0, .ref l1, .ref l2, .int l3, .int l4, .int l5] [] st
noncomputable def L_X3_listTerms_69 (l0 : Nat) (l1 : Nat) (l2 : Nat) (l3 : Int32) (l4 : Int32) (l5 : Int32) (l6 : Int64) (st : ab_S) : Option ab_R := ab_lim m_X3_listTerms 69 [.ref l0, .ref l1, .ref l2, .int l3, .int l4, .int l5, .long l6] [] st
noncomputable def L_X3_listTerms_113 (l0 : Nat) (l1 : Nat) (l2 : Nat) (l3 : Int32) (l4 : Int32) (l5 : Int32) (st : ab_S) : Option ab_R := ab_lim m_X3_listTerms 113 [.ref l0, .ref l1, .ref l2, .int l3, .int l4, .int l5] [] st
noncomputable def g_X3_listTerms : ab_G := fun as st k => match as with
  | [.ref a0, .ref a1, .ref a2] => ab_ri (f_X3_listTerms a0 a1 a2 st) (fun x t => k [.int x] t)
  | _ => none
theorem o_X3_listTerms : ab_one g_X3_listTerms := by
  intro as st k r h
  unfold g_X3_listTerms at h ⊢
  split at h
  · exact one_ri h
  · cases h
set_option maxRecDepth 100000 in
theorem e_X3_listTerms_0 (l0 : Nat) (l1 : Nat) (l2 : Nat) (st : ab_S) : f_X3_listTerms l0 l1 l2 st =
    ab_rc st l0 3 (
    ab_rv (f_X7_clear l2 st) fun s1 =>
    Option.bind (ab_gJ s1 l1 1 6) fun x2 =>
    ab_ri (f_X3_enter l0 l1 l2 (0 : Int32) (0 : Int32) x2 s1) fun x4 s3 =>
    L_X3_listTerms_23 l0 l1 l2 (0 : Int32) x4 (0 : Int32) s3) := congrArg (ab_rc st l0 3) ((lm_eq one_X3_listTerms 0 _ _ _).trans rfl)
set_option maxRecDepth 100000 in
theorem e_X3_listTerms_23 (l0 : Nat) (l1 : Nat) (l2 : Nat) (l3 : Int32) (l4 : Int32) (l5 : Int32) (st : ab_S) : L_X3_listTerms_23 l0 l1 l2 l3 l4 l5 st =
    if (1000000 : Int32) ≤ l5
    then ab_z (0 : Int32) (some (some (.int (0 : Int32)), st))
    else if l4 = 0
      then ab_z (0 : Int32) (some (some (.int (0 : Int32)), st))
      else Option.bind (ab_gR st l0 3 1) fun x1 =>
        Option.bind (ab_rI st x1 l3) fun x2 =>
        Option.bind (ab_gR st l0 3 2) fun x3 =>
        Option.bind (ab_rI st x3 l3) fun x4 =>
        ab_rl (f_X1_tellArc l1 x2 x4 (0 : Int32) st) fun x6 s5 =>
        if (lg_cmp x6 (-1 : Int64)) = 0
        then if l3 = 0
          then ab_z (1 : Int32) (some (some (.int (1 : Int32)), s5))
          else L_X3_listTerms_69 l0 l1 l2 l3 l4 l5 x6 s5
        else L_X3_listTerms_69 l0 l1 l2 l3 l4 l5 x6 s5 := (lm_eq one_X3_listTerms 23 _ _ _).trans rfl
set_option maxRecDepth 100000 in
theorem e_X3_listTerms_69 (l0 : Nat) (l1 : Nat) (l2 : Nat) (l3 : Int32) (l4 : Int32) (l5 : Int32) (l6 : Int64) (st : ab_S) : L_X3_listTerms_69 l0 l1 l2 l3 l4 l5 l6 st =
    if (lg_cmp l6 (-1 : Int64)) = 0
    then L_X3_listTerms_113 l0 l1 l2 (l3 + (-1 : Int32)) l4 l5 st
    else if l3 < (12 : Int32)
      then Option.bind (ab_gR st l0 3 0) fun x1 =>
        Option.bind (ab_wI st x1 l3 l6.toInt32) fun s2 =>
        ab_ri (f_X3_follow l0 l1 l2 l3 s2) fun x4 s3 =>
        L_X3_listTerms_113 l0 l1 l2 (l3 + (1 : Int32)) x4 l5 s3
      else ab_z (0 : Int32) (some (some (.int (0 : Int32)), st)) := (lm_eq one_X3_listTerms 69 _ _ _).trans rfl
set_option maxRecDepth 100000 in
theorem e_X3_listTerms_113 (l0 : Nat) (l1 : Nat) (l2 : Nat) (l3 : Int32) (l4 : Int32) (l5 : Int32) (st : ab_S) : L_X3_listTerms_113 l0 l1 l2 l3 l4 l5 st =
    L_X3_listTerms_23 l0 l1 l2 l3 l4 (l5 + (1 : Int32)) st := (lm_eq one_X3_listTerms 113 _ _ _).trans rfl
def c_X3_read : List (Nat × ab_I) := [(0, .aload_n 0, 1, .null, 0),
  (1, .aload_n 1, 1, .null, 1),
  (2, .aload_n 2, 1, .null, 2),
  (3, .getfield 68, 3, .null, 0),
  (6, .invokevirtual 74, 3, .null, 0),
  (9, .ifCond .eq (22), 3, .null, 31),
  (12, .aload_n 0, 1, .null, 0),
  (13, .aload_n 2, 1, .null, 2),
  (14, .getfield 68, 3, .null, 0),
  (17, .aload_n 2, 1, .null, 2),
  (18, .getfield 78, 3, .null, 0),
  (21, .invokevirtual 82, 3, .null, 0),
  (24, .ifCond .eq (7), 3, .null, 31),
  (27, .iconst 1, 1, (.int (1)), 0),
  (28, .goto (4), 3, .null, 32),
  (31, .iconst 0, 1, (.int (0)), 0),
  (32, .ireturn, 1, .null, 0)]
noncomputable def m_X3_read : ab_M := (c_X3_read, [(0, [0, 1, 2])],
  [(68, 0, 1, 3), (78, 0, 0, 3)],
  [],
  [(74, 1, 3, g_X3_readMachine), (82, 1, 3, g_X3_listTerms)],
  [], 3, 2)
theorem one_X3_read : ab_oneM m_X3_read := List.forall_mem_cons.mpr ⟨o_X3_readMachine, List.forall_mem_cons.mpr ⟨o_X3_listTerms, fun _ h => absurd h List.not_mem_nil⟩⟩
noncomputable def f_X3_read (l0 : Nat) (l1 : Nat) (l2 : Nat) (st : ab_S) : Option ab_R := ab_rc st l0 3 (ab_lim m_X3_read 0 [.ref l0, .ref l1, .ref l2] [] st)
noncomputable def g_X3_read : ab_G := fun as st k => match as with
  | [.ref a0, .ref a1, .ref a2] => ab_ri (f_X3_read a0 a1 a2 st) (fun x t => k [.int x] t)
  | _ => none
theorem o_X3_read : ab_one g_X3_read := by
  intro as st k r h
  unfold g_X3_read at h ⊢
  split at h
  · exact one_ri h
  · cases h
set_option maxRecDepth 100000 in
theorem e_X3_read_0 (l0 : Nat) (l1 : Nat) (l2 : Nat) (st : ab_S) : f_X3_read l0 l1 l2 st =
    ab_rc st l0 3 (
    Option.bind (ab_gR st l2 0 1) fun x1 =>
    ab_ri (f_X3_readMachine l0 l1 x1 st) fun x3 s2 =>
    if x3 = 0
    then ab_z (0 : Int32) (some (some (.int (0 : Int32)), s2))
    else Option.bind (ab_gR s2 l2 0 1) fun x4 =>
      Option.bind (ab_gR s2 l2 0 0) fun x5 =>
      ab_ri (f_X3_listTerms l0 x4 x5 s2) fun x7 s6 =>
      if x7 = 0
      then ab_z (0 : Int32) (some (some (.int (0 : Int32)), s6))
      else ab_z (1 : Int32) (some (some (.int (1 : Int32)), s6))) := congrArg (ab_rc st l0 3) ((lm_eq one_X3_read 0 _ _ _).trans rfl)
def c_X6_sameAs : List (Nat × ab_I) := [(0, .aload_n 0, 1, .null, 0),
  (1, .getfield 21, 3, .null, 0),
  (4, .aload_n 1, 1, .null, 1),
  (5, .getfield 21, 3, .null, 0),
  (8, .if_icmp .ne (15), 3, .null, 23),
  (11, .aload_n 0, 1, .null, 0),
  (12, .getfield 21, 3, .null, 0),
  (15, .aload_n 0, 1, .null, 0),
  (16, .getfield 15, 3, .null, 0),
  (19, .arraylength, 1, .null, 0),
  (20, .if_icmp .le (5), 3, .null, 25),
  (23, .iconst 0, 1, (.int (0)), 0),
  (24, .ireturn, 1, .null, 0),
  (25, .iconst 0, 1, (.int (0)), 0),
  (26, .istore_n 2, 1, .null, 2),
  (27, .iload_n 2, 1, .null, 2),
  (28, .aload_n 0, 1, .null, 0),
  (29, .getfield 21, 3, .null, 0),
  (32, .if_icmp .ge (24), 3, .null, 56),
  (35, .aload_n 0, 1, .null, 0),
  (36, .iload_n 2, 1, .null, 2),
  (37, .invokevirtual 25, 3, .null, 0),
  (40, .aload_n 1, 1, .null, 1),
  (41, .iload_n 2, 1, .null, 2),
  (42, .invokevirtual 25, 3, .null, 0),
  (45, .if_icmp .eq (5), 3, .null, 50),
  (48, .iconst 0, 1, (.int (0)), 0),
  (49, .ireturn, 1, .null, 0),
  (50, .iinc 2 (1), 3, (.int (1)), 2),
  (53, .goto (-26), 3, .null, 27),
  (56, .iconst 1, 1, (.int (1)), 0),
  (57, .ireturn, 1, .null, 0)]
noncomputable def m_X6_sameAs : ab_M := (c_X6_sameAs, [(0, [0, 1]), (27, [0, 1, 2])],
  [(15, 6, 0, 3), (21, 6, 1, 0)],
  [],
  [(25, 1, 2, g_X6_at)],
  [], 3, 2)
theorem one_X6_sameAs : ab_oneM m_X6_sameAs := List.forall_mem_cons.mpr ⟨o_X6_at, fun _ h => absurd h List.not_mem_nil⟩
noncomputable def f_X6_sameAs (l0 : Nat) (l1 : Nat) (st : ab_S) : Option ab_R := ab_rc st l0 6 (ab_lim m_X6_sameAs 0 [.ref l0, .ref l1] [] st)
noncomputable def L_X6_sameAs_27 (l0 : Nat) (l1 : Nat) (l2 : Int32) (st : ab_S) : Option ab_R := ab_lim m_X6_sameAs 27 [.ref l0, .ref l1, .int l2] [] st
noncomputable def g_X6_sameAs : ab_G := fun as st k => match as with
  | [.ref a0, .ref a1] => ab_ri (f_X6_sameAs a0 a1 st) (fun x t => k [.int x] t)
  | _ => none
theorem o_X6_sameAs : ab_one g_X6_sameAs := by
  intro as st k r h
  unfold g_X6_sameAs at h ⊢
  split at h
  · exact one_ri h
  · cases h
set_option maxRecDepth 100000 in
theorem e_X6_sameAs_0 (l0 : Nat) (l1 : Nat) (st : ab_S) : f_X6_sameAs l0 l1 st =
    ab_rc st l0 6 (
    Option.bind (ab_gI st l0 6 1) fun x1 =>
    Option.bind (ab_gI st l1 6 1) fun x2 =>
    if x1 = x2
    then Option.bind (ab_gI st l0 6 1) fun x3 =>
      Option.bind (ab_gR st l0 6 0) fun x4 =>
      Option.bind (ab_n st x4) fun n5 =>
      if x3 ≤ (Int32.ofNat n5)
      then L_X6_sameAs_27 l0 l1 (0 : Int32) st
      else ab_z (0 : Int32) (some (some (.int (0 : Int32)), st))
    else ab_z (0 : Int32) (some (some (.int (0 : Int32)), st))) := congrArg (ab_rc st l0 6) ((lm_eq one_X6_sameAs 0 _ _ _).trans rfl)
set_option maxRecDepth 100000 in
theorem e_X6_sameAs_27 (l0 : Nat) (l1 : Nat) (l2 : Int32) (st : ab_S) : L_X6_sameAs_27 l0 l1 l2 st =
    Option.bind (ab_gI st l0 6 1) fun x1 =>
    if x1 ≤ l2
    then ab_z (1 : Int32) (some (some (.int (1 : Int32)), st))
    else ab_ri (f_X6_at l0 l2 st) fun x3 s2 =>
      ab_ri (f_X6_at l1 l2 s2) fun x5 s4 =>
      if x3 = x5
      then L_X6_sameAs_27 l0 l1 (l2 + (1 : Int32)) s4
      else ab_z (0 : Int32) (some (some (.int (0 : Int32)), s4)) := (lm_eq one_X6_sameAs 27 _ _ _).trans rfl
def c_X10_load : List (Nat × ab_I) := [(0, .iload_n 1, 1, .null, 1),
  (1, .invokestatic 95, 3, .null, 0),
  (4, .ifCond .ne (6), 3, .null, 10),
  (7, .bipush (-2), 2, (.int (-2)), 0),
  (9, .ireturn, 1, .null, 0),
  (10, .aload_n 0, 1, .null, 0),
  (11, .invokevirtual 91, 3, .null, 0),
  (14, .astore_n 2, 1, .null, 2),
  (15, .aload_n 0, 1, .null, 0),
  (16, .getfield 35, 3, .null, 0),
  (19, .aload_n 2, 1, .null, 2),
  (20, .aload_n 0, 1, .null, 0),
  (21, .getfield 80, 3, .null, 0),
  (24, .invokevirtual 229, 3, .null, 0),
  (27, .ifCond .ne (6), 3, .null, 33),
  (30, .bipush (-7), 2, (.int (-7)), 0),
  (32, .ireturn, 1, .null, 0),
  (33, .aload_n 0, 1, .null, 0),
  (34, .getfield 28, 3, .null, 0),
  (37, .aload_n 0, 1, .null, 0),
  (38, .getfield 80, 3, .null, 0),
  (41, .invokevirtual 126, 3, .null, 0),
  (44, .aload_n 0, 1, .null, 0),
  (45, .getfield 35, 3, .null, 0),
  (48, .aload_n 0, 1, .null, 0),
  (49, .getfield 80, 3, .null, 0),
  (52, .getfield 130, 3, .null, 0),
  (55, .aload_n 0, 1, .null, 0),
  (56, .getfield 63, 3, .null, 0),
  (59, .invokevirtual 222, 3, .null, 0),
  (62, .aload_n 0, 1, .null, 0),
  (63, .getfield 63, 3, .null, 0),
  (66, .aload_n 2, 1, .null, 2),
  (67, .invokevirtual 232, 3, .null, 0),
  (70, .ifCond .ne (6), 3, .null, 76),
  (73, .bipush (-7), 2, (.int (-7)), 0),
  (75, .ireturn, 1, .null, 0),
  (76, .aload_n 0, 1, .null, 0),
  (77, .iload_n 1, 1, .null, 1),
  (78, .invokevirtual 219, 3, .null, 0),
  (81, .aload_n 0, 1, .null, 0),
  (82, .getfield 11, 3, .null, 0),
  (85, .iload_n 1, 1, .null, 1),
  (86, .aaload, 1, .null, 0),
  (87, .getfield 99, 3, .null, 0),
  (90, .getfield 103, 3, .null, 0),
  (93, .ireturn, 1, .null, 0)]
noncomputable def m_X10_load : ab_M := (c_X10_load, [(0, [0, 1])],
  [(11, 10, 0, 3), (28, 10, 3, 3), (35, 10, 4, 3), (63, 10, 8, 3), (80, 10, 14, 3), (99, 0, 0, 3), (103, 7, 3, 0), (130, 0, 1, 3)],
  [],
  [(91, 1, 1, g_X10_takeCollected), (95, 0, 1, g_X10_isDictionary), (126, 1, 2, g_X8_build), (219, 1, 2, g_X10_putSpareAt), (222, 1, 3, g_X3_write), (229, 1, 3, g_X3_read), (232, 1, 2, g_X6_sameAs)],
  [], 3, 1)
theorem one_X10_load : ab_oneM m_X10_load := List.forall_mem_cons.mpr ⟨o_X10_takeCollected, List.forall_mem_cons.mpr ⟨o_X10_isDictionary, List.forall_mem_cons.mpr ⟨o_X8_build, List.forall_mem_cons.mpr ⟨o_X10_putSpareAt, List.forall_mem_cons.mpr ⟨o_X3_write, List.forall_mem_cons.mpr ⟨o_X3_read, List.forall_mem_cons.mpr ⟨o_X6_sameAs, fun _ h => absurd h List.not_mem_nil⟩⟩⟩⟩⟩⟩⟩
noncomputable def f_X10_load (l0 : Nat) (l1 : Int32) (st : ab_S) : Option ab_R := ab_rc st l0 10 (ab_lim m_X10_load 0 [.ref l0, .int l1] [] st)
noncomputable def g_X10_load : ab_G := fun as st k => match as with
  | [.ref a0, .int a1] => ab_ri (f_X10_load a0 a1 st) (fun x t => k [.int x] t)
  | _ => none
theorem o_X10_load : ab_one g_X10_load := by
  intro as st k r h
  unfold g_X10_load at h ⊢
  split at h
  · exact one_ri h
  · cases h
set_option maxRecDepth 100000 in
theorem e_X10_load_0 (l0 : Nat) (l1 : Int32) (st : ab_S) : f_X10_load l0 l1 st =
    ab_rc st l0 10 (
    ab_ri (f_X10_isDictionary l1 st) fun x2 s1 =>
    if x2 = 0
    then some (some (.int (-2 : Int32)), s1)
    else ab_rr (f_X10_takeCollected l0 s1) fun x4 s3 =>
      Option.bind (ab_gR s3 l0 10 4) fun x5 =>
      Option.bind (ab_gR s3 l0 10 14) fun x6 =>
      ab_ri (f_X3_read x5 x4 x6 s3) fun x8 s7 =>
      if x8 = 0
      then some (some (.int (-7 : Int32)), s7)
      else Option.bind (ab_gR s7 l0 10 3) fun x9 =>
        Option.bind (ab_gR s7 l0 10 14) fun x10 =>
        ab_rv (f_X8_build x9 x10 s7) fun s11 =>
        Option.bind (ab_gR s11 l0 10 4) fun x12 =>
        Option.bind (ab_gR s11 l0 10 14) fun x13 =>
        Option.bind (ab_gR s11 x13 0 1) fun x14 =>
        Option.bind (ab_gR s11 l0 10 8) fun x15 =>
        ab_rv (f_X3_write x12 x14 x15 s11) fun s16 =>
        Option.bind (ab_gR s16 l0 10 8) fun x17 =>
        ab_ri (f_X6_sameAs x17 x4 s16) fun x19 s18 =>
        if x19 = 0
        then some (some (.int (-7 : Int32)), s18)
        else ab_rv (f_X10_putSpareAt l0 l1 s18) fun s20 =>
          Option.bind (ab_gR s20 l0 10 0) fun x21 =>
          Option.bind (ab_rR s20 x21 l1) fun x22 =>
          Option.bind (ab_gR s20 x22 0 0) fun x23 =>
          Option.bind (ab_gI s20 x23 7 3) fun x24 =>
          some (some (.int x24), s20)) := congrArg (ab_rc st l0 10) ((lm_eq one_X10_load 0 _ _ _).trans rfl)
def c_X11_readByte : List (Nat × ab_I) := [(0, .aload_n 0, 1, .null, 0),
  (1, .getfield 257, 3, .null, 0),
  (4, .aload_n 0, 1, .null, 0),
  (5, .getfield 260, 3, .null, 0),
  (8, .if_icmp .lt (10), 3, .null, 18),
  (11, .aload_n 0, 1, .null, 0),
  (12, .iconst 1, 1, (.int (1)), 0),
  (13, .putfield 355, 3, .null, 0),
  (16, .iconst 0, 1, (.int (0)), 0),
  (17, .ireturn, 1, .null, 0),
  (18, .aload_n 0, 1, .null, 0),
  (19, .dup, 1, .null, 0),
  (20, .getfield 257, 3, .null, 0),
  (23, .iconst 1, 1, (.int (1)), 0),
  (24, .iadd, 1, .null, 0),
  (25, .putfield 257, 3, .null, 0),
  (28, .aload_n 0, 1, .null, 0),
  (29, .getfield 7, 3, .null, 0),
  (32, .aload_n 0, 1, .null, 0),
  (33, .getfield 257, 3, .null, 0),
  (36, .iconst 1, 1, (.int (1)), 0),
  (37, .isub, 1, .null, 0),
  (38, .baload, 1, .null, 0),
  (39, .sipush (255), 3, (.int (255)), 0),
  (42, .iand, 1, .null, 0),
  (43, .ireturn, 1, .null, 0)]
noncomputable def m_X11_readByte : ab_M := (c_X11_readByte, [(0, [0])],
  [(7, 11, 0, 3), (257, 11, 33, 0), (260, 11, 34, 0), (355, 11, 52, 1)],
  [],
  [],
  [], 1, 1)
theorem one_X11_readByte : ab_oneM m_X11_readByte := fun _ h => absurd h List.not_mem_nil
noncomputable def f_X11_readByte (l0 : Nat) (st : ab_S) : Option ab_R := ab_rc st l0 11 (ab_lim m_X11_readByte 0 [.ref l0] [] st)
noncomputable def g_X11_readByte : ab_G := fun as st k => match as with
  | [.ref a0] => ab_ri (f_X11_readByte a0 st) (fun x t => k [.int x] t)
  | _ => none
theorem o_X11_readByte : ab_one g_X11_readByte := by
  intro as st k r h
  unfold g_X11_readByte at h ⊢
  split at h
  · exact one_ri h
  · cases h
set_option maxRecDepth 100000 in
theorem e_X11_readByte_0 (l0 : Nat) (st : ab_S) : f_X11_readByte l0 st =
    ab_rc st l0 11 (
    Option.bind (ab_gI st l0 11 33) fun x1 =>
    Option.bind (ab_gI st l0 11 34) fun x2 =>
    if x1 < x2
    then Option.bind (ab_gI st l0 11 33) fun x3 =>
      Option.bind (ab_pI st l0 11 33 (x3 + (1 : Int32))) fun s4 =>
      Option.bind (ab_gR s4 l0 11 0) fun x5 =>
      Option.bind (ab_gI s4 l0 11 33) fun x6 =>
      Option.bind (ab_rB s4 x5 (x6 - (1 : Int32))) fun x7 =>
      some (some (.int (x7 &&& (255 : Int32))), s4)
    else Option.bind (ab_pZ st l0 11 52 (1 : Int32)) fun s8 =>
      some (some (.int (0 : Int32)), s8)) := congrArg (ab_rc st l0 11) ((lm_eq one_X11_readByte 0 _ _ _).trans rfl)
def c_X11_readNumber : List (Nat × ab_I) := [(0, .lconst 0, 1, (.long (0)), 0),
  (1, .lstore_n 1, 1, .null, 1),
  (2, .iconst 0, 1, (.int (0)), 0),
  (3, .istore_n 3, 1, .null, 3),
  (4, .iload_n 3, 1, .null, 3),
  (5, .bipush (7), 2, (.int (7)), 0),
  (7, .if_icmp .ge (76), 3, .null, 83),
  (10, .aload_n 0, 1, .null, 0),
  (11, .getfield 257, 3, .null, 0),
  (14, .aload_n 0, 1, .null, 0),
  (15, .getfield 260, 3, .null, 0),
  (18, .if_icmp .lt (10), 3, .null, 28),
  (21, .aload_n 0, 1, .null, 0),
  (22, .iconst 1, 1, (.int (1)), 0),
  (23, .putfield 355, 3, .null, 0),
  (26, .lconst 0, 1, (.long (0)), 0),
  (27, .lreturn, 1, .null, 0),
  (28, .aload_n 0, 1, .null, 0),
  (29, .getfield 7, 3, .null, 0),
  (32, .aload_n 0, 1, .null, 0),
  (33, .getfield 257, 3, .null, 0),
  (36, .baload, 1, .null, 0),
  (37, .sipush (255), 3, (.int (255)), 0),
  (40, .iand, 1, .null, 0),
  (41, .istore 4, 2, .null, 4),
  (43, .aload_n 0, 1, .null, 0),
  (44, .dup, 1, .null, 0),
  (45, .getfield 257, 3, .null, 0),
  (48, .iconst 1, 1, (.int (1)), 0),
  (49, .iadd, 1, .null, 0),
  (50, .putfield 257, 3, .null, 0),
  (53, .lload_n 1, 1, .null, 1),
  (54, .iload 4, 2, .null, 4),
  (56, .bipush (127), 2, (.int (127)), 0),
  (58, .iand, 1, .null, 0),
  (59, .i2l, 1, .null, 0),
  (60, .bipush (7), 2, (.int (7)), 0),
  (62, .iload_n 3, 1, .null, 3),
  (63, .imul, 1, .null, 0),
  (64, .lshl, 1, .null, 0),
  (65, .lor, 1, .null, 0),
  (66, .lstore_n 1, 1, .null, 1),
  (67, .iload 4, 2, .null, 4),
  (69, .sipush (128), 3, (.int (128)), 0),
  (72, .if_icmp .ge (5), 3, .null, 77),
  (75, .lload_n 1, 1, .null, 1),
  (76, .lreturn, 1, .null, 0),
  (77, .iinc 3 (1), 3, (.int (1)), 3),
  (80, .goto (-76), 3, .null, 4),
  (83, .aload_n 0, 1, .null, 0),
  (84, .iconst 1, 1, (.int (1)), 0),
  (85, .putfield 355, 3, .null, 0),
  (88, .lconst 0, 1, (.long (0)), 0),
  (89, .lreturn, 1, .null, 0)]
noncomputable def m_X11_readNumber : ab_M := (c_X11_readNumber, [(0, [0]), (4, [0, 1, 3])],
  [(7, 11, 0, 3), (257, 11, 33, 0), (260, 11, 34, 0), (355, 11, 52, 1)],
  [],
  [],
  [], 5, 3)
theorem one_X11_readNumber : ab_oneM m_X11_readNumber := fun _ h => absurd h List.not_mem_nil
noncomputable def f_X11_readNumber (l0 : Nat) (st : ab_S) : Option ab_R := ab_rc st l0 11 (ab_lim m_X11_readNumber 0 [.ref l0] [] st)
noncomputable def L_X11_readNumber_4 (l0 : Nat) (l1 : Int64) (l3 : Int32) (st : ab_S) : Option ab_R := ab_lim m_X11_readNumber 4 [.ref l0, .long l1, .int l3] [] st
noncomputable def g_X11_readNumber : ab_G := fun as st k => match as with
  | [.ref a0] => ab_rl (f_X11_readNumber a0 st) (fun x t => k [.long x] t)
  | _ => none
theorem o_X11_readNumber : ab_one g_X11_readNumber := by
  intro as st k r h
  unfold g_X11_readNumber at h ⊢
  split at h
  · exact one_rl h
  · cases h
set_option maxRecDepth 100000 in
theorem e_X11_readNumber_0 (l0 : Nat) (st : ab_S) : f_X11_readNumber l0 st =
    ab_rc st l0 11 (
    L_X11_readNumber_4 l0 (0 : Int64) (0 : Int32) st) := congrArg (ab_rc st l0 11) ((lm_eq one_X11_readNumber 0 _ _ _).trans rfl)
set_option maxRecDepth 100000 in
theorem e_X11_readNumber_4 (l0 : Nat) (l1 : Int64) (l3 : Int32) (st : ab_S) : L_X11_readNumber_4 l0 l1 l3 st =
    if (7 : Int32) ≤ l3
    then Option.bind (ab_pZ st l0 11 52 (1 : Int32)) fun s1 =>
      some (some (.long (0 : Int64)), s1)
    else Option.bind (ab_gI st l0 11 33) fun x2 =>
      Option.bind (ab_gI st l0 11 34) fun x3 =>
      if x2 < x3
      then Option.bind (ab_gR st l0 11 0) fun x4 =>
        Option.bind (ab_gI st l0 11 33) fun x5 =>
        Option.bind (ab_rB st x4 x5) fun x6 =>
        Option.bind (ab_gI st l0 11 33) fun x7 =>
        Option.bind (ab_pI st l0 11 33 (x7 + (1 : Int32))) fun s8 =>
        if (128 : Int32) ≤ (x6 &&& (255 : Int32))
        then L_X11_readNumber_4 l0 (l1 ||| (((x6 &&& (255 : Int32)) &&& (127 : Int32)).toInt64 <<< (((7 : Int32) * l3).toInt64 &&& 63))) (l3 + (1 : Int32)) s8
        else some (some (.long (l1 ||| (((x6 &&& (255 : Int32)) &&& (127 : Int32)).toInt64 <<< (((7 : Int32) * l3).toInt64 &&& 63)))), s8)
      else Option.bind (ab_pZ st l0 11 52 (1 : Int32)) fun s9 =>
        some (some (.long (0 : Int64)), s9) := (lm_eq one_X11_readNumber 4 _ _ _).trans rfl
def c_X11_spellOne : List (Nat × ab_I) := [(0, .aload_n 0, 1, .null, 0),
  (1, .getfield 117, 3, .null, 0),
  (4, .aload_n 0, 1, .null, 0),
  (5, .getfield 132, 3, .null, 0),
  (8, .iload_n 1, 1, .null, 1),
  (9, .iaload, 1, .null, 0),
  (10, .laload, 1, .null, 0),
  (11, .lstore_n 2, 1, .null, 2),
  (12, .lload_n 2, 1, .null, 2),
  (13, .ldc2_w 224, 3, (.long (-1)), 0),
  (16, .lcmp, 1, .null, 0),
  (17, .ifCond .ne (5), 3, .null, 22),
  (20, .iconst 1, 1, (.int (1)), 0),
  (21, .ireturn, 1, .null, 0),
  (22, .aload_n 0, 1, .null, 0),
  (23, .getfield 138, 3, .null, 0),
  (26, .iload_n 1, 1, .null, 1),
  (27, .laload, 1, .null, 0),
  (28, .lload_n 2, 1, .null, 2),
  (29, .ladd, 1, .null, 0),
  (30, .lstore 4, 2, .null, 4),
  (32, .aload_n 0, 1, .null, 0),
  (33, .getfield 24, 3, .null, 0),
  (36, .iconst 4, 1, (.int (4)), 0),
  (37, .iaload, 1, .null, 0),
  (38, .sipush (200), 3, (.int (200)), 0),
  (41, .if_icmp .eq (15), 3, .null, 56),
  (44, .lload 4, 2, .null, 4),
  (46, .lconst 0, 1, (.long (0)), 0),
  (47, .ldc2_w 163, 3, (.long (1000000000000)), 0),
  (50, .invokestatic 146, 3, .null, 0),
  (53, .ifCond .ne (5), 3, .null, 58),
  (56, .iconst 0, 1, (.int (0)), 0),
  (57, .ireturn, 1, .null, 0),
  (58, .aload_n 0, 1, .null, 0),
  (59, .iconst 4, 1, (.int (4)), 0),
  (60, .aload_n 0, 1, .null, 0),
  (61, .getfield 141, 3, .null, 0),
  (64, .iconst 0, 1, (.int (0)), 0),
  (65, .iload_n 1, 1, .null, 1),
  (66, .lload 4, 2, .null, 4),
  (68, .invokevirtual 172, 3, .null, 0),
  (71, .aload_n 0, 1, .null, 0),
  (72, .getfield 24, 3, .null, 0),
  (75, .iconst 4, 1, (.int (4)), 0),
  (76, .iaload, 1, .null, 0),
  (77, .iconst 2, 1, (.int (2)), 0),
  (78, .if_icmp .lt (28), 3, .null, 106),
  (81, .aload_n 0, 1, .null, 0),
  (82, .iconst 4, 1, (.int (4)), 0),
  (83, .aload_n 0, 1, .null, 0),
  (84, .getfield 24, 3, .null, 0),
  (87, .iconst 4, 1, (.int (4)), 0),
  (88, .iaload, 1, .null, 0),
  (89, .iconst 2, 1, (.int (2)), 0),
  (90, .isub, 1, .null, 0),
  (91, .iconst 4, 1, (.int (4)), 0),
  (92, .aload_n 0, 1, .null, 0),
  (93, .getfield 24, 3, .null, 0),
  (96, .iconst 4, 1, (.int (4)), 0),
  (97, .iaload, 1, .null, 0),
  (98, .iconst 1, 1, (.int (1)), 0),
  (99, .isub, 1, .null, 0),
  (100, .invokevirtual 331, 3, .null, 0),
  (103, .ifCond .ge (7), 3, .null, 110),
  (106, .iconst 1, 1, (.int (1)), 0),
  (107, .goto (4), 3, .null, 111),
  (110, .iconst 0, 1, (.int (0)), 0),
  (111, .ireturn, 1, .null, 0)]
noncomputable def m_X11_spellOne : ab_M := (c_X11_spellOne, [(0, [0, 1])],
  [(24, 11, 5, 3), (117, 11, 46, 3), (132, 11, 53, 3), (138, 11, 55, 3), (141, 11, 56, 3)],
  [],
  [(146, 0, 3, g_X11_isIn), (172, 1, 6, g_X11_append), (331, 1, 5, g_X11_compareTerms)],
  [], 6, 2)
theorem one_X11_spellOne : ab_oneM m_X11_spellOne := List.forall_mem_cons.mpr ⟨o_X11_isIn, List.forall_mem_cons.mpr ⟨o_X11_append, List.forall_mem_cons.mpr ⟨o_X11_compareTerms, fun _ h => absurd h List.not_mem_nil⟩⟩⟩
noncomputable def f_X11_spellOne (l0 : Nat) (l1 : Int32) (st : ab_S) : Option ab_R := ab_rc st l0 11 (ab_lim m_X11_spellOne 0 [.ref l0, .int l1] [] st)
noncomputable def g_X11_spellOne : ab_G := fun as st k => match as with
  | [.ref a0, .int a1] => ab_ri (f_X11_spellOne a0 a1 st) (fun x t => k [.int x] t)
  | _ => none
theorem o_X11_spellOne : ab_one g_X11_spellOne := by
  intro as st k r h
  unfold g_X11_spellOne at h ⊢
  split at h
  · exact one_ri h
  · cases h
set_option maxRecDepth 100000 in
theorem e_X11_spellOne_0 (l0 : Nat) (l1 : Int32) (st : ab_S) : f_X11_spellOne l0 l1 st =
    ab_rc st l0 11 (
    Option.bind (ab_gR st l0 11 46) fun x1 =>
    Option.bind (ab_gR st l0 11 53) fun x2 =>
    Option.bind (ab_rI st x2 l1) fun x3 =>
    Option.bind (ab_rJ st x1 x3) fun x4 =>
    if (lg_cmp x4 (-1 : Int64)) = 0
    then ab_z (1 : Int32) (some (some (.int (1 : Int32)), st))
    else Option.bind (ab_gR st l0 11 55) fun x5 =>
      Option.bind (ab_rJ st x5 l1) fun x6 =>
      Option.bind (ab_gR st l0 11 5) fun x7 =>
      Option.bind (ab_rI st x7 (4 : Int32)) fun x8 =>
      if x8 = (200 : Int32)
      then ab_z (0 : Int32) (some (some (.int (0 : Int32)), st))
      else ab_ri (f_X11_isIn (x6 + x4) (0 : Int64) (1000000000000 : Int64) st) fun x10 s9 =>
        if x10 = 0
        then ab_z (0 : Int32) (some (some (.int (0 : Int32)), s9))
        else Option.bind (ab_gR s9 l0 11 56) fun x11 =>
          ab_rv (f_X11_append l0 (4 : Int32) x11 (0 : Int32) l1 (x6 + x4) s9) fun s12 =>
          Option.bind (ab_gR s12 l0 11 5) fun x13 =>
          Option.bind (ab_rI s12 x13 (4 : Int32)) fun x14 =>
          if x14 < (2 : Int32)
          then ab_z (1 : Int32) (some (some (.int (1 : Int32)), s12))
          else Option.bind (ab_gR s12 l0 11 5) fun x15 =>
            Option.bind (ab_rI s12 x15 (4 : Int32)) fun x16 =>
            Option.bind (ab_gR s12 l0 11 5) fun x17 =>
            Option.bind (ab_rI s12 x17 (4 : Int32)) fun x18 =>
            ab_ri (f_X11_compareTerms l0 (4 : Int32) (x16 - (2 : Int32)) (4 : Int32) (x18 - (1 : Int32)) s12) fun x20 s19 =>
            if 0 ≤ x20
            then ab_z (0 : Int32) (some (some (.int (0 : Int32)), s19))
            else ab_z (1 : Int32) (some (some (.int (1 : Int32)), s19))) := congrArg (ab_rc st l0 11) ((lm_eq one_X11_spellOne 0 _ _ _).trans rfl)
def c_X11_spell : List (Nat × ab_I) := [(0, .aload_n 0, 1, .null, 0),
  (1, .getfield 24, 3, .null, 0),
  (4, .iconst 4, 1, (.int (4)), 0),
  (5, .iconst 0, 1, (.int (0)), 0),
  (6, .iastore, 1, .null, 0),
  (7, .iconst 0, 1, (.int (0)), 0),
  (8, .istore_n 3, 1, .null, 3),
  (9, .iconst 1, 1, (.int (1)), 0),
  (10, .istore 4, 2, .null, 4),
  (12, .aload_n 0, 1, .null, 0),
  (13, .getfield 132, 3, .null, 0),
  (16, .iconst 0, 1, (.int (0)), 0),
  (17, .iconst 0, 1, (.int (0)), 0),
  (18, .iastore, 1, .null, 0),
  (19, .aload_n 0, 1, .null, 0),
  (20, .getfield 135, 3, .null, 0),
  (23, .iconst 0, 1, (.int (0)), 0),
  (24, .aload_n 0, 1, .null, 0),
  (25, .getfield 120, 3, .null, 0),
  (28, .iconst 0, 1, (.int (0)), 0),
  (29, .iaload, 1, .null, 0),
  (30, .iastore, 1, .null, 0),
  (31, .aload_n 0, 1, .null, 0),
  (32, .getfield 138, 3, .null, 0),
  (35, .iconst 0, 1, (.int (0)), 0),
  (36, .lload_n 1, 1, .null, 1),
  (37, .lastore, 1, .null, 0),
  (38, .aload_n 0, 1, .null, 0),
  (39, .iconst 0, 1, (.int (0)), 0),
  (40, .invokevirtual 375, 3, .null, 0),
  (43, .ifCond .ne (5), 3, .null, 48),
  (46, .iconst 0, 1, (.int (0)), 0),
  (47, .ireturn, 1, .null, 0),
  (48, .iload_n 3, 1, .null, 3),
  (49, .ifCond .lt (155), 3, .null, 204),
  (52, .aload_n 0, 1, .null, 0),
  (53, .getfield 132, 3, .null, 0),
  (56, .iload_n 3, 1, .null, 3),
  (57, .iaload, 1, .null, 0),
  (58, .istore 5, 2, .null, 5),
  (60, .aload_n 0, 1, .null, 0),
  (61, .getfield 135, 3, .null, 0),
  (64, .iload_n 3, 1, .null, 3),
  (65, .iaload, 1, .null, 0),
  (66, .aload_n 0, 1, .null, 0),
  (67, .getfield 120, 3, .null, 0),
  (70, .iload 5, 2, .null, 5),
  (72, .iconst 1, 1, (.int (1)), 0),
  (73, .iadd, 1, .null, 0),
  (74, .iaload, 1, .null, 0),
  (75, .if_icmp .ne (9), 3, .null, 84),
  (78, .iinc 3 (-1), 3, (.int (-1)), 3),
  (81, .goto (120), 3, .null, 201),
  (84, .aload_n 0, 1, .null, 0),
  (85, .getfield 135, 3, .null, 0),
  (88, .iload_n 3, 1, .null, 3),
  (89, .iaload, 1, .null, 0),
  (90, .istore 6, 2, .null, 6),
  (92, .aload_n 0, 1, .null, 0),
  (93, .getfield 135, 3, .null, 0),
  (96, .iload_n 3, 1, .null, 3),
  (97, .dup2, 1, .null, 0),
  (98, .iaload, 1, .null, 0),
  (99, .iconst 1, 1, (.int (1)), 0),
  (100, .iadd, 1, .null, 0),
  (101, .iastore, 1, .null, 0),
  (102, .iinc 4 (1), 3, (.int (1)), 4),
  (105, .iload_n 3, 1, .null, 3),
  (106, .bipush (12), 2, (.int (12)), 0),
  (108, .if_icmp .eq (11), 3, .null, 119),
  (111, .iload 4, 2, .null, 4),
  (113, .sipush (2401), 3, (.int (2401)), 0),
  (116, .if_icmp .le (5), 3, .null, 121),
  (119, .iconst 0, 1, (.int (0)), 0),
  (120, .ireturn, 1, .null, 0),
  (121, .aload_n 0, 1, .null, 0),
  (122, .getfield 141, 3, .null, 0),
  (125, .iload_n 3, 1, .null, 3),
  (126, .aload_n 0, 1, .null, 0),
  (127, .getfield 123, 3, .null, 0),
  (130, .iload 6, 2, .null, 6),
  (132, .iaload, 1, .null, 0),
  (133, .i2b, 1, .null, 0),
  (134, .bastore, 1, .null, 0),
  (135, .aload_n 0, 1, .null, 0),
  (136, .getfield 138, 3, .null, 0),
  (139, .iload_n 3, 1, .null, 3),
  (140, .iconst 1, 1, (.int (1)), 0),
  (141, .iadd, 1, .null, 0),
  (142, .aload_n 0, 1, .null, 0),
  (143, .getfield 138, 3, .null, 0),
  (146, .iload_n 3, 1, .null, 3),
  (147, .laload, 1, .null, 0),
  (148, .aload_n 0, 1, .null, 0),
  (149, .getfield 129, 3, .null, 0),
  (152, .iload 6, 2, .null, 6),
  (154, .laload, 1, .null, 0),
  (155, .ladd, 1, .null, 0),
  (156, .lastore, 1, .null, 0),
  (157, .iinc 3 (1), 3, (.int (1)), 3),
  (160, .aload_n 0, 1, .null, 0),
  (161, .getfield 132, 3, .null, 0),
  (164, .iload_n 3, 1, .null, 3),
  (165, .aload_n 0, 1, .null, 0),
  (166, .getfield 126, 3, .null, 0),
  (169, .iload 6, 2, .null, 6),
  (171, .iaload, 1, .null, 0),
  (172, .iastore, 1, .null, 0),
  (173, .aload_n 0, 1, .null, 0),
  (174, .getfield 135, 3, .null, 0),
  (177, .iload_n 3, 1, .null, 3),
  (178, .aload_n 0, 1, .null, 0),
  (179, .getfield 120, 3, .null, 0),
  (182, .aload_n 0, 1, .null, 0),
  (183, .getfield 126, 3, .null, 0),
  (186, .iload 6, 2, .null, 6),
  (188, .iaload, 1, .null, 0),
  (189, .iaload, 1, .null, 0),
  (190, .iastore, 1, .null, 0),
  (191, .aload_n 0, 1, .null, 0),
  (192, .iload_n 3, 1, .null, 3),
  (193, .invokevirtual 375, 3, .null, 0),
  (196, .ifCond .ne (5), 3, .null, 201),
  (199, .iconst 0, 1, (.int (0)), 0),
  (200, .ireturn, 1, .null, 0),
  (201, .goto (-153), 3, .null, 48),
  (204, .iconst 1, 1, (.int (1)), 0),
  (205, .ireturn, 1, .null, 0)]
noncomputable def m_X11_spell : ab_M := (c_X11_spell, [(0, [0, 1]), (48, [0, 3, 4]), (201, [0, 3, 4])],
  [(24, 11, 5, 3), (120, 11, 47, 3), (123, 11, 48, 3), (126, 11, 49, 3), (129, 11, 50, 3), (132, 11, 53, 3), (135, 11, 54, 3), (138, 11, 55, 3), (141, 11, 56, 3)],
  [],
  [(375, 1, 2, g_X11_spellOne)],
  [], 7, 2)
theorem one_X11_spell : ab_oneM m_X11_spell := List.forall_mem_cons.mpr ⟨o_X11_spellOne, fun _ h => absurd h List.not_mem_nil⟩
noncomputable def f_X11_spell (l0 : Nat) (l1 : Int64) (st : ab_S) : Option ab_R := ab_rc st l0 11 (ab_lim m_X11_spell 0 [.ref l0, .long l1] [] st)
noncomputable def L_X11_spell_48 (l0 : Nat) (l3 : Int32) (l4 : Int32) (st : ab_S) : Option ab_R := ab_lim m_X11_spell 48 [.ref l0, .int l3, .int l4] [] st
noncomputable def L_X11_spell_201 (l0 : Nat) (l3 : Int32) (l4 : Int32) (st : ab_S) : Option ab_R := ab_lim m_X11_spell 201 [.ref l0, .int l3, .int l4] [] st
noncomputable def g_X11_spell : ab_G := fun as st k => match as with
  | [.ref a0, .long a1] => ab_ri (f_X11_spell a0 a1 st) (fun x t => k [.int x] t)
  | _ => none
theorem o_X11_spell : ab_one g_X11_spell := by
  intro as st k r h
  unfold g_X11_spell at h ⊢
  split at h
  · exact one_ri h
  · cases h
set_option maxRecDepth 100000 in
theorem e_X11_spell_0 (l0 : Nat) (l1 : Int64) (st : ab_S) : f_X11_spell l0 l1 st =
    ab_rc st l0 11 (
    Option.bind (ab_gR st l0 11 5) fun x1 =>
    Option.bind (ab_wI st x1 (4 : Int32) (0 : Int32)) fun s2 =>
    Option.bind (ab_gR s2 l0 11 53) fun x3 =>
    Option.bind (ab_wI s2 x3 (0 : Int32) (0 : Int32)) fun s4 =>
    Option.bind (ab_gR s4 l0 11 54) fun x5 =>
    Option.bind (ab_gR s4 l0 11 47) fun x6 =>
    Option.bind (ab_rI s4 x6 (0 : Int32)) fun x7 =>
    Option.bind (ab_wI s4 x5 (0 : Int32) x7) fun s8 =>
    Option.bind (ab_gR s8 l0 11 55) fun x9 =>
    Option.bind (ab_wJ s8 x9 (0 : Int32) l1) fun s10 =>
    ab_ri (f_X11_spellOne l0 (0 : Int32) s10) fun x12 s11 =>
    if x12 = 0
    then ab_z (0 : Int32) (some (some (.int (0 : Int32)), s11))
    else L_X11_spell_48 l0 (0 : Int32) (1 : Int32) s11) := congrArg (ab_rc st l0 11) ((lm_eq one_X11_spell 0 _ _ _).trans rfl)
set_option maxRecDepth 100000 in
theorem e_X11_spell_48 (l0 : Nat) (l3 : Int32) (l4 : Int32) (st : ab_S) : L_X11_spell_48 l0 l3 l4 st =
    if l3 < 0
    then ab_z (1 : Int32) (some (some (.int (1 : Int32)), st))
    else Option.bind (ab_gR st l0 11 53) fun x1 =>
      Option.bind (ab_rI st x1 l3) fun x2 =>
      Option.bind (ab_gR st l0 11 54) fun x3 =>
      Option.bind (ab_rI st x3 l3) fun x4 =>
      Option.bind (ab_gR st l0 11 47) fun x5 =>
      Option.bind (ab_rI st x5 (x2 + (1 : Int32))) fun x6 =>
      if x4 = x6
      then L_X11_spell_201 l0 (l3 + (-1 : Int32)) l4 st
      else Option.bind (ab_gR st l0 11 54) fun x7 =>
        Option.bind (ab_rI st x7 l3) fun x8 =>
        Option.bind (ab_gR st l0 11 54) fun x9 =>
        Option.bind (ab_rI st x9 l3) fun x10 =>
        Option.bind (ab_wI st x9 l3 (x10 + (1 : Int32))) fun s11 =>
        if l3 = (12 : Int32)
        then ab_z (0 : Int32) (some (some (.int (0 : Int32)), s11))
        else if (l4 + (1 : Int32)) ≤ (2401 : Int32)
          then Option.bind (ab_gR s11 l0 11 56) fun x12 =>
            Option.bind (ab_gR s11 l0 11 48) fun x13 =>
            Option.bind (ab_rI s11 x13 x8) fun x14 =>
            Option.bind (ab_wB s11 x12 l3 x14.toInt8.toInt32) fun s15 =>
            Option.bind (ab_gR s15 l0 11 55) fun x16 =>
            Option.bind (ab_gR s15 l0 11 55) fun x17 =>
            Option.bind (ab_rJ s15 x17 l3) fun x18 =>
            Option.bind (ab_gR s15 l0 11 50) fun x19 =>
            Option.bind (ab_rJ s15 x19 x8) fun x20 =>
            Option.bind (ab_wJ s15 x16 (l3 + (1 : Int32)) (x18 + x20)) fun s21 =>
            Option.bind (ab_gR s21 l0 11 53) fun x22 =>
            Option.bind (ab_gR s21 l0 11 49) fun x23 =>
            Option.bind (ab_rI s21 x23 x8) fun x24 =>
            Option.bind (ab_wI s21 x22 (l3 + (1 : Int32)) x24) fun s25 =>
            Option.bind (ab_gR s25 l0 11 54) fun x26 =>
            Option.bind (ab_gR s25 l0 11 47) fun x27 =>
            Option.bind (ab_gR s25 l0 11 49) fun x28 =>
            Option.bind (ab_rI s25 x28 x8) fun x29 =>
            Option.bind (ab_rI s25 x27 x29) fun x30 =>
            Option.bind (ab_wI s25 x26 (l3 + (1 : Int32)) x30) fun s31 =>
            ab_ri (f_X11_spellOne l0 (l3 + (1 : Int32)) s31) fun x33 s32 =>
            if x33 = 0
            then ab_z (0 : Int32) (some (some (.int (0 : Int32)), s32))
            else L_X11_spell_201 l0 (l3 + (1 : Int32)) (l4 + (1 : Int32)) s32
          else ab_z (0 : Int32) (some (some (.int (0 : Int32)), s11)) := (lm_eq one_X11_spell 48 _ _ _).trans rfl
set_option maxRecDepth 100000 in
theorem e_X11_spell_201 (l0 : Nat) (l3 : Int32) (l4 : Int32) (st : ab_S) : L_X11_spell_201 l0 l3 l4 st =
    L_X11_spell_48 l0 l3 l4 st := (lm_eq one_X11_spell 201 _ _ _).trans rfl
def c_X11_unpack : List (Nat × ab_I) := [(0, .aload_n 0, 1, .null, 0),
  (1, .iconst 0, 1, (.int (0)), 0),
  (2, .putfield 257, 3, .null, 0),
  (5, .aload_n 0, 1, .null, 0),
  (6, .iload_n 1, 1, .null, 1),
  (7, .putfield 260, 3, .null, 0),
  (10, .aload_n 0, 1, .null, 0),
  (11, .iconst 0, 1, (.int (0)), 0),
  (12, .putfield 355, 3, .null, 0),
  (15, .aload_n 0, 1, .null, 0),
  (16, .invokevirtual 359, 3, .null, 0),
  (19, .bipush (84), 2, (.int (84)), 0),
  (21, .if_icmp .ne (12), 3, .null, 33),
  (24, .aload_n 0, 1, .null, 0),
  (25, .invokevirtual 359, 3, .null, 0),
  (28, .bipush (77), 2, (.int (77)), 0),
  (30, .if_icmp .eq (5), 3, .null, 35),
  (33, .iconst 0, 1, (.int (0)), 0),
  (34, .ireturn, 1, .null, 0),
  (35, .aload_n 0, 1, .null, 0),
  (36, .invokevirtual 362, 3, .null, 0),
  (39, .lstore_n 2, 1, .null, 2),
  (40, .aload_n 0, 1, .null, 0),
  (41, .invokevirtual 362, 3, .null, 0),
  (44, .lstore 4, 2, .null, 4),
  (46, .aload_n 0, 1, .null, 0),
  (47, .getfield 355, 3, .null, 0),
  (50, .ifCond .ne (19), 3, .null, 69),
  (53, .lload 4, 2, .null, 4),
  (55, .lconst 1, 1, (.long (1)), 0),
  (56, .lcmp, 1, .null, 0),
  (57, .ifCond .lt (12), 3, .null, 69),
  (60, .lload 4, 2, .null, 4),
  (62, .ldc2_w 366, 3, (.long (2401)), 0),
  (65, .lcmp, 1, .null, 0),
  (66, .ifCond .le (5), 3, .null, 71),
  (69, .iconst 0, 1, (.int (0)), 0),
  (70, .ireturn, 1, .null, 0),
  (71, .aload_n 0, 1, .null, 0),
  (72, .iconst 0, 1, (.int (0)), 0),
  (73, .putfield 368, 3, .null, 0),
  (76, .iconst 0, 1, (.int (0)), 0),
  (77, .istore 6, 2, .null, 6),
  (79, .iload 6, 2, .null, 6),
  (81, .i2l, 1, .null, 0),
  (82, .lload 4, 2, .null, 4),
  (84, .lcmp, 1, .null, 0),
  (85, .ifCond .ge (189), 3, .null, 274),
  (88, .aload_n 0, 1, .null, 0),
  (89, .getfield 355, 3, .null, 0),
  (92, .ifCond .ne (182), 3, .null, 274),
  (95, .aload_n 0, 1, .null, 0),
  (96, .invokevirtual 359, 3, .null, 0),
  (99, .istore 7, 2, .null, 7),
  (101, .aload_n 0, 1, .null, 0),
  (102, .getfield 117, 3, .null, 0),
  (105, .iload 6, 2, .null, 6),
  (107, .iload 7, 2, .null, 7),
  (109, .iconst 1, 1, (.int (1)), 0),
  (110, .if_icmp .ne (10), 3, .null, 120),
  (113, .aload_n 0, 1, .null, 0),
  (114, .invokevirtual 362, 3, .null, 0),
  (117, .goto (6), 3, .null, 123),
  (120, .ldc2_w 224, 3, (.long (-1)), 0),
  (123, .lastore, 1, .null, 0),
  (124, .aload_n 0, 1, .null, 0),
  (125, .aload_n 0, 1, .null, 0),
  (126, .getfield 355, 3, .null, 0),
  (129, .ifCond .ne (9), 3, .null, 138),
  (132, .iload 7, 2, .null, 7),
  (134, .iconst 1, 1, (.int (1)), 0),
  (135, .if_icmp .le (7), 3, .null, 142),
  (138, .iconst 1, 1, (.int (1)), 0),
  (139, .goto (4), 3, .null, 143),
  (142, .iconst 0, 1, (.int (0)), 0),
  (143, .putfield 355, 3, .null, 0),
  (146, .aload_n 0, 1, .null, 0),
  (147, .invokevirtual 362, 3, .null, 0),
  (150, .lstore 8, 2, .null, 8),
  (152, .aload_n 0, 1, .null, 0),
  (153, .getfield 120, 3, .null, 0),
  (156, .iload 6, 2, .null, 6),
  (158, .aload_n 0, 1, .null, 0),
  (159, .getfield 368, 3, .null, 0),
  (162, .iastore, 1, .null, 0),
  (163, .lconst 0, 1, (.long (0)), 0),
  (164, .lstore 10, 2, .null, 10),
  (166, .lload 10, 2, .null, 10),
  (168, .lload 8, 2, .null, 8),
  (170, .lcmp, 1, .null, 0),
  (171, .ifCond .ge (97), 3, .null, 268),
  (174, .aload_n 0, 1, .null, 0),
  (175, .getfield 355, 3, .null, 0),
  (178, .ifCond .ne (90), 3, .null, 268),
  (181, .aload_n 0, 1, .null, 0),
  (182, .getfield 123, 3, .null, 0),
  (185, .aload_n 0, 1, .null, 0),
  (186, .getfield 368, 3, .null, 0),
  (189, .aload_n 0, 1, .null, 0),
  (190, .invokevirtual 359, 3, .null, 0),
  (193, .iastore, 1, .null, 0),
  (194, .aload_n 0, 1, .null, 0),
  (195, .invokevirtual 362, 3, .null, 0),
  (198, .lstore 12, 2, .null, 12),
  (200, .aload_n 0, 1, .null, 0),
  (201, .getfield 129, 3, .null, 0),
  (204, .aload_n 0, 1, .null, 0),
  (205, .getfield 368, 3, .null, 0),
  (208, .aload_n 0, 1, .null, 0),
  (209, .invokevirtual 362, 3, .null, 0),
  (212, .lastore, 1, .null, 0),
  (213, .aload_n 0, 1, .null, 0),
  (214, .aload_n 0, 1, .null, 0),
  (215, .getfield 355, 3, .null, 0),
  (218, .ifCond .ne (11), 3, .null, 229),
  (221, .lload 12, 2, .null, 12),
  (223, .lload 4, 2, .null, 4),
  (225, .lcmp, 1, .null, 0),
  (226, .ifCond .lt (7), 3, .null, 233),
  (229, .iconst 1, 1, (.int (1)), 0),
  (230, .goto (4), 3, .null, 234),
  (233, .iconst 0, 1, (.int (0)), 0),
  (234, .putfield 355, 3, .null, 0),
  (237, .aload_n 0, 1, .null, 0),
  (238, .getfield 126, 3, .null, 0),
  (241, .aload_n 0, 1, .null, 0),
  (242, .getfield 368, 3, .null, 0),
  (245, .lload 12, 2, .null, 12),
  (247, .l2i, 1, .null, 0),
  (248, .iastore, 1, .null, 0),
  (249, .aload_n 0, 1, .null, 0),
  (250, .dup, 1, .null, 0),
  (251, .getfield 368, 3, .null, 0),
  (254, .iconst 1, 1, (.int (1)), 0),
  (255, .iadd, 1, .null, 0),
  (256, .putfield 368, 3, .null, 0),
  (259, .lload 10, 2, .null, 10),
  (261, .lconst 1, 1, (.long (1)), 0),
  (262, .ladd, 1, .null, 0),
  (263, .lstore 10, 2, .null, 10),
  (265, .goto (-99), 3, .null, 166),
  (268, .iinc 6 (1), 3, (.int (1)), 6),
  (271, .goto (-192), 3, .null, 79),
  (274, .aload_n 0, 1, .null, 0),
  (275, .getfield 355, 3, .null, 0),
  (278, .ifCond .ne (14), 3, .null, 292),
  (281, .aload_n 0, 1, .null, 0),
  (282, .getfield 257, 3, .null, 0),
  (285, .aload_n 0, 1, .null, 0),
  (286, .getfield 260, 3, .null, 0),
  (289, .if_icmp .ge (5), 3, .null, 294),
  (292, .iconst 0, 1, (.int (0)), 0),
  (293, .ireturn, 1, .null, 0),
  (294, .aload_n 0, 1, .null, 0),
  (295, .getfield 120, 3, .null, 0),
  (298, .lload 4, 2, .null, 4),
  (300, .l2i, 1, .null, 0),
  (301, .aload_n 0, 1, .null, 0),
  (302, .getfield 368, 3, .null, 0),
  (305, .iastore, 1, .null, 0),
  (306, .aload_n 0, 1, .null, 0),
  (307, .lload_n 2, 1, .null, 2),
  (308, .invokevirtual 371, 3, .null, 0),
  (311, .ireturn, 1, .null, 0)]
noncomputable def m_X11_unpack : ab_M := (c_X11_unpack, [(0, [0, 1]), (79, [0, 2, 4, 6]), (123, [0, 2, 4, 6, 7]), (138, [0, 2, 4, 6]), (143, [0, 2, 4, 6]), (166, [0, 2, 4, 6, 8, 10]), (229, [0, 2, 4, 6, 8, 10, 12]), (234, [0, 2, 4, 6, 8, 10, 12]), (268, [0, 2, 4, 6]), (274, [0, 2, 4])],
  [(117, 11, 46, 3), (120, 11, 47, 3), (123, 11, 48, 3), (126, 11, 49, 3), (129, 11, 50, 3), (257, 11, 33, 0), (260, 11, 34, 0), (355, 11, 52, 1), (368, 11, 51, 0)],
  [],
  [(359, 1, 1, g_X11_readByte), (362, 1, 1, g_X11_readNumber), (371, 1, 2, g_X11_spell)],
  [], 14, 2)
theorem one_X11_unpack : ab_oneM m_X11_unpack := List.forall_mem_cons.mpr ⟨o_X11_readByte, List.forall_mem_cons.mpr ⟨o_X11_readNumber, List.forall_mem_cons.mpr ⟨o_X11_spell, fun _ h => absurd h List.not_mem_nil⟩⟩⟩
noncomputable def f_X11_unpack (l0 : Nat) (l1 : Int32) (st : ab_S) : Option ab_R := ab_rc st l0 11 (ab_lim m_X11_unpack 0 [.ref l0, .int l1] [] st)
noncomputable def L_X11_unpack_79 (l0 : Nat) (l2 : Int64) (l4 : Int64) (l6 : Int32) (st : ab_S) : Option ab_R := ab_lim m_X11_unpack 79 [.ref l0, .long l2, .long l4, .int l6] [] st
noncomputable def L_X11_unpack_123 (l0 : Nat) (l2 : Int64) (l4 : Int64) (l6 : Int32) (l7 : Int32) (t0 : Nat) (t1 : Int32) (t2 : Int64) (st : ab_S) : Option ab_R := ab_lim m_X11_unpack 123 [.ref l0, .long l2, .long l4, .int l6, .int l7] [.long t2, .int t1, .ref t0] st
noncomputable def L_X11_unpack_138 (l0 : Nat) (l2 : Int64) (l4 : Int64) (l6 : Int32) (t0 : Nat) (st : ab_S) : Option ab_R := ab_lim m_X11_unpack 138 [.ref l0, .long l2, .long l4, .int l6] [.ref t0] st
noncomputable def L_X11_unpack_143 (l0 : Nat) (l2 : Int64) (l4 : Int64) (l6 : Int32) (t0 : Nat) (t1 : Int32) (st : ab_S) : Option ab_R := ab_lim m_X11_unpack 143 [.ref l0, .long l2, .long l4, .int l6] [.int t1, .ref t0] st
noncomputable def L_X11_unpack_166 (l0 : Nat) (l2 : Int64) (l4 : Int64) (l6 : Int32) (l8 : Int64) (l10 : Int64) (st : ab_S) : Option ab_R := ab_lim m_X11_unpack 166 [.ref l0, .long l2, .long l4, .int l6, .long l8, .long l10] [] st
noncomputable def L_X11_unpack_229 (l0 : Nat) (l2 : Int64) (l4 : Int64) (l6 : Int32) (l8 : Int64) (l10 : Int64) (l12 : Int64) (t0 : Nat) (st : ab_S) : Option ab_R := ab_lim m_X11_unpack 229 [.ref l0, .long l2, .long l4, .int l6, .long l8, .long l10, .long l12] [.ref t0] st
noncomputable def L_X11_unpack_234 (l0 : Nat) (l2 : Int64) (l4 : Int64) (l6 : Int32) (l8 : Int64) (l10 : Int64) (l12 : Int64) (t0 : Nat) (t1 : Int32) (st : ab_S) : Option ab_R := ab_lim m_X11_unpack 234 [.ref l0, .long l2, .long l4, .int l6, .long l8, .long l10, .long l12] [.int t1, .ref t0] st
noncomputable def L_X11_unpack_268 (l0 : Nat) (l2 : Int64) (l4 : Int64) (l6 : Int32) (st : ab_S) : Option ab_R := ab_lim m_X11_unpack 268 [.ref l0, .long l2, .long l4, .int l6] [] st
noncomputable def L_X11_unpack_274 (l0 : Nat) (l2 : Int64) (l4 : Int64) (st : ab_S) : Option ab_R := ab_lim m_X11_unpack 274 [.ref l0, .long l2, .long l4] [] st
noncomputable def g_X11_unpack : ab_G := fun as st k => match as with
  | [.ref a0, .int a1] => ab_ri (f_X11_unpack a0 a1 st) (fun x t => k [.int x] t)
  | _ => none
theorem o_X11_unpack : ab_one g_X11_unpack := by
  intro as st k r h
  unfold g_X11_unpack at h ⊢
  split at h
  · exact one_ri h
  · cases h
set_option maxRecDepth 100000 in
theorem e_X11_unpack_0 (l0 : Nat) (l1 : Int32) (st : ab_S) : f_X11_unpack l0 l1 st =
    ab_rc st l0 11 (
    Option.bind (ab_pI st l0 11 33 (0 : Int32)) fun s1 =>
    Option.bind (ab_pI s1 l0 11 34 l1) fun s2 =>
    Option.bind (ab_pZ s2 l0 11 52 (0 : Int32)) fun s3 =>
    ab_ri (f_X11_readByte l0 s3) fun x5 s4 =>
    if x5 = (84 : Int32)
    then ab_ri (f_X11_readByte l0 s4) fun x7 s6 =>
      if x7 = (77 : Int32)
      then ab_rl (f_X11_readNumber l0 s6) fun x9 s8 =>
        ab_rl (f_X11_readNumber l0 s8) fun x11 s10 =>
        Option.bind (ab_gI s10 l0 11 52) fun x12 =>
        if x12 = 0
        then if (lg_cmp x11 (1 : Int64)) < 0
          then ab_z (0 : Int32) (some (some (.int (0 : Int32)), s10))
          else if (lg_cmp x11 (2401 : Int64)) ≤ 0
            then Option.bind (ab_pI s10 l0 11 51 (0 : Int32)) fun s13 =>
              L_X11_unpack_79 l0 x9 x11 (0 : Int32) s13
            else ab_z (0 : Int32) (some (some (.int (0 : Int32)), s10))
        else ab_z (0 : Int32) (some (some (.int (0 : Int32)), s10))
      else ab_z (0 : Int32) (some (some (.int (0 : Int32)), s6))
    else ab_z (0 : Int32) (some (some (.int (0 : Int32)), s4))) := congrArg (ab_rc st l0 11) ((lm_eq one_X11_unpack 0 _ _ _).trans rfl)
set_option maxRecDepth 100000 in
theorem e_X11_unpack_79 (l0 : Nat) (l2 : Int64) (l4 : Int64) (l6 : Int32) (st : ab_S) : L_X11_unpack_79 l0 l2 l4 l6 st =
    if 0 ≤ (lg_cmp l6.toInt64 l4)
    then L_X11_unpack_274 l0 l2 l4 st
    else Option.bind (ab_gI st l0 11 52) fun x1 =>
      if x1 = 0
      then ab_ri (f_X11_readByte l0 st) fun x3 s2 =>
        Option.bind (ab_gR s2 l0 11 46) fun x4 =>
        if x3 = (1 : Int32)
        then ab_rl (f_X11_readNumber l0 s2) fun x6 s5 =>
          L_X11_unpack_123 l0 l2 l4 l6 x3 x4 l6 x6 s5
        else L_X11_unpack_123 l0 l2 l4 l6 x3 x4 l6 (-1 : Int64) s2
      else L_X11_unpack_274 l0 l2 l4 st := (lm_eq one_X11_unpack 79 _ _ _).trans rfl
set_option maxRecDepth 100000 in
theorem e_X11_unpack_123 (l0 : Nat) (l2 : Int64) (l4 : Int64) (l6 : Int32) (l7 : Int32) (t0 : Nat) (t1 : Int32) (t2 : Int64) (st : ab_S) : L_X11_unpack_123 l0 l2 l4 l6 l7 t0 t1 t2 st =
    Option.bind (ab_wJ st t0 t1 t2) fun s1 =>
    Option.bind (ab_gI s1 l0 11 52) fun x2 =>
    if x2 = 0
    then if l7 ≤ (1 : Int32)
      then L_X11_unpack_143 l0 l2 l4 l6 l0 (0 : Int32) s1
      else L_X11_unpack_138 l0 l2 l4 l6 l0 s1
    else L_X11_unpack_138 l0 l2 l4 l6 l0 s1 := (lm_eq one_X11_unpack 123 _ _ _).trans rfl
set_option maxRecDepth 100000 in
theorem e_X11_unpack_138 (l0 : Nat) (l2 : Int64) (l4 : Int64) (l6 : Int32) (t0 : Nat) (st : ab_S) : L_X11_unpack_138 l0 l2 l4 l6 t0 st =
    L_X11_unpack_143 l0 l2 l4 l6 t0 (1 : Int32) st := (lm_eq one_X11_unpack 138 _ _ _).trans rfl
set_option maxRecDepth 100000 in
theorem e_X11_unpack_143 (l0 : Nat) (l2 : Int64) (l4 : Int64) (l6 : Int32) (t0 : Nat) (t1 : Int32) (st : ab_S) : L_X11_unpack_143 l0 l2 l4 l6 t0 t1 st =
    Option.bind (ab_pZ st t0 11 52 t1) fun s1 =>
    ab_rl (f_X11_readNumber l0 s1) fun x3 s2 =>
    Option.bind (ab_gR s2 l0 11 47) fun x4 =>
    Option.bind (ab_gI s2 l0 11 51) fun x5 =>
    Option.bind (ab_wI s2 x4 l6 x5) fun s6 =>
    L_X11_unpack_166 l0 l2 l4 l6 x3 (0 : Int64) s6 := (lm_eq one_X11_unpack 143 _ _ _).trans rfl
set_option maxRecDepth 100000 in
theorem e_X11_unpack_166 (l0 : Nat) (l2 : Int64) (l4 : Int64) (l6 : Int32) (l8 : Int64) (l10 : Int64) (st : ab_S) : L_X11_unpack_166 l0 l2 l4 l6 l8 l10 st =
    if 0 ≤ (lg_cmp l10 l8)
    then L_X11_unpack_268 l0 l2 l4 l6 st
    else Option.bind (ab_gI st l0 11 52) fun x1 =>
      if x1 = 0
      then Option.bind (ab_gR st l0 11 48) fun x2 =>
        Option.bind (ab_gI st l0 11 51) fun x3 =>
        ab_ri (f_X11_readByte l0 st) fun x5 s4 =>
        Option.bind (ab_wI s4 x2 x3 x5) fun s6 =>
        ab_rl (f_X11_readNumber l0 s6) fun x8 s7 =>
        Option.bind (ab_gR s7 l0 11 50) fun x9 =>
        Option.bind (ab_gI s7 l0 11 51) fun x10 =>
        ab_rl (f_X11_readNumber l0 s7) fun x12 s11 =>
        Option.bind (ab_wJ s11 x9 x10 x12) fun s13 =>
        Option.bind (ab_gI s13 l0 11 52) fun x14 =>
        if x14 = 0
        then if (lg_cmp x8 l4) < 0
          then L_X11_unpack_234 l0 l2 l4 l6 l8 l10 x8 l0 (0 : Int32) s13
          else L_X11_unpack_229 l0 l2 l4 l6 l8 l10 x8 l0 s13
        else L_X11_unpack_229 l0 l2 l4 l6 l8 l10 x8 l0 s13
      else L_X11_unpack_268 l0 l2 l4 l6 st := (lm_eq one_X11_unpack 166 _ _ _).trans rfl
set_option maxRecDepth 100000 in
theorem e_X11_unpack_229 (l0 : Nat) (l2 : Int64) (l4 : Int64) (l6 : Int32) (l8 : Int64) (l10 : Int64) (l12 : Int64) (t0 : Nat) (st : ab_S) : L_X11_unpack_229 l0 l2 l4 l6 l8 l10 l12 t0 st =
    L_X11_unpack_234 l0 l2 l4 l6 l8 l10 l12 t0 (1 : Int32) st := (lm_eq one_X11_unpack 229 _ _ _).trans rfl
set_option maxRecDepth 100000 in
theorem e_X11_unpack_234 (l0 : Nat) (l2 : Int64) (l4 : Int64) (l6 : Int32) (l8 : Int64) (l10 : Int64) (l12 : Int64) (t0 : Nat) (t1 : Int32) (st : ab_S) : L_X11_unpack_234 l0 l2 l4 l6 l8 l10 l12 t0 t1 st =
    Option.bind (ab_pZ st t0 11 52 t1) fun s1 =>
    Option.bind (ab_gR s1 l0 11 49) fun x2 =>
    Option.bind (ab_gI s1 l0 11 51) fun x3 =>
    Option.bind (ab_wI s1 x2 x3 l12.toInt32) fun s4 =>
    Option.bind (ab_gI s4 l0 11 51) fun x5 =>
    Option.bind (ab_pI s4 l0 11 51 (x5 + (1 : Int32))) fun s6 =>
    L_X11_unpack_166 l0 l2 l4 l6 l8 (l10 + (1 : Int64)) s6 := (lm_eq one_X11_unpack 234 _ _ _).trans rfl
set_option maxRecDepth 100000 in
theorem e_X11_unpack_268 (l0 : Nat) (l2 : Int64) (l4 : Int64) (l6 : Int32) (st : ab_S) : L_X11_unpack_268 l0 l2 l4 l6 st =
    L_X11_unpack_79 l0 l2 l4 (l6 + (1 : Int32)) st := (lm_eq one_X11_unpack 268 _ _ _).trans rfl
set_option maxRecDepth 100000 in
theorem e_X11_unpack_274 (l0 : Nat) (l2 : Int64) (l4 : Int64) (st : ab_S) : L_X11_unpack_274 l0 l2 l4 st =
    Option.bind (ab_gI st l0 11 52) fun x1 =>
    if x1 = 0
    then Option.bind (ab_gI st l0 11 33) fun x2 =>
      Option.bind (ab_gI st l0 11 34) fun x3 =>
      if x3 ≤ x2
      then Option.bind (ab_gR st l0 11 47) fun x4 =>
        Option.bind (ab_gI st l0 11 51) fun x5 =>
        Option.bind (ab_wI st x4 l4.toInt32 x5) fun s6 =>
        ab_ri (f_X11_spell l0 l2 s6) fun x8 s7 =>
        ab_z x8 (some (some (.int x8), s7))
      else ab_z (0 : Int32) (some (some (.int (0 : Int32)), st))
    else ab_z (0 : Int32) (some (some (.int (0 : Int32)), st)) := (lm_eq one_X11_unpack 274 _ _ _).trans rfl
def c_X11_load : List (Nat × ab_I) := [(0, .iload_n 1, 1, .null, 1),
  (1, .invokestatic 159, 3, .null, 0),
  (4, .ifCond .ne (6), 3, .null, 10),
  (7, .bipush (-2), 2, (.int (-2)), 0),
  (9, .ireturn, 1, .null, 0),
  (10, .aload_n 0, 1, .null, 0),
  (11, .invokevirtual 165, 3, .null, 0),
  (14, .istore_n 2, 1, .null, 2),
  (15, .aload_n 0, 1, .null, 0),
  (16, .iload_n 2, 1, .null, 2),
  (17, .invokevirtual 378, 3, .null, 0),
  (20, .istore_n 3, 1, .null, 3),
  (21, .iload_n 3, 1, .null, 3),
  (22, .ifCond .eq (16), 3, .null, 38),
  (25, .aload_n 0, 1, .null, 0),
  (26, .iconst 4, 1, (.int (4)), 0),
  (27, .invokevirtual 349, 3, .null, 0),
  (30, .iload_n 2, 1, .null, 2),
  (31, .if_icmp .ne (7), 3, .null, 38),
  (34, .iconst 1, 1, (.int (1)), 0),
  (35, .goto (4), 3, .null, 39),
  (38, .iconst 0, 1, (.int (0)), 0),
  (39, .istore_n 3, 1, .null, 3),
  (40, .iconst 0, 1, (.int (0)), 0),
  (41, .istore 4, 2, .null, 4),
  (43, .iload 4, 2, .null, 4),
  (45, .iload_n 2, 1, .null, 2),
  (46, .if_icmp .ge (36), 3, .null, 82),
  (49, .iload_n 3, 1, .null, 3),
  (50, .ifCond .eq (32), 3, .null, 82),
  (53, .aload_n 0, 1, .null, 0),
  (54, .getfield 114, 3, .null, 0),
  (57, .iload 4, 2, .null, 4),
  (59, .baload, 1, .null, 0),
  (60, .aload_n 0, 1, .null, 0),
  (61, .getfield 7, 3, .null, 0),
  (64, .iload 4, 2, .null, 4),
  (66, .baload, 1, .null, 0),
  (67, .if_icmp .ne (7), 3, .null, 74),
  (70, .iconst 1, 1, (.int (1)), 0),
  (71, .goto (4), 3, .null, 75),
  (74, .iconst 0, 1, (.int (0)), 0),
  (75, .istore_n 3, 1, .null, 3),
  (76, .iinc 4 (1), 3, (.int (1)), 4),
  (79, .goto (-36), 3, .null, 43),
  (82, .iload_n 3, 1, .null, 3),
  (83, .ifCond .ne (6), 3, .null, 89),
  (86, .bipush (-7), 2, (.int (-7)), 0),
  (88, .ireturn, 1, .null, 0),
  (89, .aload_n 0, 1, .null, 0),
  (90, .iload_n 1, 1, .null, 1),
  (91, .invokevirtual 335, 3, .null, 0),
  (94, .aload_n 0, 1, .null, 0),
  (95, .getfield 24, 3, .null, 0),
  (98, .iload_n 1, 1, .null, 1),
  (99, .iaload, 1, .null, 0),
  (100, .ireturn, 1, .null, 0)]
noncomputable def m_X11_load : ab_M := (c_X11_load, [(0, [0, 1]), (38, [0, 1, 2]), (39, [0, 1, 2]), (43, [0, 1, 2, 3, 4]), (75, [0, 1, 2, 4]), (82, [0, 1, 3])],
  [(7, 11, 0, 3), (24, 11, 5, 3), (114, 11, 45, 3)],
  [],
  [(159, 0, 1, g_X11_isDictionary), (165, 1, 1, g_X11_forget), (335, 1, 2, g_X11_come), (349, 1, 2, g_X11_pack), (378, 1, 2, g_X11_unpack)],
  [], 5, 1)
theorem one_X11_load : ab_oneM m_X11_load := List.forall_mem_cons.mpr ⟨o_X11_isDictionary, List.forall_mem_cons.mpr ⟨o_X11_forget, List.forall_mem_cons.mpr ⟨o_X11_come, List.forall_mem_cons.mpr ⟨o_X11_pack, List.forall_mem_cons.mpr ⟨o_X11_unpack, fun _ h => absurd h List.not_mem_nil⟩⟩⟩⟩⟩
noncomputable def f_X11_load (l0 : Nat) (l1 : Int32) (st : ab_S) : Option ab_R := ab_rc st l0 11 (ab_lim m_X11_load 0 [.ref l0, .int l1] [] st)
noncomputable def L_X11_load_38 (l0 : Nat) (l1 : Int32) (l2 : Int32) (st : ab_S) : Option ab_R := ab_lim m_X11_load 38 [.ref l0, .int l1, .int l2] [] st
noncomputable def L_X11_load_39 (l0 : Nat) (l1 : Int32) (l2 : Int32) (t0 : Int32) (st : ab_S) : Option ab_R := ab_lim m_X11_load 39 [.ref l0, .int l1, .int l2] [.int t0] st
noncomputable def L_X11_load_43 (l0 : Nat) (l1 : Int32) (l2 : Int32) (l3 : Int32) (l4 : Int32) (st : ab_S) : Option ab_R := ab_lim m_X11_load 43 [.ref l0, .int l1, .int l2, .int l3, .int l4] [] st
noncomputable def L_X11_load_75 (l0 : Nat) (l1 : Int32) (l2 : Int32) (l4 : Int32) (t0 : Int32) (st : ab_S) : Option ab_R := ab_lim m_X11_load 75 [.ref l0, .int l1, .int l2, .int l4] [.int t0] st
noncomputable def L_X11_load_82 (l0 : Nat) (l1 : Int32) (l3 : Int32) (st : ab_S) : Option ab_R := ab_lim m_X11_load 82 [.ref l0, .int l1, .int l3] [] st
noncomputable def g_X11_load : ab_G := fun as st k => match as with
  | [.ref a0, .int a1] => ab_ri (f_X11_load a0 a1 st) (fun x t => k [.int x] t)
  | _ => none
theorem o_X11_load : ab_one g_X11_load := by
  intro as st k r h
  unfold g_X11_load at h ⊢
  split at h
  · exact one_ri h
  · cases h
set_option maxRecDepth 100000 in
theorem e_X11_load_0 (l0 : Nat) (l1 : Int32) (st : ab_S) : f_X11_load l0 l1 st =
    ab_rc st l0 11 (
    ab_ri (f_X11_isDictionary l1 st) fun x2 s1 =>
    if x2 = 0
    then some (some (.int (-2 : Int32)), s1)
    else ab_ri (f_X11_forget l0 s1) fun x4 s3 =>
      ab_ri (f_X11_unpack l0 x4 s3) fun x6 s5 =>
      if x6 = 0
      then L_X11_load_38 l0 l1 x4 s5
      else ab_ri (f_X11_pack l0 (4 : Int32) s5) fun x8 s7 =>
        if x8 = x4
        then L_X11_load_39 l0 l1 x4 (1 : Int32) s7
        else L_X11_load_38 l0 l1 x4 s7) := congrArg (ab_rc st l0 11) ((lm_eq one_X11_load 0 _ _ _).trans rfl)
set_option maxRecDepth 100000 in
theorem e_X11_load_38 (l0 : Nat) (l1 : Int32) (l2 : Int32) (st : ab_S) : L_X11_load_38 l0 l1 l2 st =
    L_X11_load_39 l0 l1 l2 (0 : Int32) st := (lm_eq one_X11_load 38 _ _ _).trans rfl
set_option maxRecDepth 100000 in
theorem e_X11_load_39 (l0 : Nat) (l1 : Int32) (l2 : Int32) (t0 : Int32) (st : ab_S) : L_X11_load_39 l0 l1 l2 t0 st =
    L_X11_load_43 l0 l1 l2 t0 (0 : Int32) st := (lm_eq one_X11_load 39 _ _ _).trans rfl
set_option maxRecDepth 100000 in
theorem e_X11_load_43 (l0 : Nat) (l1 : Int32) (l2 : Int32) (l3 : Int32) (l4 : Int32) (st : ab_S) : L_X11_load_43 l0 l1 l2 l3 l4 st =
    if l2 ≤ l4
    then L_X11_load_82 l0 l1 l3 st
    else if l3 = 0
      then L_X11_load_82 l0 l1 l3 st
      else Option.bind (ab_gR st l0 11 45) fun x1 =>
        Option.bind (ab_rB st x1 l4) fun x2 =>
        Option.bind (ab_gR st l0 11 0) fun x3 =>
        Option.bind (ab_rB st x3 l4) fun x4 =>
        if x2 = x4
        then L_X11_load_75 l0 l1 l2 l4 (1 : Int32) st
        else L_X11_load_75 l0 l1 l2 l4 (0 : Int32) st := (lm_eq one_X11_load 43 _ _ _).trans rfl
set_option maxRecDepth 100000 in
theorem e_X11_load_75 (l0 : Nat) (l1 : Int32) (l2 : Int32) (l4 : Int32) (t0 : Int32) (st : ab_S) : L_X11_load_75 l0 l1 l2 l4 t0 st =
    L_X11_load_43 l0 l1 l2 t0 (l4 + (1 : Int32)) st := (lm_eq one_X11_load 75 _ _ _).trans rfl
set_option maxRecDepth 100000 in
theorem e_X11_load_82 (l0 : Nat) (l1 : Int32) (l3 : Int32) (st : ab_S) : L_X11_load_82 l0 l1 l3 st =
    if l3 = 0
    then some (some (.int (-7 : Int32)), st)
    else ab_rv (f_X11_come l0 l1 st) fun s1 =>
      Option.bind (ab_gR s1 l0 11 5) fun x2 =>
      Option.bind (ab_rI s1 x2 l1) fun x3 =>
      some (some (.int x3), s1) := (lm_eq one_X11_load 82 _ _ _).trans rfl
def c_X10_isWalk : List (Nat × ab_I) := [(0, .iload_n 0, 1, .null, 0),
  (1, .ifCond .lt (12), 3, .null, 13),
  (4, .iload_n 0, 1, .null, 0),
  (5, .iconst 4, 1, (.int (4)), 0),
  (6, .if_icmp .ge (7), 3, .null, 13),
  (9, .iconst 1, 1, (.int (1)), 0),
  (10, .goto (4), 3, .null, 14),
  (13, .iconst 0, 1, (.int (0)), 0),
  (14, .ireturn, 1, .null, 0)]
noncomputable def m_X10_isWalk : ab_M := (c_X10_isWalk, [(0, [0])],
  [],
  [],
  [],
  [], 1, 2)
theorem one_X10_isWalk : ab_oneM m_X10_isWalk := fun _ h => absurd h List.not_mem_nil
noncomputable def f_X10_isWalk (l0 : Int32) (st : ab_S) : Option ab_R := ab_lim m_X10_isWalk 0 [.int l0] [] st
noncomputable def g_X10_isWalk : ab_G := fun as st k => match as with
  | [.int a0] => ab_ri (f_X10_isWalk a0 st) (fun x t => k [.int x] t)
  | _ => none
theorem o_X10_isWalk : ab_one g_X10_isWalk := by
  intro as st k r h
  unfold g_X10_isWalk at h ⊢
  split at h
  · exact one_ri h
  · cases h
set_option maxRecDepth 100000 in
theorem e_X10_isWalk_0 (l0 : Int32) (st : ab_S) : f_X10_isWalk l0 st =
    if l0 < 0
    then ab_z (0 : Int32) (some (some (.int (0 : Int32)), st))
    else if (4 : Int32) ≤ l0
      then ab_z (0 : Int32) (some (some (.int (0 : Int32)), st))
      else ab_z (1 : Int32) (some (some (.int (1 : Int32)), st)) := (lm_eq one_X10_isWalk 0 _ _ _).trans rfl
def c_X7_greatestNotAbove : List (Nat × ab_I) := [(0, .aload_n 0, 1, .null, 0),
  (1, .aload_n 1, 1, .null, 1),
  (2, .invokevirtual 55, 3, .null, 0),
  (5, .istore_n 2, 1, .null, 2),
  (6, .iload_n 2, 1, .null, 2),
  (7, .aload_n 0, 1, .null, 0),
  (8, .getfield 22, 3, .null, 0),
  (11, .if_icmp .ge (16), 3, .null, 27),
  (14, .aload_n 0, 1, .null, 0),
  (15, .iload_n 2, 1, .null, 2),
  (16, .aload_n 1, 1, .null, 1),
  (17, .invokevirtual 51, 3, .null, 0),
  (20, .ifCond .ne (7), 3, .null, 27),
  (23, .iload_n 2, 1, .null, 2),
  (24, .goto (6), 3, .null, 30),
  (27, .iload_n 2, 1, .null, 2),
  (28, .iconst 1, 1, (.int (1)), 0),
  (29, .isub, 1, .null, 0),
  (30, .ireturn, 1, .null, 0)]
noncomputable def m_X7_greatestNotAbove : ab_M := (c_X7_greatestNotAbove, [(0, [0, 1])],
  [(22, 7, 3, 0)],
  [],
  [(51, 1, 3, g_X7_compareWith), (55, 1, 2, g_X7_leastNotBelow)],
  [], 3, 1)
theorem one_X7_greatestNotAbove : ab_oneM m_X7_greatestNotAbove := List.forall_mem_cons.mpr ⟨o_X7_compareWith, List.forall_mem_cons.mpr ⟨o_X7_leastNotBelow, fun _ h => absurd h List.not_mem_nil⟩⟩
noncomputable def f_X7_greatestNotAbove (l0 : Nat) (l1 : Nat) (st : ab_S) : Option ab_R := ab_rc st l0 7 (ab_lim m_X7_greatestNotAbove 0 [.ref l0, .ref l1] [] st)
noncomputable def g_X7_greatestNotAbove : ab_G := fun as st k => match as with
  | [.ref a0, .ref a1] => ab_ri (f_X7_greatestNotAbove a0 a1 st) (fun x t => k [.int x] t)
  | _ => none
theorem o_X7_greatestNotAbove : ab_one g_X7_greatestNotAbove := by
  intro as st k r h
  unfold g_X7_greatestNotAbove at h ⊢
  split at h
  · exact one_ri h
  · cases h
set_option maxRecDepth 100000 in
theorem e_X7_greatestNotAbove_0 (l0 : Nat) (l1 : Nat) (st : ab_S) : f_X7_greatestNotAbove l0 l1 st =
    ab_rc st l0 7 (
    ab_ri (f_X7_leastNotBelow l0 l1 st) fun x2 s1 =>
    Option.bind (ab_gI s1 l0 7 3) fun x3 =>
    if x3 ≤ x2
    then some (some (.int (x2 - (1 : Int32))), s1)
    else ab_ri (f_X7_compareWith l0 x2 l1 s1) fun x5 s4 =>
      if x5 = 0
      then some (some (.int x2), s4)
      else some (some (.int (x2 - (1 : Int32))), s4)) := congrArg (ab_rc st l0 7) ((lm_eq one_X7_greatestNotAbove 0 _ _ _).trans rfl)
def c_X9_start : List (Nat × ab_I) := [(0, .aload_n 0, 1, .null, 0),
  (1, .iload_n 1, 1, .null, 1),
  (2, .putfield 9, 3, .null, 0),
  (5, .aload_n 0, 1, .null, 0),
  (6, .iload_n 2, 1, .null, 2),
  (7, .putfield 15, 3, .null, 0),
  (10, .aload_n 0, 1, .null, 0),
  (11, .iload_n 3, 1, .null, 3),
  (12, .putfield 18, 3, .null, 0),
  (15, .aload_n 0, 1, .null, 0),
  (16, .iload 4, 2, .null, 4),
  (18, .putfield 21, 3, .null, 0),
  (21, .return_, 1, .null, 0)]
noncomputable def m_X9_start : ab_M := (c_X9_start, [(0, [0, 1, 2, 3, 4])],
  [(9, 9, 0, 0), (15, 9, 1, 0), (18, 9, 2, 0), (21, 9, 3, 0)],
  [],
  [],
  [], 5, 0)
theorem one_X9_start : ab_oneM m_X9_start := fun _ h => absurd h List.not_mem_nil
noncomputable def f_X9_start (l0 : Nat) (l1 : Int32) (l2 : Int32) (l3 : Int32) (l4 : Int32) (st : ab_S) : Option ab_R := ab_rc st l0 9 (ab_lim m_X9_start 0 [.ref l0, .int l1, .int l2, .int l3, .int l4] [] st)
noncomputable def g_X9_start : ab_G := fun as st k => match as with
  | [.ref a0, .int a1, .int a2, .int a3, .int a4] => ab_rv (f_X9_start a0 a1 a2 a3 a4 st) (fun t => k [] t)
  | _ => none
theorem o_X9_start : ab_one g_X9_start := by
  intro as st k r h
  unfold g_X9_start at h ⊢
  split at h
  · exact one_rv h
  · cases h
set_option maxRecDepth 100000 in
theorem e_X9_start_0 (l0 : Nat) (l1 : Int32) (l2 : Int32) (l3 : Int32) (l4 : Int32) (st : ab_S) : f_X9_start l0 l1 l2 l3 l4 st =
    ab_rc st l0 9 (
    Option.bind (ab_pI st l0 9 0 l1) fun s1 =>
    Option.bind (ab_pI s1 l0 9 1 l2) fun s2 =>
    Option.bind (ab_pI s2 l0 9 2 l3) fun s3 =>
    Option.bind (ab_pI s3 l0 9 3 l4) fun s4 =>
    some (none, s4)) := congrArg (ab_rc st l0 9) ((lm_eq one_X9_start 0 _ _ _).trans rfl)
def c_X10_walk : List (Nat × ab_I) := [(0, .iload_n 1, 1, .null, 1),
  (1, .invokestatic 236, 3, .null, 0),
  (4, .ifCond .eq (10), 3, .null, 14),
  (7, .iload_n 2, 1, .null, 2),
  (8, .invokestatic 95, 3, .null, 0),
  (11, .ifCond .ne (6), 3, .null, 17),
  (14, .bipush (-2), 2, (.int (-2)), 0),
  (16, .ireturn, 1, .null, 0),
  (17, .aload_n 0, 1, .null, 0),
  (18, .invokevirtual 91, 3, .null, 0),
  (21, .astore 4, 2, .null, 4),
  (23, .aload_n 0, 1, .null, 0),
  (24, .getfield 11, 3, .null, 0),
  (27, .iload_n 2, 1, .null, 2),
  (28, .aaload, 1, .null, 0),
  (29, .getfield 109, 3, .null, 0),
  (32, .ifCond .eq (6), 3, .null, 38),
  (35, .bipush (-4), 2, (.int (-4)), 0),
  (37, .ireturn, 1, .null, 0),
  (38, .aload_n 0, 1, .null, 0),
  (39, .getfield 11, 3, .null, 0),
  (42, .iload_n 2, 1, .null, 2),
  (43, .aaload, 1, .null, 0),
  (44, .getfield 99, 3, .null, 0),
  (47, .astore 5, 2, .null, 5),
  (49, .iload_n 3, 1, .null, 3),
  (50, .ifCond .eq (13), 3, .null, 63),
  (53, .aload 5, 2, .null, 5),
  (55, .aload 4, 2, .null, 4),
  (57, .invokevirtual 239, 3, .null, 0),
  (60, .goto (10), 3, .null, 70),
  (63, .aload 5, 2, .null, 5),
  (65, .aload 4, 2, .null, 4),
  (67, .invokevirtual 183, 3, .null, 0),
  (70, .istore 6, 2, .null, 6),
  (72, .aload_n 0, 1, .null, 0),
  (73, .getfield 21, 3, .null, 0),
  (76, .iload_n 1, 1, .null, 1),
  (77, .aaload, 1, .null, 0),
  (78, .iload_n 2, 1, .null, 2),
  (79, .aload_n 0, 1, .null, 0),
  (80, .getfield 15, 3, .null, 0),
  (83, .iload_n 2, 1, .null, 2),
  (84, .iaload, 1, .null, 0),
  (85, .iload 6, 2, .null, 6),
  (87, .iload_n 3, 1, .null, 3),
  (88, .ifCond .eq (7), 3, .null, 95),
  (91, .iconst (-1), 1, (.int (-1)), 0),
  (92, .goto (4), 3, .null, 96),
  (95, .iconst 1, 1, (.int (1)), 0),
  (96, .invokevirtual 242, 3, .null, 0),
  (99, .iconst 0, 1, (.int (0)), 0),
  (100, .ireturn, 1, .null, 0)]
noncomputable def m_X10_walk : ab_M := (c_X10_walk, [(0, [0, 1, 2, 3]), (70, [0, 1, 2, 3]), (96, [])],
  [(11, 10, 0, 3), (15, 10, 1, 3), (21, 10, 2, 3), (99, 0, 0, 3), (109, 0, 2, 1)],
  [],
  [(91, 1, 1, g_X10_takeCollected), (95, 0, 1, g_X10_isDictionary), (183, 1, 2, g_X7_leastNotBelow), (236, 0, 1, g_X10_isWalk), (239, 1, 2, g_X7_greatestNotAbove), (242, 1, 5, g_X9_start)],
  [], 7, 1)
theorem one_X10_walk : ab_oneM m_X10_walk := List.forall_mem_cons.mpr ⟨o_X10_takeCollected, List.forall_mem_cons.mpr ⟨o_X10_isDictionary, List.forall_mem_cons.mpr ⟨o_X7_leastNotBelow, List.forall_mem_cons.mpr ⟨o_X10_isWalk, List.forall_mem_cons.mpr ⟨o_X7_greatestNotAbove, List.forall_mem_cons.mpr ⟨o_X9_start, fun _ h => absurd h List.not_mem_nil⟩⟩⟩⟩⟩⟩
noncomputable def f_X10_walk (l0 : Nat) (l1 : Int32) (l2 : Int32) (l3 : Int32) (st : ab_S) : Option ab_R := ab_rc st l0 10 (ab_lim m_X10_walk 0 [.ref l0, .int l1, .int l2, .int l3] [] st)
noncomputable def L_X10_walk_70 (l0 : Nat) (l1 : Int32) (l2 : Int32) (l3 : Int32) (t0 : Int32) (st : ab_S) : Option ab_R := ab_lim m_X10_walk 70 [.ref l0, .int l1, .int l2, .int l3] [.int t0] st
noncomputable def L_X10_walk_96 (t0 : Nat) (t1 : Int32) (t2 : Int32) (t3 : Int32) (t4 : Int32) (st : ab_S) : Option ab_R := ab_lim m_X10_walk 96 [] [.int t4, .int t3, .int t2, .int t1, .ref t0] st
noncomputable def g_X10_walk : ab_G := fun as st k => match as with
  | [.ref a0, .int a1, .int a2, .int a3] => ab_ri (f_X10_walk a0 a1 a2 a3 st) (fun x t => k [.int x] t)
  | _ => none
theorem o_X10_walk : ab_one g_X10_walk := by
  intro as st k r h
  unfold g_X10_walk at h ⊢
  split at h
  · exact one_ri h
  · cases h
set_option maxRecDepth 100000 in
theorem e_X10_walk_0 (l0 : Nat) (l1 : Int32) (l2 : Int32) (l3 : Int32) (st : ab_S) : f_X10_walk l0 l1 l2 l3 st =
    ab_rc st l0 10 (
    ab_ri (f_X10_isWalk l1 st) fun x2 s1 =>
    if x2 = 0
    then some (some (.int (-2 : Int32)), s1)
    else ab_ri (f_X10_isDictionary l2 s1) fun x4 s3 =>
      if x4 = 0
      then some (some (.int (-2 : Int32)), s3)
      else ab_rr (f_X10_takeCollected l0 s3) fun x6 s5 =>
        Option.bind (ab_gR s5 l0 10 0) fun x7 =>
        Option.bind (ab_rR s5 x7 l2) fun x8 =>
        Option.bind (ab_gI s5 x8 0 2) fun x9 =>
        if x9 = 0
        then Option.bind (ab_gR s5 l0 10 0) fun x10 =>
          Option.bind (ab_rR s5 x10 l2) fun x11 =>
          Option.bind (ab_gR s5 x11 0 0) fun x12 =>
          if l3 = 0
          then ab_ri (f_X7_leastNotBelow x12 x6 s5) fun x14 s13 =>
            L_X10_walk_70 l0 l1 l2 l3 x14 s13
          else ab_ri (f_X7_greatestNotAbove x12 x6 s5) fun x16 s15 =>
            L_X10_walk_70 l0 l1 l2 l3 x16 s15
        else some (some (.int (-4 : Int32)), s5)) := congrArg (ab_rc st l0 10) ((lm_eq one_X10_walk 0 _ _ _).trans rfl)
set_option maxRecDepth 100000 in
theorem e_X10_walk_70 (l0 : Nat) (l1 : Int32) (l2 : Int32) (l3 : Int32) (t0 : Int32) (st : ab_S) : L_X10_walk_70 l0 l1 l2 l3 t0 st =
    Option.bind (ab_gR st l0 10 2) fun x1 =>
    Option.bind (ab_rR st x1 l1) fun x2 =>
    Option.bind (ab_gR st l0 10 1) fun x3 =>
    Option.bind (ab_rI st x3 l2) fun x4 =>
    if l3 = 0
    then L_X10_walk_96 x2 l2 x4 t0 (1 : Int32) st
    else L_X10_walk_96 x2 l2 x4 t0 (-1 : Int32) st := (lm_eq one_X10_walk 70 _ _ _).trans rfl
set_option maxRecDepth 100000 in
theorem e_X10_walk_96 (t0 : Nat) (t1 : Int32) (t2 : Int32) (t3 : Int32) (t4 : Int32) (st : ab_S) : L_X10_walk_96 t0 t1 t2 t3 t4 st =
    ab_rv (f_X9_start t0 t1 t2 t3 t4 st) fun s1 =>
    some (some (.int (0 : Int32)), s1) := (lm_eq one_X10_walk 96 _ _ _).trans rfl
end
section
def c_X11_walk : List (Nat × ab_I) := [(0, .iload_n 1, 1, .null, 1),
  (1, .i2l, 1, .null, 0),
  (2, .lconst 0, 1, (.long (0)), 0),
  (3, .ldc2_w 157, 3, (.long (3)), 0),
  (6, .invokestatic 146, 3, .null, 0),
  (9, .ifCond .eq (10), 3, .null, 19),
  (12, .iload_n 2, 1, .null, 2),
  (13, .invokestatic 159, 3, .null, 0),
  (16, .ifCond .ne (6), 3, .null, 22),
  (19, .bipush (-2), 2, (.int (-2)), 0),
  (21, .ireturn, 1, .null, 0),
  (22, .aload_n 0, 1, .null, 0),
  (23, .invokevirtual 165, 3, .null, 0),
  (26, .istore 4, 2, .null, 4),
  (28, .aload_n 0, 1, .null, 0),
  (29, .getfield 27, 3, .null, 0),
  (32, .iload_n 2, 1, .null, 2),
  (33, .baload, 1, .null, 0),
  (34, .ifCond .eq (6), 3, .null, 40),
  (37, .bipush (-4), 2, (.int (-4)), 0),
  (39, .ireturn, 1, .null, 0),
  (40, .aload_n 0, 1, .null, 0),
  (41, .iload_n 2, 1, .null, 2),
  (42, .iload 4, 2, .null, 4),
  (44, .invokevirtual 239, 3, .null, 0),
  (47, .istore 5, 2, .null, 5),
  (49, .iload_n 3, 1, .null, 3),
  (50, .ifCond .eq (29), 3, .null, 79),
  (53, .iload 5, 2, .null, 5),
  (55, .aload_n 0, 1, .null, 0),
  (56, .getfield 24, 3, .null, 0),
  (59, .iload_n 2, 1, .null, 2),
  (60, .iaload, 1, .null, 0),
  (61, .if_icmp .eq (15), 3, .null, 76),
  (64, .aload_n 0, 1, .null, 0),
  (65, .iload_n 2, 1, .null, 2),
  (66, .iload 5, 2, .null, 5),
  (68, .iload 4, 2, .null, 4),
  (70, .invokevirtual 169, 3, .null, 0),
  (73, .ifCond .le (6), 3, .null, 79),
  (76, .iinc 5 (-1), 3, (.int (-1)), 5),
  (79, .aload_n 0, 1, .null, 0),
  (80, .getfield 45, 3, .null, 0),
  (83, .iload_n 1, 1, .null, 1),
  (84, .iload_n 2, 1, .null, 2),
  (85, .iastore, 1, .null, 0),
  (86, .aload_n 0, 1, .null, 0),
  (87, .getfield 48, 3, .null, 0),
  (90, .iload_n 1, 1, .null, 1),
  (91, .aload_n 0, 1, .null, 0),
  (92, .getfield 31, 3, .null, 0),
  (95, .iload_n 2, 1, .null, 2),
  (96, .iaload, 1, .null, 0),
  (97, .iastore, 1, .null, 0),
  (98, .aload_n 0, 1, .null, 0),
  (99, .getfield 51, 3, .null, 0),
  (102, .iload_n 1, 1, .null, 1),
  (103, .iload 5, 2, .null, 5),
  (105, .iastore, 1, .null, 0),
  (106, .aload_n 0, 1, .null, 0),
  (107, .getfield 54, 3, .null, 0),
  (110, .iload_n 1, 1, .null, 1),
  (111, .iload_n 3, 1, .null, 3),
  (112, .bastore, 1, .null, 0),
  (113, .iconst 0, 1, (.int (0)), 0),
  (114, .ireturn, 1, .null, 0)]
noncomputable def m_X11_walk : ab_M := (c_X11_walk, [(0, [0, 1, 2, 3]), (76, [0, 1, 2, 3, 5]), (79, [0, 1, 2, 3, 5])],
  [(24, 11, 5, 3), (27, 11, 6, 3), (31, 11, 7, 3), (45, 11, 13, 3), (48, 11, 14, 3), (51, 11, 15, 3), (54, 11, 16, 3)],
  [],
  [(146, 0, 3, g_X11_isIn), (159, 0, 1, g_X11_isDictionary), (165, 1, 1, g_X11_forget), (169, 1, 4, g_X11_compare), (239, 1, 3, g_X11_above)],
  [], 6, 1)
theorem one_X11_walk : ab_oneM m_X11_walk := List.forall_mem_cons.mpr ⟨o_X11_isIn, List.forall_mem_cons.mpr ⟨o_X11_isDictionary, List.forall_mem_cons.mpr ⟨o_X11_forget, List.forall_mem_cons.mpr ⟨o_X11_compare, List.forall_mem_cons.mpr ⟨o_X11_above, fun _ h => absurd h List.not_mem_nil⟩⟩⟩⟩⟩
noncomputable def f_X11_walk (l0 : Nat) (l1 : Int32) (l2 : Int32) (l3 : Int32) (st : ab_S) : Option ab_R := ab_rc st l0 11 (ab_lim m_X11_walk 0 [.ref l0, .int l1, .int l2, .int l3] [] st)
noncomputable def L_X11_walk_76 (l0 : Nat) (l1 : Int32) (l2 : Int32) (l3 : Int32) (l5 : Int32) (st : ab_S) : Option ab_R := ab_lim m_X11_walk 76 [.ref l0, .int l1, .int l2, .int l3, .int l5] [] st
noncomputable def L_X11_walk_79 (l0 : Nat) (l1 : Int32) (l2 : Int32) (l3 : Int32) (l5 : Int32) (st : ab_S) : Option ab_R := ab_lim m_X11_walk 79 [.ref l0, .int l1, .int l2, .int l3, .int l5] [] st
noncomputable def g_X11_walk : ab_G := fun as st k => match as with
  | [.ref a0, .int a1, .int a2, .int a3] => ab_ri (f_X11_walk a0 a1 a2 a3 st) (fun x t => k [.int x] t)
  | _ => none
theorem o_X11_walk : ab_one g_X11_walk := by
  intro as st k r h
  unfold g_X11_walk at h ⊢
  split at h
  · exact one_ri h
  · cases h
set_option maxRecDepth 100000 in
theorem e_X11_walk_0 (l0 : Nat) (l1 : Int32) (l2 : Int32) (l3 : Int32) (st : ab_S) : f_X11_walk l0 l1 l2 l3 st =
    ab_rc st l0 11 (
    ab_ri (f_X11_isIn l1.toInt64 (0 : Int64) (3 : Int64) st) fun x2 s1 =>
    if x2 = 0
    then some (some (.int (-2 : Int32)), s1)
    else ab_ri (f_X11_isDictionary l2 s1) fun x4 s3 =>
      if x4 = 0
      then some (some (.int (-2 : Int32)), s3)
      else ab_ri (f_X11_forget l0 s3) fun x6 s5 =>
        Option.bind (ab_gR s5 l0 11 6) fun x7 =>
        Option.bind (ab_rB s5 x7 l2) fun x8 =>
        if x8 = 0
        then ab_ri (f_X11_above l0 l2 x6 s5) fun x10 s9 =>
          if l3 = 0
          then L_X11_walk_79 l0 l1 l2 l3 x10 s9
          else Option.bind (ab_gR s9 l0 11 5) fun x11 =>
            Option.bind (ab_rI s9 x11 l2) fun x12 =>
            if x10 = x12
            then L_X11_walk_76 l0 l1 l2 l3 x10 s9
            else ab_ri (f_X11_compare l0 l2 x10 x6 s9) fun x14 s13 =>
              if x14 ≤ 0
              then L_X11_walk_79 l0 l1 l2 l3 x10 s13
              else L_X11_walk_76 l0 l1 l2 l3 x10 s13
        else some (some (.int (-4 : Int32)), s5)) := congrArg (ab_rc st l0 11) ((lm_eq one_X11_walk 0 _ _ _).trans rfl)
set_option maxRecDepth 100000 in
theorem e_X11_walk_76 (l0 : Nat) (l1 : Int32) (l2 : Int32) (l3 : Int32) (l5 : Int32) (st : ab_S) : L_X11_walk_76 l0 l1 l2 l3 l5 st =
    L_X11_walk_79 l0 l1 l2 l3 (l5 + (-1 : Int32)) st := (lm_eq one_X11_walk 76 _ _ _).trans rfl
set_option maxRecDepth 100000 in
theorem e_X11_walk_79 (l0 : Nat) (l1 : Int32) (l2 : Int32) (l3 : Int32) (l5 : Int32) (st : ab_S) : L_X11_walk_79 l0 l1 l2 l3 l5 st =
    Option.bind (ab_gR st l0 11 13) fun x1 =>
    Option.bind (ab_wI st x1 l1 l2) fun s2 =>
    Option.bind (ab_gR s2 l0 11 14) fun x3 =>
    Option.bind (ab_gR s2 l0 11 7) fun x4 =>
    Option.bind (ab_rI s2 x4 l2) fun x5 =>
    Option.bind (ab_wI s2 x3 l1 x5) fun s6 =>
    Option.bind (ab_gR s6 l0 11 15) fun x7 =>
    Option.bind (ab_wI s6 x7 l1 l5) fun s8 =>
    Option.bind (ab_gR s8 l0 11 16) fun x9 =>
    Option.bind (ab_wB s8 x9 l1 l3) fun s10 =>
    some (some (.int (0 : Int32)), s10) := (lm_eq one_X11_walk 79 _ _ _).trans rfl
def c_X9_step : List (Nat × ab_I) := [(0, .aload_n 0, 1, .null, 0),
  (1, .getfield 18, 3, .null, 0),
  (4, .ifCond .lt (11), 3, .null, 15),
  (7, .aload_n 0, 1, .null, 0),
  (8, .getfield 18, 3, .null, 0),
  (11, .iload_n 1, 1, .null, 1),
  (12, .if_icmp .lt (5), 3, .null, 17),
  (15, .iconst (-1), 1, (.int (-1)), 0),
  (16, .ireturn, 1, .null, 0),
  (17, .aload_n 0, 1, .null, 0),
  (18, .getfield 18, 3, .null, 0),
  (21, .istore_n 2, 1, .null, 2),
  (22, .aload_n 0, 1, .null, 0),
  (23, .dup, 1, .null, 0),
  (24, .getfield 18, 3, .null, 0),
  (27, .aload_n 0, 1, .null, 0),
  (28, .getfield 21, 3, .null, 0),
  (31, .iadd, 1, .null, 0),
  (32, .putfield 18, 3, .null, 0),
  (35, .iload_n 2, 1, .null, 2),
  (36, .ireturn, 1, .null, 0)]
noncomputable def m_X9_step : ab_M := (c_X9_step, [(0, [0, 1])],
  [(18, 9, 2, 0), (21, 9, 3, 0)],
  [],
  [],
  [], 3, 1)
theorem one_X9_step : ab_oneM m_X9_step := fun _ h => absurd h List.not_mem_nil
noncomputable def f_X9_step (l0 : Nat) (l1 : Int32) (st : ab_S) : Option ab_R := ab_rc st l0 9 (ab_lim m_X9_step 0 [.ref l0, .int l1] [] st)
noncomputable def g_X9_step : ab_G := fun as st k => match as with
  | [.ref a0, .int a1] => ab_ri (f_X9_step a0 a1 st) (fun x t => k [.int x] t)
  | _ => none
theorem o_X9_step : ab_one g_X9_step := by
  intro as st k r h
  unfold g_X9_step at h ⊢
  split at h
  · exact one_ri h
  · cases h
set_option maxRecDepth 100000 in
theorem e_X9_step_0 (l0 : Nat) (l1 : Int32) (st : ab_S) : f_X9_step l0 l1 st =
    ab_rc st l0 9 (
    Option.bind (ab_gI st l0 9 2) fun x1 =>
    if x1 < 0
    then some (some (.int (-1 : Int32)), st)
    else Option.bind (ab_gI st l0 9 2) fun x2 =>
      if x2 < l1
      then Option.bind (ab_gI st l0 9 2) fun x3 =>
        Option.bind (ab_gI st l0 9 2) fun x4 =>
        Option.bind (ab_gI st l0 9 3) fun x5 =>
        Option.bind (ab_pI st l0 9 2 (x4 + x5)) fun s6 =>
        some (some (.int x3), s6)
      else some (some (.int (-1 : Int32)), st)) := congrArg (ab_rc st l0 9) ((lm_eq one_X9_step 0 _ _ _).trans rfl)
def c_X10_next : List (Nat × ab_I) := [(0, .iload_n 1, 1, .null, 1),
  (1, .invokestatic 236, 3, .null, 0),
  (4, .ifCond .ne (6), 3, .null, 10),
  (7, .bipush (-2), 2, (.int (-2)), 0),
  (9, .ireturn, 1, .null, 0),
  (10, .aload_n 0, 1, .null, 0),
  (11, .getfield 21, 3, .null, 0),
  (14, .iload_n 1, 1, .null, 1),
  (15, .aaload, 1, .null, 0),
  (16, .astore_n 2, 1, .null, 2),
  (17, .aload_n 2, 1, .null, 2),
  (18, .getfield 246, 3, .null, 0),
  (21, .istore_n 3, 1, .null, 3),
  (22, .iload_n 3, 1, .null, 3),
  (23, .invokestatic 95, 3, .null, 0),
  (26, .ifCond .eq (16), 3, .null, 42),
  (29, .aload_n 2, 1, .null, 2),
  (30, .getfield 249, 3, .null, 0),
  (33, .aload_n 0, 1, .null, 0),
  (34, .getfield 15, 3, .null, 0),
  (37, .iload_n 3, 1, .null, 3),
  (38, .iaload, 1, .null, 0),
  (39, .if_icmp .eq (5), 3, .null, 44),
  (42, .iconst (-1), 1, (.int (-1)), 0),
  (43, .ireturn, 1, .null, 0),
  (44, .aload_n 2, 1, .null, 2),
  (45, .aload_n 0, 1, .null, 0),
  (46, .getfield 11, 3, .null, 0),
  (49, .iload_n 3, 1, .null, 3),
  (50, .aaload, 1, .null, 0),
  (51, .getfield 99, 3, .null, 0),
  (54, .getfield 103, 3, .null, 0),
  (57, .invokevirtual 252, 3, .null, 0),
  (60, .ireturn, 1, .null, 0)]
noncomputable def m_X10_next : ab_M := (c_X10_next, [(0, [0, 1])],
  [(11, 10, 0, 3), (15, 10, 1, 3), (21, 10, 2, 3), (99, 0, 0, 3), (103, 7, 3, 0), (246, 9, 0, 0), (249, 9, 1, 0)],
  [],
  [(95, 0, 1, g_X10_isDictionary), (236, 0, 1, g_X10_isWalk), (252, 1, 2, g_X9_step)],
  [], 4, 1)
theorem one_X10_next : ab_oneM m_X10_next := List.forall_mem_cons.mpr ⟨o_X10_isDictionary, List.forall_mem_cons.mpr ⟨o_X10_isWalk, List.forall_mem_cons.mpr ⟨o_X9_step, fun _ h => absurd h List.not_mem_nil⟩⟩⟩
noncomputable def f_X10_next (l0 : Nat) (l1 : Int32) (st : ab_S) : Option ab_R := ab_rc st l0 10 (ab_lim m_X10_next 0 [.ref l0, .int l1] [] st)
noncomputable def g_X10_next : ab_G := fun as st k => match as with
  | [.ref a0, .int a1] => ab_ri (f_X10_next a0 a1 st) (fun x t => k [.int x] t)
  | _ => none
theorem o_X10_next : ab_one g_X10_next := by
  intro as st k r h
  unfold g_X10_next at h ⊢
  split at h
  · exact one_ri h
  · cases h
set_option maxRecDepth 100000 in
theorem e_X10_next_0 (l0 : Nat) (l1 : Int32) (st : ab_S) : f_X10_next l0 l1 st =
    ab_rc st l0 10 (
    ab_ri (f_X10_isWalk l1 st) fun x2 s1 =>
    if x2 = 0
    then some (some (.int (-2 : Int32)), s1)
    else Option.bind (ab_gR s1 l0 10 2) fun x3 =>
      Option.bind (ab_rR s1 x3 l1) fun x4 =>
      Option.bind (ab_gI s1 x4 9 0) fun x5 =>
      ab_ri (f_X10_isDictionary x5 s1) fun x7 s6 =>
      if x7 = 0
      then some (some (.int (-1 : Int32)), s6)
      else Option.bind (ab_gI s6 x4 9 1) fun x8 =>
        Option.bind (ab_gR s6 l0 10 1) fun x9 =>
        Option.bind (ab_rI s6 x9 x5) fun x10 =>
        if x8 = x10
        then Option.bind (ab_gR s6 l0 10 0) fun x11 =>
          Option.bind (ab_rR s6 x11 x5) fun x12 =>
          Option.bind (ab_gR s6 x12 0 0) fun x13 =>
          Option.bind (ab_gI s6 x13 7 3) fun x14 =>
          ab_ri (f_X9_step x4 x14 s6) fun x16 s15 =>
          some (some (.int x16), s15)
        else some (some (.int (-1 : Int32)), s6)) := congrArg (ab_rc st l0 10) ((lm_eq one_X10_next 0 _ _ _).trans rfl)
def c_X11_next : List (Nat × ab_I) := [(0, .iload_n 1, 1, .null, 1),
  (1, .i2l, 1, .null, 0),
  (2, .lconst 0, 1, (.long (0)), 0),
  (3, .ldc2_w 157, 3, (.long (3)), 0),
  (6, .invokestatic 146, 3, .null, 0),
  (9, .ifCond .ne (6), 3, .null, 15),
  (12, .bipush (-2), 2, (.int (-2)), 0),
  (14, .ireturn, 1, .null, 0),
  (15, .aload_n 0, 1, .null, 0),
  (16, .getfield 45, 3, .null, 0),
  (19, .iload_n 1, 1, .null, 1),
  (20, .iaload, 1, .null, 0),
  (21, .istore_n 2, 1, .null, 2),
  (22, .iload_n 2, 1, .null, 2),
  (23, .iconst (-1), 1, (.int (-1)), 0),
  (24, .if_icmp .eq (41), 3, .null, 65),
  (27, .aload_n 0, 1, .null, 0),
  (28, .getfield 31, 3, .null, 0),
  (31, .iload_n 2, 1, .null, 2),
  (32, .iaload, 1, .null, 0),
  (33, .aload_n 0, 1, .null, 0),
  (34, .getfield 48, 3, .null, 0),
  (37, .iload_n 1, 1, .null, 1),
  (38, .iaload, 1, .null, 0),
  (39, .if_icmp .ne (26), 3, .null, 65),
  (42, .aload_n 0, 1, .null, 0),
  (43, .getfield 51, 3, .null, 0),
  (46, .iload_n 1, 1, .null, 1),
  (47, .iaload, 1, .null, 0),
  (48, .i2l, 1, .null, 0),
  (49, .lconst 0, 1, (.long (0)), 0),
  (50, .aload_n 0, 1, .null, 0),
  (51, .getfield 24, 3, .null, 0),
  (54, .iload_n 2, 1, .null, 2),
  (55, .iaload, 1, .null, 0),
  (56, .iconst 1, 1, (.int (1)), 0),
  (57, .isub, 1, .null, 0),
  (58, .i2l, 1, .null, 0),
  (59, .invokestatic 146, 3, .null, 0),
  (62, .ifCond .ne (5), 3, .null, 67),
  (65, .iconst (-1), 1, (.int (-1)), 0),
  (66, .ireturn, 1, .null, 0),
  (67, .aload_n 0, 1, .null, 0),
  (68, .getfield 51, 3, .null, 0),
  (71, .iload_n 1, 1, .null, 1),
  (72, .iaload, 1, .null, 0),
  (73, .istore_n 3, 1, .null, 3),
  (74, .aload_n 0, 1, .null, 0),
  (75, .getfield 51, 3, .null, 0),
  (78, .iload_n 1, 1, .null, 1),
  (79, .dup2, 1, .null, 0),
  (80, .iaload, 1, .null, 0),
  (81, .aload_n 0, 1, .null, 0),
  (82, .getfield 54, 3, .null, 0),
  (85, .iload_n 1, 1, .null, 1),
  (86, .baload, 1, .null, 0),
  (87, .ifCond .eq (7), 3, .null, 94),
  (90, .iconst (-1), 1, (.int (-1)), 0),
  (91, .goto (4), 3, .null, 95),
  (94, .iconst 1, 1, (.int (1)), 0),
  (95, .iadd, 1, .null, 0),
  (96, .iastore, 1, .null, 0),
  (97, .iload_n 3, 1, .null, 3),
  (98, .ireturn, 1, .null, 0)]
noncomputable def m_X11_next : ab_M := (c_X11_next, [(0, [0, 1]), (95, [3])],
  [(24, 11, 5, 3), (31, 11, 7, 3), (45, 11, 13, 3), (48, 11, 14, 3), (51, 11, 15, 3), (54, 11, 16, 3)],
  [],
  [(146, 0, 3, g_X11_isIn)],
  [], 4, 1)
theorem one_X11_next : ab_oneM m_X11_next := List.forall_mem_cons.mpr ⟨o_X11_isIn, fun _ h => absurd h List.not_mem_nil⟩
noncomputable def f_X11_next (l0 : Nat) (l1 : Int32) (st : ab_S) : Option ab_R := ab_rc st l0 11 (ab_lim m_X11_next 0 [.ref l0, .int l1] [] st)
noncomputable def L_X11_next_95 (l3 : Int32) (t0 : Nat) (t1 : Int32) (t2 : Int32) (t3 : Int32) (st : ab_S) : Option ab_R := ab_lim m_X11_next 95 [.int l3] [.int t3, .int t2, .int t1, .ref t0] st
noncomputable def g_X11_next : ab_G := fun as st k => match as with
  | [.ref a0, .int a1] => ab_ri (f_X11_next a0 a1 st) (fun x t => k [.int x] t)
  | _ => none
theorem o_X11_next : ab_one g_X11_next := by
  intro as st k r h
  unfold g_X11_next at h ⊢
  split at h
  · exact one_ri h
  · cases h
set_option maxRecDepth 100000 in
theorem e_X11_next_0 (l0 : Nat) (l1 : Int32) (st : ab_S) : f_X11_next l0 l1 st =
    ab_rc st l0 11 (
    ab_ri (f_X11_isIn l1.toInt64 (0 : Int64) (3 : Int64) st) fun x2 s1 =>
    if x2 = 0
    then some (some (.int (-2 : Int32)), s1)
    else Option.bind (ab_gR s1 l0 11 13) fun x3 =>
      Option.bind (ab_rI s1 x3 l1) fun x4 =>
      if x4 = (-1 : Int32)
      then some (some (.int (-1 : Int32)), s1)
      else Option.bind (ab_gR s1 l0 11 7) fun x5 =>
        Option.bind (ab_rI s1 x5 x4) fun x6 =>
        Option.bind (ab_gR s1 l0 11 14) fun x7 =>
        Option.bind (ab_rI s1 x7 l1) fun x8 =>
        if x6 = x8
        then Option.bind (ab_gR s1 l0 11 15) fun x9 =>
          Option.bind (ab_rI s1 x9 l1) fun x10 =>
          Option.bind (ab_gR s1 l0 11 5) fun x11 =>
          Option.bind (ab_rI s1 x11 x4) fun x12 =>
          ab_ri (f_X11_isIn x10.toInt64 (0 : Int64) ((x12 - (1 : Int32)).toInt64) s1) fun x14 s13 =>
          if x14 = 0
          then some (some (.int (-1 : Int32)), s13)
          else Option.bind (ab_gR s13 l0 11 15) fun x15 =>
            Option.bind (ab_rI s13 x15 l1) fun x16 =>
            Option.bind (ab_gR s13 l0 11 15) fun x17 =>
            Option.bind (ab_rI s13 x17 l1) fun x18 =>
            Option.bind (ab_gR s13 l0 11 16) fun x19 =>
            Option.bind (ab_rB s13 x19 l1) fun x20 =>
            if x20 = 0
            then L_X11_next_95 x16 x17 l1 x18 (1 : Int32) s13
            else L_X11_next_95 x16 x17 l1 x18 (-1 : Int32) s13
        else some (some (.int (-1 : Int32)), s1)) := congrArg (ab_rc st l0 11) ((lm_eq one_X11_next 0 _ _ _).trans rfl)
set_option maxRecDepth 100000 in
theorem e_X11_next_95 (l3 : Int32) (t0 : Nat) (t1 : Int32) (t2 : Int32) (t3 : Int32) (st : ab_S) : L_X11_next_95 l3 t0 t1 t2 t3 st =
    Option.bind (ab_wI st t0 t1 (t2 + t3)) fun s1 =>
    some (some (.int l3), s1) := (lm_eq one_X11_next 95 _ _ _).trans rfl
def c_L_law : List (Nat × ab_I) := [(0, .new 7, 3, .null, 0),
  (3, .dup, 1, .null, 0),
  (4, .invokespecial 9, 3, .null, 0),
  (7, .astore_n 1, 1, .null, 1),
  (8, .new 10, 3, .null, 0),
  (11, .dup, 1, .null, 0),
  (12, .invokespecial 12, 3, .null, 0),
  (15, .astore_n 2, 1, .null, 2),
  (16, .iconst 0, 1, (.int (0)), 0),
  (17, .istore_n 3, 1, .null, 3),
  (18, .iload_n 3, 1, .null, 3),
  (19, .aload_n 0, 1, .null, 0),
  (20, .arraylength, 1, .null, 0),
  (21, .iconst 5, 1, (.int (5)), 0),
  (22, .isub, 1, .null, 0),
  (23, .if_icmp .gt (898), 3, .null, 921),
  (26, .aload_n 0, 1, .null, 0),
  (27, .iload_n 3, 1, .null, 3),
  (28, .iaload, 1, .null, 0),
  (29, .bipush (31), 2, (.int (31)), 0),
  (31, .iand, 1, .null, 0),
  (32, .tableswitch (883) (0) (23) #[112, 175, 188, 211, 274, 297, 321, 344, 377, 431, 454, 497, 531, 554, 577, 610, 643, 656, 679, 732, 755, 778, 801, 860], 112, .null, 0),
  (144, .aload_n 1, 1, .null, 1),
  (145, .aload_n 0, 1, .null, 0),
  (146, .iload_n 3, 1, .null, 3),
  (147, .iconst 1, 1, (.int (1)), 0),
  (148, .iadd, 1, .null, 0),
  (149, .iaload, 1, .null, 0),
  (150, .i2l, 1, .null, 0),
  (151, .bipush (32), 2, (.int (32)), 0),
  (153, .lshl, 1, .null, 0),
  (154, .aload_n 0, 1, .null, 0),
  (155, .iload_n 3, 1, .null, 3),
  (156, .iconst 2, 1, (.int (2)), 0),
  (157, .iadd, 1, .null, 0),
  (158, .iaload, 1, .null, 0),
  (159, .i2l, 1, .null, 0),
  (160, .ldc2_w 13, 3, (.long (4294967295)), 0),
  (163, .land, 1, .null, 0),
  (164, .lor, 1, .null, 0),
  (165, .aload_n 0, 1, .null, 0),
  (166, .iload_n 3, 1, .null, 3),
  (167, .iconst 3, 1, (.int (3)), 0),
  (168, .iadd, 1, .null, 0),
  (169, .iaload, 1, .null, 0),
  (170, .invokevirtual 15, 3, .null, 0),
  (173, .aload_n 2, 1, .null, 2),
  (174, .aload_n 0, 1, .null, 0),
  (175, .iload_n 3, 1, .null, 3),
  (176, .iconst 1, 1, (.int (1)), 0),
  (177, .iadd, 1, .null, 0),
  (178, .iaload, 1, .null, 0),
  (179, .i2l, 1, .null, 0),
  (180, .bipush (32), 2, (.int (32)), 0),
  (182, .lshl, 1, .null, 0),
  (183, .aload_n 0, 1, .null, 0),
  (184, .iload_n 3, 1, .null, 3),
  (185, .iconst 2, 1, (.int (2)), 0),
  (186, .iadd, 1, .null, 0),
  (187, .iaload, 1, .null, 0),
  (188, .i2l, 1, .null, 0),
  (189, .ldc2_w 13, 3, (.long (4294967295)), 0),
  (192, .land, 1, .null, 0),
  (193, .lor, 1, .null, 0),
  (194, .aload_n 0, 1, .null, 0),
  (195, .iload_n 3, 1, .null, 3),
  (196, .iconst 3, 1, (.int (3)), 0),
  (197, .iadd, 1, .null, 0),
  (198, .iaload, 1, .null, 0),
  (199, .invokevirtual 19, 3, .null, 0),
  (202, .if_icmp .eq (713), 3, .null, 915),
  (205, .iconst 0, 1, (.int (0)), 0),
  (206, .ireturn, 1, .null, 0),
  (207, .aload_n 1, 1, .null, 1),
  (208, .invokevirtual 20, 3, .null, 0),
  (211, .aload_n 2, 1, .null, 2),
  (212, .invokevirtual 24, 3, .null, 0),
  (215, .if_icmp .eq (700), 3, .null, 915),
  (218, .iconst 0, 1, (.int (0)), 0),
  (219, .ireturn, 1, .null, 0),
  (220, .aload_n 1, 1, .null, 1),
  (221, .aload_n 0, 1, .null, 0),
  (222, .iload_n 3, 1, .null, 3),
  (223, .iconst 1, 1, (.int (1)), 0),
  (224, .iadd, 1, .null, 0),
  (225, .iaload, 1, .null, 0),
  (226, .invokevirtual 25, 3, .null, 0),
  (229, .aload_n 2, 1, .null, 2),
  (230, .aload_n 0, 1, .null, 0),
  (231, .iload_n 3, 1, .null, 3),
  (232, .iconst 1, 1, (.int (1)), 0),
  (233, .iadd, 1, .null, 0),
  (234, .iaload, 1, .null, 0),
  (235, .invokevirtual 29, 3, .null, 0),
  (238, .if_icmp .eq (677), 3, .null, 915),
  (241, .iconst 0, 1, (.int (0)), 0),
  (242, .ireturn, 1, .null, 0),
  (243, .aload_n 1, 1, .null, 1),
  (244, .aload_n 0, 1, .null, 0),
  (245, .iload_n 3, 1, .null, 3),
  (246, .iconst 1, 1, (.int (1)), 0),
  (247, .iadd, 1, .null, 0),
  (248, .iaload, 1, .null, 0),
  (249, .aload_n 0, 1, .null, 0),
  (250, .iload_n 3, 1, .null, 3),
  (251, .iconst 2, 1, (.int (2)), 0),
  (252, .iadd, 1, .null, 0),
  (253, .iaload, 1, .null, 0),
  (254, .i2l, 1, .null, 0),
  (255, .bipush (32), 2, (.int (32)), 0),
  (257, .lshl, 1, .null, 0),
  (258, .aload_n 0, 1, .null, 0),
  (259, .iload_n 3, 1, .null, 3),
  (260, .iconst 3, 1, (.int (3)), 0),
  (261, .iadd, 1, .null, 0),
  (262, .iaload, 1, .null, 0),
  (263, .i2l, 1, .null, 0),
  (264, .ldc2_w 13, 3, (.long (4294967295)), 0),
  (267, .land, 1, .null, 0),
  (268, .lor, 1, .null, 0),
  (269, .invokevirtual 30, 3, .null, 0),
  (272, .aload_n 2, 1, .null, 2),
  (273, .aload_n 0, 1, .null, 0),
  (274, .iload_n 3, 1, .null, 3),
  (275, .iconst 1, 1, (.int (1)), 0),
  (276, .iadd, 1, .null, 0),
  (277, .iaload, 1, .null, 0),
  (278, .aload_n 0, 1, .null, 0),
  (279, .iload_n 3, 1, .null, 3),
  (280, .iconst 2, 1, (.int (2)), 0),
  (281, .iadd, 1, .null, 0),
  (282, .iaload, 1, .null, 0),
  (283, .i2l, 1, .null, 0),
  (284, .bipush (32), 2, (.int (32)), 0),
  (286, .lshl, 1, .null, 0),
  (287, .aload_n 0, 1, .null, 0),
  (288, .iload_n 3, 1, .null, 3),
  (289, .iconst 3, 1, (.int (3)), 0),
  (290, .iadd, 1, .null, 0),
  (291, .iaload, 1, .null, 0),
  (292, .i2l, 1, .null, 0),
  (293, .ldc2_w 13, 3, (.long (4294967295)), 0),
  (296, .land, 1, .null, 0),
  (297, .lor, 1, .null, 0),
  (298, .invokevirtual 34, 3, .null, 0),
  (301, .if_icmp .eq (614), 3, .null, 915),
  (304, .iconst 0, 1, (.int (0)), 0),
  (305, .ireturn, 1, .null, 0),
  (306, .aload_n 1, 1, .null, 1),
  (307, .aload_n 0, 1, .null, 0),
  (308, .iload_n 3, 1, .null, 3),
  (309, .iconst 1, 1, (.int (1)), 0),
  (310, .iadd, 1, .null, 0),
  (311, .iaload, 1, .null, 0),
  (312, .invokevirtual 35, 3, .null, 0),
  (315, .aload_n 2, 1, .null, 2),
  (316, .aload_n 0, 1, .null, 0),
  (317, .iload_n 3, 1, .null, 3),
  (318, .iconst 1, 1, (.int (1)), 0),
  (319, .iadd, 1, .null, 0),
  (320, .iaload, 1, .null, 0),
  (321, .invokevirtual 38, 3, .null, 0),
  (324, .if_icmp .eq (591), 3, .null, 915),
  (327, .iconst 0, 1, (.int (0)), 0),
  (328, .ireturn, 1, .null, 0),
  (329, .aload_n 1, 1, .null, 1),
  (330, .aload_n 0, 1, .null, 0),
  (331, .iload_n 3, 1, .null, 3),
  (332, .iconst 1, 1, (.int (1)), 0),
  (333, .iadd, 1, .null, 0),
  (334, .iaload, 1, .null, 0),
  (335, .invokevirtual 39, 3, .null, 0),
  (338, .aload_n 2, 1, .null, 2),
  (339, .aload_n 0, 1, .null, 0),
  (340, .iload_n 3, 1, .null, 3),
  (341, .iconst 1, 1, (.int (1)), 0),
  (342, .iadd, 1, .null, 0),
  (343, .iaload, 1, .null, 0),
  (344, .invokevirtual 43, 3, .null, 0),
  (347, .lcmp, 1, .null, 0),
  (348, .ifCond .eq (567), 3, .null, 915),
  (351, .iconst 0, 1, (.int (0)), 0),
  (352, .ireturn, 1, .null, 0),
  (353, .aload_n 1, 1, .null, 1),
  (354, .aload_n 0, 1, .null, 0),
  (355, .iload_n 3, 1, .null, 3),
  (356, .iconst 1, 1, (.int (1)), 0),
  (357, .iadd, 1, .null, 0),
  (358, .iaload, 1, .null, 0),
  (359, .invokevirtual 44, 3, .null, 0),
  (362, .aload_n 2, 1, .null, 2),
  (363, .aload_n 0, 1, .null, 0),
  (364, .iload_n 3, 1, .null, 3),
  (365, .iconst 1, 1, (.int (1)), 0),
  (366, .iadd, 1, .null, 0),
  (367, .iaload, 1, .null, 0),
  (368, .invokevirtual 47, 3, .null, 0),
  (371, .if_icmp .eq (544), 3, .null, 915),
  (374, .iconst 0, 1, (.int (0)), 0),
  (375, .ireturn, 1, .null, 0),
  (376, .aload_n 1, 1, .null, 1),
  (377, .aload_n 0, 1, .null, 0),
  (378, .iload_n 3, 1, .null, 3),
  (379, .iconst 1, 1, (.int (1)), 0),
  (380, .iadd, 1, .null, 0),
  (381, .iaload, 1, .null, 0),
  (382, .aload_n 0, 1, .null, 0),
  (383, .iload_n 3, 1, .null, 3),
  (384, .iconst 2, 1, (.int (2)), 0),
  (385, .iadd, 1, .null, 0),
  (386, .iaload, 1, .null, 0),
  (387, .invokevirtual 48, 3, .null, 0),
  (390, .aload_n 2, 1, .null, 2),
  (391, .aload_n 0, 1, .null, 0),
  (392, .iload_n 3, 1, .null, 3),
  (393, .iconst 1, 1, (.int (1)), 0),
  (394, .iadd, 1, .null, 0),
  (395, .iaload, 1, .null, 0),
  (396, .aload_n 0, 1, .null, 0),
  (397, .iload_n 3, 1, .null, 3),
  (398, .iconst 2, 1, (.int (2)), 0),
  (399, .iadd, 1, .null, 0),
  (400, .iaload, 1, .null, 0),
  (401, .invokevirtual 52, 3, .null, 0),
  (404, .if_icmp .eq (511), 3, .null, 915),
  (407, .iconst 0, 1, (.int (0)), 0),
  (408, .ireturn, 1, .null, 0),
  (409, .aload_n 1, 1, .null, 1),
  (410, .aload_n 0, 1, .null, 0),
  (411, .iload_n 3, 1, .null, 3),
  (412, .iconst 1, 1, (.int (1)), 0),
  (413, .iadd, 1, .null, 0),
  (414, .iaload, 1, .null, 0),
  (415, .aload_n 0, 1, .null, 0),
  (416, .iload_n 3, 1, .null, 3),
  (417, .iconst 2, 1, (.int (2)), 0),
  (418, .iadd, 1, .null, 0),
  (419, .iaload, 1, .null, 0),
  (420, .aload_n 0, 1, .null, 0),
  (421, .iload_n 3, 1, .null, 3),
  (422, .iconst 3, 1, (.int (3)), 0),
  (423, .iadd, 1, .null, 0),
  (424, .iaload, 1, .null, 0),
  (425, .aload_n 0, 1, .null, 0),
  (426, .iload_n 3, 1, .null, 3),
  (427, .iconst 4, 1, (.int (4)), 0),
  (428, .iadd, 1, .null, 0),
  (429, .iaload, 1, .null, 0),
  (430, .invokevirtual 53, 3, .null, 0),
  (433, .aload_n 2, 1, .null, 2),
  (434, .aload_n 0, 1, .null, 0),
  (435, .iload_n 3, 1, .null, 3),
  (436, .iconst 1, 1, (.int (1)), 0),
  (437, .iadd, 1, .null, 0),
  (438, .iaload, 1, .null, 0),
  (439, .aload_n 0, 1, .null, 0),
  (440, .iload_n 3, 1, .null, 3),
  (441, .iconst 2, 1, (.int (2)), 0),
  (442, .iadd, 1, .null, 0),
  (443, .iaload, 1, .null, 0),
  (444, .aload_n 0, 1, .null, 0),
  (445, .iload_n 3, 1, .null, 3),
  (446, .iconst 3, 1, (.int (3)), 0),
  (447, .iadd, 1, .null, 0),
  (448, .iaload, 1, .null, 0),
  (449, .aload_n 0, 1, .null, 0),
  (450, .iload_n 3, 1, .null, 3),
  (451, .iconst 4, 1, (.int (4)), 0),
  (452, .iadd, 1, .null, 0),
  (453, .iaload, 1, .null, 0),
  (454, .invokevirtual 57, 3, .null, 0),
  (457, .lcmp, 1, .null, 0),
  (458, .ifCond .eq (457), 3, .null, 915),
  (461, .iconst 0, 1, (.int (0)), 0),
  (462, .ireturn, 1, .null, 0),
  (463, .aload_n 1, 1, .null, 1),
  (464, .aload_n 0, 1, .null, 0),
  (465, .iload_n 3, 1, .null, 3),
  (466, .iconst 1, 1, (.int (1)), 0),
  (467, .iadd, 1, .null, 0),
  (468, .iaload, 1, .null, 0),
  (469, .invokevirtual 58, 3, .null, 0),
  (472, .aload_n 2, 1, .null, 2),
  (473, .aload_n 0, 1, .null, 0),
  (474, .iload_n 3, 1, .null, 3),
  (475, .iconst 1, 1, (.int (1)), 0),
  (476, .iadd, 1, .null, 0),
  (477, .iaload, 1, .null, 0),
  (478, .invokevirtual 61, 3, .null, 0),
  (481, .if_icmp .eq (434), 3, .null, 915),
  (484, .iconst 0, 1, (.int (0)), 0),
  (485, .ireturn, 1, .null, 0),
  (486, .aload_n 1, 1, .null, 1),
  (487, .aload_n 0, 1, .null, 0),
  (488, .iload_n 3, 1, .null, 3),
  (489, .iconst 1, 1, (.int (1)), 0),
  (490, .iadd, 1, .null, 0),
  (491, .iaload, 1, .null, 0),
  (492, .aload_n 0, 1, .null, 0),
  (493, .iload_n 3, 1, .null, 3),
  (494, .iconst 2, 1, (.int (2)), 0),
  (495, .iadd, 1, .null, 0),
  (496, .iaload, 1, .null, 0),
  (497, .aload_n 0, 1, .null, 0),
  (498, .iload_n 3, 1, .null, 3),
  (499, .iconst 3, 1, (.int (3)), 0),
  (500, .iadd, 1, .null, 0),
  (501, .iaload, 1, .null, 0),
  (502, .invokevirtual 62, 3, .null, 0),
  (505, .aload_n 2, 1, .null, 2),
  (506, .aload_n 0, 1, .null, 0),
  (507, .iload_n 3, 1, .null, 3),
  (508, .iconst 1, 1, (.int (1)), 0),
  (509, .iadd, 1, .null, 0),
  (510, .iaload, 1, .null, 0),
  (511, .aload_n 0, 1, .null, 0),
  (512, .iload_n 3, 1, .null, 3),
  (513, .iconst 2, 1, (.int (2)), 0),
  (514, .iadd, 1, .null, 0),
  (515, .iaload, 1, .null, 0),
  (516, .aload_n 0, 1, .null, 0),
  (517, .iload_n 3, 1, .null, 3),
  (518, .iconst 3, 1, (.int (3)), 0),
  (519, .iadd, 1, .null, 0),
  (520, .iaload, 1, .null, 0),
  (521, .invokevirtual 66, 3, .null, 0),
  (524, .if_icmp .eq (391), 3, .null, 915),
  (527, .iconst 0, 1, (.int (0)), 0),
  (528, .ireturn, 1, .null, 0),
  (529, .aload_n 1, 1, .null, 1),
  (530, .aload_n 0, 1, .null, 0),
  (531, .iload_n 3, 1, .null, 3),
  (532, .iconst 1, 1, (.int (1)), 0),
  (533, .iadd, 1, .null, 0),
  (534, .iaload, 1, .null, 0),
  (535, .aload_n 0, 1, .null, 0),
  (536, .iload_n 3, 1, .null, 3),
  (537, .iconst 2, 1, (.int (2)), 0),
  (538, .iadd, 1, .null, 0),
  (539, .iaload, 1, .null, 0),
  (540, .invokevirtual 67, 3, .null, 0),
  (543, .aload_n 2, 1, .null, 2),
  (544, .aload_n 0, 1, .null, 0),
  (545, .iload_n 3, 1, .null, 3),
  (546, .iconst 1, 1, (.int (1)), 0),
  (547, .iadd, 1, .null, 0),
  (548, .iaload, 1, .null, 0),
  (549, .aload_n 0, 1, .null, 0),
  (550, .iload_n 3, 1, .null, 3),
  (551, .iconst 2, 1, (.int (2)), 0),
  (552, .iadd, 1, .null, 0),
  (553, .iaload, 1, .null, 0),
  (554, .invokevirtual 71, 3, .null, 0),
  (557, .lcmp, 1, .null, 0),
  (558, .ifCond .eq (357), 3, .null, 915),
  (561, .iconst 0, 1, (.int (0)), 0),
  (562, .ireturn, 1, .null, 0),
  (563, .aload_n 1, 1, .null, 1),
  (564, .aload_n 0, 1, .null, 0),
  (565, .iload_n 3, 1, .null, 3),
  (566, .iconst 1, 1, (.int (1)), 0),
  (567, .iadd, 1, .null, 0),
  (568, .iaload, 1, .null, 0),
  (569, .invokevirtual 72, 3, .null, 0),
  (572, .aload_n 2, 1, .null, 2),
  (573, .aload_n 0, 1, .null, 0),
  (574, .iload_n 3, 1, .null, 3),
  (575, .iconst 1, 1, (.int (1)), 0),
  (576, .iadd, 1, .null, 0),
  (577, .iaload, 1, .null, 0),
  (578, .invokevirtual 75, 3, .null, 0),
  (581, .if_icmp .eq (334), 3, .null, 915),
  (584, .iconst 0, 1, (.int (0)), 0),
  (585, .ireturn, 1, .null, 0),
  (586, .aload_n 1, 1, .null, 1),
  (587, .aload_n 0, 1, .null, 0),
  (588, .iload_n 3, 1, .null, 3),
  (589, .iconst 1, 1, (.int (1)), 0),
  (590, .iadd, 1, .null, 0),
  (591, .iaload, 1, .null, 0),
  (592, .invokevirtual 76, 3, .null, 0),
  (595, .aload_n 2, 1, .null, 2),
  (596, .aload_n 0, 1, .null, 0),
  (597, .iload_n 3, 1, .null, 3),
  (598, .iconst 1, 1, (.int (1)), 0),
  (599, .iadd, 1, .null, 0),
  (600, .iaload, 1, .null, 0),
  (601, .invokevirtual 79, 3, .null, 0),
  (604, .if_icmp .eq (311), 3, .null, 915),
  (607, .iconst 0, 1, (.int (0)), 0),
  (608, .ireturn, 1, .null, 0),
  (609, .aload_n 1, 1, .null, 1),
  (610, .aload_n 0, 1, .null, 0),
  (611, .iload_n 3, 1, .null, 3),
  (612, .iconst 1, 1, (.int (1)), 0),
  (613, .iadd, 1, .null, 0),
  (614, .iaload, 1, .null, 0),
  (615, .aload_n 0, 1, .null, 0),
  (616, .iload_n 3, 1, .null, 3),
  (617, .iconst 2, 1, (.int (2)), 0),
  (618, .iadd, 1, .null, 0),
  (619, .iaload, 1, .null, 0),
  (620, .invokevirtual 80, 3, .null, 0),
  (623, .aload_n 2, 1, .null, 2),
  (624, .aload_n 0, 1, .null, 0),
  (625, .iload_n 3, 1, .null, 3),
  (626, .iconst 1, 1, (.int (1)), 0),
  (627, .iadd, 1, .null, 0),
  (628, .iaload, 1, .null, 0),
  (629, .aload_n 0, 1, .null, 0),
  (630, .iload_n 3, 1, .null, 3),
  (631, .iconst 2, 1, (.int (2)), 0),
  (632, .iadd, 1, .null, 0),
  (633, .iaload, 1, .null, 0),
  (634, .invokevirtual 83, 3, .null, 0),
  (637, .if_icmp .eq (278), 3, .null, 915),
  (640, .iconst 0, 1, (.int (0)), 0),
  (641, .ireturn, 1, .null, 0),
  (642, .aload_n 1, 1, .null, 1),
  (643, .aload_n 0, 1, .null, 0),
  (644, .iload_n 3, 1, .null, 3),
  (645, .iconst 1, 1, (.int (1)), 0),
  (646, .iadd, 1, .null, 0),
  (647, .iaload, 1, .null, 0),
  (648, .aload_n 0, 1, .null, 0),
  (649, .iload_n 3, 1, .null, 3),
  (650, .iconst 2, 1, (.int (2)), 0),
  (651, .iadd, 1, .null, 0),
  (652, .iaload, 1, .null, 0),
  (653, .invokevirtual 84, 3, .null, 0),
  (656, .aload_n 2, 1, .null, 2),
  (657, .aload_n 0, 1, .null, 0),
  (658, .iload_n 3, 1, .null, 3),
  (659, .iconst 1, 1, (.int (1)), 0),
  (660, .iadd, 1, .null, 0),
  (661, .iaload, 1, .null, 0),
  (662, .aload_n 0, 1, .null, 0),
  (663, .iload_n 3, 1, .null, 3),
  (664, .iconst 2, 1, (.int (2)), 0),
  (665, .iadd, 1, .null, 0),
  (666, .iaload, 1, .null, 0),
  (667, .invokevirtual 87, 3, .null, 0),
  (670, .if_icmp .eq (245), 3, .null, 915),
  (673, .iconst 0, 1, (.int (0)), 0),
  (674, .ireturn, 1, .null, 0),
  (675, .aload_n 1, 1, .null, 1),
  (676, .invokevirtual 88, 3, .null, 0),
  (679, .aload_n 2, 1, .null, 2),
  (680, .invokevirtual 91, 3, .null, 0),
  (683, .if_icmp .eq (232), 3, .null, 915),
  (686, .iconst 0, 1, (.int (0)), 0),
  (687, .ireturn, 1, .null, 0),
  (688, .aload_n 1, 1, .null, 1),
  (689, .aload_n 0, 1, .null, 0),
  (690, .iload_n 3, 1, .null, 3),
  (691, .iconst 1, 1, (.int (1)), 0),
  (692, .iadd, 1, .null, 0),
  (693, .iaload, 1, .null, 0),
  (694, .invokevirtual 92, 3, .null, 0),
  (697, .aload_n 2, 1, .null, 2),
  (698, .aload_n 0, 1, .null, 0),
  (699, .iload_n 3, 1, .null, 3),
  (700, .iconst 1, 1, (.int (1)), 0),
  (701, .iadd, 1, .null, 0),
  (702, .iaload, 1, .null, 0),
  (703, .invokevirtual 95, 3, .null, 0),
  (706, .if_icmp .eq (209), 3, .null, 915),
  (709, .iconst 0, 1, (.int (0)), 0),
  (710, .ireturn, 1, .null, 0),
  (711, .aload_n 1, 1, .null, 1),
  (712, .aload_n 0, 1, .null, 0),
  (713, .iload_n 3, 1, .null, 3),
  (714, .iconst 1, 1, (.int (1)), 0),
  (715, .iadd, 1, .null, 0),
  (716, .iaload, 1, .null, 0),
  (717, .aload_n 0, 1, .null, 0),
  (718, .iload_n 3, 1, .null, 3),
  (719, .iconst 2, 1, (.int (2)), 0),
  (720, .iadd, 1, .null, 0),
  (721, .iaload, 1, .null, 0),
  (722, .aload_n 0, 1, .null, 0),
  (723, .iload_n 3, 1, .null, 3),
  (724, .iconst 3, 1, (.int (3)), 0),
  (725, .iadd, 1, .null, 0),
  (726, .iaload, 1, .null, 0),
  (727, .aload_n 0, 1, .null, 0),
  (728, .iload_n 3, 1, .null, 3),
  (729, .iconst 4, 1, (.int (4)), 0),
  (730, .iadd, 1, .null, 0),
  (731, .iaload, 1, .null, 0),
  (732, .invokevirtual 96, 3, .null, 0),
  (735, .aload_n 2, 1, .null, 2),
  (736, .aload_n 0, 1, .null, 0),
  (737, .iload_n 3, 1, .null, 3),
  (738, .iconst 1, 1, (.int (1)), 0),
  (739, .iadd, 1, .null, 0),
  (740, .iaload, 1, .null, 0),
  (741, .aload_n 0, 1, .null, 0),
  (742, .iload_n 3, 1, .null, 3),
  (743, .iconst 2, 1, (.int (2)), 0),
  (744, .iadd, 1, .null, 0),
  (745, .iaload, 1, .null, 0),
  (746, .aload_n 0, 1, .null, 0),
  (747, .iload_n 3, 1, .null, 3),
  (748, .iconst 3, 1, (.int (3)), 0),
  (749, .iadd, 1, .null, 0),
  (750, .iaload, 1, .null, 0),
  (751, .aload_n 0, 1, .null, 0),
  (752, .iload_n 3, 1, .null, 3),
  (753, .iconst 4, 1, (.int (4)), 0),
  (754, .iadd, 1, .null, 0),
  (755, .iaload, 1, .null, 0),
  (756, .invokevirtual 100, 3, .null, 0),
  (759, .if_icmp .eq (156), 3, .null, 915),
  (762, .iconst 0, 1, (.int (0)), 0),
  (763, .ireturn, 1, .null, 0),
  (764, .aload_n 1, 1, .null, 1),
  (765, .aload_n 0, 1, .null, 0),
  (766, .iload_n 3, 1, .null, 3),
  (767, .iconst 1, 1, (.int (1)), 0),
  (768, .iadd, 1, .null, 0),
  (769, .iaload, 1, .null, 0),
  (770, .invokevirtual 101, 3, .null, 0),
  (773, .aload_n 2, 1, .null, 2),
  (774, .aload_n 0, 1, .null, 0),
  (775, .iload_n 3, 1, .null, 3),
  (776, .iconst 1, 1, (.int (1)), 0),
  (777, .iadd, 1, .null, 0),
  (778, .iaload, 1, .null, 0),
  (779, .invokevirtual 104, 3, .null, 0),
  (782, .if_icmp .eq (133), 3, .null, 915),
  (785, .iconst 0, 1, (.int (0)), 0),
  (786, .ireturn, 1, .null, 0),
  (787, .aload_n 1, 1, .null, 1),
  (788, .aload_n 0, 1, .null, 0),
  (789, .iload_n 3, 1, .null, 3),
  (790, .iconst 1, 1, (.int (1)), 0),
  (791, .iadd, 1, .null, 0),
  (792, .iaload, 1, .null, 0),
  (793, .invokevirtual 105, 3, .null, 0),
  (796, .aload_n 2, 1, .null, 2),
  (797, .aload_n 0, 1, .null, 0),
  (798, .iload_n 3, 1, .null, 3),
  (799, .iconst 1, 1, (.int (1)), 0),
  (800, .iadd, 1, .null, 0),
  (801, .iaload, 1, .null, 0),
  (802, .invokevirtual 108, 3, .null, 0),
  (805, .if_icmp .eq (110), 3, .null, 915),
  (808, .iconst 0, 1, (.int (0)), 0),
  (809, .ireturn, 1, .null, 0),
  (810, .aload_n 1, 1, .null, 1),
  (811, .aload_n 0, 1, .null, 0),
  (812, .iload_n 3, 1, .null, 3),
  (813, .iconst 1, 1, (.int (1)), 0),
  (814, .iadd, 1, .null, 0),
  (815, .iaload, 1, .null, 0),
  (816, .invokevirtual 109, 3, .null, 0),
  (819, .aload_n 2, 1, .null, 2),
  (820, .aload_n 0, 1, .null, 0),
  (821, .iload_n 3, 1, .null, 3),
  (822, .iconst 1, 1, (.int (1)), 0),
  (823, .iadd, 1, .null, 0),
  (824, .iaload, 1, .null, 0),
  (825, .invokevirtual 112, 3, .null, 0),
  (828, .if_icmp .eq (87), 3, .null, 915),
  (831, .iconst 0, 1, (.int (0)), 0),
  (832, .ireturn, 1, .null, 0),
  (833, .aload_n 1, 1, .null, 1),
  (834, .aload_n 0, 1, .null, 0),
  (835, .iload_n 3, 1, .null, 3),
  (836, .iconst 1, 1, (.int (1)), 0),
  (837, .iadd, 1, .null, 0),
  (838, .iaload, 1, .null, 0),
  (839, .aload_n 0, 1, .null, 0),
  (840, .iload_n 3, 1, .null, 3),
  (841, .iconst 2, 1, (.int (2)), 0),
  (842, .iadd, 1, .null, 0),
  (843, .iaload, 1, .null, 0),
  (844, .aload_n 0, 1, .null, 0),
  (845, .iload_n 3, 1, .null, 3),
  (846, .iconst 3, 1, (.int (3)), 0),
  (847, .iadd, 1, .null, 0),
  (848, .iaload, 1, .null, 0),
  (849, .ifCond .eq (7), 3, .null, 856),
  (852, .iconst 1, 1, (.int (1)), 0),
  (853, .goto (4), 3, .null, 857),
  (856, .iconst 0, 1, (.int (0)), 0),
  (857, .invokevirtual 113, 3, .null, 0),
  (860, .aload_n 2, 1, .null, 2),
  (861, .aload_n 0, 1, .null, 0),
  (862, .iload_n 3, 1, .null, 3),
  (863, .iconst 1, 1, (.int (1)), 0),
  (864, .iadd, 1, .null, 0),
  (865, .iaload, 1, .null, 0),
  (866, .aload_n 0, 1, .null, 0),
  (867, .iload_n 3, 1, .null, 3),
  (868, .iconst 2, 1, (.int (2)), 0),
  (869, .iadd, 1, .null, 0),
  (870, .iaload, 1, .null, 0),
  (871, .aload_n 0, 1, .null, 0),
  (872, .iload_n 3, 1, .null, 3),
  (873, .iconst 3, 1, (.int (3)), 0),
  (874, .iadd, 1, .null, 0),
  (875, .iaload, 1, .null, 0),
  (876, .ifCond .eq (7), 3, .null, 883),
  (879, .iconst 1, 1, (.int (1)), 0),
  (880, .goto (4), 3, .null, 884),
  (883, .iconst 0, 1, (.int (0)), 0),
  (884, .invokevirtual 117, 3, .null, 0),
  (887, .if_icmp .eq (28), 3, .null, 915),
  (890, .iconst 0, 1, (.int (0)), 0),
  (891, .ireturn, 1, .null, 0),
  (892, .aload_n 1, 1, .null, 1),
  (893, .aload_n 0, 1, .null, 0),
  (894, .iload_n 3, 1, .null, 3),
  (895, .iconst 1, 1, (.int (1)), 0),
  (896, .iadd, 1, .null, 0),
  (897, .iaload, 1, .null, 0),
  (898, .invokevirtual 118, 3, .null, 0),
  (901, .aload_n 2, 1, .null, 2),
  (902, .aload_n 0, 1, .null, 0),
  (903, .iload_n 3, 1, .null, 3),
  (904, .iconst 1, 1, (.int (1)), 0),
  (905, .iadd, 1, .null, 0),
  (906, .iaload, 1, .null, 0),
  (907, .invokevirtual 121, 3, .null, 0),
  (910, .if_icmp .eq (5), 3, .null, 915),
  (913, .iconst 0, 1, (.int (0)), 0),
  (914, .ireturn, 1, .null, 0),
  (915, .iinc 3 (5), 3, (.int (5)), 3),
  (918, .goto (-900), 3, .null, 18),
  (921, .iconst 1, 1, (.int (1)), 0),
  (922, .ireturn, 1, .null, 0)]
noncomputable def m_L_law : ab_M := (c_L_law, [(0, [0]), (18, [0, 1, 2, 3]), (857, [0, 1, 2, 3]), (884, [0, 1, 2, 3]), (915, [0, 1, 2, 3])],
  [],
  [(7, 10), (10, 11)],
  [(9, 2, 1, g_X10_init), (12, 2, 1, g_X11_init), (15, 1, 3, g_X10_collect), (19, 1, 3, g_X11_collect), (20, 1, 1, g_X10_forget), (24, 1, 1, g_X11_forget), (25, 1, 2, g_X10_begin), (29, 1, 2, g_X11_begin), (30, 1, 3, g_X10_add), (34, 1, 3, g_X11_add), (35, 1, 2, g_X10_done), (38, 1, 2, g_X11_done), (39, 1, 2, g_X10_find), (43, 1, 2, g_X11_find), (44, 1, 2, g_X10_state), (47, 1, 2, g_X11_state), (48, 1, 3, g_X10_count), (52, 1, 3, g_X11_count), (53, 1, 5, g_X10_arc), (57, 1, 5, g_X11_arc), (58, 1, 2, g_X10_number), (61, 1, 2, g_X11_number), (62, 1, 4, g_X10_term), (66, 1, 4, g_X11_term), (67, 1, 3, g_X10_out), (71, 1, 3, g_X11_out), (72, 1, 2, g_X10_ceiling), (75, 1, 2, g_X11_ceiling), (76, 1, 2, g_X10_prefix), (79, 1, 2, g_X11_prefix), (80, 1, 3, g_X10_cheapest), (83, 1, 3, g_X11_cheapest), (84, 1, 3, g_X10_meet), (87, 1, 3, g_X11_meet), (88, 1, 1, g_X10_fault), (91, 1, 1, g_X11_fault), (92, 1, 2, g_X10_row), (95, 1, 2, g_X11_row), (96, 1, 5, g_X10_join), (100, 1, 5, g_X11_join), (101, 1, 2, g_X10_packed), (104, 1, 2, g_X11_packed), (105, 1, 2, g_X10_sign), (108, 1, 2, g_X11_sign), (109, 1, 2, g_X10_load), (112, 1, 2, g_X11_load), (113, 1, 4, g_X10_walk), (117, 1, 4, g_X11_walk), (118, 1, 2, g_X10_next), (121, 1, 2, g_X11_next)],
  [(32, [(0, 144), (1, 207), (2, 220), (3, 243), (4, 306), (5, 329), (6, 353), (7, 376), (8, 409), (9, 463), (10, 486), (11, 529), (12, 563), (13, 586), (14, 609), (15, 642), (16, 675), (17, 688), (18, 711), (19, 764), (20, 787), (21, 810), (22, 833), (23, 892)], 915)], 4, 2)
theorem one_L_law : ab_oneM m_L_law := List.forall_mem_cons.mpr ⟨o_X10_init, List.forall_mem_cons.mpr ⟨o_X11_init, List.forall_mem_cons.mpr ⟨o_X10_collect, List.forall_mem_cons.mpr ⟨o_X11_collect, List.forall_mem_cons.mpr ⟨o_X10_forget, List.forall_mem_cons.mpr ⟨o_X11_forget, List.forall_mem_cons.mpr ⟨o_X10_begin, List.forall_mem_cons.mpr ⟨o_X11_begin, List.forall_mem_cons.mpr ⟨o_X10_add, List.forall_mem_cons.mpr ⟨o_X11_add, List.forall_mem_cons.mpr ⟨o_X10_done, List.forall_mem_cons.mpr ⟨o_X11_done, List.forall_mem_cons.mpr ⟨o_X10_find, List.forall_mem_cons.mpr ⟨o_X11_find, List.forall_mem_cons.mpr ⟨o_X10_state, List.forall_mem_cons.mpr ⟨o_X11_state, List.forall_mem_cons.mpr ⟨o_X10_count, List.forall_mem_cons.mpr ⟨o_X11_count, List.forall_mem_cons.mpr ⟨o_X10_arc, List.forall_mem_cons.mpr ⟨o_X11_arc, List.forall_mem_cons.mpr ⟨o_X10_number, List.forall_mem_cons.mpr ⟨o_X11_number, List.forall_mem_cons.mpr ⟨o_X10_term, List.forall_mem_cons.mpr ⟨o_X11_term, List.forall_mem_cons.mpr ⟨o_X10_out, List.forall_mem_cons.mpr ⟨o_X11_out, List.forall_mem_cons.mpr ⟨o_X10_ceiling, List.forall_mem_cons.mpr ⟨o_X11_ceiling, List.forall_mem_cons.mpr ⟨o_X10_prefix, List.forall_mem_cons.mpr ⟨o_X11_prefix, List.forall_mem_cons.mpr ⟨o_X10_cheapest, List.forall_mem_cons.mpr ⟨o_X11_cheapest, List.forall_mem_cons.mpr ⟨o_X10_meet, List.forall_mem_cons.mpr ⟨o_X11_meet, List.forall_mem_cons.mpr ⟨o_X10_fault, List.forall_mem_cons.mpr ⟨o_X11_fault, List.forall_mem_cons.mpr ⟨o_X10_row, List.forall_mem_cons.mpr ⟨o_X11_row, List.forall_mem_cons.mpr ⟨o_X10_join, List.forall_mem_cons.mpr ⟨o_X11_join, List.forall_mem_cons.mpr ⟨o_X10_packed, List.forall_mem_cons.mpr ⟨o_X11_packed, List.forall_mem_cons.mpr ⟨o_X10_sign, List.forall_mem_cons.mpr ⟨o_X11_sign, List.forall_mem_cons.mpr ⟨o_X10_load, List.forall_mem_cons.mpr ⟨o_X11_load, List.forall_mem_cons.mpr ⟨o_X10_walk, List.forall_mem_cons.mpr ⟨o_X11_walk, List.forall_mem_cons.mpr ⟨o_X10_next, List.forall_mem_cons.mpr ⟨o_X11_next, fun _ h => absurd h List.not_mem_nil⟩⟩⟩⟩⟩⟩⟩⟩⟩⟩⟩⟩⟩⟩⟩⟩⟩⟩⟩⟩⟩⟩⟩⟩⟩⟩⟩⟩⟩⟩⟩⟩⟩⟩⟩⟩⟩⟩⟩⟩⟩⟩⟩⟩⟩⟩⟩⟩⟩⟩
noncomputable def f_L_law (l0 : Nat) (st : ab_S) : Option ab_R := ab_lim m_L_law 0 [.ref l0] [] st
noncomputable def L_L_law_18 (l0 : Nat) (l1 : Nat) (l2 : Nat) (l3 : Int32) (st : ab_S) : Option ab_R := ab_lim m_L_law 18 [.ref l0, .ref l1, .ref l2, .int l3] [] st
noncomputable def L_L_law_857 (l0 : Nat) (l1 : Nat) (l2 : Nat) (l3 : Int32) (t0 : Nat) (t1 : Int32) (t2 : Int32) (t3 : Int32) (st : ab_S) : Option ab_R := ab_lim m_L_law 857 [.ref l0, .ref l1, .ref l2, .int l3] [.int t3, .int t2, .int t1, .ref t0] st
noncomputable def L_L_law_884 (l0 : Nat) (l1 : Nat) (l2 : Nat) (l3 : Int32) (t0 : Int32) (t1 : Nat) (t2 : Int32) (t3 : Int32) (t4 : Int32) (st : ab_S) : Option ab_R := ab_lim m_L_law 884 [.ref l0, .ref l1, .ref l2, .int l3] [.int t4, .int t3, .int t2, .ref t1, .int t0] st
noncomputable def L_L_law_915 (l0 : Nat) (l1 : Nat) (l2 : Nat) (l3 : Int32) (st : ab_S) : Option ab_R := ab_lim m_L_law 915 [.ref l0, .ref l1, .ref l2, .int l3] [] st
noncomputable def g_L_law : ab_G := fun as st k => match as with
  | [.ref a0] => ab_ri (f_L_law a0 st) (fun x t => k [.int x] t)
  | _ => none
theorem o_L_law : ab_one g_L_law := by
  intro as st k r h
  unfold g_L_law at h ⊢
  split at h
  · exact one_ri h
  · cases h
set_option maxRecDepth 100000 in
theorem e_L_law_0 (l0 : Nat) (st : ab_S) : f_L_law l0 st =
    ab_newo st 10 fun o1 s2 =>
    ab_rv (f_X10_init o1 s2) fun s3 =>
    ab_newo s3 11 fun o4 s5 =>
    ab_rv (f_X11_init o4 s5) fun s6 =>
    L_L_law_18 l0 o1 o4 (0 : Int32) s6 := (lm_eq one_L_law 0 _ _ _).trans rfl
set_option maxRecDepth 100000 in
theorem e_L_law_18 (l0 : Nat) (l1 : Nat) (l2 : Nat) (l3 : Int32) (st : ab_S) : L_L_law_18 l0 l1 l2 l3 st =
    Option.bind (ab_n st l0) fun n1 =>
    if ((Int32.ofNat n1) - (5 : Int32)) < l3
    then ab_z (1 : Int32) (some (some (.int (1 : Int32)), st))
    else Option.bind (ab_rI st l0 l3) fun x2 =>
      if (x2 &&& (31 : Int32)) = 0 then Option.bind (ab_rI st l0 (l3 + (1 : Int32))) fun x3 =>
        Option.bind (ab_rI st l0 (l3 + (2 : Int32))) fun x4 =>
        Option.bind (ab_rI st l0 (l3 + (3 : Int32))) fun x5 =>
        ab_ri (f_X10_collect l1 ((x3.toInt64 <<< ((32 : Int32).toInt64 &&& 63)) ||| (x4.toInt64 &&& (4294967295 : Int64))) x5 st) fun x7 s6 =>
        Option.bind (ab_rI s6 l0 (l3 + (1 : Int32))) fun x8 =>
        Option.bind (ab_rI s6 l0 (l3 + (2 : Int32))) fun x9 =>
        Option.bind (ab_rI s6 l0 (l3 + (3 : Int32))) fun x10 =>
        ab_ri (f_X11_collect l2 ((x8.toInt64 <<< ((32 : Int32).toInt64 &&& 63)) ||| (x9.toInt64 &&& (4294967295 : Int64))) x10 s6) fun x12 s11 =>
        if x7 = x12
        then L_L_law_915 l0 l1 l2 l3 s11
        else ab_z (0 : Int32) (some (some (.int (0 : Int32)), s11))
      else if (x2 &&& (31 : Int32)) = 1 then ab_ri (f_X10_forget l1 st) fun x14 s13 =>
        ab_ri (f_X11_forget l2 s13) fun x16 s15 =>
        if x14 = x16
        then L_L_law_915 l0 l1 l2 l3 s15
        else ab_z (0 : Int32) (some (some (.int (0 : Int32)), s15))
      else if (x2 &&& (31 : Int32)) = 2 then Option.bind (ab_rI st l0 (l3 + (1 : Int32))) fun x17 =>
        ab_ri (f_X10_begin l1 x17 st) fun x19 s18 =>
        Option.bind (ab_rI s18 l0 (l3 + (1 : Int32))) fun x20 =>
        ab_ri (f_X11_begin l2 x20 s18) fun x22 s21 =>
        if x19 = x22
        then L_L_law_915 l0 l1 l2 l3 s21
        else ab_z (0 : Int32) (some (some (.int (0 : Int32)), s21))
      else if (x2 &&& (31 : Int32)) = 3 then Option.bind (ab_rI st l0 (l3 + (1 : Int32))) fun x23 =>
        Option.bind (ab_rI st l0 (l3 + (2 : Int32))) fun x24 =>
        Option.bind (ab_rI st l0 (l3 + (3 : Int32))) fun x25 =>
        ab_ri (f_X10_add l1 x23 ((x24.toInt64 <<< ((32 : Int32).toInt64 &&& 63)) ||| (x25.toInt64 &&& (4294967295 : Int64))) st) fun x27 s26 =>
        Option.bind (ab_rI s26 l0 (l3 + (1 : Int32))) fun x28 =>
        Option.bind (ab_rI s26 l0 (l3 + (2 : Int32))) fun x29 =>
        Option.bind (ab_rI s26 l0 (l3 + (3 : Int32))) fun x30 =>
        ab_ri (f_X11_add l2 x28 ((x29.toInt64 <<< ((32 : Int32).toInt64 &&& 63)) ||| (x30.toInt64 &&& (4294967295 : Int64))) s26) fun x32 s31 =>
        if x27 = x32
        then L_L_law_915 l0 l1 l2 l3 s31
        else ab_z (0 : Int32) (some (some (.int (0 : Int32)), s31))
      else if (x2 &&& (31 : Int32)) = 4 then Option.bind (ab_rI st l0 (l3 + (1 : Int32))) fun x33 =>
        ab_ri (f_X10_done l1 x33 st) fun x35 s34 =>
        Option.bind (ab_rI s34 l0 (l3 + (1 : Int32))) fun x36 =>
        ab_ri (f_X11_done l2 x36 s34) fun x38 s37 =>
        if x35 = x38
        then L_L_law_915 l0 l1 l2 l3 s37
        else ab_z (0 : Int32) (some (some (.int (0 : Int32)), s37))
      else if (x2 &&& (31 : Int32)) = 5 then Option.bind (ab_rI st l0 (l3 + (1 : Int32))) fun x39 =>
        ab_rl (f_X10_find l1 x39 st) fun x41 s40 =>
        Option.bind (ab_rI s40 l0 (l3 + (1 : Int32))) fun x42 =>
        ab_rl (f_X11_find l2 x42 s40) fun x44 s43 =>
        if (lg_cmp x41 x44) = 0
        then L_L_law_915 l0 l1 l2 l3 s43
        else ab_z (0 : Int32) (some (some (.int (0 : Int32)), s43))
      else if (x2 &&& (31 : Int32)) = 6 then Option.bind (ab_rI st l0 (l3 + (1 : Int32))) fun x45 =>
        ab_ri (f_X10_state l1 x45 st) fun x47 s46 =>
        Option.bind (ab_rI s46 l0 (l3 + (1 : Int32))) fun x48 =>
        ab_ri (f_X11_state l2 x48 s46) fun x50 s49 =>
        if x47 = x50
        then L_L_law_915 l0 l1 l2 l3 s49
        else ab_z (0 : Int32) (some (some (.int (0 : Int32)), s49))
      else if (x2 &&& (31 : Int32)) = 7 then Option.bind (ab_rI st l0 (l3 + (1 : Int32))) fun x51 =>
        Option.bind (ab_rI st l0 (l3 + (2 : Int32))) fun x52 =>
        ab_ri (f_X10_count l1 x51 x52 st) fun x54 s53 =>
        Option.bind (ab_rI s53 l0 (l3 + (1 : Int32))) fun x55 =>
        Option.bind (ab_rI s53 l0 (l3 + (2 : Int32))) fun x56 =>
        ab_ri (f_X11_count l2 x55 x56 s53) fun x58 s57 =>
        if x54 = x58
        then L_L_law_915 l0 l1 l2 l3 s57
        else ab_z (0 : Int32) (some (some (.int (0 : Int32)), s57))
      else if (x2 &&& (31 : Int32)) = 8 then Option.bind (ab_rI st l0 (l3 + (1 : Int32))) fun x59 =>
        Option.bind (ab_rI st l0 (l3 + (2 : Int32))) fun x60 =>
        Option.bind (ab_rI st l0 (l3 + (3 : Int32))) fun x61 =>
        Option.bind (ab_rI st l0 (l3 + (4 : Int32))) fun x62 =>
        ab_rl (f_X10_arc l1 x59 x60 x61 x62 st) fun x64 s63 =>
        Option.bind (ab_rI s63 l0 (l3 + (1 : Int32))) fun x65 =>
        Option.bind (ab_rI s63 l0 (l3 + (2 : Int32))) fun x66 =>
        Option.bind (ab_rI s63 l0 (l3 + (3 : Int32))) fun x67 =>
        Option.bind (ab_rI s63 l0 (l3 + (4 : Int32))) fun x68 =>
        ab_rl (f_X11_arc l2 x65 x66 x67 x68 s63) fun x70 s69 =>
        if (lg_cmp x64 x70) = 0
        then L_L_law_915 l0 l1 l2 l3 s69
        else ab_z (0 : Int32) (some (some (.int (0 : Int32)), s69))
      else if (x2 &&& (31 : Int32)) = 9 then Option.bind (ab_rI st l0 (l3 + (1 : Int32))) fun x71 =>
        ab_ri (f_X10_number l1 x71 st) fun x73 s72 =>
        Option.bind (ab_rI s72 l0 (l3 + (1 : Int32))) fun x74 =>
        ab_ri (f_X11_number l2 x74 s72) fun x76 s75 =>
        if x73 = x76
        then L_L_law_915 l0 l1 l2 l3 s75
        else ab_z (0 : Int32) (some (some (.int (0 : Int32)), s75))
      else if (x2 &&& (31 : Int32)) = 10 then Option.bind (ab_rI st l0 (l3 + (1 : Int32))) fun x77 =>
        Option.bind (ab_rI st l0 (l3 + (2 : Int32))) fun x78 =>
        Option.bind (ab_rI st l0 (l3 + (3 : Int32))) fun x79 =>
        ab_ri (f_X10_term l1 x77 x78 x79 st) fun x81 s80 =>
        Option.bind (ab_rI s80 l0 (l3 + (1 : Int32))) fun x82 =>
        Option.bind (ab_rI s80 l0 (l3 + (2 : Int32))) fun x83 =>
        Option.bind (ab_rI s80 l0 (l3 + (3 : Int32))) fun x84 =>
        ab_ri (f_X11_term l2 x82 x83 x84 s80) fun x86 s85 =>
        if x81 = x86
        then L_L_law_915 l0 l1 l2 l3 s85
        else ab_z (0 : Int32) (some (some (.int (0 : Int32)), s85))
      else if (x2 &&& (31 : Int32)) = 11 then Option.bind (ab_rI st l0 (l3 + (1 : Int32))) fun x87 =>
        Option.bind (ab_rI st l0 (l3 + (2 : Int32))) fun x88 =>
        ab_rl (f_X10_out l1 x87 x88 st) fun x90 s89 =>
        Option.bind (ab_rI s89 l0 (l3 + (1 : Int32))) fun x91 =>
        Option.bind (ab_rI s89 l0 (l3 + (2 : Int32))) fun x92 =>
        ab_rl (f_X11_out l2 x91 x92 s89) fun x94 s93 =>
        if (lg_cmp x90 x94) = 0
        then L_L_law_915 l0 l1 l2 l3 s93
        else ab_z (0 : Int32) (some (some (.int (0 : Int32)), s93))
      else if (x2 &&& (31 : Int32)) = 12 then Option.bind (ab_rI st l0 (l3 + (1 : Int32))) fun x95 =>
        ab_ri (f_X10_ceiling l1 x95 st) fun x97 s96 =>
        Option.bind (ab_rI s96 l0 (l3 + (1 : Int32))) fun x98 =>
        ab_ri (f_X11_ceiling l2 x98 s96) fun x100 s99 =>
        if x97 = x100
        then L_L_law_915 l0 l1 l2 l3 s99
        else ab_z (0 : Int32) (some (some (.int (0 : Int32)), s99))
      else if (x2 &&& (31 : Int32)) = 13 then Option.bind (ab_rI st l0 (l3 + (1 : Int32))) fun x101 =>
        ab_ri (f_X10_prefix l1 x101 st) fun x103 s102 =>
        Option.bind (ab_rI s102 l0 (l3 + (1 : Int32))) fun x104 =>
        ab_ri (f_X11_prefix l2 x104 s102) fun x106 s105 =>
        if x103 = x106
        then L_L_law_915 l0 l1 l2 l3 s105
        else ab_z (0 : Int32) (some (some (.int (0 : Int32)), s105))
      else if (x2 &&& (31 : Int32)) = 14 then Option.bind (ab_rI st l0 (l3 + (1 : Int32))) fun x107 =>
        Option.bind (ab_rI st l0 (l3 + (2 : Int32))) fun x108 =>
        ab_ri (f_X10_cheapest l1 x107 x108 st) fun x110 s109 =>
        Option.bind (ab_rI s109 l0 (l3 + (1 : Int32))) fun x111 =>
        Option.bind (ab_rI s109 l0 (l3 + (2 : Int32))) fun x112 =>
        ab_ri (f_X11_cheapest l2 x111 x112 s109) fun x114 s113 =>
        if x110 = x114
        then L_L_law_915 l0 l1 l2 l3 s113
        else ab_z (0 : Int32) (some (some (.int (0 : Int32)), s113))
      else if (x2 &&& (31 : Int32)) = 15 then Option.bind (ab_rI st l0 (l3 + (1 : Int32))) fun x115 =>
        Option.bind (ab_rI st l0 (l3 + (2 : Int32))) fun x116 =>
        ab_ri (f_X10_meet l1 x115 x116 st) fun x118 s117 =>
        Option.bind (ab_rI s117 l0 (l3 + (1 : Int32))) fun x119 =>
        Option.bind (ab_rI s117 l0 (l3 + (2 : Int32))) fun x120 =>
        ab_ri (f_X11_meet l2 x119 x120 s117) fun x122 s121 =>
        if x118 = x122
        then L_L_law_915 l0 l1 l2 l3 s121
        else ab_z (0 : Int32) (some (some (.int (0 : Int32)), s121))
      else if (x2 &&& (31 : Int32)) = 16 then ab_ri (f_X10_fault l1 st) fun x124 s123 =>
        ab_ri (f_X11_fault l2 s123) fun x126 s125 =>
        if x124 = x126
        then L_L_law_915 l0 l1 l2 l3 s125
        else ab_z (0 : Int32) (some (some (.int (0 : Int32)), s125))
      else if (x2 &&& (31 : Int32)) = 17 then Option.bind (ab_rI st l0 (l3 + (1 : Int32))) fun x127 =>
        ab_ri (f_X10_row l1 x127 st) fun x129 s128 =>
        Option.bind (ab_rI s128 l0 (l3 + (1 : Int32))) fun x130 =>
        ab_ri (f_X11_row l2 x130 s128) fun x132 s131 =>
        if x129 = x132
        then L_L_law_915 l0 l1 l2 l3 s131
        else ab_z (0 : Int32) (some (some (.int (0 : Int32)), s131))
      else if (x2 &&& (31 : Int32)) = 18 then Option.bind (ab_rI st l0 (l3 + (1 : Int32))) fun x133 =>
        Option.bind (ab_rI st l0 (l3 + (2 : Int32))) fun x134 =>
        Option.bind (ab_rI st l0 (l3 + (3 : Int32))) fun x135 =>
        Option.bind (ab_rI st l0 (l3 + (4 : Int32))) fun x136 =>
        ab_ri (f_X10_join l1 x133 x134 x135 x136 st) fun x138 s137 =>
        Option.bind (ab_rI s137 l0 (l3 + (1 : Int32))) fun x139 =>
        Option.bind (ab_rI s137 l0 (l3 + (2 : Int32))) fun x140 =>
        Option.bind (ab_rI s137 l0 (l3 + (3 : Int32))) fun x141 =>
        Option.bind (ab_rI s137 l0 (l3 + (4 : Int32))) fun x142 =>
        ab_ri (f_X11_join l2 x139 x140 x141 x142 s137) fun x144 s143 =>
        if x138 = x144
        then L_L_law_915 l0 l1 l2 l3 s143
        else ab_z (0 : Int32) (some (some (.int (0 : Int32)), s143))
      else if (x2 &&& (31 : Int32)) = 19 then Option.bind (ab_rI st l0 (l3 + (1 : Int32))) fun x145 =>
        ab_ri (f_X10_packed l1 x145 st) fun x147 s146 =>
        Option.bind (ab_rI s146 l0 (l3 + (1 : Int32))) fun x148 =>
        ab_ri (f_X11_packed l2 x148 s146) fun x150 s149 =>
        if x147 = x150
        then L_L_law_915 l0 l1 l2 l3 s149
        else ab_z (0 : Int32) (some (some (.int (0 : Int32)), s149))
      else if (x2 &&& (31 : Int32)) = 20 then Option.bind (ab_rI st l0 (l3 + (1 : Int32))) fun x151 =>
        ab_ri (f_X10_sign l1 x151 st) fun x153 s152 =>
        Option.bind (ab_rI s152 l0 (l3 + (1 : Int32))) fun x154 =>
        ab_ri (f_X11_sign l2 x154 s152) fun x156 s155 =>
        if x153 = x156
        then L_L_law_915 l0 l1 l2 l3 s155
        else ab_z (0 : Int32) (some (some (.int (0 : Int32)), s155))
      else if (x2 &&& (31 : Int32)) = 21 then Option.bind (ab_rI st l0 (l3 + (1 : Int32))) fun x157 =>
        ab_ri (f_X10_load l1 x157 st) fun x159 s158 =>
        Option.bind (ab_rI s158 l0 (l3 + (1 : Int32))) fun x160 =>
        ab_ri (f_X11_load l2 x160 s158) fun x162 s161 =>
        if x159 = x162
        then L_L_law_915 l0 l1 l2 l3 s161
        else ab_z (0 : Int32) (some (some (.int (0 : Int32)), s161))
      else if (x2 &&& (31 : Int32)) = 22 then Option.bind (ab_rI st l0 (l3 + (1 : Int32))) fun x163 =>
        Option.bind (ab_rI st l0 (l3 + (2 : Int32))) fun x164 =>
        Option.bind (ab_rI st l0 (l3 + (3 : Int32))) fun x165 =>
        if x165 = 0
        then L_L_law_857 l0 l1 l2 l3 l1 x163 x164 (0 : Int32) st
        else L_L_law_857 l0 l1 l2 l3 l1 x163 x164 (1 : Int32) st
      else if (x2 &&& (31 : Int32)) = 23 then Option.bind (ab_rI st l0 (l3 + (1 : Int32))) fun x166 =>
        ab_ri (f_X10_next l1 x166 st) fun x168 s167 =>
        Option.bind (ab_rI s167 l0 (l3 + (1 : Int32))) fun x169 =>
        ab_ri (f_X11_next l2 x169 s167) fun x171 s170 =>
        if x168 = x171
        then L_L_law_915 l0 l1 l2 l3 s170
        else ab_z (0 : Int32) (some (some (.int (0 : Int32)), s170))
      else L_L_law_915 l0 l1 l2 l3 st := (lm_eq one_L_law 18 _ _ _).trans rfl
set_option maxRecDepth 100000 in
theorem e_L_law_857 (l0 : Nat) (l1 : Nat) (l2 : Nat) (l3 : Int32) (t0 : Nat) (t1 : Int32) (t2 : Int32) (t3 : Int32) (st : ab_S) : L_L_law_857 l0 l1 l2 l3 t0 t1 t2 t3 st =
    ab_ri (f_X10_walk t0 t1 t2 t3 st) fun x2 s1 =>
    Option.bind (ab_rI s1 l0 (l3 + (1 : Int32))) fun x3 =>
    Option.bind (ab_rI s1 l0 (l3 + (2 : Int32))) fun x4 =>
    Option.bind (ab_rI s1 l0 (l3 + (3 : Int32))) fun x5 =>
    if x5 = 0
    then L_L_law_884 l0 l1 l2 l3 x2 l2 x3 x4 (0 : Int32) s1
    else L_L_law_884 l0 l1 l2 l3 x2 l2 x3 x4 (1 : Int32) s1 := (lm_eq one_L_law 857 _ _ _).trans rfl
set_option maxRecDepth 100000 in
theorem e_L_law_884 (l0 : Nat) (l1 : Nat) (l2 : Nat) (l3 : Int32) (t0 : Int32) (t1 : Nat) (t2 : Int32) (t3 : Int32) (t4 : Int32) (st : ab_S) : L_L_law_884 l0 l1 l2 l3 t0 t1 t2 t3 t4 st =
    ab_ri (f_X11_walk t1 t2 t3 t4 st) fun x2 s1 =>
    if t0 = x2
    then L_L_law_915 l0 l1 l2 l3 s1
    else ab_z (0 : Int32) (some (some (.int (0 : Int32)), s1)) := (lm_eq one_L_law 884 _ _ _).trans rfl
set_option maxRecDepth 100000 in
theorem e_L_law_915 (l0 : Nat) (l1 : Nat) (l2 : Nat) (l3 : Int32) (st : ab_S) : L_L_law_915 l0 l1 l2 l3 st =
    L_L_law_18 l0 l1 l2 (l3 + (5 : Int32)) st := (lm_eq one_L_law 915 _ _ _).trans rfl
end
