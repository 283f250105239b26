/-! THE ABSTRACT MACHINE. A state: ints, longs, references by object number and place; the shapes by object number.
Number 0 is null, 1 is the script, from 2 on the cells that the law has made, in their order.
A shape (0, c): an object of class number c; (1, n) int[n]; (2, n) long[n]; (3, n) byte[n]; (4, n) boolean[n]; (5, n) int[n][]; (7, n) the script; (8 + c, n) an array of n objects of class c. -/
abbrev ab_S : Type := (Nat → Nat → Int32) × (Nat → Nat → Int64) × (Nat → Nat → Nat) × List (Nat × Nat)
abbrev ab_R : Type := Option Value × ab_S
abbrev ab_L : Type := List (Nat × Value)
abbrev ab_K : Type := Nat → ab_L → List Value → ab_S → Option ab_R
abbrev ab_F : Type := Nat → List Value → List Value → ab_S → Option ab_R
/-- a callee: 0 static, 1 virtual, 2 special, 3 Object.<init>; how many values it takes from the stack; what it does, and what comes behind it -/
abbrev ab_G : Type := List Value → ab_S → (List Value → ab_S → Option ab_R) → Option ab_R
abbrev ab_C : Type := Nat × Nat × ab_G
def sI (st : ab_S) (o k : Nat) : Int32 := st.1 o k
def sJ (st : ab_S) (o k : Nat) : Int64 := st.2.1 o k
def sR (st : ab_S) (o k : Nat) : Nat := st.2.2.1 o k
def sH (st : ab_S) : List (Nat × Nat) := st.2.2.2
def uI (st : ab_S) (o k : Nat) (v : Int32) : ab_S := (fun a b => if a = o ∧ b = k then v else st.1 a b, st.2)
def uJ (st : ab_S) (o k : Nat) (v : Int64) : ab_S := (st.1, fun a b => if a = o ∧ b = k then v else st.2.1 a b, st.2.2)
def uR (st : ab_S) (o k : Nat) (v : Nat) : ab_S := (st.1, st.2.1, fun a b => if a = o ∧ b = k then v else st.2.2.1 a b, st.2.2.2)
/-- a new cell -/
def ab_mk (st : ab_S) (h : Nat × Nat) : ab_S := (fun a b => if a = st.2.2.2.length then 0 else st.1 a b, fun a b => if a = st.2.2.2.length then 0 else st.2.1 a b, fun a b => if a = st.2.2.2.length then 0 else st.2.2.1 a b, st.2.2.2 ++ [h])

def ab_look {α : Type} : List (Nat × α) → Nat → Option α
  | [], _ => none
  | q :: r, i => match Nat.beq q.1 i with
    | true => some q.2
    | false => ab_look r i
def ab_pick (ls : ab_L) : List Nat → Option (List Value)
  | [] => some []
  | i :: r => match ab_look ls i with
    | some v => match ab_pick ls r with
      | some vs => some (v :: vs)
      | none => none
    | none => none
def ab_st1 (ls : ab_L) (i : Nat) (v : Value) : ab_L := (i, v) :: ls.filter (fun q => !(q.1 == i) && !(q.1 + 1 == i && q.2.category == 2))
def ab_st2 (ls : ab_L) (i : Nat) (v : Value) : ab_L := (i, v) :: ls.filter (fun q => !(q.1 == i) && (!(q.1 == i + 1) && !(q.1 + 1 == i && q.2.category == 2)))
-- what can fail: fields, arrays
def ab_gI (st : ab_S) (o c k : Nat) : Option Int32 := if (sH st)[o]? = some (0, c) then some (sI st o k) else none
def ab_gJ (st : ab_S) (o c k : Nat) : Option Int64 := if (sH st)[o]? = some (0, c) then some (sJ st o k) else none
def ab_gR (st : ab_S) (o c k : Nat) : Option Nat := if (sH st)[o]? = some (0, c) then some (sR st o k) else none
def ab_pI (st : ab_S) (o c k : Nat) (v : Int32) : Option ab_S := if (sH st)[o]? = some (0, c) then some (uI st o k v) else none
def ab_pZ (st : ab_S) (o c k : Nat) (v : Int32) : Option ab_S := if (sH st)[o]? = some (0, c) ∧ (v = 0 ∨ v = 1) then some (uI st o k v) else none
def ab_pJ (st : ab_S) (o c k : Nat) (v : Int64) : Option ab_S := if (sH st)[o]? = some (0, c) then some (uJ st o k v) else none
def ab_pR (st : ab_S) (o c k : Nat) (v : Nat) : Option ab_S := if (sH st)[o]? = some (0, c) then some (uR st o k v) else none
def ab_in (i : Int32) (n : Nat) : Prop := ¬ (i < 0 ∨ n ≤ i.toNatClampNeg)
def ab_n (st : ab_S) (a : Nat) : Option Nat := match (sH st)[a]? with
  | some (k, n) => if k = 0 ∨ k = 6 then none else some n
  | none => none
def ab_rd (st : ab_S) (a : Nat) (i : Int32) (p : Nat → Bool) : Option Nat := match (sH st)[a]? with
  | some (k, n) => if p k = true ∧ ¬ (i < 0 ∨ n ≤ i.toNatClampNeg) then some k else none
  | none => none
def ab_rI (st : ab_S) (a : Nat) (i : Int32) : Option Int32 := (ab_rd st a i (fun k => k == 1 || k == 7)).map (fun _ => sI st a i.toNatClampNeg)
def ab_rB (st : ab_S) (a : Nat) (i : Int32) : Option Int32 := (ab_rd st a i (fun k => k == 3 || k == 4)).map (fun _ => sI st a i.toNatClampNeg)
def ab_rJ (st : ab_S) (a : Nat) (i : Int32) : Option Int64 := (ab_rd st a i (fun k => k == 2)).map (fun _ => sJ st a i.toNatClampNeg)
def ab_rR (st : ab_S) (a : Nat) (i : Int32) : Option Nat := (ab_rd st a i (fun k => k == 5 || Nat.ble 8 k)).map (fun _ => sR st a i.toNatClampNeg)
def ab_wI (st : ab_S) (a : Nat) (i : Int32) (v : Int32) : Option ab_S := (ab_rd st a i (fun k => k == 1)).map (fun _ => uI st a i.toNatClampNeg v)
def ab_wB (st : ab_S) (a : Nat) (i : Int32) (v : Int32) : Option ab_S := (ab_rd st a i (fun k => k == 3 || k == 4)).map (fun k => uI st a i.toNatClampNeg (if k = 3 then v.toInt8.toInt32 else v &&& 1))
def ab_wJ (st : ab_S) (a : Nat) (i : Int32) (v : Int64) : Option ab_S := (ab_rd st a i (fun k => k == 2)).map (fun _ => uJ st a i.toNatClampNeg v)
def ab_wR (st : ab_S) (a : Nat) (i : Int32) (v : Nat) : Option ab_S := (ab_rd st a i (fun k => Nat.ble 8 k)).bind (fun k => if (sH st)[v]? = some (0, k - 8) then some (uR st a i.toNatClampNeg v) else none)
def ab_z (v : Int32) (r : Option ab_R) : Option ab_R := if v = 0 ∨ v = 1 then r else none
/-- the receiver is an object of its class -/
def ab_rc (st : ab_S) (o c : Nat) (r : Option ab_R) : Option ab_R := if (sH st)[o]? = some (0, c) then r else none
-- what a callee answered
def ab_rv (r : Option ab_R) (k : ab_S → Option ab_R) : Option ab_R := r.bind (fun q => match q.1 with
  | none => k q.2
  | _ => none)
def ab_ri (r : Option ab_R) (k : Int32 → ab_S → Option ab_R) : Option ab_R := r.bind (fun q => match q.1 with
  | some (.int x) => k x q.2
  | _ => none)
def ab_rl (r : Option ab_R) (k : Int64 → ab_S → Option ab_R) : Option ab_R := r.bind (fun q => match q.1 with
  | some (.long x) => k x q.2
  | _ => none)
def ab_rr (r : Option ab_R) (k : Nat → ab_S → Option ab_R) : Option ab_R := r.bind (fun q => match q.1 with
  | some (.ref x) => k x q.2
  | _ => none)
/-- Object.<init> -/
def g_obj : ab_G := fun as st k => match as with
  | [.ref o] => if o = 0 then none else k [] st
  | _ => none
/-- Math.max, min, abs -/
def g_max : ab_G := fun as st k => match as with
  | [.int a, .int b] => k [.int (if a < b then b else a)] st
  | _ => none
def g_min : ab_G := fun as st k => match as with
  | [.int a, .int b] => k [.int (if b < a then b else a)] st
  | _ => none
def g_abs : ab_G := fun as st k => match as with
  | [.int a] => k [.int (if 0 ≤ a then a else 0 - a)] st
  | _ => none
def g_minl : ab_G := fun as st k => match as with
  | [.long a, .long b] => k [.long (if b < a then b else a)] st
  | _ => none
