/-! SOUNDNESS: what the abstract machine answers, the machine does. Here one instruction. -/
theorem tk_i_e {stk : List Value} {f : Int32 → List Value → Option ab_R} {r : ab_R} (h : tk_i stk f = some r) : ∃ x q, stk = .int x :: q ∧ f x q = some r := by
  unfold tk_i at h; split at h
  · exact ⟨_, _, rfl, h⟩
  · cases h
theorem tk_l_e {stk : List Value} {f : Int64 → List Value → Option ab_R} {r : ab_R} (h : tk_l stk f = some r) : ∃ x q, stk = .long x :: q ∧ f x q = some r := by
  unfold tk_l at h; split at h
  · exact ⟨_, _, rfl, h⟩
  · cases h
theorem tk_r_e {stk : List Value} {f : Nat → List Value → Option ab_R} {r : ab_R} (h : tk_r stk f = some r) : ∃ x q, stk = .ref x :: q ∧ f x q = some r := by
  unfold tk_r at h; split at h
  · exact ⟨_, _, rfl, h⟩
  · cases h
theorem tk_ii_e {stk : List Value} {f : Int32 → Int32 → List Value → Option ab_R} {r : ab_R} (h : tk_ii stk f = some r) : ∃ x y q, stk = .int y :: .int x :: q ∧ f x y q = some r := by
  unfold tk_ii at h; split at h
  · exact ⟨_, _, _, rfl, h⟩
  · cases h
theorem tk_ll_e {stk : List Value} {f : Int64 → Int64 → List Value → Option ab_R} {r : ab_R} (h : tk_ll stk f = some r) : ∃ x y q, stk = .long y :: .long x :: q ∧ f x y q = some r := by
  unfold tk_ll at h; split at h
  · exact ⟨_, _, _, rfl, h⟩
  · cases h
theorem tk_li_e {stk : List Value} {f : Int64 → Int32 → List Value → Option ab_R} {r : ab_R} (h : tk_li stk f = some r) : ∃ x y q, stk = .int y :: .long x :: q ∧ f x y q = some r := by
  unfold tk_li at h; split at h
  · exact ⟨_, _, _, rfl, h⟩
  · cases h
theorem tk_ri_e {stk : List Value} {f : Nat → Int32 → List Value → Option ab_R} {r : ab_R} (h : tk_ri stk f = some r) : ∃ x y q, stk = .int y :: .ref x :: q ∧ f x y q = some r := by
  unfold tk_ri at h; split at h
  · exact ⟨_, _, _, rfl, h⟩
  · cases h
theorem tk_rl_e {stk : List Value} {f : Nat → Int64 → List Value → Option ab_R} {r : ab_R} (h : tk_rl stk f = some r) : ∃ x y q, stk = .long y :: .ref x :: q ∧ f x y q = some r := by
  unfold tk_rl at h; split at h
  · exact ⟨_, _, _, rfl, h⟩
  · cases h
theorem tk_rr_e {stk : List Value} {f : Nat → Nat → List Value → Option ab_R} {r : ab_R} (h : tk_rr stk f = some r) : ∃ x y q, stk = .ref y :: .ref x :: q ∧ f x y q = some r := by
  unfold tk_rr at h; split at h
  · exact ⟨_, _, _, rfl, h⟩
  · cases h
theorem tk_rii_e {stk : List Value} {f : Nat → Int32 → Int32 → List Value → Option ab_R} {r : ab_R} (h : tk_rii stk f = some r) : ∃ x y z q, stk = .int z :: .int y :: .ref x :: q ∧ f x y z q = some r := by
  unfold tk_rii at h; split at h
  · exact ⟨_, _, _, _, rfl, h⟩
  · cases h
theorem tk_ril_e {stk : List Value} {f : Nat → Int32 → Int64 → List Value → Option ab_R} {r : ab_R} (h : tk_ril stk f = some r) : ∃ x y z q, stk = .long z :: .int y :: .ref x :: q ∧ f x y z q = some r := by
  unfold tk_ril at h; split at h
  · exact ⟨_, _, _, _, rfl, h⟩
  · cases h
theorem tk_rir_e {stk : List Value} {f : Nat → Int32 → Nat → List Value → Option ab_R} {r : ab_R} (h : tk_rir stk f = some r) : ∃ x y z q, stk = .ref z :: .int y :: .ref x :: q ∧ f x y z q = some r := by
  unfold tk_rir at h; split at h
  · exact ⟨_, _, _, _, rfl, h⟩
  · cases h
theorem ld_i_e {ls : ab_L} {i : Nat} {f : Int32 → Option ab_R} {r : ab_R} (h : ld_i ls i f = some r) : ∃ x, ab_look ls i = some (.int x) ∧ f x = some r := by
  unfold ld_i at h; split at h
  · next x hx => exact ⟨x, hx, h⟩
  · cases h
theorem ld_l_e {ls : ab_L} {i : Nat} {f : Int64 → Option ab_R} {r : ab_R} (h : ld_l ls i f = some r) : ∃ x, ab_look ls i = some (.long x) ∧ f x = some r := by
  unfold ld_l at h; split at h
  · next x hx => exact ⟨x, hx, h⟩
  · cases h
theorem ld_r_e {ls : ab_L} {i : Nat} {f : Nat → Option ab_R} {r : ab_R} (h : ld_r ls i f = some r) : ∃ x, ab_look ls i = some (.ref x) ∧ f x = some r := by
  unfold ld_r at h; split at h
  · next x hx => exact ⟨x, hx, h⟩
  · cases h
theorem ab_lt_e {i n : Nat} {q : Option ab_R} {r : ab_R} (h : ab_lt i n q = some r) : i < n ∧ q = some r := by
  unfold ab_lt at h; split at h
  · next hx => exact ⟨Nat.le_of_ble_eq_true hx, h⟩
  · cases h
/-- what an entry of the table says of its constant, its target, its length -/
def ab_chk (pc : Nat) (ins : Instr) (n : Nat) (x : Value) (t : Nat) : Bool := match ins with
  | .iconst i => n == 1 && x == .int (Int32.ofInt i)
  | .bipush i => n == 2 && x == .int (Int8.ofInt i).toInt32
  | .sipush i => n == 3 && x == .int (Int16.ofInt i).toInt32
  | .lconst i => n == 1 && x == .long (Int64.ofNat i.val)
  | .ldc _ => n == 2
  | .ldc2_w _ => n == 3
  | .iload i => n == 2 && t == i
  | .lload i => n == 2 && t == i
  | .aload i => n == 2 && t == i
  | .istore i => n == 2 && t == i
  | .lstore i => n == 2 && t == i
  | .astore i => n == 2 && t == i
  | .iload_n i => n == 1 && t == i.val
  | .lload_n i => n == 1 && t == i.val
  | .aload_n i => n == 1 && t == i.val
  | .istore_n i => n == 1 && t == i.val
  | .lstore_n i => n == 1 && t == i.val
  | .astore_n i => n == 1 && t == i.val
  | .iinc i d => n == 3 && (t == i && x == .int (Int32.ofInt d))
  | .goto d => n == 3 && decide ((pc : Int) + d = (t : Int))
  | .if_icmp _ d => n == 3 && decide ((pc : Int) + d = (t : Int))
  | .ifCond _ d => n == 3 && decide ((pc : Int) + d = (t : Int))
  | .ifnull d => n == 3 && decide ((pc : Int) + d = (t : Int))
  | .getfield _ => n == 3
  | .putfield _ => n == 3
  | .new _ => n == 3
  | .anewarray _ => n == 3
  | .newarray a => n == 2 && decide (a = .int ∨ a = .long ∨ a = .byte ∨ a = .boolean)
  | .multianewarray _ _ => n == 4
  | .invokestatic _ => n == 3
  | .invokevirtual _ => n == 3
  | .invokespecial _ => n == 3
  | .tableswitch _ _ _ _ => true
  | .lookupswitch _ _ => true
  | _ => n == 1
section GO
variable {p : Program} {l : Launch} {e : Env} {R : Room} {s : State} {m : MethodId} {args : Array Value} {below : List Frame} {meth : Method} {c : Code} {Q : State → Prop}
variable {D : va_G} {aK : Nat → ClassId} {b N0 L : Nat} {xs : Nat → Int32} {nL : Nat} {st0 : ab_S}
/-- from here the machine comes to a state with Q, whatever heap holds the abstract state -/
def Go (p : Program) (l : Launch) (e : Env) (R : Room) (s : State) (m : MethodId) (args : Array Value) (below : List Frame) (meth : Method) (c : Code) (Q : State → Prop) (D : va_G) (aK : Nat → ClassId) (b N0 L : Nat) (xs : Nat → Int32) (nL : Nat) (st0 : ab_S) (pc : Nat) (ls : ab_L) (stk : List Value) (st : ab_S) : Prop :=
  ∀ (H : Heap) (locs : List Loc) (lsA : Array Slot), rp D aK b N0 L xs st H → va_S (fun q => N0 ≤ q) s.heap H locs → lv_has lsA nL (ls.map (fun q => (q.1, cv b N0 q.2))) →
    W p l e R s m args below meth c H locs ((sH st).length - (sH st0).length) (nsl (sH st) - nsl (sH st0)) Q (F0 m pc lsA (stk.map (cv b N0)))
theorem lv_map {ls : ab_L} {lsA : Array Slot} {i : Nat} {v : Value} (hl : lv_has lsA nL (ls.map (fun q => (q.1, cv b N0 q.2)))) (h : ab_look ls i = some v) : lsA[i]? = some (.val (cv b N0 v)) :=
  hl.2.2 (i, cv b N0 v) (List.mem_map.mpr ⟨(i, v), ab_look_mem h, rfl⟩)
theorem st1_map {ls : ab_L} {i : Nat} {v : Value} : (i, cv b N0 v) :: (ls.map (fun q => (q.1, cv b N0 q.2))).filter (fun q => !(q.1 == i) && !(q.1 + 1 == i && q.2.category == 2)) = (ab_st1 ls i v).map (fun q => (q.1, cv b N0 q.2)) := by
  unfold ab_st1
  rw [List.map_cons, List.filter_map]
  congr 3
  funext q
  simp only [Function.comp, cv_cat]
theorem st2_map {ls : ab_L} {i : Nat} {v : Value} : (i, cv b N0 v) :: (ls.map (fun q => (q.1, cv b N0 q.2))).filter (fun q => !(q.1 == i) && (!(q.1 == i + 1) && !(q.1 + 1 == i && q.2.category == 2))) = (ab_st2 ls i v).map (fun q => (q.1, cv b N0 q.2)) := by
  unfold ab_st2
  rw [List.map_cons, List.filter_map]
  congr 3
  funext q
  simp only [Function.comp, cv_cat]
/-- loading and storing a reference, null or not -/
theorem ab_aload {cc : ByteArray} {pc n i : Nat} {ls : Array Slot} {rest : List Value} {H : Heap} {locs : List Loc} {cells slots : Nat} (hx : p.tables.exec = Jvm.exec) (hb : c.code = cc) {r : Option Nat} (hl : ls[i]? = some (.val (va_rf r)))
    (hd : (n = 2 ∧ decode cc pc = .ok (.aload i, n)) ∨ (n = 1 ∧ ∃ k : Fin 4, k.val = i ∧ decode cc pc = .ok (.aload_n k, n))) (k : W p l e R s m args below meth c H locs cells slots Q (F0 m (pc + n) ls (va_rf r :: rest))) : W p l e R s m args below meth c H locs cells slots Q (F0 m pc ls rest) := by
  rcases hd with ⟨rfl, hd⟩ | ⟨rfl, k4, h4, hd⟩
  · cases r with
    | none => exact lv_aloadN hx hb hd hl k
    | some a => exact lv_aload hx hb hd hl k
  · cases r with
    | none => exact lv_aload_nN hx hb hd h4 hl k
    | some a => exact lv_aload_n hx hb hd h4 hl k
theorem ab_astore {cc : ByteArray} {pc n i : Nat} {ls : Array Slot} {rest : List Value} {H : Heap} {locs : List Loc} {cells slots : Nat} (hx : p.tables.exec = Jvm.exec) (hb : c.code = cc) {r : Option Nat} {lv lv' : List (Nat × Value)} (h : lv_has ls nL lv) (hn : i < nL) (hl : (i, va_rf r) :: lv.filter (fun q => !(q.1 == i) && !(q.1 + 1 == i && q.2.category == 2)) = lv')
    (hd : (n = 2 ∧ decode cc pc = .ok (.astore i, n)) ∨ (n = 1 ∧ ∃ k : Fin 4, k.val = i ∧ decode cc pc = .ok (.astore_n k, n))) (k : ∀ ls' : Array Slot, lv_has ls' nL lv' → W p l e R s m args below meth c H locs cells slots Q (F0 m (pc + n) ls' rest)) : W p l e R s m args below meth c H locs cells slots Q (F0 m pc ls (va_rf r :: rest)) := by
  rcases hd with ⟨rfl, hd⟩ | ⟨rfl, k4, h4, hd⟩
  · cases r with
    | none => exact lv_astoreN hx hb hd h hn hl k
    | some a => exact lv_astore hx hb hd h hn hl k
  · cases r with
    | none => exact lv_astore_nN hx hb hd h4 h hn hl k
    | some a => exact lv_astore_n hx hb hd h4 h hn hl k
end GO

