/-! NEW ROWS: an array of arrays of int -/
def mz (o i : Nat) : Nat → Value := fun j => if j < i then .ref (o + 1 + j) else .null
theorem mz_0 (o : Nat) : mz o 0 = fun _ => .null := by funext j; simp [mz]
theorem mz_s (o i : Nat) : updV (mz o i) i (.ref (o + 1 + i)) = mz o (i + 1) := by
  funext j
  unfold updV mz
  by_cases h : j = i
  · subst h; rw [if_pos rfl, if_pos (by omega)]
  · rw [if_neg h]
    by_cases h2 : j < i
    · rw [if_pos h2, if_pos (by omega)]
    · rw [if_neg h2, if_neg (by omega)]
/-- the machine's state when i rows stand -/
def mq (T : State) (cA cI : ClassId) (N M : Nat) : Nat → State
  | 0 => T.pushCell (arrV cA N (mz T.heap.size 0))
  | i + 1 => ((mq T cA cI N M i).pushCell (arrV cI M (fun _ => .int 0))).setCell T.heap.size (arrV cA N (mz T.heap.size (i + 1)))
section MQ0
variable {T : State} {cA cI : ClassId} {N M : Nat}
theorem mq_f : ∀ i, (mq T cA cI N M i).heap.size = T.heap.size + 1 + i ∧ (mq T cA cI N M i).heap[T.heap.size]? = some (arrV cA N (mz T.heap.size i)) ∧ (mq T cA cI N M i).vm = T.vm ∧ (mq T cA cI N M i).slotsUsed = T.slotsUsed + N + i * M
  | 0 => ⟨by simp [mq], by simp [mq], rfl, by simp [mq, arrV_size]⟩
  | i + 1 => by
    obtain ⟨a, b, d, u⟩ := mq_f i
    have hlt : T.heap.size < (mq T cA cI N M i).heap.size := by omega
    have hb' : ((mq T cA cI N M i).pushCell (arrV cI M (fun _ => .int 0))).heap[T.heap.size]? = some (arrV cA N (mz T.heap.size i)) := by rw [State.heap_pushCell_of_lt (h := hlt)]; exact b
    refine ⟨?_, State.heap_setCell_self hb', by simp [mq, d], ?_⟩
    · simp [mq, State.setCell, a]; omega
    · simp [mq, u, arrV_size, Nat.succ_mul]; omega
theorem mq_top (f : JFrame) : ∀ i, mq (T.setTop f) cA cI N M i = (mq T cA cI N M i).setTop f
  | 0 => rfl
  | i + 1 => by simp only [mq, mq_top f i, State.heap_setTop, State.pushCell_setTop, State.setCell_setTop]
end MQ0
section MQ1
variable {p : Program} {l : Launch} {e : Env} {R : Room} {s : State} {m : MethodId} {args : Array Value} {below : List Frame} {meth : Method} {c : Code} {Q : State → Prop}
variable {D : va_G} {aK : Nat → ClassId} {b N0 L : Nat} {xs : Nat → Int32} {nL : Nat} {cc : ByteArray} {own : String} {pc : Nat} {lsA : Array Slot} {rest : List Value} {H : Heap} {locs : List Loc} {cells slots : Nat} {st : ab_S} {T : State}
theorem mq_stand (X : Stand p l e R s m args below meth c T locs cells slots) (cA cI : ClassId) (N M : Nat) : ∀ i, Stand p l e R s m args below meth c (mq T cA cI N M i) locs (cells + 1 + i) (slots + N + i * M)
  | 0 => by
    have h := X.pushed (arrV cA N (mz T.heap.size 0))
    rw [arrV_size] at h
    rw [Nat.zero_mul]
    exact h
  | i + 1 => by
    have Xi := mq_stand X cA cI N M i
    obtain ⟨f1, f2, f3, f4⟩ := mq_f (T := T) (cA := cA) (cI := cI) (N := N) (M := M) i
    have hlt : T.heap.size < (mq T cA cI N M i).heap.size := by omega
    have hcell : ((mq T cA cI N M i).pushCell (arrV cI M (fun _ => .int 0))).heap[T.heap.size]? = some (arrV cA N (mz T.heap.size i)) := by rw [State.heap_pushCell_of_lt (h := hlt)]; exact f2
    have h := (Xi.pushed (arrV cI M (fun _ => .int 0))).stored hcell i (.ref (T.heap.size + 1 + i))
    rw [arrV_store, mz_s, arrV_size] at h
    rw [show slots + N + (i + 1) * M = slots + N + i * M + M by rw [Nat.succ_mul]; omega]
    refine Stand.dropFresh h (fun x hx => ?_)
    rw [List.mem_singleton.mp hx]
    exact X.heapGrown
theorem mq_rp (hr : rp D aK b N0 L xs st T.heap) (N M : Nat) (hN : (sH st).length ≥ 2) : ∀ i, rp D aK b N0 L xs (ab_rows (ab_mk st (5, N)) (sH st).length M i) (mq T (aK 5) (aK 1) N M i).heap ∧ (sH (ab_rows (ab_mk st (5, N)) (sH st).length M i)).length = (sH st).length + 1 + i ∧ (sH (ab_rows (ab_mk st (5, N)) (sH st).length M i))[(sH st).length]? = some (5, N) ∧ (∀ j, ad b N0 (sR (ab_rows (ab_mk st (5, N)) (sH st).length M i) (sH st).length j) = if j < i then some (T.heap.size + 1 + j) else none)
  | 0 => by
    obtain ⟨m1, m2, m3⟩ := mk_own (st := st) (q := (5, N))
    refine ⟨rp_push hr (by simp [shOK]) (mq_f 0).1 (fun a ha => State.heap_pushCell_of_lt _ _ ha) ?_, len_mk, ?_, fun j => ?_⟩
    · show (mq T (aK 5) (aK 1) N M 0).heap[T.heap.size]? = some (vp_cell (aK 5) (N, .inr (.inr (.inr (.inr (fun j => ad b N0 (sR (ab_mk st (5, N)) (sH st).length j)))))))
      rw [m3, vp_cell_q, (mq_f 0).2.1, mz_0]
      rfl
    · show (sH st ++ [(5, N)])[(sH st).length]? = _
      simp
    · show ad b N0 (sR (ab_mk st (5, N)) (sH st).length j) = _
      rw [m3, if_neg (by omega)]
      rfl
  | i + 1 => by
    obtain ⟨hr1, hl1, hs1, ha1⟩ := mq_rp hr N M hN i
    generalize ht : ab_rows (ab_mk st (5, N)) (sH st).length M i = t at hr1 hl1 hs1 ha1
    have hrow : ab_rows (ab_mk st (5, N)) (sH st).length M (i + 1) = uR (ab_mk t (1, M)) (sH st).length i (sH t).length := by
      show (let t := ab_rows (ab_mk st (5, N)) (sH st).length M i; uR (ab_mk t (1, M)) (sH st).length i (sH t).length) = _
      rw [ht]
    rw [hrow]
    obtain ⟨f1, f2, f3, f4⟩ := mq_f (T := T) (cA := aK 5) (cI := aK 1) (N := N) (M := M) i
    obtain ⟨g1, g2, g3, g4⟩ := mq_f (T := T) (cA := aK 5) (cI := aK 1) (N := N) (M := M) (i + 1)
    obtain ⟨m1, m2, m3⟩ := mk_own (st := t) (q := (1, M))
    have hlt : T.heap.size < (mq T (aK 5) (aK 1) N M i).heap.size := by omega
    have hp : rp D aK b N0 L xs (ab_mk t (1, M)) ((mq T (aK 5) (aK 1) N M i).pushCell (arrV (aK 1) M (fun _ => .int 0))).heap := by
      refine rp_push hr1 (by simp [shOK]) (by simp) (fun a ha => State.heap_pushCell_of_lt _ _ ha) ?_
      show ((mq T (aK 5) (aK 1) N M i).pushCell (arrV (aK 1) M (fun _ => .int 0))).heap[(mq T (aK 5) (aK 1) N M i).heap.size]? = some (vp_cell (aK 1) (M, .inl (sI (ab_mk t (1, M)) (sH t).length)))
      rw [m1, vp_cell_i, State.heap_pushCell_size]
    have hs2 : (sH (ab_mk t (1, M)))[(sH st).length]? = some (5, N) := by
      show (sH t ++ [(1, M)])[(sH st).length]? = _
      rw [List.getElem?_append_left (by omega)]
      exact hs1
    obtain ⟨o, ho⟩ : ∃ o, (sH st).length = o + 2 := ⟨(sH st).length - 2, by omega⟩
    have hsz : T.heap.size = N0 + o := by have := hr.2.1; omega
    have hsR : ∀ j, sR (ab_mk t (1, M)) (sH st).length j = sR t (sH st).length j := fun j => by
      have : ¬ (sH st).length = t.2.2.2.length := by show ¬ _ = (sH t).length; omega
      simp [sR, ab_mk, this]
    have hnew : ad b N0 (sH t).length = some (T.heap.size + 1 + i) := by
      rw [hl1, ho, show o + 2 + 1 + i = (o + 1 + i) + 2 by omega]
      show some (N0 + (o + 1 + i)) = _
      rw [hsz]; congr 1; omega
    have had : ∀ j, ad b N0 (sR (uR (ab_mk t (1, M)) (sH st).length i (sH t).length) (sH st).length j) = if j < i + 1 then some (T.heap.size + 1 + j) else none := fun j => by
      by_cases hj : j = i
      · subst hj
        rw [show sR (uR (ab_mk t (1, M)) (sH st).length j (sH t).length) (sH st).length j = (sH t).length by simp [sR, uR], hnew, if_pos (by omega)]
      · rw [show sR (uR (ab_mk t (1, M)) (sH st).length i (sH t).length) (sH st).length j = sR (ab_mk t (1, M)) (sH st).length j by simp [sR, uR, hj], hsR, ha1]
        by_cases h2 : j < i
        · rw [if_pos h2, if_pos (by omega)]
        · rw [if_neg h2, if_neg (by omega)]
    refine ⟨?_, ?_, hs2, had⟩
    · rw [ho] at hs2 had ⊢
      refine rp_arr hp hs2 rfl uR_oth (by rw [g1]; simp [f1]; omega) (fun x hx => ?_) ?_
      · show (((mq T (aK 5) (aK 1) N M i).pushCell (arrV (aK 1) M (fun _ => .int 0))).setCell T.heap.size _).heap[x]? = _
        rw [State.heap_setCell_other (by rw [hsz]; exact fun q => hx q.symm)]
      · show (mq T (aK 5) (aK 1) N M (i + 1)).heap[N0 + o]? = some (vp_cell (aK 5) (N, .inr (.inr (.inr (.inr (fun j => ad b N0 (sR (uR (ab_mk t (1, M)) (o + 2) i (sH t).length) (o + 2) j)))))))
        rw [vp_cell_q, ← hsz, g2]
        congr 2
        funext j
        rw [had]
        unfold mz
        split <;> rfl
    · show (sH (ab_mk t (1, M))).length = _
      rw [len_mk, hl1]; omega
theorem mq_old (cA cI : ClassId) (N M : Nat) {a : Nat} (ha : a < T.heap.size) : ∀ i, (mq T cA cI N M i).heap[a]? = T.heap[a]?
  | 0 => State.heap_pushCell_of_lt _ _ ha
  | i + 1 => by
    have f1 := (mq_f (T := T) (cA := cA) (cI := cI) (N := N) (M := M) i).1
    show (((mq T cA cI N M i).pushCell (arrV cI M (fun _ => .int 0))).setCell T.heap.size _).heap[a]? = _
    have hlt : a < (mq T cA cI N M i).heap.size := by rw [f1]; omega
    rw [State.heap_setCell_other (Nat.ne_of_gt ha), State.heap_pushCell_of_lt (h := hlt)]
    exact mq_old cA cI N M ha i
theorem mq_S (hS : va_S (fun q => N0 ≤ q) s.heap T.heap locs) (cA cI : ClassId) (N M i : Nat) : va_S (fun q => N0 ≤ q) s.heap (mq T cA cI N M i).heap locs := by
  have f1 := (mq_f (T := T) (cA := cA) (cI := cI) (N := N) (M := M) i).1
  exact ⟨by rw [f1]; have := hS.1; omega, fun q h1 h2 => (mq_old cA cI N M (Nat.lt_of_lt_of_le h1 hS.1) i).trans (hS.2.1 q h1 h2), hS.2.2⟩
end MQ1
section MQ2
variable {E : CtlPost} {e : Env} {d : Bool} {acts : List Action} {s : State}
theorem mq_new {cA comp : ClassId} {k : Class} {ty : FieldType} {n : Nat} {v : Value} (hk : s.vm.classes[cA]? = some k) (hkind : k.kind = .array comp ty) (h1 : ¬ n > e.platform.arrayLengthLimit) (h2 : ¬ n * componentBytes ty > e.platform.maxHeapBytes) (hf : fits ty v = true) (hv : v.isDefault = true) (h3 : s.heap.size < e.platform.maxCells) (h4 : s.slotsUsed + n ≤ e.platform.maxSlots)
    {Q : Addr → Pre} (hq : Q s.heap.size d acts (s.pushCell (arrV cA n (fun _ => v)))) : wp (Jvm.newArray cA n v) Q E e d acts s := by
  have hall : ((Array.replicate n v).all (·.isDefault)) = true := by
    rw [Array.all_replicate]
    split
    · rfl
    · exact hv
  have ha : allocActs (Array.replicate n v) s.heap.size acts = acts := by
    unfold allocActs
    rw [if_pos hall]
  have hs : ∀ i w, (Array.replicate n v)[i]? = some w → s.fitsSlot cA .none i w = true := by
    intro i w hw
    rw [Array.getElem?_replicate] at hw
    split at hw
    · cases hw
      simp [State.fitsSlot, State.slotType?, hk, hkind, hf]
    · cases hw
  rw [← arrV_new] at hq
  simp only [Jvm.newArray, Jvm.arrayFits, wp_bind', Jvm.W.ask, Jvm.W.ite, h1, if_false, wp_pure', Jvm.W.theClass, hk, hkind, h2, Jvm.W.alloc, Jvm.W.stop, Option.some.injEq, exists_eq_left', Array.size_replicate, ha]
  rw [if_neg (by omega)]
  exact ⟨h3, h4, hs, hq⟩
theorem mq_row {cI cc : ClassId} {kC : Class} {k : Int32} (hk : s.vm.classes[cI]? = some kC) (hkind : kC.kind = .array cc .int) (h0 : ¬ k < 0) (h1 : ¬ k.toNatClampNeg > e.platform.arrayLengthLimit) (h2 : ¬ k.toNatClampNeg * componentBytes .int > e.platform.maxHeapBytes) (h3 : s.heap.size < e.platform.maxCells) (h4 : s.slotsUsed + k.toNatClampNeg ≤ e.platform.maxSlots)
    {Q : Addr → Pre} (hq : Q s.heap.size d acts (s.pushCell (arrV cI k.toNatClampNeg (fun _ => .int 0)))) : wp (multianewarray.make cI [k]) Q E e d acts s := by
  rw [multianewarray.make]
  simp only [wp_bind', Jvm.W.ite, h0, if_false, wp_pure', Jvm.W.theClass, hk, hkind, Option.some.injEq, exists_eq_left']
  exact mq_new hk hkind h1 h2 rfl rfl h3 h4 hq
theorem mq_make {cA cI cc : ClassId} {kA kC : Class} {n k : Int32} (hkA : s.vm.classes[cA]? = some kA) (hkindA : kA.kind = .array cI (.array .int)) (hkC : s.vm.classes[cI]? = some kC) (hkindC : kC.kind = .array cc .int) (hn : ¬ n < 0) (hk : ¬ k < 0)
    (h1 : ¬ n.toNatClampNeg > e.platform.arrayLengthLimit) (h2 : ¬ n.toNatClampNeg * componentBytes (.array .int) > e.platform.maxHeapBytes) (h3 : ¬ k.toNatClampNeg > e.platform.arrayLengthLimit) (h4 : ¬ k.toNatClampNeg * componentBytes .int > e.platform.maxHeapBytes)
    (h5 : s.heap.size + 1 + n.toNatClampNeg ≤ e.platform.maxCells) (h6 : s.slotsUsed + n.toNatClampNeg + n.toNatClampNeg * k.toNatClampNeg ≤ e.platform.maxSlots)
    {Q : Addr → Pre} (hq : ∀ d' acts', Q s.heap.size d' acts' (mq s cA cI n.toNatClampNeg k.toNatClampNeg n.toNatClampNeg)) : wp (multianewarray.make cA [n, k]) Q E e d acts s := by
  have hfi : ([k].find? (· < 0)) = none := by simp [hk]
  rw [multianewarray.make]
  simp only [wp_bind', Jvm.W.ite, hn, if_false, wp_pure', Jvm.W.theClass, hkA, hkindA, Option.some.injEq, exists_eq_left']
  refine mq_new hkA hkindA h1 h2 rfl rfl (by omega) (by omega) ?_
  simp only [hfi]
  rw [ite_self, wp_bind', Std.Legacy.Range.forIn_eq_forIn_range', show ([:n.toNatClampNeg] : Std.Legacy.Range).size = n.toNatClampNeg by simp [Std.Legacy.Range.size]]
  refine wp_forIn_inv (fun r s' => ∃ i, i ≤ n.toNatClampNeg ∧ r = List.range' i (n.toNatClampNeg - i) ∧ s' = mq s cA cI n.toNatClampNeg k.toNatClampNeg i) _ _ ⟨0, Nat.zero_le _, rfl, ?_⟩ ?_ ?_
  · show s.pushCell (arrV cA n.toNatClampNeg (fun _ => .null)) = s.pushCell (arrV cA n.toNatClampNeg (mz s.heap.size 0))
    rw [mz_0]
  · rintro x r s' d' acts' Q' ⟨i, hi, hl, rfl⟩ hnext
    have hlt : i < n.toNatClampNeg := by
      rcases Nat.lt_or_ge i n.toNatClampNeg with h | h
      · exact h
      · rw [Nat.sub_eq_zero_of_le h] at hl; cases hl
    rw [show n.toNatClampNeg - i = (n.toNatClampNeg - (i + 1)) + 1 by omega, List.range'_succ] at hl
    obtain ⟨rfl, hrest⟩ := List.cons.inj hl
    obtain ⟨f1, f2, f3, f4⟩ := mq_f (T := s) (cA := cA) (cI := cI) (N := n.toNatClampNeg) (M := k.toNatClampNeg) x
    have hmul : x * k.toNatClampNeg + k.toNatClampNeg ≤ n.toNatClampNeg * k.toNatClampNeg := by
      have := Nat.mul_le_mul_right k.toNatClampNeg hlt
      rw [Nat.succ_mul] at this
      exact this
    have hlt0 : s.heap.size < (mq s cA cI n.toNatClampNeg k.toNatClampNeg x).heap.size := by rw [f1]; omega
    simp only [wp_bind']
    refine mq_row (by rw [f3]; exact hkC) hkindC hk h3 h4 (by rw [f1]; omega) (by rw [f4]; omega) ?_
    simp only [wp_bind', Jvm.W.writeLoc, wp_pure']
    refine ⟨arrV cA n.toNatClampNeg (mz s.heap.size x), by rw [State.heap_pushCell_of_lt (h := hlt0)]; exact f2, (fun q => by cases q), by rw [arrV_size]; exact hlt, ?_, hnext _ _ _ ⟨x + 1, hlt, hrest, ?_⟩⟩
    · have hv : ((mq s cA cI n.toNatClampNeg k.toNatClampNeg x).pushCell (arrV cI k.toNatClampNeg (fun _ => .int 0))).vm.classes[cA]? = some kA := by
        show (mq s cA cI n.toNatClampNeg k.toNatClampNeg x).vm.classes[cA]? = some kA
        rw [f3]; exact hkA
      show State.fitsSlot _ cA .none x _ = true
      simp [State.fitsSlot, State.slotType?, -State.vm_pushCell, hv, hkindA, fits]
    · rw [f1, arrV_store, mz_s]
      rfl
  · rintro s' d' acts' ⟨i, hi, hl, rfl⟩
    have hiN : i = n.toNatClampNeg := by
      rcases Nat.lt_or_ge i n.toNatClampNeg with h | h
      · rw [show n.toNatClampNeg - i = (n.toNatClampNeg - (i + 1)) + 1 by omega, List.range'_succ] at hl; cases hl
      · omega
    subst hiN
    simp only [wp_pure']
    exact hq _ _
end MQ2
theorem rows_len (st : ab_S) (a k : Nat) : ∀ n, (sH (ab_rows st a k n)).length = (sH st).length + n
  | 0 => rfl
  | n + 1 => by
    show (sH (ab_mk (ab_rows st a k n) (1, k))).length = _
    rw [len_mk, rows_len st a k n]; omega
theorem rows_nsl (st : ab_S) (a k : Nat) : ∀ n, nsl (sH (ab_rows st a k n)) = nsl (sH st) + n * k
  | 0 => by rw [Nat.zero_mul]; rfl
  | n + 1 => by
    show nsl (sH (ab_mk (ab_rows st a k n) (1, k))) = _
    rw [nsl_mk, rows_nsl st a k n, Nat.succ_mul]
    show _ + k = _
    omega
theorem rows_ex (st : ab_S) (a k : Nat) : ∀ n, ext st (ab_rows st a k n)
  | 0 => ext_rfl
  | n + 1 => ext_trans (rows_ex st a k n) (ext_mk (h := (1, k)))
section MQ3
variable {p : Program} {l : Launch} {e : Env} {R : Room} {s : State} {m : MethodId} {args : Array Value} {below : List Frame} {meth : Method} {c : Code} {Q : State → Prop}
variable {D : va_G} {aK : Nat → ClassId} {b N0 L : Nat} {xs : Nat → Int32} {nL : Nat} {cc : ByteArray} {own : String} {pc : Nat} {lsA : Array Slot} {rest : List Value} {H : Heap} {locs : List Loc} {cells slots : Nat} {st : ab_S} {T : State}
theorem ab_multi (X : Cx p s m args c cc own nL D aK b N0 L xs) {i : Nat} {n k : Int32} (hw : Cond.classLink own i "[[I" ∈ ab_ws) (hr : rp D aK b N0 L xs st H) (hS : va_S (fun q => N0 ≤ q) s.heap H locs) (hn : ¬ n < 0) (hk : ¬ k < 0) (hn1 : n.toNatClampNeg ≤ 1000) (hk1 : k.toNatClampNeg ≤ 1000) (hc1 : cells + (1 + n.toNatClampNeg) ≤ R.cells) (hc2 : slots + (n.toNatClampNeg + n.toNatClampNeg * k.toNatClampNeg) ≤ R.slots) (hdg : decode cc pc = .ok (.multianewarray i 2, 4))
    (kk : ∀ (H1 : Heap), rp D aK b N0 L xs (ab_rows (ab_mk st (5, n.toNatClampNeg)) (sH st).length k.toNatClampNeg n.toNatClampNeg) H1 → va_S (fun q => N0 ≤ q) s.heap H1 locs → W p l e R s m args below meth c H1 locs (cells + 1 + n.toNatClampNeg) (slots + n.toNatClampNeg + n.toNatClampNeg * k.toNatClampNeg) Q (F0 m (pc + 4) lsA (cv b N0 (.ref (sH st).length) :: rest))) : W p l e R s m args below meth c H locs cells slots Q (F0 m pc lsA (.int k :: .int n :: rest)) := by
  obtain ⟨hx, hb, -, hown, hts, hrk⟩ := X
  rw [cv_new hr] at kk
  have hl2 : (sH st).length ≥ 2 := by
    have := (List.getElem?_eq_some_iff.mp hr.2.2.2.1).1
    omega
  intro T hT XT
  subst hT; subst hb
  have hpl : e.platform.magicAccessors = ({} : Platform).magicAccessors := by rw [XT.admits.platform]
  obtain ⟨c0, hfc0, hcl⟩ := Cond.classLink_spec hown (hts _ hw) e.platform hpl
  have h5 : s.vm.findClass "[[I" = some (aK 5) := (hrk.1.2 4 _ rfl).2
  cases h5.symm.trans hfc0
  obtain ⟨kA, hkA, hkindA⟩ := hrk.2.2.2.2.1.2
  obtain ⟨-, kC, hkC, comp, hkindC⟩ := (hrk.1.2 0 _ rfl).1 0 (fun _ => .null)
  have hkC : s.vm.classes[aK 1]? = some kC := hkC
  obtain ⟨hg₁, hwarm₁, hready₁⟩ := State.classEntry (e := e) XT.warmed hcl
  generalize T.vm.noted m.cls i (.cls (aK 5)) = vm₁ at hg₁ hwarm₁ hready₁
  have hal : s.vm.Alike vm₁ := hwarm₁.alike
  obtain ⟨kA₁, hkA₁, heA⟩ := hal.2.2 _ _ hkA
  obtain ⟨kC₁, hkC₁, heC⟩ := hal.2.2 _ _ hkC
  have hkindA₁ : kA₁.kind = .array (aK 1) (.array .int) := by rw [heA]; exact hkindA
  have hkindC₁ : kC₁.kind = .array comp .int := by rw [heC]; exact hkindC
  have X₁ := XT.noted hwarm₁
  obtain ⟨hr1, hr2⟩ := XT.roomAbove hc1 hc2
  have XF := mq_stand X₁ (aK 5) (aK 1) n.toNatClampNeg k.toNatClampNeg n.toNatClampNeg
  obtain ⟨t, a1, b1⟩ := kk _ (mq_rp (T := T.setVm vm₁) hr n.toNatClampNeg k.toNatClampNeg hl2 n.toNatClampNeg).1 (mq_S (T := T.setVm vm₁) hS (aK 5) (aK 1) n.toNatClampNeg k.toNatClampNeg n.toNatClampNeg) _ rfl XF
  refine ⟨t, ?_, b1⟩
  have hl1 : ¬ n.toNatClampNeg > e.platform.arrayLengthLimit := by rw [Launch.admits_arrayLengthLimit XT.admits]; omega
  have hh1 : ¬ n.toNatClampNeg * componentBytes (.array .int) > e.platform.maxHeapBytes := by
    rw [Launch.admits_maxHeapBytes XT.admits]; show ¬ n.toNatClampNeg * 4 > 536870912; omega
  have hl2 : ¬ k.toNatClampNeg > e.platform.arrayLengthLimit := by rw [Launch.admits_arrayLengthLimit XT.admits]; omega
  have hh2 : ¬ k.toNatClampNeg * componentBytes .int > e.platform.maxHeapBytes := by
    rw [Launch.admits_maxHeapBytes XT.admits]; show ¬ k.toNatClampNeg * 4 > 536870912; omega
  jvm_step XT.here [hx, hdg]
  simp only [multianewarray.sem, wp_bind', Jvm.W.resolveClassAt_links (State.method?_setTop (F0 m pc lsA (.int k :: .int n :: rest)) XT.here.top) hg₁]
  rw [Jvm.W.popN, if_neg (by decide)]
  refine ⟨F0 m pc lsA (.int k :: .int n :: rest), State.topJava?_setTop' (s := T.setVm vm₁) _ XT.here.top, [.int n, .int k], rest, rfl, rfl, ?_⟩
  simp only [List.mapM_cons, List.mapM_nil, wp_bind', wp_pure']
  refine mq_make (kA := kA₁) (kC := kC₁) (cI := aK 1) hkA₁ hkindA₁ hkC₁ hkindC₁ hn hk hl1 hh1 hl2 hh2 (by show T.heap.size + 1 + _ ≤ _; omega) (by show T.slotsUsed + _ + _ ≤ _; omega) (fun d' acts' => ?_)
  have eS : ((T.setTop (F0 m pc lsA (.int k :: .int n :: rest))).setVm vm₁).setTop (F0 m pc lsA rest) = (T.setVm vm₁).setTop (F0 m pc lsA rest) := by
    show ((T.setVm vm₁).setTop _).setTop _ = _
    rw [State.setTop_setTop]
  rw [eS, mq_top]
  simp only [wp_bind', Jvm.W.mark, Jvm.W.pushRef, State.topJava?_setTop' _ XF.here.top, Option.some.injEq, exists_eq_left', State.setTop_setTop, State.heap_setTop]
  intro acts
  simp [jvm, XF.here.top]
  exact a1
end MQ3
