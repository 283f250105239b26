/-! NEW ROWS: an array of arrays of int. One relation, Hm, says that a state of the machine holds an abstract state; a new array is a push under it, a store a change of one reference under it, a row of the array both; the rows by induction. The state at the end is not written down: there is one that holds what the abstract machine says. -/
theorem rows_len (st : ab_S) (a k : Nat) : ∀ n, (sH (ab_rows st a k n)).length = (sH st).length + n
  | 0 => rfl
  | n + 1 => by
    show (sH (ab_mk (ab_rows st a k n) (1, k))).length = _
    rw [len_mk, rows_len st a k n]; omega
theorem rows_nsl (st : ab_S) (a k : Nat) : ∀ n, nsl (sH (ab_rows st a k n)) = nsl (sH st) + n * k
  | 0 => by rw [Nat.zero_mul]; rfl
  | n + 1 => by
    show nsl (sH (ab_mk (ab_rows st a k n) (1, k))) = _
    rw [nsl_mk, rows_nsl st a k n, Nat.succ_mul]
    show _ + k = _
    omega
theorem rows_ex (st : ab_S) (a k : Nat) : ∀ n, ext st (ab_rows st a k n)
  | 0 => ext_rfl
  | n + 1 => ext_trans (rows_ex st a k n) (ext_mk (h := (1, k)))
theorem ext_at {a c : ab_S} (h : ext a c) {o : Nat} {q : Nat × Nat} (hq : (sH a)[o]? = some q) : (sH c)[o]? = some q := by
  obtain ⟨t, ht⟩ := h
  obtain ⟨hlt, -⟩ := List.getElem?_eq_some_iff.mp hq
  rw [ht, List.getElem?_append_left hlt, hq]
section HM
variable {p : Program} {l : Launch} {e : Env} {R : Room} {s : State} {m : MethodId} {args : Array Value} {below : List Frame} {meth : Method} {c : Code} {Q : State → Prop}
variable {D : va_G} {aK : Nat → ClassId} {b N0 L : Nat} {xs : Nat → Int32} {nL : Nat} {cc : ByteArray} {own : String} {pc : Nat} {lsA : Array Slot} {rest : List Value} {H : Heap} {locs : List Loc} {cells slots : Nat} {st t : ab_S} {tb : Vm} {U : State}
/-- U, under the tables tb, holds t -/
def Hm (p : Program) (l : Launch) (e : Env) (R : Room) (s : State) (m : MethodId) (args : Array Value) (below : List Frame) (meth : Method) (c : Code) (D : va_G) (aK : Nat → ClassId) (b N0 L : Nat) (xs : Nat → Int32) (tb : Vm) (t : ab_S) (cells slots : Nat) (U : State) : Prop :=
  U.vm = tb ∧ rp D aK b N0 L xs t U.heap ∧ ∃ locs, va_S (fun q => N0 ≤ q) s.heap U.heap locs ∧ Stand p l e R s m args below meth c U locs cells slots
theorem Hm_push (h : Hm p l e R s m args below meth c D aK b N0 L xs tb t cells slots U) {q : Nat × Nat} {w : Cell} (hok : shOK q) (hat : ∀ H1 : Heap, H1[U.heap.size]? = some w → va_at D ab_cl (U.heap.size, en b N0 aK (ab_mk t q) (sH t).length q) H1) : Hm p l e R s m args below meth c D aK b N0 L xs tb (ab_mk t q) (cells + 1) (slots + w.slots.size) (U.pushCell w) := by
  obtain ⟨hv, hr, locs, hS, hX⟩ := h
  have z : (U.pushCell w).heap.size = U.heap.size + 1 := Array.size_push _
  have old : ∀ x : Nat, x < U.heap.size → (U.pushCell w).heap[x]? = U.heap[x]? := fun x hx => by
    show (U.heap.push w)[x]? = _
    rw [Array.getElem?_push, if_neg (Nat.ne_of_lt hx)]
  exact ⟨hv, rp_push hr hok z old (hat _ Array.getElem?_push_size), locs, va_S_push hS z old, hX.pushed w⟩
theorem Hm_put (h : Hm p l e R s m args below meth c D aK b N0 L xs tb t cells slots U) {o N : Nat} (hs : (sH t)[o + 2]? = some (5, N)) (i r : Nat) : ∃ f : Nat → Value, U.heap[N0 + o]? = some (arrV (aK 5) N f) ∧ Hm p l e R s m args below meth c D aK b N0 L xs tb (uR t (o + 2) i r) cells slots (U.setCell (N0 + o) ((arrV (aK 5) N f).setSlot i (va_rf (ad b N0 r)))) := by
  obtain ⟨hv, hr, locs, hS, hX⟩ := h
  have hc : U.heap[N0 + o]? = some (arrV (aK 5) N (fun j => va_rf (ad b N0 (sR t (o + 2) j)))) := hr.1 o _ (wsl_get (b := b) (N0 := N0) (aK := aK) hs)
  obtain ⟨hlt, -⟩ := Array.getElem?_eq_some_iff.mp hc
  refine ⟨_, hc, ?_⟩
  generalize hw : (arrV (aK 5) N (fun j => va_rf (ad b N0 (sR t (o + 2) j)))).setSlot i (va_rf (ad b N0 r)) = w
  have z : (U.setCell (N0 + o) w).heap.size = U.heap.size := Array.size_setIfInBounds
  have old : ∀ x : Nat, x ≠ N0 + o → (U.setCell (N0 + o) w).heap[x]? = U.heap[x]? := fun x hx => by
    show (U.heap.setIfInBounds (N0 + o) w)[x]? = _
    rw [Array.getElem?_setIfInBounds, if_neg (fun q => hx q.symm)]
  have new : (U.setCell (N0 + o) w).heap[N0 + o]? = some w := by
    show (U.heap.setIfInBounds (N0 + o) w)[N0 + o]? = _
    rw [Array.getElem?_setIfInBounds, if_pos rfl, if_pos hlt]
  refine ⟨hv, rp_arr hr hs rfl uR_oth z old ?_, _, hS.put z old (Nat.le_add_right N0 o), hw ▸ hX.stored hc i _⟩
  show (U.setCell (N0 + o) w).heap[N0 + o]? = some (arrV (aK 5) N (fun j => va_rf (ad b N0 (sR (uR t (o + 2) i r) (o + 2) j))))
  rw [new, ← hw, arrV_store]
  congr 2
  funext j
  by_cases hj : j = i
  · simp [updV, sR, uR, hj]
  · simp [updV, sR, uR, hj]
/-- what the tables must say of the two classes -/
def Hk (aK : Nat → ClassId) (tb : Vm) : Prop := (∃ k, tb.classes[aK 5]? = some k ∧ k.kind = .array (aK 1) (.array .int)) ∧ ∃ k cI, tb.classes[aK 1]? = some k ∧ k.kind = .array cI .int
/-- a new array of at most 1000, at the machine's own word for it -/
theorem Hm_arr (h : Hm p l e R s m args below meth c D aK b N0 L xs tb t cells slots U) {k : Class} {cA cI : ClassId} {ty : FieldType} {x : Value} {n : Nat} (hk : tb.classes[cA]? = some k) (hkind : k.kind = .array cI ty) (hx : fits ty x = true) (hty : componentBytes ty = 4) (hn : n ≤ 1000) (hc1 : cells + 1 ≤ R.cells) (hc2 : slots + n ≤ R.slots) (f : JFrame) {E : CtlPost} {d : Bool} {acts : List Action} {P : Addr → Pre}
    (hP : ∀ acts', P U.heap.size d acts' ((U.pushCell (arrV cA n (fun _ => x))).setTop f)) : wp (Jvm.newArray cA n x) P E e d acts (U.setTop f) := by
  obtain ⟨rfl, -, locs, -, hX⟩ := h
  obtain ⟨r1, r2⟩ := hX.roomAbove hc1 hc2
  refine W.newArray_of (s := U.setTop f) hk hkind ?_ ?_ r1 r2 hx (fun acts' => ?_)
  · rw [Launch.admits_arrayLengthLimit hX.admits]; omega
  · rw [Launch.admits_maxHeapBytes hX.admits, hty]; omega
  · rw [arrV_new]; exact hP acts'
/-- what the loop does once -/
def ab_once (a : Addr) (cI : ClassId) (k : Int32) (i : Nat) : Sem (ForInStep PUnit) := do
  let x ← multianewarray.make cI [k]
  Jvm.writeLoc a i (.ref x)
  Pure.pure (ForInStep.yield PUnit.unit)
theorem Hm_row (h : Hm p l e R s m args below meth c D aK b N0 L xs tb t cells slots U) (hK : Hk aK tb) {o N i : Nat} {k : Int32} (hs : (sH t)[o + 2]? = some (5, N)) (hi : i < N) (hk0 : ¬ k < 0) (hk1 : k.toNatClampNeg ≤ 1000) (hc1 : cells + 1 ≤ R.cells) (hc2 : slots + k.toNatClampNeg ≤ R.slots) (f : JFrame) :
    ∃ V, Hm p l e R s m args below meth c D aK b N0 L xs tb (uR (ab_mk t (1, k.toNatClampNeg)) (o + 2) i (sH t).length) (cells + 1) (slots + k.toNatClampNeg) V ∧ ∀ (E : CtlPost) (P : ForInStep PUnit → Pre) (d : Bool) (acts : List Action), (∀ d' acts', P (.yield PUnit.unit) d' acts' (V.setTop f)) → wp (ab_once (N0 + o) (aK 1) k i) P E e d acts (U.setTop f) := by
  obtain ⟨⟨kA, hA, hAk⟩, kC, cI, hC, hCk⟩ := hK
  have h1 := Hm_push h (q := (1, k.toNatClampNeg)) (w := arrV (aK 1) k.toNatClampNeg (fun _ => .int 0)) (by simp [shOK]) (fun H1 e1 => by
    show H1[U.heap.size]? = some (vp_cell (aK 1) (k.toNatClampNeg, .inl (sI (ab_mk t (1, k.toNatClampNeg)) (sH t).length)))
    rw [(mk_own (st := t) (q := (1, k.toNatClampNeg))).1, e1]; rfl)
  rw [arrV_size] at h1
  obtain ⟨g, hg, h2⟩ := Hm_put h1 (ext_at ext_mk hs) i (sH t).length
  have hv : va_rf (ad b N0 (sH t).length) = .ref U.heap.size := cv_new h.2.1
  rw [hv] at h2
  refine ⟨_, h2, fun E P d acts hP => ?_⟩
  unfold ab_once
  rw [wp_bind', multianewarray.make]
  simp only [wp_bind', Jvm.W.ite, hk0, if_false, wp_pure', Jvm.W.theClass]
  refine ⟨kC, by rw [← h.1] at hC; exact hC, ?_⟩
  simp only [hCk]
  refine Hm_arr h hC hCk rfl rfl hk1 hc1 hc2 f (fun acts' => ?_)
  refine ⟨_, hg, (fun q => by cases q), by rw [arrV_size]; exact hi, ?_, hP _ _⟩
  rw [← h.1] at hA
  simp [State.fitsSlot, State.slotType?, arrV, hA, hAk, fits]
theorem Hm_rows (hK : Hk aK tb) {o N : Nat} {k : Int32} (hs : (sH st)[o + 2]? = some (5, N)) (hk0 : ¬ k < 0) (hk1 : k.toNatClampNeg ≤ 1000) (hc1 : cells + N ≤ R.cells) (hc2 : slots + N * k.toNatClampNeg ≤ R.slots) (f : JFrame) : ∀ (j i : Nat) (U : State), i + j = N → Hm p l e R s m args below meth c D aK b N0 L xs tb (ab_rows st (o + 2) k.toNatClampNeg i) (cells + i) (slots + i * k.toNatClampNeg) U →
    ∃ V, Hm p l e R s m args below meth c D aK b N0 L xs tb (ab_rows st (o + 2) k.toNatClampNeg N) (cells + N) (slots + N * k.toNatClampNeg) V ∧ ∀ (E : CtlPost) (P : PUnit → Pre) (d : Bool) (acts : List Action), (∀ d' acts', P PUnit.unit d' acts' (V.setTop f)) → wp (forIn (List.range' i j) PUnit.unit (fun i _ => ab_once (N0 + o) (aK 1) k i)) P E e d acts (U.setTop f)
  | 0, i, U, hij, h => by
    obtain rfl : i = N := hij
    exact ⟨U, h, fun E P d acts hP => by rw [List.range'_zero, List.forIn_nil]; exact hP _ _⟩
  | j + 1, i, U, hij, h => by
    have hm : i * k.toNatClampNeg + k.toNatClampNeg ≤ N * k.toNatClampNeg := by
      rw [← Nat.succ_mul]
      exact Nat.mul_le_mul_right _ (by omega)
    obtain ⟨V, hV, goV⟩ := Hm_row h hK (ext_at (rows_ex st (o + 2) k.toNatClampNeg i) hs) (i := i) (by omega) hk0 hk1 (by omega) (by omega) f
    rw [show cells + i + 1 = cells + (i + 1) by omega, show slots + i * k.toNatClampNeg + k.toNatClampNeg = slots + (i + 1) * k.toNatClampNeg by rw [Nat.succ_mul]; omega] at hV
    obtain ⟨Z, hZ, goZ⟩ := Hm_rows hK hs hk0 hk1 hc1 hc2 f j (i + 1) V (by omega) hV
    refine ⟨Z, hZ, fun E P d acts hP => ?_⟩
    rw [List.range'_succ, List.forIn_cons, wp_bind']
    exact goV E _ d acts (fun d' acts' => goZ E P d' acts' hP)
theorem Hm_make (h : Hm p l e R s m args below meth c D aK b N0 L xs tb st cells slots U) (hK : Hk aK tb) {n k : Int32} (hn0 : ¬ n < 0) (hk0 : ¬ k < 0) (hn1 : n.toNatClampNeg ≤ 1000) (hk1 : k.toNatClampNeg ≤ 1000) (hc1 : cells + (1 + n.toNatClampNeg) ≤ R.cells) (hc2 : slots + (n.toNatClampNeg + n.toNatClampNeg * k.toNatClampNeg) ≤ R.slots) (f : JFrame) :
    ∃ V, Hm p l e R s m args below meth c D aK b N0 L xs tb (ab_rows (ab_mk st (5, n.toNatClampNeg)) (sH st).length k.toNatClampNeg n.toNatClampNeg) (cells + 1 + n.toNatClampNeg) (slots + n.toNatClampNeg + n.toNatClampNeg * k.toNatClampNeg) V ∧ ∀ (E : CtlPost) (P : Addr → Pre) (d : Bool) (acts : List Action), (∀ d' acts', P U.heap.size d' acts' (V.setTop f)) → wp (multianewarray.make (aK 5) [n, k]) P E e d acts (U.setTop f) := by
  have hlen := (List.getElem?_eq_some_iff.mp h.2.1.2.2.2.1).1
  have hsz := h.2.1.2.1
  obtain ⟨o, ho⟩ : ∃ o, (sH st).length = o + 2 := ⟨(sH st).length - 2, by omega⟩
  have ha : U.heap.size = N0 + o := by omega
  have h1 := Hm_push h (q := (5, n.toNatClampNeg)) (w := arrV (aK 5) n.toNatClampNeg (fun _ => .null)) (by simp [shOK]) (fun H1 e1 => by
    show H1[U.heap.size]? = some (vp_cell (aK 5) (n.toNatClampNeg, .inr (.inr (.inr (.inr (fun j => ad b N0 (sR (ab_mk st (5, n.toNatClampNeg)) (sH st).length j)))))))
    rw [(mk_own (st := st) (q := (5, n.toNatClampNeg))).2.2, e1]; rfl)
  rw [arrV_size] at h1
  have hs : (sH (ab_mk st (5, n.toNatClampNeg)))[o + 2]? = some (5, n.toNatClampNeg) := by
    show (sH st ++ [(5, n.toNatClampNeg)])[o + 2]? = _
    rw [← ho]; simp
  obtain ⟨V, hV, goV⟩ := Hm_rows (R := R) (cells := cells + 1) (slots := slots + n.toNatClampNeg) hK hs hk0 hk1 (by omega) (by omega) f n.toNatClampNeg 0 _ (Nat.zero_add _) (by rw [Nat.zero_mul]; exact h1)
  rw [← ho] at hV
  refine ⟨V, hV, fun E P d acts hP => ?_⟩
  obtain ⟨⟨kA, hA, hAk⟩, -⟩ := hK
  rw [multianewarray.make]
  simp only [wp_bind', Jvm.W.ite, hn0, if_false, wp_pure', Jvm.W.theClass]
  refine ⟨kA, by rw [← h.1] at hA; exact hA, ?_⟩
  simp only [hAk, wp_bind']
  refine Hm_arr h hA hAk rfl rfl hn1 (by omega) (by omega) f (fun acts' => ?_)
  have hf : [k].find? (fun x => decide (x < 0)) = none := by simp [hk0]
  rw [hf, ite_self, wp_bind', Std.Legacy.Range.forIn_eq_forIn_range', ha]
  have hrg : List.range' [:n.toNatClampNeg].start [:n.toNatClampNeg].size [:n.toNatClampNeg].step = List.range' 0 n.toNatClampNeg := by simp [Std.Legacy.Range.size]
  rw [hrg]
  exact goV E _ d acts' (fun d' acts'' => ha ▸ hP d' acts'')
theorem ab_multi (X : Cx p s m args c cc own nL D aK b N0 L xs) {i : Nat} {n k : Int32} (hw : Cond.classLink own i "[[I" ∈ ab_ws) (hr : rp D aK b N0 L xs st H) (hS : va_S (fun q => N0 ≤ q) s.heap H locs) (hn : ¬ n < 0) (hk : ¬ k < 0) (hn1 : n.toNatClampNeg ≤ 1000) (hk1 : k.toNatClampNeg ≤ 1000) (hc1 : cells + (1 + n.toNatClampNeg) ≤ R.cells) (hc2 : slots + (n.toNatClampNeg + n.toNatClampNeg * k.toNatClampNeg) ≤ R.slots) (hdg : decode cc pc = .ok (.multianewarray i 2, 4))
    (kk : ∀ (H1 : Heap) (locs1 : List Loc), rp D aK b N0 L xs (ab_rows (ab_mk st (5, n.toNatClampNeg)) (sH st).length k.toNatClampNeg n.toNatClampNeg) H1 → va_S (fun q => N0 ≤ q) s.heap H1 locs1 → W p l e R s m args below meth c H1 locs1 (cells + 1 + n.toNatClampNeg) (slots + n.toNatClampNeg + n.toNatClampNeg * k.toNatClampNeg) Q (F0 m (pc + 4) lsA (cv b N0 (.ref (sH st).length) :: rest))) : W p l e R s m args below meth c H locs cells slots Q (F0 m pc lsA (.int k :: .int n :: rest)) := by
  obtain ⟨hx, hb, -, hown, hts, hrk⟩ := X
  intro T hT hX
  subst hT; subst hb
  obtain ⟨c5, hc5, hlink⟩ := Cond.classLink_spec hown (hts _ hw) e.platform (by rw [hX.admits.platform])
  obtain rfl : c5 = aK 5 := Option.some.inj (hc5.symm.trans (hrk.1.2 4 _ rfl).2)
  obtain ⟨gives, warm, -⟩ := State.classEntry (e := e) hX.warmed hlink
  generalize T.vm.noted m.cls i (.cls (aK 5)) = tb at gives warm
  have hK : Hk aK tb := by
    obtain ⟨kA, hA, hAk⟩ := hrk.2.2.2.2.1.2
    obtain ⟨-, kC, hC, cI, hCk⟩ := (hrk.1.2 0 _ rfl).1 0 (fun _ => .null)
    obtain ⟨kA', hA', eA⟩ := warm.alike.2.2 _ _ hA
    obtain ⟨kC', hC', eC⟩ := warm.alike.2.2 _ _ hC
    exact ⟨⟨kA', hA', by rw [eA]; exact hAk⟩, kC', cI, hC', by rw [eC]; exact hCk⟩
  obtain ⟨V, ⟨-, hrV, locs1, hSV, hXV⟩, goV⟩ := Hm_make (U := T.setVm tb) ⟨rfl, hr, locs, hS, hX.noted warm⟩ hK hn hk hn1 hk1 hc1 hc2 (F0 m pc lsA rest)
  obtain ⟨z, a1, b1⟩ := kk V.heap locs1 hrV hSV V rfl hXV
  refine ⟨z, ?_, b1⟩
  rw [cv_new hr] at a1
  jvm_step hX.here [hx, hdg]
  simp only [multianewarray.sem, wp_bind', Jvm.W.resolveClassAt_links (State.method?_setTop (F0 m pc lsA (.int k :: .int n :: rest)) hX.here.top) gives]
  have hst : (T.setTop (F0 m pc lsA (.int k :: .int n :: rest))).setVm tb = (T.setVm tb).setTop (F0 m pc lsA (.int k :: .int n :: rest)) := rfl
  rw [hst]
  refine (popN_top (s := T.setVm tb) (f := F0 m pc lsA (.int k :: .int n :: rest)) (args := [.int n, .int k]) (rest := rest) (hX.noted warm).here.top rfl).mpr ?_
  simp only [List.mapM_cons, List.mapM_nil, wp_bind', wp_pure']
  refine goV _ _ _ _ (fun d' acts' => ?_)
  show wp _ _ _ _ _ _ _
  simp only [wp_bind', Jvm.W.mark, Jvm.W.pushRef]
  refine ⟨_, State.topJava?_setTop' _ hXV.here.top, fun acts => ?_⟩
  simp [jvm, hXV.here.top]
  exact a1
end HM
