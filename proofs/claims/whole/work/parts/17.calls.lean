/-! CONTRACTS, AND ONE INSTRUCTION'S SOUNDNESS -/
def isNest : Cond → Bool
  | .fieldLinkNest _ _ _ _ _ _ => true
  | .methodLinkNest _ _ _ _ => true
  | _ => false
theorem nw_nest : ∀ w ∈ ab_nw, isNest w = true := by decide +kernel
theorem nw_warm {w : Cond} (hw : isNest w = true) {s U : State} (hW : s.WarmedH U.vm) (h : va_Nw w s) : va_Nw w U := by
  cases w <;> first | exact va_Nw.warmF hW h | exact va_Nw.warmM hW h | cases hw
theorem nest_tab {w : Cond} (hw : isNest w = true) : w.onTables = true := by
  cases w <;> first | rfl | cases hw
section RK
variable {D : va_G} {aK : Nat → ClassId} {b N0 L : Nat} {xs : Nat → Int32}
theorem rk_moved {u U : State} (h : rk D aK b N0 L xs u) (hW : u.WarmedH U.vm) (hb : U.heap[b]? = u.heap[b]?) (hz : u.heap.size ≤ U.heap.size) : rk D aK b N0 L xs U := by
  obtain ⟨h1, h2, h3, h4, h5, h6, h7, h8⟩ := h
  exact ⟨va_K.moved hW.alike h1, fun w hw => nw_warm (nw_nest w hw) hW (h2 w hw), h3.moved hW.alike, h4.moved hW.alike, ⟨h5.1.moved hW.alike, h5.2.moved hW.alike⟩, (h6.kept hb).moved hW.alike, h7, Nat.le_trans h8 hz⟩
theorem rk_calling {U : State} {g : JFrame} {mk : MethodId} {a : Array Value} (h : rk D aK b N0 L xs U) : rk D aK b N0 L xs (U.calling g mk a) := by
  obtain ⟨h1, h2, h3, h4, h5, h6, h7, h8⟩ := h
  have hA : U.vm.Alike (U.calling g mk a).vm := Vm.Alike.refl U.vm
  exact ⟨va_K.moved hA h1, fun w hw => va_Nw.same (u := U) (U := U.calling g mk a) (nest_tab (nw_nest w hw)) rfl (h2 w hw), h3.moved hA, h4.moved hA, ⟨h5.1.moved hA, h5.2.moved hA⟩, h6.moved hA, h7, h8⟩
end RK
/-- what a contract says of the end -/
def ct_Q (D : va_G) (aK : Nat → ClassId) (b N0 L : Nat) (xs : Nat → Int32) (rs : List Value) (st' : ab_S) : Array Value → State → Outcome → State → Prop := fun _ s0 o t => o = .returned ((rs.map (cv b N0)).head?) ∧ rp D aK b N0 L xs st' t.heap ∧ va_F (fun q => N0 ≤ q) s0 t
/-- a method's contract at an abstract state -/
def ct (l : Launch) (y : MethodName) (bytes : ByteArray) (maxL : Nat) (ret : Option FieldType) (fr lo : Nat) (as : List Value) (st : ab_S) (rs : List Value) (st' : ab_S) : Prop :=
  ∀ (D : va_G) (aK : Nat → ClassId) (b N0 L : Nat) (xs : Nat → Int32), Met l y (.code y bytes maxL ret :: ab_ws) { frames := fr, cells := (sH st').length - (sH st).length, slots := nsl (sH st') - nsl (sH st), locals := lo }
    (va_Pc (as.map (cv b N0)) (fun U => rp D aK b N0 L xs st U.heap ∧ rk D aK b N0 L xs U)) (ct_Q D aK b N0 L xs rs st') ((sH st').length - (sH st).length) (nsl (sH st') - nsl (sH st)) (fun q => N0 ≤ q)
/-- what a callee's number i means in a method of class own that has fr frames and lo words of locals left -/
def cee (l : Launch) (fr lo : Nat) (own : String) (i kd n : Nat) (g : ab_G) : Prop := ∃ (y : MethodName) (bytes : ByteArray) (maxL : Nat) (ret : Option FieldType) (fr' lo' ci : Nat),
  Cond.code y bytes maxL ret ∈ ab_ws ∧ Cond.initialized y.cls ∈ ab_ws ∧ (y.cls ≠ "java/lang/invoke/MethodHandle" ∧ y.cls ≠ "java/lang/invoke/VarHandle" ∧ (parseMethodDescriptor y.desc).map (fun d => d.parameters.length) = some (if kd = 0 then n else n - 1)) ∧ fr' + 1 ≤ fr ∧ 8 + (maxL + 11) + lo' ≤ lo ∧
  ((kd = 0 ∧ Cond.methodLink own i y ∈ ab_ws ∧ Cond.static y ∈ ab_ws) ∨ (kd = 1 ∧ Cond.methodLink own i y ∈ ab_ws ∧ Cond.instanceMethod y ∈ ab_ws ∧ Cond.selects y.cls y y ∈ ab_ws ∧ ∃ q, ab_cl[ci]? = some q ∧ q.1 = y.cls) ∨ (kd = 2 ∧ (Cond.methodLink own i y ∈ ab_ws ∨ Cond.methodLinkNest own i y "TermMachine" ∈ ab_nw) ∧ y.name = "<init>" ∧ ret = none ∧ Cond.instanceMethod y ∈ ab_ws)) ∧
  ∀ as st k r, g as st k = some r → as.length = n ∧ (kd ≠ 0 → ∃ o as', as = .ref o :: as' ∧ (sH st)[o]? = some (0, ci)) ∧ ∃ rs st', k rs st' = some r ∧ rs.length ≤ 1 ∧ ext st st' ∧ ct l y bytes maxL ret fr' lo' as st rs st'
def objok (fr lo : Nat) (own : String) (i kd n : Nat) (g : ab_G) : Prop := g = g_obj ∧ kd = 2 ∧ n = 1 ∧ Cond.methodLink own i Lib.objectInit ∈ ab_ws ∧ 1 ≤ fr ∧ 20 ≤ lo
/-- the methods of Math -/
def matok (fr lo : Nat) (own : String) (i kd n : Nat) (g : ab_G) : Prop := kd = 0 ∧ 1 ≤ fr ∧ 23 ≤ lo ∧ ((g = g_max ∧ n = 2 ∧ Cond.methodLink own i Lib.Math.max.name ∈ ab_ws) ∨ (g = g_min ∧ n = 2 ∧ Cond.methodLink own i Lib.Math.min.name ∈ ab_ws) ∨ (g = g_abs ∧ n = 1 ∧ Cond.methodLink own i Lib.Math.abs.name ∈ ab_ws) ∨ (g = g_minl ∧ n = 2 ∧ Cond.methodLink own i Lib.MathLoose.min_long.x ∈ ab_ws))
theorem mat_i : Cond.initialized "java/lang/Math" ∈ ab_ws := by decide +kernel
theorem mat_max : Cond.static Lib.Math.max.name ∈ ab_ws ∧ Cond.code Lib.Math.max.name Lib.Math.max.code 2 (some .int) ∈ ab_ws := by decide +kernel
theorem mat_min : Cond.static Lib.Math.min.name ∈ ab_ws ∧ Cond.code Lib.Math.min.name Lib.Math.min.code 2 (some .int) ∈ ab_ws := by decide +kernel
theorem mat_abs : Cond.static Lib.Math.abs.name ∈ ab_ws ∧ Cond.code Lib.Math.abs.name Lib.Math.abs.code 1 (some .int) ∈ ab_ws := by decide +kernel
theorem mat_minl : Cond.static Lib.MathLoose.min_long.x ∈ ab_ws ∧ Cond.code Lib.MathLoose.min_long.x Lib.MathLoose.min_long.code 4 (some .long) ∈ ab_ws := by decide +kernel
theorem obj_w : Cond.instanceMethod Lib.objectInit ∈ ab_ws ∧ Cond.code Lib.objectInit ⟨#[0xb1]⟩ 1 none ∈ ab_ws := by decide +kernel
section CALLS
variable {p : Program} {l : Launch} {e : Env} {R : Room} {s : State} {m : MethodId} {args : Array Value} {below : List Frame} {meth : Method} {c : Code} {Q : State → Prop}
variable {D : va_G} {aK : Nat → ClassId} {b N0 L : Nat} {xs : Nat → Int32} {nL : Nat} {cc : ByteArray} {own : String} {pc : Nat} {lsA : Array Slot} {H : Heap} {locs : List Loc} {cells slots : Nat} {st : ab_S}
theorem ab_sum_le (b N0 : Nat) : ∀ (l : List Value), ((l.map (cv b N0)).map fun v => v.category).sum = ab_sum l
  | [] => rfl
  | v :: r => by simp only [List.map_cons, List.sum_cons, ab_sum, cv_cat, ab_sum_le b N0 r]
/-- behind a call -/
theorem ab_back {mc ms : Nat} {rs rest : List Value} {st' : ab_S} {a : Array Value} {stk : List Value} (hr : va_Run p l e R s m args below meth c H locs cells slots mc ms (F0 m pc lsA stk) (rest.map (cv b N0)) (ct_Q D aK b N0 L xs rs st' a) (fun q => N0 ≤ q)) (hlen : rs.length ≤ 1) (hS : va_S (fun q => N0 ≤ q) s.heap H locs)
    (kk : ∀ (H1 : Heap) (locs1 : List Loc), rp D aK b N0 L xs st' H1 → va_S (fun q => N0 ≤ q) s.heap H1 locs1 → W p l e R s m args below meth c H1 locs1 (cells + mc) (slots + ms) Q (F0 m (pc + 3) lsA ((rs ++ rest).map (cv b N0)))) : W p l e R s m args below meth c H locs cells slots Q (F0 m pc lsA stk) := by
  intro T hT X
  obtain ⟨v, st₀, t, T', L', h0, X', hL, e1, e2, ⟨ho, hrp, hz, hk⟩, go⟩ := hr T hT X
  rw [h0] at hz hk
  have hv : v = (rs.map (cv b N0)).head? := Outcome.returned.inj ho
  have hst : v.toList ++ rest.map (cv b N0) = (rs ++ rest).map (cv b N0) := by
    rw [hv]
    match rs, hlen with
    | [], _ => rfl
    | [x], _ => rfl
    | _ :: _ :: _, h => simp at h
  obtain ⟨t2, a1, b1⟩ := kk T'.heap (locs ++ L') (by rw [e1]; exact hrp)
    ⟨Nat.le_trans hS.1 (by rw [e1]; exact hz), fun q h1 h2 => by rw [e1, hk q (Nat.lt_of_lt_of_le h1 hS.1) h2]; exact hS.2.1 q h1 h2, fun q hq => by
      rcases List.mem_append.mp hq with h | h
      · exact hS.2.2 q h
      · exact hL q h⟩ T' rfl X'
  rw [← hst] at a1
  exact ⟨t2, go t2 a1, b1⟩
theorem ab_invoke (X : Cx p s m args c cc own nL D aK b N0 L xs) {i kd n : Nat} {g : ab_G} {k : List Value → ab_S → Option ab_R} {r : ab_R} {stk : List Value} (hG : cee l R.frames R.locals own i kd n g) (hsz : lsA.size = nL)
    (hop : (kd = 0 → decode cc pc = .ok (.invokestatic i, 3)) ∧ (kd = 1 → decode cc pc = .ok (.invokevirtual i, 3)) ∧ (kd = 2 → decode cc pc = .ok (.invokespecial i, 3))) (hlen : n ≤ stk.length) (hsum : ab_sum (stk.drop n) ≤ 8) (h : g (stk.take n).reverse st k = some r) :
    ∃ rs st', k rs st' = some r ∧ ext st st' ∧ (rp D aK b N0 L xs st H → va_S (fun q => N0 ≤ q) s.heap H locs → cells + ((sH st').length - (sH st).length) ≤ R.cells ∧ slots + (nsl (sH st') - nsl (sH st)) ≤ R.slots →
      (∀ (H1 : Heap) (locs1 : List Loc), rp D aK b N0 L xs st' H1 → va_S (fun q => N0 ≤ q) s.heap H1 locs1 → W p l e R s m args below meth c H1 locs1 (cells + ((sH st').length - (sH st).length)) (slots + (nsl (sH st') - nsl (sH st))) Q (F0 m (pc + 3) lsA ((rs ++ stk.drop n).map (cv b N0)))) → W p l e R s m args below meth c H locs cells slots Q (F0 m pc lsA (stk.map (cv b N0)))) := by
  obtain ⟨y, bytes, maxL, ret, fr', lo', ci, hcode, hini, hd, hfr, hlo, hlink, hspec⟩ := hG
  obtain ⟨hlen2, hrecv, rs, st', hk, hrs, hext, hct⟩ := hspec _ _ _ _ h
  refine ⟨rs, st', hk, hext, fun hr hS hf kk => ?_⟩
  obtain ⟨hx, hb, hml, hown, hts, hrk⟩ := X
  have hM := hct D aK b N0 L xs
  generalize has : (stk.take n).reverse = as at hM hrecv hlen2
  have hstk : stk.map (cv b N0) = (as.map (cv b N0)).reverse ++ (stk.drop n).map (cv b N0) := by
    rw [← has, List.map_reverse, List.reverse_reverse, ← List.map_append, List.take_append_drop]
  have hroom : 2 * (F0 m pc lsA (stk.map (cv b N0))).monitorRoom + (((stk.drop n).map (cv b N0)).map fun v => v.category).sum ≤ 8 := lv_room (by rw [ab_sum_le]; exact hsum)
  have hbl : FrameBlind (va_Pc (as.map (cv b N0)) (fun U => rp D aK b N0 L xs st U.heap ∧ rk D aK b N0 L xs U)) := fun a U g mk q => ⟨q.1, q.2.1, rk_calling q.2.2⟩
  have hbH : H[b]? = s.heap[b]? := hS.2.1 b (Nat.lt_of_lt_of_le hrk.2.2.2.2.2.2.1 hrk.2.2.2.2.2.2.2) (Nat.not_le.mpr hrk.2.2.2.2.2.2.1)
  have hpre : ∀ U : State, U.heap = H → s.WarmedH U.vm → va_Pc (as.map (cv b N0)) (fun U => rp D aK b N0 L xs st U.heap ∧ rk D aK b N0 L xs U) (as.map (cv b N0)).toArray U := fun U hU hW => ⟨rfl, by rw [hU]; exact hr, rk_moved hrk hW (by rw [hU]; exact hbH) (by rw [hU]; exact hS.1)⟩
  have S : CallFix p m c cc nL s args ab_ws own := ⟨hx, hb, hml, hown, hts⟩
  rcases hlink with ⟨rfl, hl, hst⟩ | ⟨rfl, hl, hin, hse, q, hq, hqy⟩ | ⟨rfl, hl, hnm, rfl, hin⟩
  · refine ab_back (rest := stk.drop n) (va_runS (As := as.map (cv b N0)) (n := n) S hM ⟨callB_of n hts (ab_good hcode) rfl rfl rfl (hts _ hini) (hts _ hl) ⟨hd.1, hd.2.1, by simpa using hd.2.2⟩ ⟨hfr, hlo⟩, hts _ hst⟩ ⟨hbl, hpre⟩ rfl (by rw [List.length_map]; exact hlen2) hsz hstk hroom (hop.1 rfl) hf) hrs hS kk
  · obtain ⟨o, as', rfl, hsh⟩ := hrecv (by decide)
    obtain ⟨o, rfl⟩ := rp_ge hr hsh (by simp) (by simp)
    have hstk2 : stk.map (cv b N0) = (as'.map (cv b N0)).reverse ++ .ref (N0 + o) :: (stk.drop n).map (cv b N0) := by
      rw [hstk, List.map_cons, List.reverse_cons, List.append_assoc]; rfl
    have hn : n - 1 = as'.length := by rw [← hlen2]; simp
    refine ab_back (rest := stk.drop n) (va_runV (C := y.cls) (b := N0 + o) (As := as'.map (cv b N0)) (n := n - 1) S hM ⟨callB_of (n - 1) hts (ab_good hcode) rfl rfl rfl (hts _ hini) (hts _ hl) ⟨hd.1, hd.2.1, by simpa using hd.2.2⟩ ⟨hfr, hlo⟩, hts _ hin, hts _ hse⟩ ⟨hbl, ?_, hpre⟩ rfl (by rw [List.length_map]; exact hn.symm) hsz hstk2 hroom (hop.2.1 rfl) hf) hrs hS kk
    rw [← hqy]
    exact va_recv hrk.1 hr.1 hq (wsl_get (b := b) (N0 := N0) (aK := aK) hsh)
  · obtain ⟨o, as', rfl, hsh⟩ := hrecv (by decide)
    obtain ⟨o, rfl⟩ := rp_ge hr hsh (by simp) (by simp)
    have hstk2 : stk.map (cv b N0) = (as'.map (cv b N0)).reverse ++ .ref (N0 + o) :: (stk.drop n).map (cv b N0) := by
      rw [hstk, List.map_cons, List.reverse_cons, List.append_assoc]; rfl
    have hn : n - 1 = as'.length := by rw [← hlen2]; simp
    rcases hl with hl | hl
    · exact ab_back (rest := stk.drop n) (va_runI (b := N0 + o) (As := as'.map (cv b N0)) (n := n - 1) S hM ⟨callB_of (n - 1) hts (ab_good hcode) rfl rfl rfl (hts _ hini) (hts _ hl) ⟨hd.1, hd.2.1, by simpa using hd.2.2⟩ ⟨hfr, hlo⟩, hnm, hts _ hin⟩ ⟨hbl, hpre⟩ rfl (by rw [List.length_map]; exact hn.symm) hsz hstk2 hroom (hop.2.2 rfl) hf) hrs hS kk
    · exact ab_back (rest := stk.drop n) (va_runIN (host := "TermMachine") (b := N0 + o) (As := as'.map (cv b N0)) (n := n - 1) S hM ⟨va_cnB (n - 1) hts (ab_good hcode) rfl rfl rfl (hrk.2.1 _ hl) (hts _ hini) ⟨hd.1, hd.2.1, by simpa using hd.2.2⟩ ⟨hfr, hlo⟩, hnm, hts _ hin⟩ ⟨hbl, hpre⟩ rfl (by rw [List.length_map]; exact hn.symm) hsz hstk2 hroom (hop.2.2 rfl) hf) hrs hS kk
end CALLS
/-! switches -/
theorem sw_e {x : Int32} {G : Nat → Option ab_R} {d : Nat} {r : ab_R} : ∀ {cs : List (Int32 × Nat)}, ab_sw x G d cs = some r → (∃ (j : Nat) (q : Int32 × Nat), cs[j]? = some q ∧ x = q.1 ∧ G q.2 = some r) ∨ ((∀ q ∈ cs, x ≠ q.1) ∧ G d = some r)
  | [], h => Or.inr ⟨fun _ h => absurd h List.not_mem_nil, h⟩
  | q :: cs, h => by
    unfold ab_sw at h
    split at h
    · next hq => exact Or.inl ⟨0, q, rfl, hq, h⟩
    · next hq =>
      rcases sw_e h with ⟨j, q', h1, h2, h3⟩ | ⟨h1, h2⟩
      · exact Or.inl ⟨j + 1, q', h1, h2, h3⟩
      · exact Or.inr ⟨fun q' hq' => (List.mem_cons.mp hq').elim (fun e => e ▸ hq) (h1 q'), h2⟩
def tchk (pc : Nat) : List (Int32 × Nat) → List Int → Int → Bool
  | [], [], _ => true
  | q :: cs, o :: os, k => decide (q.1.toInt = k) && (decide ((pc : Int) + o = (q.2 : Int)) && tchk pc cs os (k + 1))
  | _, _, _ => false
theorem tchk_len {pc : Nat} : ∀ {cs : List (Int32 × Nat)} {os : List Int} {k : Int}, tchk pc cs os k = true → cs.length = os.length
  | [], [], _, _ => rfl
  | q :: cs, o :: os, k, h => by
    unfold tchk at h
    simp only [Bool.and_eq_true] at h
    simp [tchk_len h.2.2]
  | [], _ :: _, _, h => by cases h
  | _ :: _, [], _, h => by cases h
theorem tchk_at {pc : Nat} : ∀ {cs : List (Int32 × Nat)} {os : List Int} {k : Int}, tchk pc cs os k = true → ∀ (j : Nat) (q : Int32 × Nat), cs[j]? = some q → q.1.toInt = k + j ∧ ∃ o, os[j]? = some o ∧ (pc : Int) + o = (q.2 : Int)
  | [], [], _, _ => fun j q h => by simp at h
  | q :: cs, o :: os, k, h => by
    unfold tchk at h
    simp only [Bool.and_eq_true, decide_eq_true_eq] at h
    intro j q' hj
    match j, hj with
    | 0, hj => cases hj; exact ⟨by rw [h.1]; simp, o, rfl, h.2.1⟩
    | j + 1, hj =>
      obtain ⟨h1, o', h2, h3⟩ := tchk_at h.2.2 j q' hj
      exact ⟨by rw [h1]; push_cast; omega, o', h2, h3⟩
  | [], _ :: _, _, h => by cases h
  | _ :: _, [], _, h => by cases h
def lchk (pc : Nat) : List (Int32 × Nat) → List (Int × Int) → Bool
  | [], [] => true
  | q :: cs, o :: os => decide (q.1.toInt = o.1) && (decide ((pc : Int) + o.2 = (q.2 : Int)) && lchk pc cs os)
  | _, _ => false
theorem lchk_e {pc : Nat} {x : Int32} {G : Nat → Option ab_R} {d : Nat} {dd : Int} {r : ab_R} (hd : (pc : Int) + dd = (d : Int)) : ∀ {cs : List (Int32 × Nat)} {os : List (Int × Int)}, lchk pc cs os = true → ab_sw x G d cs = some r → ∃ t : Nat, (pc : Int) + Op.lookupswitch.offset os dd x.toInt = (t : Int) ∧ G t = some r
  | [], [], _, h => ⟨d, hd, h⟩
  | q :: cs, o :: os, hc, h => by
    unfold lchk at hc
    simp only [Bool.and_eq_true, decide_eq_true_eq] at hc
    unfold ab_sw at h
    obtain ⟨a, o⟩ := o
    rw [Op.lookupswitch.offset_cons]
    split at h
    · next hq =>
      rw [if_pos (by first | (rw [hq]; exact hc.1) | (rw [hq]; exact hc.1.symm))]
      exact ⟨q.2, hc.2.1, h⟩
    · next hq =>
      rw [if_neg (by
        intro e
        apply hq
        apply Int32.toInt_inj.mp
        rw [hc.1]
        first | exact e | exact e.symm)]
      exact lchk_e hd hc.2.2 h
  | [], _ :: _, hc, _ => by cases hc
  | _ :: _, [], hc, _ => by cases hc

