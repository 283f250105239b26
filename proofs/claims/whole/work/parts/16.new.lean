/-! NEW CELLS -/
section NW
variable {p : Program} {l : Launch} {e : Env} {R : Room} {s : State} {m : MethodId} {args : Array Value} {below : List Frame} {meth : Method} {c : Code} {Q : State → Prop}
variable {D : va_G} {aK : Nat → ClassId} {b N0 L : Nat} {xs : Nat → Int32} {nL : Nat} {cc : ByteArray} {own : String} {pc : Nat} {lsA : Array Slot} {rest : List Value} {H : Heap} {locs : List Loc} {cells slots : Nat} {st : ab_S}
theorem cv_new (hr : rp D aK b N0 L xs st H) : cv b N0 (.ref (sH st).length) = .ref H.size := by
  have h4 := (List.getElem?_eq_some_iff.mp hr.2.2.2.1).1
  have h2 := hr.2.1
  obtain ⟨k, hk⟩ : ∃ k, (sH st).length = k + 2 := ⟨(sH st).length - 2, by omega⟩
  rw [hk] at h2 ⊢
  show Value.ref (N0 + k) = _
  rw [show N0 + k = H.size by omega]
theorem va_S_push {A : Nat → Prop} {H0 H1 : Heap} (h : va_S A H0 H locs) (hz : H1.size = H.size + 1) (hq : ∀ a : Nat, a < H.size → H1[a]? = H[a]?) : va_S A H0 H1 locs := ⟨by have := h.1; omega, fun q h1 h2 => (hq q (Nat.lt_of_lt_of_le h1 h.1)).trans (h.2.1 q h1 h2), h.2.2⟩
theorem mk_own {q : Nat × Nat} : sI (ab_mk st q) (sH st).length = (fun _ => 0) ∧ sJ (ab_mk st q) (sH st).length = (fun _ => 0) ∧ sR (ab_mk st q) (sH st).length = (fun _ => 0) := by
  refine ⟨?_, ?_, ?_⟩ <;> funext k <;> simp [sI, sJ, sR, sH, ab_mk]
def kok (own : String) (i ci : Nat) : Bool := match ab_cl[ci]? with
  | some q => decide (Cond.classLink own i q.1 ∈ ab_ws) && (decide (Cond.instantiable q.1 q.2.2 ∈ ab_ws) && decide (Cond.initialized q.1 ∈ ab_ws))
  | none => false
theorem dv_int : defaultValue .int = .int 0 := rfl
theorem ab_new (X : Cx p s m args c cc own nL D aK b N0 L xs) {i ci : Nat} (hk : kok own i ci = true) (hr : rp D aK b N0 L xs st H) (hS : va_S (fun q => N0 ≤ q) s.heap H locs) (hc1 : cells + 1 ≤ R.cells) (hc2 : slots + ns1 (0, ci) ≤ R.slots) (hdg : decode cc pc = .ok (.new i, 3))
    (kk : ∀ (H1 : Heap), rp D aK b N0 L xs (ab_mk st (0, ci)) H1 → va_S (fun q => N0 ≤ q) s.heap H1 locs → W p l e R s m args below meth c H1 locs (cells + 1) (slots + ns1 (0, ci)) Q (F0 m (pc + 3) lsA (cv b N0 (.ref (sH st).length) :: rest))) : W p l e R s m args below meth c H locs cells slots Q (F0 m pc lsA rest) := by
  obtain ⟨hx, hb, -, hown, hts, hrk⟩ := X
  unfold kok at hk
  split at hk
  · next q hq =>
    obtain ⟨C, T, N⟩ := q
    simp only [Bool.and_eq_true, decide_eq_true_eq] at hk
    obtain ⟨hw1, hw2, hw3⟩ := hk
    obtain ⟨hin0, hty, -, hlen, hkd⟩ := cl_ok hq
    have hKn := hrk.1.1 ci _ hq
    have hn : ns1 (0, ci) = N := by simpa [ns1] using hlen
    rw [hn] at hc2 kk
    refine W.newcK hx hb hown (hts _ hw1) (hts _ hw2) (hts _ hw3) rfl hdg hc1 hc2 hKn.2.1 rfl fun H1 kC hkC e1 z1 o1 => ?_
    have ec := cv_new hr
    rw [ec] at kk
    have hci : ci < 12 := by simpa [ab_cl] using (List.getElem?_eq_some_iff.mp hq).1
    refine kk H1 (rp_push hr (Or.inl ⟨rfl, hci⟩) z1 o1 ?_) (va_S_push hS z1 o1)
    show ∃ r : vw_C, ab_cl[ci]? = some r ∧ t_OB H.size (D.1 ci) r.2.2 (D.2 ci) H1 (vp_V (flv b N0 (ab_mk st (0, ci)) (sH st).length 0 (ab_fk ci)))
    refine ⟨_, hq, (u_born (ab_ty ci) hts hin0 hKn hkC e1 hty).to (fun k hk => ?_)⟩
    have h1 := hkd k hk
    obtain ⟨m1, m2, m3⟩ := mk_own (st := st) (q := (0, ci))
    have hg : (ab_fk ci)[k]? = some (ab_fk ci)[k] := List.getElem?_eq_getElem (by omega)
    unfold vp_V
    rw [List.getD_eq_getElem?_getD, flv_get, hg]
    unfold kdok at h1
    rw [hg] at h1
    simp only [Option.map_some, Option.getD_some, Nat.zero_add]
    split at h1 <;> first | (next e1 e2 => rw [e2]; injection e1 with e1; rw [e1]; unfold fv; first | (simp only [m1]; rfl) | (simp only [m2]; rfl) | (simp only [m3]; rfl)) | cases h1
  · cases hk
def atk_ty : ArrayType → FieldType := newarray.typeOf
theorem ab_newarr (X : Cx p s m args c cc own nL D aK b N0 L xs) {a : ArrayType} {n : Int32} (ha : a = .int ∨ a = .long ∨ a = .byte ∨ a = .boolean) (hr : rp D aK b N0 L xs st H) (hS : va_S (fun q => N0 ≤ q) s.heap H locs) (hn : ¬ (n < 0 ∨ 50000 < n.toNatClampNeg)) (hc1 : cells + 1 ≤ R.cells) (hc2 : slots + n.toNatClampNeg ≤ R.slots) (hdg : decode cc pc = .ok (.newarray a, 2))
    (kk : ∀ (H1 : Heap), rp D aK b N0 L xs (ab_mk st (ab_atk a, n.toNatClampNeg)) H1 → va_S (fun q => N0 ≤ q) s.heap H1 locs → W p l e R s m args below meth c H1 locs (cells + 1) (slots + n.toNatClampNeg) Q (F0 m (pc + 2) lsA (cv b N0 (.ref (sH st).length) :: rest))) : W p l e R s m args below meth c H locs cells slots Q (F0 m pc lsA (.int n :: rest)) := by
  obtain ⟨hx, hb, -, hown, hts, hrk⟩ := X
  have hn0 : ¬ n < 0 := fun q => hn (Or.inl q)
  have hn1 : n.toNatClampNeg ≤ 50000 := Nat.not_lt.mp fun q => hn (Or.inr q)
  rw [cv_new hr] at kk
  obtain ⟨m1, m2, m3⟩ := mk_own (st := st) (q := (ab_atk a, n.toNatClampNeg))
  have go : ∀ (t0 : Nat), (tys aK)[t0]? = some (aK (ab_atk a), newarray.typeOf a) → Cond.arrayClass (newarray.typeOf a) ∈ ab_ws → n.toNatClampNeg * componentBytes (newarray.typeOf a) ≤ 536870912 → shOK (ab_atk a, n.toNatClampNeg) → (∀ cA : ClassId, cA = aK (ab_atk a) → va_at D ab_cl (H.size, en b N0 aK (ab_mk st (ab_atk a, n.toNatClampNeg)) (sH st).length (ab_atk a, n.toNatClampNeg)) = fun H1 : Heap => H1[H.size]? = some (arrV cA n.toNatClampNeg (fun _ => defaultValue (newarray.typeOf a)))) → (∀ cA, va_RA s cA (newarray.typeOf a) ↔ s.vm.findClass ("[" ++ (newarray.typeOf a).toString) = some cA) → W p l e R s m args below meth c H locs cells slots Q (F0 m pc lsA (.int n :: rest)) := by
    intro t0 ht hw hby hok hat hra
    refine va_newaK hx hb (hts _ hw) rfl hdg rfl hn0 rfl hby hc1 hc2 rfl fun H1 cA e1 z1 o1 hA hf => ?_
    have hcA : cA = aK (ab_atk a) := Option.some.inj (hf.symm.trans ((hra _).mp (hrk.1.2 t0 _ ht).2))
    refine kk H1 (rp_push hr hok z1 o1 ?_) (va_S_push hS z1 o1)
    rw [hat cA hcA]
    exact e1
  rcases ha with rfl | rfl | rfl | rfl
  · refine go 0 rfl (by decide +kernel) (by show n.toNatClampNeg * 4 ≤ _; omega) (by simp [shOK, ab_atk]) (fun cA h => ?_) (fun cA => Iff.rfl)
    subst h
    funext H1
    show (H1[H.size]? = some (vp_cell (aK 1) (n.toNatClampNeg, .inl (sI (ab_mk st (ab_atk .int, n.toNatClampNeg)) (sH st).length)))) = _
    rw [m1]; rfl
  · refine go 1 rfl (by decide +kernel) (by show n.toNatClampNeg * 8 ≤ _; omega) (by simp [shOK, ab_atk]) (fun cA h => ?_) (fun cA => Iff.rfl)
    subst h
    funext H1
    show (H1[H.size]? = some (vp_cell (aK 2) (n.toNatClampNeg, .inr (.inl (sJ (ab_mk st (ab_atk .long, n.toNatClampNeg)) (sH st).length))))) = _
    rw [m2]; rfl
  · refine go 2 rfl (by decide +kernel) (by show n.toNatClampNeg * 1 ≤ _; omega) (by simp [shOK, ab_atk]) (fun cA h => ?_) (fun cA => Iff.rfl)
    subst h
    funext H1
    show (H1[H.size]? = some (vp_cell (aK 3) (n.toNatClampNeg, .inl (sI (ab_mk st (ab_atk .byte, n.toNatClampNeg)) (sH st).length)))) = _
    rw [m1]; rfl
  · refine go 3 rfl (by decide +kernel) (by show n.toNatClampNeg * 1 ≤ _; omega) (by simp [shOK, ab_atk]) (fun cA h => ?_) (fun cA => Iff.rfl)
    subst h
    funext H1
    show (H1[H.size]? = some (vp_cell (aK 4) (n.toNatClampNeg, .inl (sI (ab_mk st (ab_atk .boolean, n.toNatClampNeg)) (sH st).length)))) = _
    rw [m1]; rfl
def akok (own : String) (i ci : Nat) : Bool := match ab_cl[ci]? with
  | some q => decide (Cond.classLink own i q.1 ∈ ab_ws) && (decide (ci = 0) || (decide (ci = 4) || decide (ci = 9)))
  | none => false
theorem ab_anew (X : Cx p s m args c cc own nL D aK b N0 L xs) {i ci : Nat} {n : Int32} (hk : akok own i ci = true) (hr : rp D aK b N0 L xs st H) (hS : va_S (fun q => N0 ≤ q) s.heap H locs) (hn : ¬ (n < 0 ∨ 50000 < n.toNatClampNeg)) (hc1 : cells + 1 ≤ R.cells) (hc2 : slots + n.toNatClampNeg ≤ R.slots) (hdg : decode cc pc = .ok (.anewarray i, 3))
    (kk : ∀ (H1 : Heap), rp D aK b N0 L xs (ab_mk st (8 + ci, n.toNatClampNeg)) H1 → va_S (fun q => N0 ≤ q) s.heap H1 locs → W p l e R s m args below meth c H1 locs (cells + 1) (slots + n.toNatClampNeg) Q (F0 m (pc + 3) lsA (cv b N0 (.ref (sH st).length) :: rest))) : W p l e R s m args below meth c H locs cells slots Q (F0 m pc lsA (.int n :: rest)) := by
  obtain ⟨hx, hb, -, hown, hts, hrk⟩ := X
  have hn0 : ¬ n < 0 := fun q => hn (Or.inl q)
  have hn1 : n.toNatClampNeg ≤ 50000 := Nat.not_lt.mp fun q => hn (Or.inr q)
  rw [cv_new hr] at kk
  obtain ⟨m1, m2, m3⟩ := mk_own (st := st) (q := (8 + ci, n.toNatClampNeg))
  unfold akok at hk
  split at hk
  · next q hq =>
    simp only [Bool.and_eq_true, Bool.or_eq_true, decide_eq_true_eq] at hk
    obtain ⟨hw, hci⟩ := hk
    have go : ∀ (t0 : Nat), (tys aK)[t0]? = some (aK (8 + ci), .object q.1) → va_AO q.1 s → shOK (8 + ci, n.toNatClampNeg) → W p l e R s m args below meth c H locs cells slots Q (F0 m pc lsA (.int n :: rest)) := by
      intro t0 ht hAO hok
      refine W.anew hx hb hown (hts _ hw) (va_AO.use hAO) rfl hdg rfl hn0 (by omega) hc1 hc2 fun cA kA comp f1 f2 f3 f4 => ?_
      obtain ⟨kA', comp', g1, g2, g3, g4⟩ := (hrk.1.2 t0 _ ht).2
      have hcA : cA = aK (8 + ci) := Option.some.inj (f1.symm.trans g4)
      subst hcA
      generalize hH1 : H.push ({ cls := aK (8 + ci), slots := Array.replicate n.toNatClampNeg .null, vm := .none } : Cell) = H1
      have z1 : H1.size = H.size + 1 := by rw [← hH1, Array.size_push]
      have e1 : H1[H.size]? = some (arrV (aK (8 + ci)) n.toNatClampNeg (fun _ => .null)) := by rw [← hH1, Array.getElem?_push_size, ← arrV_new]
      have o1 : ∀ q : Nat, q < H.size → H1[q]? = H[q]? := fun q hq => by rw [← hH1, Array.getElem?_push, if_neg (Nat.ne_of_lt hq)]
      refine kk H1 (rp_push hr hok z1 o1 ?_) (va_S_push hS z1 o1)
      have hen : en b N0 aK (ab_mk st (8 + ci, n.toNatClampNeg)) (sH st).length (8 + ci, n.toNatClampNeg) = .inl (aK (8 + ci), n.toNatClampNeg, .inr (.inr (.inr (.inr (fun j => ad b N0 (sR (ab_mk st (8 + ci, n.toNatClampNeg)) (sH st).length j)))))) := by
        unfold en
        rw [if_neg (by show ¬ 8 + ci = 0; omega), if_neg (by show ¬ 8 + ci = 2; omega), if_neg (by show ¬ (8 + ci = 1 ∨ 8 + ci = 3 ∨ 8 + ci = 4); omega)]
      rw [hen, m3]
      show H1[H.size]? = some (vp_cell _ _)
      rw [vp_cell_q]
      exact e1
    rcases hci with rfl | rfl | rfl
    · cases hq
      exact go 5 rfl hrk.2.2.1 (by simp [shOK])
    · cases hq
      exact go 6 rfl hrk.2.2.2.1 (by simp [shOK])
    · cases hq
      exact go 7 rfl hrk.2.2.2.2.1.1 (by simp [shOK])
  · cases hk
end NW

