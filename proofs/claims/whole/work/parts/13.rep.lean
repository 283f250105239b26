/-! HOW A HEAP HOLDS AN ABSTRACT STATE. Number 1 is the script at b, number o + 2 the cell N0 + o. -/
def ad (b N0 : Nat) (o : Nat) : Option Nat := match o with
  | 0 => none
  | 1 => some b
  | o + 2 => some (N0 + o)
def cv (b N0 : Nat) (v : Value) : Value := match v with
  | .ref o => va_rf (ad b N0 o)
  | v => v
theorem va_rf_cat (r : Option Nat) : (va_rf r).category = 1 := by cases r <;> rfl
theorem cv_cat (b N0 : Nat) (v : Value) : (cv b N0 v).category = v.category := by
  cases v <;> first | rfl | exact va_rf_cat _
def fv (b N0 : Nat) (st : ab_S) (o k t : Nat) : Value := match t with
  | 2 => .long (sJ st o k)
  | 3 => va_rf (ad b N0 (sR st o k))
  | _ => .int (sI st o k)
def flv (b N0 : Nat) (st : ab_S) (o : Nat) : Nat → List Nat → List Value
  | _, [] => []
  | k, t :: r => fv b N0 st o k t :: flv b N0 st o (k + 1) r
theorem flv_get {b N0 : Nat} {st : ab_S} {o : Nat} : ∀ (ts : List Nat) (k j : Nat), (flv b N0 st o k ts)[j]? = (ts[j]?).map (fun t => fv b N0 st o (k + j) t)
  | [], _, _ => by simp [flv]
  | t :: r, k, 0 => by simp [flv]
  | t :: r, k, j + 1 => by
    simp only [flv, List.getElem?_cons_succ]
    rw [flv_get r (k + 1) j, show k + 1 + j = k + (j + 1) by omega]
theorem flv_len {b N0 : Nat} {st : ab_S} {o : Nat} : ∀ (ts : List Nat) (k : Nat), (flv b N0 st o k ts).length = ts.length
  | [], _ => rfl
  | t :: r, k => by simp [flv, flv_len r (k + 1)]
theorem flv_set {b N0 : Nat} {st st' : ab_S} {o p t : Nat} {ts : List Nat} {v : Value} (hp : ts[p]? = some t) (hv : fv b N0 st' o p t = v) (ho : ∀ j t', j ≠ p → fv b N0 st' o j t' = fv b N0 st o j t') : (flv b N0 st o 0 ts).set p v = flv b N0 st' o 0 ts := by
  apply List.ext_getElem?
  intro j
  rw [List.getElem?_set, flv_get, flv_get]
  by_cases h : p = j
  · subst h
    rw [if_pos rfl, hp]
    simp only [Option.map_some, Nat.zero_add, hv]
    have hl : p < (flv b N0 st o 0 ts).length := by
      rw [flv_len]
      exact (List.getElem?_eq_some_iff.mp hp).1
    rw [if_pos hl]
  · rw [if_neg h]
    cases ts[j]? with
    | none => rfl
    | some t' => simp only [Option.map_some, Nat.zero_add]; rw [ho j t' (fun q => h q.symm)]
theorem flv_congr {b N0 : Nat} {st st' : ab_S} {o : Nat} (h : ∀ k t, fv b N0 st' o k t = fv b N0 st o k t) : ∀ (ts : List Nat) (k : Nat), flv b N0 st' o k ts = flv b N0 st o k ts
  | [], _ => rfl
  | t :: r, k => by simp only [flv, h, flv_congr h r (k + 1)]
def en (b N0 : Nat) (aK : Nat → ClassId) (st : ab_S) (o : Nat) (h : Nat × Nat) : va_E :=
  if h.1 = 0 then .inr (h.2, flv b N0 st o 0 (ab_fk h.2)) else .inl (aK h.1, h.2, if h.1 = 2 then .inr (.inl (sJ st o)) else if h.1 = 1 ∨ h.1 = 3 ∨ h.1 = 4 then .inl (sI st o) else .inr (.inr (.inr (.inr (fun j => ad b N0 (sR st o j))))))
def wsl (b N0 : Nat) (aK : Nat → ClassId) (st : ab_S) : va_W := ((sH st).drop 2).mapIdx (fun i h => (N0 + i, en b N0 aK st (i + 2) h))
theorem wsl_q (b N0 : Nat) (aK : Nat → ClassId) (st : ab_S) (o : Nat) : (wsl b N0 aK st)[o]? = ((sH st)[o + 2]?).map (fun h => (N0 + o, en b N0 aK st (o + 2) h)) := by
  unfold wsl
  rw [List.getElem?_mapIdx, List.getElem?_drop, Nat.add_comm 2 o]
theorem wsl_get {b N0 : Nat} {aK : Nat → ClassId} {st : ab_S} {o : Nat} {h : Nat × Nat} (hs : (sH st)[o + 2]? = some h) : (wsl b N0 aK st)[o]? = some (N0 + o, en b N0 aK st (o + 2) h) := by
  rw [wsl_q, hs]; rfl
theorem wsl_D (b N0 : Nat) (aK : Nat → ClassId) (st : ab_S) : va_D (fun q => N0 ≤ q) (wsl b N0 aK st) := by
  have key : ∀ (i : Nat) (p : Nat × va_E), (wsl b N0 aK st)[i]? = some p → p.1 = N0 + i := by
    intro i p h
    rw [wsl_q] at h
    cases hs : (sH st)[i + 2]? with
    | none => rw [hs] at h; cases h
    | some x => rw [hs] at h; cases h; rfl
  refine ⟨fun i j p q hi hj hpq => ?_, fun k q hk => ?_⟩
  · have h1 := key i p hi
    have h2 := key j q hj
    omega
  · have h1 := key k q hk
    show N0 ≤ q.1
    omega
theorem wsl_set {b N0 : Nat} {aK : Nat → ClassId} {st st' : ab_S} {o : Nat} {h : Nat × Nat} {e : va_E} (hs : (sH st)[o + 2]? = some h) (hH : sH st' = sH st) (he : en b N0 aK st' (o + 2) h = e) (ho : ∀ i h', i ≠ o → en b N0 aK st' (i + 2) h' = en b N0 aK st (i + 2) h') : (wsl b N0 aK st).set o (N0 + o, e) = wsl b N0 aK st' := by
  apply List.ext_getElem?
  intro j
  rw [List.getElem?_set, wsl_q, wsl_q, hH]
  have hl : o < (wsl b N0 aK st).length := (List.getElem?_eq_some_iff.mp (wsl_get (b := b) (N0 := N0) (aK := aK) hs)).1
  by_cases hj : o = j
  · subst hj
    rw [if_pos rfl, if_pos hl, hs]
    simp only [Option.map_some, he]
  · rw [if_neg hj]
    cases (sH st)[j + 2]? with
    | none => rfl
    | some x => simp only [Option.map_some]; rw [ho j x (fun q => hj q.symm)]
theorem wsl_push {b N0 : Nat} {aK : Nat → ClassId} {st st' : ab_S} {h : Nat × Nat} {e : va_E} (h2 : 2 ≤ (sH st).length) (hH : sH st' = sH st ++ [h]) (he : en b N0 aK st' (sH st).length h = e) (ho : ∀ i h', i < (sH st).length → en b N0 aK st' i h' = en b N0 aK st i h') : wsl b N0 aK st ++ [(N0 + ((sH st).length - 2), e)] = wsl b N0 aK st' := by
  have hlen : (wsl b N0 aK st).length = (sH st).length - 2 := by simp [wsl]
  apply List.ext_getElem?
  intro j
  rw [wsl_q, hH]
  by_cases hj : j + 2 < (sH st).length
  · rw [List.getElem?_append_left (by omega), List.getElem?_append_left hj, wsl_q]
    cases hx : (sH st)[j + 2]? with
    | none => rfl
    | some x => simp only [Option.map_some]; rw [ho _ x hj]
  · by_cases hj2 : j + 2 = (sH st).length
    · rw [List.getElem?_append_right (by omega), List.getElem?_append_right (by omega), hlen, hj2, Nat.sub_self, show j - ((sH st).length - 2) = 0 by omega]
      simp only [List.getElem?_cons_zero, Option.map_some, he]
      congr 2
      omega
    · rw [List.getElem?_eq_none (by simp; omega), List.getElem?_eq_none (by simp; omega)]
      rfl
/-- which shapes there are, from 2 on -/
def shOK (h : Nat × Nat) : Prop := (h.1 = 0 ∧ h.2 < 12) ∨ h.1 = 1 ∨ h.1 = 2 ∨ h.1 = 3 ∨ h.1 = 4 ∨ h.1 = 5 ∨ h.1 = 8 ∨ h.1 = 12 ∨ h.1 = 17
abbrev tys (aK : Nat → ClassId) : List (ClassId × FieldType) := [(aK 1, .int), (aK 2, .long), (aK 3, .byte), (aK 4, .boolean), (aK 5, .array .int), (aK 8, .object RX0), (aK 12, .object RX4), (aK 17, .object RX9)]
def rp (D : va_G) (aK : Nat → ClassId) (b N0 L : Nat) (xs : Nat → Int32) (st : ab_S) (H : Heap) : Prop :=
  va_P D ab_cl (wsl b N0 aK st) H ∧ H.size + 2 = N0 + (sH st).length ∧ (sH st)[0]? = some (6, 0) ∧ (sH st)[1]? = some (7, L) ∧ (∀ j, j < L → sI st 1 j = xs j) ∧ ∀ i h, (sH st)[i + 2]? = some h → shOK h
/-- the rows of an array of arrays of int are arrays of int -/
def rkI (aK : Nat → ClassId) (U : State) : Prop := ∃ kA : Class, U.vm.classes[aK 5]? = some kA ∧ kA.kind = .array (aK 1) (.array .int)
theorem rkI.moved {aK : Nat → ClassId} {u U : State} (hvm : u.vm.Alike U.vm) (h : rkI aK u) : rkI aK U := by
  obtain ⟨k, h1, h2⟩ := h
  obtain ⟨k', hk', he⟩ := hvm.2.2 _ _ h1
  exact ⟨k', hk', by rw [he]; exact h2⟩
/-- what the tables say, and where the script is -/
def rk (D : va_G) (aK : Nat → ClassId) (b N0 L : Nat) (xs : Nat → Int32) (U : State) : Prop :=
  va_K D ab_cl (tys aK) U ∧ (∀ w ∈ ab_nw, va_Nw w U) ∧ va_AO RX0 U ∧ va_AO RX4 U ∧ (va_AO RX9 U ∧ rkI aK U) ∧ va_X b L xs U U.heap ∧ b < N0 ∧ N0 ≤ U.heap.size
theorem rp_ge {D : va_G} {aK : Nat → ClassId} {b N0 L : Nat} {xs : Nat → Int32} {st : ab_S} {H : Heap} (h : rp D aK b N0 L xs st H) {o : Nat} {q : Nat × Nat} (hs : (sH st)[o]? = some q) (h6 : q.1 ≠ 6) (h7 : q.1 ≠ 7) : ∃ o', o = o' + 2 := by
  obtain ⟨-, -, h0, h1, -⟩ := h
  match o, hs with
  | 0, hs => rw [h0] at hs; cases hs; exact absurd rfl h6
  | 1, hs => rw [h1] at hs; cases hs; exact absurd rfl h7
  | o + 2, _ => exact ⟨o, rfl⟩
/-- one cell changes -/
theorem rp_set {D : va_G} {aK : Nat → ClassId} {b N0 L : Nat} {xs : Nat → Int32} {st st' : ab_S} {H H1 : Heap} {o : Nat} {q : Nat × Nat} (hr : rp D aK b N0 L xs st H) (hs : (sH st)[o + 2]? = some q) (hH : sH st' = sH st) (hI : ∀ j, sI st' 1 j = sI st 1 j) (ho : ∀ i h', i ≠ o → en b N0 aK st' (i + 2) h' = en b N0 aK st (i + 2) h')
    (hz : H1.size = H.size) (hq : ∀ a : Nat, a ≠ N0 + o → H1[a]? = H[a]?) (hat : va_at D ab_cl (N0 + o, en b N0 aK st' (o + 2) q) H1) : rp D aK b N0 L xs st' H1 := by
  obtain ⟨h1, h2, h3, h4, h5, h6⟩ := hr
  refine ⟨?_, by rw [hz, hH]; exact h2, by rw [hH]; exact h3, by rw [hH]; exact h4, fun j hj => by rw [hI]; exact h5 j hj, fun i h hi => h6 i h (by rw [← hH]; exact hi)⟩
  rw [← wsl_set hs hH rfl ho]
  exact h1.set (wsl_D b N0 aK st) (wsl_get hs) hat hq
theorem rp_push {D : va_G} {aK : Nat → ClassId} {b N0 L : Nat} {xs : Nat → Int32} {st : ab_S} {H H1 : Heap} {q : Nat × Nat} (hr : rp D aK b N0 L xs st H) (hok : shOK q) (hz : H1.size = H.size + 1) (hq : ∀ a : Nat, a < H.size → H1[a]? = H[a]?) (hat : va_at D ab_cl (H.size, en b N0 aK (ab_mk st q) (sH st).length q) H1) : rp D aK b N0 L xs (ab_mk st q) H1 := by
  obtain ⟨h1, h2, h3, h4, h5, h6⟩ := hr
  have hl : 2 ≤ (sH st).length := by
    have := (List.getElem?_eq_some_iff.mp h4).1
    omega
  have hne : ∀ i, i < (sH st).length → i ≠ st.2.2.2.length := fun i hi => Nat.ne_of_lt hi
  have hen : ∀ i h', i < (sH st).length → en b N0 aK (ab_mk st q) i h' = en b N0 aK st i h' := by
    intro i h' hi
    have e1 : sI (ab_mk st q) i = sI st i := by funext k; simp [sI, ab_mk, hne i hi]
    have e2 : sJ (ab_mk st q) i = sJ st i := by funext k; simp [sJ, ab_mk, hne i hi]
    have e3 : sR (ab_mk st q) i = sR st i := by funext k; simp [sR, ab_mk, hne i hi]
    unfold en
    rw [e1, e2, e3, flv_congr (st' := ab_mk st q) (st := st) (fun k t => by unfold fv; rw [e1, e2, e3])]
  have ha : H.size = N0 + ((sH st).length - 2) := by omega
  refine ⟨?_, by show H1.size + 2 = N0 + (st.2.2.2 ++ [q]).length; rw [hz, List.length_append]; show H.size + 1 + 2 = N0 + ((sH st).length + 1); omega, ?_, ?_, fun j hj => ?_, fun i h hi => ?_⟩
  · rw [← wsl_push hl (show sH (ab_mk st q) = sH st ++ [q] from rfl) rfl hen]
    refine va_P.app (h1.kept (fun k x hx => hq x.1 ((h1 k x hx).lt))) (fun k x hx => ?_)
    have hz : k < 1 := (List.getElem?_eq_some_iff.mp hx).1
    rw [show k = 0 by omega] at hx
    cases hx
    rw [← ha]
    exact hat
  · show (st.2.2.2 ++ [q])[0]? = _
    rw [List.getElem?_append_left (show 0 < st.2.2.2.length from by show 0 < (sH st).length; omega)]
    exact h3
  · show (st.2.2.2 ++ [q])[1]? = _
    rw [List.getElem?_append_left (show 1 < st.2.2.2.length from by show 1 < (sH st).length; omega)]
    exact h4
  · have : sI (ab_mk st q) 1 j = sI st 1 j := by
      have := hne 1 (by omega)
      simp [sI, ab_mk, this]
    rw [this]
    exact h5 j hj
  · have hi : (sH st ++ [q])[i + 2]? = some h := hi
    by_cases hlt : i + 2 < (sH st).length
    · rw [List.getElem?_append_left hlt] at hi
      exact h6 i h hi
    · rw [List.getElem?_append_right (by omega)] at hi
      have hz : i + 2 - (sH st).length < 1 := (List.getElem?_eq_some_iff.mp hi).1
      rw [show i + 2 - (sH st).length = 0 by omega] at hi
      cases hi
      exact hok
/-- cells and slots -/
def ns1 (h : Nat × Nat) : Nat := if h.1 = 0 then (ab_fk h.2).length else h.2
def nsl (l : List (Nat × Nat)) : Nat := (l.map ns1).sum
def ext (a c : ab_S) : Prop := ∃ t, sH c = sH a ++ t
theorem ext_rfl {a : ab_S} : ext a a := ⟨[], by simp⟩
theorem ext_eq {a c : ab_S} (h : sH c = sH a) : ext a c := ⟨[], by simp [h]⟩
theorem ext_trans {a c d : ab_S} (h : ext a c) (h2 : ext c d) : ext a d := by
  obtain ⟨t, h⟩ := h
  obtain ⟨u, h2⟩ := h2
  exact ⟨t ++ u, by rw [h2, h, List.append_assoc]⟩
theorem ext_len {a c : ab_S} (h : ext a c) : (sH a).length ≤ (sH c).length := by
  obtain ⟨t, h⟩ := h
  rw [h, List.length_append]; omega
theorem ext_ns {a c : ab_S} (h : ext a c) : nsl (sH a) ≤ nsl (sH c) := by
  obtain ⟨t, h⟩ := h
  rw [h]; unfold nsl; rw [List.map_append, List.sum_append]; omega
theorem ext_mk {a : ab_S} {h : Nat × Nat} : ext a (ab_mk a h) := ⟨[h], rfl⟩
theorem len_mk {a : ab_S} {h : Nat × Nat} : (sH (ab_mk a h)).length = (sH a).length + 1 := by
  show (sH a ++ [h]).length = _
  simp
theorem nsl_mk {a : ab_S} {h : Nat × Nat} : nsl (sH (ab_mk a h)) = nsl (sH a) + ns1 h := by
  show nsl (sH a ++ [h]) = _
  unfold nsl
  simp
