/-! CHEAPEST -/
theorem lc_le {a b : Nat} (ha : a < 9223372036854775808) (hb : b < 9223372036854775808) : (lg_cmp (lN a) (lN b) ≤ 0) ↔ a ≤ b := by
  rw [← Int32.not_lt, lg_cmp_gt, pk_lLT hb ha]; omega
theorem lc_ge {a b : Nat} (ha : a < 9223372036854775808) (hb : b < 9223372036854775808) : (0 ≤ lg_cmp (lN a) (lN b)) ↔ b ≤ a := by
  rw [← Int32.not_lt, lg_cmp_lt, pk_lLT ha hb]; omega
section CHEAP
variable {L : Nat} {st : ab_S} {S : Sg}
def oc (D : Dc) (t : Nat) : Nat := match D[t]? with
  | some x => x.2
  | none => 0
theorem oc_some {D : Dc} {t : Nat} {x : List Nat × Nat} (h : D[t]? = some x) : oc D t = x.2 := by unfold oc; rw [h]
def ins (D : Dc) (t : Nat) : List Nat → List Nat
  | [] => [t]
  | u :: r => if oc D t < oc D u then t :: u :: r else u :: ins D t r
def plc (D : Dc) (t : Nat) : List Nat → Nat
  | [] => 0
  | u :: r => if oc D t < oc D u then 0 else plc D t r + 1
variable {D : Dc} {t : Nat}
theorem plc_le : ∀ {l : List Nat}, plc D t l ≤ l.length
  | [] => Nat.le_refl _
  | u :: r => by
    unfold plc
    have := plc_le (l := r)
    split <;> simp <;> omega
theorem ins_eq : ∀ {l : List Nat}, ins D t l = l.take (plc D t l) ++ t :: l.drop (plc D t l)
  | [] => rfl
  | u :: r => by
    unfold ins plc
    by_cases h : oc D t < oc D u
    · rw [if_pos h, if_pos h]; rfl
    · rw [if_neg h, if_neg h, ins_eq]; rfl
theorem ins_len {l : List Nat} : (ins D t l).length = l.length + 1 := by
  have := plc_le (D := D) (t := t) (l := l)
  rw [ins_eq]
  simp
  omega
theorem ins_lo {l : List Nat} {k : Nat} (h : k < plc D t l) : (ins D t l)[k]? = l[k]? := by
  have := plc_le (D := D) (t := t) (l := l)
  rw [ins_eq, List.getElem?_append_left (by simp; omega), List.getElem?_take_of_lt h]
theorem ins_at {l : List Nat} : (ins D t l)[plc D t l]? = some t := by
  have h := plc_le (D := D) (t := t) (l := l)
  rw [ins_eq, List.getElem?_append_right (by simp; omega)]
  simp [Nat.min_eq_left h]
theorem ins_hi {l : List Nat} {k : Nat} (h : plc D t l < k) : (ins D t l)[k]? = l[k - 1]? := by
  have h1 := plc_le (D := D) (t := t) (l := l)
  rw [ins_eq, List.getElem?_append_right (by simp; omega)]
  have e : k - (l.take (plc D t l)).length = (k - 1 - plc D t l) + 1 := by simp [Nat.min_eq_left h1]; omega
  rw [e, List.getElem?_cons_succ, List.getElem?_drop]
  congr 1
  omega
theorem ins_mem : ∀ {l : List Nat} {v : Nat}, v ∈ ins D t l ↔ v = t ∨ v ∈ l
  | [], v => by simp [ins]
  | u :: r, v => by
    unfold ins
    by_cases h : oc D t < oc D u
    · rw [if_pos h]; simp
    · rw [if_neg h, List.mem_cons, ins_mem, List.mem_cons]
      constructor
      · rintro (h | h | h)
        · exact Or.inr (Or.inl h)
        · exact Or.inl h
        · exact Or.inr (Or.inr h)
      · rintro (h | h | h)
        · exact Or.inr (Or.inl h)
        · exact Or.inl h
        · exact Or.inr (Or.inr h)
def sO' (D : Dc) (l : List Nat) : Prop := l.Pairwise (fun u v => oc D u ≤ oc D v)
theorem ins_srt : ∀ {l : List Nat}, sO' D l → sO' D (ins D t l)
  | [], _ => by simp [sO', ins]
  | u :: r, h => by
    have h1 := List.pairwise_cons.mp h
    unfold ins
    by_cases hlt : oc D t < oc D u
    · rw [if_pos hlt]
      refine List.pairwise_cons.mpr ⟨fun v hv => ?_, h⟩
      rcases List.mem_cons.mp hv with rfl | hv
      · omega
      · have := h1.1 v hv; omega
    · rw [if_neg hlt]
      refine List.pairwise_cons.mpr ⟨fun v hv => ?_, ins_srt h1.2⟩
      rcases ins_mem.mp hv with rfl | hv
      · omega
      · exact h1.1 v hv
theorem plc_iff : ∀ {l : List Nat}, sO' D l → ∀ {i u : Nat}, l[i]? = some u → (i < plc D t l ↔ oc D u ≤ oc D t)
  | [], _, i, u, h => by simp at h
  | v :: r, hs, i, u, h => by
    have h1 := List.pairwise_cons.mp hs
    unfold plc
    by_cases hlt : oc D t < oc D v
    · rw [if_pos hlt]
      have : oc D v ≤ oc D u := by
        rcases List.mem_cons.mp (List.mem_of_getElem? h) with rfl | hm
        · exact Nat.le_refl _
        · exact h1.1 u hm
      omega
    · rw [if_neg hlt]
      match i, h with
      | 0, h => simp at h; subst h; omega
      | i + 1, h =>
        have := plc_iff h1.2 (i := i) (u := u) (by simpa using h)
        omega
theorem plc_take : ∀ {l : List Nat} {n : Nat}, plc D t (l.take n) = min n (plc D t l)
  | [], n => by simp [plc]
  | u :: r, 0 => by simp [plc]
  | u :: r, n + 1 => by
    rw [List.take_succ_cons]
    unfold plc
    by_cases h : oc D t < oc D u
    · rw [if_pos h, if_pos h]; simp
    · rw [if_neg h, if_neg h, plc_take]; omega
theorem ins_take {l : List Nat} {n : Nat} : (ins D t (l.take n)).take n = (ins D t l).take n := by
  apply List.ext_getElem?
  intro k
  by_cases hk : k < n
  · rw [List.getElem?_take_of_lt hk, List.getElem?_take_of_lt hk]
    have hp := plc_take (D := D) (t := t) (l := l) (n := n)
    rcases Nat.lt_trichotomy k (plc D t l) with h | h | h
    · rw [ins_lo h, ins_lo (by omega), List.getElem?_take_of_lt hk]
    · have : k = plc D t (l.take n) := by omega
      rw [h, ins_at]
      rw [← h, this, ins_at]
    · rw [ins_hi h, ins_hi (by omega), List.getElem?_take_of_lt (by omega)]
  · rw [List.getElem?_eq_none (by rw [List.length_take]; omega), List.getElem?_eq_none (by rw [List.length_take]; omega)]
def rnk (D : Dc) (l : List Nat) : List Nat := l.foldl (fun acc t => ins D t acc) []
def rnkN (D : Dc) (n : Nat) (l : List Nat) : List Nat := l.foldl (fun acc t => (ins D t acc).take n) []
theorem rnk_eq {n : Nat} : ∀ {l : List Nat} (acc : List Nat), l.foldl (fun acc t => (ins D t acc).take n) (acc.take n) = (l.foldl (fun acc t => ins D t acc) acc).take n
  | [], acc => rfl
  | t :: l, acc => by
    rw [List.foldl_cons, List.foldl_cons, ins_take, rnk_eq]
theorem rnkN_eq {n : Nat} {l : List Nat} : rnkN D n l = (rnk D l).take n := by
  have := rnk_eq (D := D) (n := n) (l := l) []
  rw [List.take_nil] at this
  exact this
theorem rnk_srt : ∀ {l acc : List Nat}, sO' D acc → sO' D (l.foldl (fun acc t => ins D t acc) acc)
  | [], acc, h => h
  | t :: l, acc, h => by rw [List.foldl_cons]; exact rnk_srt (ins_srt h)
theorem rnk_len : ∀ {l acc : List Nat}, (l.foldl (fun acc t => ins D t acc) acc).length = acc.length + l.length
  | [], acc => rfl
  | t :: l, acc => by rw [List.foldl_cons, rnk_len, ins_len, List.length_cons]; omega
theorem rnk_mem : ∀ {l acc : List Nat} {v : Nat}, v ∈ l.foldl (fun acc t => ins D t acc) acc → v ∈ acc ∨ v ∈ l
  | [], acc, v, h => Or.inl h
  | t :: l, acc, v, h => by
    rw [List.foldl_cons] at h
    rcases rnk_mem h with h | h
    · rcases ins_mem.mp h with rfl | h
      · exact Or.inr (List.mem_cons_self ..)
      · exact Or.inl h
    · exact Or.inr (List.mem_cons_of_mem _ h)
theorem rnk_snoc {l : List Nat} {t : Nat} : rnk D (l ++ [t]) = ins D t (rnk D l) := by simp [rnk]
theorem nI_m1 (n : Nat) : nI n + (-1) = nI n - 1 := (Int32.sub_eq_add_neg ..).symm
/-- one of the class's found rows, sorted, takes in another -/
theorem rankFound_ok (h : CS L st S) {o : Nat} (hT : isTm st o D) (ho : 65 < o) {n : Nat} (hn : n ≤ 200) (hn1 : 1 ≤ n) (hs : sO' D (sM S)) (hl : (sM S).length ≤ n) (hm : ∀ u ∈ sM S, u < D.length) {x : List Nat × Nat} (hx : D[t]? = some x) : ∃ st', f_X10_rankFound 2 o (nI t) (nI n) st = some (none, st') ∧ CS L st' (setM S ((ins D t (sM S)).take n)) ∧ upto (fun q => q = 2 ∨ q = 61) st st' := by
  obtain ⟨g1, g2⟩ := h.2.2.2.2.2.1
  have hD := hT.2.2.2.2.2.2.2.2.1
  have htl := lt_of_get hx
  have hx5 := (hT.2.2.2.2.2.2.2.2.2 t x hx).2.2.2.2
  have hpl := plc_le (D := D) (t := t) (l := sM S)
  have hot := oc_some hx
  have k21 : ∀ j, j ≤ (sM S).length → plc D t (sM S) ≤ j → L_X10_rankFound_21 2 o (nI t) (nI n) (lN x.2) (nI j) (nI j - 1) st = L_X10_rankFound_53 2 (nI t) (nI n) (nI (plc D t (sM S))) st := by
    intro j
    induction j with
    | zero =>
      intro _ hp
      rw [e_X10_rankFound_21, if_pos (by decide), show plc D t (sM S) = 0 by omega]
    | succ j ih =>
      intro hj hp
      have hg : (sM S)[j]? = some (sM S)[j] := List.getElem?_eq_getElem (by omega)
      have hul := hm _ (List.mem_of_getElem? hg)
      have hgu : D[(sM S)[j]]? = some D[(sM S)[j]] := List.getElem?_eq_getElem hul
      have hu5 := (hT.2.2.2.2.2.2.2.2.2 _ _ hgu).2.2.2.2
      have hpi := plc_iff (t := t) hs hg
      rw [oc_some hgu, hot] at hpi
      rw [nI_pred, e_X10_rankFound_21, if_neg (nI_pos (by omega)), gR_ok (sh2 h), Option.bind_some, Fx_rf h.1 (v := 61) (by decide), rI_ok (Fx_sh h.1 (o := 61) rfl) (by omega) (by omega), Option.bind_some, g2 j _ hg, outAt_ok hT hgu, rl_ok]
      by_cases hle : (D[(sM S)[j]]).2 ≤ x.2
      · have : j < plc D t (sM S) := hpi.mpr hle
        rw [if_pos ((lc_le (by omega) (by omega)).mpr hle), show plc D t (sM S) = j + 1 by omega]
      · have : ¬ j < plc D t (sM S) := fun q => hle (hpi.mp q)
        rw [if_neg (fun q => hle ((lc_le (by omega) (by omega)).mp q)), nI_m1]
        exact ih (by omega) (by omega)
  rw [e_X10_rankFound_0, rc_ok (sh2 h), outAt_ok hT hx, rl_ok, gI_ok (sh2 h), Option.bind_some, Option.bind_some, g1, k21 _ (Nat.le_refl _) hpl]
  generalize hp : plc D t (sM S) = p at hpl
  by_cases hpn : n ≤ p
  · refine ⟨st, ?_, ?_, upto_rfl⟩
    · rw [e_X10_rankFound_53, if_pos (by rw [c_le (by omega) (by omega)]; exact hpn)]
    · have : (ins D t (sM S)).take n = sM S := by
        rw [ins_eq, hp, List.take_append_of_le_length (by simp; omega), List.take_take, List.take_of_length_le (by omega)]
      rw [this]
      exact h
  · -- the row from here on
    have k104 : ∀ m, p < m → m ≤ 200 → m ≤ (sM S).length + 1 → ∀ j i st1, i - p = j → p ≤ i → i < m → Fx L st1 → (∀ k u, k ≤ i → (sM S)[k]? = some u → sI st1 61 k = nI u) → (∀ k u, i < k → k < m → (ins D t (sM S))[k]? = some u → sI st1 61 k = nI u) → ∃ st', L_X10_rankFound_104 2 (nI t) (nI p) (nI i) st1 = some (none, st') ∧ upto (fun q => q = 61) st1 st' ∧ ∀ k u, k < m → (ins D t (sM S))[k]? = some u → sI st' 61 k = nI u := by
      intro m hpm hm2 hml j
      induction j with
      | zero =>
        intro i st1 hj hpi him hF hlo hhi
        have : i = p := by omega
        subst this
        refine ⟨uI st1 61 i (nI t), ?_, upto_uI rfl, fun k u hk hu => ?_⟩
        · rw [e_X10_rankFound_104, if_pos (Int32.le_refl _), gR_ok (Fx_sh hF rfl), Option.bind_some, Fx_rf hF (v := 61) (by decide), wI_ok (Fx_sh hF (o := 61) rfl) (by omega) (by omega), Option.bind_some]
        · rw [I_uI]
          rcases Nat.lt_trichotomy k i with hlt | heq | hgt
          · rw [if_neg (fun z => by omega)]
            rw [ins_lo (by omega)] at hu
            exact hlo k u (by omega) hu
          · subst heq
            rw [← hp, ins_at] at hu
            cases hu
            rw [if_pos ⟨rfl, rfl⟩]
          · rw [if_neg (fun z => by omega)]
            exact hhi k u hgt hk hu
      | succ j ih =>
        intro i st1 hj hpi him hF hlo hhi
        obtain ⟨i', rfl⟩ : ∃ i', i = i' + 1 := ⟨i - 1, by omega⟩
        have hg : (sM S)[i']? = some (sM S)[i'] := List.getElem?_eq_getElem (by omega)
        rw [e_X10_rankFound_104, if_neg (by rw [c_le (by omega) (by omega)]; omega), gR_ok (Fx_sh hF rfl), Option.bind_some, Option.bind_some, Fx_rf hF (v := 61) (by decide), nI_pred, rI_ok (Fx_sh hF (o := 61) rfl) (by omega) (by omega), Option.bind_some, wI_ok (Fx_sh hF (o := 61) rfl) (by omega) (by omega), Option.bind_some, nI_m1, nI_pred]
        have hu1 : upto (fun q => q = 61) st1 (uI st1 61 (i' + 1) (sI st1 61 i')) := upto_uI rfl
        obtain ⟨st', r1, r2, r3⟩ := ih i' (uI st1 61 (i' + 1) (sI st1 61 i')) (by omega) (by omega) (by omega) (Fx_up hF hu1) (fun k u hk hu => by
          rw [I_uI, if_neg (fun z => by omega)]; exact hlo k u (by omega) hu) (fun k u hk hkm hu => by
          rw [I_uI]
          by_cases hki : k = i' + 1
          · subst hki
            rw [if_pos ⟨rfl, rfl⟩]
            rw [ins_hi (by omega), Nat.add_sub_cancel] at hu
            exact hlo i' u (by omega) hu
          · rw [if_neg (fun z => hki z.2)]; exact hhi k u (by omega) hkm hu)
        exact ⟨st', r1, upto_trans hu1 r2, r3⟩
    have fin : ∀ m st1, p < m → m ≤ 200 → m ≤ (sM S).length + 1 → m ≤ n → (n = m ∨ m = (sM S).length + 1) → upto (fun q => q = 2) st st1 → sI st1 2 10 = nI m → sI st1 2 11 = sI st 2 11 → ∃ st', L_X10_rankFound_96 2 (nI t) (nI p) st1 = some (none, st') ∧ CS L st' (setM S ((ins D t (sM S)).take n)) ∧ upto (fun q => q = 2 ∨ q = 61) st st' := by
      intro m st1 hpm hm2 hml hmn hmm hu h10 h11
      have hF1 : Fx L st1 := Fx_up h.1 hu
      have e61 : sI st1 61 = sI st 61 := (hu.2.2 61 (by omega)).1
      obtain ⟨m', rfl⟩ : ∃ m', m = m' + 1 := ⟨m - 1, by omega⟩
      obtain ⟨st', r1, r2, r3⟩ := k104 (m' + 1) hpm hm2 hml _ m' st1 rfl (by omega) (by omega) hF1 (fun k u hk hu => by rw [e61]; exact g2 k u hu) (fun k u hk hk2 => by omega)
      have hU : upto (fun q => q = 2 ∨ q = 61) st st' := upto_trans (upto_mono hu (fun q hq => Or.inl hq)) (upto_mono r2 (fun q hq => Or.inr hq))
      refine ⟨st', ?_, CS_M h hU ?_ ?_ (fun k u hk => ?_), hU⟩
      · rw [e_X10_rankFound_96, gI_ok (Fx_sh hF1 rfl), Option.bind_some, h10, nI_pred, r1]
      · rw [(r2.2.2 2 (by omega)).1, h10, List.length_take, ins_len]
        congr 1
        omega
      · rw [(r2.2.2 2 (by omega)).1, h11]
      · have hk2 : k < n := by
          have := (List.getElem?_eq_some_iff.mp hk).1
          rw [List.length_take] at this
          omega
        rw [List.getElem?_take_of_lt hk2] at hk
        have := (List.getElem?_eq_some_iff.mp hk).1
        rw [ins_len] at this
        exact r3 k u (by omega) hk
    rw [e_X10_rankFound_53, if_neg (by rw [c_le (by omega) (by omega)]; exact hpn), nl 200, if_pos (by rw [c_lt (by omega) (by omega)]; omega), gI_ok (sh2 h), Option.bind_some, g1]
    by_cases hfull : n ≤ (sM S).length
    · rw [if_pos (by rw [c_le (by omega) (by omega)]; exact hfull)]
      have : (sM S).length = n := by omega
      exact fin n st (by omega) hn (by omega) (Nat.le_refl _) (Or.inl rfl) upto_rfl (by rw [g1, this]) rfl
    · rw [if_neg (by rw [c_le (by omega) (by omega)]; exact hfull), Option.bind_some, if_neg (by rw [c_le (by omega) (by omega)]; omega), Option.bind_some, pI_ok (sh2 h), Option.bind_some, nI_1]
      exact fin ((sM S).length + 1) _ (by omega) (by omega) (Nat.le_refl _) (by omega) (Or.inr rfl) (upto_uI rfl) (by rw [I_uI, if_pos ⟨rfl, rfl⟩]) (by rw [I_uI, if_neg (fun z => by omega)])
end CHEAP
