/-! TERMS: a dictionary D (a list of signs and outs) in the Terms object o, whose arrays are o + 1, o + 2, o + 3 -/
abbrev Dc : Type := List (List Nat × Nat)
def tmAt (st : ab_S) (o t : Nat) (x : List Nat × Nat) : Prop := sI st (o + 1) t = nI x.1.length ∧ x.1.length ≤ 12 ∧ (∀ k s, x.1[k]? = some s → sI st (o + 2) (t * 12 + k) = nI s ∧ s < 256) ∧ sJ st (o + 3) t = lN x.2 ∧ x.2 ≤ 1000000000000
def isTm (st : ab_S) (o : Nat) (D : Dc) : Prop := (sH st)[o]? = some (0, 7) ∧ (sH st)[o + 1]? = some (1, 200) ∧ (sH st)[o + 2]? = some (1, 2400) ∧ (sH st)[o + 3]? = some (2, 200) ∧ sR st o 0 = o + 1 ∧ sR st o 1 = o + 2 ∧ sR st o 2 = o + 3 ∧ sI st o 3 = nI D.length ∧ D.length ≤ 200 ∧ ∀ t x, D[t]? = some x → tmAt st o t x
theorem isTm_up {W : Nat → Prop} {st st' : ab_S} {o : Nat} {D : Dc} (h : isTm st o D) (hu : upto W st st') (h0 : ¬ W o) (h1 : ¬ W (o + 1)) (h2 : ¬ W (o + 2)) (h3 : ¬ W (o + 3)) : isTm st' o D := by
  obtain ⟨a1, a2, a3, a4, a5, a6, a7, a8, a9, a10⟩ := h
  obtain ⟨u1, u2, u3⟩ := hu
  refine ⟨by rw [u1]; exact a1, by rw [u1]; exact a2, by rw [u1]; exact a3, by rw [u1]; exact a4, by rw [u2]; exact a5, by rw [u2]; exact a6, by rw [u2]; exact a7, by rw [(u3 _ h0).1]; exact a8, a9, fun t x hx => ?_⟩
  obtain ⟨b1, b2, b3, b4, b5⟩ := a10 t x hx
  exact ⟨by rw [(u3 _ h1).1]; exact b1, b2, fun k s hk => by rw [(u3 _ h2).1]; exact b3 k s hk, by rw [(u3 _ h3).2]; exact b4, b5⟩
section TM
variable {st : ab_S} {o : Nat} {D : Dc}
theorem has_neg (h : isTm st o D) {i : Int32} (hi : i < 0) : f_X7_has o i st = some (some (.int 0), st) := by
  rw [e_X7_has_0, rc_ok h.1, if_pos hi, z_0]
theorem has_n (h : isTm st o D) {n : Nat} (hn : n < 2147483648) : f_X7_has o (nI n) st = some (some (.int (if n < D.length then 1 else 0)), st) := by
  obtain ⟨a1, a2, a3, a4, a5, a6, a7, a8, a9, a10⟩ := h
  rw [e_X7_has_0, rc_ok a1, if_neg (nI_pos hn), gI_ok a1, Option.bind_some, a8, z_0, z_1, nl 200]
  by_cases h1 : n < D.length
  · rw [if_neg (by rw [c_le (by omega) hn]; omega), if_neg (by rw [c_le (by omega) hn]; omega), if_pos h1]
  · rw [if_pos (by rw [c_le (by omega) hn]; omega), if_neg h1]
theorem lengthAt_neg (h : isTm st o D) {i : Int32} (hi : i < 0) : f_X7_lengthAt o i st = some (some (.int (-1)), st) := by
  rw [e_X7_lengthAt_0, rc_ok h.1, has_neg h hi, ri_ok, if_pos rfl]
theorem lengthAt_no (h : isTm st o D) {n : Nat} (hn : n < 2147483648) (h1 : D.length ≤ n) : f_X7_lengthAt o (nI n) st = some (some (.int (-1)), st) := by
  rw [e_X7_lengthAt_0, rc_ok h.1, has_n h hn, ri_ok, if_neg (show ¬ n < D.length by omega), if_pos rfl]
theorem lt_of_get {t : Nat} {x : List Nat × Nat} (hx : D[t]? = some x) : t < D.length := (List.getElem?_eq_some_iff.mp hx).1
theorem lengthAt_ok (h : isTm st o D) {t : Nat} {x : List Nat × Nat} (hx : D[t]? = some x) : f_X7_lengthAt o (nI t) st = some (some (.int (nI x.1.length)), st) := by
  have hl := lt_of_get hx
  have h9 := h.2.2.2.2.2.2.2.2.1
  rw [e_X7_lengthAt_0, rc_ok h.1, has_n h (by omega), ri_ok, if_pos hl, if_neg (by decide), gR_ok h.1, Option.bind_some, h.2.2.2.2.1, rI_ok h.2.1 (by omega) (by omega), Option.bind_some, (h.2.2.2.2.2.2.2.2.2 t x hx).1]
theorem signAt_ok (h : isTm st o D) {t k : Nat} {x : List Nat × Nat} (hx : D[t]? = some x) (hk : k < 2147483648) : f_X7_signAt o (nI t) (nI k) st = some (some (.int (lg x.1 k)), st) := by
  have hl := lt_of_get hx
  have h9 := h.2.2.2.2.2.2.2.2.1
  obtain ⟨b1, b2, b3, b4, b5⟩ := h.2.2.2.2.2.2.2.2.2 t x hx
  rw [e_X7_signAt_0, rc_ok h.1, if_neg (nI_pos hk), lengthAt_ok h hx, ri_ok]
  by_cases h1 : k < x.1.length
  · have hg : x.1[k]? = some x.1[k] := List.getElem?_eq_getElem h1
    rw [if_pos (by rw [c_lt hk (by omega)]; exact h1), gR_ok h.1, Option.bind_some, h.2.2.2.2.2.1, nl 12, a_mul, a_add, rI_ok h.2.2.1 (by omega) (by omega), Option.bind_some, (b3 k _ hg).1, lg_some hg]
  · rw [if_neg (by rw [c_lt hk (by omega)]; exact h1), lg_none (List.getElem?_eq_none (by omega))]
theorem outAt_neg (h : isTm st o D) {i : Int32} (hi : i < 0) : f_X7_outAt o i st = some (some (.long (-1)), st) := by
  rw [e_X7_outAt_0, rc_ok h.1, has_neg h hi, ri_ok, if_pos rfl]
theorem outAt_no (h : isTm st o D) {n : Nat} (hn : n < 2147483648) (h1 : D.length ≤ n) : f_X7_outAt o (nI n) st = some (some (.long (-1)), st) := by
  rw [e_X7_outAt_0, rc_ok h.1, has_n h hn, ri_ok, if_neg (show ¬ n < D.length by omega), if_pos rfl]
theorem outAt_ok (h : isTm st o D) {t : Nat} {x : List Nat × Nat} (hx : D[t]? = some x) : f_X7_outAt o (nI t) st = some (some (.long (lN x.2)), st) := by
  have hl := lt_of_get hx
  have h9 := h.2.2.2.2.2.2.2.2.1
  rw [e_X7_outAt_0, rc_ok h.1, has_n h (by omega), ri_ok, if_pos hl, if_neg (by decide), gR_ok h.1, Option.bind_some, h.2.2.2.2.2.2.1, rJ_ok h.2.2.2.1 (by omega) (by omega), Option.bind_some, (h.2.2.2.2.2.2.2.2.2 t x hx).2.2.2.1]
theorem compareWith_ok (h : isTm st o D) {t : Nat} {x : List Nat × Nat} (hx : D[t]? = some x) {a room : Nat} {w : List Nat} (hw : isSg st a room w) (hroom : 13 ≤ room) : f_X7_compareWith o (nI t) a st = some (some (.int (lcmp x.1 w)), st) := by
  obtain ⟨b1, b2, b3, b4, b5⟩ := h.2.2.2.2.2.2.2.2.2 t x hx
  have hw6 := hw.2.2.2.2.2.1
  have key : ∀ j i, x.1.length - i = j → i ≤ x.1.length → ∀ R, lcmp (x.1.drop i) (w.drop i) = R → L_X7_compareWith_2 o (nI t) a (nI i) st = some (some (.int R), st) := by
    intro j
    induction j with
    | zero =>
      intro i hj hi R hR
      have hi2 : i = x.1.length := by omega
      rw [e_X7_compareWith_2, nl 12, if_neg (by rw [c_lt (by omega) (by omega)]; omega), signAt_ok h hx (by omega), ri_ok, atn_ok hw (by omega), ri_ok]
      have hn : x.1[i]? = none := List.getElem?_eq_none (by omega)
      rw [lg_none hn]
      rw [drop_none hn] at hR
      cases hg : w[i]? with
      | none =>
        rw [drop_none hg] at hR
        rw [lg_none hg, if_pos rfl, if_pos rfl, ← hR]
        rfl
      | some s =>
        have hs := hw6 s (List.mem_of_getElem? hg)
        rw [drop_some hg] at hR
        rw [lg_some hg, if_neg (by rw [c_m1e' (by omega)]; exact id), if_neg (by rw [← Int32.not_lt, c_m1l (by omega)]; simp), ← hR]
        rfl
    | succ j ih =>
      intro i hj hi R hR
      rw [e_X7_compareWith_2, nl 12, if_neg (by rw [c_lt (by omega) (by omega)]; omega), signAt_ok h hx (by omega), ri_ok, atn_ok hw (by omega), ri_ok]
      have hg : x.1[i]? = some x.1[i] := List.getElem?_eq_getElem (by omega)
      have hs := (b3 i _ hg).2
      rw [drop_some hg] at hR
      generalize x.1[i] = u at hg hs hR
      rw [lg_some hg]
      cases hg2 : w[i]? with
      | none =>
        rw [drop_none hg2] at hR
        rw [lg_none hg2, if_neg (by rw [c_m1e (by omega)]; exact id), if_pos (Int32.le_of_lt (by rw [c_m1l (by omega)]; trivial)), ← hR]
        rfl
      | some v =>
        have hv := hw6 v (List.mem_of_getElem? hg2)
        rw [drop_some hg2] at hR
        rw [lg_some hg2]
        unfold lcmp at hR
        by_cases huv : u = v
        · rw [if_pos huv] at hR
          subst huv
          rw [if_pos rfl, if_neg (by rw [c_m1e (by omega)]; exact id), nl 1, a_add]
          exact ih (i + 1) (by omega) (by omega) R hR
        · rw [if_neg huv] at hR
          rw [if_neg (by rw [c_eq (by omega) (by omega)]; exact huv)]
          simp only [c_le (show v < 2147483648 by omega) (show u < 2147483648 by omega)]
          by_cases hlt : u < v
          · rw [if_pos hlt] at hR
            rw [if_neg (by omega), ← hR]
          · rw [if_neg hlt] at hR
            rw [if_pos (by omega), ← hR]
  rw [e_X7_compareWith_0, rc_ok h.1, nl 0]
  exact key _ 0 rfl (by omega) _ rfl
end TM
