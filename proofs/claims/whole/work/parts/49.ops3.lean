/-! CALLS that only look, as functions of the state: the answer, the state behind it -/
def withD {α : Type} (d : Int32) (bad : α) (f : Nat → α) : α := if 0 ≤ d.toInt ∧ d.toInt < 4 then f d.toNatClampNeg else bad
theorem withD_no {α : Type} {d : Int32} {bad : α} {f : Nat → α} (h : ¬ isD d) : withD d bad f = bad := if_neg h
theorem withD_n {α : Type} {k : Nat} {bad : α} {f : Nat → α} (h : k < 4) : withD (nI k) bad f = f k := by unfold withD; rw [if_pos (show 0 ≤ (nI k).toInt ∧ (nI k).toInt < 4 from isD_n h), a_cl (by omega)]
theorem bi0 {α : Type} {b : Bool} {x y : α} (h : b = false) : (if b01 b = 0 then x else y) = x := if_pos (b01_0.mpr h)
theorem bi1 {α : Type} {b : Bool} {x y : α} (h : ¬ b = false) : (if b01 b = 0 then x else y) = y := if_neg (fun q => h (b01_0.mp q))
def outO (D : Dc) (t : Nat) : Int64 := match D[t]? with
  | some x => lN x.2
  | none => -1
def outN (D : Dc) : Option Nat → Int64
  | some t => outO D t
  | none => -1
/-- what a number of the caller's names -/
def atO {α : Type} (D : List α) (i : Int32) : Option α := if i < 0 then none else D[i.toNatClampNeg]?
theorem atO_neg {α : Type} {D : List α} {i : Int32} (h : i < 0) : atO D i = none := if_pos h
theorem atO_n {α : Type} {D : List α} {n : Nat} (h : n < 2147483648) : atO D (nI n) = D[n]? := by unfold atO; rw [if_neg (nI_pos h), a_cl h]
section LOOK2
variable {L : Nat} {st : ab_S} {S : Sg}
/-- the road of the calls that take what is collected and want a dictionary that is not open -/
def a_take {α : Type} (S : Sg) (d : Int32) (bad op : α) (f : Nat → α) : α × Sg := withD d (bad, S) fun k => (if sO S k = false then f k else op, setW S [])
theorem mOpen2 (h : MS L st S) {d : Nat} (hd : d < 4) : (Option.bind (ab_gR st 130 11 6) fun x => ab_rB st x (nI d)) = some (b01 (sO S d)) := by
  rw [gR_ok (sh130 h), Option.bind_some, Fx_rf h.1 (v := 136) (by decide), mOpen h hd]
theorem nofI_none {w : List Nat} {D : Dc} (h : nof w D = none) : nofI w D = -1 := by unfold nofI; rw [h]
theorem nofI_some {w : List Nat} {D : Dc} {t : Nat} (h : nof w D = some t) : nofI w D = nI t := by unfold nofI; rw [h]
theorem nof_lt {w : List Nat} {D : Dc} {t : Nat} (h : nof w D = some t) : ∃ x, D[t]? = some x := by
  unfold nof at h
  cases hg : D[bl w D]? with
  | none => rw [hg] at h; cases h
  | some x =>
    rw [hg] at h
    by_cases hx : x.1 = w
    · simp only [hx, if_true] at h
      cases h
      exact ⟨x, hg⟩
    · simp [hx] at h
def a_find (S : Sg) (d : Int32) : Int64 × Sg := a_take S d (-2) (-4) fun k => outN (sD S k) (nof (sW S) (sD S k))
theorem C_find (h : CS L st S) (hwf : wfS S) (d : Int32) : ∃ st', f_X10_find 2 d st = some (some (.long (a_find S d).1), st') ∧ CS L st' (a_find S d).2 ∧ onC st st' := by
  unfold a_find a_take
  rcases isD_cases d with hd | ⟨k, hd, rfl⟩
  · rw [withD_no hd]
    exact ⟨st, by rw [e_X10_find_0, rc_ok (sh2 h), cD_no hd, ri_ok, if_pos rfl], h, onC_rfl⟩
  · rw [withD_n hd]
    dsimp only
    obtain ⟨c, st', h1, h2, h3, h4, -, -⟩ := take_ok h
    obtain ⟨o, ho, q1, q2, q3, q4, q5⟩ := dic_at h2 hd
    change dicC st' o (sD S k) (sO S k) at q5
    refine ⟨st', ?_, h2, h4⟩
    rw [e_X10_find_0, rc_ok (sh2 h), cD_ok hd, ri_ok, if_neg (by decide), h1, rr_ok, gR_ok (sh2 h2), Option.bind_some, rf2_0 h2, q1, Option.bind_some, gI_ok q2, Option.bind_some, q5.2.1]
    by_cases hb : sO S k = false
    · rw [bi0 hb, if_pos hb, gR_ok q2, Option.bind_some, Option.bind_some, q3, numberOf_ok q5.1 (hwf.2.1 k hd) h3 (by omega), ri_ok]
      cases hn : nof (sW S) (sD S k) with
      | none => rw [nofI_none hn, outAt_neg q5.1 (by decide), rl_ok]; rfl
      | some t =>
        obtain ⟨x, hx⟩ := nof_lt hn
        rw [nofI_some hn, outAt_ok q5.1 (x := x) hx, rl_ok]
        show _ = some (some (Value.long (outO (sD S k) t)), st')
        unfold outO
        rw [hx]
    · rw [bi1 hb, if_neg hb]
theorem mOut (h : MS L st S) {d : Nat} (hd : d < 4) {t : Nat} {x : List Nat × Nat} (hx : (sD S d)[t]? = some x) : (Option.bind (ab_gR st 130 11 4) fun x9 => ab_rJ st x9 (((200 : Int32) * nI d) + nI t)) = some (lN x.2) := by
  have hi := (h.2.2.1 d hd).1
  have hl := lt_of_get hx
  have h2 := hi.2.1
  rw [gR_ok (sh130 h), Option.bind_some, Fx_rf h.1 (v := 134) (by decide), nl 200, a_mul, a_add, rJ_ok (Fx_sh h.1 (o := 134) rfl) (by omega) (by omega), (hi.2.2 t x hx).2.2.2.1]
theorem M_find (h : MS L st S) (hwf : wfS S) (d : Int32) : ∃ st', f_X11_find 130 d st = some (some (.long (a_find S d).1), st') ∧ MS L st' (a_find S d).2 ∧ onM st st' := by
  unfold a_find a_take
  rcases isD_cases d with hd | ⟨k, hd, rfl⟩
  · rw [withD_no hd]
    exact ⟨st, by rw [e_X11_find_0, rc_ok (sh130 h), mD_no hd, ri_ok, if_pos rfl], h, onM_rfl⟩
  · rw [withD_n hd]
    dsimp only
    obtain ⟨h1, h2, h3, h4⟩ := forgetM_ok h
    refine ⟨_, ?_, h2, h4⟩
    rw [e_X11_find_0, rc_ok (sh130 h), mD_ok hd, ri_ok, if_neg (by decide), h1, ri_ok, ← Option.bind_assoc, mOpen2 h2 hd, Option.bind_some]
    change (if b01 (sO S k) = 0 then _ else _) = _
    have hM : isMd _ k (sD S k) := (h2.2.2.1 k hd).1
    by_cases hb : sO S k = false
    · rw [bi0 hb, if_pos hb, place_ok h2.1 hd hM (hwf.2.1 k hd) h3, ri_ok]
      cases hn : nof (sW S) (sD S k) with
      | none => rw [nofI_none hn, if_pos rfl]; rfl
      | some t =>
        obtain ⟨x, hx⟩ := nof_lt hn
        have hl := lt_of_get hx
        have hl2 := hM.2.1
        rw [nofI_some hn, if_neg (by rw [c_m1e (by omega)]; exact id), ← Option.bind_assoc, mOut h2 hd hx, Option.bind_some]
        show _ = some (some (Value.long (outO (sD S k) t)), _)
        unfold outO
        rw [hx]
    · rw [bi1 hb, if_neg hb]
def a_number (S : Sg) (d : Int32) : Int32 × Sg := a_take S d (-2) (-4) fun k => nofI (sW S) (sD S k)
theorem C_number' (h : CS L st S) (hwf : wfS S) (d : Int32) : ∃ st', f_X10_number 2 d st = some (some (.int (a_number S d).1), st') ∧ CS L st' (a_number S d).2 ∧ onC st st' := by
  unfold a_number a_take
  rcases isD_cases d with hd | ⟨k, hd, rfl⟩
  · rw [withD_no hd]; exact ⟨st, C_number_no h hd, h, onC_rfl⟩
  · rw [withD_n hd]; exact C_number h hwf hd
theorem M_number' (h : MS L st S) (hwf : wfS S) (d : Int32) : ∃ st', f_X11_number 130 d st = some (some (.int (a_number S d).1), st') ∧ MS L st' (a_number S d).2 ∧ onM st st' := by
  unfold a_number a_take
  rcases isD_cases d with hd | ⟨k, hd, rfl⟩
  · rw [withD_no hd]; exact ⟨st, M_number_no h hd, h, onM_rfl⟩
  · rw [withD_n hd]; exact M_number h hwf hd
def a_ceiling (S : Sg) (d : Int32) : Int32 × Sg := a_take S d (-2) (-4) fun k => if bl (sW S) (sD S k) < (sD S k).length then nI (bl (sW S) (sD S k)) else -1
theorem mMany (h : MS L st S) {d : Nat} (hd : d < 4) : (Option.bind (ab_gR st 130 11 5) fun x => ab_rI st x (nI d)) = some (nI (sD S d).length) := by
  rw [gR_ok (sh130 h), Option.bind_some, Fx_rf h.1 (v := 135) (by decide), rI_ok (Fx_sh h.1 (o := 135) rfl) (by omega) (by omega), (h.2.2.1 d hd).1.1]
theorem C_ceiling (h : CS L st S) (hwf : wfS S) (d : Int32) : ∃ st', f_X10_ceiling 2 d st = some (some (.int (a_ceiling S d).1), st') ∧ CS L st' (a_ceiling S d).2 ∧ onC st st' := by
  unfold a_ceiling a_take
  rcases isD_cases d with hd | ⟨k, hd, rfl⟩
  · rw [withD_no hd]
    exact ⟨st, by rw [e_X10_ceiling_0, rc_ok (sh2 h), cD_no hd, ri_ok, if_pos rfl], h, onC_rfl⟩
  · rw [withD_n hd]
    dsimp only
    obtain ⟨c, st', h1, h2, h3, h4, -, -⟩ := take_ok h
    obtain ⟨o, ho, q1, q2, q3, q4, q5⟩ := dic_at h2 hd
    change dicC st' o (sD S k) (sO S k) at q5
    refine ⟨st', ?_, h2, h4⟩
    rw [e_X10_ceiling_0, rc_ok (sh2 h), cD_ok hd, ri_ok, if_neg (by decide), h1, rr_ok, gR_ok (sh2 h2), Option.bind_some, rf2_0 h2, q1, Option.bind_some, gI_ok q2, Option.bind_some, q5.2.1]
    by_cases hb : sO S k = false
    · have h9 := q5.1.2.2.2.2.2.2.2.2.1
      have hbl := bl_le (sW S) (sD S k)
      rw [bi0 hb, if_pos hb, Option.bind_some, q1, Option.bind_some, gR_ok q2, Option.bind_some, q3, leastNotBelow_ok q5.1 (hwf.2.1 k hd) h3 (by omega), ri_ok, gI_ok q5.1.1, Option.bind_some, q5.1.2.2.2.2.2.2.2.1]
      by_cases hlt : bl (sW S) (sD S k) < (sD S k).length
      · rw [if_neg (by rw [c_le (by omega) (by omega)]; omega), if_pos hlt]
      · rw [if_pos (by rw [c_le (by omega) (by omega)]; omega), if_neg hlt]
    · rw [bi1 hb, if_neg hb]
theorem M_ceiling (h : MS L st S) (hwf : wfS S) (d : Int32) : ∃ st', f_X11_ceiling 130 d st = some (some (.int (a_ceiling S d).1), st') ∧ MS L st' (a_ceiling S d).2 ∧ onM st st' := by
  unfold a_ceiling a_take
  rcases isD_cases d with hd | ⟨k, hd, rfl⟩
  · rw [withD_no hd]
    exact ⟨st, by rw [e_X11_ceiling_0, rc_ok (sh130 h), mD_no hd, ri_ok, if_pos rfl], h, onM_rfl⟩
  · rw [withD_n hd]
    dsimp only
    obtain ⟨h1, h2, h3, h4⟩ := forgetM_ok h
    refine ⟨_, ?_, h2, h4⟩
    rw [e_X11_ceiling_0, rc_ok (sh130 h), mD_ok hd, ri_ok, if_neg (by decide), h1, ri_ok, ← Option.bind_assoc, mOpen2 h2 hd, Option.bind_some]
    change (if b01 (sO S k) = 0 then _ else _) = _
    have hM : isMd _ k (sD S k) := (h2.2.2.1 k hd).1
    by_cases hb : sO S k = false
    · have h9 := hM.2.1
      have hbl := bl_le (sW S) (sD S k)
      rw [bi0 hb, if_pos hb, above_ok h2.1 hd hM (hwf.2.1 k hd) h3, ri_ok, ← Option.bind_assoc, mMany h2 hd, Option.bind_some]
      change (if nI (sD S k).length ≤ _ then _ else _) = _
      by_cases hlt : bl (sW S) (sD S k) < (sD S k).length
      · rw [if_neg (by rw [c_le (by omega) (by omega)]; omega), if_pos hlt]
      · rw [if_pos (by rw [c_le (by omega) (by omega)]; omega), if_neg hlt]
    · rw [bi1 hb, if_neg hb]
/-- the road of the calls that want a dictionary that is not open, and change nothing -/
def a_look {α : Type} (S : Sg) (d : Int32) (bad op : α) (f : Nat → α) : α × Sg := withD d (bad, S) fun k => (if sO S k = false then f k else op, S)
def a_out (S : Sg) (d t : Int32) : Int64 × Sg := a_look S d (-2) (-4) fun k => match atO (sD S k) t with
  | some x => lN x.2
  | none => -1
theorem outAt_any {o : Nat} {D : Dc} (h : isTm st o D) (t : Int32) : f_X7_outAt o t st = some (some (.long (match atO D t with | some x => lN x.2 | none => -1)), st) := by
  rcases n_cases t with hn | ⟨n, hn, rfl⟩
  · rw [outAt_neg h hn, atO_neg hn]
  · rw [atO_n hn]
    cases hx : D[n]? with
    | none => rw [outAt_no h hn (List.getElem?_eq_none_iff.mp hx)]
    | some x => rw [outAt_ok h hx]
theorem C_out (h : CS L st S) (d t : Int32) : ∃ st', f_X10_out 2 d t st = some (some (.long (a_out S d t).1), st') ∧ CS L st' (a_out S d t).2 ∧ onC st st' := by
  unfold a_out a_look
  rcases isD_cases d with hd | ⟨k, hd, rfl⟩
  · rw [withD_no hd]
    exact ⟨st, by rw [e_X10_out_0, rc_ok (sh2 h), cD_no hd, ri_ok, if_pos rfl], h, onC_rfl⟩
  · rw [withD_n hd]
    dsimp only
    obtain ⟨o, ho, q1, q2, q3, q4, q5⟩ := dic_at h hd
    refine ⟨st, ?_, h, onC_rfl⟩
    rw [e_X10_out_0, rc_ok (sh2 h), cD_ok hd, ri_ok, if_neg (by decide), gR_ok (sh2 h), Option.bind_some, rf2_0 h, q1, Option.bind_some, gI_ok q2, Option.bind_some, q5.2.1]
    by_cases hb : sO S k = false
    · rw [bi0 hb, if_pos hb, Option.bind_some, q1, Option.bind_some, gR_ok q2, Option.bind_some, q3, outAt_any q5.1, rl_ok]
    · rw [bi1 hb, if_neg hb]
/-- whether a number is one of n -/
theorem isIn_no {n : Nat} (hn : n < 1000000) {t : Int32} (h : t < 0 ∨ n ≤ t.toNatClampNeg) : f_X11_isIn t.toInt64 (0 : Int64) ((nI n - (1 : Int32)).toInt64) st = some (some (.int 0), st) := by
  rw [isIn_i, pred_toInt hn, if_neg]
  have h0 : (0 : Int64).toInt = 0 := rfl
  rw [h0]
  rcases n_cases t with hl | ⟨m, hm, rfl⟩
  · have h00 : (0 : Int32).toInt = 0 := rfl
    have := Int32.lt_iff_toInt_lt.mp hl
    omega
  · rcases h with h | h
    · exact absurd h (nI_pos hm)
    · rw [a_cl hm] at h
      rw [nI_toInt hm]
      omega
theorem isIn_yes {n m : Nat} (hn : n < 1000000) (h : m < n) : f_X11_isIn (nI m).toInt64 (0 : Int64) ((nI n - (1 : Int32)).toInt64) st = some (some (.int 1), st) := by
  rw [isIn_i, pred_toInt hn, if_pos]
  have h0 : (0 : Int64).toInt = 0 := rfl
  rw [h0, nI_toInt (by omega)]
  omega
theorem atO_none {α : Type} {D : List α} {i : Int32} (h : atO D i = none) : i < 0 ∨ D.length ≤ i.toNatClampNeg := by
  rcases n_cases i with hl | ⟨m, hm, rfl⟩
  · exact Or.inl hl
  · rw [atO_n hm] at h
    rw [a_cl hm]
    exact Or.inr (List.getElem?_eq_none_iff.mp h)
theorem atO_some {α : Type} {D : List α} {i : Int32} {x : α} (h : atO D i = some x) : ∃ m, m < D.length ∧ m < 2147483648 ∧ i = nI m ∧ D[m]? = some x := by
  rcases n_cases i with hl | ⟨m, hm, rfl⟩
  · rw [atO_neg hl] at h; cases h
  · rw [atO_n hm] at h
    exact ⟨m, (List.getElem?_eq_some_iff.mp h).1, hm, rfl, h⟩
theorem M_out (h : MS L st S) (d t : Int32) : ∃ st', f_X11_out 130 d t st = some (some (.long (a_out S d t).1), st') ∧ MS L st' (a_out S d t).2 ∧ onM st st' := by
  unfold a_out a_look
  rcases isD_cases d with hd | ⟨k, hd, rfl⟩
  · rw [withD_no hd]
    exact ⟨st, by rw [e_X11_out_0, rc_ok (sh130 h), mD_no hd, ri_ok, if_pos rfl], h, onM_rfl⟩
  · rw [withD_n hd]
    dsimp only
    refine ⟨st, ?_, h, onM_rfl⟩
    have h9 := (h.2.2.1 k hd).1.2.1
    rw [e_X11_out_0, rc_ok (sh130 h), mD_ok hd, ri_ok, if_neg (by decide), ← Option.bind_assoc, mOpen2 h hd, Option.bind_some]
    by_cases hb : sO S k = false
    · rw [bi0 hb, if_pos hb, ← Option.bind_assoc, mMany h hd, Option.bind_some]
      cases hx : atO (sD S k) t with
      | none => rw [isIn_no (by omega) (atO_none hx), ri_ok, if_pos rfl]
      | some x =>
        obtain ⟨m, hm, hm2, rfl, hx2⟩ := atO_some hx
        rw [isIn_yes (by omega) hm, ri_ok, if_neg (by decide), ← Option.bind_assoc, mOut h hd hx2, Option.bind_some]
    · rw [bi1 hb, if_neg hb]
def a_term (S : Sg) (d t i : Int32) : Int32 × Sg := a_look S d (-2) (-4) fun k => match atO (sD S k) t with
  | some x => if i = -1 then nI x.1.length else match atO x.1 i with
    | some s => nI s
    | none => -1
  | none => -1
theorem m1_neg : (-1 : Int32) < 0 := by decide
theorem signAt_any {o : Nat} {D : Dc} (h : isTm st o D) (t i : Int32) : f_X7_signAt o t i st = some (some (.int (match atO D t with | some x => (match atO x.1 i with | some s => nI s | none => -1) | none => -1)), st) := by
  rcases n_cases i with hi | ⟨m, hm, rfl⟩
  · rw [e_X7_signAt_0, rc_ok h.1, if_pos hi]
    cases atO D t with
    | none => rfl
    | some x => simp only [atO_neg hi]
  · rcases n_cases t with hn | ⟨n, hn, rfl⟩
    · rw [e_X7_signAt_0, rc_ok h.1, if_neg (nI_pos hm), lengthAt_neg h hn, ri_ok, if_neg (by rw [Int32.not_lt]; exact Int32.le_of_lt (by rw [c_m1l hm]; trivial)), atO_neg hn]
    · rw [atO_n hn]
      cases hx : D[n]? with
      | none => rw [e_X7_signAt_0, rc_ok h.1, if_neg (nI_pos hm), lengthAt_no h hn (List.getElem?_eq_none_iff.mp hx), ri_ok, if_neg (by rw [Int32.not_lt]; exact Int32.le_of_lt (by rw [c_m1l hm]; trivial))]
      | some x =>
        rw [signAt_ok h hx hm]
        simp only [atO_n hm]
        rfl
theorem C_term (h : CS L st S) (d t i : Int32) : ∃ st', f_X10_term 2 d t i st = some (some (.int (a_term S d t i).1), st') ∧ CS L st' (a_term S d t i).2 ∧ onC st st' := by
  unfold a_term a_look
  rcases isD_cases d with hd | ⟨k, hd, rfl⟩
  · rw [withD_no hd]
    exact ⟨st, by rw [e_X10_term_0, rc_ok (sh2 h), cD_no hd, ri_ok, if_pos rfl], h, onC_rfl⟩
  · rw [withD_n hd]
    dsimp only
    obtain ⟨o, ho, q1, q2, q3, q4, q5⟩ := dic_at h hd
    refine ⟨st, ?_, h, onC_rfl⟩
    rw [e_X10_term_0, rc_ok (sh2 h), cD_ok hd, ri_ok, if_neg (by decide), gR_ok (sh2 h), Option.bind_some, rf2_0 h, q1, Option.bind_some, gI_ok q2, Option.bind_some, q5.2.1]
    by_cases hb : sO S k = false
    · rw [bi0 hb, if_pos hb, Option.bind_some, q1, Option.bind_some, gR_ok q2, Option.bind_some, q3]
      by_cases hi : i = -1
      · rw [if_pos hi]
        cases hx : atO (sD S k) t with
        | none =>
          have : f_X7_lengthAt (o + 1) t st = some (some (.int (-1)), st) := by
            rcases n_cases t with hn | ⟨n, hn, rfl⟩
            · exact lengthAt_neg q5.1 hn
            · rw [atO_n hn] at hx
              exact lengthAt_no q5.1 hn (List.getElem?_eq_none_iff.mp hx)
          rw [this, ri_ok]
        | some x =>
          obtain ⟨m, hm, hm2, rfl, hx2⟩ := atO_some hx
          rw [lengthAt_ok q5.1 hx2, ri_ok]
          simp only [hi, if_true]
      · rw [if_neg hi, signAt_any q5.1, ri_ok]
        cases hx : atO (sD S k) t with
        | none => rfl
        | some x => simp only [hi, if_false]
    · rw [bi1 hb, if_neg hb]
theorem M_term (h : MS L st S) (d t i : Int32) : ∃ st', f_X11_term 130 d t i st = some (some (.int (a_term S d t i).1), st') ∧ MS L st' (a_term S d t i).2 ∧ onM st st' := by
  unfold a_term a_look
  rcases isD_cases d with hd | ⟨k, hd, rfl⟩
  · rw [withD_no hd]
    exact ⟨st, by rw [e_X11_term_0, rc_ok (sh130 h), mD_no hd, ri_ok, if_pos rfl], h, onM_rfl⟩
  · rw [withD_n hd]
    dsimp only
    refine ⟨st, ?_, h, onM_rfl⟩
    have hM := (h.2.2.1 k hd).1
    have h9 := hM.2.1
    rw [e_X11_term_0, rc_ok (sh130 h), mD_ok hd, ri_ok, if_neg (by decide), ← Option.bind_assoc, mOpen2 h hd, Option.bind_some]
    by_cases hb : sO S k = false
    · rw [bi0 hb, if_pos hb, ← Option.bind_assoc, mMany h hd, Option.bind_some]
      cases hx : atO (sD S k) t with
      | none => rw [isIn_no (by omega) (atO_none hx), ri_ok, if_pos rfl]
      | some x =>
        obtain ⟨m, hm, hm2, rfl, hx2⟩ := atO_some hx
        obtain ⟨b1, b2, b3, b4, b5⟩ := hM.2.2 m x hx2
        have e1 : (Option.bind (ab_gR st 130 11 3) fun x9 => ab_rI st x9 (((200 : Int32) * nI k) + nI m)) = some (nI x.1.length) := by
          rw [gR_ok (sh130 h), Option.bind_some, Fx_rf h.1 (v := 133) (by decide), nl 200, a_mul, a_add, rI_ok (Fx_sh h.1 (o := 133) rfl) (by omega) (by omega), b1]
        rw [isIn_yes (by omega) hm, ri_ok, if_neg (by decide), ← Option.bind_assoc, e1, Option.bind_some, isIn_i, pred_toInt (by omega)]
        have hm1 : (-1 : Int64).toInt = -1 := by decide
        rw [hm1]
        show _ = some (some (Value.int (if i = -1 then nI x.1.length else match atO x.1 i with | some s => nI s | none => -1)), st)
        by_cases hi : i = -1
        · subst hi
          rw [i_m1, if_pos (by omega), ri_ok, if_neg (by decide), if_pos rfl, if_pos rfl, ← Option.bind_assoc, e1, Option.bind_some]
        · rw [if_neg hi]
          cases hs : atO x.1 i with
          | none =>
            rw [if_neg, ri_ok, if_pos rfl]
            rcases atO_none hs with hn | hn
            · have := Int32.lt_iff_toInt_lt.mp hn
              have h00 : (0 : Int32).toInt = 0 := rfl
              have : i.toInt ≠ -1 := fun q => hi (Int32.toInt_inj.mp (q.trans i_m1.symm))
              omega
            · rcases n_cases i with hl | ⟨mm, hmm, rfl⟩
              · have := Int32.lt_iff_toInt_lt.mp hl
                have h00 : (0 : Int32).toInt = 0 := rfl
                have : i.toInt ≠ -1 := fun q => hi (Int32.toInt_inj.mp (q.trans i_m1.symm))
                omega
              · rw [a_cl hmm] at hn
                rw [nI_toInt hmm]
                omega
          | some s =>
            obtain ⟨mm, hmm, hmm2, rfl, hs2⟩ := atO_some hs
            rw [if_pos (by rw [nI_toInt hmm2]; omega), ri_ok, if_neg (by decide), if_neg hi, letter_ok h.1 hM (by omega) hx2 hs2, ri_ok]
    · rw [bi1 hb, if_neg hb]
theorem C_fault (h : CS L st S) : f_X10_fault 2 st = some (some (.int (sF S)), st) := by
  rw [e_X10_fault_0, rc_ok (sh2 h), gI_ok (sh2 h), Option.bind_some, h.2.2.2.2.2.2.1]
theorem M_fault (h : MS L st S) : f_X11_fault 130 st = some (some (.int (sF S)), st) := by
  rw [e_X11_fault_0, rc_ok (sh130 h), gI_ok (sh130 h), Option.bind_some, h.2.2.2.2.2.2.1]
def a_row (S : Sg) (i : Int32) : Int32 := match atO (sM S) i with
  | some t => nI t
  | none => -1
theorem C_row (h : CS L st S) (hwf : wfS S) (i : Int32) : f_X10_row 2 i st = some (some (.int (a_row S i)), st) := by
  have hh := h
  obtain ⟨-, -, -, -, -, ⟨g1, g2⟩, -⟩ := hh
  have hl := hwf.2.2.1
  rw [e_X10_row_0, rc_ok (sh2 h)]
  unfold a_row
  rcases n_cases i with hn | ⟨n, hn, rfl⟩
  · rw [if_pos hn, atO_neg hn]
  · rw [if_neg (nI_pos hn), gI_ok (sh2 h), Option.bind_some, g1, atO_n hn]
    cases hx : (sM S)[n]? with
    | none =>
      have := List.getElem?_eq_none_iff.mp hx
      rw [if_pos (by rw [c_le (by omega) hn]; exact this)]
    | some t =>
      have := (List.getElem?_eq_some_iff.mp hx).1
      rw [if_neg (by rw [c_le (by omega) hn]; omega), nl 200, if_pos (by rw [c_lt hn (by omega)]; omega), gR_ok (sh2 h), Option.bind_some, Fx_rf h.1 (v := 61) (by decide), rI_ok (Fx_sh h.1 (o := 61) rfl) (by omega) (by omega), Option.bind_some, g2 n t hx]
theorem M_row (h : MS L st S) (hwf : wfS S) (i : Int32) : f_X11_row 130 i st = some (some (.int (a_row S i)), st) := by
  have hl := hwf.2.2.1
  obtain ⟨g1, g2⟩ := h.2.2.2.2.2.1
  rw [e_X11_row_0, rc_ok (sh130 h), gI_ok (sh130 h), Option.bind_some, g1]
  unfold a_row
  cases hx : atO (sM S) i with
  | none => rw [isIn_no (by omega) (atO_none hx), ri_ok, if_pos rfl]
  | some t =>
    obtain ⟨m, hm, hm2, rfl, hx2⟩ := atO_some hx
    rw [isIn_yes (by omega) hm, ri_ok, if_neg (by decide), gR_ok (sh130 h), Option.bind_some, Fx_rf h.1 (v := 138) (by decide), rI_ok (Fx_sh h.1 (o := 138) rfl) (by omega) (by omega), Option.bind_some, g2 m t hx2]
def a_sign (S : Sg) (i : Int32) : Int32 := match atO (sP S) i with
  | some t => nI t
  | none => -1
theorem C_sign (h : CS L st S) (hwf : wfS S) (i : Int32) : f_X10_sign 2 i st = some (some (.int (a_sign S i)), st) := by
  have hh := h
  obtain ⟨-, -, -, -, -, -, -, g, -⟩ := hh
  have hl := hwf.2.2.2.2.2.2.1
  rw [e_X10_sign_0, rc_ok (sh2 h), gR_ok (sh2 h), Option.bind_some, Fx_rf h.1 (v := 57) (by decide), at_ok g, ri_ok]
  unfold a_sign sgAt
  rcases n_cases i with hn | ⟨n, hn, rfl⟩
  · rw [if_pos hn, atO_neg hn]
  · rw [if_neg (nI_pos hn), atO_n hn, a_cl hn]
    unfold lg
    by_cases hr : n < 43219
    · rw [if_pos hr]; rfl
    · rw [if_neg hr, List.getElem?_eq_none (by omega)]
theorem M_sign (h : MS L st S) (hwf : wfS S) (i : Int32) : f_X11_sign 130 i st = some (some (.int (a_sign S i)), st) := by
  have hl := hwf.2.2.2.2.2.2.1
  have h256 := hwf.2.2.2.2.2.2.2
  obtain ⟨g1, g2⟩ := h.2.2.2.2.2.2.2
  rw [e_X11_sign_0, rc_ok (sh130 h), gI_ok (sh130 h), Option.bind_some, g1]
  unfold a_sign
  cases hx : atO (sP S) i with
  | none => rw [isIn_no (by omega) (atO_none hx), ri_ok, if_pos rfl]
  | some t =>
    obtain ⟨m, hm, hm2, rfl, hx2⟩ := atO_some hx
    rw [isIn_yes (by omega) hm, ri_ok, if_neg (by decide), gR_ok (sh130 h), Option.bind_some, Fx_rf h.1 (v := 139) (by decide), rB_ok (Fx_sh h.1 (o := 139) rfl) (by omega) (by omega), Option.bind_some, g2 m t hx2, by8_and t (h256 t (List.mem_of_getElem? hx2))]
end LOOK2
