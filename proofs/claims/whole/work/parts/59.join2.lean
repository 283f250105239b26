/-! JOIN: the class's gather, the model's join -/
section JOIN
variable {L : Nat} {st : ab_S} {S : Sg}
theorem cmpT_ok {a b i j : Nat} {A B : Dc} {x y : List Nat × Nat} (hA : isTm st a A) (hB : isTm st b B) (hx : A[i]? = some x) (hy : B[j]? = some y) : f_X7_compareTerms a (nI i) b (nI j) st = some (some (.int (lcmp x.1 y.1)), st) := by
  obtain ⟨-, xl, xs, -⟩ := hA.2.2.2.2.2.2.2.2.2 i x hx
  obtain ⟨-, yl, ys, -⟩ := hB.2.2.2.2.2.2.2.2.2 j y hy
  have key : ∀ m k, 12 - k = m → k ≤ 12 → x.1.take k = y.1.take k → L_X7_compareTerms_3 a (nI i) b (nI j) (nI k) st = some (some (.int (lcmp (x.1.drop k) (y.1.drop k))), st) := by
    intro m
    induction m with
    | zero =>
      intro k hm hk _
      rw [e_X7_compareTerms_3, nl 12, if_pos (by rw [c_le (by omega) (by omega)]; omega), List.drop_eq_nil_of_le (by omega), List.drop_eq_nil_of_le (by omega)]
      rfl
    | succ m ih =>
      intro k hm hk htk
      rw [e_X7_compareTerms_3, nl 12, if_neg (by rw [c_le (by omega) (by omega)]; omega), signAt_ok hA hx (by omega), ri_ok, signAt_ok hB hy (by omega), ri_ok]
      cases h1 : x.1[k]? with
      | none => cases h2 : y.1[k]? with
        | none =>
          rw [lg_none h1, lg_none h2, if_pos rfl, nI_1, ih (k + 1) (by omega) (by omega) (by rw [List.take_succ, List.take_succ, htk, h1, h2]), drop_none h1, drop_none h2, List.drop_eq_nil_of_le (by have := List.getElem?_eq_none_iff.mp h1; omega), List.drop_eq_nil_of_le (by have := List.getElem?_eq_none_iff.mp h2; omega)]
        | some v =>
          have hv := (ys k v h2).2
          rw [lg_none h1, lg_some h2, if_neg (by rw [c_m1e' (by omega)]; exact id), if_neg (by rw [← Int32.not_lt, c_m1l (by omega)]; simp), drop_none h1, drop_some h2]
          rfl
      | some u => cases h2 : y.1[k]? with
        | none =>
          have hu := (xs k u h1).2
          rw [lg_some h1, lg_none h2, if_neg (by rw [c_m1e (by omega)]; exact id), if_pos (Int32.le_of_lt (by rw [c_m1l (by omega)]; trivial)), drop_some h1, drop_none h2]
          rfl
        | some v =>
          have hu := (xs k u h1).2
          have hv := (ys k v h2).2
          rw [lg_some h1, lg_some h2, drop_some h1, drop_some h2]
          show _ = some (some (Value.int (if u = v then lcmp (x.1.drop (k + 1)) (y.1.drop (k + 1)) else if u < v then -1 else 1)), st)
          by_cases huv : u = v
          · subst huv
            rw [if_pos rfl, if_pos rfl, nI_1]
            exact ih (k + 1) (by omega) (by omega) (by rw [List.take_succ, List.take_succ, htk, h1, h2])
          · rw [if_neg (by rw [c_eq (by omega) (by omega)]; exact huv), if_neg huv]
            by_cases hlt : u < v
            · rw [if_neg (by rw [c_le (by omega) (by omega)]; omega), if_pos hlt]
            · rw [if_pos (by rw [c_le (by omega) (by omega)]; omega), if_neg hlt]
  rw [e_X7_compareTerms_0]
  have := key _ 0 rfl (by omega) rfl
  rw [List.drop_zero, List.drop_zero] at this
  exact this
theorem gOne_ok {o a i v : Nat} {A R : Dc} {x : List Nat × Nat} (hT : isTm st o R) (hA : isTm st a A) (hao : a + 3 < o ∨ o + 3 < a) (hx : A[i]? = some x) (hl : R.length < 200) (hv : v ≤ 1000000000000) : ∃ st', f_X7_gatherOne o a (nI i) (lN v) st = some (some (.int (nI (R.length + 1))), st') ∧ isTm st' o (R ++ [(x.1, v)]) ∧ upto (fun q => o ≤ q ∧ q ≤ o + 3) st st' := by
  have hil := lt_of_get hx
  have h9 := hA.2.2.2.2.2.2.2.2.1
  obtain ⟨-, xl, xs, -⟩ := hA.2.2.2.2.2.2.2.2.2 i x hx
  obtain ⟨st', a1, a2, a3⟩ := append_ok (f := i * 12) hT hl hA.2.2.1 (by omega) (by omega) (x := x.1) xs xl (by omega) hv
  refine ⟨st', ?_, a2, a3⟩
  rw [e_X7_gatherOne_0, rc_ok hT.1, gR_ok hA.1, Option.bind_some, hA.2.2.2.2.2.1, lengthAt_ok hA hx, ri_ok, nl 12, a_mul, a1, ri_ok, if_neg (by decide), gI_ok a2.1, Option.bind_some, a2.2.2.2.2.2.2.2.1]
  simp
theorem gOne_full {o a i : Nat} {v : Int64} {A R : Dc} {x : List Nat × Nat} (hT : isTm st o R) (hA : isTm st a A) (hx : A[i]? = some x) (hl : R.length = 200) : f_X7_gatherOne o a (nI i) v st = some (some (.int (-3)), st) := by
  rw [e_X7_gatherOne_0, rc_ok hT.1, gR_ok hA.1, Option.bind_some, hA.2.2.2.2.2.1, lengthAt_ok hA hx, ri_ok, append_full hT hl hA.2.2.1, ri_ok, if_pos rfl]
/-- what gather answers -/
def jans (R : Dc) : Int32 := if 200 < R.length then -3 else if R.all (fun r => decide (r.2 ≤ 1000000000000)) = true then nI R.length else -6
theorem jans_ok {R : Dc} (h : R.length ≤ 200) (h2 : ∀ r ∈ R, r.2 ≤ 1000000000000) : jans R = nI R.length := by
  unfold jans
  rw [if_neg (by omega), if_pos (List.all_eq_true.mpr (fun r hr => by simpa using h2 r hr))]
theorem jans_great {R : Dc} (h : R.length ≤ 200) {r : List Nat × Nat} (hr : r ∈ R) (h2 : 1000000000000 < r.2) : jans R = -6 := by
  unfold jans
  rw [if_neg (by omega), if_neg (fun q => by have := List.all_eq_true.mp q r hr; simp at this; omega)]
theorem tm_out {o : Nat} {D : Dc} (h : isTm st o D) : ∀ x ∈ D, x.2 ≤ 1000000000000 := fun x hx => by
  obtain ⟨i, hi⟩ := List.mem_iff_getElem?.mp hx
  exact (h.2.2.2.2.2.2.2.2.2 i x hi).2.2.2.2
theorem drop_cases {α : Type} (A : List α) (i : Nat) : (A.length ≤ i ∧ A.drop i = []) ∨ ∃ x, A[i]? = some x ∧ A.drop i = x :: A.drop (i + 1) ∧ i < A.length := by
  by_cases h : A.length ≤ i
  · exact Or.inl ⟨h, List.drop_eq_nil_of_le h⟩
  · exact Or.inr ⟨A[i], List.getElem?_eq_getElem (by omega), List.drop_eq_getElem_cons (by omega), by omega⟩
theorem gather174 {o a b i j s : Nat} {l3 r : Int32} {v : Int32} (hv : v = -1 ∨ v = 0 ∨ v = 1) : L_X7_gather_174 o a b l3 (nI i) (nI j) r (nI s) v st = L_X7_gather_16 o a b l3 (nI (i + (if v = 1 then 0 else 1))) (nI (j + (if v = -1 then 0 else 1))) r (nI (s + 1)) st := by
  rcases hv with rfl | rfl | rfl
  · rw [e_X7_gather_174, if_neg (by decide), e_X7_gather_186, if_pos (by decide), e_X7_gather_201, nI_1, nI_1]
    simp
  · rw [e_X7_gather_174, if_neg (by decide), e_X7_gather_186, if_neg (by decide), e_X7_gather_201, nI_1, nI_1, nI_1]
    simp
  · rw [e_X7_gather_174, if_pos (by decide), e_X7_gather_186, if_neg (by decide), e_X7_gather_201, nI_1, nI_1]
    simp
theorem gather16_neg {o a b : Nat} {l3 i j r s : Int32} (hr : r < 0) : L_X7_gather_16 o a b l3 i j r s st = some (some (.int r), st) := by
  rw [e_X7_gather_16, if_pos hr]
  simp
/-- how a step ends: the item goes behind R, or an answer below 0 -/
def gres (st : ab_S) (o how : Nat) (R it : Dc) (r : Int32) (st' : ab_S) : Prop := upto (fun q => o ≤ q ∧ q ≤ o + 3) st st' ∧ (if R.length + it.length ≤ 200 ∧ (∀ x ∈ it, x.2 ≤ 1000000000000) then r = nI (R.length + it.length) ∧ isTm st' o (R ++ it) else (how = 1 → R.length + it.length ≤ 200 → r = -6) ∧ (how ≠ 1 → r = -3))
theorem gres_nil {o how : Nat} {R : Dc} (hT : isTm st o R) : gres st o how R [] (nI R.length) st := by
  refine ⟨upto_rfl, ?_⟩
  rw [if_pos ⟨by simpa using hT.2.2.2.2.2.2.2.2.1, by simp⟩]
  simpa using hT
theorem gres_one {o c k how v : Nat} {C R : Dc} {x : List Nat × Nat} (hT : isTm st o R) (hC : isTm st c C) (hco : c + 3 < o ∨ o + 3 < c) (hx : C[k]? = some x) (hv : v ≤ 1000000000000) : ∃ (r : Int32) (st' : ab_S), f_X7_gatherOne o c (nI k) (lN v) st = some (some (.int r), st') ∧ gres st o how R [(x.1, v)] r st' := by
  have hR9 := hT.2.2.2.2.2.2.2.2.1
  by_cases hl : R.length < 200
  · obtain ⟨st', g1, g2, g3⟩ := gOne_ok hT hC hco hx hl hv
    refine ⟨_, st', g1, g3, ?_⟩
    rw [if_pos ⟨by simp; omega, by simpa using hv⟩]
    exact ⟨rfl, g2⟩
  · refine ⟨_, st, gOne_full hT hC hx (by omega), upto_rfl, ?_⟩
    rw [if_neg (fun q => by have := q.1; simp at this; omega)]
    exact ⟨fun _ q => by simp at q; omega, fun _ => rfl⟩
theorem gstep {o a b i j s how : Nat} {A B R : Dc} (hhow : how < 4) (hT : isTm st o R) (hA : isTm st a A) (hB : isTm st b B) (hao : a + 3 < o ∨ o + 3 < a) (hbo : b + 3 < o ∨ o + 3 < b) (hi : i ≤ 200) (hj : j ≤ 200) (hne : A.drop i ≠ [] ∨ B.drop j ≠ []) : ∃ (r : Int32) (st' : ab_S), L_X7_gather_47 o a b (nI how) (nI i) (nI j) (nI s) st = L_X7_gather_16 o a b (nI how) (nI (i + jA (A.drop i) (B.drop j))) (nI (j + jB (A.drop i) (B.drop j))) r (nI (s + 1)) st' ∧ gres st o how R (jitem how (A.drop i) (B.drop j)) r st' := by
  have hA9 := hA.2.2.2.2.2.2.2.2.1
  have hB9 := hB.2.2.2.2.2.2.2.2.1
  have hR9 := hT.2.2.2.2.2.2.2.2.1
  have hR8 := hT.2.2.2.2.2.2.2.1
  have h1e : (nI how = (1 : Int32)) ↔ how = 1 := by show nI how = nI 1 ↔ _; rw [c_eq (by omega) (by omega)]
  have h3e : (nI how = (3 : Int32)) ↔ how = 3 := by show nI how = nI 3 ↔ _; rw [c_eq (by omega) (by omega)]
  have h0e : (nI how = (0 : Int32)) ↔ how = 0 := by show nI how = nI 0 ↔ _; rw [c_eq (by omega) (by omega)]
  have eA := hA.2.2.2.2.2.2.2.1
  have eB := hB.2.2.2.2.2.2.2.1
  have V1 : ∀ y, B[j]? = some y → ∃ (r : Int32) (st' : ab_S), L_X7_gather_82 o a b (nI how) (nI i) (nI j) (nI s) 1 st = L_X7_gather_16 o a b (nI how) (nI (i + (if (1 : Int32) = 1 then 0 else 1))) (nI (j + (if (1 : Int32) = -1 then 0 else 1))) r (nI (s + 1)) st' ∧ gres st o how R (if how = 0 ∨ how = 3 then [y] else []) r st' := by
    intro y hy
    have hy5 := tm_out hB y (List.mem_of_getElem? hy)
    rw [e_X7_gather_82, if_neg (by decide), if_pos (by decide)]
    by_cases hq : how = 0 ∨ how = 3
    · obtain ⟨r, st', g1, g2⟩ := gres_one (how := how) hT hB hbo hy hy5
      have e152 : L_X7_gather_152 o a b (nI how) (nI i) (nI j) (nI s) 1 st = L_X7_gather_172 o a b (nI how) (nI i) (nI j) (nI s) 1 r st' := by
        rw [e_X7_gather_152, outAt_ok hB hy, rl_ok, g1, ri_ok]
      rw [if_pos hq]
      refine ⟨r, st', ?_, g2⟩
      rw [e152, e_X7_gather_172, gather174 (Or.inr (Or.inr rfl))]
      rcases hq with hq | hq
      · rw [if_pos (h0e.mpr hq)]
      · rw [if_neg (fun z => by have := h0e.mp z; omega), if_pos (h3e.mpr hq)]
    · rw [if_neg hq]
      refine ⟨_, st, ?_, gres_nil hT⟩
      rw [if_neg (fun z => hq (Or.inl (h0e.mp z))), if_neg (fun z => hq (Or.inr (h3e.mp z))), gI_ok hT.1, Option.bind_some, hR8, e_X7_gather_172, gather174 (Or.inr (Or.inr rfl))]
  have Vm : ∀ x, A[i]? = some x → ∃ (r : Int32) (st' : ab_S), L_X7_gather_82 o a b (nI how) (nI i) (nI j) (nI s) (-1) st = L_X7_gather_16 o a b (nI how) (nI (i + (if (-1 : Int32) = 1 then 0 else 1))) (nI (j + (if (-1 : Int32) = -1 then 0 else 1))) r (nI (s + 1)) st' ∧ gres st o how R (if how = 1 then [] else [x]) r st' := by
    intro x hx
    have hx5 := tm_out hA x (List.mem_of_getElem? hx)
    rw [e_X7_gather_82, if_neg (by decide), if_neg (by decide)]
    by_cases hq : how = 1
    · rw [if_pos (h1e.mpr hq), if_pos hq]
      refine ⟨_, st, ?_, gres_nil hT⟩
      rw [gI_ok hT.1, Option.bind_some, hR8, e_X7_gather_138, gather174 (Or.inl rfl)]
    · rw [if_neg (fun z => hq (h1e.mp z)), if_neg hq]
      obtain ⟨r, st', g1, g2⟩ := gres_one (how := how) hT hA hao hx hx5
      refine ⟨r, st', ?_, g2⟩
      rw [outAt_ok hA hx, rl_ok, g1, ri_ok, e_X7_gather_138, gather174 (Or.inl rfl)]
  have V0 : ∀ x y, A[i]? = some x → B[j]? = some y → ∃ (r : Int32) (st' : ab_S), L_X7_gather_82 o a b (nI how) (nI i) (nI j) (nI s) 0 st = L_X7_gather_16 o a b (nI how) (nI (i + (if (0 : Int32) = 1 then 0 else 1))) (nI (j + (if (0 : Int32) = -1 then 0 else 1))) r (nI (s + 1)) st' ∧ gres st o how R (if how = 0 then [(x.1, min x.2 y.2)] else if how = 1 then [(x.1, x.2 + y.2)] else []) r st' := by
    intro x y hx hy
    have hx5 := tm_out hA x (List.mem_of_getElem? hx)
    have hy5 := tm_out hB y (List.mem_of_getElem? hy)
    rw [e_X7_gather_82, if_pos rfl, outAt_ok hB hy, rl_ok, e_X7_gatherBoth_0, rc_ok hT.1, outAt_ok hA hx, rl_ok]
    by_cases h0 : how = 0
    · rw [if_pos (h0e.mpr h0), if_pos h0]
      have emin : (if lN y.2 < lN x.2 then lN y.2 else lN x.2) = lN (min x.2 y.2) := by
        by_cases hlt : y.2 < x.2
        · rw [if_pos ((pk_lLT (by omega) (by omega)).mpr hlt), Nat.min_eq_right (by omega)]
        · rw [if_neg (fun z => hlt ((pk_lLT (by omega) (by omega)).mp z)), Nat.min_eq_left (by omega)]
      obtain ⟨r, st', g1, g2⟩ := gres_one (how := how) (v := min x.2 y.2) hT hA hao hx (by omega)
      refine ⟨r, st', ?_, g2⟩
      rw [emin, g1, ri_ok, ri_ok, gather174 (Or.inr (Or.inl rfl))]
    · rw [if_neg (fun z => h0 (h0e.mp z)), if_neg h0]
      by_cases h1 : how = 1
      · rw [if_pos (h1e.mpr h1), if_pos h1, lN_add]
        show ∃ r st', ab_ri (if lg_cmp (lN (x.2 + y.2)) (lN 1000000000000) ≤ 0 then _ else _) _ = _ ∧ _
        by_cases hle : x.2 + y.2 ≤ 1000000000000
        · obtain ⟨r, st', g1, g2⟩ := gres_one (how := how) (v := x.2 + y.2) hT hA hao hx hle
          refine ⟨r, st', ?_, g2⟩
          rw [if_pos ((lc_le (by omega) (by omega)).mpr hle), g1, ri_ok, ri_ok, gather174 (Or.inr (Or.inl rfl))]
        · refine ⟨-6, st, ?_, upto_rfl, ?_⟩
          · rw [if_neg (fun z => hle ((lc_le (by omega) (by omega)).mp z)), ri_ok, gather174 (Or.inr (Or.inl rfl))]
          · rw [if_neg (fun z => hle (by simpa using z.2))]
            exact ⟨fun _ _ => rfl, fun z => absurd h1 z⟩
      · rw [if_neg (fun z => h1 (h1e.mp z)), if_neg h1]
        refine ⟨_, st, ?_, gres_nil hT⟩
        rw [gI_ok hT.1, Option.bind_some, hR8, ri_ok, gather174 (Or.inr (Or.inl rfl))]
  unfold jA jB
  rcases drop_cases A i with ⟨hA1, hA2⟩ | ⟨x, hx, hA2, hil⟩
  · rcases drop_cases B j with ⟨hB1, hB2⟩ | ⟨y, hy, hB2, hjl⟩
    · rw [hA2, hB2] at hne; simp at hne
    · rw [hA2, hB2, ji_ny]
      rw [e_X7_gather_47, gI_ok hA.1, Option.bind_some, eA, if_neg (by rw [c_lt (by omega) (by omega)]; omega)]
      exact V1 y hy
  · rcases drop_cases B j with ⟨hB1, hB2⟩ | ⟨y, hy, hB2, hjl⟩
    · rw [hA2, hB2, ji_xn]
      rw [e_X7_gather_47, gI_ok hA.1, Option.bind_some, eA, if_pos (by rw [c_lt (by omega) (by omega)]; omega), gI_ok hB.1, Option.bind_some, eB, if_neg (by rw [c_lt (by omega) (by omega)]; omega)]
      exact Vm x hx
    · rw [hA2, hB2, ji_xy, jo_xy]
      rw [e_X7_gather_47, gI_ok hA.1, Option.bind_some, eA, if_pos (by rw [c_lt (by omega) (by omega)]; omega), gI_ok hB.1, Option.bind_some, eB, if_pos (by rw [c_lt (by omega) (by omega)]; omega), cmpT_ok hA hB hx hy, ri_ok]
      rcases lcmp_tri x.1 y.1 with h | h | h
      · rw [h, if_neg (show ¬ (-1 : Int32) = 0 by decide), if_pos rfl]; exact Vm x hx
      · rw [h, if_pos rfl]; exact V0 x y hx hy
      · rw [h, if_neg (show ¬ (1 : Int32) = 0 by decide), if_neg (show ¬ (1 : Int32) = -1 by decide)]; exact V1 y hy
theorem jans_app {R R' : Dc} (h1 : 200 < R.length) : jans (R ++ R') = -3 := by
  unfold jans; rw [if_pos (by rw [List.length_append]; omega)]
/-- gather -/
theorem gather_cls {o a b how : Nat} {A B R0 : Dc} (hhow : how < 4) (hT : isTm st o R0) (hA : isTm st a A) (hB : isTm st b B) (hao : a + 3 < o ∨ o + 3 < a) (hbo : b + 3 < o ∨ o + 3 < b) : ∃ st', f_X7_gather o a b (nI how) st = some (some (.int (jans (joinD how A B))), st') ∧ upto (fun q => o ≤ q ∧ q ≤ o + 3) st st' ∧ (¬ jans (joinD how A B) < 0 → isTm st' o (joinD how A B)) := by
  have hA9 := hA.2.2.2.2.2.2.2.2.1
  have hB9 := hB.2.2.2.2.2.2.2.2.1
  have key : ∀ n i j s st1 R, (A.drop i).length + (B.drop j).length = n → i ≤ 200 → j ≤ 200 → s + (A.drop i).length + (B.drop j).length ≤ 400 → upto (fun q => o ≤ q ∧ q ≤ o + 3) st st1 → isTm st1 o R → (how = 1 → (R ++ jm how n (A.drop i) (B.drop j)).length ≤ 200) → (how ≠ 1 → ∀ r ∈ R ++ jm how n (A.drop i) (B.drop j), r.2 ≤ 1000000000000) → ∃ st', L_X7_gather_16 o a b (nI how) (nI i) (nI j) (nI R.length) (nI s) st1 = some (some (.int (jans (R ++ jm how n (A.drop i) (B.drop j)))), st') ∧ upto (fun q => o ≤ q ∧ q ≤ o + 3) st st' ∧ (¬ jans (R ++ jm how n (A.drop i) (B.drop j)) < 0 → isTm st' o (R ++ jm how n (A.drop i) (B.drop j))) := by
    intro n
    induction n using Nat.strongRecOn with
    | ind n ih =>
      intro i j s st1 R hn hi hj hs hu hR H1 H2
      have hA1 := isTm_up hA hu (by omega) (by omega) (by omega) (by omega)
      have hB1 := isTm_up hB hu (by omega) (by omega) (by omega) (by omega)
      have hR9 := hR.2.2.2.2.2.2.2.2.1
      have eA := hA1.2.2.2.2.2.2.2.1
      have eB := hB1.2.2.2.2.2.2.2.1
      by_cases hne : A.drop i ≠ [] ∨ B.drop j ≠ []
      · obtain ⟨r, st2, g1, g2, g3⟩ := gstep (s := s) hhow hR hA1 hB1 hao hbo hi hj hne
        have hlen : 1 ≤ (A.drop i).length + (B.drop j).length := by
          rcases hne with h | h
          · have := List.length_pos_iff.mpr h; omega
          · have := List.length_pos_iff.mpr h; omega
        have e16 : L_X7_gather_16 o a b (nI how) (nI i) (nI j) (nI R.length) (nI s) st1 = L_X7_gather_47 o a b (nI how) (nI i) (nI j) (nI s) st1 := by
          rw [e_X7_gather_16, nl 400, if_neg (by rw [c_le (by omega) (by omega)]; omega), if_neg (nI_pos (by omega)), gI_ok hA1.1, Option.bind_some, eA]
          rw [List.length_drop, List.length_drop] at hlen
          by_cases hil : i < A.length
          · rw [if_pos (by rw [c_lt (by omega) (by omega)]; exact hil)]
          · rw [if_neg (by rw [c_lt (by omega) (by omega)]; exact hil), gI_ok hB1.1, Option.bind_some, eB, if_neg (by rw [c_le (by omega) (by omega)]; omega)]
        rw [e16, g1]
        have hU := upto_trans hu g2
        obtain ⟨n', rfl⟩ : ∃ n', n = n' + 1 := ⟨n - 1, by omega⟩
        rw [jm_step hne, ← List.append_assoc] at H1 H2 ⊢
        generalize hit : jitem how (A.drop i) (B.drop j) = it at *
        have hdA : (A.drop i).drop (jA (A.drop i) (B.drop j)) = A.drop (i + jA (A.drop i) (B.drop j)) := List.drop_drop ..
        have hdB : (B.drop j).drop (jB (A.drop i) (B.drop j)) = B.drop (j + jB (A.drop i) (B.drop j)) := List.drop_drop ..
        have hjj : jA (A.drop i) (B.drop j) ≤ (A.drop i).length ∧ jB (A.drop i) (B.drop j) ≤ (B.drop j).length ∧ 1 ≤ jA (A.drop i) (B.drop j) + jB (A.drop i) (B.drop j) := by
          unfold jA jB
          cases hAA : A.drop i with
          | nil =>
            rw [hAA] at hne
            have := List.length_pos_iff.mpr (show B.drop j ≠ [] by simpa using hne)
            have t2 := this
            rw [List.length_drop] at t2
            simp [jord]
            omega
          | cons x A' => cases hBB : B.drop j with
            | nil => simp [jord]
            | cons y B' => rcases jord_tri (x :: A') (y :: B') with h | h | h <;> rw [h] <;> simp
        generalize hja : jA (A.drop i) (B.drop j) = ja at *
        generalize hjb : jB (A.drop i) (B.drop j) = jb at *
        rw [hdA, hdB] at H1 H2 ⊢
        have hl1 : (A.drop (i + ja)).length + (B.drop (j + jb)).length < n' + 1 ∧ (A.drop (i + ja)).length + ja = (A.drop i).length ∧ (B.drop (j + jb)).length + jb = (B.drop j).length := by
          have f1 := List.length_drop (i := i) (l := A)
          have f2 := List.length_drop (i := j) (l := B)
          have f3 := List.length_drop (i := i + ja) (l := A)
          have f4 := List.length_drop (i := j + jb) (l := B)
          omega
        have hfu : jm how n' (A.drop (i + ja)) (B.drop (j + jb)) = jm how ((A.drop (i + ja)).length + (B.drop (j + jb)).length) (A.drop (i + ja)) (B.drop (j + jb)) := jm_fuel (by omega) (by omega)
        rw [hfu] at H1 H2 ⊢
        have hidx : i + ja ≤ 200 ∧ j + jb ≤ 200 := by
          rw [List.length_drop, List.length_drop] at hjj
          omega
        by_cases hok : R.length + it.length ≤ 200 ∧ (∀ x ∈ it, x.2 ≤ 1000000000000)
        · rw [if_pos hok] at g3
          obtain ⟨rfl, g4⟩ := g3
          rw [← List.length_append]
          exact ih _ hl1.1 (i + ja) (j + jb) (s + 1) st2 (R ++ it) rfl hidx.1 hidx.2 (by omega) hU g4 H1 H2
        · rw [if_neg hok] at g3
          have hbad : r = jans (R ++ it ++ jm how ((A.drop (i + ja)).length + (B.drop (j + jb)).length) (A.drop (i + ja)) (B.drop (j + jb))) ∧ r < 0 := by
            by_cases h1 : how = 1
            · have hl := H1 h1
              rw [List.length_append, List.length_append] at hl
              have hr := g3.1 h1 (by omega)
              have : ¬ ∀ x ∈ it, x.2 ≤ 1000000000000 := fun q => hok ⟨by omega, q⟩
              simp only [Classical.not_forall] at this
              obtain ⟨x, hx, hx2⟩ := this
              rw [hr, jans_great (by rw [List.length_append, List.length_append]; omega) (r := x) (by simp [hx]) (by omega)]
              exact ⟨rfl, by decide⟩
            · have hl := H2 h1
              have hr := g3.2 h1
              have : 200 < (R ++ it).length := by
                rw [List.length_append]
                refine Nat.lt_of_not_le (fun q => hok ⟨q, fun x hx => hl x (by simp [hx])⟩)
              rw [hr, jans_app this]
              exact ⟨rfl, by decide⟩
          rw [gather16_neg hbad.2, hbad.1]
          refine ⟨st2, rfl, hU, fun q => ?_⟩
          rw [← hbad.1] at q
          exact absurd hbad.2 q
      · have hnil : A.drop i = [] ∧ B.drop j = [] := by simpa using hne
        rw [hnil.1, hnil.2, jm_nil, List.append_nil] at H1 H2 ⊢
        have hA2 : A.length ≤ i := by have := congrArg List.length hnil.1; simp at this; omega
        have hB2 : B.length ≤ j := by have := congrArg List.length hnil.2; simp at this; omega
        have hout : ∀ r ∈ R, r.2 ≤ 1000000000000 := tm_out hR
        rw [jans_ok hR9 hout]
        refine ⟨st1, ?_, hu, fun _ => hR⟩
        rw [e_X7_gather_16]
        by_cases hs4 : 400 ≤ s
        · rw [nl 400, if_pos (by rw [c_le (by omega) (by omega)]; exact hs4)]
        · rw [nl 400, if_neg (by rw [c_le (by omega) (by omega)]; exact hs4), if_neg (nI_pos (by omega)), gI_ok hA1.1, Option.bind_some, eA, if_neg (by rw [c_lt (by omega) (by omega)]; omega), gI_ok hB1.1, Option.bind_some, eB, if_pos (by rw [c_le (by omega) (by omega)]; omega)]
  obtain ⟨c1, c2⟩ := clearT_ok hT
  rw [e_X7_gather_0, rc_ok hT.1, c1, rv_ok]
  have := key _ 0 0 0 _ [] rfl (by omega) (by omega) (by simp; omega) (upto_uI (by omega)) c2 (fun h1 => by
    subst h1
    rw [List.nil_append]
    have := jm_len1 (n := (A.drop 0).length + (B.drop 0).length) (A := A.drop 0) (B := B.drop 0)
    simp only [List.drop_zero] at this ⊢
    omega) (fun h1 => by
    rw [List.nil_append, List.drop_zero, List.drop_zero]
    exact jm_out h1 (tm_out hA) (tm_out hB))
  simp only [List.drop_zero, List.nil_append] at this
  exact this
end JOIN
