/-! JOIN: the model's loop -/
section JOINL
variable {L : Nat} {st : ab_S} {S : Sg}
def grt (T : Dc) : Int32 := if T.all (fun r => decide (r.2 ≤ 1000000000000)) = true then 0 else 1
theorem grt_nil : grt [] = 0 := rfl
theorem grt_snoc {T : Dc} {r : List Nat × Nat} : grt (T ++ [r]) = if grt T = 0 ∧ r.2 ≤ 1000000000000 then 0 else 1 := by
  unfold grt
  rw [List.all_append]
  by_cases h1 : T.all (fun r => decide (r.2 ≤ 1000000000000)) = true
  · by_cases h2 : r.2 ≤ 1000000000000
    · simp [h1, h2]
    · simp [h1, h2]
  · simp [h1]
theorem jans_grt {T : Dc} : jans T = if 200 < T.length then -3 else if grt T = 0 then nI T.length else -6 := by
  unfold jans grt
  by_cases h : T.all (fun r => decide (r.2 ≤ 1000000000000)) = true
  · simp [h]
  · simp [h]
/-- what a join asks of the state while it runs -/
def jst (L : Nat) (st0 st : ab_S) (T : Dc) : Prop := upto (fun q => 132 ≤ q ∧ q ≤ 135) st0 st ∧ isMd st 4 (T.take 200) ∧ (∀ e E, e < 4 → isMd st0 e E → isMd st e E)
theorem j391 {a b c how i j : Nat} {n g v : Int32} : L_X11_join_391 130 (nI a) (nI b) (nI c) (nI how) (nI i) (nI j) n g v st = L_X11_join_77 130 (nI a) (nI b) (nI c) (nI how) (nI (i + (if 0 < v then 0 else 1))) (nI (j + (if v < 0 then 0 else 1))) n g st := by
  rw [e_X11_join_391]
  by_cases h1 : 0 < v
  · rw [if_pos h1, e_X11_join_403, if_pos h1, e_X11_join_418, e_X11_join_418]
    by_cases h2 : v < 0
    · rw [if_pos h2, if_pos h2]; rw [show (0 : Int32) = nI 0 from rfl, a_add, a_add]
    · rw [if_neg h2, if_neg h2, nI_1]; rw [show (0 : Int32) = nI 0 from rfl, a_add]
  · rw [if_neg h1, e_X11_join_403, if_neg h1, e_X11_join_418, e_X11_join_418]
    by_cases h2 : v < 0
    · rw [if_pos h2, if_pos h2, nI_1]; rw [show (0 : Int32) = nI 0 from rfl, a_add]
    · rw [if_neg h2, if_neg h2, nI_1, nI_1]
/-- an item goes behind T -/
theorem j308 {st0 : ab_S} {a b c how i j s k : Nat} {v : Int32} {T C : Dc} {x : List Nat × Nat} {w : Nat} (hF : Fx L st0) (hj : jst L st0 st T) (hT : T.length ≤ 400) (hs : s < 4) (hC : isMd st0 s C) (hx : C[k]? = some x) (hsk : (v ≤ 0 ∧ s = a ∧ k = i) ∨ (¬ v ≤ 0 ∧ s = b ∧ k = j)) (hw : w ≤ 2000000000000) : ∃ st', L_X11_join_308 130 (nI a) (nI b) (nI c) (nI how) (nI i) (nI j) (nI T.length) (grt T) v (lN w) st = L_X11_join_391 130 (nI a) (nI b) (nI c) (nI how) (nI i) (nI j) (nI (T ++ [(x.1, w)]).length) (grt (T ++ [(x.1, w)])) v st' ∧ jst L st0 st' (T ++ [(x.1, w)]) := by
  obtain ⟨j1, j2, j3⟩ := hj
  have F := Fx_up hF j1
  have hC1 := j3 s C hs hC
  have hk := lt_of_get hx
  have hC2 := hC1.2.1
  obtain ⟨c1, c2, c3, c4, c5⟩ := hC1.2.2 k x hx
  have e308 : L_X11_join_308 130 (nI a) (nI b) (nI c) (nI how) (nI i) (nI j) (nI T.length) (grt T) v (lN w) st = L_X11_join_329 130 (nI a) (nI b) (nI c) (nI how) (nI i) (nI j) (nI T.length) v (lN w) (grt (T ++ [(x.1, w)])) st := by
    rw [e_X11_join_308, e_X11_join_324, grt_snoc]
    show (if grt T = 0 then (if lg_cmp (lN w) (lN 1000000000000) ≤ 0 then _ else _) else _) = _
    by_cases h1 : grt T = 0
    · by_cases h2 : w ≤ 1000000000000
      · rw [if_pos h1, if_pos ((lc_le (by omega) (by omega)).mpr h2), if_pos ⟨h1, h2⟩]
      · rw [if_pos h1, if_neg (fun q => h2 ((lc_le (by omega) (by omega)).mp q)), if_neg (fun q => h2 q.2)]
    · rw [if_neg h1, if_neg (fun q => h1 q.1)]
  have e329 : L_X11_join_329 130 (nI a) (nI b) (nI c) (nI how) (nI i) (nI j) (nI T.length) v (lN w) (grt (T ++ [(x.1, w)])) st = L_X11_join_355 130 (nI a) (nI b) (nI c) (nI how) (nI i) (nI j) (nI T.length) (grt (T ++ [(x.1, w)])) v (lN w) (nI (200 * s + k)) st := by
    rw [e_X11_join_329]
    rcases hsk with ⟨h1, rfl, rfl⟩ | ⟨h1, rfl, rfl⟩
    · rw [if_pos h1, nl 200, a_mul, a_add]
    · rw [if_neg h1, nl 200, a_mul, a_add]
  rw [e308, e329, e_X11_join_355, e_X11_join_388]
  by_cases hl : 200 ≤ T.length
  · rw [nl 200, if_pos (by rw [c_le (by omega) (by omega)]; exact hl), nI_1]
    refine ⟨st, by simp, j1, ?_, j3⟩
    rw [List.take_append_of_le_length hl]
    exact j2
  · have ht : T.take 200 = T := List.take_of_length_le (by omega)
    rw [ht] at j2
    obtain ⟨st', a1, a2, a3, a4⟩ := appendM_ok (f := 12 * (200 * s + k)) (a := 132) F (show 4 < 6 by omega) j2 (by omega) (Fx_sh F rfl) (by omega) (x := x.1) (fun q z hz => by
      have := c3 q z hz
      rw [Nat.mul_comm] at this
      exact this) c2 (by omega) (fun _ => by omega) (by omega) hw
    rw [nl 200, if_neg (by rw [c_le (by omega) (by omega)]; exact hl), gR_ok (Fx_sh F rfl), Option.bind_some, Fx_rf F (v := 132) (by decide), gR_ok (Fx_sh F rfl), Option.bind_some, Fx_rf F (v := 133) (by decide), rI_ok (Fx_sh F (o := 133) rfl) (by omega) (by omega), Option.bind_some, c1, nl 12, a_mul]
    rw [nl 4, a1, rv_ok, e_X11_join_388, nI_1]
    refine ⟨st', by simp, upto_trans j1 a4, ?_, fun e E he hE => a3 e E (by omega) (j3 e E he hE)⟩
    rw [List.take_of_length_le (by simp; omega)]
    exact a2
theorem jstep_ok {st0 : ab_S} {a b c how i j : Nat} {A B T : Dc} (hF : Fx L st0) (hj : jst L st0 st T) (hT : T.length ≤ 400) (ha : a < 4) (hb : b < 4) (hhow : how < 4) (hA : isMd st0 a A) (hB : isMd st0 b B) (hAo : ∀ x ∈ A, x.2 ≤ 1000000000000) (hBo : ∀ x ∈ B, x.2 ≤ 1000000000000) (hi : i ≤ A.length) (hjj : j ≤ B.length) (hne : A.drop i ≠ [] ∨ B.drop j ≠ []) : ∃ st', L_X11_join_99 130 (nI a) (nI b) (nI c) (nI how) (nI i) (nI j) (nI T.length) (grt T) st = L_X11_join_77 130 (nI a) (nI b) (nI c) (nI how) (nI (i + jA (A.drop i) (B.drop j))) (nI (j + jB (A.drop i) (B.drop j))) (nI (T ++ jitem how (A.drop i) (B.drop j)).length) (grt (T ++ jitem how (A.drop i) (B.drop j))) st' ∧ jst L st0 st' (T ++ jitem how (A.drop i) (B.drop j)) := by
  have F := Fx_up hF hj.1
  have hA1 := hj.2.2 a A ha hA
  have hB1 := hj.2.2 b B hb hB
  have hA9 := hA1.2.1
  have hB9 := hB1.2.1
  have h1e : (nI how = (1 : Int32)) ↔ how = 1 := by show nI how = nI 1 ↔ _; rw [c_eq (by omega) (by omega)]
  have h3e : (nI how = (3 : Int32)) ↔ how = 3 := by show nI how = nI 3 ↔ _; rw [c_eq (by omega) (by omega)]
  have h0e : (nI how = (0 : Int32)) ↔ how = 0 := by show nI how = nI 0 ↔ _; rw [c_eq (by omega) (by omega)]
  have h2e : ((2 : Int32) ≤ nI how) ↔ 2 ≤ how := by show nI 2 ≤ nI how ↔ _; rw [c_le (by omega) (by omega)]
  have mA : (Option.bind (ab_gR st 130 11 5) fun x => ab_rI st x (nI a)) = some (nI A.length) := by rw [gR_ok (Fx_sh F rfl), Option.bind_some, Fx_rf F (v := 135) (by decide), rI_ok (Fx_sh F (o := 135) rfl) (by omega) (by omega), hA1.1]
  have mB : (Option.bind (ab_gR st 130 11 5) fun x => ab_rI st x (nI b)) = some (nI B.length) := by rw [gR_ok (Fx_sh F rfl), Option.bind_some, Fx_rf F (v := 135) (by decide), rI_ok (Fx_sh F (o := 135) rfl) (by omega) (by omega), hB1.1]
  have oA : ∀ x, A[i]? = some x → (Option.bind (ab_gR st 130 11 4) fun x9 => ab_rJ st x9 (((200 : Int32) * nI a) + nI i)) = some (lN x.2) := fun x hx => by
    have := lt_of_get hx
    rw [gR_ok (Fx_sh F rfl), Option.bind_some, Fx_rf F (v := 134) (by decide), nl 200, a_mul, a_add, rJ_ok (Fx_sh F (o := 134) rfl) (by omega) (by omega), (hA1.2.2 i x hx).2.2.2.1]
  have oB : ∀ x, B[j]? = some x → (Option.bind (ab_gR st 130 11 4) fun x9 => ab_rJ st x9 (((200 : Int32) * nI b) + nI j)) = some (lN x.2) := fun x hx => by
    have := lt_of_get hx
    rw [gR_ok (Fx_sh F rfl), Option.bind_some, Fx_rf F (v := 134) (by decide), nl 200, a_mul, a_add, rJ_ok (Fx_sh F (o := 134) rfl) (by omega) (by omega), (hB1.2.2 j x hx).2.2.2.1]
  have V1 : ∀ (v : Int32) y, 0 < v → B[j]? = some y → ∃ st', L_X11_join_139 130 (nI a) (nI b) (nI c) (nI how) (nI i) (nI j) (nI T.length) (grt T) v st = L_X11_join_77 130 (nI a) (nI b) (nI c) (nI how) (nI (i + 0)) (nI (j + 1)) (nI (T ++ (if how = 0 ∨ how = 3 then [y] else [])).length) (grt (T ++ (if how = 0 ∨ how = 3 then [y] else []))) st' ∧ jst L st0 st' (T ++ (if how = 0 ∨ how = 3 then [y] else [])) := by
    intro v y hv hy
    have hv0 : ¬ v = 0 := fun q => by rw [q] at hv; exact absurd hv (by decide)
    have hvn : ¬ v < 0 := fun q => absurd (Int32.lt_trans hv q) (by decide)
    have hvl : ¬ v ≤ 0 := Int32.not_le.mpr hv
    have hy5 := hBo y (List.mem_of_getElem? hy)
    rw [e_X11_join_139, if_neg hv0, if_pos (Int32.not_lt.mp hvn), e_X11_join_190]
    by_cases hq : how = 0 ∨ how = 3
    · rw [if_pos hq]
      have e195 : L_X11_join_195 130 (nI a) (nI b) (nI c) (nI how) (nI i) (nI j) (nI T.length) (grt T) v 1 st = L_X11_join_308 130 (nI a) (nI b) (nI c) (nI how) (nI i) (nI j) (nI T.length) (grt T) v (lN y.2) st := by
        rw [e_X11_join_195, if_neg (by decide), if_pos (Int32.not_lt.mp hvn), if_neg hvl, ← Option.bind_assoc, oB y hy, Option.bind_some]
      obtain ⟨st', g1, g2⟩ := j308 (a := a) (b := b) (c := c) (how := how) (i := i) (j := j) (v := v) hF hj hT hb hB hy (Or.inr ⟨hvl, rfl, rfl⟩) (w := y.2) (by omega)
      refine ⟨st', ?_, g2⟩
      have : (if nI how = 0 then L_X11_join_195 130 (nI a) (nI b) (nI c) (nI how) (nI i) (nI j) (nI T.length) (grt T) v 1 st else if nI how = 3 then L_X11_join_195 130 (nI a) (nI b) (nI c) (nI how) (nI i) (nI j) (nI T.length) (grt T) v 1 st else L_X11_join_195 130 (nI a) (nI b) (nI c) (nI how) (nI i) (nI j) (nI T.length) (grt T) v 0 st) = L_X11_join_195 130 (nI a) (nI b) (nI c) (nI how) (nI i) (nI j) (nI T.length) (grt T) v 1 st := by
        rcases hq with hq | hq
        · rw [if_pos (h0e.mpr hq)]
        · rw [if_neg (fun z => by have := h0e.mp z; omega), if_pos (h3e.mpr hq)]
      rw [this, e195, g1, j391, if_pos hv, if_neg hvn]
    · rw [if_neg hq, if_neg (fun z => hq (Or.inl (h0e.mp z))), if_neg (fun z => hq (Or.inr (h3e.mp z))), e_X11_join_195, if_pos rfl, j391, if_pos hv, if_neg hvn, List.append_nil]
      exact ⟨st, rfl, hj⟩
  have Vm : ∀ (v : Int32) x, v < 0 → A[i]? = some x → ∃ st', L_X11_join_139 130 (nI a) (nI b) (nI c) (nI how) (nI i) (nI j) (nI T.length) (grt T) v st = L_X11_join_77 130 (nI a) (nI b) (nI c) (nI how) (nI (i + 1)) (nI (j + 0)) (nI (T ++ (if how = 1 then [] else [x])).length) (grt (T ++ (if how = 1 then [] else [x]))) st' ∧ jst L st0 st' (T ++ (if how = 1 then [] else [x])) := by
    intro v x hv hx
    have hv0 : ¬ v = 0 := fun q => by rw [q] at hv; exact absurd hv (by decide)
    have hvn : ¬ 0 < v := fun q => Int32.lt_irrefl (Int32.lt_trans hv q)
    have hx5 := hAo x (List.mem_of_getElem? hx)
    rw [e_X11_join_139, if_neg hv0, if_neg (Int32.not_le.mpr hv)]
    by_cases hq : how = 1
    · rw [if_pos (h1e.mpr hq), if_pos hq, e_X11_join_195, if_pos rfl, j391, if_neg hvn, if_pos hv, List.append_nil]
      exact ⟨st, rfl, hj⟩
    · obtain ⟨st', g1, g2⟩ := j308 (a := a) (b := b) (c := c) (how := how) (i := i) (j := j) (v := v) hF hj hT ha hA hx (Or.inl ⟨Int32.not_lt.mp hvn, rfl, rfl⟩) (w := x.2) (by omega)
      rw [if_neg (fun z => hq (h1e.mp z)), if_neg hq]
      refine ⟨st', ?_, g2⟩
      rw [e_X11_join_195, if_neg (by decide), if_neg (Int32.not_le.mpr hv), ← Option.bind_assoc, oA x hx, Option.bind_some, g1, j391, if_neg hvn, if_pos hv]
  have V0 : ∀ x y, A[i]? = some x → B[j]? = some y → ∃ st', L_X11_join_139 130 (nI a) (nI b) (nI c) (nI how) (nI i) (nI j) (nI T.length) (grt T) 0 st = L_X11_join_77 130 (nI a) (nI b) (nI c) (nI how) (nI (i + 1)) (nI (j + 1)) (nI (T ++ (if how = 0 then [(x.1, min x.2 y.2)] else if how = 1 then [(x.1, x.2 + y.2)] else [])).length) (grt (T ++ (if how = 0 then [(x.1, min x.2 y.2)] else if how = 1 then [(x.1, x.2 + y.2)] else []))) st' ∧ jst L st0 st' (T ++ (if how = 0 then [(x.1, min x.2 y.2)] else if how = 1 then [(x.1, x.2 + y.2)] else [])) := by
    intro x y hx hy
    have hx5 := hAo x (List.mem_of_getElem? hx)
    have hy5 := hBo y (List.mem_of_getElem? hy)
    rw [e_X11_join_139, if_pos rfl]
    by_cases h2 : 2 ≤ how
    · rw [if_pos (h2e.mpr h2), if_neg (by omega), if_neg (by omega), e_X11_join_195, if_pos rfl, j391, if_neg (by decide), List.append_nil]
      exact ⟨st, rfl, hj⟩
    · rw [if_neg (fun z => h2 (h2e.mp z)), e_X11_join_195, if_neg (by decide), if_pos (by decide), if_pos (by decide)]
      by_cases h0 : how = 0
      · obtain ⟨st', g1, g2⟩ := j308 (a := a) (b := b) (c := c) (how := how) (i := i) (j := j) (v := 0) hF hj hT ha hA hx (Or.inl ⟨by decide, rfl, rfl⟩) (w := min x.2 y.2) (by omega)
        rw [if_pos (h0e.mpr h0), if_pos h0]
        refine ⟨st', ?_, g2⟩
        have emin : ∀ K : Int64 → ab_S → Option ab_R, ab_rl (f_X11_lesser (lN x.2) (lN y.2) st) K = K (lN (min x.2 y.2)) st := fun K => by
          rw [e_X11_lesser_0]
          by_cases hle : y.2 ≤ x.2
          · rw [if_pos ((lc_ge (by omega) (by omega)).mpr hle), rl_ok, Nat.min_eq_right hle]
          · rw [if_neg (fun q => hle ((lc_ge (by omega) (by omega)).mp q)), rl_ok, Nat.min_eq_left (by omega)]
        rw [← Option.bind_assoc, oA x hx, Option.bind_some, ← Option.bind_assoc, oB y hy, Option.bind_some, emin, g1, j391, if_neg (by decide)]
      · have h1 : how = 1 := by omega
        obtain ⟨st', g1, g2⟩ := j308 (a := a) (b := b) (c := c) (how := how) (i := i) (j := j) (v := 0) hF hj hT ha hA hx (Or.inl ⟨by decide, rfl, rfl⟩) (w := x.2 + y.2) (by omega)
        rw [if_neg (fun z => h0 (h0e.mp z)), if_neg h0, if_pos h1]
        refine ⟨st', ?_, g2⟩
        rw [← Option.bind_assoc, oA x hx, Option.bind_some, ← Option.bind_assoc, oB y hy, Option.bind_some, lN_add, g1, j391, if_neg (by decide)]
  unfold jA jB
  rcases drop_cases A i with ⟨hA1', hA2⟩ | ⟨x, hx, hA2, hil⟩
  · rcases drop_cases B j with ⟨hB1', hB2⟩ | ⟨y, hy, hB2, hjl⟩
    · rw [hA2, hB2] at hne; simp at hne
    · rw [hA2, hB2, ji_ny]
      rw [e_X11_join_99, ← Option.bind_assoc, mA, Option.bind_some, if_pos (by rw [c_eq (by omega) (by omega)]; omega)]
      exact V1 1 y (by decide) hy
  · rcases drop_cases B j with ⟨hB1', hB2⟩ | ⟨y, hy, hB2, hjl⟩
    · rw [hA2, hB2, ji_xn]
      rw [e_X11_join_99, ← Option.bind_assoc, mA, Option.bind_some, if_neg (by rw [c_eq (by omega) (by omega)]; omega), ← Option.bind_assoc, mB, Option.bind_some, if_pos (by rw [c_eq (by omega) (by omega)]; omega)]
      exact Vm (-1) x (by decide) hx
    · rw [hA2, hB2, ji_xy, jo_xy]
      obtain ⟨r, r1, r2, r3⟩ := cmpM_ok F (show a < 6 by omega) (show b < 6 by omega) hA1 hB1 hx hy
      rw [e_X11_join_99, ← Option.bind_assoc, mA, Option.bind_some, if_neg (by rw [c_eq (by omega) (by omega)]; omega), ← Option.bind_assoc, mB, Option.bind_some, if_neg (by rw [c_eq (by omega) (by omega)]; omega), r1, ri_ok]
      rcases lcmp_tri x.1 y.1 with h | h | h
      · rw [h, if_neg (show ¬ (-1 : Int32) = 0 by decide), if_pos rfl]; exact Vm r x (r2.mpr h) hx
      · rw [h, if_pos rfl, r3.mpr h]; exact V0 x y hx hy
      · rw [h, if_neg (show ¬ (1 : Int32) = 0 by decide), if_neg (show ¬ (1 : Int32) = -1 by decide)]
        refine V1 r y ?_ hy
        have n1 : ¬ r < 0 := fun q => by rw [r2.mp q] at h; cases h
        have n2 : ¬ r = 0 := fun q => by rw [r3.mp q] at h; cases h
        rw [Int32.lt_iff_le_and_ne]
        exact ⟨Int32.not_lt.mp n1, fun q => n2 q.symm⟩
/-- join as a call -/
def a_join (S : Sg) (a b c how : Int32) : Int32 × Sg := withD a (-2, S) fun a => withD b (-2, S) fun b => withD c (-2, S) fun c => withD how (-2, S) fun how =>
  if sO S a = false then (if sO S b = false then (jans (joinD how (sD S a) (sD S b)), if jans (joinD how (sD S a) (sD S b)) < 0 then S else setAge (setDic S c (joinD how (sD S a) (sD S b)) false) c) else (-4, S)) else (-4, S)
theorem jans_lt {T : Dc} (h : T.length ≤ 400) : (jans T < 0) ↔ (200 < T.length ∨ grt T ≠ 0) := by
  rw [jans_grt]
  by_cases h1 : 200 < T.length
  · rw [if_pos h1]; simp [h1]
  · rw [if_neg h1]
    by_cases h2 : grt T = 0
    · rw [if_pos h2]; simp [h1, h2]
      exact nI_pos' (by omega)
    · rw [if_neg h2]; simp [h2]
theorem M_join (h : MS L st S) (hCo : ∀ d, d < 4 → ∀ x ∈ sD S d, x.2 ≤ 1000000000000) (a b c how : Int32) : ∃ st', f_X11_join 130 a b c how st = some (some (.int (a_join S a b c how).1), st') ∧ MS L st' (a_join S a b c how).2 ∧ onM st st' := by
  unfold a_join
  rcases isD_cases a with hd | ⟨a, ha, rfl⟩
  · rw [withD_no hd]
    exact ⟨st, by rw [e_X11_join_0, rc_ok (sh130 h), mD_no hd, ri_ok, if_pos rfl], h, onM_rfl⟩
  rw [withD_n ha]
  rcases isD_cases b with hd | ⟨b, hb, rfl⟩
  · rw [withD_no hd]
    exact ⟨st, by rw [e_X11_join_0, rc_ok (sh130 h), mD_ok ha, ri_ok, if_neg (by decide), mD_no hd, ri_ok, if_pos rfl], h, onM_rfl⟩
  rw [withD_n hb]
  rcases isD_cases c with hd | ⟨c, hc, rfl⟩
  · rw [withD_no hd]
    exact ⟨st, by rw [e_X11_join_0, rc_ok (sh130 h), mD_ok ha, ri_ok, if_neg (by decide), mD_ok hb, ri_ok, if_neg (by decide), mD_no hd, ri_ok, if_pos rfl], h, onM_rfl⟩
  rw [withD_n hc]
  rcases isD_cases how with hd | ⟨how, hh, rfl⟩
  · rw [withD_no hd]
    exact ⟨st, by rw [e_X11_join_0, rc_ok (sh130 h), mD_ok ha, ri_ok, if_neg (by decide), mD_ok hb, ri_ok, if_neg (by decide), mD_ok hc, ri_ok, if_neg (by decide), mW_no hd, ri_ok, if_pos rfl], h, onM_rfl⟩
  rw [withD_n hh]
  rw [e_X11_join_0, rc_ok (sh130 h), mD_ok ha, ri_ok, if_neg (by decide), mD_ok hb, ri_ok, if_neg (by decide), mD_ok hc, ri_ok, if_neg (by decide), mW_ok hh, ri_ok, if_neg (by decide), ← Option.bind_assoc, mOpen2 h ha, Option.bind_some]
  by_cases h1 : sO S a = false
  · rw [bi0 h1, if_pos h1, ← Option.bind_assoc, mOpen2 h hb, Option.bind_some]
    by_cases h2 : sO S b = false
    · rw [bi0 h2, if_pos h2]
      have hA := (h.2.2.1 a ha).1
      have hB := (h.2.2.1 b hb).1
      have hA9 := hA.2.1
      have hB9 := hB.2.1
      have F := h.1
      let s0 := uI st 135 4 0
      have u0 : upto (fun q => q = 135) st s0 := upto_uI rfl
      have hj0 : jst L st s0 [] := by
        refine ⟨upto_mono u0 (fun q hq => by omega), ⟨by show sI (uI st 135 4 0) 135 4 = _; rw [I_uI, if_pos ⟨rfl, rfl⟩]; rfl, by simp, fun t x hx => by simp at hx⟩, fun e E he hE => ⟨?_, hE.2.1, fun t x hx => ?_⟩⟩
        · show sI (uI st 135 4 0) 135 e = _
          rw [I_uI, if_neg (fun z => by omega)]; exact hE.1
        · have := hE.2.2 t x hx
          unfold mdAt at this ⊢
          rw [(u0.2.2 132 (by omega)).1, (u0.2.2 133 (by omega)).1, (u0.2.2 134 (by omega)).2]
          exact this
      have key : ∀ n i j st1 T, ((sD S a).drop i).length + ((sD S b).drop j).length = n → i ≤ (sD S a).length → j ≤ (sD S b).length → T.length ≤ i + j → jst L st st1 T → ∃ st', L_X11_join_77 130 (nI a) (nI b) (nI c) (nI how) (nI i) (nI j) (nI T.length) (grt T) st1 = some (some (.int (jans (T ++ jm how n ((sD S a).drop i) ((sD S b).drop j)))), st') ∧ MS L st' (if jans (T ++ jm how n ((sD S a).drop i) ((sD S b).drop j)) < 0 then S else setAge (setDic S c (T ++ jm how n ((sD S a).drop i) ((sD S b).drop j)) false) c) ∧ onM st st' := by
        intro n
        induction n using Nat.strongRecOn with
        | ind n ih =>
          intro i j st1 T hn hi hj hT hjs
          have F1 := Fx_up F hjs.1
          have hA1 := hjs.2.2 a _ ha hA
          have hB1 := hjs.2.2 b _ hb hB
          have mA : (Option.bind (ab_gR st1 130 11 5) fun x => ab_rI st1 x (nI a)) = some (nI (sD S a).length) := by rw [gR_ok (Fx_sh F1 rfl), Option.bind_some, Fx_rf F1 (v := 135) (by decide), rI_ok (Fx_sh F1 (o := 135) rfl) (by omega) (by omega), hA1.1]
          have mB : (Option.bind (ab_gR st1 130 11 5) fun x => ab_rI st1 x (nI b)) = some (nI (sD S b).length) := by rw [gR_ok (Fx_sh F1 rfl), Option.bind_some, Fx_rf F1 (v := 135) (by decide), rI_ok (Fx_sh F1 (o := 135) rfl) (by omega) (by omega), hB1.1]
          by_cases hne : (sD S a).drop i ≠ [] ∨ (sD S b).drop j ≠ []
          · obtain ⟨st2, g1, g2⟩ := jstep_ok (c := c) F hjs (by omega) ha hb hh hA hB (hCo a ha) (hCo b hb) hi hj hne
            have hlen : 1 ≤ ((sD S a).drop i).length + ((sD S b).drop j).length := by
              rcases hne with h | h
              · have := List.length_pos_iff.mpr h; omega
              · have := List.length_pos_iff.mpr h; omega
            have e77 : L_X11_join_77 130 (nI a) (nI b) (nI c) (nI how) (nI i) (nI j) (nI T.length) (grt T) st1 = L_X11_join_99 130 (nI a) (nI b) (nI c) (nI how) (nI i) (nI j) (nI T.length) (grt T) st1 := by
              rw [List.length_drop, List.length_drop] at hlen
              rw [e_X11_join_77, ← Option.bind_assoc, mA, Option.bind_some]
              by_cases hil : i < (sD S a).length
              · rw [if_pos (by rw [c_lt (by omega) (by omega)]; exact hil)]
              · rw [if_neg (by rw [c_lt (by omega) (by omega)]; exact hil), ← Option.bind_assoc, mB, Option.bind_some, if_neg (by rw [c_le (by omega) (by omega)]; omega)]
            rw [e77, g1]
            obtain ⟨n', rfl⟩ : ∃ n', n = n' + 1 := ⟨n - 1, by omega⟩
            rw [jm_step hne, ← List.append_assoc]
            have hil1 : (jitem how ((sD S a).drop i) ((sD S b).drop j)).length ≤ 1 := by
              cases hAA : (sD S a).drop i with
              | nil => cases hBB : (sD S b).drop j with
                | nil => simp [jitem]
                | cons y B' => rw [ji_ny]; split <;> simp
              | cons x A' => cases hBB : (sD S b).drop j with
                | nil => rw [ji_xn]; split <;> simp
                | cons y B' =>
                  rw [ji_xy]
                  split
                  · split
                    · simp
                    · split <;> simp
                  · split
                    · split <;> simp
                    · split <;> simp
            have hdA : ((sD S a).drop i).drop (jA ((sD S a).drop i) ((sD S b).drop j)) = (sD S a).drop (i + jA ((sD S a).drop i) ((sD S b).drop j)) := List.drop_drop ..
            have hdB : ((sD S b).drop j).drop (jB ((sD S a).drop i) ((sD S b).drop j)) = (sD S b).drop (j + jB ((sD S a).drop i) ((sD S b).drop j)) := List.drop_drop ..
            have hjj : jA ((sD S a).drop i) ((sD S b).drop j) ≤ ((sD S a).drop i).length ∧ jB ((sD S a).drop i) ((sD S b).drop j) ≤ ((sD S b).drop j).length ∧ 1 ≤ jA ((sD S a).drop i) ((sD S b).drop j) + jB ((sD S a).drop i) ((sD S b).drop j) := by
              unfold jA jB
              cases hAA : (sD S a).drop i with
              | nil =>
                rw [hAA] at hne
                have := List.length_pos_iff.mpr (show (sD S b).drop j ≠ [] by simpa using hne)
                have t2 := this
                rw [List.length_drop] at t2
                simp [jord]
                omega
              | cons x A' => cases hBB : (sD S b).drop j with
                | nil => simp [jord]
                | cons y B' => rcases jord_tri (x :: A') (y :: B') with h | h | h <;> rw [h] <;> simp
            rw [hdA, hdB]
            generalize hit : jitem how ((sD S a).drop i) ((sD S b).drop j) = it at *
            generalize hja : jA ((sD S a).drop i) ((sD S b).drop j) = ja at *
            generalize hjb : jB ((sD S a).drop i) ((sD S b).drop j) = jb at *
            have hl1 : ((sD S a).drop (i + ja)).length + ((sD S b).drop (j + jb)).length < n' + 1 ∧ i + ja ≤ (sD S a).length ∧ j + jb ≤ (sD S b).length := by
              have f1 := List.length_drop (i := i) (l := sD S a)
              have f2 := List.length_drop (i := j) (l := sD S b)
              have f3 := List.length_drop (i := i + ja) (l := sD S a)
              have f4 := List.length_drop (i := j + jb) (l := sD S b)
              omega
            have hfu : jm how n' ((sD S a).drop (i + ja)) ((sD S b).drop (j + jb)) = jm how (((sD S a).drop (i + ja)).length + ((sD S b).drop (j + jb)).length) ((sD S a).drop (i + ja)) ((sD S b).drop (j + jb)) := jm_fuel (by omega) (by omega)
            rw [hfu]
            exact ih _ hl1.1 (i + ja) (j + jb) st2 (T ++ it) rfl hl1.2.1 hl1.2.2 (by rw [List.length_append]; omega) g2
          · have hnil : (sD S a).drop i = [] ∧ (sD S b).drop j = [] := by simpa using hne
            rw [hnil.1, hnil.2, jm_nil, List.append_nil]
            have hA2 : (sD S a).length ≤ i := by have := congrArg List.length hnil.1; simp at this; omega
            have hB2 : (sD S b).length ≤ j := by have := congrArg List.length hnil.2; simp at this; omega
            have hon : onM st st1 := onM_up hjs.1 (fun q hq => by omega)
            have hMS : MS L st1 S := by
              obtain ⟨hF, g2, g3, g4, g5, g6, g7, g8⟩ := h
              have hu := hjs.1
              have e : ∀ q, ¬ (132 ≤ q ∧ q ≤ 135) → sI st1 q = sI st q := fun q a => (hu.2.2 q a).1
              exact ⟨F1, ⟨by rw [e 130 (by omega)]; exact g2.1, mRow_up g2.2 hu (by omega)⟩, fun d hd => ⟨hjs.2.2 d _ hd (g3 d hd).1, by rw [e 136 (by omega)]; exact (g3 d hd).2⟩, fun d hd => by rw [e 137 (by omega)]; exact g4 d hd, fun k hk => by rw [e 140 (by omega), e 141 (by omega), e 142 (by omega), e 143 (by omega)]; exact g5 k hk, ⟨by rw [e 130 (by omega)]; exact g6.1, fun k t hk => by rw [e 138 (by omega)]; exact g6.2 k t hk⟩, by rw [e 130 (by omega)]; exact g7, ⟨by rw [e 130 (by omega)]; exact g8.1, fun k s hk => by rw [e 139 (by omega)]; exact g8.2 k s hk⟩⟩
            have hlt := jans_lt (T := T) (by omega)
            have hjg := jans_grt (T := T)
            rw [e_X11_join_77, ← Option.bind_assoc, mA, Option.bind_some, if_neg (by rw [c_lt (by omega) (by omega)]; omega), ← Option.bind_assoc, mB, Option.bind_some, if_pos (by rw [c_le (by omega) (by omega)]; omega), nl 200]
            by_cases hT2 : 200 < T.length
            · rw [if_neg (by rw [c_le (by omega) (by omega)]; omega), if_pos (hlt.mpr (Or.inl hT2)), hjg, if_pos hT2]
              exact ⟨st1, rfl, hMS, hon⟩
            · rw [if_pos (by rw [c_le (by omega) (by omega)]; omega)]
              by_cases hg : grt T = 0
              · have hnl : ¬ jans T < 0 := fun q => by
                  rcases hlt.mp q with z | z
                  · exact hT2 z
                  · exact z hg
                have h4 := hjs.2.1
                rw [List.take_of_length_le (by omega)] at h4
                obtain ⟨st3, c1, c2, c3⟩ := come_ok hMS hc h4
                rw [if_pos hg, c1, rv_ok, if_neg hnl, hjg, if_neg hT2, if_pos hg]
                exact ⟨st3, rfl, c2, onM_trans hon c3⟩
              · rw [if_neg hg, if_pos (hlt.mpr (Or.inr hg)), hjg, if_neg hT2, if_neg hg]
                exact ⟨st1, rfl, hMS, hon⟩
      rw [gR_ok (sh130 h), Option.bind_some, Fx_rf F (v := 135) (by decide)]
      show ∃ st', Option.bind (ab_wI st 135 (nI 4) 0) _ = _ ∧ _
      rw [wI_ok (Fx_sh F (o := 135) rfl) (by omega) (by omega), Option.bind_some]
      have := key _ 0 0 s0 [] rfl (by omega) (by omega) (by simp) hj0
      simp only [List.drop_zero, List.nil_append] at this
      exact this
    · rw [bi1 h2, if_neg h2]; exact ⟨st, rfl, h, onM_rfl⟩
  · rw [bi1 h1, if_neg h1]; exact ⟨st, rfl, h, onM_rfl⟩
end JOINL
