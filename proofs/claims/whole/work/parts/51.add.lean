/-! ADD: a term behind the others -/
section ADD
variable {L : Nat} {st : ab_S} {S : Sg}
theorem append_full {o a : Nat} {D : Dc} (h : isTm st o D) (hl : D.length = 200) {n : Nat} (ha : (sH st)[a]? = some (1, n)) (f l : Int32) (out : Int64) : f_X7_append o a f l out st = some (some (.int 0), st) := by
  have h8 := h.2.2.2.2.2.2.2.1
  have k21 : ∀ t, L_X7_append_21 o a f l out t st = some (some (.int 0), st) := fun t => by
    rw [e_X7_append_21, gI_ok h.1, Option.bind_some, h8, hl, nl 200, if_pos (Int32.le_refl _), z_0]
  rw [e_X7_append_0, rc_ok h.1, e_X7_append_20, k21, k21, n_ok ha (by decide) (by decide), Option.bind_some]
  simp only [ite_self]
theorem append_ok {o a n f : Nat} {D : Dc} (h : isTm st o D) (hl : D.length < 200) (ha : (sH st)[a]? = some (1, n)) (hao : a < o ∨ o + 3 < a) (hn : n < 1000000) {x : List Nat} (hx : ∀ k s, x[k]? = some s → sI st a (f + k) = nI s ∧ s < 256) (hx12 : x.length ≤ 12) (hf : f + x.length ≤ n) {v : Nat} (hv : v ≤ 1000000000000) : ∃ st', f_X7_append o a (nI f) (nI x.length) (lN v) st = some (some (.int 1), st') ∧ isTm st' o (D ++ [(x, v)]) ∧ upto (fun q => o ≤ q ∧ q ≤ o + 3) st st' := by
  have hh := h
  obtain ⟨a1, a2, a3, a4, a5, a6, a7, a8, a9, a10⟩ := hh
  have key : ∀ j i st1, x.length - i = j → i ≤ x.length → upto (fun q => q = o + 2) st st1 → (∀ p, p < D.length * 12 → sI st1 (o + 2) p = sI st (o + 2) p) → (∀ k s, k < i → x[k]? = some s → sI st1 (o + 2) (D.length * 12 + k) = nI s) → ∃ st', L_X7_append_49 o a (nI f) (nI x.length) (lN v) (nI i) st1 = some (some (.int 1), st') ∧ isTm st' o (D ++ [(x, v)]) ∧ upto (fun q => o ≤ q ∧ q ≤ o + 3) st st' := by
    intro j
    induction j with
    | zero =>
      intro i st1 hj hi hu hp hk
      have hi2 : i = x.length := by omega
      subst hi2
      have b1 : (sH st1)[o]? = some (0, 7) := by rw [hu.1]; exact a1
      have b2 : (sH st1)[o + 1]? = some (1, 200) := by rw [hu.1]; exact a2
      have b4 : (sH st1)[o + 3]? = some (2, 200) := by rw [hu.1]; exact a4
      have r0 : sR st1 o 0 = o + 1 := by rw [hu.2.1]; exact a5
      have r2 : sR st1 o 2 = o + 3 := by rw [hu.2.1]; exact a7
      have e3 : sI st1 o = sI st o := (hu.2.2 o (by omega)).1
      have e4 : sI st1 (o + 1) = sI st (o + 1) := (hu.2.2 (o + 1) (by omega)).1
      have e5 : sJ st1 (o + 3) = sJ st (o + 3) := (hu.2.2 (o + 3) (by omega)).2
      have n1 : ¬ o = o + 1 := by omega
      have n2 : ¬ o + 1 = o := by omega
      have n3 : ¬ o + 2 = o := by omega
      have n4 : ¬ o + 2 = o + 1 := by omega
      have n5 : ¬ o = o + 2 := by omega
      let s3 := uI st1 (o + 1) D.length (nI x.length)
      let s6 := uJ s3 (o + 3) D.length (lN v)
      let s8 := uI s6 o 3 (nI D.length + 1)
      have u1 : upto (fun q => o ≤ q ∧ q ≤ o + 3) st1 s3 := upto_uI (by omega)
      have u2 : upto (fun q => o ≤ q ∧ q ≤ o + 3) s3 s6 := upto_uJ (by omega)
      have u3 : upto (fun q => o ≤ q ∧ q ≤ o + 3) s6 s8 := upto_uI (by omega)
      have hU : upto (fun q => o ≤ q ∧ q ≤ o + 3) st s8 := upto_trans (upto_mono hu (fun q hq => by omega)) (upto_trans u1 (upto_trans u2 u3))
      have f3 : sI s3 o 3 = nI D.length := by
        show sI (uI st1 (o + 1) D.length (nI x.length)) o 3 = _
        rw [I_uI, if_neg (fun z => n1 z.1), e3, a8]
      have f6 : sI s6 o 3 = nI D.length := f3
      have g3 : (sH s3)[o]? = some (0, 7) := b1
      have g6 : (sH s6)[o]? = some (0, 7) := b1
      have r3 : sR s3 o 2 = o + 3 := r2
      have b43 : (sH s3)[o + 3]? = some (2, 200) := b4
      refine ⟨s8, ?_, ⟨by rw [hU.1]; exact a1, by rw [hU.1]; exact a2, by rw [hU.1]; exact a3, by rw [hU.1]; exact a4, by rw [hU.2.1]; exact a5, by rw [hU.2.1]; exact a6, by rw [hU.2.1]; exact a7, ?_, by simp; omega, fun t y hy => ?_⟩, hU⟩
      · rw [e_X7_append_49, if_pos (Int32.le_refl _), gR_ok b1, Option.bind_some, r0, gI_ok b1, Option.bind_some, e3, a8, wI_ok b2 hl (by omega), Option.bind_some, gR_ok g3, Option.bind_some]
        show Option.bind (ab_gI s3 o 7 3) _ = _
        rw [gI_ok g3, Option.bind_some, f3]
        show Option.bind (ab_wJ s3 (sR s3 o 2) (nI D.length) (lN v)) _ = _
        rw [r3, wJ_ok b43 hl (by omega), Option.bind_some, gI_ok g6, Option.bind_some]
        show Option.bind (ab_pI s6 o 7 3 (sI s6 o 3 + 1)) _ = _
        rw [f6, pI_ok g6, Option.bind_some, z_1]
      · show sI (uI s6 o 3 (nI D.length + 1)) o 3 = _
        rw [I_uI, if_pos ⟨rfl, rfl⟩, nI_1]
        simp
      · have hy1 : sI s8 (o + 1) t = if t = D.length then nI x.length else sI st (o + 1) t := by
          show sI (uI s6 o 3 (nI D.length + 1)) (o + 1) t = _
          rw [I_uI, if_neg (fun z => n2 z.1)]
          show sI (uI st1 (o + 1) D.length (nI x.length)) (o + 1) t = _
          rw [I_uI, e4]
          simp
        have hy2 : ∀ p, sI s8 (o + 2) p = sI st1 (o + 2) p := fun p => by
          show sI (uI s6 o 3 (nI D.length + 1)) (o + 2) p = _
          rw [I_uI, if_neg (fun z => n3 z.1)]
          show sI (uI st1 (o + 1) D.length (nI x.length)) (o + 2) p = _
          rw [I_uI, if_neg (fun z => n4 z.1)]
        have hy3 : sJ s8 (o + 3) t = if t = D.length then lN v else sJ st (o + 3) t := by
          show sJ (uJ s3 (o + 3) D.length (lN v)) (o + 3) t = _
          rw [J_uJ]
          show (if _ then _ else sJ st1 (o + 3) t) = _
          rw [e5]
          simp
        have htl := lt_of_get hy
        rw [List.length_append, List.length_singleton] at htl
        by_cases htD : t = D.length
        · subst htD
          rw [List.getElem?_append_right (Nat.le_refl _), Nat.sub_self] at hy
          cases hy
          refine ⟨by rw [hy1, if_pos rfl], hx12, fun k s hs => ⟨?_, (hx k s hs).2⟩, by rw [hy3, if_pos rfl], hv⟩
          rw [hy2]
          exact hk k s (List.getElem?_eq_some_iff.mp hs).1 hs
        · rw [List.getElem?_append_left (by omega)] at hy
          obtain ⟨c1, c2, c3, c4, c5⟩ := a10 t y hy
          refine ⟨by rw [hy1, if_neg htD]; exact c1, c2, fun k s hs => ⟨?_, (c3 k s hs).2⟩, by rw [hy3, if_neg htD]; exact c4, c5⟩
          have := (List.getElem?_eq_some_iff.mp hs).1
          rw [hy2, hp _ (by omega)]
          exact (c3 k s hs).1
    | succ j ih =>
      intro i st1 hj hi hu hp hk
      have b1 : (sH st1)[o]? = some (0, 7) := by rw [hu.1]; exact a1
      have b3 : (sH st1)[o + 2]? = some (1, 2400) := by rw [hu.1]; exact a3
      have ba : (sH st1)[a]? = some (1, n) := by rw [hu.1]; exact ha
      have r1 : sR st1 o 1 = o + 2 := by rw [hu.2.1]; exact a6
      have e3 : sI st1 o = sI st o := (hu.2.2 o (by omega)).1
      have ea : sI st1 a = sI st a := (hu.2.2 a (by omega)).1
      have hg : x[i]? = some x[i] := List.getElem?_eq_getElem (by omega)
      obtain ⟨hxa, hxb⟩ := hx i _ hg
      rw [e_X7_append_49, if_neg (by rw [c_le (by omega) (by omega)]; omega), gR_ok b1, Option.bind_some, r1, gI_ok b1, Option.bind_some, e3, a8, a_add, rI_ok ba (by omega) (by omega), Option.bind_some, ea, hxa, nl 12, a_mul, a_add, wI_ok b3 (by omega) (by omega), Option.bind_some, nI_1]
      refine ih (i + 1) _ (by omega) (by omega) (upto_trans hu (upto_uI rfl)) (fun p hp2 => ?_) (fun k s hk2 hs => ?_)
      · rw [I_uI, if_neg (fun z => by omega)]
        exact hp p hp2
      · rw [I_uI]
        by_cases hki : k = i
        · subst hki
          rw [hg] at hs
          cases hs
          rw [if_pos ⟨rfl, rfl⟩]
        · rw [if_neg (fun z => by omega)]
          exact hk k s (by omega) hs
  rw [e_X7_append_0, rc_ok a1, if_neg (nI_pos (by omega)), if_neg (nI_pos (by omega)), n_ok ha (by decide) (by decide), Option.bind_some]
  show ∃ st', (if nI n - nI x.length < nI f then _ else _) = _ ∧ _
  rw [a_sub (by omega), if_neg (by rw [c_lt (by omega) (by omega)]; omega), e_X7_append_21, gI_ok a1, Option.bind_some, a8, nl 200, if_neg (by rw [c_le (by omega) (by omega)]; omega), nl 12, if_neg (by rw [c_lt (by omega) (by omega)]; omega), if_neg (by decide)]
  exact key _ 0 st rfl (by omega) upto_rfl (fun _ _ => rfl) (fun k s hk => by omega)
/-- the model's append, from any row of signs -/
theorem appendM_ok (hF : Fx L st) {d a n f : Nat} {D : Dc} (hd : d < 6) (h : isMd st d D) (hl : D.length < 200) (ha : (sH st)[a]? = some (3, n)) (hn : n < 1000000) {x : List Nat} (hx : ∀ k s, x[k]? = some s → sI st a (f + k) = by8 s ∧ s < 256) (hx12 : x.length ≤ 12) (hf : f + x.length ≤ n) (hfa : a = 132 → f + x.length ≤ 12 * (200 * d + D.length)) (haa : a = 131 ∨ a = 132 ∨ 143 < a) {v : Nat} (hv : v ≤ 2000000000000) : ∃ st', f_X11_append 130 (nI d) a (nI f) (nI x.length) (lN v) st = some (none, st') ∧ isMd st' d (D ++ [(x, v)]) ∧ (∀ e E, e ≠ d → isMd st e E → isMd st' e E) ∧ upto (fun q => 132 ≤ q ∧ q ≤ 135) st st' := by
  have hh := h
  obtain ⟨a1, a9, a10⟩ := hh
  have key : ∀ j i st1, x.length - i = j → i ≤ x.length → upto (fun q => q = 132) st st1 → (∀ p, p < 12 * (200 * d + D.length) ∨ 12 * (200 * d + D.length) + 12 ≤ p → sI st1 132 p = sI st 132 p) → (∀ k s, k < i → x[k]? = some s → sI st1 132 (12 * (200 * d + D.length) + k) = by8 s) → ∃ st', L_X11_append_17 130 (nI d) a (nI f) (nI x.length) (lN v) (nI (200 * d + D.length)) (nI i) st1 = some (none, st') ∧ isMd st' d (D ++ [(x, v)]) ∧ (∀ e E, e ≠ d → isMd st e E → isMd st' e E) ∧ upto (fun q => 132 ≤ q ∧ q ≤ 135) st st' := by
    intro j
    induction j with
    | zero =>
      intro i st1 hj hi hu hp hk
      have hi2 : i = x.length := by omega
      subst hi2
      have hF1 : Fx L st1 := Fx_up hF hu
      let T := 200 * d + D.length
      let s2 := uI st1 133 T (nI x.length)
      let s4 := uJ s2 134 T (lN v)
      let s7 := uI s4 135 d (nI D.length + 1)
      have u1 : upto (fun q => 132 ≤ q ∧ q ≤ 135) st1 s2 := upto_uI (by omega)
      have u2 : upto (fun q => 132 ≤ q ∧ q ≤ 135) s2 s4 := upto_uJ (by omega)
      have u3 : upto (fun q => 132 ≤ q ∧ q ≤ 135) s4 s7 := upto_uI (by omega)
      have hU : upto (fun q => 132 ≤ q ∧ q ≤ 135) st s7 := upto_trans (upto_mono hu (fun q hq => by omega)) (upto_trans u1 (upto_trans u2 u3))
      have F2 : Fx L s2 := hF1
      have F4 : Fx L s4 := hF1
      have e5 : sI s4 135 = sI st 135 := by
        show sI (uI st1 133 T (nI x.length)) 135 = _
        rw [← (hu.2.2 135 (by omega)).1]
        exact ((upto_uI (W := fun q => q = 133) rfl).2.2 135 (by omega)).1
      have y3 : ∀ t, sI s7 133 t = if t = T then nI x.length else sI st 133 t := fun t => by
        rw [← (hu.2.2 133 (by omega)).1]
        show sI (uI s4 135 d (nI D.length + 1)) 133 t = _
        rw [I_uI, if_neg (fun z => by omega)]
        show sI (uI st1 133 T (nI x.length)) 133 t = _
        rw [I_uI]
        simp
      have y2 : ∀ p, sI s7 132 p = sI st1 132 p := fun p => by
        show sI (uI s4 135 d (nI D.length + 1)) 132 p = _
        rw [I_uI, if_neg (fun z => by omega)]
        show sI (uI st1 133 T (nI x.length)) 132 p = _
        rw [I_uI, if_neg (fun z => by omega)]
      have y4 : ∀ t, sJ s7 134 t = if t = T then lN v else sJ st 134 t := fun t => by
        rw [← (hu.2.2 134 (by omega)).2]
        show sJ (uJ s2 134 T (lN v)) 134 t = _
        rw [J_uJ]
        simp
        rfl
      have y5 : ∀ e, sI s7 135 e = if e = d then nI D.length + 1 else sI st 135 e := fun e => by
        show sI (uI s4 135 d (nI D.length + 1)) 135 e = _
        rw [I_uI, e5]
        simp
      refine ⟨s7, ?_, ⟨?_, by simp; omega, fun t y hy => ?_⟩, fun e E hed hE => ⟨?_, hE.2.1, fun t y hy => ?_⟩, hU⟩
      · rw [e_X11_append_17, if_pos (Int32.le_refl _), gR_ok (Fx_sh hF1 rfl), Option.bind_some, Fx_rf hF1 (v := 133) (by decide), wI_ok (Fx_sh hF1 (o := 133) rfl) (by omega) (by omega), Option.bind_some]
        show Option.bind (ab_gR s2 130 11 4) _ = _
        rw [gR_ok (Fx_sh F2 rfl), Option.bind_some, Fx_rf F2 (v := 134) (by decide)]
        show Option.bind (ab_wJ s2 134 (nI T) (lN v)) _ = _
        rw [wJ_ok (Fx_sh F2 (o := 134) rfl) (by omega) (by omega), Option.bind_some]
        show Option.bind (ab_gR s4 130 11 5) _ = _
        rw [gR_ok (Fx_sh F4 rfl), Option.bind_some, Fx_rf F4 (v := 135) (by decide)]
        show Option.bind (ab_rI s4 135 (nI d)) _ = _
        rw [rI_ok (Fx_sh F4 (o := 135) rfl) (by omega) (by omega), Option.bind_some, e5, a1]
        show Option.bind (ab_wI s4 135 (nI d) (nI D.length + 1)) _ = _
        rw [wI_ok (Fx_sh F4 (o := 135) rfl) (by omega) (by omega), Option.bind_some]
      · rw [y5, if_pos rfl, nI_1]; simp
      · have htl := lt_of_get hy
        rw [List.length_append, List.length_singleton] at htl
        by_cases htD : t = D.length
        · subst htD
          rw [List.getElem?_append_right (Nat.le_refl _), Nat.sub_self] at hy
          cases hy
          refine ⟨by rw [y3, if_pos rfl], hx12, fun k s hs => ⟨?_, (hx k s hs).2⟩, by rw [y4, if_pos rfl], hv⟩
          rw [y2, Nat.mul_comm _ 12]
          exact hk k s (List.getElem?_eq_some_iff.mp hs).1 hs
        · rw [List.getElem?_append_left (by omega)] at hy
          obtain ⟨c1, c2, c3, c4, c5⟩ := a10 t y hy
          have hT : ¬ 200 * d + t = T := fun q => htD (by omega)
          refine ⟨by rw [y3, if_neg hT]; exact c1, c2, fun k s hs => ⟨?_, (c3 k s hs).2⟩, by rw [y4, if_neg hT]; exact c4, c5⟩
          have := (List.getElem?_eq_some_iff.mp hs).1
          rw [y2, hp _ (by omega)]
          exact (c3 k s hs).1
      · rw [y5, if_neg hed]; exact hE.1
      · have htl := lt_of_get hy
        have hE2 := hE.2.1
        obtain ⟨c1, c2, c3, c4, c5⟩ := hE.2.2 t y hy
        have hT : ¬ 200 * e + t = T := fun q => hed (by omega)
        refine ⟨by rw [y3, if_neg hT]; exact c1, c2, fun k s hs => ⟨?_, (c3 k s hs).2⟩, by rw [y4, if_neg hT]; exact c4, c5⟩
        have := (List.getElem?_eq_some_iff.mp hs).1
        rw [y2, hp _ (by omega)]
        exact (c3 k s hs).1
    | succ j ih =>
      intro i st1 hj hi hu hp hk
      have hF1 : Fx L st1 := Fx_up hF hu
      have ba : (sH st1)[a]? = some (3, n) := by rw [hu.1]; exact ha
      have hg : x[i]? = some x[i] := List.getElem?_eq_getElem (by omega)
      obtain ⟨hxa, hxb⟩ := hx i _ hg
      have ea : sI st1 a (f + i) = sI st a (f + i) := by
        by_cases h132 : a = 132
        · have := hfa h132
          subst h132
          exact hp _ (by omega)
        · rw [(hu.2.2 a h132).1]
      rw [e_X11_append_17, if_neg (by rw [c_le (by omega) (by omega)]; omega), gR_ok (Fx_sh hF1 rfl), Option.bind_some, Fx_rf hF1 (v := 132) (by decide), a_add, rB_ok ba (by omega) (by omega), Option.bind_some, ea, hxa, nl 12, a_mul, a_add, wB_ok (Fx_sh hF1 (o := 132) rfl) (by omega) (by omega), Option.bind_some, by8_idem, nI_1]
      refine ih (i + 1) _ (by omega) (by omega) (upto_trans hu (upto_uI rfl)) (fun p hp2 => ?_) (fun k s hk2 hs => ?_)
      · rw [I_uI, if_neg (fun z => by omega)]
        exact hp p hp2
      · rw [I_uI]
        by_cases hki : k = i
        · subst hki
          rw [hg] at hs
          cases hs
          rw [if_pos ⟨rfl, rfl⟩]
        · rw [if_neg (fun z => by omega)]
          exact hk k s (by omega) hs
  rw [e_X11_append_0, rc_ok (Fx_sh hF rfl), gR_ok (Fx_sh hF rfl), Option.bind_some, Fx_rf hF (v := 135) (by decide), rI_ok (Fx_sh hF (o := 135) rfl) (by omega) (by omega), Option.bind_some, a1, nl 200, a_mul, a_add]
  exact key _ 0 st rfl (by omega) upto_rfl (fun _ _ => rfl) (fun k s hk => by omega)
end ADD
