/-! NEARLY WRITTEN WORDS: the model's table (object 162) -/
section NEARM
variable {L : Nat} {st : ab_S} {S : Sg} {w x : List Nat}
theorem lesI {a b : Nat} (ha : a < 2147483648) (hb : b < 2147483648) (K : Int64 → ab_S → Option ab_R) : ab_rl (f_X11_lesser (nI a).toInt64 (nI b).toInt64 st) K = K (lN (min a b)) st := by
  rw [nI_l ha, nI_l hb, e_X11_lesser_0]
  by_cases hle : b ≤ a
  · rw [if_pos ((lc_ge (by omega) (by omega)).mpr hle), rl_ok, Nat.min_eq_right hle]
  · rw [if_neg (fun q => hle ((lc_ge (by omega) (by omega)).mp q)), rl_ok, Nat.min_eq_left (by omega)]
def tabM (st : ab_S) (w x : List Nat) (i j : Nat) : Prop := ∀ a b, (a < i ∧ b ≤ x.length) ∨ (a = i ∧ b < j) → sI st 162 (14 * a + b) = nI (dis w x a b)
theorem tabM_set {i j : Nat} (hx : x.length ≤ 12) (h : tabM st w x i j) (hj : j ≤ x.length) : tabM (uI st 162 (14 * i + j) (nI (dis w x i j))) w x i (j + 1) := by
  intro a b hab
  rw [I_uI]
  by_cases hq : 162 = 162 ∧ 14 * a + b = 14 * i + j
  · rw [if_pos hq]
    have : a = i ∧ b = j := by omega
    rw [this.1, this.2]
  · rw [if_neg hq]
    exact h a b (by omega)
theorem e_pred {n : Nat} : nI (n + 2) - 2 = nI n := by
  show nI (n + 2) - nI 2 = nI n
  rw [a_sub (by omega)]; rfl
theorem distM_ok (hF : Fx L st) {d t : Nat} {D : Dc} {y : List Nat × Nat} (hd : d < 6) (h : isMd st d D) (hy : D[t]? = some y) (hw : mRow st w) (hwl : w.length ≤ 12) : ∃ st', f_X11_distance 130 (nI d) (nI t) (nI w.length) st = some (some (.int (nI (dis w y.1 w.length y.1.length))), st') ∧ upto (fun q => q = 162) st st' := by
  have hl := lt_of_get hy
  have h2 := h.2.1
  obtain ⟨b1, xl, xs, b4, b5⟩ := h.2.2 t y hy
  generalize hx : y.1 = x at *
  have hx256 : ∀ s ∈ x, s < 256 := fun s hs => by
    obtain ⟨q, hq⟩ := List.mem_iff_getElem?.mp hs
    exact (xs q s hq).2
  have k26 : ∀ k i j st1, x.length + 1 - j = k → i ≤ w.length → j ≤ x.length + 1 → upto (fun q => q = 162) st st1 → tabM st1 w x i j → ∃ st2, L_X11_distance_26 130 (nI d) (nI t) (nI w.length) (nI x.length) (nI i) (nI j) st1 = L_X11_distance_17 130 (nI d) (nI t) (nI w.length) (nI x.length) (nI (i + 1)) st2 ∧ upto (fun q => q = 162) st st2 ∧ tabM st2 w x (i + 1) 0 := by
    intro k
    induction k with
    | zero =>
      intro i j st1 hk hi hj hu ht
      refine ⟨st1, ?_, hu, fun a b hab => ht a b (by omega)⟩
      rw [e_X11_distance_26, if_pos (by rw [c_lt (by omega) (by omega)]; omega), nI_1]
    | succ k ih =>
      intro i j st1 hk hi hj hu ht
      have F1 := Fx_up hF hu
      have hM1 := isMd_up h hu (by omega) (by omega) (by omega) (by omega)
      have hw1 := mRow_up hw hu (by omega)
      have go : ∀ v, v = dis w x i j → ∃ st2, L_X11_distance_267 130 (nI d) (nI t) (nI w.length) (nI x.length) (nI i) (nI j) (nI v) st1 = L_X11_distance_17 130 (nI d) (nI t) (nI w.length) (nI x.length) (nI (i + 1)) st2 ∧ upto (fun q => q = 162) st st2 ∧ tabM st2 w x (i + 1) 0 := by
        intro v hv
        rw [e_X11_distance_267, gR_ok (Fx_sh F1 rfl), Option.bind_some, Fx_rf F1 (v := 162) (by decide), nl 14, a_mul, a_add, wI_ok (Fx_sh F1 (o := 162) rfl) (by omega) (by omega), Option.bind_some, nI_1, hv]
        exact ih i (j + 1) _ (by omega) hi (by omega) (upto_trans hu (upto_uI rfl)) (tabM_set xl ht (by omega))
      rw [e_X11_distance_26, if_neg (by rw [c_lt (by omega) (by omega)]; omega)]
      by_cases hi0 : i = 0
      · subst hi0
        rw [if_pos (show nI 0 = 0 from rfl), e_X11_distance_91, if_pos (show nI 0 ≤ 0 by decide)]
        exact go j (by rw [dis_0])
      · rw [if_neg (show ¬ nI i = 0 from nI_ne0 (by omega) (by omega))]
        by_cases hj0 : j = 0
        · subst hj0
          rw [if_pos (show nI 0 = 0 from rfl), e_X11_distance_91, if_neg (show ¬ nI i ≤ 0 from nI_nle (by omega) (by omega)), if_pos (show nI 0 ≤ 0 by decide)]
          exact go i (by rw [dis_i0])
        · obtain ⟨i', rfl⟩ : ∃ i', i = i' + 1 := ⟨i - 1, by omega⟩
          obtain ⟨j', rfl⟩ : ∃ j', j = j' + 1 := ⟨j - 1, by omega⟩
          have t1 := ht i' (j' + 1) (by omega)
          have t2 := ht (i' + 1) j' (by omega)
          have t3 := ht i' j' (by omega)
          have l1 := dis_hi (w := w) (x := x) (Nat.le_refl (i' + (j' + 1)))
          have l2 := dis_hi (w := w) (x := x) (Nat.le_refl (i' + 1 + j'))
          have l3 := dis_hi (w := w) (x := x) (Nat.le_refl (i' + j'))
          have ix : ∀ a b, nI (14 * a + (b + 1)) - 1 = nI (14 * a + b) := fun a b => by rw [← Nat.add_assoc, nI_pred]
          have rT : ∀ p, p < 196 → ab_rI st1 162 (nI p) = some (sI st1 162 p) := fun p hp => rI_ok (Fx_sh F1 (o := 162) rfl) hp (by omega)
          have hgi : w[i']? = some w[i'] := List.getElem?_eq_getElem (by omega)
          have hgj : x[j']? = some x[j'] := List.getElem?_eq_getElem (by omega)
          have hsi := (hw.1 i' _ hgi).2
          have hsj := hx256 _ (List.mem_of_getElem? hgj)
          have rw1 : ∀ q s, w[q]? = some s → ab_rB st1 131 (nI q) = some (by8 s) := fun q s hq => by
            have := (List.getElem?_eq_some_iff.mp hq).1
            rw [rB_ok (Fx_sh F1 (o := 131) rfl) (by omega) (by omega), (hw1.1 q s hq).1]
          have lt1 : ∀ q s, x[q]? = some s → f_X11_letter 130 (nI d) (nI t) (nI q) st1 = some (some (.int (nI s)), st1) := fun q s hq => letter_ok F1 hM1 hd hy (by rw [hx]; exact hq)
          have hcle : (if w[i']? = x[j']? then 0 else 1) ≤ 1 := by split <;> omega
          have e134 : L_X11_distance_91 130 (nI d) (nI t) (nI w.length) (nI x.length) (nI (i' + 1)) (nI (j' + 1)) (nI (min (dis w x i' (j' + 1)) (dis w x (i' + 1) j') + 1)) st1 = L_X11_distance_166 130 (nI d) (nI t) (nI w.length) (nI x.length) (nI (i' + 1)) (nI (j' + 1)) (nI (min (dis w x i' (j' + 1)) (dis w x (i' + 1) j') + 1)).toInt64 (nI (dis w x i' j')) (nI (if w[i']? = x[j']? then 0 else 1)) st1 := by
            rw [e_X11_distance_91, if_neg (show ¬ nI (i' + 1) ≤ 0 from nI_nle (by omega) (by omega)), if_neg (show ¬ nI (j' + 1) ≤ 0 from nI_nle (by omega) (by omega)), gR_ok (Fx_sh F1 rfl), Option.bind_some, Fx_rf F1 (v := 131) (by decide), nI_pred, nI_pred, rw1 i' _ hgi, Option.bind_some, lt1 j' _ hgj, ri_ok, by8_and _ hsi, e_X11_distance_134, e_X11_distance_134, gR_ok (Fx_sh F1 rfl), Option.bind_some, Fx_rf F1 (v := 162) (by decide), nl 14, nI_pred, a_mul, a_add, ix, rT _ (by omega), Option.bind_some, t3]
            rw [hgi, hgj]
            by_cases hq : w[i'] = x[j']
            · rw [if_pos (by rw [hq]), if_neg (by decide), if_pos (by rw [hq])]; rfl
            · rw [if_neg (by rw [c_eq (by omega) (by omega)]; exact hq), Option.bind_some, rT _ (by omega), Option.bind_some, t3, if_pos rfl, if_neg (fun z => hq (Option.some.inj z))]; rfl
          rw [if_neg (show ¬ nI (j' + 1) = 0 from nI_ne0 (by omega) (by omega)), gR_ok (Fx_sh F1 rfl), Option.bind_some, Fx_rf F1 (v := 162) (by decide), nl 14, nI_pred, a_mul, a_add, rT _ (by omega), Option.bind_some, Option.bind_some, a_mul, a_add, ix, rT _ (by omega), Option.bind_some, t1, t2, lesI (by omega) (by omega), lN_i, nI_1, e134]
          generalize hcc : (if w[i']? = x[j']? then 0 else 1) = cc at hcle
          rw [e_X11_distance_166, a_add, lesI (by omega) (by omega), lN_i]
          have hdis : dis w x (i' + 1) (j' + 1) = if 1 ≤ i' ∧ 1 ≤ j' ∧ w[i' - 1]? = x[j']? ∧ w[i']? = x[j' - 1]? then min (min (min (dis w x i' (j' + 1)) (dis w x (i' + 1) j') + 1) (dis w x i' j' + cc)) (dis w x (i' - 1) (j' - 1) + 1) else min (min (dis w x i' (j' + 1)) (dis w x (i' + 1) j') + 1) (dis w x i' j' + cc) := by rw [dis, hcc]
          generalize hm : min (min (dis w x i' (j' + 1)) (dis w x (i' + 1) j') + 1) (dis w x i' j' + cc) = m at hdis ⊢
          have hml : m < 1000 := by omega
          show ∃ st2, (if nI (i' + 1) ≤ nI 1 then _ else if nI (j' + 1) ≤ nI 1 then _ else _) = _ ∧ _
          by_cases hi1 : 1 ≤ i'
          · rw [if_neg (by rw [c_le (by omega) (by omega)]; omega)]
            by_cases hj1 : 1 ≤ j'
            · rw [if_neg (by rw [c_le (by omega) (by omega)]; omega)]
              obtain ⟨i2, rfl⟩ : ∃ i2, i' = i2 + 1 := ⟨i' - 1, by omega⟩
              obtain ⟨j2, rfl⟩ : ∃ j2, j' = j2 + 1 := ⟨j' - 1, by omega⟩
              have hgi2 : w[i2]? = some w[i2] := List.getElem?_eq_getElem (by omega)
              have hgj2 : x[j2]? = some x[j2] := List.getElem?_eq_getElem (by omega)
              have hsi2 := (hw.1 i2 _ hgi2).2
              have hsj2 := hx256 _ (List.mem_of_getElem? hgj2)
              rw [gR_ok (Fx_sh F1 rfl), Option.bind_some, Fx_rf F1 (v := 131) (by decide), nI_pred, e_pred, rw1 _ _ hgi, Option.bind_some, lt1 _ _ hgj2, ri_ok, by8_and _ hsi]
              simp only [Nat.add_sub_cancel, hgi, hgj, hgi2, hgj2] at hdis
              by_cases h2' : w[i2 + 1] = x[j2]
              · rw [if_pos (by rw [h2']), gR_ok (Fx_sh F1 rfl), Option.bind_some, Fx_rf F1 (v := 131) (by decide), e_pred, rw1 _ _ hgi2, Option.bind_some, nI_pred, lt1 _ _ hgj, ri_ok, by8_and _ hsi2]
                by_cases h1' : w[i2] = x[j2 + 1]
                · rw [if_pos ⟨by omega, by omega, by rw [h1'], by rw [h2']⟩] at hdis
                  have t4 := ht i2 j2 (by omega)
                  have l4 := dis_hi (w := w) (x := x) (Nat.le_refl (i2 + j2))
                  have ix2 : nI (14 * i2 + (j2 + 2)) - 2 = nI (14 * i2 + j2) := by rw [← Nat.add_assoc, e_pred]
                  rw [if_pos (by rw [h1']), gR_ok (Fx_sh F1 rfl), Option.bind_some, Fx_rf F1 (v := 162) (by decide)]
                  have e14 : ((14 : Int32) * nI i2 + nI (j2 + 1 + 1)) - 2 = nI (14 * i2 + j2) := by
                    rw [nl 14, a_mul, a_add]; exact ix2
                  rw [e14, rT _ (by omega), Option.bind_some, t4, nI_1, lesI (by omega) (by omega), lN_i]
                  exact go _ hdis.symm
                · rw [if_neg (fun q => h1' (Option.some.inj q.2.2.1))] at hdis
                  rw [if_neg (by rw [c_eq (by omega) (by omega)]; exact h1')]
                  exact go _ hdis.symm
              · rw [if_neg (fun q => h2' (Option.some.inj q.2.2.2))] at hdis
                rw [if_neg (by rw [c_eq (by omega) (by omega)]; exact h2')]
                exact go _ hdis.symm
            · rw [if_neg (fun q => hj1 q.2.1)] at hdis
              rw [if_pos (by rw [c_le (by omega) (by omega)]; omega)]
              exact go _ hdis.symm
          · rw [if_neg (fun q => hi1 q.1)] at hdis
            rw [if_pos (by rw [c_le (by omega) (by omega)]; omega)]
            exact go _ hdis.symm
  have k17 : ∀ k i st1, w.length + 1 - i = k → i ≤ w.length + 1 → upto (fun q => q = 162) st st1 → tabM st1 w x i 0 → ∃ st2, L_X11_distance_17 130 (nI d) (nI t) (nI w.length) (nI x.length) (nI i) st1 = some (some (.int (nI (dis w x w.length x.length))), st2) ∧ upto (fun q => q = 162) st st2 := by
    intro k
    induction k with
    | zero =>
      intro i st1 hk hi hu ht
      have F1 := Fx_up hF hu
      refine ⟨st1, ?_, hu⟩
      rw [e_X11_distance_17, if_pos (by rw [c_lt (by omega) (by omega)]; omega), gR_ok (Fx_sh F1 rfl), Option.bind_some, Fx_rf F1 (v := 162) (by decide), nl 14, a_mul, a_add, rI_ok (Fx_sh F1 (o := 162) rfl) (by omega) (by omega), Option.bind_some, ht w.length x.length (by omega)]
    | succ k ih =>
      intro i st1 hk hi hu ht
      obtain ⟨st2, g1, g2, g3⟩ := k26 _ i 0 st1 rfl (by omega) (by omega) hu ht
      obtain ⟨st3, d1, d2⟩ := ih (i + 1) st2 (by omega) (by omega) g2 g3
      refine ⟨st3, ?_, d2⟩
      rw [e_X11_distance_17, if_neg (by rw [c_lt (by omega) (by omega)]; omega)]
      show L_X11_distance_26 130 (nI d) (nI t) (nI w.length) (nI x.length) (nI i) (nI 0) st1 = _
      rw [g1, d1]
  rw [e_X11_distance_0, rc_ok (Fx_sh hF rfl), gR_ok (Fx_sh hF rfl), Option.bind_some, Fx_rf hF (v := 133) (by decide), nl 200, a_mul, a_add, rI_ok (Fx_sh hF (o := 133) rfl) (by omega) (by omega), Option.bind_some, b1]
  exact k17 _ 0 st rfl (by omega) upto_rfl (fun a b hab => by omega)
end NEARM
