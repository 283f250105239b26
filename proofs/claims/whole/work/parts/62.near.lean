/-! NEARLY WRITTEN WORDS: how many steps -/
def dis (w x : List Nat) : Nat → Nat → Nat
  | 0, j => j
  | i + 1, 0 => i + 1
  | i + 1, j + 1 =>
    if 1 ≤ i ∧ 1 ≤ j ∧ w[i - 1]? = x[j]? ∧ w[i]? = x[j - 1]? then min (min (min (dis w x i (j + 1)) (dis w x (i + 1) j) + 1) (dis w x i j + (if w[i]? = x[j]? then 0 else 1))) (dis w x (i - 1) (j - 1) + 1)
    else min (min (dis w x i (j + 1)) (dis w x (i + 1) j) + 1) (dis w x i j + (if w[i]? = x[j]? then 0 else 1))
termination_by i j => i + j
decreasing_by all_goals omega
section NEAR
variable {L : Nat} {st : ab_S} {S : Sg} {w x : List Nat}
theorem dis_0 {j : Nat} : dis w x 0 j = j := by rw [dis]
theorem dis_i0 {i : Nat} : dis w x i 0 = i := by cases i with
  | zero => rw [dis]
  | succ i => rw [dis]
theorem dis_lo : ∀ {n i j : Nat}, i + j ≤ n → i ≤ dis w x i j + j ∧ j ≤ dis w x i j + i
  | n, 0, j, _ => by rw [dis_0]; omega
  | n, i + 1, 0, _ => by rw [dis_i0]; omega
  | 0, i + 1, j + 1, h => by omega
  | n + 1, i + 1, j + 1, h => by
    have h1 := dis_lo (n := n) (i := i) (j := j + 1) (by omega)
    have h2 := dis_lo (n := n) (i := i + 1) (j := j) (by omega)
    have h3 := dis_lo (n := n) (i := i) (j := j) (by omega)
    rw [dis]
    split
    · rename_i hc
      have h4 := dis_lo (n := n) (i := i - 1) (j := j - 1) (by omega)
      split <;> omega
    · split <;> omega
theorem dis_hi : ∀ {n i j : Nat}, i + j ≤ n → dis w x i j ≤ i + j
  | n, 0, j, _ => by rw [dis_0]; omega
  | n, i + 1, 0, _ => by rw [dis_i0]; omega
  | 0, i + 1, j + 1, h => by omega
  | n + 1, i + 1, j + 1, h => by
    have h1 := dis_hi (n := n) (i := i) (j := j + 1) (by omega)
    rw [dis]
    split
    · omega
    · omega
theorem lg_inj (hw : ∀ s ∈ w, s < 256) (hx : ∀ s ∈ x, s < 256) {i j : Nat} : (lg w i = lg x j) ↔ w[i]? = x[j]? := by
  cases h1 : w[i]? with
  | none => cases h2 : x[j]? with
    | none => rw [lg_none h1, lg_none h2]; simp
    | some v =>
      have := hx v (List.mem_of_getElem? h2)
      rw [lg_none h1, lg_some h2, c_m1e' (by omega)]; simp
  | some u => cases h2 : x[j]? with
    | none =>
      have := hw u (List.mem_of_getElem? h1)
      rw [lg_some h1, lg_none h2, c_m1e (by omega)]; simp
    | some v =>
      have := hw u (List.mem_of_getElem? h1)
      have := hx v (List.mem_of_getElem? h2)
      rw [lg_some h1, lg_some h2, c_eq (by omega) (by omega)]; simp
theorem row43 (hF : Fx L st) {i : Nat} (hi : i < 13) : ab_rR st 43 (nI i) = some (44 + i) ∧ (sH st)[44 + i]? = some (1, 13) := by
  have h1 : ∀ k, k < 13 → (43, k, 44 + k) ∈ fxr := by decide +kernel
  have e : ((S0 L).drop 44).take 13 = List.replicate 13 (1, 13) := rfl
  have h2 : (S0 L)[44 + i]? = some (1, 13) := by
    have q := List.getElem?_take_of_lt (l := (S0 L).drop 44) hi
    rw [← List.getElem?_drop, ← q, e, List.getElem?_replicate, if_pos hi]
  exact ⟨by rw [rR_ok (Fx_sh hF (o := 43) rfl) (by decide) (by omega) (by omega), Fx_rf hF (h1 i hi)], Fx_sh hF h2⟩
theorem min_I {a b : Nat} (ha : a < 2147483648) (hb : b < 2147483648) : (if nI b < nI a then nI b else nI a) = nI (min a b) := by
  by_cases h : b < a
  · rw [if_pos (by rw [c_lt hb ha]; exact h), Nat.min_eq_right (by omega)]
  · rw [if_neg (by rw [c_lt hb ha]; exact h), Nat.min_eq_left (by omega)]
/-- the class's table holds what stands before (i, j) -/
def tab (st : ab_S) (w x : List Nat) (i j : Nat) : Prop := ∀ a b, (a < i ∧ b ≤ x.length) ∨ (a = i ∧ b < j) → sI st (44 + a) b = nI (dis w x a b)
theorem tab_set {i j : Nat} (h : tab st w x i j) : tab (uI st (44 + i) j (nI (dis w x i j))) w x i (j + 1) := by
  intro a b hab
  rw [I_uI]
  by_cases hq : 44 + a = 44 + i ∧ b = j
  · rw [if_pos hq]
    have : a = i := by omega
    rw [this, hq.2]
  · rw [if_neg hq]
    exact h a b (by omega)
theorem fewest_ok (hF : Fx L st) {c o t : Nat} {D : Dc} {y : List Nat × Nat} (hc : sR st 42 1 = c) (hW : isSg st c 4000 w) (hT : isTm st o D) (hy : D[t]? = some y) (hyx : y.1 = x) {i j : Nat} (hi : i < 12) (hj : j < x.length) (hwl : w.length ≤ 12) (ht : tab st w x (i + 1) (j + 1)) : f_X2_fewest 42 o (nI t) (nI (i + 1)) (nI (j + 1)) st = some (some (.int (nI (dis w x (i + 1) (j + 1)))), st) := by
  obtain ⟨-, xl, xs, -⟩ := hT.2.2.2.2.2.2.2.2.2 t y hy
  rw [hyx] at xl xs
  have hx256 : ∀ s ∈ x, s < 256 := fun s hs => by
    obtain ⟨q, hq⟩ := List.mem_iff_getElem?.mp hs
    exact (xs q s hq).2
  have hw256 := hW.2.2.2.2.2.1
  have s42 : (sH st)[42]? = some (0, 2) := Fx_sh hF rfl
  have r0 : sR st 42 0 = 43 := Fx_rf hF (by decide)
  obtain ⟨a1, a2⟩ := row43 hF (show i < 13 by omega)
  obtain ⟨b1, b2⟩ := row43 hF (show i + 1 < 13 by omega)
  have t1 := ht i (j + 1) (by omega)
  have t2 := ht (i + 1) j (by omega)
  have t3 := ht i j (by omega)
  have l1 := dis_hi (w := w) (x := x) (Nat.le_refl (i + (j + 1)))
  have l2 := dis_hi (w := w) (x := x) (Nat.le_refl (i + 1 + j))
  have l3 := dis_hi (w := w) (x := x) (Nat.le_refl (i + j))
  have hcost : ∀ K : Int32 → Option ab_R, (if lg w i = lg x j then K 0 else K 1) = K (nI (if w[i]? = x[j]? then 0 else 1)) := fun K => by
    by_cases h : w[i]? = x[j]?
    · rw [if_pos ((lg_inj hw256 hx256).mpr h), if_pos h]; rfl
    · rw [if_neg (fun q => h ((lg_inj hw256 hx256).mp q)), if_neg h]; rfl
  have hsg : ∀ k, f_X7_signAt o (nI t) (nI k) st = some (some (.int (lg x k)), st) ∨ 2147483648 ≤ k := fun k => by
    by_cases hk : k < 2147483648
    · left; rw [signAt_ok hT hy hk, hyx]
    · right; omega
  have sg : ∀ k, k < 100 → f_X7_signAt o (nI t) (nI k) st = some (some (.int (lg x k)), st) := fun k hk => (hsg k).resolve_right (by omega)
  rw [e_X2_fewest_0, rc_ok s42, gR_ok s42, Option.bind_some, hc, nI_pred, nI_pred, atn_ok hW (by omega), ri_ok, sg j (by omega), ri_ok, gR_ok s42, Option.bind_some, r0, a1, Option.bind_some, rI_ok a2 (by omega) (by omega), Option.bind_some, Option.bind_some, b1, Option.bind_some, rI_ok b2 (by omega) (by omega), Option.bind_some, Option.bind_some, a1, Option.bind_some, rI_ok a2 (by omega) (by omega), Option.bind_some, t1, t2, t3, min_I (by omega) (by omega), nI_1]
  rw [hcost (fun z => L_X2_fewest_79 42 o (nI t) (nI (i + 1)) (nI (j + 1)) (lg w i) (lg x j) (nI (min (dis w x i (j + 1)) (dis w x (i + 1) j) + 1)) (nI (dis w x i j)) z st)]
  have hcle : (if w[i]? = x[j]? then 0 else 1) ≤ 1 := by split <;> omega
  generalize hcc : (if w[i]? = x[j]? then 0 else 1) = cc at hcle
  have k129 : L_X2_fewest_129 42 (nI (i + 1)) (nI (j + 1)) (nI (min (min (dis w x i (j + 1)) (dis w x (i + 1) j) + 1) (dis w x i j + cc))) st = some (some (.int (nI (min (min (dis w x i (j + 1)) (dis w x (i + 1) j) + 1) (dis w x i j + cc)))), st) := by
    rw [e_X2_fewest_129, e_X2_fewest_130, if_pos rfl]
  rw [e_X2_fewest_79, a_add, min_I (by omega) (by omega), dis, hcc]
  generalize hm : min (min (dis w x i (j + 1)) (dis w x (i + 1) j) + 1) (dis w x i j + cc) = m at k129 ⊢
  have hml : m < 1000 := by omega
  show (if nI (i + 1) ≤ nI 1 then _ else if nI (j + 1) ≤ nI 1 then _ else _) = _
  by_cases hi1 : 1 ≤ i
  · rw [if_neg (by rw [c_le (by omega) (by omega)]; omega)]
    by_cases hj1 : 1 ≤ j
    · obtain ⟨i', rfl⟩ : ∃ i', i = i' + 1 := ⟨i - 1, by omega⟩
      obtain ⟨j', rfl⟩ : ∃ j', j = j' + 1 := ⟨j - 1, by omega⟩
      have e2 : ∀ n, nI (n + 2) - 2 = nI n := fun n => by
        show nI (n + 2) - nI 2 = nI n
        rw [a_sub (by omega)]; rfl
      rw [if_neg (by rw [c_le (by omega) (by omega)]; omega), gR_ok s42, Option.bind_some, hc, e2, e2, atn_ok hW (by omega), ri_ok, sg j' (by omega), ri_ok]
      simp only [Nat.add_sub_cancel]
      by_cases h1 : w[i']? = x[j' + 1]?
      · rw [if_pos ((lg_inj hw256 hx256).mpr h1)]
        by_cases h2 : w[i' + 1]? = x[j']?
        · rw [if_pos ((lg_inj hw256 hx256).mpr h2), if_pos ⟨by omega, by omega, h1, h2⟩]
          obtain ⟨d1, d2⟩ := row43 hF (show i' < 13 by omega)
          have t4 := ht i' j' (by omega)
          have l4 := dis_hi (w := w) (x := x) (Nat.le_refl (i' + j'))
          rw [e_X2_fewest_130, if_neg (by decide), gR_ok s42, Option.bind_some, r0, e2, e2, d1, Option.bind_some, rI_ok d2 (by omega) (by omega), Option.bind_some, t4, nI_1, min_I (by omega) (by omega)]
        · rw [if_neg (fun q => h2 ((lg_inj hw256 hx256).mp q)), if_neg (fun q => h2 q.2.2.2), k129]
      · rw [if_neg (fun q => h1 ((lg_inj hw256 hx256).mp q)), if_neg (fun q => h1 q.2.2.1), k129]
    · rw [if_pos (by rw [c_le (by omega) (by omega)]; omega), if_neg (fun q => hj1 q.2.1), k129]
  · rw [if_pos (by rw [c_le (by omega) (by omega)]; omega), if_neg (fun q => hi1 q.1), k129]
theorem nearAcc_ok (hF : Fx L st) {c o t most : Nat} {D : Dc} {y : List Nat × Nat} (hc : sR st 42 1 = c) (hcr : c = 62 ∨ c = 64) (hor : 65 < o) (hW : isSg st c 4000 w) (hT : isTm st o D) (hy : D[t]? = some y) (hwl : w.length ≤ 12) (hm : sI st 42 2 = nI most) (hmost : most ≤ 2) : ∃ st', f_X2_accepts 42 o (nI t) st = some (some (.int (if dis w y.1 w.length y.1.length ≤ most then 1 else 0)), st') ∧ upto (fun q => 44 ≤ q ∧ q ≤ 56) st st' := by
  obtain ⟨-, xl, xs, -⟩ := hT.2.2.2.2.2.2.2.2.2 t y hy
  have s42 : (sH st)[42]? = some (0, 2) := Fx_sh hF rfl
  have r0 : sR st 42 0 = 43 := Fx_rf hF (by decide)
  have hlo := dis_lo (w := w) (x := y.1) (Nat.le_refl (w.length + y.1.length))
  have hhi := dis_hi (w := w) (x := y.1) (Nat.le_refl (w.length + y.1.length))
  generalize hx : y.1 = x at *
  have k76 : ∀ k i j st1, x.length + 1 - j = k → i ≤ w.length → j ≤ x.length + 1 → upto (fun q => 44 ≤ q ∧ q ≤ 56) st st1 → tab st1 w x i j → ∃ st2, L_X2_accepts_76 42 o (nI t) (nI x.length) (nI i) (nI j) st1 = L_X2_accepts_61 42 o (nI t) (nI x.length) (nI (i + 1)) st2 ∧ upto (fun q => 44 ≤ q ∧ q ≤ 56) st st2 ∧ tab st2 w x (i + 1) 0 := by
    intro k
    induction k with
    | zero =>
      intro i j st1 hk hi hj hu ht
      refine ⟨st1, ?_, hu, fun a b hab => ht a b (by omega)⟩
      rw [e_X2_accepts_76, if_pos (by rw [c_lt (by omega) (by omega)]; omega), nI_1]
    | succ k ih =>
      intro i j st1 hk hi hj hu ht
      have F1 := Fx_up hF hu
      have s42' : (sH st1)[42]? = some (0, 2) := Fx_sh F1 rfl
      have r0' : sR st1 42 0 = 43 := Fx_rf F1 (by decide)
      obtain ⟨a1, a2⟩ := row43 F1 (show i < 13 by omega)
      have go : ∀ v, v = dis w x i j → ∃ st2, L_X2_accepts_119 42 o (nI t) (nI x.length) (nI i) (nI j) (44 + i) (nI j) (nI v) st1 = L_X2_accepts_61 42 o (nI t) (nI x.length) (nI (i + 1)) st2 ∧ upto (fun q => 44 ≤ q ∧ q ≤ 56) st st2 ∧ tab st2 w x (i + 1) 0 := by
        intro v hv
        rw [e_X2_accepts_119, wI_ok a2 (by omega) (by omega), Option.bind_some, nI_1, hv]
        exact ih i (j + 1) _ (by omega) hi (by omega) (upto_trans hu (upto_uI (by omega))) (tab_set ht)
      rw [e_X2_accepts_76, if_neg (by rw [c_lt (by omega) (by omega)]; omega), gR_ok s42', Option.bind_some, r0', a1, Option.bind_some, e_X2_accepts_101, a_add]
      by_cases hi0 : i = 0
      · subst hi0
        rw [if_pos (show nI 0 = 0 from rfl)]
        exact go (0 + j) (by rw [dis_0]; omega)
      · rw [if_neg (show ¬ nI i = 0 from nI_ne0 (by omega) (by omega))]
        by_cases hj0 : j = 0
        · subst hj0
          rw [if_pos (show nI 0 = 0 from rfl)]
          exact go (i + 0) (by rw [dis_i0]; omega)
        · rw [if_neg (show ¬ nI j = 0 from nI_ne0 (by omega) (by omega))]
          obtain ⟨i', rfl⟩ : ∃ i', i = i' + 1 := ⟨i - 1, by omega⟩
          obtain ⟨j', rfl⟩ : ∃ j', j = j' + 1 := ⟨j - 1, by omega⟩
          have hT1 := isTm_up hT hu (by omega) (by omega) (by omega) (by omega)
          have hW1 := isSg_up hW hu (by omega) (by omega)
          rw [fewest_ok F1 (by rw [hu.2.1]; exact hc) hW1 hT1 hy hx (by omega) (by omega) hwl ht, ri_ok]
          exact go _ rfl
  have k61 : ∀ k i st1, w.length + 1 - i = k → i ≤ w.length + 1 → upto (fun q => 44 ≤ q ∧ q ≤ 56) st st1 → tab st1 w x i 0 → ∃ st2, L_X2_accepts_61 42 o (nI t) (nI x.length) (nI i) st1 = some (some (.int (if dis w x w.length x.length ≤ most then 1 else 0)), st2) ∧ upto (fun q => 44 ≤ q ∧ q ≤ 56) st st2 := by
    intro k
    induction k with
    | zero =>
      intro i st1 hk hi hu ht
      have F1 := Fx_up hF hu
      have s42' : (sH st1)[42]? = some (0, 2) := Fx_sh F1 rfl
      have r0' : sR st1 42 0 = 43 := Fx_rf F1 (by decide)
      have hW1 := isSg_up hW hu (by omega) (by omega)
      have hc1 : sR st1 42 1 = c := by rw [hu.2.1]; exact hc
      obtain ⟨a1, a2⟩ := row43 F1 (show w.length < 13 by omega)
      refine ⟨st1, ?_, hu⟩
      rw [e_X2_accepts_61, gR_ok s42', Option.bind_some, hc1, gI_ok hW1.1, Option.bind_some, hW1.2.2.2.1, if_pos (by rw [c_lt (by omega) (by omega)]; omega), gR_ok s42', Option.bind_some, Option.bind_some, r0', gI_ok hW1.1, Option.bind_some, hW1.2.2.2.1, a1, Option.bind_some, rI_ok a2 (by omega) (by omega), Option.bind_some, gI_ok s42', Option.bind_some, (hu.2.2 42 (by omega)).1, hm, ht w.length x.length (by omega), z_0, z_1]
      by_cases hd : dis w x w.length x.length ≤ most
      · rw [if_neg (by rw [c_lt (by omega) (by omega)]; omega), if_pos hd]
      · rw [if_pos (by rw [c_lt (by omega) (by omega)]; omega), if_neg hd]
    | succ k ih =>
      intro i st1 hk hi hu ht
      have F1 := Fx_up hF hu
      have s42' : (sH st1)[42]? = some (0, 2) := Fx_sh F1 rfl
      have hW1 := isSg_up hW hu (by omega) (by omega)
      have hc1 : sR st1 42 1 = c := by rw [hu.2.1]; exact hc
      obtain ⟨st2, g1, g2, g3⟩ := k76 _ i 0 st1 rfl (by omega) (by omega) hu ht
      obtain ⟨st3, d1, d2⟩ := ih (i + 1) st2 (by omega) (by omega) g2 g3
      refine ⟨st3, ?_, d2⟩
      rw [e_X2_accepts_61, gR_ok s42', Option.bind_some, hc1, gI_ok hW1.1, Option.bind_some, hW1.2.2.2.1, if_neg (by rw [c_lt (by omega) (by omega)]; omega)]
      show L_X2_accepts_76 42 o (nI t) (nI x.length) (nI i) (nI 0) st1 = _
      rw [g1, d1]
  have hcn : ¬ c = 0 := by omega
  rw [e_X2_accepts_0, rc_ok s42, lengthAt_ok hT hy, ri_ok, hx, gR_ok s42, Option.bind_some, hc, if_neg hcn, Option.bind_some, gI_ok hW.1, Option.bind_some, hW.2.2.2.1, nl 12, if_neg (by rw [c_lt (by omega) (by omega)]; omega), if_neg (nI_pos (by omega)), if_pos (by rw [c_le (by omega) (by omega)]; omega), Option.bind_some, gI_ok hW.1, Option.bind_some, hW.2.2.2.1, gI_ok s42, Option.bind_some, hm, z_0]
  have habs : (if 0 ≤ nI w.length - nI x.length then nI w.length - nI x.length else 0 - (nI w.length - nI x.length)) = nI (w.length - x.length + (x.length - w.length)) := by
    by_cases hle : x.length ≤ w.length
    · rw [a_sub hle, if_pos (nI_pos' (by omega))]
      congr 1
      omega
    · have hneg : ¬ 0 ≤ nI w.length - nI x.length := Int32.not_le.mpr (pk_sneg (by omega) (by omega))
      rw [if_neg hneg]
      rw [Int32.zero_sub, Int32.neg_sub, a_sub (by omega)]
      congr 1
      omega
  rw [habs]
  by_cases hfar : w.length - x.length + (x.length - w.length) ≤ most
  · rw [if_pos (by rw [c_le (by omega) (by omega)]; exact hfar)]
    exact k61 _ 0 st rfl (by omega) upto_rfl (fun a b hab => by omega)
  · rw [if_neg (by rw [c_le (by omega) (by omega)]; exact hfar), if_neg (by omega)]
    exact ⟨st, rfl, upto_rfl⟩
end NEAR
