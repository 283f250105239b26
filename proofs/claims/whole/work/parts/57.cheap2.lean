/-! CHEAPEST as a call -/
section CHEAP2
variable {L : Nat} {st : ab_S} {S : Sg}
theorem n1N (n : Int32) (N : Nat) (hN : N < 1000000) : ¬ (1 ≤ n.toInt ∧ n.toInt ≤ N) ∨ ∃ m, 1 ≤ m ∧ m ≤ N ∧ n = nI m := by
  by_cases h : 1 ≤ n.toInt ∧ n.toInt ≤ N
  · right
    rcases n_cases n with hn | ⟨m, hm, rfl⟩
    · have := Int32.lt_iff_toInt_lt.mp hn
      have h0 : (0 : Int32).toInt = 0 := rfl
      omega
    · rw [nI_toInt hm] at h
      exact ⟨m, by omega, by omega, rfl⟩
  · exact Or.inl h
def chp (w : List Nat) (D : Dc) (n : Nat) : List Nat := (rnk D (pfx w D)).take n
def a_cheapest (S : Sg) (d n : Int32) : Int32 × Sg := withD d (-2, S) fun k => if 1 ≤ n.toInt ∧ n.toInt ≤ (200 : Nat) then (if sO S k = false then (nI (chp (sW S) (sD S k) n.toNatClampNeg).length, setM (setW S []) (chp (sW S) (sD S k) n.toNatClampNeg)) else (-4, setW S [])) else (-2, S)
theorem rnk_lt {D : Dc} {l : List Nat} {N : Nat} (h : ∀ u ∈ l, u < N) : ∀ u ∈ rnk D l, u < N := fun u hu => by
  rcases rnk_mem hu with h1 | h1
  · simp at h1
  · exact h u h1
theorem C_cheapest (h : CS L st S) (hwf : wfS S) (d n : Int32) : ∃ st', f_X10_cheapest 2 d n st = some (some (.int (a_cheapest S d n).1), st') ∧ CS L st' (a_cheapest S d n).2 ∧ onC st st' := by
  unfold a_cheapest
  rcases isD_cases d with hd | ⟨k, hd, rfl⟩
  · rw [withD_no hd]
    exact ⟨st, by rw [e_X10_cheapest_0, rc_ok (sh2 h), cD_no hd, ri_ok, if_pos rfl], h, onC_rfl⟩
  · rw [withD_n hd]
    have h0 : (1 : Int32).toInt = 1 := rfl
    have h8 : (200 : Int32).toInt = 200 := rfl
    rcases n1N n 200 (by omega) with hn | ⟨m, hm1, hm8, rfl⟩
    · rw [if_neg hn]
      refine ⟨st, ?_, h, onC_rfl⟩
      rw [e_X10_cheapest_0, rc_ok (sh2 h), cD_ok hd, ri_ok, if_neg (by decide)]
      by_cases h1 : n < 1
      · rw [if_pos h1]
      · rw [if_neg h1, if_pos]
        rw [Int32.lt_iff_toInt_lt, h0] at h1
        rw [Int32.lt_iff_toInt_lt, h8]
        omega
    · rw [if_pos (by rw [nI_toInt (by omega)]; omega), a_cl (by omega)]
      have hK : ∀ r : Int32 × Sg, (∃ st', f_X10_keepBeginning 2 (nI k) (nI m) 1 st = some (some (.int r.1), st') ∧ CS L st' r.2 ∧ onC st st') → ∃ st', f_X10_cheapest 2 (nI k) (nI m) st = some (some (.int r.1), st') ∧ CS L st' r.2 ∧ onC st st' := by
        rintro r ⟨st', k1, k2, k3⟩
        exact ⟨st', by rw [e_X10_cheapest_0, rc_ok (sh2 h), cD_ok hd, ri_ok, if_neg (by decide), if_neg (by rw [nl 1, c_lt (by omega) (by omega)]; omega), if_neg (by rw [nl 200, c_lt (by omega) (by omega)]; omega), k1, ri_ok], k2, k3⟩
      refine hK _ ?_
      obtain ⟨c, st', h1, h2, h3, h4, hc, -⟩ := take_ok h
      obtain ⟨o, ho, q1, q2, q3, q4, q5⟩ := dic_at h2 hd
      change dicC st' o (sD S k) (sO S k) at q5
      have hol := dO_lt ho
      rw [e_X10_keepBeginning_0, rc_ok (sh2 h), h1, rr_ok, gR_ok (sh2 h2), Option.bind_some, rf2_0 h2, q1, Option.bind_some, gI_ok q2, Option.bind_some, q5.2.1]
      by_cases hb : sO S k = false
      · have hs := hwf.2.1 k hd
        have hbl := bl_le (sW S) (sD S k)
        have h9 := q5.1.2.2.2.2.2.2.2.2.1
        obtain ⟨c1, c2, c3⟩ := clearF_ok h2
        generalize hw : sW S = w at *
        generalize hDD : sD S k = D at *
        have key : ∀ j t st1, D.length - t = j → bl w D ≤ t → t ≤ D.length → CS L st1 (setM (setW S []) ((rnk D ((List.range t).filter (pf w D))).take m)) → isSg st1 c 4000 w → isTm st1 (o + 1) D → onC st st1 → ∃ st', L_X10_keepBeginning_50 2 (nI m) 1 c (o + 1) (nI t) st1 = some (some (.int (nI (chp w D m).length)), st') ∧ CS L st' (setM (setW S []) (chp w D m)) ∧ onC st st' := by
          have fin : ∀ t st1, (List.range t).filter (pf w D) = pfx w D → CS L st1 (setM (setW S []) ((rnk D ((List.range t).filter (pf w D))).take m)) → onC st st1 → ∃ st', L_X10_keepBeginning_100 2 st1 = some (some (.int (nI (chp w D m).length)), st') ∧ CS L st' (setM (setW S []) (chp w D m)) ∧ onC st st' := by
            intro t st1 he hC hon
            rw [he] at hC
            refine ⟨st1, ?_, hC, hon⟩
            rw [e_X10_keepBeginning_100, gI_ok (sh2 hC), Option.bind_some, hC.2.2.2.2.2.1.1]
            rfl
          intro j
          induction j with
          | zero =>
            intro t st1 hj ht1 ht2 hC hS hT hon
            have : t = D.length := by omega
            rw [e_X10_keepBeginning_50, gI_ok hT.1, Option.bind_some, hT.2.2.2.2.2.2.2.1, if_pos (by rw [c_le (by omega) (by omega)]; omega)]
            exact fin t st1 (by rw [this]; rfl) hC hon
          | succ j ih =>
            intro t st1 hj ht1 ht2 hC hS hT hon
            have hg : D[t]? = some D[t] := List.getElem?_eq_getElem (by omega)
            rw [e_X10_keepBeginning_50, gI_ok hT.1, Option.bind_some, hT.2.2.2.2.2.2.2.1, if_neg (by rw [c_le (by omega) (by omega)]; omega), beginsWith_ok hT hg hS (by omega), ri_ok]
            have hp := pf_some (w := w) hg
            cases hb : w.isPrefixOf (D[t]).1 with
            | false =>
              rw [hb] at hp
              rw [if_pos (by simp)]
              exact fin t st1 (filt_stop ht2 (fun u h1 h2 => by
                by_cases hut : u = t
                · rw [hut]; exact hp
                · exact pf_hi hs ht1 (by omega) hp (by omega))).symm hC hon
            | true =>
              rw [hb] at hp
              have hsr : sO' D (rnk D ((List.range t).filter (pf w D))) := rnk_srt (by simp [sO'])
              obtain ⟨st2, p1, p2, p3⟩ := rankFound_ok hC hT (by omega) hm8 hm1 (by rw [setM_M]; exact List.Pairwise.sublist (List.take_sublist _ _) hsr) (by rw [setM_M]; simp; omega) (by
                rw [setM_M]
                intro u hu
                have := rnk_lt (D := D) filt_lt u (List.mem_of_mem_take hu)
                omega) hg
              rw [if_neg (by simp), if_neg (by decide), p1, rv_ok, e_X10_keepBeginning_94, nI_1]
              have hC2 : CS L st2 (setM (setW S []) ((rnk D ((List.range (t + 1)).filter (pf w D))).take m)) := by
                rw [filt_succ, if_pos hp, rnk_snoc, ← ins_take]; exact p2
              exact ih (t + 1) st2 (by omega) (by omega) (by omega) hC2 (isSg_up hS p3 (by omega) (by omega)) (isTm_up hT p3 (by omega) (by omega) (by omega) (by omega)) (onC_trans hon (onC_up p3 (fun q hq => by omega)))
        have h3' := isSg_up h3 c3 (by omega) (by omega)
        have hT' := isTm_up q5.1 c3 (by omega) (by omega) (by omega) (by omega)
        rw [bi0 hb, if_pos hb, Option.bind_some, q1, Option.bind_some, gR_ok q2, Option.bind_some, q3, c1, Option.bind_some, leastNotBelow_ok hT' hs h3' (by omega), ri_ok]
        exact key _ _ _ rfl (Nat.le_refl _) hbl (by rw [filt_nil (fun u hu => pf_lo hs hu)]; simpa [rnk] using c2) h3' hT' (onC_trans h4 (onC_up c3 (fun q hq => by omega)))
      · rw [bi1 hb, if_neg hb]
        exact ⟨st', rfl, h2, h4⟩
theorem drop_cons' {l : List Nat} {i : Nat} (h : i < l.length) : l.drop i = l[i] :: l.drop (i + 1) := List.drop_eq_getElem_cons h
theorem M_cheapest (h : MS L st S) (d n : Int32) : ∃ st', f_X11_cheapest 130 d n st = some (some (.int (a_cheapest S d n).1), st') ∧ MS L st' (a_cheapest S d n).2 ∧ onM st st' := by
  unfold a_cheapest
  rcases isD_cases d with hd | ⟨k, hd, rfl⟩
  · rw [withD_no hd]
    exact ⟨st, by rw [e_X11_cheapest_0, rc_ok (sh130 h), mD_no hd, ri_ok, if_pos rfl], h, onM_rfl⟩
  · rw [withD_n hd]
    have h0 : (1 : Int64).toInt = 1 := rfl
    have h8 : (200 : Int64).toInt = (200 : Nat) := rfl
    rcases n1N n 200 (by omega) with hn | ⟨m, hm1, hm8, rfl⟩
    · rw [if_neg hn]
      refine ⟨st, ?_, h, onM_rfl⟩
      rw [e_X11_cheapest_0, rc_ok (sh130 h), mD_ok hd, ri_ok, if_neg (by decide), isIn_i, h0, h8, if_neg hn, ri_ok, if_pos rfl]
    · have hmm : 1 ≤ (nI m).toInt ∧ (nI m).toInt ≤ (200 : Nat) := by rw [nI_toInt (by omega)]; omega
      rw [if_pos hmm, a_cl (by omega)]
      obtain ⟨h1, h2, h3, h4⟩ := forgetM_ok h
      rw [e_X11_cheapest_0, rc_ok (sh130 h), mD_ok hd, ri_ok, if_neg (by decide), isIn_i, h0, h8, if_pos hmm, ri_ok, if_neg (by decide), h1, ri_ok, ← Option.bind_assoc, mOpen2 h2 hd, Option.bind_some]
      change ∃ st', (if b01 (sO S k) = 0 then _ else _) = _ ∧ _
      by_cases hb : sO S k = false
      · obtain ⟨st2, g1, g2, g3⟩ := gather_ok h2 hd h3
        rw [bi0 hb, if_pos hb, g1, rv_ok]
        have hD0 : isMd st2 k (sD S k) := (g2.2.2.1 k hd).1
        have h9 := hD0.2.1
        generalize hw : sW S = w at *
        generalize hDD : sD S k = D at *
        have hpl : (pfx w D).length ≤ 200 := Nat.le_trans pfx_len h9
        have hpm : ∀ u ∈ pfx w D, u < D.length := filt_lt
        have eD : sD (setW S []) k = D := hDD
        rw [eD] at g2
        have key : ∀ j i st1, (pfx w D).length - i = j → 1 ≤ i → (i ≤ (pfx w D).length ∨ (i = 1 ∧ (pfx w D).length = 0)) → MS L st1 (setM (setW S []) (rnk D ((pfx w D).take i) ++ (pfx w D).drop i)) → onM st st1 → ∃ st', L_X11_cheapest_48 130 (nI k) (nI m) (nI i) st1 = some (some (.int (nI (chp w D m).length)), st') ∧ MS L st' (setM (setW S []) (chp w D m)) ∧ onM st st' := by
          intro j
          induction j with
          | zero =>
            intro i st1 hj hi1 hi2 hM hon
            have e1 : (pfx w D).take i = pfx w D := List.take_of_length_le (by omega)
            have e2 : (pfx w D).drop i = [] := List.drop_eq_nil_of_le (by omega)
            rw [e1, e2, List.append_nil] at hM
            obtain ⟨j1, j2⟩ := hM.2.2.2.2.2.1
            rw [setM_M] at j1 j2
            have hrl : (rnk D (pfx w D)).length = (pfx w D).length := by rw [rnk, rnk_len]; simp
            rw [hrl] at j1
            have hcl : (chp w D m).length = min m (pfx w D).length := by unfold chp; rw [List.length_take, hrl]
            let s5 := uI st1 130 9 (nI (min m (pfx w D).length))
            have hu : upto (fun q => q = 130 ∨ q = 138) st1 s5 := upto_uI (Or.inl rfl)
            have hs5 : (sH s5)[130]? = some (0, 11) := Fx_sh hM.1 (o := 130) rfl
            have e9 : sI s5 130 9 = nI (min m (pfx w D).length) := by
              show sI (uI st1 130 9 _) 130 9 = _
              rw [I_uI, if_pos ⟨rfl, rfl⟩]
            refine ⟨s5, ?_, ?_, onM_trans hon (onM_up hu (fun q hq => by omega))⟩
            · rw [e_X11_cheapest_48, gI_ok (sh130 hM), Option.bind_some, j1, if_pos (by rw [c_le (by omega) (by omega)]; omega), Option.bind_some, nI_l (by omega), nI_l (by omega), e_X11_lesser_0]
              have hmin : ∀ K : Int64 → ab_S → Option ab_R, ab_rl (if 0 ≤ lg_cmp (lN (pfx w D).length) (lN m) then some (some (Value.long (lN m)), st1) else some (some (Value.long (lN (pfx w D).length)), st1)) K = K (lN (min m (pfx w D).length)) st1 := fun K => by
                by_cases hle : m ≤ (pfx w D).length
                · rw [if_pos ((lc_ge (by omega) (by omega)).mpr hle), rl_ok, Nat.min_eq_left hle]
                · rw [if_neg (fun q => hle ((lc_ge (by omega) (by omega)).mp q)), rl_ok, Nat.min_eq_right (by omega)]
              rw [hmin, lN_i, pI_ok (sh130 hM), Option.bind_some]
              show Option.bind (ab_gI s5 130 11 9) _ = _
              rw [gI_ok hs5, Option.bind_some, e9, hcl]
            · have hms := MS_M hM hu (m := chp w D m) (by rw [e9, hcl]) (fun q hq => by
                show sI (uI st1 130 9 _) 130 q = _
                rw [I_uI, if_neg (fun z => hq z.2)]) (fun q t hq => by
                show sI (uI st1 130 9 _) 138 q = _
                rw [I_uI, if_neg (fun z => by omega)]
                unfold chp at hq
                have hqm : q < m := by
                  have := (List.getElem?_eq_some_iff.mp hq).1
                  rw [List.length_take] at this
                  omega
                rw [List.getElem?_take_of_lt hqm] at hq
                exact j2 q t hq)
              exact hms
          | succ j ih =>
            intro i st1 hj hi1 hi2 hM hon
            have hil : i < (pfx w D).length := by omega
            obtain ⟨j1, j2⟩ := hM.2.2.2.2.2.1
            rw [setM_M] at j1 j2
            generalize hacc : rnk D ((pfx w D).take i) = acc at *
            have hal : acc.length = i := by rw [← hacc, rnk, rnk_len]; simp; omega
            have has : sO' D acc := by rw [← hacc]; exact rnk_srt (by simp [sO'])
            have ham : ∀ u ∈ acc, u < D.length := by
              rw [← hacc]
              exact rnk_lt (fun u hu => hpm u (List.mem_of_mem_take hu))
            have htot : (acc ++ (pfx w D).drop i).length = (pfx w D).length := by rw [List.length_append, hal, List.length_drop]; omega
            rw [htot] at j1
            generalize ht : (pfx w D)[i] = t
            have htD : t < D.length := by rw [← ht]; exact hpm _ (List.getElem_mem _)
            have hgt : D[t]? = some D[t] := List.getElem?_eq_getElem htD
            have hdr : (pfx w D).drop i = t :: (pfx w D).drop (i + 1) := by rw [drop_cons' hil, ht]
            have hD1 : isMd st1 k D := by have := (hM.2.2.1 k hd).1; rw [← hDD]; exact this
            have hx5 := (hD1.2.2 t _ hgt).2.2.2.2
            have ri : sI st1 138 i = nI t := j2 i t (by rw [List.getElem?_append_right (by omega), hal, Nat.sub_self, hdr]; rfl)
            have rj : ∀ k' u, acc[k']? = some u → sI st1 138 k' = nI u := fun k' u hu => j2 k' u (by rw [List.getElem?_append_left (List.getElem?_eq_some_iff.mp hu).1]; exact hu)
            have rk : ∀ k' u, i < k' → ((pfx w D).drop (i + 1))[k' - (i + 1)]? = some u → sI st1 138 k' = nI u := fun k' u hk hu => j2 k' u (by
              rw [List.getElem?_append_right (by omega), hal, hdr, show k' - i = (k' - (i + 1)) + 1 by omega, List.getElem?_cons_succ]
              exact hu)
            have hpl2 := plc_le (D := D) (t := t) (l := acc)
            have hF1 := hM.1
            have hout : ∀ st2, upto (fun q => q = 138) st1 st2 → ∀ u x, D[u]? = some x → ab_rJ st2 134 (((200 : Int32) * nI k) + nI u) = some (lN x.2) := fun st2 hu u x hux => by
              have hlu := lt_of_get hux
              rw [nl 200, a_mul, a_add, rJ_ok (Fx_sh (Fx_up hF1 hu) (o := 134) rfl) (by omega) (by omega), (hu.2.2 134 (by omega)).2, (hD1.2.2 u x hux).2.2.2.1]
            have inner : ∀ q st2, q ≤ i → plc D t acc ≤ q → upto (fun z => z = 138) st1 st2 → (∀ k' u, k' < q → acc[k']? = some u → sI st2 138 k' = nI u) → (∀ k' u, q < k' → k' ≤ i → acc[k' - 1]? = some u → sI st2 138 k' = nI u) → (∀ k', i < k' → sI st2 138 k' = sI st1 138 k') → ∃ st3, L_X11_cheapest_70 130 (nI k) (nI m) (nI i) (nI t) (nI q) st2 = L_X11_cheapest_48 130 (nI k) (nI m) (nI (i + 1)) st3 ∧ upto (fun z => z = 138) st1 st3 ∧ (∀ k' u, k' ≤ i → (ins D t acc)[k']? = some u → sI st3 138 k' = nI u) ∧ ∀ k', i < k' → sI st3 138 k' = sI st1 138 k' := by
              have fin : ∀ q st2, q ≤ i → plc D t acc = q → upto (fun z => z = 138) st1 st2 → (∀ k' u, k' < q → acc[k']? = some u → sI st2 138 k' = nI u) → (∀ k' u, q < k' → k' ≤ i → acc[k' - 1]? = some u → sI st2 138 k' = nI u) → (∀ k', i < k' → sI st2 138 k' = sI st1 138 k') → ∃ st3, L_X11_cheapest_134 130 (nI k) (nI m) (nI i) (nI t) (nI q) st2 = L_X11_cheapest_48 130 (nI k) (nI m) (nI (i + 1)) st3 ∧ upto (fun z => z = 138) st1 st3 ∧ (∀ k' u, k' ≤ i → (ins D t acc)[k']? = some u → sI st3 138 k' = nI u) ∧ ∀ k', i < k' → sI st3 138 k' = sI st1 138 k' := by
                intro q st2 hq hpq hu hlo hhi hbe
                have F2 := Fx_up hF1 hu
                refine ⟨uI st2 138 q (nI t), ?_, upto_trans hu (upto_uI rfl), fun k' u hk hku => ?_, fun k' hk => ?_⟩
                · rw [e_X11_cheapest_134, gR_ok (Fx_sh F2 rfl), Option.bind_some, Fx_rf F2 (v := 138) (by decide), wI_ok (Fx_sh F2 (o := 138) rfl) (by omega) (by omega), Option.bind_some, nI_1]
                · rw [I_uI]
                  rcases Nat.lt_trichotomy k' q with hlt | heq | hgt
                  · rw [if_neg (fun z => by omega)]
                    rw [ins_lo (by omega)] at hku
                    exact hlo k' u hlt hku
                  · subst heq
                    rw [← hpq, ins_at] at hku
                    cases hku
                    rw [if_pos ⟨rfl, rfl⟩]
                  · rw [if_neg (fun z => by omega)]
                    rw [ins_hi (by omega)] at hku
                    exact hhi k' u hgt hk hku
                · rw [I_uI, if_neg (fun z => by omega)]
                  exact hbe k' hk
              intro q
              induction q with
              | zero =>
                intro st2 hq hpq hu hlo hhi hbe
                rw [e_X11_cheapest_70, if_pos (by decide)]
                exact fin 0 st2 hq (by omega) hu hlo hhi hbe
              | succ q ihq =>
                intro st2 hq hpq hu hlo hhi hbe
                have F2 := Fx_up hF1 hu
                have hg : acc[q]? = some acc[q] := List.getElem?_eq_getElem (by omega)
                have hul := ham _ (List.mem_of_getElem? hg)
                have hgu : D[acc[q]]? = some D[acc[q]] := List.getElem?_eq_getElem hul
                have hu5 := (hD1.2.2 _ _ hgu).2.2.2.2
                have hpi := plc_iff (t := t) has hg
                rw [oc_some hgu, oc_some hgt] at hpi
                rw [e_X11_cheapest_70, if_neg (show ¬ nI (q + 1) ≤ 0 from nI_nle (by omega) (by omega)), gR_ok (Fx_sh F2 rfl), Option.bind_some, gR_ok (Fx_sh F2 rfl), Option.bind_some, Fx_rf F2 (v := 138) (by decide), Fx_rf F2 (v := 134) (by decide), nI_pred, rI_ok (Fx_sh F2 (o := 138) rfl) (by omega) (by omega), Option.bind_some, hlo q _ (by omega) hg, hout st2 hu _ _ hgu, Option.bind_some, Option.bind_some, hout st2 hu _ _ hgt, Option.bind_some]
                by_cases hle : (D[acc[q]]).2 ≤ (D[t]).2
                · rw [if_pos ((lc_le (by omega) (by omega)).mpr hle)]
                  have := hpi.mpr hle
                  exact fin (q + 1) st2 hq (by omega) hu hlo hhi hbe
                · have hnp : ¬ q < plc D t acc := fun z => hle (hpi.mp z)
                  rw [if_neg (fun z => hle ((lc_le (by omega) (by omega)).mp z)), Option.bind_some, Option.bind_some, rI_ok (Fx_sh F2 (o := 138) rfl) (by omega) (by omega), Option.bind_some, wI_ok (Fx_sh F2 (o := 138) rfl) (by omega) (by omega), Option.bind_some, nI_m1, nI_pred]
                  refine ihq _ (by omega) (by omega) (upto_trans hu (upto_uI rfl)) (fun k' u hk hku => ?_) (fun k' u hk1 hk2 hku => ?_) (fun k' hk => ?_)
                  · rw [I_uI, if_neg (fun z => by omega)]; exact hlo k' u (by omega) hku
                  · rw [I_uI]
                    by_cases hkq : k' = q + 1
                    · subst hkq
                      rw [if_pos ⟨rfl, rfl⟩]
                      rw [Nat.add_sub_cancel] at hku
                      exact hlo q u (by omega) hku
                    · rw [if_neg (fun z => hkq z.2)]; exact hhi k' u (by omega) hk2 hku
                  · rw [I_uI, if_neg (fun z => by omega)]; exact hbe k' hk
            obtain ⟨st3, z1, z2, z3, z4⟩ := inner i st1 (Nat.le_refl _) (by omega) upto_rfl (fun k' u _ hu => rj k' u hu) (fun k' u h1 h2 => by omega) (fun _ _ => rfl)
            have hU : upto (fun q => q = 130 ∨ q = 138) st1 st3 := upto_mono z2 (fun q hq => Or.inr hq)
            have e130 : sI st3 130 = sI st1 130 := (z2.2.2 130 (by omega)).1
            have hins : rnk D ((pfx w D).take (i + 1)) = ins D t acc := by
              rw [List.take_succ, List.getElem?_eq_getElem hil, ht]
              show rnk D ((pfx w D).take i ++ [t]) = _
              rw [rnk_snoc, hacc]
            have hM3 : MS L st3 (setM (setW S []) (rnk D ((pfx w D).take (i + 1)) ++ (pfx w D).drop (i + 1))) := by
              rw [hins]
              refine MS_M hM hU ?_ (fun q _ => by rw [e130]) (fun k' u hk => ?_)
              · rw [e130, j1, List.length_append, ins_len, List.length_drop, hal]
                congr 1
                omega
              · by_cases hki : k' ≤ i
                · rw [List.getElem?_append_left (by rw [ins_len]; omega)] at hk
                  exact z3 k' u hki hk
                · rw [List.getElem?_append_right (by rw [ins_len]; omega), ins_len, hal] at hk
                  rw [z4 k' (by omega)]
                  exact rk k' u (by omega) hk
            obtain ⟨st', y1, y2, y3⟩ := ih (i + 1) st3 (by omega) (by omega) (by omega) hM3 (onM_trans hon (onM_up z2 (fun q hq => by omega)))
            refine ⟨st', ?_, y2, y3⟩
            rw [e_X11_cheapest_48, gI_ok (sh130 hM), Option.bind_some, j1, if_neg (by rw [c_le (by omega) (by omega)]; omega), gR_ok (sh130 hM), Option.bind_some, Fx_rf hF1 (v := 138) (by decide), rI_ok (Fx_sh hF1 (o := 138) rfl) (by omega) (by omega), Option.bind_some, ri, z1, y1]
        have hst : MS L st2 (setM (setW S []) (rnk D ((pfx w D).take 1) ++ (pfx w D).drop 1)) := by
          have : rnk D ((pfx w D).take 1) ++ (pfx w D).drop 1 = pfx w D := by
            cases pfx w D with
            | nil => rfl
            | cons a l => rfl
          rw [this]
          exact g2
        exact key _ 1 st2 rfl (by omega) (by omega) hst (onM_trans h4 g3)
      · rw [bi1 hb, if_neg hb]
        exact ⟨_, rfl, h2, h4⟩
theorem W_cheapest (h : wfS S) (hl : ∀ k, k < 4 → (sD S k).length ≤ 200) (d n : Int32) : wfS (a_cheapest S d n).2 := by
  unfold a_cheapest
  rcases isD_cases d with hd | ⟨k, hd, rfl⟩
  · rw [withD_no hd]; exact h
  · rw [withD_n hd]
    have := hl k hd
    split
    · split
      · refine wf_M (wf_W0 h) ?_ (fun t ht => ?_)
        · unfold chp
          rw [List.length_take, rnk, rnk_len]
          have := pfx_len (w := sW S) (D := sD S k)
          simp
          omega
        · have h1 : t < (sD S k).length := rnk_lt (D := sD S k) (l := pfx (sW S) (sD S k)) filt_lt t (List.mem_of_mem_take ht)
          omega
      · exact wf_W0 h
    · exact h
end CHEAP2
