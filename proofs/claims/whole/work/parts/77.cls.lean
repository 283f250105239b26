/-! THE CLASS: done, state, count, arc, join -/
/-- the machine goes where the beginnings say -/
theorem find_map {f : Nat → Nat × Nat} {a : Nat} : ∀ {l : List Nat}, ((l.map (fun z => (z, f z))).find? (fun y => decide (y.1 = a))).map (fun y => y.2.1) = if a ∈ l then some (f a).1 else none
  | [] => rfl
  | z :: l => by
    rw [List.map_cons]
    by_cases hz : z = a
    · subst hz
      rw [List.find?_cons_of_pos (by simp), if_pos List.mem_cons_self]; rfl
    · rw [List.find?_cons_of_neg (by simp [hz]), find_map]
      have : (a ∈ z :: l) = (a ∈ l) := by
        refine propext ⟨fun h => ?_, fun h => List.mem_cons_of_mem _ h⟩
        rcases List.mem_cons.mp h with h | h
        · exact absurd h.symm hz
        · exact h
      simp only [this]
theorem stOf_lt {D : Dc} {b : List Nat} (h : b ∈ begs D) : (rsts D)[stOf D b]? = some (rest D b) := by
  unfold stOf
  have hm : rest D b ∈ rsts D := rsts_mem.mpr ⟨b, h, rfl⟩
  obtain ⟨s, hs⟩ := List.getElem?_of_mem hm
  rw [idx_get rsts_nd hs]
  exact hs
theorem goS_at {D : Dc} (hs : srt D) {b : List Nat} (hb : b ∈ begs D) (a : Nat) : goS (mach D) (stOf D b) a = if b ++ [a] ∈ begs D then some (stOf D (b ++ [a])) else none := by
  unfold goS
  rw [mach_get hs (stOf_lt hb) rfl]
  show ((arcsO D b).find? _).map _ = _
  unfold arcsO
  rw [find_map (f := fun z => (stOf D (b ++ [z]), least D (b ++ [z]) - least D b))]
  by_cases h : a ∈ hds D b
  · rw [if_pos h, if_pos (hds_begs.mp h)]
  · rw [if_neg h, if_neg (fun q => h (hds_begs.mpr q))]
theorem goW_none {M : MM} : ∀ {w : List Nat}, goW M none w = none
  | [] => rfl
  | _ :: _ => rfl
theorem begs_pre {D : Dc} {b c : List Nat} (h : c ∈ begs D) (hb : b <+: c) : b ∈ begs D := by
  rw [begs_iff] at h ⊢
  rcases h with h | ⟨x, hx, hc⟩
  · subst h
    exact Or.inl (List.prefix_nil.mp hb)
  · exact Or.inr ⟨x, hx, hb.trans hc⟩
theorem goW_at {D : Dc} (hs : srt D) : ∀ {w b : List Nat}, b ∈ begs D → goW (mach D) (some (stOf D b)) w = if b ++ w ∈ begs D then some (stOf D (b ++ w)) else none
  | [], b, hb => by rw [List.append_nil, if_pos hb]; rfl
  | a :: w, b, hb => by
    show goW (mach D) (goS (mach D) (stOf D b) a) w = _
    rw [goS_at hs hb]
    have e : b ++ a :: w = (b ++ [a]) ++ w := by simp
    rw [e]
    by_cases h : b ++ [a] ∈ begs D
    · rw [if_pos h, goW_at hs h]
    · rw [if_neg h, goW_none, if_neg (fun q => h (begs_pre q (List.prefix_append _ _)))]
theorem stOf_nil {D : Dc} : stOf D [] = 0 := by
  refine stOf_get ?_
  unfold rsts begs
  rw [List.map_cons, show rest D [] :: List.map (rest D) (begsGo [] D) = [rest D []] ++ List.map (rest D) (begsGo [] D) from rfl, ded_app]
  have : ∀ (l acc : List Dc) (x : Dc), acc[0]? = some x → (ded acc l)[0]? = some x := by
    intro l
    induction l with
    | nil => intro acc x h; exact h
    | cons y l ih =>
      intro acc x h
      unfold ded
      split
      · exact ih acc x h
      · refine ih _ x ?_
        rw [List.getElem?_append_left (List.getElem?_eq_some_iff.mp h).1]; exact h
  refine this _ _ _ ?_
  show (ded [] [rest D []])[0]? = _
  rw [ded_one, if_neg (by simp)]
  rfl
def stI (D : Dc) (w : List Nat) : Int32 := if w ∈ begs D then nI (stOf D w) else -1
theorem stI_go {D : Dc} (hs : srt D) (w : List Nat) : opI (goW (mach D) (some 0) w) = stI D w := by
  have := goW_at hs (w := w) (b := []) (begs_iff.mpr (Or.inl rfl))
  rw [stOf_nil, List.nil_append] at this
  rw [this]
  unfold stI
  by_cases h : w ∈ begs D
  · rw [if_pos h, if_pos h]; rfl
  · rw [if_neg h, if_neg h]; rfl
def lgst (D : Dc) : Nat := (D.map (fun x => x.1.length)).foldl max 0
section CLS
variable {L : Nat} {st : ab_S} {S : Sg}
theorem longest_ok {o : Nat} {D : Dc} (h : isTm st o D) : f_X7_longest o st = some (some (.int (nI (lgst D))), st) := by
  have h9 := h.2.2.2.2.2.2.2.2.1
  have h8 := h.2.2.2.2.2.2.2.1
  have hl : ∀ i, lgst (D.take i) ≤ 12 := by
    intro i
    unfold lgst
    have : ∀ (l : List Nat) (m : Nat), (∀ x ∈ l, x ≤ 12) → m ≤ 12 → l.foldl max m ≤ 12 := by
      intro l
      induction l with
      | nil => intro m _ hm; exact hm
      | cons y l ih =>
        intro m hy hm
        refine ih _ (fun x hx => hy x (List.mem_cons_of_mem _ hx)) ?_
        have := hy y List.mem_cons_self
        omega
    refine this _ 0 (fun n hn => ?_) (by omega)
    obtain ⟨x, hx, rfl⟩ := List.mem_map.mp hn
    exact tm_len h x (List.mem_of_mem_take hx)
  have key : ∀ k i, D.length - i = k → i ≤ D.length → L_X7_longest_4 o (nI (lgst (D.take i))) (nI i) st = some (some (.int (nI (lgst D))), st) := by
    intro k
    induction k with
    | zero =>
      intro i hk hi
      rw [e_X7_longest_4, gI_ok h.1, Option.bind_some, h8, if_pos (by rw [c_le (by omega) (by omega)]; omega), List.take_of_length_le (by omega)]
    | succ k ih =>
      intro i hk hi
      have hg : D[i]? = some D[i] := List.getElem?_eq_getElem (by omega)
      have h12 := tm_len h _ (List.mem_of_getElem? hg)
      have := hl i
      rw [e_X7_longest_4, gI_ok h.1, Option.bind_some, h8, if_neg (by rw [c_le (by omega) (by omega)]; omega), lengthAt_ok h hg, ri_ok, nI_1]
      have e : (if nI (lgst (D.take i)) < nI D[i].1.length then nI D[i].1.length else nI (lgst (D.take i))) = nI (lgst (D.take (i + 1))) := by
        have e2 : lgst (D.take (i + 1)) = max (lgst (D.take i)) D[i].1.length := by
          unfold lgst
          rw [take_snoc' hg, List.map_append, List.foldl_append]
          rfl
        rw [e2]
        by_cases hlt : lgst (D.take i) < D[i].1.length
        · rw [if_pos (by rw [c_lt (by omega) (by omega)]; exact hlt), Nat.max_eq_right (by omega)]
        · rw [if_neg (by rw [c_lt (by omega) (by omega)]; exact hlt), Nat.max_eq_left (by omega)]
      rw [e]
      exact ih (i + 1) (by omega) (by omega)
  rw [e_X7_longest_0, rc_ok h.1]
  exact key _ 0 rfl (Nat.zero_le _)
-- done
def a_done (S : Sg) (d : Int32) : Int32 × Sg := withD d (-2, S) fun k => if sO S k = false then (-4, S) else (nI (rsts (sD S k)).length, setDic S k (sD S k) false)
theorem C_done (h : CS L st S) (hwf : wfS S) (d : Int32) : ∃ st', f_X10_done 2 d st = some (some (.int (a_done S d).1), st') ∧ CS L st' (a_done S d).2 ∧ onC st st' := by
  unfold a_done
  rcases isD_cases d with hd | ⟨k, hd, rfl⟩
  · rw [withD_no hd]
    exact ⟨st, by rw [e_X10_done_0, rc_ok (sh2 h), cD_no hd, ri_ok, if_pos rfl], h, onC_rfl⟩
  · rw [withD_n hd]
    obtain ⟨o, ho, q0, q1, q2, q3, q4, q5⟩ := dic_rf h hd
    have hol := dO_lt ho
    rw [e_X10_done_0, rc_ok (sh2 h), cD_ok hd, ri_ok, if_neg (by decide), gR_ok (sh2 h), Option.bind_some, rf2_0 h, q1, Option.bind_some, gI_ok q2, Option.bind_some, q5.2.1]
    by_cases hb : sO S k = false
    · rw [bi0 hb, if_pos hb]
      exact ⟨st, rfl, h, onC_rfl⟩
    · rw [bi1 hb, if_neg hb, gR_ok (sh2 h), Option.bind_some, Fx_rf h.1 (v := 6) (by decide)]
      obtain ⟨s1, b1, b2, b3⟩ := build_ok h.1 ho q5.1 (hwf.2.1 k hd)
      have g1 : (sH s1)[o]? = some (0, 0) := by rw [b2.1]; exact q2
      have u2 : upto (fun q => q = o) s1 (uI s1 o 2 0) := upto_uI rfl
      have hu : upto (fun q => (6 ≤ q ∧ q ≤ 19) ∨ (o ≤ q ∧ q ≤ o + 11)) st (uI s1 o 2 0) := upto_trans (upto_mono b2 (fun q hq => by omega)) (upto_mono u2 (fun q hq => by omega))
      have hMc : isMc (uI s1 o 2 0) (o + 5) (mach (sD S k)) := isMc_eq b3 (eqA_up u2 (by omega)) (eqA_up u2 (by omega)) (eqA_up u2 (by omega)) (eqA_up u2 (by omega)) (eqA_up u2 (by omega)) (eqA_up u2 (by omega)) (eqA_up u2 (by omega))
      refine ⟨uI s1 o 2 0, ?_, ?_, onC_up hu (fun q hq => by omega)⟩
      · have hR : sR (uI s1 o 2 0) o 1 = o + 5 := by rw [hu.2.1]; exact q4
        have hMO : MO (uI s1 o 2 0) (o + 5) := MO_of (Fx_up h.1 hu) ho
        have g2 : (sH (uI s1 o 2 0))[o]? = some (0, 0) := g1
        rw [b1, rv_ok, pZ_0 g1, Option.bind_some, gR_ok g2, Option.bind_some]
        show Option.bind (ab_gI (uI s1 o 2 0) (sR (uI s1 o 2 0) o 1) 1 7) _ = _
        rw [hR, mi hMO, Option.bind_some, hMc.2.1, mach_len]
      · refine CS_dic h hd q0 hu (fun q hq => by unfold scr; omega) ho ⟨isTm_up q5.1 (upto_trans (upto_mono b2 (fun q hq => Or.inl hq)) (upto_mono u2 (fun q hq => Or.inr hq))) (by omega) (by omega) (by omega) (by omega), ?_, fun _ => hMc⟩
        show sI (uI s1 o 2 0) o 2 = _
        rw [I_uI, if_pos ⟨rfl, rfl⟩]; rfl
theorem W_done (h : wfS S) (d : Int32) : wfS (a_done S d).2 := by
  unfold a_done
  rcases isD_cases d with hd | ⟨k, hd, rfl⟩
  · rw [withD_no hd]; exact h
  · rw [withD_n hd]
    by_cases hb : sO S k = false
    · rw [if_pos hb]; exact h
    · rw [if_neg hb]; exact wf_dic h (h.2.1 k hd)
-- state
def a_state (S : Sg) (d : Int32) : Int32 × Sg := a_take S d (-2) (-4) fun k => stI (sD S k) (sW S)
theorem C_state (h : CS L st S) (hwf : wfS S) (d : Int32) : ∃ st', f_X10_state 2 d st = some (some (.int (a_state S d).1), st') ∧ CS L st' (a_state S d).2 ∧ onC st st' := by
  unfold a_state a_take
  rcases isD_cases d with hd | ⟨k, hd, rfl⟩
  · rw [withD_no hd]
    exact ⟨st, by rw [e_X10_state_0, rc_ok (sh2 h), cD_no hd, ri_ok, if_pos rfl], h, onC_rfl⟩
  · rw [withD_n hd]
    dsimp only
    obtain ⟨c, st', h1, h2, h3, h4, -, -⟩ := take_ok h
    obtain ⟨o, ho, q1, q2, q3, q4, q5⟩ := dic_at h2 hd
    change dicC st' o (sD S k) (sO S k) at q5
    refine ⟨st', ?_, h2, h4⟩
    rw [e_X10_state_0, rc_ok (sh2 h), cD_ok hd, ri_ok, if_neg (by decide), h1, rr_ok, gR_ok (sh2 h2), Option.bind_some, rf2_0 h2, q1, Option.bind_some, gI_ok q2, Option.bind_some, q5.2.1]
    by_cases hb : sO S k = false
    · have hMc := q5.2.2 hb
      rw [bi0 hb, if_pos hb, gR_ok q2, Option.bind_some, q4, stateBehind_ok (MO_of h2.1 ho) (isMc_G.mp hMc) hMc.2.2.2.2.2.2.1.2.2.1 h3 hwf.2.2.2.2.1, ri_ok, stI_go (hwf.2.1 k hd)]
    · rw [bi1 hb, if_neg hb]
-- count
def cntD (D : Dc) (w : Int32) : Int32 := if w = 2 then nI (rsts D).length else if w = 3 then nI (arcsB (mach D) (rsts D).length) else if w = 4 then nI (((mach D).2.2.filter (fun x => x.1.isSome)).length) else if w = 5 then nI (lgst D) else nI (begs D).length
def a_count (S : Sg) (d w : Int32) : Int32 × Sg := (withD d (-2) fun k => if w < 0 then -2 else if w ≤ 6 then (if w = 0 then nI (sD S k).length else if w = 1 then b01 (sO S k) else if sO S k = false then cntD (sD S k) w else -4) else -2, S)
theorem C_count (h : CS L st S) (d w : Int32) : ∃ st', f_X10_count 2 d w st = some (some (.int (a_count S d w).1), st') ∧ CS L st' (a_count S d w).2 ∧ onC st st' := by
  unfold a_count
  refine ⟨st, ?_, h, onC_rfl⟩
  rcases isD_cases d with hd | ⟨k, hd, rfl⟩
  · rw [withD_no hd, e_X10_count_0, rc_ok (sh2 h), cD_no hd, ri_ok, if_pos rfl]
  · rw [withD_n hd]
    obtain ⟨o, ho, q1, q2, q3, q4, q5⟩ := dic_at h hd
    have hMO := MO_of h.1 ho
    rw [e_X10_count_0, rc_ok (sh2 h), cD_ok hd, ri_ok, if_neg (by decide)]
    by_cases hw0 : w < 0
    · rw [if_pos hw0]; simp only [hw0, if_true]
    · rw [if_neg hw0]
      simp only [hw0, if_false]
      by_cases hw6 : w ≤ 6
      · rw [if_pos hw6]
        simp only [hw6, if_true]
        rw [gR_ok (sh2 h), Option.bind_some, rf2_0 h, q1, Option.bind_some]
        by_cases e0 : w = 0
        · simp only [e0, if_true]
          rw [gR_ok q2, Option.bind_some, q3, gI_ok q5.1.1, Option.bind_some, q5.1.2.2.2.2.2.2.2.1]
        · simp only [e0, if_false]
          by_cases e1 : w = 1
          · simp only [e1, if_true]
            rw [gI_ok q2, Option.bind_some, q5.2.1]
            by_cases hb : sO S k = false
            · rw [bi0 hb, hb]; rfl
            · rw [bi1 hb]
              have : sO S k = true := by simpa using hb
              rw [this]; rfl
          · simp only [e1, if_false]
            rw [gI_ok q2, Option.bind_some, q5.2.1]
            by_cases hb : sO S k = false
            · have hMc := q5.2.2 hb
              rw [bi0 hb]
              simp only [hb, if_true]
              unfold cntD
              by_cases e2 : w = 2
              · simp only [e2, if_true]
                rw [gR_ok q2, Option.bind_some, q4, mi hMO, Option.bind_some, hMc.2.1, mach_len]
              · simp only [e2, if_false]
                by_cases e3 : w = 3
                · simp only [e3, if_true]
                  rw [gR_ok q2, Option.bind_some, q4, mi hMO, Option.bind_some, hMc.2.2.1, mach_len]
                · simp only [e3, if_false]
                  by_cases e4 : w = 4
                  · simp only [e4, if_true]
                    rw [gR_ok q2, Option.bind_some, q4, mi hMO, Option.bind_some, hMc.2.2.2.1]
                  · simp only [e4, if_false]
                    by_cases e5 : w = 5
                    · simp only [e5, if_true]
                      rw [gR_ok q2, Option.bind_some, q3, longest_ok q5.1, ri_ok]
                    · simp only [e5, if_false]
                      rw [gR_ok q2, Option.bind_some, q4, mi hMO, Option.bind_some, hMc.2.2.2.2.1]
                      rfl
            · rw [bi1 hb, if_neg hb]
      · rw [if_neg hw6]
        simp only [hw6, if_false]
-- arc
def a_arc (S : Sg) (d s i w : Int32) : Int64 × Sg := (withD d (-2) fun k => if w < 0 then -2 else if w ≤ (if i = -1 then 3 else 2) then (if sO S k = false then (if i = -1 then tellS (atO (mach (sD S k)).2.2 s) w else tellA (arcI (mach (sD S k)) s i) w) else -4) else -2, S)
theorem C_arc (h : CS L st S) (d s i w : Int32) : ∃ st', f_X10_arc 2 d s i w st = some (some (.long (a_arc S d s i w).1), st') ∧ CS L st' (a_arc S d s i w).2 ∧ onC st st' := by
  unfold a_arc
  refine ⟨st, ?_, h, onC_rfl⟩
  have step : ∀ t0 : Int32, (t0 = 0 ↔ ¬ i = -1) → L_X10_arc_10 2 d s i w t0 st = some (some (.long (withD d (-2) fun k => if w < 0 then -2 else if w ≤ (if i = -1 then 3 else 2) then (if sO S k = false then (if i = -1 then tellS (atO (mach (sD S k)).2.2 s) w else tellA (arcI (mach (sD S k)) s i) w) else -4) else -2)), st) := by
    intro t0 ht
    rcases isD_cases d with hd | ⟨k, hd, rfl⟩
    · rw [withD_no hd, e_X10_arc_10, cD_no hd, ri_ok, if_pos rfl]
    · rw [withD_n hd]
      obtain ⟨o, ho, q1, q2, q3, q4, q5⟩ := dic_at h hd
      have hMO := MO_of h.1 ho
      rw [e_X10_arc_10, cD_ok hd, ri_ok, if_neg (by decide)]
      by_cases hw0 : w < 0
      · rw [if_pos hw0]; simp only [hw0, if_true]
      · rw [if_neg hw0]
        simp only [hw0, if_false]
        have last : ∀ t1 : Int32, t1 = (if i = -1 then 3 else 2) → L_X10_arc_36 2 (nI k) s i w t0 w t1 st = some (some (.long (if w ≤ (if i = -1 then 3 else 2) then (if sO S k = false then (if i = -1 then tellS (atO (mach (sD S k)).2.2 s) w else tellA (arcI (mach (sD S k)) s i) w) else -4) else -2)), st) := by
          intro t1 ht1
          rw [e_X10_arc_36, ht1]
          by_cases hw : w ≤ (if i = -1 then 3 else 2)
          · rw [if_pos hw, if_pos hw, gR_ok (sh2 h), Option.bind_some, rf2_0 h, q1, Option.bind_some, gI_ok q2, Option.bind_some, q5.2.1]
            by_cases hb : sO S k = false
            · have hMc := q5.2.2 hb
              have hM := isMc_G.mp hMc
              rw [bi0 hb, if_pos hb, Option.bind_some, q1, Option.bind_some, gR_ok q2, Option.bind_some, q4]
              by_cases hi : i = -1
              · rw [if_neg (fun q => (ht.mp q) hi), if_pos hi, tellState_ok hMO hM (by decide), rl_ok]
              · rw [if_pos (ht.mpr hi), if_neg hi, tellArc_ok hMO hM hMc.2.2.2.2.2.2.1.2.2.1, rl_ok]
            · rw [bi1 hb, if_neg hb]
          · rw [if_neg hw, if_neg hw]
        by_cases hi : i = -1
        · rw [if_neg (fun q => (ht.mp q) hi)]
          exact last 3 (by rw [if_pos hi])
        · rw [if_pos (ht.mpr hi)]
          exact last 2 (by rw [if_neg hi])
  rw [e_X10_arc_0, rc_ok (sh2 h)]
  by_cases hi : i = -1
  · rw [if_pos hi]
    exact step 1 ⟨fun q => absurd q (by decide), fun q => absurd hi q⟩
  · rw [if_neg hi]
    exact step 0 ⟨fun _ => hi, fun _ => rfl⟩
end CLS
