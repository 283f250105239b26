/-! WALK, NEXT -/
section WALK
variable {L : Nat} {st : ab_S} {S : Sg}
def gna (w : List Nat) (D : Dc) : Int32 := match nof w D with
  | some t => nI t
  | none => nI (bl w D) - 1
theorem nof_eq {w : List Nat} {D : Dc} {x : List Nat × Nat} (hg : D[bl w D]? = some x) : nof w D = if x.1 = w then some (bl w D) else none := by unfold nof; rw [hg]
theorem nof_out {w : List Nat} {D : Dc} (hg : D.length ≤ bl w D) : nof w D = none := by unfold nof; rw [List.getElem?_eq_none hg]
theorem gna_some {w : List Nat} {D : Dc} {t : Nat} (h : nof w D = some t) : gna w D = nI t := by unfold gna; rw [h]
theorem gna_none {w : List Nat} {D : Dc} (h : nof w D = none) : gna w D = nI (bl w D) - 1 := by unfold gna; rw [h]
theorem greatest_ok {o a room : Nat} {w : List Nat} {D : Dc} (h : isTm st o D) (hs : srt D) (hw : isSg st a room w) (hroom : 13 ≤ room) : f_X7_greatestNotAbove o a st = some (some (.int (gna w D)), st) := by
  have h9 := h.2.2.2.2.2.2.2.2.1
  have hb := bl_le w D
  rw [e_X7_greatestNotAbove_0, rc_ok h.1, leastNotBelow_ok h hs hw hroom, ri_ok, gI_ok h.1, Option.bind_some, h.2.2.2.2.2.2.2.1]
  by_cases hlt : D.length ≤ bl w D
  · rw [if_pos (by rw [c_le (by omega) (by omega)]; exact hlt), gna_none (nof_out hlt)]
  · have hg : D[bl w D]? = some D[bl w D] := List.getElem?_eq_getElem (by omega)
    rw [if_neg (by rw [c_le (by omega) (by omega)]; exact hlt), compareWith_ok h hg hw hroom, ri_ok]
    have hn := nof_eq hg
    by_cases hx : (D[bl w D]).1 = w
    · rw [if_pos hx] at hn
      rw [if_pos (lcmp_eq0.mpr hx), gna_some hn]
    · rw [if_neg hx] at hn
      rw [if_neg (fun q => hx (lcmp_eq0.mp q)), gna_none hn]
def setK (S : Sg) (k : Nat) (v : Int32 × Int32 × Int32 × Int32) : Sg := (sW S, sD S, sO S, sA S, up1 (sK S) k v, S.2.2.2.2.2)
def frW (S : Sg) (d : Nat) (b : Int32) : Int32 := if b = 0 then nI (bl (sW S) (sD S d)) else gna (sW S) (sD S d)
def a_walk (S : Sg) (w d b : Int32) : Int32 × Sg := withD w (-2, S) fun k => withD d (-2, S) fun e => if sO S e = false then (0, setK (setW S []) k (nI e, sA S e, frW S e b, b)) else (-4, setW S [])
theorem CS_walk (h : CS L st S) {k : Nat} (hk : k < 4) {st' : ab_S} (hu : upto (fun q => q = 126 + k) st st') {v : Int32 × Int32 × Int32 × Int32} (h0 : sI st' (126 + k) 0 = v.1) (h1 : v.1 ≠ -1 → sI st' (126 + k) 1 = v.2.1 ∧ sI st' (126 + k) 2 = v.2.2.1 ∧ sI st' (126 + k) 3 = if v.2.2.2 = 0 then 1 else -1) : CS L st' (setK S k v) := by
  obtain ⟨hF, h2, h3, h4, h5, h6, h7, h8, w, h9⟩ := h
  refine ⟨Fx_up hF hu, ccol_up h2 hu (fun q _ _ => by omega), cdic_up h3 hu (fun q _ _ => by omega), fun e he => by rw [(hu.2.2 4 (by omega)).1]; exact h4 e he, fun e he => ?_, ⟨by rw [(hu.2.2 2 (by omega)).1]; exact h6.1, fun k t hk => by rw [(hu.2.2 61 (by omega)).1]; exact h6.2 k t hk⟩, by rw [(hu.2.2 2 (by omega)).1]; exact h7, isSg_up h8 hu (by omega) (by omega), w, isSg_up h9 hu (by omega) (by omega)⟩
  show sI st' (126 + e) 0 = (up1 (sK S) k v e).1 ∧ ((up1 (sK S) k v e).1 ≠ -1 → sI st' (126 + e) 1 = (up1 (sK S) k v e).2.1 ∧ sI st' (126 + e) 2 = (up1 (sK S) k v e).2.2.1 ∧ sI st' (126 + e) 3 = if (up1 (sK S) k v e).2.2.2 = 0 then 1 else -1)
  by_cases hek : e = k
  · subst hek; rw [up1_s]; exact ⟨h0, h1⟩
  · rw [up1_o hek, (hu.2.2 (126 + e) (by omega)).1]; exact h5 e he
theorem wk_rf (h : CS L st S) {k : Nat} (hk : k < 4) : ab_rR st 5 (nI k) = some (126 + k) ∧ (sH st)[126 + k]? = some (0, 9) := by
  have h1 : ∀ k, k < 4 → (5, k, 126 + k) ∈ fxr := by decide +kernel
  have h2 : ∀ k, k < 4 → (S0 L)[126 + k]? = some (0, 9) := by
    intro k hk
    rcases k with _ | _ | _ | _ | k
    · rfl
    · rfl
    · rfl
    · rfl
    · omega
  exact ⟨by rw [rR_ok (Fx_sh h.1 (o := 5) rfl) (by decide) (by omega) (by omega), Fx_rf h.1 (h1 k hk)], Fx_sh h.1 (h2 k hk)⟩
theorem C_walk (h : CS L st S) (hwf : wfS S) (w d b : Int32) (hb01 : b = 0 ∨ b = 1) : ∃ st', f_X10_walk 2 w d b st = some (some (.int (a_walk S w d b).1), st') ∧ CS L st' (a_walk S w d b).2 ∧ onC st st' := by
  unfold a_walk
  rcases isD_cases w with hw | ⟨k, hk, rfl⟩
  · rw [withD_no hw]
    exact ⟨st, by rw [e_X10_walk_0, rc_ok (sh2 h), cW_no hw, ri_ok, if_pos rfl], h, onC_rfl⟩
  · rw [withD_n hk]
    rcases isD_cases d with hd | ⟨e, hd, rfl⟩
    · rw [withD_no hd]
      exact ⟨st, by rw [e_X10_walk_0, rc_ok (sh2 h), cW_ok hk, ri_ok, if_neg (by decide), cD_no hd, ri_ok, if_pos rfl], h, onC_rfl⟩
    · rw [withD_n hd]
      obtain ⟨c, st', h1, h2, h3, h4, -, -⟩ := take_ok h
      obtain ⟨o, ho, q1, q2, q3, q4, q5⟩ := dic_at h2 hd
      change dicC st' o (sD S e) (sO S e) at q5
      have e0 : f_X10_walk 2 (nI k) (nI e) b st = if sO S e = false then L_X10_walk_70 2 (nI k) (nI e) b (frW S e b) st' else some (some (.int (-4)), st') := by
        rw [e_X10_walk_0, rc_ok (sh2 h), cW_ok hk, ri_ok, if_neg (by decide), cD_ok hd, ri_ok, if_neg (by decide), h1, rr_ok, gR_ok (sh2 h2), Option.bind_some, rf2_0 h2, q1, Option.bind_some, gI_ok q2, Option.bind_some, q5.2.1]
        by_cases hb : sO S e = false
        · rw [bi0 hb, if_pos hb, Option.bind_some, q1, Option.bind_some, gR_ok q2, Option.bind_some, q3]
          unfold frW
          by_cases hb0 : b = 0
          · rw [if_pos hb0, if_pos hb0, leastNotBelow_ok q5.1 (hwf.2.1 e hd) h3 (by omega), ri_ok]
          · rw [if_neg hb0, if_neg hb0, greatest_ok q5.1 (hwf.2.1 e hd) h3 (by omega), ri_ok]
        · rw [bi1 hb, if_neg hb]
      rw [e0]
      by_cases hb : sO S e = false
      · rw [if_pos hb, if_pos hb]
        obtain ⟨w1, w2⟩ := wk_rf h2 hk
        generalize hfr : frW S e b = fr
        let s1 := uI st' (126 + k) 0 (nI e)
        let s2 := uI s1 (126 + k) 1 (sA S e)
        let s3 := uI s2 (126 + k) 2 fr
        let s4 := uI s3 (126 + k) 3 (if b = 0 then 1 else -1)
        have hu : upto (fun q => q = 126 + k) st' s4 := upto_trans (upto_uI rfl) (upto_trans (upto_uI rfl) (upto_trans (upto_uI rfl) (upto_uI rfl)))
        have hst : f_X9_start (126 + k) (nI e) (sA S e) fr (if b = 0 then 1 else -1) st' = some (none, s4) := by
          rw [e_X9_start_0, rc_ok w2, pI_ok w2, Option.bind_some]
          rw [pI_ok (show (sH s1)[126 + k]? = some (0, 9) from w2), Option.bind_some]
          rw [pI_ok (show (sH s2)[126 + k]? = some (0, 9) from w2), Option.bind_some]
          rw [pI_ok (show (sH s3)[126 + k]? = some (0, 9) from w2), Option.bind_some]
        have h70 : L_X10_walk_70 2 (nI k) (nI e) b fr st' = some (some (.int 0), s4) := by
          rw [e_X10_walk_70, gR_ok (sh2 h2), Option.bind_some, Fx_rf h2.1 (v := 5) (by decide), w1, Option.bind_some, gR_ok (sh2 h2), Option.bind_some, Fx_rf h2.1 (v := 4) (by decide), rI_ok (Fx_sh h2.1 (o := 4) rfl) (by omega) (by omega), Option.bind_some, h2.2.2.2.1 e hd]
          show (if b = 0 then L_X10_walk_96 (126 + k) (nI e) (sA S e) fr 1 st' else L_X10_walk_96 (126 + k) (nI e) (sA S e) fr (-1) st') = _
          by_cases hb0 : b = 0
          · rw [if_pos hb0] at hst ⊢
            rw [e_X10_walk_96, hst, rv_ok]
          · rw [if_neg hb0] at hst ⊢
            rw [e_X10_walk_96, hst, rv_ok]
        refine ⟨s4, h70, CS_walk h2 hk hu ?_ (fun _ => ⟨?_, ?_, ?_⟩), onC_trans h4 (onC_up hu (fun q hq => by omega))⟩
        · simp [s4, s3, s2, s1, I_uI]
        · simp [s4, s3, s2, s1, I_uI]
        · simp [s4, s3, s2, s1, I_uI]
        · simp [s4, s3, s2, s1, I_uI]
      · rw [if_neg hb, if_neg hb]; exact ⟨st', rfl, h2, h4⟩
theorem MS_walk (h : MS L st S) {k : Nat} {st' : ab_S} (hu : upto (fun q => 140 ≤ q ∧ q ≤ 143) st st') {v : Int32 × Int32 × Int32 × Int32} (hv : ∀ e, sI st' 140 e = (if e = k then v.1 else sI st 140 e)) (hv1 : ∀ e, sI st' 141 e = (if e = k then v.2.1 else sI st 141 e)) (hv2 : ∀ e, sI st' 142 e = (if e = k then v.2.2.1 else sI st 142 e)) (hv3 : ∀ e, sI st' 143 e = (if e = k then v.2.2.2 else sI st 143 e)) : MS L st' (setK S k v) := by
  obtain ⟨hF, g2, g3, g4, g5, g6, g7, g8⟩ := h
  have e : ∀ q, ¬ (140 ≤ q ∧ q ≤ 143) → sI st' q = sI st q := fun q a => (hu.2.2 q a).1
  refine ⟨Fx_up hF hu, ⟨by rw [e 130 (by omega)]; exact g2.1, mRow_up g2.2 hu (by omega)⟩, fun d hd => ⟨isMd_up (g3 d hd).1 hu (by omega) (by omega) (by omega) (by omega), by rw [e 136 (by omega)]; exact (g3 d hd).2⟩, fun d hd => by rw [e 137 (by omega)]; exact g4 d hd, fun q hq => ?_, ⟨by rw [e 130 (by omega)]; exact g6.1, fun k t hk => by rw [e 138 (by omega)]; exact g6.2 k t hk⟩, by rw [e 130 (by omega)]; exact g7, ⟨by rw [e 130 (by omega)]; exact g8.1, fun k s hk => by rw [e 139 (by omega)]; exact g8.2 k s hk⟩⟩
  rw [hv, hv1, hv2, hv3]
  show _ = (up1 (sK S) k v q).1 ∧ ((up1 (sK S) k v q).1 ≠ -1 → _ = (up1 (sK S) k v q).2.1 ∧ _ = (up1 (sK S) k v q).2.2.1 ∧ _ = (up1 (sK S) k v q).2.2.2)
  by_cases hqk : q = k
  · subst hqk; rw [up1_s]; simp
  · rw [up1_o hqk, if_neg hqk, if_neg hqk, if_neg hqk, if_neg hqk]; exact g5 q hq
theorem M_walk (h : MS L st S) (hwf : wfS S) (w d b : Int32) (hb01 : b = 0 ∨ b = 1) : ∃ st', f_X11_walk 130 w d b st = some (some (.int (a_walk S w d b).1), st') ∧ MS L st' (a_walk S w d b).2 ∧ onM st st' := by
  unfold a_walk
  rcases isD_cases w with hw | ⟨k, hk, rfl⟩
  · rw [withD_no hw]
    exact ⟨st, by rw [e_X11_walk_0, rc_ok (sh130 h), mW_no hw, ri_ok, if_pos rfl], h, onM_rfl⟩
  · rw [withD_n hk]
    rcases isD_cases d with hd | ⟨e, hd, rfl⟩
    · rw [withD_no hd]
      exact ⟨st, by rw [e_X11_walk_0, rc_ok (sh130 h), mW_ok hk, ri_ok, if_neg (by decide), mD_no hd, ri_ok, if_pos rfl], h, onM_rfl⟩
    · rw [withD_n hd]
      obtain ⟨h1, h2, h3, h4⟩ := forgetM_ok h
      generalize hst' : uI st 130 1 0 = st' at h1 h2 h3 h4
      have hM : isMd st' e (sD S e) := (h2.2.2.1 e hd).1
      have h9 := hM.2.1
      have hwl := h3.2
      have hbl := bl_le (sW S) (sD S e)
      have e0 : f_X11_walk 130 (nI k) (nI e) b st = if sO S e = false then L_X11_walk_79 130 (nI k) (nI e) b (frW S e b) st' else some (some (.int (-4)), st') := by
        rw [e_X11_walk_0, rc_ok (sh130 h), mW_ok hk, ri_ok, if_neg (by decide), mD_ok hd, ri_ok, if_neg (by decide), h1, ri_ok, ← Option.bind_assoc, mOpen2 h2 hd, Option.bind_some]
        change (if b01 (sO S e) = 0 then _ else _) = _
        by_cases hb : sO S e = false
        · rw [bi0 hb, if_pos hb, above_ok h2.1 hd hM (hwf.2.1 e hd) h3, ri_ok]
          unfold frW
          by_cases hb0 : b = 0
          · rw [if_pos hb0, if_pos hb0]
          · rw [if_neg hb0, if_neg hb0, ← Option.bind_assoc, mMany h2 hd, Option.bind_some]
            change (if nI (bl (sW S) (sD S e)) = nI (sD S e).length then _ else _) = _
            by_cases hlt : (sD S e).length ≤ bl (sW S) (sD S e)
            · rw [if_pos (by rw [c_eq (by omega) (by omega)]; omega), gna_none (nof_out hlt), e_X11_walk_76]
              rw [Int32.sub_eq_add_neg]
            · have hg : (sD S e)[bl (sW S) (sD S e)]? = some (sD S e)[bl (sW S) (sD S e)] := List.getElem?_eq_getElem (by omega)
              obtain ⟨r, r1, r2, r3⟩ := compare_ok h2.1 hM (by omega) hg h3
              have hnl : ¬ r < 0 := fun q => by have := (bl_iff (hwf.2.1 e hd) hg).mp (r2.mp q); omega
              rw [if_neg (by rw [c_eq (by omega) (by omega)]; omega), r1, ri_ok]
              have hn := nof_eq hg
              by_cases hx : ((sD S e)[bl (sW S) (sD S e)]).1 = sW S
              · rw [if_pos hx] at hn
                rw [if_pos (by rw [r3.mpr (lcmp_eq0.mpr hx)]; decide), gna_some hn]
              · rw [if_neg hx] at hn
                rw [if_neg (fun q => hx (lcmp_eq0.mp (r3.mp (Int32.le_antisymm q (Int32.not_lt.mp hnl))))), gna_none hn, e_X11_walk_76, Int32.sub_eq_add_neg]
        · rw [bi1 hb, if_neg hb]
      rw [e0]
      by_cases hb : sO S e = false
      · rw [if_pos hb, if_pos hb]
        generalize hfr : frW S e b = fr
        let s2 := uI st' 140 k (nI e)
        let s6 := uI s2 141 k (sA S e)
        let s8 := uI s6 142 k fr
        let s9 := uI s8 143 k b
        have hu : upto (fun q => 140 ≤ q ∧ q ≤ 143) st' s9 := upto_trans (upto_uI (by omega)) (upto_trans (upto_uI (by omega)) (upto_trans (upto_uI (by omega)) (upto_uI (by omega))))
        have F := h2.1
        have F2 : Fx L s2 := F
        have F6 : Fx L s6 := F
        have F8 : Fx L s8 := F
        have hb1 : b &&& 1 = b := by rcases hb01 with rfl | rfl <;> rfl
        refine ⟨s9, ?_, MS_walk h2 hu ?_ ?_ ?_ ?_, onM_trans h4 (onM_up hu (fun q hq => by omega))⟩
        · rw [e_X11_walk_79, gR_ok (Fx_sh F rfl), Option.bind_some, Fx_rf F (v := 140) (by decide), wI_ok (Fx_sh F (o := 140) rfl) (by omega) (by omega), Option.bind_some]
          show Option.bind (ab_gR s2 130 11 14) _ = _
          rw [gR_ok (Fx_sh F2 rfl), Option.bind_some, Fx_rf F2 (v := 141) (by decide)]
          show Option.bind (ab_gR s2 130 11 7) _ = _
          rw [gR_ok (Fx_sh F2 rfl), Option.bind_some, Fx_rf F2 (v := 137) (by decide)]
          show Option.bind (ab_rI s2 137 (nI e)) _ = _
          rw [rI_ok (Fx_sh F2 (o := 137) rfl) (by omega) (by omega), Option.bind_some]
          have e7 : sI s2 137 e = sA S e := by
            show sI (uI st' 140 k (nI e)) 137 e = _
            rw [I_uI, if_neg (fun z => by omega)]
            exact h2.2.2.2.1 e hd
          rw [e7]
          show Option.bind (ab_wI s2 141 (nI k) (sA S e)) _ = _
          rw [wI_ok (Fx_sh F2 (o := 141) rfl) (by omega) (by omega), Option.bind_some]
          show Option.bind (ab_gR s6 130 11 15) _ = _
          rw [gR_ok (Fx_sh F6 rfl), Option.bind_some, Fx_rf F6 (v := 142) (by decide)]
          show Option.bind (ab_wI s6 142 (nI k) fr) _ = _
          rw [wI_ok (Fx_sh F6 (o := 142) rfl) (by omega) (by omega), Option.bind_some]
          show Option.bind (ab_gR s8 130 11 16) _ = _
          rw [gR_ok (Fx_sh F8 rfl), Option.bind_some, Fx_rf F8 (v := 143) (by decide)]
          show Option.bind (ab_wB s8 143 (nI k) b) _ = _
          rw [wZ_ok (Fx_sh F8 (o := 143) rfl) (by omega) (by omega), Option.bind_some, hb1]
        · intro q; simp [s9, s8, s6, s2, I_uI]
        · intro q; simp [s9, s8, s6, s2, I_uI]
        · intro q; simp [s9, s8, s6, s2, I_uI]
        · intro q; simp [s9, s8, s6, s2, I_uI]
      · rw [if_neg hb, if_neg hb]; exact ⟨st', rfl, h2, h4⟩
theorem W_walk (h : wfS S) (w d b : Int32) (hb01 : b = 0 ∨ b = 1) : wfS (a_walk S w d b).2 := by
  unfold a_walk
  rcases isD_cases w with hw | ⟨k, hk, rfl⟩
  · rw [withD_no hw]; exact h
  · rw [withD_n hk]
    rcases isD_cases d with hd | ⟨e, hd, rfl⟩
    · rw [withD_no hd]; exact h
    · rw [withD_n hd]
      split
      · obtain ⟨a1, a2⟩ := wf_W0 h
        refine ⟨fun q hq => ?_, a2⟩
        show ((up1 (sK S) k _ q).1 = -1 ∨ ∃ d, d < 4 ∧ (up1 (sK S) k _ q).1 = nI d) ∧ ((up1 (sK S) k _ q).2.2.2 = 0 ∨ (up1 (sK S) k _ q).2.2.2 = 1)
        by_cases hqk : q = k
        · subst hqk; rw [up1_s]; exact ⟨Or.inr ⟨e, hd, rfl⟩, hb01⟩
        · rw [up1_o hqk]; exact a1 q hq
      · exact wf_W0 h
/-- a step of a walk -/
def a_next (S : Sg) (w : Int32) : Int32 × Sg := withD w (-2, S) fun k => withD (sK S k).1 (-1, S) fun e => if (sK S k).2.1 = sA S e ∧ 0 ≤ (sK S k).2.2.1.toInt ∧ (sK S k).2.2.1.toInt < (sD S e).length then ((sK S k).2.2.1, setK S k ((sK S k).1, (sK S k).2.1, (sK S k).2.2.1 + (if (sK S k).2.2.2 = 0 then 1 else -1), (sK S k).2.2.2)) else (-1, S)
theorem isD_m1 : ¬ isD (-1) := by unfold isD; rw [i_m1]; omega
theorem C_next (h : CS L st S) (hwf : wfS S) (w : Int32) : ∃ st', f_X10_next 2 w st = some (some (.int (a_next S w).1), st') ∧ CS L st' (a_next S w).2 ∧ onC st st' := by
  unfold a_next
  rcases isD_cases w with hw | ⟨k, hk, rfl⟩
  · rw [withD_no hw]
    exact ⟨st, by rw [e_X10_next_0, rc_ok (sh2 h), cW_no hw, ri_ok, if_pos rfl], h, onC_rfl⟩
  · rw [withD_n hk]
    obtain ⟨w1, w2⟩ := wk_rf h hk
    obtain ⟨k1, k2⟩ := h.2.2.2.2.1 k hk
    obtain ⟨hk1, hk4⟩ := hwf.1 k hk
    have e0 : f_X10_next 2 (nI k) st = ab_ri (f_X10_isDictionary (sK S k).1 st) fun x7 s6 => if x7 = 0 then some (some (.int (-1)), s6) else Option.bind (ab_gI s6 (126 + k) 9 1) fun x8 => Option.bind (ab_gR s6 2 10 1) fun x9 => Option.bind (ab_rI s6 x9 (sK S k).1) fun x10 => if x8 = x10 then Option.bind (ab_gR s6 2 10 0) fun x11 => Option.bind (ab_rR s6 x11 (sK S k).1) fun x12 => Option.bind (ab_gR s6 x12 0 0) fun x13 => Option.bind (ab_gI s6 x13 7 3) fun x14 => ab_ri (f_X9_step (126 + k) x14 s6) fun x16 s15 => some (some (.int x16), s15) else some (some (.int (-1)), s6) := by
      rw [e_X10_next_0, rc_ok (sh2 h), cW_ok hk, ri_ok, if_neg (by decide), gR_ok (sh2 h), Option.bind_some, Fx_rf h.1 (v := 5) (by decide), w1, Option.bind_some, gI_ok w2, Option.bind_some, k1]
    rw [e0]
    rcases hk1 with hm | ⟨e, he, hke⟩
    · rw [hm, withD_no isD_m1]
      exact ⟨st, by rw [cD_no isD_m1, ri_ok, if_pos rfl], h, onC_rfl⟩
    · have hne : (sK S k).1 ≠ -1 := by rw [hke]; intro q; rw [c_m1e (by omega)] at q; exact q
      obtain ⟨j1, j2, j3⟩ := k2 hne
      obtain ⟨o, ho, q1, q2, q3, q4, q5⟩ := dic_at h he
      have h9 := q5.1.2.2.2.2.2.2.2.2.1
      have h8 := q5.1.2.2.2.2.2.2.2.1
      rw [hke, withD_n he, cD_ok he, ri_ok, if_neg (by decide), gI_ok w2, Option.bind_some, gR_ok (sh2 h), Option.bind_some, Fx_rf h.1 (v := 4) (by decide), rI_ok (Fx_sh h.1 (o := 4) rfl) (by omega) (by omega), Option.bind_some, h.2.2.2.1 e he, j1]
      by_cases hage : (sK S k).2.1 = sA S e
      · rw [if_pos hage, gR_ok (sh2 h), Option.bind_some, rf2_0 h, q1, Option.bind_some, gR_ok q2, Option.bind_some, q3, gI_ok q5.1.1, Option.bind_some, h8]
        have hl0 : (0 : Int32).toInt = 0 := rfl
        by_cases hin : 0 ≤ (sK S k).2.2.1.toInt ∧ (sK S k).2.2.1.toInt < (sD S e).length
        · rw [if_pos ⟨hage, hin⟩]
          refine ⟨uI st (126 + k) 2 ((sK S k).2.2.1 + (if (sK S k).2.2.2 = 0 then 1 else -1)), ?_, ?_, onC_up (upto_uI (W := fun q => q = 126 + k) rfl) (fun q hq => by omega)⟩
          · rw [e_X9_step_0, rc_ok w2, gI_ok w2, Option.bind_some, j2, if_neg (by rw [Int32.lt_iff_toInt_lt, hl0]; omega), Option.bind_some, if_pos (by rw [Int32.lt_iff_toInt_lt, nI_toInt (by omega)]; exact hin.2), Option.bind_some, Option.bind_some, gI_ok w2, Option.bind_some, j3, pI_ok w2, Option.bind_some, ri_ok]
          · have hc := CS_walk h hk (upto_uI rfl : upto (fun q => q = 126 + k) st (uI st (126 + k) 2 ((sK S k).2.2.1 + (if (sK S k).2.2.2 = 0 then 1 else -1)))) (v := (nI e, (sK S k).2.1, (sK S k).2.2.1 + (if (sK S k).2.2.2 = 0 then 1 else -1), (sK S k).2.2.2)) (by simp [I_uI]; rw [k1, hke]) (fun _ => ⟨by simp [I_uI]; exact j1, by simp [I_uI], by simp [I_uI]; exact j3⟩)
            exact hc
        · rw [if_neg (fun q => hin q.2)]
          refine ⟨st, ?_, h, onC_rfl⟩
          rw [e_X9_step_0, rc_ok w2, gI_ok w2, Option.bind_some, j2]
          by_cases hlt : (sK S k).2.2.1 < 0
          · rw [if_pos hlt, ri_ok]
          · rw [if_neg hlt, Option.bind_some, if_neg, ri_ok]
            intro q
            rw [Int32.lt_iff_toInt_lt, nI_toInt (by omega)] at q
            rw [Int32.lt_iff_toInt_lt, hl0] at hlt
            exact hin ⟨by omega, q⟩
      · rw [if_neg hage, if_neg (fun q => hage q.1)]
        exact ⟨st, rfl, h, onC_rfl⟩
theorem M_next (h : MS L st S) (hwf : wfS S) (w : Int32) : ∃ st', f_X11_next 130 w st = some (some (.int (a_next S w).1), st') ∧ MS L st' (a_next S w).2 ∧ onM st st' := by
  unfold a_next
  rcases isD_cases w with hw | ⟨k, hk, rfl⟩
  · rw [withD_no hw]
    exact ⟨st, by rw [e_X11_next_0, rc_ok (sh130 h), mW_no hw, ri_ok, if_pos rfl], h, onM_rfl⟩
  · rw [withD_n hk]
    obtain ⟨k1, k2⟩ := h.2.2.2.2.1 k hk
    obtain ⟨hk1, hk4⟩ := hwf.1 k hk
    have F := h.1
    rw [e_X11_next_0, rc_ok (sh130 h), mW_ok hk, ri_ok, if_neg (by decide), gR_ok (sh130 h), Option.bind_some, Fx_rf F (v := 140) (by decide), rI_ok (Fx_sh F (o := 140) rfl) (by omega) (by omega), Option.bind_some, k1]
    rcases hk1 with hm | ⟨e, he, hke⟩
    · rw [hm, withD_no isD_m1, if_pos rfl]
      exact ⟨st, rfl, h, onM_rfl⟩
    · have hne : (sK S k).1 ≠ -1 := by rw [hke]; intro q; rw [c_m1e (by omega)] at q; exact q
      obtain ⟨j1, j2, j3⟩ := k2 hne
      have hM := (h.2.2.1 e he).1
      have h9 := hM.2.1
      rw [if_neg hne, hke, withD_n he, gR_ok (sh130 h), Option.bind_some, Fx_rf F (v := 137) (by decide), rI_ok (Fx_sh F (o := 137) rfl) (by omega) (by omega), Option.bind_some, gR_ok (sh130 h), Option.bind_some, Fx_rf F (v := 141) (by decide), rI_ok (Fx_sh F (o := 141) rfl) (by omega) (by omega), Option.bind_some, j1, h.2.2.2.1 e he]
      by_cases hage : (sK S k).2.1 = sA S e
      · rw [if_pos hage.symm, gR_ok (sh130 h), Option.bind_some, Fx_rf F (v := 142) (by decide), rI_ok (Fx_sh F (o := 142) rfl) (by omega) (by omega), Option.bind_some, j2, ← Option.bind_assoc, mMany h he, Option.bind_some, isIn_i, pred_toInt (by omega)]
        have h0 : (0 : Int64).toInt = 0 := rfl
        rw [h0]
        by_cases hin : 0 ≤ (sK S k).2.2.1.toInt ∧ (sK S k).2.2.1.toInt < (sD S e).length
        · have hu : upto (fun q => 140 ≤ q ∧ q ≤ 143) st (uI st 142 k ((sK S k).2.2.1 + (if (sK S k).2.2.2 = 0 then 1 else -1))) := upto_uI (by omega)
          rw [if_pos (by omega), ri_ok, if_neg (by decide), if_pos ⟨hage, hin⟩]
          refine ⟨uI st 142 k ((sK S k).2.2.1 + (if (sK S k).2.2.2 = 0 then 1 else -1)), ?_, ?_, onM_up hu (fun q hq => by omega)⟩
          · rw [gR_ok (sh130 h), Option.bind_some, Fx_rf F (v := 142) (by decide), rI_ok (Fx_sh F (o := 142) rfl) (by omega) (by omega), Option.bind_some, Option.bind_some, rI_ok (Fx_sh F (o := 142) rfl) (by omega) (by omega), Option.bind_some, j2, gR_ok (sh130 h), Option.bind_some, Fx_rf F (v := 143) (by decide), rZ_ok (Fx_sh F (o := 143) rfl) (by omega) (by omega), Option.bind_some, j3]
            by_cases hz : (sK S k).2.2.2 = 0
            · rw [if_pos hz, if_pos hz, e_X11_next_95, wI_ok (Fx_sh F (o := 142) rfl) (by omega) (by omega), Option.bind_some]
            · rw [if_neg hz, if_neg hz, e_X11_next_95, wI_ok (Fx_sh F (o := 142) rfl) (by omega) (by omega), Option.bind_some]
          · refine MS_walk h hu (fun q => ?_) (fun q => ?_) (fun q => ?_) (fun q => ?_)
            · by_cases hq : q = k
              · subst hq; simp [I_uI]; rw [k1, hke]
              · simp [I_uI, hq]
            · by_cases hq : q = k
              · subst hq; simp [I_uI]; exact j1
              · simp [I_uI, hq]
            · by_cases hq : q = k
              · subst hq; simp [I_uI]
              · simp [I_uI, hq]
            · by_cases hq : q = k
              · subst hq; simp [I_uI]; exact j3
              · simp [I_uI, hq]
        · rw [if_neg (by omega), ri_ok, if_pos rfl, if_neg (fun q => hin q.2)]
          exact ⟨st, rfl, h, onM_rfl⟩
      · rw [if_neg (fun q => hage q.symm), if_neg (fun q => hage q.1)]
        exact ⟨st, rfl, h, onM_rfl⟩
theorem W_next (h : wfS S) (w : Int32) : wfS (a_next S w).2 := by
  unfold a_next
  rcases isD_cases w with hw | ⟨k, hk, rfl⟩
  · rw [withD_no hw]; exact h
  · rw [withD_n hk]
    obtain ⟨a1, a2⟩ := h
    obtain ⟨hk1, hk4⟩ := a1 k hk
    rcases hk1 with hm | ⟨e, he, hke⟩
    · rw [hm, withD_no isD_m1]; exact ⟨a1, a2⟩
    · rw [hke, withD_n he]
      split
      · refine ⟨fun q hq => ?_, a2⟩
        show ((up1 (sK S) k _ q).1 = -1 ∨ ∃ d, d < 4 ∧ (up1 (sK S) k _ q).1 = nI d) ∧ ((up1 (sK S) k _ q).2.2.2 = 0 ∨ (up1 (sK S) k _ q).2.2.2 = 1)
        by_cases hqk : q = k
        · subst hqk; rw [up1_s]; exact ⟨Or.inr ⟨e, he, rfl⟩, hk4⟩
        · rw [up1_o hqk]; exact a1 q hq
      · exact ⟨a1, a2⟩
end WALK
