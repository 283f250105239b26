/-! ADD, WALK, NEXT as calls -/
section ADD2
variable {L : Nat} {st : ab_S} {S : Sg}
theorem ts_nf {x : Bool} (h : ¬ x = false) : x = true := by cases x <;> simp_all
theorem ts_nt {x : Bool} (h : ¬ x = true) : x = false := by cases x <;> simp_all
abbrev isOut (v : Int64) : Prop := 0 ≤ v.toInt ∧ v.toInt ≤ 1000000000000
theorem out_cases (v : Int64) : ¬ isOut v ∨ ∃ n, n ≤ 1000000000000 ∧ v = lN n := by
  by_cases h : isOut v
  · right
    have h0 : ¬ v < 0 := fun q => by
      have := Int64.lt_iff_toInt_lt.mp q
      have h00 : (0 : Int64).toInt = 0 := rfl
      unfold isOut at h
      omega
    obtain ⟨k, hk, rfl⟩ := pk_lOf h0
    unfold isOut at h
    rw [pk_lT hk] at h
    exact ⟨k, by omega, rfl⟩
  · exact Or.inl h
theorem isOut_n {n : Nat} (h : n ≤ 1000000000000) : isOut (lN n) := by unfold isOut; rw [pk_lT (by omega)]; omega
/-- may w go behind the last? -/
def behind (D : Dc) (w : List Nat) : Prop := ∀ x, D[D.length - 1]? = some x → lcmp x.1 w = -1
def lastOK (D : Dc) (w : List Nat) : Bool := match D[D.length - 1]? with
  | some x => decide (lcmp x.1 w = -1)
  | none => true
def a_add0 (S : Sg) (k n : Nat) : Int32 × Sg :=
  if sO S k = false then (-4, setW S []) else
  if 12 < (sW S).length then (-6, setW S []) else
  if lastOK (sD S k) (sW S) = false then (-5, setW S []) else
  if (sD S k).length = 200 then (-3, setW S []) else
  (nI ((sD S k).length + 1), setDic (setW S []) k (sD S k ++ [(sW S, n)]) true)
def a_addC (S : Sg) (d : Int32) (v : Int64) : Int32 × Sg := withD d (-2, S) fun k => if 0 ≤ v.toInt ∧ v.toInt ≤ 1000000000000 then a_add0 S k v.toInt.toNat else (-2, S)
theorem CS_dic (h : CS L st S) {W : Nat → Prop} {st' : ab_S} {d o : Nat} (hd : d < 4) (ho : sR st 3 d = o) (hu : upto W st st') (hW : ∀ q, W q → (scr q ∧ q ≠ 2) ∨ (o ≤ q ∧ q ≤ o + 11)) (hod : o ∈ dO) {D : Dc} {b : Bool} (hn : dicC st' o D b) : CS L st' (setDic S d D b) := by
  obtain ⟨hF, h2, h3, h4, h5, h6, h7, h8, w, h9⟩ := h
  have hol := dO_lt hod
  have hn' : ∀ q, ¬ ((scr q ∧ q ≠ 2) ∨ (o ≤ q ∧ q ≤ o + 11)) → ¬ W q := fun q hq w => hq (hW q w)
  have hs : ∀ q, q < 66 → 57 ≤ q ∨ q < 6 → ¬ W q := fun q h1 h2 => hn' q (by unfold scr; omega)
  have hk : ∀ q, 126 ≤ q → q < 130 → ¬ W q := fun q h1 h2 => hn' q (by unfold scr; omega)
  exact ⟨Fx_up hF hu, ccol_up h2 hu (fun q _ _ => hs q (by omega) (by omega)), cdic_upd h3 hd ho hu (fun q _ _ w => by have := hW q w; unfold scr at this; omega) hn, fun e he => by rw [(hu.2.2 4 (hs 4 (by omega) (by omega))).1]; exact h4 e he, cwk_up h5 hu (fun q _ _ => hk q (by omega) (by omega)), ⟨by rw [(hu.2.2 2 (hs 2 (by omega) (by omega))).1]; exact h6.1, fun k t hk => by rw [(hu.2.2 61 (hs 61 (by omega) (by omega))).1]; exact h6.2 k t hk⟩, by rw [(hu.2.2 2 (hs 2 (by omega) (by omega))).1]; exact h7, isSg_up h8 hu (hs _ (by omega) (by omega)) (hs _ (by omega) (by omega)), w, isSg_up h9 hu (hs _ (by omega) (by omega)) (hs _ (by omega) (by omega))⟩
theorem lastOK_nil {w : List Nat} : lastOK [] w = true := rfl
theorem lastOK_some {D : Dc} {w : List Nat} {x : List Nat × Nat} (h : D[D.length - 1]? = some x) : (lastOK D w = false) ↔ ¬ lcmp x.1 w = -1 := by unfold lastOK; rw [h]; simp
theorem lcmp_ge {x w : List Nat} : (lcmp x w < 0) ↔ lcmp x w = -1 := by
  rcases lcmp_tri x w with h | h | h <;> rw [h] <;> decide
theorem C_add (h : CS L st S) (d : Int32) (v : Int64) : ∃ st', f_X10_add 2 d v st = some (some (.int (a_addC S d v).1), st') ∧ CS L st' (a_addC S d v).2 ∧ onC st st' := by
  unfold a_addC
  rcases isD_cases d with hd | ⟨k, hd, rfl⟩
  · rw [withD_no hd]
    exact ⟨st, by rw [e_X10_add_0, rc_ok (sh2 h), cD_no hd, ri_ok, if_pos rfl], h, onC_rfl⟩
  · rw [withD_n hd]
    have h00 : (0 : Int64).toInt = 0 := rfl
    have h11 : (1000000000000 : Int64).toInt = 1000000000000 := rfl
    rcases out_cases v with hv | ⟨n, hn, rfl⟩
    · rw [if_neg hv]
      refine ⟨st, ?_, h, onC_rfl⟩
      rw [e_X10_add_0, rc_ok (sh2 h), cD_ok hd, ri_ok, if_neg (by decide)]
      by_cases hlt : v < 0
      · rw [if_pos ((lg_cmp_lt _ _).mpr hlt)]
      · rw [if_neg (fun q => hlt ((lg_cmp_lt _ _).mp q)), if_neg]
        intro q
        have hle : ¬ (1000000000000 : Int64) < v := fun z => absurd ((lg_cmp_gt _ _).mpr z) (Int32.not_lt.mpr q)
        rw [Int64.lt_iff_toInt_lt] at hlt hle
        rw [h00] at hlt
        rw [h11] at hle
        exact hv ⟨by omega, by omega⟩
    · rw [if_pos (isOut_n hn), pk_lT (by omega), Int.toNat_natCast]
      have hlt : ¬ lN n < 0 := fun q => by rw [Int64.lt_iff_toInt_lt, pk_lT (by omega), h00] at q; omega
      have hle : ¬ (1000000000000 : Int64) < lN n := fun q => by rw [Int64.lt_iff_toInt_lt, pk_lT (by omega), h11] at q; omega
      obtain ⟨c, st', h1, h2, h3, h4, hc, -⟩ := take_ok h
      obtain ⟨o, ho, q0, q1, q2, q3, q4, q5⟩ := dic_rf h2 hd
      change dicC st' o (sD S k) (sO S k) at q5
      have hol := dO_lt ho
      have h9 := q5.1.2.2.2.2.2.2.2.2.1
      have h8 := q5.1.2.2.2.2.2.2.2.1
      have hwl := h3.2.2.2.2.2.2.2
      have e0 : f_X10_add 2 (nI k) (lN n) st = if sO S k = false then some (some (.int (-4)), st') else if 12 < (sW S).length then some (some (.int (-6)), st') else if lastOK (sD S k) (sW S) = false then some (some (.int (-5)), st') else L_X10_add_97 (lN n) c (o + 1) st' := by
        rw [e_X10_add_0, rc_ok (sh2 h), cD_ok hd, ri_ok, if_neg (by decide), if_neg (fun q => hlt ((lg_cmp_lt _ _).mp q)), if_pos (Int32.not_lt.mp (fun q => hle ((lg_cmp_gt _ _).mp q))), h1, rr_ok, gR_ok (sh2 h2), Option.bind_some, rf2_0 h2, q1, Option.bind_some, gI_ok q2, Option.bind_some, q5.2.1]
        by_cases hb : sO S k = false
        · rw [bi0 hb, if_pos hb]
        · rw [bi1 hb, if_neg hb, gI_ok h3.1, Option.bind_some, h3.2.2.2.1, nl 12]
          by_cases h12 : 12 < (sW S).length
          · rw [if_neg (by rw [c_le (by omega) (by omega)]; omega), if_pos h12]
          · rw [if_pos (by rw [c_le (by omega) (by omega)]; omega), if_neg h12, Option.bind_some, q1, Option.bind_some, gR_ok q2, Option.bind_some, q3, gI_ok q5.1.1, Option.bind_some, h8]
            show (if nI (sD S k).length ≤ nI 0 then _ else _) = _
            by_cases hD : (sD S k).length ≤ 0
            · have : sD S k = [] := List.eq_nil_of_length_eq_zero (by omega)
              rw [if_pos (by rw [c_le (by omega) (by omega)]; exact hD), this, lastOK_nil]
              rfl
            · have hg : (sD S k)[(sD S k).length - 1]? = some (sD S k)[(sD S k).length - 1] := List.getElem?_eq_getElem (by omega)
              rw [if_neg (by rw [c_le (by omega) (by omega)]; exact hD), Option.bind_some]
              show ab_ri (f_X7_compareWith (o + 1) (nI (sD S k).length - nI 1) c st') _ = _
              rw [a_sub (by omega), compareWith_ok q5.1 hg h3 (by omega), ri_ok]
              have hl := lastOK_some (w := sW S) hg
              by_cases hlc : lcmp ((sD S k)[(sD S k).length - 1]).1 (sW S) = -1
              · rw [if_pos (lcmp_ge.mpr hlc), if_neg (fun q => hl.mp q hlc)]
              · rw [if_neg (fun q => hlc (lcmp_ge.mp q)), if_pos (hl.mpr hlc)]
      rw [e0]
      unfold a_add0
      by_cases hb : sO S k = false
      · rw [if_pos hb, if_pos hb]; exact ⟨st', rfl, h2, h4⟩
      · rw [if_neg hb, if_neg hb]
        by_cases h12 : 12 < (sW S).length
        · rw [if_pos h12, if_pos h12]; exact ⟨st', rfl, h2, h4⟩
        · rw [if_neg h12, if_neg h12]
          by_cases hlo : lastOK (sD S k) (sW S) = false
          · rw [if_pos hlo, if_pos hlo]; exact ⟨st', rfl, h2, h4⟩
          · rw [if_neg hlo, if_neg hlo]
            have hq : (sH st')[c + 1]? = some (1, 4000) := h3.2.1
            by_cases h200 : (sD S k).length = 200
            · rw [if_pos h200]
              refine ⟨st', ?_, h2, h4⟩
              rw [e_X10_add_97, gR_ok h3.1, Option.bind_some, h3.2.2.1, gI_ok h3.1, Option.bind_some, h3.2.2.2.1, append_full q5.1 h200 hq, ri_ok, if_pos rfl]
            · rw [if_neg h200]
              obtain ⟨s2, a1, a2, a3⟩ := append_ok (f := 0) q5.1 (show (sD S k).length < 200 by omega) hq (by omega) (by omega) (x := sW S) (fun i s hs => ⟨by rw [Nat.zero_add]; exact h3.2.2.2.2.1 i s (by have := (List.getElem?_eq_some_iff.mp hs).1; omega) hs, h3.2.2.2.2.2.1 s (List.mem_of_getElem? hs)⟩) (by omega) (by omega) hn
              refine ⟨s2, ?_, ?_, onC_trans h4 (onC_up a3 (fun q hq => by omega))⟩
              · rw [e_X10_add_97, gR_ok h3.1, Option.bind_some, h3.2.2.1, gI_ok h3.1, Option.bind_some, h3.2.2.2.1]
                show ab_ri (f_X7_append (o + 1) (c + 1) (nI 0) (nI (sW S).length) (lN n) st') _ = _
                rw [a1, ri_ok, if_neg (by decide), gI_ok a2.1, Option.bind_some, a2.2.2.2.2.2.2.2.1]
                simp
              · refine CS_dic h2 hd q0 a3 (fun q hq => Or.inr (by omega)) ho ⟨a2, ?_, fun hb => by cases hb⟩
                rw [(a3.2.2 o (by omega)).1, q5.2.1, ts_nf hb]
theorem M_add (h : MS L st S) (d : Int32) (v : Int64) : ∃ st', f_X11_add 130 d v st = some (some (.int (a_addC S d v).1), st') ∧ MS L st' (a_addC S d v).2 ∧ onM st st' := by
  unfold a_addC
  rcases isD_cases d with hd | ⟨k, hd, rfl⟩
  · rw [withD_no hd]
    exact ⟨st, by rw [e_X11_add_0, rc_ok (sh130 h), mD_no hd, ri_ok, if_pos rfl], h, onM_rfl⟩
  · rw [withD_n hd]
    have h00 : (0 : Int64).toInt = 0 := rfl
    have h11 : (1000000000000 : Int64).toInt = 1000000000000 := rfl
    rcases out_cases v with hv | ⟨n, hn, rfl⟩
    · rw [if_neg hv]
      refine ⟨st, ?_, h, onM_rfl⟩
      rw [e_X11_add_0, rc_ok (sh130 h), mD_ok hd, ri_ok, if_neg (by decide), isIn_ok, h00, h11, if_neg hv, ri_ok, if_pos rfl]
    · have hvv := isOut_n hn
      rw [if_pos hvv]
      have hin : f_X11_isIn (lN n) (0 : Int64) (1000000000000 : Int64) st = some (some (.int 1), st) := by rw [isIn_ok, h00, h11, if_pos hvv]
      rw [pk_lT (by omega), Int.toNat_natCast]
      obtain ⟨h1, h2, h3, h4⟩ := forgetM_ok h
      generalize hst' : uI st 130 1 0 = st' at h1 h2 h3 h4
      have hM : isMd st' k (sD S k) := (h2.2.2.1 k hd).1
      have h9 := hM.2.1
      have hwl := h3.2
      have e0 : f_X11_add 130 (nI k) (lN n) st = if sO S k = false then some (some (.int (-4)), st') else if 12 < (sW S).length then some (some (.int (-6)), st') else if lastOK (sD S k) (sW S) = false then some (some (.int (-5)), st') else L_X11_add_79 130 (nI k) (lN n) (nI (sW S).length) st' := by
        rw [e_X11_add_0, rc_ok (sh130 h), mD_ok hd, ri_ok, if_neg (by decide), hin, ri_ok, if_neg (by decide), h1, ri_ok, ← Option.bind_assoc, mOpen2 h2 hd, Option.bind_some]
        change (if b01 (sO S k) = 0 then _ else _) = _
        by_cases hb : sO S k = false
        · rw [bi0 hb, if_pos hb]
        · rw [bi1 hb, if_neg hb, nl 12]
          by_cases h12 : 12 < (sW S).length
          · rw [if_neg (by rw [c_le (by omega) (by omega)]; omega), if_pos h12]
          · rw [if_pos (by rw [c_le (by omega) (by omega)]; omega), if_neg h12, ← Option.bind_assoc, mMany h2 hd, Option.bind_some]
            show (if nI (sD S k).length ≤ nI 0 then _ else _) = _
            by_cases hD : (sD S k).length ≤ 0
            · have : sD S k = [] := List.eq_nil_of_length_eq_zero (by omega)
              rw [if_pos (by rw [c_le (by omega) (by omega)]; exact hD), this, lastOK_nil]
              rfl
            · have hg : (sD S k)[(sD S k).length - 1]? = some (sD S k)[(sD S k).length - 1] := List.getElem?_eq_getElem (by omega)
              rw [if_neg (by rw [c_le (by omega) (by omega)]; exact hD), ← Option.bind_assoc, mMany h2 hd, Option.bind_some]
              show ab_ri (f_X11_compare 130 (nI k) (nI (sD S k).length - nI 1) (nI (sW S).length) st') _ = _
              obtain ⟨r, r1, r2, r3⟩ := compare_ok h2.1 hM (by omega) hg h3
              rw [a_sub (by omega), r1, ri_ok]
              have hl := lastOK_some (w := sW S) hg
              by_cases hlc : lcmp ((sD S k)[(sD S k).length - 1]).1 (sW S) = -1
              · rw [if_pos (r2.mpr hlc), if_neg (fun q => hl.mp q hlc)]
              · rw [if_neg (fun q => hlc (r2.mp q)), if_pos (hl.mpr hlc)]
      rw [e0]
      unfold a_add0
      by_cases hb : sO S k = false
      · rw [if_pos hb, if_pos hb]; exact ⟨st', rfl, h2, h4⟩
      · rw [if_neg hb, if_neg hb]
        by_cases h12 : 12 < (sW S).length
        · rw [if_pos h12, if_pos h12]; exact ⟨st', rfl, h2, h4⟩
        · rw [if_neg h12, if_neg h12]
          by_cases hlo : lastOK (sD S k) (sW S) = false
          · rw [if_pos hlo, if_pos hlo]; exact ⟨st', rfl, h2, h4⟩
          · rw [if_neg hlo, if_neg hlo]
            by_cases h200 : (sD S k).length = 200
            · rw [if_pos h200]
              refine ⟨st', ?_, h2, h4⟩
              rw [e_X11_add_79, ← Option.bind_assoc, mMany h2 hd, Option.bind_some]
              show (if nI (sD S k).length = nI 200 then _ else _) = _
              rw [h200, if_pos rfl]
            · rw [if_neg h200]
              obtain ⟨s2, a1, a2, a4, a3⟩ := appendM_ok (f := 0) (a := 131) h2.1 (show k < 6 by omega) hM (show (sD S k).length < 200 by omega) (Fx_sh h2.1 rfl) (by omega) (x := sW S) (fun i s hs => by rw [Nat.zero_add]; exact h3.1 i s hs) (by omega) (by omega) (by omega) (by omega) (v := n) (by omega)
              have hms : MS L s2 (setDic (setW S []) k (sD S k ++ [(sW S, n)]) true) := by
                obtain ⟨hF, g2, g3, g4, g5, g6, g7, g8⟩ := h2
                have e : ∀ q, ¬ (132 ≤ q ∧ q ≤ 135) → sI s2 q = sI st' q := fun q a => (a3.2.2 q a).1
                refine ⟨Fx_up hF a3, ⟨by rw [e 130 (by omega)]; exact g2.1, mRow_up g2.2 a3 (by omega)⟩, fun e' he => ?_, fun d hd => by rw [e 137 (by omega)]; exact g4 d hd, fun k hk => by rw [e 140 (by omega), e 141 (by omega), e 142 (by omega), e 143 (by omega)]; exact g5 k hk, ⟨by rw [e 130 (by omega)]; exact g6.1, fun k t hk => by rw [e 138 (by omega)]; exact g6.2 k t hk⟩, by rw [e 130 (by omega)]; exact g7, ⟨by rw [e 130 (by omega)]; exact g8.1, fun k s hk => by rw [e 139 (by omega)]; exact g8.2 k s hk⟩⟩
                show isMd s2 e' (up1 (sD S) k (sD S k ++ [(sW S, n)]) e') ∧ sI s2 136 e' = b01 (up1 (sO S) k true e')
                rw [e 136 (by omega)]
                by_cases hek : e' = k
                · subst hek
                  rw [up1_s, up1_s]
                  refine ⟨a2, ?_⟩
                  rw [(g3 e' he).2]
                  show b01 (sO S e') = _
                  rw [ts_nf hb]
                · rw [up1_o hek, up1_o hek]
                  exact ⟨a4 e' _ hek (g3 e' he).1, (g3 e' he).2⟩
              refine ⟨s2, ?_, hms, onM_trans h4 (onM_up a3 (fun q hq => by omega))⟩
              rw [e_X11_add_79, ← Option.bind_assoc, mMany h2 hd, Option.bind_some]
              show (if nI (sD S k).length = nI 200 then _ else _) = _
              rw [if_neg (by rw [c_eq (by omega) (by omega)]; exact h200), gR_ok (sh130 h2), Option.bind_some, Fx_rf h2.1 (v := 131) (by decide)]
              show ab_rv (f_X11_append 130 (nI k) 131 (nI 0) (nI (sW S).length) (lN n) st') _ = _
              rw [a1, rv_ok, ← Option.bind_assoc, mMany hms hd, Option.bind_some]
              show some (some (Value.int (nI (up1 (sD S) k (sD S k ++ [(sW S, n)]) k).length)), s2) = _
              rw [up1_s]
              simp
theorem srt_snoc {D : Dc} {w : List Nat} {n : Nat} (h : srt D) (hl : lastOK D w = true) : srt (D ++ [(w, n)]) := by
  intro i j x y hx hy hij
  have hj := lt_of_get hy
  rw [List.length_append, List.length_singleton] at hj
  rw [List.getElem?_append_left (by omega)] at hx
  by_cases hjD : j < D.length
  · rw [List.getElem?_append_left hjD] at hy
    exact h i j x y hx hy hij
  · rw [List.getElem?_append_right (by omega), show j - D.length = 0 by omega] at hy
    cases hy
    have hi := lt_of_get hx
    have hg : D[D.length - 1]? = some D[D.length - 1] := List.getElem?_eq_getElem (by omega)
    have h1 : lcmp (D[D.length - 1]).1 w = -1 := by
      unfold lastOK at hl
      rw [hg] at hl
      simpa using hl
    by_cases hi1 : i = D.length - 1
    · subst hi1
      rw [hg] at hx
      cases hx
      exact h1
    · exact lcmp_trans (h i (D.length - 1) x _ hx hg (by omega)) h1
theorem W_add (h : wfS S) (d : Int32) (v : Int64) : wfS (a_addC S d v).2 := by
  unfold a_addC
  rcases isD_cases d with hd | ⟨k, hd, rfl⟩
  · rw [withD_no hd]; exact h
  · rw [withD_n hd]
    split
    · unfold a_add0
      have hw := wf_W0 h
      split
      · exact hw
      · split
        · exact hw
        · split
          · exact hw
          · split
            · exact hw
            · rename_i hlo _
              exact wf_dic hw (srt_snoc (h.2.1 k hd) (ts_nf hlo))
    · exact h
end ADD2
