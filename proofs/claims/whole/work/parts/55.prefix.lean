/-! PREFIX: those that begin so -/
section PFX
variable {L : Nat} {st : ab_S} {S : Sg}
theorem lcmp_beg : ∀ {w x : List Nat} (y : List Nat), lcmp x w ≠ -1 → w.isPrefixOf x = false → lcmp (w ++ y) x = -1
  | [], x, y, _, h => by simp at h
  | a :: w, [], y, h, _ => by simp [lcmp] at h
  | a :: w, b :: x, y, h, h2 => by
    unfold lcmp at h ⊢
    rw [List.cons_append]
    dsimp only
    by_cases hab : a = b
    · subst hab
      rw [if_pos rfl] at h ⊢
      simp [List.isPrefixOf] at h2
      exact lcmp_beg y h h2
    · rw [if_neg (fun q => hab q.symm)] at h
      rw [if_neg hab]
      by_cases hlt : b < a
      · rw [if_pos hlt] at h; exact absurd rfl h
      · rw [if_pos (by omega)]
theorem pfx_nb {w x : List Nat} (h : w.isPrefixOf x = true) : lcmp x w ≠ -1 := by
  obtain ⟨y, rfl⟩ := List.isPrefixOf_iff_prefix.mp h
  intro q
  have : ∀ (w y : List Nat), lcmp (w ++ y) w ≠ -1 := by
    intro w
    induction w with
    | nil => intro y; cases y <;> simp [lcmp]
    | cons a w ih => intro y; simp only [List.cons_append, lcmp, if_true]; exact ih y
  exact this w y q
/-- does term t begin with w -/
def pf (w : List Nat) (D : Dc) (t : Nat) : Bool := match D[t]? with
  | some x => w.isPrefixOf x.1
  | none => false
theorem pf_some {w : List Nat} {D : Dc} {t : Nat} {x : List Nat × Nat} (h : D[t]? = some x) : pf w D t = w.isPrefixOf x.1 := by unfold pf; rw [h]
def pfx (w : List Nat) (D : Dc) : List Nat := (List.range D.length).filter (pf w D)
theorem pf_lo {w : List Nat} {D : Dc} (hs : srt D) {t : Nat} (h : t < bl w D) : pf w D t = false := by
  cases hx : D[t]? with
  | none => unfold pf; rw [hx]
  | some x =>
    rw [pf_some hx]
    cases hp : w.isPrefixOf x.1 with
    | false => rfl
    | true => exact absurd ((bl_iff hs hx).mpr h) (pfx_nb hp)
theorem pf_hi {w : List Nat} {D : Dc} (hs : srt D) {t u : Nat} (h : bl w D ≤ t) (ht : t < D.length) (hf : pf w D t = false) (hu : t < u) : pf w D u = false := by
  cases hx : D[u]? with
  | none => unfold pf; rw [hx]
  | some x =>
    have hg : D[t]? = some D[t] := List.getElem?_eq_getElem ht
    rw [pf_some hx]
    rw [pf_some hg] at hf
    cases hp : w.isPrefixOf x.1 with
    | false => rfl
    | true =>
      obtain ⟨y, hy⟩ := List.isPrefixOf_iff_prefix.mp hp
      have h1 := lcmp_beg y (fun q => by have := (bl_iff hs hg).mp q; omega) hf
      rw [hy] at h1
      have h2 := hs t u _ _ hg hx hu
      have h3 := lcmp_trans h1 h2
      rw [lcmp_self] at h3
      cases h3
theorem filt_succ {p : Nat → Bool} {t : Nat} : (List.range (t + 1)).filter p = (List.range t).filter p ++ (if p t = true then [t] else []) := by
  rw [List.range_succ, List.filter_append]
  congr 1
  by_cases h : p t = true <;> simp [h]
theorem filt_nil {p : Nat → Bool} {t : Nat} (h : ∀ u, u < t → p u = false) : (List.range t).filter p = [] := by
  rw [List.filter_eq_nil_iff]
  intro u hu
  rw [h u (List.mem_range.mp hu)]
  decide
theorem filt_stop {p : Nat → Bool} {t n : Nat} (hn : t ≤ n) (h : ∀ u, t ≤ u → u < n → p u = false) : (List.range n).filter p = (List.range t).filter p := by
  induction n with
  | zero => rw [show t = 0 by omega]
  | succ n ih =>
    by_cases htn : t = n + 1
    · rw [htn]
    · rw [filt_succ, ih (by omega) (fun u h1 h2 => h u h1 (by omega)), h n (by omega) (by omega)]
      simp
theorem filt_le {p : Nat → Bool} {t : Nat} : ((List.range t).filter p).length ≤ t := by
  have := List.length_filter_le p (List.range t)
  rwa [List.length_range] at this
theorem filt_lt {p : Nat → Bool} {t : Nat} : ∀ u ∈ (List.range t).filter p, u < t := fun u hu => List.mem_range.mp (List.mem_filter.mp hu).1
def setM (S : Sg) (m : List Nat) : Sg := (sW S, sD S, sO S, sA S, sK S, m, S.2.2.2.2.2.2)
theorem setM_M {m : List Nat} : sM (setM S m) = m := rfl
theorem wf_M (h : wfS S) {m : List Nat} (h1 : m.length ≤ 200) (h2 : ∀ t ∈ m, t < 200) : wfS (setM S m) := by
  obtain ⟨a1, a2, a3, a4, a5⟩ := h
  exact ⟨a1, a2, h1, h2, a5⟩
theorem CS_M (h : CS L st S) {st' : ab_S} {m : List Nat} (hu : upto (fun q => q = 2 ∨ q = 61) st st') (h10 : sI st' 2 10 = nI m.length) (h11 : sI st' 2 11 = sI st 2 11) (hm : ∀ k t, m[k]? = some t → sI st' 61 k = nI t) : CS L st' (setM S m) := by
  obtain ⟨hF, h2, h3, h4, h5, h6, h7, h8, w, h9⟩ := h
  exact ⟨Fx_up hF hu, ccol_up h2 hu (fun q _ _ => by omega), cdic_up h3 hu (fun q _ _ => by omega), fun d hd => by rw [(hu.2.2 4 (by omega)).1]; exact h4 d hd, cwk_up h5 hu (fun q _ _ => by omega), ⟨h10, hm⟩, by rw [h11]; exact h7, isSg_up h8 hu (by omega) (by omega), w, isSg_up h9 hu (by omega) (by omega)⟩
theorem clearF_ok (h : CS L st S) : ab_pI st 2 10 10 (0 : Int32) = some (uI st 2 10 0) ∧ CS L (uI st 2 10 0) (setM S []) ∧ upto (fun q => q = 2 ∨ q = 61) st (uI st 2 10 0) := by
  have hu : upto (fun q => q = 2 ∨ q = 61) st (uI st 2 10 0) := upto_uI (Or.inl rfl)
  exact ⟨pI_ok (sh2 h), CS_M h hu (by simp [I_uI]; rfl) (by simp [I_uI]) (fun k t hk => by simp at hk), hu⟩
theorem putFound_ok (h : CS L st S) (hl : (sM S).length < 200) (t : Nat) : ∃ st', f_X10_putFound 2 (nI t) st = some (none, st') ∧ CS L st' (setM S (sM S ++ [t])) ∧ upto (fun q => q = 2 ∨ q = 61) st st' := by
  obtain ⟨g1, g2⟩ := h.2.2.2.2.2.1
  let s4 := uI st 61 (sM S).length (nI t)
  let s6 := uI s4 2 10 (nI (sM S).length + 1)
  have hu : upto (fun q => q = 2 ∨ q = 61) st s6 := upto_trans (upto_uI (Or.inr rfl)) (upto_uI (Or.inl rfl))
  have f4 : (sH s4)[2]? = some (0, 10) := Fx_sh h.1 (o := 2) rfl
  have e4 : sI s4 2 10 = nI (sM S).length := by
    show sI (uI st 61 (sM S).length (nI t)) 2 10 = _
    rw [I_uI, if_neg (fun z => by omega)]; exact g1
  refine ⟨s6, ?_, CS_M h hu ?_ ?_ (fun k u hk => ?_), hu⟩
  · rw [e_X10_putFound_0, rc_ok (sh2 h), gI_ok (sh2 h), Option.bind_some, g1, nl 200, if_neg (by rw [c_le (by omega) (by omega)]; omega), gR_ok (sh2 h), Option.bind_some, Fx_rf h.1 (v := 61) (by decide), Option.bind_some, wI_ok (Fx_sh h.1 (o := 61) rfl) (by omega) (by omega), Option.bind_some]
    show Option.bind (ab_gI s4 2 10 10) _ = _
    rw [gI_ok f4, Option.bind_some, e4]
    show Option.bind (ab_pI s4 2 10 10 (nI (sM S).length + 1)) _ = _
    rw [pI_ok f4, Option.bind_some]
  · show sI (uI s4 2 10 (nI (sM S).length + 1)) 2 10 = _
    rw [I_uI, if_pos ⟨rfl, rfl⟩, nI_1]; simp
  · show sI (uI s4 2 10 (nI (sM S).length + 1)) 2 11 = _
    rw [I_uI, if_neg (fun z => by omega)]
    show sI (uI st 61 (sM S).length (nI t)) 2 11 = _
    rw [I_uI, if_neg (fun z => by omega)]
  · show sI (uI s4 2 10 (nI (sM S).length + 1)) 61 k = _
    rw [I_uI, if_neg (fun z => by omega)]
    show sI (uI st 61 (sM S).length (nI t)) 61 k = _
    rw [I_uI]
    have hkl := (List.getElem?_eq_some_iff.mp hk).1
    rw [List.length_append, List.length_singleton] at hkl
    by_cases hk2 : k = (sM S).length
    · rw [if_pos ⟨rfl, hk2⟩]
      rw [hk2, List.getElem?_append_right (Nat.le_refl _), Nat.sub_self] at hk
      cases hk; rfl
    · rw [if_neg (fun z => hk2 z.2)]
      rw [List.getElem?_append_left (by omega)] at hk
      exact g2 k u hk
def a_prefix (S : Sg) (d : Int32) : Int32 × Sg := withD d (-2, S) fun k => if sO S k = false then (nI (pfx (sW S) (sD S k)).length, setM (setW S []) (pfx (sW S) (sD S k))) else (-4, setW S [])
theorem CS_tm (h : CS L st S) {k : Nat} (hd : k < 4) : ∃ o, o ∈ dO ∧ sR st 3 k = o ∧ isTm st (o + 1) (sD S k) := by
  obtain ⟨o, ho, q0, q1, q2, q3, q4, q5⟩ := dic_rf h hd
  exact ⟨o, ho, q0, q5.1⟩
theorem C_prefix (h : CS L st S) (hwf : wfS S) (d : Int32) : ∃ st', f_X10_prefix 2 d st = some (some (.int (a_prefix S d).1), st') ∧ CS L st' (a_prefix S d).2 ∧ onC st st' := by
  unfold a_prefix
  rcases isD_cases d with hd | ⟨k, hd, rfl⟩
  · rw [withD_no hd]
    exact ⟨st, by rw [e_X10_prefix_0, rc_ok (sh2 h), cD_no hd, ri_ok, if_pos rfl], h, onC_rfl⟩
  · rw [withD_n hd]
    have hK : ∀ r : Int32 × Sg, (∃ st', f_X10_keepBeginning 2 (nI k) 200 0 st = some (some (.int r.1), st') ∧ CS L st' r.2 ∧ onC st st') → ∃ st', f_X10_prefix 2 (nI k) st = some (some (.int r.1), st') ∧ CS L st' r.2 ∧ onC st st' := by
      rintro r ⟨st', k1, k2, k3⟩
      exact ⟨st', by rw [e_X10_prefix_0, rc_ok (sh2 h), cD_ok hd, ri_ok, if_neg (by decide), k1, ri_ok], k2, k3⟩
    refine hK _ ?_
    obtain ⟨c, st', h1, h2, h3, h4, hc, -⟩ := take_ok h
    obtain ⟨o, ho, q1, q2, q3, q4, q5⟩ := dic_at h2 hd
    change dicC st' o (sD S k) (sO S k) at q5
    have hol := dO_lt ho
    rw [e_X10_keepBeginning_0, rc_ok (sh2 h), h1, rr_ok, gR_ok (sh2 h2), Option.bind_some, rf2_0 h2, q1, Option.bind_some, gI_ok q2, Option.bind_some, q5.2.1]
    by_cases hb : sO S k = false
    · have hs := hwf.2.1 k hd
      have hbl := bl_le (sW S) (sD S k)
      have h9 := q5.1.2.2.2.2.2.2.2.2.1
      obtain ⟨c1, c2, c3⟩ := clearF_ok h2
      have key : ∀ j t st1, (sD S k).length - t = j → bl (sW S) (sD S k) ≤ t → t ≤ (sD S k).length → CS L st1 (setM (setW S []) ((List.range t).filter (pf (sW S) (sD S k)))) → isSg st1 c 4000 (sW S) → isTm st1 (o + 1) (sD S k) → onC st st1 → ∃ st', L_X10_keepBeginning_50 2 200 0 c (o + 1) (nI t) st1 = some (some (.int (nI (pfx (sW S) (sD S k)).length)), st') ∧ CS L st' (setM (setW S []) (pfx (sW S) (sD S k))) ∧ onC st st' := by
        have fin : ∀ t st1, (List.range t).filter (pf (sW S) (sD S k)) = pfx (sW S) (sD S k) → CS L st1 (setM (setW S []) ((List.range t).filter (pf (sW S) (sD S k)))) → onC st st1 → ∃ st', L_X10_keepBeginning_100 2 st1 = some (some (.int (nI (pfx (sW S) (sD S k)).length)), st') ∧ CS L st' (setM (setW S []) (pfx (sW S) (sD S k))) ∧ onC st st' := by
          intro t st1 he hC hon
          rw [he] at hC
          refine ⟨st1, ?_, hC, hon⟩
          rw [e_X10_keepBeginning_100, gI_ok (sh2 hC), Option.bind_some, hC.2.2.2.2.2.1.1]
          rfl
        intro j
        induction j with
        | zero =>
          intro t st1 hj ht1 ht2 hC hS hT hon
          have : t = (sD S k).length := by omega
          rw [e_X10_keepBeginning_50, gI_ok hT.1, Option.bind_some, hT.2.2.2.2.2.2.2.1, if_pos (by rw [c_le (by omega) (by omega)]; omega)]
          exact fin t st1 (by rw [this]; rfl) hC hon
        | succ j ih =>
          intro t st1 hj ht1 ht2 hC hS hT hon
          have hg : (sD S k)[t]? = some (sD S k)[t] := List.getElem?_eq_getElem (by omega)
          rw [e_X10_keepBeginning_50, gI_ok hT.1, Option.bind_some, hT.2.2.2.2.2.2.2.1, if_neg (by rw [c_le (by omega) (by omega)]; omega), beginsWith_ok hT hg hS (by omega), ri_ok]
          have hp := pf_some (w := sW S) hg
          cases hb : (sW S).isPrefixOf ((sD S k)[t]).1 with
          | false =>
            rw [hb] at hp
            rw [if_pos (by simp)]
            exact fin t st1 (filt_stop ht2 (fun u h1 h2 => by
              by_cases hut : u = t
              · rw [hut]; exact hp
              · exact pf_hi hs ht1 (by omega) hp (by omega))).symm hC hon
          | true =>
            rw [hb] at hp
            have hle := filt_le (p := pf (sW S) (sD S k)) (t := t)
            obtain ⟨st2, p1, p2, p3⟩ := putFound_ok hC (by rw [setM_M]; omega) t
            rw [if_neg (by simp), if_pos rfl, p1, rv_ok, e_X10_keepBeginning_94, nI_1]
            have hC2 : CS L st2 (setM (setW S []) ((List.range (t + 1)).filter (pf (sW S) (sD S k)))) := by
              rw [filt_succ, if_pos hp]; exact p2
            exact ih (t + 1) st2 (by omega) (by omega) (by omega) hC2 (isSg_up hS p3 (by omega) (by omega)) (isTm_up hT p3 (by omega) (by omega) (by omega) (by omega)) (onC_trans hon (onC_up p3 (fun q hq => by omega)))
      have h3' := isSg_up h3 c3 (by omega) (by omega)
      have hT' := isTm_up q5.1 c3 (by omega) (by omega) (by omega) (by omega)
      rw [bi0 hb, if_pos hb, Option.bind_some, q1, Option.bind_some, gR_ok q2, Option.bind_some, q3, c1, Option.bind_some, leastNotBelow_ok hT' hs h3' (by omega), ri_ok]
      exact key _ _ _ rfl (Nat.le_refl _) hbl (by rw [filt_nil (fun u hu => pf_lo hs hu)]; exact c2) h3' hT' (onC_trans h4 (onC_up c3 (fun q hq => by omega)))
    · rw [bi1 hb, if_neg hb]
      exact ⟨st', rfl, h2, h4⟩
-- the model
theorem MS_M (h : MS L st S) {st' : ab_S} {m : List Nat} (hu : upto (fun q => q = 130 ∨ q = 138) st st') (h9 : sI st' 130 9 = nI m.length) (ho : ∀ k, k ≠ 9 → sI st' 130 k = sI st 130 k) (hm : ∀ k t, m[k]? = some t → sI st' 138 k = nI t) : MS L st' (setM S m) := by
  obtain ⟨hF, g2, g3, g4, g5, g6, g7, g8⟩ := h
  have e : ∀ q, ¬ (q = 130 ∨ q = 138) → sI st' q = sI st q := fun q a => (hu.2.2 q a).1
  exact ⟨Fx_up hF hu, ⟨by rw [ho 1 (by decide)]; exact g2.1, mRow_up g2.2 hu (by omega)⟩, fun d hd => ⟨isMd_up (g3 d hd).1 hu (by omega) (by omega) (by omega) (by omega), by rw [e 136 (by omega)]; exact (g3 d hd).2⟩, fun d hd => by rw [e 137 (by omega)]; exact g4 d hd, fun k hk => by rw [e 140 (by omega), e 141 (by omega), e 142 (by omega), e 143 (by omega)]; exact g5 k hk, ⟨h9, hm⟩, by rw [ho 10 (by decide)]; exact g7, ⟨by rw [ho 12 (by decide)]; exact g8.1, fun k s hk => by rw [e 139 (by omega)]; exact g8.2 k s hk⟩⟩
theorem clearM_ok (h : MS L st S) : ab_pI st 130 11 9 (0 : Int32) = some (uI st 130 9 0) ∧ MS L (uI st 130 9 0) (setM S []) ∧ upto (fun q => q = 130 ∨ q = 138) st (uI st 130 9 0) := by
  have hu : upto (fun q => q = 130 ∨ q = 138) st (uI st 130 9 0) := upto_uI (Or.inl rfl)
  exact ⟨pI_ok (sh130 h), MS_M h hu (by simp [I_uI]; rfl) (fun k hk => by simp [I_uI, hk]) (fun k t hk => by simp at hk), hu⟩
theorem pushM_ok (h : MS L st S) (hl : (sM S).length < 200) (t : Nat) : ∃ st', (∀ K : ab_S → Option ab_R, (Option.bind (ab_gR st 130 11 8) fun x5 => Option.bind (ab_gI st 130 11 9) fun x6 => Option.bind (ab_wI st x5 x6 (nI t)) fun s7 => Option.bind (ab_gI s7 130 11 9) fun x8 => Option.bind (ab_pI s7 130 11 9 (x8 + (1 : Int32))) fun s9 => K s9) = K st') ∧ MS L st' (setM S (sM S ++ [t])) ∧ upto (fun q => q = 130 ∨ q = 138) st st' := by
  obtain ⟨g1, g2⟩ := h.2.2.2.2.2.1
  let s4 := uI st 138 (sM S).length (nI t)
  let s6 := uI s4 130 9 (nI (sM S).length + 1)
  have hu : upto (fun q => q = 130 ∨ q = 138) st s6 := upto_trans (upto_uI (Or.inr rfl)) (upto_uI (Or.inl rfl))
  have f4 : (sH s4)[130]? = some (0, 11) := Fx_sh h.1 (o := 130) rfl
  have e4 : ∀ k, sI s4 130 k = sI st 130 k := fun k => by
    show sI (uI st 138 (sM S).length (nI t)) 130 k = _
    rw [I_uI, if_neg (fun z => by omega)]
  refine ⟨s6, fun K => ?_, MS_M h hu ?_ (fun k hk => ?_) (fun k u hk => ?_), hu⟩
  · rw [gR_ok (sh130 h), Option.bind_some, Fx_rf h.1 (v := 138) (by decide), gI_ok (sh130 h), Option.bind_some, g1, wI_ok (Fx_sh h.1 (o := 138) rfl) (by omega) (by omega), Option.bind_some]
    show Option.bind (ab_gI s4 130 11 9) _ = _
    rw [gI_ok f4, Option.bind_some, e4, g1]
    show Option.bind (ab_pI s4 130 11 9 (nI (sM S).length + 1)) _ = _
    rw [pI_ok f4, Option.bind_some]
  · show sI (uI s4 130 9 (nI (sM S).length + 1)) 130 9 = _
    rw [I_uI, if_pos ⟨rfl, rfl⟩, nI_1]; simp
  · show sI (uI s4 130 9 (nI (sM S).length + 1)) 130 k = _
    rw [I_uI, if_neg (fun z => hk z.2), e4]
  · show sI (uI s4 130 9 (nI (sM S).length + 1)) 138 k = _
    rw [I_uI, if_neg (fun z => by omega)]
    show sI (uI st 138 (sM S).length (nI t)) 138 k = _
    rw [I_uI]
    have hkl := (List.getElem?_eq_some_iff.mp hk).1
    rw [List.length_append, List.length_singleton] at hkl
    by_cases hk2 : k = (sM S).length
    · rw [if_pos ⟨rfl, hk2⟩]
      rw [hk2, List.getElem?_append_right (Nat.le_refl _), Nat.sub_self] at hk
      cases hk; rfl
    · rw [if_neg (fun z => hk2 z.2)]
      rw [List.getElem?_append_left (by omega)] at hk
      exact g2 k u hk
theorem isBeg_ok (hF : Fx L st) {d : Nat} {D : Dc} {w : List Nat} (h : isMd st d D) (hd : d < 6) {t : Nat} {x : List Nat × Nat} (hx : D[t]? = some x) (hw : mRow st w) : f_X11_isBeginning 130 (nI d) (nI t) (nI w.length) st = some (some (.int (if w.isPrefixOf x.1 then 1 else 0)), st) := by
  have hl := lt_of_get hx
  have h2 := h.2.1
  have hwl := hw.2
  obtain ⟨b1, b2, b3, b4, b5⟩ := h.2.2 t x hx
  have e1 : ((200 : Int32) * nI d + nI t) = nI (200 * d + t) := by rw [nl 200, a_mul, a_add]
  have k0 : ∀ i, L_X11_isBeginning_26 130 (nI d) (nI t) (nI w.length) 0 i st = some (some (.int 0), st) := fun i => by
    rw [e_X11_isBeginning_26, if_pos rfl, z_0]
    simp
  rw [e_X11_isBeginning_0, rc_ok (Fx_sh hF rfl), gR_ok (Fx_sh hF rfl), Option.bind_some, Fx_rf hF (v := 133) (by decide), e1, rI_ok (Fx_sh hF (o := 133) rfl) (by omega) (by omega), Option.bind_some, b1, e_X11_isBeginning_21, e_X11_isBeginning_21, k0]
  by_cases hlen : x.1.length < w.length
  · rw [if_pos (by rw [c_lt (by omega) (by omega)]; exact hlen)]
    have hno : w.isPrefixOf x.1 = false := by
      cases hp : w.isPrefixOf x.1 with
      | false => rfl
      | true =>
        have := List.IsPrefix.length_le (List.isPrefixOf_iff_prefix.mp hp)
        omega
    rw [hno]; rfl
  · rw [if_neg (by rw [c_lt (by omega) (by omega)]; exact hlen)]
    have key : ∀ j i, w.length - i = j → i ≤ w.length → L_X11_isBeginning_26 130 (nI d) (nI t) (nI w.length) 1 (nI i) st = some (some (.int (if (w.drop i).isPrefixOf (x.1.drop i) then 1 else 0)), st) := by
      intro j
      induction j with
      | zero =>
        intro i hj hi
        rw [e_X11_isBeginning_26, if_pos (by rw [c_le (by omega) (by omega)]; omega), z_1, List.drop_eq_nil_of_le (by omega)]
        simp [List.isPrefixOf]
      | succ j ih =>
        intro i hj hi
        have hg : w[i]? = some w[i] := List.getElem?_eq_getElem (by omega)
        have hg2 : x.1[i]? = some x.1[i] := List.getElem?_eq_getElem (by omega)
        obtain ⟨hr1, hr2⟩ := hw.1 i _ hg
        have hs2 := (b3 i _ hg2).2
        rw [e_X11_isBeginning_26, if_neg (by rw [c_le (by omega) (by omega)]; omega), if_neg (by decide), letter_ok hF h hd hx hg2, ri_ok, gR_ok (Fx_sh hF rfl), Option.bind_some, Fx_rf hF (v := 131) (by decide), rB_ok (Fx_sh hF (o := 131) rfl) (by omega) (by omega), Option.bind_some, hr1, by8_and _ hr2, e_X11_isBeginning_64, e_X11_isBeginning_64, nI_1, ih (i + 1) (by omega) (by omega), k0, drop_some hg, drop_some hg2]
        generalize w[i] = u at hr2
        generalize x.1[i] = v at hs2
        by_cases huv : v = u
        · subst huv
          rw [if_pos rfl]
          simp [List.isPrefixOf]
        · rw [if_neg (by rw [c_eq (by omega) (by omega)]; exact huv)]
          have : ¬ (u = v) := fun q => huv q.symm
          simp [List.isPrefixOf, this]
    have := key _ 0 rfl (by omega)
    rw [List.drop_zero, List.drop_zero] at this
    exact this
theorem gather_ok (h : MS L st S) {d : Nat} (hd : d < 4) {w : List Nat} (hw : mRow st w) : ∃ st', f_X11_gather 130 (nI d) (nI w.length) st = some (none, st') ∧ MS L st' (setM S (pfx w (sD S d))) ∧ onM st st' := by
  obtain ⟨c1, c2, c3⟩ := clearM_ok h
  have key : ∀ j t st1, (sD S d).length - t = j → t ≤ (sD S d).length → MS L st1 (setM S ((List.range t).filter (pf w (sD S d)))) → mRow st1 w → onM st st1 → ∃ st', L_X11_gather_7 130 (nI d) (nI w.length) (nI t) st1 = some (none, st') ∧ MS L st' (setM S (pfx w (sD S d))) ∧ onM st st' := by
    intro j
    induction j with
    | zero =>
      intro t st1 hj ht hM hw1 hon
      have : t = (sD S d).length := by omega
      have h2 := (hM.2.2.1 d hd).1.2.1
      change (sD S d).length ≤ 200 at h2
      refine ⟨st1, ?_, by rw [this] at hM; exact hM, hon⟩
      rw [e_X11_gather_7, ← Option.bind_assoc, mMany hM hd, Option.bind_some]
      change (if nI (sD S d).length ≤ nI t then _ else _) = _
      rw [if_pos (by rw [c_le (by omega) (by omega)]; omega)]
    | succ j ih =>
      intro t st1 hj ht hM hw1 hon
      have hD : isMd st1 d (sD S d) := (hM.2.2.1 d hd).1
      have h2 := hD.2.1
      have hg : (sD S d)[t]? = some (sD S d)[t] := List.getElem?_eq_getElem (by omega)
      rw [e_X11_gather_7, ← Option.bind_assoc, mMany hM hd, Option.bind_some]
      change ∃ st', (if nI (sD S d).length ≤ nI t then _ else _) = _ ∧ _
      rw [if_neg (by rw [c_le (by omega) (by omega)]; omega), isBeg_ok hM.1 hD (by omega) hg hw1, ri_ok]
      have hp := pf_some (w := w) hg
      cases hb : w.isPrefixOf ((sD S d)[t]).1 with
      | false =>
        rw [hb] at hp
        rw [if_pos (by simp), e_X11_gather_47, nI_1]
        exact ih (t + 1) st1 (by omega) (by omega) (by rw [filt_succ, hp]; simpa using hM) hw1 hon
      | true =>
        rw [hb] at hp
        have hle := filt_le (p := pf w (sD S d)) (t := t)
        obtain ⟨st2, p1, p2, p3⟩ := pushM_ok hM (by rw [setM_M]; omega) t
        rw [if_neg (by simp), p1, e_X11_gather_47, nI_1]
        exact ih (t + 1) st2 (by omega) (by omega) (by rw [filt_succ, if_pos hp]; exact p2) (mRow_up hw1 p3 (by omega)) (onM_trans hon (onM_up p3 (fun q hq => by omega)))
  rw [e_X11_gather_0, rc_ok (sh130 h), c1, Option.bind_some]
  exact key _ 0 _ rfl (by omega) c2 (mRow_up hw c3 (by omega)) (onM_up c3 (fun q hq => by omega))
theorem M_prefix (h : MS L st S) (d : Int32) : ∃ st', f_X11_prefix 130 d st = some (some (.int (a_prefix S d).1), st') ∧ MS L st' (a_prefix S d).2 ∧ onM st st' := by
  unfold a_prefix
  rcases isD_cases d with hd | ⟨k, hd, rfl⟩
  · rw [withD_no hd]
    exact ⟨st, by rw [e_X11_prefix_0, rc_ok (sh130 h), mD_no hd, ri_ok, if_pos rfl], h, onM_rfl⟩
  · rw [withD_n hd]
    obtain ⟨h1, h2, h3, h4⟩ := forgetM_ok h
    rw [e_X11_prefix_0, rc_ok (sh130 h), mD_ok hd, ri_ok, if_neg (by decide), h1, ri_ok, ← Option.bind_assoc, mOpen2 h2 hd, Option.bind_some]
    change ∃ st', (if b01 (sO S k) = 0 then _ else _) = _ ∧ _
    by_cases hb : sO S k = false
    · obtain ⟨st2, g1, g2, g3⟩ := gather_ok h2 hd h3
      rw [bi0 hb, if_pos hb, g1, rv_ok, gI_ok (sh130 g2), Option.bind_some, g2.2.2.2.2.2.1.1]
      exact ⟨st2, rfl, g2, onM_trans h4 g3⟩
    · rw [bi1 hb, if_neg hb]
      exact ⟨_, rfl, h2, h4⟩
theorem pfx_len {w : List Nat} {D : Dc} : (pfx w D).length ≤ D.length := filt_le
theorem W_prefix (h : wfS S) (hl : ∀ k, k < 4 → (sD S k).length ≤ 200) (d : Int32) : wfS (a_prefix S d).2 := by
  unfold a_prefix
  rcases isD_cases d with hd | ⟨k, hd, rfl⟩
  · rw [withD_no hd]; exact h
  · rw [withD_n hd]
    have := hl k hd
    split
    · exact wf_M (wf_W0 h) (Nat.le_trans pfx_len this) (fun t ht => Nat.lt_of_lt_of_le (filt_lt t ht) this)
    · exact wf_W0 h
end PFX
