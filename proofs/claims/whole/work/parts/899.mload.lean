/-! THE MODEL'S LOAD -/
theorem GOODM_mach {D : Dc} (h : okD D) : GOODM (mzr (mach D)).2.2 (mzr (mach D)).1 := by
  obtain ⟨g1, g2, g3⟩ := GOOD_mach h
  have e := ldL_mz h
  unfold ldL at e
  refine ⟨fun n hn => ⟨(g1 n hn).2.1, (g1 n hn).2.2⟩, g2, g3, ?_⟩
  rw [e]
  exact h.1
section MLOAD
variable {L : Nat} {st : ab_S} {S : Sg}
theorem spell_ok {M : MM} (hF : Fx L st) (hQ : mqF st M.2.2) (h1 : 1 ≤ M.2.2.length) (hl : M.1 ≤ UV) : ∃ st', upto onS st st' ∧ (∀ e E, e < 4 → isMd st e E → isMd st' e E) ∧ ((f_X11_spell 130 (lN M.1) st = some (some (.int 1), st') ∧ isMd st' 4 (ldL M) ∧ srt (ldL M) ∧ ∀ x ∈ ldL M, x.2 ≤ 1000000000000) ∨ (f_X11_spell 130 (lN M.1) st = some (some (.int 0), st') ∧ ¬ GOODM M.2.2 M.1)) := by
  have hX : FX st := ⟨L, hF⟩
  let s1 := uI st 135 4 0
  let s2 := uI s1 169 0 0
  let s3 := uI s2 170 0 (nI (aB M.2.2 0))
  let s4 := uJ s3 171 0 (lN M.1)
  have X1 : FX s1 := hX
  have X2 : FX s2 := hX
  have X3 : FX s3 := hX
  have u4 : upto onS st s4 := upto_trans (upto_uI (by unfold onS; omega)) (upto_trans (upto_uI (by unfold onS; omega)) (upto_trans (upto_uI (by unfold onS; omega)) (upto_uJ (by unfold onS; omega))))
  have F4 := Fx_up hF u4
  have Q4 := mqF_up hQ u4 (fun q hq => hq)
  have e135 : ∀ j, sI s4 135 j = if j = 4 then 0 else sI st 135 j := by
    intro j
    show sI (uJ (uI (uI (uI st 135 4 0) 169 0 0) 170 0 (nI (aB M.2.2 0))) 171 0 (lN M.1)) 135 j = _
    simp [I_uI, I_uJ]
  have eI : ∀ q j, q ≠ 135 → q ≠ 169 → q ≠ 170 → sI s4 q j = sI st q j := by
    intro q j n1 n2 n3
    show sI (uJ (uI (uI (uI st 135 4 0) 169 0 0) 170 0 (nI (aB M.2.2 0))) 171 0 (lN M.1)) q j = _
    rw [I_uJ, I_uI, if_neg (fun z => n3 z.1), I_uI, if_neg (fun z => n2 z.1), I_uI, if_neg (fun z => n1 z.1)]
  have eJ : ∀ q j, q ≠ 171 → sJ s4 q j = sJ st q j := by
    intro q j n1
    show sJ (uJ (uI (uI (uI st 135 4 0) 169 0 0) 170 0 (nI (aB M.2.2 0))) 171 0 (lN M.1)) q j = _
    rw [J_uJ, if_neg (fun z => n1 z.1), J_uI, J_uI, J_uI]
  have D4 : isMd s4 4 [] := ⟨by rw [e135, if_pos rfl]; rfl, by simp, fun t x hx => by simp at hx⟩
  have same4 : ∀ e E, e ≠ 4 → isMd st e E → isMd s4 e E := by
    intro e E he h
    refine ⟨by rw [e135, if_neg he]; exact h.1, h.2.1, fun t x hx => ?_⟩
    obtain ⟨b1, b2, b3, b4, b5⟩ := h.2.2 t x hx
    exact ⟨by rw [eI 133 _ (by omega) (by omega) (by omega)]; exact b1, b2, fun k s hk => by rw [eI 132 _ (by omega) (by omega) (by omega)]; exact b3 k s hk, by rw [eJ 134 _ (by omega)]; exact b4, b5⟩
  have K4 : stkM s4 M.2.2 (fun _ => 0) (fun _ => 0) (fun _ => M.1) [] := by
    refine ⟨fun j hj => ?_, fun j c hj => by simp at hj, by simp⟩
    have hj0 : j = 0 := by simpa using hj
    subst hj0
    refine ⟨?_, ?_, ?_, by show 0 < M.2.2.length; omega, Nat.zero_le _, by rw [Nat.zero_add, Nat.one_mul]; exact hl⟩
    · show sI (uJ (uI (uI (uI st 135 4 0) 169 0 0) 170 0 (nI (aB M.2.2 0))) 171 0 (lN M.1)) 169 0 = _
      simp [I_uI, I_uJ]; rfl
    · show sI (uJ (uI (uI (uI st 135 4 0) 169 0 0) 170 0 (nI (aB M.2.2 0))) 171 0 (lN M.1)) 170 0 = _
      simp [I_uI, I_uJ]
    · show sJ (uJ (uI (uI (uI st 135 4 0) 169 0 0) 170 0 (nI (aB M.2.2 0))) 171 0 (lN M.1)) 171 0 = _
      simp [J_uJ]
  obtain ⟨s5, b1, b2, b3⟩ := spell1_ok F4 Q4 D4 srt_nil K4
  have U5 : upto onS st s5 := upto_trans u4 (upto_mono b1 (fun q hq => Or.inl hq))
  have same5 : ∀ e E, e ≠ 4 → isMd st e E → isMd s5 e E := fun e E he h => b2 e E he (same4 e E he h)
  have head : ∀ b, f_X11_spellOne 130 (nI ([] : List Nat).length) s4 = some (some (.int b), s5) → f_X11_spell 130 (lN M.1) st = if b = 0 then some (some (.int 0), s5) else L_X11_spell_48 130 0 1 s5 := by
    intro b hb
    have hb' : f_X11_spellOne 130 (nI 0) s4 = some (some (.int b), s5) := hb
    have q165 : sI s2 165 0 = nI (aB M.2.2 0) := by
      show sI (uI (uI st 135 4 0) 169 0 0) 165 0 = _
      rw [I_uI, if_neg (fun z => by omega), I_uI, if_neg (fun z => by omega)]
      exact mq165 hQ (Nat.zero_le _)
    rw [e_X11_spell_0, cm hX, n5 hX, Option.bind_some]
    show Option.bind (ab_wI st 135 (nI 4) 0) _ = _
    rw [w135 hX (by omega), Option.bind_some]
    show Option.bind (ab_gR s1 130 11 53) _ = _
    rw [n53r X1, Option.bind_some]
    show Option.bind (ab_wI s1 169 (nI 0) 0) _ = _
    rw [w169 X1 (by omega), Option.bind_some]
    show Option.bind (ab_gR s2 130 11 54) _ = _
    rw [n54r X2, Option.bind_some, n47r X2, Option.bind_some]
    show Option.bind (ab_rI s2 165 (nI 0)) (fun x7 => Option.bind (ab_wI s2 170 (nI 0) x7) _) = _
    rw [r165 X2 (by omega), Option.bind_some, q165, w170 X2 (by omega), Option.bind_some]
    show Option.bind (ab_gR s3 130 11 55) _ = _
    rw [n55r X3, Option.bind_some]
    show Option.bind (ab_wJ s3 171 (nI 0) (lN M.1)) _ = _
    rw [w171 X3 (by omega), Option.bind_some]
    show ab_ri (f_X11_spellOne 130 (nI 0) s4) _ = _
    rw [hb', ri_ok, z_0]
  have est := sr_start (Q := M.2.2) (v := M.1) (S := fun _ => 0) (I := fun _ => 0) (V := fun _ => M.1) rfl rfl rfl
  have fm : [(([] : List Nat), 0, M.1)].filterMap (tmN M.2.2) = [] ++ (tmN M.2.2 ([], 0, M.1)).toList := by
    cases h : tmN M.2.2 ([], 0, M.1) with
    | none => simp [h]
    | some z => simp [h]
  rcases b3 with ⟨c1, c2, c3, c4⟩ | ⟨c1, c2⟩
  · change isMd s5 4 ([] ++ (tmN M.2.2 ([], 0, M.1)).toList) at c2
    change srt ([] ++ (tmN M.2.2 ([], 0, M.1)).toList) at c3
    change ∀ x ∈ (tmN M.2.2 ([], 0, M.1)).toList, x.2 ≤ 1000000000000 at c4
    rw [← fm] at c2 c3
    rw [head 1 c1, if_neg (by decide)]
    have K5 : stkM s5 M.2.2 (fun _ => 0) (fun _ => 0) (fun _ => M.1) [] := by
      unfold stkM at K4 ⊢
      rw [(b1.2.2 169 (by omega)).1, (b1.2.2 170 (by omega)).1, (b1.2.2 171 (by omega)).2, (b1.2.2 172 (by omega)).1]
      exact K4
    obtain ⟨st', d1, d2, d3⟩ := spellL_ok (L := L) (Q := M.2.2) M.1 _ (fun _ => 0) (fun _ => 0) (fun _ => M.1) [] [([], 0, M.1)] s5 rfl (by simp) (Fx_up hF U5) (mqF_up hQ U5 (fun q hq => hq)) c2 c3 (fun x hx => c4 x (by rw [fm, List.nil_append] at hx; exact hx)) K5 est.symm (fun j hj => by
      have hj0 : j = 0 := by simpa using hj
      subst hj0
      exact List.mem_cons_self)
    exact ⟨st', upto_trans U5 d1, fun e E he h => d2 e E (by omega) (same5 e E (by omega) h), d3⟩
  · rw [head 0 c1, if_pos rfl]
    refine ⟨s5, U5, fun e E he h => same5 e E (by omega) h, Or.inr ⟨rfl, fun q => c2 ?_⟩⟩
    obtain ⟨g1, g2, g3, g4⟩ := q
    refine ⟨fun k hk => ⟨(g1 ([], 0, M.1) (by rw [est]; exact List.mem_cons_self)).1 k hk, by simp⟩, ?_⟩
    rw [est, List.filterMap_cons] at g4
    change srt ([] ++ (tmN M.2.2 ([], 0, M.1)).toList)
    cases h : tmN M.2.2 ([], 0, M.1) with
    | none => exact srt_nil
    | some z =>
      rw [h] at g4
      exact srt_app (D := [z]) g4
theorem by8_inj {a b : Nat} (ha : a < 256) (hb : b < 256) (h : by8 a = by8 b) : a = b := by
  have : by8 a &&& (255 : Int32) = by8 b &&& (255 : Int32) := by rw [h]
  rw [by8_and a ha, by8_and b hb, c_eq (by omega) (by omega)] at this
  exact this
theorem M_load (h : MS L st S) (d : Int32) : ∃ st', f_X11_load 130 d st = some (some (.int (a_load S d).1), st') ∧ MS L st' (a_load S d).2 ∧ onM st st' := by
  rcases isD_cases d with hd | ⟨k, hd, rfl⟩
  · rw [a_load_no hd]
    exact ⟨st, by rw [e_X11_load_0, rc_ok (sh130 h), mD_no hd, ri_ok, if_pos rfl], h, onM_rfl⟩
  obtain ⟨h1, h2, h3, h4⟩ := forgetM_ok h
  generalize hst1 : uI st 130 1 0 = st1 at h1 h2 h3 h4
  have hwl := h3.2
  have hw6 : ∀ s ∈ sW S, s < 256 := fun s hs => by obtain ⟨j, hj⟩ := List.getElem?_of_mem hs; exact (h3.1 j s hj).2
  rw [e_X11_load_0, rc_ok (sh130 h), mD_ok hd, ri_ok, if_neg (by decide), h1, ri_ok]
  have fail : ∀ s : ab_S, L_X11_load_38 130 (nI k) (nI (sW S).length) s = some (some (.int (-7)), s) := by
    intro s
    rw [e_X11_load_38, e_X11_load_39, e_X11_load_43, e_X11_load_82, if_pos rfl, if_pos rfl]
    split <;> rfl
  have ms2 : ∀ s : ab_S, frm2 st1 s → MS L s (setW S []) := fun s hf => MS_up h2 hf.1 (fun q _ _ => by omega) (hf.2 1 (by decide) (by decide) (by decide) (by decide)) (hf.2 9 (by decide) (by decide) (by decide) (by decide)) (hf.2 10 (by decide) (by decide) (by decide) (by decide)) (hf.2 12 (by decide) (by decide) (by decide) (by decide))
  have om2 : ∀ s : ab_S, frm2 st1 s → onM st s := fun s hf => onM_trans h4 (onM_up hf.1 (fun q hq => by omega))
  rcases munpack_ok h2.1 h3 with ⟨M, s6, m1, m2, m3, m4, m5, m6⟩ | ⟨m1, s6, m2, m3⟩
  rotate_left
  · have hno : ¬ ∃ D, isPk (sW S) D := by
      rintro ⟨D, hD, hw⟩
      rw [hw, rdM_mach (by omega) hD] at m1
      cases m1
    rw [a_load_none hd hno, m3, ri_ok, if_pos rfl, fail]
    exact ⟨s6, rfl, ms2 s6 m2, om2 s6 m2⟩
  have hMw : ∀ D, isPk (sW S) D → M = mzr (mach D) := by
    rintro D ⟨hD, hw⟩
    rw [hw, rdM_mach (by omega) hD] at m1
    exact (Option.some.inj m1).symm
  have MS6 := ms2 s6 m2
  obtain ⟨s7, u7, v7, w7⟩ := spell_ok MS6.1 m4 m5 m6
  have MS7 : MS L s7 (setW S []) := by
    obtain ⟨hF, g2, g3, g4, g5, g6, g7, g8⟩ := MS6
    have e : ∀ q, ¬ onS q → sI s7 q = sI s6 q := fun q hq => (u7.2.2 q hq).1
    exact ⟨Fx_up hF u7, ⟨by rw [e 130 (by unfold onS; omega)]; exact g2.1, mRow_up g2.2 u7 (by unfold onS; omega)⟩, fun d hd => ⟨v7 d _ hd (g3 d hd).1, by rw [e 136 (by unfold onS; omega)]; exact (g3 d hd).2⟩, fun d hd => by rw [e 137 (by unfold onS; omega)]; exact g4 d hd, fun k hk => by rw [e 140 (by unfold onS; omega), e 141 (by unfold onS; omega), e 142 (by unfold onS; omega), e 143 (by unfold onS; omega)]; exact g5 k hk, ⟨by rw [e 130 (by unfold onS; omega)]; exact g6.1, fun k t hk => by rw [e 138 (by unfold onS; omega)]; exact g6.2 k t hk⟩, by rw [e 130 (by unfold onS; omega)]; exact g7, ⟨by rw [e 130 (by unfold onS; omega)]; exact g8.1, fun k s hk => by rw [e 139 (by unfold onS; omega)]; exact g8.2 k s hk⟩⟩
  have om7 : onM st s7 := onM_trans (om2 s6 m2) (onM_up u7 (fun q hq => by unfold onS at hq; omega))
  rw [m3]
  rcases w7 with ⟨c1, c2, c3, c4⟩ | ⟨c1, c2⟩
  rotate_left
  · have hno : ¬ ∃ D, isPk (sW S) D := by
      rintro ⟨D, hD⟩
      exact c2 (by rw [hMw D hD]; exact GOODM_mach hD.1)
    rw [a_load_none hd hno, c1, ri_ok, z_0, ri_ok, if_pos rfl, fail]
    exact ⟨s7, rfl, MS7, om7⟩
  have hok : okD (ldL M) := by
    refine ⟨c3, c2.2.1, fun x hx => ?_⟩
    obtain ⟨i, hi⟩ := List.getElem?_of_mem hx
    obtain ⟨b1, b2, b3, b4, b5⟩ := c2.2.2 i x hi
    exact ⟨b2, fun s hs => by obtain ⟨j, hj⟩ := List.getElem?_of_mem hs; exact (b3 j s hj).2, c4 x hx⟩
  obtain ⟨s8, d1, d2, d3, d4⟩ := mpack_ok MS7.1 (by omega : 4 < 5) c2 hok
  have hpl : (pack (ldL M)).length ≤ 43219 := packM_len (bM_ok hok)
  have hp256 : ∀ s ∈ pack (ldL M), s < 256 := packM_256 (bM_ok hok)
  have MS8 : MS L s8 (setW S []) := MS_up MS7 d3 (fun q _ _ => by omega) (d4 1 (by decide) (by decide)) (d4 9 (by decide) (by decide)) (d4 10 (by decide) (by decide)) (d4 12 (by decide) (by decide))
  have om8 : onM st s8 := onM_trans om7 (onM_up d3 (fun q hq => by omega))
  have D8 := isMd_up c2 d3 (by omega) (by omega) (by omega) (by omega)
  have hrow8 : mRow s8 (sW S) := by
    have r6 := mRow_up h3 m2.1 (by omega)
    have r7 := mRow_up r6 u7 (by unfold onS; omega)
    exact mRow_up r7 d3 (by omega)
  have X8 : FX s8 := ⟨L, MS8.1⟩
  have d1' : f_X11_pack 130 4 s7 = some (some (.int (nI (pack (ldL M)).length)), s8) := d1
  rw [c1, ri_ok, z_1, ri_ok, if_neg (by decide), d1', ri_ok]
  have bad : pack (ldL M) ≠ sW S → ¬ ∃ D, isPk (sW S) D := by
    rintro hne ⟨D, hD⟩
    have e := hMw D hD
    apply hne
    rw [e, ldL_mz hD.1]
    exact hD.2.symm
  by_cases hlen : (pack (ldL M)).length = (sW S).length
  rotate_left
  · rw [if_neg (by rw [c_eq (by omega) (by omega)]; exact hlen), a_load_none hd (bad (fun q => hlen (by rw [q]))), fail]
    exact ⟨s8, rfl, MS8, om8⟩
  rw [if_pos (by rw [hlen]), e_X11_load_39]
  have f82 : ∀ s : ab_S, L_X11_load_82 130 (nI k) 0 s = some (some (.int (-7)), s) := fun s => by rw [e_X11_load_82, if_pos rfl]
  have key : ∀ m i, (sW S).length - i = m → i ≤ (sW S).length → (pack (ldL M)).take i = (sW S).take i → L_X11_load_43 130 (nI k) (nI (sW S).length) 1 (nI i) s8 = if pack (ldL M) = sW S then L_X11_load_82 130 (nI k) 1 s8 else some (some (.int (-7)), s8) := by
    intro m
    induction m with
    | zero =>
      intro i hm hi ht
      rw [List.take_of_length_le (by omega), List.take_of_length_le (by omega)] at ht
      rw [e_X11_load_43, if_pos (by rw [c_le (by omega) (by omega)]; omega), if_pos ht]
    | succ m ih =>
      intro i hm hi ht
      have hg1 : (pack (ldL M))[i]? = some (pack (ldL M))[i] := List.getElem?_eq_getElem (by omega)
      have hg2 : (sW S)[i]? = some (sW S)[i] := List.getElem?_eq_getElem (by omega)
      have s1 := hp256 _ (List.mem_of_getElem? hg1)
      obtain ⟨q1, q2⟩ := hrow8.1 i _ hg2
      rw [e_X11_load_43, if_neg (by rw [c_le (by omega) (by omega)]; omega), if_neg (by decide), n45r X8, Option.bind_some, r163 X8 (by omega), Option.bind_some, n0r X8, Option.bind_some, r131 X8 (by omega), Option.bind_some, d2 i _ hg1, q1, e_X11_load_75, e_X11_load_75, nI_1]
      by_cases he : (pack (ldL M))[i] = (sW S)[i]
      · rw [if_pos (by rw [he])]
        exact ih (i + 1) (by omega) (by omega) (by rw [List.take_succ, List.take_succ, ht, hg1, hg2, he])
      · rw [if_neg (fun q => he (by8_inj s1 q2 q)), if_neg (c := pack (ldL M) = sW S) (fun q => by
          have e : (pack (ldL M))[i]? = (sW S)[i]? := by rw [q]
          rw [hg1, hg2] at e
          exact he (Option.some.inj e)), e_X11_load_43, f82]
        by_cases hle : nI (sW S).length ≤ nI (i + 1)
        · rw [if_pos hle]
        · rw [if_neg hle, if_pos rfl]
  rw [show (0 : Int32) = nI 0 from rfl, key _ 0 rfl (Nat.zero_le _) rfl]
  by_cases hsame : pack (ldL M) = sW S
  · rw [if_pos hsame, a_load_n hd ⟨hok, hsame.symm⟩]
    obtain ⟨s9, e1, e2, e3⟩ := come_ok MS8 hd D8
    have eD : sD (setAge (setDic (setW S []) k (ldL M) false) k) k = ldL M := up1_s
    have hm9 := mMany e2 hd
    rw [eD] at hm9
    refine ⟨s9, ?_, e2, onM_trans om8 e3⟩
    rw [e_X11_load_82, if_neg (by decide), e1, rv_ok, ← Option.bind_assoc, hm9, Option.bind_some]
  · rw [if_neg hsame, a_load_none hd (bad hsame)]
    exact ⟨s8, rfl, MS8, om8⟩
end MLOAD
