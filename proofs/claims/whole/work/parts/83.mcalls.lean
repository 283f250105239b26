/-! THE MODEL: done, state, count, arc -/
section MCALLS
variable {L : Nat} {st : ab_S} {S : Sg}
theorem okD_M (h : MS L st S) (hwf : wfS S) (hCo : ∀ d, d < 4 → ∀ x ∈ sD S d, x.2 ≤ 1000000000000) {d : Nat} (hd : d < 4) : okD (sD S d) := by
  have hM := (h.2.2.1 d hd).1
  refine ⟨hwf.2.1 d hd, hM.2.1, fun x hx => ?_⟩
  obtain ⟨i, hi⟩ := List.getElem?_of_mem hx
  obtain ⟨b1, b2, b3, b4, b5⟩ := hM.2.2 i x hi
  exact ⟨b2, fun s hs => by obtain ⟨j, hj⟩ := List.getElem?_of_mem hs; exact (b3 j s hj).2, hCo d hd x hx⟩
theorem buildMS (h : MS L st S) (hwf : wfS S) (hCo : ∀ d, d < 4 → ∀ x ∈ sD S d, x.2 ≤ 1000000000000) {d : Nat} (hd : d < 4) : ∃ st', f_X11_build 130 (nI d) st = some (none, st') ∧ MS L st' S ∧ onM st st' ∧ mB st' (sD S d) ∧ sI st' 131 = sI st 131 := by
  obtain ⟨s1, a1, a2, a3, a4⟩ := build_okM h.1 (by omega) (h.2.2.1 d hd).1 (okD_M h hwf hCo hd)
  exact ⟨s1, a1, MS_up h a3 (fun q _ _ => by omega) (a4 1 (by decide) (by decide)) (a4 9 (by decide) (by decide)) (a4 10 (by decide) (by decide)) (a4 12 (by decide) (by decide)), onM_up a3 (fun q hq => by omega), a2, (a3.2.2 131 (by omega)).1⟩
theorem mB_n {D : Dc} (h : mB st D) : sI st 130 25 = nI (rsts D).length := by rw [← rsK_all]; exact h.2.1
theorem mB_s {D : Dc} (h : mB st D) {s : Nat} {r : Dc} (hs : (rsts D)[s]? = some r) : ∃ j, j < (begs D).length ∧ rest D (nb D j) = r ∧ sI st 150 s = nI j := by
  obtain ⟨j, h1, h2, h3⟩ := h.2.2.2 s r (by rw [rsK_all]; exact hs)
  exact ⟨j, h1, h2, h3⟩
theorem mB_o {D : Dc} (h : mB st D) {k : Nat} {b : List Nat} (hk : (begs D)[k]? = some b) : sI st 149 k = nI (stOf D b) := by
  obtain ⟨s, h1, h2⟩ := h.2.2.1 k (List.getElem?_eq_some_iff.mp hk).1
  rw [rsK_all] at h1
  unfold rs at h1
  rw [nb_get hk] at h1
  rw [h2, stOf_get h1]
theorem rsts_len {D : Dc} (hok : okD D) : (rsts D).length ≤ 2401 := by
  rw [← rsK_all]
  exact Nat.le_trans rsK_len (begs_2401 hok)
theorem M_done (h : MS L st S) (hwf : wfS S) (hCo : ∀ d, d < 4 → ∀ x ∈ sD S d, x.2 ≤ 1000000000000) (d : Int32) : ∃ st', f_X11_done 130 d st = some (some (.int (a_done S d).1), st') ∧ MS L st' (a_done S d).2 ∧ onM st st' := by
  unfold a_done
  rcases isD_cases d with hd | ⟨k, hd, rfl⟩
  · rw [withD_no hd]
    exact ⟨st, by rw [e_X11_done_0, rc_ok (sh130 h), mD_no hd, ri_ok, if_pos rfl], h, onM_rfl⟩
  · rw [withD_n hd, e_X11_done_0, rc_ok (sh130 h), mD_ok hd, ri_ok, if_neg (by decide), ← Option.bind_assoc, mOpen2 h hd, Option.bind_some]
    by_cases hb : sO S k = false
    · rw [bi0 hb, if_pos hb]
      exact ⟨st, rfl, h, onM_rfl⟩
    · rw [bi1 hb, if_neg hb, gR_ok (sh130 h), Option.bind_some, Fx_rf h.1 (v := 136) (by decide), wZ_ok (Fx_sh h.1 (o := 136) rfl) (by omega) (by omega), Option.bind_some]
      have u1 : upto (fun q => q = 136) st (uI st 136 k (0 &&& 1)) := upto_uI rfl
      have e136 : ∀ d, sI (uI st 136 k (0 &&& 1)) 136 d = if d = k then 0 else sI st 136 d := fun d => by rw [I_uI]; simp
      have M1 : MS L (uI st 136 k (0 &&& 1)) (setDic S k (sD S k) false) := by
        obtain ⟨hF, g2, g3, g4, g5, g6, g7, g8⟩ := h
        have e : ∀ q, q ≠ 136 → sI (uI st 136 k (0 &&& 1)) q = sI st q := fun q a => (u1.2.2 q a).1
        refine ⟨Fx_up hF u1, ⟨by rw [e 130 (by omega)]; exact g2.1, mRow_up g2.2 u1 (by omega)⟩, fun d hd => ?_, fun d hd => by rw [e 137 (by omega)]; exact g4 d hd, fun k hk => by rw [e 140 (by omega), e 141 (by omega), e 142 (by omega), e 143 (by omega)]; exact g5 k hk, ⟨by rw [e 130 (by omega)]; exact g6.1, fun k t hk => by rw [e 138 (by omega)]; exact g6.2 k t hk⟩, by rw [e 130 (by omega)]; exact g7, ⟨by rw [e 130 (by omega)]; exact g8.1, fun k s hk => by rw [e 139 (by omega)]; exact g8.2 k s hk⟩⟩
        have q1 := isMd_up (g3 d hd).1 u1 (by omega) (by omega) (by omega) (by omega)
        show isMd _ d (up1 (sD S) k (sD S k) d) ∧ _ = b01 (up1 (sO S) k false d)
        rw [e136]
        by_cases hdk : d = k
        · subst hdk
          rw [up1_s, up1_s, if_pos rfl]
          exact ⟨q1, rfl⟩
        · rw [up1_o hdk, up1_o hdk, if_neg hdk]
          exact ⟨q1, (g3 d hd).2⟩
      have eD : ∀ e, sD (setDic S k (sD S k) false) e = sD S e := fun e => by
        show up1 (sD S) k (sD S k) e = _
        by_cases hek : e = k
        · subst hek; rw [up1_s]
        · rw [up1_o hek]
      obtain ⟨s2, b1, b2, b3, b4, -⟩ := buildMS M1 (wf_dic hwf (hwf.2.1 k hd)) (fun d hd x hx => hCo d hd x (by rw [eD] at hx; exact hx)) hd
      rw [eD] at b4
      refine ⟨s2, ?_, b2, onM_trans (onM_up u1 (fun q hq => by omega)) b3⟩
      rw [b1, rv_ok, gI_ok (sh130 b2), Option.bind_some, mB_n b4]
theorem M_state (h : MS L st S) (hwf : wfS S) (hCo : ∀ d, d < 4 → ∀ x ∈ sD S d, x.2 ≤ 1000000000000) (d : Int32) : ∃ st', f_X11_state 130 d st = some (some (.int (a_state S d).1), st') ∧ MS L st' (a_state S d).2 ∧ onM st st' := by
  unfold a_state a_take
  rcases isD_cases d with hd | ⟨k, hd, rfl⟩
  · rw [withD_no hd]
    exact ⟨st, by rw [e_X11_state_0, rc_ok (sh130 h), mD_no hd, ri_ok, if_pos rfl], h, onM_rfl⟩
  · rw [withD_n hd]
    dsimp only
    obtain ⟨h1, h2, h3, h4⟩ := forgetM_ok h
    generalize hst1 : uI st 130 1 0 = st1 at h1 h2 h3 h4
    rw [e_X11_state_0, rc_ok (sh130 h), mD_ok hd, ri_ok, if_neg (by decide), h1, ri_ok, ← Option.bind_assoc, mOpen2 h2 hd, Option.bind_some]
    change ∃ st', (if b01 (sO S k) = 0 then _ else _) = _ ∧ _
    by_cases hb : sO S k = false
    · rw [bi0 hb, if_pos hb]
      obtain ⟨s2, b1, b2, b3, b4, b5⟩ := buildMS h2 (wf_W0 hwf) hCo hd
      change mB s2 (sD S k) at b4
      have hok := okD_M h hwf hCo hd
      have hN := begs_2401 hok
      have hX : FX s2 := ⟨L, b2.1⟩
      have hM2 : isMd s2 k (sD S k) := (b2.2.2.1 k hd).1
      have hD := hM2.2.1
      have hw2 : mRow s2 (sW S) := ⟨fun i s hi => by rw [b5]; exact h3.1 i s hi, h3.2⟩
      have hwl := h3.2
      refine ⟨s2, ?_, b2, onM_trans h4 b3⟩
      rw [b1, rv_ok]
      have key : ∀ m j, (begs (sD S k)).length - j = m → j ≤ (begs (sD S k)).length → (∀ i c, i < j → (begs (sD S k))[i]? = some c → c ≠ sW S) → L_X11_state_34 130 (nI k) (nI (sW S).length) (nI j) s2 = some (some (.int (stI (sD S k) (sW S))), s2) := by
        intro m
        induction m with
        | zero =>
          intro j hm hj hno
          rw [e_X11_state_34, im hX, Option.bind_some, b4.1.1, if_pos (by rw [c_le (by omega) (by omega)]; omega)]
          unfold stI
          rw [if_neg]
          intro q
          obtain ⟨i, hi⟩ := List.getElem?_of_mem q
          exact hno i _ (by have := (List.getElem?_eq_some_iff.mp hi).1; omega) hi rfl
        | succ m ih =>
          intro j hm hj hno
          have hg : (begs (sD S k))[j]? = some (begs (sD S k))[j] := List.getElem?_eq_getElem (by omega)
          generalize (begs (sD S k))[j] = c at hg
          have hmem := List.mem_of_getElem? hg
          obtain ⟨t, e, a1, a2, a3, a4, a5, a6⟩ := b4.1.2 j c (by omega) hg
          have hcl : c.length ≤ 12 := by
            rcases begs_iff.mp hmem with q | ⟨y, hy, hp⟩
            · rw [q]; simp
            · exact Nat.le_trans hp.length_le (hok.2.2 y hy).1
          have nxt : c ≠ sW S → L_X11_state_78 130 (nI k) (nI (sW S).length) (nI j) s2 = some (some (.int (stI (sD S k) (sW S))), s2) := by
            intro hc
            rw [e_X11_state_78, nI_1]
            refine ih (j + 1) (by omega) (by omega) (fun i c' hi hc' => ?_)
            by_cases hij : i = j
            · subst hij
              rw [hg] at hc'
              cases hc'
              exact hc
            · exact hno i c' (by omega) hc'
          have yes : c = sW S → L_X11_state_71 130 (nI j) s2 = some (some (.int (stI (sD S k) (sW S))), s2) := by
            intro hc
            rw [e_X11_state_71, n23r hX, Option.bind_some, r149 hX (by omega), Option.bind_some, mB_o b4 hg]
            unfold stI
            rw [← hc, if_pos hmem]
          rw [e_X11_state_34, im hX, Option.bind_some, b4.1.1, if_neg (by rw [c_le (by omega) (by omega)]; omega), n20r hX, Option.bind_some, r146 hX (by omega), Option.bind_some, a4]
          by_cases hcn : c.length = (sW S).length
          · rw [if_pos (by rw [hcn])]
            by_cases hw0 : (sW S).length = 0
            · rw [if_pos (by rw [hw0]; rfl)]
              exact yes (by rw [List.length_eq_zero_iff.mp hw0]; exact List.length_eq_zero_iff.mp (by omega))
            · rw [if_neg (by show ¬ nI _ = nI 0; rw [c_eq (by omega) (by omega)]; exact hw0), n18r hX, Option.bind_some, r144 hX (by omega), Option.bind_some, a1]
              have htx : ∃ x, (sD S k)[t]? = some x ∧ c <+: x.1 := by
                rcases begs_iff.mp hmem with q | ⟨y, hy, hp⟩
                · exfalso; rw [q] at hcn; simp at hcn; omega
                · obtain ⟨i, hi⟩ := List.getElem?_of_mem hy
                  have hin := (a3.2.2 i y hi).mp hp
                  have hl := lt_of_get hi
                  have hgt : (sD S k)[t]? = some (sD S k)[t] := List.getElem?_eq_getElem (by omega)
                  exact ⟨_, hgt, (a3.2.2 t _ hgt).mpr ⟨Nat.le_refl _, by omega⟩⟩
              obtain ⟨x, hx, hcx⟩ := htx
              rw [isBeg_ok b2.1 hM2 (by omega) hx hw2, ri_ok]
              by_cases hp : (sW S).isPrefixOf x.1 = true
              · rw [if_pos hp, if_neg (by decide)]
                have hp2 := List.isPrefixOf_iff_prefix.mp hp
                exact yes (by rw [List.prefix_iff_eq_take.mp hcx, hcn, ← List.prefix_iff_eq_take.mp hp2])
              · rw [if_neg hp, if_pos rfl]
                exact nxt (fun q => hp (List.isPrefixOf_iff_prefix.mpr (q ▸ hcx)))
          · rw [if_neg (by rw [c_eq (by omega) (by omega)]; exact hcn)]
            exact nxt (fun q => hcn (by rw [q]))
      exact key _ 0 rfl (Nat.zero_le _) (fun i c hi => by omega)
    · rw [bi1 hb, if_neg hb]
      exact ⟨st1, rfl, h2, h4⟩
theorem W_state (h : wfS S) (d : Int32) : wfS (a_state S d).2 := by
  unfold a_state a_take
  rcases isD_cases d with hd | ⟨k, hd, rfl⟩
  · rw [withD_no hd]; exact h
  · rw [withD_n hd]; exact wf_W0 h
/-- the machine's state at s -/
theorem mach_at {D : Dc} (hs : srt D) {s j : Nat} {r : Dc} (h : (rsts D)[s]? = some r) (hr : rest D (nb D j) = r) : (mach D).2.2[s]? = some (stQ D (nb D j)) := mach_get hs h hr
theorem arcs_hds {D : Dc} {b : List Nat} : (arcsO D b).length = (hds D b).length := by unfold arcsO; rw [List.length_map]
theorem machTake {D : Dc} (hs : srt D) {s j : Nat} {r : Dc} (h : (rsts D)[s]? = some r) (hr : rest D (nb D j) = r) : (mach D).2.2.take (s + 1) = (mach D).2.2.take s ++ [stQ D (nb D j)] := by
  rw [List.take_succ, mach_at hs h hr]; rfl
theorem M_count (h : MS L st S) (hwf : wfS S) (hCo : ∀ d, d < 4 → ∀ x ∈ sD S d, x.2 ≤ 1000000000000) (d w : Int32) : ∃ st', f_X11_count 130 d w st = some (some (.int (a_count S d w).1), st') ∧ MS L st' (a_count S d w).2 ∧ onM st st' := by
  unfold a_count
  rcases isD_cases d with hd | ⟨k, hd, rfl⟩
  · rw [withD_no hd]
    exact ⟨st, by rw [e_X11_count_0, rc_ok (sh130 h), mD_no hd, ri_ok, if_pos rfl], h, onM_rfl⟩
  rw [withD_n hd, e_X11_count_0, rc_ok (sh130 h), mD_ok hd, ri_ok, if_neg (by decide), isIn_i]
  have t0 : (0 : Int64).toInt = 0 := rfl
  have t6 : (6 : Int64).toInt = 6 := rfl
  have i0 : (0 : Int32).toInt = 0 := rfl
  have i6 : (6 : Int32).toInt = 6 := rfl
  rw [t0, t6, ri_ok]
  by_cases hw0 : w < 0
  · have q := Int32.lt_iff_toInt_lt.mp hw0
    rw [i0] at q
    refine ⟨st, ?_, h, onM_rfl⟩
    rw [if_neg (show ¬ (0 ≤ w.toInt ∧ w.toInt ≤ 6) by omega), if_pos rfl]
    simp only [hw0, if_true]
  by_cases hw6 : w ≤ 6
  rotate_left
  · have q : ¬ w.toInt ≤ 6 := fun z => hw6 (by rw [Int32.le_iff_toInt_le, i6]; exact z)
    refine ⟨st, ?_, h, onM_rfl⟩
    rw [if_neg (show ¬ (0 ≤ w.toInt ∧ w.toInt ≤ 6) by omega), if_pos rfl]
    simp only [hw0, hw6, if_false]
  have hq1 : 0 ≤ w.toInt ∧ w.toInt ≤ 6 := by
    have q1 : ¬ w.toInt < 0 := fun z => hw0 (by rw [Int32.lt_iff_toInt_lt, i0]; exact z)
    have q2 := Int32.le_iff_toInt_le.mp hw6
    rw [i6] at q2
    omega
  rw [if_pos hq1, if_neg (by decide)]
  simp only [hw0, hw6, if_false, if_true]
  obtain ⟨wn, hwn, rfl⟩ : ∃ n : Nat, n ≤ 6 ∧ w = nI n := by
    rcases n_cases w with q | ⟨n, hn, rfl⟩
    · exact absurd q hw0
    · rw [nI_toInt hn] at hq1
      exact ⟨n, by omega, rfl⟩
  have eqw : ∀ m : Nat, m ≤ 6 → ((nI wn = nI m) ↔ wn = m) := fun m hm => by rw [c_eq (by omega) (by omega)]
  by_cases h2w : 2 ≤ wn
  rotate_left
  · rw [if_neg (by show ¬ nI 2 ≤ nI wn; rw [c_le (by omega) (by omega)]; omega)]
    refine ⟨st, ?_, h, onM_rfl⟩
    by_cases e0 : wn = 0
    · rw [if_pos (show nI wn = 0 by rw [e0]; rfl), if_pos (show nI wn = 0 by rw [e0]; rfl), ← Option.bind_assoc, mMany h hd, Option.bind_some]
    · have n0 : ¬ nI wn = 0 := fun q => e0 ((eqw 0 (by omega)).mp q)
      have e1 : nI wn = 1 := by rw [show wn = 1 by omega]; rfl
      rw [if_neg n0, if_neg n0, if_pos e1, ← Option.bind_assoc, mOpen2 h hd, Option.bind_some]
      by_cases hb : sO S k = false
      · rw [bi0 hb, hb]; rfl
      · rw [bi1 hb]
        have : sO S k = true := by simpa using hb
        rw [this]; rfl
  have n0 : ¬ nI wn = 0 := fun q => by have := (eqw 0 (by omega)).mp q; omega
  have n1 : ¬ nI wn = 1 := fun q => by have := (eqw 1 (by omega)).mp q; omega
  rw [if_pos (by show nI 2 ≤ nI wn; rw [c_le (by omega) (by omega)]; omega), if_neg n0, if_neg n1, ← Option.bind_assoc, mOpen2 h hd, Option.bind_some]
  by_cases hb : sO S k = false
  rotate_left
  · rw [bi1 hb, if_neg hb]
    exact ⟨st, rfl, h, onM_rfl⟩
  rw [bi0 hb, if_pos hb]
  obtain ⟨s2, b1, b2, b3, b4, -⟩ := buildMS h hwf hCo hd
  have hok := okD_M h hwf hCo hd
  have hN := begs_2401 hok
  have hRl := rsts_len hok
  have hX : FX s2 := ⟨L, b2.1⟩
  have hM2 : isMd s2 k (sD S k) := (b2.2.2.1 k hd).1
  have hD := hM2.2.1
  refine ⟨s2, ?_, b2, b3⟩
  rw [b1, rv_ok]
  -- behind the states
  have tail : ∀ v : Int32, wn ≠ 5 → L_X11_count_149 130 (nI k) (nI wn) v s2 = some (some (.int (if wn = 6 then nI (begs (sD S k)).length else v)), s2) := by
    intro v h5
    have t195 : L_X11_count_195 130 (nI wn) v s2 = some (some (.int (if wn = 6 then nI (begs (sD S k)).length else v)), s2) := by
      rw [e_X11_count_195]
      by_cases h6 : wn = 6
      · rw [if_pos (by rw [h6]; rfl), if_pos h6, im hX, Option.bind_some, b4.1.1]
      · rw [if_neg (c := nI wn = 6) (fun q => h6 ((eqw 6 (by omega)).mp q)), if_neg h6]
    rw [e_X11_count_149, e_X11_count_152, n5 hX, Option.bind_some, r135 hX (by omega), Option.bind_some, hM2.1, if_neg (c := nI wn = 5) (fun q => h5 ((eqw 5 (by omega)).mp q)), t195]
    by_cases hz : nI (List.length (sD S k)) ≤ 0
    · rw [if_pos hz]
    · rw [if_neg hz]
  unfold cntD
  by_cases w2 : wn = 2
  · subst w2
    have key : ∀ m s, (rsts (sD S k)).length - s = m → s ≤ (rsts (sD S k)).length → L_X11_count_77 130 (nI k) (nI 2) (nI s) (nI s) s2 = some (some (.int (nI (rsts (sD S k)).length)), s2) := by
      intro m
      induction m with
      | zero =>
        intro s hm hs
        rw [e_X11_count_77, im hX, Option.bind_some, mB_n b4, if_pos (by rw [c_le (by omega) (by omega)]; omega), tail _ (by omega), if_neg (by decide), show s = (rsts (sD S k)).length by omega]
      | succ m ih =>
        intro s hm hs
        rw [e_X11_count_77, im hX, Option.bind_some, mB_n b4, if_neg (by rw [c_le (by omega) (by omega)]; omega), if_neg (by decide), if_pos (by rfl), e_X11_count_141, nI_1]
        exact ih (s + 1) (by omega) (by omega)
    rw [if_pos (show nI 2 = 2 from rfl)]
    exact key _ 0 rfl (Nat.zero_le _)
  have n2 : ¬ nI wn = 2 := fun q => w2 ((eqw 2 (by omega)).mp q)
  by_cases w3 : wn = 3
  · subst w3
    have key : ∀ m s, (rsts (sD S k)).length - s = m → s ≤ (rsts (sD S k)).length → L_X11_count_77 130 (nI k) (nI 3) (nI (arcsB (mach (sD S k)) s)) (nI s) s2 = some (some (.int (nI (arcsB (mach (sD S k)) (rsts (sD S k)).length))), s2) := by
      intro m
      induction m with
      | zero =>
        intro s hm hs
        rw [e_X11_count_77, im hX, Option.bind_some, mB_n b4, if_pos (by rw [c_le (by omega) (by omega)]; omega), tail _ (by omega), if_neg (by decide), show s = (rsts (sD S k)).length by omega]
      | succ m ih =>
        intro s hm hs
        have hg : (rsts (sD S k))[s]? = some (rsts (sD S k))[s] := List.getElem?_eq_getElem (by omega)
        obtain ⟨j, q1, q2, q3⟩ := mB_s b4 hg
        rw [e_X11_count_77, im hX, Option.bind_some, mB_n b4, if_neg (by rw [c_le (by omega) (by omega)]; omega), if_neg (by decide), if_neg n2, if_pos (by rfl), n24r hX, Option.bind_some, r150 hX (by omega), Option.bind_some, q3, children_ok b2.1 (by omega) hM2 hok b4.1 (nb_some q1), ri_ok, e_X11_count_141, nI_1, a_add]
        have e : arcsB (mach (sD S k)) (s + 1) = arcsB (mach (sD S k)) s + (hds (sD S k) (nb (sD S k) j)).length := by
          rw [arcsB_succ (mach_at hok.1 hg q2), ← arcs_hds]; rfl
        rw [← e]
        exact ih (s + 1) (by omega) (by omega)
    rw [if_neg n2, if_pos (show nI 3 = 3 from rfl)]
    have := key _ 0 rfl (Nat.zero_le _)
    rw [show arcsB (mach (sD S k)) 0 = 0 from by unfold arcsB; simp] at this
    exact this
  have n3' : ¬ nI wn = 3 := fun q => w3 ((eqw 3 (by omega)).mp q)
  by_cases w4 : wn = 4
  · subst w4
    have ml : (mach (sD S k)).2.2.length = (rsts (sD S k)).length := mach_len
    have key : ∀ m s, (rsts (sD S k)).length - s = m → s ≤ (rsts (sD S k)).length → L_X11_count_77 130 (nI k) (nI 4) (nI ((((mach (sD S k)).2.2.take s).filter (fun x => x.1.isSome)).length)) (nI s) s2 = some (some (.int (nI (((mach (sD S k)).2.2.filter (fun x => x.1.isSome)).length))), s2) := by
      intro m
      induction m with
      | zero =>
        intro s hm hs
        rw [e_X11_count_77, im hX, Option.bind_some, mB_n b4, if_pos (by rw [c_le (by omega) (by omega)]; omega), tail _ (by omega), if_neg (by decide), List.take_of_length_le (by omega)]
      | succ m ih =>
        intro s hm hs
        have hg : (rsts (sD S k))[s]? = some (rsts (sD S k))[s] := List.getElem?_eq_getElem (by omega)
        obtain ⟨j, q1, q2, q3⟩ := mB_s b4 hg
        have nx := ih (s + 1) (by omega) (by omega)
        rw [machTake hok.1 hg q2, List.filter_append, List.length_append] at nx
        rw [e_X11_count_77, im hX, Option.bind_some, mB_n b4, if_neg (by rw [c_le (by omega) (by omega)]; omega), if_neg (by decide), if_neg n2, if_neg n3', n24r hX, Option.bind_some, r150 hX (by omega), Option.bind_some, q3, final_okM b2.1 (by omega) hM2 hok.1 (by omega) (b4.1.2 j _ q1 (nb_some q1)), ri_ok, e_X11_count_141, e_X11_count_141, nI_1]
        by_cases hl : (lastO (sD S k) (nb (sD S k) j)).isSome = true
        · rw [hl, bi1 (by simp), nI_1]
          rw [List.filter_cons_of_pos (p := fun (x : QX) => x.1.isSome) (a := stQ (sD S k) (nb (sD S k) j)) hl] at nx
          exact nx
        · have hl2 : (lastO (sD S k) (nb (sD S k) j)).isSome = false := by simpa using hl
          rw [bi0 hl2, show nI _ + (0 : Int32) = nI _ from by rw [show (0 : Int32) = nI 0 from rfl, a_add]]
          rw [List.filter_cons_of_neg (p := fun (x : QX) => x.1.isSome) (a := stQ (sD S k) (nb (sD S k) j)) hl] at nx
          exact nx
    rw [if_neg n2, if_neg n3', if_pos (show nI 4 = 4 from rfl)]
    exact key _ 0 rfl (Nat.zero_le _)
  have n4' : ¬ nI wn = 4 := fun q => w4 ((eqw 4 (by omega)).mp q)
  have e77 : L_X11_count_77 130 (nI k) (nI wn) 0 0 s2 = L_X11_count_149 130 (nI k) (nI wn) 0 s2 := by
    rw [e_X11_count_77, im hX, Option.bind_some, mB_n b4, if_pos (c := 5 ≤ nI wn) (by show nI 5 ≤ nI wn; rw [c_le (by omega) (by omega)]; omega)]
    by_cases hz : nI (rsts (sD S k)).length ≤ 0
    · rw [if_pos hz]
    · rw [if_neg hz]
  rw [if_neg n2, if_neg n3', if_neg n4', e77]
  by_cases w5 : wn = 5
  · subst w5
    rw [if_pos (show nI 5 = 5 from rfl), e_X11_count_149]
    have hl12 : ∀ i, lgst ((sD S k).take i) ≤ 12 := by
      intro i
      unfold lgst
      have : ∀ (l : List Nat) (m : Nat), (∀ x ∈ l, x ≤ 12) → m ≤ 12 → l.foldl max m ≤ 12 := by
        intro l
        induction l with
        | nil => intro m _ hm; exact hm
        | cons y l ih =>
          intro m hy hm
          refine ih _ (fun x hx => hy x (List.mem_cons_of_mem _ hx)) ?_
          have := hy y List.mem_cons_self
          omega
      refine this _ 0 (fun n hn => ?_) (by omega)
      obtain ⟨x, hx, rfl⟩ := List.mem_map.mp hn
      exact (hok.2.2 x (List.mem_of_mem_take hx)).1
    have key : ∀ m t, (sD S k).length - t = m → t ≤ (sD S k).length → L_X11_count_152 130 (nI k) (nI 5) (nI (lgst ((sD S k).take t))) (nI t) s2 = some (some (.int (nI (lgst (sD S k)))), s2) := by
      intro m
      induction m with
      | zero =>
        intro t hm ht
        rw [e_X11_count_152, n5 hX, Option.bind_some, r135 hX (by omega), Option.bind_some, hM2.1, if_pos (by rw [c_le (by omega) (by omega)]; omega), e_X11_count_195, if_neg (by decide), List.take_of_length_le (by omega)]
      | succ m ih =>
        intro t hm ht
        have hg : (sD S k)[t]? = some (sD S k)[t] := List.getElem?_eq_getElem (by omega)
        generalize (sD S k)[t] = x at hg
        obtain ⟨c1, c2, c3, c4⟩ := mMd hM2 (by omega) hg
        have := hl12 t
        rw [e_X11_count_152, n5 hX, Option.bind_some, r135 hX (by omega), Option.bind_some, hM2.1, if_neg (by rw [c_le (by omega) (by omega)]; omega), if_pos (by rfl), n3 hX, Option.bind_some, nl 200, a_mul, a_add, r133 hX c1, Option.bind_some, c2, nI_l (by omega), nI_l (by omega), e_X11_greater_0]
        have em : (if 0 ≤ lg_cmp (lN (lgst ((sD S k).take t))) (lN x.1.length) then some (some (Value.long (lN (lgst ((sD S k).take t)))), s2) else some (some (Value.long (lN x.1.length)), s2)) = some (some (Value.long (lN (lgst ((sD S k).take (t + 1))))), s2) := by
          have e2 : lgst ((sD S k).take (t + 1)) = max (lgst ((sD S k).take t)) x.1.length := by
            unfold lgst
            rw [take_snoc' hg, List.map_append, List.foldl_append]
            rfl
          rw [e2]
          by_cases hc : x.1.length ≤ lgst ((sD S k).take t)
          · rw [if_pos ((lc_ge (by omega) (by omega)).mpr hc), Nat.max_eq_left hc]
          · rw [if_neg (fun q => hc ((lc_ge (by omega) (by omega)).mp q)), Nat.max_eq_right (by omega)]
        rw [em, rl_ok, lN_i, nI_1]
        exact ih (t + 1) (by omega) (by omega)
    exact key _ 0 rfl (Nat.zero_le _)
  · have n5' : ¬ nI wn = 5 := fun q => w5 ((eqw 5 (by omega)).mp q)
    rw [if_neg n5', tail 0 w5, if_pos (by omega)]
end MCALLS
