/-! THE LAW'S LOOP -/
def LI (L : Nat) (st : ab_S) (S : Sg) : Prop := CS L st S ∧ MS L st S ∧ wfS S
section LAW
variable {L : Nat} {st : ab_S} {S : Sg}
theorem W_take {α : Type} (h : wfS S) {d : Int32} {b op : α} {f : Nat → α} : wfS (a_take S d b op f).2 := by
  unfold a_take
  rcases isD_cases d with hd | ⟨k, hd, rfl⟩
  · rw [withD_no hd]; exact h
  · rw [withD_n hd]; exact wf_W0 h
theorem W_look {α : Type} (h : wfS S) {d : Int32} {b op : α} {f : Nat → α} : wfS (a_look S d b op f).2 := by
  unfold a_look
  rcases isD_cases d with hd | ⟨k, hd, rfl⟩
  · rw [withD_no hd]; exact h
  · rw [withD_n hd]; exact h
theorem LI_co (h : CS L st S) : ∀ d, d < 4 → ∀ x ∈ sD S d, x.2 ≤ 1000000000000 := fun d hd => by
  obtain ⟨o, -, -, hT⟩ := CS_tm h hd
  exact tm_out hT
theorem LI_le (h : CS L st S) : ∀ d, d < 4 → (sD S d).length ≤ 200 := fun d hd => by
  obtain ⟨o, -, -, hT⟩ := CS_tm h hd
  exact hT.2.2.2.2.2.2.2.2.1
theorem op_v {α : Type} {mk : α → Value} (h : LI L st S) {aS : α × Sg} {r : Option ab_R} {fM : ab_S → Option ab_R} (hC : ∃ st', r = some (some (mk aS.1), st') ∧ CS L st' aS.2 ∧ onC st st') (hM : ∀ s, MS L s S → ∃ st', fM s = some (some (mk aS.1), st') ∧ MS L st' aS.2 ∧ onM s st') (hW : wfS aS.2) : ∃ s1 s2, r = some (some (mk aS.1), s1) ∧ fM s1 = some (some (mk aS.1), s2) ∧ LI L s2 aS.2 ∧ Fx L s1 ∧ sI s1 1 = sI st 1 := by
  obtain ⟨s1, a1, a2, a3⟩ := hC
  obtain ⟨s2, b1, b2, b3⟩ := hM s1 (MS_onC h.2.1 a3 a2.1)
  exact ⟨s1, s2, a1, b1, ⟨CS_onM a2 b3 b2.1, b2, hW⟩, a2.1, (a3.2 1 (Or.inl rfl)).1⟩
theorem rI7 {n : Nat} (hF : Fx L st) (hL : L ≤ 2560) (hn : n < L) : ab_rI st 1 (nI n) = some (sI st 1 n) := by
  have hs : (sH st)[1]? = some (7, L) := Fx_sh hF rfl
  unfold ab_rI ab_rd
  rw [hs]
  dsimp only
  rw [if_pos ⟨rfl, in_ok hn (by omega)⟩, a_cl (by omega)]
  rfl
theorem law_loop (hL : L ≤ 2560) : ∀ k i (st : ab_S) (S : Sg), L - i = k → i ≤ L + 5 → LI L st S → ∃ st', L_L_law_18 1 2 130 (nI i) st = some (some (.int 1), st') ∧ sH st' = S0 L := by
  intro k
  induction k using Nat.strongRecOn with
  | ind k ih =>
    intro i st S hk hi h
    have hF := h.1.1
    have hs : (sH st)[1]? = some (7, L) := Fx_sh hF rfl
    have en : ab_n st 1 = some L := by
      unfold ab_n
      rw [hs]
      rfl
    have hend : i + 5 ≤ L → ¬ (Int32.ofNat L - (5 : Int32)) < nI i := by
      intro q
      have e5 : Int32.ofNat L - (5 : Int32) = nI (L - 5) := by
        show nI L - nI 5 = _
        rw [a_sub (by omega)]
      rw [e5, c_lt (by omega) (by omega)]
      omega
    have hlt : ¬ i + 5 ≤ L → (Int32.ofNat L - (5 : Int32)) < nI i := by
      intro q
      rw [Int32.lt_iff_toInt_lt]
      have e1 : (nI i).toInt = i := nI_toInt (by omega)
      have e2 : (Int32.ofNat L - (5 : Int32)).toInt = (L : Int) - 5 := by
        have e3 : (Int32.ofNat L).toInt = L := nI_toInt (by omega)
        rw [Int32.toInt_sub, e3]
        have e4 : (5 : Int32).toInt = 5 := rfl
        rw [e4]
        exact Int.bmod_eq_of_le (by omega) (by omega)
      rw [e1, e2]
      omega
    rw [e_L_law_18, en, Option.bind_some]
    by_cases hc : i + 5 ≤ L
    rotate_left
    · rw [if_pos (hlt hc), z_1]
      exact ⟨st, rfl, hF.1⟩
    have rd : ∀ (s : ab_S), Fx L s → sI s 1 = sI st 1 → ab_rI s 1 (nI i + 1) = some (sI st 1 (i + 1)) ∧ ab_rI s 1 (nI i + 2) = some (sI st 1 (i + 2)) ∧ ab_rI s 1 (nI i + 3) = some (sI st 1 (i + 3)) ∧ ab_rI s 1 (nI i + 4) = some (sI st 1 (i + 4)) := by
      intro s hFs e
      have f : ∀ j, j ≤ 4 → ab_rI s 1 (nI (i + j)) = some (sI st 1 (i + j)) := fun j hj => by rw [rI7 hFs hL (by omega), e]
      have i1 : nI i + 1 = nI (i + 1) := nI_1 i
      have i2 : nI i + 2 = nI (i + 2) := by rw [show (2 : Int32) = nI 2 from rfl, a_add]
      have i3 : nI i + 3 = nI (i + 3) := by rw [show (3 : Int32) = nI 3 from rfl, a_add]
      have i4 : nI i + 4 = nI (i + 4) := by rw [show (4 : Int32) = nI 4 from rfl, a_add]
      rw [i1, i2, i3, i4]
      exact ⟨f 1 (by omega), f 2 (by omega), f 3 (by omega), f 4 (by omega)⟩
    have next : ∀ (s : ab_S) (S' : Sg), LI L s S' → ∃ st', L_L_law_915 1 2 130 (nI i) s = some (some (.int 1), st') ∧ sH st' = S0 L := by
      intro s S' h'
      rw [e_L_law_915, show nI i + (5 : Int32) = nI (i + 5) from by rw [show (5 : Int32) = nI 5 from rfl, a_add]]
      exact ih (L - (i + 5)) (by omega) (i + 5) s S' rfl (by omega) h'
    obtain ⟨r1, r2, r3, r4⟩ := rd st hF rfl
    have hwf := h.2.2
    rw [if_neg (hend hc), rI7 hF hL (by omega), Option.bind_some]
    generalize sI st 1 i &&& 31 = x
    generalize hv1 : sI st 1 (i + 1) = v1 at *
    generalize hv2 : sI st 1 (i + 2) = v2 at *
    generalize hv3 : sI st 1 (i + 3) = v3 at *
    generalize hv4 : sI st 1 (i + 4) = v4 at *
    by_cases q : x = 0
    · obtain ⟨s1, s2, a1, a2, a3, a4, a5⟩ := op_v (mk := .int) (aS := a_collect S ((v1.toInt64 <<< ((32 : Int32).toInt64 &&& 63)) ||| (v2.toInt64 &&& (4294967295 : Int64))) v3) (fM := fun s => f_X11_collect 130 ((v1.toInt64 <<< ((32 : Int32).toInt64 &&& 63)) ||| (v2.toInt64 &&& (4294967295 : Int64))) v3 s) h (C_collect h.1 hwf _ _) (fun s hs => M_collect hs hwf _ _) (W_collect hwf _ _)
      obtain ⟨t1, t2, t3, t4⟩ := rd s1 a4 a5
      rw [if_pos q, r1, Option.bind_some, r2, Option.bind_some, r3, Option.bind_some, a1, ri_ok, t1, Option.bind_some, t2, Option.bind_some, t3, Option.bind_some, a2, ri_ok, if_pos rfl]
      exact next s2 _ a3
    rw [if_neg q]
    by_cases q : x = 1
    · obtain ⟨s1, s2, a1, a2, a3, a4, a5⟩ := op_v (mk := .int) (aS := (nI (sW S).length, setW S [])) (fM := fun s => f_X11_forget 130 s) h (C_forget h.1) (fun s hs => M_forget hs) (wf_W0 hwf)
      obtain ⟨t1, t2, t3, t4⟩ := rd s1 a4 a5
      rw [if_pos q, a1, ri_ok, a2, ri_ok, if_pos rfl]
      exact next s2 _ a3
    rw [if_neg q]
    by_cases q : x = 2
    · obtain ⟨s1, s2, a1, a2, a3, a4, a5⟩ := op_v (mk := .int) (aS := a_begin S v1) (fM := fun s => f_X11_begin 130 v1 s) h (C_begin h.1 _) (fun s hs => M_begin hs _) (W_begin hwf _)
      obtain ⟨t1, t2, t3, t4⟩ := rd s1 a4 a5
      rw [if_pos q, r1, Option.bind_some, a1, ri_ok, t1, Option.bind_some, a2, ri_ok, if_pos rfl]
      exact next s2 _ a3
    rw [if_neg q]
    by_cases q : x = 3
    · obtain ⟨s1, s2, a1, a2, a3, a4, a5⟩ := op_v (mk := .int) (aS := a_addC S v1 ((v2.toInt64 <<< ((32 : Int32).toInt64 &&& 63)) ||| (v3.toInt64 &&& (4294967295 : Int64)))) (fM := fun s => f_X11_add 130 v1 ((v2.toInt64 <<< ((32 : Int32).toInt64 &&& 63)) ||| (v3.toInt64 &&& (4294967295 : Int64))) s) h (C_add h.1 _ _) (fun s hs => M_add hs _ _) (W_add hwf _ _)
      obtain ⟨t1, t2, t3, t4⟩ := rd s1 a4 a5
      rw [if_pos q, r1, Option.bind_some, r2, Option.bind_some, r3, Option.bind_some, a1, ri_ok, t1, Option.bind_some, t2, Option.bind_some, t3, Option.bind_some, a2, ri_ok, if_pos rfl]
      exact next s2 _ a3
    rw [if_neg q]
    by_cases q : x = 4
    · obtain ⟨s1, s2, a1, a2, a3, a4, a5⟩ := op_v (mk := .int) (aS := a_done S v1) (fM := fun s => f_X11_done 130 v1 s) h (C_done h.1 hwf _) (fun s hs => M_done hs hwf (LI_co h.1) _) (W_done hwf _)
      obtain ⟨t1, t2, t3, t4⟩ := rd s1 a4 a5
      rw [if_pos q, r1, Option.bind_some, a1, ri_ok, t1, Option.bind_some, a2, ri_ok, if_pos rfl]
      exact next s2 _ a3
    rw [if_neg q]
    by_cases q : x = 5
    · obtain ⟨s1, s2, a1, a2, a3, a4, a5⟩ := op_v (mk := .long) (aS := a_find S v1) (fM := fun s => f_X11_find 130 v1 s) h (C_find h.1 hwf _) (fun s hs => M_find hs hwf _) (W_take hwf)
      obtain ⟨t1, t2, t3, t4⟩ := rd s1 a4 a5
      rw [if_pos q, r1, Option.bind_some, a1, rl_ok, t1, Option.bind_some, a2, rl_ok, if_pos (cmp_eq.mpr rfl)]
      exact next s2 _ a3
    rw [if_neg q]
    by_cases q : x = 6
    · obtain ⟨s1, s2, a1, a2, a3, a4, a5⟩ := op_v (mk := .int) (aS := a_state S v1) (fM := fun s => f_X11_state 130 v1 s) h (C_state h.1 hwf _) (fun s hs => M_state hs hwf (LI_co h.1) _) (W_state hwf _)
      obtain ⟨t1, t2, t3, t4⟩ := rd s1 a4 a5
      rw [if_pos q, r1, Option.bind_some, a1, ri_ok, t1, Option.bind_some, a2, ri_ok, if_pos rfl]
      exact next s2 _ a3
    rw [if_neg q]
    by_cases q : x = 7
    · obtain ⟨s1, s2, a1, a2, a3, a4, a5⟩ := op_v (mk := .int) (aS := a_count S v1 v2) (fM := fun s => f_X11_count 130 v1 v2 s) h (C_count h.1 _ _) (fun s hs => M_count hs hwf (LI_co h.1) _ _) (hwf)
      obtain ⟨t1, t2, t3, t4⟩ := rd s1 a4 a5
      rw [if_pos q, r1, Option.bind_some, r2, Option.bind_some, a1, ri_ok, t1, Option.bind_some, t2, Option.bind_some, a2, ri_ok, if_pos rfl]
      exact next s2 _ a3
    rw [if_neg q]
    by_cases q : x = 8
    · obtain ⟨s1, s2, a1, a2, a3, a4, a5⟩ := op_v (mk := .long) (aS := a_arc S v1 v2 v3 v4) (fM := fun s => f_X11_arc 130 v1 v2 v3 v4 s) h (C_arc h.1 _ _ _ _) (fun s hs => M_arc hs hwf (LI_co h.1) _ _ _ _) (hwf)
      obtain ⟨t1, t2, t3, t4⟩ := rd s1 a4 a5
      rw [if_pos q, r1, Option.bind_some, r2, Option.bind_some, r3, Option.bind_some, r4, Option.bind_some, a1, rl_ok, t1, Option.bind_some, t2, Option.bind_some, t3, Option.bind_some, t4, Option.bind_some, a2, rl_ok, if_pos (cmp_eq.mpr rfl)]
      exact next s2 _ a3
    rw [if_neg q]
    by_cases q : x = 9
    · obtain ⟨s1, s2, a1, a2, a3, a4, a5⟩ := op_v (mk := .int) (aS := a_number S v1) (fM := fun s => f_X11_number 130 v1 s) h (C_number' h.1 hwf _) (fun s hs => M_number' hs hwf _) (W_take hwf)
      obtain ⟨t1, t2, t3, t4⟩ := rd s1 a4 a5
      rw [if_pos q, r1, Option.bind_some, a1, ri_ok, t1, Option.bind_some, a2, ri_ok, if_pos rfl]
      exact next s2 _ a3
    rw [if_neg q]
    by_cases q : x = 10
    · obtain ⟨s1, s2, a1, a2, a3, a4, a5⟩ := op_v (mk := .int) (aS := a_term S v1 v2 v3) (fM := fun s => f_X11_term 130 v1 v2 v3 s) h (C_term h.1 _ _ _) (fun s hs => M_term hs _ _ _) (W_look hwf)
      obtain ⟨t1, t2, t3, t4⟩ := rd s1 a4 a5
      rw [if_pos q, r1, Option.bind_some, r2, Option.bind_some, r3, Option.bind_some, a1, ri_ok, t1, Option.bind_some, t2, Option.bind_some, t3, Option.bind_some, a2, ri_ok, if_pos rfl]
      exact next s2 _ a3
    rw [if_neg q]
    by_cases q : x = 11
    · obtain ⟨s1, s2, a1, a2, a3, a4, a5⟩ := op_v (mk := .long) (aS := a_out S v1 v2) (fM := fun s => f_X11_out 130 v1 v2 s) h (C_out h.1 _ _) (fun s hs => M_out hs _ _) (W_look hwf)
      obtain ⟨t1, t2, t3, t4⟩ := rd s1 a4 a5
      rw [if_pos q, r1, Option.bind_some, r2, Option.bind_some, a1, rl_ok, t1, Option.bind_some, t2, Option.bind_some, a2, rl_ok, if_pos (cmp_eq.mpr rfl)]
      exact next s2 _ a3
    rw [if_neg q]
    by_cases q : x = 12
    · obtain ⟨s1, s2, a1, a2, a3, a4, a5⟩ := op_v (mk := .int) (aS := a_ceiling S v1) (fM := fun s => f_X11_ceiling 130 v1 s) h (C_ceiling h.1 hwf _) (fun s hs => M_ceiling hs hwf _) (W_take hwf)
      obtain ⟨t1, t2, t3, t4⟩ := rd s1 a4 a5
      rw [if_pos q, r1, Option.bind_some, a1, ri_ok, t1, Option.bind_some, a2, ri_ok, if_pos rfl]
      exact next s2 _ a3
    rw [if_neg q]
    by_cases q : x = 13
    · obtain ⟨s1, s2, a1, a2, a3, a4, a5⟩ := op_v (mk := .int) (aS := a_prefix S v1) (fM := fun s => f_X11_prefix 130 v1 s) h (C_prefix h.1 hwf _) (fun s hs => M_prefix hs _) (W_prefix hwf (LI_le h.1) _)
      obtain ⟨t1, t2, t3, t4⟩ := rd s1 a4 a5
      rw [if_pos q, r1, Option.bind_some, a1, ri_ok, t1, Option.bind_some, a2, ri_ok, if_pos rfl]
      exact next s2 _ a3
    rw [if_neg q]
    by_cases q : x = 14
    · obtain ⟨s1, s2, a1, a2, a3, a4, a5⟩ := op_v (mk := .int) (aS := a_cheapest S v1 v2) (fM := fun s => f_X11_cheapest 130 v1 v2 s) h (C_cheapest h.1 hwf _ _) (fun s hs => M_cheapest hs _ _) (W_cheapest hwf (LI_le h.1) _ _)
      obtain ⟨t1, t2, t3, t4⟩ := rd s1 a4 a5
      rw [if_pos q, r1, Option.bind_some, r2, Option.bind_some, a1, ri_ok, t1, Option.bind_some, t2, Option.bind_some, a2, ri_ok, if_pos rfl]
      exact next s2 _ a3
    rw [if_neg q]
    by_cases q : x = 15
    · obtain ⟨s1, s2, a1, a2, a3, a4, a5⟩ := op_v (mk := .int) (aS := a_meet S v1 v2) (fM := fun s => f_X11_meet 130 v1 v2 s) h (C_meet h.1 _ _) (fun s hs => M_meet hs _ _) (W_meet hwf (LI_le h.1) _ _)
      obtain ⟨t1, t2, t3, t4⟩ := rd s1 a4 a5
      rw [if_pos q, r1, Option.bind_some, r2, Option.bind_some, a1, ri_ok, t1, Option.bind_some, t2, Option.bind_some, a2, ri_ok, if_pos rfl]
      exact next s2 _ a3
    rw [if_neg q]
    by_cases q : x = 16
    · obtain ⟨s1, s2, a1, a2, a3, a4, a5⟩ := op_v (mk := .int) (aS := (sF S, S)) (fM := fun s => f_X11_fault 130 s) h (⟨st, C_fault h.1, h.1, onC_rfl⟩) (fun s hs => ⟨s, M_fault hs, hs, onM_rfl⟩) (hwf)
      obtain ⟨t1, t2, t3, t4⟩ := rd s1 a4 a5
      rw [if_pos q, a1, ri_ok, a2, ri_ok, if_pos rfl]
      exact next s2 _ a3
    rw [if_neg q]
    by_cases q : x = 17
    · obtain ⟨s1, s2, a1, a2, a3, a4, a5⟩ := op_v (mk := .int) (aS := (a_row S v1, S)) (fM := fun s => f_X11_row 130 v1 s) h (⟨st, C_row h.1 hwf _, h.1, onC_rfl⟩) (fun s hs => ⟨s, M_row hs hwf _, hs, onM_rfl⟩) (hwf)
      obtain ⟨t1, t2, t3, t4⟩ := rd s1 a4 a5
      rw [if_pos q, r1, Option.bind_some, a1, ri_ok, t1, Option.bind_some, a2, ri_ok, if_pos rfl]
      exact next s2 _ a3
    rw [if_neg q]
    by_cases q : x = 18
    · obtain ⟨s1, s2, a1, a2, a3, a4, a5⟩ := op_v (mk := .int) (aS := a_join S v1 v2 v3 v4) (fM := fun s => f_X11_join 130 v1 v2 v3 v4 s) h (C_join h.1 hwf _ _ _ _) (fun s hs => M_join hs (LI_co h.1) _ _ _ _) (W_join hwf _ _ _ _)
      obtain ⟨t1, t2, t3, t4⟩ := rd s1 a4 a5
      rw [if_pos q, r1, Option.bind_some, r2, Option.bind_some, r3, Option.bind_some, r4, Option.bind_some, a1, ri_ok, t1, Option.bind_some, t2, Option.bind_some, t3, Option.bind_some, t4, Option.bind_some, a2, ri_ok, if_pos rfl]
      exact next s2 _ a3
    rw [if_neg q]
    by_cases q : x = 19
    · obtain ⟨s1, s2, a1, a2, a3, a4, a5⟩ := op_v (mk := .int) (aS := a_packed S v1) (fM := fun s => f_X11_packed 130 v1 s) h (C_packed h.1 _) (fun s hs => M_packed hs hwf (LI_co h.1) _) (W_packed hwf (fun d hd => okD_M h.2.1 hwf (LI_co h.1) hd) _)
      obtain ⟨t1, t2, t3, t4⟩ := rd s1 a4 a5
      rw [if_pos q, r1, Option.bind_some, a1, ri_ok, t1, Option.bind_some, a2, ri_ok, if_pos rfl]
      exact next s2 _ a3
    rw [if_neg q]
    by_cases q : x = 20
    · obtain ⟨s1, s2, a1, a2, a3, a4, a5⟩ := op_v (mk := .int) (aS := (a_sign S v1, S)) (fM := fun s => f_X11_sign 130 v1 s) h (⟨st, C_sign h.1 hwf _, h.1, onC_rfl⟩) (fun s hs => ⟨s, M_sign hs hwf _, hs, onM_rfl⟩) (hwf)
      obtain ⟨t1, t2, t3, t4⟩ := rd s1 a4 a5
      rw [if_pos q, r1, Option.bind_some, a1, ri_ok, t1, Option.bind_some, a2, ri_ok, if_pos rfl]
      exact next s2 _ a3
    rw [if_neg q]
    by_cases q : x = 21
    · obtain ⟨s1, s2, a1, a2, a3, a4, a5⟩ := op_v (mk := .int) (aS := a_load S v1) (fM := fun s => f_X11_load 130 v1 s) h (C_load h.1 hwf _) (fun s hs => M_load hs _) (W_load hwf _)
      obtain ⟨t1, t2, t3, t4⟩ := rd s1 a4 a5
      rw [if_pos q, r1, Option.bind_some, a1, ri_ok, t1, Option.bind_some, a2, ri_ok, if_pos rfl]
      exact next s2 _ a3
    rw [if_neg q]
    by_cases q : x = 22
    · have b01' : ∀ v : Int32, (if v = 0 then (0 : Int32) else 1) = 0 ∨ (if v = 0 then (0 : Int32) else 1) = 1 := fun v => by split <;> simp
      obtain ⟨s1, s2, a1, a2, a3, a4, a5⟩ := op_v (mk := .int) (aS := a_walk S v1 v2 (if v3 = 0 then 0 else 1)) (fM := fun s => f_X11_walk 130 v1 v2 (if v3 = 0 then 0 else 1) s) h (C_walk h.1 hwf _ _ _ (b01' v3)) (fun s hs => M_walk hs hwf _ _ _ (b01' v3)) (W_walk hwf _ _ _ (b01' v3))
      obtain ⟨t1, t2, t3, t4⟩ := rd s1 a4 a5
      have e1 : ∀ (b : Int32) (s : ab_S), (if v3 = 0 then L_L_law_857 1 2 130 (nI i) 2 v1 v2 0 s else L_L_law_857 1 2 130 (nI i) 2 v1 v2 1 s) = L_L_law_857 1 2 130 (nI i) 2 v1 v2 (if v3 = 0 then 0 else 1) s := fun b s => by split <;> rfl
      have e2 : ∀ (x2 : Int32) (s : ab_S), (if v3 = 0 then L_L_law_884 1 2 130 (nI i) x2 130 v1 v2 0 s else L_L_law_884 1 2 130 (nI i) x2 130 v1 v2 1 s) = L_L_law_884 1 2 130 (nI i) x2 130 v1 v2 (if v3 = 0 then 0 else 1) s := fun x2 s => by split <;> rfl
      rw [if_pos q, r1, Option.bind_some, r2, Option.bind_some, r3, Option.bind_some, e1 0, e_L_law_857, a1, ri_ok, t1, Option.bind_some, t2, Option.bind_some, t3, Option.bind_some, e2, e_L_law_884, a2, ri_ok, if_pos rfl]
      exact next s2 _ a3
    rw [if_neg q]
    by_cases q : x = 23
    · obtain ⟨s1, s2, a1, a2, a3, a4, a5⟩ := op_v (mk := .int) (aS := a_next S v1) (fM := fun s => f_X11_next 130 v1 s) h (C_next h.1 hwf _) (fun s hs => M_next hs hwf _) (W_next hwf _)
      obtain ⟨t1, t2, t3, t4⟩ := rd s1 a4 a5
      rw [if_pos q, r1, Option.bind_some, a1, ri_ok, t1, Option.bind_some, a2, ri_ok, if_pos rfl]
      exact next s2 _ a3
    rw [if_neg q]
    exact next st S h
end LAW
