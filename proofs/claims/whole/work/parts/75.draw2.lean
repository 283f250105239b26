/-! THE MACHINE IS DRAWN -/
section DRAW2
variable {L : Nat} {st : ab_S} {D : Dc}
theorem rsts_nd : (rsts D).Nodup := ded_nodup List.nodup_nil
theorem rsts_mem {r : Dc} : r ∈ rsts D ↔ ∃ b ∈ begs D, rest D b = r := by
  unfold rsts
  rw [ded_mem]
  simp
theorem repr_ok {r : Dc} (h : r ∈ rsts D) : repr_b D r ∈ begs D ∧ rest D (repr_b D r) = r := by
  obtain ⟨b, hb, hr⟩ := rsts_mem.mp h
  unfold repr_b
  cases hf : (begs D).find? (fun b => decide (rest D b = r)) with
  | none =>
    have := List.find?_eq_none.mp hf b hb
    simp [hr] at this
  | some c =>
    exact ⟨List.mem_of_find?_eq_some hf, by simpa using List.find?_some hf⟩
def stQ (D : Dc) (b : List Nat) : Option Nat × Nat × List (Nat × Nat × Nat) := (lastO D b, (rest D b).length, arcsO D b)
theorem stQ_rest (hs : srt D) {b c : List Nat} (h : rest D b = rest D c) : stQ D b = stQ D c := by
  unfold stQ
  rw [arcs_rest hs h, h, ((rest_eq hs).mp h).1]
theorem mach_get (hs : srt D) {s : Nat} {r : Dc} (h : (rsts D)[s]? = some r) {b : List Nat} (hb : rest D b = r) : (mach D).2.2[s]? = some (stQ D b) := by
  have hm := List.mem_of_getElem? h
  obtain ⟨h1, h2⟩ := repr_ok hm
  unfold mach
  show ((rsts D).map _)[s]? = _
  rw [List.getElem?_map, h]
  show some (lastO D (repr_b D r), r.length, arcsO D (repr_b D r)) = some (stQ D b)
  rw [stQ_rest hs (show rest D b = rest D (repr_b D r) by rw [hb, h2])]
  unfold stQ
  rw [h2]
theorem mach_len : (mach D).2.2.length = (rsts D).length := by unfold mach; simp
theorem stOf_get {s : Nat} {b : List Nat} (h : (rsts D)[s]? = some (rest D b)) : stOf D b = s := idx_get rsts_nd h
/-- all states together have no more arcs than there are beginnings but the first -/
theorem arcs_all (h : okD D) (hn : ndS st D) : arcsB (mach D) (mach D).2.2.length ≤ 2400 := by
  have hn0 := begs_2401 h
  have hn1 : 0 < (begs D).length := by simp [begs]
  have e1 : arcsB (mach D) (mach D).2.2.length = ((rsts D).flatMap (fun r => kidx D (repR D r) 0)).length := by
    unfold arcsB
    rw [List.take_of_length_le (Nat.le_refl _), List.length_flatMap]
    unfold mach
    show (((rsts D).map _).map _).sum = _
    rw [List.map_map]
    congr 1
    apply List.map_congr_left
    intro r hr
    obtain ⟨b, hb, hbr⟩ := rsts_mem.mp hr
    obtain ⟨p1, p2⟩ := repR_ok hb
    rw [hbr] at p1 p2
    obtain ⟨-, h2⟩ := repr_ok hr
    show (arcsO D (repr_b D r)).length = (kidx D (repR D r) 0).length
    rw [arcs_rest h.1 (show rest D (repr_b D r) = rest D (nb D (repR D r)) by rw [h2]; exact p2.symm)]
    have := congrArg List.length (kidx_map h.1 (p := repR D r))
    rw [List.length_map, List.length_map] at this
    unfold arcsO
    rw [List.length_map, this]
  rw [e1]
  have hsub := sub_len (l := (rsts D).flatMap (fun r => kidx D (repR D r) 0)) (R := List.range' 1 ((begs D).length - 1)) ?_ ?_
  · rw [List.length_range'] at hsub
    omega
  · rw [List.nodup_iff_pairwise_ne, List.flatMap, List.pairwise_flatten]
    refine ⟨fun l hl => ?_, ?_⟩
    · obtain ⟨r, -, rfl⟩ := List.mem_map.mp hl
      exact List.Pairwise.sublist List.filter_sublist (List.nodup_iff_pairwise_ne.mp List.nodup_range')
    · rw [List.pairwise_map]
      refine List.Pairwise.imp_of_mem ?_ (List.nodup_iff_pairwise_ne.mp (rsts_nd (D := D)))
      intro r r' hr hr' hne x hx y hy hxy
      subst hxy
      obtain ⟨b, hb, hbr⟩ := rsts_mem.mp hr
      obtain ⟨b', hb', hbr'⟩ := rsts_mem.mp hr'
      obtain ⟨p1, p2⟩ := repR_ok hb
      obtain ⟨q1, q2⟩ := repR_ok hb'
      rw [hbr] at p1 p2
      rw [hbr'] at q1 q2
      obtain ⟨-, x2, x3⟩ := seg_mem.mp hx
      obtain ⟨-, y2, y3⟩ := seg_mem.mp hy
      obtain ⟨a, ha⟩ := isKid_iff.mp x3
      obtain ⟨a', ha'⟩ := isKid_iff.mp y3
      rw [ha] at ha'
      have := (List.append_inj' ha' rfl).1
      have := nb_inj h.1 p1 q1 this
      exact hne (by rw [← p2, ← q2, this])
  · intro j hj
    obtain ⟨r, hr, hjr⟩ := List.mem_flatMap.mp hj
    obtain ⟨b, hb, hbr⟩ := rsts_mem.mp hr
    obtain ⟨p1, p2⟩ := repR_ok hb
    rw [hbr] at p1
    obtain ⟨-, x2, x3⟩ := seg_mem.mp hjr
    have := (par_lt h.1 hn p1 x2 x3).1
    rw [List.mem_range'_1]
    omega
theorem draw_ok (h : okD D) (hF : FX st) {o : Nat} (ho : 66 ≤ o) (hM : MO st o) (hn : ndS st D) (hsz : sI st 6 13 = nI (begs D).length) (hlk : ∀ p, p < (begs D).length → lnk st 13 (sI st 12 p) (kidx D p 0)) (hal : ∀ j, j < (begs D).length → sI st 14 j = nI (rep D j)) (hN : NS st D (begs D).length) : ∃ st', f_X8_draw 6 o st = some (none, st') ∧ upto (fun q => o ≤ q ∧ q ≤ o + 6) st st' ∧ isMc st' o (mach D) := by
  have hn0 := begs_2401 h
  have hn1 : 0 < (begs D).length := by simp [begs]
  have hall := arcs_all h hn
  have hV : (1000000000000 : Nat) < 4611686018427387904 := by omega
  obtain ⟨n1, n2, n3⟩ := hN
  rw [rsK_all] at n1 n2 n3
  have hrl : (rsts D).length ≤ (begs D).length := by rw [← rsK_all]; exact rsK_len
  have hml := mach_len (D := D)
  have hl0 := least_hi h (b := [])
  have hnb0 : nb D 0 = [] := rfl
  obtain ⟨s4, c1, c2, c3⟩ := mclear_ok hM (l := least D []) (b := (begs D).length) (V := 1000000000000) hl0 (by omega)
  have frF : ∀ st1, upto (fun q => o ≤ q ∧ q ≤ o + 6) st st1 → FX st1 ∧ MO st1 o := fun st1 hu => ⟨FX_up hF hu, MO_up hM hu⟩
  -- the arcs of a state
  have k58 : ∀ (s : Nat) (r : Dc), (rsts D)[s]? = some r → ∀ (l : List Nat) (f : Int32) (i : Nat) (st1 : ab_S), lnk st1 13 f l → (∃ l', l' ++ l = kidx D (repR D r) 0 ∧ l'.length = i) → upto (fun q => o ≤ q ∧ q ≤ o + 6) st st1 → mcG st1 o (least D [], (begs D).length, (mach D).2.2.take s ++ [(lastO D (nb D (repR D r)), r.length, (arcsO D (nb D (repR D r))).take i)]) (rsts D).length 1000000000000 → ∃ st2, L_X8_draw_58 6 o (nI s) (nI (repR D r)) f (nI i) st1 = L_X8_draw_16 6 o (nI (s + 1)) st2 ∧ upto (fun q => o ≤ q ∧ q ≤ o + 6) st st2 ∧ mcG st2 o (least D [], (begs D).length, (mach D).2.2.take (s + 1)) (rsts D).length 1000000000000 := by
    intro s r hr l
    have hrm := List.mem_of_getElem? hr
    have hsl := (List.getElem?_eq_some_iff.mp hr).1
    obtain ⟨b, hb, hbr⟩ := rsts_mem.mp hrm
    obtain ⟨p1, p2⟩ := repR_ok hb
    rw [hbr] at p1 p2
    have hget := mach_get h.1 hr (b := nb D (repR D r)) p2
    have hkl := kidx_len h (p := repR D r)
    have hmap := kidx_map h.1 (p := repR D r)
    have htl : ((mach D).2.2.take s).length = s := by rw [List.length_take, hml]; omega
    generalize hv : repR D r = v at *
    have hal2 : (arcsO D (nb D v)).length = (kidx D v 0).length := by
      have := congrArg List.length hmap
      rw [List.length_map, List.length_map] at this
      unfold arcsO
      rw [List.length_map, this]
    induction l with
    | nil =>
      intro f i st1 hl ⟨l', h1, h2⟩ hu hG
      have hf : f = -1 := hl
      rw [List.append_nil] at h1
      have ht : (arcsO D (nb D v)).take i = arcsO D (nb D v) := List.take_of_length_le (by rw [hal2, ← h1, h2]; exact Nat.le_refl _)
      rw [ht] at hG
      refine ⟨st1, ?_, hu, ?_⟩
      · rw [e_X8_draw_58, if_pos hf, e_X8_draw_118, nI_1]
        simp
      · rw [List.take_succ, hget]
        have : stQ D (nb D v) = (lastO D (nb D v), r.length, arcsO D (nb D v)) := by unfold stQ; rw [show rest D (nb D v) = r from p2]
        rw [this]
        exact hG
    | cons j l ih =>
      intro f i st1 hl ⟨l', h1, h2⟩ hu hG
      obtain ⟨rfl, hj, hl''⟩ := hl
      obtain ⟨F1, M1⟩ := frF st1 hu
      have hu13 : sI st1 13 = sI st 13 := (hu.2.2 13 (by omega)).1
      have hil : i < (kidx D v 0).length := by rw [← h1, List.length_append, List.length_cons, h2]; omega
      have hjm : j ∈ kidx D v 0 := by rw [← h1]; simp
      obtain ⟨-, j2, j3⟩ := seg_mem.mp hjm
      obtain ⟨q1, a, q2, q3, q4, q5⟩ := par_lt h.1 hn p1 j2 j3
      obtain ⟨-, -, -, r1, -⟩ := hn j _ (nb_some j2)
      obtain ⟨-, -, -, r2, -⟩ := hn v _ (nb_some p1)
      have hah : a ∈ hds D (nb D v) := hds_begs.mpr (q3 ▸ List.mem_of_getElem? (nb_some j2))
      have hle := kid_le hah
      have hhi := least_hi h (b := nb D v ++ [a])
      obtain ⟨rj1, rj2, -⟩ := rep_ok j2
      obtain ⟨s', t1, t2⟩ : ∃ s', (rsts D)[s']? = some (rs D j) ∧ sI st 16 (rep D j) = nI s' := by
        rcases n2 j j2 with z | ⟨z, -⟩
        · exact z
        · exact absurd (rsts_mem.mpr ⟨nb D j, List.mem_of_getElem? (nb_some j2), rfl⟩) z
      have hs'l := (List.getElem?_eq_some_iff.mp t1).1
      have hso : stOf D (nb D v ++ [a]) = s' := by rw [← q3]; exact stOf_get t1
      have hgi : (arcsO D (nb D v))[i]? = some (a, s', least D (nb D v ++ [a]) - least D (nb D v)) := by
        have hki : (kidx D v 0)[i]? = some j := by rw [← h1, List.getElem?_append_right (by omega), h2, Nat.sub_self]; rfl
        have e : ((kidx D v 0).map (nb D))[i]? = some (nb D j) := by rw [List.getElem?_map, hki]; rfl
        rw [hmap, List.getElem?_map] at e
        unfold arcsO
        rw [List.getElem?_map]
        cases hx : (hds D (nb D v))[i]? with
        | none => rw [hx] at e; simp at e
        | some a' =>
          rw [hx] at e
          have e2 : nb D v ++ [a'] = nb D j := by simpa using e
          rw [q3] at e2
          have e3 := (List.append_inj' e2 rfl).2
          have : a' = a := by simpa using e3
          subst this
          show some (a', stOf D (nb D v ++ [a']), _) = _
          rw [hso]
      have hAB : arcsB (least D [], (begs D).length, (mach D).2.2.take s ++ [(lastO D (nb D v), r.length, (arcsO D (nb D v)).take i)]) (((mach D).2.2.take s).length + 1) = arcsB (mach D) s + i := by
        rw [arcsB_last]
        have e1 : arcsB (least D [], (begs D).length, (mach D).2.2.take s) ((mach D).2.2.take s).length = arcsB (mach D) s := by
          unfold arcsB
          rw [htl, List.take_take, Nat.min_self]
        rw [e1]
        show _ + ((arcsO D (nb D v)).take i).length = _
        rw [List.length_take, hal2]
        omega
      have hABs : arcsB (mach D) (s + 1) = arcsB (mach D) s + (arcsO D (nb D v)).length := by
        rw [arcsB_succ hget]; rfl
      have hABm : arcsB (mach D) (s + 1) ≤ arcsB (mach D) (mach D).2.2.length := arcsB_mono (by rw [hml]; omega)
      obtain ⟨st2, g1, g2, g3⟩ := putArc_ok M1 hG (by rw [hAB]; omega) (y := (a, s', least D (nb D v ++ [a]) - least D (nb D v))) q2 hs'l (show least D (nb D v ++ [a]) - least D (nb D v) ≤ 1000000000000 by omega)
      have hU := upto_trans hu g3
      have F2 := (frF st2 hU).1
      have htk : (arcsO D (nb D v)).take (i + 1) = (arcsO D (nb D v)).take i ++ [(a, s', least D (nb D v ++ [a]) - least D (nb D v))] := by rw [List.take_succ, hgi]; rfl
      rw [← htk] at g2
      have e13 : sI st2 13 = sI st1 13 := (g3.2.2 13 (by omega)).1
      have hout : sJ st1 10 j - sJ st1 10 v = lN (least D (nb D v ++ [a]) - least D (nb D v)) := by
        rw [(hu.2.2 10 (by omega)).2, r1, r2, q3, lN_sub hle]
      obtain ⟨st3, y1, y2, y3⟩ := ih (sI st2 13 j) (i + 1) st2 (by rw [e13]; exact lnk_eq (fun q _ => by rw [e13]) hl'') ⟨l' ++ [j], by rw [List.append_assoc]; exact h1, by simp [h2]⟩ hU g2
      refine ⟨st3, ?_, y2, y3⟩
      rw [e_X8_draw_58, nl 256, if_neg (by rw [c_le (by omega) (by omega)]; omega), if_neg (by rw [c_m1e (by omega)]; exact id), g6_1 F1, Option.bind_some, r8 F1 (by omega), Option.bind_some, (hu.2.2 8 (by omega)).1, q5, g6_9 F1, Option.bind_some, g6_7 F1, Option.bind_some, r14 F1 (by omega), Option.bind_some, (hu.2.2 14 (by omega)).1, hal j j2, r16 F1 (by omega), Option.bind_some, (hu.2.2 16 (by omega)).1, t2, output_ok F1 (by omega) (by omega), rl_ok, hout, g1, ri_ok, g6_6 F2, Option.bind_some, r13 F2 (by omega), Option.bind_some, nI_1, y1]
  -- state by state
  have k16 : ∀ k s st1, (rsts D).length - s = k → s ≤ (rsts D).length → upto (fun q => o ≤ q ∧ q ≤ o + 6) st st1 → mcG st1 o (least D [], (begs D).length, (mach D).2.2.take s) (rsts D).length 1000000000000 → ∃ st2, L_X8_draw_16 6 o (nI s) st1 = some (none, st2) ∧ upto (fun q => o ≤ q ∧ q ≤ o + 6) st st2 ∧ isMc st2 o (mach D) := by
    intro k
    induction k with
    | zero =>
      intro s st1 hk hs hu hG
      have hF1 := (frF st1 hu).1
      have ht : (mach D).2.2.take s = (mach D).2.2 := List.take_of_length_le (by rw [hml]; omega)
      rw [ht] at hG
      refine ⟨st1, ?_, hu, ?_⟩
      · rw [e_X8_draw_16, i6 hF1, Option.bind_some, (hu.2.2 6 (by omega)).1, n1, if_pos (by rw [c_le (by omega) (by omega)]; omega)]
      · rw [isMc_G, hml]
        exact hG
    | succ k ih =>
      intro s st1 hk hs hu hG
      obtain ⟨F1, M1⟩ := frF st1 hu
      have hr : (rsts D)[s]? = some (rsts D)[s] := List.getElem?_eq_getElem (by omega)
      generalize (rsts D)[s] = r at hr
      obtain ⟨b, hb, hbr⟩ := rsts_mem.mp (List.mem_of_getElem? hr)
      obtain ⟨p1, p2⟩ := repR_ok hb
      rw [hbr] at p1 p2
      have hnv := hn _ _ (nb_some p1)
      have htl : ((mach D).2.2.take s).length = s := by rw [List.length_take, hml]; omega
      have hlast : lastv st1 (repR D r) = lastI (lastO D (nb D (repR D r))) := by
        have := own_last h hn (nb_some p1)
        unfold lastv at this ⊢
        rw [(hu.2.2 11 (by omega)).2, (hu.2.2 10 (by omega)).2]
        exact this
      have hrows : sI st1 9 (repR D r) = nI r.length := by
        rw [(hu.2.2 9 (by omega)).1, hnv.2.2.1, ← rest_len]
        exact congrArg (fun z => nI (List.length z)) p2
      have hrl2 : r.length ≤ 200 := by
        rw [← hbr, rest_len]
        have := List.length_filter_le (fun y : List Nat × Nat => b.isPrefixOf y.1) D
        unfold mem_b
        have := h.2.1
        omega
      have hlv : ∀ u, lastO D (nb D (repR D r)) = some u → u ≤ 1000000000000 := fun u hu' => by
        obtain ⟨x, hx, -, hx2⟩ := rest_mem.mp ((lastO_iff h.1).mp hu')
        have := (h.2.2 x hx).2.2
        omega
      obtain ⟨st2, g1, g2, g3⟩ := putState_ok M1 hV hG (by rw [htl]; omega) hlv hrl2
      have hU := upto_trans hu g3
      have F2 := (frF st2 hU).1
      obtain ⟨st3, d1, d2, d3⟩ := k58 s r hr (kidx D (repR D r) 0) (sI st 12 (repR D r)) 0 st2 (lnk_eq (fun q _ => by rw [(hU.2.2 13 (by omega)).1]) (hlk _ p1)) ⟨[], rfl, rfl⟩ hU (by simpa using g2)
      obtain ⟨st4, e1, e2, e3⟩ := ih (s + 1) st3 (by omega) (by omega) d2 d3
      refine ⟨st4, ?_, e2, e3⟩
      rw [e_X8_draw_16, i6 F1, Option.bind_some, (hu.2.2 6 (by omega)).1, n1, if_neg (by rw [c_le (by omega) (by omega)]; omega), g6_10 F1, Option.bind_some, r17 F1 (by omega), Option.bind_some, (hu.2.2 17 (by omega)).1, n3 s r hr, lastOut_ok F1 (by omega), rl_ok, hlast, g6_2 F1, Option.bind_some, r9 F1 (by omega), Option.bind_some, hrows, g1, ri_ok, g6_5 F2, Option.bind_some, r12 F2 (by omega), Option.bind_some, (hU.2.2 12 (by omega)).1]
      show L_X8_draw_58 6 o (nI s) (nI (repR D r)) (sI st 12 (repR D r)) (nI 0) st2 = _
      rw [d1, e1]
  obtain ⟨s5, d1, d2, d3⟩ := k16 _ 0 s4 rfl (by omega) c3 (by
    obtain ⟨z1, z2, z3, z4, z5, z6, z7, z8⟩ := c2
    exact ⟨z1, z2, z3, z4, z5, z6, z7, fun s x hx => by simp at hx⟩)
  refine ⟨s5, ?_, d2, d3⟩
  have e0 : sJ st 10 0 = lN (least D []) := (hn 0 [] rfl).2.2.2.1
  rw [e_X8_draw_0, c6 hF, g6_3 hF, Option.bind_some]
  show Option.bind (ab_rJ st 10 (nI 0)) _ = _
  rw [r10 hF (by omega), Option.bind_some, e0, i6 hF, Option.bind_some, hsz, c1, rv_ok]
  exact d1
/-- build -/
theorem build_ok (hL : Fx L st) {o : Nat} (hod : o ∈ dO) (hT : isTm st (o + 1) D) (hs : srt D) : ∃ st', f_X8_build 6 o st = some (none, st') ∧ upto (fun q => (6 ≤ q ∧ q ≤ 19) ∨ (o + 5 ≤ q ∧ q ≤ o + 11)) st st' ∧ isMc st' (o + 5) (mach D) := by
  have hF : FX st := ⟨L, hL⟩
  have hol := dO_lt hod
  have hok : okD D := ⟨hs, hT.2.2.2.2.2.2.2.2.1, fun x hx => ⟨tm_len hT x hx, tm_256 hT x hx, tm_out hT x hx⟩⟩
  obtain ⟨s2, a1, a2, a3⟩ := plant_ok hF hT (by omega) hs
  have F2 := FX_up hF a2
  obtain ⟨s3, b1, b2, b3, b4, b5, b6⟩ := findAlike_ok hok F2 a3
  have F3 := FX_up F2 b2
  obtain ⟨s4, c1, c2, c3, c4⟩ := number_ok hok F3 b4 b6
  have F4 := FX_up F3 c2
  have u4 : upto (fun q => 6 ≤ q ∧ q ≤ 19) st s4 := upto_trans a2 (upto_trans (upto_mono b2 (fun q hq => by omega)) (upto_mono c2 (fun q hq => by omega)))
  have hM4 : MO s4 (o + 5) := MO_up (MO_of hL hod) u4
  obtain ⟨s5, d1, d2, d3⟩ := draw_ok hok F4 (by omega) hM4 (ndS_up b3 c2 (fun q _ _ => by omega)) c3 (fun p hp => by
    rw [(c2.2.2 12 (by omega)).1]
    exact lnk_eq (fun q _ => by rw [(c2.2.2 13 (by omega)).1]) (b5 p hp)) (fun j hj => by rw [(c2.2.2 14 (by omega)).1]; exact b6 j hj) c4
  refine ⟨s5, ?_, upto_trans (upto_mono u4 (fun q hq => Or.inl hq)) (upto_mono d2 (fun q hq => Or.inr (by omega))), d3⟩
  have sh : ∀ o, o ∈ dO → (S0 L)[o]? = some (0, 0) := by
    intro o ho
    simp only [dO, List.mem_cons, List.not_mem_nil, or_false] at ho
    rcases ho with rfl | rfl | rfl | rfl | rfl <;> rfl
  have r0 : ∀ o, o ∈ dO → (o, 0, o + 1) ∈ fxr := by decide +kernel
  have r1 : ∀ o, o ∈ dO → (o, 1, o + 5) ∈ fxr := by decide +kernel
  have L4 : Fx L s4 := Fx_up hL u4
  rw [e_X8_build_0, c6 hF, gR_ok (Fx_sh hL (sh o hod)), Option.bind_some, Fx_rf hL (r0 o hod), a1, rv_ok, b1, rv_ok, c1, rv_ok, gR_ok (Fx_sh L4 (sh o hod)), Option.bind_some, Fx_rf L4 (r1 o hod), d1, rv_ok]
end DRAW2
