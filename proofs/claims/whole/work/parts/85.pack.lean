/-! PACKED: the signs of a machine; the class writes them -/
theorem arcs_allP {D : Dc} (h : okD D) : arcsB (mach D) (mach D).2.2.length ≤ 2400 := by
  have hn0 := begs_2401 h
  have hn1 : 0 < (begs D).length := by simp [begs]
  have e1 : arcsB (mach D) (mach D).2.2.length = ((rsts D).flatMap (fun r => kidx D (repR D r) 0)).length := by
    unfold arcsB
    rw [List.take_of_length_le (Nat.le_refl _), List.length_flatMap]
    unfold mach
    show (((rsts D).map _).map _).sum = _
    rw [List.map_map]
    congr 1
    apply List.map_congr_left
    intro r hr
    obtain ⟨b, hb, hbr⟩ := rsts_mem.mp hr
    obtain ⟨p1, p2⟩ := repR_ok hb
    rw [hbr] at p1 p2
    obtain ⟨-, h2⟩ := repr_ok hr
    show (arcsO D (repr_b D r)).length = (kidx D (repR D r) 0).length
    rw [arcs_rest h.1 (show rest D (repr_b D r) = rest D (nb D (repR D r)) by rw [h2]; exact p2.symm)]
    have := congrArg List.length (kidx_map h.1 (p := repR D r))
    rw [List.length_map, List.length_map] at this
    unfold arcsO
    rw [List.length_map, this]
  rw [e1]
  have hsub := sub_len (l := (rsts D).flatMap (fun r => kidx D (repR D r) 0)) (R := List.range' 1 ((begs D).length - 1)) ?_ ?_
  · rw [List.length_range'] at hsub
    omega
  · rw [List.nodup_iff_pairwise_ne, List.flatMap, List.pairwise_flatten]
    refine ⟨fun l hl => ?_, ?_⟩
    · obtain ⟨r, -, rfl⟩ := List.mem_map.mp hl
      exact List.Pairwise.sublist List.filter_sublist (List.nodup_iff_pairwise_ne.mp List.nodup_range')
    · rw [List.pairwise_map]
      refine List.Pairwise.imp_of_mem ?_ (List.nodup_iff_pairwise_ne.mp (rsts_nd (D := D)))
      intro r r' hr hr' hne x hx y hy hxy
      subst hxy
      obtain ⟨b, hb, hbr⟩ := rsts_mem.mp hr
      obtain ⟨b', hb', hbr'⟩ := rsts_mem.mp hr'
      obtain ⟨p1, p2⟩ := repR_ok hb
      obtain ⟨q1, q2⟩ := repR_ok hb'
      rw [hbr] at p1 p2
      rw [hbr'] at q1 q2
      obtain ⟨-, x2, x3⟩ := seg_mem.mp hx
      obtain ⟨-, y2, y3⟩ := seg_mem.mp hy
      obtain ⟨a, ha⟩ := isKid_iff.mp x3
      obtain ⟨a', ha'⟩ := isKid_iff.mp y3
      rw [ha] at ha'
      have := (List.append_inj' ha' rfl).1
      have := nb_inj h.1 p1 q1 this
      exact hne (by rw [← p2, ← q2, this])
  · intro j hj
    obtain ⟨r, hr, hjr⟩ := List.mem_flatMap.mp hj
    obtain ⟨-, x2, x3⟩ := seg_mem.mp hjr
    rw [List.mem_range'_1]
    have : j ≠ 0 := by
      rintro rfl
      obtain ⟨a, ha⟩ := isKid_iff.mp x3
      rw [nb_get begs_0] at ha
      have := congrArg List.length ha
      simp at this
    omega
def numK : Nat → Nat → List Nat
  | 0, v => [v]
  | k + 1, v => if v ≤ 127 then [v] else (v % 128 + 128) :: numK k (v / 128)
def num (v : Nat) : List Nat := numK 5 v
def packS (x : QX) : List Nat := (match x.1 with | none => [0] | some v => 1 :: num v) ++ num x.2.2.length ++ x.2.2.flatMap (fun y => y.1 :: (num y.2.1 ++ num y.2.2))
def pkT (M : MM) (s : Nat) : List Nat := [84, 77] ++ num M.1 ++ num M.2.2.length ++ (M.2.2.take s).flatMap packS
def packM (M : MM) : List Nat := [84, 77] ++ num M.1 ++ num M.2.2.length ++ M.2.2.flatMap packS
theorem numK_len : ∀ {k v : Nat}, (numK k v).length ≤ k + 1
  | 0, _ => Nat.le_refl _
  | k + 1, v => by
    unfold numK
    split
    · simp
    · have := numK_len (k := k) (v := v / 128)
      simp only [List.length_cons]
      omega
theorem numK_small : ∀ {k v : Nat}, v < 16384 → (numK k v).length ≤ 2
  | 0, _, _ => by simp [numK]
  | k + 1, v, h => by
    unfold numK
    split
    · simp
    · have h2 : v / 128 ≤ 127 := by omega
      cases k with
      | zero => simp [numK]
      | succ k => unfold numK; rw [if_pos h2]; simp
theorem numK_256 : ∀ {k v : Nat}, v < 128 ^ (k + 1) → ∀ s ∈ numK k v, s < 256
  | 0, v, h, s, hs => by simp [numK] at hs; omega
  | k + 1, v, h, s, hs => by
    unfold numK at hs
    split at hs
    · simp at hs; omega
    · rcases List.mem_cons.mp hs with q | q
      · omega
      · refine numK_256 (k := k) (v := v / 128) ?_ s q
        rw [Nat.pow_succ] at h
        exact Nat.div_lt_of_lt_mul (by omega)
theorem num_len {v : Nat} : (num v).length ≤ 6 := numK_len
theorem num_small {v : Nat} (h : v < 16384) : (num v).length ≤ 2 := numK_small h
theorem num_256 {v : Nat} (h : v ≤ 1000000000000) : ∀ s ∈ num v, s < 256 := numK_256 (k := 5) (by omega)
def bQ (x : QX) : Prop := (∀ v, x.1 = some v → v ≤ 1000000000000) ∧ x.2.2.length ≤ 2400 ∧ ∀ y ∈ x.2.2, y.1 < 256 ∧ y.2.1 < 2401 ∧ y.2.2 ≤ 1000000000000
def bM (M : MM) : Prop := M.1 ≤ 1000000000000 ∧ M.2.2.length ≤ 2401 ∧ (∀ x ∈ M.2.2, bQ x) ∧ arcsB M M.2.2.length ≤ 2400
theorem bM_mc {st : ab_S} {o : Nat} {M : MM} (h : isMc st o M) : bM M := by
  have hG := isMc_G.mp h
  obtain ⟨m1, m2, m3, m4, m5, m6, ⟨m7, m8, m9, m10⟩, m11⟩ := h
  refine ⟨m7, m9, fun x hx => ?_, m10⟩
  obtain ⟨s, hs⟩ := List.getElem?_of_mem hx
  obtain ⟨n1, n2, n3, n4, n5, n6, n7⟩ := m11 s x hs
  refine ⟨n2, by have := (arcs_le hG hs).2; omega, fun y hy => ?_⟩
  obtain ⟨j, hj⟩ := List.getElem?_of_mem hy
  obtain ⟨y1, y2, y3, y4, y5, y6⟩ := n7 j y hj
  exact ⟨y2, by omega, y6⟩
theorem bM_ok {D : Dc} (h : okD D) : bM (mach D) := by
  have hlm : (mach D).2.2.length ≤ 2401 := by rw [mach_len]; exact rsts_len h
  refine ⟨least_hi h, hlm, fun x hx => ?_, arcs_allP h⟩
  obtain ⟨s, hs⟩ := List.getElem?_of_mem hx
  have hsl := (List.getElem?_eq_some_iff.mp hs).1
  rw [mach_len] at hsl
  have hg : (rsts D)[s]? = some (rsts D)[s] := List.getElem?_eq_getElem hsl
  obtain ⟨b, hb, hbr⟩ := rsts_mem.mp (List.mem_of_getElem? hg)
  have := mach_get h.1 hg hbr
  rw [hs] at this
  cases this
  refine ⟨fun v hv => ?_, ?_, fun y hy => ?_⟩
  · change lastO D b = some v at hv
    obtain ⟨x, hx, -, hx2⟩ := rest_mem.mp ((lastO_iff h.1).mp hv)
    have := (h.2.2 x hx).2.2
    omega
  · show (arcsO D b).length ≤ 2400
    rw [arcs_hds]
    have := hds_len h (b := b)
    omega
  · obtain ⟨a, ha, rfl⟩ := List.mem_map.mp hy
    have h1 := least_hi h (b := b ++ [a])
    have h2 := (List.getElem?_eq_some_iff.mp (stOf_lt (hds_begs.mp ha))).1
    have h3 := rsts_len h
    exact ⟨hds_256 h ha, by show stOf D (b ++ [a]) < 2401; omega, by show least D (b ++ [a]) - least D b ≤ _; omega⟩
theorem packS_len {x : QX} (h : bQ x) : (packS x).length ≤ 9 + 9 * x.2.2.length := by
  unfold packS
  have e : ∀ l : List (Nat × Nat × Nat), (∀ y ∈ l, y.1 < 256 ∧ y.2.1 < 2401 ∧ y.2.2 ≤ 1000000000000) → (l.flatMap (fun y => y.1 :: (num y.2.1 ++ num y.2.2))).length ≤ 9 * l.length := by
    intro l
    induction l with
    | nil => intro _; simp
    | cons y l ih =>
      intro hl
      have h1 := num_small (v := y.2.1) (by have := (hl y List.mem_cons_self).2.1; omega)
      have h2 := num_len (v := y.2.2)
      have := ih (fun z hz => hl z (List.mem_cons_of_mem _ hz))
      simp only [List.flatMap_cons, List.length_append, List.length_cons] at this ⊢
      omega
  have h1 := e x.2.2 h.2.2
  have h2 := num_small (v := x.2.2.length) (by have := h.2.1; omega)
  rw [List.length_append, List.length_append]
  cases hx : x.1 with
  | none => simp only [List.length_singleton]; omega
  | some v => have := num_len (v := v); simp only [List.length_cons]; omega
theorem flat_len : ∀ {Q : QS}, (∀ x ∈ Q, bQ x) → (Q.flatMap packS).length ≤ 9 * Q.length + 9 * (Q.map (fun x => x.2.2.length)).sum
  | [], _ => by simp
  | x :: Q, h => by
    have h1 := packS_len (h x List.mem_cons_self)
    have := flat_len (Q := Q) (fun z hz => h z (List.mem_cons_of_mem _ hz))
    simp only [List.flatMap_cons, List.length_append, List.length_cons, List.map_cons, List.sum_cons]
    omega
theorem packM_len {M : MM} (h : bM M) : (packM M).length ≤ 43219 := by
  unfold packM
  have h1 := flat_len h.2.2.1
  have h2 := num_len (v := M.1)
  have h3 := num_small (v := M.2.2.length) (by have := h.2.1; omega)
  have h4 := h.2.2.2
  unfold arcsB at h4
  rw [List.take_of_length_le (Nat.le_refl _)] at h4
  have h5 := h.2.1
  simp only [List.length_append, List.length_cons, List.length_nil]
  omega
theorem pkT_all {M : MM} : pkT M M.2.2.length = packM M := by
  unfold pkT packM
  rw [List.take_of_length_le (Nat.le_refl _)]
theorem pkT_succ {M : MM} {s : Nat} {x : QX} (h : M.2.2[s]? = some x) : pkT M (s + 1) = pkT M s ++ packS x := by
  unfold pkT
  rw [List.take_succ, h, List.flatMap_append]
  simp
theorem pkT_pre {M : MM} {s : Nat} : pkT M s <+: packM M := by
  unfold pkT packM
  rw [List.prefix_append_right_inj]
  have : M.2.2 = M.2.2.take s ++ M.2.2.drop s := (List.take_append_drop s M.2.2).symm
  rw [show M.2.2.flatMap packS = (M.2.2.take s ++ M.2.2.drop s).flatMap packS from congrArg _ this, List.flatMap_append]
  exact List.prefix_append _ _
theorem pkT_len {M : MM} (h : bM M) (s : Nat) : (pkT M s).length ≤ 43219 := Nat.le_trans (pkT_pre (M := M) (s := s)).length_le (packM_len h)
theorem packM_256 {M : MM} (h : bM M) : ∀ s ∈ packM M, s < 256 := by
  intro s hs
  have hm : ∀ v, v ≤ 1000000000000 → s ∈ num v → s < 256 := fun v hv q => num_256 hv s q
  unfold packM at hs
  simp only [List.mem_append, List.mem_cons, List.not_mem_nil, or_false] at hs
  rcases hs with ((q | q) | q) | q
  · omega
  · exact hm _ h.1 q
  · exact hm _ (by have := h.2.1; omega) q
  · obtain ⟨x, hx, hs⟩ := List.mem_flatMap.mp q
    obtain ⟨b1, b2, b3⟩ := h.2.2.1 x hx
    unfold packS at hs
    simp only [List.mem_append] at hs
    rcases hs with (q | q) | q
    · cases hx1 : x.1 with
      | none => rw [hx1] at q; simp at q; omega
      | some v =>
        rw [hx1] at q
        rcases List.mem_cons.mp q with q | q
        · omega
        · exact hm _ (b1 v hx1) q
    · exact hm _ (by omega) q
    · obtain ⟨y, hy, hs⟩ := List.mem_flatMap.mp q
      obtain ⟨c1, c2, c3⟩ := b3 y hy
      rcases List.mem_cons.mp hs with q | q
      · omega
      · rcases List.mem_append.mp q with q | q
        · exact hm _ (by omega) q
        · exact hm _ c3 q
section PKC
variable {L : Nat} {st : ab_S} {a room : Nat} {w : List Nat}
theorem nI_bv {n : Nat} (h : n < 4294967296) : (nI n).toBitVec.toNat = n := by
  show (BitVec.ofNat 32 n).toNat = n
  rw [BitVec.toNat_ofNat, Nat.mod_eq_of_lt h]
theorem putn_ok (h : isSg st a room w) {s : Nat} (hs : s < 256) (hl : w.length + 1 < 100000000) : ∃ st', f_X6_put a (nI s) st = some (none, st') ∧ isSg st' a room (w ++ [s]) ∧ upto (fun q => q = a ∨ q = a + 1) st st' := by
  obtain ⟨st', h1, h2, h3⟩ := put_ok h (nI s) hl
  rw [nI_bv (by omega), Nat.mod_eq_of_lt hs] at h2
  exact ⟨st', h1, h2, h3⟩
theorem or128 : ∀ m, m < 128 → nI m ||| (128 : Int32) = nI (m + 128) := by decide +kernel
theorem wnum_ok (h : isSg st a room w) {v : Nat} (hv : v ≤ 1000000000000) (hl : w.length + 10 < 100000000) : ∃ st', f_X3_writeNumber (lN v) a st = some (none, st') ∧ isSg st' a room (w ++ num v) ∧ upto (fun q => q = a ∨ q = a + 1) st st' := by
  have fin : ∀ (st : ab_S) (w : List Nat) v, isSg st a room w → v ≤ 127 → w.length + 1 < 100000000 → ∃ st', L_X3_writeNumber_45 a (lN v) st = some (none, st') ∧ isSg st' a room (w ++ [v]) ∧ upto (fun q => q = a ∨ q = a + 1) st st' := by
    intro st w v h hv hl
    obtain ⟨st', h1, h2, h3⟩ := putn_ok h (s := v) (by omega) hl
    refine ⟨st', ?_, h2, h3⟩
    rw [e_X3_writeNumber_45, lN_i, h1, rv_ok]
  have key : ∀ k i v (st : ab_S) (w : List Nat), i + k = 6 → 1 ≤ i → v < 128 ^ (k + 1) → isSg st a room w → w.length + k + 1 < 100000000 → ∃ st', L_X3_writeNumber_5 a (lN v) (nI i) st = some (none, st') ∧ isSg st' a room (w ++ numK k v) ∧ upto (fun q => q = a ∨ q = a + 1) st st' := by
    intro k
    induction k with
    | zero =>
      intro i v st w hi h1 hv hs hl
      rw [e_X3_writeNumber_5, nl 6, if_pos (by rw [c_le (by omega) (by omega)]; omega)]
      exact fin st w v hs (by omega) (by omega)
    | succ k ih =>
      intro i v st w hi h1 hv hs hl
      have hv42 : v < 4611686018427387904 := by
        have : 128 ^ (k + 1 + 1) ≤ 128 ^ 6 := Nat.pow_le_pow_right (by omega) (by omega)
        omega
      rw [e_X3_writeNumber_5, nl 6, if_neg (by rw [c_le (by omega) (by omega)]; omega)]
      unfold numK
      by_cases hle : v ≤ 127
      · rw [if_pos (c := lg_cmp (lN v) 127 ≤ 0) ((lc_le (b := 127) (by omega) (by omega)).mpr hle), if_pos hle]
        exact fin st w v hs hle (by omega)
      · rw [if_neg (c := lg_cmp (lN v) 127 ≤ 0) (fun q => hle ((lc_le (b := 127) (by omega) (by omega)).mp q)), if_neg hle]
        have e1 : (lN v &&& (127 : Int64)) = lN (v % 128) := wb_mask (k := 7) (by omega) (by omega)
        obtain ⟨st', p1, p2, p3⟩ := putn_ok hs (s := v % 128 + 128) (by omega) (by omega)
        rw [e1, lN_i, or128 _ (by omega), p1, rv_ok]
        have e2 : ((lN v).toUInt64 >>> ((7 : Int32).toInt64.toUInt64 &&& Int64.toUInt64 63)).toInt64 = lN (v / 128) := wb_shr (k := 7) (by omega) (by omega)
        rw [e2, nI_1]
        obtain ⟨st2, q1, q2, q3⟩ := ih (i + 1) (v / 128) st' (w ++ [v % 128 + 128]) (by omega) (by omega) (by rw [Nat.pow_succ] at hv; exact Nat.div_lt_of_lt_mul (by omega)) p2 (by rw [List.length_append, List.length_singleton]; omega)
        refine ⟨st2, q1, ?_, upto_trans p3 q3⟩
        rw [List.append_assoc] at q2
        exact q2
  rw [e_X3_writeNumber_0]
  exact key 5 1 v st w rfl (by omega) (by omega) h (by omega)
theorem mcG_up {W : Nat → Prop} {st' : ab_S} {o B V : Nat} {M : MM} (h : mcG st o M B V) (hu : upto W st st') (hW : ∀ q, o ≤ q → q ≤ o + 6 → ¬ W q) : mcG st' o M B V := by
  unfold mcG at h ⊢
  rw [(hu.2.2 o (hW _ (by omega) (by omega))).1, (hu.2.2 o (hW _ (by omega) (by omega))).2, (hu.2.2 (o + 1) (hW _ (by omega) (by omega))).1, (hu.2.2 (o + 2) (hW _ (by omega) (by omega))).2, (hu.2.2 (o + 3) (hW _ (by omega) (by omega))).1, (hu.2.2 (o + 4) (hW _ (by omega) (by omega))).1, (hu.2.2 (o + 5) (hW _ (by omega) (by omega))).1, (hu.2.2 (o + 6) (hW _ (by omega) (by omega))).2]
  exact h
theorem wstate_ok (hF : Fx L st) {o : Nat} {M : MM} (hO : MO st o) (hM : mcG st o M M.2.2.length 1000000000000) (hao : a + 1 < o ∨ o + 6 < a) (h : isSg st a room w) {s : Nat} {x : QX} (hx : M.2.2[s]? = some x) (hl : w.length < 90000000) : ∃ st', f_X3_writeState 20 o (nI s) a st = some (none, st') ∧ isSg st' a room (w ++ packS x) ∧ upto (fun q => q = a ∨ q = a + 1) st st' := by
  have hB := bM_mc (isMc_G.mpr hM)
  obtain ⟨b1, b2, b3⟩ := hB.2.2.1 x (List.mem_of_getElem? hx)
  have hs := (arcs_le hM hx).1
  have hML := hM.2.2.2.2.2.2.1.2.2.1
  have aO : atO M.2.2 (nI s) = some x := by rw [atO_n (by omega)]; exact hx
  have far : ∀ q, o ≤ q → q ≤ o + 6 → ¬ (q = a ∨ q = a + 1) := fun q _ _ => by omega
  -- the arcs
  have arcs : ∀ k i (st1 : ab_S) (w1 : List Nat), x.2.2.length - i = k → i ≤ x.2.2.length → upto (fun q => q = a ∨ q = a + 1) st st1 → isSg st1 a room w1 → w1.length + 20 * k < 99999900 → ∃ st', L_X3_writeState_52 o (nI s) a (nI x.2.2.length) (nI i) st1 = some (none, st') ∧ isSg st' a room (w1 ++ (x.2.2.drop i).flatMap (fun y => y.1 :: (num y.2.1 ++ num y.2.2))) ∧ upto (fun q => q = a ∨ q = a + 1) st st' := by
    intro k
    induction k with
    | zero =>
      intro i st1 w1 hk hi hu h1 hl1
      rw [e_X3_writeState_52, if_pos (by rw [c_le (by omega) (by omega)]; omega), List.drop_eq_nil_of_le (by omega)]
      exact ⟨st1, rfl, by simpa using h1, hu⟩
    | succ k ih =>
      intro i st1 w1 hk hi hu h1 hl1
      have hg : x.2.2[i]? = some x.2.2[i] := List.getElem?_eq_getElem (by omega)
      have hdr : x.2.2.drop i = x.2.2[i] :: x.2.2.drop (i + 1) := List.drop_eq_getElem_cons (by omega)
      obtain ⟨c1, c2, c3⟩ := b3 _ (List.mem_of_getElem? hg)
      have eA : arcI M (nI s) (nI i) = some x.2.2[i] := by
        unfold arcI
        rw [aO]
        show atO x.2.2 (nI i) = _
        rw [atO_n (by omega)]; exact hg
      rw [hdr, List.flatMap_cons]
      generalize x.2.2[i] = y at *
      obtain ⟨s2, p1, p2, p3⟩ := putn_ok h1 (s := y.1) c1 (by omega)
      have u2 := upto_trans hu p3
      obtain ⟨s3, q1, q2, q3⟩ := wnum_ok p2 (v := y.2.1) (by omega) (by rw [List.length_append, List.length_singleton]; omega)
      have u3 := upto_trans u2 q3
      have n1 := num_len (v := y.2.1)
      have n2 := num_len (v := y.2.2)
      obtain ⟨s4, r1, r2, r3⟩ := wnum_ok q2 (v := y.2.2) c3 (by simp only [List.length_append, List.length_singleton]; omega)
      have u4 := upto_trans u3 r3
      obtain ⟨s5, t1, t2, t3⟩ := ih (i + 1) s4 _ (by omega) (by omega) u4 r2 (by simp only [List.length_append, List.length_singleton]; omega)
      refine ⟨s5, ?_, ?_, t3⟩
      · rw [e_X3_writeState_52, if_neg (by rw [c_le (by omega) (by omega)]; omega), tellArc_ok (MO_up hO hu) (mcG_up hM hu far) hML, rl_ok, eA]
        show ab_rv (f_X6_put a (lN y.1).toInt32 st1) _ = _
        rw [lN_i, p1, rv_ok, tellArc_ok (MO_up hO u2) (mcG_up hM u2 far) hML, rl_ok, eA]
        show ab_rv (f_X3_writeNumber (lN y.2.1) a s2) _ = _
        rw [q1, rv_ok, tellArc_ok (MO_up hO u3) (mcG_up hM u3 far) hML, rl_ok, eA]
        show ab_rv (f_X3_writeNumber (lN y.2.2) a s3) _ = _
        rw [r1, rv_ok, nI_1]
        exact t1
      · simp only [List.append_assoc, List.cons_append, List.nil_append] at t2 ⊢
        exact t2
  have mid : ∀ (st1 : ab_S) (w1 : List Nat), upto (fun q => q = a ∨ q = a + 1) st st1 → isSg st1 a room w1 → w1.length < 90000100 → ∃ st', L_X3_writeState_35 o (nI s) a st1 = some (none, st') ∧ isSg st' a room (w1 ++ num x.2.2.length ++ x.2.2.flatMap (fun y => y.1 :: (num y.2.1 ++ num y.2.2))) ∧ upto (fun q => q = a ∨ q = a + 1) st st' := by
    intro st1 w1 hu h1 hl1
    obtain ⟨s2, q1, q2, q3⟩ := wnum_ok h1 (v := x.2.2.length) (by omega) (by omega)
    have n1 := num_len (v := x.2.2.length)
    obtain ⟨s3, t1, t2, t3⟩ := arcs _ 0 s2 _ rfl (Nat.zero_le _) (upto_trans hu q3) q2 (by rw [List.length_append]; omega)
    refine ⟨s3, ?_, by rw [List.drop_zero] at t2; exact t2, t3⟩
    rw [e_X3_writeState_35, arcsOf_ok (MO_up hO hu) (mcG_up hM hu far), ri_ok, aO]
    show ab_rv (f_X3_writeNumber (nI x.2.2.length).toInt64 a st1) _ = _
    rw [nI_l (by omega), q1, rv_ok]
    exact t1
  have hc20 : (sH st)[20]? = some (0, 3) := Fx_sh hF rfl
  have hc : x.1 = none ∨ ∃ v, x.1 = some v := by cases x.1 <;> simp
  rcases hc with hx1 | ⟨v, hx1⟩
  · have el : f_X1_lastOf o (nI s) st = some (some (.long (-1)), st) := by
      rw [lastOf_ok hO hM, aO]
      show some (some (Value.long (lastI x.1)), st) = _
      rw [hx1]; rfl
    have ep : packS x = [0] ++ num x.2.2.length ++ x.2.2.flatMap (fun y => y.1 :: (num y.2.1 ++ num y.2.2)) := by unfold packS; rw [hx1]
    obtain ⟨s2, p1, p2, p3⟩ := putn_ok h (s := 0) (by omega) (by omega)
    obtain ⟨s3, t1, t2, t3⟩ := mid s2 _ p3 p2 (by rw [List.length_append, List.length_singleton]; omega)
    refine ⟨s3, ?_, by rw [ep]; simp only [List.append_assoc] at t2 ⊢; exact t2, t3⟩
    rw [e_X3_writeState_0, rc_ok hc20, el, rl_ok, if_pos (cmp_eq.mpr rfl), show (0 : Int32) = nI 0 from rfl, p1, rv_ok]
    exact t1
  · have el : f_X1_lastOf o (nI s) st = some (some (.long (lN v)), st) := by
      rw [lastOf_ok hO hM, aO]
      show some (some (Value.long (lastI x.1)), st) = _
      rw [hx1]; rfl
    have ep : packS x = (1 :: num v) ++ num x.2.2.length ++ x.2.2.flatMap (fun y => y.1 :: (num y.2.1 ++ num y.2.2)) := by unfold packS; rw [hx1]
    have hv := b1 v hx1
    obtain ⟨s2, p1, p2, p3⟩ := putn_ok h (s := 1) (by omega) (by omega)
    obtain ⟨s2', q1, q2, q3⟩ := wnum_ok p2 (v := v) hv (by rw [List.length_append, List.length_singleton]; omega)
    have n1 := num_len (v := v)
    obtain ⟨s3, t1, t2, t3⟩ := mid s2' _ (upto_trans p3 q3) q2 (by simp only [List.length_append, List.length_singleton]; omega)
    refine ⟨s3, ?_, by rw [ep]; simp only [List.append_assoc, List.cons_append, List.nil_append] at t2 ⊢; exact t2, t3⟩
    rw [e_X3_writeState_0, rc_ok hc20, el, rl_ok, if_neg (fun q => by
      have := (lastI_m1 (v := some v) (V := 1000000000000) (fun u hu => by cases hu; exact hv) (by decide)).mp (cmp_eq.mp q)
      cases this), show (1 : Int32) = nI 1 from rfl, p1, rv_ok, q1, rv_ok]
    exact t1
theorem write_cls (hF : Fx L st) {o : Nat} {M : MM} (hO : MO st o) (hM : isMc st o M) (hao : a + 1 < o ∨ o + 6 < a) (h : isSg st a room w) : ∃ st', f_X3_write 20 o a st = some (none, st') ∧ isSg st' a room (packM M) ∧ upto (fun q => q = a ∨ q = a + 1) st st' := by
  have hG := isMc_G.mp hM
  have hB := bM_mc hM
  have hML := hB.2.1
  have far : ∀ q, o ≤ q → q ≤ o + 6 → ¬ (q = a ∨ q = a + 1) := fun q _ _ => by omega
  have key : ∀ k s (st1 : ab_S), M.2.2.length - s = k → s ≤ M.2.2.length → upto (fun q => q = a ∨ q = a + 1) st st1 → isSg st1 a room (pkT M s) → ∃ st', L_X3_write_35 20 o a (nI s) st1 = some (none, st') ∧ isSg st' a room (packM M) ∧ upto (fun q => q = a ∨ q = a + 1) st st' := by
    intro k
    induction k with
    | zero =>
      intro s st1 hk hs hu h1
      refine ⟨st1, ?_, ?_, hu⟩
      · rw [e_X3_write_35, mi (MO_up hO hu), Option.bind_some, (mcG_up hG hu far).2.1, if_pos (by rw [c_le (by omega) (by omega)]; omega)]
      · rw [← pkT_all, show M.2.2.length = s by omega]; exact h1
    | succ k ih =>
      intro s st1 hk hs hu h1
      have hg : M.2.2[s]? = some M.2.2[s] := List.getElem?_eq_getElem (by omega)
      have hlen := pkT_len hB s
      obtain ⟨s2, p1, p2, p3⟩ := wstate_ok (Fx_up hF hu) (MO_up hO hu) (mcG_up hG hu far) hao h1 hg (by omega)
      rw [← pkT_succ hg] at p2
      rw [e_X3_write_35, mi (MO_up hO hu), Option.bind_some, (mcG_up hG hu far).2.1, if_neg (by rw [c_le (by omega) (by omega)]; omega), p1, rv_ok, nI_1]
      exact ih (s + 1) s2 (by omega) (by omega) (upto_trans hu p3) p2
  obtain ⟨c1, c2⟩ := clear_ok h
  have u1 : upto (fun q => q = a ∨ q = a + 1) st (uI st a 1 0) := upto_uI (Or.inl rfl)
  obtain ⟨s2, p1, p2, p3⟩ := putn_ok c2 (s := 84) (by omega) (by simp)
  obtain ⟨s3, q1, q2, q3⟩ := putn_ok p2 (s := 77) (by omega) (by simp)
  have u3 := upto_trans u1 (upto_trans p3 q3)
  obtain ⟨s4, r1, r2, r3⟩ := wnum_ok q2 (v := M.1) hB.1 (by simp)
  have u4 := upto_trans u3 r3
  have n1 := num_len (v := M.1)
  obtain ⟨s5, t1, t2, t3⟩ := wnum_ok r2 (v := M.2.2.length) (by omega) (by simp only [List.length_append, List.length_singleton, List.length_nil]; omega)
  have e0 : pkT M 0 = ((([] ++ [84]) ++ [77]) ++ num M.1) ++ num M.2.2.length := by unfold pkT; simp
  rw [← e0] at t2
  obtain ⟨s6, v1, v2, v3⟩ := key _ 0 s5 rfl (Nat.zero_le _) (upto_trans u4 t3) t2
  refine ⟨s6, ?_, v2, v3⟩
  have hc20 : (sH st)[20]? = some (0, 3) := Fx_sh hF rfl
  rw [e_X3_write_0, rc_ok hc20, c1, rv_ok, show (84 : Int32) = nI 84 from rfl, p1, rv_ok, show (77 : Int32) = nI 77 from rfl, q1, rv_ok, mj (MO_up hO u3), Option.bind_some, (mcG_up hG u3 far).1, r1, rv_ok, mi (MO_up hO u4), Option.bind_some, (mcG_up hG u4 far).2.1, nI_l (by omega), t1, rv_ok]
  exact v1
end PKC
def pack (D : Dc) : List Nat := packM (mach D)
def setP (S : Sg) (w : List Nat) : Sg := (sW S, sD S, sO S, sA S, sK S, sM S, sF S, w)
def a_packed (S : Sg) (d : Int32) : Int32 × Sg := withD d (-2, S) fun k => if sO S k = false then (nI (pack (sD S k)).length, setP S (pack (sD S k))) else (-4, S)
section PKD
variable {L : Nat} {st : ab_S} {S : Sg}
theorem C_packed (h : CS L st S) (d : Int32) : ∃ st', f_X10_packed 2 d st = some (some (.int (a_packed S d).1), st') ∧ CS L st' (a_packed S d).2 ∧ onC st st' := by
  unfold a_packed
  rcases isD_cases d with hd | ⟨k, hd, rfl⟩
  · rw [withD_no hd]
    exact ⟨st, by rw [e_X10_packed_0, rc_ok (sh2 h), cD_no hd, ri_ok, if_pos rfl], h, onC_rfl⟩
  · rw [withD_n hd]
    obtain ⟨o, ho, q1, q2, q3, q4, q5⟩ := dic_at h hd
    have hol := dO_lt ho
    rw [e_X10_packed_0, rc_ok (sh2 h), cD_ok hd, ri_ok, if_neg (by decide), gR_ok (sh2 h), Option.bind_some, rf2_0 h, q1, Option.bind_some, gI_ok q2, Option.bind_some, q5.2.1]
    by_cases hb : sO S k = false
    · rw [bi0 hb, if_pos hb, gR_ok (sh2 h), Option.bind_some, Option.bind_some, q1, Option.bind_some, gR_ok q2, Option.bind_some, gR_ok (sh2 h), Option.bind_some, Fx_rf h.1 (v := 20) (by decide), q4, Fx_rf h.1 (v := 57) (by decide)]
      obtain ⟨s1, a1, a2, a3⟩ := write_cls h.1 (MO_of h.1 ho) (q5.2.2 hb) (by omega) h.2.2.2.2.2.2.2.1
      have F1 := Fx_up h.1 a3
      have t2 : (sH s1)[2]? = some (0, 10) := Fx_sh F1 rfl
      refine ⟨s1, ?_, ?_, onC_up a3 (fun q hq => by omega)⟩
      · rw [a1, rv_ok, gR_ok t2, Option.bind_some, Fx_rf F1 (v := 57) (by decide), gI_ok a2.1, Option.bind_some, a2.2.2.2.1]
        rfl
      · obtain ⟨hF, h2, h3, h4, h5, h6, h7, h8, w, h9⟩ := h
        exact ⟨F1, ccol_up h2 a3 (fun q _ _ => by omega), cdic_up h3 a3 (fun q _ _ => by omega), fun e he => by rw [(a3.2.2 4 (by omega)).1]; exact h4 e he, cwk_up h5 a3 (fun q _ _ => by omega), ⟨by rw [(a3.2.2 2 (by omega)).1]; exact h6.1, fun j t hj => by rw [(a3.2.2 61 (by omega)).1]; exact h6.2 j t hj⟩, by rw [(a3.2.2 2 (by omega)).1]; exact h7, a2, w, isSg_up h9 a3 (by omega) (by omega)⟩
    · rw [bi1 hb, if_neg hb]
      exact ⟨st, rfl, h, onC_rfl⟩
theorem wf_P (h : wfS S) {w : List Nat} (h1 : w.length ≤ 43219) (h2 : ∀ s ∈ w, s < 256) : wfS (setP S w) := by
  obtain ⟨a1, a2, a3, a4, a5, a6, a7, a8⟩ := h
  exact ⟨a1, a2, a3, a4, a5, a6, h1, h2⟩
theorem W_packed (h : wfS S) (hok : ∀ d, d < 4 → okD (sD S d)) (d : Int32) : wfS (a_packed S d).2 := by
  unfold a_packed
  rcases isD_cases d with hd | ⟨k, hd, rfl⟩
  · rw [withD_no hd]; exact h
  · rw [withD_n hd]
    by_cases hb : sO S k = false
    · rw [if_pos hb]; exact wf_P h (packM_len (bM_ok (hok k hd))) (packM_256 (bM_ok (hok k hd)))
    · rw [if_neg hb]; exact h
end PKD
