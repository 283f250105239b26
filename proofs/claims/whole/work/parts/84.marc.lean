/-! THE MODEL: arc -/
section MARC
variable {L : Nat} {st : ab_S} {S : Sg}
theorem arcs_get {D : Dc} {b : List Nat} {i : Nat} : (arcsO D b)[i]? = ((hds D b)[i]?).map (fun a => (a, stOf D (b ++ [a]), least D (b ++ [a]) - least D b)) := by
  unfold arcsO
  rw [List.getElem?_map]
theorem arc223_ok (hF : Fx L st) {D : Dc} {d : Nat} (hd : d < 5) (hM : isMd st d D) (hok : okD D) (hB : mB st D) {j : Nat} {b : List Nat} (hj : (begs D)[j]? = some b) {i : Nat} {w : Int32} (hw : 0 ≤ w.toInt ∧ w.toInt ≤ 2) : L_X11_arc_223 130 (nI d) w (nI j) (kidI D b i) st = some (some (.long (tellA ((arcsO D b)[i]?) w)), st) := by
  have hX : FX st := ⟨L, hF⟩
  have hN := begs_2401 hok
  have hD := hM.2.1
  have hjl := (List.getElem?_eq_some_iff.mp hj).1
  obtain ⟨t, e, a1, a2, a3, a4, a5, a6⟩ := hB.1.2 j b hjl hj
  rw [e_X11_arc_223, arcs_get]
  unfold kidI
  cases hg : (hds D b)[i]? with
  | none => exact if_pos rfl
  | some a =>
    have hmem := hds_begs.mp (List.mem_of_getElem? hg)
    have hc := bix_get hok.1 hmem
    have hcl := (List.getElem?_eq_some_iff.mp hc).1
    have hkl := kid_le (List.mem_of_getElem? hg)
    have hst := mB_o hB hc
    obtain ⟨t', e', c1, c2, c3, c4, c5, c6⟩ := hB.1.2 _ _ hcl hc
    dsimp only
    rw [if_neg (by rw [c_m1e (by omega)]; exact id), isIn_i, if_pos (show (0 : Int64).toInt ≤ w.toInt ∧ w.toInt ≤ (2 : Int64).toInt from hw), ri_ok, if_neg (by decide)]
    show _ = some (some (Value.long (if w = 0 then lN a else if w = 1 then lN (stOf D (b ++ [a])) else lN (least D (b ++ [a]) - least D b))), st)
    by_cases w0 : w = 0
    · have htx : ∃ x, D[t']? = some x ∧ b ++ [a] <+: x.1 := by
        obtain ⟨y, hy, hp⟩ := hds_mem.mp (List.mem_of_getElem? hg)
        obtain ⟨i', hi'⟩ := List.getElem?_of_mem hy
        have hin := (c3.2.2 i' y hi').mp hp
        have hl := lt_of_get hi'
        have hgt : D[t']? = some D[t'] := List.getElem?_eq_getElem (by omega)
        exact ⟨_, hgt, (c3.2.2 t' _ hgt).mpr ⟨Nat.le_refl _, by omega⟩⟩
      obtain ⟨x, hx, hp⟩ := htx
      have hxa := (snoc_pre.mp hp).2
      have h256 := ((hM.2.2 _ _ hx).2.2.1 _ _ hxa).2
      rw [if_pos w0, if_pos w0, n18r hX, Option.bind_some, r144 hX (by omega), Option.bind_some, n20r hX, Option.bind_some, r146 hX (by omega), Option.bind_some, c1, a4, letter_ok hF hM (by omega) hx hxa, ri_ok, nI_l (by omega)]
    · rw [if_neg w0, if_neg w0]
      by_cases w1 : w = 1
      · have hsl : stOf D (b ++ [a]) < 2147483648 := by
          have := (List.getElem?_eq_some_iff.mp (stOf_lt hmem)).1
          have := rsts_len hok
          omega
        rw [if_pos w1, if_pos w1, n23r hX, Option.bind_some, r149 hX (by omega), Option.bind_some, hst, nI_l hsl]
      · rw [if_neg w1, if_neg w1, n21r hX, Option.bind_some, r147 hX (by omega), Option.bind_some, Option.bind_some, r147 hX (by omega), Option.bind_some, c5, a5, lN_sub hkl]
theorem M_arc (h : MS L st S) (hwf : wfS S) (hCo : ∀ d, d < 4 → ∀ x ∈ sD S d, x.2 ≤ 1000000000000) (d s i w : Int32) : ∃ st', f_X11_arc 130 d s i w st = some (some (.long (a_arc S d s i w).1), st') ∧ MS L st' (a_arc S d s i w).2 ∧ onM st st' := by
  unfold a_arc
  rcases isD_cases d with hd | ⟨k, hd, rfl⟩
  · rw [withD_no hd]
    exact ⟨st, by rw [e_X11_arc_0, rc_ok (sh130 h), mD_no hd, ri_ok, if_pos rfl], h, onM_rfl⟩
  rw [withD_n hd, e_X11_arc_0, rc_ok (sh130 h), mD_ok hd, ri_ok, if_neg (by decide)]
  have i0 : (0 : Int32).toInt = 0 := rfl
  have step : ∀ (B : Nat) (B64 : Int64), B64.toInt = (B : Int) → B ≤ 3 → (if i = -1 then (3 : Int32) else 2) = nI B → ∃ st', L_X11_arc_25 130 (nI k) s i w w.toInt64 0 B64 st = some (some (.long (if w < 0 then -2 else if w ≤ (if i = -1 then 3 else 2) then (if sO S k = false then (if i = -1 then tellS (atO (mach (sD S k)).2.2 s) w else tellA (arcI (mach (sD S k)) s i) w) else -4) else -2)), st') ∧ MS L st' S ∧ onM st st' := by
    intro B B64 hB64 hB3 hB
    rw [hB, e_X11_arc_25, isIn_i, hB64, ri_ok, show (0 : Int64).toInt = 0 from rfl]
    by_cases hw0 : w < 0
    · have q := Int32.lt_iff_toInt_lt.mp hw0
      rw [i0] at q
      rw [if_neg (show ¬ (0 ≤ w.toInt ∧ w.toInt ≤ (B : Int)) by omega), if_pos rfl, if_pos hw0]
      exact ⟨st, rfl, h, onM_rfl⟩
    by_cases hwB : w ≤ nI B
    rotate_left
    · have q : ¬ w.toInt ≤ (B : Int) := fun z => hwB (by rw [Int32.le_iff_toInt_le, nI_toInt (by omega)]; exact z)
      rw [if_neg (show ¬ (0 ≤ w.toInt ∧ w.toInt ≤ (B : Int)) by omega), if_pos rfl, if_neg hw0, if_neg hwB]
      exact ⟨st, rfl, h, onM_rfl⟩
    have hq1 : 0 ≤ w.toInt ∧ w.toInt ≤ (B : Int) := by
      have q1 : ¬ w.toInt < 0 := fun z => hw0 (by rw [Int32.lt_iff_toInt_lt, i0]; exact z)
      have q2 := Int32.le_iff_toInt_le.mp hwB
      rw [nI_toInt (by omega)] at q2
      omega
    rw [if_pos hq1, if_neg (by decide), if_neg hw0, if_pos hwB, ← Option.bind_assoc, mOpen2 h hd, Option.bind_some]
    by_cases hb : sO S k = false
    rotate_left
    · rw [bi1 hb, if_neg hb]
      exact ⟨st, rfl, h, onM_rfl⟩
    rw [bi0 hb, if_pos hb]
    obtain ⟨s2, b1, b2, b3, b4, -⟩ := buildMS h hwf hCo hd
    have hok := okD_M h hwf hCo hd
    have hN := begs_2401 hok
    have hRl := rsts_len hok
    have hX : FX s2 := ⟨L, b2.1⟩
    have hM2 : isMd s2 k (sD S k) := (b2.2.2.1 k hd).1
    have hD := hM2.2.1
    refine ⟨s2, ?_, b2, b3⟩
    rw [b1, rv_ok, im hX, Option.bind_some, mB_n b4, isIn_i, pred_toInt (by omega), show (0 : Int64).toInt = 0 from rfl, ri_ok]
    have none_case : (atO (mach (sD S k)).2.2 s) = none → (if i = -1 then tellS (atO (mach (sD S k)).2.2 s) w else tellA (arcI (mach (sD S k)) s i) w) = -1 := by
      intro hn
      unfold arcI
      rw [hn]
      by_cases hi : i = -1
      · rw [if_pos hi]; rfl
      · rw [if_neg hi]; rfl
    rcases n_cases s with hs | ⟨n, hn, rfl⟩
    · have q := Int32.lt_iff_toInt_lt.mp hs
      rw [i0] at q
      rw [if_neg (show ¬ (0 ≤ s.toInt ∧ s.toInt ≤ ((rsts (sD S k)).length : Int) - 1) by omega), if_pos rfl, none_case (atO_neg hs)]
    rw [nI_toInt hn]
    by_cases hnl : n < (rsts (sD S k)).length
    rotate_left
    · rw [if_neg (show ¬ ((0 : Int) ≤ (n : Int) ∧ (n : Int) ≤ ((rsts (sD S k)).length : Int) - 1) by omega), if_pos rfl, none_case (by rw [atO_n hn]; exact List.getElem?_eq_none (by rw [mach_len]; omega))]
    rw [if_pos (show ((0 : Int) ≤ (n : Int) ∧ (n : Int) ≤ ((rsts (sD S k)).length : Int) - 1) by omega), if_neg (by decide)]
    have hg : (rsts (sD S k))[n]? = some (rsts (sD S k))[n] := List.getElem?_eq_getElem hnl
    obtain ⟨j, q1, q2, q3⟩ := mB_s b4 hg
    have hm := mach_at hok.1 hg q2
    have hj := nb_some q1
    generalize nb (sD S k) j = b at *
    obtain ⟨t, e, a1, a2, a3, a4, a5, a6⟩ := b4.1.2 j b q1 hj
    have heD := a3.2.1
    have hte := a3.1
    unfold arcI
    rw [n24r hX, Option.bind_some, r150 hX (by omega), Option.bind_some, q3, atO_n hn, hm]
    by_cases hi : i = -1
    · rw [if_pos hi, if_pos hi, final_okM b2.1 (by omega) hM2 hok.1 (by omega) (b4.1.2 j b q1 hj), ri_ok]
      show _ = some (some (Value.long (if w = 0 then lN (arcsO (sD S k) b).length else if w = 1 then (if (lastO (sD S k) b).isSome then 1 else 0) else if w = 2 then lastI (lastO (sD S k) b) else lN (rest (sD S k) b).length)), s2)
      by_cases w0 : w = 0
      · have := hds_len hok (b := b)
        rw [if_pos w0, if_pos w0, children_ok b2.1 (by omega) hM2 hok b4.1 hj, ri_ok, arcs_hds, nI_l (by omega)]
      rw [if_neg w0, if_neg w0]
      by_cases w1 : w = 1
      · rw [if_pos w1, if_pos w1]
        by_cases hl : (lastO (sD S k) b).isSome = true
        · rw [if_pos hl, bi1 (by simp [hl])]
        · rw [if_neg hl, bi0 (by simpa using hl)]
      rw [if_neg w1, if_neg w1]
      by_cases w2 : w = 2
      · rw [if_pos w2, if_pos w2]
        rcases last_at hok.1 a3 with ⟨hlt, x, hx, hxb, hlo⟩ | ⟨hlo, hlen⟩
        · obtain ⟨c1, c2, c3, c4⟩ := mMd hM2 (by omega) hx
          have hle := least_le (mem_b_iff.mpr ⟨List.mem_of_getElem? hx, by rw [hxb]; exact List.prefix_refl _⟩ : x ∈ mem_b (sD S k) b)
          rw [hlo, bi1 (by simp), n4 hX, Option.bind_some, n18r hX, Option.bind_some, r144 hX (by omega), Option.bind_some, a1, nl 200, a_mul, a_add, r134 hX c1, Option.bind_some, n21r hX, Option.bind_some, r147 hX (by omega), Option.bind_some, c4, a5, lN_sub hle]
          rfl
        · rw [hlo, bi0 (b := (none : Option Nat).isSome) rfl]
          rfl
      rw [if_neg w2, if_neg w2]
      have hB' : B = 3 := by
        rw [if_pos hi, show (3 : Int32) = nI 3 from rfl, c_eq (by omega) (by omega)] at hB
        omega
      have w3 : w = 3 := by
        rcases n_cases w with q | ⟨m, hm', rfl⟩
        · exact absurd q hw0
        · rw [nI_toInt hm'] at hq1
          have e0 : m ≠ 0 := fun q => w0 (by rw [q]; rfl)
          have e1 : m ≠ 1 := fun q => w1 (by rw [q]; rfl)
          have e2 : m ≠ 2 := fun q => w2 (by rw [q]; rfl)
          rw [show m = 3 by omega]; rfl
      rw [if_pos w3, n19r hX, Option.bind_some, r145 hX (by omega), Option.bind_some, n18r hX, Option.bind_some, r144 hX (by omega), Option.bind_some, a1, a2, a_sub hte, nI_l (by omega), rest_len, sgm_len a3]
    · have hB' : B = 2 := by
        rw [if_neg hi, show (2 : Int32) = nI 2 from rfl, c_eq (by omega) (by omega)] at hB
        omega
      subst hB'
      rw [if_neg hi, if_neg hi]
      show _ = some (some (Value.long (tellA (atO (arcsO (sD S k) b) i) w)), s2)
      rcases n_cases i with hneg | ⟨m, hm', rfl⟩
      · rw [if_neg (Int32.not_le.mpr hneg), atO_neg hneg, e_X11_arc_223, if_pos rfl]
        rfl
      · rw [if_pos (Int32.not_lt.mp (nI_pos hm')), child_ok b2.1 (by omega) hM2 hok b4.1 hj hm', ri_ok, atO_n hm', arc223_ok b2.1 (by omega) hM2 hok b4 hj hq1]
  by_cases hi : i = -1
  · rw [if_pos hi]
    exact step 3 3 rfl (by omega) (by rw [if_pos hi]; rfl)
  · rw [if_neg hi]
    exact step 2 2 rfl (by omega) (by rw [if_neg hi]; rfl)
end MARC
