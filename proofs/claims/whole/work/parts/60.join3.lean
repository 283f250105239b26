/-! JOIN: the model -/
section JOINM
variable {L : Nat} {st : ab_S} {S : Sg}
theorem cmpM_ok (hF : Fx L st) {d e t u : Nat} {D E : Dc} (hd : d < 6) (he : e < 6) (h : isMd st d D) (h' : isMd st e E) {x y : List Nat × Nat} (hx : D[t]? = some x) (hy : E[u]? = some y) : ∃ r : Int32, f_X11_compareTerms 130 (nI d) (nI t) (nI e) (nI u) st = some (some (.int r), st) ∧ (r < 0 ↔ lcmp x.1 y.1 = -1) ∧ (r = 0 ↔ lcmp x.1 y.1 = 0) := by
  have hl := lt_of_get hx
  have hl' := lt_of_get hy
  have h2 := h.2.1
  have h2' := h'.2.1
  obtain ⟨b1, b2, b3, b4, b5⟩ := h.2.2 t x hx
  obtain ⟨c1, c2, c3, c4, c5⟩ := h'.2.2 u y hy
  have e1 : ((200 : Int32) * nI d + nI t) = nI (200 * d + t) := by rw [nl 200, a_mul, a_add]
  have e2 : ((200 : Int32) * nI e + nI u) = nI (200 * e + u) := by rw [nl 200, a_mul, a_add]
  rw [e_X11_compareTerms_0, rc_ok (Fx_sh hF rfl), gR_ok (Fx_sh hF rfl), Option.bind_some, Fx_rf hF (v := 133) (by decide), e1, rI_ok (Fx_sh hF (o := 133) rfl) (by omega) (by omega), Option.bind_some, b1, Option.bind_some, e2, rI_ok (Fx_sh hF (o := 133) rfl) (by omega) (by omega), Option.bind_some, c1]
  have key : ∀ j i, x.1.length - i = j → i ≤ x.1.length → i ≤ y.1.length → ∃ r : Int32, L_X11_compareTerms_32 130 (nI d) (nI t) (nI e) (nI u) (nI x.1.length) (nI y.1.length) (nI i) st = some (some (.int r), st) ∧ (r < 0 ↔ lcmp (x.1.drop i) (y.1.drop i) = -1) ∧ (r = 0 ↔ lcmp (x.1.drop i) (y.1.drop i) = 0) := by
    have fin : ∀ i, i ≤ x.1.length → i ≤ y.1.length → (x.1.length ≤ i ∨ y.1.length ≤ i) → ((nI x.1.length - nI y.1.length) < 0 ↔ lcmp (x.1.drop i) (y.1.drop i) = -1) ∧ ((nI x.1.length - nI y.1.length) = 0 ↔ lcmp (x.1.drop i) (y.1.drop i) = 0) := by
      intro i hi1 hi2 hor
      have et : (nI x.1.length - nI y.1.length).toInt = (x.1.length : Int) - y.1.length := pk_sub_toInt (by omega) (by omega)
      have q1 : (nI x.1.length - nI y.1.length) < 0 ↔ (x.1.length : Int) - y.1.length < 0 := by rw [Int32.lt_iff_toInt_lt, et]; exact Iff.rfl
      have q2 : (nI x.1.length - nI y.1.length) = 0 ↔ (x.1.length : Int) - y.1.length = 0 := by rw [← Int32.toInt_inj, et]; exact Iff.rfl
      rw [q1, q2]
      by_cases hx1 : x.1.length ≤ i
      · rw [List.drop_eq_nil_of_le hx1, lcmp_nil_l]
        by_cases hw1 : y.1.length ≤ i
        · rw [List.drop_eq_nil_of_le hw1, if_pos rfl]
          refine ⟨⟨fun h => by omega, fun h => by cases h⟩, ⟨fun _ => rfl, fun _ => by omega⟩⟩
        · have hne : ¬ y.1.drop i = [] := fun q => by have := congrArg List.length q; simp at this; omega
          rw [if_neg hne]
          refine ⟨⟨fun _ => rfl, fun _ => by omega⟩, ⟨fun h => by omega, fun h => by cases h⟩⟩
      · have hw1 : y.1.length ≤ i := by omega
        rw [List.drop_eq_nil_of_le hw1]
        have hg : x.1[i]? = some x.1[i] := List.getElem?_eq_getElem (by omega)
        rw [drop_some hg]
        show (_ ↔ (1 : Int32) = -1) ∧ (_ ↔ (1 : Int32) = 0)
        refine ⟨⟨fun h => by omega, fun h => by cases h⟩, ⟨fun h => by omega, fun h => by cases h⟩⟩
    intro j
    induction j with
    | zero =>
      intro i hj hi hiw
      rw [e_X11_compareTerms_32, if_pos (by rw [c_le (by omega) (by omega)]; omega)]
      exact ⟨_, rfl, fin i hi hiw (by omega)⟩
    | succ j ih =>
      intro i hj hi hiw
      rw [e_X11_compareTerms_32, if_neg (by rw [c_le (by omega) (by omega)]; omega)]
      by_cases hw1 : y.1.length ≤ i
      · rw [if_pos (by rw [c_le (by omega) (by omega)]; omega)]
        exact ⟨_, rfl, fin i hi hiw (by omega)⟩
      · have hg : x.1[i]? = some x.1[i] := List.getElem?_eq_getElem (by omega)
        have hg2 : y.1[i]? = some y.1[i] := List.getElem?_eq_getElem (by omega)
        have hr2 := (c3 i _ hg2).2
        have hs := (b3 i _ hg).2
        rw [if_neg (by rw [c_le (by omega) (by omega)]; omega), letter_ok hF h hd hx hg, ri_ok, letter_ok hF h' he hy hg2, ri_ok, drop_some hg, drop_some hg2]
        generalize x.1[i] = a at hs
        generalize y.1[i] = b at hr2
        have et : (nI a - nI b).toInt = (a : Int) - b := pk_sub_toInt (by omega) (by omega)
        have e0 : (nI a - nI b = 0) ↔ a = b := by
          rw [← Int32.toInt_inj, et]
          show (a : Int) - b = 0 ↔ _
          omega
        unfold lcmp
        by_cases huv : a = b
        · rw [if_pos (e0.mpr huv), if_pos huv, nI_1]
          exact ih (i + 1) (by omega) (by omega) (by omega)
        · rw [if_neg (fun q => huv (e0.mp q)), if_neg huv]
          refine ⟨_, rfl, ?_, ?_⟩
          · rw [Int32.lt_iff_toInt_lt, et]
            show (a : Int) - b < 0 ↔ _
            by_cases hlt : a < b
            · rw [if_pos hlt]; exact ⟨fun _ => rfl, fun _ => by omega⟩
            · rw [if_neg hlt]; exact ⟨fun h => by omega, fun h => by cases h⟩
          · rw [e0]
            by_cases hlt : a < b
            · rw [if_pos hlt]; exact ⟨fun h => absurd h huv, fun h => by cases h⟩
            · rw [if_neg hlt]; exact ⟨fun h => absurd h huv, fun h => by cases h⟩
  have := key _ 0 rfl (by omega) (by omega)
  rw [List.drop_zero, List.drop_zero] at this
  exact this
/-- the model's copy of the spare dictionary -/
theorem copy_ok (hF : Fx L st) {c : Nat} {D : Dc} (hc : c < 4) (h : isMd st 4 D) : ∃ st', f_X11_copy 130 4 (nI c) st = some (none, st') ∧ isMd st' c D ∧ (∀ e E, e ≠ c → e < 5 → isMd st e E → isMd st' e E) ∧ upto (fun q => 132 ≤ q ∧ q ≤ 135) st st' := by
  have h2 := h.2.1
  have k53 : ∀ j i st1, 200 - i = j → i ≤ 200 → Fx L st1 → ∃ st', L_X11_copy_53 130 4 (nI c) (nI i) st1 = some (none, st') ∧ upto (fun q => q = 133 ∨ q = 134) st1 st' ∧ (∀ p, sI st' 133 p = if 200 * c + i ≤ p ∧ p < 200 * c + 200 then sI st1 133 (p - 200 * c + 800) else sI st1 133 p) ∧ (∀ p, sJ st' 134 p = if 200 * c + i ≤ p ∧ p < 200 * c + 200 then sJ st1 134 (p - 200 * c + 800) else sJ st1 134 p) := by
    intro j
    induction j with
    | zero =>
      intro i st1 hj hi hF1
      refine ⟨st1, ?_, upto_rfl, fun p => ?_, fun p => ?_⟩
      · rw [e_X11_copy_53, nl 200, if_pos (by rw [c_le (by omega) (by omega)]; omega)]
      · rw [if_neg (by omega)]
      · rw [if_neg (by omega)]
    | succ j ih =>
      intro i st1 hj hi hF1
      let s4 := uI st1 133 (200 * c + i) (sI st1 133 (200 * 4 + i))
      let s8 := uJ s4 134 (200 * c + i) (sJ st1 134 (200 * 4 + i))
      have F4 : Fx L s4 := hF1
      have F8 : Fx L s8 := hF1
      have hu : upto (fun q => q = 133 ∨ q = 134) st1 s8 := upto_trans (upto_uI (Or.inl rfl)) (upto_uJ (Or.inr rfl))
      obtain ⟨st', g1, g2, g3, g4⟩ := ih (i + 1) s8 (by omega) (by omega) F8
      refine ⟨st', ?_, upto_trans hu g2, fun p => ?_, fun p => ?_⟩
      · rw [e_X11_copy_53, nl 200, if_neg (by rw [c_le (by omega) (by omega)]; omega), gR_ok (Fx_sh hF1 rfl), Option.bind_some, Option.bind_some, Fx_rf hF1 (v := 133) (by decide), nl 4, a_mul, a_add, rI_ok (Fx_sh hF1 (o := 133) rfl) (by omega) (by omega), Option.bind_some, a_mul, a_add, wI_ok (Fx_sh hF1 (o := 133) rfl) (by omega) (by omega), Option.bind_some]
        show Option.bind (ab_gR s4 130 11 4) _ = _
        rw [gR_ok (Fx_sh F4 rfl), Option.bind_some, Fx_rf F4 (v := 134) (by decide), Option.bind_some]
        show Option.bind (ab_rJ s4 134 (nI (200 * 4 + i))) _ = _
        rw [rJ_ok (Fx_sh F4 (o := 134) rfl) (by omega) (by omega), Option.bind_some]
        show Option.bind (ab_wJ s4 134 (nI (200 * c + i)) (sJ st1 134 (200 * 4 + i))) _ = _
        rw [wJ_ok (Fx_sh F4 (o := 134) rfl) (by omega) (by omega), Option.bind_some, nI_1]
        exact g1
      · rw [g3]
        have e : ∀ q, sI s8 133 q = if q = 200 * c + i then sI st1 133 (200 * 4 + i) else sI st1 133 q := fun q => by
          show sI (uI st1 133 (200 * c + i) (sI st1 133 (200 * 4 + i))) 133 q = _
          rw [I_uI]; simp
        rw [e, e]
        by_cases hp : p = 200 * c + i
        · subst hp
          rw [if_neg (by omega), if_pos rfl, if_pos (by omega)]
          congr 1
          omega
        · by_cases hq : 200 * c + (i + 1) ≤ p ∧ p < 200 * c + 200
          · rw [if_pos hq, if_neg (by omega), if_pos (by omega)]
          · rw [if_neg hq, if_neg hp, if_neg (by omega)]
      · rw [g4]
        have e : ∀ q, sJ s8 134 q = if q = 200 * c + i then sJ st1 134 (200 * 4 + i) else sJ st1 134 q := fun q => by
          show sJ (uJ s4 134 (200 * c + i) (sJ st1 134 (200 * 4 + i))) 134 q = _
          rw [J_uJ]; simp; rfl
        rw [e, e]
        by_cases hp : p = 200 * c + i
        · subst hp
          rw [if_neg (by omega), if_pos rfl, if_pos (by omega)]
          congr 1
          omega
        · by_cases hq : 200 * c + (i + 1) ≤ p ∧ p < 200 * c + 200
          · rw [if_pos hq, if_neg (by omega), if_pos (by omega)]
          · rw [if_neg hq, if_neg hp, if_neg (by omega)]
  have k14 : ∀ j i st1, 2400 - i = j → i ≤ 2400 → Fx L st1 → ∃ st2, L_X11_copy_14 130 4 (nI c) (nI i) st1 = L_X11_copy_53 130 4 (nI c) (nI 0) st2 ∧ upto (fun q => q = 132) st1 st2 ∧ (∀ p, sI st2 132 p = if 2400 * c + i ≤ p ∧ p < 2400 * c + 2400 then (sI st1 132 (p - 2400 * c + 9600)).toInt8.toInt32 else sI st1 132 p) := by
    intro j
    induction j with
    | zero =>
      intro i st1 hj hi hF1
      refine ⟨st1, ?_, upto_rfl, fun p => ?_⟩
      · rw [e_X11_copy_14, nl 2400, if_pos (by rw [c_le (by omega) (by omega)]; omega)]
        rfl
      · rw [if_neg (by omega)]
    | succ j ih =>
      intro i st1 hj hi hF1
      let s4 := uI st1 132 (2400 * c + i) (sI st1 132 (2400 * 4 + i)).toInt8.toInt32
      have hu : upto (fun q => q = 132) st1 s4 := upto_uI rfl
      have F4 : Fx L s4 := hF1
      obtain ⟨st', g1, g2, g3⟩ := ih (i + 1) s4 (by omega) (by omega) F4
      refine ⟨st', ?_, upto_trans hu g2, fun p => ?_⟩
      · rw [e_X11_copy_14, nl 2400, if_neg (by rw [c_le (by omega) (by omega)]; omega), gR_ok (Fx_sh hF1 rfl), Option.bind_some, Option.bind_some, Fx_rf hF1 (v := 132) (by decide), nl 4, a_mul, a_add, rB_ok (Fx_sh hF1 (o := 132) rfl) (by omega) (by omega), Option.bind_some, a_mul, a_add, wB_ok (Fx_sh hF1 (o := 132) rfl) (by omega) (by omega), Option.bind_some, nI_1]
        exact g1
      · rw [g3]
        have e : ∀ q, sI s4 132 q = if q = 2400 * c + i then (sI st1 132 (2400 * 4 + i)).toInt8.toInt32 else sI st1 132 q := fun q => by
          show sI (uI st1 132 (2400 * c + i) _) 132 q = _
          rw [I_uI]; simp
        rw [e, e]
        by_cases hp : p = 2400 * c + i
        · subst hp
          rw [if_neg (by omega), if_pos rfl, if_pos (by omega)]
          congr 3
          omega
        · by_cases hq : 2400 * c + (i + 1) ≤ p ∧ p < 2400 * c + 2400
          · rw [if_pos hq, if_neg (by omega), if_pos (by omega)]
          · rw [if_neg hq, if_neg hp, if_neg (by omega)]
  let s1 := uI st 135 c (nI D.length)
  have F1 : Fx L s1 := hF
  have u1 : upto (fun q => q = 135) st s1 := upto_uI rfl
  obtain ⟨s2, a1, a2, a3⟩ := k14 _ 0 s1 rfl (by omega) F1
  obtain ⟨s3, b1, b2, b3, b4⟩ := k53 _ 0 s2 rfl (by omega) (Fx_up F1 a2)
  have hu : upto (fun q => 132 ≤ q ∧ q ≤ 135) st s3 := upto_trans (upto_mono u1 (fun q hq => by omega)) (upto_trans (upto_mono a2 (fun q hq => by omega)) (upto_mono b2 (fun q hq => by omega)))
  have f5 : ∀ e, sI s3 135 e = if e = c then nI D.length else sI st 135 e := fun e => by
    rw [(b2.2.2 135 (by omega)).1, (a2.2.2 135 (by omega)).1]
    show sI (uI st 135 c (nI D.length)) 135 e = _
    rw [I_uI]; simp
  have f2 : ∀ p, sI s3 132 p = if 2400 * c ≤ p ∧ p < 2400 * c + 2400 then (sI st 132 (p - 2400 * c + 9600)).toInt8.toInt32 else sI st 132 p := fun p => by
    rw [(b2.2.2 132 (by omega)).1, a3, (u1.2.2 132 (by omega)).1]
    rfl
  have f3 : ∀ p, sI s3 133 p = if 200 * c ≤ p ∧ p < 200 * c + 200 then sI st 133 (p - 200 * c + 800) else sI st 133 p := fun p => by
    rw [b3, (a2.2.2 133 (by omega)).1, (u1.2.2 133 (by omega)).1]
    rfl
  have f4 : ∀ p, sJ s3 134 p = if 200 * c ≤ p ∧ p < 200 * c + 200 then sJ st 134 (p - 200 * c + 800) else sJ st 134 p := fun p => by
    rw [b4, (a2.2.2 134 (by omega)).2, (u1.2.2 134 (by omega)).2]
    rfl
  refine ⟨s3, ?_, ⟨by rw [f5, if_pos rfl], h2, fun t x hx => ?_⟩, fun e E hec he hE => ⟨by rw [f5, if_neg hec]; exact hE.1, hE.2.1, fun t x hx => ?_⟩, hu⟩
  · rw [e_X11_copy_0, rc_ok (Fx_sh hF rfl), gR_ok (Fx_sh hF rfl), Option.bind_some, Option.bind_some, Fx_rf hF (v := 135) (by decide), nl 4, rI_ok (Fx_sh hF (o := 135) rfl) (by omega) (by omega), Option.bind_some, h.1, wI_ok (Fx_sh hF (o := 135) rfl) (by omega) (by omega), Option.bind_some]
    show L_X11_copy_14 130 4 (nI c) (nI 0) s1 = _
    rw [a1, b1]
  · have htl := lt_of_get hx
    obtain ⟨c1, c2, c3, c4, c5⟩ := h.2.2 t x hx
    refine ⟨?_, c2, fun k s hs => ⟨?_, (c3 k s hs).2⟩, ?_, c5⟩
    · rw [f3, if_pos (by omega), ← c1]; congr 1; omega
    · have := (List.getElem?_eq_some_iff.mp hs).1
      rw [f2, if_pos (by omega), show (200 * c + t) * 12 + k - 2400 * c + 9600 = (200 * 4 + t) * 12 + k by omega, (c3 k s hs).1, by8_idem]
    · rw [f4, if_pos (by omega), ← c4]; congr 1; omega
  · have htl := lt_of_get hx
    have hE2 := hE.2.1
    obtain ⟨c1, c2, c3, c4, c5⟩ := hE.2.2 t x hx
    refine ⟨?_, c2, fun k s hs => ⟨?_, (c3 k s hs).2⟩, ?_, c5⟩
    · rw [f3, if_neg (by omega)]; exact c1
    · have := (List.getElem?_eq_some_iff.mp hs).1
      rw [f2, if_neg (by omega)]; exact (c3 k s hs).1
    · rw [f4, if_neg (by omega)]; exact c4
/-- the spare dictionary comes to c -/
theorem come_ok (h : MS L st S) {c : Nat} {D : Dc} (hc : c < 4) (h4 : isMd st 4 D) : ∃ st', f_X11_come 130 (nI c) st = some (none, st') ∧ MS L st' (setAge (setDic S c D false) c) ∧ onM st st' := by
  obtain ⟨s1, c1, c2, c3, c4⟩ := copy_ok h.1 hc h4
  have F1 : Fx L s1 := Fx_up h.1 c4
  let s3 := uI s1 136 c 0
  let s6 := uI s3 137 c (sA S c + 1)
  have F3 : Fx L s3 := F1
  have u3 : upto (fun q => q = 136) s1 s3 := upto_uI rfl
  have u6 : upto (fun q => q = 137) s3 s6 := upto_uI rfl
  have hu : upto (fun q => 132 ≤ q ∧ q ≤ 137) st s6 := upto_trans (upto_mono c4 (fun q hq => by omega)) (upto_trans (upto_mono u3 (fun q hq => by omega)) (upto_mono u6 (fun q hq => by omega)))
  have e7 : sI s3 137 = sI st 137 := by rw [(u3.2.2 137 (by omega)).1, (c4.2.2 137 (by omega)).1]
  refine ⟨s6, ?_, ?_, onM_up hu (fun q hq => by omega)⟩
  · rw [e_X11_come_0, rc_ok (sh130 h), c1, rv_ok, gR_ok (Fx_sh F1 rfl), Option.bind_some, Fx_rf F1 (v := 136) (by decide), wZ_ok (Fx_sh F1 (o := 136) rfl) (by omega) (by omega), Option.bind_some, show (0 : Int32) &&& 1 = 0 from rfl]
    show Option.bind (ab_gR s3 130 11 7) _ = _
    rw [gR_ok (Fx_sh F3 rfl), Option.bind_some, Fx_rf F3 (v := 137) (by decide)]
    show Option.bind (ab_rI s3 137 (nI c)) _ = _
    rw [rI_ok (Fx_sh F3 (o := 137) rfl) (by omega) (by omega), Option.bind_some, e7, h.2.2.2.1 c hc]
    show Option.bind (ab_wI s3 137 (nI c) (sA S c + 1)) _ = _
    rw [wI_ok (Fx_sh F3 (o := 137) rfl) (by omega) (by omega), Option.bind_some]
  · obtain ⟨hF, g2, g3, g4, g5, g6, g7, g8⟩ := h
    have e : ∀ q, ¬ (132 ≤ q ∧ q ≤ 137) → sI s6 q = sI st q := fun q a => (hu.2.2 q a).1
    refine ⟨Fx_up hF hu, ⟨by rw [e 130 (by omega)]; exact g2.1, mRow_up g2.2 hu (by omega)⟩, fun d hd => ?_, fun d hd => ?_, fun k hk => by rw [e 140 (by omega), e 141 (by omega), e 142 (by omega), e 143 (by omega)]; exact g5 k hk, ⟨by rw [e 130 (by omega)]; exact g6.1, fun k t hk => by rw [e 138 (by omega)]; exact g6.2 k t hk⟩, by rw [e 130 (by omega)]; exact g7, ⟨by rw [e 130 (by omega)]; exact g8.1, fun k s hk => by rw [e 139 (by omega)]; exact g8.2 k s hk⟩⟩
    · have e6 : sI s6 136 d = if d = c then 0 else sI st 136 d := by
        rw [(u6.2.2 136 (by omega)).1]
        show sI (uI s1 136 c 0) 136 d = _
        rw [I_uI, (c4.2.2 136 (by omega)).1]; simp
      have u16 : upto (fun q => q = 136 ∨ q = 137) s1 s6 := upto_trans (upto_mono u3 (fun q hq => Or.inl hq)) (upto_mono u6 (fun q hq => Or.inr hq))
      show isMd s6 d (up1 (sD S) c D d) ∧ sI s6 136 d = b01 (up1 (sO S) c false d)
      rw [e6]
      by_cases hdc : d = c
      · subst hdc
        rw [up1_s, up1_s, if_pos rfl]
        exact ⟨isMd_up c2 u16 (by omega) (by omega) (by omega) (by omega), rfl⟩
      · rw [up1_o hdc, up1_o hdc, if_neg hdc]
        exact ⟨isMd_up (c3 d _ hdc (by omega) (g3 d hd).1) u16 (by omega) (by omega) (by omega) (by omega), (g3 d hd).2⟩
    · show sI (uI s3 137 c (sA S c + 1)) 137 d = up1 (sA S) c (sA S c + 1) d
      rw [I_uI, e7]
      by_cases hek : d = c
      · subst hek; rw [if_pos ⟨rfl, rfl⟩, up1_s]
      · rw [if_neg (fun z => hek z.2), up1_o hek]; exact g4 d hd
end JOINM
