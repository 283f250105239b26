/-! THE MODEL'S ROW AND DICTIONARIES. Object 130; row 131, signs 132, sizes 133, outs 134, many 135, isOpen 136, ages 137. -/
def by8 (s : Nat) : Int32 := (nI s).toInt8.toInt32
theorem by8_and : ∀ s, s < 256 → by8 s &&& (255 : Int32) = nI s := by decide +kernel
theorem by8_idem (s : Nat) : (by8 s).toInt8.toInt32 = by8 s := by
  have := pk_vb (nI s)
  simpa [vp_nar, narrow, by8] using this
/-- the row's first signs are w -/
def mRow (st : ab_S) (w : List Nat) : Prop := (∀ k s, w[k]? = some s → sI st 131 k = by8 s ∧ s < 256) ∧ w.length ≤ 4000
def mdAt (st : ab_S) (d t : Nat) (x : List Nat × Nat) : Prop := sI st 133 (200 * d + t) = nI x.1.length ∧ x.1.length ≤ 12 ∧ (∀ k s, x.1[k]? = some s → sI st 132 ((200 * d + t) * 12 + k) = by8 s ∧ s < 256) ∧ sJ st 134 (200 * d + t) = lN x.2 ∧ x.2 ≤ 2000000000000
/-- the model's dictionary d (4: the spare one) is D -/
def isMd (st : ab_S) (d : Nat) (D : Dc) : Prop := sI st 135 d = nI D.length ∧ D.length ≤ 200 ∧ ∀ t x, D[t]? = some x → mdAt st d t x
theorem isMd_up {W : Nat → Prop} {st st' : ab_S} {d : Nat} {D : Dc} (h : isMd st d D) (hu : upto W st st') (h2 : ¬ W 132) (h3 : ¬ W 133) (h4 : ¬ W 134) (h5 : ¬ W 135) : isMd st' d D := by
  obtain ⟨a1, a2, a3⟩ := h
  obtain ⟨u1, u2, u3⟩ := hu
  refine ⟨by rw [(u3 _ h5).1]; exact a1, a2, fun t x hx => ?_⟩
  obtain ⟨b1, b2, b3, b4, b5⟩ := a3 t x hx
  exact ⟨by rw [(u3 _ h3).1]; exact b1, b2, fun k s hk => by rw [(u3 _ h2).1]; exact b3 k s hk, by rw [(u3 _ h4).2]; exact b4, b5⟩
theorem mRow_up {W : Nat → Prop} {st st' : ab_S} {w : List Nat} (h : mRow st w) (hu : upto W st st') (h1 : ¬ W 131) : mRow st' w := ⟨fun k s hk => by rw [(hu.2.2 _ h1).1]; exact h.1 k s hk, h.2⟩
section MD
variable {L : Nat} {st : ab_S} {d : Nat} {D : Dc} {w : List Nat}
theorem letter_ok (hF : Fx L st) (h : isMd st d D) (hd : d < 6) {t k s : Nat} {x : List Nat × Nat} (hx : D[t]? = some x) (hk : x.1[k]? = some s) : f_X11_letter 130 (nI d) (nI t) (nI k) st = some (some (.int (nI s)), st) := by
  have hl := lt_of_get hx
  have h2 := h.2.1
  obtain ⟨b1, b2, b3, b4, b5⟩ := h.2.2 t x hx
  have hkl := (List.getElem?_eq_some_iff.mp hk).1
  have e1 : (((200 : Int32) * nI d + nI t) * (12 : Int32) + nI k) = nI ((200 * d + t) * 12 + k) := by rw [nl 200, nl 12, a_mul, a_add, a_mul, a_add]
  rw [e_X11_letter_0, rc_ok (Fx_sh hF rfl), gR_ok (Fx_sh hF rfl), Option.bind_some, Fx_rf hF (v := 132) (by decide), e1, rB_ok (Fx_sh hF (o := 132) rfl) (by omega) (by omega), Option.bind_some, (b3 k s hk).1, by8_and s (b3 k s hk).2]
/-- compare: below 0, 0, above 0 as the order says -/
theorem compare_ok (hF : Fx L st) (h : isMd st d D) (hd : d < 6) {t : Nat} {x : List Nat × Nat} (hx : D[t]? = some x) (hw : mRow st w) : ∃ r : Int32, f_X11_compare 130 (nI d) (nI t) (nI w.length) st = some (some (.int r), st) ∧ (r < 0 ↔ lcmp x.1 w = -1) ∧ (r = 0 ↔ lcmp x.1 w = 0) := by
  have hl := lt_of_get hx
  have h2 := h.2.1
  have hwl := hw.2
  obtain ⟨b1, b2, b3, b4, b5⟩ := h.2.2 t x hx
  have e1 : ((200 : Int32) * nI d + nI t) = nI (200 * d + t) := by rw [nl 200, a_mul, a_add]
  rw [e_X11_compare_0, rc_ok (Fx_sh hF rfl), gR_ok (Fx_sh hF rfl), Option.bind_some, Fx_rf hF (v := 133) (by decide), e1, rI_ok (Fx_sh hF (o := 133) rfl) (by omega) (by omega), Option.bind_some, b1]
  have key : ∀ j i, x.1.length - i = j → i ≤ x.1.length → i ≤ w.length → x.1.take i = w.take i → ∃ r : Int32, L_X11_compare_17 130 (nI d) (nI t) (nI w.length) (nI x.1.length) (nI i) st = some (some (.int r), st) ∧ (r < 0 ↔ lcmp (x.1.drop i) (w.drop i) = -1) ∧ (r = 0 ↔ lcmp (x.1.drop i) (w.drop i) = 0) := by
    have fin : ∀ i, i ≤ x.1.length → i ≤ w.length → (x.1.length ≤ i ∨ w.length ≤ i) → ((nI x.1.length - nI w.length) < 0 ↔ lcmp (x.1.drop i) (w.drop i) = -1) ∧ ((nI x.1.length - nI w.length) = 0 ↔ lcmp (x.1.drop i) (w.drop i) = 0) := by
      intro i hi1 hi2 hor
      have et : (nI x.1.length - nI w.length).toInt = (x.1.length : Int) - w.length := pk_sub_toInt (by omega) (by omega)
      have q1 : (nI x.1.length - nI w.length) < 0 ↔ (x.1.length : Int) - w.length < 0 := by rw [Int32.lt_iff_toInt_lt, et]; exact Iff.rfl
      have q2 : (nI x.1.length - nI w.length) = 0 ↔ (x.1.length : Int) - w.length = 0 := by rw [← Int32.toInt_inj, et]; exact Iff.rfl
      rw [q1, q2]
      by_cases hx1 : x.1.length ≤ i
      · rw [List.drop_eq_nil_of_le hx1, lcmp_nil_l]
        by_cases hw1 : w.length ≤ i
        · rw [List.drop_eq_nil_of_le hw1, if_pos rfl]
          refine ⟨⟨fun h => by omega, fun h => by cases h⟩, ⟨fun _ => rfl, fun _ => by omega⟩⟩
        · have hne : ¬ w.drop i = [] := fun q => by have := congrArg List.length q; simp at this; omega
          rw [if_neg hne]
          refine ⟨⟨fun _ => rfl, fun _ => by omega⟩, ⟨fun h => by omega, fun h => by cases h⟩⟩
      · have hw1 : w.length ≤ i := by omega
        rw [List.drop_eq_nil_of_le hw1]
        have hg : x.1[i]? = some x.1[i] := List.getElem?_eq_getElem (by omega)
        rw [drop_some hg]
        show (_ ↔ (1 : Int32) = -1) ∧ (_ ↔ (1 : Int32) = 0)
        refine ⟨⟨fun h => by omega, fun h => by cases h⟩, ⟨fun h => by omega, fun h => by cases h⟩⟩
    intro j
    induction j with
    | zero =>
      intro i hj hi hiw _
      rw [e_X11_compare_17, if_pos (by rw [c_le (by omega) (by omega)]; omega)]
      exact ⟨_, rfl, fin i hi hiw (by omega)⟩
    | succ j ih =>
      intro i hj hi hiw htk
      rw [e_X11_compare_17, if_neg (by rw [c_le (by omega) (by omega)]; omega)]
      by_cases hw1 : w.length ≤ i
      · rw [if_pos (by rw [c_le (by omega) (by omega)]; omega)]
        exact ⟨_, rfl, fin i hi hiw (by omega)⟩
      · have hg : x.1[i]? = some x.1[i] := List.getElem?_eq_getElem (by omega)
        have hg2 : w[i]? = some w[i] := List.getElem?_eq_getElem (by omega)
        obtain ⟨hr1, hr2⟩ := hw.1 i _ hg2
        have hs := (b3 i _ hg).2
        rw [if_neg (by rw [c_le (by omega) (by omega)]; omega), letter_ok hF h hd hx hg, ri_ok, gR_ok (Fx_sh hF rfl), Option.bind_some, Fx_rf hF (v := 131) (by decide), rB_ok (Fx_sh hF (o := 131) rfl) (by omega) (by omega), Option.bind_some, hr1, by8_and _ hr2, drop_some hg, drop_some hg2]
        have htk2 : x.1[i] = w[i] → x.1.take (i + 1) = w.take (i + 1) := fun q => by rw [List.take_succ, List.take_succ, htk, hg, hg2, q]
        generalize x.1[i] = u at hs htk2
        generalize w[i] = v at hr2 htk2
        have et : (nI u - nI v).toInt = (u : Int) - v := pk_sub_toInt (by omega) (by omega)
        have e0 : (nI u - nI v = 0) ↔ u = v := by
          rw [← Int32.toInt_inj, et]
          show (u : Int) - v = 0 ↔ _
          omega
        unfold lcmp
        by_cases huv : u = v
        · rw [if_pos (e0.mpr huv), if_pos huv, nI_1]
          exact ih (i + 1) (by omega) (by omega) (by omega) (htk2 huv)
        · rw [if_neg (fun q => huv (e0.mp q)), if_neg huv]
          refine ⟨_, rfl, ?_, ?_⟩
          · rw [Int32.lt_iff_toInt_lt, et]
            show (u : Int) - v < 0 ↔ _
            by_cases hlt : u < v
            · rw [if_pos hlt]; exact ⟨fun _ => rfl, fun _ => by omega⟩
            · rw [if_neg hlt]; exact ⟨fun h => by omega, fun h => by cases h⟩
          · rw [e0]
            by_cases hlt : u < v
            · rw [if_pos hlt]; exact ⟨fun h => absurd h huv, fun h => by cases h⟩
            · rw [if_neg hlt]; exact ⟨fun h => absurd h huv, fun h => by cases h⟩
  have := key _ 0 rfl (by omega) (by omega) rfl
  rw [List.drop_zero, List.drop_zero] at this
  exact this
end MD
