/-! CALLS that only look: number, find, ceiling, out, term, fault, row, sign; forget. The answer as a function of the state; class and model -/
theorem dic_at {L : Nat} {st : ab_S} {S : Sg} (h : CS L st S) {d : Nat} (hd : d < 4) : ∃ o, o ∈ dO ∧ ab_rR st 3 (nI d) = some o ∧ (sH st)[o]? = some (0, 0) ∧ sR st o 0 = o + 1 ∧ sR st o 1 = o + 5 ∧ dicC st o (sD S d) (sO S d) := by
  obtain ⟨hF, -, ⟨p, p1, p2, p3, p4, p5⟩, -⟩ := h
  have hm := p1 d (by omega)
  refine ⟨p d, hm, ?_, ?_, ?_, ?_, p5 d hd⟩
  · rw [rR_ok (Fx_sh hF (o := 3) rfl) (by decide) (by omega) (by omega), p3 d hd]
  · have : ∀ o, o ∈ dO → (S0 L)[o]? = some (0, 0) := by
      intro o ho
      simp only [dO, List.mem_cons, List.not_mem_nil, or_false] at ho
      rcases ho with rfl | rfl | rfl | rfl | rfl <;> rfl
    exact Fx_sh hF (this _ hm)
  · have : ∀ o, o ∈ dO → (o, 0, o + 1) ∈ fxr := by decide +kernel
    exact Fx_rf hF (this _ hm)
  · have : ∀ o, o ∈ dO → (o, 1, o + 5) ∈ fxr := by decide +kernel
    exact Fx_rf hF (this _ hm)
theorem b01_0 {b : Bool} : (b01 b = 0) ↔ (b = false) := by cases b <;> simp [b01]
section LOOK
variable {L : Nat} {st : ab_S} {S : Sg}
theorem sh2 (h : CS L st S) : (sH st)[2]? = some (0, 10) := Fx_sh h.1 rfl
theorem sh130 (h : MS L st S) : (sH st)[130]? = some (0, 11) := Fx_sh h.1 rfl
theorem rf2_0 (h : CS L st S) : sR st 2 0 = 3 := Fx_rf h.1 (by decide)
theorem C_forget (h : CS L st S) : ∃ st', f_X10_forget 2 st = some (some (.int (nI (sW S).length)), st') ∧ CS L st' (setW S []) ∧ onC st st' := by
  obtain ⟨c, st', h1, h2, h3, h4, -, -⟩ := take_ok h
  refine ⟨st', ?_, h2, h4⟩
  rw [e_X10_forget_0, rc_ok (sh2 h), h1, rr_ok, gI_ok h3.1, Option.bind_some, h3.2.2.2.1]
theorem M_forget (h : MS L st S) : ∃ st', f_X11_forget 130 st = some (some (.int (nI (sW S).length)), st') ∧ MS L st' (setW S []) ∧ onM st st' := by
  obtain ⟨h1, h2, h3, h4⟩ := forgetM_ok h
  exact ⟨_, h1, h2, h4⟩
/-- the model's place: the number of a term -/
theorem place_ok (hF : Fx L st) {d : Nat} {D : Dc} {w : List Nat} (hd : d < 4) (h : isMd st d D) (hs : srt D) (hw : mRow st w) : f_X11_place 130 (nI d) (nI w.length) st = some (some (.int (nofI w D)), st) := by
  have hl := h.2.1
  have key : ∀ j i, D.length - i = j → i ≤ D.length → (∀ t, t < i → ∀ x, D[t]? = some x → ¬ x.1 = w) → L_X11_place_2 130 (nI d) (nI w.length) (nI i) st = some (some (.int (nofI w D)), st) := by
    intro j
    induction j with
    | zero =>
      intro i hj hi hn
      rw [e_X11_place_2, gR_ok (Fx_sh hF rfl), Option.bind_some, Fx_rf hF (v := 135) (by decide), rI_ok (Fx_sh hF (o := 135) rfl) (by omega) (by omega), Option.bind_some, h.1, if_pos (by rw [c_le (by omega) (by omega)]; omega)]
      have : nof w D = none := by
        cases hq : nof w D with
        | none => rfl
        | some t =>
          obtain ⟨x, hx, hxw⟩ := (nof_some hs).mp hq
          exact absurd hxw (hn t (by have := lt_of_get hx; omega) x hx)
      unfold nofI
      rw [this]
    | succ j ih =>
      intro i hj hi hn
      have hg : D[i]? = some D[i] := List.getElem?_eq_getElem (by omega)
      obtain ⟨r, hr1, hr2, hr3⟩ := compare_ok hF h (by omega) hg hw
      rw [e_X11_place_2, gR_ok (Fx_sh hF rfl), Option.bind_some, Fx_rf hF (v := 135) (by decide), rI_ok (Fx_sh hF (o := 135) rfl) (by omega) (by omega), Option.bind_some, h.1, if_neg (by rw [c_le (by omega) (by omega)]; omega), hr1, ri_ok]
      by_cases hx : D[i].1 = w
      · rw [if_pos (hr3.mpr (lcmp_eq0.mpr hx))]
        have : nof w D = some i := (nof_some hs).mpr ⟨_, hg, hx⟩
        unfold nofI
        rw [this]
      · rw [if_neg (fun q => hx (lcmp_eq0.mp (hr3.mp q))), nI_1]
        refine ih (i + 1) (by omega) (by omega) (fun t ht x hxt => ?_)
        by_cases hti : t = i
        · subst hti
          rw [hg] at hxt
          cases hxt
          exact hx
        · exact hn t (by omega) x hxt
  rw [e_X11_place_0, rc_ok (Fx_sh hF rfl)]
  exact key _ 0 rfl (by omega) (fun t ht => by omega)
theorem above_ok (hF : Fx L st) {d : Nat} {D : Dc} {w : List Nat} (hd : d < 4) (h : isMd st d D) (hs : srt D) (hw : mRow st w) : f_X11_above 130 (nI d) (nI w.length) st = some (some (.int (nI (bl w D))), st) := by
  have hl := h.2.1
  have hb := bl_le w D
  have key : ∀ j i, D.length - i = j → i ≤ bl w D → L_X11_above_2 130 (nI d) (nI w.length) (nI i) st = some (some (.int (nI (bl w D))), st) := by
    intro j
    induction j with
    | zero =>
      intro i hj hi
      rw [e_X11_above_2, gR_ok (Fx_sh hF rfl), Option.bind_some, Fx_rf hF (v := 135) (by decide), rI_ok (Fx_sh hF (o := 135) rfl) (by omega) (by omega), Option.bind_some, h.1, if_pos (by rw [c_le (by omega) (by omega)]; omega), show i = bl w D by omega]
    | succ j ih =>
      intro i hj hi
      have hg : D[i]? = some D[i] := List.getElem?_eq_getElem (by omega)
      obtain ⟨r, hr1, hr2, hr3⟩ := compare_ok hF h (by omega) hg hw
      have hbi := bl_iff (w := w) hs hg
      rw [e_X11_above_2, gR_ok (Fx_sh hF rfl), Option.bind_some, Fx_rf hF (v := 135) (by decide), rI_ok (Fx_sh hF (o := 135) rfl) (by omega) (by omega), Option.bind_some, h.1, if_neg (by rw [c_le (by omega) (by omega)]; omega), hr1, ri_ok]
      by_cases hx : i < bl w D
      · have : r < 0 := hr2.mpr (hbi.mpr hx)
        rw [if_neg (Int32.not_le.mpr this), nI_1]
        exact ih (i + 1) (by omega) (by omega)
      · have : ¬ r < 0 := fun q => hx (hbi.mp (hr2.mp q))
        rw [if_pos (Int32.not_lt.mp this), show i = bl w D by omega]
  rw [e_X11_above_0, rc_ok (Fx_sh hF rfl)]
  exact key _ 0 rfl (by omega)
/-- whether the model's dictionary d is open -/
theorem mOpen (h : MS L st S) {d : Nat} (hd : d < 4) : ab_rB st 136 (nI d) = some (b01 (sO S d)) := by
  rw [rZ_ok (Fx_sh h.1 (o := 136) rfl) (by omega) (by omega), (h.2.2.1 d hd).2]
def r_number (S : Sg) (d : Nat) : Int32 := if sO S d = false then nofI (sW S) (sD S d) else -4
theorem C_number_no (h : CS L st S) {d : Int32} (hd : ¬ isD d) : f_X10_number 2 d st = some (some (.int (-2)), st) := by
  rw [e_X10_number_0, rc_ok (sh2 h), cD_no hd, ri_ok, if_pos rfl]
theorem M_number_no (h : MS L st S) {d : Int32} (hd : ¬ isD d) : f_X11_number 130 d st = some (some (.int (-2)), st) := by
  rw [e_X11_number_0, rc_ok (sh130 h), mD_no hd, ri_ok, if_pos rfl]
theorem C_number (h : CS L st S) (hwf : wfS S) {d : Nat} (hd : d < 4) : ∃ st', f_X10_number 2 (nI d) st = some (some (.int (r_number S d)), st') ∧ CS L st' (setW S []) ∧ onC st st' := by
  obtain ⟨c, st', h1, h2, h3, h4, -, -⟩ := take_ok h
  obtain ⟨o, ho, q1, q2, q3, q4, q5⟩ := dic_at h2 hd
  refine ⟨st', ?_, h2, h4⟩
  rw [e_X10_number_0, rc_ok (sh2 h), cD_ok hd, ri_ok, if_neg (by decide), h1, rr_ok, gR_ok (sh2 h2), Option.bind_some, rf2_0 h2, q1, Option.bind_some, gI_ok q2, Option.bind_some, q5.2.1]
  unfold r_number
  by_cases hb : sO S d = false
  · rw [if_pos (show b01 (sO (setW S []) d) = 0 from b01_0.mpr hb), if_pos hb, gR_ok q2, Option.bind_some, q3, numberOf_ok q5.1 (hwf.2.1 d hd) h3 (by omega), ri_ok]
    rfl
  · rw [if_neg (show ¬ b01 (sO (setW S []) d) = 0 from fun q => hb (b01_0.mp q)), if_neg hb]
theorem M_number (h : MS L st S) (hwf : wfS S) {d : Nat} (hd : d < 4) : ∃ st', f_X11_number 130 (nI d) st = some (some (.int (r_number S d)), st') ∧ MS L st' (setW S []) ∧ onM st st' := by
  obtain ⟨h1, h2, h3, h4⟩ := forgetM_ok h
  refine ⟨_, ?_, h2, h4⟩
  rw [e_X11_number_0, rc_ok (sh130 h), mD_ok hd, ri_ok, if_neg (by decide), h1, ri_ok, gR_ok (sh130 h2), Option.bind_some, Fx_rf h2.1 (v := 136) (by decide), mOpen h2 hd, Option.bind_some]
  unfold r_number
  by_cases hb : sO S d = false
  · rw [if_pos (show b01 (sO (setW S []) d) = 0 from b01_0.mpr hb), if_pos hb, place_ok h2.1 hd (h2.2.2.1 d hd).1 (hwf.2.1 d hd) h3, ri_ok]
    rfl
  · rw [if_neg (show ¬ b01 (sO (setW S []) d) = 0 from fun q => hb (b01_0.mp q)), if_neg hb]
end LOOK
