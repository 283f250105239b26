/-! SIGNS: a row of signs w in the Signs object o, whose array is o + 1, of a given room; what goes beyond the room is counted alone -/
def isSg (st : ab_S) (o room : Nat) (w : List Nat) : Prop := (sH st)[o]? = some (0, 6) ∧ (sH st)[o + 1]? = some (1, room) ∧ sR st o 0 = o + 1 ∧ sI st o 1 = nI w.length ∧ (∀ k s, k < room → w[k]? = some s → sI st (o + 1) k = nI s) ∧ (∀ s ∈ w, s < 256) ∧ room < 100000 ∧ w.length < 100000000
theorem isSg_mono {st st' : ab_S} {o room : Nat} {w : List Nat} (h : isSg st o room w) (hH : sH st' = sH st) (hR : sR st' o 0 = sR st o 0) (h0 : eqo st st' o) (h1 : eqo st st' (o + 1)) : isSg st' o room w := by
  obtain ⟨a1, a2, a3, a4, a5, a6, a7, a8⟩ := h
  exact ⟨by rw [hH]; exact a1, by rw [hH]; exact a2, by rw [hR]; exact a3, by rw [h0.1]; exact a4, fun k s hk hs => by rw [h1.1]; exact a5 k s hk hs, a6, a7, a8⟩
theorem isSg_up {W : Nat → Prop} {st st' : ab_S} {o room : Nat} {w : List Nat} (h : isSg st o room w) (hu : upto W st st') (h0 : ¬ W o) (h1 : ¬ W (o + 1)) : isSg st' o room w := isSg_mono h hu.1 (by rw [hu.2.1]) (hu.2.2 _ h0) (hu.2.2 _ h1)
/-- what at() answers: the sign, or NONE -/
def sgAt (room : Nat) (w : List Nat) (i : Int32) : Int32 := if i < 0 then -1 else if i.toNatClampNeg < room then lg w i.toNatClampNeg else -1
theorem sgAt_n {room : Nat} {w : List Nat} {n : Nat} (hn : n < 2147483648) (hr : n < room) : sgAt room w (nI n) = lg w n := by
  unfold sgAt
  rw [if_neg (nI_pos hn), a_cl hn, if_pos hr]
theorem at_ok {st : ab_S} {o room : Nat} {w : List Nat} (h : isSg st o room w) (i : Int32) : f_X6_at o i st = some (some (.int (sgAt room w i)), st) := by
  obtain ⟨a1, a2, a3, a4, a5, a6, a7, a8⟩ := h
  rw [e_X6_at_0, rc_ok a1]
  simp only [gI_ok a1, gR_ok a1, Option.bind_some, a3, a4, n_ok a2 (by decide) (by decide)]
  rcases n_cases i with hi | ⟨n, hn, rfl⟩
  · rw [if_pos hi]
    unfold sgAt
    rw [if_pos hi]
  · have h0 : ¬ nI n < 0 := nI_pos hn
    rw [if_neg h0]
    unfold sgAt
    rw [if_neg h0, a_cl hn]
    show (if nI w.length ≤ nI n then _ else if nI n < nI room then _ else _) = _
    by_cases h1 : w.length ≤ n
    · rw [if_pos (by rw [c_le (by omega) hn]; exact h1)]
      have : w[n]? = none := List.getElem?_eq_none h1
      rw [lg_none this]
      simp
    · rw [if_neg (by rw [c_le (by omega) hn]; exact h1)]
      by_cases h2 : n < room
      · rw [if_pos (by rw [c_lt hn (by omega)]; exact h2), if_pos h2, rI_ok a2 h2 (by omega)]
        have hg : w[n]? = some w[n] := List.getElem?_eq_getElem (by omega)
        rw [lg_some hg, a5 n _ h2 hg]
        rfl
      · rw [if_neg (by rw [c_lt hn (by omega)]; exact h2), if_neg h2]
theorem clear_ok {st : ab_S} {o room : Nat} {w : List Nat} (h : isSg st o room w) : f_X6_clear o st = some (none, uI st o 1 0) ∧ isSg (uI st o 1 0) o room [] := by
  obtain ⟨a1, a2, a3, a4, a5, a6, a7, a8⟩ := h
  refine ⟨?_, a1, a2, a3, ?_, fun k s _ h => by simp at h, fun s h => by simp at h, a7, by simp⟩
  · rw [e_X6_clear_0, rc_ok a1, pI_ok a1]; rfl
  · simp [I_uI]; rfl
theorem atn_ok {st : ab_S} {o room : Nat} {w : List Nat} (h : isSg st o room w) {n : Nat} (hn : n < room) : f_X6_at o (nI n) st = some (some (.int (lg w n)), st) := by
  have := h.2.2.2.2.2.2.1
  rw [at_ok h, sgAt_n (by omega) hn]
theorem put_ok {st : ab_S} {o room : Nat} {w : List Nat} (h : isSg st o room w) (v : Int32) (hl : w.length + 1 < 100000000) : ∃ st', f_X6_put o v st = some (none, st') ∧ isSg st' o room (w ++ [v.toBitVec.toNat % 256]) ∧ upto (fun q => q = o ∨ q = o + 1) st st' := by
  obtain ⟨a1, a2, a3, a4, a5, a6, a7, a8⟩ := h
  have hv : v &&& (255 : Int32) = nI (v.toBitVec.toNat % 256) := pk_and v 8 (by decide)
  have h256 : v.toBitVec.toNat % 256 < 256 := Nat.mod_lt _ (by decide)
  rw [e_X6_put_0, rc_ok a1]
  simp only [gI_ok a1, gR_ok a1, Option.bind_some, a3, a4, n_ok a2 (by decide) (by decide)]
  show ∃ st', (if nI room ≤ nI w.length then _ else _) = _ ∧ _
  by_cases h1 : room ≤ w.length
  · rw [if_pos (by rw [c_le (by omega) (by omega)]; exact h1), e_X6_put_26, gI_ok a1, Option.bind_some, pI_ok a1, a4]
    refine ⟨_, rfl, ⟨a1, a2, a3, ?_, fun k s hk hs => ?_, fun s hs => ?_, a7, by simpa using hl⟩, upto_uI (Or.inl rfl)⟩
    · simp [I_uI]; exact nI_1 _
    · rw [List.getElem?_append_left (by omega)] at hs
      have : ¬ (o + 1 = o) := by omega
      simp only [I_uI, this, false_and, if_false]
      exact a5 k s hk hs
    · rcases List.mem_append.mp hs with h | h
      · exact a6 s h
      · rw [List.mem_singleton.mp h]; exact h256
  · rw [if_neg (by rw [c_le (by omega) (by omega)]; exact h1), wI_ok a2 (by omega) (by omega), Option.bind_some, e_X6_put_26]
    have b1 : (sH (uI st (o + 1) w.length (v &&& 255)))[o]? = some (0, 6) := a1
    have hne : ¬ (o = o + 1) := by omega
    rw [gI_ok b1, Option.bind_some, pI_ok b1]
    refine ⟨_, rfl, ⟨a1, a2, a3, ?_, fun k s hk hs => ?_, fun s hs => ?_, a7, by simpa using hl⟩, upto_trans (upto_uI (Or.inr rfl)) (upto_uI (Or.inl rfl))⟩
    · simp [I_uI, hne, a4]; exact nI_1 _
    · have hne2 : ¬ (o + 1 = o) := by omega
      simp only [I_uI, hne2, false_and, if_false, true_and]
      by_cases hk2 : k = w.length
      · subst hk2
        rw [if_pos rfl]
        rw [List.getElem?_append_right (Nat.le_refl _)] at hs
        simp at hs
        rw [hv, hs]
      · rw [if_neg hk2]
        have : k < w.length := by
          have := (List.getElem?_eq_some_iff.mp hs).1
          simp at this
          omega
        rw [List.getElem?_append_left this] at hs
        exact a5 k s hk hs
    · rcases List.mem_append.mp hs with h | h
      · exact a6 s h
      · rw [List.mem_singleton.mp h]; exact h256
