/-! SIGNS: a row of signs w in the Signs object o, whose array is o + 1, of a given room; what goes beyond the room is counted alone -/
def isSg (st : ab_S) (o room : Nat) (w : List Nat) : Prop := (sH st)[o]? = some (0, 6) ∧ (sH st)[o + 1]? = some (1, room) ∧ sR st o 0 = o + 1 ∧ sI st o 1 = nI w.length ∧ (∀ k s, k < room → w[k]? = some s → sI st (o + 1) k = nI s) ∧ (∀ s ∈ w, s < 256) ∧ room < 100000 ∧ w.length < 100000000
theorem isSg_mono {st st' : ab_S} {o room : Nat} {w : List Nat} (h : isSg st o room w) (hH : sH st' = sH st) (h0 : eqo st st' o) (h1 : eqo st st' (o + 1)) : isSg st' o room w := by
  obtain ⟨a1, a2, a3, a4, a5, a6, a7, a8⟩ := h
  exact ⟨by rw [hH]; exact a1, by rw [hH]; exact a2, by rw [h0.2.2]; exact a3, by rw [h0.1]; exact a4, fun k s hk hs => by rw [h1.1]; exact a5 k s hk hs, a6, a7, a8⟩
/-- what at() answers: the sign, or NONE -/
def sgAt (room : Nat) (w : List Nat) (i : Int32) : Int32 := if i < 0 then -1 else if i.toNatClampNeg < room then match w[i.toNatClampNeg]? with
  | some s => nI s
  | none => -1 else -1
theorem sgAt_n {room : Nat} {w : List Nat} {n : Nat} (hn : n < 2147483648) (hr : n < room) : sgAt room w (nI n) = match w[n]? with
    | some s => nI s
    | none => -1 := by
  unfold sgAt
  rw [if_neg (nI_pos hn), a_cl hn, if_pos hr]
theorem at_ok {st : ab_S} {o room : Nat} {w : List Nat} (h : isSg st o room w) (i : Int32) : f_X6_at o i st = some (some (.int (sgAt room w i)), st) := by
  obtain ⟨a1, a2, a3, a4, a5, a6, a7, a8⟩ := h
  rw [e_X6_at_0, rc_ok a1]
  simp only [gI_ok a1, gR_ok a1, Option.bind_some, a3, a4, n_ok a2 (by decide) (by decide)]
  rcases n_cases i with hi | ⟨n, hn, rfl⟩
  · rw [if_pos hi]
    unfold sgAt
    rw [if_pos hi]
  · have h0 : ¬ nI n < 0 := nI_pos hn
    rw [if_neg h0]
    unfold sgAt
    rw [if_neg h0, a_cl hn]
    show (if nI w.length ≤ nI n then _ else if nI n < nI room then _ else _) = _
    by_cases h1 : w.length ≤ n
    · rw [if_pos (by rw [c_le (by omega) hn]; exact h1)]
      have : w[n]? = none := List.getElem?_eq_none h1
      rw [this]
      simp
    · rw [if_neg (by rw [c_le (by omega) hn]; exact h1)]
      by_cases h2 : n < room
      · rw [if_pos (by rw [c_lt hn (by omega)]; exact h2), if_pos h2, rI_ok a2 h2 (by omega)]
        have hg : w[n]? = some w[n] := List.getElem?_eq_getElem (by omega)
        rw [hg, a5 n _ h2 hg]
        rfl
      · rw [if_neg (by rw [c_lt hn (by omega)]; exact h2), if_neg h2]
theorem clear_ok {st : ab_S} {o room : Nat} {w : List Nat} (h : isSg st o room w) : f_X6_clear o st = some (none, uI st o 1 0) ∧ isSg (uI st o 1 0) o room [] := by
  obtain ⟨a1, a2, a3, a4, a5, a6, a7, a8⟩ := h
  refine ⟨?_, a1, a2, a3, ?_, fun k s _ h => by simp at h, fun s h => by simp at h, a7, by simp⟩
  · rw [e_X6_clear_0, rc_ok a1, pI_ok a1]; rfl
  · simp [I_uI]; rfl
