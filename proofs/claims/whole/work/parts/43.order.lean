/-! THE ORDER OF TERMS, and what searches by it -/
theorem lcmp_nil_l {y : List Nat} : lcmp [] y = if y = [] then 0 else -1 := by cases y <;> rfl
theorem lcmp_eq0 : ∀ {x y : List Nat}, lcmp x y = 0 ↔ x = y
  | [], [] => by simp [lcmp]
  | [], _ :: _ => by simp [lcmp]
  | _ :: _, [] => by simp [lcmp]
  | a :: x, b :: y => by
    unfold lcmp
    by_cases h : a = b
    · subst h
      rw [if_pos rfl, lcmp_eq0]
      simp
    · rw [if_neg h]
      by_cases h2 : a < b
      · rw [if_pos h2]; simp [h]
      · rw [if_neg h2]; simp [h]
theorem lcmp_self {x : List Nat} : lcmp x x = 0 := lcmp_eq0.mpr rfl
theorem lcmp_tri : ∀ (x y : List Nat), lcmp x y = -1 ∨ lcmp x y = 0 ∨ lcmp x y = 1
  | [], [] => by simp [lcmp]
  | [], _ :: _ => by simp [lcmp]
  | _ :: _, [] => by simp [lcmp]
  | a :: x, b :: y => by
    unfold lcmp
    by_cases h : a = b
    · rw [if_pos h]; exact lcmp_tri x y
    · rw [if_neg h]
      by_cases h2 : a < b
      · rw [if_pos h2]; simp
      · rw [if_neg h2]; simp
theorem lcmp_swap : ∀ {x y : List Nat}, lcmp x y = -1 ↔ lcmp y x = 1
  | [], [] => by simp [lcmp]
  | [], _ :: _ => by simp [lcmp]
  | _ :: _, [] => by simp [lcmp]
  | a :: x, b :: y => by
    unfold lcmp
    by_cases h : a = b
    · subst h
      rw [if_pos rfl, if_pos rfl, lcmp_swap]
    · have h' : ¬ b = a := fun q => h q.symm
      simp only [h, h', if_false]
      by_cases h2 : a < b
      · have h3 : ¬ b < a := by omega
        simp [h2, h3]
      · have h3 : b < a := by omega
        simp [h2, h3]
theorem lcmp_trans : ∀ {x y z : List Nat}, lcmp x y = -1 → lcmp y z = -1 → lcmp x z = -1
  | [], _, [], h1, h2 => by
    rename_i y
    cases y with
    | nil => simp [lcmp] at h1
    | cons => simp [lcmp] at h2
  | [], _, _ :: _, _, _ => by simp [lcmp]
  | _ :: _, [], _, h1, _ => by simp [lcmp] at h1
  | _ :: _, _ :: _, [], _, h2 => by simp [lcmp] at h2
  | a :: x, b :: y, c :: z, h1, h2 => by
    unfold lcmp at h1 h2 ⊢
    by_cases hab : a = b
    · subst hab
      rw [if_pos rfl] at h1
      by_cases hac : a = c
      · subst hac
        rw [if_pos rfl] at h2 ⊢
        exact lcmp_trans h1 h2
      · rw [if_neg hac] at h2 ⊢
        exact h2
    · rw [if_neg hab] at h1
      by_cases hlt : a < b
      · by_cases hbc : b = c
        · subst hbc
          rw [if_neg hab, if_pos hlt]
        · rw [if_neg hbc] at h2
          by_cases hlt2 : b < c
          · rw [if_neg (by omega), if_pos (by omega)]
          · rw [if_neg hlt2] at h2; simp at h2
      · rw [if_neg hlt] at h1; simp at h1
/-- rising -/
def srt (D : Dc) : Prop := ∀ (i j : Nat) (x y : List Nat × Nat), D[i]? = some x → D[j]? = some y → i < j → lcmp x.1 y.1 = -1
theorem srt_tail {x : List Nat × Nat} {D : Dc} (h : srt (x :: D)) : srt D := fun i j a b ha hb hij => h (i + 1) (j + 1) a b ha hb (by omega)
/-- how many are below w -/
def bl (w : List Nat) : Dc → Nat
  | [] => 0
  | x :: D => if lcmp x.1 w = -1 then bl w D + 1 else 0
theorem bl_le (w : List Nat) : ∀ D : Dc, bl w D ≤ D.length
  | [] => Nat.le_refl _
  | x :: D => by
    unfold bl
    have := bl_le w D
    split <;> simp <;> omega
theorem bl_iff {w : List Nat} : ∀ {D : Dc}, srt D → ∀ {t : Nat} {x : List Nat × Nat}, D[t]? = some x → (lcmp x.1 w = -1 ↔ t < bl w D)
  | [], _, _, _, h => by simp at h
  | y :: D, hs, t, x, h => by
    unfold bl
    match t, h with
    | 0, h =>
      cases h
      by_cases hy : lcmp y.1 w = -1
      · simp [hy]
      · simp [hy]
    | t + 1, h =>
      have h' : D[t]? = some x := h
      by_cases hy : lcmp y.1 w = -1
      · rw [if_pos hy, bl_iff (srt_tail hs) h']; omega
      · rw [if_neg hy]
        constructor
        · intro hx
          exact absurd (lcmp_trans (hs 0 (t + 1) y x rfl h (by omega)) hx) hy
        · intro hx; omega
section TM2
variable {st : ab_S} {o : Nat} {D : Dc} {a room : Nat} {w : List Nat}
theorem ushr1 {n : Nat} (h : n < 4294967296) : ((nI n).toUInt32 >>> ((1 : Int32).toUInt32 &&& Int32.toUInt32 31)).toInt32 = nI (n / 2) := by
  have := pk_ushrN (n := n) h (1 : Int32) 1 (by decide)
  simpa using this
theorem leastNotBelow_ok (h : isTm st o D) (hs : srt D) (hw : isSg st a room w) (hroom : 13 ≤ room) : f_X7_leastNotBelow o a st = some (some (.int (nI (bl w D))), st) := by
  have h9 := h.2.2.2.2.2.2.2.2.1
  have key : ∀ k lo hi sp, hi - lo ≤ k → lo ≤ bl w D → bl w D ≤ hi → hi ≤ D.length → sp + (hi - lo) ≤ 200 → L_X7_leastNotBelow_10 o a (nI lo) (nI hi) (nI sp) st = some (some (.int (nI (bl w D))), st) := by
    intro k
    induction k with
    | zero =>
      intro lo hi sp hk hlo hhi hl hsp
      rw [e_X7_leastNotBelow_10, nl 200, if_neg (by rw [c_lt (by omega) (by omega)]; omega), if_pos (by rw [c_le (by omega) (by omega)]; omega), show lo = bl w D by omega]
    | succ k ih =>
      intro lo hi sp hk hlo hhi hl hsp
      rw [e_X7_leastNotBelow_10, nl 200, if_neg (by rw [c_lt (by omega) (by omega)]; omega)]
      by_cases hlt : hi ≤ lo
      · rw [if_pos (by rw [c_le (by omega) (by omega)]; omega), show lo = bl w D by omega]
      · rw [if_neg (by rw [c_le (by omega) (by omega)]; omega), a_add, ushr1 (by omega)]
        have hm : (lo + hi) / 2 < D.length := by omega
        have hg : D[(lo + hi) / 2]? = some D[(lo + hi) / 2] := List.getElem?_eq_getElem hm
        have hiff := bl_iff (w := w) hs hg
        rw [compareWith_ok h hg hw hroom, ri_ok]
        rcases lcmp_tri D[(lo + hi) / 2].1 w with hc | hc | hc
        · rw [hc, if_neg (by decide), e_X7_leastNotBelow_51, nl 1, a_add, a_add]
          have := hiff.mp hc
          exact ih _ _ _ (by omega) (by omega) hhi hl (by omega)
        · have : ¬ (lo + hi) / 2 < bl w D := fun q => by have := hiff.mpr q; rw [hc] at this; cases this
          rw [hc, if_pos (by decide), e_X7_leastNotBelow_51, nl 1, a_add]
          exact ih _ _ _ (by omega) hlo (by omega) (by omega) (by omega)
        · have : ¬ (lo + hi) / 2 < bl w D := fun q => by have := hiff.mpr q; rw [hc] at this; cases this
          rw [hc, if_pos (by decide), e_X7_leastNotBelow_51, nl 1, a_add]
          exact ih _ _ _ (by omega) hlo (by omega) (by omega) (by omega)
  rw [e_X7_leastNotBelow_0, rc_ok h.1, gI_ok h.1, Option.bind_some, h.2.2.2.2.2.2.2.1, nl 0]
  exact key D.length 0 D.length 0 (by omega) (Nat.zero_le _) (bl_le w D) (Nat.le_refl _) (by omega)
/-- the number of a term, or none -/
def nof (w : List Nat) (D : Dc) : Option Nat := match D[bl w D]? with
  | some x => if x.1 = w then some (bl w D) else none
  | none => none
def nofI (w : List Nat) (D : Dc) : Int32 := match nof w D with
  | some t => nI t
  | none => -1
theorem nof_some {t : Nat} (hs : srt D) : nof w D = some t ↔ ∃ x, D[t]? = some x ∧ x.1 = w := by
  unfold nof
  constructor
  · intro h
    cases hg : D[bl w D]? with
    | none => rw [hg] at h; cases h
    | some x =>
      rw [hg] at h
      by_cases hx : x.1 = w
      · simp only [hx, if_true] at h
        cases h
        exact ⟨x, hg, hx⟩
      · simp [hx] at h
  · rintro ⟨x, hx, rfl⟩
    have h1 : ¬ t < bl x.1 D := fun q => by have := (bl_iff hs hx).mpr q; rw [lcmp_self] at this; cases this
    have h2 : bl x.1 D = t := by
      rcases Nat.lt_or_ge (bl x.1 D) t with q | q
      · have hlx : bl x.1 D < D.length := Nat.lt_trans q (lt_of_get hx)
        have hg : D[bl x.1 D]? = some D[bl x.1 D] := List.getElem?_eq_getElem hlx
        have h3 := hs _ _ _ _ hg hx q
        exact absurd ((bl_iff hs hg).mp h3) (by omega)
      · omega
    rw [h2, hx]
    simp
theorem numberOf_ok (h : isTm st o D) (hs : srt D) (hw : isSg st a room w) (hroom : 13 ≤ room) : f_X7_numberOf o a st = some (some (.int (nofI w D)), st) := by
  have h9 := h.2.2.2.2.2.2.2.2.1
  have hb := bl_le w D
  rw [e_X7_numberOf_0, rc_ok h.1, leastNotBelow_ok h hs hw hroom, ri_ok, gI_ok h.1, Option.bind_some, h.2.2.2.2.2.2.2.1]
  unfold nofI nof
  by_cases h1 : bl w D < D.length
  · have hg : D[bl w D]? = some D[bl w D] := List.getElem?_eq_getElem h1
    rw [if_neg (by rw [c_le (by omega) (by omega)]; omega), compareWith_ok h hg hw hroom, ri_ok, hg]
    by_cases hx : D[bl w D].1 = w
    · rw [if_pos (lcmp_eq0.mpr hx)]
      simp [hx]
    · rw [if_neg (fun q => hx (lcmp_eq0.mp q))]
      simp [hx]
  · rw [if_pos (by rw [c_le (by omega) (by omega)]; omega), List.getElem?_eq_none (by omega)]
theorem beginsWith_ok (h : isTm st o D) {t : Nat} {x : List Nat × Nat} (hx : D[t]? = some x) (hw : isSg st a room w) (hroom : 13 ≤ room) : f_X7_beginsWith o (nI t) a st = some (some (.int (if w.isPrefixOf x.1 then 1 else 0)), st) := by
  have h9 := h.2.2.2.2.2.2.2.2.1
  have hl := lt_of_get hx
  obtain ⟨b1, b2, b3, b4, b5⟩ := h.2.2.2.2.2.2.2.2.2 t x hx
  have hwl := hw.2.2.2.2.2.2.2
  rw [e_X7_beginsWith_0, rc_ok h.1, has_n h (by omega), ri_ok, if_pos hl, if_neg (by decide), gI_ok hw.1, Option.bind_some, hw.2.2.2.1, lengthAt_ok h hx, ri_ok]
  have key : w.length ≤ x.1.length → ∀ j i, w.length - i = j → i ≤ w.length → L_X7_beginsWith_24 o (nI t) a (nI i) st = some (some (.int (if (w.drop i).isPrefixOf (x.1.drop i) then 1 else 0)), st) := by
    intro hwx j
    induction j with
    | zero =>
      intro i hj hi
      rw [e_X7_beginsWith_24, gI_ok hw.1, Option.bind_some, hw.2.2.2.1, if_pos (by rw [c_le (by omega) (by omega)]; omega), z_1, List.drop_eq_nil_of_le (by omega)]
      simp [List.isPrefixOf]
    | succ j ih =>
      intro i hj hi
      have hg : w[i]? = some w[i] := List.getElem?_eq_getElem (by omega)
      have hg2 : x.1[i]? = some x.1[i] := List.getElem?_eq_getElem (by omega)
      rw [e_X7_beginsWith_24, gI_ok hw.1, Option.bind_some, hw.2.2.2.1, if_neg (by rw [c_le (by omega) (by omega)]; omega), signAt_ok h hx (by omega), ri_ok, atn_ok hw (by omega), ri_ok, z_0]
      have hs1 := hw.2.2.2.2.2.1 _ (List.mem_of_getElem? hg)
      have hs2 := (b3 i _ hg2).2
      rw [drop_some hg, drop_some hg2, lg_some hg, lg_some hg2]
      generalize w[i] = u at hs1
      generalize x.1[i] = v at hs2
      by_cases huv : v = u
      · subst huv
        rw [if_pos rfl, nI_1, ih (i + 1) (by omega) (by omega)]
        simp [List.isPrefixOf]
      · rw [if_neg (by rw [c_eq (by omega) (by omega)]; exact huv)]
        have : ¬ (u = v) := fun q => huv q.symm
        simp [List.isPrefixOf, this]
  by_cases hwx : w.length ≤ x.1.length
  · rw [if_pos (by rw [c_le (by omega) (by omega)]; exact hwx)]
    have := key hwx _ 0 rfl (by omega)
    rw [List.drop_zero, List.drop_zero] at this
    exact this
  · rw [if_neg (by rw [c_le (by omega) (by omega)]; exact hwx), z_0]
    have hno : w.isPrefixOf x.1 = false := by
      cases hp : w.isPrefixOf x.1 with
      | false => rfl
      | true =>
        have := List.IsPrefix.length_le (List.isPrefixOf_iff_prefix.mp hp)
        omega
    rw [hno]; rfl
end TM2
