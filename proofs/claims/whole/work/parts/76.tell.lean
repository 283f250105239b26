/-! THE CLASS'S MACHINE IS READ: done, state, count, arc -/
theorem atO_cases {α : Type} {D : List α} {i : Int32} : atO D i = none ∨ ∃ n x, n < 2147483648 ∧ i = nI n ∧ D[n]? = some x ∧ atO D i = some x := by
  rcases n_cases i with hi | ⟨n, hn, rfl⟩
  · exact Or.inl (atO_neg hi)
  · rw [atO_n hn]
    cases hg : D[n]? with
    | none => exact Or.inl rfl
    | some x => exact Or.inr ⟨n, x, hn, rfl, hg, rfl⟩
section TELL
variable {L : Nat} {st : ab_S} {o : Nat} {M : MM} {B V : Nat}
abbrev QX : Type := Option Nat × Nat × List (Nat × Nat × Nat)
theorem mhas_ok (h : MO st o) (hM : mcG st o M B V) (i : Int32) : f_X1_has o i st = some (some (.int (if (atO M.2.2 i).isSome then 1 else 0)), st) := by
  obtain ⟨m1, m2, m3, m4, m5, m6, ⟨m7, m8, m9, m10⟩, m11⟩ := hM
  rw [e_X1_has_0, mc h, mi h, Option.bind_some, m2, z_0, z_1]
  rcases n_cases i with hi | ⟨n, hn, rfl⟩
  · rw [if_pos hi, atO_neg hi]; rfl
  · rw [if_neg (nI_pos hn), atO_n hn, nl 2401]
    by_cases h1 : n < M.2.2.length
    · rw [if_neg (by rw [c_le (by omega) hn]; omega), if_neg (by rw [c_le (by omega) hn]; omega), List.getElem?_eq_getElem h1]; rfl
    · rw [if_pos (by rw [c_le (by omega) hn]; omega), List.getElem?_eq_none (by omega)]; rfl
theorem mhas_no (h : MO st o) (hM : mcG st o M B V) {i : Int32} (ha : atO M.2.2 i = none) : f_X1_has o i st = some (some (.int 0), st) := by
  rw [mhas_ok h hM, ha]; rfl
theorem mhas_yes (h : MO st o) (hM : mcG st o M B V) {i : Int32} {x : QX} (ha : atO M.2.2 i = some x) : f_X1_has o i st = some (some (.int 1), st) := by
  rw [mhas_ok h hM, ha]; rfl
def narcs : Option QX → Nat
  | some x => x.2.2.length
  | none => 0
theorem arcs_le (hM : mcG st o M B V) {s : Nat} {x : QX} (hx : M.2.2[s]? = some x) : s < 2401 ∧ arcsB M s + x.2.2.length ≤ 2400 := by
  obtain ⟨m1, m2, m3, m4, m5, m6, ⟨m7, m8, m9, m10⟩, m11⟩ := hM
  have hl := (List.getElem?_eq_some_iff.mp hx).1
  have := arcsB_succ hx
  have := arcsB_mono (M := M) (s := s + 1) (t := M.2.2.length) hl
  omega
theorem arcsOf_ok (h : MO st o) (hM : mcG st o M B V) (i : Int32) : f_X1_arcsOf o i st = some (some (.int (nI (narcs (atO M.2.2 i)))), st) := by
  rw [e_X1_arcsOf_0, mc h]
  rcases atO_cases (D := M.2.2) (i := i) with ha | ⟨n, x, hn, rfl, hx, ha⟩
  · rw [mhas_no h hM ha, ri_ok, if_pos rfl, ha]; rfl
  · obtain ⟨g1, g2⟩ := arcs_le hM hx
    obtain ⟨n1, n2, n3, n4, n5, n6, n7⟩ := hM.2.2.2.2.2.2.2 n x hx
    rw [mhas_yes h hM ha, ri_ok, if_neg (by decide), ha, mg0 h, Option.bind_some, nI_1, mr1 h (by omega), Option.bind_some, Option.bind_some, mr1 h (by omega), Option.bind_some, n5, n6, arcsB_succ hx, a_sub (by omega), Nat.add_sub_cancel_left]
    rfl
def arcI (M : MM) (s i : Int32) : Option (Nat × Nat × Nat) := (atO M.2.2 s).bind fun x => atO x.2.2 i
def tellA : Option (Nat × Nat × Nat) → Int32 → Int64
  | none, _ => -1
  | some y, w => if w = 0 then lN y.1 else if w = 1 then lN y.2.1 else lN y.2.2
theorem tellArc_ok (h : MO st o) (hM : mcG st o M B V) (hB : B ≤ 2401) (s i w : Int32) : f_X1_tellArc o s i w st = some (some (.long (tellA (arcI M s i) w)), st) := by
  rw [e_X1_tellArc_0, mc h, e_X1_placeOfArc_0, mc h]
  rcases n_cases i with hi | ⟨j, hj, rfl⟩
  · rw [if_pos hi, ri_ok, if_pos (by decide)]
    have : arcI M s i = none := by
      unfold arcI
      cases atO M.2.2 s with
      | none => rfl
      | some x => exact atO_neg hi
    rw [this]; rfl
  · rw [if_neg (nI_pos hj), arcsOf_ok h hM, ri_ok]
    unfold arcI
    rcases atO_cases (D := M.2.2) (i := s) with ha | ⟨n, x, hn, rfl, hx, ha⟩
    · rw [ha]
      show ab_ri (if nI j < nI 0 then _ else _) _ = _
      rw [if_neg (by rw [c_neg hj]; exact id), ri_ok, if_pos (by decide)]
      rfl
    · obtain ⟨g1, g2⟩ := arcs_le hM hx
      obtain ⟨m1, m2, m3, m4, m5, m6, ⟨m7, m8, m9, m10⟩, m11⟩ := hM
      obtain ⟨n1, n2, n3, n4, n5, n6, n7⟩ := m11 n x hx
      rw [ha]
      show ab_ri (if nI j < nI x.2.2.length then _ else _) _ = some (some (.long (tellA (atO x.2.2 (nI j)) w)), st)
      rw [atO_n hj]
      by_cases hjl : j < x.2.2.length
      · have hg : x.2.2[j]? = some x.2.2[j] := List.getElem?_eq_getElem hjl
        obtain ⟨y1, y2, y3, y4, y5, y6⟩ := n7 j _ hg
        rw [hg]
        generalize x.2.2[j] = y at y1 y2 y3 y4 y5 y6
        rw [if_pos (by rw [c_lt hj (by omega)]; exact hjl), mg0 h, Option.bind_some, mr1 h (by omega), Option.bind_some, ri_ok, n5, a_add, if_neg (nI_pos (by omega)), if_pos (by rw [nl 2400, c_lt (by omega) (by omega)]; omega)]
        unfold tellA
        by_cases w0 : w = 0
        · rw [if_pos w0, mg3 h, Option.bind_some, mr4 h (by omega), Option.bind_some, y1, nI_l (by omega)]
          simp only [w0, if_true]
        · by_cases w1 : w = 1
          · rw [if_neg w0, if_pos w1, mg4 h, Option.bind_some, mr5 h (by omega), Option.bind_some, y3, nI_l (by omega)]
            simp only [w1]; rfl
          · rw [if_neg w0, if_neg w1, mg5 h, Option.bind_some, mr6 h (by omega), Option.bind_some, y5]
            simp only [w0, w1, if_false]
      · rw [if_neg (by rw [c_lt hj (by omega)]; exact hjl), ri_ok, if_pos (by decide), List.getElem?_eq_none (by omega)]
        rfl
def tellS : Option QX → Int32 → Int64
  | none, _ => -1
  | some x, w => if w = 0 then lN x.2.2.length else if w = 1 then (if x.1.isSome then 1 else 0) else if w = 2 then lastI x.1 else lN x.2.1
theorem tellState_ok (h : MO st o) (hM : mcG st o M B V) (hV : V < 4611686018427387904) (s w : Int32) : f_X1_tellState o s w st = some (some (.long (tellS (atO M.2.2 s) w)), st) := by
  rw [e_X1_tellState_0, mc h]
  rcases atO_cases (D := M.2.2) (i := s) with ha | ⟨n, x, hn, rfl, hx, ha⟩
  · rw [mhas_no h hM ha, ri_ok, if_pos rfl, ha]; rfl
  · obtain ⟨g1, g2⟩ := arcs_le hM hx
    have ho := arcsOf_ok h hM (nI n)
    obtain ⟨n1, n2, n3, n4, n5, n6, n7⟩ := hM.2.2.2.2.2.2.2 n x hx
    rw [mhas_yes h hM ha, ri_ok]
    rw [ha] at ho ⊢
    rw [if_neg (by decide)]
    unfold tellS
    by_cases w0 : w = 0
    · rw [if_pos w0, ho, ri_ok]
      simp only [w0, if_true]
      show some (some (Value.long (nI x.2.2.length).toInt64), st) = _
      rw [nI_l (by omega)]
    · by_cases w1 : w = 1
      · rw [if_neg w0, if_pos w1, mg1 h, Option.bind_some, mr2 h (by omega), Option.bind_some, n1]
        simp only [w1]
        by_cases hq : x.1 = none
        · rw [if_pos (cmp_eq.mpr ((lastI_m1 n2 hV).mpr hq)), hq]; rfl
        · rw [if_neg (fun q => hq ((lastI_m1 n2 hV).mp (cmp_eq.mp q)))]
          cases hx1 : x.1 with
          | none => exact absurd hx1 hq
          | some v => rfl
      · by_cases w2 : w = 2
        · rw [if_neg w0, if_neg w1, if_pos w2, mg1 h, Option.bind_some, mr2 h (by omega), Option.bind_some, n1]
          simp only [w2]; rfl
        · rw [if_neg w0, if_neg w1, if_neg w2, mg2 h, Option.bind_some, mr3 h (by omega), Option.bind_some, n3, nI_l (by omega)]
          simp only [w0, w1, w2, if_false]
theorem lastOf_ok (h : MO st o) (hM : mcG st o M B V) (s : Int32) : f_X1_lastOf o s st = some (some (.long (match atO M.2.2 s with | some x => lastI x.1 | none => -1)), st) := by
  rw [e_X1_lastOf_0, mc h]
  rcases atO_cases (D := M.2.2) (i := s) with ha | ⟨n, x, hn, rfl, hx, ha⟩
  · rw [mhas_no h hM ha, ri_ok, if_pos rfl, ha]
  · obtain ⟨g1, g2⟩ := arcs_le hM hx
    rw [mhas_yes h hM ha, ri_ok, if_neg (by decide), ha, mg1 h, Option.bind_some, mr2 h (by omega), Option.bind_some, (hM.2.2.2.2.2.2.2 n x hx).1]
/-- the state behind a sign, behind a word -/
def goS (M : MM) (s a : Nat) : Option Nat := (M.2.2[s]?).bind fun x => (x.2.2.find? (fun y => decide (y.1 = a))).map (fun y => y.2.1)
def goW (M : MM) : Option Nat → List Nat → Option Nat
  | q, [] => q
  | none, _ => none
  | some s, a :: w => goW M (goS M s a) w
def opI : Option Nat → Int32
  | some s => nI s
  | none => -1
theorem behindSign_ok (h : MO st o) (hM : mcG st o M B V) (hB : B ≤ 2401) {s a : Nat} (hs : s < 2401) (ha : a < 256) : f_X1_stateBehindSign o (nI s) (nI a) st = some (some (.int (opI (goS M s a))), st) := by
  have aO : atO M.2.2 (nI s) = M.2.2[s]? := atO_n (by omega)
  have key : ∀ k i, narcs (M.2.2[s]?) - i = k → i ≤ narcs (M.2.2[s]?) → (∀ x, M.2.2[s]? = some x → (x.2.2.find? (fun y => decide (y.1 = a))) = ((x.2.2.drop i).find? (fun y => decide (y.1 = a)))) → L_X1_stateBehindSign_2 o (nI s) (nI a) (nI i) st = some (some (.int (opI (goS M s a))), st) := by
    intro k
    induction k with
    | zero =>
      intro i hk hi hf
      have hna : narcs (M.2.2[s]?) ≤ 2400 := by
        cases hx : M.2.2[s]? with
        | none => simp [narcs]
        | some x => have := (arcs_le hM hx).2; simp only [narcs]; omega
      rw [e_X1_stateBehindSign_2, arcsOf_ok h hM, ri_ok, aO, if_pos (by rw [c_le (by omega) (by omega)]; omega)]
      have : goS M s a = none := by
        unfold goS
        cases hx : M.2.2[s]? with
        | none => rfl
        | some x =>
          rw [hx] at hk
          simp only [narcs] at hk
          show ((x.2.2.find? _).map _) = none
          rw [hf x hx, List.drop_eq_nil_of_le (by omega)]
          rfl
      rw [this]; rfl
    | succ k ih =>
      intro i hk hi hf
      cases hx : M.2.2[s]? with
      | none => rw [hx] at hk; simp only [narcs] at hk; omega
      | some x =>
        rw [hx] at hk hi
        simp only [narcs] at hk hi
        obtain ⟨g1, g2⟩ := arcs_le hM hx
        have hg : x.2.2[i]? = some x.2.2[i] := List.getElem?_eq_getElem (by omega)
        have hy := (hM.2.2.2.2.2.2.2 s x hx).2.2.2.2.2.2 i _ hg
        have hfx := hf x hx
        rw [e_X1_stateBehindSign_2, arcsOf_ok h hM, ri_ok, aO, hx]
        show (if nI x.2.2.length ≤ nI i then _ else _) = _
        rw [if_neg (by rw [c_le (by omega) (by omega)]; omega), tellArc_ok h hM hB, rl_ok, tellArc_ok h hM hB, rl_ok]
        have eA : arcI M (nI s) (nI i) = some x.2.2[i] := by
          unfold arcI
          rw [aO, hx]
          show atO x.2.2 (nI i) = _
          rw [atO_n (by omega), hg]
        rw [eA, List.drop_eq_getElem_cons (by omega)] at *
        generalize x.2.2[i] = y at hy hfx
        show (if lg_cmp (lN y.1) (nI a).toInt64 = 0 then some (some (Value.int (lN y.2.1).toInt32), st) else _) = _
        rw [nI_l (by omega), lN_i]
        by_cases hya : y.1 = a
        · rw [if_pos (cmp_eq.mpr (by rw [hya]))]
          have : goS M s a = some y.2.1 := by
            unfold goS
            rw [hx]
            show ((x.2.2.find? _).map _) = _
            rw [hfx, List.find?_cons_of_pos (by simp [hya])]
            rfl
          rw [this]; rfl
        · rw [if_neg (fun q => hya ((pk_lEQ (by omega) (by omega)).mp (cmp_eq.mp q))), nI_1]
          refine ih (i + 1) (by rw [hx]; simp only [narcs]; omega) (by rw [hx]; simp only [narcs]; omega) (fun z hz => ?_)
          rw [hx] at hz
          cases hz
          rw [hfx, List.find?_cons_of_neg (by simp [hya])]
  rw [e_X1_stateBehindSign_0, mc h]
  exact key _ 0 rfl (Nat.zero_le _) (fun x _ => by rw [List.drop_zero])
theorem goS_lt (hM : mcG st o M B V) {s a t : Nat} (h : goS M s a = some t) : t < B := by
  unfold goS at h
  cases hx : M.2.2[s]? with
  | none => rw [hx] at h; cases h
  | some x =>
    rw [hx] at h
    change ((x.2.2.find? _).map _) = _ at h
    cases hf : x.2.2.find? (fun y => decide (y.1 = a)) with
    | none => rw [hf] at h; cases h
    | some y =>
      rw [hf] at h
      cases h
      obtain ⟨j, hj⟩ := List.getElem?_of_mem (List.mem_of_find?_eq_some hf)
      exact ((hM.2.2.2.2.2.2.2 s x hx).2.2.2.2.2.2 j y hj).2.2.2.1
theorem stateBehind_ok (h : MO st o) (hM : mcG st o M B V) (hB : B ≤ 2401) {a : Nat} {w : List Nat} (hw : isSg st a 4000 w) (hl : w.length ≤ 4000) : f_X1_stateBehind o a st = some (some (.int (opI (goW M (some 0) w))), st) := by
  have hw6 := hw.2.2.2.2.2.1
  have key : ∀ k i q, w.length - i = k → i ≤ w.length → (∀ s, q = some s → s < 2401) → L_X1_stateBehind_4 o a (opI q) (nI i) st = some (some (.int (opI (goW M q (w.drop i)))), st) := by
    intro k
    induction k with
    | zero =>
      intro i q hk hi hq
      rw [e_X1_stateBehind_4, gI_ok hw.1, Option.bind_some, hw.2.2.2.1, if_pos (by rw [c_le (by omega) (by omega)]; omega), List.drop_eq_nil_of_le (by omega)]
      cases q <;> rfl
    | succ k ih =>
      intro i q hk hi hq
      have hg : w[i]? = some w[i] := List.getElem?_eq_getElem (by omega)
      rw [e_X1_stateBehind_4, gI_ok hw.1, Option.bind_some, hw.2.2.2.1, if_neg (by rw [c_le (by omega) (by omega)]; omega), drop_some hg]
      have hs := hw6 _ (List.mem_of_getElem? hg)
      cases q with
      | none => rw [if_pos (show opI none = -1 from rfl)]; rfl
      | some s =>
        have hs2 := hq s rfl
        rw [if_neg (by show ¬ nI s = -1; rw [c_m1e (by omega)]; exact id), atn_ok hw (by omega), ri_ok, lg_some hg]
        show ab_ri (f_X1_stateBehindSign o (nI s) (nI w[i]) st) _ = _
        rw [behindSign_ok h hM hB hs2 hs, ri_ok, nI_1]
        exact ih (i + 1) _ (by omega) (by omega) (fun t ht => Nat.lt_of_lt_of_le (goS_lt hM ht) hB)
  rw [e_X1_stateBehind_0, mc h]
  have := key _ 0 (some 0) rfl (Nat.zero_le _) (fun s hs => by cases hs; omega)
  rw [List.drop_zero] at this
  exact this
end TELL
