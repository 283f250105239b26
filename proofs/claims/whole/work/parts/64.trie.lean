/-! BEGINNINGS: the list of all beginnings, their kids, their rests -/
theorem ded_app {α : Type} [DecidableEq α] : ∀ {l m acc : List α}, ded acc (l ++ m) = ded (ded acc l) m
  | [], m, acc => rfl
  | x :: l, m, acc => by
    show (if x ∈ acc then ded acc (l ++ m) else ded (acc ++ [x]) (l ++ m)) = ded (if x ∈ acc then ded acc l else ded (acc ++ [x]) l) m
    by_cases h : x ∈ acc
    · rw [if_pos h, if_pos h, ded_app]
    · rw [if_neg h, if_neg h, ded_app]
theorem ded_one {α : Type} [DecidableEq α] {acc : List α} {x : α} : ded acc [x] = if x ∈ acc then acc else acc ++ [x] := rfl
theorem ded_mem {α : Type} [DecidableEq α] : ∀ {l acc : List α} {y : α}, y ∈ ded acc l ↔ y ∈ acc ∨ y ∈ l
  | [], acc, y => by simp [ded]
  | x :: l, acc, y => by
    show y ∈ (if x ∈ acc then ded acc l else ded (acc ++ [x]) l) ↔ _
    by_cases h : x ∈ acc
    · rw [if_pos h, ded_mem, List.mem_cons]
      constructor
      · rintro (q | q)
        · exact Or.inl q
        · exact Or.inr (Or.inr q)
      · rintro (q | q | q)
        · exact Or.inl q
        · exact Or.inl (q ▸ h)
        · exact Or.inr q
    · rw [if_neg h, ded_mem, List.mem_append, List.mem_singleton, List.mem_cons]
      constructor
      · rintro ((q | q) | q)
        · exact Or.inl q
        · exact Or.inr (Or.inl q)
        · exact Or.inr (Or.inr q)
      · rintro (q | q | q)
        · exact Or.inl (Or.inl q)
        · exact Or.inl (Or.inr q)
        · exact Or.inr q
theorem ded_nodup {α : Type} [DecidableEq α] : ∀ {l acc : List α}, acc.Nodup → (ded acc l).Nodup
  | [], acc, h => h
  | x :: l, acc, h => by
    show (if x ∈ acc then ded acc l else ded (acc ++ [x]) l).Nodup
    by_cases hx : x ∈ acc
    · rw [if_pos hx]; exact ded_nodup h
    · rw [if_neg hx]
      refine ded_nodup (List.nodup_append.mpr ⟨h, by simp, fun a ha b hb => ?_⟩)
      rw [List.mem_singleton.mp hb]
      intro q
      exact hx (q ▸ ha)
theorem ded_snoc {α : Type} [DecidableEq α] {l : List α} {x : α} : ded [] (l ++ [x]) = if x ∈ l then ded [] l else ded [] l ++ [x] := by
  rw [ded_app, ded_one]
  by_cases h : x ∈ l
  · rw [if_pos h, if_pos (ded_mem.mpr (Or.inr h))]
  · rw [if_neg h, if_neg (fun q => h ((ded_mem.mp q).resolve_left (by simp)))]
-- common beginnings
theorem cpl_take : ∀ {x y : List Nat}, x.take (cpl x y) = y.take (cpl x y)
  | [], _ => by simp [cpl]
  | _ :: _, [] => by simp [cpl]
  | a :: x, b :: y => by
    unfold cpl
    by_cases h : a = b
    · rw [if_pos h, List.take_succ_cons, List.take_succ_cons, cpl_take, h]
    · rw [if_neg h]; rfl
theorem cpl_le : ∀ {x y : List Nat}, cpl x y ≤ x.length ∧ cpl x y ≤ y.length
  | [], _ => by simp [cpl]
  | _ :: _, [] => by simp [cpl]
  | a :: x, b :: y => by
    unfold cpl
    have := cpl_le (x := x) (y := y)
    split <;> simp <;> omega
theorem cpl_pre : ∀ {c x y : List Nat}, c <+: x → c <+: y → c.length ≤ cpl x y
  | [], _, _, _, _ => Nat.zero_le _
  | a :: c, x, y, h1, h2 => by
    obtain ⟨x', rfl⟩ := h1
    obtain ⟨y', rfl⟩ := h2
    show c.length + 1 ≤ cpl (a :: (c ++ x')) (a :: (c ++ y'))
    unfold cpl
    rw [if_pos rfl]
    have := cpl_pre (c := c) (x := c ++ x') (y := c ++ y') ⟨x', rfl⟩ ⟨y', rfl⟩
    omega
theorem between : ∀ {c z y x : List Nat}, lcmp z y = -1 → lcmp y x = -1 → c <+: z → c <+: x → c <+: y
  | [], _, y, _, _, _, _, _ => List.nil_prefix
  | a :: c, z, y, x, h1, h2, h3, h4 => by
    obtain ⟨z', rfl⟩ := h3
    obtain ⟨x', rfl⟩ := h4
    rw [List.cons_append] at h1 h2
    cases y with
    | nil => simp [lcmp] at h1
    | cons b y =>
      unfold lcmp at h1 h2
      by_cases hab : a = b
      · subst hab
        rw [if_pos rfl] at h1 h2
        have := between h1 h2 ⟨z', rfl⟩ ⟨x', rfl⟩
        exact List.cons_prefix_cons.mpr ⟨rfl, this⟩
      · rw [if_neg hab] at h1
        rw [if_neg (fun q => hab q.symm)] at h2
        by_cases hlt : a < b
        · rw [if_neg (by omega)] at h2; simp at h2
        · rw [if_neg hlt] at h1; simp at h1
-- the list of beginnings, term by term
def newP (prev x : List Nat) : List (List Nat) := (List.range (x.length - cpl prev x)).map (fun i => x.take (cpl prev x + 1 + i))
def lastW (prev : List Nat) : Dc → List Nat
  | [] => prev
  | x :: D => lastW x.1 D
theorem begsGo_snoc : ∀ {D : Dc} {prev : List Nat} {x : List Nat × Nat}, begsGo prev (D ++ [x]) = begsGo prev D ++ newP (lastW prev D) x.1
  | [], prev, x => by simp [begsGo, newP, lastW]
  | y :: D, prev, x => by
    show newP prev y.1 ++ begsGo y.1 (D ++ [x]) = newP prev y.1 ++ begsGo y.1 D ++ newP (lastW y.1 D) x.1
    rw [begsGo_snoc, List.append_assoc]
theorem begs_snoc {D : Dc} {x : List Nat × Nat} : begs (D ++ [x]) = begs D ++ newP (lastW [] D) x.1 := by
  unfold begs
  rw [begsGo_snoc]; rfl
theorem lastW_snoc : ∀ {D : Dc} {prev : List Nat} {x : List Nat × Nat}, lastW prev (D ++ [x]) = x.1
  | [], _, _ => rfl
  | _ :: D, _, _ => lastW_snoc (D := D)
theorem newP_mem {prev x c : List Nat} : c ∈ newP prev x ↔ c <+: x ∧ cpl prev x < c.length := by
  unfold newP
  rw [List.mem_map]
  constructor
  · rintro ⟨i, hi, rfl⟩
    rw [List.mem_range] at hi
    refine ⟨List.take_prefix _ _, ?_⟩
    rw [List.length_take]
    omega
  · rintro ⟨h1, h2⟩
    have hl := h1.length_le
    refine ⟨c.length - (cpl prev x + 1), List.mem_range.mpr (by omega), ?_⟩
    rw [show cpl prev x + 1 + (c.length - (cpl prev x + 1)) = c.length by omega]
    exact (List.prefix_iff_eq_take.mp h1).symm
theorem newP_len {prev x : List Nat} : (newP prev x).length = x.length - cpl prev x := by simp [newP]
theorem newP_get {prev x : List Nat} {i : Nat} (h : i < x.length - cpl prev x) : (newP prev x)[i]? = some (x.take (cpl prev x + 1 + i)) := by
  unfold newP
  rw [List.getElem?_map, List.getElem?_range h]; rfl
theorem begs_mem : ∀ (n : Nat) {D : Dc}, D.length = n → ∀ {c : List Nat}, c ∈ begs D ↔ c = [] ∨ ∃ x ∈ D, c <+: x.1
  | 0, D, h, c => by
    have : D = [] := List.eq_nil_of_length_eq_zero h
    subst this
    simp [begs, begsGo]
  | n + 1, D, h, c => by
    have hne : D ≠ [] := fun q => by rw [q] at h; simp at h
    have hD := (List.dropLast_concat_getLast hne).symm
    generalize D.dropLast = E at hD
    generalize D.getLast hne = x at hD
    subst hD
    have hE : E.length = n := by simpa using h
    have ih := begs_mem n hE (c := c)
    rw [begs_snoc, List.mem_append, ih, newP_mem]
    constructor
    · rintro ((q | ⟨y, hy, hc⟩) | ⟨q, -⟩)
      · exact Or.inl q
      · exact Or.inr ⟨y, List.mem_append.mpr (Or.inl hy), hc⟩
      · exact Or.inr ⟨x, List.mem_append.mpr (Or.inr (List.mem_singleton.mpr rfl)), q⟩
    · rintro (q | ⟨y, hy, hc⟩)
      · exact Or.inl (Or.inl q)
      · rcases List.mem_append.mp hy with hy | hy
        · exact Or.inl (Or.inr ⟨y, hy, hc⟩)
        · cases List.mem_singleton.mp hy
          by_cases hl : cpl (lastW [] E) x.1 < c.length
          · exact Or.inr ⟨hc, hl⟩
          · left
            by_cases hEn : E = []
            · subst hEn
              left
              have : c.length = 0 := by simp [lastW, cpl] at hl; simpa using hl
              exact List.eq_nil_of_length_eq_zero this
            · right
              have hE2 := (List.dropLast_concat_getLast hEn).symm
              refine ⟨E.getLast hEn, List.getLast_mem hEn, ?_⟩
              have hlw : lastW [] E = (E.getLast hEn).1 := by
                conv => lhs; rw [hE2]
                exact lastW_snoc
              rw [hlw] at hl
              have h1 := cpl_take (x := (E.getLast hEn).1) (y := x.1)
              have h2 := List.prefix_iff_eq_take.mp hc
              have h3 : c = (E.getLast hEn).1.take c.length := by
                have e1 : ((E.getLast hEn).1.take (cpl (E.getLast hEn).1 x.1)).take c.length = (x.1.take (cpl (E.getLast hEn).1 x.1)).take c.length := by rw [h1]
                rw [List.take_take, List.take_take, Nat.min_eq_left (by omega)] at e1
                rw [e1]
                exact h2
              rw [h3]
              exact List.take_prefix _ _
theorem begs_iff {D : Dc} {c : List Nat} : c ∈ begs D ↔ c = [] ∨ ∃ x ∈ D, c <+: x.1 := begs_mem _ rfl
/-- of a rising list: a beginning of the next term is new where it is longer than what it shares with the last -/
theorem srt_app {D E : Dc} : srt (D ++ E) → srt D := fun h i j x y hx hy hij => h i j x y (by rw [List.getElem?_append_left (List.getElem?_eq_some_iff.mp hx).1]; exact hx) (by rw [List.getElem?_append_left (List.getElem?_eq_some_iff.mp hy).1]; exact hy) hij
theorem srt_last {D : Dc} {x : List Nat × Nat} (h : srt (D ++ [x])) : ∀ y ∈ D, lcmp y.1 x.1 = -1 := fun y hy => by
  obtain ⟨i, hi⟩ := List.mem_iff_getElem?.mp hy
  have hil := (List.getElem?_eq_some_iff.mp hi).1
  exact h i D.length y x (by rw [List.getElem?_append_left hil]; exact hi) (by rw [List.getElem?_append_right (Nat.le_refl _), Nat.sub_self]; rfl) hil
theorem new_iff {D : Dc} {x : List Nat × Nat} (h : srt (D ++ [x])) {c : List Nat} (hc : c <+: x.1) (h0 : c ≠ []) : c ∈ begs D ↔ c.length ≤ cpl (lastW [] D) x.1 := by
  rw [begs_iff]
  by_cases hD : D = []
  · subst hD
    constructor
    · rintro (q | ⟨y, hy, -⟩)
      · exact absurd q h0
      · simp at hy
    · intro q
      simp [lastW, cpl] at q
      exact absurd q h0
  · have hE := (List.dropLast_concat_getLast hD).symm
    generalize hdl : D.dropLast = E at hE
    generalize hgl : D.getLast hD = y at hE
    have hlw : lastW [] D = y.1 := by rw [hE]; exact lastW_snoc
    have hyD : y ∈ D := by rw [hE]; simp
    rw [hlw]
    constructor
    · rintro (q | ⟨z, hz, hcz⟩)
      · exact absurd q h0
      · have hyx := srt_last h y hyD
        rw [hE] at hz
        rcases List.mem_append.mp hz with hz | hz
        · have hsD := srt_app h
          rw [hE] at hsD
          have hzy := srt_last hsD z hz
          exact cpl_pre (between hzy hyx hcz hc) hc
        · cases List.mem_singleton.mp hz
          exact cpl_pre hcz hc
    · intro q
      right
      refine ⟨y, hyD, ?_⟩
      have h1 := cpl_take (x := y.1) (y := x.1)
      have h2 := List.prefix_iff_eq_take.mp hc
      have h3 : c = y.1.take c.length := by
        have e1 : (y.1.take (cpl y.1 x.1)).take c.length = (x.1.take (cpl y.1 x.1)).take c.length := by rw [h1]
        rw [List.take_take, List.take_take, Nat.min_eq_left q] at e1
        rw [e1]
        exact h2
      rw [h3]
      exact List.take_prefix _ _
theorem newP_nodup {prev x : List Nat} : (newP prev x).Nodup := by
  unfold newP
  rw [List.nodup_iff_pairwise_ne, List.pairwise_map]
  refine List.Pairwise.imp_of_mem ?_ (List.nodup_iff_pairwise_ne.mp List.nodup_range)
  intro i j hi hj hij q
  rw [List.mem_range] at hi hj
  have := congrArg List.length q
  rw [List.length_take, List.length_take] at this
  omega
theorem begs_nodup : ∀ (n : Nat) {D : Dc}, D.length = n → srt D → (begs D).Nodup
  | 0, D, h, _ => by
    have : D = [] := List.eq_nil_of_length_eq_zero h
    subst this
    simp [begs, begsGo]
  | n + 1, D, h, hs => by
    have hne : D ≠ [] := fun q => by rw [q] at h; simp at h
    have hD := (List.dropLast_concat_getLast hne).symm
    generalize D.dropLast = E at hD
    generalize D.getLast hne = x at hD
    subst hD
    have hE : E.length = n := by simpa using h
    rw [begs_snoc]
    refine List.nodup_append.mpr ⟨begs_nodup n hE (srt_app hs), newP_nodup, fun a ha b hb hab => ?_⟩
    subst hab
    obtain ⟨h1, h2⟩ := newP_mem.mp hb
    have h0 : a ≠ [] := fun q => by rw [q] at h2; simp at h2
    have := (new_iff hs h1 h0).mp ha
    omega
theorem begs_nd {D : Dc} (h : srt D) : (begs D).Nodup := begs_nodup _ rfl h
theorem begs_0 {D : Dc} : (begs D)[0]? = some [] := rfl
