/-! RESTS -/
theorem filt_uniq {α : Type} {p : α → Bool} : ∀ {l : List α} {c : α}, l.Nodup → c ∈ l → (∀ d ∈ l, p d = true ↔ d = c) → l.filter p = [c]
  | [], c, _, h, _ => by simp at h
  | x :: l, c, hn, h, hp => by
    have hn' := List.nodup_cons.mp hn
    by_cases hx : x = c
    · subst hx
      rw [List.filter_cons_of_pos ((hp x (List.mem_cons_self ..)).mpr rfl)]
      congr 1
      rw [List.filter_eq_nil_iff]
      intro d hd q
      have := (hp d (List.mem_cons_of_mem _ hd)).mp q
      exact hn'.1 (this ▸ hd)
    · rw [List.filter_cons_of_neg (fun q => hx ((hp x (List.mem_cons_self ..)).mp q))]
      refine filt_uniq hn'.2 ?_ (fun d hd => hp d (List.mem_cons_of_mem _ hd))
      rcases List.mem_cons.mp h with q | q
      · exact absurd q.symm hx
      · exact q
theorem mem_b_snoc {D : Dc} {x : List Nat × Nat} {b : List Nat} : mem_b (D ++ [x]) b = mem_b D b ++ (if b.isPrefixOf x.1 then [x] else []) := by
  unfold mem_b
  rw [List.filter_append]
  congr 1
  by_cases h : b.isPrefixOf x.1 = true
  · simp [h]
  · simp [h]
theorem mem_b_iff {D : Dc} {x : List Nat × Nat} {b : List Nat} : x ∈ mem_b D b ↔ x ∈ D ∧ b <+: x.1 := by
  unfold mem_b
  rw [List.mem_filter, List.isPrefixOf_iff_prefix]
theorem snoc_pre {b x : List Nat} {a : Nat} : b ++ [a] <+: x ↔ b <+: x ∧ x[b.length]? = some a := by
  constructor
  · rintro ⟨y, rfl⟩
    refine ⟨⟨a :: y, by simp⟩, ?_⟩
    rw [List.append_assoc, List.getElem?_append_right (Nat.le_refl _), Nat.sub_self]; rfl
  · rintro ⟨⟨y, rfl⟩, h⟩
    rw [List.getElem?_append_right (Nat.le_refl _), Nat.sub_self] at h
    cases y with
    | nil => simp at h
    | cons c y =>
      have : c = a := by simpa using h
      subst this
      exact ⟨y, by simp⟩
def isKid (b c : List Nat) : Bool := c.length == b.length + 1 && b.isPrefixOf c
theorem isKid_iff {b c : List Nat} : isKid b c = true ↔ ∃ a, c = b ++ [a] := by
  unfold isKid
  rw [Bool.and_eq_true, beq_iff_eq, List.isPrefixOf_iff_prefix]
  constructor
  · rintro ⟨h1, y, rfl⟩
    rw [List.length_append] at h1
    match y, h1 with
    | [a], _ => exact ⟨a, rfl⟩
    | [], h1 => simp at h1
    | _ :: _ :: _, h1 => simp at h1
  · rintro ⟨a, rfl⟩
    exact ⟨by simp, ⟨[a], rfl⟩⟩
def kids (D : Dc) (b : List Nat) : List (List Nat) := (begs D).filter (isKid b)
theorem hds_mem {D : Dc} {b : List Nat} {a : Nat} : a ∈ hds D b ↔ ∃ x ∈ D, b ++ [a] <+: x.1 := by
  unfold hds
  rw [ded_mem]
  simp only [List.not_mem_nil, false_or, List.mem_filterMap]
  constructor
  · rintro ⟨x, hx, h⟩
    obtain ⟨h1, h2⟩ := mem_b_iff.mp hx
    exact ⟨x, h1, snoc_pre.mpr ⟨h2, h⟩⟩
  · rintro ⟨x, hx, h⟩
    obtain ⟨h1, h2⟩ := snoc_pre.mp h
    exact ⟨x, mem_b_iff.mpr ⟨hx, h1⟩, h2⟩
theorem hds_begs {D : Dc} {b : List Nat} {a : Nat} : a ∈ hds D b ↔ b ++ [a] ∈ begs D := by
  rw [hds_mem, begs_iff]; simp
theorem take_snoc {b x : List Nat} {a : Nat} (h : b ++ [a] <+: x) : x.take (b.length + 1) = b ++ [a] := by
  have := List.prefix_iff_eq_take.mp h
  rw [List.length_append, List.length_singleton] at this
  exact this.symm
theorem kids_eq : ∀ (n : Nat) {D : Dc}, D.length = n → srt D → ∀ b, kids D b = (hds D b).map (fun a => b ++ [a])
  | 0, D, h, _, b => by
    have : D = [] := List.eq_nil_of_length_eq_zero h
    subst this
    simp [kids, begs, begsGo, hds, mem_b, ded, isKid]
  | n + 1, D, h, hs, b => by
    have hne : D ≠ [] := fun q => by rw [q] at h; simp at h
    have hD := (List.dropLast_concat_getLast hne).symm
    generalize D.dropLast = E at hD
    generalize D.getLast hne = x at hD
    subst hD
    have hE : E.length = n := by simpa using h
    have ih := kids_eq n hE (srt_app hs) b
    have e1 : kids (E ++ [x]) b = kids E b ++ (newP (lastW [] E) x.1).filter (isKid b) := by
      unfold kids; rw [begs_snoc, List.filter_append]
    rw [e1, ih]
    have e2 : hds (E ++ [x]) b = ded [] ((mem_b E b).filterMap (fun x => x.1[b.length]?) ++ (if b.isPrefixOf x.1 then [x] else []).filterMap (fun x => x.1[b.length]?)) := by
      unfold hds; rw [mem_b_snoc, List.filterMap_append]
    rw [e2]
    by_cases hb : b.isPrefixOf x.1 = true
    · rw [if_pos hb]
      have hb' := List.isPrefixOf_iff_prefix.mp hb
      cases hg : x.1[b.length]? with
      | none =>
        have : List.filterMap (fun x => x.1[b.length]?) [x] = [] := by simp [hg]
        rw [this, List.append_nil]
        have : (newP (lastW [] E) x.1).filter (isKid b) = [] := by
          rw [List.filter_eq_nil_iff]
          intro c hc q
          obtain ⟨a, rfl⟩ := isKid_iff.mp q
          have := (snoc_pre.mp (newP_mem.mp hc).1).2
          rw [hg] at this; cases this
        rw [this, List.append_nil]
        rfl
      | some a =>
        have hpre : b ++ [a] <+: x.1 := snoc_pre.mpr ⟨hb', hg⟩
        have : List.filterMap (fun x => x.1[b.length]?) [x] = [a] := by simp [hg]
        rw [this, ded_snoc]
        have hin : a ∈ (mem_b E b).filterMap (fun x => x.1[b.length]?) ↔ b ++ [a] ∈ begs E := by
          rw [← hds_begs]
          unfold hds
          rw [ded_mem]; simp
        have hnew := new_iff hs hpre (by simp)
        rw [List.length_append, List.length_singleton] at hnew
        by_cases hol : b ++ [a] ∈ begs E
        · rw [if_pos (hin.mpr hol)]
          have : (newP (lastW [] E) x.1).filter (isKid b) = [] := by
            rw [List.filter_eq_nil_iff]
            intro c hc q
            obtain ⟨a', rfl⟩ := isKid_iff.mp q
            have h2 := (newP_mem.mp hc).2
            have h3 := hnew.mp hol
            rw [List.length_append, List.length_singleton] at h2
            omega
          rw [this, List.append_nil]
          rfl
        · rw [if_neg (fun q => hol (hin.mp q)), List.map_append]
          congr 1
          refine filt_uniq newP_nodup (newP_mem.mpr ⟨hpre, ?_⟩) (fun d hd => ?_)
          · rw [List.length_append, List.length_singleton]
            exact Nat.lt_of_not_le (fun q => hol (hnew.mpr q))
          · rw [isKid_iff]
            constructor
            · rintro ⟨a', rfl⟩
              have := (snoc_pre.mp (newP_mem.mp hd).1).2
              rw [hg] at this
              cases this; rfl
            · rintro rfl
              exact ⟨a, rfl⟩
    · rw [if_neg hb]
      have : (newP (lastW [] E) x.1).filter (isKid b) = [] := by
        rw [List.filter_eq_nil_iff]
        intro c hc q
        obtain ⟨a, rfl⟩ := isKid_iff.mp q
        exact hb (List.isPrefixOf_iff_prefix.mpr (snoc_pre.mp (newP_mem.mp hc).1).1)
      rw [this]
      simp [hds]
theorem kids_hds {D : Dc} (h : srt D) (b : List Nat) : kids D b = (hds D b).map (fun a => b ++ [a]) := kids_eq _ rfl h b
-- the least out
theorem foldl_min : ∀ {l : List Nat} {a : Nat}, l.foldl min a ≤ a ∧ (∀ x ∈ l, l.foldl min a ≤ x) ∧ (l.foldl min a = a ∨ l.foldl min a ∈ l)
  | [], a => by simp
  | y :: l, a => by
    obtain ⟨h1, h2, h3⟩ := foldl_min (l := l) (a := min a y)
    rw [List.foldl_cons]
    refine ⟨by omega, fun x hx => ?_, ?_⟩
    · rcases List.mem_cons.mp hx with rfl | hx
      · omega
      · exact h2 x hx
    · rcases h3 with h3 | h3
      · rw [h3]
        by_cases hay : a ≤ y
        · left; omega
        · right
          rw [Nat.min_eq_right (by omega)]
          exact List.mem_cons_self ..
      · right; exact List.mem_cons_of_mem _ h3
theorem minO_le {l : List Nat} {x : Nat} (h : x ∈ l) : minO l ≤ x := by
  cases l with
  | nil => simp at h
  | cons y l =>
    obtain ⟨h1, h2, h3⟩ := foldl_min (l := l) (a := y)
    show l.foldl min y ≤ x
    rcases List.mem_cons.mp h with rfl | h
    · exact h1
    · exact h2 x h
theorem minO_mem {l : List Nat} (h : l ≠ []) : minO l ∈ l := by
  cases l with
  | nil => exact absurd rfl h
  | cons y l =>
    obtain ⟨h1, h2, h3⟩ := foldl_min (l := l) (a := y)
    show l.foldl min y ∈ y :: l
    rcases h3 with h3 | h3
    · rw [h3]; exact List.mem_cons_self ..
    · exact List.mem_cons_of_mem _ h3
theorem minO_sub {l : List Nat} {c : Nat} (h : l ≠ []) (hc : ∀ x ∈ l, c ≤ x) : minO (l.map (fun x => x - c)) = minO l - c := by
  have h1 := minO_mem h
  have h2 : minO (l.map (fun x => x - c)) ≤ minO l - c := minO_le (List.mem_map.mpr ⟨_, h1, rfl⟩)
  obtain ⟨y, hy, hyc⟩ := List.mem_map.mp (minO_mem (l := l.map (fun x => x - c)) (by simpa using h))
  have h3 := minO_le hy
  have h4 := hc y hy
  omega
theorem minO_snoc {l : List Nat} {y : Nat} (h : l ≠ []) : minO (l ++ [y]) = min (minO l) y := by
  cases l with
  | nil => exact absurd rfl h
  | cons a l => simp [minO]
theorem least_le {D : Dc} {b : List Nat} {x : List Nat × Nat} (h : x ∈ mem_b D b) : least D b ≤ x.2 := minO_le (List.mem_map.mpr ⟨x, h, rfl⟩)
-- rests are rising
theorem lcmp_drop : ∀ {b x y : List Nat}, b <+: x → b <+: y → lcmp (x.drop b.length) (y.drop b.length) = lcmp x y
  | [], x, y, _, _ => by simp
  | a :: b, x, y, h1, h2 => by
    obtain ⟨x', rfl⟩ := h1
    obtain ⟨y', rfl⟩ := h2
    have := lcmp_drop (b := b) (x := b ++ x') (y := b ++ y') ⟨x', rfl⟩ ⟨y', rfl⟩
    simpa [lcmp] using this
theorem srt_iff {D : Dc} : srt D ↔ D.Pairwise (fun x y => lcmp x.1 y.1 = -1) := by
  induction D with
  | nil => simp [srt]
  | cons x D ih =>
    rw [srt_cons, List.pairwise_cons, ih]
    exact Iff.rfl
theorem rest_srt {D : Dc} (h : srt D) (b : List Nat) : srt (rest D b) := by
  rw [srt_iff] at h ⊢
  unfold rest
  rw [List.pairwise_map]
  have h2 : (mem_b D b).Pairwise (fun x y => lcmp x.1 y.1 = -1) := List.Pairwise.sublist (List.filter_sublist) h
  refine List.Pairwise.imp_of_mem ?_ h2
  intro x y hx hy hxy
  rw [lcmp_drop (mem_b_iff.mp hx).2 (mem_b_iff.mp hy).2]
  exact hxy
theorem srt_ext : ∀ {A B : Dc}, srt A → srt B → (∀ x, x ∈ A ↔ x ∈ B) → A = B
  | [], [], _, _, _ => rfl
  | [], y :: B, _, _, h => by have := (h y).mpr (List.mem_cons_self ..); simp at this
  | x :: A, [], _, _, h => by have := (h x).mp (List.mem_cons_self ..); simp at this
  | x :: A, y :: B, hA, hB, h => by
    obtain ⟨a1, a2⟩ := srt_cons.mp hA
    obtain ⟨b1, b2⟩ := srt_cons.mp hB
    have hxy : x = y := by
      rcases List.mem_cons.mp ((h x).mp (List.mem_cons_self ..)) with q | q
      · exact q
      · rcases List.mem_cons.mp ((h y).mpr (List.mem_cons_self ..)) with q2 | q2
        · exact q2.symm
        · have := lcmp_trans (a1 y q2) (b1 x q)
          rw [lcmp_self] at this; cases this
    subst hxy
    congr 1
    refine srt_ext a2 b2 (fun z => ?_)
    have hz := h z
    rw [List.mem_cons, List.mem_cons] at hz
    constructor
    · intro q
      rcases hz.mp (Or.inr q) with q2 | q2
      · subst q2
        have := a1 z q
        rw [lcmp_self] at this; cases this
      · exact q2
    · intro q
      rcases hz.mpr (Or.inr q) with q2 | q2
      · subst q2
        have := b1 z q
        rw [lcmp_self] at this; cases this
      · exact q2
theorem rest_mem {D : Dc} {b : List Nat} {s : List Nat} {v : Nat} : (s, v) ∈ rest D b ↔ ∃ x ∈ D, x.1 = b ++ s ∧ x.2 = v + least D b := by
  unfold rest
  rw [List.mem_map]
  constructor
  · rintro ⟨x, hx, h⟩
    have hl := least_le hx
    obtain ⟨h1, h2⟩ := mem_b_iff.mp hx
    have e1 : x.1.drop b.length = s := congrArg Prod.fst h
    have e2 : x.2 - least D b = v := congrArg Prod.snd h
    refine ⟨x, h1, ?_, by omega⟩
    rw [← e1]
    obtain ⟨y, hy⟩ := h2
    rw [← hy]; simp
  · rintro ⟨x, hx, h1, h2⟩
    refine ⟨x, mem_b_iff.mpr ⟨hx, ⟨s, h1.symm⟩⟩, ?_⟩
    rw [h1, h2]
    simp
theorem rest_len {D : Dc} {b : List Nat} : (rest D b).length = (mem_b D b).length := by unfold rest; rw [List.length_map]
theorem lastO_iff {D : Dc} (h : srt D) {b : List Nat} {v : Nat} : lastO D b = some v ↔ ([], v) ∈ rest D b := by
  rw [rest_mem]
  unfold lastO
  constructor
  · intro q
    cases hf : D.find? (fun x => decide (x.1 = b)) with
    | none => rw [hf] at q; simp at q
    | some x =>
      rw [hf] at q
      have h1 := List.mem_of_find?_eq_some hf
      have h2 := List.find?_some hf
      have h3 : x.1 = b := by simpa using h2
      have h4 : x.2 - least D b = v := by simpa using q
      have h5 := least_le (b := b) (mem_b_iff.mpr ⟨h1, ⟨[], by rw [h3]; simp⟩⟩)
      exact ⟨x, h1, by rw [h3]; simp, by omega⟩
  · rintro ⟨x, hx, h1, h2⟩
    rw [List.append_nil] at h1
    cases hf : D.find? (fun x => decide (x.1 = b)) with
    | none =>
      have := List.find?_eq_none.mp hf x hx
      simp [h1] at this
    | some y =>
      have h3 := List.mem_of_find?_eq_some hf
      have h4 : y.1 = b := by simpa using List.find?_some hf
      have hxy : y = x := by
        obtain ⟨i, hi⟩ := List.mem_iff_getElem?.mp hx
        obtain ⟨j, hj⟩ := List.mem_iff_getElem?.mp h3
        rcases Nat.lt_trichotomy i j with q | q | q
        · have := h i j x y hi hj q
          rw [h1, h4, lcmp_self] at this; cases this
        · subst q
          rw [hi] at hj
          exact (Option.some.inj hj).symm
        · have := h j i y x hj hi q
          rw [h1, h4, lcmp_self] at this; cases this
      rw [hxy]
      simp [h2]
theorem hds_rest {D : Dc} {b : List Nat} : hds D b = ded [] ((rest D b).filterMap (fun y => y.1[0]?)) := by
  unfold hds rest
  rw [List.filterMap_map]
  congr 1
  congr 1
  funext x
  show x.1[b.length]? = (x.1.drop b.length)[0]?
  rw [List.getElem?_drop]; rfl
theorem mem_b_kid {D : Dc} {b : List Nat} {a : Nat} : mem_b D (b ++ [a]) = (mem_b D b).filter (fun x => decide (x.1[b.length]? = some a)) := by
  unfold mem_b
  rw [List.filter_filter]
  apply List.filter_congr
  intro x hx
  rw [Bool.eq_iff_iff, Bool.and_eq_true, List.isPrefixOf_iff_prefix, List.isPrefixOf_iff_prefix, decide_eq_true_iff, snoc_pre]
  exact And.comm
/-- what belongs to a sign -/
def sub (r : Dc) (a : Nat) : Dc := r.filter (fun y => decide (y.1[0]? = some a))
theorem sub_rest {D : Dc} {b : List Nat} {a : Nat} : sub (rest D b) a = (mem_b D (b ++ [a])).map (fun x => (x.1.drop b.length, x.2 - least D b)) := by
  unfold sub rest
  rw [List.filter_map, mem_b_kid]
  congr 1
  apply List.filter_congr
  intro x hx
  show decide ((x.1.drop b.length)[0]? = some a) = decide (x.1[b.length]? = some a)
  rw [List.getElem?_drop]; rfl
theorem kid_diff {D : Dc} {b : List Nat} {a : Nat} (h : a ∈ hds D b) : least D (b ++ [a]) - least D b = minO ((sub (rest D b) a).map (fun y => y.2)) := by
  rw [sub_rest, List.map_map]
  obtain ⟨x, hx, hp⟩ := hds_mem.mp h
  have hne : (mem_b D (b ++ [a])).map (fun x => x.2) ≠ [] := by
    intro q
    have : x ∈ mem_b D (b ++ [a]) := mem_b_iff.mpr ⟨hx, hp⟩
    rw [List.map_eq_nil_iff.mp q] at this; simp at this
  have e : (mem_b D (b ++ [a])).map ((fun y => y.2) ∘ fun x => (x.1.drop b.length, x.2 - least D b)) = ((mem_b D (b ++ [a])).map (fun x => x.2)).map (fun v => v - least D b) := by rw [List.map_map]; rfl
  rw [e, minO_sub hne]
  · rfl
  · intro v hv
    obtain ⟨y, hy, rfl⟩ := List.mem_map.mp hv
    obtain ⟨h1, h2⟩ := mem_b_iff.mp hy
    exact least_le (mem_b_iff.mpr ⟨h1, (snoc_pre.mp h2).1⟩)
theorem kid_le {D : Dc} {b : List Nat} {a : Nat} (h : a ∈ hds D b) : least D b ≤ least D (b ++ [a]) := by
  obtain ⟨x, hx, hp⟩ := hds_mem.mp h
  have hne : (mem_b D (b ++ [a])).map (fun x => x.2) ≠ [] := by
    intro q
    have : x ∈ mem_b D (b ++ [a]) := mem_b_iff.mpr ⟨hx, hp⟩
    rw [List.map_eq_nil_iff.mp q] at this; simp at this
  obtain ⟨y, hy, hyc⟩ := List.mem_map.mp (minO_mem hne)
  obtain ⟨h1, h2⟩ := mem_b_iff.mp hy
  have := least_le (mem_b_iff.mpr ⟨h1, (snoc_pre.mp h2).1⟩)
  show _ ≤ minO _
  omega
theorem kid_rest {D : Dc} {b : List Nat} {a : Nat} (h : a ∈ hds D b) : rest D (b ++ [a]) = (sub (rest D b) a).map (fun y => (y.1.drop 1, y.2 - minO ((sub (rest D b) a).map (fun y => y.2)))) := by
  rw [← kid_diff h, sub_rest, List.map_map]
  unfold rest
  apply List.map_congr_left
  intro x hx
  obtain ⟨h1, h2⟩ := mem_b_iff.mp hx
  have hl := least_le hx
  have hk := kid_le h
  show (x.1.drop (b ++ [a]).length, x.2 - least D (b ++ [a])) = ((x.1.drop b.length).drop 1, x.2 - least D b - (least D (b ++ [a]) - least D b))
  rw [List.drop_drop, List.length_append, List.length_singleton]
  congr 1
  omega
/-- equal rests: the same last output, the same signs, and behind each the same rest with the same output -/
theorem rest_eq {D : Dc} (h : srt D) {b c : List Nat} : rest D b = rest D c ↔ lastO D b = lastO D c ∧ hds D b = hds D c ∧ ∀ a ∈ hds D b, rest D (b ++ [a]) = rest D (c ++ [a]) ∧ least D (b ++ [a]) - least D b = least D (c ++ [a]) - least D c := by
  constructor
  · intro e
    have hh : hds D b = hds D c := by rw [hds_rest, hds_rest, e]
    refine ⟨?_, hh, fun a ha => ?_⟩
    · apply Option.ext
      intro v
      rw [lastO_iff h, lastO_iff h, e]
    · have hc : a ∈ hds D c := hh ▸ ha
      rw [kid_rest ha, kid_rest hc, kid_diff ha, kid_diff hc, e]
      exact ⟨rfl, rfl⟩
  · rintro ⟨h1, h2, h3⟩
    have one : ∀ b c, lastO D b = lastO D c → hds D b = hds D c → (∀ a ∈ hds D b, rest D (b ++ [a]) = rest D (c ++ [a]) ∧ least D (b ++ [a]) - least D b = least D (c ++ [a]) - least D c) → ∀ x, x ∈ rest D b → x ∈ rest D c := by
      intro b c h1 h2 h3 x hx
      obtain ⟨s, v⟩ := x
      cases s with
      | nil => rw [← lastO_iff h, ← h1, lastO_iff h]; exact hx
      | cons a s =>
        obtain ⟨x, q1, q2, q3⟩ := rest_mem.mp hx
        have ha : a ∈ hds D b := hds_mem.mpr ⟨x, q1, ⟨s, by rw [q2]; simp⟩⟩
        obtain ⟨e1, e2⟩ := h3 a ha
        have hk := kid_le ha
        have hk2 := kid_le (h2 ▸ ha : a ∈ hds D c)
        have hxm : x ∈ mem_b D (b ++ [a]) := mem_b_iff.mpr ⟨q1, ⟨s, by rw [q2]; simp⟩⟩
        have hxl := least_le hxm
        have : (s, x.2 - least D (b ++ [a])) ∈ rest D (b ++ [a]) := rest_mem.mpr ⟨x, q1, by rw [q2]; simp, by omega⟩
        rw [e1] at this
        obtain ⟨y, r1, r2, r3⟩ := rest_mem.mp this
        exact rest_mem.mpr ⟨y, r1, by rw [r2]; simp, by omega⟩
    refine srt_ext (rest_srt h b) (rest_srt h c) (fun x => ⟨one b c h1 h2 h3 x, one c b h1.symm h2.symm (fun a ha => ?_) x⟩)
    obtain ⟨e1, e2⟩ := h3 a (h2 ▸ ha)
    exact ⟨e1.symm, e2.symm⟩
theorem arcs_rest {D : Dc} (h : srt D) {b c : List Nat} (e : rest D b = rest D c) : arcsO D b = arcsO D c := by
  obtain ⟨-, h2, h3⟩ := (rest_eq h).mp e
  unfold arcsO
  rw [← h2]
  apply List.map_congr_left
  intro a ha
  obtain ⟨e1, e2⟩ := h3 a ha
  unfold stOf
  rw [e1, e2]
