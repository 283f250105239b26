/-! PLACES: words taken along places. F: which may follow which; T: which place takes which sign. -/
abbrev Lg : Type := List Nat → Prop
section GLU
variable {F F' T T' : Nat → Nat → Prop} {fs ls fs' ls' P P' : Nat → Prop}
def go (F T : Nat → Nat → Prop) (ls : Nat → Prop) : List Nat → Nat → Prop
  | [], _ => False
  | c :: x, i => T i c ∧ ((x = [] ∧ ls i) ∨ ∃ j, F i j ∧ go F T ls x j)
theorem go_ne {x : List Nat} {i : Nat} (h : go F T ls x i) : x ≠ [] := by
  cases x with
  | nil => exact absurd h id
  | cons => simp
/-- a part: the language of its runs and of the bare word -/
def run (F T : Nat → Nat → Prop) (fs ls : Nat → Prop) (x : List Nat) : Prop := ∃ i, fs i ∧ go F T ls x i
def prt (F T : Nat → Nat → Prop) (b : Prop) (fs ls P : Nat → Prop) (l : Lg) : Prop := (∀ i, fs i → P i) ∧ (∀ i, ls i → P i) ∧ (∀ i j, F i j → P i → P j) ∧ ∀ x, l x ↔ (x = [] ∧ b) ∨ run F T fs ls x
theorem go_congr (hP : ∀ i j, F i j → P i → P j) (hF : ∀ i j, P i → (F i j ↔ F' i j)) (hT : ∀ i c, P i → (T i c ↔ T' i c)) (hl : ∀ i, P i → (ls i ↔ ls' i)) : ∀ {x : List Nat} {i : Nat}, P i → (go F T ls x i ↔ go F' T' ls' x i)
  | [], _, _ => Iff.rfl
  | c :: x, i, hi => by
    show (T i c ∧ _) ↔ (T' i c ∧ _)
    rw [hT i c hi, hl i hi]
    have : (∃ j, F i j ∧ go F T ls x j) ↔ ∃ j, F' i j ∧ go F' T' ls' x j := by
      constructor
      · rintro ⟨j, h1, h2⟩
        exact ⟨j, (hF i j hi).mp h1, (go_congr hP hF hT hl (hP i j h1 hi)).mp h2⟩
      · rintro ⟨j, h1, h2⟩
        have h1' := (hF i j hi).mpr h1
        exact ⟨j, h1', (go_congr hP hF hT hl (hP i j h1' hi)).mpr h2⟩
    rw [this]
theorem prt_congr {b : Prop} {l : Lg} (h : prt F T b fs ls P l) (hF : ∀ i j, P i → (F i j ↔ F' i j)) (hT : ∀ i c, P i → (T i c ↔ T' i c)) : prt F' T' b fs ls P l := by
  obtain ⟨h1, h2, h3, h4⟩ := h
  refine ⟨h1, h2, fun i j hij hi => h3 i j ((hF i j hi).mpr hij) hi, fun x => ?_⟩
  rw [h4 x]
  unfold run
  have : (∃ i, fs i ∧ go F T ls x i) ↔ ∃ i, fs i ∧ go F' T' ls x i := by
    constructor
    · rintro ⟨i, a, b⟩
      exact ⟨i, a, (go_congr h3 hF hT (fun _ _ => Iff.rfl) (h1 i a)).mp b⟩
    · rintro ⟨i, a, b⟩
      exact ⟨i, a, (go_congr h3 hF hT (fun _ _ => Iff.rfl) (h1 i a)).mpr b⟩
  rw [this]
def catL (l m : Lg) : Lg := fun x => ∃ u v, x = u ++ v ∧ l u ∧ m v
def orL (l m : Lg) : Lg := fun x => l x ∨ m x
def plusL (l : Lg) : Lg := fun x => ∃ ys : List (List Nat), ys ≠ [] ∧ (∀ y ∈ ys, l y) ∧ x = ys.flatten
def optL (l : Lg) : Lg := fun x => x = [] ∨ l x
def oneL (p : Nat → Prop) : Lg := fun x => ∃ c, x = [c] ∧ p c
def epsL : Lg := fun x => x = []
def noL : Lg := fun _ => False
/-- one behind the other -/
theorem prt_cat {b b' : Prop} {l l' : Lg} (h : prt F T b fs ls P l) (h' : prt F T b' fs' ls' P' l') (hd : ∀ i, P i → ¬ P' i) (hF : ∀ i j, F' i j ↔ F i j ∨ (ls i ∧ fs' j)) : prt F' T (b ∧ b') (fun i => fs i ∨ (b ∧ fs' i)) (fun i => ls' i ∨ (b' ∧ ls i)) (fun i => P i ∨ P' i) (catL l l') := by
  obtain ⟨h1, h2, h3, h4⟩ := h
  obtain ⟨g1, g2, g3, g4⟩ := h'
  have inB : ∀ {x : List Nat} {i : Nat}, P' i → (go F' T (fun i => ls' i ∨ (b' ∧ ls i)) x i ↔ go F T ls' x i) := by
    intro x i hi
    refine (go_congr (P := P') g3 (fun i j hi => ?_) (fun _ _ _ => Iff.rfl) (fun i hi => ?_) hi).symm
    · rw [hF]
      exact ⟨Or.inl, fun q => q.elim id (fun z => absurd hi (hd i (h2 i z.1)))⟩
    · exact ⟨Or.inl, fun q => q.elim id (fun z => absurd hi (hd i (h2 i z.2)))⟩
  have inA : ∀ {x : List Nat} {i : Nat}, P i → (go F' T (fun i => ls' i ∨ (b' ∧ ls i)) x i ↔ (b' ∧ go F T ls x i) ∨ ∃ u v, x = u ++ v ∧ go F T ls u i ∧ run F T fs' ls' v) := by
    intro x
    induction x with
    | nil =>
      intro i hi
      constructor
      · intro q; exact absurd q id
      · rintro (q | ⟨u, v, e, q, -⟩)
        · exact absurd q.2 id
        · have := go_ne q
          cases u with
          | nil => exact absurd rfl this
          | cons => cases e
    | cons c x ih =>
      intro i hi
      constructor
      · rintro ⟨ht, q⟩
        rcases q with ⟨hx, q⟩ | ⟨j, hj, q⟩
        · rcases q with q | ⟨hb, q⟩
          · exact absurd (g2 i q) (hd i hi)
          · exact Or.inl ⟨hb, ht, Or.inl ⟨hx, q⟩⟩
        · rcases (hF i j).mp hj with hj | ⟨hl, hf⟩
          · rcases (ih (h3 i j hj hi)).mp q with ⟨hb, q⟩ | ⟨u, v, e, q, hv⟩
            · exact Or.inl ⟨hb, ht, Or.inr ⟨j, hj, q⟩⟩
            · exact Or.inr ⟨c :: u, v, by rw [e]; rfl, ⟨ht, Or.inr ⟨j, hj, q⟩⟩, hv⟩
          · exact Or.inr ⟨[c], x, rfl, ⟨ht, Or.inl ⟨rfl, hl⟩⟩, j, hf, (inB (g1 j hf)).mp q⟩
      · rintro (⟨hb, ht, q⟩ | ⟨u, v, e, q, j, hf, hv⟩)
        · refine ⟨ht, ?_⟩
          rcases q with ⟨hx, q⟩ | ⟨j, hj, q⟩
          · exact Or.inl ⟨hx, Or.inr ⟨hb, q⟩⟩
          · exact Or.inr ⟨j, (hF i j).mpr (Or.inl hj), (ih (h3 i j hj hi)).mpr (Or.inl ⟨hb, q⟩)⟩
        · cases u with
          | nil => exact absurd q id
          | cons d u =>
            obtain ⟨ht, q⟩ := q
            have hc : d = c ∧ x = u ++ v := by
              have := List.cons.inj e
              exact ⟨this.1.symm, this.2⟩
            rw [hc.1] at ht
            refine ⟨ht, Or.inr ?_⟩
            rcases q with ⟨hu, q⟩ | ⟨k, hk, q⟩
            · refine ⟨j, (hF i j).mpr (Or.inr ⟨q, hf⟩), (inB (g1 j hf)).mpr ?_⟩
              rw [hc.2, hu]
              exact hv
            · exact ⟨k, (hF i k).mpr (Or.inl hk), (ih (h3 i k hk hi)).mpr (Or.inr ⟨u, v, hc.2, q, j, hf, hv⟩)⟩
  refine ⟨fun i q => q.elim (fun z => Or.inl (h1 i z)) (fun z => Or.inr (g1 i z.2)), fun i q => q.elim (fun z => Or.inr (g2 i z)) (fun z => Or.inl (h2 i z.2)), fun i j hij hi => ?_, fun x => ?_⟩
  · rcases (hF i j).mp hij with q | q
    · exact hi.elim (fun z => Or.inl (h3 i j q z)) (fun z => Or.inr (g3 i j q z))
    · exact Or.inr (g1 j q.2)
  · unfold catL
    constructor
    · rintro ⟨u, v, rfl, hu, hv⟩
      rcases (h4 u).mp hu with ⟨rfl, hb⟩ | ⟨i, hi, hgo⟩
      · rcases (g4 v).mp hv with ⟨rfl, hb'⟩ | ⟨j, hj, hgo'⟩
        · exact Or.inl ⟨rfl, hb, hb'⟩
        · exact Or.inr ⟨j, Or.inr ⟨hb, hj⟩, (inB (g1 j hj)).mpr hgo'⟩
      · refine Or.inr ⟨i, Or.inl hi, (inA (h1 i hi)).mpr ?_⟩
        rcases (g4 v).mp hv with ⟨rfl, hb'⟩ | hr
        · exact Or.inl ⟨hb', by rw [List.append_nil]; exact hgo⟩
        · exact Or.inr ⟨u, v, rfl, hgo, hr⟩
    · rintro (⟨rfl, hb, hb'⟩ | ⟨i, hi, hgo⟩)
      · exact ⟨[], [], rfl, (h4 []).mpr (Or.inl ⟨rfl, hb⟩), (g4 []).mpr (Or.inl ⟨rfl, hb'⟩)⟩
      · rcases hi with hi | ⟨hb, hi⟩
        · rcases (inA (h1 i hi)).mp hgo with ⟨hb', q⟩ | ⟨u, v, e, q, hr⟩
          · exact ⟨x, [], by rw [List.append_nil], (h4 x).mpr (Or.inr ⟨i, hi, q⟩), (g4 []).mpr (Or.inl ⟨rfl, hb'⟩)⟩
          · exact ⟨u, v, e, (h4 u).mpr (Or.inr ⟨i, hi, q⟩), (g4 v).mpr (Or.inr hr)⟩
        · exact ⟨[], x, rfl, (h4 []).mpr (Or.inl ⟨rfl, hb⟩), (g4 x).mpr (Or.inr ⟨i, hi, (inB (g1 i hi)).mp hgo⟩)⟩
/-- one or the other -/
theorem prt_or {b b' : Prop} {l l' : Lg} (h : prt F T b fs ls P l) (h' : prt F T b' fs' ls' P' l') (hd : ∀ i, P i → ¬ P' i) : prt F T (b ∨ b') (fun i => fs i ∨ fs' i) (fun i => ls i ∨ ls' i) (fun i => P i ∨ P' i) (orL l l') := by
  obtain ⟨h1, h2, h3, h4⟩ := h
  obtain ⟨g1, g2, g3, g4⟩ := h'
  have inA : ∀ {x : List Nat} {i : Nat}, P i → (go F T (fun i => ls i ∨ ls' i) x i ↔ go F T ls x i) := fun hi => (go_congr (P := P) h3 (fun _ _ _ => Iff.rfl) (fun _ _ _ => Iff.rfl) (fun i hi => ⟨Or.inl, fun q => q.elim id (fun z => absurd (g2 i z) (hd i hi))⟩) hi).symm
  have inB : ∀ {x : List Nat} {i : Nat}, P' i → (go F T (fun i => ls i ∨ ls' i) x i ↔ go F T ls' x i) := fun hi => (go_congr (P := P') g3 (fun _ _ _ => Iff.rfl) (fun _ _ _ => Iff.rfl) (fun i hi => ⟨Or.inr, fun q => q.elim (fun z => absurd hi (hd i (h2 i z))) id⟩) hi).symm
  refine ⟨fun i q => q.elim (fun z => Or.inl (h1 i z)) (fun z => Or.inr (g1 i z)), fun i q => q.elim (fun z => Or.inl (h2 i z)) (fun z => Or.inr (g2 i z)), fun i j hij hi => hi.elim (fun z => Or.inl (h3 i j hij z)) (fun z => Or.inr (g3 i j hij z)), fun x => ?_⟩
  unfold orL
  rw [h4 x, g4 x]
  constructor
  · rintro ((⟨e, q⟩ | ⟨i, hi, q⟩) | (⟨e, q⟩ | ⟨i, hi, q⟩))
    · exact Or.inl ⟨e, Or.inl q⟩
    · exact Or.inr ⟨i, Or.inl hi, (inA (h1 i hi)).mpr q⟩
    · exact Or.inl ⟨e, Or.inr q⟩
    · exact Or.inr ⟨i, Or.inr hi, (inB (g1 i hi)).mpr q⟩
  · rintro (⟨e, q | q⟩ | ⟨i, hi | hi, q⟩)
    · exact Or.inl (Or.inl ⟨e, q⟩)
    · exact Or.inr (Or.inl ⟨e, q⟩)
    · exact Or.inl (Or.inr ⟨i, hi, (inA (h1 i hi)).mp q⟩)
    · exact Or.inr (Or.inr ⟨i, hi, (inB (g1 i hi)).mp q⟩)
/-- some times -/
theorem prt_plus {b : Prop} {l : Lg} (h : prt F T b fs ls P l) (hF : ∀ i j, F' i j ↔ F i j ∨ (ls i ∧ fs j)) : prt F' T b fs ls P (plusL l) := by
  obtain ⟨h1, h2, h3, h4⟩ := h
  have key : ∀ {x : List Nat} {i : Nat}, P i → (go F' T ls x i ↔ ∃ u ys, x = u ++ List.flatten ys ∧ go F T ls u i ∧ ∀ y ∈ ys, run F T fs ls y) := by
    intro x
    induction x with
    | nil =>
      intro i hi
      constructor
      · intro q; exact absurd q id
      · rintro ⟨u, ys, e, q, -⟩
        have := go_ne q
        cases u with
        | nil => exact absurd rfl this
        | cons => cases e
    | cons c x ih =>
      intro i hi
      constructor
      · rintro ⟨ht, ⟨hx, hl⟩ | ⟨j, hj, q⟩⟩
        · exact ⟨[c], [], by rw [hx]; rfl, ⟨ht, Or.inl ⟨rfl, hl⟩⟩, fun y hy => by simp at hy⟩
        · rcases (hF i j).mp hj with hj | ⟨hl, hf⟩
          · obtain ⟨u, ys, e, q2, hys⟩ := (ih (h3 i j hj hi)).mp q
            exact ⟨c :: u, ys, by rw [e]; rfl, ⟨ht, Or.inr ⟨j, hj, q2⟩⟩, hys⟩
          · obtain ⟨u, ys, e, q2, hys⟩ := (ih (h1 j hf)).mp q
            refine ⟨[c], u :: ys, by rw [e]; rfl, ⟨ht, Or.inl ⟨rfl, hl⟩⟩, fun y hy => ?_⟩
            rcases List.mem_cons.mp hy with z | z
            · rw [z]; exact ⟨j, hf, q2⟩
            · exact hys y z
      · rintro ⟨u, ys, e, q, hys⟩
        cases u with
        | nil => exact absurd q id
        | cons d u =>
          obtain ⟨ht, q⟩ := q
          have hc := List.cons.inj e
          rw [← hc.1] at ht
          refine ⟨ht, ?_⟩
          rcases q with ⟨hu, q⟩ | ⟨k, hk, q⟩
          · rw [hu] at hc
            change c = d ∧ x = ys.flatten at hc
            cases ys with
            | nil => exact Or.inl ⟨hc.2, q⟩
            | cons y ys =>
              obtain ⟨j, hf, hg⟩ := hys y List.mem_cons_self
              exact Or.inr ⟨j, (hF i j).mpr (Or.inr ⟨q, hf⟩), (ih (h1 j hf)).mpr ⟨y, ys, hc.2, hg, fun z hz => hys z (List.mem_cons_of_mem _ hz)⟩⟩
          · exact Or.inr ⟨k, (hF i k).mpr (Or.inl hk), (ih (h3 i k hk hi)).mpr ⟨u, ys, hc.2, q, hys⟩⟩
  refine ⟨h1, h2, fun i j hij hi => ?_, fun x => ?_⟩
  · rcases (hF i j).mp hij with q | q
    · exact h3 i j q hi
    · exact h1 j q.2
  · unfold plusL
    constructor
    · rintro ⟨ys, hne, hys, rfl⟩
      -- leave out the bare ones
      have drop : ∀ ys : List (List Nat), (∀ y ∈ ys, l y) → (List.flatten ys = [] ∧ (ys ≠ [] → b ∨ ∃ y ∈ ys, run F T fs ls y)) ∨ ∃ zs : List (List Nat), zs ≠ [] ∧ (∀ z ∈ zs, run F T fs ls z) ∧ List.flatten ys = List.flatten zs := by
        intro ys
        induction ys with
        | nil => intro _; exact Or.inl ⟨rfl, fun q => absurd rfl q⟩
        | cons y ys ih =>
          intro hy
          have iy := ih (fun z hz => hy z (List.mem_cons_of_mem _ hz))
          rcases (h4 y).mp (hy y List.mem_cons_self) with ⟨rfl, hb⟩ | hr
          · rcases iy with ⟨e, q⟩ | ⟨zs, z1, z2, z3⟩
            · exact Or.inl ⟨by rw [List.flatten_cons, List.nil_append]; exact e, fun _ => Or.inl hb⟩
            · exact Or.inr ⟨zs, z1, z2, by rw [List.flatten_cons, List.nil_append]; exact z3⟩
          · right
            rcases iy with ⟨e, -⟩ | ⟨zs, z1, z2, z3⟩
            · exact ⟨[y], by simp, fun z hz => by rw [List.mem_singleton.mp hz]; exact hr, by rw [List.flatten_cons, List.flatten_cons, e]; rfl⟩
            · refine ⟨y :: zs, by simp, fun z hz => ?_, by rw [List.flatten_cons, List.flatten_cons, z3]⟩
              rcases List.mem_cons.mp hz with q | q
              · rw [q]; exact hr
              · exact z2 z q
      rcases drop ys hys with ⟨e, q⟩ | ⟨zs, z1, z2, z3⟩
      · rcases q hne with q | ⟨y, hy, hr⟩
        · exact Or.inl ⟨e, q⟩
        · exfalso
          obtain ⟨j, -, hg⟩ := hr
          have := go_ne hg
          have hm : y = [] := by
            have : ∀ z ∈ ys, z = [] := List.flatten_eq_nil_iff.mp e
            exact this y hy
          exact this hm
      · rw [z3]
        cases zs with
        | nil => exact absurd rfl z1
        | cons z zs =>
          obtain ⟨j, hf, hg⟩ := z2 z List.mem_cons_self
          exact Or.inr ⟨j, hf, (key (h1 j hf)).mpr ⟨z, zs, rfl, hg, fun y hy => z2 y (List.mem_cons_of_mem _ hy)⟩⟩
    · rintro (⟨rfl, hb⟩ | ⟨i, hi, hg⟩)
      · exact ⟨[[]], by simp, fun y hy => by rw [List.mem_singleton.mp hy]; exact (h4 []).mpr (Or.inl ⟨rfl, hb⟩), rfl⟩
      · obtain ⟨u, ys, e, q, hys⟩ := (key (h1 i hi)).mp hg
        refine ⟨u :: ys, by simp, fun y hy => ?_, e⟩
        rcases List.mem_cons.mp hy with z | z
        · rw [z]; exact (h4 u).mpr (Or.inr ⟨i, hi, q⟩)
        · exact (h4 y).mpr (Or.inr (hys y z))
theorem prt_opt {b : Prop} {l : Lg} (h : prt F T b fs ls P l) : prt F T True fs ls P (optL l) := by
  obtain ⟨h1, h2, h3, h4⟩ := h
  refine ⟨h1, h2, h3, fun x => ?_⟩
  unfold optL
  rw [h4 x]
  constructor
  · rintro (e | ⟨e, -⟩ | q)
    · exact Or.inl ⟨e, trivial⟩
    · exact Or.inl ⟨e, trivial⟩
    · exact Or.inr q
  · rintro (⟨e, -⟩ | q)
    · exact Or.inl e
    · exact Or.inr (Or.inr q)
theorem prt_one {n : Nat} {p : Nat → Prop} (hF : ∀ j, ¬ F n j) (hT : ∀ c, T n c ↔ p c) : prt F T False (fun i => i = n) (fun i => i = n) (fun i => i = n) (oneL p) := by
  refine ⟨fun _ h => h, fun _ h => h, fun i j hij hi => absurd (hi ▸ hij) (hF j), fun x => ?_⟩
  unfold oneL
  constructor
  · rintro ⟨c, rfl, hc⟩
    exact Or.inr ⟨n, rfl, (hT c).mpr hc, Or.inl ⟨rfl, rfl⟩⟩
  · rintro (⟨-, q⟩ | ⟨i, hi, hg⟩)
    · exact absurd q id
    · subst hi
      cases x with
      | nil => exact absurd hg id
      | cons c x =>
        obtain ⟨ht, ⟨hx, -⟩ | ⟨j, hj, -⟩⟩ := hg
        · exact ⟨c, by rw [hx], (hT c).mp ht⟩
        · exact absurd hj (hF j)
theorem prt_eps : prt F T True (fun _ => False) (fun _ => False) (fun _ => False) epsL := ⟨fun _ h => h.elim, fun _ h => h.elim, fun _ _ _ h => h.elim, fun x => ⟨fun e => Or.inl ⟨e, trivial⟩, fun q => q.elim (fun z => z.1) (fun ⟨_, z, _⟩ => z.elim)⟩⟩
theorem prt_no : prt F T False (fun _ => False) (fun _ => False) (fun _ => False) noL := ⟨fun _ h => h.elim, fun _ h => h.elim, fun _ _ _ h => h.elim, fun x => ⟨fun e => e.elim, fun q => q.elim (fun z => z.2) (fun ⟨_, z, _⟩ => z.elim)⟩⟩
end GLU
