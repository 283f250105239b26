/-! STEPS: the model's patterns: paths from spot to spot -/
abbrev Ed : Type := Nat × Nat × Option (Nat → Prop)
def PtN (E : List Ed) (q : Nat) : Nat → Nat → List Nat → Prop
  | 0, u, x => u = q ∧ x = []
  | k + 1, u, x => ∃ m, ((u, m, none) ∈ E ∧ PtN E q k m x) ∨ ∃ c f y, x = c :: y ∧ (u, m, some f) ∈ E ∧ f c ∧ PtN E q k m y
def Pt (E : List Ed) (u q : Nat) (x : List Nat) : Prop := ∃ k, PtN E q k u x
section PATH
variable {E E' : List Ed} {N n : Nat} {A T Q : Nat → Nat} {CL SL : Nat → Lg}
theorem Pt_nil (u : Nat) : Pt E u u [] := ⟨0, rfl, rfl⟩
theorem Pt_eps {u m v : Nat} {x : List Nat} (h : (u, m, none) ∈ E) (g : Pt E m v x) : Pt E u v x := g.elim fun k g => ⟨k + 1, m, Or.inl ⟨h, g⟩⟩
theorem Pt_sgn {u m v c : Nat} {x : List Nat} {f : Nat → Prop} (h : (u, m, some f) ∈ E) (hf : f c) (g : Pt E m v x) : Pt E u v (c :: x) := g.elim fun k g => ⟨k + 1, m, Or.inr ⟨c, f, x, rfl, h, hf, g⟩⟩
theorem Pt_up {q : Nat} (V : Nat → List Nat → Prop) (h0 : V q []) (h1 : ∀ u m x, (u, m, none) ∈ E → V m x → V u x) (h2 : ∀ u m c f x, (u, m, some f) ∈ E → f c → V m x → V u (c :: x)) {p : Nat} {x : List Nat} (h : Pt E p q x) : V p x := by
  obtain ⟨k, h⟩ := h
  induction k generalizing p x with
  | zero =>
    obtain ⟨rfl, rfl⟩ := h
    exact h0
  | succ k ih =>
    obtain ⟨m, ⟨a, b⟩ | ⟨c, f, y, rfl, a, b, g⟩⟩ := h
    · exact h1 _ _ _ a (ih b)
    · exact h2 _ _ _ _ _ a b (ih g)
theorem Pt_cases {q p : Nat} {x : List Nat} (h : Pt E p q x) : (p = q ∧ x = []) ∨ (∃ m, (p, m, none) ∈ E ∧ Pt E m q x) ∨ ∃ m c f y, x = c :: y ∧ (p, m, some f) ∈ E ∧ f c ∧ Pt E m q y := by
  obtain ⟨k, h⟩ := h
  cases k with
  | zero => exact Or.inl h
  | succ k =>
    obtain ⟨m, ⟨a, b⟩ | ⟨c, f, y, rfl, a, b, g⟩⟩ := h
    · exact Or.inr (Or.inl ⟨m, a, k, b⟩)
    · exact Or.inr (Or.inr ⟨m, c, f, y, rfl, a, b, k, g⟩)
theorem Pt_trans {p m q : Nat} {x y : List Nat} (h : Pt E p m x) (g : Pt E m q y) : Pt E p q (x ++ y) := Pt_up (V := fun u x => Pt E u q (x ++ y)) g (fun _ _ _ a b => Pt_eps a b) (fun _ _ _ _ _ a b c => Pt_sgn a b c) h
theorem Pt_mono (hE : ∀ e ∈ E, e ∈ E') {p q : Nat} {x : List Nat} (h : Pt E p q x) : Pt E' p q x := Pt_up (V := fun u x => Pt E' u q x) (Pt_nil q) (fun _ _ _ a b => Pt_eps (hE _ a) b) (fun _ _ _ _ _ a b c => Pt_sgn (hE _ a) b c) h
theorem Pt_sink {u v : Nat} {x : List Nat} (hu : ∀ e ∈ E, e.1 ≠ u) (h : Pt E u v x) : u = v ∧ x = [] := by
  rcases Pt_cases h with q | ⟨m, h1, _⟩ | ⟨m, c, f, y, _, h1, _⟩
  · exact q
  · exact absurd rfl (hu _ h1)
  · exact absurd rfl (hu _ h1)
theorem Pt_keep {p q : Nat} (hq : q < p) (h1 : ∀ e ∈ E', e ∈ E ∨ p ≤ e.2.1) (h2 : ∀ e ∈ E', p ≤ e.1 → p ≤ e.2.1) {s : Nat} {x : List Nat} (h : Pt E' s q x) : Pt E s q x := by
  refine (Pt_up (V := fun u x => u < p ∧ Pt E u q x) ⟨hq, Pt_nil q⟩ ?_ ?_ h).2
  · rintro u m x he ⟨hm, g⟩
    refine ⟨Nat.lt_of_not_le (fun z => by have := h2 _ he z; dsimp only at this; omega), ?_⟩
    rcases h1 _ he with q | q
    · exact Pt_eps q g
    · dsimp only at q; omega
  · rintro u m c f x he hf ⟨hm, g⟩
    refine ⟨Nat.lt_of_not_le (fun z => by have := h2 _ he z; dsimp only at this; omega), ?_⟩
    rcases h1 _ he with q | q
    · exact Pt_sgn q hf g
    · dsimp only at q; omega
theorem Pt_keep_iff {p q : Nat} (hq : q < p) (h0 : ∀ e ∈ E, e ∈ E') (h1 : ∀ e ∈ E', e ∈ E ∨ p ≤ e.2.1) (h2 : ∀ e ∈ E', p ≤ e.1 → p ≤ e.2.1) {s : Nat} {x : List Nat} : Pt E' s q x ↔ Pt E s q x := ⟨Pt_keep hq h1 h2, Pt_mono h0⟩
def GI (E : List Ed) (N n : Nat) (A T Q : Nat → Nat) (CL SL : Nat → Lg) : Prop := (∀ e ∈ E, e.1 < N ∧ e.2.1 < N) ∧ (∀ i, i ≤ n → A i < T i ∧ T i < N ∧ A i < Q i ∧ Q i < N ∧ T i ≠ Q i) ∧ (∀ i j, i < j → j ≤ n → T i < A j ∧ Q i < A j) ∧ (∀ i, i ≤ n → ∀ e ∈ E, e.1 ≠ T i) ∧ (∀ i, i ≤ n → ∀ e ∈ E, A i ≤ e.1 → A i < e.2.1) ∧ (∀ i, i < n → ∀ e ∈ E, e.1 < A (i + 1) → A (i + 1) ≤ e.2.1 → e = (Q i, A (i + 1), none)) ∧ (∀ i, i < n → (Q i, A (i + 1), none) ∈ E) ∧ (∀ i, i ≤ n → ∀ x, (Pt E (A i) (T i) x ↔ CL i x) ∧ (Pt E (A i) (Q i) x ↔ SL i x))
theorem GI.g1 (h : GI E N n A T Q CL SL) : ∀ e ∈ E, e.1 < N ∧ e.2.1 < N := h.1
theorem GI.g2 (h : GI E N n A T Q CL SL) : ∀ i, i ≤ n → A i < T i ∧ T i < N ∧ A i < Q i ∧ Q i < N ∧ T i ≠ Q i := h.2.1
theorem GI.g3 (h : GI E N n A T Q CL SL) : ∀ i j, i < j → j ≤ n → T i < A j ∧ Q i < A j := h.2.2.1
theorem GI.g4 (h : GI E N n A T Q CL SL) : ∀ i, i ≤ n → ∀ e ∈ E, e.1 ≠ T i := h.2.2.2.1
theorem GI.g6 (h : GI E N n A T Q CL SL) : ∀ i, i ≤ n → ∀ e ∈ E, A i ≤ e.1 → A i < e.2.1 := h.2.2.2.2.1
theorem GI.g7 (h : GI E N n A T Q CL SL) : ∀ i, i < n → ∀ e ∈ E, e.1 < A (i + 1) → A (i + 1) ≤ e.2.1 → e = (Q i, A (i + 1), none) := h.2.2.2.2.2.1
theorem GI.g8 (h : GI E N n A T Q CL SL) : ∀ i, i < n → (Q i, A (i + 1), none) ∈ E := h.2.2.2.2.2.2.1
theorem GI.g9 (h : GI E N n A T Q CL SL) : ∀ i, i ≤ n → ∀ x, (Pt E (A i) (T i) x ↔ CL i x) ∧ (Pt E (A i) (Q i) x ↔ SL i x) := h.2.2.2.2.2.2.2
theorem gi_start : GI [(0, 2, none)] 3 0 (fun _ => 0) (fun _ => 1) (fun _ => 2) (fun _ => noL) (fun _ => epsL) := by
  refine ⟨?_, ?_, ?_, ?_, ?_, ?_, ?_, ?_⟩
  · intro e he; rw [List.mem_singleton.mp he]; dsimp only; omega
  · intro i hi; dsimp only; omega
  · intro i j h1 h2; omega
  · intro i hi e he; rw [List.mem_singleton.mp he]; dsimp only; omega
  · intro i hi e he _; rw [List.mem_singleton.mp he]; dsimp only; omega
  · intro i hi; dsimp only; omega
  · intro i hi; dsimp only; omega
  · intro i hi x
    constructor
    · refine ⟨fun h => ?_, fun h => absurd h id⟩
      refine Pt_up (V := fun u x => u = 1) rfl ?_ ?_ h |> fun z => by cases z
      · intro u m x he hm
        have := List.mem_singleton.mp he
        cases this
        cases hm
      · intro u m c f x he
        have := List.mem_singleton.mp he
        cases this
    · refine ⟨fun h => ?_, fun h => ?_⟩
      · refine Pt_up (V := fun u x => x = []) rfl ?_ ?_ h
        · intro u m x he hm; exact hm
        · intro u m c f x he
          have := List.mem_singleton.mp he
          cases this
      · have hx : x = [] := h
        rw [hx]
        exact Pt_eps (List.mem_singleton.mpr rfl) (Pt_nil 2)
theorem gi_A (h : GI E N n A T Q CL SL) {i j : Nat} (hij : i ≤ j) (hj : j ≤ n) : A i ≤ A j := by
  rcases Nat.lt_or_eq_of_le hij with q | q
  · have := h.g3 i j q hj
    have := h.g2 i (by omega)
    omega
  · rw [q]; exact Nat.le_refl _
theorem gi_down (h : GI E N (n + 1) A T Q CL SL) : GI E N n A T Q CL SL := ⟨h.g1, fun i hi => h.g2 i (by omega), fun i j h1 h2 => h.g3 i j h1 (by omega), fun i hi => h.g4 i (by omega), fun i hi => h.g6 i (by omega), fun i hi => h.g7 i (by omega), fun i hi => h.g8 i (by omega), fun i hi => h.g9 i (by omega)⟩
/-- new spots behind the sequence's end -/
theorem gi_ext (h : GI E N n A T Q CL SL) {X : List Ed} {N' : Nat} (hN : N < N') (hX : ∀ e ∈ X, e = (Q n, N, none) ∨ (N ≤ e.1 ∧ N < e.2.1 ∧ e.1 < N' ∧ e.2.1 < N')) : GI (E ++ X) N' n A T Q CL SL := by
  have c : ∀ e ∈ E ++ X, e ∈ E ∨ (e = (Q n, N, none) ∨ (N ≤ e.1 ∧ N < e.2.1 ∧ e.1 < N' ∧ e.2.1 < N')) := fun e he => (List.mem_append.mp he).imp id (hX e)
  have q2 := h.g2 n (Nat.le_refl _)
  have k1 : ∀ e ∈ E ++ X, e ∈ E ∨ N ≤ e.2.1 := by
    intro e he
    rcases c e he with q | rfl | q
    · exact Or.inl q
    · exact Or.inr (Nat.le_refl _)
    · exact Or.inr (by omega)
  have k2 : ∀ e ∈ E ++ X, N ≤ e.1 → N ≤ e.2.1 := by
    intro e he hh
    rcases c e he with q | rfl | q
    · have := h.g1 e q; omega
    · exact Nat.le_refl _
    · omega
  refine ⟨?_, ?_, h.g3, ?_, ?_, ?_, ?_, ?_⟩
  · intro e he
    rcases c e he with q | rfl | q
    · have := h.g1 e q; omega
    · dsimp only; omega
    · omega
  · intro i hi; have := h.g2 i hi; omega
  · intro i hi e he
    have gi := h.g2 i hi
    rcases c e he with q | rfl | q
    · exact h.g4 i hi e q
    · dsimp only
      rcases Nat.lt_or_eq_of_le hi with z | z
      · have := h.g3 i n z (Nat.le_refl _); omega
      · rw [z]; omega
    · omega
  · intro i hi e he hh
    have gi := h.g2 i hi
    rcases c e he with q | rfl | q
    · exact h.g6 i hi e q hh
    · dsimp only; omega
    · omega
  · intro i hi e he hh hh2
    have gi := h.g2 (i + 1) (by omega)
    have hA := gi_A h (i := i + 1) (j := n) (by omega) (Nat.le_refl _)
    rcases c e he with q | rfl | q
    · exact h.g7 i hi e q hh hh2
    · dsimp only at hh; omega
    · omega
  · intro i hi; exact List.mem_append.mpr (Or.inl (h.g8 i hi))
  · intro i hi x
    have gi := h.g2 i hi
    rw [Pt_keep_iff (p := N) (by omega) (fun e he => List.mem_append.mpr (Or.inl he)) k1 k2, Pt_keep_iff (p := N) (by omega) (fun e he => List.mem_append.mpr (Or.inl he)) k1 k2]
    exact h.g9 i hi x
theorem gi_bar (h : GI E N n A T Q CL SL) : GI (E ++ [(Q n, T n, none), (A n, N, none)]) (N + 1) n A T (up1 Q n N) (up1 CL n (orL (CL n) (SL n))) (up1 SL n epsL) := by
  have hq2 := h.g2 n (Nat.le_refl _)
  have c : ∀ e ∈ E ++ [(Q n, T n, none), (A n, N, none)], e ∈ E ∨ e = (Q n, T n, none) ∨ e = (A n, N, none) := by
    intro e he
    rcases List.mem_append.mp he with q | q
    · exact Or.inl q
    · simp at q; exact Or.inr q
  have m0 : ∀ e ∈ E, e ∈ E ++ [(Q n, T n, none), (A n, N, none)] := fun e he => List.mem_append.mpr (Or.inl he)
  have m1 : ((Q n, T n, none) : Ed) ∈ E ++ [(Q n, T n, none), (A n, N, none)] := by simp
  have m2 : ((A n, N, none) : Ed) ∈ E ++ [(Q n, T n, none), (A n, N, none)] := by simp
  refine ⟨?_, ?_, ?_, ?_, ?_, ?_, ?_, ?_⟩
  · intro e he
    rcases c e he with q | rfl | rfl
    · have := h.g1 e q; omega
    · dsimp only; omega
    · dsimp only; omega
  · intro i hi
    have := h.g2 i hi
    unfold up1
    split <;> omega
  · intro i j hij hj
    have := h.g3 i j hij hj
    unfold up1
    split
    · omega
    · omega
  · intro i hi e he
    have gi := h.g2 i hi
    have hA := gi_A h hi (Nat.le_refl _)
    rcases c e he with q | rfl | rfl
    · exact h.g4 i hi e q
    · dsimp only
      rcases Nat.lt_or_eq_of_le hi with z | z
      · have := h.g3 i n z (Nat.le_refl _); omega
      · rw [z]; omega
    · dsimp only
      rcases Nat.lt_or_eq_of_le hi with z | z
      · have := h.g3 i n z (Nat.le_refl _); omega
      · rw [z]; omega
  · intro i hi e he hh
    have gi := h.g2 i hi
    have hA := gi_A h hi (Nat.le_refl _)
    rcases c e he with q | rfl | rfl
    · exact h.g6 i hi e q hh
    · dsimp only; omega
    · dsimp only; omega
  · intro i hi e he hh hh2
    have hA := gi_A h (i := i + 1) (j := n) (by omega) (Nat.le_refl _)
    rw [up1_o (by omega)]
    rcases c e he with q | rfl | rfl
    · exact h.g7 i hi e q hh hh2
    · dsimp only at hh; omega
    · dsimp only at hh; omega
  · intro i hi
    rw [up1_o (by omega)]
    exact m0 _ (h.g8 i hi)
  · intro i hi x
    have gi := h.g2 i hi
    by_cases hin : i = n
    · subst hin
      rw [up1_s, up1_s, up1_s]
      constructor
      · constructor
        · intro g
          refine Pt_up (V := fun u x => Pt E u (T i) x ∨ Pt E u (Q i) x) (Or.inl (Pt_nil _)) ?_ ?_ g |> fun z => z.imp (h.g9 i hi x).1.mp (h.g9 i hi x).2.mp
          · intro u m x he hm
            rcases c _ he with q | q | q
            · exact hm.imp (Pt_eps q) (Pt_eps q)
            · cases q
              rcases hm with z | z
              · obtain ⟨-, rfl⟩ := Pt_sink (h.g4 i hi) z
                exact Or.inr (Pt_nil _)
              · obtain ⟨z1, -⟩ := Pt_sink (h.g4 i hi) z
                omega
            · cases q
              have sk : ∀ e ∈ E, e.1 ≠ N := fun e he => by have := h.g1 e he; omega
              rcases hm with z | z
              · obtain ⟨z1, -⟩ := Pt_sink sk z; omega
              · obtain ⟨z1, -⟩ := Pt_sink sk z; omega
          · intro u m c' f x he hf hm
            rcases c _ he with q | q | q
            · exact hm.imp (Pt_sgn q hf) (Pt_sgn q hf)
            · cases q
            · cases q
        · rintro (g | g)
          · exact Pt_mono m0 ((h.g9 i hi x).1.mpr g)
          · have := Pt_trans (Pt_mono m0 ((h.g9 i hi x).2.mpr g)) (Pt_eps m1 (Pt_nil _))
            rw [List.append_nil] at this
            exact this
      · constructor
        · intro g
          refine (Pt_up (V := fun u x => A i ≤ u → (u = N ∨ u = A i) ∧ x = []) (fun _ => ⟨Or.inl rfl, rfl⟩) ?_ ?_ g (Nat.le_refl _)).2
          · intro u m x he hm hu
            rcases c _ he with q | q | q
            · have b1 := h.g6 i hi _ q hu
              have b2 := h.g1 _ q
              dsimp only at b1 b2
              have := (hm (by omega)).1
              omega
            · cases q
              have := (hm (by omega)).1
              omega
            · cases q
              exact ⟨Or.inr rfl, (hm (by omega)).2⟩
          · intro u m c' f x he hf hm hu
            rcases c _ he with q | q | q
            · have b1 := h.g6 i hi _ q hu
              have b2 := h.g1 _ q
              dsimp only at b1 b2
              have := (hm (by omega)).1
              omega
            · cases q
            · cases q
        · intro g
          have hx : x = [] := g
          rw [hx]
          exact Pt_eps m2 (Pt_nil _)
    · have g3 := h.g3 i n (by omega) (Nat.le_refl _)
      rw [up1_o hin, up1_o hin, up1_o hin]
      have k1 : ∀ e ∈ E ++ [(Q n, T n, none), (A n, N, none)], e ∈ E ∨ A n ≤ e.2.1 := by
        intro e he
        rcases c e he with q | rfl | rfl
        · exact Or.inl q
        · exact Or.inr (by dsimp only; omega)
        · exact Or.inr (by dsimp only; omega)
      have k2 : ∀ e ∈ E ++ [(Q n, T n, none), (A n, N, none)], A n ≤ e.1 → A n ≤ e.2.1 := by
        intro e he hh
        rcases c e he with q | rfl | rfl
        · have := h.g6 n (Nat.le_refl _) e q hh; omega
        · dsimp only; omega
        · dsimp only; omega
      rw [Pt_keep_iff (p := A n) g3.1 m0 k1 k2, Pt_keep_iff (p := A n) g3.2 m0 k1 k2]
      exact h.g9 i hi x
/-- a piece from b to h, closed -/
def PC (E : List Ed) (N n : Nat) (T Q : Nat → Nat) (b h : Nat) (l : Lg) : Prop := b < h ∧ h < N ∧ (∀ i, i ≤ n → T i < b ∧ Q i < b) ∧ (∀ e ∈ E, e.1 ≠ h) ∧ (∀ e ∈ E, b ≤ e.1 → b < e.2.1) ∧ (∀ e ∈ E, e.1 < b → b ≤ e.2.1 → e = (Q n, b, none)) ∧ (Q n, b, none) ∈ E ∧ ∀ x, Pt E b h x ↔ l x
theorem gi_piece {b h : Nat} {l K R : Lg} {O : List Ed} (hG : GI E N n A T Q CL SL) (hP : PC E N n T Q b h l) (hO : ∀ e ∈ O, e = (h, b, none) ∨ e = (b, h, none)) (r0 : K []) (r1 : ∀ x y, l x → K y → R (x ++ y)) (r2 : (h, b, none) ∈ O → ∀ x, R x → K x) (r3 : (b, h, none) ∈ O → ∀ x, K x → R x) (r4 : ∀ x, R x → Pt (E ++ O ++ [(h, N, none)]) b h x) : GI (E ++ O ++ [(h, N, none)]) (N + 1) n A T (up1 Q n N) CL (up1 SL n (catL (SL n) R)) := by
  obtain ⟨p1, p2, p3, p4, p5, p6, p7, p8⟩ := hP
  have c : ∀ e ∈ E ++ O ++ [(h, N, none)], e ∈ E ∨ (e = (h, b, none) ∧ e ∈ O) ∨ (e = (b, h, none) ∧ e ∈ O) ∨ e = (h, N, none) := by
    intro e he
    rcases List.mem_append.mp he with q | q
    · rcases List.mem_append.mp q with q | q
      · exact Or.inl q
      · exact Or.inr ((hO e q).elim (fun z => Or.inl ⟨z, q⟩) (fun z => Or.inr (Or.inl ⟨z, q⟩)))
    · exact Or.inr (Or.inr (Or.inr (List.mem_singleton.mp q)))
  have m0 : ∀ e ∈ E, e ∈ E ++ O ++ [(h, N, none)] := fun e he => List.mem_append.mpr (Or.inl (List.mem_append.mpr (Or.inl he)))
  have m1 : ((h, N, none) : Ed) ∈ E ++ O ++ [(h, N, none)] := by simp
  have hA : ∀ i, i ≤ n → A i < b := fun i hi => by have := hG.g2 i hi; have := p3 i hi; omega
  have k1 : ∀ e ∈ E ++ O ++ [(h, N, none)], e ∈ E ∨ b ≤ e.2.1 := by
    intro e he
    rcases c e he with q | ⟨rfl, -⟩ | ⟨rfl, -⟩ | rfl
    · exact Or.inl q
    · exact Or.inr (Nat.le_refl _)
    · exact Or.inr (by dsimp only; omega)
    · exact Or.inr (by dsimp only; omega)
  have k2 : ∀ e ∈ E ++ O ++ [(h, N, none)], b ≤ e.1 → b ≤ e.2.1 := by
    intro e he hh
    rcases c e he with q | ⟨rfl, -⟩ | ⟨rfl, -⟩ | rfl
    · have := p5 e q hh; omega
    · exact Nat.le_refl _
    · dsimp only; omega
    · dsimp only; omega
  refine ⟨?_, ?_, ?_, ?_, ?_, ?_, ?_, ?_⟩
  · intro e he
    rcases c e he with q | ⟨rfl, -⟩ | ⟨rfl, -⟩ | rfl
    · have := hG.g1 e q; omega
    · dsimp only; omega
    · dsimp only; omega
    · dsimp only; omega
  · intro i hi
    have := hG.g2 i hi
    unfold up1
    split <;> omega
  · intro i j hij hj
    have := hG.g3 i j hij hj
    unfold up1
    split
    · omega
    · omega
  · intro i hi e he
    have gi := p3 i hi
    rcases c e he with q | ⟨rfl, -⟩ | ⟨rfl, -⟩ | rfl
    · exact hG.g4 i hi e q
    · dsimp only; omega
    · dsimp only; omega
    · dsimp only; omega
  · intro i hi e he hh
    have gi := hA i hi
    rcases c e he with q | ⟨rfl, -⟩ | ⟨rfl, -⟩ | rfl
    · exact hG.g6 i hi e q hh
    · dsimp only; omega
    · dsimp only; omega
    · dsimp only; omega
  · intro i hi e he hh hh2
    have gi := hA (i + 1) (by omega)
    rw [up1_o (by omega)]
    rcases c e he with q | ⟨rfl, -⟩ | ⟨rfl, -⟩ | rfl
    · exact hG.g7 i hi e q hh hh2
    · dsimp only at hh; omega
    · dsimp only at hh; omega
    · dsimp only at hh; omega
  · intro i hi
    rw [up1_o (by omega)]
    exact m0 _ (hG.g8 i hi)
  · intro i hi x
    refine ⟨?_, ?_⟩
    · rw [Pt_keep_iff (p := b) (p3 i hi).1 m0 k1 k2]
      exact (hG.g9 i hi x).1
    · by_cases hin : i = n
      rotate_left
      · rw [up1_o hin, up1_o hin, Pt_keep_iff (p := b) (p3 i hi).2 m0 k1 k2]
        exact (hG.g9 i hi x).2
      subst hin
      rw [up1_s, up1_s]
      have hAi := hA i hi
      have gi := hG.g2 i hi
      have hQ := (p3 i hi).2
      constructor
      · intro g
        have key : (A i = N ∧ x = []) ∨ (A i < b ∧ catL (Pt E (A i) (Q i)) R x) ∨ (A i = b ∧ R x) ∨ (b < A i ∧ A i ≠ N ∧ catL (Pt E (A i) h) K x) := by
          refine Pt_up (V := fun u x => (u = N ∧ x = []) ∨ (u < b ∧ catL (Pt E u (Q i)) R x) ∨ (u = b ∧ R x) ∨ (b < u ∧ u ≠ N ∧ catL (Pt E u h) K x)) (Or.inl ⟨rfl, rfl⟩) ?_ ?_ g
          · intro u m x he hm
            rcases c _ he with q | ⟨q, hq⟩ | ⟨q, hq⟩ | q
            · have b1 := hG.g1 _ q
              have b5 := p5 _ q
              have b6 := p6 _ q
              dsimp only at b1 b5 b6
              rcases hm with ⟨z, -⟩ | ⟨z, u1, u2, e, z1, z2⟩ | ⟨z, zR⟩ | ⟨z, z0, u1, u2, e, z1, z2⟩
              · omega
              · exact Or.inr (Or.inl ⟨Nat.lt_of_not_le (fun y => by have := b5 y; omega), u1, u2, e, Pt_eps q z1, z2⟩)
              · have hub : u < b := Nat.lt_of_not_le (fun y => by have := b5 y; omega)
                have := b6 hub (by omega)
                have hu : u = Q i := by have := congrArg (fun e => e.1) this; exact this
                subst hu
                exact Or.inr (Or.inl ⟨hub, [], x, rfl, Pt_nil _, zR⟩)
              · rcases Nat.lt_trichotomy u b with y | y | y
                · have := b6 y (by omega)
                  have hmb : m = b := by have := congrArg (fun e => e.2.1) this; exact this
                  omega
                · refine Or.inr (Or.inr (Or.inl ⟨y, ?_⟩))
                  rw [e]
                  exact r1 _ _ ((p8 _).mp (by rw [← y]; exact Pt_eps q z1)) z2
                · exact Or.inr (Or.inr (Or.inr ⟨y, by omega, u1, u2, e, Pt_eps q z1, z2⟩))
            · cases q
              rcases hm with ⟨z, -⟩ | ⟨z, -⟩ | ⟨z, zR⟩ | ⟨z, -⟩
              · omega
              · omega
              · exact Or.inr (Or.inr (Or.inr ⟨p1, by omega, [], x, rfl, Pt_nil _, r2 hq x zR⟩))
              · omega
            · cases q
              rcases hm with ⟨z, -⟩ | ⟨z, -⟩ | ⟨z, -⟩ | ⟨z, z0, u1, u2, e, z1, z2⟩
              · omega
              · omega
              · omega
              · obtain ⟨-, rfl⟩ := Pt_sink p4 z1
                exact Or.inr (Or.inr (Or.inl ⟨rfl, by rw [e]; exact r3 hq _ z2⟩))
            · cases q
              rcases hm with ⟨-, z⟩ | ⟨z, -⟩ | ⟨z, -⟩ | ⟨z, z0, -⟩
              · exact Or.inr (Or.inr (Or.inr ⟨p1, by omega, [], [], by rw [z]; rfl, Pt_nil _, r0⟩))
              · omega
              · omega
              · exact absurd rfl z0
          · intro u m c' f x he hf hm
            rcases c _ he with q | ⟨q, hq⟩ | ⟨q, hq⟩ | q
            · have b1 := hG.g1 _ q
              have b5 := p5 _ q
              have b6 := p6 _ q
              dsimp only at b1 b5 b6
              rcases hm with ⟨z, -⟩ | ⟨z, u1, u2, e, z1, z2⟩ | ⟨z, zR⟩ | ⟨z, z0, u1, u2, e, z1, z2⟩
              · omega
              · exact Or.inr (Or.inl ⟨Nat.lt_of_not_le (fun y => by have := b5 y; omega), c' :: u1, u2, by rw [e]; rfl, Pt_sgn q hf z1, z2⟩)
              · have hub : u < b := Nat.lt_of_not_le (fun y => by have := b5 y; omega)
                have := b6 hub (by omega)
                have := congrArg (fun e => e.2.2) this
                cases this
              · rcases Nat.lt_trichotomy u b with y | y | y
                · have := b6 y (by omega)
                  have := congrArg (fun e => e.2.2) this
                  cases this
                · refine Or.inr (Or.inr (Or.inl ⟨y, ?_⟩))
                  rw [e]
                  exact r1 (c' :: u1) u2 ((p8 _).mp (by rw [← y]; exact Pt_sgn q hf z1)) z2
                · exact Or.inr (Or.inr (Or.inr ⟨y, by omega, c' :: u1, u2, by rw [e]; rfl, Pt_sgn q hf z1, z2⟩))
            · cases q
            · cases q
            · cases q
        rcases key with ⟨z, -⟩ | ⟨z, u1, u2, e, z1, z2⟩ | ⟨z, -⟩ | ⟨z, -⟩
        · omega
        · exact ⟨u1, u2, e, (hG.g9 i hi u1).2.mp z1, z2⟩
        · omega
        · omega
      · rintro ⟨u1, u2, e, z1, z2⟩
        have y1 := Pt_mono m0 ((hG.g9 i hi u1).2.mpr z1)
        have y2 := Pt_trans (r4 u2 z2) (Pt_eps m1 (Pt_nil _))
        rw [List.append_nil] at y2
        rw [e]
        exact Pt_trans y1 (Pt_eps (m0 _ p7) y2)
def opE (s b h : Nat) : List Ed := (if s = 63 then [] else [(h, b, none)]) ++ (if s = 43 then [] else [(b, h, none)])
theorem gi_rep {b h s : Nat} {l : Lg} (hG : GI E N n A T Q CL SL) (hP : PC E N n T Q b h l) (hs : s = 42 ∨ s = 43 ∨ s = 63) : GI (E ++ opE s b h ++ [(h, N, none)]) (N + 1) n A T (up1 Q n N) CL (up1 SL n (catL (SL n) (repL s l))) := by
  have hL : ∀ x, l x → Pt (E ++ opE s b h ++ [(h, N, none)]) b h x := fun x hx => Pt_mono (fun e he => List.mem_append.mpr (Or.inl (List.mem_append.mpr (Or.inl he)))) ((hP.2.2.2.2.2.2.2 x).mpr hx)
  have mO : ∀ e ∈ opE s b h, e ∈ E ++ opE s b h ++ [(h, N, none)] := fun e he => List.mem_append.mpr (Or.inl (List.mem_append.mpr (Or.inr he)))
  have pls : (h, b, none) ∈ opE s b h → ∀ x, plusL l x → Pt (E ++ opE s b h ++ [(h, N, none)]) b h x := by
    rintro hm x ⟨ys, hne, hy, rfl⟩
    induction ys with
    | nil => exact absurd rfl hne
    | cons y ys ih =>
      have y1 := hL y (hy y (List.mem_cons_self ..))
      cases ys with
      | nil => rw [List.flatten_cons, List.flatten_nil, List.append_nil]; exact y1
      | cons z zs =>
        rw [List.flatten_cons]
        exact Pt_trans y1 (Pt_eps (mO _ hm) (ih (fun q => by cases q) (fun v hv => hy v (List.mem_cons_of_mem _ hv))))
  have op1 : ∀ e ∈ opE s b h, e = (h, b, none) ∨ e = (b, h, none) := by
    intro e he
    unfold opE at he
    rcases List.mem_append.mp he with q | q
    · split at q
      · cases q
      · exact Or.inl (List.mem_singleton.mp q)
    · split at q
      · cases q
      · exact Or.inr (List.mem_singleton.mp q)
  have cat1 : ∀ x y, l x → optL (plusL l) y → plusL l (x ++ y) := by
    intro x y hx hy
    rcases hy with rfl | ⟨ys, h1, h2, rfl⟩
    · exact ⟨[x], (fun q => by cases q), fun z hz => by rw [List.mem_singleton.mp hz]; exact hx, by simp⟩
    · exact ⟨x :: ys, (fun q => by cases q), fun z hz => by
        rcases List.mem_cons.mp hz with q | q
        · rw [q]; exact hx
        · exact h2 z q, by simp⟩
  have hbh : b < h := hP.1
  rcases hs with rfl | rfl | rfl
  · have e : repL 42 l = optL (plusL l) := rfl
    rw [e]
    refine gi_piece (K := optL (plusL l)) hG hP op1 (Or.inl rfl) (fun x y hx hy => Or.inr (cat1 x y hx hy)) (fun _ x hx => hx) (fun _ x hx => hx) (fun x hx => ?_)
    rcases hx with rfl | hx
    · exact Pt_eps (mO _ (by simp [opE])) (Pt_nil _)
    · exact pls (by simp [opE]) x hx
  · have e : repL 43 l = plusL l := rfl
    rw [e]
    refine gi_piece (K := optL (plusL l)) hG hP op1 (Or.inl rfl) cat1 (fun _ x hx => Or.inr hx) (fun q => ?_) (fun x hx => pls (by simp [opE]) x hx)
    simp [opE] at q
    omega
  · have e : repL 63 l = optL l := rfl
    rw [e]
    refine gi_piece (K := epsL) hG hP op1 rfl (fun x y hx hy => Or.inr (by have hy' : y = [] := hy; rw [hy', List.append_nil]; exact hx)) (fun q => ?_) (fun _ x hx => Or.inl hx) (fun x hx => ?_)
    · simp [opE] at q
      omega
    · rcases hx with rfl | hx
      · exact Pt_eps (mO _ (by simp [opE])) (Pt_nil _)
      · exact hL x hx
theorem gi_norep {b h : Nat} {l : Lg} (hG : GI E N n A T Q CL SL) (hP : PC E N n T Q b h l) : GI (E ++ [(h, N, none)]) (N + 1) n A T (up1 Q n N) CL (up1 SL n (catL (SL n) l)) := by
  have := gi_piece (O := []) (K := epsL) (R := l) hG hP (fun e he => by cases he) rfl (fun x y hx hy => by have hy' : y = [] := hy; rw [hy', List.append_nil]; exact hx) (fun q => by cases q) (fun q => by cases q) (fun x hx => by
    rw [List.append_nil]
    exact Pt_mono (fun e he => List.mem_append.mpr (Or.inl he)) ((hP.2.2.2.2.2.2.2 x).mpr hx))
  rw [List.append_nil] at this
  exact this
/-- an atom -/
theorem gi_atom (hG : GI E N n A T Q CL SL) {f : Nat → Prop} : GI (E ++ [(Q n, N, none), (N, N + 1, some f)]) (N + 2) n A T Q CL SL ∧ PC (E ++ [(Q n, N, none), (N, N + 1, some f)]) (N + 2) n T Q N (N + 1) (oneL f) := by
  have c : ∀ e ∈ E ++ [(Q n, N, none), (N, N + 1, some f)], e ∈ E ∨ e = (Q n, N, none) ∨ e = (N, N + 1, some f) := by
    intro e he
    rcases List.mem_append.mp he with q | q
    · exact Or.inl q
    · simp at q; exact Or.inr q
  have q2 := hG.g2 n (Nat.le_refl _)
  refine ⟨gi_ext hG (by omega) (fun e he => ?_), by omega, by omega, fun i hi => ?_, fun e he => ?_, fun e he hh => ?_, fun e he h1 h2 => ?_, by simp, fun x => ⟨fun g => ?_, ?_⟩⟩
  · simp at he
    rcases he with rfl | rfl
    · exact Or.inl rfl
    · exact Or.inr (by dsimp only; omega)
  · have := hG.g2 i hi; omega
  · rcases c e he with q | rfl | rfl
    · have := hG.g1 e q; omega
    · dsimp only; omega
    · dsimp only; omega
  · rcases c e he with q | rfl | rfl
    · have := hG.g1 e q; omega
    · dsimp only at hh; omega
    · dsimp only; omega
  · rcases c e he with q | rfl | rfl
    · have := hG.g1 e q; omega
    · rfl
    · dsimp only at h1; omega
  · have key : (N = N + 1 ∧ x = []) ∨ (N = N ∧ oneL f x) ∨ N < N := by
      refine Pt_up (V := fun u x => (u = N + 1 ∧ x = []) ∨ (u = N ∧ oneL f x) ∨ u < N) (Or.inl ⟨rfl, rfl⟩) ?_ ?_ g
      · intro u m x he hm
        rcases c _ he with q | q | q
        · exact Or.inr (Or.inr (hG.g1 _ q).1)
        · cases q
          exact Or.inr (Or.inr (by omega))
        · cases q
      · intro u m c' f' x he hf hm
        rcases c _ he with q | q | q
        · exact Or.inr (Or.inr (hG.g1 _ q).1)
        · cases q
        · cases q
          rcases hm with ⟨-, rfl⟩ | ⟨z, -⟩ | z
          · exact Or.inr (Or.inl ⟨rfl, c', rfl, hf⟩)
          · omega
          · omega
    rcases key with ⟨z, -⟩ | ⟨-, z⟩ | z
    · omega
    · exact z
    · omega
  · rintro ⟨c', rfl, hf⟩
    exact Pt_sgn (by simp) hf (Pt_nil _)
/-- a bracket opens -/
theorem gi_open (hG : GI E N n A T Q CL SL) : GI (E ++ [(Q n, N, none), (N, N + 2, none)]) (N + 3) (n + 1) (up1 A (n + 1) N) (up1 T (n + 1) (N + 1)) (up1 Q (n + 1) (N + 2)) (up1 CL (n + 1) noL) (up1 SL (n + 1) epsL) := by
  have c : ∀ e ∈ E ++ [(Q n, N, none), (N, N + 2, none)], e ∈ E ∨ e = (Q n, N, none) ∨ e = (N, N + 2, none) := by
    intro e he
    rcases List.mem_append.mp he with q | q
    · exact Or.inl q
    · simp at q; exact Or.inr q
  have q2 := hG.g2 n (Nat.le_refl _)
  have hG1 : GI (E ++ [(Q n, N, none), (N, N + 2, none)]) (N + 3) n A T Q CL SL := gi_ext hG (by omega) (fun e he => by
    simp at he
    rcases he with rfl | rfl
    · exact Or.inl rfl
    · exact Or.inr (by dsimp only; omega))
  have ne : ∀ {i : Nat}, i ≤ n → i ≠ n + 1 := fun hi => by omega
  refine ⟨hG1.g1, fun i hi => ?_, fun i j hij hj => ?_, fun i hi e he => ?_, fun i hi e he hh => ?_, fun i hi e he h1 h2 => ?_, fun i hi => ?_, fun i hi x => ?_⟩
  · by_cases q : i = n + 1
    · subst q; rw [up1_s, up1_s, up1_s]; omega
    · rw [up1_o q, up1_o q, up1_o q]; exact hG1.g2 i (by omega)
  · rw [up1_o (f := T) (ne (by omega)), up1_o (f := Q) (ne (by omega))]
    by_cases q : j = n + 1
    · subst q; rw [up1_s]; have := hG.g2 i (by omega); omega
    · rw [up1_o q]; exact hG.g3 i j hij (by omega)
  · by_cases q : i = n + 1
    · subst q; rw [up1_s]
      rcases c e he with z | rfl | rfl
      · have := hG.g1 e z; omega
      · dsimp only; omega
      · dsimp only; omega
    · rw [up1_o q]; exact hG1.g4 i (by omega) e he
  · by_cases q : i = n + 1
    · subst q; rw [up1_s] at hh ⊢
      rcases c e he with z | rfl | rfl
      · have := hG.g1 e z; omega
      · dsimp only at hh; omega
      · dsimp only; omega
    · rw [up1_o q] at hh ⊢; exact hG1.g6 i (by omega) e he hh
  · rw [up1_o (ne (by omega))]
    by_cases q : i = n
    · subst q
      rw [up1_s] at h1 h2 ⊢
      rcases c e he with z | rfl | rfl
      · have := hG.g1 e z; omega
      · rfl
      · dsimp only at h1; omega
    · rw [up1_o (show i + 1 ≠ n + 1 by omega)] at h1 h2 ⊢
      exact hG1.g7 i (by omega) e he h1 h2
  · rw [up1_o (ne (by omega))]
    by_cases q : i = n
    · subst q
      rw [up1_s]
      simp
    · rw [up1_o (show i + 1 ≠ n + 1 by omega)]
      exact hG1.g8 i (by omega)
  · by_cases q : i = n + 1
    · subst q
      rw [up1_s, up1_s, up1_s, up1_s, up1_s]
      have far : ∀ {q : Nat} {x : List Nat}, N < q → Pt (E ++ [(Q n, N, none), (N, N + 2, none)]) N q x → q = N + 2 ∧ x = [] := by
        intro q x hq g
        have key : (N = q ∧ x = []) ∨ (N = N ∧ q = N + 2 ∧ x = []) ∨ N < N := by
          refine Pt_up (V := fun u x => (u = q ∧ x = []) ∨ (u = N ∧ q = N + 2 ∧ x = []) ∨ u < N) (Or.inl ⟨rfl, rfl⟩) ?_ ?_ g
          · intro u m x he hm
            rcases c _ he with z | z | z
            · exact Or.inr (Or.inr (hG.g1 _ z).1)
            · cases z
              exact Or.inr (Or.inr (by omega))
            · cases z
              rcases hm with ⟨z1, z2⟩ | ⟨z1, -⟩ | z1
              · exact Or.inr (Or.inl ⟨rfl, z1.symm, z2⟩)
              · omega
              · omega
          · intro u m c' f' x he hf hm
            rcases c _ he with z | z | z
            · exact Or.inr (Or.inr (hG.g1 _ z).1)
            · cases z
            · cases z
        rcases key with ⟨z, -⟩ | ⟨-, z⟩ | z
        · omega
        · exact z
        · omega
      refine ⟨⟨fun g => ?_, fun g => absurd g id⟩, ⟨fun g => (far (by omega) g).2, fun g => ?_⟩⟩
      · have := (far (by omega) g).1
        omega
      · have hx : x = [] := g
        rw [hx]
        exact Pt_eps (by simp) (Pt_nil _)
    · rw [up1_o q, up1_o q, up1_o q, up1_o q, up1_o q]
      exact hG1.g9 i (by omega) x
/-- the bracket's piece -/
theorem gi_shut (hG : GI E N (n + 1) A T Q CL SL) : GI (E ++ [(Q (n + 1), T (n + 1), none)]) N n A T Q CL SL ∧ PC (E ++ [(Q (n + 1), T (n + 1), none)]) N n T Q (A (n + 1)) (T (n + 1)) (orL (CL (n + 1)) (SL (n + 1))) := by
  have hq2 := hG.g2 (n + 1) (Nat.le_refl _)
  have c : ∀ e ∈ E ++ [(Q (n + 1), T (n + 1), none)], e ∈ E ∨ e = (Q (n + 1), T (n + 1), none) := by
    intro e he
    rcases List.mem_append.mp he with q | q
    · exact Or.inl q
    · exact Or.inr (List.mem_singleton.mp q)
  have m0 : ∀ e ∈ E, e ∈ E ++ [(Q (n + 1), T (n + 1), none)] := fun e he => List.mem_append.mpr (Or.inl he)
  have m1 : ((Q (n + 1), T (n + 1), none) : Ed) ∈ E ++ [(Q (n + 1), T (n + 1), none)] := by simp
  have hA : ∀ i, i ≤ n → T i < A (n + 1) ∧ Q i < A (n + 1) ∧ A i < A (n + 1) := fun i hi => by
    have := hG.g3 i (n + 1) (by omega) (Nat.le_refl _)
    have := hG.g2 i (by omega)
    omega
  have k1 : ∀ e ∈ E ++ [(Q (n + 1), T (n + 1), none)], e ∈ E ∨ A (n + 1) ≤ e.2.1 := by
    intro e he
    rcases c e he with q | rfl
    · exact Or.inl q
    · exact Or.inr (by dsimp only; omega)
  have k2 : ∀ e ∈ E ++ [(Q (n + 1), T (n + 1), none)], A (n + 1) ≤ e.1 → A (n + 1) ≤ e.2.1 := by
    intro e he hh
    rcases c e he with q | rfl
    · have := hG.g6 (n + 1) (Nat.le_refl _) e q hh; omega
    · dsimp only; omega
  refine ⟨⟨?_, fun i hi => hG.g2 i (by omega), fun i j h1 h2 => hG.g3 i j h1 (by omega), ?_, ?_, ?_, fun i hi => m0 _ (hG.g8 i (by omega)), ?_⟩, hq2.1, hq2.2.1, fun i hi => ⟨(hA i hi).1, (hA i hi).2.1⟩, ?_, ?_, ?_, m0 _ (hG.g8 n (by omega)), fun x => ⟨fun g => ?_, ?_⟩⟩
  · intro e he
    rcases c e he with q | rfl
    · exact hG.g1 e q
    · dsimp only; omega
  · intro i hi e he
    have := hA i hi
    rcases c e he with q | rfl
    · exact hG.g4 i (by omega) e q
    · dsimp only; omega
  · intro i hi e he hh
    have := hA i hi
    rcases c e he with q | rfl
    · exact hG.g6 i (by omega) e q hh
    · dsimp only; omega
  · intro i hi e he hh hh2
    have := hA (i + 1) (by omega)
    rcases c e he with q | rfl
    · exact hG.g7 i (by omega) e q hh hh2
    · dsimp only at hh; omega
  · intro i hi x
    rw [Pt_keep_iff (p := A (n + 1)) (hA i hi).1 m0 k1 k2, Pt_keep_iff (p := A (n + 1)) (hA i hi).2.1 m0 k1 k2]
    exact hG.g9 i (by omega) x
  · intro e he
    rcases c e he with q | rfl
    · exact hG.g4 (n + 1) (Nat.le_refl _) e q
    · dsimp only; omega
  · intro e he hh
    rcases c e he with q | rfl
    · exact hG.g6 (n + 1) (Nat.le_refl _) e q hh
    · dsimp only; omega
  · intro e he hh hh2
    rcases c e he with q | rfl
    · exact hG.g7 n (by omega) e q hh hh2
    · dsimp only at hh; omega
  · refine Pt_up (V := fun u x => Pt E u (T (n + 1)) x ∨ Pt E u (Q (n + 1)) x) (Or.inl (Pt_nil _)) ?_ ?_ g |> fun z => z.imp (hG.g9 (n + 1) (Nat.le_refl _) x).1.mp (hG.g9 (n + 1) (Nat.le_refl _) x).2.mp
    · intro u m x he hm
      rcases c _ he with q | q
      · exact hm.imp (Pt_eps q) (Pt_eps q)
      · cases q
        rcases hm with z | z
        · obtain ⟨-, rfl⟩ := Pt_sink (hG.g4 (n + 1) (Nat.le_refl _)) z
          exact Or.inr (Pt_nil _)
        · obtain ⟨z1, -⟩ := Pt_sink (hG.g4 (n + 1) (Nat.le_refl _)) z
          omega
    · intro u m c' f x he hf hm
      rcases c _ he with q | q
      · exact hm.imp (Pt_sgn q hf) (Pt_sgn q hf)
      · cases q
  · rintro (g | g)
    · exact Pt_mono m0 ((hG.g9 (n + 1) (Nat.le_refl _) x).1.mpr g)
    · have := Pt_trans (Pt_mono m0 ((hG.g9 (n + 1) (Nat.le_refl _) x).2.mpr g)) (Pt_eps m1 (Pt_nil _))
      rw [List.append_nil] at this
      exact this
end PATH
