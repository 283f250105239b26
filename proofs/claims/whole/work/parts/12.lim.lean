/-! THE LIMIT: what a method answers, with any number of labels passed; its own equation (lm_eq), by which all is reckoned later -/
def pt_K (G : ab_K → Option ab_R) : Prop := ∀ K r, G K = some r → (∀ K', G K' = some r) ∨ ∃ pc ls stk st, K pc ls stk st = some r ∧ ∀ K' : ab_K, K' pc ls stk st = some r → G K' = some r
def pt_F (G : ab_F → Option ab_R) : Prop := ∀ K r, G K = some r → (∀ K', G K' = some r) ∨ ∃ pc ls stk st, K pc ls stk st = some r ∧ ∀ K' : ab_F, K' pc ls stk st = some r → G K' = some r
/-- a callee goes on at one place -/
def ab_one (f : ab_G) : Prop := ∀ as st k r, f as st k = some r → ∃ rs st', k rs st' = some r ∧ ∀ k' : List Value → ab_S → Option ab_R, k' rs st' = some r → f as st k' = some r
theorem pk_one {pc : Nat} {ls : ab_L} {stk : List Value} {st : ab_S} : pt_K (fun K => K pc ls stk st) := fun _ _ h => Or.inr ⟨_, _, _, _, h, fun _ h => h⟩
theorem pk_c {v : Option ab_R} : pt_K (fun _ => v) := fun _ _ h => Or.inl (fun _ => h)
theorem pk_ite {c : Prop} [Decidable c] {A B : ab_K → Option ab_R} (ha : pt_K A) (hb : pt_K B) : pt_K (fun K => if c then A K else B K) := by
  by_cases h : c
  · simpa [h] using ha
  · simpa [h] using hb
theorem pk_bind {α : Type} {o : Option α} {A : ab_K → α → Option ab_R} (h : ∀ x, pt_K (fun K => A K x)) : pt_K (fun K => o.bind (A K)) := by
  cases o with
  | none => exact pk_c
  | some x => exact h x
theorem pk_i {stk : List Value} {A : ab_K → Int32 → List Value → Option ab_R} (h : ∀ x r, pt_K (fun K => A K x r)) : pt_K (fun K => tk_i stk (A K)) := by
  unfold tk_i; split <;> first | exact h _ _ | exact pk_c
theorem pk_l {stk : List Value} {A : ab_K → Int64 → List Value → Option ab_R} (h : ∀ x r, pt_K (fun K => A K x r)) : pt_K (fun K => tk_l stk (A K)) := by
  unfold tk_l; split <;> first | exact h _ _ | exact pk_c
theorem pk_r {stk : List Value} {A : ab_K → Nat → List Value → Option ab_R} (h : ∀ x r, pt_K (fun K => A K x r)) : pt_K (fun K => tk_r stk (A K)) := by
  unfold tk_r; split <;> first | exact h _ _ | exact pk_c
theorem pk_ii {stk : List Value} {A : ab_K → Int32 → Int32 → List Value → Option ab_R} (h : ∀ x y r, pt_K (fun K => A K x y r)) : pt_K (fun K => tk_ii stk (A K)) := by
  unfold tk_ii; split <;> first | exact h _ _ _ | exact pk_c
theorem pk_ll {stk : List Value} {A : ab_K → Int64 → Int64 → List Value → Option ab_R} (h : ∀ x y r, pt_K (fun K => A K x y r)) : pt_K (fun K => tk_ll stk (A K)) := by
  unfold tk_ll; split <;> first | exact h _ _ _ | exact pk_c
theorem pk_li {stk : List Value} {A : ab_K → Int64 → Int32 → List Value → Option ab_R} (h : ∀ x y r, pt_K (fun K => A K x y r)) : pt_K (fun K => tk_li stk (A K)) := by
  unfold tk_li; split <;> first | exact h _ _ _ | exact pk_c
theorem pk_ri {stk : List Value} {A : ab_K → Nat → Int32 → List Value → Option ab_R} (h : ∀ x y r, pt_K (fun K => A K x y r)) : pt_K (fun K => tk_ri stk (A K)) := by
  unfold tk_ri; split <;> first | exact h _ _ _ | exact pk_c
theorem pk_rl {stk : List Value} {A : ab_K → Nat → Int64 → List Value → Option ab_R} (h : ∀ x y r, pt_K (fun K => A K x y r)) : pt_K (fun K => tk_rl stk (A K)) := by
  unfold tk_rl; split <;> first | exact h _ _ _ | exact pk_c
theorem pk_rr {stk : List Value} {A : ab_K → Nat → Nat → List Value → Option ab_R} (h : ∀ x y r, pt_K (fun K => A K x y r)) : pt_K (fun K => tk_rr stk (A K)) := by
  unfold tk_rr; split <;> first | exact h _ _ _ | exact pk_c
theorem pk_rii {stk : List Value} {A : ab_K → Nat → Int32 → Int32 → List Value → Option ab_R} (h : ∀ x y z r, pt_K (fun K => A K x y z r)) : pt_K (fun K => tk_rii stk (A K)) := by
  unfold tk_rii; split <;> first | exact h _ _ _ _ | exact pk_c
theorem pk_ril {stk : List Value} {A : ab_K → Nat → Int32 → Int64 → List Value → Option ab_R} (h : ∀ x y z r, pt_K (fun K => A K x y z r)) : pt_K (fun K => tk_ril stk (A K)) := by
  unfold tk_ril; split <;> first | exact h _ _ _ _ | exact pk_c
theorem pk_rir {stk : List Value} {A : ab_K → Nat → Int32 → Nat → List Value → Option ab_R} (h : ∀ x y z r, pt_K (fun K => A K x y z r)) : pt_K (fun K => tk_rir stk (A K)) := by
  unfold tk_rir; split <;> first | exact h _ _ _ _ | exact pk_c
theorem pk_di {ls : ab_L} {i : Nat} {A : ab_K → Int32 → Option ab_R} (h : ∀ x, pt_K (fun K => A K x)) : pt_K (fun K => ld_i ls i (A K)) := by
  unfold ld_i; split <;> first | exact h _ | exact pk_c
theorem pk_dl {ls : ab_L} {i : Nat} {A : ab_K → Int64 → Option ab_R} (h : ∀ x, pt_K (fun K => A K x)) : pt_K (fun K => ld_l ls i (A K)) := by
  unfold ld_l; split <;> first | exact h _ | exact pk_c
theorem pk_dr {ls : ab_L} {i : Nat} {A : ab_K → Nat → Option ab_R} (h : ∀ x, pt_K (fun K => A K x)) : pt_K (fun K => ld_r ls i (A K)) := by
  unfold ld_r; split <;> first | exact h _ | exact pk_c
theorem pk_lt2 {i n : Nat} {A : ab_K → Option ab_R} (h : pt_K A) : pt_K (fun K => ab_lt i n (A K)) := by
  unfold ab_lt; split <;> first | exact h | exact pk_c
theorem pk_sw {x : Int32} {A : ab_K → Nat → Option ab_R} {d : Nat} (h : ∀ t, pt_K (fun K => A K t)) : ∀ cs, pt_K (fun K => ab_sw x (A K) d cs)
  | [] => h d
  | q :: r => pk_ite (c := x = q.1) (h q.2) (pk_sw h r)
theorem pk_getf {F : Option (Nat × Nat × Nat)} {o : Nat} {st : ab_S} {A : ab_K → Value → Option ab_R} (h : ∀ x, pt_K (fun K => A K x)) : pt_K (fun K => ab_getf F o st (A K)) := by
  unfold ab_getf; split <;> first | exact pk_bind (fun x => h _) | exact pk_c
theorem pk_putf {F : Option (Nat × Nat × Nat)} {stk : List Value} {st : ab_S} {A : ab_K → List Value → ab_S → Option ab_R} (h : ∀ r t, pt_K (fun K => A K r t)) : pt_K (fun K => ab_putf F stk st (A K)) := by
  unfold ab_putf
  split
  · exact pk_ri (fun o v r => pk_bind (fun t => h r t))
  · exact pk_ri (fun o v r => pk_bind (fun t => h r t))
  · exact pk_rl (fun o v r => pk_bind (fun t => h r t))
  · exact pk_rr (fun o v r => pk_bind (fun t => h r t))
  · exact pk_c
theorem pk_newn {st : ab_S} {n : Int32} {kd : Nat} {A : ab_K → Nat → ab_S → Option ab_R} (h : ∀ o t, pt_K (fun K => A K o t)) : pt_K (fun K => ab_newn st n kd (A K)) := by
  unfold ab_newn; split <;> first | exact pk_bind (fun t => h _ t) | exact pk_c
theorem pk_newo {st : ab_S} {c : Nat} {A : ab_K → Nat → ab_S → Option ab_R} (h : ∀ o t, pt_K (fun K => A K o t)) : pt_K (fun K => ab_newo st c (A K)) := pk_bind (fun t => h _ t)
theorem pk_newm {st : ab_S} {a b : Int32} {A : ab_K → Nat → ab_S → Option ab_R} (h : ∀ o t, pt_K (fun K => A K o t)) : pt_K (fun K => ab_newm st a b (A K)) := pk_bind (fun t => h _ t)
theorem pk_call {C : Option ab_C} {kd : Nat} {stk : List Value} {st : ab_S} {A : ab_K → List Value → List Value → ab_S → Option ab_R} (hC : ∀ q, C = some q → ab_one q.2.2) (h : ∀ rs r t, pt_K (fun K => A K rs r t)) : pt_K (fun K => ab_call C kd stk st (A K)) := by
  unfold ab_call
  split
  · next kd' n f =>
    have h1 : ab_one f := hC _ rfl
    split
    · intro K r hr
      obtain ⟨rs, st', h2, h3⟩ := h1 _ _ _ _ hr
      rcases h rs (stk.drop n) st' K r h2 with h4 | ⟨pc, ls, sk, s2, h4, h5⟩
      · exact Or.inl (fun K' => h3 _ (h4 K'))
      · exact Or.inr ⟨pc, ls, sk, s2, h4, fun K' h6 => h3 _ (h5 K' h6)⟩
    · exact pk_c
  · exact pk_c
theorem ab_look_mem {α : Type} : ∀ {l : List (Nat × α)} {i : Nat} {v : α}, ab_look l i = some v → (i, v) ∈ l
  | [], _, _, h => by cases h
  | q :: r, i, v, h => by
    unfold ab_look at h
    split at h
    · next hq =>
      cases h
      rw [← Nat.eq_of_beq_eq_true hq]
      exact List.mem_cons_self
    · exact List.mem_cons_of_mem _ (ab_look_mem h)
def ab_oneM (M : ab_M) : Prop := ∀ q ∈ mG M, ab_one q.2.2.2
set_option maxHeartbeats 4000000 in
theorem pk_exec {M : ab_M} (hM : ab_oneM M) {pc : Nat} {ls : ab_L} {stk : List Value} {st : ab_S} {ins : Instr} {n : Nat} {x : Value} {t : Nat} : pt_K (fun K => ab_exec M K pc ls stk st ins n x t) := by
  have hC : ∀ i q, ab_look (mG M) i = some q → ab_one q.2.2 := fun i q h => hM _ (ab_look_mem h)
  unfold ab_exec
  split <;> first
    | exact pk_one
    | exact pk_c
    | exact pk_di (fun _ => pk_one)
    | exact pk_dl (fun _ => pk_one)
    | exact pk_dr (fun _ => pk_one)
    | exact pk_lt2 (pk_i (fun _ _ => pk_one))
    | exact pk_lt2 (pk_l (fun _ _ => pk_one))
    | exact pk_lt2 (pk_r (fun _ _ => pk_one))
    | exact pk_i (fun _ _ => pk_one)
    | exact pk_l (fun _ _ => pk_one)
    | exact pk_r (fun _ _ => pk_one)
    | exact pk_ii (fun _ _ _ => pk_one)
    | exact pk_ll (fun _ _ _ => pk_one)
    | exact pk_li (fun _ _ _ => pk_one)
    | exact pk_ri (fun _ _ _ => pk_one)
    | exact pk_ii (fun _ _ _ => pk_ite pk_one pk_one)
    | exact pk_ii (fun _ _ _ => pk_newm (fun _ _ => pk_one))
    | exact pk_i (fun _ _ => pk_ite pk_one pk_one)
    | exact pk_r (fun _ _ => pk_ite pk_one pk_one)
    | exact pk_r (fun _ _ => pk_getf (fun _ => pk_one))
    | exact pk_putf (fun _ _ => pk_one)
    | exact pk_ri (fun _ _ _ => pk_bind (fun _ => pk_one))
    | exact pk_rii (fun _ _ _ _ => pk_bind (fun _ => pk_one))
    | exact pk_ril (fun _ _ _ _ => pk_bind (fun _ => pk_one))
    | exact pk_rir (fun _ _ _ _ => pk_bind (fun _ => pk_one))
    | exact pk_r (fun _ _ => pk_bind (fun _ => pk_one))
    | exact pk_i (fun _ _ => pk_newn (fun _ _ => pk_one))
    | exact pk_call (fun q h => hC _ q h) (fun _ _ _ => pk_one)
    | (split <;> first | exact pk_newo (fun _ _ => pk_one) | exact pk_one | exact pk_c | exact pk_i (fun _ _ => pk_sw (fun _ => pk_one) _) | exact pk_i (fun _ _ => pk_newn (fun _ _ => pk_one)))
    | exact pk_lt2 (pk_di (fun _ => by split <;> first | exact pk_one | exact pk_c))
theorem pt_walk {M : ab_M} (hM : ab_oneM M) : ∀ (f pc : Nat) (ls : ab_L) (stk : List Value) (st : ab_S), pt_F (fun Lf => ab_walk M Lf f pc ls stk st)
  | 0, _, _, _, _ => fun _ _ h => by cases h
  | f + 1, pc, ls, stk, st => by
    intro Lf r h
    unfold ab_walk at h ⊢
    split at h
    · next ins n x t hl =>
      rcases pk_exec hM _ _ h with h1 | ⟨pc2, ls2, stk2, st2, h1, h2⟩
      · exact Or.inl (fun K' => by simpa using h1 _)
      · unfold ab_jmp at h1
        split at h1
        · next sl hsl =>
          split at h1
          · next vs hvs =>
            refine Or.inr ⟨pc2, vs, stk2, st2, h1, fun K' h3 => ?_⟩
            refine h2 _ ?_
            unfold ab_jmp
            rw [hsl]
            simp only [hvs]
            exact h3
          · cases h1
        · next hsl =>
          rcases pt_walk hM f pc2 ls2 stk2 st2 Lf r h1 with h3 | ⟨a, b, c, d, h3, h4⟩
          · refine Or.inl (fun K' => h2 _ ?_)
            unfold ab_jmp
            rw [hsl]
            exact h3 K'
          · refine Or.inr ⟨a, b, c, d, h3, fun K' h5 => h2 _ ?_⟩
            unfold ab_jmp
            rw [hsl]
            exact h4 K' h5
    · cases h
theorem pt_from {M : ab_M} (hM : ab_oneM M) (pc : Nat) (vs stk : List Value) (st : ab_S) : pt_F (fun Lf => ab_from M Lf pc vs stk st) := by
  unfold ab_from
  split
  · split
    · exact pt_walk hM _ _ _ _ _
    · intro _ _ h; cases h
  · intro _ _ h; cases h
theorem pt_mono {G : ab_F → Option ab_R} (h : pt_F G) {A B : ab_F} (hAB : ∀ pc vs stk st r, A pc vs stk st = some r → B pc vs stk st = some r) {r : ab_R} (hA : G A = some r) : G B = some r := by
  rcases h A r hA with h1 | ⟨a, b, c, d, h1, h2⟩
  · exact h1 B
  · exact h2 B (hAB _ _ _ _ _ h1)
theorem run_up {M : ab_M} (hM : ab_oneM M) : ∀ (f pc : Nat) (vs stk : List Value) (st : ab_S) (r : ab_R), ab_run M f pc vs stk st = some r → ab_run M (f + 1) pc vs stk st = some r
  | 0, _, _, _, _, _, h => by cases h
  | f + 1, pc, vs, stk, st, r, h => pt_mono (pt_from hM pc vs stk st) (run_up hM f) h
theorem run_le {M : ab_M} (hM : ab_oneM M) {f g : Nat} (h : f ≤ g) {pc : Nat} {vs stk : List Value} {st : ab_S} {r : ab_R} (hr : ab_run M f pc vs stk st = some r) : ab_run M g pc vs stk st = some r := by
  induction h with
  | refl => exact hr
  | step _ ih => exact run_up hM _ _ _ _ _ _ ih
noncomputable def ab_lim (M : ab_M) : ab_F := fun pc vs stk st => @dite _ (∃ q : Nat × ab_R, ab_run M q.1 pc vs stk st = some q.2) (Classical.propDecidable _) (fun h => some h.choose.2) (fun _ => none)
theorem lm_iff {M : ab_M} (hM : ab_oneM M) {pc : Nat} {vs stk : List Value} {st : ab_S} {r : ab_R} : ab_lim M pc vs stk st = some r ↔ ∃ f, ab_run M f pc vs stk st = some r := by
  unfold ab_lim
  by_cases h : ∃ q : Nat × ab_R, ab_run M q.1 pc vs stk st = some q.2
  · rw [dif_pos h]
    have hq := h.choose_spec
    generalize h.choose = q at hq
    constructor
    · intro e
      cases e
      exact ⟨q.1, hq⟩
    · rintro ⟨f, hf⟩
      have h1 := run_le hM (Nat.le_max_left q.1 f) hq
      have h2 := run_le hM (Nat.le_max_right q.1 f) hf
      rw [h1] at h2
      exact h2
  · rw [dif_neg h]
    constructor
    · intro e; cases e
    · rintro ⟨f, hf⟩
      exact absurd ⟨(f, r), hf⟩ h
theorem lm_eq {M : ab_M} (hM : ab_oneM M) (pc : Nat) (vs stk : List Value) (st : ab_S) : ab_lim M pc vs stk st = ab_from M (ab_lim M) pc vs stk st := by
  apply Option.ext
  intro r
  rw [lm_iff hM]
  constructor
  · rintro ⟨f, hf⟩
    cases f with
    | zero => cases hf
    | succ f => exact pt_mono (pt_from hM pc vs stk st) (fun _ _ _ _ _ h => (lm_iff hM).mpr ⟨f, h⟩) hf
  · intro h
    rcases pt_from hM pc vs stk st _ _ h with h1 | ⟨a, b, c, d, h1, h2⟩
    · exact ⟨1, h1 _⟩
    · obtain ⟨f, hf⟩ := (lm_iff hM).mp h1
      exact ⟨f + 1, h2 _ hf⟩
/-! callees -/
theorem one_rv {r0 : Option ab_R} {k : List Value → ab_S → Option ab_R} {r : ab_R} (h : ab_rv r0 (fun t => k [] t) = some r) : ∃ rs st', k rs st' = some r ∧ ∀ k' : List Value → ab_S → Option ab_R, k' rs st' = some r → ab_rv r0 (fun t => k' [] t) = some r := by
  cases r0 with
  | none => cases h
  | some q =>
    obtain ⟨v, t⟩ := q
    cases v with
    | none => exact ⟨[], t, h, fun k' h' => h'⟩
    | some v => cases h
theorem one_ri {r0 : Option ab_R} {k : List Value → ab_S → Option ab_R} {r : ab_R} (h : ab_ri r0 (fun x t => k [.int x] t) = some r) : ∃ rs st', k rs st' = some r ∧ ∀ k' : List Value → ab_S → Option ab_R, k' rs st' = some r → ab_ri r0 (fun x t => k' [.int x] t) = some r := by
  cases r0 with
  | none => cases h
  | some q =>
    obtain ⟨v, t⟩ := q
    cases v with
    | none => cases h
    | some v => cases v <;> first | exact ⟨_, t, h, fun k' h' => h'⟩ | cases h
theorem one_rl {r0 : Option ab_R} {k : List Value → ab_S → Option ab_R} {r : ab_R} (h : ab_rl r0 (fun x t => k [.long x] t) = some r) : ∃ rs st', k rs st' = some r ∧ ∀ k' : List Value → ab_S → Option ab_R, k' rs st' = some r → ab_rl r0 (fun x t => k' [.long x] t) = some r := by
  cases r0 with
  | none => cases h
  | some q =>
    obtain ⟨v, t⟩ := q
    cases v with
    | none => cases h
    | some v => cases v <;> first | exact ⟨_, t, h, fun k' h' => h'⟩ | cases h
theorem one_rr {r0 : Option ab_R} {k : List Value → ab_S → Option ab_R} {r : ab_R} (h : ab_rr r0 (fun x t => k [.ref x] t) = some r) : ∃ rs st', k rs st' = some r ∧ ∀ k' : List Value → ab_S → Option ab_R, k' rs st' = some r → ab_rr r0 (fun x t => k' [.ref x] t) = some r := by
  cases r0 with
  | none => cases h
  | some q =>
    obtain ⟨v, t⟩ := q
    cases v with
    | none => cases h
    | some v => cases v <;> first | exact ⟨_, t, h, fun k' h' => h'⟩ | cases h
theorem o_obj : ab_one g_obj := by
  intro as st k r h
  unfold g_obj at h ⊢
  split at h
  · split at h
    · cases h
    · next ho => exact ⟨_, _, h, fun _ h' => by rw [if_neg ho]; exact h'⟩
  · cases h
theorem o_max : ab_one g_max := by
  intro as st k r h
  unfold g_max at h ⊢
  split at h
  · exact ⟨_, _, h, fun _ h' => h'⟩
  · cases h
theorem o_min : ab_one g_min := by
  intro as st k r h
  unfold g_min at h ⊢
  split at h
  · exact ⟨_, _, h, fun _ h' => h'⟩
  · cases h
theorem o_abs : ab_one g_abs := by
  intro as st k r h
  unfold g_abs at h ⊢
  split at h
  · exact ⟨_, _, h, fun _ h' => h'⟩
  · cases h
theorem o_minl : ab_one g_minl := by
  intro as st k r h
  unfold g_minl at h ⊢
  split at h
  · exact ⟨_, _, h, fun _ h' => h'⟩
  · cases h
