/-! JOIN: the merge in mathematics -/
def jm (how : Nat) : Nat → Dc → Dc → Dc
  | 0, _, _ => []
  | _ + 1, [], [] => []
  | n + 1, [], y :: B => (if how = 0 ∨ how = 3 then [y] else []) ++ jm how n [] B
  | n + 1, x :: A, [] => (if how = 1 then [] else [x]) ++ jm how n A []
  | n + 1, x :: A, y :: B => if lcmp x.1 y.1 = 0 then (if how = 0 then [(x.1, min x.2 y.2)] else if how = 1 then [(x.1, x.2 + y.2)] else []) ++ jm how n A B
    else if lcmp x.1 y.1 = -1 then (if how = 1 then [] else [x]) ++ jm how n A (y :: B)
    else (if how = 0 ∨ how = 3 then [y] else []) ++ jm how n (x :: A) B
def joinD (how : Nat) (A B : Dc) : Dc := jm how (A.length + B.length) A B
/-- what the next step takes in, and whether it goes on in A, in B -/
def jord : Dc → Dc → Int32
  | [], _ => 1
  | _ :: _, [] => -1
  | x :: _, y :: _ => lcmp x.1 y.1
def jitem (how : Nat) : Dc → Dc → Dc
  | [], [] => []
  | [], y :: _ => if how = 0 ∨ how = 3 then [y] else []
  | x :: _, [] => if how = 1 then [] else [x]
  | x :: _, y :: _ => if lcmp x.1 y.1 = 0 then (if how = 0 then [(x.1, min x.2 y.2)] else if how = 1 then [(x.1, x.2 + y.2)] else [])
    else if lcmp x.1 y.1 = -1 then (if how = 1 then [] else [x]) else (if how = 0 ∨ how = 3 then [y] else [])
def jA (A B : Dc) : Nat := if jord A B = 1 then 0 else 1
def jB (A B : Dc) : Nat := if jord A B = -1 then 0 else 1
section JE
variable {how n : Nat} {x y : List Nat × Nat} {A B : Dc}
theorem ji_ny : jitem how [] (y :: B) = if how = 0 ∨ how = 3 then [y] else [] := rfl
theorem ji_xn : jitem how (x :: A) [] = if how = 1 then [] else [x] := rfl
theorem ji_xy : jitem how (x :: A) (y :: B) = if lcmp x.1 y.1 = 0 then (if how = 0 then [(x.1, min x.2 y.2)] else if how = 1 then [(x.1, x.2 + y.2)] else []) else if lcmp x.1 y.1 = -1 then (if how = 1 then [] else [x]) else (if how = 0 ∨ how = 3 then [y] else []) := rfl
theorem jm_xy : jm how (n + 1) (x :: A) (y :: B) = if lcmp x.1 y.1 = 0 then (if how = 0 then [(x.1, min x.2 y.2)] else if how = 1 then [(x.1, x.2 + y.2)] else []) ++ jm how n A B else if lcmp x.1 y.1 = -1 then (if how = 1 then [] else [x]) ++ jm how n A (y :: B) else (if how = 0 ∨ how = 3 then [y] else []) ++ jm how n (x :: A) B := rfl
theorem jo_xy : jord (x :: A) (y :: B) = lcmp x.1 y.1 := rfl
end JE
theorem jm_step {how n : Nat} : ∀ {A B : Dc}, (A ≠ [] ∨ B ≠ []) → jm how (n + 1) A B = jitem how A B ++ jm how n (A.drop (jA A B)) (B.drop (jB A B))
  | [], [], h => by simp at h
  | [], y :: B, _ => rfl
  | x :: A, [], _ => by unfold jA jB jord; simp [jm, jitem]
  | x :: A, y :: B, _ => by
    unfold jA jB
    rw [jm_xy, ji_xy, jo_xy]
    rcases lcmp_tri x.1 y.1 with h | h | h
    · simp [h]
    · simp [h]
    · simp [h]
theorem jord_tri (A B : Dc) : jord A B = -1 ∨ jord A B = 0 ∨ jord A B = 1 := by
  cases A with
  | nil => simp [jord]
  | cons x A => cases B with
    | nil => simp [jord]
    | cons y B => exact lcmp_tri _ _
theorem jm_nil {how n : Nat} : jm how n [] [] = [] := by cases n <;> rfl
/-- enough fuel is enough -/
theorem jm_fuel {how : Nat} : ∀ {n m : Nat} {A B : Dc}, A.length + B.length ≤ n → A.length + B.length ≤ m → jm how n A B = jm how m A B
  | 0, m, A, B, h, _ => by
    have h1 : A = [] := List.eq_nil_of_length_eq_zero (by omega)
    have h2 : B = [] := List.eq_nil_of_length_eq_zero (by omega)
    subst h1 h2
    rw [jm_nil, jm_nil]
  | n + 1, 0, A, B, _, h => by
    have h1 : A = [] := List.eq_nil_of_length_eq_zero (by omega)
    have h2 : B = [] := List.eq_nil_of_length_eq_zero (by omega)
    subst h1 h2
    rw [jm_nil, jm_nil]
  | n + 1, m + 1, A, B, h1, h2 => by
    by_cases hne : A ≠ [] ∨ B ≠ []
    · rw [jm_step hne, jm_step hne]
      congr 1
      have hl : (A.drop (jA A B)).length + (B.drop (jB A B)).length + 1 ≤ A.length + B.length := by
        have a1 : A ≠ [] → 0 < A.length := fun q => List.length_pos_iff.mpr q
        have b1 : B ≠ [] → 0 < B.length := fun q => List.length_pos_iff.mpr q
        rw [List.length_drop, List.length_drop]
        cases A with
        | nil =>
          have := b1 (by simpa using hne)
          simp [jA, jB, jord]
          omega
        | cons x A => cases B with
          | nil => simp [jA, jB, jord]
          | cons y B =>
            unfold jA jB
            rcases jord_tri (x :: A) (y :: B) with h | h | h <;> rw [h] <;> simp <;> omega
      exact jm_fuel (by omega) (by omega)
    · simp at hne
      rw [hne.1, hne.2, jm_nil, jm_nil]
/-- all of D is above w -/
def abv (w : List Nat) (D : Dc) : Prop := ∀ x ∈ D, lcmp w x.1 = -1
theorem abv_drop {w : List Nat} {D : Dc} {k : Nat} (h : abv w D) : abv w (D.drop k) := fun x hx => h x (List.mem_of_mem_drop hx)
theorem jitem_abv {how : Nat} {w : List Nat} : ∀ {A B : Dc}, abv w A → abv w B → abv w (jitem how A B)
  | [], [], _, _ => by simp [jitem, abv]
  | [], y :: B, _, hB => by
    have := hB y (List.mem_cons_self ..)
    rw [ji_ny]
    split
    · simpa [abv] using this
    · simp [abv]
  | x :: A, [], hA, _ => by
    have := hA x (List.mem_cons_self ..)
    rw [ji_xn]
    split
    · simp [abv]
    · simpa [abv] using this
  | x :: A, y :: B, hA, hB => by
    have h1 := hA x (List.mem_cons_self ..)
    have h2 := hB y (List.mem_cons_self ..)
    rw [ji_xy]
    split
    · split
      · simpa [abv] using h1
      · split
        · simpa [abv] using h1
        · simp [abv]
    · split
      · split
        · simp [abv]
        · simpa [abv] using h1
      · split
        · simpa [abv] using h2
        · simp [abv]
theorem jm_abv {how : Nat} {w : List Nat} : ∀ {n : Nat} {A B : Dc}, abv w A → abv w B → abv w (jm how n A B)
  | 0, _, _, _, _ => by simp [jm, abv]
  | n + 1, A, B, hA, hB => by
    by_cases hne : A ≠ [] ∨ B ≠ []
    · rw [jm_step hne]
      intro x hx
      rcases List.mem_append.mp hx with h | h
      · exact jitem_abv hA hB x h
      · exact jm_abv (abv_drop hA) (abv_drop hB) x h
    · simp at hne
      rw [hne.1, hne.2, jm_nil]; simp [abv]
theorem srt_cons {x : List Nat × Nat} {D : Dc} : srt (x :: D) ↔ abv x.1 D ∧ srt D := by
  constructor
  · intro h
    refine ⟨fun y hy => ?_, srt_tail h⟩
    obtain ⟨i, hi⟩ := List.mem_iff_getElem?.mp hy
    exact h 0 (i + 1) x y rfl (by simpa using hi) (by omega)
  · rintro ⟨h1, h2⟩ i j a b ha hb hij
    match i, j, ha, hb with
    | 0, 0, _, _ => omega
    | 0, j + 1, ha, hb =>
      cases ha
      exact h1 b (List.mem_of_getElem? (i := j) (by simpa using hb))
    | i + 1, 0, _, _ => omega
    | i + 1, j + 1, ha, hb => exact h2 i j a b (by simpa using ha) (by simpa using hb) (by omega)
theorem srt_drop {D : Dc} {k : Nat} (h : srt D) : srt (D.drop k) := by
  intro i j x y hx hy hij
  rw [List.getElem?_drop] at hx hy
  exact h (k + i) (k + j) x y hx hy (by omega)
theorem jitem_srt {how : Nat} : ∀ {n : Nat} {A B : Dc}, srt A → srt B → (A ≠ [] ∨ B ≠ []) → (∀ r ∈ jitem how A B, abv r.1 (jm how n (A.drop (jA A B)) (B.drop (jB A B)))) ∧ (jitem how A B).length ≤ 1 := by
  intro n A B hA hB hne
  cases A with
  | nil => cases B with
    | nil => simp at hne
    | cons y B =>
      have hb := (srt_cons.mp hB).1
      refine ⟨fun r hr => ?_, by rw [ji_ny]; split <;> simp⟩
      rw [ji_ny] at hr
      split at hr
      · cases List.mem_singleton.mp hr
        exact jm_abv (by simp [abv]) hb
      · simp at hr
  | cons x A => cases B with
    | nil =>
      have ha := (srt_cons.mp hA).1
      refine ⟨fun r hr => ?_, by rw [ji_xn]; split <;> simp⟩
      rw [ji_xn] at hr
      split at hr
      · simp at hr
      · cases List.mem_singleton.mp hr
        exact jm_abv (by simpa [jA, jord] using ha) (by simp [abv])
    | cons y B =>
      have ha := (srt_cons.mp hA).1
      have hb := (srt_cons.mp hB).1
      rcases lcmp_tri x.1 y.1 with h | h | h
      · have hord : jord (x :: A) (y :: B) = -1 := h
        have hit : jitem how (x :: A) (y :: B) = if how = 1 then [] else [x] := by rw [ji_xy]; simp [h]
        rw [hit]
        refine ⟨fun r hr => ?_, by split <;> simp⟩
        split at hr
        · simp at hr
        · cases List.mem_singleton.mp hr
          refine jm_abv ?_ ?_
          · simpa [jA, hord] using ha
          · simp only [jB, hord, if_true]
            intro z hz
            rcases List.mem_cons.mp hz with rfl | hz
            · exact h
            · exact lcmp_trans h (hb z hz)
      · have hord : jord (x :: A) (y :: B) = 0 := h
        have hxy := lcmp_eq0.mp h
        have hit : jitem how (x :: A) (y :: B) = if how = 0 then [(x.1, min x.2 y.2)] else if how = 1 then [(x.1, x.2 + y.2)] else [] := by rw [ji_xy]; simp [h]
        have hab : abv x.1 (jm how n ((x :: A).drop (jA (x :: A) (y :: B))) ((y :: B).drop (jB (x :: A) (y :: B)))) := by
          refine jm_abv ?_ ?_
          · simpa [jA, hord] using ha
          · rw [hxy]; simpa [jB, hord] using hb
        rw [hit]
        refine ⟨fun r hr => ?_, by split <;> (try split) <;> simp⟩
        split at hr
        · cases List.mem_singleton.mp hr; exact hab
        · split at hr
          · cases List.mem_singleton.mp hr; exact hab
          · simp at hr
      · have hord : jord (x :: A) (y :: B) = 1 := h
        have h' : lcmp y.1 x.1 = -1 := lcmp_swap.mpr h
        have hit : jitem how (x :: A) (y :: B) = if how = 0 ∨ how = 3 then [y] else [] := by rw [ji_xy]; simp [h]
        rw [hit]
        refine ⟨fun r hr => ?_, by split <;> simp⟩
        split at hr
        · cases List.mem_singleton.mp hr
          refine jm_abv ?_ ?_
          · simp only [jA, hord, if_true]
            intro z hz
            rcases List.mem_cons.mp hz with rfl | hz
            · exact h'
            · exact lcmp_trans h' (ha z hz)
          · simpa [jB, hord] using hb
        · simp at hr
theorem jm_srt {how : Nat} : ∀ {n : Nat} {A B : Dc}, srt A → srt B → srt (jm how n A B)
  | 0, _, _, _, _ => srt_nil
  | n + 1, A, B, hA, hB => by
    by_cases hne : A ≠ [] ∨ B ≠ []
    · obtain ⟨h1, h2⟩ := jitem_srt (how := how) (n := n) hA hB hne
      rw [jm_step hne]
      have h3 := jm_srt (how := how) (n := n) (srt_drop (k := jA A B) hA) (srt_drop (k := jB A B) hB)
      match hj : jitem how A B, h1, h2 with
      | [], _, _ => simpa using h3
      | [r], h1, _ => exact srt_cons.mpr ⟨h1 r (List.mem_cons_self ..), h3⟩
      | r :: s :: t, _, h2 => simp at h2
    · simp at hne
      rw [hne.1, hne.2, jm_nil]; exact srt_nil
theorem joinD_srt {how : Nat} {A B : Dc} (hA : srt A) (hB : srt B) : srt (joinD how A B) := jm_srt hA hB
/-- how = 1 makes no more than A has; else no out grows -/
theorem jm_len1 : ∀ {n : Nat} {A B : Dc}, (jm 1 n A B).length ≤ A.length
  | 0, _, _ => by simp [jm]
  | n + 1, [], [] => by simp [jm]
  | n + 1, [], y :: B => by
    have := jm_len1 (n := n) (A := []) (B := B)
    simpa [jm] using this
  | n + 1, x :: A, [] => by
    have := jm_len1 (n := n) (A := A) (B := [])
    simp [jm] at this ⊢
    omega
  | n + 1, x :: A, y :: B => by
    have h1 := jm_len1 (n := n) (A := A) (B := B)
    have h2 := jm_len1 (n := n) (A := A) (B := y :: B)
    have h3 := jm_len1 (n := n) (A := x :: A) (B := B)
    rw [jm_xy]
    split
    · simp; omega
    · split
      · simp; omega
      · simpa using h3
theorem jitem_out {how N : Nat} (h1 : how ≠ 1) : ∀ {A B : Dc}, (∀ x ∈ A, x.2 ≤ N) → (∀ y ∈ B, y.2 ≤ N) → ∀ r ∈ jitem how A B, r.2 ≤ N
  | [], [], _, _, r, hr => by simp [jitem] at hr
  | [], y :: B, _, hB, r, hr => by
    rw [ji_ny] at hr
    split at hr
    · cases List.mem_singleton.mp hr; exact hB _ (List.mem_cons_self ..)
    · simp at hr
  | x :: A, [], hA, _, r, hr => by
    rw [ji_xn] at hr
    split at hr
    · simp at hr
    · cases List.mem_singleton.mp hr; exact hA _ (List.mem_cons_self ..)
  | x :: A, y :: B, hA, hB, r, hr => by
    have q1 := hA _ (List.mem_cons_self ..)
    have q2 := hB _ (List.mem_cons_self ..)
    rw [ji_xy] at hr
    split at hr
    · split at hr
      · cases List.mem_singleton.mp hr
        show min x.2 y.2 ≤ N
        omega
      · simp [h1] at hr
    · split at hr
      · cases List.mem_singleton.mp hr; exact q1
      · split at hr
        · cases List.mem_singleton.mp hr; exact q2
        · simp at hr
theorem jm_out {how N : Nat} (h1 : how ≠ 1) : ∀ {n : Nat} {A B : Dc}, (∀ x ∈ A, x.2 ≤ N) → (∀ y ∈ B, y.2 ≤ N) → ∀ r ∈ jm how n A B, r.2 ≤ N
  | 0, _, _, _, _, r, hr => by simp [jm] at hr
  | n + 1, A, B, hA, hB, r, hr => by
    by_cases hne : A ≠ [] ∨ B ≠ []
    · rw [jm_step hne] at hr
      rcases List.mem_append.mp hr with h | h
      · exact jitem_out h1 hA hB r h
      · exact jm_out h1 (fun x hx => hA x (List.mem_of_mem_drop hx)) (fun x hx => hB x (List.mem_of_mem_drop hx)) r h
    · simp at hne
      rw [hne.1, hne.2, jm_nil] at hr; simp at hr
