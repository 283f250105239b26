/-! THE LEAST MACHINE in mathematics, as the document tells it; the state between calls; what class and model hold of it -/
def cpl : List Nat → List Nat → Nat
  | a :: x, b :: y => if a = b then cpl x y + 1 else 0
  | _, _ => 0
/-- the beginnings behind those of the term before, in order -/
def begsGo (prev : List Nat) : Dc → List (List Nat)
  | [] => []
  | x :: D => (List.range (x.1.length - cpl prev x.1)).map (fun i => x.1.take (cpl prev x.1 + 1 + i)) ++ begsGo x.1 D
def begs (D : Dc) : List (List Nat) := [] :: begsGo [] D
def mem_b (D : Dc) (b : List Nat) : Dc := D.filter (fun x => b.isPrefixOf x.1)
def minO : List Nat → Nat
  | [] => 0
  | y :: ys => ys.foldl min y
def least (D : Dc) (b : List Nat) : Nat := minO ((mem_b D b).map (fun x => x.2))
def rest (D : Dc) (b : List Nat) : Dc := (mem_b D b).map (fun x => (x.1.drop b.length, x.2 - least D b))
def ded {α : Type} [DecidableEq α] : List α → List α → List α
  | acc, [] => acc
  | acc, x :: l => if x ∈ acc then ded acc l else ded (acc ++ [x]) l
def rsts (D : Dc) : List Dc := ded [] ((begs D).map (rest D))
def stOf (D : Dc) (b : List Nat) : Nat := (rsts D).idxOf (rest D b)
def repr_b (D : Dc) (r : Dc) : List Nat := ((begs D).find? (fun b => decide (rest D b = r))).getD []
def lastO (D : Dc) (b : List Nat) : Option Nat := (D.find? (fun x => decide (x.1 = b))).map (fun x => x.2 - least D b)
def hds (D : Dc) (b : List Nat) : List Nat := ded [] ((mem_b D b).filterMap (fun x => x.1[b.length]?))
def arcsO (D : Dc) (b : List Nat) : List (Nat × Nat × Nat) := (hds D b).map (fun a => (a, stOf D (b ++ [a]), least D (b ++ [a]) - least D b))
/-- least, how many beginnings, the states: last output, rows, arcs -/
abbrev MM : Type := Nat × Nat × List (Option Nat × Nat × List (Nat × Nat × Nat))
def mach (D : Dc) : MM := (least D [], (begs D).length, (rsts D).map (fun r => (lastO D (repr_b D r), r.length, arcsO D (repr_b D r))))
def arcsB (M : MM) (s : Nat) : Nat := ((M.2.2.take s).map (fun x => x.2.2.length)).sum
def lastI (v : Option Nat) : Int64 := match v with
  | some v => lN v
  | none => -1
/-- the Machine object o holds M: arrays o + 1 (firstArc), lastOutput, restRows, arcSign, arcState, arcOutput -/
def isMc (st : ab_S) (o : Nat) (M : MM) : Prop := sJ st o 6 = lN M.1 ∧ sI st o 7 = nI M.2.2.length ∧ sI st o 8 = nI (arcsB M M.2.2.length) ∧ sI st o 9 = nI ((M.2.2.filter (fun x => x.1.isSome)).length) ∧ sI st o 10 = nI M.2.1 ∧ sI st (o + 1) 0 = nI 0 ∧
  (M.1 ≤ 1000000000000 ∧ M.2.1 ≤ 2401 ∧ M.2.2.length ≤ 2401 ∧ arcsB M M.2.2.length ≤ 2400) ∧ ∀ s x, M.2.2[s]? = some x → sJ st (o + 2) s = lastI x.1 ∧ (∀ v, x.1 = some v → v ≤ 1000000000000) ∧ sI st (o + 3) s = nI x.2.1 ∧ x.2.1 ≤ 200 ∧ sI st (o + 1) s = nI (arcsB M s) ∧ sI st (o + 1) (s + 1) = nI (arcsB M (s + 1)) ∧
    ∀ j y, x.2.2[j]? = some y → sI st (o + 4) (arcsB M s + j) = nI y.1 ∧ y.1 < 256 ∧ sI st (o + 5) (arcsB M s + j) = nI y.2.1 ∧ y.2.1 < M.2.2.length ∧ sJ st (o + 6) (arcsB M s + j) = lN y.2.2 ∧ y.2.2 ≤ 1000000000000
/-- an object is as it was, its references too -/
def eqA (st st' : ab_S) (o : Nat) : Prop := sI st' o = sI st o ∧ sJ st' o = sJ st o ∧ sR st' o = sR st o
theorem eqA_rfl {st : ab_S} {o : Nat} : eqA st st o := ⟨rfl, rfl, rfl⟩
theorem eqA_trans {st st' st2 : ab_S} {o : Nat} (h : eqA st st' o) (h2 : eqA st' st2 o) : eqA st st2 o := ⟨h2.1.trans h.1, h2.2.1.trans h.2.1, h2.2.2.trans h.2.2⟩
theorem eqA_up {W : Nat → Prop} {st st' : ab_S} (h : upto W st st') {o : Nat} (ho : ¬ W o) : eqA st st' o := ⟨(h.2.2 o ho).1, (h.2.2 o ho).2, by rw [h.2.1]⟩
theorem isMc_eq {st st' : ab_S} {o : Nat} {M : MM} (h : isMc st o M) (h0 : eqA st st' o) (h1 : eqA st st' (o + 1)) (h2 : eqA st st' (o + 2)) (h3 : eqA st st' (o + 3)) (h4 : eqA st st' (o + 4)) (h5 : eqA st st' (o + 5)) (h6 : eqA st st' (o + 6)) : isMc st' o M := by
  unfold isMc at h ⊢
  rw [h0.1, h0.2.1, h1.1, h2.2.1, h3.1, h4.1, h5.1, h6.2.1]
  exact h
theorem isTm_eq {st st' : ab_S} {o : Nat} {D : Dc} (h : isTm st o D) (hH : sH st' = sH st) (h0 : eqA st st' o) (h1 : eqA st st' (o + 1)) (h2 : eqA st st' (o + 2)) (h3 : eqA st st' (o + 3)) : isTm st' o D := by
  unfold isTm tmAt at h ⊢
  rw [hH, h0.1, h0.2.2, h1.1, h2.1, h3.2.1]
  exact h
theorem isSg_eq {st st' : ab_S} {o room : Nat} {w : List Nat} (h : isSg st o room w) (hH : sH st' = sH st) (h0 : eqA st st' o) (h1 : eqA st st' (o + 1)) : isSg st' o room w := isSg_mono h hH (by rw [h0.2.2]) ⟨h0.1, h0.2.1⟩ ⟨h1.1, h1.2.1⟩
/-- the state between calls: collected; dictionaries; which are open; ages; walks (dictionary or -1, age, place, back); the row; the fault; what is packed -/
abbrev Sg : Type := List Nat × (Nat → Dc) × (Nat → Bool) × (Nat → Int32) × (Nat → Int32 × Int32 × Int32 × Int32) × List Nat × Int32 × List Nat
def sW (S : Sg) : List Nat := S.1
def sD (S : Sg) : Nat → Dc := S.2.1
def sO (S : Sg) : Nat → Bool := S.2.2.1
def sA (S : Sg) : Nat → Int32 := S.2.2.2.1
def sK (S : Sg) : Nat → Int32 × Int32 × Int32 × Int32 := S.2.2.2.2.1
def sM (S : Sg) : List Nat := S.2.2.2.2.2.1
def sF (S : Sg) : Int32 := S.2.2.2.2.2.2.1
def sP (S : Sg) : List Nat := S.2.2.2.2.2.2.2
def b01 (b : Bool) : Int32 := if b then 1 else 0
def wfS (S : Sg) : Prop := (∀ k, k < 4 → ((sK S k).1 = -1 ∨ ∃ d, d < 4 ∧ (sK S k).1 = nI d) ∧ ((sK S k).2.2.2 = 0 ∨ (sK S k).2.2.2 = 1)) ∧ (∀ d, d < 4 → srt (sD S d)) ∧ (sM S).length ≤ 200 ∧ (∀ t ∈ sM S, t < 200) ∧ (sW S).length ≤ 4000 ∧ (∀ s ∈ sW S, s < 256) ∧ (sP S).length ≤ 43219 ∧ ∀ s ∈ sP S, s < 256
abbrev dO : List Nat := [66, 78, 90, 102, 114]
def ccol (st : ab_S) (w : List Nat) : Prop := ∃ c u, ((c = 62 ∧ u = 64) ∨ (c = 64 ∧ u = 62)) ∧ sR st 2 12 = c ∧ sR st 2 13 = u ∧ isSg st c 4000 w ∧ ∃ w', isSg st u 4000 w'
def dicC (st : ab_S) (o : Nat) (D : Dc) (b : Bool) : Prop := isTm st (o + 1) D ∧ sI st o 2 = b01 b ∧ (b = false → isMc st (o + 5) (mach D))
def cdic (st : ab_S) (DD : Nat → Dc) (op : Nat → Bool) : Prop := ∃ p : Nat → Nat, (∀ i, i ≤ 4 → p i ∈ dO) ∧ (∀ i j, i ≤ 4 → j ≤ 4 → p i = p j → i = j) ∧ (∀ d, d < 4 → sR st 3 d = p d) ∧ sR st 2 14 = p 4 ∧ ∀ d, d < 4 → dicC st (p d) (DD d) (op d)
def cwk (st : ab_S) (K : Nat → Int32 × Int32 × Int32 × Int32) : Prop := ∀ k, k < 4 → sI st (126 + k) 0 = (K k).1 ∧ ((K k).1 ≠ -1 → sI st (126 + k) 1 = (K k).2.1 ∧ sI st (126 + k) 2 = (K k).2.2.1 ∧ sI st (126 + k) 3 = if (K k).2.2.2 = 0 then 1 else -1)
/-- the class's side -/
def CS (L : Nat) (st : ab_S) (S : Sg) : Prop := Fx L st ∧ ccol st (sW S) ∧ cdic st (sD S) (sO S) ∧ (∀ d, d < 4 → sI st 4 d = sA S d) ∧ cwk st (sK S) ∧ (sI st 2 10 = nI (sM S).length ∧ ∀ k t, (sM S)[k]? = some t → sI st 61 k = nI t) ∧ sI st 2 11 = sF S ∧ isSg st 57 43219 (sP S) ∧ ∃ w, isSg st 59 4000 w
/-- the model's side -/
def MS (L : Nat) (st : ab_S) (S : Sg) : Prop := Fx L st ∧ (sI st 130 1 = nI (sW S).length ∧ mRow st (sW S)) ∧ (∀ d, d < 4 → isMd st d (sD S d) ∧ sI st 136 d = b01 (sO S d)) ∧ (∀ d, d < 4 → sI st 137 d = sA S d) ∧ (∀ k, k < 4 → sI st 140 k = (sK S k).1 ∧ ((sK S k).1 ≠ -1 → sI st 141 k = (sK S k).2.1 ∧ sI st 142 k = (sK S k).2.2.1 ∧ sI st 143 k = (sK S k).2.2.2)) ∧
  (sI st 130 9 = nI (sM S).length ∧ ∀ k t, (sM S)[k]? = some t → sI st 138 k = nI t) ∧ sI st 130 10 = sF S ∧ (sI st 130 12 = nI (sP S).length ∧ ∀ k s, (sP S)[k]? = some s → sI st 139 k = by8 s)
/-- only the class's objects changed; only the model's -/
def onC (st st' : ab_S) : Prop := sH st' = sH st ∧ ∀ o, o = 1 ∨ 130 ≤ o → eqA st st' o
def onM (st st' : ab_S) : Prop := sH st' = sH st ∧ ∀ o, o < 130 → eqA st st' o
theorem onC_rfl {st : ab_S} : onC st st := ⟨rfl, fun _ _ => eqA_rfl⟩
theorem onM_rfl {st : ab_S} : onM st st := ⟨rfl, fun _ _ => eqA_rfl⟩
theorem onC_trans {st st' st2 : ab_S} (h : onC st st') (h2 : onC st' st2) : onC st st2 := ⟨h2.1.trans h.1, fun o ho => eqA_trans (h.2 o ho) (h2.2 o ho)⟩
theorem onM_trans {st st' st2 : ab_S} (h : onM st st') (h2 : onM st' st2) : onM st st2 := ⟨h2.1.trans h.1, fun o ho => eqA_trans (h.2 o ho) (h2.2 o ho)⟩
theorem onC_up {W : Nat → Prop} {st st' : ab_S} (h : upto W st st') (hW : ∀ o, W o → o < 130 ∧ o ≠ 1) : onC st st' := ⟨h.1, fun o ho => eqA_up h (fun q => by have := hW o q; omega)⟩
theorem onM_up {W : Nat → Prop} {st st' : ab_S} (h : upto W st st') (hW : ∀ o, W o → 130 ≤ o) : onM st st' := ⟨h.1, fun o ho => eqA_up h (fun q => by have := hW o q; omega)⟩
theorem MS_onC {L : Nat} {st st' : ab_S} {S : Sg} (h : MS L st S) (ho : onC st st') (hF : Fx L st') : MS L st' S := by
  obtain ⟨-, h2, h3, h4, h5, h6, h7, h8⟩ := h
  have e := fun o (q : 130 ≤ o) => ho.2 o (Or.inr q)
  refine ⟨hF, ?_, ?_, ?_, ?_, ?_, ?_, ?_⟩
  · unfold mRow at h2 ⊢; rw [(e 130 (by decide)).1, (e 131 (by decide)).1]; exact h2
  · intro d hd
    have := h3 d hd
    unfold isMd mdAt at this ⊢
    rw [(e 132 (by decide)).1, (e 133 (by decide)).1, (e 134 (by decide)).2.1, (e 135 (by decide)).1, (e 136 (by decide)).1]
    exact this
  · intro d hd; rw [(e 137 (by decide)).1]; exact h4 d hd
  · intro k hk; rw [(e 140 (by decide)).1, (e 141 (by decide)).1, (e 142 (by decide)).1, (e 143 (by decide)).1]; exact h5 k hk
  · rw [(e 130 (by decide)).1, (e 138 (by decide)).1]; exact h6
  · rw [(e 130 (by decide)).1]; exact h7
  · rw [(e 130 (by decide)).1, (e 139 (by decide)).1]; exact h8
theorem dO_lt {o : Nat} (h : o ∈ dO) : o + 11 < 126 ∧ 65 < o := by
  simp [dO] at h
  omega
theorem dicC_eq {st st' : ab_S} {o : Nat} {D : Dc} {b : Bool} (h : dicC st o D b) (hH : sH st' = sH st) (he : ∀ q, o ≤ q → q ≤ o + 11 → eqA st st' q) : dicC st' o D b := by
  obtain ⟨h1, h2, h3⟩ := h
  refine ⟨isTm_eq h1 hH (he _ (by omega) (by omega)) (he _ (by omega) (by omega)) (he _ (by omega) (by omega)) (he _ (by omega) (by omega)), ?_, fun hb => isMc_eq (h3 hb) (he _ (by omega) (by omega)) (he _ (by omega) (by omega)) (he _ (by omega) (by omega)) (he _ (by omega) (by omega)) (he _ (by omega) (by omega)) (he _ (by omega) (by omega)) (he _ (by omega) (by omega))⟩
  rw [(he o (by omega) (by omega)).1]
  exact h2
theorem CS_onM {L : Nat} {st st' : ab_S} {S : Sg} (h : CS L st S) (ho : onM st st') (hF : Fx L st') : CS L st' S := by
  obtain ⟨-, h2, h3, h4, h5, h6, h7, h8, h9⟩ := h
  have e := fun o (q : o < 130) => ho.2 o q
  refine ⟨hF, ?_, ?_, ?_, ?_, ?_, ?_, ?_, ?_⟩
  · obtain ⟨c, u, hcu, g1, g2, g3, w', g4⟩ := h2
    have hc : c + 1 < 130 ∧ u + 1 < 130 := by omega
    exact ⟨c, u, hcu, by rw [(e 2 (by decide)).2.2]; exact g1, by rw [(e 2 (by decide)).2.2]; exact g2, isSg_eq g3 ho.1 (e _ (by omega)) (e _ (by omega)), w', isSg_eq g4 ho.1 (e _ (by omega)) (e _ (by omega))⟩
  · obtain ⟨p, p1, p2, p3, p4, p5⟩ := h3
    refine ⟨p, p1, p2, fun d hd => by rw [(e 3 (by decide)).2.2]; exact p3 d hd, by rw [(e 2 (by decide)).2.2]; exact p4, fun d hd => ?_⟩
    have := dO_lt (p1 d (by omega))
    exact dicC_eq (p5 d hd) ho.1 (fun q _ hq => e q (by omega))
  · intro d hd; rw [(e 4 (by decide)).1]; exact h4 d hd
  · intro k hk; rw [(e (126 + k) (by omega)).1]; exact h5 k hk
  · rw [(e 2 (by decide)).1, (e 61 (by decide)).1]; exact h6
  · rw [(e 2 (by decide)).1]; exact h7
  · exact isSg_eq h8 ho.1 (e _ (by decide)) (e _ (by decide))
  · obtain ⟨w, hw⟩ := h9
    exact ⟨w, isSg_eq hw ho.1 (e _ (by decide)) (e _ (by decide))⟩
