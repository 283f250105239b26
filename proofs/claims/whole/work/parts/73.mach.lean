/-! THE MACHINE: object o, its arrays o + 1 to o + 6 -/
def MO (st : ab_S) (o : Nat) : Prop := ((sH st)[o]? = some (0, 1) ∧ (sH st)[o + 1]? = some (1, 2402) ∧ (sH st)[o + 2]? = some (2, 2401) ∧ (sH st)[o + 3]? = some (1, 2401) ∧ (sH st)[o + 4]? = some (1, 2400) ∧ (sH st)[o + 5]? = some (1, 2400) ∧ (sH st)[o + 6]? = some (2, 2400)) ∧ sR st o 0 = o + 1 ∧ sR st o 1 = o + 2 ∧ sR st o 2 = o + 3 ∧ sR st o 3 = o + 4 ∧ sR st o 4 = o + 5 ∧ sR st o 5 = o + 6
section MA
variable {L : Nat} {st : ab_S} {o : Nat}
theorem MO_of (hF : Fx L st) {d : Nat} (hd : d ∈ dO) : MO st (d + 5) := by
  have h1 : ∀ d, d ∈ dO → ∀ k, k < 6 → (d + 5, k, d + 5 + 1 + k) ∈ fxr := by decide +kernel
  have h2 : ∀ d, d ∈ dO → (S0 L)[d + 5]? = some (0, 1) ∧ (S0 L)[d + 5 + 1]? = some (1, 2402) ∧ (S0 L)[d + 5 + 2]? = some (2, 2401) ∧ (S0 L)[d + 5 + 3]? = some (1, 2401) ∧ (S0 L)[d + 5 + 4]? = some (1, 2400) ∧ (S0 L)[d + 5 + 5]? = some (1, 2400) ∧ (S0 L)[d + 5 + 6]? = some (2, 2400) := by
    intro d hd
    simp only [dO, List.mem_cons, List.not_mem_nil, or_false] at hd
    rcases hd with rfl | rfl | rfl | rfl | rfl <;> exact ⟨rfl, rfl, rfl, rfl, rfl, rfl, rfl⟩
  have h3 := h2 d hd
  rw [← hF.1] at h3
  exact ⟨h3, Fx_rf hF (h1 d hd 0 (by omega)), Fx_rf hF (h1 d hd 1 (by omega)), Fx_rf hF (h1 d hd 2 (by omega)), Fx_rf hF (h1 d hd 3 (by omega)), Fx_rf hF (h1 d hd 4 (by omega)), Fx_rf hF (h1 d hd 5 (by omega))⟩
theorem moI {a k : Nat} {v : Int32} : MO (uI st a k v) o = MO st o := propext Iff.rfl
theorem moJ {a k : Nat} {v : Int64} : MO (uJ st a k v) o = MO st o := propext Iff.rfl
theorem MO_up {W : Nat → Prop} {st' : ab_S} (h : MO st o) (hu : upto W st st') : MO st' o := by
  unfold MO at h ⊢
  rw [hu.1, hu.2.1]
  exact h
theorem mg0 (h : MO st o) : ab_gR st o 1 0 = some (o + 1) := by rw [gR_ok h.1.1, h.2.1]
theorem mg1 (h : MO st o) : ab_gR st o 1 1 = some (o + 2) := by rw [gR_ok h.1.1, h.2.2.1]
theorem mg2 (h : MO st o) : ab_gR st o 1 2 = some (o + 3) := by rw [gR_ok h.1.1, h.2.2.2.1]
theorem mg3 (h : MO st o) : ab_gR st o 1 3 = some (o + 4) := by rw [gR_ok h.1.1, h.2.2.2.2.1]
theorem mg4 (h : MO st o) : ab_gR st o 1 4 = some (o + 5) := by rw [gR_ok h.1.1, h.2.2.2.2.2.1]
theorem mg5 (h : MO st o) : ab_gR st o 1 5 = some (o + 6) := by rw [gR_ok h.1.1, h.2.2.2.2.2.2]
theorem mi (h : MO st o) {k : Nat} : ab_gI st o 1 k = some (sI st o k) := gI_ok h.1.1
theorem mj (h : MO st o) {k : Nat} : ab_gJ st o 1 k = some (sJ st o k) := gJ_ok h.1.1
theorem mp (h : MO st o) {k : Nat} {v : Int32} : ab_pI st o 1 k v = some (uI st o k v) := pI_ok h.1.1
theorem mpj (h : MO st o) {k : Nat} {v : Int64} : ab_pJ st o 1 k v = some (uJ st o k v) := pJ_ok h.1.1
theorem mc (h : MO st o) {r : Option ab_R} : ab_rc st o 1 r = r := rc_ok h.1.1
theorem mw1 (h : MO st o) {n : Nat} (hn : n < 2402) {v : Int32} : ab_wI st (o + 1) (nI n) v = some (uI st (o + 1) n v) := wI_ok h.1.2.1 hn (by omega)
theorem mw2 (h : MO st o) {n : Nat} (hn : n < 2401) {v : Int64} : ab_wJ st (o + 2) (nI n) v = some (uJ st (o + 2) n v) := wJ_ok h.1.2.2.1 hn (by omega)
theorem mw3 (h : MO st o) {n : Nat} (hn : n < 2401) {v : Int32} : ab_wI st (o + 3) (nI n) v = some (uI st (o + 3) n v) := wI_ok h.1.2.2.2.1 hn (by omega)
theorem mw4 (h : MO st o) {n : Nat} (hn : n < 2400) {v : Int32} : ab_wI st (o + 4) (nI n) v = some (uI st (o + 4) n v) := wI_ok h.1.2.2.2.2.1 hn (by omega)
theorem mw5 (h : MO st o) {n : Nat} (hn : n < 2400) {v : Int32} : ab_wI st (o + 5) (nI n) v = some (uI st (o + 5) n v) := wI_ok h.1.2.2.2.2.2.1 hn (by omega)
theorem mw6 (h : MO st o) {n : Nat} (hn : n < 2400) {v : Int64} : ab_wJ st (o + 6) (nI n) v = some (uJ st (o + 6) n v) := wJ_ok h.1.2.2.2.2.2.2 hn (by omega)
theorem mr1 (h : MO st o) {n : Nat} (hn : n < 2402) : ab_rI st (o + 1) (nI n) = some (sI st (o + 1) n) := rI_ok h.1.2.1 hn (by omega)
theorem mr2 (h : MO st o) {n : Nat} (hn : n < 2401) : ab_rJ st (o + 2) (nI n) = some (sJ st (o + 2) n) := rJ_ok h.1.2.2.1 hn (by omega)
theorem mr3 (h : MO st o) {n : Nat} (hn : n < 2401) : ab_rI st (o + 3) (nI n) = some (sI st (o + 3) n) := rI_ok h.1.2.2.2.1 hn (by omega)
theorem mr4 (h : MO st o) {n : Nat} (hn : n < 2400) : ab_rI st (o + 4) (nI n) = some (sI st (o + 4) n) := rI_ok h.1.2.2.2.2.1 hn (by omega)
theorem mr5 (h : MO st o) {n : Nat} (hn : n < 2400) : ab_rI st (o + 5) (nI n) = some (sI st (o + 5) n) := rI_ok h.1.2.2.2.2.2.1 hn (by omega)
theorem mr6 (h : MO st o) {n : Nat} (hn : n < 2400) : ab_rJ st (o + 6) (nI n) = some (sJ st (o + 6) n) := rJ_ok h.1.2.2.2.2.2.2 hn (by omega)
abbrev QS : Type := List (Option Nat × Nat × List (Nat × Nat × Nat))
/-- as isMc, with a bound B of states and V of outputs -/
def mcG (st : ab_S) (o : Nat) (M : MM) (B V : Nat) : Prop := sJ st o 6 = lN M.1 ∧ sI st o 7 = nI M.2.2.length ∧ sI st o 8 = nI (arcsB M M.2.2.length) ∧ sI st o 9 = nI ((M.2.2.filter (fun x => x.1.isSome)).length) ∧ sI st o 10 = nI M.2.1 ∧ sI st (o + 1) 0 = nI 0 ∧
  (M.1 ≤ V ∧ M.2.1 ≤ 2401 ∧ M.2.2.length ≤ 2401 ∧ arcsB M M.2.2.length ≤ 2400) ∧ ∀ s x, M.2.2[s]? = some x → sJ st (o + 2) s = lastI x.1 ∧ (∀ v, x.1 = some v → v ≤ V) ∧ sI st (o + 3) s = nI x.2.1 ∧ x.2.1 ≤ 200 ∧ sI st (o + 1) s = nI (arcsB M s) ∧ sI st (o + 1) (s + 1) = nI (arcsB M (s + 1)) ∧
    ∀ j y, x.2.2[j]? = some y → sI st (o + 4) (arcsB M s + j) = nI y.1 ∧ y.1 < 256 ∧ sI st (o + 5) (arcsB M s + j) = nI y.2.1 ∧ y.2.1 < B ∧ sJ st (o + 6) (arcsB M s + j) = lN y.2.2 ∧ y.2.2 ≤ V
theorem isMc_G {M : MM} : isMc st o M ↔ mcG st o M M.2.2.length 1000000000000 := Iff.rfl
theorem arcsB_snoc {l b : Nat} {Q : QS} {x : Option Nat × Nat × List (Nat × Nat × Nat)} {s : Nat} (h : s ≤ Q.length) : arcsB (l, b, Q ++ [x]) s = arcsB (l, b, Q) s := by
  unfold arcsB
  rw [List.take_append_of_le_length h]
theorem arcsB_last {l b : Nat} {Q : QS} {x : Option Nat × Nat × List (Nat × Nat × Nat)} : arcsB (l, b, Q ++ [x]) (Q.length + 1) = arcsB (l, b, Q) Q.length + x.2.2.length := by
  unfold arcsB
  rw [List.take_of_length_le (by simp), List.take_of_length_le (Nat.le_refl _), List.map_append, List.sum_append]
  simp
theorem arcsB_mono {M : MM} : ∀ {s t : Nat}, s ≤ t → arcsB M s ≤ arcsB M t := by
  intro s t h
  unfold arcsB
  rw [show t = s + (t - s) by omega, List.take_add, List.map_append, List.sum_append]
  exact Nat.le_add_right _ _
theorem arcsB_succ {M : MM} {s : Nat} {x : Option Nat × Nat × List (Nat × Nat × Nat)} (h : M.2.2[s]? = some x) : arcsB M (s + 1) = arcsB M s + x.2.2.length := by
  unfold arcsB
  rw [List.take_succ, h, List.map_append, List.sum_append]
  simp
theorem mclear_ok (h : MO st o) {l b V : Nat} (hl : l ≤ V) (hb : b ≤ 2401) : ∃ st', f_X1_clear o (lN l) (nI b) st = some (none, st') ∧ mcG st' o (l, b, []) 0 V ∧ upto (fun q => o ≤ q ∧ q ≤ o + 6) st st' := by
  refine ⟨uI (uI (uI (uI (uI (uJ st o 6 (lN l)) o 10 (nI b)) o 7 0) o 8 0) o 9 0) (o + 1) 0 0, ?_, ?_, ?_⟩
  · rw [e_X1_clear_0, mc h]
    simp only [mp, mpj, mg0, moI, moJ, h, Option.bind_some]
    show Option.bind (ab_wI _ (o + 1) (nI 0) 0) _ = _
    rw [mw1 (by simpa only [moI, moJ] using h) (by omega)]
    rfl
  · have n1 : ¬ o = o + 1 := by omega
    have n2 : ¬ o + 1 = o := by omega
    refine ⟨?_, ?_, ?_, ?_, ?_, ?_, ⟨hl, hb, by simp, by simp [arcsB]⟩, fun s x hx => by simp at hx⟩
    · simp [J_uI, J_uJ]
    · simp [I_uI, I_uJ, n1]; rfl
    · simp [I_uI, I_uJ, n1, arcsB]; rfl
    · simp [I_uI, I_uJ, n1]; rfl
    · simp [I_uI, I_uJ, n1]
    · simp [I_uI]; rfl
  · exact upto_trans (upto_uJ (by omega)) (upto_trans (upto_uI (by omega)) (upto_trans (upto_uI (by omega)) (upto_trans (upto_uI (by omega)) (upto_trans (upto_uI (by omega)) (upto_uI (by omega))))))
theorem lastI_m1 {v : Option Nat} {V : Nat} (hv : ∀ u, v = some u → u ≤ V) (hV : V < 4611686018427387904) : (lastI v = -1) ↔ v = none := by
  cases v with
  | none => simp [lastI]
  | some u =>
    have := hv u rfl
    constructor
    · intro q
      have hm : (-1 : Int64).toInt = -1 := by decide
      have := congrArg Int64.toInt (show lN u = (-1 : Int64) from q)
      rw [pk_lT (by omega), hm] at this
      omega
    · intro q; cases q
theorem putState_ok (h : MO st o) {l b B V : Nat} {Q : QS} (hV : V < 4611686018427387904) (hM : mcG st o (l, b, Q) B V) (hQ : Q.length < 2401) {v : Option Nat} {r : Nat} (hv : ∀ u, v = some u → u ≤ V) (hr : r ≤ 200) : ∃ st', f_X1_putState o (lastI v) (nI r) st = some (some (.int 1), st') ∧ mcG st' o (l, b, Q ++ [(v, r, [])]) B V ∧ upto (fun q => o ≤ q ∧ q ≤ o + 6) st st' := by
  obtain ⟨m1, m2, m3, m4, m5, m6, ⟨m7, m8, m9, m10⟩, m11⟩ := hM
  have n1 : ¬ o = o + 1 := by omega
  have n2 : ¬ o + 1 = o := by omega
  have n3 : ¬ o + 3 = o := by omega
  have n4 : ¬ o + 3 = o + 1 := by omega
  have n5 : ¬ o = o + 3 := by omega
  have n6 : ¬ o + 1 = o + 3 := by omega
  have n7 : ¬ o + 4 = o := by omega
  have n8 : ¬ o + 5 = o := by omega
  have hq : Q.length < 2402 := by omega
  have hq1 : Q.length + 1 < 2402 := by omega
  have hfl : (Q.filter (fun x => x.1.isSome)).length ≤ Q.length := List.length_filter_le _ _
  have c1 : ¬ ((2401 : Int32) ≤ nI Q.length) := by show ¬ nI 2401 ≤ nI Q.length; rw [c_le (by omega) (by omega)]; omega
  have c2 : nI Q.length < (2401 : Int32) := Int32.not_le.mp c1
  let f := if lastI v = -1 then 0 else 1
  let st' := uI (uI (uI (uI (uJ st (o + 2) Q.length (lastI v)) (o + 3) Q.length (nI r)) o 9 (nI ((Q.filter (fun x => x.1.isSome)).length + f))) o 7 (nI (Q.length + 1))) (o + 1) (Q.length + 1) (nI (arcsB (l, b, Q) Q.length))
  have hA : arcsB (l, b, Q ++ [(v, r, [])]) (Q.length + 1) = arcsB (l, b, Q) Q.length := by rw [arcsB_last]; rfl
  refine ⟨st', ?_, ?_, ?_⟩
  · have hf : ∀ (K : Int32 → Option ab_R), (if lg_cmp (lastI v) (-1) = 0 then K 0 else K 1) = K (nI f) := fun K => by
      by_cases hz : lastI v = -1
      · rw [if_pos (cmp_eq.mpr hz)]; simp [f, hz]; rfl
      · rw [if_neg (fun q => hz (cmp_eq.mp q))]; simp [f, hz]; rfl
    rw [e_X1_putState_0, mc h]
    simp only [mi, mg1, mg2, mw2, mw3, moI, moJ, h, m2, m4, c2, hQ, if_true, Option.bind_some, I_uJ, I_uI, n5, false_and, if_false]
    rw [hf (fun z => L_X1_putState_50 o o (nI (Q.filter (fun x => x.1.isSome)).length) z (uI (uJ st (o + 2) Q.length (lastI v)) (o + 3) Q.length (nI r))), e_X1_putState_50]
    simp only [mi, mp, mg0, mw1, moI, moJ, h, m2, m3, hq1, Option.bind_some, I_uJ, I_uI, n5, false_and, and_false, and_true, true_and, if_false, if_true, z_1, a_add, nI_1, show ¬ (7 : Nat) = 9 by decide, show ¬ (8 : Nat) = 7 by decide, show ¬ (8 : Nat) = 9 by decide]
    rfl
  · have r1 : ∀ k, sI st' (o + 1) k = if k = Q.length + 1 then nI (arcsB (l, b, Q) Q.length) else sI st (o + 1) k := fun k => by simp [st', I_uI, I_uJ, n2, n6]
    have r3 : ∀ k, sI st' (o + 3) k = if k = Q.length then nI r else sI st (o + 3) k := fun k => by simp [st', I_uI, I_uJ, n3, n4]
    have r4 : ∀ k, sI st' (o + 4) k = sI st (o + 4) k := fun k => by simp [st', I_uI, I_uJ, n7]
    have r5 : ∀ k, sI st' (o + 5) k = sI st (o + 5) k := fun k => by simp [st', I_uI, I_uJ, n8]
    have r2 : ∀ k, sJ st' (o + 2) k = if k = Q.length then lastI v else sJ st (o + 2) k := fun k => by simp [st', J_uI, J_uJ]
    have r6 : ∀ k, sJ st' (o + 6) k = sJ st (o + 6) k := fun k => by simp [st', J_uI, J_uJ]
    have r0 : ∀ k, k ≠ 7 → k ≠ 9 → sI st' o k = sI st o k := fun k h1 h2 => by simp [st', I_uI, I_uJ, n1, n5, h1, h2]
    refine ⟨?_, ?_, ?_, ?_, ?_, ?_, ⟨m7, m8, by simp; omega, ?_⟩, fun s x hx => ?_⟩
    · have : sJ st' o 6 = sJ st o 6 := by simp [st', J_uI, J_uJ]
      rw [this]; exact m1
    · have : sI st' o 7 = nI (Q.length + 1) := by simp [st', I_uI, n1]
      rw [this]; simp
    · rw [r0 8 (by decide) (by decide), m3]
      show _ = nI (arcsB (l, b, Q ++ [(v, r, [])]) (Q ++ [(v, r, [])]).length)
      rw [List.length_append, List.length_singleton, hA]
    · have e9 : sI st' o 9 = nI ((Q.filter (fun x => x.1.isSome)).length + f) := by simp [st', I_uI, n1]
      rw [e9]
      show _ = nI (List.filter (fun x : Option Nat × Nat × List (Nat × Nat × Nat) => x.1.isSome) (Q ++ [(v, r, [])])).length
      rw [List.filter_append, List.length_append]
      congr 2
      have := lastI_m1 hv hV
      cases v with
      | none => simp [f, lastI]
      | some u =>
        have hz : ¬ lastI (some u) = -1 := fun q => by have := this.mp q; cases this
        simp [f, hz]
    · rw [r0 10 (by decide) (by decide)]; exact m5
    · rw [r1, if_neg (by omega)]; exact m6
    · show arcsB (l, b, Q ++ [(v, r, [])]) (Q ++ [(v, r, [])]).length ≤ 2400
      rw [List.length_append, List.length_singleton, hA]; exact m10
    · have hsl := (List.getElem?_eq_some_iff.mp hx).1
      change (Q ++ [(v, r, [])])[s]? = some x at hx
      change s < (Q ++ [(v, r, [])]).length at hsl
      rw [List.length_append, List.length_singleton] at hsl
      by_cases hs : s = Q.length
      · subst hs
        rw [List.getElem?_append_right (Nat.le_refl _), Nat.sub_self] at hx
        cases hx
        rw [r2, if_pos rfl, r3, if_pos rfl, r1, if_neg (by omega), r1, if_pos rfl, hA, arcsB_snoc (Nat.le_refl _)]
        refine ⟨rfl, hv, rfl, hr, ?_, rfl, fun j y hy => by simp at hy⟩
        cases hQc : Q.length with
        | zero => rw [m6]; simp [arcsB]
        | succ s' =>
          have hg : Q[s']? = some Q[s'] := List.getElem?_eq_getElem (by omega)
          exact (m11 s' _ hg).2.2.2.2.2.1
      · rw [List.getElem?_append_left (by omega)] at hx
        obtain ⟨g1, g2, g3, g4, g5, g6, g7⟩ := m11 s x hx
        rw [r2, if_neg hs, r3, if_neg hs, r1, if_neg (by omega), r1, if_neg (by omega), arcsB_snoc (by omega), arcsB_snoc (by omega)]
        refine ⟨g1, g2, g3, g4, g5, g6, fun j y hy => ?_⟩
        rw [r4, r5, r6]
        exact g7 j y hy
  · exact upto_trans (upto_uJ (by omega)) (upto_trans (upto_uI (by omega)) (upto_trans (upto_uI (by omega)) (upto_trans (upto_uI (by omega)) (upto_uI (by omega)))))
theorem putArc_ok (h : MO st o) {l b B V : Nat} {Q : QS} {v : Option Nat} {r : Nat} {as : List (Nat × Nat × Nat)} (hM : mcG st o (l, b, Q ++ [(v, r, as)]) B V) (hA : arcsB (l, b, Q ++ [(v, r, as)]) (Q.length + 1) < 2400) {y : Nat × Nat × Nat} (h1 : y.1 < 256) (h2 : y.2.1 < B) (h3 : y.2.2 ≤ V) : ∃ st', f_X1_putArc o (nI y.1) (nI y.2.1) (lN y.2.2) st = some (some (.int 1), st') ∧ mcG st' o (l, b, Q ++ [(v, r, as ++ [y])]) B V ∧ upto (fun q => o ≤ q ∧ q ≤ o + 6) st st' := by
  obtain ⟨m1, m2, m3, m4, m5, m6, ⟨m7, m8, m9, m10⟩, m11⟩ := hM
  simp only [List.length_append, List.length_singleton] at m2 m3 m9 m10
  have n1 : ¬ o = o + 1 := by omega
  have n2 : ¬ o + 1 = o := by omega
  have n3 : ¬ o = o + 4 := by omega
  have n4 : ¬ o = o + 5 := by omega
  have n5 : ¬ o + 1 = o + 4 := by omega
  have n6 : ¬ o + 1 = o + 5 := by omega
  have n7 : ¬ o + 4 = o := by omega
  have n8 : ¬ o + 4 = o + 1 := by omega
  have n9 : ¬ o + 4 = o + 5 := by omega
  have n10 : ¬ o + 5 = o := by omega
  have n11 : ¬ o + 5 = o + 1 := by omega
  have n12 : ¬ o + 5 = o + 4 := by omega
  have n13 : ¬ o + 3 = o := by omega
  have n14 : ¬ o + 3 = o + 1 := by omega
  have n15 : ¬ o + 3 = o + 4 := by omega
  have n16 : ¬ o + 3 = o + 5 := by omega
  have hB0 : arcsB (l, b, Q ++ [(v, r, as)]) (Q.length + 1) = arcsB (l, b, Q) Q.length + as.length := arcsB_last
  have hB1 : arcsB (l, b, Q ++ [(v, r, as ++ [y])]) (Q.length + 1) = arcsB (l, b, Q) Q.length + as.length + 1 := by rw [arcsB_last]; simp; omega
  generalize hT : arcsB (l, b, Q ++ [(v, r, as)]) (Q.length + 1) = T at *
  have c1 : ¬ ((2400 : Int32) ≤ nI T) := by show ¬ nI 2400 ≤ nI T; rw [c_le (by omega) (by omega)]; omega
  have c2 : nI (Q.length + 1) ≤ (2401 : Int32) := by show nI _ ≤ nI 2401; rw [c_le (by omega) (by omega)]; omega
  have hq : Q.length + 1 < 2402 := by omega
  let st' := uI (uI (uJ (uI (uI st (o + 4) T (nI y.1)) (o + 5) T (nI y.2.1)) (o + 6) T (lN y.2.2)) o 8 (nI (T + 1))) (o + 1) (Q.length + 1) (nI (T + 1))
  refine ⟨st', ?_, ?_, ?_⟩
  · rw [e_X1_putArc_0, mc h]
    simp only [mi, mg3, mg4, mg5, mg0, mw4, mw5, mw6, mw1, mp, moI, moJ, h, m2, m3, c1, c2, hA, hq, if_true, if_false, Option.bind_some, I_uJ, I_uI, n3, n4, n1, false_and, and_false, and_true, true_and, nI_1, z_1, show ¬ (7 : Nat) = 8 by decide]
    rfl
  · have r1 : ∀ k, sI st' (o + 1) k = if k = Q.length + 1 then nI (T + 1) else sI st (o + 1) k := fun k => by simp [st', I_uI, I_uJ, n2, n5, n6]
    have r3 : ∀ k, sI st' (o + 3) k = sI st (o + 3) k := fun k => by simp [st', I_uI, I_uJ, n13, n14, n15, n16]
    have r4 : ∀ k, sI st' (o + 4) k = if k = T then nI y.1 else sI st (o + 4) k := fun k => by simp [st', I_uI, I_uJ, n7, n8, n9]
    have r5 : ∀ k, sI st' (o + 5) k = if k = T then nI y.2.1 else sI st (o + 5) k := fun k => by simp [st', I_uI, I_uJ, n10, n11, n12]
    have r2 : ∀ k, sJ st' (o + 2) k = sJ st (o + 2) k := fun k => by simp [st', J_uI, J_uJ]
    have r6 : ∀ k, sJ st' (o + 6) k = if k = T then lN y.2.2 else sJ st (o + 6) k := fun k => by simp [st', J_uI, J_uJ]
    have r0 : ∀ k, k ≠ 8 → sI st' o k = sI st o k := fun k h1 => by simp [st', I_uI, I_uJ, n1, n3, n4, h1]
    have hlen : (Q ++ [(v, r, as ++ [y])]).length = Q.length + 1 := by simp
    refine ⟨?_, ?_, ?_, ?_, ?_, ?_, ⟨m7, m8, by rw [hlen]; exact m9, ?_⟩, fun s x hx => ?_⟩
    · have : sJ st' o 6 = sJ st o 6 := by simp [st', J_uI, J_uJ]
      rw [this]; exact m1
    · rw [r0 7 (by decide), m2, hlen]
    · have : sI st' o 8 = nI (T + 1) := by simp [st', I_uI, n1]
      rw [this, hlen, hB1, hB0]
    · rw [r0 9 (by decide), m4]
      simp [List.filter_append]
      congr 1
      cases v <;> rfl
    · rw [r0 10 (by decide)]; exact m5
    · rw [r1, if_neg (by omega)]; exact m6
    · rw [hlen, hB1]; omega
    · have hsl := (List.getElem?_eq_some_iff.mp hx).1
      change s < (Q ++ [(v, r, as ++ [y])]).length at hsl
      change (Q ++ [(v, r, as ++ [y])])[s]? = some x at hx
      rw [hlen] at hsl
      have eB : ∀ s, s ≤ Q.length → arcsB (l, b, Q ++ [(v, r, as ++ [y])]) s = arcsB (l, b, Q ++ [(v, r, as)]) s := fun s hs => by rw [arcsB_snoc hs, arcsB_snoc hs]
      by_cases hs : s = Q.length
      · subst hs
        rw [List.getElem?_append_right (Nat.le_refl _), Nat.sub_self] at hx
        cases hx
        obtain ⟨g1, g2, g3, g4, g5, g6, g7⟩ := m11 Q.length (v, r, as) (by show (Q ++ [(v, r, as)])[Q.length]? = _; rw [List.getElem?_append_right (Nat.le_refl _), Nat.sub_self]; rfl)
        have hQB : arcsB (l, b, Q ++ [(v, r, as)]) Q.length = arcsB (l, b, Q) Q.length := arcsB_snoc (Nat.le_refl _)
        rw [r2, r3, r1, if_neg (by omega), r1, if_pos rfl, hB1, eB _ (Nat.le_refl _)]
        refine ⟨g1, g2, g3, g4, g5, by rw [hB0], fun j z hz => ?_⟩
        have hjl := (List.getElem?_eq_some_iff.mp hz).1
        change j < (as ++ [y]).length at hjl
        rw [List.length_append, List.length_singleton] at hjl
        change (as ++ [y])[j]? = some z at hz
        by_cases hj : j = as.length
        · subst hj
          rw [List.getElem?_append_right (Nat.le_refl _), Nat.sub_self] at hz
          cases hz
          have : arcsB (l, b, Q ++ [(v, r, as)]) Q.length + as.length = T := by rw [hQB, hB0]
          rw [this, r4, if_pos rfl, r5, if_pos rfl, r6, if_pos rfl]
          exact ⟨rfl, h1, rfl, h2, rfl, h3⟩
        · rw [List.getElem?_append_left (by omega)] at hz
          have : ¬ arcsB (l, b, Q ++ [(v, r, as)]) Q.length + j = T := by rw [hQB, hB0]; omega
          rw [r4, if_neg this, r5, if_neg this, r6, if_neg this]
          exact g7 j z hz
      · rw [List.getElem?_append_left (by omega)] at hx
        have hx' : (Q ++ [(v, r, as)])[s]? = some x := by rw [List.getElem?_append_left (by omega)]; exact hx
        obtain ⟨g1, g2, g3, g4, g5, g6, g7⟩ := m11 s x hx'
        rw [r2, r3, r1, if_neg (by omega), r1, if_neg (by omega), eB s (by omega), eB (s + 1) (by omega)]
        refine ⟨g1, g2, g3, g4, g5, g6, fun j z hz => ?_⟩
        have hjl := (List.getElem?_eq_some_iff.mp hz).1
        have hsu : arcsB (l, b, Q ++ [(v, r, as)]) (s + 1) = arcsB (l, b, Q ++ [(v, r, as)]) s + x.2.2.length := arcsB_succ hx'
        have hmo : arcsB (l, b, Q ++ [(v, r, as)]) (s + 1) ≤ arcsB (l, b, Q ++ [(v, r, as)]) (Q.length + 1) := arcsB_mono (by omega)
        rw [hT] at hmo
        have : ¬ arcsB (l, b, Q ++ [(v, r, as)]) s + j = T := by omega
        rw [r4, if_neg this, r5, if_neg this, r6, if_neg this]
        exact g7 j z hz
  · exact upto_trans (upto_uI (by omega)) (upto_trans (upto_uI (by omega)) (upto_trans (upto_uJ (by omega)) (upto_trans (upto_uI (by omega)) (upto_uI (by omega)))))
end MA
