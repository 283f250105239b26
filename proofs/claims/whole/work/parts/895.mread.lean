/-! THE MODEL READS PACKED SIGNS: fields 33 at, 34 size, 51 arcs, 52 isWrong; readLast 164, readArc 165, arcSign 166, arcState 167, arcOut 168 -/
def aB (Q : QS) (s : Nat) : Nat := arcsB (0, 0, Q) s
def UV : Nat := 562949953421311
def r130 (st st' : ab_S) : Prop := upto (fun q => q = 130) st st' ∧ ∀ j, j ≠ 33 → j ≠ 52 → sI st' 130 j = sI st 130 j
def frm (st st' : ab_S) : Prop := upto (fun q => q = 130 ∨ (164 ≤ q ∧ q ≤ 168)) st st' ∧ ∀ j, j ≠ 33 → j ≠ 51 → j ≠ 52 → sI st' 130 j = sI st 130 j
section MRD
variable {L : Nat} {st : ab_S} {w : List Nat}
theorem r130_trans {st' st2 : ab_S} (h : r130 st st') (h2 : r130 st' st2) : r130 st st2 := ⟨upto_trans h.1 h2.1, fun j a b => (h2.2 j a b).trans (h.2 j a b)⟩
theorem frm_trans {st' st2 : ab_S} (h : frm st st') (h2 : frm st' st2) : frm st st2 := ⟨upto_trans h.1 h2.1, fun j a b c => (h2.2 j a b c).trans (h.2 j a b c)⟩
theorem frm_r {st' : ab_S} (h : r130 st st') : frm st st' := ⟨upto_mono h.1 (fun q hq => Or.inl hq), fun j a _ c => h.2 j a c⟩
theorem r130_33 {v : Int32} : r130 st (uI st 130 33 v) := ⟨upto_uI rfl, fun j a _ => by rw [I_uI, if_neg (fun z => a z.2)]⟩
theorem r130_52 {v : Int32} : r130 st (uI st 130 52 v) := ⟨upto_uI rfl, fun j _ a => by rw [I_uI, if_neg (fun z => a z.2)]⟩
theorem n0r (h : FX st) : ab_gR st 130 11 0 = some 131 := h.elim fun _ h => by rw [gR_ok (Fx_sh h rfl), Fx_rf h (v := 131) (by decide)]
theorem n46r (h : FX st) : ab_gR st 130 11 46 = some 164 := h.elim fun _ h => by rw [gR_ok (Fx_sh h rfl), Fx_rf h (v := 164) (by decide)]
theorem n47r (h : FX st) : ab_gR st 130 11 47 = some 165 := h.elim fun _ h => by rw [gR_ok (Fx_sh h rfl), Fx_rf h (v := 165) (by decide)]
theorem n48r (h : FX st) : ab_gR st 130 11 48 = some 166 := h.elim fun _ h => by rw [gR_ok (Fx_sh h rfl), Fx_rf h (v := 166) (by decide)]
theorem n49r (h : FX st) : ab_gR st 130 11 49 = some 167 := h.elim fun _ h => by rw [gR_ok (Fx_sh h rfl), Fx_rf h (v := 167) (by decide)]
theorem n50r (h : FX st) : ab_gR st 130 11 50 = some 168 := h.elim fun _ h => by rw [gR_ok (Fx_sh h rfl), Fx_rf h (v := 168) (by decide)]
theorem pmZ0 (h : FX st) {k : Nat} : ab_pZ st 130 11 k 0 = some (uI st 130 k 0) := h.elim fun _ h => pZ_0 (Fx_sh h rfl)
theorem pmZ1 (h : FX st) {k : Nat} : ab_pZ st 130 11 k 1 = some (uI st 130 k 1) := h.elim fun _ h => pZ_1 (Fx_sh h rfl)
theorem r131 (h : FX st) {n : Nat} (hn : n < 4000) : ab_rB st 131 (nI n) = some (sI st 131 n) := h.elim fun _ h => rB_ok (Fx_sh h (o := 131) rfl) hn (by omega)
theorem r164 (h : FX st) {n : Nat} (hn : n < 2402) : ab_rJ st 164 (nI n) = some (sJ st 164 n) := h.elim fun _ h => rJ_ok (Fx_sh h (o := 164) rfl) hn (by omega)
theorem w164 (h : FX st) {n : Nat} (hn : n < 2402) {v : Int64} : ab_wJ st 164 (nI n) v = some (uJ st 164 n v) := h.elim fun _ h => wJ_ok (Fx_sh h (o := 164) rfl) hn (by omega)
theorem r165 (h : FX st) {n : Nat} (hn : n < 2403) : ab_rI st 165 (nI n) = some (sI st 165 n) := h.elim fun _ h => rI_ok (Fx_sh h (o := 165) rfl) hn (by omega)
theorem w165 (h : FX st) {n : Nat} (hn : n < 2403) {v : Int32} : ab_wI st 165 (nI n) v = some (uI st 165 n v) := h.elim fun _ h => wI_ok (Fx_sh h (o := 165) rfl) hn (by omega)
theorem r166 (h : FX st) {n : Nat} (hn : n < 4000) : ab_rI st 166 (nI n) = some (sI st 166 n) := h.elim fun _ h => rI_ok (Fx_sh h (o := 166) rfl) hn (by omega)
theorem w166 (h : FX st) {n : Nat} (hn : n < 4000) {v : Int32} : ab_wI st 166 (nI n) v = some (uI st 166 n v) := h.elim fun _ h => wI_ok (Fx_sh h (o := 166) rfl) hn (by omega)
theorem r167 (h : FX st) {n : Nat} (hn : n < 4000) : ab_rI st 167 (nI n) = some (sI st 167 n) := h.elim fun _ h => rI_ok (Fx_sh h (o := 167) rfl) hn (by omega)
theorem w167 (h : FX st) {n : Nat} (hn : n < 4000) {v : Int32} : ab_wI st 167 (nI n) v = some (uI st 167 n v) := h.elim fun _ h => wI_ok (Fx_sh h (o := 167) rfl) hn (by omega)
theorem r168 (h : FX st) {n : Nat} (hn : n < 4000) : ab_rJ st 168 (nI n) = some (sJ st 168 n) := h.elim fun _ h => rJ_ok (Fx_sh h (o := 168) rfl) hn (by omega)
theorem w168 (h : FX st) {n : Nat} (hn : n < 4000) {v : Int64} : ab_wJ st 168 (nI n) v = some (uJ st 168 n v) := h.elim fun _ h => wJ_ok (Fx_sh h (o := 168) rfl) hn (by omega)
/-- the reader stands at p -/
def rdr (L : Nat) (st : ab_S) (w : List Nat) (p : Nat) : Prop := Fx L st ∧ mRow st w ∧ sI st 130 34 = nI w.length ∧ sI st 130 33 = nI p ∧ p ≤ w.length
theorem rdr_fx {p : Nat} (h : rdr L st w p) : FX st := ⟨L, h.1⟩
theorem rdr_r {st' : ab_S} {p p' : Nat} (h : rdr L st w p) (hr : r130 st st') (h33 : sI st' 130 33 = nI p') (hp : p' ≤ w.length) : rdr L st' w p' := ⟨Fx_up h.1 hr.1, mRow_up h.2.1 hr.1 (by omega), by rw [hr.2 34 (by decide) (by decide)]; exact h.2.2.1, h33, hp⟩
theorem rdr_up {st' : ab_S} {p : Nat} {W : Nat → Prop} (h : rdr L st w p) (hu : upto W st st') (h0 : ¬ W 130) (h1 : ¬ W 131) : rdr L st' w p := ⟨Fx_up h.1 hu, mRow_up h.2.1 hu h1, by rw [(hu.2.2 130 h0).1]; exact h.2.2.1, by rw [(hu.2.2 130 h0).1]; exact h.2.2.2.1, h.2.2.2.2⟩
theorem mbyte_ok {p : Nat} (h : rdr L st w p) : ∃ st', r130 st st' ∧ ((∃ c, w[p]? = some c ∧ c < 256 ∧ f_X11_readByte 130 st = some (some (.int (nI c)), st') ∧ rdr L st' w (p + 1) ∧ sI st' 130 52 = sI st 130 52) ∨ (w[p]? = none ∧ f_X11_readByte 130 st = some (some (.int 0), st') ∧ rdr L st' w p ∧ sI st' 130 52 = 1)) := by
  have hX := rdr_fx h
  have h4 := h.2.1.2
  have h5 := h.2.2.2.2
  rw [e_X11_readByte_0, cm hX, im hX, Option.bind_some, im hX, Option.bind_some, h.2.2.1, h.2.2.2.1]
  cases hg : w[p]? with
  | none =>
    have hpl := List.getElem?_eq_none_iff.mp hg
    refine ⟨uI st 130 52 1, r130_52, Or.inr ⟨rfl, ?_, rdr_r h r130_52 (by rw [I_uI, if_neg (by decide)]; exact h.2.2.2.1) h5, by rw [I_uI, if_pos ⟨rfl, rfl⟩]⟩⟩
    rw [if_neg (by rw [c_lt (by omega) (by omega)]; omega), pmZ1 hX, Option.bind_some]
  | some c =>
    have hpl := (List.getElem?_eq_some_iff.mp hg).1
    obtain ⟨g1, g2⟩ := h.2.1.1 p c hg
    have X1 : FX (uI st 130 33 (nI (p + 1))) := hX
    refine ⟨uI st 130 33 (nI (p + 1)), r130_33, Or.inl ⟨c, rfl, g2, ?_, rdr_r h r130_33 (by rw [I_uI, if_pos ⟨rfl, rfl⟩]) (by omega), by rw [I_uI, if_neg (by decide)]⟩⟩
    have e33 : sI (uI st 130 33 (nI (p + 1))) 130 33 = nI (p + 1) := by rw [I_uI, if_pos ⟨rfl, rfl⟩]
    have e131 : sI (uI st 130 33 (nI (p + 1))) 131 p = by8 c := by rw [I_uI, if_neg (fun z => by omega)]; exact g1
    rw [if_pos (by rw [c_lt (by omega) (by omega)]; exact hpl), Option.bind_some, nI_1, pm hX, Option.bind_some, n0r X1, Option.bind_some, im X1, Option.bind_some, e33, show nI (p + 1) - (1 : Int32) = nI p by rw [show (1 : Int32) = nI 1 from rfl, a_sub (by omega)]; rfl, r131 X1 (by omega), Option.bind_some, e131, by8_and c g2]
theorem mnum_ok {p : Nat} (h : rdr L st w p) : ∃ st' p', r130 st st' ∧ rdr L st' w p' ∧ p ≤ p' ∧ ((∃ n r, rdn 7 (w.drop p) = some (n, r) ∧ n ≤ UV ∧ f_X11_readNumber 130 st = some (some (.long (lN n)), st') ∧ w.drop p' = r ∧ p + 1 ≤ p' ∧ sI st' 130 52 = sI st 130 52) ∨ (rdn 7 (w.drop p) = none ∧ f_X11_readNumber 130 st = some (some (.long 0), st') ∧ sI st' 130 52 = 1)) := by
  have key : ∀ k i acc p (st : ab_S), i + k = 7 → acc < 128 ^ i → rdr L st w p → ∃ st' p', r130 st st' ∧ rdr L st' w p' ∧ p ≤ p' ∧ ((∃ n r, rdn k (w.drop p) = some (n, r) ∧ L_X11_readNumber_4 130 (lN acc) (nI i) st = some (some (.long (lN (acc + 128 ^ i * n))), st') ∧ w.drop p' = r ∧ p + 1 ≤ p' ∧ sI st' 130 52 = sI st 130 52) ∨ (rdn k (w.drop p) = none ∧ L_X11_readNumber_4 130 (lN acc) (nI i) st = some (some (.long 0), st') ∧ sI st' 130 52 = 1)) := by
    intro k
    induction k with
    | zero =>
      intro i acc p st hi hacc h
      refine ⟨uI st 130 52 1, p, r130_52, rdr_r h r130_52 (by rw [I_uI, if_neg (by decide)]; exact h.2.2.2.1) h.2.2.2.2, Nat.le_refl _, Or.inr ⟨rfl, ?_, by rw [I_uI, if_pos ⟨rfl, rfl⟩]⟩⟩
      rw [e_X11_readNumber_4, nl 7, if_pos (by rw [c_le (by omega) (by omega)]; omega), pmZ1 (rdr_fx h), Option.bind_some]
    | succ k ih =>
      intro i acc p st hi hacc h
      have hX := rdr_fx h
      have h4 := h.2.1.2
      have h5 := h.2.2.2.2
      rw [e_X11_readNumber_4, if_neg (by show ¬ nI 7 ≤ nI i; rw [c_le (by omega) (by omega)]; omega), im hX, Option.bind_some, im hX, Option.bind_some, h.2.2.1, h.2.2.2.1]
      cases hg : w[p]? with
      | none =>
        have hpl := List.getElem?_eq_none_iff.mp hg
        refine ⟨uI st 130 52 1, p, r130_52, rdr_r h r130_52 (by rw [I_uI, if_neg (by decide)]; exact h.2.2.2.1) h.2.2.2.2, Nat.le_refl _, Or.inr ⟨by rw [drop_none hg]; rfl, ?_, by rw [I_uI, if_pos ⟨rfl, rfl⟩]⟩⟩
        rw [if_neg (by rw [c_lt (by omega) (by omega)]; omega), pmZ1 hX, Option.bind_some]
      | some c =>
        have hpl := (List.getElem?_eq_some_iff.mp hg).1
        obtain ⟨g1, g2⟩ := h.2.1.1 p c hg
        have R1 : rdr L (uI st 130 33 (nI (p + 1))) w (p + 1) := rdr_r h r130_33 (by rw [I_uI, if_pos ⟨rfl, rfl⟩]) (by omega)
        have q52 : sI (uI st 130 33 (nI (p + 1))) 130 52 = sI st 130 52 := by rw [I_uI, if_neg (by decide)]
        rw [if_pos (by rw [c_lt (by omega) (by omega)]; exact hpl), n0r hX, Option.bind_some, Option.bind_some, r131 hX (by omega), Option.bind_some, Option.bind_some, nI_1, pm hX, Option.bind_some, g1, by8_and c g2, and127 g2, nI_l (by omega), orsh hacc (by omega) (by omega), drop_some hg, rdn_cons]
        by_cases h128 : c < 128
        · refine ⟨_, p + 1, r130_33, R1, by omega, Or.inl ⟨c, w.drop (p + 1), by rw [if_pos h128], ?_, rfl, Nat.le_refl _, q52⟩⟩
          rw [if_neg (c := (128 : Int32) ≤ nI c) (by show ¬ nI 128 ≤ nI c; rw [c_le (by omega) (by omega)]; omega), Nat.mod_eq_of_lt h128]
        · have hpw : 128 ^ (i + 1) = 128 ^ i * 128 := Nat.pow_succ ..
          have hlt : acc + 128 ^ i * (c % 128) < 128 ^ (i + 1) := by
            rw [hpw]
            have : 128 ^ i * (c % 128) ≤ 128 ^ i * 127 := Nat.mul_le_mul_left _ (by omega)
            omega
          obtain ⟨st', p', a1, a2, a3, a4⟩ := ih (i + 1) _ (p + 1) _ (by omega) hlt R1
          refine ⟨st', p', r130_trans r130_33 a1, a2, by omega, ?_⟩
          rw [if_pos (c := (128 : Int32) ≤ nI c) (by show nI 128 ≤ nI c; rw [c_le (by omega) (by omega)]; omega), nI_1, if_neg h128]
          rcases a4 with ⟨n, r, b1, b2, b3, b4, b5⟩ | ⟨b1, b2, b3⟩
          · refine Or.inl ⟨c % 128 + 128 * n, r, by rw [b1]; rfl, ?_, b3, by omega, b5.trans q52⟩
            rw [b2, hpw, Nat.mul_add, Nat.mul_assoc, Nat.add_assoc]
          · exact Or.inr ⟨by rw [b1]; rfl, b2, b3⟩
  obtain ⟨st', p', a1, a2, a3, a4⟩ := key 7 0 0 p st rfl (by decide) h
  refine ⟨st', p', a1, a2, a3, ?_⟩
  rw [e_X11_readNumber_0, cm (rdr_fx h)]
  rcases a4 with ⟨n, r, b1, b2, b3, b4, b5⟩ | ⟨b1, b2, b3⟩
  · refine Or.inl ⟨n, r, b1, ?_, ?_, b3, b4, b5⟩
    · have := (rdn_ok b1).1
      unfold UV
      omega
    · refine b2.trans ?_
      rw [Nat.zero_add, Nat.pow_zero, Nat.one_mul]
  · exact Or.inr ⟨b1, b2, b3⟩
/-- once wrong, refused -/
theorem bad274 (hX : FX st) (h : sI st 130 52 = 1) {b c : Int64} : L_X11_unpack_274 130 b c st = some (some (.int 0), st) := by
  rw [e_X11_unpack_274, im hX, Option.bind_some, h, if_neg (by decide), z_0]
theorem bad79 (hX : FX st) (h : sI st 130 52 = 1) {b c : Int64} {s : Int32} : L_X11_unpack_79 130 b c s st = some (some (.int 0), st) := by
  rw [e_X11_unpack_79, bad274 hX h, im hX, Option.bind_some, h, if_neg (c := (1 : Int32) = 0) (by decide)]
  split <;> rfl
theorem bad166 (hX : FX st) (h : sI st 130 52 = 1) {b c m k : Int64} {s : Int32} : L_X11_unpack_166 130 b c s m k st = some (some (.int 0), st) := by
  rw [e_X11_unpack_166, e_X11_unpack_268, bad79 hX h, im hX, Option.bind_some, h, if_neg (c := (1 : Int32) = 0) (by decide)]
  split <;> rfl
/-- what the model has read -/
def mqS (st : ab_S) (Q : QS) (B : Nat) : Prop := (∀ s x, Q[s]? = some x → sJ st 164 s = lastI x.1 ∧ (∀ v, x.1 = some v → v ≤ UV) ∧ sI st 165 s = nI (aB Q s) ∧ ∀ j y, x.2.2[j]? = some y → sI st 166 (aB Q s + j) = nI y.1 ∧ y.1 < 256 ∧ sI st 167 (aB Q s + j) = nI y.2.1 ∧ y.2.1 < B ∧ sJ st 168 (aB Q s + j) = lN y.2.2 ∧ y.2.2 ≤ UV) ∧ sI st 130 51 = nI (aB Q Q.length)
theorem mqS_r {st' : ab_S} {Q : QS} {B : Nat} (h : mqS st Q B) (hr : r130 st st') : mqS st' Q B := by
  unfold mqS at h ⊢
  rw [(hr.1.2.2 164 (by omega)).2, (hr.1.2.2 165 (by omega)).1, (hr.1.2.2 166 (by omega)).1, (hr.1.2.2 167 (by omega)).1, (hr.1.2.2 168 (by omega)).2, hr.2 51 (by decide) (by decide)]
  exact h
theorem aB_snoc {Q : QS} {x : QX} {s : Nat} (h : s ≤ Q.length) : aB (Q ++ [x]) s = aB Q s := arcsB_snoc h
theorem aB_last {Q : QS} {x : QX} : aB (Q ++ [x]) (Q.length + 1) = aB Q Q.length + x.2.2.length := arcsB_last
theorem mqS_state {st' : ab_S} {Q : QS} {B : Nat} {v : Option Nat} (h : mqS st Q B) (hv : ∀ u, v = some u → u ≤ UV) (e4 : ∀ j, j ≠ Q.length → sJ st' 164 j = sJ st 164 j) (e5 : ∀ j, j ≠ Q.length → sI st' 165 j = sI st 165 j) (n4 : sJ st' 164 Q.length = lastI v) (n5 : sI st' 165 Q.length = nI (aB Q Q.length)) (e6 : sI st' 166 = sI st 166) (e7 : sI st' 167 = sI st 167) (e8 : sJ st' 168 = sJ st 168) (e51 : sI st' 130 51 = sI st 130 51) : mqS st' (Q ++ [(v, 0, [])]) B := by
  refine ⟨fun s x hs => ?_, ?_⟩
  · have hl := (List.getElem?_eq_some_iff.mp hs).1
    rw [List.length_append, List.length_singleton] at hl
    by_cases hsq : s = Q.length
    · subst hsq
      rw [List.getElem?_append_right (Nat.le_refl _), Nat.sub_self] at hs
      have : x = (v, 0, []) := by simpa using hs.symm
      subst this
      rw [aB_snoc (Nat.le_refl _)]
      exact ⟨n4, hv, n5, fun j y hj => by simp at hj⟩
    · rw [List.getElem?_append_left (by omega)] at hs
      rw [aB_snoc (by omega), e4 s hsq, e5 s hsq, e6, e7, e8]
      exact h.1 s x hs
  · rw [e51, List.length_append, List.length_singleton, aB_last]
    exact h.2
theorem mqS_arc {st' : ab_S} {Q : QS} {B : Nat} {v : Option Nat} {as : List (Nat × Nat × Nat)} {y : Nat × Nat × Nat} (h : mqS st (Q ++ [(v, 0, as)]) B) (hy : y.1 < 256 ∧ y.2.1 < B ∧ y.2.2 ≤ UV) (e4 : sJ st' 164 = sJ st 164) (e5 : sI st' 165 = sI st 165) (e6 : ∀ j, j ≠ aB (Q ++ [(v, 0, as)]) (Q.length + 1) → sI st' 166 j = sI st 166 j) (e7 : ∀ j, j ≠ aB (Q ++ [(v, 0, as)]) (Q.length + 1) → sI st' 167 j = sI st 167 j) (e8 : ∀ j, j ≠ aB (Q ++ [(v, 0, as)]) (Q.length + 1) → sJ st' 168 j = sJ st 168 j) (n6 : sI st' 166 (aB (Q ++ [(v, 0, as)]) (Q.length + 1)) = nI y.1) (n7 : sI st' 167 (aB (Q ++ [(v, 0, as)]) (Q.length + 1)) = nI y.2.1) (n8 : sJ st' 168 (aB (Q ++ [(v, 0, as)]) (Q.length + 1)) = lN y.2.2) (e51 : sI st' 130 51 = nI (aB (Q ++ [(v, 0, as)]) (Q.length + 1) + 1)) : mqS st' (Q ++ [(v, 0, as ++ [y])]) B := by
  rw [aB_last] at e6 e7 e8 n6 n7 n8 e51
  dsimp only at e6 e7 e8 n6 n7 n8 e51
  refine ⟨fun s x hs => ?_, ?_⟩
  · have hl := (List.getElem?_eq_some_iff.mp hs).1
    rw [List.length_append, List.length_singleton] at hl
    by_cases hsq : s = Q.length
    · subst hsq
      rw [List.getElem?_append_right (Nat.le_refl _), Nat.sub_self] at hs
      have : x = (v, 0, as ++ [y]) := by simpa using hs.symm
      subst this
      obtain ⟨a1, a2, a3, a4⟩ := h.1 Q.length (v, 0, as) (by rw [List.getElem?_append_right (Nat.le_refl _), Nat.sub_self]; rfl)
      rw [aB_snoc (Nat.le_refl _)] at a3 a4 ⊢
      refine ⟨by rw [e4]; exact a1, a2, by rw [e5]; exact a3, fun j z hj => ?_⟩
      have hjl := (List.getElem?_eq_some_iff.mp hj).1
      dsimp only at hjl
      rw [List.length_append, List.length_singleton] at hjl
      by_cases hja : j = as.length
      · subst hja
        dsimp only at hj
        rw [List.getElem?_append_right (Nat.le_refl _), Nat.sub_self] at hj
        have : z = y := by simpa using hj.symm
        subst this
        exact ⟨n6, hy.1, n7, hy.2.1, n8, hy.2.2⟩
      · dsimp only at hj
        rw [List.getElem?_append_left (by omega)] at hj
        rw [e6 _ (by omega), e7 _ (by omega), e8 _ (by omega)]
        exact a4 j z hj
    · rw [List.getElem?_append_left (by omega)] at hs
      have hlt : s < Q.length := by omega
      obtain ⟨a1, a2, a3, a4⟩ := h.1 s x (by rw [List.getElem?_append_left hlt]; exact hs)
      rw [aB_snoc (by omega)] at a3 a4 ⊢
      refine ⟨by rw [e4]; exact a1, a2, by rw [e5]; exact a3, fun j z hj => ?_⟩
      have hjl := (List.getElem?_eq_some_iff.mp hj).1
      have h1 : aB Q (s + 1) = aB Q s + x.2.2.length := arcsB_succ (M := (0, 0, Q)) hs
      have h2 : aB Q (s + 1) ≤ aB Q Q.length := arcsB_mono (M := (0, 0, Q)) hlt
      rw [e6 _ (by omega), e7 _ (by omega), e8 _ (by omega)]
      exact a4 j z hj
  · rw [e51, List.length_append, List.length_singleton, aB_last]
    dsimp only
    rw [List.length_append, List.length_singleton]
    rfl
end MRD
