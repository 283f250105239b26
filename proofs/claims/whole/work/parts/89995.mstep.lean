/-! THE MODEL'S STEPS: 151 stepFrom, 152 stepTo, 153 stepSet, 154 sets, 155 altFrom, 156 altTo, 157 sequence, 158 pieceBegin -/
def hS (st : ab_S) (s : Nat) (f : Nat → Prop) : Prop := ∀ c, c < 256 → (sI st 154 (256 * s + c) = 0 ∨ sI st 154 (256 * s + c) = 1) ∧ (sI st 154 (256 * s + c) = 1 ↔ f c)
def sOf (st : ab_S) (nS : Nat) (x : Int32) (o : Option (Nat → Prop)) : Prop := match o with
  | none => x = -1
  | some f => ∃ s, s < nS ∧ x = nI s ∧ hS st s f
def SE (st : ab_S) (E : List Ed) (nS : Nat) : Prop := ∀ k e, E[k]? = some e → sI st 151 k = nI e.1 ∧ sI st 152 k = nI e.2.1 ∧ sOf st nS (sI st 153 k) e.2.2
def MU (st : ab_S) (w : List Nat) (E : List Ed) (N nS : Nat) : Prop := FX st ∧ mRow st w ∧ w.length ≤ 24 ∧ sI st 130 34 = nI w.length ∧ sI st 130 29 = nI E.length ∧ sI st 130 30 = nI N ∧ sI st 130 32 = nI nS ∧ SE st E nS
def on3 (q : Nat) : Prop := q = 130 ∨ (151 ≤ q ∧ q ≤ 153)
def K3 (st st' : ab_S) : Prop := ∀ j, j ≠ 29 → j ≠ 30 → j ≠ 32 → sI st' 130 j = sI st 130 j
section MSTEP
variable {st : ab_S} {w : List Nat} {E : List Ed} {N nS p : Nat}
theorem K3_trans {st' st2 : ab_S} (h : K3 st st') (h2 : K3 st' st2) : K3 st st2 := fun j a b c => (h2 j a b c).trans (h j a b c)
theorem n26r (h : FX st) : ab_gR st 130 11 26 = some 151 := h.elim fun _ h => by rw [gR_ok (Fx_sh h rfl), Fx_rf h (v := 151) (by decide)]
theorem n27r (h : FX st) : ab_gR st 130 11 27 = some 152 := h.elim fun _ h => by rw [gR_ok (Fx_sh h rfl), Fx_rf h (v := 152) (by decide)]
theorem n28r (h : FX st) : ab_gR st 130 11 28 = some 153 := h.elim fun _ h => by rw [gR_ok (Fx_sh h rfl), Fx_rf h (v := 153) (by decide)]
theorem n31r (h : FX st) : ab_gR st 130 11 31 = some 154 := h.elim fun _ h => by rw [gR_ok (Fx_sh h rfl), Fx_rf h (v := 154) (by decide)]
theorem n37r (h : FX st) : ab_gR st 130 11 37 = some 155 := h.elim fun _ h => by rw [gR_ok (Fx_sh h rfl), Fx_rf h (v := 155) (by decide)]
theorem n38r (h : FX st) : ab_gR st 130 11 38 = some 156 := h.elim fun _ h => by rw [gR_ok (Fx_sh h rfl), Fx_rf h (v := 156) (by decide)]
theorem n39r (h : FX st) : ab_gR st 130 11 39 = some 157 := h.elim fun _ h => by rw [gR_ok (Fx_sh h rfl), Fx_rf h (v := 157) (by decide)]
theorem n40r (h : FX st) : ab_gR st 130 11 40 = some 158 := h.elim fun _ h => by rw [gR_ok (Fx_sh h rfl), Fx_rf h (v := 158) (by decide)]
theorem n41r (h : FX st) : ab_gR st 130 11 41 = some 159 := h.elim fun _ h => by rw [gR_ok (Fx_sh h rfl), Fx_rf h (v := 159) (by decide)]
theorem n42r (h : FX st) : ab_gR st 130 11 42 = some 160 := h.elim fun _ h => by rw [gR_ok (Fx_sh h rfl), Fx_rf h (v := 160) (by decide)]
theorem r151 (h : FX st) {n : Nat} (hn : n < 400) : ab_rI st 151 (nI n) = some (sI st 151 n) := h.elim fun _ h => rI_ok (Fx_sh h (o := 151) rfl) hn (by omega)
theorem w151 (h : FX st) {n : Nat} (hn : n < 400) {v : Int32} : ab_wI st 151 (nI n) v = some (uI st 151 n v) := h.elim fun _ h => wI_ok (Fx_sh h (o := 151) rfl) hn (by omega)
theorem r152 (h : FX st) {n : Nat} (hn : n < 400) : ab_rI st 152 (nI n) = some (sI st 152 n) := h.elim fun _ h => rI_ok (Fx_sh h (o := 152) rfl) hn (by omega)
theorem w152 (h : FX st) {n : Nat} (hn : n < 400) {v : Int32} : ab_wI st 152 (nI n) v = some (uI st 152 n v) := h.elim fun _ h => wI_ok (Fx_sh h (o := 152) rfl) hn (by omega)
theorem r153 (h : FX st) {n : Nat} (hn : n < 400) : ab_rI st 153 (nI n) = some (sI st 153 n) := h.elim fun _ h => rI_ok (Fx_sh h (o := 153) rfl) hn (by omega)
theorem w153 (h : FX st) {n : Nat} (hn : n < 400) {v : Int32} : ab_wI st 153 (nI n) v = some (uI st 153 n v) := h.elim fun _ h => wI_ok (Fx_sh h (o := 153) rfl) hn (by omega)
theorem r154 (h : FX st) {n : Nat} (hn : n < 10240) : ab_rB st 154 (nI n) = some (sI st 154 n) := h.elim fun _ h => rZ_ok (Fx_sh h (o := 154) rfl) hn (by omega)
theorem w154 (h : FX st) {n : Nat} (hn : n < 10240) {v : Int32} : ab_wB st 154 (nI n) v = some (uI st 154 n (v &&& 1)) := h.elim fun _ h => wZ_ok (Fx_sh h (o := 154) rfl) hn (by omega)
theorem r155 (h : FX st) {n : Nat} (hn : n < 6) : ab_rI st 155 (nI n) = some (sI st 155 n) := h.elim fun _ h => rI_ok (Fx_sh h (o := 155) rfl) hn (by omega)
theorem w155 (h : FX st) {n : Nat} (hn : n < 6) {v : Int32} : ab_wI st 155 (nI n) v = some (uI st 155 n v) := h.elim fun _ h => wI_ok (Fx_sh h (o := 155) rfl) hn (by omega)
theorem r156 (h : FX st) {n : Nat} (hn : n < 6) : ab_rI st 156 (nI n) = some (sI st 156 n) := h.elim fun _ h => rI_ok (Fx_sh h (o := 156) rfl) hn (by omega)
theorem w156 (h : FX st) {n : Nat} (hn : n < 6) {v : Int32} : ab_wI st 156 (nI n) v = some (uI st 156 n v) := h.elim fun _ h => wI_ok (Fx_sh h (o := 156) rfl) hn (by omega)
theorem r157 (h : FX st) {n : Nat} (hn : n < 6) : ab_rI st 157 (nI n) = some (sI st 157 n) := h.elim fun _ h => rI_ok (Fx_sh h (o := 157) rfl) hn (by omega)
theorem w157 (h : FX st) {n : Nat} (hn : n < 6) {v : Int32} : ab_wI st 157 (nI n) v = some (uI st 157 n v) := h.elim fun _ h => wI_ok (Fx_sh h (o := 157) rfl) hn (by omega)
theorem r158 (h : FX st) {n : Nat} (hn : n < 6) : ab_rI st 158 (nI n) = some (sI st 158 n) := h.elim fun _ h => rI_ok (Fx_sh h (o := 158) rfl) hn (by omega)
theorem w158 (h : FX st) {n : Nat} (hn : n < 6) {v : Int32} : ab_wI st 158 (nI n) v = some (uI st 158 n v) := h.elim fun _ h => wI_ok (Fx_sh h (o := 158) rfl) hn (by omega)
theorem sOf_up {st' : ab_S} {nS' : Nat} {x : Int32} {o : Option (Nat → Prop)} (h : sOf st nS x o) (h4 : ∀ s c, s < nS → c < 256 → sI st' 154 (256 * s + c) = sI st 154 (256 * s + c)) (hn : nS ≤ nS') : sOf st' nS' x o := by
  cases o with
  | none => exact h
  | some f =>
    obtain ⟨s, a, b, c⟩ := h
    exact ⟨s, by omega, b, fun k hk => by rw [h4 s k a hk]; exact c k hk⟩
theorem SE_up {st' : ab_S} (h : SE st E nS) (h1 : sI st' 151 = sI st 151) (h2 : sI st' 152 = sI st 152) (h3 : sI st' 153 = sI st 153) (h4 : ∀ s c, s < nS → c < 256 → sI st' 154 (256 * s + c) = sI st 154 (256 * s + c)) : SE st' E nS := by
  intro k e he
  obtain ⟨a, b, c⟩ := h k e he
  rw [h1, h2, h3]
  exact ⟨a, b, sOf_up c h4 (Nat.le_refl _)⟩
/-- a state that keeps the steps -/
theorem MU_up {st' : ab_S} {W : Nat → Prop} (h : MU st w E N nS) (hu : upto W st st') (hW : ¬ W 131 ∧ ¬ W 151 ∧ ¬ W 152 ∧ ¬ W 153) (h4 : ∀ s c, s < nS → c < 256 → sI st' 154 (256 * s + c) = sI st 154 (256 * s + c)) (k1 : sI st' 130 34 = sI st 130 34) (k2 : sI st' 130 29 = sI st 130 29) (k3 : sI st' 130 30 = sI st 130 30) (k4 : sI st' 130 32 = sI st 130 32) : MU st' w E N nS := by
  obtain ⟨a1, a2, a3, a4, a5, a6, a7, a8⟩ := h
  exact ⟨FX_up a1 hu, mRow_up a2 hu hW.1, a3, k1.trans a4, k2.trans a5, k3.trans a6, k4.trans a7, SE_up a8 (hu.2.2 _ hW.2.1).1 (hu.2.2 _ hW.2.2.1).1 (hu.2.2 _ hW.2.2.2).1 h4⟩
theorem MU_f (h : MU st w E N nS) {k : Nat} {v : Int32} (hk : k ≠ 29 ∧ k ≠ 30 ∧ k ≠ 32 ∧ k ≠ 34) : MU (uI st 130 k v) w E N nS := MU_up h (upto_uI (W := fun q => q = 130) rfl) (by omega) (fun s c _ _ => by rw [I_uI, if_neg (by omega)]) (by rw [I_uI, if_neg (by omega)]) (by rw [I_uI, if_neg (by omega)]) (by rw [I_uI, if_neg (by omega)]) (by rw [I_uI, if_neg (by omega)])
theorem spot_ok (h : MU st w E N nS) (hN : N < 400) : ∃ st', f_X11_spot 130 st = some (some (.int (nI N)), st') ∧ MU st' w E (N + 1) nS ∧ upto (fun q => q = 130) st st' ∧ K3 st st' := by
  obtain ⟨a1, a2, a3, a4, a5, a6, a7, a8⟩ := h
  have hu : upto (fun q => q = 130) st (uI st 130 30 (nI (N + 1))) := upto_uI rfl
  have X2 := FX_up a1 hu
  refine ⟨uI st 130 30 (nI (N + 1)), ?_, ⟨X2, mRow_up a2 hu (by omega), a3, a4, a5, ?_, a7, SE_up a8 rfl rfl rfl (fun s c _ _ => rfl)⟩, hu, fun j _ h2 _ => ?_⟩
  · rw [e_X11_spot_0, cm a1, im a1, Option.bind_some, a6, nI_1, pm a1, Option.bind_some, im X2, Option.bind_some, I_uI, if_pos ⟨rfl, rfl⟩, show (1 : Int32) = nI 1 from rfl, a_sub (by omega)]
    rfl
  · rw [I_uI, if_pos ⟨rfl, rfl⟩]
  · rw [I_uI, if_neg (by omega)]
def stpS (st : ab_S) (k : Nat) (u v x : Int32) : ab_S := uI (uI (uI (uI st 151 k u) 152 k v) 153 k x) 130 29 (nI (k + 1))
theorem stp_up {k : Nat} {u v x : Int32} : upto on3 st (stpS st k u v x) := by
  have o : ∀ q, q = 130 ∨ (151 ≤ q ∧ q ≤ 153) → on3 q := fun q h => h
  exact upto_trans (upto_uI (o 151 (by omega))) (upto_trans (upto_uI (o 152 (by omega))) (upto_trans (upto_uI (o 153 (by omega))) (upto_uI (o 130 (by omega)))))
theorem stp_K {k : Nat} {u v x : Int32} : K3 st (stpS st k u v x) := by
  intro j h1 _ _
  unfold stpS
  rw [I_uI, if_neg (by omega), I_uI, if_neg (by omega), I_uI, if_neg (by omega), I_uI, if_neg (by omega)]
theorem stp_SE {u v : Nat} {x : Int32} {o : Option (Nat → Prop)} {nS' : Nat} (h : SE st E nS) (hn : nS ≤ nS') (ho : sOf st nS' x o) : SE (stpS st E.length (nI u) (nI v) x) (E ++ [(u, v, o)]) nS' := by
  have e1 : ∀ k, sI (stpS st E.length (nI u) (nI v) x) 151 k = if k = E.length then nI u else sI st 151 k := by
    intro k
    unfold stpS
    rw [I_uI, if_neg (by omega), I_uI, if_neg (by omega), I_uI, if_neg (by omega), I_uI]
    by_cases q : k = E.length
    · rw [if_pos ⟨rfl, q⟩, if_pos q]
    · rw [if_neg (fun z => q z.2), if_neg q]
  have e2 : ∀ k, sI (stpS st E.length (nI u) (nI v) x) 152 k = if k = E.length then nI v else sI st 152 k := by
    intro k
    unfold stpS
    rw [I_uI, if_neg (by omega), I_uI, if_neg (by omega), I_uI]
    by_cases q : k = E.length
    · rw [if_pos ⟨rfl, q⟩, if_pos q]
    · rw [if_neg (fun z => q z.2), if_neg q, I_uI, if_neg (by omega)]
  have e3 : ∀ k, sI (stpS st E.length (nI u) (nI v) x) 153 k = if k = E.length then x else sI st 153 k := by
    intro k
    unfold stpS
    rw [I_uI, if_neg (by omega), I_uI]
    by_cases q : k = E.length
    · rw [if_pos ⟨rfl, q⟩, if_pos q]
    · rw [if_neg (fun z => q z.2), if_neg q, I_uI, if_neg (by omega), I_uI, if_neg (by omega)]
  have e4 : ∀ s c, sI (stpS st E.length (nI u) (nI v) x) 154 (256 * s + c) = sI st 154 (256 * s + c) := fun s c => rfl
  intro k e he
  rw [e1, e2, e3]
  by_cases q : k = E.length
  · rw [if_pos q, if_pos q, if_pos q]
    subst q
    rw [List.getElem?_append_right (Nat.le_refl _), Nat.sub_self] at he
    cases he
    exact ⟨rfl, rfl, sOf_up ho (fun s c _ _ => e4 s c) (Nat.le_refl _)⟩
  · rw [if_neg q, if_neg q, if_neg q]
    have hk := (List.getElem?_eq_some_iff.mp he).1
    rw [List.length_append] at hk
    have hk1 : ([(u, v, o)] : List Ed).length = 1 := rfl
    rw [List.getElem?_append_left (by omega)] at he
    obtain ⟨a, b, c⟩ := h k e he
    exact ⟨a, b, sOf_up c (fun s c _ _ => e4 s c) hn⟩
theorem stp_run (h : FX st) {k : Nat} (hk : k < 400) (h29 : sI st 130 29 = nI k) {u v x : Int32} : f_X11_step 130 u v x st = some (none, stpS st k u v x) := by
  have X1 : FX (uI st 151 k u) := FX_up h (upto_uI (W := fun _ => True) trivial)
  have X2 : FX (uI (uI st 151 k u) 152 k v) := FX_up X1 (upto_uI (W := fun _ => True) trivial)
  have X3 : FX (uI (uI (uI st 151 k u) 152 k v) 153 k x) := FX_up X2 (upto_uI (W := fun _ => True) trivial)
  have b1 : sI (uI st 151 k u) 130 29 = nI k := h29
  have b2 : sI (uI (uI st 151 k u) 152 k v) 130 29 = nI k := h29
  have b3 : sI (uI (uI (uI st 151 k u) 152 k v) 153 k x) 130 29 = nI k := h29
  rw [e_X11_step_0, cm h, n26r h, Option.bind_some, im h, Option.bind_some, h29, w151 h hk, Option.bind_some, n27r X1, Option.bind_some, im X1, Option.bind_some, b1, w152 X1 hk, Option.bind_some, n28r X2, Option.bind_some, im X2, Option.bind_some, b2, w153 X2 hk, Option.bind_some, im X3, Option.bind_some, b3, nI_1, pm X3, Option.bind_some]
  rfl
theorem step_ok (h : MU st w E N nS) (hE : E.length < 400) {u v : Nat} : ∃ st', f_X11_step 130 (nI u) (nI v) (-1) st = some (none, st') ∧ MU st' w (E ++ [(u, v, none)]) N nS ∧ upto on3 st st' ∧ K3 st st' := by
  obtain ⟨a1, a2, a3, a4, a5, a6, a7, a8⟩ := h
  refine ⟨_, stp_run a1 hE a5, ⟨FX_up a1 stp_up, mRow_up a2 stp_up (by show ¬ (131 = 130 ∨ _); omega), a3, ?_, ?_, a6, a7, stp_SE a8 (Nat.le_refl _) rfl⟩, stp_up, stp_K⟩
  · rw [stp_K 34 (by omega) (by omega) (by omega)]; exact a4
  · unfold stpS
    rw [I_uI, if_pos ⟨rfl, rfl⟩, List.length_append]
    rfl
theorem oneOf_ok (h : MU st w E N nS) (hE : E.length < 400) (hN : N < 400) {f : Nat → Prop} (hf : hS st nS f) {u : Nat} : ∃ st', f_X11_oneOf 130 (nI u) st = some (some (.int (nI N)), st') ∧ MU st' w (E ++ [(u, N, some f)]) (N + 1) (nS + 1) ∧ upto on3 st st' ∧ K3 st st' := by
  obtain ⟨s1, b1, ⟨a1, a2, a3, a4, a5, a6, a7, a8⟩, b3, b4⟩ := spot_ok h hN
  have X2 := FX_up a1 (stp_up (k := E.length) (u := nI u) (v := nI N) (x := nI nS))
  have c32 : sI (stpS s1 E.length (nI u) (nI N) (nI nS)) 130 32 = nI nS := a7
  have u1 : upto on3 st s1 := upto_mono b3 (fun q hq => Or.inl hq)
  have u2 : upto on3 s1 (stpS s1 E.length (nI u) (nI N) (nI nS)) := stp_up
  have u3 : upto on3 (stpS s1 E.length (nI u) (nI N) (nI nS)) (uI (stpS s1 E.length (nI u) (nI N) (nI nS)) 130 32 (nI (nS + 1))) := upto_uI (Or.inl rfl)
  have hf1 : hS s1 nS f := fun c hc => by rw [(b3.2.2 154 (by omega)).1]; exact hf c hc
  have S2 : SE (stpS s1 E.length (nI u) (nI N) (nI nS)) (E ++ [(u, N, some f)]) (nS + 1) := stp_SE a8 (Nat.le_succ _) ⟨nS, Nat.lt_succ_self _, rfl, hf1⟩
  have K2 : K3 s1 (stpS s1 E.length (nI u) (nI N) (nI nS)) := stp_K
  refine ⟨uI (stpS s1 E.length (nI u) (nI N) (nI nS)) 130 32 (nI (nS + 1)), ?_, ⟨FX_up X2 u3, mRow_up (mRow_up a2 u2 (by show ¬ (131 = 130 ∨ _); omega)) u3 (by show ¬ (131 = 130 ∨ _); omega), a3, ?_, ?_, ?_, ?_, SE_up S2 rfl rfl rfl (fun s c _ _ => rfl)⟩, upto_trans u1 (upto_trans u2 u3), fun j h1 h2 h3 => ?_⟩
  · rw [e_X11_oneOf_0, cm h.1, b1, ri_ok, im a1, Option.bind_some, a7, stp_run a1 hE a5, rv_ok, im X2, Option.bind_some, c32, nI_1, pm X2, Option.bind_some]
  · rw [I_uI, if_neg (by omega), K2 34 (by omega) (by omega) (by omega)]; exact a4
  · rw [I_uI, if_neg (by omega)]
    unfold stpS
    rw [I_uI, if_pos ⟨rfl, rfl⟩, List.length_append]
    rfl
  · rw [I_uI, if_neg (by omega)]; exact a6
  · rw [I_uI, if_pos ⟨rfl, rfl⟩]
  · rw [I_uI, if_neg (by omega), K2 j h1 h2 h3]; exact b4 j h1 h2 h3
theorem here_ok (h : MU st w E N nS) (h33 : sI st 130 33 = nI p) (hp : p ≤ 1000) : f_X11_here 130 st = some (some (.int (lg w p)), st) := by
  obtain ⟨a1, a2, a3, a4, -⟩ := h
  rw [e_X11_here_0, cm a1, im a1, Option.bind_some, h33, im a1, Option.bind_some, a4]
  cases hg : w[p]? with
  | none =>
    have := List.getElem?_eq_none_iff.mp hg
    rw [if_pos (by rw [c_le (by omega) (by omega)]; omega), lg_none hg]
  | some c =>
    have := (List.getElem?_eq_some_iff.mp hg).1
    obtain ⟨g1, g2⟩ := a2.1 p c hg
    rw [if_neg (by rw [c_le (by omega) (by omega)]; omega), n0r a1, Option.bind_some, Option.bind_some, r131 a1 (by omega), Option.bind_some, g1, by8_and c g2, lg_some hg]
theorem fail_ok (h : FX st) (h35 : sI st 130 35 = -1) {x : Int32} : f_X11_fail 130 x st = some (none, uI st 130 35 x) := by
  rw [e_X11_fail_0, cm h, im h, Option.bind_some, h35, if_pos rfl, e_X11_fail_17, pm h, Option.bind_some]
end MSTEP
