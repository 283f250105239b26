/-! THE MODEL SPELLS: pathState 169, pathArc 170, pathOut 171, word 172; the spare dictionary 4 -/
def GOODM (Q : QS) (l : Nat) : Prop := (∀ n ∈ vs Q 12 0 [] l, (∀ k, lastQ Q n.2.1 = some k → n.2.2 + k ≤ 1000000000000) ∧ (12 ≤ n.1.length → arcsQ Q n.2.1 = [])) ∧ ((vs Q 12 0 [] l).filterMap (tmN Q)).length ≤ 200 ∧ (vs Q 12 0 [] l).length ≤ 2401 ∧ srt ((vs Q 12 0 [] l).filterMap (tmN Q))
def onS (q : Nat) : Prop := (132 ≤ q ∧ q ≤ 135) ∨ (169 ≤ q ∧ q ≤ 172)
def stkM (st : ab_S) (Q : QS) (S I V : Nat → Nat) (p : List Nat) : Prop := (∀ j, j ≤ p.length → sI st 169 j = nI (S j) ∧ sI st 170 j = nI (aB Q (S j) + I j) ∧ sJ st 171 j = lN (V j) ∧ S j < Q.length ∧ I j ≤ (arcsQ Q (S j)).length ∧ V j ≤ (j + 1) * UV) ∧ (∀ j c, p[j]? = some c → sI st 172 j = by8 c ∧ c < 256) ∧ p.length ≤ 12
section MSPELL
variable {L : Nat} {st : ab_S} {Q : QS}
theorem n53r (h : FX st) : ab_gR st 130 11 53 = some 169 := h.elim fun _ h => by rw [gR_ok (Fx_sh h rfl), Fx_rf h (v := 169) (by decide)]
theorem n54r (h : FX st) : ab_gR st 130 11 54 = some 170 := h.elim fun _ h => by rw [gR_ok (Fx_sh h rfl), Fx_rf h (v := 170) (by decide)]
theorem n55r (h : FX st) : ab_gR st 130 11 55 = some 171 := h.elim fun _ h => by rw [gR_ok (Fx_sh h rfl), Fx_rf h (v := 171) (by decide)]
theorem n56r (h : FX st) : ab_gR st 130 11 56 = some 172 := h.elim fun _ h => by rw [gR_ok (Fx_sh h rfl), Fx_rf h (v := 172) (by decide)]
theorem r169 (h : FX st) {n : Nat} (hn : n < 13) : ab_rI st 169 (nI n) = some (sI st 169 n) := h.elim fun _ h => rI_ok (Fx_sh h (o := 169) rfl) hn (by omega)
theorem w169 (h : FX st) {n : Nat} (hn : n < 13) {v : Int32} : ab_wI st 169 (nI n) v = some (uI st 169 n v) := h.elim fun _ h => wI_ok (Fx_sh h (o := 169) rfl) hn (by omega)
theorem r170 (h : FX st) {n : Nat} (hn : n < 13) : ab_rI st 170 (nI n) = some (sI st 170 n) := h.elim fun _ h => rI_ok (Fx_sh h (o := 170) rfl) hn (by omega)
theorem w170 (h : FX st) {n : Nat} (hn : n < 13) {v : Int32} : ab_wI st 170 (nI n) v = some (uI st 170 n v) := h.elim fun _ h => wI_ok (Fx_sh h (o := 170) rfl) hn (by omega)
theorem r171 (h : FX st) {n : Nat} (hn : n < 13) : ab_rJ st 171 (nI n) = some (sJ st 171 n) := h.elim fun _ h => rJ_ok (Fx_sh h (o := 171) rfl) hn (by omega)
theorem w171 (h : FX st) {n : Nat} (hn : n < 13) {v : Int64} : ab_wJ st 171 (nI n) v = some (uJ st 171 n v) := h.elim fun _ h => wJ_ok (Fx_sh h (o := 171) rfl) hn (by omega)
theorem w172 (h : FX st) {n : Nat} (hn : n < 12) {v : Int32} : ab_wB st 172 (nI n) v = some (uI st 172 n v.toInt8.toInt32) := h.elim fun _ h => wB_ok (Fx_sh h (o := 172) rfl) hn (by omega)
theorem w135 (h : FX st) {n : Nat} (hn : n < 6) {v : Int32} : ab_wI st 135 (nI n) v = some (uI st 135 n v) := h.elim fun _ h => wI_ok (Fx_sh h (o := 135) rfl) hn (by omega)
theorem mq165 (h : mqF st Q) {s : Nat} (hs : s ≤ Q.length) : sI st 165 s = nI (aB Q s) := by
  by_cases e : s = Q.length
  · rw [e]; exact h.2.1
  · have hg : Q[s]? = some Q[s] := List.getElem?_eq_getElem (by omega)
    exact (h.1.1 s _ hg).2.2.1
theorem aB_arcs {s : Nat} (hs : s < Q.length) : aB Q (s + 1) = aB Q s + (arcsQ Q s).length := by
  have hg : Q[s]? = some Q[s] := List.getElem?_eq_getElem hs
  rw [show aB Q (s + 1) = aB Q s + Q[s].2.2.length from arcsB_succ (M := (0, 0, Q)) hg]
  unfold arcsQ
  rw [hg]
theorem aB_le (h : mqF st Q) {s : Nat} (hs : s ≤ Q.length) : aB Q s ≤ 1400 := Nat.le_trans (arcsB_mono (M := (0, 0, Q)) hs) h.2.2.2
theorem mqLast (h : mqF st Q) {s : Nat} (hs : s < Q.length) : sJ st 164 s = lastI (lastQ Q s) ∧ ∀ k, lastQ Q s = some k → k ≤ UV := by
  have hg : Q[s]? = some Q[s] := List.getElem?_eq_getElem hs
  obtain ⟨a1, a2, -⟩ := h.1.1 s _ hg
  have e : lastQ Q s = Q[s].1 := by unfold lastQ; rw [hg]; rfl
  rw [e]
  exact ⟨a1, a2⟩
theorem mqArc (h : mqF st Q) {s i : Nat} {y : Nat × Nat × Nat} (hy : (arcsQ Q s)[i]? = some y) : sI st 166 (aB Q s + i) = nI y.1 ∧ y.1 < 256 ∧ sI st 167 (aB Q s + i) = nI y.2.1 ∧ y.2.1 < Q.length ∧ sJ st 168 (aB Q s + i) = lN y.2.2 ∧ y.2.2 ≤ UV := by
  unfold arcsQ at hy
  cases hs : Q[s]? with
  | none => rw [hs] at hy; simp at hy
  | some x =>
    rw [hs] at hy
    exact (h.1.1 s x hs).2.2.2 i y hy
theorem mqF_up {W : Nat → Prop} {st' : ab_S} (h : mqF st Q) (hu : upto W st st') (hW : ∀ q, W q → onS q) : mqF st' Q := by
  have nw : ∀ q, ¬ onS q → ¬ W q := fun q hq w => hq (hW q w)
  unfold mqF mqS at h ⊢
  rw [(hu.2.2 164 (nw _ (by unfold onS; omega))).2, (hu.2.2 165 (nw _ (by unfold onS; omega))).1, (hu.2.2 166 (nw _ (by unfold onS; omega))).1, (hu.2.2 167 (nw _ (by unfold onS; omega))).1, (hu.2.2 168 (nw _ (by unfold onS; omega))).2, (hu.2.2 130 (nw _ (by unfold onS; omega))).1]
  exact h
theorem snoc_srt {D : Dc} {x : List Nat × Nat} (h : srt D) (hx : ∀ y, D[D.length - 1]? = some y → lcmp y.1 x.1 = -1) : srt (D ++ [x]) := by
  rw [srt_iff, List.pairwise_append]
  refine ⟨srt_iff.mp h, List.pairwise_singleton _ _, fun a ha b hb => ?_⟩
  rw [List.mem_singleton.mp hb]
  obtain ⟨i, hi⟩ := List.getElem?_of_mem ha
  have hl := lt_of_get hi
  have hg : D[D.length - 1]? = some D[D.length - 1] := List.getElem?_eq_getElem (by omega)
  have hlast := hx _ hg
  generalize D[D.length - 1] = z at hg hlast
  by_cases e : i = D.length - 1
  · rw [← e, hi] at hg
    rw [Option.some.inj hg]
    exact hlast
  · exact lcmp_trans (h i (D.length - 1) a z hi hg (by omega)) hlast
/-- spellOne -/
theorem spell1_ok (hF : Fx L st) (hQ : mqF st Q) {D : Dc} (hD : isMd st 4 D) (hs : srt D) {S I V : Nat → Nat} {p : List Nat} (hk : stkM st Q S I V p) : ∃ st', upto (fun q => 132 ≤ q ∧ q ≤ 135) st st' ∧ (∀ e E, e ≠ 4 → isMd st e E → isMd st' e E) ∧ ((f_X11_spellOne 130 (nI p.length) st = some (some (.int 1), st') ∧ isMd st' 4 (D ++ (tmN Q (p, S p.length, V p.length)).toList) ∧ srt (D ++ (tmN Q (p, S p.length, V p.length)).toList) ∧ ∀ x ∈ (tmN Q (p, S p.length, V p.length)).toList, x.2 ≤ 1000000000000) ∨ (f_X11_spellOne 130 (nI p.length) st = some (some (.int 0), st') ∧ ¬ ((∀ k, lastQ Q (S p.length) = some k → V p.length + k ≤ 1000000000000 ∧ D.length < 200) ∧ srt (D ++ (tmN Q (p, S p.length, V p.length)).toList)))) := by
  have hX : FX st := ⟨L, hF⟩
  obtain ⟨k1, k2, k3⟩ := hk
  obtain ⟨z1, z2, z3, z4, z5, z6⟩ := k1 p.length (Nat.le_refl _)
  obtain ⟨l1, l2⟩ := mqLast hQ z4
  have hQl := hQ.2.2.1
  have hUV : UV = 562949953421311 := rfl
  have hV : V p.length ≤ 13 * UV := Nat.le_trans z6 (Nat.mul_le_mul_right _ (by omega))
  have hDl := hD.2.1
  have same : ∀ e E, e ≠ 4 → isMd st e E → isMd st e E := fun _ _ _ h => h
  rw [e_X11_spellOne_0, cm hX, n46r hX, Option.bind_some, n53r hX, Option.bind_some, r169 hX (by omega), Option.bind_some, z1, r164 hX (by omega), Option.bind_some, l1]
  cases hlq : lastQ Q (S p.length) with
  | none =>
    have htm : (tmN Q (p, S p.length, V p.length)).toList = [] := by unfold tmN; rw [hlq]; rfl
    rw [htm, List.append_nil, if_pos (c := lg_cmp (lastI none) (-1) = 0) (cmp_eq.mpr rfl), z_1]
    exact ⟨st, upto_rfl, same, Or.inl ⟨rfl, hD, hs, fun x hx => by simp at hx⟩⟩
  | some k =>
    have hk2 := l2 k hlq
    have htm : (tmN Q (p, S p.length, V p.length)).toList = [(p, V p.length + k)] := by unfold tmN; dsimp only; rw [hlq]; rfl
    have hne : ¬ (lg_cmp (lastI (some k)) (-1) = 0) := fun q => by
      have := (lastI_m1 (v := some k) (V := UV) (fun u hu => by cases hu; exact hk2) (by decide)).mp (cmp_eq.mp q)
      cases this
    have elk : lastI (some k) = lN k := rfl
    rw [if_neg hne, htm, elk, n55r hX, Option.bind_some, r171 hX (by omega), Option.bind_some, n5 hX, Option.bind_some, nl 4, r135 hX (by omega), Option.bind_some, hD.1, z3, lN_add]
    simp only [z_0, z_1]
    by_cases hfull : D.length = 200
    · rw [if_pos (by rw [hfull]; rfl)]
      refine ⟨st, upto_rfl, same, Or.inr ⟨rfl, fun q => ?_⟩⟩
      have := (q.1 k rfl).2
      omega
    · rw [if_neg (by show ¬ nI _ = nI 200; rw [c_eq (by omega) (by omega)]; exact hfull), isIn_ok, pk_lT (by omega), show (0 : Int64).toInt = 0 from rfl, show (1000000000000 : Int64).toInt = 1000000000000 from rfl, ri_ok]
      by_cases hbig : V p.length + k ≤ 1000000000000
      rotate_left
      · rw [if_neg (c := (0 : Int) ≤ ((V p.length + k : Nat) : Int) ∧ ((V p.length + k : Nat) : Int) ≤ 1000000000000) (fun q => by omega), if_pos rfl]
        refine ⟨st, upto_rfl, same, Or.inr ⟨rfl, fun q => ?_⟩⟩
        exact hbig (q.1 k rfl).1
      have h172 : (sH st)[172]? = some (3, 12) := Fx_sh hF rfl
      obtain ⟨s2, b1, b2, b3, b4⟩ := appendM_ok hF (by omega : 4 < 6) hD (by omega) h172 (by omega) (x := p) (f := 0) (fun j c hj => by rw [Nat.zero_add]; exact k2 j c hj) k3 (by omega) (fun q => by omega) (by omega) (v := V p.length + k) (by omega)
      have X2 := FX_up hX b4
      have F2 := Fx_up hF b4
      have hl2 : (D ++ [(p, V p.length + k)]).length = D.length + 1 := by rw [List.length_append, List.length_singleton]
      rw [if_pos (c := (0 : Int) ≤ ((V p.length + k : Nat) : Int) ∧ ((V p.length + k : Nat) : Int) ≤ 1000000000000) (by omega), if_neg (by decide), n56r hX, Option.bind_some]
      have b1' : f_X11_append 130 (nI 4) 172 0 (nI p.length) (lN (V p.length + k)) st = some (none, s2) := b1
      rw [b1', rv_ok, n5 X2, Option.bind_some, r135 X2 (by omega), Option.bind_some, b2.1, hl2]
      refine ⟨s2, b4, b3, ?_⟩
      by_cases h0 : D.length = 0
      · have hD0 : D = [] := List.length_eq_zero_iff.mp h0
        rw [if_pos (by show nI _ < nI 2; rw [c_lt (by omega) (by omega)]; omega)]
        refine Or.inl ⟨rfl, b2, ?_, fun x hx => by rw [List.mem_singleton.mp hx]; exact hbig⟩
        rw [hD0]
        exact snoc_srt srt_nil (fun y hy => by simp at hy)
      · rw [if_neg (by show ¬ nI _ < nI 2; rw [c_lt (by omega) (by omega)]; omega), Option.bind_some, r135 X2 (by omega), Option.bind_some, Option.bind_some, r135 X2 (by omega), Option.bind_some, b2.1, hl2, show nI (D.length + 1) - (2 : Int32) = nI (D.length - 1) by rw [show (2 : Int32) = nI 2 from rfl, a_sub (by omega)]; congr 1, show nI (D.length + 1) - (1 : Int32) = nI D.length by rw [show (1 : Int32) = nI 1 from rfl, a_sub (by omega)]; congr 1]
        have hg : D[D.length - 1]? = some D[D.length - 1] := List.getElem?_eq_getElem (by omega)
        generalize D[D.length - 1] = y at hg
        have hg1 : (D ++ [(p, V p.length + k)])[D.length - 1]? = some y := by rw [List.getElem?_append_left (by omega)]; exact hg
        have hg2 : (D ++ [(p, V p.length + k)])[D.length]? = some (p, V p.length + k) := by rw [List.getElem?_append_right (Nat.le_refl _), Nat.sub_self]; rfl
        obtain ⟨r, c1, c2, c3⟩ := cmpM_ok F2 (by omega) (by omega) b2 b2 hg1 hg2
        rw [c1, ri_ok]
        by_cases hlt : lcmp y.1 p = -1
        · rw [if_neg (Int32.not_le.mpr (c2.mpr hlt))]
          exact Or.inl ⟨rfl, b2, snoc_srt hs (fun z hz => by rw [hg] at hz; cases hz; exact hlt), fun x hx => by rw [List.mem_singleton.mp hx]; exact hbig⟩
        · rw [if_pos (Int32.not_lt.mp (fun q => hlt (c2.mp q)))]
          refine Or.inr ⟨rfl, fun q => hlt ?_⟩
          exact q.2 (D.length - 1) D.length y _ hg1 hg2 (by omega)
theorem spellL_ok (l : Nat) : ∀ m (S I V : Nat → Nat) (p : List Nat) (W : List Nd) (st : ab_S), 2 * (2401 - W.length) + p.length + 1 = m → W.length ≤ 2401 → Fx L st → mqF st Q → isMd st 4 (W.filterMap (tmN Q)) → srt (W.filterMap (tmN Q)) → (∀ x ∈ W.filterMap (tmN Q), x.2 ≤ 1000000000000) → stkM st Q S I V p → W ++ sr Q S I V p p.length = vs Q 12 0 [] l → (∀ j, j ≤ p.length → (p.take j, S j, V j) ∈ W) → ∃ st', upto onS st st' ∧ (∀ e E, e ≠ 4 → isMd st e E → isMd st' e E) ∧ ((L_X11_spell_48 130 (nI p.length) (nI W.length) st = some (some (.int 1), st') ∧ isMd st' 4 ((vs Q 12 0 [] l).filterMap (tmN Q)) ∧ srt ((vs Q 12 0 [] l).filterMap (tmN Q)) ∧ ∀ x ∈ (vs Q 12 0 [] l).filterMap (tmN Q), x.2 ≤ 1000000000000) ∨ (L_X11_spell_48 130 (nI p.length) (nI W.length) st = some (some (.int 0), st') ∧ ¬ GOODM Q l)) := by
  intro m
  induction m with
  | zero => intro S I V p W st hm; omega
  | succ m ih =>
    intro S I V p W st hm hWl hF hQ hD hsr hO1 hk hWs hin
    have hX : FX st := ⟨L, hF⟩
    obtain ⟨k1, k2, k3⟩ := hk
    obtain ⟨z1, z2, z3, z4, z5, z6⟩ := k1 p.length (Nat.le_refl _)
    have hQl := hQ.2.2.1
    have hUV : UV = 562949953421311 := rfl
    have hA1 := aB_arcs z4
    have hA2 := aB_le hQ (show S p.length + 1 ≤ Q.length by omega)
    have head : L_X11_spell_48 130 (nI p.length) (nI W.length) st = if nI (aB Q (S p.length) + I p.length) = nI (aB Q (S p.length + 1)) then L_X11_spell_201 130 (nI p.length + (-1 : Int32)) (nI W.length) st else Option.bind (ab_wI st 170 (nI p.length) (nI (aB Q (S p.length) + I p.length + 1))) fun s11 => if nI p.length = (12 : Int32) then some (some (.int 0), s11) else if nI (W.length + 1) ≤ (2401 : Int32) then Option.bind (ab_gR s11 130 11 56) fun x12 => Option.bind (ab_gR s11 130 11 48) fun x13 => Option.bind (ab_rI s11 x13 (nI (aB Q (S p.length) + I p.length))) fun x14 => Option.bind (ab_wB s11 x12 (nI p.length) x14.toInt8.toInt32) fun s15 => Option.bind (ab_gR s15 130 11 55) fun x16 => Option.bind (ab_gR s15 130 11 55) fun x17 => Option.bind (ab_rJ s15 x17 (nI p.length)) fun x18 => Option.bind (ab_gR s15 130 11 50) fun x19 => Option.bind (ab_rJ s15 x19 (nI (aB Q (S p.length) + I p.length))) fun x20 => Option.bind (ab_wJ s15 x16 (nI (p.length + 1)) (x18 + x20)) fun s21 => Option.bind (ab_gR s21 130 11 53) fun x22 => Option.bind (ab_gR s21 130 11 49) fun x23 => Option.bind (ab_rI s21 x23 (nI (aB Q (S p.length) + I p.length))) fun x24 => Option.bind (ab_wI s21 x22 (nI (p.length + 1)) x24) fun s25 => Option.bind (ab_gR s25 130 11 54) fun x26 => Option.bind (ab_gR s25 130 11 47) fun x27 => Option.bind (ab_gR s25 130 11 49) fun x28 => Option.bind (ab_rI s25 x28 (nI (aB Q (S p.length) + I p.length))) fun x29 => Option.bind (ab_rI s25 x27 x29) fun x30 => Option.bind (ab_wI s25 x26 (nI (p.length + 1)) x30) fun s31 => ab_ri (f_X11_spellOne 130 (nI (p.length + 1)) s31) fun x33 s32 => if x33 = 0 then some (some (.int 0), s32) else L_X11_spell_201 130 (nI (p.length + 1)) (nI (W.length + 1)) s32 else some (some (.int 0), s11) := by
      rw [e_X11_spell_48, if_neg (nI_pos (by omega)), n53r hX, Option.bind_some, r169 hX (by omega), Option.bind_some, n54r hX, Option.bind_some, r170 hX (by omega), Option.bind_some, n47r hX, Option.bind_some, z1, nI_1, r165 hX (by omega), Option.bind_some, z2, mq165 hQ (by omega)]
      simp only [z_0, Option.bind_some, r170 hX (show p.length < 13 by omega), z2, nI_1]
    cases hy : (arcsQ Q (S p.length))[I p.length]? with
    | none =>
      have hIe : I p.length = (arcsQ Q (S p.length)).length := by
        have := List.getElem?_eq_none_iff.mp hy
        omega
      have hl := lvl_nil (V := V) (p := p) hy
      rw [head, if_pos (by rw [hA1, hIe]), e_X11_spell_201]
      by_cases hp0 : p.length = 0
      · have esr : sr Q S I V p p.length = [] := by rw [hp0] at hl ⊢; exact hl
        refine ⟨st, upto_rfl, fun _ _ _ h => h, Or.inl ⟨?_, ?_, ?_, ?_⟩⟩
        · rw [hp0, show nI 0 + (-1 : Int32) = -1 from rfl, e_X11_spell_48, if_pos (by decide), z_1]
        · rw [esr, List.append_nil] at hWs
          rw [← hWs]; exact hD
        · rw [esr, List.append_nil] at hWs
          rw [← hWs]; exact hsr
        · rw [esr, List.append_nil] at hWs
          rw [← hWs]; exact hO1
      · obtain ⟨d, hd⟩ : ∃ d, p.length = d + 1 := ⟨p.length - 1, by omega⟩
        have hpt : (p.take d).length = d := by rw [List.length_take]; omega
        have esr : sr Q S I V p p.length = sr Q S I V (p.take d) (p.take d).length := by
          rw [hpt]
          rw [hd] at hl ⊢
          show lvl Q S I V p (d + 1) ++ sr Q S I V p d = _
          rw [hl, List.nil_append]
          exact sr_congr (fun i hi => ⟨rfl, rfl, rfl, by rw [List.take_take, Nat.min_eq_left hi]⟩)
        rw [show nI p.length + (-1 : Int32) = nI (p.take d).length by
          rw [hpt, hd, show (-1 : Int32) = - (1 : Int32) from rfl, ← Int32.sub_eq_add_neg, show (1 : Int32) = nI 1 from rfl, a_sub (by omega)]
          rfl]
        exact ih S I V (p.take d) W st (by omega) hWl hF hQ hD hsr hO1 ⟨fun j hj => k1 j (by omega), fun j c hj => k2 j c (by
          have hjl := (List.getElem?_eq_some_iff.mp hj).1
          rw [List.getElem?_take_of_lt (by omega)] at hj
          exact hj), by omega⟩ (by rw [← esr]; exact hWs) (fun j hj => by rw [List.take_take, Nat.min_eq_left (by omega)]; exact hin j (by omega))
    | some y =>
      obtain ⟨y1, y2, y3, y4, y5, y6⟩ := mqArc hQ hy
      have hI : I p.length < (arcsQ Q (S p.length)).length := (List.getElem?_eq_some_iff.mp hy).1
      generalize hix : aB Q (S p.length) + I p.length = A at *
      rw [head, if_neg (by rw [c_eq (by omega) (by omega)]; omega), w170 hX (by omega), Option.bind_some]
      have hmem : (p, S p.length, V p.length) ∈ vs Q 12 0 [] l := by
        rw [← hWs]
        have := hin p.length (Nat.le_refl _)
        rw [List.take_length] at this
        exact List.mem_append_left _ this
      let s1 := uI st 170 p.length (nI (A + 1))
      have u1 : upto onS st s1 := upto_uI (by unfold onS; omega)
      have sameU : ∀ {W' : Nat → Prop} {s' : ab_S}, upto W' st s' → (∀ q, W' q → 169 ≤ q ∧ q ≤ 172) → ∀ e E, isMd st e E → isMd s' e E := fun hu hw e E h => isMd_up h hu (fun q => by have := hw _ q; omega) (fun q => by have := hw _ q; omega) (fun q => by have := hw _ q; omega) (fun q => by have := hw _ q; omega)
      by_cases hd12 : p.length < 12
      rotate_left
      · rw [if_pos (by rw [show p.length = 12 by omega]; rfl)]
        refine ⟨s1, u1, fun e E _ h => sameU (upto_uI rfl : upto (fun q => q = 170) st s1) (fun q hq => by omega) e E h, Or.inr ⟨rfl, fun q => ?_⟩⟩
        have := (q.1 _ hmem).2 (by show 12 ≤ p.length; omega)
        dsimp only at this
        rw [this] at hy
        simp at hy
      rw [if_neg (by show ¬ nI _ = nI 12; rw [c_eq (by omega) (by omega)]; omega)]
      have esr := sr_down (p := p) rfl hd12 hy (V := V)
      by_cases hseen : W.length < 2401
      rotate_left
      · rw [if_neg (by show ¬ nI _ ≤ nI 2401; rw [c_le (by omega) (by omega)]; omega)]
        refine ⟨s1, u1, fun e E _ h => sameU (upto_uI rfl : upto (fun q => q = 170) st s1) (fun q hq => by omega) e E h, Or.inr ⟨rfl, fun q => ?_⟩⟩
        have := q.2.2.1
        rw [← hWs, esr, List.length_append, List.length_cons] at this
        omega
      rw [if_pos (by show nI _ ≤ nI 2401; rw [c_le (by omega) (by omega)]; omega)]
      have X1 : FX s1 := hX
      let s2 := uI s1 172 p.length (by8 y.1)
      let s3 := uJ s2 171 (p.length + 1) (lN (V p.length + y.2.2))
      let s4 := uI s3 169 (p.length + 1) (nI y.2.1)
      let s5 := uI s4 170 (p.length + 1) (nI (aB Q y.2.1))
      have X2 : FX s2 := hX
      have X3 : FX s3 := hX
      have X4 : FX s4 := hX
      have X5 : FX s5 := hX
      have u5 : upto (fun q => 169 ≤ q ∧ q ≤ 172) st s5 := upto_trans (upto_uI (by omega)) (upto_trans (upto_uI (by omega)) (upto_trans (upto_uJ (by omega)) (upto_trans (upto_uI (by omega)) (upto_uI (by omega)))))
      have U5 : upto onS st s5 := upto_mono u5 (fun q hq => by unfold onS; omega)
      have F5 := Fx_up hF u5
      have Q5 : mqF s5 Q := mqF_up hQ U5 (fun q hq => hq)
      have D5 := sameU u5 (fun q hq => hq) 4 _ hD
      have hpl : (p ++ [y.1]).length = p.length + 1 := by rw [List.length_append, List.length_singleton]
      have i169 : ∀ j, sI s5 169 j = if j = p.length + 1 then nI y.2.1 else sI st 169 j := by
        intro j
        show sI (uI (uI (uJ (uI (uI st 170 p.length (nI (A + 1))) 172 p.length (by8 y.1)) 171 (p.length + 1) (lN (V p.length + y.2.2))) 169 (p.length + 1) (nI y.2.1)) 170 (p.length + 1) (nI (aB Q y.2.1))) 169 j = _
        simp [I_uI, I_uJ]
      have i170 : ∀ j, sI s5 170 j = if j = p.length + 1 then nI (aB Q y.2.1) else if j = p.length then nI (A + 1) else sI st 170 j := by
        intro j
        show sI (uI (uI (uJ (uI (uI st 170 p.length (nI (A + 1))) 172 p.length (by8 y.1)) 171 (p.length + 1) (lN (V p.length + y.2.2))) 169 (p.length + 1) (nI y.2.1)) 170 (p.length + 1) (nI (aB Q y.2.1))) 170 j = _
        simp [I_uI, I_uJ]
      have i172 : ∀ j, sI s5 172 j = if j = p.length then by8 y.1 else sI st 172 j := by
        intro j
        show sI (uI (uI (uJ (uI (uI st 170 p.length (nI (A + 1))) 172 p.length (by8 y.1)) 171 (p.length + 1) (lN (V p.length + y.2.2))) 169 (p.length + 1) (nI y.2.1)) 170 (p.length + 1) (nI (aB Q y.2.1))) 172 j = _
        simp [I_uI, I_uJ]
      have i171 : ∀ j, sJ s5 171 j = if j = p.length + 1 then lN (V p.length + y.2.2) else sJ st 171 j := by
        intro j
        show sJ (uI (uI (uJ (uI (uI st 170 p.length (nI (A + 1))) 172 p.length (by8 y.1)) 171 (p.length + 1) (lN (V p.length + y.2.2))) 169 (p.length + 1) (nI y.2.1)) 170 (p.length + 1) (nI (aB Q y.2.1))) 171 j = _
        simp [J_uI, J_uJ]
      have hV : V p.length + y.2.2 ≤ (p.length + 1 + 1) * UV := by
        rw [Nat.succ_mul (p.length + 1)]
        omega
      have K5 : stkM s5 Q (up1 S (p.length + 1) y.2.1) (up1 (up1 I p.length (I p.length + 1)) (p.length + 1) 0) (up1 V (p.length + 1) (V p.length + y.2.2)) (p ++ [y.1]) := by
        refine ⟨fun j hj => ?_, fun j c hj => ?_, by omega⟩
        · rw [hpl] at hj
          rw [i169, i170, i171]
          by_cases hj1 : j = p.length + 1
          · rw [if_pos hj1, if_pos hj1, if_pos hj1, hj1, up1_s, up1_s, up1_s]
            exact ⟨rfl, by rw [Nat.add_zero], rfl, y4, Nat.zero_le _, hV⟩
          · rw [if_neg hj1, if_neg hj1, if_neg hj1, up1_o hj1, up1_o hj1, up1_o hj1]
            obtain ⟨w1, w2, w3, w4, w5, w6⟩ := k1 j (by omega)
            by_cases hj2 : j = p.length
            · rw [if_pos hj2, hj2, up1_s]
              rw [hj2] at w1 w3 w4 w6
              exact ⟨w1, by rw [← hix, Nat.add_assoc], w3, w4, by omega, w6⟩
            · rw [if_neg hj2, up1_o hj2]
              exact ⟨w1, w2, w3, w4, w5, w6⟩
        · have hjl := (List.getElem?_eq_some_iff.mp hj).1
          rw [hpl] at hjl
          rw [i172]
          by_cases hjp : j = p.length
          · subst hjp
            rw [List.getElem?_append_right (Nat.le_refl _), Nat.sub_self] at hj
            have : c = y.1 := by simpa using hj.symm
            rw [if_pos rfl, this]
            exact ⟨rfl, y2⟩
          · rw [List.getElem?_append_left (by omega)] at hj
            rw [if_neg hjp]
            exact k2 j c hj
      obtain ⟨s6, b1, b2, b3⟩ := spell1_ok F5 Q5 D5 hsr K5
      rw [hpl, up1_s, up1_s] at b3
      have q166 : sI s1 166 A = nI y.1 := by show sI (uI st 170 p.length (nI (A + 1))) 166 A = _; rw [I_uI, if_neg (fun z => by omega)]; exact y1
      have q168 : sJ s2 168 A = lN y.2.2 := y5
      have q171 : sJ s2 171 p.length = lN (V p.length) := z3
      have q167 : sI s3 167 A = nI y.2.1 := by
        show sI (uJ (uI (uI st 170 p.length (nI (A + 1))) 172 p.length (by8 y.1)) 171 (p.length + 1) (lN (V p.length + y.2.2))) 167 A = _
        rw [I_uJ, I_uI, if_neg (fun z => by omega), I_uI, if_neg (fun z => by omega)]; exact y3
      have q167' : sI s4 167 A = nI y.2.1 := by
        show sI (uI s3 169 (p.length + 1) (nI y.2.1)) 167 A = _
        rw [I_uI, if_neg (fun z => by omega)]; exact q167
      have q165 : sI s4 165 y.2.1 = nI (aB Q y.2.1) := by
        show sI (uI (uJ (uI (uI st 170 p.length (nI (A + 1))) 172 p.length (by8 y.1)) 171 (p.length + 1) (lN (V p.length + y.2.2))) 169 (p.length + 1) (nI y.2.1)) 165 y.2.1 = _
        rw [I_uI, if_neg (fun z => by omega), I_uJ, I_uI, if_neg (fun z => by omega), I_uI, if_neg (fun z => by omega)]
        exact mq165 hQ (by omega)
      have big : (Option.bind (ab_gR s1 130 11 56) fun x12 => Option.bind (ab_gR s1 130 11 48) fun x13 => Option.bind (ab_rI s1 x13 (nI A)) fun x14 => Option.bind (ab_wB s1 x12 (nI p.length) x14.toInt8.toInt32) fun s15 => Option.bind (ab_gR s15 130 11 55) fun x16 => Option.bind (ab_gR s15 130 11 55) fun x17 => Option.bind (ab_rJ s15 x17 (nI p.length)) fun x18 => Option.bind (ab_gR s15 130 11 50) fun x19 => Option.bind (ab_rJ s15 x19 (nI A)) fun x20 => Option.bind (ab_wJ s15 x16 (nI (p.length + 1)) (x18 + x20)) fun s21 => Option.bind (ab_gR s21 130 11 53) fun x22 => Option.bind (ab_gR s21 130 11 49) fun x23 => Option.bind (ab_rI s21 x23 (nI A)) fun x24 => Option.bind (ab_wI s21 x22 (nI (p.length + 1)) x24) fun s25 => Option.bind (ab_gR s25 130 11 54) fun x26 => Option.bind (ab_gR s25 130 11 47) fun x27 => Option.bind (ab_gR s25 130 11 49) fun x28 => Option.bind (ab_rI s25 x28 (nI A)) fun x29 => Option.bind (ab_rI s25 x27 x29) fun x30 => Option.bind (ab_wI s25 x26 (nI (p.length + 1)) x30) fun s31 => ab_ri (f_X11_spellOne 130 (nI (p.length + 1)) s31) fun x33 s32 => if x33 = 0 then some (some (.int 0), s32) else L_X11_spell_201 130 (nI (p.length + 1)) (nI (W.length + 1)) s32) = ab_ri (f_X11_spellOne 130 (nI (p.length + 1)) s5) fun x33 s32 => if x33 = 0 then some (some (.int 0), s32) else L_X11_spell_201 130 (nI (p.length + 1)) (nI (W.length + 1)) s32 := by
        rw [n56r X1, Option.bind_some, n48r X1, Option.bind_some, r166 X1 (by omega), Option.bind_some, q166, w172 X1 (by omega), Option.bind_some, show ((nI y.1).toInt8.toInt32).toInt8.toInt32 = by8 y.1 from by8_idem y.1]
        show Option.bind (ab_gR s2 130 11 55) _ = _
        rw [n55r X2, Option.bind_some, Option.bind_some, r171 X2 (by omega), Option.bind_some, n50r X2, Option.bind_some, r168 X2 (by omega), Option.bind_some, q171, q168, lN_add, w171 X2 (by omega), Option.bind_some]
        show Option.bind (ab_gR s3 130 11 53) _ = _
        rw [n53r X3, Option.bind_some, n49r X3, Option.bind_some, r167 X3 (by omega), Option.bind_some, q167, w169 X3 (by omega), Option.bind_some]
        show Option.bind (ab_gR s4 130 11 54) _ = _
        rw [n54r X4, Option.bind_some, n47r X4, Option.bind_some, n49r X4, Option.bind_some, r167 X4 (by omega), Option.bind_some, q167', r165 X4 (by omega), Option.bind_some, q165, w170 X4 (by omega), Option.bind_some]
      change ∃ st', upto onS st st' ∧ (∀ e E, e ≠ 4 → isMd st e E → isMd st' e E) ∧ ((Option.bind (ab_gR s1 130 11 56) _ = _ ∧ _ ∧ _) ∨ (Option.bind (ab_gR s1 130 11 56) _ = _ ∧ _))
      rw [big]
      have U6 : upto onS st s6 := upto_trans U5 (upto_mono b1 (fun q hq => Or.inl hq))
      have same6 : ∀ e E, e ≠ 4 → isMd st e E → isMd s6 e E := fun e E he h => b2 e E he (sameU u5 (fun q hq => hq) e E h)
      have fm : (W ++ [(p ++ [y.1], y.2.1, V p.length + y.2.2)]).filterMap (tmN Q) = W.filterMap (tmN Q) ++ (tmN Q (p ++ [y.1], y.2.1, V p.length + y.2.2)).toList := by
        rw [List.filterMap_append]
        congr 1
      rw [← fm] at b3
      rcases b3 with ⟨c1, c2, c3, c4⟩ | ⟨c1, c2⟩
      · rw [c1, ri_ok, if_neg (by decide), e_X11_spell_201]
        have hWn : (W ++ [(p ++ [y.1], y.2.1, V p.length + y.2.2)]).length = W.length + 1 := by rw [List.length_append, List.length_singleton]
        have K6 : stkM s6 Q (up1 S (p.length + 1) y.2.1) (up1 (up1 I p.length (I p.length + 1)) (p.length + 1) 0) (up1 V (p.length + 1) (V p.length + y.2.2)) (p ++ [y.1]) := by
          unfold stkM at K5 ⊢
          rw [(b1.2.2 169 (by omega)).1, (b1.2.2 170 (by omega)).1, (b1.2.2 171 (by omega)).2, (b1.2.2 172 (by omega)).1]
          exact K5
        have nx := ih _ _ _ (p ++ [y.1]) (W ++ [(p ++ [y.1], y.2.1, V p.length + y.2.2)]) s6 (by rw [hWn, hpl]; omega) (by omega) (Fx_up hF U6) (mqF_up hQ U6 (fun q hq => hq)) c2 c3 (fun x hx => by
          rw [fm] at hx
          rcases List.mem_append.mp hx with q | q
          · exact hO1 x q
          · exact c4 x q) K6 (by
          rw [List.append_assoc, ← hWs, esr, hpl]; rfl) (fun j hj => by
          rw [hpl] at hj
          by_cases hj1 : j = p.length + 1
          · rw [hj1, up1_s, up1_s, List.take_of_length_le (by omega)]
            exact List.mem_append_right _ List.mem_cons_self
          · rw [up1_o hj1, up1_o hj1, List.take_append_of_le_length (by omega)]
            exact List.mem_append_left _ (hin j (by omega)))
        rw [hpl, hWn] at nx
        obtain ⟨st', d1, d2, d3⟩ := nx
        exact ⟨st', upto_trans U6 d1, fun e E he h => d2 e E he (same6 e E he h), d3⟩
      · rw [c1, ri_ok, if_pos rfl]
        refine ⟨s6, U6, same6, Or.inr ⟨rfl, fun q => c2 ?_⟩⟩
        obtain ⟨g1, g2, g3, g4⟩ := q
        have hnode : (p ++ [y.1], y.2.1, V p.length + y.2.2) ∈ vs Q 12 0 [] l := by rw [← hWs, esr]; exact List.mem_append_right _ List.mem_cons_self
        refine ⟨fun k hk => ⟨(g1 _ hnode).1 k hk, ?_⟩, ?_⟩
        · rw [← hWs, esr] at g2
          rw [List.filterMap_append, List.filterMap_cons] at g2
          have htm : tmN Q (p ++ [y.1], y.2.1, V p.length + y.2.2) = some (p ++ [y.1], V p.length + y.2.2 + k) := by unfold tmN; dsimp only; rw [hk]; rfl
          rw [htm, List.length_append, List.length_cons] at g2
          omega
        · rw [← hWs, esr, List.append_cons, List.filterMap_append] at g4
          exact srt_app g4
end MSPELL
