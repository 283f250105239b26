/-! THE MODEL READS PATTERNS -/
def onQ (q : Nat) : Prop := q = 130 ∨ (151 ≤ q ∧ q ≤ 158)
def FM (st st' : ab_S) : Prop := upto onQ st st' ∧ ∀ j, j < 26 → sI st' 130 j = sI st 130 j
def LV (st : ab_S) (n : Nat) (A T Q : Nat → Nat) : Prop := (∀ i, i ≤ n → sI st 155 i = nI (A i) ∧ sI st 156 i = nI (T i) ∧ sI st 157 i = nI (Q i)) ∧ ∀ i, i < n → sI st 158 i = nI (A (i + 1))
section MPARSE
variable {st : ab_S} {w : List Nat} {E : List Ed} {N nS p n : Nat} {A T Q : Nat → Nat} {CL SL : Nat → Lg}
theorem FM_rfl : FM st st := ⟨upto_rfl, fun _ _ => rfl⟩
theorem FM_trans {st' st2 : ab_S} (h : FM st st') (h2 : FM st' st2) : FM st st2 := ⟨upto_trans h.1 h2.1, fun j a => (h2.2 j a).trans (h.2 j a)⟩
theorem FM_3 {st' : ab_S} (h : upto on3 st st') (hk : K3 st st') : FM st st' := ⟨upto_mono h (fun q hq => by have hq' : q = 130 ∨ (151 ≤ q ∧ q ≤ 153) := hq; show q = 130 ∨ _; omega), fun j hj => hk j (by omega) (by omega) (by omega)⟩
theorem FM_4 {st' : ab_S} (h : upto on4 st st') (hk : ∀ j, j < 26 → sI st' 130 j = sI st 130 j) : FM st st' := ⟨upto_mono h (fun q hq => by have hq' : q = 130 ∨ (151 ≤ q ∧ q ≤ 154) := hq; show q = 130 ∨ _; omega), hk⟩
theorem FM_1 {st' : ab_S} (h : upto (fun q => q = 130) st st') (hk : K3 st st') : FM st st' := ⟨upto_mono h (fun q hq => Or.inl hq), fun j hj => hk j (by omega) (by omega) (by omega)⟩
theorem FM_u {o k : Nat} {v : Int32} (ho : 155 ≤ o ∧ o ≤ 158) : FM st (uI st o k v) := ⟨upto_uI (by show o = 130 ∨ _; omega), fun j _ => by rw [I_uI, if_neg (by omega)]⟩
theorem FM_f {k : Nat} {v : Int32} (hk : 26 ≤ k) : FM st (uI st 130 k v) := ⟨upto_uI (Or.inl rfl), fun j hj => by rw [I_uI, if_neg (by omega)]⟩
theorem FM_X {st' : ab_S} (h : FX st) (hF : FM st st') : FX st' := FX_up h hF.1
theorem MU_lv (h : MU st w E N nS) {o k : Nat} {v : Int32} (ho : 155 ≤ o ∧ o ≤ 158) : MU (uI st o k v) w E N nS := MU_up h (upto_uI (W := fun q => q = o) rfl) (by omega) (fun s c _ _ => by rw [I_uI, if_neg (by omega)]) (by rw [I_uI, if_neg (by omega)]) (by rw [I_uI, if_neg (by omega)]) (by rw [I_uI, if_neg (by omega)]) (by rw [I_uI, if_neg (by omega)])
theorem K3_lv {o k : Nat} {v : Int32} (ho : 155 ≤ o ∧ o ≤ 158) : K3 st (uI st o k v) := fun j _ _ _ => by rw [I_uI, if_neg (by omega)]
theorem lv3 {st' : ab_S} (h : upto on3 st st') {q : Nat} (hq : 155 ≤ q ∧ q ≤ 158) (i : Nat) : sI st' q i = sI st q i := by rw [(h.2.2 q (by show ¬ (q = 130 ∨ _); omega)).1]
theorem lv1 {st' : ab_S} (h : upto (fun q => q = 130) st st') {q : Nat} (hq : 155 ≤ q ∧ q ≤ 158) (i : Nat) : sI st' q i = sI st q i := by rw [(h.2.2 q (by omega)).1]
theorem openSeq_ok (h : MU st w E N nS) (hE : E.length < 400) (hN : N < 400) (hn : n < 6) {a : Nat} (ha : sI st 155 n = nI a) : ∃ st', f_X11_openSequence 130 (nI n) st = some (none, st') ∧ MU st' w (E ++ [(a, N, none)]) (N + 1) nS ∧ FM st st' ∧ K3 st st' ∧ ∀ q, 155 ≤ q ∧ q ≤ 158 → ∀ i, sI st' q i = if q = 157 ∧ i = n then nI N else sI st q i := by
  obtain ⟨s2, a1, a2, a3, a4⟩ := spot_ok h hN
  have M4 := MU_lv a2 (o := 157) (k := n) (v := nI N) (by omega)
  obtain ⟨s9, b1, b2, b3, b4⟩ := step_ok M4 hE (u := a) (v := N)
  have c155 : sI (uI s2 157 n (nI N)) 155 n = nI a := by rw [I_uI, if_neg (by omega), lv1 a3 (by omega)]; exact ha
  have c157 : sI (uI s2 157 n (nI N)) 157 n = nI N := by rw [I_uI, if_pos ⟨rfl, rfl⟩]
  refine ⟨s9, ?_, b2, FM_trans (FM_1 a3 a4) (FM_trans (FM_u (by omega)) (FM_3 b3 b4)), K3_trans a4 (K3_trans (K3_lv (by omega)) b4), fun q hq i => ?_⟩
  · rw [e_X11_openSequence_0, cm h.1, n39r h.1, Option.bind_some, a1, ri_ok, w157 a2.1 hn, Option.bind_some, n37r M4.1, Option.bind_some, r155 M4.1 hn, Option.bind_some, c155, n39r M4.1, Option.bind_some, r157 M4.1 hn, Option.bind_some, c157, b1, rv_ok]
  · rw [lv3 b3 hq, I_uI]
    by_cases z : q = 157 ∧ i = n
    · rw [if_pos z, if_pos z]
    · rw [if_neg z, if_neg z, lv1 a3 hq]
theorem openAlt_ok (h : MU st w E N nS) (hE : E.length < 400) (hN : N < 399) (hn : n < 6) {a : Nat} : ∃ st', f_X11_openAlt 130 (nI n) (nI a) st = some (none, st') ∧ MU st' w (E ++ [(a, N + 1, none)]) (N + 2) nS ∧ FM st st' ∧ K3 st st' ∧ ∀ q, 155 ≤ q ∧ q ≤ 158 → ∀ i, sI st' q i = if q = 155 ∧ i = n then nI a else if q = 156 ∧ i = n then nI N else if q = 157 ∧ i = n then nI (N + 1) else sI st q i := by
  have M1 := MU_lv h (o := 155) (k := n) (v := nI a) (by omega)
  obtain ⟨s2, a1, a2, a3, a4⟩ := spot_ok M1 (by omega)
  have M4 := MU_lv a2 (o := 156) (k := n) (v := nI N) (by omega)
  have c155 : sI (uI s2 156 n (nI N)) 155 n = nI a := by rw [I_uI, if_neg (by omega), lv1 a3 (by omega), I_uI, if_pos ⟨rfl, rfl⟩]
  obtain ⟨s9, b1, b2, b3, b4, b5⟩ := openSeq_ok M4 hE (by omega) hn c155
  refine ⟨s9, ?_, b2, FM_trans (FM_u (by omega)) (FM_trans (FM_1 a3 a4) (FM_trans (FM_u (by omega)) b3)), K3_trans (K3_lv (by omega)) (K3_trans a4 (K3_trans (K3_lv (by omega)) b4)), fun q hq i => ?_⟩
  · rw [e_X11_openAlt_0, cm h.1, n37r h.1, Option.bind_some, w155 h.1 hn, Option.bind_some, n38r M1.1, Option.bind_some, a1, ri_ok, w156 a2.1 hn, Option.bind_some, b1, rv_ok]
  · rw [b5 q hq i, I_uI, lv1 a3 hq, I_uI]
    by_cases z1 : q = 155 ∧ i = n
    · rw [if_pos z1, if_pos z1, if_neg (by omega), if_neg (by omega)]
    · rw [if_neg z1, if_neg z1]
      by_cases z2 : q = 156 ∧ i = n
      · rw [if_neg (c := q = 157 ∧ i = n) (by omega), if_pos z2, if_pos z2]
      · rw [if_neg z2, if_neg z2]
theorem LV_up {st' : ab_S} (h : LV st n A T Q) (hn : ∀ q, 155 ≤ q ∧ q ≤ 158 → ∀ i, sI st' q i = sI st q i) : LV st' n A T Q := ⟨fun i hi => by rw [hn 155 (by omega), hn 156 (by omega), hn 157 (by omega)]; exact h.1 i hi, fun i hi => by rw [hn 158 (by omega)]; exact h.2 i hi⟩
theorem LV_Q {st' : ab_S} (h : LV st n A T Q) (hn : ∀ q, 155 ≤ q ∧ q ≤ 158 → ∀ i, sI st' q i = if q = 157 ∧ i = n then nI N else sI st q i) : LV st' n A T (up1 Q n N) := by
  refine ⟨fun i hi => ?_, fun i hi => by rw [hn 158 (by omega), if_neg (by omega)]; exact h.2 i hi⟩
  rw [hn 155 (by omega), hn 156 (by omega), hn 157 (by omega), if_neg (by omega), if_neg (by omega)]
  by_cases z : i = n
  · rw [if_pos ⟨rfl, z⟩, z, up1_s]
    exact ⟨(h.1 n (by omega)).1, (h.1 n (by omega)).2.1, rfl⟩
  · rw [if_neg (fun y => z y.2), up1_o z]
    exact h.1 i hi
/-- a piece's end -/
theorem closeEnd_ok (h : MU st w E N nS) (hE : E.length < 400) (hN : N < 400) (hn : n < 6) {b : Nat} : ∃ st', L_X11_closePiece_65 130 (nI n) (nI b) st = some (none, st') ∧ MU st' w (E ++ [(b, N, none)]) (N + 1) nS ∧ FM st st' ∧ K3 st st' ∧ ∀ q, 155 ≤ q ∧ q ≤ 158 → ∀ i, sI st' q i = if q = 157 ∧ i = n then nI N else sI st q i := by
  obtain ⟨s2, a1, a2, a3, a4⟩ := spot_ok h hN
  have M4 := MU_lv a2 (o := 157) (k := n) (v := nI N) (by omega)
  obtain ⟨s9, b1, b2, b3, b4⟩ := step_ok M4 hE (u := b) (v := N)
  have c157 : sI (uI s2 157 n (nI N)) 157 n = nI N := by rw [I_uI, if_pos ⟨rfl, rfl⟩]
  refine ⟨s9, ?_, b2, FM_trans (FM_1 a3 a4) (FM_trans (FM_u (by omega)) (FM_3 b3 b4)), K3_trans a4 (K3_trans (K3_lv (by omega)) b4), fun q hq i => ?_⟩
  · rw [e_X11_closePiece_65, n39r h.1, Option.bind_some, a1, ri_ok, w157 a2.1 hn, Option.bind_some, n39r M4.1, Option.bind_some, r157 M4.1 hn, Option.bind_some, c157, b1, rv_ok]
  · rw [lv3 b3 hq, I_uI]
    by_cases z : q = 157 ∧ i = n
    · rw [if_pos z, if_pos z]
    · rw [if_neg z, if_neg z, lv1 a3 hq]
theorem closePiece_ok (h : MU st w E N nS) (hG : GI E N n A T Q CL SL) (hL : LV st n A T Q) (h33 : sI st 130 33 = nI p) (h35 : sI st 130 35 = -1) (hp : p ≤ w.length) (hE : E.length < 390) (hN : N < 400) (hn : n < 6) {b d : Nat} {l : Lg} (hP : PC E N n T Q b d l) : ∃ st' E', f_X11_closePiece 130 (nI n) (nI b) (nI d) st = some (none, st') ∧ FM st st' ∧ MU st' w E' (N + 1) nS ∧ GI E' (N + 1) n A T (up1 Q n N) CL (up1 SL n (clsP w l (SL n) p).1) ∧ LV st' n A T (up1 Q n N) ∧ sI st' 130 33 = nI (clsP w l (SL n) p).2 ∧ sI st' 130 35 = -1 ∧ (clsP w l (SL n) p).2 ≤ w.length ∧ p ≤ (clsP w l (SL n) p).2 ∧ E'.length + 2 * p ≤ E.length + 1 + 2 * (clsP w l (SL n) p).2 := by
  have X := h.1
  have hl := h.2.2.1
  have hw := lgM h
  rw [e_X11_closePiece_0, cm X, here_ok h h33 (by omega), ri_ok, lgif 42 42 rfl (by omega) hw, lgif 43 43 rfl (by omega) hw, lgif 63 63 rfl (by omega) hw]
  by_cases hrep : ∃ s, w[p]? = some s ∧ (s = 42 ∨ s = 43 ∨ s = 63)
  rotate_left
  · have e1 : clsP w l (SL n) p = (catL (SL n) l, p) := by
      unfold clsP
      cases hg : w[p]? with
      | none => rfl
      | some c =>
        dsimp only
        rw [if_neg (fun z => hrep ⟨c, hg, z⟩)]
    rw [e1, if_neg (fun z => hrep ⟨42, z, by omega⟩), if_neg (fun z => hrep ⟨43, z, by omega⟩), if_neg (fun z => hrep ⟨63, z, by omega⟩)]
    obtain ⟨s', a1, a2, a3, a4, a5⟩ := closeEnd_ok h (by omega) hN hn (b := d)
    refine ⟨s', E ++ [(d, N, none)], a1, a3, a2, gi_norep hG hP, LV_Q hL a5, (a4 33 (by omega) (by omega) (by omega)).trans h33, (a4 35 (by omega) (by omega) (by omega)).trans h35, hp, Nat.le_refl _, ?_⟩
    rw [List.length_append]
    have : ([(d, N, none)] : List Ed).length = 1 := rfl
    dsimp only
    omega
  · obtain ⟨s, hg, hs⟩ := hrep
    have hpl := (List.getElem?_eq_some_iff.mp hg).1
    have hs256 := hw s (List.mem_of_getElem? hg)
    have e1 : clsP w l (SL n) p = (catL (SL n) (repL s l), p + 1) := by
      unfold clsP
      rw [hg]
      dsimp only
      rw [if_pos hs]
    have e27 : (if w[p]? = some 42 then L_X11_closePiece_27 130 (nI n) (nI b) (nI d) (lg w p) st else if w[p]? = some 43 then L_X11_closePiece_27 130 (nI n) (nI b) (nI d) (lg w p) st else if w[p]? = some 63 then L_X11_closePiece_27 130 (nI n) (nI b) (nI d) (lg w p) st else L_X11_closePiece_65 130 (nI n) (nI d) st) = L_X11_closePiece_27 130 (nI n) (nI b) (nI d) (lg w p) st := by
      rcases hs with rfl | rfl | rfl
      · rw [if_pos hg]
      · rw [if_neg (by rw [hg]; intro z; cases z), if_pos hg]
      · rw [if_neg (by rw [hg]; intro z; cases z), if_neg (by rw [hg]; intro z; cases z), if_pos hg]
    rw [e27, e1, lg_some hg, e_X11_closePiece_27, im X, Option.bind_some, h33, nI_1, pm X, Option.bind_some]
    have M2 : MU (uI st 130 33 (nI (p + 1))) w E N nS := MU_f h (by omega)
    have sif : ∀ (k : Nat), k < 256 → ((nI s = nI k) ↔ s = k) := fun k hk => by rw [c_eq (by omega) (by omega)]
    have o3 : ∀ {s' s2 : ab_S}, upto on3 s' s2 → ∀ q, 155 ≤ q ∧ q ≤ 158 → ∀ i, sI s2 q i = sI s' q i := fun h q hq i => lv3 h hq i
    -- the steps of a repeat
    have ops : ∃ s3, (if nI s = (63 : Int32) then L_X11_closePiece_51 130 (nI n) (nI b) (nI d) (nI s) (uI st 130 33 (nI (p + 1))) else ab_rv (f_X11_step 130 (nI d) (nI b) (-1) (uI st 130 33 (nI (p + 1)))) fun s3 => L_X11_closePiece_51 130 (nI n) (nI b) (nI d) (nI s) s3) = L_X11_closePiece_65 130 (nI n) (nI d) s3 ∧ MU s3 w (E ++ opE s b d) N nS ∧ upto on3 (uI st 130 33 (nI (p + 1))) s3 ∧ K3 (uI st 130 33 (nI (p + 1))) s3 := by
      rcases hs with rfl | rfl | rfl
      · obtain ⟨s1, a1, a2, a3, a4⟩ := step_ok M2 (by omega) (u := d) (v := b)
        obtain ⟨s2, b1, b2, b3, b4⟩ := step_ok a2 (by rw [List.length_append]; show E.length + 1 < 400; omega) (u := b) (v := d)
        refine ⟨s2, ?_, ?_, upto_trans a3 b3, K3_trans a4 b4⟩
        · rw [if_neg (by decide), a1, rv_ok, e_X11_closePiece_51, if_neg (by decide), b1, rv_ok]
        · rw [List.append_assoc] at b2
          exact b2
      · obtain ⟨s1, a1, a2, a3, a4⟩ := step_ok M2 (by omega) (u := d) (v := b)
        refine ⟨s1, ?_, a2, a3, a4⟩
        rw [if_neg (by decide), a1, rv_ok, e_X11_closePiece_51, if_pos (by decide)]
      · obtain ⟨s1, a1, a2, a3, a4⟩ := step_ok M2 (by omega) (u := b) (v := d)
        refine ⟨s1, ?_, a2, a3, a4⟩
        rw [if_pos (by decide), e_X11_closePiece_51, if_neg (by decide), a1, rv_ok]
    obtain ⟨s3, c1, c2, c3, c4⟩ := ops
    have hlen : (opE s b d).length ≤ 2 := by
      rcases hs with rfl | rfl | rfl
      · exact Nat.le_refl 2
      · exact Nat.le_succ 1
      · exact Nat.le_succ 1
    obtain ⟨s', a1, a2, a3, a4, a5⟩ := closeEnd_ok c2 (by rw [List.length_append]; omega) hN hn (b := d)
    have F1 : FM st (uI st 130 33 (nI (p + 1))) := FM_f (by omega)
    refine ⟨s', E ++ opE s b d ++ [(d, N, none)], c1.trans a1, FM_trans F1 (FM_trans (FM_3 c3 c4) a3), a2, gi_rep hG hP hs, LV_Q (LV_up (LV_up hL (fun q hq i => by rw [I_uI, if_neg (by omega)])) (o3 c3)) a5, ?_, ?_, by dsimp only; omega, by dsimp only; omega, ?_⟩
    · rw [a4 33 (by omega) (by omega) (by omega), c4 33 (by omega) (by omega) (by omega), I_uI, if_pos ⟨rfl, rfl⟩]
    · rw [a4 35 (by omega) (by omega) (by omega), c4 35 (by omega) (by omega) (by omega), I_uI, if_neg (by omega)]
      exact h35
    · rw [List.length_append, List.length_append]
      have : ([(d, N, none)] : List Ed).length = 1 := rfl
      dsimp only
      omega
theorem gi_end (h : GI E N n A T Q CL SL) (x : List Nat) : Pt (E ++ [(Q n, T n, none)]) (A n) (T n) x ↔ orL (CL n) (SL n) x := by
  have g := gi_bar h
  have q2 := h.g2 n (Nat.le_refl _)
  have e := (g.g9 n (Nat.le_refl _) x).1
  rw [up1_s] at e
  rw [← e]
  have c : ∀ e ∈ E ++ [(Q n, T n, none), (A n, N, none)], e ∈ E ++ [(Q n, T n, none)] ∨ e = (A n, N, none) := by
    intro e he
    rcases List.mem_append.mp he with q | q
    · exact Or.inl (List.mem_append.mpr (Or.inl q))
    · simp at q
      rcases q with q | q
      · exact Or.inl (List.mem_append.mpr (Or.inr (by rw [q]; exact List.mem_singleton.mpr rfl)))
      · exact Or.inr q
  have lt : ∀ e ∈ E ++ [(Q n, T n, none)], e.1 < N := by
    intro e he
    rcases List.mem_append.mp he with q | q
    · exact (h.g1 e q).1
    · rw [List.mem_singleton.mp q]; exact q2.2.2.2.1
  refine (Pt_keep_iff (p := N) q2.2.1 (fun e he => ?_) (fun e he => ?_) (fun e he hh => ?_)).symm
  · rcases List.mem_append.mp he with q | q
    · exact List.mem_append.mpr (Or.inl q)
    · rw [List.mem_singleton.mp q]; simp
  · rcases c e he with q | q
    · exact Or.inl q
    · rw [q]; exact Or.inr (Nat.le_refl _)
  · rcases c e he with q | q
    · have := lt e q; omega
    · rw [q] at hh ⊢; dsimp only at hh; omega
def MP (st : ab_S) (w : List Nat) (p n : Nat) (E : List Ed) (N nS : Nat) (A T Q : Nat → Nat) (CL SL : Nat → Lg) : Prop := MU st w E N nS ∧ GI E N n A T Q CL SL ∧ LV st n A T Q ∧ sI st 130 33 = nI p ∧ sI st 130 35 = -1 ∧ p ≤ w.length ∧ n ≤ 4 ∧ nS ≤ p ∧ N ≤ 3 + 3 * p ∧ E.length ≤ 1 + 3 * p ∧ A 0 = 0
theorem bad_end (h : FX st) {e : Nat} (he : e < 1000) (h35 : sI st 130 35 = nI e) {l1 l2 : Int32} : L_X11_parseAll_13 130 l1 l2 st = some (none, uI st 130 36 (sI st 156 0)) := by
  have e269 : L_X11_parseAll_269 130 st = some (none, uI st 130 36 (sI st 156 0)) := by
    rw [e_X11_parseAll_269, n38r h, Option.bind_some, show (0 : Int32) = nI 0 from rfl, r156 h (by omega), Option.bind_some, pm h, Option.bind_some]
  rw [e_X11_parseAll_13]
  split
  · exact e269
  · rw [im h, Option.bind_some, h35, if_neg (by rw [c_m1e (by omega)]; exact id)]
    exact e269
end MPARSE
