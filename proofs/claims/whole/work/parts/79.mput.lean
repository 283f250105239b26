/-! THE MODEL'S BEGINNINGS: fields 17 how many, 18 first (144), 19 last (145), 20 deep (146), 21 least (147), 22 sums (148), 23 stateOf (149), 24 stands (150), 25 states -/
section MB
variable {L : Nat} {st : ab_S}
theorem n3 (h : FX st) : ab_gR st 130 11 3 = some 133 := h.elim fun _ h => by rw [gR_ok (Fx_sh h rfl), Fx_rf h (v := 133) (by decide)]
theorem n4 (h : FX st) : ab_gR st 130 11 4 = some 134 := h.elim fun _ h => by rw [gR_ok (Fx_sh h rfl), Fx_rf h (v := 134) (by decide)]
theorem n5 (h : FX st) : ab_gR st 130 11 5 = some 135 := h.elim fun _ h => by rw [gR_ok (Fx_sh h rfl), Fx_rf h (v := 135) (by decide)]
theorem n18r (h : FX st) : ab_gR st 130 11 18 = some 144 := h.elim fun _ h => by rw [gR_ok (Fx_sh h rfl), Fx_rf h (v := 144) (by decide)]
theorem n19r (h : FX st) : ab_gR st 130 11 19 = some 145 := h.elim fun _ h => by rw [gR_ok (Fx_sh h rfl), Fx_rf h (v := 145) (by decide)]
theorem n20r (h : FX st) : ab_gR st 130 11 20 = some 146 := h.elim fun _ h => by rw [gR_ok (Fx_sh h rfl), Fx_rf h (v := 146) (by decide)]
theorem n21r (h : FX st) : ab_gR st 130 11 21 = some 147 := h.elim fun _ h => by rw [gR_ok (Fx_sh h rfl), Fx_rf h (v := 147) (by decide)]
theorem n22r (h : FX st) : ab_gR st 130 11 22 = some 148 := h.elim fun _ h => by rw [gR_ok (Fx_sh h rfl), Fx_rf h (v := 148) (by decide)]
theorem n23r (h : FX st) : ab_gR st 130 11 23 = some 149 := h.elim fun _ h => by rw [gR_ok (Fx_sh h rfl), Fx_rf h (v := 149) (by decide)]
theorem n24r (h : FX st) : ab_gR st 130 11 24 = some 150 := h.elim fun _ h => by rw [gR_ok (Fx_sh h rfl), Fx_rf h (v := 150) (by decide)]
theorem im (h : FX st) {k : Nat} : ab_gI st 130 11 k = some (sI st 130 k) := h.elim fun _ h => gI_ok (Fx_sh h rfl)
theorem pm (h : FX st) {k : Nat} {v : Int32} : ab_pI st 130 11 k v = some (uI st 130 k v) := h.elim fun _ h => pI_ok (Fx_sh h rfl)
theorem cm (h : FX st) {r : Option ab_R} : ab_rc st 130 11 r = r := h.elim fun _ h => rc_ok (Fx_sh h rfl)
theorem r133 (h : FX st) {n : Nat} (hn : n < 1200) : ab_rI st 133 (nI n) = some (sI st 133 n) := h.elim fun _ h => rI_ok (Fx_sh h (o := 133) rfl) hn (by omega)
theorem r134 (h : FX st) {n : Nat} (hn : n < 1200) : ab_rJ st 134 (nI n) = some (sJ st 134 n) := h.elim fun _ h => rJ_ok (Fx_sh h (o := 134) rfl) hn (by omega)
theorem r135 (h : FX st) {n : Nat} (hn : n < 6) : ab_rI st 135 (nI n) = some (sI st 135 n) := h.elim fun _ h => rI_ok (Fx_sh h (o := 135) rfl) hn (by omega)
theorem r144 (h : FX st) {n : Nat} (hn : n < 2401) : ab_rI st 144 (nI n) = some (sI st 144 n) := h.elim fun _ h => rI_ok (Fx_sh h (o := 144) rfl) hn (by omega)
theorem w144 (h : FX st) {n : Nat} (hn : n < 2401) {v : Int32} : ab_wI st 144 (nI n) v = some (uI st 144 n v) := h.elim fun _ h => wI_ok (Fx_sh h (o := 144) rfl) hn (by omega)
theorem r145 (h : FX st) {n : Nat} (hn : n < 2401) : ab_rI st 145 (nI n) = some (sI st 145 n) := h.elim fun _ h => rI_ok (Fx_sh h (o := 145) rfl) hn (by omega)
theorem w145 (h : FX st) {n : Nat} (hn : n < 2401) {v : Int32} : ab_wI st 145 (nI n) v = some (uI st 145 n v) := h.elim fun _ h => wI_ok (Fx_sh h (o := 145) rfl) hn (by omega)
theorem r146 (h : FX st) {n : Nat} (hn : n < 2401) : ab_rI st 146 (nI n) = some (sI st 146 n) := h.elim fun _ h => rI_ok (Fx_sh h (o := 146) rfl) hn (by omega)
theorem w146 (h : FX st) {n : Nat} (hn : n < 2401) {v : Int32} : ab_wI st 146 (nI n) v = some (uI st 146 n v) := h.elim fun _ h => wI_ok (Fx_sh h (o := 146) rfl) hn (by omega)
theorem r147 (h : FX st) {n : Nat} (hn : n < 2401) : ab_rJ st 147 (nI n) = some (sJ st 147 n) := h.elim fun _ h => rJ_ok (Fx_sh h (o := 147) rfl) hn (by omega)
theorem w147 (h : FX st) {n : Nat} (hn : n < 2401) {v : Int64} : ab_wJ st 147 (nI n) v = some (uJ st 147 n v) := h.elim fun _ h => wJ_ok (Fx_sh h (o := 147) rfl) hn (by omega)
theorem r148 (h : FX st) {n : Nat} (hn : n < 2401) : ab_rJ st 148 (nI n) = some (sJ st 148 n) := h.elim fun _ h => rJ_ok (Fx_sh h (o := 148) rfl) hn (by omega)
theorem w148 (h : FX st) {n : Nat} (hn : n < 2401) {v : Int64} : ab_wJ st 148 (nI n) v = some (uJ st 148 n v) := h.elim fun _ h => wJ_ok (Fx_sh h (o := 148) rfl) hn (by omega)
theorem r149 (h : FX st) {n : Nat} (hn : n < 2401) : ab_rI st 149 (nI n) = some (sI st 149 n) := h.elim fun _ h => rI_ok (Fx_sh h (o := 149) rfl) hn (by omega)
theorem w149 (h : FX st) {n : Nat} (hn : n < 2401) {v : Int32} : ab_wI st 149 (nI n) v = some (uI st 149 n v) := h.elim fun _ h => wI_ok (Fx_sh h (o := 149) rfl) hn (by omega)
theorem r150 (h : FX st) {n : Nat} (hn : n < 2401) : ab_rI st 150 (nI n) = some (sI st 150 n) := h.elim fun _ h => rI_ok (Fx_sh h (o := 150) rfl) hn (by omega)
theorem w150 (h : FX st) {n : Nat} (hn : n < 2401) {v : Int32} : ab_wI st 150 (nI n) v = some (uI st 150 n v) := h.elim fun _ h => wI_ok (Fx_sh h (o := 150) rfl) hn (by omega)
/-- the terms that begin with b are those from t to e -/
def sgm (D : Dc) (b : List Nat) (t e : Nat) : Prop := t ≤ e ∧ e ≤ D.length ∧ ∀ i x, D[i]? = some x → (b <+: x.1 ↔ t ≤ i ∧ i < e)
theorem filt_seg {α : Type} {P : α → Bool} : ∀ {l : List α} {t e : Nat}, t ≤ e → e ≤ l.length → (∀ i x, l[i]? = some x → (P x = true ↔ t ≤ i ∧ i < e)) → l.filter P = (l.take e).drop t
  | [], t, e, _, he, _ => by
    have : e = 0 := by simpa using he
    simp
  | x :: l, t, e, hte, he, h => by
    have h0 := h 0 x rfl
    have hs : ∀ i y, l[i]? = some y → (P y = true ↔ t ≤ i + 1 ∧ i + 1 < e) := fun i y hy => h (i + 1) y (by simpa using hy)
    cases e with
    | zero =>
      have ht : t = 0 := by omega
      subst ht
      have hx : ¬ P x = true := fun q => by have := (h0.mp q).2; omega
      rw [List.filter_cons_of_neg hx, filt_seg (t := 0) (e := 0) (Nat.le_refl _) (Nat.zero_le _) (fun i y hy => by rw [hs i y hy]; omega)]
      simp
    | succ e =>
      simp only [List.length_cons] at he
      cases t with
      | zero =>
        have hx : P x = true := h0.mpr (by omega)
        rw [List.filter_cons_of_pos hx, filt_seg (t := 0) (e := e) (Nat.zero_le _) (by omega) (fun i y hy => by rw [hs i y hy]; omega)]
        simp
      | succ t =>
        have hx : ¬ P x = true := fun q => by have := (h0.mp q).1; omega
        rw [List.filter_cons_of_neg hx, filt_seg (t := t) (e := e) (by omega) (by omega) (fun i y hy => by rw [hs i y hy]; omega)]
        simp
theorem sgm_mem {D : Dc} {b : List Nat} {t e : Nat} (h : sgm D b t e) : mem_b D b = (D.take e).drop t := by
  unfold mem_b
  exact filt_seg h.1 h.2.1 (fun i x hx => by rw [List.isPrefixOf_iff_prefix]; exact h.2.2 i x hx)
theorem sgm_get {D : Dc} {b : List Nat} {t e i : Nat} (h : sgm D b t e) (hi : i < e - t) : (mem_b D b)[i]? = D[t + i]? := by
  rw [sgm_mem h, List.getElem?_drop, List.getElem?_take_of_lt (by omega)]
theorem sgm_len {D : Dc} {b : List Nat} {t e : Nat} (h : sgm D b t e) : (mem_b D b).length = e - t := by
  rw [sgm_mem h, List.length_drop, List.length_take, Nat.min_eq_left h.2.1]
theorem sgm_rest {D : Dc} {b : List Nat} {t e i : Nat} (h : sgm D b t e) (hi : i < e - t) {x : List Nat × Nat} (hx : D[t + i]? = some x) : (rest D b)[i]? = some (x.1.drop b.length, x.2 - least D b) := by
  unfold rest
  rw [List.getElem?_map, sgm_get h hi, hx]; rfl
theorem sgm_at {D : Dc} {b : List Nat} {t e i : Nat} (h : sgm D b t e) (hi : i < e - t) : ∃ x, D[t + i]? = some x ∧ b <+: x.1 ∧ x ∈ mem_b D b ∧ least D b ≤ x.2 := by
  have hl := h.2.1
  have hg : D[t + i]? = some D[t + i] := List.getElem?_eq_getElem (by omega)
  have hp := (h.2.2 _ _ hg).mpr (by omega)
  have hm : D[t + i] ∈ mem_b D b := mem_b_iff.mpr ⟨List.mem_of_getElem? hg, hp⟩
  exact ⟨_, hg, hp, hm, least_le hm⟩
/-- the sum that the model takes of a rest -/
def sm1 (a : Int64) (y : List Nat × Nat) : Int64 := y.1.foldl (fun a s => a * 31 + lN s + 1) (a * 1000003 + lN y.2)
def smR (r : Dc) : Int64 := r.foldl sm1 (lN r.length)
def putS (st : ab_S) (k t e n : Nat) (lo sm : Int64) : ab_S := uJ (uJ (uI (uI (uI (uI st 130 17 (nI k + 1)) 144 k (nI t)) 145 k (nI e)) 146 k (nI n)) 147 k lo) 148 k sm
theorem put_up {k t e n : Nat} {lo sm : Int64} : upto (fun q => q = 130 ∨ (144 ≤ q ∧ q ≤ 148)) st (putS st k t e n lo sm) := by
  unfold putS
  refine upto_trans (upto_uI (Or.inl rfl)) (upto_trans (upto_uI ?_) (upto_trans (upto_uI ?_) (upto_trans (upto_uI ?_) (upto_trans (upto_uJ ?_) (upto_uJ ?_))))) <;> omega
theorem mMd {d : Nat} {D : Dc} (hM : isMd st d D) (hd : d < 5) {i : Nat} {x : List Nat × Nat} (hx : D[i]? = some x) : 200 * d + i < 1200 ∧ sI st 133 (200 * d + i) = nI x.1.length ∧ x.1.length ≤ 12 ∧ sJ st 134 (200 * d + i) = lN x.2 := by
  have hl := lt_of_get hx
  have h2 := hM.2.1
  obtain ⟨b1, b2, b3, b4, b5⟩ := hM.2.2 i x hx
  exact ⟨by omega, b1, b2, b4⟩
theorem put_okM (hF : Fx L st) {d : Nat} {D : Dc} (hd : d < 5) (hM : isMd st d D) (hok : okD D) {k t e : Nat} {b : List Nat} (hk : k < 2401) (hb : b.length ≤ 12) (hks : sI st 130 17 = nI k) (hs : sgm D b t e) : f_X11_put 130 (nI d) (nI t) (nI e) (nI b.length) st = some (none, putS st k t e b.length (lN (least D b)) (smR (rest D b))) := by
  have hX : FX st := ⟨L, hF⟩
  obtain ⟨hte, heD, hsg⟩ := hs
  have hs : sgm D b t e := ⟨hte, heD, hsg⟩
  have hD := hM.2.1
  let s3 := uI (uI (uI (uI st 130 17 (nI k + 1)) 144 k (nI t)) 145 k (nI e)) 146 k (nI b.length)
  have u3 : upto (fun q => q = 130 ∨ (144 ≤ q ∧ q ≤ 148)) st s3 := upto_trans (upto_uI (Or.inl rfl)) (upto_trans (upto_uI (Or.inr (by omega))) (upto_trans (upto_uI (Or.inr (by omega))) (upto_uI (Or.inr (by omega)))))
  have X3 : FX s3 := FX_up hX u3
  have M3 : isMd s3 d D := isMd_up hM u3 (by omega) (by omega) (by omega) (by omega)
  -- the sum
  let s4 := uJ s3 147 k (lN (least D b))
  have u4 : upto (fun q => q = 130 ∨ (144 ≤ q ∧ q ≤ 148)) st s4 := upto_trans u3 (upto_uJ (Or.inr (by omega)))
  have X4 : FX s4 := FX_up hX u4
  have F4 : Fx L s4 := Fx_up hF u4
  have M4 : isMd s4 d D := isMd_up hM u4 (by omega) (by omega) (by omega) (by omega)
  have inner : ∀ (x : List Nat × Nat) (i : Nat), D[i]? = some x → ∀ j p (a : Int64), x.1.length - p = j → p ≤ x.1.length → L_X11_put_152 130 (nI d) (nI e) (nI b.length) (nI k) (lN (least D b)) a (nI i) (nI p) s4 = L_X11_put_117 130 (nI d) (nI e) (nI b.length) (nI k) (lN (least D b)) ((x.1.drop p).foldl (fun a s => a * 31 + lN s + 1) a) (nI (i + 1)) s4 := by
    intro x i hx j
    obtain ⟨c1, c2, c3, c4⟩ := mMd M4 hd hx
    induction j with
    | zero =>
      intro p a hj hp
      rw [e_X11_put_152, n3 X4, Option.bind_some, nl 200, a_mul, a_add, r133 X4 c1, Option.bind_some, c2, if_pos (by rw [c_le (by omega) (by omega)]; omega), nI_1, List.drop_eq_nil_of_le (by omega)]
      rfl
    | succ j ih =>
      intro p a hj hp
      have hg : x.1[p]? = some x.1[p] := List.getElem?_eq_getElem (by omega)
      have h256 := ((hM.2.2 i x hx).2.2.1 p _ hg).2
      rw [e_X11_put_152, n3 X4, Option.bind_some, nl 200, a_mul, a_add, r133 X4 c1, Option.bind_some, c2, if_neg (by rw [c_le (by omega) (by omega)]; omega), letter_ok F4 M4 (by omega) hx hg, ri_ok, nI_1, nI_l (by omega), ih (p + 1) _ (by omega) (by omega), drop_some hg]
      rfl
  have sumL : ∀ j i, e - i = j → t ≤ i → i ≤ e → L_X11_put_117 130 (nI d) (nI e) (nI b.length) (nI k) (lN (least D b)) (((rest D b).take (i - t)).foldl sm1 (lN (rest D b).length)) (nI i) s4 = some (none, uJ s4 148 k (smR (rest D b))) := by
    intro j
    induction j with
    | zero =>
      intro i hj hi he
      rw [e_X11_put_117, if_pos (by rw [c_le (by omega) (by omega)]; omega), n22r X4, Option.bind_some, w148 X4 hk, Option.bind_some, List.take_of_length_le (by rw [rest_len, sgm_len hs]; omega)]
      rfl
    | succ j ih =>
      intro i hj hi he
      obtain ⟨x, hx, hp, hm, hle⟩ := sgm_at hs (i := i - t) (by omega)
      have hxi : D[i]? = some x := by rw [show i = t + (i - t) by omega]; exact hx
      have hr := sgm_rest hs (i := i - t) (by omega) hx
      obtain ⟨c1, c2, c3, c4⟩ := mMd M4 hd hxi
      have hbl : b.length ≤ x.1.length := hp.length_le
      rw [e_X11_put_117, if_neg (by rw [c_le (by omega) (by omega)]; omega), n4 X4, Option.bind_some, nl 200, a_mul, a_add, r134 X4 c1, Option.bind_some, c4, inner x i hxi _ b.length _ rfl hbl]
      have := ih (i + 1) (by omega) (by omega) (by omega)
      rw [show i + 1 - t = (i - t) + 1 by omega, List.take_succ, hr] at this
      rw [← this, List.foldl_append]
      congr 1
      show _ = sm1 _ _
      unfold sm1
      congr 1
      rw [← lN_sub hle, Int64.sub_eq_add_neg, Int64.sub_eq_add_neg, Int64.add_assoc]
  -- the least
  have lowL : ∀ j i v, e - i = j → t ≤ i → i ≤ e → t < e → (∃ y, D[t]? = some y ∧ v = (((mem_b D b).map (fun x => x.2)).take (i - t)).foldl min y.2) → L_X11_put_67 130 (nI d) (nI t) (nI e) (nI b.length) (nI k) (lN v) (nI i) s3 = some (none, uJ s4 148 k (smR (rest D b))) := by
    intro j
    induction j with
    | zero =>
      rintro i v hj hi he hlt ⟨y, hy, hv⟩
      have hml : ((mem_b D b).map (fun x => x.2)).length = e - t := by rw [List.length_map, sgm_len hs]
      have hvl : v = least D b := by
        rw [hv, List.take_of_length_le (by omega)]
        unfold least
        have h0 : (mem_b D b)[0]? = some y := by rw [sgm_get hs (by omega)]; exact hy
        cases hq : mem_b D b with
        | nil => rw [hq] at h0; simp at h0
        | cons z zs =>
          rw [hq] at h0
          have : z = y := by simpa using h0
          subst this
          show (z.2 :: zs.map _).foldl min z.2 = minO (z.2 :: zs.map _)
          show (zs.map _).foldl min (min z.2 z.2) = (zs.map _).foldl min z.2
          rw [Nat.min_self]
      rw [e_X11_put_67, if_pos (by rw [c_le (by omega) (by omega)]; omega), n21r X3, Option.bind_some, w147 X3 hk, Option.bind_some, hvl, a_sub hte, nI_l (by omega)]
      have := sumL _ t rfl (Nat.le_refl _) hte
      rw [Nat.sub_self, List.take_zero, rest_len, sgm_len hs] at this
      exact this
    | succ j ih =>
      rintro i v hj hi he hlt ⟨y, hy, hv⟩
      obtain ⟨x, hx, hp, hm, hle⟩ := sgm_at hs (i := i - t) (by omega)
      have hxi : D[i]? = some x := by rw [show i = t + (i - t) by omega]; exact hx
      obtain ⟨c1, c2, c3, c4⟩ := mMd M3 hd hxi
      have hxo := (hok.2.2 x (List.mem_of_getElem? hxi)).2.2
      have hyo := (hok.2.2 y (List.mem_of_getElem? hy)).2.2
      have hvo : v ≤ 1000000000000 := by rw [hv]; exact Nat.le_trans (foldl_min).1 hyo
      rw [e_X11_put_67, if_neg (by rw [c_le (by omega) (by omega)]; omega), n4 X3, Option.bind_some, nl 200, a_mul, a_add, r134 X3 c1, Option.bind_some, c4, e_X11_lesser_0]
      have em : (if 0 ≤ lg_cmp (lN v) (lN x.2) then some (some (Value.long (lN x.2)), s3) else some (some (Value.long (lN v)), s3)) = some (some (Value.long (lN (min v x.2))), s3) := by
        by_cases hc : x.2 ≤ v
        · rw [if_pos ((lc_ge (by omega) (by omega)).mpr hc), Nat.min_eq_right hc]
        · rw [if_neg (fun q => hc ((lc_ge (by omega) (by omega)).mp q)), Nat.min_eq_left (by omega)]
      rw [em, rl_ok, nI_1]
      refine ih (i + 1) _ (by omega) (by omega) (by omega) hlt ⟨y, hy, ?_⟩
      have hg : ((mem_b D b).map (fun x => x.2))[i - t]? = some x.2 := by rw [List.getElem?_map, sgm_get hs (by omega), hx]; rfl
      rw [show i + 1 - t = (i - t) + 1 by omega, List.take_succ, hg, List.foldl_append, ← hv]
      rfl
  rw [e_X11_put_0, cm hX, im hX, Option.bind_some, Option.bind_some, pm hX, Option.bind_some, hks]
  have X1 : FX (uI st 130 17 (nI k + 1)) := hX
  rw [n18r X1, Option.bind_some, w144 X1 hk, Option.bind_some]
  have X2 : FX (uI (uI st 130 17 (nI k + 1)) 144 k (nI t)) := hX
  rw [n19r X2, Option.bind_some, w145 X2 hk, Option.bind_some]
  have X2' : FX (uI (uI (uI st 130 17 (nI k + 1)) 144 k (nI t)) 145 k (nI e)) := hX
  rw [n20r X2', Option.bind_some, w146 X2' hk, Option.bind_some]
  change (if nI e ≤ nI t then L_X11_put_62 130 (nI d) (nI t) (nI e) (nI b.length) (nI k) 0 s3 else Option.bind (ab_gR s3 130 11 4) _) = some (none, uJ s4 148 k (smR (rest D b)))
  by_cases hlt : t < e
  · have hg : D[t]? = some D[t] := List.getElem?_eq_getElem (by omega)
    obtain ⟨c1, c2, c3, c4⟩ := mMd M3 hd hg
    rw [if_neg (by rw [c_le (by omega) (by omega)]; omega), n4 X3, Option.bind_some, nl 200, a_mul, a_add, r134 X3 c1, Option.bind_some, c4, e_X11_put_62]
    refine lowL _ t _ rfl (Nat.le_refl _) hte hlt ⟨_, hg, ?_⟩
    rw [Nat.sub_self, List.take_zero]
    rfl
  · rw [if_pos (by rw [c_le (by omega) (by omega)]; omega), e_X11_put_62, e_X11_put_67, if_pos (by rw [c_le (by omega) (by omega)]; omega), n21r X3, Option.bind_some, w147 X3 hk, Option.bind_some, a_sub hte, nI_l (by omega)]
    have h0 : least D b = 0 := by
      unfold least
      have : (mem_b D b) = [] := List.length_eq_zero_iff.mp (by rw [sgm_len hs]; omega)
      rw [this]; rfl
    have := sumL _ t rfl (Nat.le_refl _) hte
    rw [Nat.sub_self, List.take_zero, rest_len, sgm_len hs] at this
    have e0 : (0 : Int64) = lN (least D b) := by rw [h0]; rfl
    rw [e0]
    exact this
theorem isShared_ok (hF : Fx L st) {d : Nat} {D : Dc} (hd : d < 5) (hM : isMd st d D) {t u n : Nat} {x y : List Nat × Nat} (hx : D[t]? = some x) (hy : D[u]? = some y) (hn : n ≤ x.1.length) : f_X11_isShared 130 (nI d) (nI t) (nI u) (nI n) st = some (some (.int (if x.1.take n <+: y.1 then 1 else 0)), st) := by
  have hX : FX st := ⟨L, hF⟩
  obtain ⟨c1, c2, c3, c4⟩ := mMd hM hd hx
  obtain ⟨e1, e2, e3, e4⟩ := mMd hM hd hy
  have key : n ≤ y.1.length → ∀ j i, n - i = j → i ≤ n → x.1.take i <+: y.1 → L_X11_isShared_27 130 (nI d) (nI t) (nI u) (nI n) 1 (nI i) st = some (some (.int (if x.1.take n <+: y.1 then 1 else 0)), st) := by
    intro hny j
    induction j with
    | zero =>
      intro i hj hi hp
      have hin : i = n := by omega
      subst hin
      rw [e_X11_isShared_27, if_pos (by rw [c_le (by omega) (by omega)]; omega), z_1, if_pos hp]
    | succ j ih =>
      intro i hj hi hp
      have hg : x.1[i]? = some x.1[i] := List.getElem?_eq_getElem (by omega)
      have hg2 : y.1[i]? = some y.1[i] := List.getElem?_eq_getElem (by omega)
      have s1 := ((hM.2.2 t x hx).2.2.1 i _ hg).2
      have s2 := ((hM.2.2 u y hy).2.2.1 i _ hg2).2
      have hiff : x.1.take (i + 1) <+: y.1 ↔ x.1[i] = y.1[i] := by
        rw [List.take_succ, hg]
        show x.1.take i ++ [x.1[i]] <+: y.1 ↔ _
        rw [snoc_pre, List.length_take, Nat.min_eq_left (by omega), hg2]
        exact ⟨fun q => (Option.some.inj q.2).symm, fun q => ⟨hp, by rw [q]⟩⟩
      rw [e_X11_isShared_27, if_neg (by rw [c_le (by omega) (by omega)]; omega), if_neg (by decide), letter_ok hF hM (by omega) hx hg, ri_ok, letter_ok hF hM (by omega) hy hg2, ri_ok, e_X11_isShared_63, e_X11_isShared_63, nI_1]
      by_cases hxy : x.1[i] = y.1[i]
      · rw [if_pos (by rw [hxy])]
        exact ih (i + 1) (by omega) (by omega) (hiff.mpr hxy)
      · rw [if_neg (by rw [c_eq (by omega) (by omega)]; exact hxy), e_X11_isShared_27, z_0]
        have hno : ¬ x.1.take n <+: y.1 := fun q => hxy (hiff.mp ((List.take_prefix_take_left (show i + 1 ≤ n by omega)).trans q))
        rw [if_neg hno]
        by_cases hle : nI n ≤ nI (i + 1)
        · rw [if_pos hle]
        · rw [if_neg hle, if_pos rfl]
  rw [e_X11_isShared_0, cm hX, n3 hX, Option.bind_some, nl 200, a_mul, a_add, r133 hX e1, Option.bind_some, e2, e_X11_isShared_22, e_X11_isShared_22]
  by_cases hny : n ≤ y.1.length
  · rw [if_neg (by rw [c_lt (by omega) (by omega)]; omega)]
    exact key hny _ 0 rfl (Nat.zero_le _) (List.nil_prefix)
  · rw [if_pos (by rw [c_lt (by omega) (by omega)]; omega), e_X11_isShared_27, z_0]
    have hno : ¬ x.1.take n <+: y.1 := fun q => by have := q.length_le; rw [List.length_take, Nat.min_eq_left hn] at this; omega
    rw [if_neg hno]
    by_cases hle : nI n ≤ (0 : Int32)
    · rw [if_pos hle]
    · rw [if_neg hle, if_pos rfl]
end MB
