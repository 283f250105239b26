/-! THE MODEL LISTS THE BEGINNINGS -/
theorem cpl_cons {a b : Nat} {x y : List Nat} : cpl (a :: x) (b :: y) = if a = b then cpl x y + 1 else 0 := rfl
theorem begsGo_app : ∀ {A B : Dc} {prev : List Nat}, begsGo prev (A ++ B) = begsGo prev A ++ begsGo (lastW prev A) B
  | [], _, _ => rfl
  | x :: A, B, prev => by
    show newP prev x.1 ++ begsGo x.1 (A ++ B) = newP prev x.1 ++ begsGo x.1 A ++ begsGo (lastW x.1 A) B
    rw [begsGo_app, List.append_assoc]
theorem begs_at {D : Dc} {t : Nat} {x : List Nat × Nat} (hx : D[t]? = some x) : ∃ R, begs D = begs (D.take t) ++ newP (lastW [] (D.take t)) x.1 ++ R := by
  refine ⟨begsGo x.1 (D.drop (t + 1)), ?_⟩
  have e : D = D.take t ++ (x :: D.drop (t + 1)) := by
    have h1 := (List.take_append_drop t D).symm
    have hl := List.getElem?_eq_some_iff.mp hx
    rw [List.drop_eq_getElem_cons hl.1, hl.2] at h1
    exact h1
  unfold begs
  rw [show begsGo [] D = begsGo [] (D.take t ++ (x :: D.drop (t + 1))) from congrArg _ e, begsGo_app]
  show [] :: (begsGo [] (D.take t) ++ (newP (lastW [] (D.take t)) x.1 ++ begsGo x.1 (D.drop (t + 1)))) = _
  simp
def bgS (st : ab_S) (D : Dc) (k : Nat) (b : List Nat) : Prop := ∃ t e, sI st 144 k = nI t ∧ sI st 145 k = nI e ∧ sgm D b t e ∧ sI st 146 k = nI b.length ∧ sJ st 147 k = lN (least D b) ∧ sJ st 148 k = smR (rest D b)
def bgA (st : ab_S) (D : Dc) (n : Nat) : Prop := sI st 130 17 = nI n ∧ ∀ k b, k < n → (begs D)[k]? = some b → bgS st D k b
section MBD
variable {L : Nat} {st : ab_S} {D : Dc}
theorem bgS_up {W : Nat → Prop} {st' : ab_S} {k : Nat} {b : List Nat} (h : bgS st D k b) (hu : upto W st st') (hW : ∀ q, 144 ≤ q → q ≤ 148 → ¬ W q) : bgS st' D k b := by
  obtain ⟨t, e, a1, a2, a3, a4, a5, a6⟩ := h
  exact ⟨t, e, by rw [(hu.2.2 144 (hW _ (by omega) (by omega))).1]; exact a1, by rw [(hu.2.2 145 (hW _ (by omega) (by omega))).1]; exact a2, a3, by rw [(hu.2.2 146 (hW _ (by omega) (by omega))).1]; exact a4, by rw [(hu.2.2 147 (hW _ (by omega) (by omega))).2]; exact a5, by rw [(hu.2.2 148 (hW _ (by omega) (by omega))).2]; exact a6⟩
theorem putS_s {k t e n : Nat} {lo sm : Int64} (j : Nat) : sI (putS st k t e n lo sm) 144 j = (if j = k then nI t else sI st 144 j) ∧ sI (putS st k t e n lo sm) 145 j = (if j = k then nI e else sI st 145 j) ∧ sI (putS st k t e n lo sm) 146 j = (if j = k then nI n else sI st 146 j) ∧ sJ (putS st k t e n lo sm) 147 j = (if j = k then lo else sJ st 147 j) ∧ sJ (putS st k t e n lo sm) 148 j = (if j = k then sm else sJ st 148 j) ∧ sI (putS st k t e n lo sm) 130 j = if j = 17 then nI k + 1 else sI st 130 j := by
  unfold putS
  simp [I_uI, I_uJ, J_uJ, J_uI]
theorem bgA_put {k t e : Nat} {b : List Nat} (h : bgA st D k) (hb : (begs D)[k]? = some b) (hs : sgm D b t e) : bgA (putS st k t e b.length (lN (least D b)) (smR (rest D b))) D (k + 1) := by
  refine ⟨by rw [(putS_s 17).2.2.2.2.2, if_pos rfl, nI_1], fun j c hj hc => ?_⟩
  obtain ⟨p1, p2, p3, p4, p5, -⟩ := putS_s (st := st) (k := k) (t := t) (e := e) (n := b.length) (lo := lN (least D b)) (sm := smR (rest D b)) j
  by_cases hjk : j = k
  · subst hjk
    rw [hb] at hc
    cases hc
    exact ⟨t, e, by rw [p1, if_pos rfl], by rw [p2, if_pos rfl], hs, by rw [p3, if_pos rfl], by rw [p4, if_pos rfl], by rw [p5, if_pos rfl]⟩
  · obtain ⟨t', e', a1, a2, a3, a4, a5, a6⟩ := h.2 j c (by omega) hc
    exact ⟨t', e', by rw [p1, if_neg hjk]; exact a1, by rw [p2, if_neg hjk]; exact a2, a3, by rw [p3, if_neg hjk]; exact a4, by rw [p4, if_neg hjk]; exact a5, by rw [p5, if_neg hjk]; exact a6⟩
/-- the terms that share a new beginning stand behind one another -/
theorem sgm_new (hs : srt D) {t e : Nat} {x : List Nat × Nat} (hx : D[t]? = some x) {b : List Nat} (hb : b <+: x.1) (hnew : b ∉ begs (D.take t)) (hte : t < e) (he : e ≤ D.length) (hin : ∀ i y, t ≤ i → i < e → D[i]? = some y → b <+: y.1) (hout : ∀ y, D[e]? = some y → ¬ b <+: y.1) : sgm D b t e := by
  refine ⟨by omega, he, fun i y hy => ⟨fun hp => ?_, fun hi => hin i y hi.1 hi.2 hy⟩⟩
  have h1 : t ≤ i := by
    rcases Nat.lt_or_ge i t with q | q
    · refine absurd (begs_iff.mpr (Or.inr ⟨y, ?_, hp⟩)) hnew
      exact List.mem_of_getElem? (show (D.take t)[i]? = some y by rw [List.getElem?_take_of_lt q]; exact hy)
    · exact q
  refine ⟨h1, ?_⟩
  rcases Nat.lt_or_ge i e with q | q
  · exact q
  · exfalso
    have hl := lt_of_get hy
    have hg : D[e]? = some D[e] := List.getElem?_eq_getElem (by omega)
    by_cases hie : i = e
    · subst hie
      exact hout y hy hp
    · exact hout _ hg (between (hs t e x _ hx hg hte) (hs e i _ y hg hy (by omega)) hb hp)
theorem bend_ok (hF : Fx L st) {d : Nat} (hd : d < 5) (hM : isMd st d D) (hok : okD D) {t n k : Nat} {x : List Nat × Nat} (hx : D[t]? = some x) (hn : n ≤ x.1.length) (hk : k < 2401) (hnew : x.1.take n ∉ begs (D.take t)) (hA : bgA st D k) (hb : (begs D)[k]? = some (x.1.take n)) : ∃ st', L_X11_build_122 130 (nI d) (nI t) (nI n) (nI (t + 1)) st = L_X11_build_100 130 (nI d) (nI t) (nI (n + 1)) st' ∧ bgA st' D (k + 1) ∧ upto (fun q => q = 130 ∨ (144 ≤ q ∧ q ≤ 148)) st st' ∧ (∀ j, j ≠ 17 → sI st' 130 j = sI st 130 j) := by
  have hX : FX st := ⟨L, hF⟩
  have hD := hM.2.1
  have hl := lt_of_get hx
  have hx12 := (hok.2.2 x (List.mem_of_getElem? hx)).1
  have htl : (x.1.take n).length = n := by rw [List.length_take, Nat.min_eq_left hn]
  have hpx : x.1.take n <+: x.1 := List.take_prefix _ _
  have fin : ∀ e, t < e → e ≤ D.length → (∀ i y, t ≤ i → i < e → D[i]? = some y → x.1.take n <+: y.1) → (∀ y, D[e]? = some y → ¬ x.1.take n <+: y.1) → ∃ st', L_X11_build_152 130 (nI d) (nI t) (nI n) (nI e) st = L_X11_build_100 130 (nI d) (nI t) (nI (n + 1)) st' ∧ bgA st' D (k + 1) ∧ upto (fun q => q = 130 ∨ (144 ≤ q ∧ q ≤ 148)) st st' ∧ (∀ j, j ≠ 17 → sI st' 130 j = sI st 130 j) := by
    intro e h1 h2 h3 h4
    have hs := sgm_new hok.1 hx hpx hnew h1 h2 h3 h4
    have hp := put_okM hF hd hM hok hk (by rw [htl]; omega) hA.1 hs
    refine ⟨_, ?_, bgA_put hA hb hs, put_up, fun j hj => by rw [(putS_s j).2.2.2.2.2, if_neg hj]⟩
    rw [htl] at hp
    rw [e_X11_build_152, hp, rv_ok, nI_1, htl]
  have key : ∀ j e, D.length - e = j → t < e → e ≤ D.length → (∀ i y, t ≤ i → i < e → D[i]? = some y → x.1.take n <+: y.1) → ∃ st', L_X11_build_122 130 (nI d) (nI t) (nI n) (nI e) st = L_X11_build_100 130 (nI d) (nI t) (nI (n + 1)) st' ∧ bgA st' D (k + 1) ∧ upto (fun q => q = 130 ∨ (144 ≤ q ∧ q ≤ 148)) st st' ∧ (∀ j, j ≠ 17 → sI st' 130 j = sI st 130 j) := by
    intro j
    induction j with
    | zero =>
      intro e hj h1 h2 h3
      rw [e_X11_build_122, n5 hX, Option.bind_some, r135 hX (by omega), Option.bind_some, hM.1, if_pos (by rw [c_le (by omega) (by omega)]; omega)]
      exact fin e h1 h2 h3 (fun y hy => by have := lt_of_get hy; omega)
    | succ j ih =>
      intro e hj h1 h2 h3
      have hg : D[e]? = some D[e] := List.getElem?_eq_getElem (by omega)
      rw [e_X11_build_122, n5 hX, Option.bind_some, r135 hX (by omega), Option.bind_some, hM.1, if_neg (by rw [c_le (by omega) (by omega)]; omega), isShared_ok hF hd hM hx hg hn, ri_ok]
      by_cases hp : x.1.take n <+: D[e].1
      · rw [if_pos hp, if_neg (by decide), nI_1]
        refine ih (e + 1) (by omega) (by omega) (by omega) (fun i y hi1 hi2 hy => ?_)
        by_cases hie : i = e
        · subst hie
          rw [hg] at hy
          cases hy
          exact hp
        · exact h3 i y hi1 (by omega) hy
      · rw [if_neg hp, if_pos rfl]
        exact fin e h1 h2 h3 (fun y hy => by rw [hg] at hy; cases hy; exact hp)
  exact key _ (t + 1) rfl (by omega) (by omega) (fun i y hi1 hi2 hy => by
    have : i = t := by omega
    subst this
    rw [hx] at hy
    cases hy
    exact hpx)
theorem bterm_ok (hF : Fx L st) {d : Nat} (hd : d < 5) (hM : isMd st d D) (hok : okD D) {t : Nat} {x : List Nat × Nat} (hx : D[t]? = some x) (hA : bgA st D (begs (D.take t)).length) : ∃ st', L_X11_build_100 130 (nI d) (nI t) (nI (cpl (lastW [] (D.take t)) x.1 + 1)) st = L_X11_build_20 130 (nI d) (nI (t + 1)) st' ∧ bgA st' D (begs (D.take (t + 1))).length ∧ upto (fun q => q = 130 ∨ (144 ≤ q ∧ q ≤ 148)) st st' ∧ (∀ j, j ≠ 17 → sI st' 130 j = sI st 130 j) := by
  have hD := hM.2.1
  have hl := lt_of_get hx
  have hx12 := (hok.2.2 x (List.mem_of_getElem? hx)).1
  have hcp := (cpl_le (x := lastW [] (D.take t)) (y := x.1)).2
  obtain ⟨R, hR⟩ := begs_at hx
  have hn0 := begs_2401 hok
  have e1 : (begs (D.take (t + 1))).length = (begs (D.take t)).length + (x.1.length - cpl (lastW [] (D.take t)) x.1) := by
    rw [take_snoc' hx, begs_snoc, List.length_append, newP_len]
  have e2 : (begs D).length = (begs (D.take t)).length + (x.1.length - cpl (lastW [] (D.take t)) x.1) + R.length := by
    rw [hR, List.length_append, List.length_append, newP_len]
  have hsr : srt (D.take t ++ [x]) := by rw [← take_snoc' hx]; exact srt_take hok.1
  generalize hcpe : cpl (lastW [] (D.take t)) x.1 = cp at *
  have key : ∀ j n st1, x.1.length - n = j → cp ≤ n → n ≤ x.1.length → bgA st1 D ((begs (D.take t)).length + (n - cp)) → upto (fun q => q = 130 ∨ (144 ≤ q ∧ q ≤ 148)) st st1 → (∀ j, j ≠ 17 → sI st1 130 j = sI st 130 j) → ∃ st', L_X11_build_100 130 (nI d) (nI t) (nI (n + 1)) st1 = L_X11_build_20 130 (nI d) (nI (t + 1)) st' ∧ bgA st' D (begs (D.take (t + 1))).length ∧ upto (fun q => q = 130 ∨ (144 ≤ q ∧ q ≤ 148)) st st' ∧ (∀ j, j ≠ 17 → sI st' 130 j = sI st 130 j) := by
    intro j
    induction j with
    | zero =>
      intro n st1 hj h1 h2 hA1 hu hf
      have X1 : FX st1 := FX_up ⟨L, hF⟩ hu
      have M1 := isMd_up hM hu (by omega) (by omega) (by omega) (by omega)
      obtain ⟨c1, c2, c3, c4⟩ := mMd M1 hd hx
      refine ⟨st1, ?_, ?_, hu, hf⟩
      · rw [e_X11_build_100, n3 X1, Option.bind_some, nl 200, a_mul, a_add, r133 X1 c1, Option.bind_some, c2, if_pos (by rw [c_lt (by omega) (by omega)]; omega), nI_1]
      · rw [e1, show x.1.length = n by omega]; exact hA1
    | succ j ih =>
      intro n st1 hj h1 h2 hA1 hu hf
      have F1 : Fx L st1 := Fx_up hF hu
      have X1 : FX st1 := ⟨L, F1⟩
      have M1 := isMd_up hM hu (by omega) (by omega) (by omega) (by omega)
      obtain ⟨c1, c2, c3, c4⟩ := mMd M1 hd hx
      have htl : (x.1.take (n + 1)).length = n + 1 := by rw [List.length_take, Nat.min_eq_left (by omega)]
      have hb : (begs D)[(begs (D.take t)).length + (n - cp)]? = some (x.1.take (n + 1)) := by
        rw [hR, List.getElem?_append_left (by rw [List.length_append, newP_len, hcpe]; omega), List.getElem?_append_right (by omega), Nat.add_sub_cancel_left, newP_get (by rw [hcpe]; omega), hcpe, show cp + 1 + (n - cp) = n + 1 by omega]
      have hnew : x.1.take (n + 1) ∉ begs (D.take t) := by
        rw [new_iff hsr (List.take_prefix _ _) (fun q => by rw [q] at htl; simp at htl), htl, hcpe]
        omega
      obtain ⟨st2, g1, g2, g3, g4⟩ := bend_ok F1 hd M1 hok hx (n := n + 1) (by omega) (by omega) hnew hA1 hb
      rw [e_X11_build_100, n3 X1, Option.bind_some, nl 200, a_mul, a_add, r133 X1 c1, Option.bind_some, c2, if_neg (by rw [c_lt (by omega) (by omega)]; omega), nI_1, g1]
      exact ih (n + 1) st2 (by omega) (by omega) (by omega) (by rw [show n + 1 - cp = n - cp + 1 by omega]; exact g2) (upto_trans hu g3) (fun j hj => (g4 j hj).trans (hf j hj))
  exact key _ cp st rfl (Nat.le_refl _) hcp (by rw [Nat.sub_self]; exact hA) upto_rfl (fun _ _ => rfl)
theorem blist_ok (hF : Fx L st) {d : Nat} (hd : d < 5) (hM : isMd st d D) (hok : okD D) : ∃ st', f_X11_build 130 (nI d) st = L_X11_build_181 130 (nI d) 0 st' ∧ bgA st' D (begs D).length ∧ sI st' 130 25 = 0 ∧ upto (fun q => q = 130 ∨ (144 ≤ q ∧ q ≤ 148)) st st' ∧ (∀ j, j ≠ 17 → j ≠ 25 → sI st' 130 j = sI st 130 j) := by
  have hX : FX st := ⟨L, hF⟩
  have hD := hM.2.1
  have key : ∀ j t st1, D.length - t = j → t ≤ D.length → bgA st1 D (begs (D.take t)).length → upto (fun q => q = 130 ∨ (144 ≤ q ∧ q ≤ 148)) st st1 → (∀ j, j ≠ 17 → sI st1 130 j = sI st 130 j) → ∃ st', L_X11_build_20 130 (nI d) (nI t) st1 = L_X11_build_181 130 (nI d) 0 st' ∧ bgA st' D (begs D).length ∧ sI st' 130 25 = 0 ∧ upto (fun q => q = 130 ∨ (144 ≤ q ∧ q ≤ 148)) st st' ∧ (∀ j, j ≠ 17 → j ≠ 25 → sI st' 130 j = sI st 130 j) := by
    intro j
    induction j with
    | zero =>
      intro t st1 hj ht hA hu hf
      have X1 : FX st1 := FX_up hX hu
      have M1 := isMd_up hM hu (by omega) (by omega) (by omega) (by omega)
      have u2 : upto (fun q => q = 130 ∨ (144 ≤ q ∧ q ≤ 148)) st1 (uI st1 130 25 0) := upto_uI (Or.inl rfl)
      refine ⟨uI st1 130 25 0, ?_, ?_, ?_, upto_trans hu u2, fun j h1 h2 => ?_⟩
      · rw [e_X11_build_20, n5 X1, Option.bind_some, r135 X1 (by omega), Option.bind_some, M1.1, if_pos (by rw [c_le (by omega) (by omega)]; omega), pm X1, Option.bind_some]
      · rw [List.take_of_length_le (by omega)] at hA
        refine ⟨by rw [I_uI, if_neg (fun z => by omega)]; exact hA.1, fun k b hk hb => ?_⟩
        exact bgS_up (hA.2 k b hk hb) (upto_uI rfl : upto (fun q => q = 130) st1 (uI st1 130 25 0)) (fun q _ _ => by omega)
      · rw [I_uI, if_pos ⟨rfl, rfl⟩]
      · rw [I_uI, if_neg (fun z => h2 z.2)]; exact hf j h1
    | succ j ih =>
      intro t st1 hj ht hA hu hf
      have F1 : Fx L st1 := Fx_up hF hu
      have X1 : FX st1 := ⟨L, F1⟩
      have M1 := isMd_up hM hu (by omega) (by omega) (by omega) (by omega)
      have hg : D[t]? = some D[t] := List.getElem?_eq_getElem (by omega)
      generalize D[t] = x at hg
      obtain ⟨st2, g1, g2, g3, g4⟩ := bterm_ok F1 hd M1 hok hg hA
      have nxt := ih (t + 1) st2 (by omega) (by omega) g2 (upto_trans hu g3) (fun j hj => (g4 j hj).trans (hf j hj))
      rw [e_X11_build_20, n5 X1, Option.bind_some, r135 X1 (by omega), Option.bind_some, M1.1, if_neg (by rw [c_le (by omega) (by omega)]; omega)]
      obtain ⟨c1, c2, c3, c4⟩ := mMd M1 hd hg
      have e95 : ∀ m, m = cpl (lastW [] (D.take t)) x.1 → L_X11_build_95 130 (nI d) (nI t) (nI m) st1 = L_X11_build_20 130 (nI d) (nI (t + 1)) st2 := by
        intro m hm
        rw [e_X11_build_95, nI_1, hm, g1]
      by_cases ht0 : t = 0
      · subst ht0
        rw [if_pos (by show nI 0 ≤ nI 0; rw [c_le (by omega) (by omega)]; omega), show (0 : Int32) = nI 0 from rfl, e95 0 (by rw [List.take_zero]; cases x.1 <;> rfl)]
        exact nxt
      · rw [if_neg (by show ¬ nI t ≤ nI 0; rw [c_le (by omega) (by omega)]; omega)]
        have hgp : D[t - 1]? = some D[t - 1] := List.getElem?_eq_getElem (by omega)
        generalize D[t - 1] = y at hgp
        have hlw : lastW [] (D.take t) = y.1 := by
          have := take_snoc' hgp
          rw [show t - 1 + 1 = t by omega] at this
          rw [this, lastW_snoc]
        obtain ⟨f1, f2, f3, f4⟩ := mMd M1 hd hgp
        have ei : nI (200 * d + t) - (1 : Int32) = nI (200 * d + (t - 1)) := by rw [nl 1, a_sub (by omega)]; congr 1; omega
        have ei2 : nI t - (1 : Int32) = nI (t - 1) := by rw [nl 1, a_sub (by omega)]
        have e36 : ∀ j i, x.1.length - i = j → i ≤ x.1.length → i ≤ y.1.length → i + cpl (y.1.drop i) (x.1.drop i) = cpl (lastW [] (D.take t)) x.1 → L_X11_build_36 130 (nI d) (nI t) (nI i) st1 = L_X11_build_20 130 (nI d) (nI (t + 1)) st2 := by
          intro j
          induction j with
          | zero =>
            intro i hj hi hiy hc
            have hc0 : i = cpl (lastW [] (D.take t)) x.1 := by
              rw [← hc, List.drop_eq_nil_of_le (show x.1.length ≤ i by omega)]
              cases y.1.drop i <;> simp [cpl]
            rw [e_X11_build_36, n3 X1, Option.bind_some, nl 200, a_mul, a_add, ei, r133 X1 f1, Option.bind_some, f2]
            by_cases hy : y.1.length ≤ i
            · rw [if_pos (by rw [c_le (by omega) (by omega)]; omega)]
              exact e95 i hc0
            · rw [if_neg (by rw [c_le (by omega) (by omega)]; omega), Option.bind_some, r133 X1 c1, Option.bind_some, c2, if_pos (by rw [c_le (by omega) (by omega)]; omega)]
              exact e95 i hc0
          | succ j ih2 =>
            intro i hj hi hiy hc
            rw [e_X11_build_36, n3 X1, Option.bind_some, nl 200, a_mul, a_add, ei, r133 X1 f1, Option.bind_some, f2]
            by_cases hy : y.1.length ≤ i
            · rw [if_pos (by rw [c_le (by omega) (by omega)]; omega)]
              refine e95 i ?_
              rw [← hc, List.drop_eq_nil_of_le hy]
              simp [cpl]
            · have hg1 : y.1[i]? = some y.1[i] := List.getElem?_eq_getElem (by omega)
              have hg2 : x.1[i]? = some x.1[i] := List.getElem?_eq_getElem (by omega)
              have s1 := ((hM.2.2 _ _ hgp).2.2.1 i _ hg1).2
              have s2 := ((hM.2.2 _ _ hg).2.2.1 i _ hg2).2
              rw [if_neg (by rw [c_le (by omega) (by omega)]; omega), Option.bind_some, r133 X1 c1, Option.bind_some, c2, if_neg (by rw [c_le (by omega) (by omega)]; omega), ei2, letter_ok F1 M1 (by omega) hgp hg1, ri_ok, letter_ok F1 M1 (by omega) hg hg2, ri_ok]
              rw [drop_some hg1, drop_some hg2, cpl_cons] at hc
              by_cases hxy : y.1[i] = x.1[i]
              · rw [if_pos hxy] at hc
                rw [if_pos (by rw [hxy]), nI_1]
                exact ih2 (i + 1) (by omega) (by omega) (by omega) (by omega)
              · rw [if_neg hxy] at hc
                rw [if_neg (by rw [c_eq (by omega) (by omega)]; exact hxy)]
                exact e95 i (by omega)
        rw [show (0 : Int32) = nI 0 from rfl, e36 _ 0 rfl (Nat.zero_le _) (Nat.zero_le _) (by rw [hlw, List.drop_zero, List.drop_zero, Nat.zero_add])]
        exact nxt
  let s0 := uI st 130 17 0
  have u0 : upto (fun q => q = 130 ∨ (144 ≤ q ∧ q ≤ 148)) st s0 := upto_uI (Or.inl rfl)
  have F0 : Fx L s0 := Fx_up hF u0
  have X0 : FX s0 := ⟨L, F0⟩
  have M0 : isMd s0 d D := isMd_up hM u0 (by omega) (by omega) (by omega) (by omega)
  have hs0 : sgm D [] 0 D.length := ⟨Nat.zero_le _, Nat.le_refl _, fun i x hx => ⟨fun _ => ⟨Nat.zero_le _, lt_of_get hx⟩, fun _ => List.nil_prefix⟩⟩
  have hA0 : bgA s0 D 0 := ⟨by show sI (uI st 130 17 0) 130 17 = _; rw [I_uI, if_pos ⟨rfl, rfl⟩]; rfl, fun k b hk => by omega⟩
  have hp := put_okM F0 hd M0 hok (k := 0) (by omega) (by simp) hA0.1 hs0
  obtain ⟨st', g1, g2, g3, g4, g5⟩ := key _ 0 _ rfl (Nat.zero_le _) (bgA_put hA0 (begs_0) hs0) (upto_trans u0 put_up) (fun j hj => by rw [(putS_s j).2.2.2.2.2, if_neg hj]; show sI (uI st 130 17 0) 130 j = _; rw [I_uI, if_neg (fun z => hj z.2)])
  refine ⟨st', ?_, g2, g3, g4, g5⟩
  rw [e_X11_build_0, cm hX, pm hX, Option.bind_some]
  show Option.bind (ab_gR s0 130 11 5) _ = _
  rw [n5 X0, Option.bind_some, r135 X0 (by omega), Option.bind_some, M0.1]
  show ab_rv (f_X11_put 130 (nI d) (nI 0) (nI D.length) (nI ([] : List Nat).length) s0) _ = _
  rw [hp, rv_ok]
  exact g1
end MBD
