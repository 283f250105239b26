/-! THE MODEL: wild words, board 161 -/
def wm (w x : List Nat) : Nat → Nat → Bool
  | 0, j => decide (j = 0)
  | i + 1, 0 => if w[i]? = some 42 then wm w x i 0 else false
  | i + 1, j + 1 => if w[i]? = some 42 then (wm w x i (j + 1) || wm w x (i + 1) j) else (wm w x i j && (decide (w[i]? = some 63) || decide (w[i]? = x[j]?)))
termination_by i j => i + j
section MWILD
variable {L : Nat} {st : ab_S} {w x : List Nat}
theorem wm_0 {j : Nat} : wm w x 0 j = decide (j = 0) := by rw [wm]
theorem wm_i0 {i : Nat} : wm w x (i + 1) 0 = if w[i]? = some 42 then wm w x i 0 else false := by rw [wm]
theorem wm_ij {i j : Nat} : wm w x (i + 1) (j + 1) = if w[i]? = some 42 then (wm w x i (j + 1) || wm w x (i + 1) j) else (wm w x i j && (decide (w[i]? = some 63) || decide (w[i]? = x[j]?))) := by rw [wm]
/-- a sign that many stand for: a row of any -/
theorem any_all {u : List Nat} (h : ∀ s ∈ u, s < 256) : optL (plusL (oneL (fun c => 0 ≤ c ∧ c ≤ 255))) u := by
  cases u with
  | nil => exact Or.inl rfl
  | cons a u =>
    refine Or.inr ⟨(a :: u).map (fun c => [c]), by simp, fun y hy => ?_, ?_⟩
    · obtain ⟨c, hc, rfl⟩ := List.mem_map.mp hy
      exact ⟨c, rfl, Nat.zero_le _, by have := h c hc; omega⟩
    · have : ∀ l : List Nat, l = (l.map (fun c => [c])).flatten := by
        intro l
        induction l with
        | nil => rfl
        | cons b l ih => rw [List.map_cons, List.flatten_cons, ← ih]; rfl
      exact this _
theorem take_last {j : Nat} (hj : j < x.length) {u : List Nat} {c : Nat} (h : x.take (j + 1) = u ++ [c]) : u = x.take j ∧ x[j]? = some c := by
  have hg : x[j]? = some x[j] := List.getElem?_eq_getElem hj
  rw [List.take_succ, hg] at h
  have := List.append_inj' h rfl
  exact ⟨this.1.symm, by rw [hg]; exact congrArg some (by simpa using this.2)⟩
theorem wm_wild (hx : ∀ s ∈ x, s < 256) (hw : ∀ s ∈ w, s < 256) : ∀ {i : Nat}, i ≤ w.length → ∀ {j : Nat}, j ≤ x.length → (wm w x i j = true ↔ wildS (w.take i) epsL (x.take j)) := by
  intro i
  induction i with
  | zero =>
    intro hi j hj
    rw [wm_0, List.take_zero]
    show _ ↔ x.take j = []
    rw [decide_eq_true_iff]
    constructor
    · rintro rfl; rw [List.take_zero]
    · intro h
      have := congrArg List.length h
      rw [List.length_take, Nat.min_eq_left hj] at this
      exact this
  | succ i ih =>
    intro hi j hj
    have hg : w[i]? = some w[i] := List.getElem?_eq_getElem (by omega)
    have etk : w.take (i + 1) = w.take i ++ [w[i]] := by rw [List.take_succ, hg]; rfl
    rw [etk, wildS_snoc]
    have hc := hw _ (List.mem_of_getElem? hg)
    generalize w[i] = c at hg etk hc
    by_cases h42 : c = 42
    · subst h42
      have eP : wildP 42 = optL (plusL (oneL (fun c => 0 ≤ c ∧ c ≤ 255))) := rfl
      have many : ∀ {j : Nat}, j ≤ x.length → (catL (wildS (w.take i) epsL) (wildP 42) (x.take j) ↔ ∃ k, k ≤ j ∧ wm w x i k = true) := by
        intro j hj
        rw [eP]
        constructor
        · rintro ⟨u, v, e, hu, hv⟩
          refine ⟨u.length, ?_, ?_⟩
          · have := congrArg List.length e
            rw [List.length_take, Nat.min_eq_left hj, List.length_append] at this
            omega
          · have hul : u.length ≤ j := by
              have := congrArg List.length e
              rw [List.length_take, Nat.min_eq_left hj, List.length_append] at this
              omega
            rw [ih (by omega) (by omega)]
            have : x.take u.length = u := by
              have h2 := congrArg (List.take u.length) e
              rw [List.take_take, Nat.min_eq_left hul, List.take_append_of_le_length (Nat.le_refl _), List.take_length] at h2
              exact h2
            rw [this]
            exact hu
        · rintro ⟨k, hk, hm⟩
          refine ⟨x.take k, (x.take j).drop k, ?_, (ih (by omega) (by omega)).mp hm, any_all (fun s hs => hx s (List.mem_of_mem_take (List.mem_of_mem_drop hs)))⟩
          have := (List.take_append_drop k (x.take j)).symm
          rw [List.take_take, Nat.min_eq_left hk] at this
          exact this
      rw [many hj]
      have step : ∀ j, (wm w x (i + 1) j = true ↔ ∃ k, k ≤ j ∧ wm w x i k = true) := by
        intro j
        induction j with
        | zero =>
          rw [wm_i0, if_pos hg]
          exact ⟨fun h => ⟨0, Nat.le_refl _, h⟩, fun ⟨k, hk, h⟩ => by rw [show k = 0 by omega] at h; exact h⟩
        | succ j ihj =>
          rw [wm_ij, if_pos hg, Bool.or_eq_true, ihj]
          constructor
          · rintro (h | ⟨k, hk, h⟩)
            · exact ⟨j + 1, Nat.le_refl _, h⟩
            · exact ⟨k, by omega, h⟩
          · rintro ⟨k, hk, h⟩
            by_cases hkj : k = j + 1
            · rw [hkj] at h; exact Or.inl h
            · exact Or.inr ⟨k, by omega, h⟩
      exact step j
    · have n42 : ¬ w[i]? = some 42 := by rw [hg]; intro q; exact h42 (Option.some.inj q)
      have one : ∃ p : Nat → Prop, wildP c = oneL p ∧ ∀ s, s < 256 → (p s ↔ c = 63 ∨ c = s) := by
        by_cases h63 : c = 63
        · exact ⟨fun z => 0 ≤ z ∧ z ≤ 255, by unfold wildP; rw [if_neg h42, if_pos h63], fun s hs => ⟨fun _ => Or.inl h63, fun _ => ⟨Nat.zero_le _, by omega⟩⟩⟩
        · refine ⟨fun z => c ≤ z ∧ z ≤ c, by unfold wildP; rw [if_neg h42, if_neg h63], fun s hs => ⟨fun q => Or.inr (by omega), fun q => q.elim (fun z => absurd z h63) (fun z => by omega)⟩⟩
      obtain ⟨p, e1, e2⟩ := one
      rw [e1]
      cases j with
      | zero =>
        rw [wm_i0, if_neg n42, List.take_zero]
        refine ⟨(fun q => by cases q), ?_⟩
        rintro ⟨u, v, e, -, c', rfl, -⟩
        have := congrArg List.length e
        simp at this
      | succ j =>
        have hgx : x[j]? = some x[j] := List.getElem?_eq_getElem (by omega)
        have hxs := hx _ (List.mem_of_getElem? hgx)
        rw [wm_ij, if_neg n42, Bool.and_eq_true, Bool.or_eq_true, decide_eq_true_iff, decide_eq_true_iff, ih (by omega) (by omega), hg, hgx]
        constructor
        · rintro ⟨h1, h2⟩
          refine ⟨x.take j, [x[j]], by rw [List.take_succ, hgx]; rfl, h1, x[j], rfl, (e2 _ hxs).mpr ?_⟩
          rcases h2 with q | q
          · exact Or.inl (Option.some.inj q)
          · exact Or.inr (Option.some.inj q)
        · rintro ⟨u, v, e, hu, c', rfl, hp⟩
          obtain ⟨q1, q2⟩ := take_last (by omega) e
          rw [hgx] at q2
          cases q2
          rw [q1] at hu
          refine ⟨hu, ?_⟩
          rcases (e2 _ hxs).mp hp with q | q
          · exact Or.inl (by rw [q])
          · exact Or.inr (by rw [q])
theorem n43r (h : FX st) : ab_gR st 130 11 43 = some 161 := h.elim fun _ h => by rw [gR_ok (Fx_sh h rfl), Fx_rf h (v := 161) (by decide)]
theorem r161 (h : FX st) {n : Nat} (hn : n < 364) : ab_rB st 161 (nI n) = some (sI st 161 n) := h.elim fun _ h => rZ_ok (Fx_sh h (o := 161) rfl) hn (by omega)
theorem w161 (h : FX st) {n : Nat} (hn : n < 364) {v : Int32} : ab_wB st 161 (nI n) v = some (uI st 161 n (v &&& 1)) := h.elim fun _ h => wZ_ok (Fx_sh h (o := 161) rfl) hn (by omega)
def tabW (st : ab_S) (w x : List Nat) (i j : Nat) : Prop := ∀ a b, (a < i ∧ b ≤ x.length) ∨ (a = i ∧ b < j) → sI st 161 (14 * a + b) = b01 (wm w x a b)
theorem b01_and (b : Bool) : b01 b &&& 1 = b01 b := by cases b <;> rfl
theorem tabW_set {i j : Nat} (hx : x.length ≤ 12) (h : tabW st w x i j) (hj : j ≤ x.length) : tabW (uI st 161 (14 * i + j) (b01 (wm w x i j))) w x i (j + 1) := by
  intro a b hab
  rw [I_uI]
  by_cases he : a = i ∧ b = j
  · rw [if_pos ⟨rfl, by rw [he.1, he.2]⟩, he.1, he.2]
  · rw [if_neg (fun z => by omega)]
    exact h a b (by omega)
theorem isWild_ok (hF : Fx L st) {d t : Nat} {D : Dc} {y : List Nat × Nat} (hd : d < 5) (h : isMd st d D) (hy : D[t]? = some y) (hw : mRow st w) (hwl : w.length ≤ 24) : ∃ st', f_X11_isWild 130 (nI d) (nI t) (nI w.length) st = some (some (.int (b01 (wm w y.1 w.length y.1.length))), st') ∧ upto (fun q => q = 161) st st' := by
  obtain ⟨c1, c2, c3, c4⟩ := mMd h hd hy
  have hX0 : FX st := ⟨L, hF⟩
  have hb3 := (h.2.2 t y hy).2.2.1
  have cell : ∀ (s : ab_S) i j, upto (fun q => q = 161) st s → i ≤ w.length → j ≤ y.1.length → tabW s w y.1 i j → L_X11_isWild_26 130 (nI d) (nI t) (nI w.length) (nI y.1.length) (nI i) (nI j) s = L_X11_isWild_190 130 (nI d) (nI t) (nI w.length) (nI y.1.length) (nI i) (nI j) (b01 (wm w y.1 i j)) s := by
    intro s i j hu hi hj ht
    have F := Fx_up hF hu
    have X : FX s := ⟨L, F⟩
    have hM := isMd_up h hu (by omega) (by omega) (by omega) (by omega)
    have hr := mRow_up hw hu (by omega)
    rw [e_X11_isWild_26, if_neg (by rw [c_lt (by omega) (by omega)]; omega)]
    cases i with
    | zero =>
      rw [if_pos (show nI 0 = 0 from rfl), wm_0, e_X11_isWild_48, e_X11_isWild_48]
      by_cases hj0 : j = 0
      · rw [if_pos (by rw [hj0]; rfl), decide_eq_true hj0]; rfl
      · rw [if_neg (by show ¬ nI j = nI 0; rw [c_eq (by omega) (by omega)]; exact hj0), decide_eq_false hj0]; rfl
    | succ i =>
      have hg : w[i]? = some w[i] := List.getElem?_eq_getElem (by omega)
      obtain ⟨g1, g2⟩ := hr.1 i _ hg
      generalize w[i] = c at hg g1 g2
      have e1 : nI (i + 1) - (1 : Int32) = nI i := by rw [show (1 : Int32) = nI 1 from rfl, a_sub (by omega)]; rfl
      have by_eq : ∀ k, k < 128 → ((by8 c = nI k) ↔ c = k) := by
        intro k hk
        have hbk : nI k = by8 k := (by decide +kernel : ∀ k, k < 128 → nI k = by8 k) k hk
        rw [hbk]
        exact ⟨fun q => by8_inj g2 (by omega) q, fun q => by rw [q]⟩
      rw [if_neg (by show ¬ nI (i + 1) = nI 0; rw [c_eq (by omega) (by omega)]; omega), n0r X, Option.bind_some, e1, r131 X (by omega), Option.bind_some, g1]
      have t1 : sI s 161 (14 * i + j) = b01 (wm w y.1 i j) := ht i j (by omega)
      by_cases h42 : c = 42
      · have hw42 : w[i]? = some 42 := by rw [hg, h42]
        rw [if_pos (c := by8 c = 42) ((by_eq 42 (by omega)).mpr h42), n43r X, Option.bind_some, nl 14, a_mul, a_add, r161 X (by omega), Option.bind_some, t1, e_X11_isWild_112, e_X11_isWild_108, e_X11_isWild_113, e_X11_isWild_113]
        cases j with
        | zero =>
          rw [wm_i0, if_pos hw42]
          cases hm : wm w y.1 i 0 with
          | false => rw [bi0 rfl, if_pos (by show nI 0 ≤ nI 0; rw [c_le (by omega) (by omega)]; omega)]; rfl
          | true => rw [bi1 (by simp)]; rfl
        | succ j =>
          have t2 : sI s 161 (14 * (i + 1) + j) = b01 (wm w y.1 (i + 1) j) := ht (i + 1) j (by omega)
          have e2 : nI (14 * (i + 1) + (j + 1)) - (1 : Int32) = nI (14 * (i + 1) + j) := by rw [show (1 : Int32) = nI 1 from rfl, a_sub (by omega)]; rfl
          rw [wm_ij, if_pos hw42]
          cases hm : wm w y.1 i (j + 1) with
          | true => rw [bi1 (by simp)]; rfl
          | false =>
            rw [bi0 rfl, if_neg (by show ¬ nI (j + 1) ≤ nI 0; rw [c_le (by omega) (by omega)]; omega), Option.bind_some, a_mul, a_add, e2, r161 X (by omega), Option.bind_some, t2]
            cases hm2 : wm w y.1 (i + 1) j with
            | true => rw [bi1 (by simp)]; rfl
            | false => rw [bi0 rfl]; rfl
      · have hw42 : ¬ w[i]? = some 42 := by rw [hg]; intro q; exact h42 (Option.some.inj q)
        rw [if_neg (c := by8 c = 42) (fun q => h42 ((by_eq 42 (by omega)).mp q)), e_X11_isWild_187, e_X11_isWild_183, e_X11_isWild_188, e_X11_isWild_188]
        cases j with
        | zero => rw [wm_i0, if_neg hw42, if_pos (by show nI 0 ≤ nI 0; rw [c_le (by omega) (by omega)]; omega)]; rfl
        | succ j =>
          have hgx : y.1[j]? = some y.1[j] := List.getElem?_eq_getElem (by omega)
          have hxs := (hb3 j _ hgx).2
          generalize y.1[j] = v at hgx hxs
          have t2 : sI s 161 (14 * i + j) = b01 (wm w y.1 i j) := ht i j (by omega)
          have e2 : nI (14 * i + (j + 1)) - (1 : Int32) = nI (14 * i + j) := by rw [show (1 : Int32) = nI 1 from rfl, a_sub (by omega)]; rfl
          have e3 : nI (j + 1) - (1 : Int32) = nI j := by rw [show (1 : Int32) = nI 1 from rfl, a_sub (by omega)]; rfl
          rw [wm_ij, if_neg hw42, if_neg (by show ¬ nI (j + 1) ≤ nI 0; rw [c_le (by omega) (by omega)]; omega), n43r X, Option.bind_some, nl 14, a_mul, a_add, e2, r161 X (by omega), Option.bind_some, t2, hg, hgx]
          cases hm : wm w y.1 i j with
          | false => rw [bi0 rfl]; rfl
          | true =>
            rw [bi1 (by simp), Option.bind_some, r131 X (by omega), Option.bind_some, g1]
            by_cases h63 : c = 63
            · rw [if_pos (c := by8 c = 63) ((by_eq 63 (by omega)).mpr h63), h63]
              simp; rfl
            · rw [if_neg (c := by8 c = 63) (fun q => h63 ((by_eq 63 (by omega)).mp q)), Option.bind_some, r131 X (by omega), Option.bind_some, g1, e3, letter_ok F hM (by omega) hy hgx, ri_ok, by8_and c g2]
              by_cases hcv : c = v
              · rw [if_pos (by rw [hcv]), e_X11_isWild_183, e_X11_isWild_188, hcv]
                simp; rfl
              · rw [if_neg (by rw [c_eq (by omega) (by omega)]; exact hcv), e_X11_isWild_187, e_X11_isWild_188]
                have : (decide (some c = some 63) || decide (some c = some v)) = false := by simp [h63, hcv]
                rw [this]; rfl
  have rowL : ∀ k i j (s : ab_S), y.1.length + 1 - j = k → i ≤ w.length → j ≤ y.1.length + 1 → upto (fun q => q = 161) st s → tabW s w y.1 i j → ∃ s', L_X11_isWild_26 130 (nI d) (nI t) (nI w.length) (nI y.1.length) (nI i) (nI j) s = L_X11_isWild_17 130 (nI d) (nI t) (nI w.length) (nI y.1.length) (nI (i + 1)) s' ∧ upto (fun q => q = 161) st s' ∧ tabW s' w y.1 (i + 1) 0 := by
    intro k
    induction k with
    | zero =>
      intro i j s hk hi hj hu ht
      refine ⟨s, ?_, hu, fun a b hab => ht a b (by omega)⟩
      rw [e_X11_isWild_26, if_pos (by rw [c_lt (by omega) (by omega)]; omega), nI_1]
    | succ k ih =>
      intro i j s hk hi hj hu ht
      have X := FX_up hX0 hu
      rw [cell s i j hu hi (by omega) ht, e_X11_isWild_190, n43r X, Option.bind_some, nl 14, a_mul, a_add, w161 X (by omega), Option.bind_some, b01_and, nI_1]
      exact ih i (j + 1) _ (by omega) hi (by omega) (upto_trans hu (upto_uI rfl)) (tabW_set c3 ht (by omega))
  have allL : ∀ k i (s : ab_S), w.length + 1 - i = k → i ≤ w.length + 1 → upto (fun q => q = 161) st s → tabW s w y.1 i 0 → ∃ st', L_X11_isWild_17 130 (nI d) (nI t) (nI w.length) (nI y.1.length) (nI i) s = some (some (.int (b01 (wm w y.1 w.length y.1.length))), st') ∧ upto (fun q => q = 161) st st' := by
    intro k
    induction k with
    | zero =>
      intro i s hk hi hu ht
      have X := FX_up hX0 hu
      have tv := ht w.length y.1.length (by omega)
      refine ⟨s, ?_, hu⟩
      rw [e_X11_isWild_17, if_pos (by rw [c_lt (by omega) (by omega)]; omega), n43r X, Option.bind_some, nl 14, a_mul, a_add, r161 X (by omega), Option.bind_some, tv]
      cases wm w y.1 w.length y.1.length
      · exact z_0
      · exact z_1
    | succ k ih =>
      intro i s hk hi hu ht
      obtain ⟨s', a1, a2, a3⟩ := rowL _ i 0 s rfl (by omega) (Nat.zero_le _) hu ht
      rw [e_X11_isWild_17, if_neg (by rw [c_lt (by omega) (by omega)]; omega)]
      show ∃ st', L_X11_isWild_26 130 (nI d) (nI t) (nI w.length) (nI y.1.length) (nI i) (nI 0) s = _ ∧ _
      rw [a1]
      exact ih (i + 1) s' (by omega) (by omega) a2 a3
  rw [e_X11_isWild_0, cm hX0, n3 hX0, Option.bind_some, nl 200, a_mul, a_add, r133 hX0 c1, Option.bind_some, c2]
  exact allL _ 0 st rfl (Nat.zero_le _) upto_rfl (fun a b hab => by omega)
end MWILD
