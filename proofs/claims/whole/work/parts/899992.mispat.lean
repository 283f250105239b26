/-! THE MODEL'S PATTERNS: isPattern -/
section MISPAT
variable {L : Nat} {st : ab_S} {w : List Nat} {E : List Ed} {N nS : Nat}
theorem ini_ok (hN : N ≤ 80) (hM : MU st w E N nS) {a b : Int32} : ∃ s, L_X11_isPattern_2 130 a b 0 st = (ab_rv (f_X11_close 130 159 s) fun s3 => L_X11_isPattern_41 130 a b 0 s3) ∧ upto (fun q => q = 159) st s ∧ hV s 159 N (fun v => v = 0) := by
  have key : ∀ k' k (s : ab_S), N - k = k' → k ≤ N → upto (fun q => q = 159) st s → (∀ j, j < k → sI s 159 j = if j = 0 then 1 else 0) → ∃ s', L_X11_isPattern_2 130 a b (nI k) s = (ab_rv (f_X11_close 130 159 s') fun s3 => L_X11_isPattern_41 130 a b 0 s3) ∧ upto (fun q => q = 159) st s' ∧ hV s' 159 N (fun v => v = 0) := by
    intro k'
    induction k' with
    | zero =>
      intro k s hk hkN hu hv
      have M := MU_o hM (upto_mono hu (fun q hq => by omega))
      refine ⟨s, ?_, hu, fun v hvn => ?_⟩
      · rw [e_X11_isPattern_2, im M.1, Option.bind_some, M.2.2.2.2.2.1, if_pos (by rw [c_le (by omega) (by omega)]; omega), n41r M.1, Option.bind_some]
      · rw [hv v (by omega)]
        by_cases q : v = 0
        · rw [if_pos q]; exact ⟨Or.inr rfl, ⟨fun _ => q, fun _ => rfl⟩⟩
        · rw [if_neg q]; exact ⟨Or.inl rfl, ⟨(fun z => absurd z (by decide)), fun z => absurd z q⟩⟩
    | succ k' ih =>
      intro k s hk hkN hu hv
      have M := MU_o hM (upto_mono hu (fun q hq => by omega))
      have X := M.1
      rw [e_X11_isPattern_2, im X, Option.bind_some, M.2.2.2.2.2.1, if_neg (by rw [c_le (by omega) (by omega)]; omega), n41r X, Option.bind_some]
      by_cases q : k = 0
      · rw [if_pos (show nI k = 0 from by rw [q]; rfl), e_X11_isPattern_24, wO X (Or.inl rfl) (by omega), Option.bind_some, nI_1]
        refine ih (k + 1) _ (by omega) (by omega) (upto_trans hu (upto_uI rfl)) (fun j hj => ?_)
        rw [I_uI, if_pos ⟨rfl, by omega⟩, if_pos (by omega)]
        rfl
      · rw [if_neg (show ¬ nI k = 0 from by show ¬ nI k = nI 0; rw [c_eq (by omega) (by omega)]; exact q), e_X11_isPattern_24, wO X (Or.inl rfl) (by omega), Option.bind_some, nI_1]
        refine ih (k + 1) _ (by omega) (by omega) (upto_trans hu (upto_uI rfl)) (fun j hj => ?_)
        rw [I_uI]
        by_cases z : j = k
        · rw [if_pos ⟨rfl, z⟩, if_neg (by omega)]
          rfl
        · rw [if_neg (fun y => z y.2)]
          exact hv j (by omega)
  exact key _ 0 st rfl (Nat.zero_le _) upto_rfl (fun j hj => by omega)
theorem clr_ok (hN : N ≤ 80) (hM : MU st w E N nS) {a b c : Int32} : ∃ s, L_X11_isPattern_60 130 a b c 0 st = L_X11_isPattern_86 130 a b c 0 s ∧ upto (fun q => q = 160) st s ∧ hV s 160 N (fun _ => False) := by
  have key : ∀ k' k (s : ab_S), N - k = k' → k ≤ N → upto (fun q => q = 160) st s → (∀ j, j < k → sI s 160 j = 0) → ∃ s', L_X11_isPattern_60 130 a b c (nI k) s = L_X11_isPattern_86 130 a b c 0 s' ∧ upto (fun q => q = 160) st s' ∧ hV s' 160 N (fun _ => False) := by
    intro k'
    induction k' with
    | zero =>
      intro k s hk hkN hu hv
      have M := MU_o hM (upto_mono hu (fun q hq => by omega))
      refine ⟨s, ?_, hu, fun v hvn => ?_⟩
      · rw [e_X11_isPattern_60, im M.1, Option.bind_some, M.2.2.2.2.2.1, if_pos (by rw [c_le (by omega) (by omega)]; omega)]
      · rw [hv v (by omega)]
        exact ⟨Or.inl rfl, ⟨(fun z => absurd z (by decide)), fun z => absurd z id⟩⟩
    | succ k' ih =>
      intro k s hk hkN hu hv
      have M := MU_o hM (upto_mono hu (fun q hq => by omega))
      have X := M.1
      rw [e_X11_isPattern_60, im X, Option.bind_some, M.2.2.2.2.2.1, if_neg (by rw [c_le (by omega) (by omega)]; omega), n42r X, Option.bind_some, wO X (Or.inr rfl) (by omega), Option.bind_some, nI_1]
      refine ih (k + 1) _ (by omega) (by omega) (upto_trans hu (upto_uI rfl)) (fun j hj => ?_)
      rw [I_uI]
      by_cases z : j = k
      · rw [if_pos ⟨rfl, z⟩]
        rfl
      · rw [if_neg (fun y => z y.2)]
        exact hv j (by omega)
  exact key _ 0 st rfl (Nat.zero_le _) upto_rfl (fun j hj => by omega)
theorem cpy_ok (hN : N ≤ 80) (hM : MU st w E N nS) {V : Nat → Prop} (hv0 : hV st 160 N V) {a b c : Int32} : ∃ s, L_X11_isPattern_178 130 a b c 0 st = L_X11_isPattern_41 130 a b (c + 1) s ∧ upto (fun q => q = 159) st s ∧ hV s 159 N V := by
  have key : ∀ k' k (s : ab_S), N - k = k' → k ≤ N → upto (fun q => q = 159) st s → (∀ j, j < k → sI s 159 j = sI st 160 j) → ∃ s', L_X11_isPattern_178 130 a b c (nI k) s = L_X11_isPattern_41 130 a b (c + 1) s' ∧ upto (fun q => q = 159) st s' ∧ hV s' 159 N V := by
    intro k'
    induction k' with
    | zero =>
      intro k s hk hkN hu hv
      have M := MU_o hM (upto_mono hu (fun q hq => by omega))
      refine ⟨s, ?_, hu, fun v hvn => ?_⟩
      · rw [e_X11_isPattern_178, im M.1, Option.bind_some, M.2.2.2.2.2.1, if_pos (by rw [c_le (by omega) (by omega)]; omega)]
      · rw [hv v (by omega)]
        exact hv0 v hvn
    | succ k' ih =>
      intro k s hk hkN hu hv
      have M := MU_o hM (upto_mono hu (fun q hq => by omega))
      have X := M.1
      have e160 : sI s 160 k = sI st 160 k := by rw [(hu.2.2 160 (by omega)).1]
      have e1 : sI st 160 k &&& 1 = sI st 160 k := by
        rcases (hv0 k (by omega)).1 with z | z
        · rw [z]; rfl
        · rw [z]; rfl
      rw [e_X11_isPattern_178, im X, Option.bind_some, M.2.2.2.2.2.1, if_neg (by rw [c_le (by omega) (by omega)]; omega), n41r X, Option.bind_some, n42r X, Option.bind_some, rO X (Or.inr rfl) (by omega), Option.bind_some, e160, wO X (Or.inl rfl) (by omega), Option.bind_some, e1, nI_1]
      refine ih (k + 1) _ (by omega) (by omega) (upto_trans hu (upto_uI rfl)) (fun j hj => ?_)
      rw [I_uI]
      by_cases z : j = k
      · rw [if_pos ⟨rfl, z⟩, z]
      · rw [if_neg (fun y => z y.2)]
        exact hv j (by omega)
  exact key _ 0 st rfl (Nat.zero_le _) upto_rfl (fun j hj => by omega)
theorem adv_ok (hN : N ≤ 80) (hE : E.length ≤ 80) (hlt : ∀ e ∈ E, e.1 < N ∧ e.2.1 < N) (hnS : nS < 40) (hM : MU st w E N nS) {V : Nat → Prop} (hv1 : hV st 159 N V) (hv0 : hV st 160 N (fun _ => False)) {a b i : Int32} {c : Nat} (hc : c < 256) (hlet : ∀ s, upto (fun q => q = 160) st s → f_X11_letter 130 a b i s = some (some (.int (nI c)), s)) : ∃ s, L_X11_isPattern_86 130 a b i 0 st = (ab_rv (f_X11_close 130 160 s) fun s3 => L_X11_isPattern_178 130 a b i 0 s3) ∧ upto (fun q => q = 160) st s ∧ hV s 160 N (fun v => ∃ u f, (u, v, some f) ∈ E ∧ V u ∧ f c) := by
  have key : ∀ k' k (s : ab_S), E.length - k = k' → k ≤ E.length → upto (fun q => q = 160) st s → hV s 160 N (fun v => ∃ j u f, j < k ∧ E[j]? = some (u, v, some f) ∧ V u ∧ f c) → ∃ s', L_X11_isPattern_86 130 a b i (nI k) s = (ab_rv (f_X11_close 130 160 s') fun s3 => L_X11_isPattern_178 130 a b i 0 s3) ∧ upto (fun q => q = 160) st s' ∧ hV s' 160 N (fun v => ∃ u f, (u, v, some f) ∈ E ∧ V u ∧ f c) := by
    intro k'
    induction k' with
    | zero =>
      intro k s hk hkN hu hv
      have M := MU_o hM (upto_mono hu (fun q hq => by omega))
      refine ⟨s, ?_, hu, fun v hvn => ⟨(hv v hvn).1, (hv v hvn).2.trans ⟨?_, ?_⟩⟩⟩
      · rw [e_X11_isPattern_86, im M.1, Option.bind_some, M.2.2.2.2.1, if_pos (by rw [c_le (by omega) (by omega)]; omega), n42r M.1, Option.bind_some]
      · rintro ⟨j, u, f, -, h2, h3⟩
        exact ⟨u, f, List.mem_of_getElem? h2, h3⟩
      · rintro ⟨u, f, h2, h3⟩
        obtain ⟨j, hj, e⟩ := List.getElem_of_mem h2
        exact ⟨j, u, f, by omega, by rw [List.getElem?_eq_getElem hj, e], h3⟩
    | succ k' ih =>
      intro k s hk hkN hu hv
      have M := MU_o hM (upto_mono hu (fun q hq => by omega))
      have X := M.1
      have hek : E[k]? = some E[k] := List.getElem?_eq_getElem (by omega)
      have hem := hlt _ (List.mem_of_getElem? hek)
      obtain ⟨d1, d2, d3⟩ := M.2.2.2.2.2.2.2 k _ hek
      generalize E[k] = e at hek hem d1 d2 d3
      obtain ⟨u, v, lab⟩ := e
      dsimp only at hem d1 d2 d3
      rw [e_X11_isPattern_86, im X, Option.bind_some, M.2.2.2.2.1, if_neg (by rw [c_le (by omega) (by omega)]; omega), n28r X, Option.bind_some, r153 X (by omega), Option.bind_some]
      have skip : (∀ f, lab = some f → V u → f c → False) → ∃ s', L_X11_isPattern_161 130 a b i (nI k) s = (ab_rv (f_X11_close 130 160 s') fun s3 => L_X11_isPattern_178 130 a b i 0 s3) ∧ upto (fun q => q = 160) st s' ∧ hV s' 160 N (fun v => ∃ u f, (u, v, some f) ∈ E ∧ V u ∧ f c) := by
        intro hno
        rw [e_X11_isPattern_161, nI_1]
        refine ih (k + 1) s (by omega) (by omega) hu (fun v' hv' => ⟨(hv v' hv').1, (hv v' hv').2.trans ⟨?_, ?_⟩⟩)
        · rintro ⟨j, u', f, h1, h2⟩
          exact ⟨j, u', f, by omega, h2⟩
        · rintro ⟨j, u', f, h1, h2, h3, h4⟩
          by_cases q : j = k
          · rw [q, hek] at h2
            cases h2
            exact absurd h4 (fun z => hno f rfl h3 z)
          · exact ⟨j, u', f, by omega, h2, h3, h4⟩
      cases lab with
      | none =>
        have d3' : sI s 153 k = -1 := d3
        rw [d3', if_pos rfl]
        exact skip (fun f z => by cases z)
      | some f =>
        obtain ⟨q, hq1, hq2, hq3⟩ := d3
        have g1 : (sI s 159 u = 0 ∨ sI s 159 u = 1) ∧ (sI s 159 u = 1 ↔ V u) := by
          rw [(hu.2.2 159 (by omega)).1]
          exact hv1 u hem.1
        rw [hq2, if_neg (by rw [c_m1e (by omega)]; exact id), n41r X, Option.bind_some, n26r X, Option.bind_some, r151 X (by omega), Option.bind_some, d1, rO X (Or.inl rfl) (by omega), Option.bind_some]
        rcases g1.1 with z | z
        · rw [z, if_pos rfl]
          exact skip (fun f' _ y => by rw [g1.2.mpr y] at z; exact absurd z (by decide))
        · have g2 := hq3 c hc
          rw [z, if_neg (by decide), n31r X, Option.bind_some, Option.bind_some, r153 X (by omega), Option.bind_some, hq2, hlet s hu, ri_ok, show (256 : Int32) = nI 256 from rfl, a_mul, a_add, r154 X (by omega), Option.bind_some]
          rcases g2.1 with y | y
          · rw [y, if_pos rfl]
            exact skip (fun f' hf _ y' => by
              cases hf
              rw [g2.2.mpr y'] at y
              exact absurd y (by decide))
          · rw [y, if_neg (by decide), n42r X, Option.bind_some, n27r X, Option.bind_some, r152 X (by omega), Option.bind_some, d2, wO X (Or.inr rfl) (by omega), Option.bind_some, e_X11_isPattern_161, nI_1]
            refine ih (k + 1) _ (by omega) (by omega) (upto_trans hu (upto_uI rfl)) (fun v' hv' => ?_)
            rw [I_uI]
            by_cases hvv : v' = v
            · rw [if_pos ⟨rfl, hvv⟩]
              exact ⟨Or.inr rfl, ⟨fun _ => ⟨k, u, f, by omega, by rw [hvv]; exact hek, g1.2.mp z, g2.2.mp y⟩, fun _ => rfl⟩⟩
            · rw [if_neg (fun y => hvv y.2)]
              refine ⟨(hv v' hv').1, (hv v' hv').2.trans ⟨?_, ?_⟩⟩
              · rintro ⟨j, u', f', h1, h2⟩
                exact ⟨j, u', f', by omega, h2⟩
              · rintro ⟨j, u', f', h1, h2, h3⟩
                by_cases q : j = k
                · rw [q, hek] at h2
                  cases h2
                  exact absurd rfl hvv
                · exact ⟨j, u', f', by omega, h2, h3⟩
  exact key _ 0 st rfl (Nat.zero_le _) upto_rfl (fun v hvn => ⟨(hv0 v hvn).1, (hv0 v hvn).2.trans ⟨fun z => absurd z id, fun ⟨j, _, _, hj, _⟩ => by omega⟩⟩)
theorem isPat_ok (hF : Fx L st) {l : Lg} {en d t : Nat} {D : Dc} {y : List Nat × Nat} (hP : PE st w E N nS l en) (hd : d < 5) (h : isMd st d D) (hy : D[t]? = some y) : ∃ st', f_X11_isPattern 130 (nI d) (nI t) st = some (some (.int (b01 (lgB l y.1))), st') ∧ upto (fun q => 159 ≤ q ∧ q ≤ 160) st st' := by
  obtain ⟨hM, h36, hen, hlt, hN, hE, hnS, hl⟩ := hP
  obtain ⟨c1, c2, c3, c4⟩ := mMd h hd hy
  have hb3 := (h.2.2 t y hy).2.2.1
  have X := hM.1
  have up9 : ∀ {s s' : ab_S}, upto (fun q => q = 159) s s' → upto (fun q => 159 ≤ q ∧ q ≤ 160) s s' := fun h => upto_mono h (fun q hq => by omega)
  have up0 : ∀ {s s' : ab_S}, upto (fun q => q = 160) s s' → upto (fun q => 159 ≤ q ∧ q ≤ 160) s s' := fun h => upto_mono h (fun q hq => by omega)
  have loop : ∀ k i (s : ab_S), y.1.length - i = k → i ≤ y.1.length → upto (fun q => 159 ≤ q ∧ q ≤ 160) st s → hV s 159 N (fun v => Pt E 0 v (y.1.take i)) → ∃ st', L_X11_isPattern_41 130 (nI d) (nI t) (nI i) s = some (some (.int (b01 (lgB l y.1))), st') ∧ upto (fun q => 159 ≤ q ∧ q ≤ 160) st st' := by
    intro k
    induction k with
    | zero =>
      intro i s hk hi hu hv
      have M := MU_o hM hu
      have e133 : sI s 133 (200 * d + t) = nI y.1.length := by rw [(hu.2.2 133 (by omega)).1]; exact c2
      have k36 : sI s 130 36 = nI en := by rw [(hu.2.2 130 (by omega)).1]; exact h36
      have hie : i = y.1.length := by omega
      subst hie
      rw [e_X11_isPattern_41, n3 M.1, Option.bind_some, nl 200, a_mul, a_add, r133 M.1 c1, Option.bind_some, e133, if_pos (by rw [c_le (by omega) (by omega)]; omega), n41r M.1, Option.bind_some, im M.1, Option.bind_some, k36, rO M.1 (Or.inl rfl) (by omega), Option.bind_some]
      have g := hv en hen
      rw [List.take_length] at g
      refine ⟨s, ?_, hu⟩
      by_cases hb : lgB l y.1 = true
      · have : sI s 159 en = 1 := g.2.mpr ((hl _).mpr (lgB_iff.mp hb))
        rw [this, hb, z_1]
        rfl
      · have hb' : lgB l y.1 = false := by
          cases hh : lgB l y.1 with
          | false => rfl
          | true => exact absurd hh hb
        have : sI s 159 en = 0 := g.1.resolve_right (fun z => hb (lgB_iff.mpr ((hl _).mp (g.2.mp z))))
        rw [this, hb', z_0]
        rfl
    | succ k ih =>
      intro i s hk hi hu hv
      have M := MU_o hM hu
      have e133 : sI s 133 (200 * d + t) = nI y.1.length := by rw [(hu.2.2 133 (by omega)).1]; exact c2
      have hgx : y.1[i]? = some y.1[i] := List.getElem?_eq_getElem (by omega)
      have hxs := (hb3 i _ hgx).2
      generalize y.1[i] = c at hgx hxs
      rw [e_X11_isPattern_41, n3 M.1, Option.bind_some, nl 200, a_mul, a_add, r133 M.1 c1, Option.bind_some, e133, if_neg (by rw [c_le (by omega) (by omega)]; omega)]
      obtain ⟨s1, a1, a2, a3⟩ := clr_ok hN M (a := nI d) (b := nI t) (c := nI i)
      have u1 := upto_trans hu (up0 a2)
      have M1 := MU_o hM u1
      have v1 : hV s1 159 N (fun v => Pt E 0 v (y.1.take i)) := fun v hvn => by rw [(a2.2.2 159 (by omega)).1]; exact hv v hvn
      obtain ⟨s2, b1, b2, b3⟩ := adv_ok hN hE hlt hnS M1 v1 a3 (a := nI d) (b := nI t) (i := nI i) hxs (fun s' hs' => by
        have u := upto_trans u1 (up0 hs')
        exact letter_ok (Fx_up hF u) (isMd_up h u (by omega) (by omega) (by omega) (by omega)) (by omega) hy hgx)
      have u2 := upto_trans u1 (up0 b2)
      have M2 := MU_o hM u2
      obtain ⟨s3, d1, d2, d3⟩ := close0_ok (Or.inr rfl) hN hE hlt hnS M2 b3
      have u3 := upto_trans u2 (up0 d2)
      have M3 := MU_o hM u3
      obtain ⟨s4, e1, e2, e3⟩ := cpy_ok hN M3 d3 (a := nI d) (b := nI t) (c := nI i)
      rw [a1, b1, d1, rv_ok, e1, nI_1]
      refine ih (i + 1) s4 (by omega) (by omega) (upto_trans u3 (up9 e2)) (fun v hvn => ⟨(e3 v hvn).1, (e3 v hvn).2.trans ?_⟩)
      have et : y.1.take (i + 1) = y.1.take i ++ [c] := by rw [List.take_succ, hgx]; rfl
      rw [et]
      dsimp only
      rw [Pt_snoc]
      constructor
      · rintro ⟨m, -, ⟨u, f, g1, g2, g3⟩, g4⟩
        exact ⟨u, m, f, g2, g1, g3, g4⟩
      · rintro ⟨u, m, f, g2, g1, g3, g4⟩
        exact ⟨m, (hlt _ g1).2, ⟨u, f, g1, g2, g3⟩, g4⟩
  obtain ⟨s1, a1, a2, a3⟩ := ini_ok hN hM (a := nI d) (b := nI t)
  have M1 := MU_o hM (up9 a2)
  obtain ⟨s2, b1, b2, b3⟩ := close0_ok (Or.inl rfl) hN hE hlt hnS M1 a3
  rw [e_X11_isPattern_0, cm X, a1, b1, rv_ok]
  refine loop _ 0 s2 rfl (Nat.zero_le _) (upto_trans (up9 a2) (up9 b2)) (fun v hvn => ⟨(b3 v hvn).1, (b3 v hvn).2.trans ?_⟩)
  rw [List.take_zero]
  constructor
  · rintro ⟨u, -, rfl, g⟩
    exact g
  · intro g
    exact ⟨0, by omega, rfl, g⟩
end MISPAT
