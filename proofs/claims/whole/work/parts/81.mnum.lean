/-! THE MODEL NUMBERS THE STATES -/
section MNUM
variable {L : Nat} {st : ab_S} {D : Dc}
theorem same_okM (hF : Fx L st) {d : Nat} (hd : d < 5) (hM : isMd st d D) {j k : Nat} {bj bk : List Nat} (hj : j < 2401) (hk : k < 2401) (h1 : bgS st D j bj) (h2 : bgS st D k bk) : f_X11_isSame 130 (nI d) (nI j) (nI k) st = some (some (.int (if rest D bj = rest D bk then 1 else 0)), st) := by
  have hX : FX st := ⟨L, hF⟩
  have hD := hM.2.1
  obtain ⟨t, e, a1, a2, a3, a4, a5, a6⟩ := h1
  obtain ⟨u, f, b1, b2, b3, b4, b5, b6⟩ := h2
  have hte := a3.1
  have heD := a3.2.1
  have huf := b3.1
  have hfD := b3.2.1
  rw [e_X11_isSame_0, cm hX, n19r hX, Option.bind_some, r145 hX hj, Option.bind_some, n18r hX, Option.bind_some, r144 hX hj, Option.bind_some, n22r hX, Option.bind_some, r148 hX hj, Option.bind_some, Option.bind_some, r148 hX hk, Option.bind_some, a1, a2, a6, b6]
  by_cases hsm : smR (rest D bj) = smR (rest D bk)
  · rw [if_pos (cmp_eq.mpr hsm), Option.bind_some, r145 hX hk, Option.bind_some, Option.bind_some, r144 hX hk, Option.bind_some, b1, b2, a_sub hte, a_sub huf]
    by_cases hln : e - t = f - u
    · rw [if_pos (by rw [hln])]
      have key : ∀ m i, (e - t) - i = m → i ≤ e - t → (rest D bj).take i = (rest D bk).take i → L_X11_isSame_54 130 (nI d) (nI j) (nI k) (nI (e - t)) (nI i) st = some (some (.int (if rest D bj = rest D bk then 1 else 0)), st) := by
        intro m
        induction m with
        | zero =>
          intro i hm hi htk
          rw [e_X11_isSame_54, if_pos (by rw [c_le (by omega) (by omega)]; omega), z_1]
          rw [List.take_of_length_le (by rw [rest_len, sgm_len a3]; omega), List.take_of_length_le (by rw [rest_len, sgm_len b3]; omega)] at htk
          rw [if_pos htk]
        | succ m ih =>
          intro i hm hi htk
          obtain ⟨x, hx, hxp, hxm, hxl⟩ := sgm_at a3 (i := i) (by omega)
          obtain ⟨y, hy, hyp, hym, hyl⟩ := sgm_at b3 (i := i) (by omega)
          have r1 := sgm_rest a3 (by omega) hx
          have r2 := sgm_rest b3 (by omega) hy
          obtain ⟨c1, c2, c3, c4⟩ := mMd hM hd hx
          obtain ⟨d1, d2, d3, d4⟩ := mMd hM hd hy
          have hbx := hxp.length_le
          have hby := hyp.length_le
          have hne : ((x.1.drop bj.length, x.2 - least D bj) : List Nat × Nat) ≠ (y.1.drop bk.length, y.2 - least D bk) → ¬ rest D bj = rest D bk := by
            intro hne q
            rw [q, r2] at r1
            exact hne (Option.some.inj r1).symm
          have hxo : x.2 ≤ 2000000000000 := (hM.2.2 _ x hx).2.2.2.2
          have hyo : y.2 ≤ 2000000000000 := (hM.2.2 _ y hy).2.2.2.2
          rw [e_X11_isSame_54, if_neg (by rw [c_le (by omega) (by omega)]; omega), n18r hX, Option.bind_some, r144 hX hj, Option.bind_some, Option.bind_some, r144 hX hk, Option.bind_some, n4 hX, Option.bind_some, a1, b1, nl 200, a_mul, a_add, a_add, a_add, a_add, Nat.add_assoc, Nat.add_assoc, r134 hX c1, Option.bind_some, n21r hX, Option.bind_some, r147 hX hj, Option.bind_some, Option.bind_some, r134 hX d1, Option.bind_some, Option.bind_some, r147 hX hk, Option.bind_some, c4, d4, a5, b5, lN_sub hxl, lN_sub hyl]
          by_cases ho : x.2 - least D bj = y.2 - least D bk
          · rw [if_pos (cmp_eq.mpr (by rw [ho])), n3 hX, Option.bind_some, r133 hX c1, Option.bind_some, n20r hX, Option.bind_some, r146 hX hj, Option.bind_some, Option.bind_some, r133 hX d1, Option.bind_some, Option.bind_some, r146 hX hk, Option.bind_some, c2, d2, a4, b4, a_sub hbx, a_sub hby]
            by_cases hlen : x.1.length - bj.length = y.1.length - bk.length
            · rw [if_pos (by rw [hlen]), Option.bind_some, r146 hX hj, Option.bind_some, a4]
              have key2 : ∀ m p, x.1.length - p = m → bj.length ≤ p → p ≤ x.1.length → (x.1.drop bj.length).take (p - bj.length) = (y.1.drop bk.length).take (p - bj.length) → L_X11_isSame_168 130 (nI d) (nI j) (nI k) (nI (e - t)) (nI i) (nI (200 * d + (t + i))) (nI p) st = some (some (.int (if rest D bj = rest D bk then 1 else 0)), st) := by
                intro m2
                induction m2 with
                | zero =>
                  intro p hm2 hp1 hp2 hpt
                  rw [e_X11_isSame_168, n3 hX, Option.bind_some, r133 hX c1, Option.bind_some, c2, if_pos (by rw [c_le (by omega) (by omega)]; omega), nI_1]
                  refine ih (i + 1) (by omega) (by omega) ?_
                  rw [List.take_of_length_le (by rw [List.length_drop]; omega), List.take_of_length_le (by rw [List.length_drop]; omega)] at hpt
                  rw [List.take_succ, List.take_succ, htk, r1, r2, hpt, ho]
                | succ m2 ih2 =>
                  intro p hm2 hp1 hp2 hpt
                  have hg1 : x.1[p]? = some x.1[p] := List.getElem?_eq_getElem (by omega)
                  have hg2 : y.1[p - bj.length + bk.length]? = some y.1[p - bj.length + bk.length] := List.getElem?_eq_getElem (by omega)
                  have s1 := ((hM.2.2 _ _ hx).2.2.1 _ _ hg1).2
                  have s2 := ((hM.2.2 _ _ hy).2.2.1 _ _ hg2).2
                  have d1' : (x.1.drop bj.length)[p - bj.length]? = some x.1[p] := by rw [List.getElem?_drop, show bj.length + (p - bj.length) = p by omega]; exact hg1
                  have d2' : (y.1.drop bk.length)[p - bj.length]? = some y.1[p - bj.length + bk.length] := by rw [List.getElem?_drop, Nat.add_comm bk.length]; exact hg2
                  rw [e_X11_isSame_168, n3 hX, Option.bind_some, r133 hX c1, Option.bind_some, c2, if_neg (by rw [c_le (by omega) (by omega)]; omega), n18r hX, Option.bind_some, r144 hX hj, Option.bind_some, a1, a_add, letter_ok hF hM (by omega) hx hg1, ri_ok, n18r hX, Option.bind_some, r144 hX hk, Option.bind_some, n20r hX, Option.bind_some, r146 hX hj, Option.bind_some, Option.bind_some, r146 hX hk, Option.bind_some, b1, a4, b4, a_add, a_sub hp1, a_add, letter_ok hF hM (by omega) hy hg2, ri_ok, z_0, nI_1]
                  by_cases hxy : x.1[p] = y.1[p - bj.length + bk.length]
                  · rw [if_pos (by rw [hxy])]
                    refine ih2 (p + 1) (by omega) (by omega) (by omega) ?_
                    rw [show p + 1 - bj.length = p - bj.length + 1 by omega, List.take_succ, List.take_succ, hpt, d1', d2', hxy]
                  · rw [if_neg (by rw [c_eq (by omega) (by omega)]; exact hxy), if_neg]
                    refine hne (fun q => hxy ?_)
                    have q1 := congrArg Prod.fst q
                    dsimp only at q1
                    rw [q1, d2'] at d1'
                    exact (Option.some.inj d1').symm
              have := key2 _ bj.length rfl (Nat.le_refl _) hbx (by rw [Nat.sub_self, List.take_zero, List.take_zero])
              exact this
            · rw [if_neg (by rw [c_eq (by omega) (by omega)]; exact hlen), z_0, if_neg]
              refine hne (fun q => hlen ?_)
              have q1 := congrArg (fun z => z.1.length) q
              simpa using q1
          · rw [if_neg (fun q => ho ((pk_lEQ (by omega) (by omega)).mp (cmp_eq.mp q))), z_0, if_neg]
            exact hne (fun q => ho (congrArg Prod.snd q))
      exact key _ 0 rfl (Nat.zero_le _) (by rw [List.take_zero, List.take_zero])
    · rw [if_neg (by rw [c_eq (by omega) (by omega)]; exact hln), z_0, if_neg]
      intro q
      have := congrArg List.length q
      rw [rest_len, rest_len, sgm_len a3, sgm_len b3] at this
      exact hln this
  · rw [if_neg (fun q => hsm (cmp_eq.mp q)), z_0, if_neg (fun q => hsm (by rw [q]))]
def NM (st : ab_S) (D : Dc) (k : Nat) : Prop := sI st 130 25 = nI (rsK D k).length ∧ (∀ j, j < k → ∃ s, (rsK D k)[s]? = some (rs D j) ∧ sI st 149 j = nI s) ∧ ∀ s r, (rsK D k)[s]? = some r → ∃ j, j < k ∧ rs D j = r ∧ sI st 150 s = nI j
theorem num_okM (hF : Fx L st) {d : Nat} (hd : d < 5) (hM : isMd st d D) (hok : okD D) (hA : bgA st D (begs D).length) (h0 : sI st 130 25 = 0) : ∃ st', L_X11_build_181 130 (nI d) 0 st = some (none, st') ∧ NM st' D (begs D).length ∧ upto (fun q => q = 130 ∨ q = 149 ∨ q = 150) st st' ∧ (∀ j, j ≠ 25 → sI st' 130 j = sI st 130 j) := by
  have hN := begs_2401 hok
  have key : ∀ m k st1, (begs D).length - k = m → k ≤ (begs D).length → NM st1 D k → upto (fun q => q = 130 ∨ q = 149 ∨ q = 150) st st1 → (∀ j, j ≠ 25 → sI st1 130 j = sI st 130 j) → ∃ st', L_X11_build_181 130 (nI d) (nI k) st1 = some (none, st') ∧ NM st' D (begs D).length ∧ upto (fun q => q = 130 ∨ q = 149 ∨ q = 150) st st' ∧ (∀ j, j ≠ 25 → sI st' 130 j = sI st 130 j) := by
    intro m
    induction m with
    | zero =>
      intro k st1 hm hk hn hu hf
      have X1 : FX st1 := FX_up ⟨L, hF⟩ hu
      have h17 : sI st1 130 17 = nI (begs D).length := (hf 17 (by decide)).trans hA.1
      refine ⟨st1, ?_, by rw [show (begs D).length = k by omega]; exact hn, hu, hf⟩
      rw [e_X11_build_181, im X1, Option.bind_some, h17, if_pos (by rw [c_le (by omega) (by omega)]; omega)]
    | succ m ih =>
      intro k st1 hm hk hn hu hf
      have F1 : Fx L st1 := Fx_up hF hu
      have X1 : FX st1 := ⟨L, F1⟩
      have M1 := isMd_up hM hu (by omega) (by omega) (by omega) (by omega)
      have h17 : sI st1 130 17 = nI (begs D).length := (hf 17 (by decide)).trans hA.1
      have hkk := rsK_len (D := D) (k := k)
      have hbk : (begs D)[k]? = some (nb D k) := nb_some (by omega)
      have bg : ∀ j, j < (begs D).length → bgS st1 D j (nb D j) := fun j hj => bgS_up (hA.2 j _ hj (nb_some hj)) hu (fun q _ _ => by omega)
      obtain ⟨n1, n2, n3'⟩ := hn
      have setI : ∀ (st2 : ab_S) (s : Nat), s ≤ k → FX st2 → L_X11_build_245 130 (nI d) (nI k) (nI s) st2 = L_X11_build_181 130 (nI d) (nI (k + 1)) (uI st2 149 k (nI s)) := by
        intro st2 s hs X2
        rw [e_X11_build_245, n23r X2, Option.bind_some, w149 X2 (by omega), Option.bind_some, nI_1]
      have inner : ∀ m2 s, (rsK D k).length - s = m2 → s ≤ (rsK D k).length → (∀ s', s' < s → (rsK D k)[s']? ≠ some (rs D k)) → ∃ st', L_X11_build_191 130 (nI d) (nI k) (nI s) st1 = some (none, st') ∧ NM st' D (begs D).length ∧ upto (fun q => q = 130 ∨ q = 149 ∨ q = 150) st st' ∧ (∀ j, j ≠ 25 → sI st' 130 j = sI st 130 j) := by
        intro m2
        induction m2 with
        | zero =>
          intro s hm2 hs hno
          have hsl : s = (rsK D k).length := by omega
          have hnm : rs D k ∉ rsK D k := fun q => by
            obtain ⟨s', hs'⟩ := List.getElem?_of_mem q
            exact hno s' (by rw [hsl]; exact (List.getElem?_eq_some_iff.mp hs').1) hs'
          have X2 : FX (uI st1 150 s (nI k)) := X1
          have X3 : FX (uI (uI st1 150 s (nI k)) 130 25 (nI (rsK D k).length + 1)) := X1
          rw [e_X11_build_191, im X1, Option.bind_some, n1, if_pos (by rw [c_le (by omega) (by omega)]; omega), e_X11_build_220, im X1, Option.bind_some, n1, if_pos (by rw [hsl]), n24r X1, Option.bind_some, w150 X1 (by omega), Option.bind_some, im X2, Option.bind_some, pm X2, Option.bind_some, show sI (uI st1 150 s (nI k)) 130 25 = nI (rsK D k).length by rw [I_uI, if_neg (fun z => by omega)]; exact n1, setI _ s (by omega) X3]
          have erk : rsK D (k + 1) = rsK D k ++ [rs D k] := by rw [rsK_succ, if_neg hnm]
          refine ih (k + 1) _ (by omega) (by omega) ⟨?_, fun j hj => ?_, fun s' r hs' => ?_⟩ (upto_trans hu (upto_trans (upto_uI (by omega)) (upto_trans (upto_uI (by omega)) (upto_uI (by omega))))) (fun j hj => ?_)
          · rw [I_uI, if_neg (fun z => by omega), I_uI, if_pos ⟨rfl, rfl⟩, erk, List.length_append, nI_1]
            rfl
          · rw [erk]
            by_cases hjk : j = k
            · subst hjk
              exact ⟨s, by rw [hsl, List.getElem?_append_right (Nat.le_refl _), Nat.sub_self]; rfl, by rw [I_uI, if_pos ⟨rfl, rfl⟩]⟩
            · obtain ⟨s', p1, p2⟩ := n2 j (by omega)
              exact ⟨s', by rw [List.getElem?_append_left (List.getElem?_eq_some_iff.mp p1).1]; exact p1, by rw [I_uI, if_neg (fun z => hjk z.2), I_uI, if_neg (fun z => by omega), I_uI, if_neg (fun z => by omega)]; exact p2⟩
          · rw [erk] at hs'
            by_cases hss : s' < (rsK D k).length
            · rw [List.getElem?_append_left hss] at hs'
              obtain ⟨j, p1, p2, p3⟩ := n3' s' r hs'
              exact ⟨j, by omega, p2, by rw [I_uI, if_neg (fun z => by omega), I_uI, if_neg (fun z => by omega), I_uI, if_neg (fun z => by omega)]; exact p3⟩
            · have hl := (List.getElem?_eq_some_iff.mp hs').1
              rw [List.length_append, List.length_singleton] at hl
              have hse : s' = s := by omega
              subst hse
              rw [hsl, List.getElem?_append_right (Nat.le_refl _), Nat.sub_self] at hs'
              have : r = rs D k := by simpa using hs'.symm
              exact ⟨k, by omega, this.symm, by rw [I_uI, if_neg (fun z => by omega), I_uI, if_neg (fun z => by omega), I_uI, if_pos ⟨rfl, rfl⟩]⟩
          · rw [I_uI, if_neg (fun z => by omega), I_uI, if_neg (fun z => hj z.2), I_uI, if_neg (fun z => by omega)]
            exact hf j hj
        | succ m2 ih2 =>
          intro s hm2 hs hno
          have hg : (rsK D k)[s]? = some (rsK D k)[s] := List.getElem?_eq_getElem (by omega)
          obtain ⟨j, p1, p2, p3⟩ := n3' s _ hg
          rw [e_X11_build_191, im X1, Option.bind_some, n1, if_neg (by rw [c_le (by omega) (by omega)]; omega), n24r X1, Option.bind_some, r150 X1 (by omega), Option.bind_some, p3, same_okM F1 hd M1 (by omega) (by omega) (bg j (by omega)) (bg k (by omega)), ri_ok]
          by_cases hr : rest D (nb D j) = rest D (nb D k)
          · rw [if_pos hr, if_neg (by decide), e_X11_build_220, im X1, Option.bind_some, n1, if_neg (by rw [c_eq (by omega) (by omega)]; omega), setI st1 s (by omega) X1]
            have hrk : (rsK D k)[s]? = some (rs D k) := by rw [hg, ← p2]; exact congrArg some hr
            have erk : rsK D (k + 1) = rsK D k := by rw [rsK_succ, if_pos (List.mem_of_getElem? hrk)]
            refine ih (k + 1) _ (by omega) (by omega) ⟨?_, fun i hi => ?_, fun s' r hs' => ?_⟩ (upto_trans hu (upto_uI (by omega))) (fun i hi => ?_)
            · rw [I_uI, if_neg (fun z => by omega), erk]; exact n1
            · rw [erk]
              by_cases hik : i = k
              · subst hik
                exact ⟨s, hrk, by rw [I_uI, if_pos ⟨rfl, rfl⟩]⟩
              · obtain ⟨s', q1, q2⟩ := n2 i (by omega)
                exact ⟨s', q1, by rw [I_uI, if_neg (fun z => hik z.2)]; exact q2⟩
            · rw [erk] at hs'
              obtain ⟨i, q1, q2, q3⟩ := n3' s' r hs'
              exact ⟨i, by omega, q2, by rw [I_uI, if_neg (fun z => by omega)]; exact q3⟩
            · rw [I_uI, if_neg (fun z => by omega)]; exact hf i hi
          · rw [if_neg hr, if_pos rfl, nI_1]
            refine ih2 (s + 1) (by omega) (by omega) (fun s' hs' q => ?_)
            by_cases hss : s' = s
            · subst hss
              rw [hg] at q
              exact hr (p2.trans (Option.some.inj q))
            · exact hno s' (by omega) q
      rw [e_X11_build_181, im X1, Option.bind_some, h17, if_neg (by rw [c_le (by omega) (by omega)]; omega)]
      exact inner _ 0 rfl (Nat.zero_le _) (fun s' hs' => by omega)
  have hz : NM st D 0 := ⟨by rw [h0]; rfl, fun j hj => by omega, fun s r hs => by simp [rsK, ded] at hs⟩
  exact key _ 0 st rfl (Nat.zero_le _) hz upto_rfl (fun _ _ => rfl)
/-- what build leaves -/
def mB (st : ab_S) (D : Dc) : Prop := bgA st D (begs D).length ∧ NM st D (begs D).length
theorem build_okM (hF : Fx L st) {d : Nat} (hd : d < 5) (hM : isMd st d D) (hok : okD D) : ∃ st', f_X11_build 130 (nI d) st = some (none, st') ∧ mB st' D ∧ upto (fun q => q = 130 ∨ (144 ≤ q ∧ q ≤ 150)) st st' ∧ (∀ j, j ≠ 17 → j ≠ 25 → sI st' 130 j = sI st 130 j) := by
  obtain ⟨s1, a1, a2, a3, a4, a5⟩ := blist_ok hF hd hM hok
  have F1 := Fx_up hF a4
  have M1 := isMd_up hM a4 (by omega) (by omega) (by omega) (by omega)
  obtain ⟨s2, b1, b2, b3, b4⟩ := num_okM F1 hd M1 hok a2 a3
  refine ⟨s2, by rw [a1, b1], ⟨⟨by rw [b4 17 (by decide)]; exact a2.1, fun k b hk hb => bgS_up (a2.2 k b hk hb) b3 (fun q _ _ => by omega)⟩, b2⟩, upto_trans (upto_mono a4 (fun q hq => by omega)) (upto_mono b3 (fun q hq => by omega)), fun j h1 h2 => (b4 j h2).trans (a5 j h1 h2)⟩
end MNUM
