/-! MEET: the terms that a word meets; the loops of class and model; near words -/
def mt (P : List Nat → Bool) (D : Dc) : Nat → List Nat
  | 0 => []
  | n + 1 => match D[n]? with
    | some x => if P x.1 = true then mt P D n ++ [n] else mt P D n
    | none => mt P D n
theorem mt_len {P : List Nat → Bool} {D : Dc} : ∀ {n : Nat}, (mt P D n).length ≤ n
  | 0 => Nat.le_refl _
  | n + 1 => by
    have := mt_len (P := P) (D := D) (n := n)
    unfold mt
    cases D[n]? with
    | none => show (mt P D n).length ≤ n + 1; omega
    | some x =>
      show (if P x.1 = true then mt P D n ++ [n] else mt P D n).length ≤ n + 1
      split
      · rw [List.length_append, List.length_singleton]; omega
      · omega
theorem mt_lt {P : List Nat → Bool} {D : Dc} : ∀ {n : Nat}, ∀ t ∈ mt P D n, t < n
  | 0, t, h => by simp [mt] at h
  | n + 1, t, h => by
    have ih := mt_lt (P := P) (D := D) (n := n)
    unfold mt at h
    cases hg : D[n]? with
    | none => rw [hg] at h; have := ih t h; omega
    | some x =>
      rw [hg] at h
      dsimp only at h
      by_cases hp : P x.1 = true
      · rw [if_pos hp] at h
        rcases List.mem_append.mp h with q | q
        · have := ih t q; omega
        · have := List.mem_singleton.mp q; omega
      · rw [if_neg hp] at h
        have := ih t h; omega
theorem mt_step {P : List Nat → Bool} {D : Dc} {n : Nat} {x : List Nat × Nat} (h : D[n]? = some x) : mt P D (n + 1) = if P x.1 = true then mt P D n ++ [n] else mt P D n := by
  have e : mt P D (n + 1) = match D[n]? with
    | some x => if P x.1 = true then mt P D n ++ [n] else mt P D n
    | none => mt P D n := rfl
  rw [e, h]
section MEET
variable {L : Nat} {st : ab_S} {S : Sg}
theorem keep_ok {INV : ab_S → Prop} {P : List Nat → Bool} {D : Dc} {o : Nat} {nr : Int32} (ho : 65 < o ∧ o + 3 < 126) (hI : ∀ s s', INV s → upto (fun q => q = 2 ∨ q = 61) s s' → INV s') (hacc : ∀ s t x, INV s → Fx L s → isTm s o D → D[t]? = some x → ∃ s', L_X10_keepAccepted_7 2 o nr (nI t) s = (if P x.1 = true then L_X10_keepAccepted_46 2 o nr (nI t) s' else L_X10_keepAccepted_51 2 o nr (nI t) s') ∧ upto (fun q => 6 ≤ q ∧ q ≤ 56) s s' ∧ INV s') (h : CS L st S) (hT : isTm st o D) (h0 : INV st) : ∃ st', f_X10_keepAccepted 2 o nr st = some (some (.int (nI (mt P D D.length).length)), st') ∧ CS L st' (setM S (mt P D D.length)) ∧ onC st st' := by
  have hD := hT.2.2.2.2.2.2.2.2.1
  have key : ∀ k t (s : ab_S), D.length - t = k → t ≤ D.length → CS L s (setM S (mt P D t)) → isTm s o D → INV s → onC st s → ∃ st', L_X10_keepAccepted_7 2 o nr (nI t) s = some (some (.int (nI (mt P D D.length).length)), st') ∧ CS L st' (setM S (mt P D D.length)) ∧ onC st st' := by
    intro k
    induction k with
    | zero =>
      intro t s hk ht hC hT' hi hon
      have hte : t = D.length := by omega
      subst hte
      refine ⟨s, ?_, hC, hon⟩
      rw [e_X10_keepAccepted_7, gI_ok hT'.1, Option.bind_some, hT'.2.2.2.2.2.2.2.1, if_pos (by rw [c_le (by omega) (by omega)]; omega), gI_ok (sh2 hC), Option.bind_some, hC.2.2.2.2.2.1.1]
      rfl
    | succ k ih =>
      intro t s hk ht hC hT' hi hon
      have hg : D[t]? = some D[t] := List.getElem?_eq_getElem (by omega)
      obtain ⟨s2, a1, a2, a3⟩ := hacc s t _ hi hC.1 hT' hg
      have C2 : CS L s2 (setM S (mt P D t)) := CS_up hC a2 (fun q hq => by unfold scr; omega) (by rw [(a2.2.2 2 (by omega)).1]) (by rw [(a2.2.2 2 (by omega)).1])
      have T2 := isTm_up hT' a2 (by omega) (by omega) (by omega) (by omega)
      have on2 := onC_trans hon (onC_up a2 (fun q hq => by omega))
      have ms := mt_step (P := P) hg
      rw [a1]
      by_cases hp : P D[t].1 = true
      · rw [if_pos hp] at ms ⊢
        have hml := mt_len (P := P) (D := D) (n := t)
        obtain ⟨s3, b1, b2, b3⟩ := putFound_ok C2 (by rw [setM_M]; omega) t
        have T3 := isTm_up T2 b3 (by omega) (by omega) (by omega) (by omega)
        rw [e_X10_keepAccepted_46, b1, rv_ok, e_X10_keepAccepted_51, nI_1]
        refine ih (t + 1) s3 (by omega) (by omega) ?_ T3 (hI _ _ a3 b3) (onC_trans on2 (onC_up b3 (fun q hq => by omega)))
        rw [ms]
        exact b2
      · rw [if_neg hp] at ms ⊢
        rw [e_X10_keepAccepted_51, nI_1]
        refine ih (t + 1) s2 (by omega) (by omega) ?_ T2 a3 on2
        rw [ms]
        exact C2
  obtain ⟨c1, c2, c3⟩ := clearF_ok h
  rw [e_X10_keepAccepted_0, rc_ok (sh2 h), c1, Option.bind_some]
  exact key _ 0 _ rfl (Nat.zero_le _) c2 (isTm_up hT c3 (by omega) (by omega) (by omega) (by omega)) (hI _ _ h0 c3) (onC_up c3 (fun q hq => by omega))
theorem pushM2_ok (h : MS L st S) (hl : (sM S).length < 200) (t : Nat) : ∃ st', (∀ K : ab_S → Option ab_R, (Option.bind (ab_gR st 130 11 8) fun x5 => Option.bind (ab_gI st 130 11 9) fun x6 => Option.bind (ab_wI st x5 x6 (nI t)) fun s7 => Option.bind (ab_gI s7 130 11 9) fun x8 => Option.bind (ab_pI s7 130 11 9 (x8 + (1 : Int32))) fun s9 => K s9) = K st') ∧ MS L st' (setM S (sM S ++ [t])) ∧ upto (fun q => q = 130 ∨ q = 138) st st' ∧ ∀ j, j ≠ 9 → sI st' 130 j = sI st 130 j := by
  obtain ⟨g1, g2⟩ := h.2.2.2.2.2.1
  let s4 := uI st 138 (sM S).length (nI t)
  let s6 := uI s4 130 9 (nI (sM S).length + 1)
  have hu : upto (fun q => q = 130 ∨ q = 138) st s6 := upto_trans (upto_uI (Or.inr rfl)) (upto_uI (Or.inl rfl))
  have f4 : (sH s4)[130]? = some (0, 11) := Fx_sh h.1 (o := 130) rfl
  have e4 : ∀ k, sI s4 130 k = sI st 130 k := fun k => by
    show sI (uI st 138 (sM S).length (nI t)) 130 k = _
    rw [I_uI, if_neg (fun z => by omega)]
  have e6 : ∀ j, j ≠ 9 → sI s6 130 j = sI st 130 j := fun j hj => by
    show sI (uI s4 130 9 (nI (sM S).length + 1)) 130 j = _
    rw [I_uI, if_neg (fun z => hj z.2), e4]
  refine ⟨s6, fun K => ?_, MS_M h hu ?_ (fun k hk => ?_) (fun k u hk => ?_), hu, e6⟩
  · rw [gR_ok (sh130 h), Option.bind_some, Fx_rf h.1 (v := 138) (by decide), gI_ok (sh130 h), Option.bind_some, g1, wI_ok (Fx_sh h.1 (o := 138) rfl) (by omega) (by omega), Option.bind_some]
    show Option.bind (ab_gI s4 130 11 9) _ = _
    rw [gI_ok f4, Option.bind_some, e4, g1]
    show Option.bind (ab_pI s4 130 11 9 (nI (sM S).length + 1)) _ = _
    rw [pI_ok f4, Option.bind_some]
  · show sI (uI s4 130 9 (nI (sM S).length + 1)) 130 9 = _
    rw [I_uI, if_pos ⟨rfl, rfl⟩, nI_1]; simp
  · show sI (uI s4 130 9 (nI (sM S).length + 1)) 130 k = _
    rw [I_uI, if_neg (fun z => hk z.2), e4]
  · show sI (uI s4 130 9 (nI (sM S).length + 1)) 138 k = _
    rw [I_uI, if_neg (fun z => by omega)]
    show sI (uI st 138 (sM S).length (nI t)) 138 k = _
    rw [I_uI]
    have hkl := (List.getElem?_eq_some_iff.mp hk).1
    rw [List.length_append, List.length_singleton] at hkl
    by_cases hk2 : k = (sM S).length
    · rw [if_pos ⟨rfl, hk2⟩]
      rw [hk2, List.getElem?_append_right (Nat.le_refl _), Nat.sub_self] at hk
      cases hk; rfl
    · rw [if_neg (fun z => hk2 z.2)]
      rw [List.getElem?_append_left (by omega)] at hk
      exact g2 k u hk
theorem keepM_ok {INV : ab_S → Prop} {P : List Nat → Bool} {D : Dc} {d : Nat} {kd n : Int32} (hd : d < 4) (hDS : sD S d = D) (hI : ∀ s s', INV s → upto (fun q => q = 130 ∨ q = 138) s s' → (∀ j, j ≠ 9 → sI s' 130 j = sI s 130 j) → INV s') (hacc : ∀ s t x, INV s → Fx L s → isMd s d D → D[t]? = some x → ∃ s', L_X11_meet_95 130 (nI d) kd n (nI t) s = L_X11_meet_155 130 (nI d) kd n (nI t) (if P x.1 = true then 1 else 0) s' ∧ upto (fun q => 144 ≤ q) s s' ∧ INV s') (h : MS L st S) (h0 : INV st) : ∃ st', L_X11_meet_87 130 (nI d) kd n st = some (some (.int (nI (mt P D D.length).length)), st') ∧ MS L st' (setM S (mt P D D.length)) ∧ onM st st' := by
  have hM0 : isMd st d D := by rw [← hDS]; exact (h.2.2.1 d hd).1
  have hD := hM0.2.1
  have key : ∀ k t (s : ab_S), D.length - t = k → t ≤ D.length → MS L s (setM S (mt P D t)) → INV s → onM st s → ∃ st', L_X11_meet_95 130 (nI d) kd n (nI t) s = some (some (.int (nI (mt P D D.length).length)), st') ∧ MS L st' (setM S (mt P D D.length)) ∧ onM st st' := by
    intro k
    induction k with
    | zero =>
      intro t s hk ht hC hi hon
      have hte : t = D.length := by omega
      subst hte
      have hM : isMd s d D := by rw [← hDS]; exact (hC.2.2.1 d hd).1
      refine ⟨s, ?_, hC, hon⟩
      have hX : FX s := ⟨L, hC.1⟩
      rw [e_X11_meet_95, n5 hX, Option.bind_some, r135 hX (by omega), Option.bind_some, hM.1, if_pos (by rw [c_le (by omega) (by omega)]; omega), im hX, Option.bind_some, hC.2.2.2.2.2.1.1]
      rfl
    | succ k ih =>
      intro t s hk ht hC hi hon
      have hg : D[t]? = some D[t] := List.getElem?_eq_getElem (by omega)
      have hM : isMd s d D := by rw [← hDS]; exact (hC.2.2.1 d hd).1
      obtain ⟨s2, a1, a2, a3⟩ := hacc s t _ hi hC.1 hM hg
      have C2 : MS L s2 (setM S (mt P D t)) := MS_up hC a2 (fun q _ _ => by omega) (by rw [(a2.2.2 130 (by omega)).1]) (by rw [(a2.2.2 130 (by omega)).1]) (by rw [(a2.2.2 130 (by omega)).1]) (by rw [(a2.2.2 130 (by omega)).1])
      have on2 := onM_trans hon (onM_up a2 (fun q hq => by omega))
      have ms := mt_step (P := P) hg
      rw [a1]
      by_cases hp : P D[t].1 = true
      · rw [if_pos hp] at ms ⊢
        have hml := mt_len (P := P) (D := D) (n := t)
        obtain ⟨s3, b1, b2, b3, b4⟩ := pushM2_ok C2 (by rw [setM_M]; omega) t
        rw [e_X11_meet_155, if_neg (by decide), b1, e_X11_meet_183, nI_1]
        refine ih (t + 1) s3 (by omega) (by omega) ?_ (hI _ _ a3 b3 b4) (onM_trans on2 (onM_up b3 (fun q hq => by omega)))
        rw [ms]
        exact b2
      · rw [if_neg hp] at ms ⊢
        rw [e_X11_meet_155, if_pos rfl, e_X11_meet_183, nI_1]
        refine ih (t + 1) s2 (by omega) (by omega) ?_ a3 on2
        rw [ms]
        exact C2
  obtain ⟨c1, c2, c3⟩ := clearM_ok h
  rw [e_X11_meet_87, c1, Option.bind_some]
  exact key _ 0 _ rfl (Nat.zero_le _) c2 (hI _ _ h0 c3 (fun j hj => by rw [I_uI, if_neg (fun z => hj z.2)])) (onM_up c3 (fun q hq => by omega))
end MEET
