/-! THE CLASS'S PATTERN: a sequence goes into its choice; the start; what is accepted -/
section PAT4
variable {L : Nat} {st : ab_S} {own : Nat → Nat} {n d : Nat} {CL SL : Nat → Lg} {W : Option Lg}
theorem settleS_ok (h : PI st own n d CL SL W) : ∃ st', f_X5_settleSequence 25 st = some (none, st') ∧ PI st' (mvO own (2 * d + 1) (2 * d)) n d (up1 CL d (orL (CL d) (SL d))) (up1 SL d epsL) W ∧ upto on25 st st' ∧ sI st' 25 9 = sI st 25 9 := by
  obtain ⟨a1, a2, a3, a4, a5, a6, a7, a8, a9, a10, a11⟩ := h
  obtain ⟨hA, hB⟩ := a9 d (Nat.le_refl _)
  have sA := prt_sh a1 (o := 32 + 2 * d) (by omega)
  have sB := prt_sh a1 (o := 33 + 2 * d) (by omega)
  let B : Int32 := if sI st (32 + 2 * d) 0 = 0 then (if sI st (33 + 2 * d) 0 = 0 then 0 else 1) else 1
  have hB01 : B = 0 ∨ B = 1 := by
    show (if sI st (32 + 2 * d) 0 = 0 then (if sI st (33 + 2 * d) 0 = 0 then (0 : Int32) else 1) else 1) = 0 ∨ (if sI st (32 + 2 * d) 0 = 0 then (if sI st (33 + 2 * d) 0 = 0 then (0 : Int32) else 1) else 1) = 1
    split
    · split
      · exact Or.inl rfl
      · exact Or.inr rfl
    · exact Or.inr rfl
  let s1 := uI (uI (uI st (32 + 2 * d) 0 B) (32 + 2 * d) 1 (sI st (32 + 2 * d) 1 ||| sI st (33 + 2 * d) 1)) (32 + 2 * d) 2 (sI st (32 + 2 * d) 2 ||| sI st (33 + 2 * d) 2)
  let s2 := uI (uI (uI s1 (33 + 2 * d) 0 1) (33 + 2 * d) 1 0) (33 + 2 * d) 2 0
  have X1 : FX s1 := a1
  have e40 : ∀ b, (b = 0 ∨ b = 1) → L_X5_settleSequence_40 (32 + 2 * d) (33 + 2 * d) (32 + 2 * d) b st = ab_rv (f_X4_become (33 + 2 * d) 1 0 0 (uI (uI (uI st (32 + 2 * d) 0 b) (32 + 2 * d) 1 (sI st (32 + 2 * d) 1 ||| sI st (33 + 2 * d) 1)) (32 + 2 * d) 2 (sI st (32 + 2 * d) 2 ||| sI st (33 + 2 * d) 2))) fun s6 => some (none, s6) := by
    intro b hb
    rw [e_X5_settleSequence_40, gI_ok sA, Option.bind_some, gI_ok sB, Option.bind_some, gI_ok sA, Option.bind_some, gI_ok sB, Option.bind_some, become_ok a1 (by omega) hb, rv_ok]
  have es : f_X5_settleSequence 25 st = some (none, s2) := by
    have fin : L_X5_settleSequence_40 (32 + 2 * d) (33 + 2 * d) (32 + 2 * d) B st = some (none, s2) := by
      rw [e40 B hB01]
      show ab_rv (f_X4_become (33 + 2 * d) 1 0 0 s1) _ = _
      rw [become_ok X1 (by omega) (Or.inr rfl), rv_ok]
    rw [e_X5_settleSequence_0, c25 a1, g25_3 a1, Option.bind_some, i25 a1, Option.bind_some, a5, chs a1 a3, Option.bind_some, g25_4 a1, Option.bind_some, Option.bind_some, sqs a1 a3, Option.bind_some, gI_ok sA, Option.bind_some, e_X5_settleSequence_35]
    refine Eq.trans ?_ fin
    show _ = L_X5_settleSequence_40 (32 + 2 * d) (33 + 2 * d) (32 + 2 * d) (if sI st (32 + 2 * d) 0 = 0 then (if sI st (33 + 2 * d) 0 = 0 then 0 else 1) else 1) st
    by_cases h0 : sI st (32 + 2 * d) 0 = 0
    · rw [if_pos h0, if_pos h0, gI_ok sB, Option.bind_some]
      by_cases h1 : sI st (33 + 2 * d) 0 = 0
      · rw [if_pos h1, if_pos h1]
      · rw [if_neg h1, if_neg h1]
    · rw [if_neg h0, if_neg h0]
  have eS : ∀ q j, sI s2 q j = if q = 33 + 2 * d ∧ j = 0 then 1 else if q = 33 + 2 * d ∧ j = 1 then 0 else if q = 33 + 2 * d ∧ j = 2 then 0 else sI s1 q j := fun q j => become_s q j
  have e1 : ∀ q j, sI s1 q j = if q = 32 + 2 * d ∧ j = 0 then B else if q = 32 + 2 * d ∧ j = 1 then (sI st (32 + 2 * d) 1 ||| sI st (33 + 2 * d) 1) else if q = 32 + 2 * d ∧ j = 2 then (sI st (32 + 2 * d) 2 ||| sI st (33 + 2 * d) 2) else sI st q j := fun q j => become_s q j
  have eo : ∀ q j, q ≠ 32 + 2 * d → q ≠ 33 + 2 * d → sI s2 q j = sI st q j := fun q j h1 h2 => by
    rw [eS, if_neg (fun z => h2 z.1), if_neg (fun z => h2 z.1), if_neg (fun z => h2 z.1), e1, if_neg (fun z => h1 z.1), if_neg (fun z => h1 z.1), if_neg (fun z => h1 z.1)]
  have eF : ∀ i j, Fs s2 i j ↔ Fs st i j := fun i j => by unfold Fs; rw [eo 27 i (by omega) (by omega)]
  have eT : ∀ i c, Ts s2 i c ↔ Ts st i c := fun i c => by unfold Ts; rw [eo 26 c (by omega) (by omega)]
  have U : upto on25 st s2 := by
    have o32 : on25 (32 + 2 * d) := by show 25 ≤ _ ∧ _ ≤ 41; omega
    have o33 : on25 (33 + 2 * d) := by show 25 ≤ _ ∧ _ ≤ 41; omega
    exact upto_trans (upto_uI o32) (upto_trans (upto_uI o32) (upto_trans (upto_uI o32) (upto_trans (upto_uI o33) (upto_trans (upto_uI o33) (upto_uI o33)))))
  have keep : ∀ o k0 l, isPrt st o (fun i => i < n ∧ own i = k0) l → o ≠ 32 + 2 * d → o ≠ 33 + 2 * d → k0 ≠ 2 * d → k0 ≠ 2 * d + 1 → isPrt s2 o (fun i => i < n ∧ mvO own (2 * d + 1) (2 * d) i = k0) l := by
    intro o k0 l hp h1 h2 h3 h4
    refine isPrt_P (isPrt_eq hp (fun k => eo o k h1 h2) (fun i j _ => (eF i j).symm) (fun i c _ => (eT i c).symm)) (fun i => ?_)
    unfold mvO
    by_cases hi : own i = 2 * d + 1
    · rw [if_pos hi]; omega
    · rw [if_neg hi]
  refine ⟨s2, es, ⟨FX_up a1 U, a2, a3, by rw [eo 25 8 (by omega) (by omega)]; exact a4, by rw [eo 25 7 (by omega) (by omega)]; exact a5, by rw [eo 25 6 (by omega) (by omega)]; exact a6, fun i j q => a7 i j ((eF i j).mp q), fun i c q => a8 i c ((eT i c).mp q), fun j hj => ?_, fun l hl => keep 31 100 l (a10 l hl) (by omega) (by omega) (by omega) (by omega), fun i hi => ?_⟩, U, by rw [eo 25 9 (by omega) (by omega)]⟩
  · by_cases hjd : j = d
    · subst hjd
      rw [up1_s, up1_s]
      constructor
      · have g0 : sI s2 (32 + 2 * j) 0 = B := by rw [eS, if_neg (fun z => by omega), if_neg (fun z => by omega), if_neg (fun z => by omega), e1, if_pos ⟨rfl, rfl⟩]
        have g1 : sI s2 (32 + 2 * j) 1 = (sI st (32 + 2 * j) 1 ||| sI st (33 + 2 * j) 1) := by rw [eS, if_neg (fun z => by omega), if_neg (fun z => by omega), if_neg (fun z => by omega), e1, if_neg (fun z => by omega), if_pos ⟨rfl, rfl⟩]
        have g2 : sI s2 (32 + 2 * j) 2 = (sI st (32 + 2 * j) 2 ||| sI st (33 + 2 * j) 2) := by rw [eS, if_neg (fun z => by omega), if_neg (fun z => by omega), if_neg (fun z => by omega), e1, if_neg (fun z => by omega), if_neg (fun z => by omega), if_pos ⟨rfl, rfl⟩]
        refine ⟨by rw [g0]; exact hB01, ?_⟩
        rw [g0, g1, g2]
        have ho := prt_or hA.2 hB.2 (fun i q1 q2 => by have := q1.2; have := q2.2; omega)
        have ho2 := prt_congr (F' := Fs s2) (T' := Ts s2) ho (fun i j _ => (eF i j).symm) (fun i c _ => (eT i c).symm)
        refine prt_iff ho2 ?_ (fun i => hb_or.symm) (fun i => hb_or.symm) (fun i => ?_)
        · show _ ↔ (if sI st (32 + 2 * j) 0 = 0 then (if sI st (33 + 2 * j) 0 = 0 then (0 : Int32) else 1) else 1) = 1
          rcases hA.1 with q | q <;> rcases hB.1 with z | z <;> rw [q, z] <;> decide
        · unfold mvO
          by_cases hi : own i = 2 * j + 1
          · rw [if_pos hi]
            exact ⟨fun z => ⟨z.elim (fun y => y.1) (fun y => y.1), rfl⟩, fun z => Or.inr ⟨z.1, hi⟩⟩
          · rw [if_neg hi]
            exact ⟨fun z => z.elim id (fun y => absurd y.2 hi), Or.inl⟩
      · have g0 : sI s2 (33 + 2 * j) 0 = 1 := by rw [eS, if_pos ⟨rfl, rfl⟩]
        have g1 : sI s2 (33 + 2 * j) 1 = 0 := by rw [eS, if_neg (fun z => by omega), if_pos ⟨rfl, rfl⟩]
        have g2 : sI s2 (33 + 2 * j) 2 = 0 := by rw [eS, if_neg (fun z => by omega), if_neg (fun z => by omega), if_pos ⟨rfl, rfl⟩]
        refine ⟨Or.inr g0, ?_⟩
        rw [g0, g1, g2]
        refine prt_iff prt_eps ⟨fun _ => rfl, fun _ => trivial⟩ (fun i => ⟨False.elim, fun q => hb_0 q⟩) (fun i => ⟨False.elim, fun q => hb_0 q⟩) (fun i => ⟨False.elim, fun q => ?_⟩)
        have := q.2
        unfold mvO at this
        by_cases hi : own i = 2 * j + 1
        · rw [if_pos hi] at this; omega
        · rw [if_neg hi] at this; omega
    · rw [up1_o hjd, up1_o hjd]
      exact ⟨keep _ _ _ (a9 j hj).1 (by omega) (by omega) (by omega) (by omega), keep _ _ _ (a9 j hj).2 (by omega) (by omega) (by omega) (by omega)⟩
  · unfold mvO
    by_cases hi2 : own i = 2 * d + 1
    · rw [if_pos hi2]; exact Or.inl (by omega)
    · rw [if_neg hi2]; exact a11 i hi
theorem fill_ok {a m : Nat} (ha : (sH st)[a]? = some (1, m)) (hm : m < 1000000) : ∃ st', f_J_fill a 0 st = some (none, st') ∧ upto (fun q => q = a) st st' ∧ ∀ j, j < m → sI st' a j = 0 := by
  have key : ∀ k i (s : ab_S), m - i = k → i ≤ m → upto (fun q => q = a) st s → (∀ j, j < i → sI s a j = 0) → ∃ st', L_J_fill_5 a 0 (nI i) (nI m) s = some (none, st') ∧ upto (fun q => q = a) st st' ∧ ∀ j, j < m → sI st' a j = 0 := by
    intro k
    induction k with
    | zero =>
      intro i s hk hi hu hz
      refine ⟨s, ?_, hu, fun j hj => hz j (by omega)⟩
      rw [e_J_fill_5, if_pos (by rw [c_le (by omega) (by omega)]; omega)]
    | succ k ih =>
      intro i s hk hi hu hz
      have hs : (sH s)[a]? = some (1, m) := by rw [hu.1]; exact ha
      rw [e_J_fill_5, if_neg (by rw [c_le (by omega) (by omega)]; omega), wI_ok hs (by omega) (by omega), Option.bind_some, nI_1]
      refine ih (i + 1) _ (by omega) (by omega) (upto_trans hu (upto_uI rfl)) (fun j hj => ?_)
      rw [I_uI]
      by_cases hji : j = i
      · rw [if_pos ⟨rfl, hji⟩]
      · rw [if_neg (fun z => hji z.2)]; exact hz j (by omega)
  rw [e_J_fill_0, n_ok ha (by decide) (by decide), Option.bind_some]
  exact key _ 0 st rfl (Nat.zero_le _) upto_rfl (fun j hj => by omega)
/-- a new level: no choice yet, a bare sequence -/
theorem startL_ok (hX : FX st) (hd : d ≤ 4) (h7 : sI st 25 7 = nI d) : ∃ st', f_X5_startLevel 25 st = some (none, st') ∧ upto (fun q => q = 32 + 2 * d ∨ q = 33 + 2 * d) st st' ∧ ∀ P : Nat → Prop, (∀ i, ¬ P i) → isPrt st' (32 + 2 * d) P noL ∧ isPrt st' (33 + 2 * d) P epsL := by
  let s1 := uI (uI (uI st (32 + 2 * d) 0 0) (32 + 2 * d) 1 0) (32 + 2 * d) 2 0
  let s2 := uI (uI (uI s1 (33 + 2 * d) 0 1) (33 + 2 * d) 1 0) (33 + 2 * d) 2 0
  have X1 : FX s1 := hX
  have q7 : sI s1 25 7 = nI d := by
    show sI (uI (uI (uI st (32 + 2 * d) 0 0) (32 + 2 * d) 1 0) (32 + 2 * d) 2 0) 25 7 = _
    rw [become_s, if_neg (fun z => by omega), if_neg (fun z => by omega), if_neg (fun z => by omega)]; exact h7
  refine ⟨s2, ?_, upto_trans (upto_uI (Or.inl rfl)) (upto_trans (upto_uI (Or.inl rfl)) (upto_trans (upto_uI (Or.inl rfl)) (upto_trans (upto_uI (Or.inr rfl)) (upto_trans (upto_uI (Or.inr rfl)) (upto_uI (Or.inr rfl)))))), fun P hP => ⟨?_, ?_⟩⟩
  · rw [e_X5_startLevel_0, c25 hX, g25_3 hX, Option.bind_some, i25 hX, Option.bind_some, h7, chs hX hd, Option.bind_some, become_ok hX (by omega) (Or.inl rfl), rv_ok]
    show Option.bind (ab_gR s1 25 5 4) _ = _
    rw [g25_4 X1, Option.bind_some, i25 X1, Option.bind_some, q7, sqs X1 hd, Option.bind_some, become_ok X1 (by omega) (Or.inr rfl), rv_ok]
  · have eq : ∀ j, sI s2 (32 + 2 * d) j = sI s1 (32 + 2 * d) j := fun j => by
      show sI (uI (uI (uI s1 (33 + 2 * d) 0 1) (33 + 2 * d) 1 0) (33 + 2 * d) 2 0) (32 + 2 * d) j = _
      rw [become_s, if_neg (fun z => by omega), if_neg (fun z => by omega), if_neg (fun z => by omega)]
    have g0 : sI s2 (32 + 2 * d) 0 = 0 := by rw [eq]; show sI (uI (uI (uI st (32 + 2 * d) 0 0) (32 + 2 * d) 1 0) (32 + 2 * d) 2 0) (32 + 2 * d) 0 = _; rw [become_s, if_pos ⟨rfl, rfl⟩]
    have g1 : sI s2 (32 + 2 * d) 1 = 0 := by rw [eq]; show sI (uI (uI (uI st (32 + 2 * d) 0 0) (32 + 2 * d) 1 0) (32 + 2 * d) 2 0) (32 + 2 * d) 1 = _; rw [become_s, if_neg (fun z => by omega), if_pos ⟨rfl, rfl⟩]
    have g2 : sI s2 (32 + 2 * d) 2 = 0 := by rw [eq]; show sI (uI (uI (uI st (32 + 2 * d) 0 0) (32 + 2 * d) 1 0) (32 + 2 * d) 2 0) (32 + 2 * d) 2 = _; rw [become_s, if_neg (fun z => by omega), if_neg (fun z => by omega), if_pos ⟨rfl, rfl⟩]
    refine ⟨Or.inl g0, ?_⟩
    rw [g0, g1, g2]
    exact prt_iff prt_no ⟨False.elim, fun q => by cases q⟩ (fun i => ⟨False.elim, fun q => hb_0 q⟩) (fun i => ⟨False.elim, fun q => hb_0 q⟩) (fun i => ⟨False.elim, fun q => hP i q⟩)
  · have g0 : sI s2 (33 + 2 * d) 0 = 1 := by show sI (uI (uI (uI s1 (33 + 2 * d) 0 1) (33 + 2 * d) 1 0) (33 + 2 * d) 2 0) (33 + 2 * d) 0 = _; rw [become_s, if_pos ⟨rfl, rfl⟩]
    have g1 : sI s2 (33 + 2 * d) 1 = 0 := by show sI (uI (uI (uI s1 (33 + 2 * d) 0 1) (33 + 2 * d) 1 0) (33 + 2 * d) 2 0) (33 + 2 * d) 1 = _; rw [become_s, if_neg (fun z => by omega), if_pos ⟨rfl, rfl⟩]
    have g2 : sI s2 (33 + 2 * d) 2 = 0 := by show sI (uI (uI (uI s1 (33 + 2 * d) 0 1) (33 + 2 * d) 1 0) (33 + 2 * d) 2 0) (33 + 2 * d) 2 = _; rw [become_s, if_neg (fun z => by omega), if_neg (fun z => by omega), if_pos ⟨rfl, rfl⟩]
    refine ⟨Or.inr g0, ?_⟩
    rw [g0, g1, g2]
    exact prt_iff prt_eps ⟨fun _ => rfl, fun _ => trivial⟩ (fun i => ⟨False.elim, fun q => hb_0 q⟩) (fun i => ⟨False.elim, fun q => hb_0 q⟩) (fun i => ⟨False.elim, fun q => hP i q⟩)
theorem start_ok (hX : FX st) : ∃ st', f_X5_start 25 st = some (none, st') ∧ PI st' (fun _ => 0) 0 0 (fun _ => noL) (fun _ => epsL) none ∧ upto on25 st st' ∧ sI st' 25 9 = -1 := by
  have s26 : (sH st)[26]? = some (1, 256) := hX.elim fun _ h => Fx_sh h rfl
  obtain ⟨s1, a1, a2, a3⟩ := fill_ok s26 (by omega)
  have X1 := FX_up hX a2
  have s27 : (sH s1)[27]? = some (1, 24) := X1.elim fun _ h => Fx_sh h rfl
  obtain ⟨s2, b1, b2, b3⟩ := fill_ok s27 (by omega)
  have X2 := FX_up X1 b2
  let s3 := uI (uI (uI (uI s2 25 8 0) 25 9 (-1)) 25 6 0) 25 7 0
  have X3 : FX s3 := X2
  have e25 : ∀ j, sI s3 25 j = if j = 7 then 0 else if j = 6 then 0 else if j = 9 then -1 else if j = 8 then 0 else sI s2 25 j := fun j => by
    show sI (uI (uI (uI (uI s2 25 8 0) 25 9 (-1)) 25 6 0) 25 7 0) 25 j = _
    simp [I_uI]
  have eo : ∀ q j, q ≠ 25 → sI s3 q j = sI s2 q j := fun q j hq => by
    show sI (uI (uI (uI (uI s2 25 8 0) 25 9 (-1)) 25 6 0) 25 7 0) q j = _
    simp [I_uI, hq]
  obtain ⟨s4, c1, c2, c3⟩ := startL_ok X3 (d := 0) (by omega) (by rw [e25, if_pos rfl]; rfl)
  have o25 : on25 25 := by show 25 ≤ 25 ∧ 25 ≤ 41; omega
  have u3 : upto on25 s2 s3 := upto_trans (upto_uI o25) (upto_trans (upto_uI o25) (upto_trans (upto_uI o25) (upto_uI o25)))
  have U : upto on25 st s4 := upto_trans (upto_mono a2 (fun q hq => by show 25 ≤ q ∧ q ≤ 41; omega)) (upto_trans (upto_mono b2 (fun q hq => by show 25 ≤ q ∧ q ≤ 41; omega)) (upto_trans u3 (upto_mono c2 (fun q hq => by show 25 ≤ q ∧ q ≤ 41; omega))))
  have e4 : ∀ q j, q ≠ 32 → q ≠ 33 → sI s4 q j = sI s3 q j := fun q j h1 h2 => by rw [(c2.2.2 q (by omega)).1]
  have nF : ∀ i j, ¬ Fs s4 i j := fun i j h => by
    unfold Fs at h
    rw [e4 27 i (by omega) (by omega), eo 27 i (by omega), b3 i h.1] at h
    exact hb_0 h.2
  have nT : ∀ i c, ¬ Ts s4 i c := fun i c h => by
    unfold Ts at h
    rw [e4 26 c (by omega) (by omega), eo 26 c (by omega), (b2.2.2 26 (by omega)).1, a3 c h.1] at h
    exact hb_0 h.2
  refine ⟨s4, ?_, ⟨FX_up hX U, by omega, by omega, ?_, ?_, ?_, fun i j h => absurd h (nF i j), fun i c h => absurd h (nT i c), fun j hj => ?_, (fun l hl => by cases hl), fun i hi => by omega⟩, U, ?_⟩
  · have Xa : FX (uI s2 25 8 0) := X2
    have Xb : FX (uI (uI s2 25 8 0) 25 9 (-1)) := X2
    have Xc : FX (uI (uI (uI s2 25 8 0) 25 9 (-1)) 25 6 0) := X2
    rw [e_X5_start_0, c25 hX, g25_0 hX, Option.bind_some, a1, rv_ok, g25_1 X1, Option.bind_some, b1, rv_ok, p25 X2, Option.bind_some, p25 Xa, Option.bind_some, pZ_0 (k25 Xb), Option.bind_some, p25 Xc, Option.bind_some]
    show ab_rv (f_X5_startLevel 25 s3) _ = _
    rw [c1, rv_ok]
  · rw [e4 25 8 (by omega) (by omega), e25, if_neg (by decide), if_neg (by decide), if_neg (by decide), if_pos rfl]; rfl
  · rw [e4 25 7 (by omega) (by omega), e25, if_pos rfl]; rfl
  · rw [e4 25 6 (by omega) (by omega), e25, if_neg (by decide), if_pos rfl]; rfl
  · have hj0 : j = 0 := by omega
    subst hj0
    obtain ⟨d1, -⟩ := c3 (fun i => i < 0 ∧ (0 : Nat) = 2 * 0) (fun i q => by omega)
    obtain ⟨-, d2⟩ := c3 (fun i => i < 0 ∧ (0 : Nat) = 2 * 0 + 1) (fun i q => by omega)
    exact ⟨d1, d2⟩
  · rw [e4 25 9 (by omega) (by omega), e25, if_neg (by decide), if_neg (by decide), if_pos rfl]
end PAT4
