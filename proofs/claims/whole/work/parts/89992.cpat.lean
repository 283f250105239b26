/-! THE CLASS READS PATTERNS: brackets, one after the other -/
section CPAT2
variable {L : Nat} {st : ab_S} {own : Nat → Nat} {n d : Nat} {CL SL : Nat → Lg} {W : Option Lg} {a : Nat} {w : List Nat}
theorem open_ok (h : PI st own n d CL SL none) (hd : d < 4) {at0 : Int32} : ∃ st', f_X5_openBracket 25 at0 st = some (none, st') ∧ PI st' own n (d + 1) (up1 CL (d + 1) noL) (up1 SL (d + 1) epsL) none ∧ upto on25 st st' ∧ sI st' 25 9 = sI st 25 9 := by
  obtain ⟨a1, a2, a3, a4, a5, a6, a7, a8, a9, a10, a11⟩ := h
  have X1 : FX (uI st 25 7 (nI (d + 1))) := a1
  obtain ⟨s2, c1, c2, c3⟩ := startL_ok X1 (d := d + 1) (by omega) (by rw [I_uI, if_pos ⟨rfl, rfl⟩])
  have e2 : ∀ q j, q ≠ 32 + 2 * (d + 1) → q ≠ 33 + 2 * (d + 1) → ¬ (q = 25 ∧ j = 7) → sI s2 q j = sI st q j := fun q j h1 h2 h3 => by rw [(c2.2.2 q (by omega)).1, I_uI, if_neg h3]
  have eF : ∀ i j, Fs s2 i j ↔ Fs st i j := fun i j => by unfold Fs; rw [e2 27 i (by omega) (by omega) (by omega)]
  have eT : ∀ i c, Ts s2 i c ↔ Ts st i c := fun i c => by unfold Ts; rw [e2 26 c (by omega) (by omega) (by omega)]
  have U : upto on25 st s2 := upto_trans (upto_uI (by show 25 ≤ 25 ∧ 25 ≤ 41; omega)) (upto_mono c2 (fun q hq => by show 25 ≤ q ∧ q ≤ 41; omega))
  have kp : ∀ o P l, isPrt st o P l → o ≠ 25 → o ≠ 32 + 2 * (d + 1) → o ≠ 33 + 2 * (d + 1) → isPrt s2 o P l := fun o P l hp h0 h1 h2 => isPrt_eq hp (fun k => e2 o k h1 h2 (fun z => h0 z.1)) (fun i j _ => (eF i j).symm) (fun i c _ => (eT i c).symm)
  refine ⟨s2, ?_, ⟨FX_up a1 U, a2, by omega, by rw [e2 25 8 (by omega) (by omega) (by omega)]; exact a4, by rw [(c2.2.2 25 (by omega)).1, I_uI, if_pos ⟨rfl, rfl⟩], by rw [e2 25 6 (by omega) (by omega) (by omega)]; exact a6, fun i j q => a7 i j ((eF i j).mp q), fun i c q => a8 i c ((eT i c).mp q), fun j hj => ?_, (fun l hl => by cases hl), fun i hi => ?_⟩, U, by rw [e2 25 9 (by omega) (by omega) (by omega)]⟩
  · rw [e_X5_openBracket_0, c25 a1, i25 a1, Option.bind_some, a5, if_pos (by show nI d < nI 4; rw [c_lt (by omega) (by omega)]; exact hd), Option.bind_some, nI_1, p25 a1, Option.bind_some, c1, rv_ok]
  · by_cases hjd : j = d + 1
    · subst hjd
      rw [up1_s, up1_s]
      have no : ∀ k0, k0 = 2 * (d + 1) ∨ k0 = 2 * (d + 1) + 1 → ∀ i, ¬ (i < n ∧ own i = k0) := by
        intro k0 hk i hi
        rcases a11 i hi.1 with q | q
        · omega
        · cases q.2
      exact ⟨(c3 _ (no _ (Or.inl rfl))).1, (c3 _ (no _ (Or.inr rfl))).2⟩
    · rw [up1_o hjd, up1_o hjd]
      exact ⟨kp _ _ _ (a9 j (by omega)).1 (by omega) (by omega) (by omega), kp _ _ _ (a9 j (by omega)).2 (by omega) (by omega) (by omega)⟩
  · rcases a11 i hi with q | q
    · exact Or.inl (by omega)
    · cases q.2
theorem close_ok (h : PI st own n (d + 1) CL SL none) {at0 : Int32} : ∃ st' own', f_X5_closeBracket 25 at0 st = some (none, st') ∧ PI st' own' n d CL SL (some (orL (CL (d + 1)) (SL (d + 1)))) ∧ upto on25 st st' ∧ sI st' 25 9 = sI st 25 9 := by
  obtain ⟨s2, b1, b2, b3, b4⟩ := settleS_ok h
  have h5 := h.2.2.2.2.1
  have hd4 := h.2.2.1
  have hX := h.1
  obtain ⟨a1, a2, a3, a4, a5, a6, a7, a8, a9, a10, a11⟩ := b2
  have hA := (a9 (d + 1) (Nat.le_refl _)).1
  rw [up1_s] at hA
  let s3 := uI s2 25 7 (nI d)
  have X3 : FX s3 := a1
  have e3 : ∀ q j, ¬ (q = 25 ∧ j = 7) → sI s3 q j = sI s2 q j := fun q j hq => by show sI (uI s2 25 7 (nI d)) q j = _; rw [I_uI, if_neg hq]
  let s4 := uI (uI (uI s3 31 0 (sI s2 (32 + 2 * (d + 1)) 0)) 31 1 (sI s2 (32 + 2 * (d + 1)) 1)) 31 2 (sI s2 (32 + 2 * (d + 1)) 2)
  have X4 : FX s4 := a1
  let s5 := uI s4 25 6 1
  have sC := prt_sh X3 (o := 32 + 2 * (d + 1)) (by omega)
  have es : f_X5_closeBracket 25 at0 st = some (none, s5) := by
    rw [e_X5_closeBracket_0, c25 hX, i25 hX, Option.bind_some, h5, if_pos (by show nI 0 < nI (d + 1); rw [c_lt (by omega) (by omega)]; omega), b1, rv_ok, g25_3 a1, Option.bind_some, i25 a1, Option.bind_some, a5, chs a1 hd4, Option.bind_some, Option.bind_some, show nI (d + 1) - (1 : Int32) = nI d from by rw [show (1 : Int32) = nI 1 from rfl, a_sub (by omega)]; rfl, p25 a1, Option.bind_some]
    show Option.bind (ab_gR s3 25 5 5) _ = _
    rw [g25_5 X3, Option.bind_some, gI_ok sC, Option.bind_some, gI_ok sC, Option.bind_some, gI_ok sC, Option.bind_some, e3 _ _ (by omega), e3 _ _ (by omega), e3 _ _ (by omega), become_ok X3 (by omega) hA.1, rv_ok]
    show Option.bind (ab_pZ s4 25 5 6 1) _ = _
    rw [pZ_1 (k25 X4), Option.bind_some]
  have e4 : ∀ q j, sI s4 q j = if q = 31 ∧ j = 0 then sI s2 (32 + 2 * (d + 1)) 0 else if q = 31 ∧ j = 1 then sI s2 (32 + 2 * (d + 1)) 1 else if q = 31 ∧ j = 2 then sI s2 (32 + 2 * (d + 1)) 2 else sI s3 q j := fun q j => become_s q j
  have e5 : ∀ q j, q ≠ 31 → q ≠ 25 → sI s5 q j = sI s2 q j := fun q j h1 h2 => by
    show sI (uI s4 25 6 1) q j = _
    rw [I_uI, if_neg (fun z => h2 z.1), e4, if_neg (fun z => h1 z.1), if_neg (fun z => h1 z.1), if_neg (fun z => h1 z.1), e3 q j (fun z => h2 z.1)]
  have e25 : ∀ j, sI s5 25 j = if j = 6 then 1 else if j = 7 then nI d else sI s2 25 j := fun j => by
    show sI (uI s4 25 6 1) 25 j = _
    rw [I_uI]
    by_cases h6 : j = 6
    · rw [if_pos ⟨rfl, h6⟩, if_pos h6]
    · rw [if_neg (fun z => h6 z.2), if_neg h6, e4, if_neg (fun z => by omega), if_neg (fun z => by omega), if_neg (fun z => by omega)]
      show sI (uI s2 25 7 (nI d)) 25 j = _
      rw [I_uI]
      simp
  have eF : ∀ i j, Fs s5 i j ↔ Fs s2 i j := fun i j => by unfold Fs; rw [e5 27 i (by omega) (by omega)]
  have eT : ∀ i c, Ts s5 i c ↔ Ts s2 i c := fun i c => by unfold Ts; rw [e5 26 c (by omega) (by omega)]
  have o25 : on25 25 := by show 25 ≤ 25 ∧ 25 ≤ 41; omega
  have o31 : on25 31 := by show 25 ≤ 31 ∧ 31 ≤ 41; omega
  have U : upto on25 st s5 := upto_trans b3 (upto_trans (upto_uI o25) (upto_trans (upto_uI o31) (upto_trans (upto_uI o31) (upto_trans (upto_uI o31) (upto_uI o25)))))
  have own100 : ∀ i, i < n → mvO own (2 * (d + 1) + 1) (2 * (d + 1)) i ≠ 100 := fun i hi q => by
    rcases a11 i hi with z | z
    · omega
    · cases z.2
  refine ⟨s5, mvO (mvO own (2 * (d + 1) + 1) (2 * (d + 1))) (2 * (d + 1)) 100, es, ⟨FX_up hX U, a2, by omega, by rw [e25, if_neg (by decide), if_neg (by decide)]; exact a4, by rw [e25, if_neg (by decide), if_pos rfl], by rw [e25, if_pos rfl]; rfl, fun i j q => a7 i j ((eF i j).mp q), fun i c q => a8 i c ((eT i c).mp q), fun j hj => ?_, fun l hl => ?_, fun i hi => ?_⟩, U, by rw [e25, if_neg (by decide), if_neg (by decide)]; exact b4⟩
  · have hj2 := a9 j (by omega)
    rw [up1_o (show j ≠ d + 1 by omega), up1_o (show j ≠ d + 1 by omega)] at hj2
    have kp : ∀ o k0 l, isPrt s2 o (fun i => i < n ∧ mvO own (2 * (d + 1) + 1) (2 * (d + 1)) i = k0) l → 32 ≤ o → k0 ≠ 2 * (d + 1) → k0 ≠ 100 → isPrt s5 o (fun i => i < n ∧ mvO (mvO own (2 * (d + 1) + 1) (2 * (d + 1))) (2 * (d + 1)) 100 i = k0) l := by
      intro o k0 l hp h1 h2 h3
      refine isPrt_P (isPrt_eq hp (fun k => e5 o k (by omega) (by omega)) (fun i j _ => (eF i j).symm) (fun i c _ => (eT i c).symm)) (fun i => ?_)
      show _ ↔ i < n ∧ (if mvO own (2 * (d + 1) + 1) (2 * (d + 1)) i = 2 * (d + 1) then 100 else mvO own (2 * (d + 1) + 1) (2 * (d + 1)) i) = k0
      by_cases hi : mvO own (2 * (d + 1) + 1) (2 * (d + 1)) i = 2 * (d + 1)
      · rw [if_pos hi]; omega
      · rw [if_neg hi]
    exact ⟨kp _ _ _ hj2.1 (by omega) (by omega) (by omega), kp _ _ _ hj2.2 (by omega) (by omega) (by omega)⟩
  · cases hl
    have g0 : sI s5 31 0 = sI s2 (32 + 2 * (d + 1)) 0 := by show sI (uI s4 25 6 1) 31 0 = _; rw [I_uI, if_neg (fun z => by omega), e4, if_pos ⟨rfl, rfl⟩]
    have g1 : sI s5 31 1 = sI s2 (32 + 2 * (d + 1)) 1 := by show sI (uI s4 25 6 1) 31 1 = _; rw [I_uI, if_neg (fun z => by omega), e4, if_neg (fun z => by omega), if_pos ⟨rfl, rfl⟩]
    have g2 : sI s5 31 2 = sI s2 (32 + 2 * (d + 1)) 2 := by show sI (uI s4 25 6 1) 31 2 = _; rw [I_uI, if_neg (fun z => by omega), e4, if_neg (fun z => by omega), if_neg (fun z => by omega), if_pos ⟨rfl, rfl⟩]
    refine ⟨by rw [g0]; exact hA.1, ?_⟩
    rw [g0, g1, g2]
    refine prt_iff (prt_congr (F' := Fs s5) (T' := Ts s5) hA.2 (fun i j _ => (eF i j).symm) (fun i c _ => (eT i c).symm)) Iff.rfl (fun _ => Iff.rfl) (fun _ => Iff.rfl) (fun i => ?_)
    show _ ↔ i < n ∧ (if mvO own (2 * (d + 1) + 1) (2 * (d + 1)) i = 2 * (d + 1) then 100 else mvO own (2 * (d + 1) + 1) (2 * (d + 1)) i) = 100
    by_cases hi : mvO own (2 * (d + 1) + 1) (2 * (d + 1)) i = 2 * (d + 1)
    · rw [if_pos hi]; exact ⟨fun z => ⟨z.1, rfl⟩, fun z => ⟨z.1, hi⟩⟩
    · rw [if_neg hi]; exact ⟨fun z => absurd z.2 hi, fun z => absurd z.2 (own100 i z.1)⟩
  · show (if mvO own (2 * (d + 1) + 1) (2 * (d + 1)) i = 2 * (d + 1) then 100 else mvO own (2 * (d + 1) + 1) (2 * (d + 1)) i) ≤ 2 * d + 1 ∨ ((if mvO own (2 * (d + 1) + 1) (2 * (d + 1)) i = 2 * (d + 1) then 100 else mvO own (2 * (d + 1) + 1) (2 * (d + 1)) i) = 100 ∧ _)
    by_cases hi2 : mvO own (2 * (d + 1) + 1) (2 * (d + 1)) i = 2 * (d + 1)
    · rw [if_pos hi2]; exact Or.inr ⟨rfl, rfl⟩
    · rw [if_neg hi2]
      left
      rcases a11 i hi with z | z
      · have : mvO own (2 * (d + 1) + 1) (2 * (d + 1)) i ≠ 2 * (d + 1) + 1 := by
          unfold mvO
          by_cases q : own i = 2 * (d + 1) + 1
          · rw [if_pos q]; omega
          · rw [if_neg q]; exact q
        omega
      · cases z.2
end CPAT2
