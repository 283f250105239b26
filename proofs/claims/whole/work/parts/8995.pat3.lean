/-! THE CLASS'S PATTERN: a piece goes behind its sequence, a sequence into its choice; the start -/
section PAT3
variable {L : Nat} {st : ab_S} {own : Nat → Nat} {n d : Nat} {CL SL : Nat → Lg} {W : Option Lg}
/-- the owners when those of a become b's -/
def mvO (own : Nat → Nat) (a b : Nat) : Nat → Nat := fun i => if own i = a then b else own i
theorem settle_no (h : PI st own n d CL SL none) : f_X5_settlePiece 25 st = some (none, st) := by
  rw [e_X5_settlePiece_0, c25 h.1, i25 h.1, Option.bind_some, h.2.2.2.2.2.1]
  exact if_pos rfl
theorem settle_ok {l : Lg} (h : PI st own n d CL SL (some l)) : ∃ st', f_X5_settlePiece 25 st = some (none, st') ∧ PI st' (mvO own 100 (2 * d + 1)) n d CL (up1 SL d (catL (SL d) l)) none ∧ upto on25 st st' ∧ sI st' 25 9 = sI st 25 9 := by
  obtain ⟨a1, a2, a3, a4, a5, a6, a7, a8, a9, a10, a11⟩ := h
  have h : PI st own n d CL SL (some l) := ⟨a1, a2, a3, a4, a5, a6, a7, a8, a9, a10, a11⟩
  have hB := a10 l rfl
  have hA := (a9 d (Nat.le_refl _)).2
  let s1 := uI st 25 6 0
  have X1 : FX s1 := a1
  have u1 : upto (fun q => q = 25) st s1 := upto_uI rfl
  have e1 : ∀ q j, q ≠ 25 → sI s1 q j = sI st q j := fun q j hq => by show sI (uI st 25 6 0) q j = _; rw [I_uI, if_neg (fun z => hq z.1)]
  have e1F : ∀ i j, Fs s1 i j ↔ Fs st i j := fun i j => by unfold Fs; rw [e1 27 i (by omega)]
  have hf : ∀ i, hb (sI st (33 + 2 * d) 2) i → i < n ∧ own i = 2 * d + 1 := fun i hi => hA.2.2.1 i hi
  have ht : ∀ i, hb (sI st 31 1) i → i < n ∧ own i = 100 := fun i hi => hB.2.1 i hi
  have q8 : sI s1 25 8 = nI n := by show sI (uI st 25 6 0) 25 8 = _; rw [I_uI, if_neg (by decide)]; exact a4
  have q7 : sI s1 25 7 = nI d := by show sI (uI st 25 6 0) 25 7 = _; rw [I_uI, if_neg (by decide)]; exact a5
  obtain ⟨s2, c1, c2, c3⟩ := lead_ok X1 a2 q8 (f := sI st (33 + 2 * d) 2) (t := sI st 31 1) (fun i hi => (hf i hi).1)
  have X2 := FX_up X1 c2
  have e2 : ∀ q j, q ≠ 25 → q ≠ 27 → sI s2 q j = sI st q j := fun q j h1 h2 => by rw [(c2.2.2 q h2).1]; exact e1 q j h1
  have c3' : ∀ i j, Fs s2 i j ↔ Fs st i j ∨ (hb (sI st (33 + 2 * d) 2) i ∧ hb (sI st 31 1) j) := fun i j => by rw [c3 i j, e1F]
  have eT : ∀ i c, Ts s2 i c ↔ Ts st i c := fun i c => by unfold Ts; rw [e2 26 c (by omega) (by omega)]
  -- what becomes of the sequence
  have hcat := prt_cat (F' := Fs s2) hA.2 hB.2 (fun i q1 q2 => by have := q1.2; have := q2.2; omega) c3'
  let B : Int32 := if sI st (33 + 2 * d) 0 = 0 then 0 else if sI st 31 0 = 0 then 0 else 1
  let f : Int32 := if sI st (33 + 2 * d) 0 = 0 then sI st (33 + 2 * d) 1 else sI st (33 + 2 * d) 1 ||| sI st 31 1
  let la : Int32 := if sI st 31 0 = 0 then sI st 31 2 else sI st (33 + 2 * d) 2 ||| sI st 31 2
  have hB01 : B = 0 ∨ B = 1 := by
    show (if sI st (33 + 2 * d) 0 = 0 then (0 : Int32) else if sI st 31 0 = 0 then 0 else 1) = 0 ∨ (if sI st (33 + 2 * d) 0 = 0 then (0 : Int32) else if sI st 31 0 = 0 then 0 else 1) = 1
    split
    · exact Or.inl rfl
    · split
      · exact Or.inl rfl
      · exact Or.inr rfl
  let s3 := uI (uI (uI s2 (33 + 2 * d) 0 B) (33 + 2 * d) 1 f) (33 + 2 * d) 2 la
  have ebec := become_ok X2 (o := 33 + 2 * d) (by omega) (b := B) (f := f) (l := la) hB01
  have sq2 := prt_sh X2 (o := 33 + 2 * d) (by omega)
  have s31a := prt_sh X2 (o := 31) (by omega)
  have k0 : sI s2 (33 + 2 * d) 0 = sI st (33 + 2 * d) 0 := e2 _ _ (by omega) (by omega)
  have k1 : sI s2 (33 + 2 * d) 1 = sI st (33 + 2 * d) 1 := e2 _ _ (by omega) (by omega)
  have k2 : sI s2 (33 + 2 * d) 2 = sI st (33 + 2 * d) 2 := e2 _ _ (by omega) (by omega)
  have m0 : sI s2 31 0 = sI st 31 0 := e2 _ _ (by omega) (by omega)
  have m1 : sI s2 31 1 = sI st 31 1 := e2 _ _ (by omega) (by omega)
  have m2 : sI s2 31 2 = sI st 31 2 := e2 _ _ (by omega) (by omega)
  have e97 : ∀ f la, L_X5_settlePiece_97 25 (33 + 2 * d) f la s2 = ab_rv (f_X4_become (33 + 2 * d) B f la s2) fun s1 => some (none, s1) := by
    intro f la
    rw [e_X5_settlePiece_97, gI_ok sq2, Option.bind_some, k0, g25_5 X2, Option.bind_some, gI_ok s31a, Option.bind_some, m0, e_X5_settlePiece_120, e_X5_settlePiece_121, e_X5_settlePiece_121]
    show _ = ab_rv (f_X4_become (33 + 2 * d) (if sI st (33 + 2 * d) 0 = 0 then (0 : Int32) else if sI st 31 0 = 0 then 0 else 1) f la s2) _
    by_cases h0 : sI st (33 + 2 * d) 0 = 0
    · rw [if_pos h0, if_pos h0]
    · rw [if_neg h0, if_neg h0]
      by_cases h1 : sI st 31 0 = 0
      · rw [if_pos h1, if_pos h1]
      · rw [if_neg h1, if_neg h1]
  have e64 : ∀ f, L_X5_settlePiece_64 25 (33 + 2 * d) f s2 = L_X5_settlePiece_97 25 (33 + 2 * d) f la s2 := by
    intro f
    rw [e_X5_settlePiece_64, g25_5 X2, Option.bind_some, gI_ok s31a, Option.bind_some, m0]
    show _ = L_X5_settlePiece_97 25 (33 + 2 * d) f (if sI st 31 0 = 0 then sI st 31 2 else sI st (33 + 2 * d) 2 ||| sI st 31 2) s2
    by_cases h1 : sI st 31 0 = 0
    · rw [if_pos h1, if_pos h1, Option.bind_some, gI_ok s31a, Option.bind_some, m2]
    · rw [if_neg h1, if_neg h1, gI_ok sq2, Option.bind_some, k2, Option.bind_some, gI_ok s31a, Option.bind_some, m2]
  have es : f_X5_settlePiece 25 st = some (none, s3) := by
    have sA := prt_sh X1 (o := 33 + 2 * d) (by omega)
    have sB := prt_sh X1 (o := 31) (by omega)
    rw [e_X5_settlePiece_0, c25 a1, i25 a1, Option.bind_some, a6, bi1 (b := (some l).isSome) (by simp), pZ_0 (k25 a1), Option.bind_some]
    show Option.bind (ab_gR s1 25 5 4) _ = _
    rw [g25_4 X1, Option.bind_some, i25 X1, Option.bind_some, q7, sqs X1 a3, Option.bind_some, gI_ok sA, Option.bind_some, g25_5 X1, Option.bind_some, gI_ok sB, Option.bind_some, e1 _ _ (by omega), e1 _ _ (by omega), c1, rv_ok, gI_ok sq2, Option.bind_some, k0]
    have fin : ab_rv (f_X4_become (33 + 2 * d) B f la s2) (fun s1 => some (none, s1)) = some (none, s3) := by rw [ebec, rv_ok]
    refine Eq.trans ?_ fin
    show _ = ab_rv (f_X4_become (33 + 2 * d) B (if sI st (33 + 2 * d) 0 = 0 then sI st (33 + 2 * d) 1 else sI st (33 + 2 * d) 1 ||| sI st 31 1) la s2) fun s1 => some (none, s1)
    by_cases h0 : sI st (33 + 2 * d) 0 = 0
    · rw [if_pos h0, if_pos h0, gI_ok sq2, Option.bind_some, k1, e64, e97]
    · rw [if_neg h0, if_neg h0, gI_ok sq2, Option.bind_some, k1, g25_5 X2, Option.bind_some, gI_ok s31a, Option.bind_some, m1, e64, e97]
  have e3 : ∀ q j, sI s3 q j = if q = 33 + 2 * d ∧ j = 0 then B else if q = 33 + 2 * d ∧ j = 1 then f else if q = 33 + 2 * d ∧ j = 2 then la else sI s2 q j := fun q j => become_s q j
  have e3o : ∀ q j, q ≠ 33 + 2 * d → sI s3 q j = sI s2 q j := fun q j hq => by rw [e3, if_neg (fun z => hq z.1), if_neg (fun z => hq z.1), if_neg (fun z => hq z.1)]
  have e3F : ∀ i j, Fs s3 i j ↔ Fs s2 i j := fun i j => by unfold Fs; rw [e3o 27 i (by omega)]
  have e3T : ∀ i c, Ts s3 i c ↔ Ts st i c := fun i c => by rw [← eT]; unfold Ts; rw [e3o 26 c (by omega)]
  have U : upto on25 st s3 := upto_trans (upto_mono u1 (fun q hq => by show 25 ≤ q ∧ q ≤ 41; omega)) (upto_trans (upto_mono c2 (fun q hq => by show 25 ≤ q ∧ q ≤ 41; omega)) (upto_trans (upto_uI (by show 25 ≤ _ ∧ _ ≤ 41; omega)) (upto_trans (upto_uI (by show 25 ≤ _ ∧ _ ≤ 41; omega)) (upto_uI (by show 25 ≤ _ ∧ _ ≤ 41; omega)))))
  have e25 : ∀ j, j ≠ 6 → sI s3 25 j = sI st 25 j := fun j hj => by
    rw [e3o 25 j (by omega), (c2.2.2 25 (by omega)).1]
    show sI (uI st 25 6 0) 25 j = _
    rw [I_uI, if_neg (fun z => hj z.2)]
  have keep : ∀ o k0 l, isPrt st o (fun i => i < n ∧ own i = k0) l → 32 ≤ o → o ≤ 41 → o ≠ 33 + 2 * d → k0 ≠ 2 * d + 1 → k0 ≠ 100 → isPrt s3 o (fun i => i < n ∧ mvO own 100 (2 * d + 1) i = k0) l := by
    intro o k0 l hp h1 h2 h3 h4 h5
    refine isPrt_P (isPrt_eq hp (fun k => by rw [e3o o k h3]; exact e2 o k (by omega) (by omega)) (fun i j hi => ?_) (fun i c _ => (e3T i c).symm)) (fun i => ?_)
    · rw [e3F, c3' i j]
      exact ⟨Or.inl, fun q => q.elim id (fun z => absurd (hf i z.1).2 (by have := hi.2; omega))⟩
    · unfold mvO
      by_cases hi : own i = 100
      · rw [if_pos hi]; omega
      · rw [if_neg hi]
  refine ⟨s3, es, ⟨FX_up a1 U, a2, a3, by rw [e25 8 (by decide)]; exact a4, by rw [e25 7 (by decide)]; exact a5, ?_, fun i j hij => ?_, fun i c q => a8 i c ((e3T i c).mp q), fun j hj => ⟨keep _ _ _ (a9 j hj).1 (by omega) (by omega) (by omega) (by omega) (by omega), ?_⟩, (fun l hl => by cases hl), fun i hi => ?_⟩, U, by rw [e25 9 (by decide)]⟩
  · rw [e3o 25 6 (by omega), (c2.2.2 25 (by omega)).1]
    show sI (uI st 25 6 0) 25 6 = _
    rw [I_uI, if_pos ⟨rfl, rfl⟩]; rfl
  · rcases (c3' i j).mp ((e3F i j).mp hij) with q | q
    · exact a7 i j q
    · exact ⟨(hf i q.1).1, (ht j q.2).1⟩
  · by_cases hjd : j = d
    · subst hjd
      rw [up1_s]
      have g0 : sI s3 (33 + 2 * j) 0 = B := by rw [e3, if_pos ⟨rfl, rfl⟩]
      have g1 : sI s3 (33 + 2 * j) 1 = f := by rw [e3, if_neg (fun z => by omega), if_pos ⟨rfl, rfl⟩]
      have g2 : sI s3 (33 + 2 * j) 2 = la := by rw [e3, if_neg (fun z => by omega), if_neg (fun z => by omega), if_pos ⟨rfl, rfl⟩]
      refine ⟨by rw [g0]; exact hB01, ?_⟩
      rw [g0, g1, g2]
      have hc2 := prt_congr (F' := Fs s3) (T' := Ts s3) hcat (fun i j _ => (e3F i j).symm) (fun i c _ => (e3T i c).symm)
      refine prt_iff hc2 ?_ (fun i => ?_) (fun i => ?_) (fun i => ?_)
      · show _ ↔ (if sI st (33 + 2 * j) 0 = 0 then (0 : Int32) else if sI st 31 0 = 0 then 0 else 1) = 1
        rcases hA.1 with q | q <;> rcases hB.1 with z | z <;> rw [q, z] <;> decide
      · show _ ↔ hb (if sI st (33 + 2 * j) 0 = 0 then sI st (33 + 2 * j) 1 else sI st (33 + 2 * j) 1 ||| sI st 31 1) i
        rcases hA.1 with q | q
        · rw [if_pos q, q]
          exact ⟨fun z => z.elim id (fun y => absurd y.1 (by decide)), Or.inl⟩
        · rw [if_neg (by rw [q]; decide), q, hb_or]
          exact ⟨fun z => z.elim Or.inl (fun y => Or.inr y.2), fun z => z.elim Or.inl (fun y => Or.inr ⟨rfl, y⟩)⟩
      · show _ ↔ hb (if sI st 31 0 = 0 then sI st 31 2 else sI st (33 + 2 * j) 2 ||| sI st 31 2) i
        rcases hB.1 with q | q
        · rw [if_pos q, q]
          exact ⟨fun z => z.elim id (fun y => absurd y.1 (by decide)), Or.inl⟩
        · rw [if_neg (by rw [q]; decide), q, hb_or]
          exact ⟨fun z => z.elim Or.inr (fun y => Or.inl y.2), fun z => z.elim (fun y => Or.inr ⟨rfl, y⟩) Or.inl⟩
      · unfold mvO
        by_cases hi : own i = 100
        · rw [if_pos hi]
          exact ⟨fun z => ⟨z.elim (fun y => y.1) (fun y => y.1), rfl⟩, fun z => Or.inr ⟨z.1, hi⟩⟩
        · rw [if_neg hi]
          exact ⟨fun z => z.elim id (fun y => absurd y.2 hi), Or.inl⟩
    · rw [up1_o hjd]
      exact keep _ _ _ (a9 j hj).2 (by omega) (by omega) (by omega) (by omega) (by omega)
  · unfold mvO
    by_cases hi2 : own i = 100
    · rw [if_pos hi2]; exact Or.inl (Nat.le_refl _)
    · rw [if_neg hi2]
      rcases a11 i hi with q | q
      · exact Or.inl q
      · exact absurd q.1 hi2
end PAT3
