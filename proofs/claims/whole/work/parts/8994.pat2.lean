/-! THE CLASS'S PATTERN: what its parts mean; pieces, sequences, choices -/
def PI (st : ab_S) (own : Nat → Nat) (n d : Nat) (CL SL : Nat → Lg) (W : Option Lg) : Prop := FX st ∧ n ≤ 24 ∧ d ≤ 4 ∧ sI st 25 8 = nI n ∧ sI st 25 7 = nI d ∧ sI st 25 6 = b01 W.isSome ∧ (∀ i j, Fs st i j → i < n ∧ j < n) ∧ (∀ i c, Ts st i c → i < n) ∧ (∀ j, j ≤ d → isPrt st (32 + 2 * j) (fun i => i < n ∧ own i = 2 * j) (CL j) ∧ isPrt st (33 + 2 * j) (fun i => i < n ∧ own i = 2 * j + 1) (SL j)) ∧ (∀ l, W = some l → isPrt st 31 (fun i => i < n ∧ own i = 100) l) ∧ ∀ i, i < n → own i ≤ 2 * d + 1 ∨ (own i = 100 ∧ W.isSome = true)
section PAT2
variable {L : Nat} {st : ab_S} {own : Nat → Nat} {n d : Nat} {CL SL : Nat → Lg} {W : Option Lg}
abbrev on25 (q : Nat) : Prop := 25 ≤ q ∧ q ≤ 41
theorem isPrt_P {o : Nat} {P P' : Nat → Prop} {l : Lg} (h : isPrt st o P l) (hP : ∀ i, P i ↔ P' i) : isPrt st o P' l := ⟨h.1, prt_iff h.2 Iff.rfl (fun _ => Iff.rfl) (fun _ => Iff.rfl) hP⟩
/-- the takers of a place -/
theorem takers_ok (hX : FX st) {b : Nat} (hb24 : b < 24) {lo hi : Nat} (hlo : lo ≤ 256) (hhi : hi < 256) : ∃ st', L_X5_putPlace_12 25 (nI hi) ((1 : Int32) <<< (nI b &&& 31)) (nI lo) st = some (none, st') ∧ upto (fun q => q = 26) st st' ∧ ∀ i c, Ts st' i c ↔ Ts st i c ∨ (i = b ∧ lo ≤ c ∧ c ≤ hi) := by
  have key : ∀ k lo (s : ab_S), hi + 1 - lo = k → lo ≤ 256 → upto (fun q => q = 26) st s → ∃ st', L_X5_putPlace_12 25 (nI hi) ((1 : Int32) <<< (nI b &&& 31)) (nI lo) s = some (none, st') ∧ upto (fun q => q = 26) st st' ∧ ∀ i c, Ts st' i c ↔ Ts s i c ∨ (i = b ∧ lo ≤ c ∧ c ≤ hi) := by
    intro k
    induction k with
    | zero =>
      intro lo s hk hlo hu
      refine ⟨s, ?_, hu, fun i c => ⟨Or.inl, fun q => q.elim id (fun z => by omega)⟩⟩
      rw [e_X5_putPlace_12, if_pos (by rw [c_lt (by omega) (by omega)]; omega)]
    | succ k ih =>
      intro lo s hk hlo hu
      have X := FX_up hX hu
      obtain ⟨st', a1, a2, a3⟩ := ih (lo + 1) (uI s 26 lo (sI s 26 lo ||| ((1 : Int32) <<< (nI b &&& 31)))) (by omega) (by omega) (upto_trans hu (upto_uI rfl))
      refine ⟨st', ?_, a2, fun i c => ?_⟩
      · rw [e_X5_putPlace_12, if_neg (by rw [c_lt (by omega) (by omega)]; omega), nl 256, if_neg (by rw [c_le (by omega) (by omega)]; omega), g25_0 X, Option.bind_some, r26 X (by omega), Option.bind_some, w26 X (by omega), Option.bind_some, nI_1]
        exact a1
      · rw [a3 i c]
        have e : Ts (uI s 26 lo (sI s 26 lo ||| ((1 : Int32) <<< (nI b &&& 31)))) i c ↔ Ts s i c ∨ (i = b ∧ c = lo) := by
          unfold Ts
          rw [I_uI]
          by_cases hc : c = lo
          · subst hc
            rw [if_pos ⟨rfl, rfl⟩, hb_or, hb_one hb24]
            exact ⟨fun q => q.2.elim (fun z => Or.inl ⟨q.1, z⟩) (fun z => Or.inr ⟨z, rfl⟩), fun q => q.elim (fun z => ⟨z.1, Or.inl z.2⟩) (fun z => ⟨by omega, Or.inr z.1⟩)⟩
          · rw [if_neg (fun z => hc z.2)]
            exact ⟨Or.inl, fun q => q.elim id (fun z => absurd z.2 hc)⟩
        rw [e]
        constructor
        · rintro ((q | ⟨q1, q2⟩) | ⟨q1, q2, q3⟩)
          · exact Or.inl q
          · exact Or.inr ⟨q1, by omega, by omega⟩
          · exact Or.inr ⟨q1, by omega, q3⟩
        · rintro (q | ⟨q1, q2, q3⟩)
          · exact Or.inl (Or.inl q)
          · by_cases hc : c = lo
            · exact Or.inl (Or.inr ⟨q1, hc⟩)
            · exact Or.inr ⟨q1, by omega, q3⟩
  exact key _ lo st rfl hlo upto_rfl
/-- a new place becomes the piece; which signs it takes is told behind it -/
def npS (st : ab_S) (n : Nat) : ab_S := uI (uI (uI (uI (uI st 25 8 (nI (n + 1))) 31 0 0) 31 1 ((1 : Int32) <<< (nI n &&& 31))) 31 2 ((1 : Int32) <<< (nI n &&& 31))) 25 6 1
theorem newPlace_ok (hX : FX st) (h8 : sI st 25 8 = nI n) (hn : n < 24) : f_X5_newPlace 25 st = some (some (.int ((1 : Int32) <<< (nI n &&& 31))), npS st n) := by
  have X1 : FX (uI st 25 8 (nI (n + 1))) := hX
  have X2 : FX (uI (uI (uI (uI st 25 8 (nI (n + 1))) 31 0 0) 31 1 ((1 : Int32) <<< (nI n &&& 31))) 31 2 ((1 : Int32) <<< (nI n &&& 31))) := hX
  rw [e_X5_newPlace_0, c25 hX, i25 hX, Option.bind_some, h8, if_neg (by show ¬ nI 24 ≤ nI n; rw [c_le (by omega) (by omega)]; omega), Option.bind_some, e_X5_newPlace_19, i25 hX, Option.bind_some, h8, nI_1, if_neg (by show ¬ nI 24 < nI (n + 1); rw [c_lt (by omega) (by omega)]; omega), p25 hX, Option.bind_some, g25_5 X1, Option.bind_some, become_ok X1 (by omega) (Or.inl rfl), rv_ok, pZ_1 (k25 X2), Option.bind_some]
  rfl
theorem np_s (q j : Nat) (hq : q ≠ 31) : sI (npS st n) q j = if q = 25 ∧ j = 6 then 1 else if q = 25 ∧ j = 8 then nI (n + 1) else sI st q j := by
  unfold npS
  rw [I_uI]
  by_cases h6 : q = 25 ∧ j = 6
  · rw [if_pos h6, if_pos h6]
  · rw [if_neg h6, if_neg h6, I_uI, if_neg (fun z => hq z.1), I_uI, if_neg (fun z => hq z.1), I_uI, if_neg (fun z => hq z.1), I_uI]
theorem np_31 : sI (npS st n) 31 0 = 0 ∧ sI (npS st n) 31 1 = ((1 : Int32) <<< (nI n &&& 31)) ∧ sI (npS st n) 31 2 = ((1 : Int32) <<< (nI n &&& 31)) := by
  unfold npS
  simp [I_uI]
theorem PI_new (h : PI st own n d CL SL none) (hn : n < 24) {st' : ab_S} {p : Nat → Prop} (hu : upto (fun q => q = 26 ∨ q = 28) (npS st n) st') (hT : ∀ i c, Ts st' i c ↔ Ts st i c ∨ (i = n ∧ p c)) : PI st' (up1 own n 100) (n + 1) d CL SL (some (oneL p)) ∧ upto on25 st st' := by
  obtain ⟨a1, a2, a3, a4, a5, a6, a7, a8, a9, a10, a11⟩ := h
  have u0 : upto on25 st (npS st n) := upto_trans (upto_uI (by omega)) (upto_trans (upto_uI (by omega)) (upto_trans (upto_uI (by omega)) (upto_trans (upto_uI (by omega)) (upto_uI (by omega)))))
  have U : upto on25 st st' := upto_trans u0 (upto_mono hu (fun q hq => by show 25 ≤ q ∧ q ≤ 41; omega))
  have eI : ∀ q j, q ≠ 26 → q ≠ 28 → q ≠ 31 → q ≠ 25 → sI st' q j = sI st q j := fun q j h1 h2 h3 h4 => by
    rw [(hu.2.2 q (by omega)).1, np_s q j h3, if_neg (fun z => h4 z.1), if_neg (fun z => h4 z.1)]
  have e25 : ∀ j, sI st' 25 j = if j = 6 then 1 else if j = 8 then nI (n + 1) else sI st 25 j := fun j => by
    rw [(hu.2.2 25 (by omega)).1, np_s 25 j (by omega)]; simp
  have hF : ∀ i j, Fs st' i j ↔ Fs st i j := fun i j => by unfold Fs; rw [eI 27 i (by omega) (by omega) (by omega) (by omega)]
  have keep : ∀ o k0 l, 32 ≤ o → o ≤ 41 → k0 ≠ 100 → isPrt st o (fun i => i < n ∧ own i = k0) l → isPrt st' o (fun i => i < n + 1 ∧ up1 own n 100 i = k0) l := by
    intro o k0 l h1 h2 hid hp
    refine isPrt_P (isPrt_eq hp (fun k => eI o k (by omega) (by omega) (by omega) (by omega)) (fun i j _ => (hF i j).symm) (fun i c hi => ?_)) (fun i => ?_)
    · rw [hT i c]
      exact ⟨Or.inl, fun q => q.elim id (fun z => by omega)⟩
    · by_cases hin : i = n
      · subst hin; rw [up1_s]; omega
      · rw [up1_o hin]; omega
  refine ⟨⟨FX_up a1 U, by omega, a3, by rw [e25, if_neg (by decide), if_pos rfl], by rw [e25, if_neg (by decide), if_neg (by decide)]; exact a5, by rw [e25, if_pos rfl]; rfl, fun i j hij => ?_, fun i c hic => ?_, fun j hj => ⟨keep _ _ _ (by omega) (by omega) (by omega) (a9 j hj).1, keep _ _ _ (by omega) (by omega) (by omega) (a9 j hj).2⟩, fun l hl => ?_, fun i hi => ?_⟩, U⟩
  · have := a7 i j ((hF i j).mp hij); omega
  · rcases (hT i c).mp hic with q | q
    · have := a8 i c q; omega
    · omega
  · cases hl
    have b0 : sI st' 31 0 = 0 := by rw [(hu.2.2 31 (by omega)).1]; exact np_31.1
    have b1 : sI st' 31 1 = ((1 : Int32) <<< (nI n &&& 31)) := by rw [(hu.2.2 31 (by omega)).1]; exact np_31.2.1
    have b2 : sI st' 31 2 = ((1 : Int32) <<< (nI n &&& 31)) := by rw [(hu.2.2 31 (by omega)).1]; exact np_31.2.2
    refine ⟨Or.inl b0, prt_iff (prt_one (n := n) (p := p) (fun j hj => ?_) (fun c => ?_)) ?_ (fun i => ?_) (fun i => ?_) (fun i => ?_)⟩
    · have := (a7 n j ((hF n j).mp hj)).1; omega
    · rw [hT n c]
      exact ⟨fun q => q.elim (fun z => by have := a8 n c z; omega) (fun z => z.2), fun q => Or.inr ⟨rfl, q⟩⟩
    · rw [b0]; exact ⟨False.elim, fun q => by cases q⟩
    · rw [b1, hb_one hn]
    · rw [b2, hb_one hn]
    · by_cases hin : i = n
      · subst hin; rw [up1_s]; exact ⟨fun _ => ⟨by omega, rfl⟩, fun _ => rfl⟩
      · rw [up1_o hin]
        refine ⟨fun q => absurd q hin, fun q => ?_⟩
        exfalso
        have := a11 i (by omega)
        rcases this with z | z
        · omega
        · cases z.2
  · by_cases hin : i = n
    · subst hin; rw [up1_s]; exact Or.inr ⟨rfl, by simp⟩
    · rw [up1_o hin]
      rcases a11 i (by omega) with z | z
      · exact Or.inl z
      · cases z.2
theorem putPlace_ok (h : PI st own n d CL SL none) (hn : n < 24) {lo hi : Nat} (hlo : lo ≤ 256) (hhi : hi < 256) : ∃ st', f_X5_putPlace 25 (nI lo) (nI hi) st = some (none, st') ∧ PI st' (up1 own n 100) (n + 1) d CL SL (some (oneL (fun c => lo ≤ c ∧ c ≤ hi))) ∧ upto on25 st st' ∧ sI st' 25 9 = sI st 25 9 := by
  have hX := h.1
  have X1 : FX (npS st n) := hX
  obtain ⟨s2, a1, a2, a3⟩ := takers_ok X1 hn hlo hhi
  have eT : ∀ i c, Ts (npS st n) i c ↔ Ts st i c := fun i c => by unfold Ts; rw [np_s 26 c (by omega), if_neg (fun z => by omega), if_neg (fun z => by omega)]
  obtain ⟨b1, b2⟩ := PI_new h hn (upto_mono a2 (fun q hq => Or.inl hq)) (p := fun c => lo ≤ c ∧ c ≤ hi) (fun i c => by rw [a3 i c, eT])
  refine ⟨s2, ?_, b1, b2, ?_⟩
  · rw [e_X5_putPlace_0, c25 hX, newPlace_ok hX h.2.2.2.1 hn, ri_ok, if_neg (by show ¬ nI lo < nI 0; rw [c_neg (by omega)]; exact id)]
    exact a1
  · rw [(a2.2.2 25 (by omega)).1, np_s 25 9 (by omega)]; simp
/-- the piece, some times or maybe -/
def repL (s : Nat) (l : Lg) : Lg := if s = 42 then optL (plusL l) else if s = 43 then plusL l else optL l
theorem PI_F {st' : ab_S} (h : PI st own n d CL SL W) (hu : upto (fun q => q = 27) st st') {f t : Int32} {k0 : Nat} (hf : ∀ i, hb f i → i < n ∧ own i = k0) (ht : ∀ j, hb t j → j < n) (hF : ∀ i j, Fs st' i j ↔ Fs st i j ∨ (hb f i ∧ hb t j)) : ∀ o P l, isPrt st o P l → o ≠ 27 → (∀ i, P i → own i ≠ k0) → isPrt st' o P l := by
  intro o P l hp ho hP
  refine isPrt_eq hp (fun k => by rw [(hu.2.2 o ho).1]) (fun i j hi => ?_) (fun i c _ => by unfold Ts; rw [(hu.2.2 26 (by omega)).1])
  rw [hF i j]
  exact ⟨Or.inl, fun q => q.elim id (fun z => absurd (hf i z.1).2 (hP i hi))⟩
theorem repeat_ok {l : Lg} (h : PI st own n d CL SL (some l)) {s : Nat} (hs : s = 42 ∨ s = 43 ∨ s = 63) : ∃ st', f_X5_repeat 25 (nI s) st = some (none, st') ∧ PI st' own n d CL SL (some (repL s l)) ∧ upto on25 st st' ∧ sI st' 25 9 = sI st 25 9 := by
  obtain ⟨a1, a2, a3, a4, a5, a6, a7, a8, a9, a10, a11⟩ := h
  have h : PI st own n d CL SL (some l) := ⟨a1, a2, a3, a4, a5, a6, a7, a8, a9, a10, a11⟩
  have hp := a10 l rfl
  have s31' := prt_sh a1 (o := 31) (by omega)
  -- behind the loop
  have fin : ∀ (s1 : ab_S) (l1 : Lg), PI s1 own n d CL SL (some l1) → upto on25 st s1 → sI s1 25 9 = sI st 25 9 → ∃ st', L_X5_repeat_24 25 (nI s) s1 = some (none, st') ∧ PI st' own n d CL SL (some (if s = 43 then l1 else optL l1)) ∧ upto on25 st st' ∧ sI st' 25 9 = sI st 25 9 := by
    intro s1 l1 hP hu h9
    rw [e_X5_repeat_24]
    by_cases h43 : s = 43
    · rw [if_pos (by rw [h43]; rfl)]
      exact ⟨s1, rfl, by rw [if_pos h43]; exact hP, hu, h9⟩
    · have X1 := hP.1
      rw [if_neg (by show ¬ nI s = nI 43; rw [c_eq (by omega) (by omega)]; exact h43), g25_5 X1, Option.bind_some, pZ_1 (prt_sh X1 (by omega)), Option.bind_some]
      obtain ⟨b1, b2, b3, b4, b5, b6, b7, b8, b9, b10, b11⟩ := hP
      have eI : ∀ q j, ¬ (q = 31 ∧ j = 0) → sI (uI s1 31 0 1) q j = sI s1 q j := fun q j hq => by rw [I_uI, if_neg hq]
      have eF : ∀ i j, Fs (uI s1 31 0 1) i j ↔ Fs s1 i j := fun i j => by unfold Fs; rw [eI 27 i (by omega)]
      have eT : ∀ i c, Ts (uI s1 31 0 1) i c ↔ Ts s1 i c := fun i c => by unfold Ts; rw [eI 26 c (by omega)]
      refine ⟨uI s1 31 0 1, rfl, ⟨b1, b2, b3, by rw [eI 25 8 (by omega)]; exact b4, by rw [eI 25 7 (by omega)]; exact b5, by rw [eI 25 6 (by omega)]; exact b6, fun i j q => b7 i j ((eF i j).mp q), fun i c q => b8 i c ((eT i c).mp q), fun j hj => ⟨isPrt_eq (b9 j hj).1 (fun k => eI _ _ (by omega)) (fun i j _ => (eF i j).symm) (fun i c _ => (eT i c).symm), isPrt_eq (b9 j hj).2 (fun k => eI _ _ (by omega)) (fun i j _ => (eF i j).symm) (fun i c _ => (eT i c).symm)⟩, fun l2 hl2 => ?_, b11⟩, upto_trans hu (upto_uI (by omega)), by rw [eI 25 9 (by omega)]; exact h9⟩
      rw [if_neg h43] at hl2
      cases hl2
      have hq := b10 l1 rfl
      have e0 : sI (uI s1 31 0 1) 31 0 = 1 := by rw [I_uI, if_pos ⟨rfl, rfl⟩]
      refine ⟨Or.inr e0, ?_⟩
      rw [e0, eI 31 1 (by omega), eI 31 2 (by omega)]
      have hq2 := prt_congr (F' := Fs (uI s1 31 0 1)) (T' := Ts (uI s1 31 0 1)) (prt_opt hq.2) (fun i j _ => (eF i j).symm) (fun i c _ => (eT i c).symm)
      exact prt_iff hq2 ⟨fun _ => rfl, fun _ => trivial⟩ (fun _ => Iff.rfl) (fun _ => Iff.rfl) (fun _ => Iff.rfl)
  rw [e_X5_repeat_0, c25 a1]
  by_cases h63 : s = 63
  · rw [if_pos (by rw [h63]; rfl)]
    obtain ⟨st', f1, f2, f3, f4⟩ := fin st l h upto_rfl rfl
    refine ⟨st', f1, ?_, f3, f4⟩
    have : repL s l = if s = 43 then l else optL l := by unfold repL; rw [if_neg (by omega), if_neg (by omega), if_neg (by omega)]
    rw [this]; exact f2
  · rw [if_neg (by show ¬ nI s = nI 63; rw [c_eq (by omega) (by omega)]; exact h63), g25_5 a1, Option.bind_some, gI_ok s31', Option.bind_some, Option.bind_some, gI_ok s31', Option.bind_some]
    have hf : ∀ i, hb (sI st 31 2) i → i < n ∧ own i = 100 := fun i hi => hp.2.2.1 i hi
    have ht : ∀ i, hb (sI st 31 1) i → i < n := fun i hi => (hp.2.1 i hi).1
    obtain ⟨s2, c1, c2, c3⟩ := lead_ok a1 a2 a4 (f := sI st 31 2) (t := sI st 31 1) (fun i hi => (hf i hi).1)
    have kp := PI_F h c2 hf ht c3
    have X2 := FX_up a1 c2
    have eT : ∀ i c, Ts s2 i c ↔ Ts st i c := fun i c => by unfold Ts; rw [(c2.2.2 26 (by omega)).1]
    have e25 : sI s2 25 = sI st 25 := (c2.2.2 25 (by omega)).1
    have P2 : PI s2 own n d CL SL (some (plusL l)) := by
      refine ⟨X2, a2, a3, by rw [e25]; exact a4, by rw [e25]; exact a5, by rw [e25]; exact a6, fun i j hij => ?_, fun i c q => a8 i c ((eT i c).mp q), fun j hj => ⟨kp _ _ _ (a9 j hj).1 (by omega) (fun i hi => by have := hi.2; omega), kp _ _ _ (a9 j hj).2 (by omega) (fun i hi => by have := hi.2; omega)⟩, fun l2 hl2 => ?_, a11⟩
      · rcases (c3 i j).mp hij with q | q
        · exact a7 i j q
        · exact ⟨(hf i q.1).1, ht j q.2⟩
      · cases hl2
        have e31 : ∀ k, sI s2 31 k = sI st 31 k := fun k => by rw [(c2.2.2 31 (by omega)).1]
        refine ⟨by rw [e31]; exact hp.1, ?_⟩
        rw [e31 0, e31 1, e31 2]
        exact prt_congr (F := Fs s2) (T := Ts st) (prt_plus hp.2 (fun i j => c3 i j)) (fun _ _ _ => Iff.rfl) (fun i c _ => (eT i c).symm)
    obtain ⟨st', f1, f2, f3, f4⟩ := fin s2 (plusL l) P2 (upto_mono c2 (fun q hq => by show 25 ≤ q ∧ q ≤ 41; omega)) (by rw [e25])
    refine ⟨st', by rw [c1, rv_ok]; exact f1, ?_, f3, f4⟩
    have : repL s l = if s = 43 then plusL l else optL (plusL l) := by
      unfold repL
      rcases hs with q | q | q
      · rw [if_pos q, if_neg (by omega)]
      · rw [if_neg (by omega), if_pos q, if_pos q]
      · omega
    rw [this]; exact f2
end PAT2
