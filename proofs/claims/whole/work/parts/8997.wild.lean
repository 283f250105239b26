/-! THE CLASS: what a pattern accepts; wild words -/
noncomputable def lgB (l : Lg) (x : List Nat) : Bool := by
  classical
  exact decide (l x)
theorem lgB_iff {l : Lg} {x : List Nat} : lgB l x = true ↔ l x := by
  classical
  unfold lgB
  exact decide_eq_true_iff
def cont (F T : Nat → Nat → Prop) (ls : Nat → Prop) (z : List Nat) (i : Nat) : Prop := (z = [] ∧ ls i) ∨ ∃ j, F i j ∧ go F T ls z j
section WILD
variable {L : Nat} {st : ab_S} {own : Nat → Nat} {n d : Nat} {CL SL : Nat → Lg} {W : Option Lg}
theorem reached_ok (hX : FX st) (hn : n ≤ 24) (h8 : sI st 25 8 = nI n) {s : Int32} (hs : ∀ i, hb s i → i < n) : ∃ r, f_X5_reachedFrom 25 s st = some (some (.int r), st) ∧ ∀ j, hb r j ↔ ∃ i, hb s i ∧ Fs st i j := by
  have key : ∀ k i (a : Int32), n - i = k → i ≤ n → (∀ j, hb a j ↔ ∃ b, b < i ∧ hb s b ∧ Fs st b j) → ∃ r, L_X5_reachedFrom_4 25 s a (nI i) st = some (some (.int r), st) ∧ ∀ j, hb r j ↔ ∃ i, hb s i ∧ Fs st i j := by
    intro k
    induction k with
    | zero =>
      intro i a hk hi ha
      refine ⟨a, ?_, fun j => ?_⟩
      · rw [e_X5_reachedFrom_4, i25 hX, Option.bind_some, h8, if_pos (by rw [c_le (by omega) (by omega)]; omega)]
      · rw [ha j]
        exact ⟨fun ⟨b, _, q1, q2⟩ => ⟨b, q1, q2⟩, fun ⟨b, q1, q2⟩ => ⟨b, by have := hs b q1; omega, q1, q2⟩⟩
    | succ k ih =>
      intro i a hk hi ha
      rw [e_X5_reachedFrom_4, i25 hX, Option.bind_some, h8, if_neg (by rw [c_le (by omega) (by omega)]; omega), nl 24, if_neg (by rw [c_le (by omega) (by omega)]; omega)]
      by_cases hbi : hb s i
      · rw [if_neg (fun q => (hb_test (by omega)).mp q hbi), g25_1 hX, Option.bind_some, r27 hX (by omega), Option.bind_some, e_X5_reachedFrom_35, nI_1]
        refine ih (i + 1) _ (by omega) (by omega) (fun j => ?_)
        rw [hb_or, ha j]
        constructor
        · rintro (⟨b, q1, q2, q3⟩ | q)
          · exact ⟨b, by omega, q2, q3⟩
          · exact ⟨i, by omega, hbi, by omega, q⟩
        · rintro ⟨b, q1, q2, q3⟩
          by_cases hbe : b = i
          · subst hbe; exact Or.inr q3.2
          · exact Or.inl ⟨b, by omega, q2, q3⟩
      · rw [if_pos ((hb_test (by omega)).mpr hbi), e_X5_reachedFrom_35, nI_1]
        refine ih (i + 1) a (by omega) (by omega) (fun j => ?_)
        rw [ha j]
        constructor
        · rintro ⟨b, q1, q2⟩; exact ⟨b, by omega, q2⟩
        · rintro ⟨b, q1, q2⟩
          refine ⟨b, ?_, q2⟩
          by_cases hbe : b = i
          · subst hbe; exact absurd q2.1 hbi
          · omega
  rw [e_X5_reachedFrom_0, c25 hX]
  exact key _ 0 0 rfl (Nat.zero_le _) (fun j => ⟨fun q => absurd q hb_0, fun ⟨b, q, _⟩ => by omega⟩)
theorem takersOf_ok (hX : FX st) {c : Nat} (hc : c < 256) : f_X5_takersOf 25 (nI c) st = some (some (.int (sI st 26 c)), st) := by
  rw [e_X5_takersOf_0, c25 hX, if_neg (nI_pos (by omega)), nl 256, if_pos (by rw [c_lt (by omega) (by omega)]; omega), g25_0 hX, Option.bind_some, r26 hX hc, Option.bind_some]
theorem accepts_ok (hX : FX st) (hn : n ≤ 24) (h8 : sI st 25 8 = nI n) (hFn : ∀ i j, Fs st i j → j < n) {P : Nat → Prop} {l : Lg} (hp : isPrt st 32 P l) (hPn : ∀ i, P i → i < n) {o t : Nat} {D : Dc} {y : List Nat × Nat} (hT : isTm st o D) (hy : D[t]? = some y) : f_X5_accepts 25 o (nI t) st = some (some (.int (if lgB l y.1 = true then 1 else 0)), st) := by
  have s32 := prt_sh hX (o := 32) (by omega)
  obtain ⟨b1, b2, b3, -, -⟩ := hT.2.2.2.2.2.2.2.2.2 t y hy
  have h9 := hT.2.2.2.2.2.2.2.2.1
  have htl := lt_of_get hy
  have fin : ∀ (s : Int32), ((∃ j, hb s j ∧ hb (sI st 32 2) j) ↔ l y.1) → L_X5_accepts_95 32 s st = some (some (.int (if lgB l y.1 = true then 1 else 0)), st) := by
    intro s hs
    rw [e_X5_accepts_95, gI_ok s32, Option.bind_some, z_0, z_1]
    by_cases h : l y.1
    · obtain ⟨j, q1, q2⟩ := hs.mpr h
      rw [if_neg (fun q => (hb_ne.mp q) j (hb_and.mpr ⟨q1, q2⟩)), if_pos (lgB_iff.mpr h)]
    · rw [if_pos (hb_ne.mpr (fun j q => h (hs.mp ⟨j, (hb_and.mp q).1, (hb_and.mp q).2⟩))), if_neg (fun q => h (lgB_iff.mp q))]
  have loop : ∀ k i (s : Int32), y.1.length - i = k → 1 ≤ i → i ≤ y.1.length → (∀ j, hb s j → j < n) → ((∃ j, hb s j ∧ cont (Fs st) (Ts st) (hb (sI st 32 2)) (y.1.drop i) j) ↔ l y.1) → L_X5_accepts_57 25 o (nI t) 32 (nI y.1.length) s (nI i) st = some (some (.int (if lgB l y.1 = true then 1 else 0)), st) := by
    intro k
    induction k with
    | zero =>
      intro i s hk h1 hi hs hc
      rw [e_X5_accepts_57, if_pos (by rw [c_le (by omega) (by omega)]; omega)]
      refine fin s ?_
      rw [← hc, List.drop_eq_nil_of_le (by omega)]
      constructor
      · rintro ⟨j, q1, q2⟩; exact ⟨j, q1, Or.inl ⟨rfl, q2⟩⟩
      · rintro ⟨j, q1, ⟨-, q2⟩ | ⟨j', -, q⟩⟩
        · exact ⟨j, q1, q2⟩
        · exact absurd q id
    | succ k ih =>
      intro i s hk h1 hi hs hc
      rw [e_X5_accepts_57, if_neg (by rw [c_le (by omega) (by omega)]; omega)]
      by_cases hs0 : s = 0
      · rw [if_pos hs0]
        refine fin s ?_
        have no : ∀ j, ¬ hb s j := hb_ne.mp hs0
        exact ⟨fun ⟨j, q, _⟩ => absurd q (no j), fun q => by obtain ⟨j, q, _⟩ := hc.mpr q; exact absurd q (no j)⟩
      · have hg : y.1[i]? = some y.1[i] := List.getElem?_eq_getElem (by omega)
        have h256 := (b3 i _ hg).2
        obtain ⟨r, r1, r2⟩ := reached_ok hX hn h8 hs
        rw [if_neg hs0, r1, ri_ok, signAt_ok hT hy (by omega), ri_ok, lg_some hg, takersOf_ok hX h256, ri_ok, nI_1]
        refine ih (i + 1) _ (by omega) (by omega) (by omega) (fun j hj => ?_) ?_
        · obtain ⟨i', -, q⟩ := (r2 j).mp (hb_and.mp hj).1
          exact hFn i' j q
        · rw [← hc, drop_some hg]
          constructor
          · rintro ⟨j, q1, q2⟩
            obtain ⟨i', q3, q4⟩ := (r2 j).mp (hb_and.mp q1).1
            exact ⟨i', q3, Or.inr ⟨j, q4, ⟨h256, (hb_and.mp q1).2⟩, q2⟩⟩
          · rintro ⟨i', q3, ⟨q, -⟩ | ⟨j, q4, ⟨⟨-, q5⟩, q6⟩⟩⟩
            · cases q
            · exact ⟨j, hb_and.mpr ⟨(r2 j).mpr ⟨i', q3, q4⟩, q5⟩, q6⟩
  have ch0 : ab_rR st 29 (0 : Int32) = some 32 := chs hX (d := 0) (by omega)
  rw [e_X5_accepts_0, c25 hX, g25_3 hX, Option.bind_some, ch0, Option.bind_some, lengthAt_ok hT hy, ri_ok]
  show (if nI 0 < nI y.1.length then _ else _) = _
  by_cases h0 : y.1.length = 0
  · have hy0 : y.1 = [] := List.length_eq_zero_iff.mp h0
    rw [if_neg (by rw [c_lt (by omega) (by omega)]; omega), if_pos (by rw [h0]; rfl), gI_ok s32, Option.bind_some]
    have hl : l y.1 ↔ sI st 32 0 = 1 := by
      rw [hp.2.2.2.2 y.1, hy0]
      constructor
      · rintro (q | ⟨i, -, q⟩)
        · exact q.2
        · exact absurd q id
      · intro q; exact Or.inl ⟨rfl, q⟩
    rcases hp.1 with q | q
    · have hn' : ¬ l y.1 := fun z => by have := hl.mp z; rw [q] at this; exact absurd this (by decide)
      rw [q, if_pos rfl, if_neg (fun z => hn' (lgB_iff.mp z))]
      exact z_0
    · rw [q, if_neg (by decide), if_pos (lgB_iff.mpr (hl.mpr q)), z_1]
  · have hg : y.1[0]? = some y.1[0] := List.getElem?_eq_getElem (by omega)
    have h256 := (b3 0 _ hg).2
    have sg0 : f_X7_signAt o (nI t) (0 : Int32) st = some (some (.int (lg y.1 0)), st) := signAt_ok hT hy (k := 0) (by omega)
    rw [if_pos (by rw [c_lt (by omega) (by omega)]; omega), gI_ok s32, Option.bind_some, sg0, ri_ok, lg_some hg, takersOf_ok hX h256, ri_ok]
    show L_X5_accepts_57 25 o (nI t) 32 (nI y.1.length) (sI st 32 1 &&& sI st 26 y.1[0]) (nI 1) st = _
    refine loop _ 1 _ rfl (by omega) (by omega) (fun j hj => hPn j (hp.2.1 j (hb_and.mp hj).1)) ?_
    rw [hp.2.2.2.2 y.1]
    have hd0 : y.1 = y.1[0] :: y.1.drop 1 := by
      have := drop_some hg
      rw [List.drop_zero] at this
      exact this
    constructor
    · rintro ⟨j, q1, q2⟩
      refine Or.inr ⟨j, (hb_and.mp q1).1, ?_⟩
      rw [hd0]
      exact ⟨⟨h256, (hb_and.mp q1).2⟩, q2⟩
    · rintro (q | ⟨j, q1, q2⟩)
      · rw [q.1] at h0; exact absurd rfl h0
      · rw [hd0] at q2
        exact ⟨j, hb_and.mpr ⟨q1, q2.1.2⟩, q2.2⟩
-- wild words
def wildP (s : Nat) : Lg := if s = 42 then optL (plusL (oneL (fun c => 0 ≤ c ∧ c ≤ 255))) else if s = 63 then oneL (fun c => 0 ≤ c ∧ c ≤ 255) else oneL (fun c => s ≤ c ∧ c ≤ s)
def wildS : List Nat → Lg → Lg
  | [], l => l
  | s :: w, l => wildS w (catL l (wildP s))
theorem wildS_snoc : ∀ {w : List Nat} {s : Nat} {l : Lg}, wildS (w ++ [s]) l = catL (wildS w l) (wildP s)
  | [], _, _ => rfl
  | a :: w, s, l => by
    show wildS (w ++ [s]) (catL l (wildP a)) = catL (wildS w (catL l (wildP a))) (wildP s)
    exact wildS_snoc
def wild (w : List Nat) : Lg := orL noL (wildS w epsL)
theorem readWild_ok (hX : FX st) {a : Nat} {w : List Nat} (hw : isSg st a 4000 w) (ha : 61 < a) (hl : w.length ≤ 24) : ∃ st' own' n', f_X5_readWild 25 a st = some (none, st') ∧ PI st' own' n' 0 (fun _ => wild w) (fun _ => epsL) none ∧ upto on25 st st' := by
  have hw6 := hw.2.2.2.2.2.1
  have key : ∀ k i (s : ab_S) (own : Nat → Nat) (SL : Nat → Lg), w.length - i = k → i ≤ w.length → PI s own i 0 (fun _ => noL) SL none → SL 0 = wildS (w.take i) epsL → upto on25 st s → ∃ st' own' n', L_X5_readWild_6 25 a (nI i) s = some (none, st') ∧ PI st' own' n' 0 (fun _ => wild w) (fun _ => epsL) none ∧ upto on25 st st' := by
    intro k
    induction k with
    | zero =>
      intro i s own SL hk hi hP hSL hu
      have W1 := isSg_up hw hu (by show ¬ (25 ≤ a ∧ a ≤ 41); omega) (by show ¬ (25 ≤ a + 1 ∧ a + 1 ≤ 41); omega)
      obtain ⟨s2, b1, b2, b3, -⟩ := settleS_ok hP
      refine ⟨s2, mvO own (2 * 0 + 1) (2 * 0), i, ?_, ?_, upto_trans hu b3⟩
      · rw [e_X5_readWild_6, gI_ok W1.1, Option.bind_some, W1.2.2.2.1, if_pos (by rw [c_le (by omega) (by omega)]; omega), b1, rv_ok]
      · obtain ⟨c1, c2, c3, c4, c5, c6, c7, c8, c9, c10, c11⟩ := b2
        refine ⟨c1, c2, c3, c4, c5, c6, c7, c8, fun j hj => ?_, c10, c11⟩
        have hj0 : j = 0 := by omega
        subst hj0
        have := c9 0 (Nat.le_refl _)
        rw [up1_s, up1_s, hSL, List.take_of_length_le (by omega)] at this
        exact this
    | succ k ih =>
      intro i s own SL hk hi hP hSL hu
      have W1 := isSg_up hw hu (by show ¬ (25 ≤ a ∧ a ≤ 41); omega) (by show ¬ (25 ≤ a + 1 ∧ a + 1 ≤ 41); omega)
      have hg : w[i]? = some w[i] := List.getElem?_eq_getElem (by omega)
      have hc := hw6 _ (List.mem_of_getElem? hg)
      have etk : w.take (i + 1) = w.take i ++ [w[i]] := by rw [List.take_succ, hg]; rfl
      generalize w[i] = c at hg hc etk
      -- behind the piece
      have fin : ∀ (s3 : ab_S) (own3 : Nat → Nat), PI s3 own3 (i + 1) 0 (fun _ => noL) SL (some (wildP c)) → upto on25 st s3 → ∃ st' own' n', L_X5_readWild_61 25 a (nI i) s3 = some (none, st') ∧ PI st' own' n' 0 (fun _ => wild w) (fun _ => epsL) none ∧ upto on25 st st' := by
        intro s3 own3 hP3 hu3
        obtain ⟨s4, b1, b2, b3, -⟩ := settle_ok hP3
        rw [e_X5_readWild_61, b1, rv_ok, nI_1]
        refine ih (i + 1) s4 _ _ (by omega) (by omega) b2 ?_ (upto_trans hu3 b3)
        rw [up1_s, hSL, etk, wildS_snoc]
      rw [e_X5_readWild_6, gI_ok W1.1, Option.bind_some, W1.2.2.2.1, if_neg (by rw [c_le (by omega) (by omega)]; omega), atn_ok W1 (by omega), ri_ok, lg_some hg]
      by_cases h42 : c = 42
      · subst h42
        obtain ⟨s2, b1, b2, b3, -⟩ := putPlace_ok hP (by omega) (lo := 0) (hi := 255) (by omega) (by omega)
        obtain ⟨s3, c1, c2, c3, -⟩ := repeat_ok b2 (s := 42) (Or.inl rfl)
        have b1' : f_X5_putPlace 25 0 255 s = some (none, s2) := b1
        have c1' : f_X5_repeat 25 42 s2 = some (none, s3) := c1
        rw [if_pos (show nI 42 = 42 from rfl), e_X5_readWild_32, b1', rv_ok, e_X5_readWild_49, if_pos (show nI 42 = 42 from rfl), c1', rv_ok]
        exact fin s3 _ c2 (upto_trans hu (upto_trans b3 c3))
      · have n42 : ¬ nI c = 42 := by show ¬ nI c = nI 42; rw [c_eq (by omega) (by omega)]; exact h42
        rw [if_neg n42]
        by_cases h63 : c = 63
        · subst h63
          obtain ⟨s2, b1, b2, b3, -⟩ := putPlace_ok hP (by omega) (lo := 0) (hi := 255) (by omega) (by omega)
          have b1' : f_X5_putPlace 25 0 255 s = some (none, s2) := b1
          rw [if_pos (show nI 63 = 63 from rfl), e_X5_readWild_32, b1', rv_ok, e_X5_readWild_49, if_neg n42]
          exact fin s2 _ b2 (upto_trans hu b3)
        · rw [if_neg (by show ¬ nI c = nI 63; rw [c_eq (by omega) (by omega)]; exact h63)]
          obtain ⟨s2, b1, b2, b3, -⟩ := putPlace_ok hP (by omega) (lo := c) (hi := c) (by omega) hc
          rw [b1, rv_ok, e_X5_readWild_49, if_neg n42]
          refine fin s2 (up1 own i 100) ?_ (upto_trans hu b3)
          have : wildP c = oneL (fun z => c ≤ z ∧ z ≤ c) := by unfold wildP; rw [if_neg h42, if_neg h63]
          rw [this]
          exact b2
  obtain ⟨s1, a1, a2, a3, -⟩ := start_ok hX
  rw [e_X5_readWild_0, c25 hX, a1, rv_ok]
  exact key _ 0 s1 _ _ rfl (Nat.zero_le _) a2 rfl a3
end WILD
