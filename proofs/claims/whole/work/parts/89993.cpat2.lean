/-! THE CLASS READS PATTERNS, whole -/
def stl (w : List Nat) (W : Option Lg) (SL : Nat → Lg) (d p : Nat) : (Nat → Lg) × Nat := match W with
  | none => (SL, p)
  | some l => (up1 SL d (clsP w l (SL d) p).1, (clsP w l (SL d) p).2)
def stS (W : Option Lg) (sl : Lg) : Lg := match W with
  | none => sl
  | some l => catL sl l
def stF (W : Option Lg) (SL : Nat → Lg) (d : Nat) : Nat → Lg := match W with
  | none => SL
  | some l => up1 SL d (catL (SL d) l)
theorem prs_eq {w : List Nat} {f p d : Nat} {CL SL : Nat → Lg} : prs w (f + 1) p d CL SL = match w[p]? with
    | none => if d = 0 then .inr (orL (CL 0) (SL 0)) else .inl w.length
    | some c => if c = 124 then prs w f (p + 1) d (up1 CL d (orL (CL d) (SL d))) (up1 SL d epsL)
      else if c = 41 then (if d = 0 then .inl p else prs w f (clsP w (orL (CL d) (SL d)) (SL (d - 1)) (p + 1)).2 (d - 1) CL (up1 SL (d - 1) (clsP w (orL (CL d) (SL d)) (SL (d - 1)) (p + 1)).1))
      else if c = 40 then (if d = 4 then .inl p else prs w f (p + 1) (d + 1) (up1 CL (d + 1) noL) (up1 SL (d + 1) epsL))
      else match atm w p with
        | .inl e => .inl e
        | .inr r => prs w f (clsP w (oneL r.1) (SL d) r.2).2 d CL (up1 SL d (clsP w (oneL r.1) (SL d) r.2).1) := rfl
theorem prs_atm {w : List Nat} {f p d c : Nat} {CL SL : Nat → Lg} (hc : w[p]? = some c) (h1 : c ≠ 124) (h2 : c ≠ 41) (h3 : c ≠ 40) : prs w (f + 1) p d CL SL = match atm w p with
        | .inl e => .inl e
        | .inr r => prs w f (clsP w (oneL r.1) (SL d) r.2).2 d CL (up1 SL d (clsP w (oneL r.1) (SL d) r.2).1) := by
  rw [prs_eq, hc]
  dsimp only
  rw [if_neg h1, if_neg h2, if_neg h3]
theorem clsP_le {w : List Nat} {l sl : Lg} {p : Nat} : p ≤ (clsP w l sl p).2 := by
  unfold clsP
  cases w[p]? with
  | none => exact Nat.le_refl _
  | some c =>
    dsimp only
    split
    · exact Nat.le_succ _
    · exact Nat.le_refl _
theorem itm_le {w : List Nat} {p e : Nat} (h : itm w p = .inl e) : e ≤ w.length := by
  have hE := escP_le (w := w) (p := p)
  unfold itm at h
  cases hg : w[escP w p]? with
  | none => rw [hg] at h; cases h; exact Nat.le_refl _
  | some lo =>
    have hl := (List.getElem?_eq_some_iff.mp hg).1
    rw [hg] at h
    dsimp only at h
    by_cases h1 : lo = 93 ∧ escP w p = p
    · rw [if_pos h1] at h; cases h; omega
    · rw [if_neg h1] at h
      by_cases h2 : w[escP w p + 1]? = some 45 ∧ w[escP w p + 2]? ≠ some 93
      · rw [if_pos h2] at h
        cases hg2 : w[escP w (escP w p + 2)]? with
        | none => rw [hg2] at h; cases h; exact Nat.le_refl _
        | some hi =>
          have hl2 := (List.getElem?_eq_some_iff.mp hg2).1
          rw [hg2] at h
          dsimp only at h
          by_cases h3 : hi < lo
          · rw [if_pos h3] at h; cases h; omega
          · rw [if_neg h3] at h; cases h
      · rw [if_neg h2] at h; cases h
theorem setG_le {w : List Nat} {fst : Nat} : ∀ {f p : Nat} {S : Nat → Prop} {e : Nat}, setG w fst f p S = .inl e → e ≤ w.length
  | 0, p, S, e, h => by cases h; exact Nat.zero_le _
  | f + 1, p, S, e, h => by
    have eG : setG w fst (f + 1) p S = if fst < p ∧ w[p]? = some 93 then .inr (S, p + 1) else match itm w p with
      | .inl e => .inl e
      | .inr r => setG w fst f r.2.2 (fun c => S c ∨ (r.1 ≤ c ∧ c ≤ r.2.1)) := rfl
    rw [eG] at h
    by_cases h1 : fst < p ∧ w[p]? = some 93
    · rw [if_pos h1] at h; cases h
    · rw [if_neg h1] at h
      cases hi : itm w p with
      | inl e' => rw [hi] at h; cases h; exact itm_le hi
      | inr r => rw [hi] at h; exact setG_le h
theorem sPar_le {w : List Nat} {p e : Nat} (h : sPar w p = .inl e) : e ≤ w.length := by
  unfold sPar at h
  by_cases h1 : w[p]? = some 94
  · rw [if_pos h1] at h
    cases hs : setG w (p + 1) 26 (p + 1) (fun _ => False) with
    | inl e' => rw [hs] at h; cases h; exact setG_le hs
    | inr r => rw [hs] at h; cases h
  · rw [if_neg h1] at h
    exact setG_le h
section CPAT3
variable {L : Nat} {st : ab_S} {own : Nat → Nat} {n d : Nat} {CL SL : Nat → Lg} {W : Option Lg} {a : Nat} {w : List Nat}
theorem stl_le {p : Nat} : p ≤ (stl w W SL d p).2 := by
  cases W with
  | none => exact Nat.le_refl _
  | some l => exact clsP_le
/-- what a step leaves -/
def stepR (w : List Nat) (W : Option Lg) (SL CL : Nat → Lg) (d p : Nat) (r : Option ab_R) (st' : ab_S) : Prop := (∃ e q, (∀ f, w.length < f + (stl w W SL d p).2 → prs w f (stl w W SL d p).2 d CL (stl w W SL d p).1 = .inl e) ∧ e ≤ w.length ∧ r = some (some (.int q), st') ∧ sI st' 25 9 = nI e ∧ ∃ own' n' d' CL' SL' W', PI st' own' n' d' CL' SL' W') ∨ (∃ own' n' d' CL' SL' W' p', r = some (some (.int (nI p')), st') ∧ PI st' own' n' d' CL' SL' W' ∧ sI st' 25 9 = -1 ∧ n' ≤ p' ∧ p < p' ∧ p' ≤ w.length ∧ ∀ f, w.length < f + (stl w W SL d p).2 → ∃ f', w.length < f' + (stl w W' SL' d' p').2 ∧ prs w f (stl w W SL d p).2 d CL (stl w W SL d p).1 = prs w f' (stl w W' SL' d' p').2 d' CL' (stl w W' SL' d' p').1)
theorem one_ok (ha : 61 < a) (hl : w.length ≤ 24) (hP : PI st own n d CL SL W) (hw : isSg st a 4000 w) (h9 : sI st 25 9 = -1) {p : Nat} (hp : p < w.length) (hn : n ≤ p) : ∃ st', upto on25 st st' ∧ stepR w W SL CL d p (f_X5_readOne 25 a (nI p) st) st' := by
  have hX := hP.1
  have hd4 := hP.2.2.1
  have h6 := hw.2.2.2.2.2.1
  have hg : w[p]? = some w[p] := List.getElem?_eq_getElem hp
  have hc := h6 _ (List.mem_of_getElem? hg)
  generalize w[p] = c at hg hc
  have lif : ∀ (k : Nat), k < 256 → ((nI c = nI k) ↔ c = k) := fun k hk => by rw [c_eq (by omega) (by omega)]
  have o25 : on25 25 := by show 25 ≤ 25 ∧ 25 ≤ 41; omega
  rw [e_X5_readOne_0, c25 hX, at2_ok hw hl (by omega), ri_ok, lg_some hg]
  by_cases hrep : c = 42 ∨ c = 43 ∨ c = 63
  · -- a repeat
    have e24 : (if nI c = (42 : Int32) then L_X5_readOne_24 25 (nI p) (nI c) st else if nI c = (43 : Int32) then L_X5_readOne_24 25 (nI p) (nI c) st else if nI c = (63 : Int32) then L_X5_readOne_24 25 (nI p) (nI c) st else ab_rv (f_X5_settlePiece 25 st) fun s3 => if nI c = 40 then ab_rv (f_X5_openBracket 25 (nI p) s3) fun s4 => some (some (.int (nI p + (1 : Int32))), s4) else if nI c = 41 then ab_rv (f_X5_closeBracket 25 (nI p) s3) fun s5 => some (some (.int (nI p + (1 : Int32))), s5) else if nI c = 46 then ab_rv (f_X5_putPlace 25 (0 : Int32) (255 : Int32) s3) fun s6 => some (some (.int (nI p + (1 : Int32))), s6) else if nI c = 91 then ab_ri (f_X5_readSet 25 a (nI p + (1 : Int32)) s3) fun x8 s7 => some (some (.int x8), s7) else if nI c = 93 then Option.bind (ab_pI s3 25 5 9 (nI p)) fun s9 => some (some (.int (nI p + (1 : Int32))), s9) else if nI c = 124 then ab_rv (f_X5_settleSequence 25 s3) fun s10 => some (some (.int (nI p + (1 : Int32))), s10) else ab_ri (f_X5_readPlain 25 a (nI p) s3) fun x12 s11 => some (some (.int x12), s11)) = L_X5_readOne_24 25 (nI p) (nI c) st := by
      rcases hrep with q | q | q
      · rw [if_pos (c := nI c = 42) ((lif 42 (by omega)).mpr q)]
      · rw [if_neg (c := nI c = 42) (fun z => by have := (lif 42 (by omega)).mp z; omega), if_pos (c := nI c = 43) ((lif 43 (by omega)).mpr q)]
      · rw [if_neg (c := nI c = 42) (fun z => by have := (lif 42 (by omega)).mp z; omega), if_neg (c := nI c = 43) (fun z => by have := (lif 43 (by omega)).mp z; omega), if_pos (c := nI c = 63) ((lif 63 (by omega)).mpr q)]
    rw [e24, e_X5_readOne_24, e_X5_readRepeat_0, c25 hX, i25 hX, Option.bind_some, hP.2.2.2.2.2.1]
    cases W with
    | none =>
      rw [bi0 (b := (none : Option Lg).isSome) rfl, p25 hX, Option.bind_some, rv_ok]
      refine ⟨uI st 25 9 (nI p), upto_uI o25, Or.inl ⟨p, _, fun f hf => ?_, by omega, rfl, by rw [I_uI, if_pos ⟨rfl, rfl⟩], own, n, d, CL, SL, none, PI_w hP (upto_uI (Or.inl rfl)) (fun j hj => by rw [I_uI, if_neg (fun z => hj z.2)])⟩⟩
      obtain ⟨f0, rfl⟩ : ∃ f0, f = f0 + 1 := ⟨f - 1, by have : (stl w none SL d p).2 = p := rfl; omega⟩
      show prs w (f0 + 1) p d CL SL = _
      have hat : atm w p = .inl p := by
        unfold atm
        rw [hg]
        dsimp only
        rw [if_neg (by omega), if_neg (by omega), if_pos (by omega)]
      rw [prs_atm hg (by omega) (by omega) (by omega), hat]
    | some l =>
      rw [bi1 (b := (some l).isSome) (by simp)]
      obtain ⟨s1, b1, b2, b3, b4⟩ := repeat_ok hP (s := c) hrep
      obtain ⟨s2, c1, c2, c3, c4⟩ := settle_ok b2
      refine ⟨s2, upto_trans b3 c3, Or.inr ⟨_, n, d, CL, _, none, p + 1, ?_, c2, by rw [c4, b4]; exact h9, by omega, by omega, by omega, fun f hf => ⟨f, ?_, ?_⟩⟩⟩
      · rw [b1, rv_ok, c1, rv_ok, rv_ok, nI_1]
      · have e : clsP w l (SL d) p = (catL (SL d) (repL c l), p + 1) := by unfold clsP; rw [hg]; dsimp only; rw [if_pos hrep]
        have : (stl w (some l) SL d p).2 = p + 1 := by show (clsP w l (SL d) p).2 = _; rw [e]
        rw [this] at hf
        exact hf
      · have e : clsP w l (SL d) p = (catL (SL d) (repL c l), p + 1) := by unfold clsP; rw [hg]; dsimp only; rw [if_pos hrep]
        show prs w f (clsP w l (SL d) p).2 d CL (up1 SL d (clsP w l (SL d) p).1) = _
        rw [e]
        rfl
  -- any other sign: the piece is settled first
  rw [if_neg (c := nI c = 42) (fun z => hrep (Or.inl ((lif 42 (by omega)).mp z))), if_neg (c := nI c = 43) (fun z => hrep (Or.inr (Or.inl ((lif 43 (by omega)).mp z)))), if_neg (c := nI c = 63) (fun z => hrep (Or.inr (Or.inr ((lif 63 (by omega)).mp z))))]
  have hset : ∃ s1 own1, f_X5_settlePiece 25 st = some (none, s1) ∧ PI s1 own1 n d CL (stl w W SL d p).1 none ∧ upto on25 st s1 ∧ sI s1 25 9 = -1 ∧ (stl w W SL d p).2 = p := by
    cases W with
    | none => exact ⟨st, own, settle_no hP, hP, upto_rfl, h9, rfl⟩
    | some l =>
      obtain ⟨s2, c1, c2, c3, c4⟩ := settle_ok hP
      have e : clsP w l (SL d) p = (catL (SL d) l, p) := by unfold clsP; rw [hg]; dsimp only; rw [if_neg hrep]
      refine ⟨s2, mvO own 100 (2 * d + 1), c1, ?_, c3, c4.trans h9, ?_⟩
      · show PI s2 (mvO own 100 (2 * d + 1)) n d CL (up1 SL d (clsP w l (SL d) p).1) none
        rw [e]; exact c2
      · show (clsP w l (SL d) p).2 = p
        rw [e]
  obtain ⟨s1, own1, a1, a2, a3, a4, a5⟩ := hset
  unfold stepR
  rw [a5]
  generalize (stl w W SL d p).1 = SL1 at a2
  rw [a1, rv_ok]
  have X1 := a2.1
  have W1 := isSg_up hw a3 (by show ¬ (25 ≤ a ∧ a ≤ 41); omega) (by show ¬ (25 ≤ a + 1 ∧ a + 1 ≤ 41); omega)
  have fuel : ∀ f, w.length < f + p → ∃ f0, f = f0 + 1 ∧ w.length < f0 + (p + 1) := fun f hf => ⟨f - 1, by omega, by omega⟩
  -- a fault at a place
  have fault : ∀ e : Nat, (∀ f0, prs w (f0 + 1) p d CL SL1 = .inl e) → e ≤ w.length → ∃ st', upto on25 st st' ∧ ((∃ e' q, (∀ f, w.length < f + p → prs w f p d CL SL1 = .inl e') ∧ e' ≤ w.length ∧ (some (some (Value.int (nI p + 1)), uI s1 25 9 (nI e)) : Option ab_R) = some (some (.int q), st') ∧ sI st' 25 9 = nI e' ∧ ∃ own' n' d' CL' SL' W', PI st' own' n' d' CL' SL' W')) := by
    intro e he hel
    refine ⟨uI s1 25 9 (nI e), upto_trans a3 (upto_uI o25), e, _, fun f hf => ?_, hel, rfl, by rw [I_uI, if_pos ⟨rfl, rfl⟩], own1, n, d, CL, SL1, none, PI_w a2 (upto_uI (Or.inl rfl)) (fun j hj => by rw [I_uI, if_neg (fun z => hj z.2)])⟩
    obtain ⟨f0, rfl, -⟩ := fuel f hf
    exact he f0
  by_cases h40 : c = 40
  · rw [if_pos (c := nI c = 40) ((lif 40 (by omega)).mpr h40)]
    by_cases hd : d < 4
    · obtain ⟨s2, b1, b2, b3, b4⟩ := open_ok a2 hd (at0 := nI p)
      refine ⟨s2, upto_trans a3 b3, Or.inr ⟨own1, n, d + 1, _, _, none, p + 1, by rw [b1, rv_ok, nI_1], b2, b4.trans a4, by omega, by omega, by omega, fun f hf => ?_⟩⟩
      obtain ⟨f0, rfl, hf0⟩ := fuel f hf
      refine ⟨f0, hf0, ?_⟩
      rw [prs_eq, hg]
      dsimp only
      rw [if_neg (by omega), if_neg (by omega), if_pos h40, if_neg (by omega)]
      rfl
    · have h7 := a2.2.2.2.2.1
      have ew : f_X5_openBracket 25 (nI p) s1 = some (none, uI s1 25 9 (nI p)) := by
        rw [e_X5_openBracket_0, c25 X1, i25 X1, Option.bind_some, h7, if_neg (by show ¬ nI d < nI 4; rw [c_lt (by omega) (by omega)]; exact hd), p25 X1, Option.bind_some]
      rw [ew, rv_ok]
      obtain ⟨st', u, v⟩ := fault p (fun f0 => by
        rw [prs_eq, hg]
        dsimp only
        rw [if_neg (by omega), if_neg (by omega), if_pos h40, if_pos (by omega)]) (by omega)
      exact ⟨st', u, Or.inl v⟩
  rw [if_neg (c := nI c = 40) (fun z => h40 ((lif 40 (by omega)).mp z))]
  by_cases h41 : c = 41
  · rw [if_pos (c := nI c = 41) ((lif 41 (by omega)).mpr h41)]
    cases d with
    | zero =>
      have h7 := a2.2.2.2.2.1
      have ew : f_X5_closeBracket 25 (nI p) s1 = some (none, uI s1 25 9 (nI p)) := by
        rw [e_X5_closeBracket_0, c25 X1, i25 X1, Option.bind_some, h7, if_neg (by show ¬ nI 0 < nI 0; rw [c_lt (by omega) (by omega)]; omega), p25 X1, Option.bind_some]
      rw [ew, rv_ok]
      obtain ⟨st', u, v⟩ := fault p (fun f0 => by
        rw [prs_eq, hg]
        dsimp only
        rw [if_neg (by omega), if_pos h41, if_pos rfl]) (by omega)
      exact ⟨st', u, Or.inl v⟩
    | succ d0 =>
      obtain ⟨s2, own2, b1, b2, b3, b4⟩ := close_ok a2 (at0 := nI p)
      refine ⟨s2, upto_trans a3 b3, Or.inr ⟨own2, n, d0, CL, SL1, some (orL (CL (d0 + 1)) (SL1 (d0 + 1))), p + 1, by rw [b1, rv_ok, nI_1], b2, b4.trans a4, by omega, by omega, by omega, fun f hf => ?_⟩⟩
      obtain ⟨f0, rfl, hf0⟩ := fuel f hf
      have hle := stl_le (w := w) (W := some (orL (CL (d0 + 1)) (SL1 (d0 + 1)))) (SL := SL1) (d := d0) (p := p + 1)
      refine ⟨f0, by omega, ?_⟩
      rw [prs_eq, hg]
      dsimp only
      rw [if_neg (by omega), if_pos h41, if_neg (by omega)]
      rfl
  rw [if_neg (c := nI c = 41) (fun z => h41 ((lif 41 (by omega)).mp z))]
  -- a piece of one place
  have atomP : ∀ (s2 : ab_S) (q : Nat → Prop) (p' : Nat) (r : Option ab_R), r = some (some (.int (nI p')), s2) → PI s2 (up1 own1 n 100) (n + 1) d CL SL1 (some (oneL q)) → upto on25 s1 s2 → sI s2 25 9 = -1 → p < p' → p' ≤ w.length → atm w p = .inr (q, p') → c ≠ 124 → ∃ st', upto on25 st st' ∧ ((∃ e q, (∀ f, w.length < f + p → prs w f p d CL SL1 = .inl e) ∧ e ≤ w.length ∧ r = some (some (.int q), st') ∧ sI st' 25 9 = nI e ∧ ∃ own' n' d' CL' SL' W', PI st' own' n' d' CL' SL' W') ∨ (∃ own' n' d' CL' SL' W' p', r = some (some (.int (nI p')), st') ∧ PI st' own' n' d' CL' SL' W' ∧ sI st' 25 9 = -1 ∧ n' ≤ p' ∧ p < p' ∧ p' ≤ w.length ∧ ∀ f, w.length < f + p → ∃ f', w.length < f' + (stl w W' SL' d' p').2 ∧ prs w f p d CL SL1 = prs w f' (stl w W' SL' d' p').2 d' CL' (stl w W' SL' d' p').1)) := by
    intro s2 q p' r hr hP2 hu2 h92 hpp hpl hat h124
    refine ⟨s2, upto_trans a3 hu2, Or.inr ⟨_, n + 1, d, CL, SL1, some (oneL q), p', hr, hP2, h92, by omega, hpp, hpl, fun f hf => ?_⟩⟩
    obtain ⟨f0, rfl, hf0⟩ := fuel f hf
    have hle := stl_le (w := w) (W := some (oneL q)) (SL := SL1) (d := d) (p := p')
    refine ⟨f0, by omega, ?_⟩
    rw [prs_atm hg h124 h41 h40, hat]
    rfl
  by_cases h46 : c = 46
  · rw [if_pos (c := nI c = 46) ((lif 46 (by omega)).mpr h46)]
    obtain ⟨s2, b1, b2, b3, b4⟩ := putPlace_ok a2 (by omega) (lo := 0) (hi := 255) (by omega) (by omega)
    have b1' : f_X5_putPlace 25 0 255 s1 = some (none, s2) := b1
    refine atomP s2 _ (p + 1) _ (by rw [b1', rv_ok, nI_1]) b2 b3 (b4.trans a4) (by omega) (by omega) ?_ (by omega)
    unfold atm
    rw [hg]
    dsimp only
    rw [if_pos h46]
  rw [if_neg (c := nI c = 46) (fun z => h46 ((lif 46 (by omega)).mp z))]
  by_cases h91 : c = 91
  · rw [if_pos (c := nI c = 91) ((lif 91 (by omega)).mpr h91), nI_1]
    have hat : atm w p = sPar w (p + 1) := by
      unfold atm
      rw [hg]
      dsimp only
      rw [if_neg h46, if_pos h91]
    obtain ⟨s2, v1, v2⟩ := set_ok ha hl (own := own1) (n := n) (by omega) (p := p + 1) (by omega) a2 W1 a4
    rcases v2 with ⟨e, q, z1, z2, z3, z4⟩ | ⟨S', q, z1, z2, z3, z4, z5, z6⟩
    · refine ⟨s2, upto_trans a3 v1, Or.inl ⟨e, q, fun f hf => ?_, ?_, by rw [z2, ri_ok], z3, own1, n, d, CL, SL1, none, z4⟩⟩
      · obtain ⟨f0, rfl, -⟩ := fuel f hf
        rw [prs_atm hg (by omega) h41 h40, hat, z1]
      · exact sPar_le z1
    · exact atomP s2 S' q _ (by rw [z4, ri_ok]) z6 v1 z5 (by omega) z3 (by rw [hat, z1]) (by omega)
  rw [if_neg (c := nI c = 91) (fun z => h91 ((lif 91 (by omega)).mp z))]
  by_cases h93 : c = 93
  · rw [if_pos (c := nI c = 93) ((lif 93 (by omega)).mpr h93), p25 X1, Option.bind_some]
    obtain ⟨st', u, v⟩ := fault p (fun f0 => by
      have hat : atm w p = .inl p := by
        unfold atm
        rw [hg]
        dsimp only
        rw [if_neg h46, if_neg h91, if_pos (by omega)]
      rw [prs_atm hg (by omega) h41 h40, hat]) (by omega)
    exact ⟨st', u, Or.inl v⟩
  rw [if_neg (c := nI c = 93) (fun z => h93 ((lif 93 (by omega)).mp z))]
  by_cases h124 : c = 124
  · rw [if_pos (c := nI c = 124) ((lif 124 (by omega)).mpr h124)]
    obtain ⟨s2, b1, b2, b3, b4⟩ := settleS_ok a2
    refine ⟨s2, upto_trans a3 b3, Or.inr ⟨_, n, d, _, _, none, p + 1, by rw [b1, rv_ok, nI_1], b2, b4.trans a4, by omega, by omega, by omega, fun f hf => ?_⟩⟩
    obtain ⟨f0, rfl, hf0⟩ := fuel f hf
    refine ⟨f0, hf0, ?_⟩
    rw [prs_eq, hg]
    dsimp only
    rw [if_pos h124]
    rfl
  rw [if_neg (c := nI c = 124) (fun z => h124 ((lif 124 (by omega)).mp z)), e_X5_readPlain_0, c25 X1, esc_ok W1 hl (by omega), ri_ok]
  have he := escP_le (w := w) (p := p)
  rw [at2_ok W1 hl (by omega), ri_ok]
  have hat : atm w p = match w[escP w p]? with
      | none => .inl w.length
      | some s => .inr (fun z => s ≤ z ∧ z ≤ s, escP w p + 1) := by
    unfold atm
    rw [hg]
    dsimp only
    rw [if_neg h46, if_neg h91, if_neg (by omega)]
    rfl
  cases hge : w[escP w p]? with
  | none =>
    rw [lg_none hge, if_pos rfl, gI_ok W1.1, Option.bind_some, W1.2.2.2.1, p25 X1, Option.bind_some, ri_ok]
    refine ⟨uI s1 25 9 (nI w.length), upto_trans a3 (upto_uI o25), Or.inl ⟨w.length, _, fun f hf => ?_, Nat.le_refl _, rfl, by rw [I_uI, if_pos ⟨rfl, rfl⟩], own1, n, d, CL, SL1, none, PI_w a2 (upto_uI (Or.inl rfl)) (fun j hj => by rw [I_uI, if_neg (fun z => hj z.2)])⟩⟩
    obtain ⟨f0, rfl, -⟩ := fuel f hf
    rw [prs_atm hg h124 h41 h40, hat, hge]
  | some s =>
    have hs := h6 s (List.mem_of_getElem? hge)
    have hsl := (List.getElem?_eq_some_iff.mp hge).1
    rw [lg_some hge, if_neg (by rw [c_m1e (by omega)]; exact id)]
    obtain ⟨s2, b1, b2, b3, b4⟩ := putPlace_ok a2 (by omega) (lo := s) (hi := s) (by omega) hs
    exact atomP s2 _ (escP w p + 1) _ (by rw [b1, rv_ok, ri_ok, nI_1]) b2 b3 (b4.trans a4) (by omega) (by omega) (by rw [hat, hge]) h124
theorem pat66 (h : PI st own n d CL SL W) : ∃ st' own', L_X5_readPattern_66 25 st = some (some (.int (sI st 25 9)), st') ∧ PI st' own' n d (up1 CL d (orL (CL d) (stS W (SL d)))) (up1 (stF W SL d) d epsL) none ∧ upto on25 st st' ∧ sI st' 25 9 = sI st 25 9 := by
  cases W with
  | none =>
    obtain ⟨s2, b1, b2, b3, b4⟩ := settleS_ok h
    refine ⟨s2, _, ?_, b2, b3, b4⟩
    rw [e_X5_readPattern_66, settle_no h, rv_ok, b1, rv_ok, i25 b2.1, Option.bind_some, b4]
  | some l =>
    obtain ⟨s1, a1, a2, a3, a4⟩ := settle_ok h
    obtain ⟨s2, b1, b2, b3, b4⟩ := settleS_ok a2
    rw [up1_s] at b2
    refine ⟨s2, _, ?_, b2, upto_trans a3 b3, b4.trans a4⟩
    rw [e_X5_readPattern_66, a1, rv_ok, b1, rv_ok, i25 b2.1, Option.bind_some, b4, a4]
theorem readPat_ok (hX : FX st) (hw : isSg st a 4000 w) (ha : 61 < a) (hl : w.length ≤ 24) : ∃ st', upto on25 st st' ∧ ((∃ e, patL w = .inl e ∧ e ≤ w.length ∧ f_X5_readPattern 25 a st = some (some (.int (nI e)), st')) ∨ (∃ l own' n', patL w = .inr l ∧ f_X5_readPattern 25 a st = some (some (.int (-1)), st') ∧ PI st' own' n' 0 (fun _ => l) (fun _ => epsL) none)) := by
  -- a fault was met
  have bad : ∀ (s : ab_S) (e step : Nat) (q : Int32) own n d CL SL W, PI s own n d CL SL W → isSg s a 4000 w → sI s 25 9 = nI e → e ≤ w.length → upto on25 st s → ∃ st', upto on25 st st' ∧ L_X5_readPattern_8 25 a q (nI step) s = some (some (.int (nI e)), st') := by
    intro s e step q own n d CL SL W hP hw' h9 he hu
    obtain ⟨s2, own', b1, b2, b3, b4⟩ := pat66 hP
    have e43 : L_X5_readPattern_43 25 a s = some (some (.int (nI e)), s2) := by
      rw [e_X5_readPattern_43, i25 hP.1, Option.bind_some, h9, if_neg (by rw [c_m1e (by omega)]; exact id), b1, h9]
    refine ⟨s2, upto_trans hu b3, ?_⟩
    rw [e_X5_readPattern_8, e43, gI_ok hw'.1, Option.bind_some, i25 hP.1, Option.bind_some, h9, if_neg (c := nI e = -1) (by rw [c_m1e (by omega)]; exact id)]
    split
    · rfl
    · split <;> rfl
  have key : ∀ k p step (s : ab_S) own n d CL SL W, w.length - p = k → p ≤ w.length → step ≤ p → n ≤ p → PI s own n d CL SL W → isSg s a 4000 w → sI s 25 9 = -1 → upto on25 st s → ∀ f, w.length < f + (stl w W SL d p).2 → prs w f (stl w W SL d p).2 d CL (stl w W SL d p).1 = patL w → ∃ st', upto on25 st st' ∧ ((∃ e, patL w = .inl e ∧ e ≤ w.length ∧ L_X5_readPattern_8 25 a (nI p) (nI step) s = some (some (.int (nI e)), st')) ∨ (∃ l own' n', patL w = .inr l ∧ L_X5_readPattern_8 25 a (nI p) (nI step) s = some (some (.int (-1)), st') ∧ PI st' own' n' 0 (fun _ => l) (fun _ => epsL) none)) := by
    intro k
    induction k using Nat.strongRecOn with
    | ind k ih =>
      intro p step s own n d CL SL W hk hp hst hnp hP hw' h9 hu f hf hpr
      have X := hP.1
      by_cases hpe : p = w.length
      · -- the end
        subst hpe
        have hgn : w[w.length]? = none := List.getElem?_eq_none (Nat.le_refl _)
        have e8 : L_X5_readPattern_8 25 a (nI w.length) (nI step) s = L_X5_readPattern_43 25 a s := by
          rw [e_X5_readPattern_8, gI_ok hw'.1, Option.bind_some, hw'.2.2.2.1, if_pos (c := nI w.length ≤ nI w.length) (by rw [c_le (by omega) (by omega)]; omega)]
          split <;> rfl
        have hst2 : (stl w W SL d w.length).2 = w.length ∧ (stl w W SL d w.length).1 d = stS W (SL d) := by
          cases W with
          | none => exact ⟨rfl, rfl⟩
          | some l =>
            have e : clsP w l (SL d) w.length = (catL (SL d) l, w.length) := by unfold clsP; rw [hgn]
            constructor
            · show (clsP w l (SL d) w.length).2 = _
              rw [e]
            · show up1 SL d (clsP w l (SL d) w.length).1 d = _
              rw [up1_s, e]; rfl
        rw [hst2.1] at hf hpr
        obtain ⟨f0, rfl⟩ : ∃ f0, f = f0 + 1 := ⟨f - 1, by omega⟩
        rw [prs_eq, hgn] at hpr
        dsimp only at hpr
        rw [e8, e_X5_readPattern_43, i25 X, Option.bind_some, h9, if_pos rfl, i25 X, Option.bind_some, hP.2.2.2.2.1]
        have hd4 := hP.2.2.1
        cases d with
        | zero =>
          rw [if_pos rfl] at hpr
          rw [if_pos (by show nI 0 ≤ nI 0; rw [c_le (by omega) (by omega)]; omega)]
          obtain ⟨s2, own', b1, b2, b3, b4⟩ := pat66 hP
          refine ⟨s2, upto_trans hu b3, Or.inr ⟨_, own', n, hpr.symm, by rw [b1, h9], ?_⟩⟩
          obtain ⟨c1, c2, c3, c4, c5, c6, c7, c8, c9, c10, c11⟩ := b2
          refine ⟨c1, c2, c3, c4, c5, c6, c7, c8, fun j hj => ?_, c10, c11⟩
          have hj0 : j = 0 := by omega
          subst hj0
          have := c9 0 (Nat.le_refl _)
          rw [up1_s, up1_s] at this
          rw [hst2.2]
          exact this
        | succ d0 =>
          rw [if_neg (by omega)] at hpr
          rw [if_neg (by show ¬ nI (d0 + 1) ≤ nI 0; rw [c_le (by omega) (by omega)]; omega), gI_ok hw'.1, Option.bind_some, hw'.2.2.2.1, p25 X, Option.bind_some]
          have P9 : PI (uI s 25 9 (nI w.length)) own n (d0 + 1) CL SL W := PI_w hP (upto_uI (Or.inl rfl)) (fun j hj => by rw [I_uI, if_neg (fun z => hj z.2)])
          obtain ⟨s2, own', b1, b2, b3, b4⟩ := pat66 P9
          refine ⟨s2, upto_trans hu (upto_trans (upto_uI (by show 25 ≤ 25 ∧ 25 ≤ 41; omega)) b3), Or.inl ⟨w.length, hpr.symm, Nat.le_refl _, ?_⟩⟩
          rw [b1, I_uI, if_pos ⟨rfl, rfl⟩]
      · have e8 : L_X5_readPattern_8 25 a (nI p) (nI step) s = ab_ri (f_X5_readOne 25 a (nI p) s) fun x4 s3 => L_X5_readPattern_8 25 a x4 (nI (step + 1)) s3 := by
          rw [e_X5_readPattern_8, if_neg (by show ¬ nI 24 ≤ nI step; rw [c_le (by omega) (by omega)]; omega), gI_ok hw'.1, Option.bind_some, hw'.2.2.2.1, if_neg (by rw [c_le (by omega) (by omega)]; omega), i25 X, Option.bind_some, h9, if_pos rfl, nI_1]
        obtain ⟨s1, v1, v2⟩ := one_ok ha hl hP hw' h9 (p := p) (by omega) hnp
        have u1 := upto_trans hu v1
        have W1 := isSg_up hw u1 (by show ¬ (25 ≤ a ∧ a ≤ 41); omega) (by show ¬ (25 ≤ a + 1 ∧ a + 1 ≤ 41); omega)
        rw [e8]
        rcases v2 with ⟨e, q, z1, z2, z3, z4, own', n', d', CL', SL', W', z5⟩ | ⟨own', n', d', CL', SL', W', p', z1, z2, z3, z4, z5, z6, z7⟩
        · rw [z3, ri_ok]
          obtain ⟨st', y1, y2⟩ := bad s1 e (step + 1) q own' n' d' CL' SL' W' z5 W1 z4 z2 u1
          exact ⟨st', y1, Or.inl ⟨e, by rw [← hpr]; exact z1 f hf, z2, y2⟩⟩
        · rw [z1, ri_ok]
          obtain ⟨f', y1, y2⟩ := z7 f hf
          exact ih (w.length - p') (by omega) p' (step + 1) s1 own' n' d' CL' SL' W' rfl z6 (by omega) z4 z2 W1 z3 u1 f' y1 (by rw [← y2]; exact hpr)
  obtain ⟨s1, a1, a2, a3, a4⟩ := start_ok hX
  have W1 := isSg_up hw a3 (by show ¬ (25 ≤ a ∧ a ≤ 41); omega) (by show ¬ (25 ≤ a + 1 ∧ a + 1 ≤ 41); omega)
  rw [e_X5_readPattern_0, c25 hX, a1, rv_ok]
  exact key _ 0 0 s1 _ _ _ _ _ _ rfl (Nat.zero_le _) (Nat.le_refl _) (Nat.le_refl _) a2 W1 a4 a3 26 (by show w.length < 26 + 0; omega) rfl
end CPAT3
