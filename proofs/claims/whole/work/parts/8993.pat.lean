/-! THE CLASS'S PATTERN: object 25 (takers 26, follow 27, inSet 28, choices 29 -> 32 + 2 j, sequences 30 -> 33 + 2 j, piece 31; fields 6 pieceWaits, 7 depth, 8 places, 9 wrong) -/
def hb (x : Int32) (i : Nat) : Prop := x.toBitVec.getLsbD i = true
theorem hb_or {x y : Int32} {i : Nat} : hb (x ||| y) i ↔ hb x i ∨ hb y i := by
  unfold hb
  rw [Int32.toBitVec_or, BitVec.getLsbD_or, Bool.or_eq_true]
theorem hb_and {x y : Int32} {i : Nat} : hb (x &&& y) i ↔ hb x i ∧ hb y i := by
  unfold hb
  rw [Int32.toBitVec_and, BitVec.getLsbD_and, Bool.and_eq_true]
theorem hb_0 {i : Nat} : ¬ hb 0 i := by
  unfold hb
  rw [show (0 : Int32).toBitVec = 0#32 from rfl, BitVec.getLsbD_zero]
  decide
theorem hb_lt {x : Int32} {i : Nat} (h : hb x i) : i < 32 := by
  rcases Nat.lt_or_ge i 32 with q | q
  · exact q
  · unfold hb at h
    rw [BitVec.getLsbD_of_ge _ _ q] at h
    cases h
theorem hb_ne {x : Int32} : (x = 0) ↔ ∀ i, ¬ hb x i := by
  constructor
  · rintro rfl i; exact hb_0
  · intro h
    refine Int32.toBitVec_inj.mp (BitVec.eq_of_getLsbD_eq (fun i hi => ?_))
    have := h i
    unfold hb at this
    rw [show (0 : Int32).toBitVec = 0#32 from rfl, BitVec.getLsbD_zero]
    simpa using this
theorem hb_one' : ∀ i, i < 24 → ∀ j, j < 32 → ((((1 : Int32) <<< (nI i &&& 31)).toBitVec.getLsbD j) = decide (j = i)) := by decide +kernel
theorem hb_one {i j : Nat} (hi : i < 24) : hb ((1 : Int32) <<< (nI i &&& 31)) j ↔ j = i := by
  constructor
  · intro h
    have hj := hb_lt h
    unfold hb at h
    rw [hb_one' i hi j hj] at h
    simpa using h
  · rintro rfl
    unfold hb
    rw [hb_one' j hi j (by omega)]
    simp
theorem s31 : ∀ l, l < 32 → (((nI l).toUInt32 &&& Int32.toUInt32 31).toBitVec % 32).toNat = l := by decide +kernel
theorem hb_test {m : Int32} {i : Nat} (hi : i < 32) : (((m.toUInt32 >>> ((nI i).toUInt32 &&& Int32.toUInt32 31)).toInt32 &&& (1 : Int32)) = 0) ↔ ¬ hb m i := by
  have e1 := pk_ushr m (nI i) i (s31 i hi)
  have e2 : ∀ x : Int32, x &&& (1 : Int32) = nI (x.toBitVec.toNat % 2) := fun x => pk_and x 1 (by decide)
  rw [e2, e1]
  unfold hb
  rw [show m.toBitVec.getLsbD i = m.toBitVec.toNat.testBit i from rfl, Nat.testBit_eq_decide_div_mod_eq]
  have hlt : m.toBitVec.toNat / 2 ^ i % 2 < 2 := Nat.mod_lt _ (by omega)
  rw [show (0 : Int32) = nI 0 from rfl, c_eq (by omega) (by omega)]
  simp
def Fs (st : ab_S) (i j : Nat) : Prop := i < 24 ∧ hb (sI st 27 i) j
def Ts (st : ab_S) (i c : Nat) : Prop := c < 256 ∧ hb (sI st 26 c) i
def isPrt (st : ab_S) (o : Nat) (P : Nat → Prop) (l : Lg) : Prop := (sI st o 0 = 0 ∨ sI st o 0 = 1) ∧ prt (Fs st) (Ts st) (sI st o 0 = 1) (hb (sI st o 1)) (hb (sI st o 2)) P l
section PAT
variable {L : Nat} {st : ab_S}
theorem isPrt_eq {st' : ab_S} {o : Nat} {P : Nat → Prop} {l : Lg} (h : isPrt st o P l) (ho : ∀ k, sI st' o k = sI st o k) (hF : ∀ i j, P i → (Fs st i j ↔ Fs st' i j)) (hT : ∀ i c, P i → (Ts st i c ↔ Ts st' i c)) : isPrt st' o P l := by
  unfold isPrt at h ⊢
  rw [ho 0, ho 1, ho 2]
  exact ⟨h.1, prt_congr h.2 hF hT⟩
theorem prt_iff {F T : Nat → Nat → Prop} {b b' : Prop} {fs fs' ls ls' P P' : Nat → Prop} {l : Lg} (h : prt F T b fs ls P l) (hb : b ↔ b') (hf : ∀ i, fs i ↔ fs' i) (hl : ∀ i, ls i ↔ ls' i) (hP : ∀ i, P i ↔ P' i) : prt F T b' fs' ls' P' l := by
  rw [← propext hb, ← (funext fun i => propext (hf i) : fs = fs'), ← (funext fun i => propext (hl i) : ls = ls'), ← (funext fun i => propext (hP i) : P = P')]
  exact h
theorem k25 (h : FX st) : (sH st)[25]? = some (0, 5) := h.elim fun _ h => Fx_sh h rfl
theorem g25_0 (h : FX st) : ab_gR st 25 5 0 = some 26 := h.elim fun _ h => by rw [gR_ok (Fx_sh h rfl), Fx_rf h (v := 26) (by decide)]
theorem g25_1 (h : FX st) : ab_gR st 25 5 1 = some 27 := h.elim fun _ h => by rw [gR_ok (Fx_sh h rfl), Fx_rf h (v := 27) (by decide)]
theorem g25_2 (h : FX st) : ab_gR st 25 5 2 = some 28 := h.elim fun _ h => by rw [gR_ok (Fx_sh h rfl), Fx_rf h (v := 28) (by decide)]
theorem g25_3 (h : FX st) : ab_gR st 25 5 3 = some 29 := h.elim fun _ h => by rw [gR_ok (Fx_sh h rfl), Fx_rf h (v := 29) (by decide)]
theorem g25_4 (h : FX st) : ab_gR st 25 5 4 = some 30 := h.elim fun _ h => by rw [gR_ok (Fx_sh h rfl), Fx_rf h (v := 30) (by decide)]
theorem g25_5 (h : FX st) : ab_gR st 25 5 5 = some 31 := h.elim fun _ h => by rw [gR_ok (Fx_sh h rfl), Fx_rf h (v := 31) (by decide)]
theorem i25 (h : FX st) {k : Nat} : ab_gI st 25 5 k = some (sI st 25 k) := gI_ok (k25 h)
theorem p25 (h : FX st) {k : Nat} {v : Int32} : ab_pI st 25 5 k v = some (uI st 25 k v) := pI_ok (k25 h)
theorem c25 (h : FX st) {r : Option ab_R} : ab_rc st 25 5 r = r := rc_ok (k25 h)
theorem r26 (h : FX st) {n : Nat} (hn : n < 256) : ab_rI st 26 (nI n) = some (sI st 26 n) := h.elim fun _ h => rI_ok (Fx_sh h (o := 26) rfl) hn (by omega)
theorem w26 (h : FX st) {n : Nat} (hn : n < 256) {v : Int32} : ab_wI st 26 (nI n) v = some (uI st 26 n v) := h.elim fun _ h => wI_ok (Fx_sh h (o := 26) rfl) hn (by omega)
theorem r27 (h : FX st) {n : Nat} (hn : n < 24) : ab_rI st 27 (nI n) = some (sI st 27 n) := h.elim fun _ h => rI_ok (Fx_sh h (o := 27) rfl) hn (by omega)
theorem w27 (h : FX st) {n : Nat} (hn : n < 24) {v : Int32} : ab_wI st 27 (nI n) v = some (uI st 27 n v) := h.elim fun _ h => wI_ok (Fx_sh h (o := 27) rfl) hn (by omega)
theorem prt_sh (h : FX st) {o : Nat} (ho : 31 ≤ o ∧ o ≤ 41) : (sH st)[o]? = some (0, 4) := by
  obtain ⟨L, h⟩ := h
  have : ∀ o, 31 ≤ o → o ≤ 41 → (S0 L)[o]? = some (0, 4) := by
    intro o h1 h2
    have : o = 31 ∨ o = 32 ∨ o = 33 ∨ o = 34 ∨ o = 35 ∨ o = 36 ∨ o = 37 ∨ o = 38 ∨ o = 39 ∨ o = 40 ∨ o = 41 := by omega
    rcases this with rfl | rfl | rfl | rfl | rfl | rfl | rfl | rfl | rfl | rfl | rfl <;> rfl
  exact Fx_sh h (this o ho.1 ho.2)
theorem chs (h : FX st) {d : Nat} (hd : d ≤ 4) : ab_rR st 29 (nI d) = some (32 + 2 * d) := by
  obtain ⟨L, h⟩ := h
  have : ∀ d, d ≤ 4 → (29, d, 32 + 2 * d) ∈ fxr := by decide +kernel
  rw [rR_ok (Fx_sh h (o := 29) rfl) (by decide) (by omega) (by omega), Fx_rf h (this d hd)]
theorem sqs (h : FX st) {d : Nat} (hd : d ≤ 4) : ab_rR st 30 (nI d) = some (33 + 2 * d) := by
  obtain ⟨L, h⟩ := h
  have : ∀ d, d ≤ 4 → (30, d, 33 + 2 * d) ∈ fxr := by decide +kernel
  rw [rR_ok (Fx_sh h (o := 30) rfl) (by decide) (by omega) (by omega), Fx_rf h (this d hd)]
theorem become_ok (h : FX st) {o : Nat} (ho : 31 ≤ o ∧ o ≤ 41) {b f l : Int32} (hb : b = 0 ∨ b = 1) : f_X4_become o b f l st = some (none, uI (uI (uI st o 0 b) o 1 f) o 2 l) := by
  have s0 := prt_sh h ho
  have s1 : (sH (uI st o 0 b))[o]? = some (0, 4) := s0
  have s2 : (sH (uI (uI st o 0 b) o 1 f))[o]? = some (0, 4) := s0
  have e : ab_pZ st o 4 0 b = some (uI st o 0 b) := by rcases hb with rfl | rfl; exact pZ_0 s0; exact pZ_1 s0
  rw [e_X4_become_0, rc_ok s0, e, Option.bind_some, pI_ok s1, Option.bind_some, pI_ok s2, Option.bind_some]
theorem become_s {o : Nat} {b f l : Int32} (q j : Nat) : sI (uI (uI (uI st o 0 b) o 1 f) o 2 l) q j = if q = o ∧ j = 0 then b else if q = o ∧ j = 1 then f else if q = o ∧ j = 2 then l else sI st q j := by
  rw [I_uI, I_uI, I_uI]
  by_cases hq : q = o
  · by_cases h2 : j = 2
    · rw [if_pos ⟨hq, h2⟩, if_neg (fun z => by omega), if_neg (fun z => by omega), if_pos ⟨hq, h2⟩]
    · rw [if_neg (fun z => h2 z.2)]
      by_cases h1 : j = 1
      · rw [if_pos ⟨hq, h1⟩, if_neg (fun z => by omega), if_pos ⟨hq, h1⟩]
      · rw [if_neg (fun z => h1 z.2)]
        by_cases h0 : j = 0
        · rw [if_pos ⟨hq, h0⟩, if_pos ⟨hq, h0⟩]
        · rw [if_neg (fun z => h0 z.2), if_neg (fun z => h0 z.2), if_neg (fun z => h1 z.2), if_neg (fun z => h2 z.2)]
  · rw [if_neg (fun z => hq z.1), if_neg (fun z => hq z.1), if_neg (fun z => hq z.1), if_neg (fun z => hq z.1), if_neg (fun z => hq z.1), if_neg (fun z => hq z.1)]
/-- lead -/
theorem lead_ok (hX : FX st) {n : Nat} (hn : n ≤ 24) (h8 : sI st 25 8 = nI n) {f t : Int32} (hf : ∀ i, hb f i → i < n) : ∃ st', f_X5_lead 25 f t st = some (none, st') ∧ upto (fun q => q = 27) st st' ∧ ∀ i j, Fs st' i j ↔ Fs st i j ∨ (hb f i ∧ hb t j) := by
  have key : ∀ k i (s : ab_S), n - i = k → i ≤ n → upto (fun q => q = 27) st s → (∀ a j, Fs s a j ↔ Fs st a j ∨ (a < i ∧ hb f a ∧ hb t j)) → ∃ st', L_X5_lead_2 25 f t (nI i) s = some (none, st') ∧ upto (fun q => q = 27) st st' ∧ ∀ i j, Fs st' i j ↔ Fs st i j ∨ (hb f i ∧ hb t j) := by
    intro k
    induction k with
    | zero =>
      intro i s hk hi hu hF
      have X := FX_up hX hu
      have e8 : sI s 25 8 = nI n := by rw [(hu.2.2 25 (by omega)).1]; exact h8
      refine ⟨s, ?_, hu, fun a j => ?_⟩
      · rw [e_X5_lead_2, i25 X, Option.bind_some, e8, if_pos (by rw [c_le (by omega) (by omega)]; omega)]
      · rw [hF a j]
        exact ⟨fun q => q.elim Or.inl (fun z => Or.inr z.2), fun q => q.elim Or.inl (fun z => Or.inr ⟨by have := hf a z.1; omega, z⟩)⟩
    | succ k ih =>
      intro i s hk hi hu hF
      have X := FX_up hX hu
      have e8 : sI s 25 8 = nI n := by rw [(hu.2.2 25 (by omega)).1]; exact h8
      rw [e_X5_lead_2, i25 X, Option.bind_some, e8, if_neg (by rw [c_le (by omega) (by omega)]; omega), nl 24, if_neg (by rw [c_le (by omega) (by omega)]; omega)]
      by_cases hbi : hb f i
      · rw [if_neg (fun q => (hb_test (by omega)).mp q hbi), g25_1 X, Option.bind_some, r27 X (by omega), Option.bind_some, w27 X (by omega), Option.bind_some, e_X5_lead_34, nI_1]
        refine ih (i + 1) _ (by omega) (by omega) (upto_trans hu (upto_uI rfl)) (fun a j => ?_)
        have e27 : Fs (uI s 27 i (sI s 27 i ||| t)) a j ↔ Fs s a j ∨ (a = i ∧ hb t j) := by
          unfold Fs
          rw [I_uI]
          by_cases ha : a = i
          · subst ha
            rw [if_pos ⟨rfl, rfl⟩, hb_or]
            exact ⟨fun q => q.2.elim (fun z => Or.inl ⟨q.1, z⟩) (fun z => Or.inr ⟨rfl, z⟩), fun q => q.elim (fun z => ⟨z.1, Or.inl z.2⟩) (fun z => ⟨by omega, Or.inr z.2⟩)⟩
          · rw [if_neg (fun z => ha z.2)]
            exact ⟨Or.inl, fun q => q.elim id (fun z => absurd z.1 ha)⟩
        rw [e27, hF a j]
        constructor
        · rintro ((q | ⟨q1, q2, q3⟩) | ⟨q1, q2⟩)
          · exact Or.inl q
          · exact Or.inr ⟨by omega, q2, q3⟩
          · exact Or.inr ⟨by omega, by rw [q1]; exact hbi, q2⟩
        · rintro (q | ⟨q1, q2, q3⟩)
          · exact Or.inl (Or.inl q)
          · by_cases ha : a = i
            · exact Or.inr ⟨ha, q3⟩
            · exact Or.inl (Or.inr ⟨by omega, q2, q3⟩)
      · rw [if_pos ((hb_test (by omega)).mpr hbi), e_X5_lead_34, nI_1]
        refine ih (i + 1) s (by omega) (by omega) hu (fun a j => ?_)
        rw [hF a j]
        constructor
        · rintro (q | ⟨q1, q2⟩)
          · exact Or.inl q
          · exact Or.inr ⟨by omega, q2⟩
        · rintro (q | ⟨q1, q2⟩)
          · exact Or.inl q
          · refine Or.inr ⟨?_, q2⟩
            by_cases ha : a = i
            · subst ha; exact absurd q2.1 hbi
            · omega
  rw [e_X5_lead_0, c25 hX]
  exact key _ 0 st rfl (Nat.zero_le _) upto_rfl (fun a j => ⟨Or.inl, fun q => q.elim id (fun z => by omega)⟩)
end PAT
