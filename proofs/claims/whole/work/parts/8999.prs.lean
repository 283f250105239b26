/-! PATTERNS: the reading as a function: the place of the fault, or the language -/
def escP (w : List Nat) (p : Nat) : Nat := if w[p]? = some 92 then p + 1 else p
def itm (w : List Nat) (p : Nat) : Nat ⊕ (Nat × Nat × Nat) := match w[escP w p]? with
  | none => .inl w.length
  | some lo => if lo = 93 ∧ escP w p = p then .inl p else
    if w[escP w p + 1]? = some 45 ∧ w[escP w p + 2]? ≠ some 93 then (match w[escP w (escP w p + 2)]? with
      | none => .inl w.length
      | some hi => if hi < lo then .inl (escP w (escP w p + 2)) else .inr (lo, hi, escP w (escP w p + 2) + 1))
    else .inr (lo, lo, escP w p + 1)
def setG (w : List Nat) (fst : Nat) : Nat → Nat → (Nat → Prop) → Nat ⊕ ((Nat → Prop) × Nat)
  | 0, _, _ => .inl 0
  | f + 1, p, S => if fst < p ∧ w[p]? = some 93 then .inr (S, p + 1) else match itm w p with
    | .inl e => .inl e
    | .inr r => setG w fst f r.2.2 (fun c => S c ∨ (r.1 ≤ c ∧ c ≤ r.2.1))
def sPar (w : List Nat) (p : Nat) : Nat ⊕ ((Nat → Prop) × Nat) := if w[p]? = some 94 then (match setG w (p + 1) 26 (p + 1) (fun _ => False) with
    | .inl e => .inl e
    | .inr r => .inr (fun c => c < 256 ∧ ¬ r.1 c, r.2))
  else setG w p 26 p (fun _ => False)
def atm (w : List Nat) (p : Nat) : Nat ⊕ ((Nat → Prop) × Nat) := match w[p]? with
  | none => .inl w.length
  | some c => if c = 46 then .inr (fun z => 0 ≤ z ∧ z ≤ 255, p + 1) else if c = 91 then sPar w (p + 1) else if c = 42 ∨ c = 43 ∨ c = 63 ∨ c = 93 then .inl p
    else match w[escP w p]? with
      | none => .inl w.length
      | some s => .inr (fun z => s ≤ z ∧ z ≤ s, escP w p + 1)
def isRep (c : Nat) : Prop := c = 42 ∨ c = 43 ∨ c = 63
def clsP (w : List Nat) (l sl : Lg) (p : Nat) : Lg × Nat := match w[p]? with
  | none => (catL sl l, p)
  | some c => if c = 42 ∨ c = 43 ∨ c = 63 then (catL sl (repL c l), p + 1) else (catL sl l, p)
def prs (w : List Nat) : Nat → Nat → Nat → (Nat → Lg) → (Nat → Lg) → Nat ⊕ Lg
  | 0, _, _, _, _ => .inl 0
  | f + 1, p, d, CL, SL => match w[p]? with
    | none => if d = 0 then .inr (orL (CL 0) (SL 0)) else .inl w.length
    | some c => if c = 124 then prs w f (p + 1) d (up1 CL d (orL (CL d) (SL d))) (up1 SL d epsL)
      else if c = 41 then (if d = 0 then .inl p else prs w f (clsP w (orL (CL d) (SL d)) (SL (d - 1)) (p + 1)).2 (d - 1) CL (up1 SL (d - 1) (clsP w (orL (CL d) (SL d)) (SL (d - 1)) (p + 1)).1))
      else if c = 40 then (if d = 4 then .inl p else prs w f (p + 1) (d + 1) (up1 CL (d + 1) noL) (up1 SL (d + 1) epsL))
      else match atm w p with
        | .inl e => .inl e
        | .inr r => prs w f (clsP w (oneL r.1) (SL d) r.2).2 d CL (up1 SL d (clsP w (oneL r.1) (SL d) r.2).1)
def patL (w : List Nat) : Nat ⊕ Lg := prs w 26 0 0 (fun _ => noL) (fun _ => epsL)
section CPAT
variable {L : Nat} {st : ab_S} {a : Nat} {w : List Nat}
theorem at2_ok (hw : isSg st a 4000 w) (hl : w.length ≤ 24) {p : Nat} (hp : p < 1000) : f_X6_at a (nI p) st = some (some (.int (lg w p)), st) := atn_ok hw (by omega)
theorem lg_eq {p k : Nat} (hw : ∀ s ∈ w, s < 256) (hk : k < 256) : (lg w p = nI k) ↔ w[p]? = some k := by
  cases hg : w[p]? with
  | none =>
    rw [lg_none hg]
    exact ⟨fun q => by rw [c_m1e' (by omega)] at q; exact absurd q id, fun q => by cases q⟩
  | some s =>
    have hs := hw s (List.mem_of_getElem? hg)
    rw [lg_some hg, c_eq (by omega) (by omega)]
    exact ⟨fun q => by rw [q], fun q => Option.some.inj q⟩
theorem lgif {α : Type} (K : Int32) (k : Nat) (hK : K = nI k) (hk : k < 256) {p : Nat} (hw : ∀ s ∈ w, s < 256) {x y : α} : (if lg w p = K then x else y) = if w[p]? = some k then x else y := by
  subst hK
  by_cases h : w[p]? = some k
  · rw [if_pos h, if_pos ((lg_eq hw hk).mpr h)]
  · rw [if_neg h, if_neg (fun q => h ((lg_eq hw hk).mp q))]
theorem lg_m1 {p : Nat} (hw : ∀ s ∈ w, s < 256) : (lg w p = -1) ↔ w[p]? = none := by
  cases hg : w[p]? with
  | none => rw [lg_none hg]; exact ⟨fun _ => rfl, fun _ => rfl⟩
  | some s =>
    have hs := hw s (List.mem_of_getElem? hg)
    rw [lg_some hg, c_m1e (by omega)]
    exact ⟨False.elim, fun q => by cases q⟩
theorem esc_ok (hw : isSg st a 4000 w) (hl : w.length ≤ 24) {p : Nat} (hp : p < 999) : f_X5_pastEscape a (nI p) st = some (some (.int (nI (escP w p))), st) := by
  have h6 := hw.2.2.2.2.2.1
  rw [e_X5_pastEscape_0, at2_ok hw hl (by omega), ri_ok]
  unfold escP
  rw [lgif 92 92 rfl (by omega) h6]
  by_cases h : w[p]? = some 92
  · rw [if_pos h, if_pos h, nI_1]
  · rw [if_neg h, if_neg h]
theorem escP_le {p : Nat} : p ≤ escP w p ∧ escP w p ≤ p + 1 := by unfold escP; split <;> omega
theorem w28 (h : FX st) {n : Nat} (hn : n < 256) {v : Int32} : ab_wI st 28 (nI n) v = some (uI st 28 n v) := h.elim fun _ h => wI_ok (Fx_sh h (o := 28) rfl) hn (by omega)
theorem r28 (h : FX st) {n : Nat} (hn : n < 256) : ab_rI st 28 (nI n) = some (sI st 28 n) := h.elim fun _ h => rI_ok (Fx_sh h (o := 28) rfl) hn (by omega)
/-- the signs from lo to hi -/
theorem fill28 (hX : FX st) {q : Int32} {lo hi : Nat} (hlo : lo ≤ 256) (hhi : hi < 256) : ∃ st', L_X5_readItem_126 25 q (nI hi) (nI lo) st = some (some (.int (q + 1)), st') ∧ upto (fun q => q = 28) st st' ∧ ∀ c, c < 256 → sI st' 28 c = if lo ≤ c ∧ c ≤ hi then 1 else sI st 28 c := by
  have key : ∀ k lo (s : ab_S), hi + 1 - lo = k → lo ≤ 256 → upto (fun q => q = 28) st s → ∃ st', L_X5_readItem_126 25 q (nI hi) (nI lo) s = some (some (.int (q + 1)), st') ∧ upto (fun q => q = 28) st st' ∧ ∀ c, c < 256 → sI st' 28 c = if lo ≤ c ∧ c ≤ hi then 1 else sI s 28 c := by
    intro k
    induction k with
    | zero =>
      intro lo s hk hlo hu
      refine ⟨s, ?_, hu, fun c hc => by rw [if_neg (by omega)]⟩
      rw [e_X5_readItem_126, if_pos (by rw [c_lt (by omega) (by omega)]; omega)]
    | succ k ih =>
      intro lo s hk hlo hu
      have X := FX_up hX hu
      obtain ⟨st', a1, a2, a3⟩ := ih (lo + 1) (uI s 28 lo 1) (by omega) (by omega) (upto_trans hu (upto_uI rfl))
      refine ⟨st', ?_, a2, fun c hc => ?_⟩
      · rw [e_X5_readItem_126, if_neg (by rw [c_lt (by omega) (by omega)]; omega), nl 256, if_neg (by rw [c_le (by omega) (by omega)]; omega), g25_2 X, Option.bind_some, w28 X (by omega), Option.bind_some, nI_1]
        exact a1
      · rw [a3 c hc, I_uI]
        by_cases hcl : c = lo
        · subst hcl
          rw [if_neg (by omega), if_pos ⟨rfl, rfl⟩, if_pos (by omega)]
        · rw [if_neg (c := 28 = 28 ∧ c = lo) (fun z => hcl z.2)]
          by_cases h1 : lo + 1 ≤ c ∧ c ≤ hi
          · rw [if_pos h1, if_pos (by omega)]
          · rw [if_neg h1, if_neg (by omega)]
  exact key _ lo st rfl hlo upto_rfl
theorem fill28n {q : Int32} {lo : Nat} (hlo : lo < 256) : L_X5_readItem_126 25 q (-1) (nI lo) st = some (some (.int (q + 1)), st) := by
  rw [e_X5_readItem_126, if_pos (by rw [c_m1l (by omega)]; trivial)]
def onP (q : Nat) : Prop := q = 25 ∨ q = 28
/-- an item of a set -/
theorem item_ok (hX : FX st) (hw : isSg st a 4000 w) (ha : 61 < a) (hl : w.length ≤ 24) {p : Nat} (hp : p ≤ 24) : ∃ st', upto onP st st' ∧ (∀ j, j ≠ 9 → sI st' 25 j = sI st 25 j) ∧ ((∃ e q, itm w p = .inl e ∧ f_X5_readItem 25 a (nI p) st = some (some (.int q), st') ∧ sI st' 25 9 = nI e) ∨ (∃ lo hi q, itm w p = .inr (lo, hi, q) ∧ lo < 256 ∧ hi < 256 ∧ p < q ∧ q ≤ w.length ∧ f_X5_readItem 25 a (nI p) st = some (some (.int (nI q)), st') ∧ sI st' 25 9 = sI st 25 9 ∧ ∀ c, c < 256 → sI st' 28 c = if lo ≤ c ∧ c ≤ hi then 1 else sI st 28 c)) := by
  have h6 := hw.2.2.2.2.2.1
  have he := escP_le (w := w) (p := p)
  have u9 : ∀ v : Int32, upto onP st (uI st 25 9 v) := fun v => upto_uI (Or.inl rfl)
  have j9 : ∀ v : Int32, ∀ j, j ≠ 9 → sI (uI st 25 9 v) 25 j = sI st 25 j := fun v j hj => by rw [I_uI, if_neg (fun z => hj z.2)]
  have k9 : ∀ v : Int32, sI (uI st 25 9 v) 25 9 = v := fun v => by rw [I_uI, if_pos ⟨rfl, rfl⟩]
  rw [e_X5_readItem_0, c25 hX, esc_ok hw hl (by omega), ri_ok, at2_ok hw hl (by omega), ri_ok]
  unfold itm
  cases hg : w[escP w p]? with
  | none =>
    rw [lg_none hg, if_pos rfl, gI_ok hw.1, Option.bind_some, hw.2.2.2.1, p25 hX, Option.bind_some, e_X5_readItem_118, if_pos (by decide)]
    exact ⟨_, u9 _, j9 _, Or.inl ⟨w.length, _, rfl, fill28n (lo := 0) (by omega), k9 _⟩⟩
  | some lo =>
    have hlo := h6 lo (List.mem_of_getElem? hg)
    have hgl := (List.getElem?_eq_some_iff.mp hg).1
    rw [lg_some hg, if_neg (by rw [c_m1e (by omega)]; exact id)]
    have emx : (if nI lo < (0 : Int32) then (0 : Int32) else nI lo) = nI lo := if_neg (nI_pos (by omega))
    -- the rest of an item
    have go54 : ∃ st', upto onP st st' ∧ (∀ j, j ≠ 9 → sI st' 25 j = sI st 25 j) ∧ ((∃ e q, (if w[escP w p + 1]? = some 45 ∧ w[escP w p + 2]? ≠ some 93 then (match w[escP w (escP w p + 2)]? with
      | none => Sum.inl w.length
      | some hi => if hi < lo then .inl (escP w (escP w p + 2)) else .inr (lo, hi, escP w (escP w p + 2) + 1))
    else .inr (lo, lo, escP w p + 1) : Nat ⊕ (Nat × Nat × Nat)) = .inl e ∧ L_X5_readItem_54 25 a (nI (escP w p)) (nI lo) (nI lo) st = some (some (.int q), st') ∧ sI st' 25 9 = nI e) ∨ (∃ lo' hi q, (if w[escP w p + 1]? = some 45 ∧ w[escP w p + 2]? ≠ some 93 then (match w[escP w (escP w p + 2)]? with
      | none => Sum.inl w.length
      | some hi => if hi < lo then .inl (escP w (escP w p + 2)) else .inr (lo, hi, escP w (escP w p + 2) + 1))
    else .inr (lo, lo, escP w p + 1) : Nat ⊕ (Nat × Nat × Nat)) = .inr (lo', hi, q) ∧ lo' < 256 ∧ hi < 256 ∧ p < q ∧ q ≤ w.length ∧ L_X5_readItem_54 25 a (nI (escP w p)) (nI lo) (nI lo) st = some (some (.int (nI q)), st') ∧ sI st' 25 9 = sI st 25 9 ∧ ∀ c, c < 256 → sI st' 28 c = if lo' ≤ c ∧ c ≤ hi then 1 else sI st 28 c)) := by
      rw [e_X5_readItem_54, nI_1, at2_ok hw hl (by omega), ri_ok]
      have single : ∃ st', upto onP st st' ∧ (∀ j, j ≠ 9 → sI st' 25 j = sI st 25 j) ∧ L_X5_readItem_118 25 (nI (escP w p)) (nI lo) (nI lo) st = some (some (.int (nI (escP w p + 1))), st') ∧ sI st' 25 9 = sI st 25 9 ∧ ∀ c, c < 256 → sI st' 28 c = if lo ≤ c ∧ c ≤ lo then 1 else sI st 28 c := by
        obtain ⟨st', b1, b2, b3⟩ := fill28 hX (q := nI (escP w p)) (lo := lo) (hi := lo) (by omega) hlo
        refine ⟨st', upto_mono b2 (fun q hq => Or.inr hq), fun j _ => by rw [(b2.2.2 25 (by omega)).1], ?_, by rw [(b2.2.2 25 (by omega)).1], b3⟩
        rw [e_X5_readItem_118, emx, b1, nI_1]
      by_cases h45 : w[escP w p + 1]? = some 45
      rotate_left
      · rw [lgif 45 45 rfl (by omega) h6, if_neg h45, if_neg (fun q => h45 q.1)]
        obtain ⟨st', b1, b2, b3, b4, b5⟩ := single
        exact ⟨st', b1, b2, Or.inr ⟨lo, lo, escP w p + 1, rfl, hlo, hlo, by omega, by omega, b3, b4, b5⟩⟩
      rw [lgif 45 45 rfl (by omega) h6, if_pos h45, show nI (escP w p) + (2 : Int32) = nI (escP w p + 2) from by rw [show (2 : Int32) = nI 2 from rfl, a_add], at2_ok hw hl (by omega), ri_ok]
      by_cases h93 : w[escP w p + 2]? = some 93
      · rw [lgif 93 93 rfl (by omega) h6, if_pos h93, if_neg (fun q => q.2 h93)]
        obtain ⟨st', b1, b2, b3, b4, b5⟩ := single
        exact ⟨st', b1, b2, Or.inr ⟨lo, lo, escP w p + 1, rfl, hlo, hlo, by omega, by omega, b3, b4, b5⟩⟩
      have he2 := escP_le (w := w) (p := escP w p + 2)
      rw [lgif 93 93 rfl (by omega) h6, if_neg h93, if_pos ⟨h45, h93⟩, esc_ok hw hl (by omega), ri_ok, at2_ok hw hl (by omega), ri_ok]
      cases hg2 : w[escP w (escP w p + 2)]? with
      | none =>
        rw [lg_none hg2, if_neg (Int32.not_le.mpr (by rw [c_m1l (by omega)]; trivial)), if_pos rfl, gI_ok hw.1, Option.bind_some, hw.2.2.2.1, e_X5_readItem_115, p25 hX, Option.bind_some, e_X5_readItem_118, emx]
        exact ⟨_, u9 _, j9 _, Or.inl ⟨w.length, _, rfl, fill28n (lo := lo) hlo, k9 _⟩⟩
      | some hi =>
        have hhi := h6 hi (List.mem_of_getElem? hg2)
        have hgl2 := (List.getElem?_eq_some_iff.mp hg2).1
        rw [lg_some hg2]
        dsimp only
        by_cases hlt : hi < lo
        · rw [if_pos hlt, if_neg (by rw [c_le (by omega) (by omega)]; omega), if_neg (by rw [c_m1e (by omega)]; exact id), e_X5_readItem_115, p25 hX, Option.bind_some, e_X5_readItem_118, emx]
          have X9 : FX (uI st 25 9 (nI (escP w (escP w p + 2)))) := hX
          obtain ⟨st', b1, b2, b3⟩ := fill28 X9 (q := nI (escP w (escP w p + 2))) (lo := lo) (hi := hi) (by omega) hhi
          exact ⟨st', upto_trans (u9 _) (upto_mono b2 (fun q hq => Or.inr hq)), fun j hj => by rw [(b2.2.2 25 (by omega)).1]; exact j9 _ j hj, Or.inl ⟨_, _, rfl, b1, by rw [(b2.2.2 25 (by omega)).1]; exact k9 _⟩⟩
        · rw [if_neg hlt, if_pos (by rw [c_le (by omega) (by omega)]; omega), e_X5_readItem_118, emx]
          obtain ⟨st', b1, b2, b3⟩ := fill28 hX (q := nI (escP w (escP w p + 2))) (lo := lo) (hi := hi) (by omega) hhi
          refine ⟨st', upto_mono b2 (fun q hq => Or.inr hq), fun j _ => by rw [(b2.2.2 25 (by omega)).1], Or.inr ⟨lo, hi, _, rfl, hlo, hhi, by omega, by omega, ?_, by rw [(b2.2.2 25 (by omega)).1], b3⟩⟩
          rw [b1, nI_1]
    dsimp only
    by_cases h93 : lo = 93
    · rw [if_pos (c := nI lo = 93) (show nI lo = 93 from by rw [h93]; rfl)]
      by_cases hpe : escP w p = p
      · rw [if_pos (c := lo = 93 ∧ escP w p = p) ⟨h93, hpe⟩, if_pos (c := nI (escP w p) = nI p) (by rw [hpe]), p25 hX, Option.bind_some, e_X5_readItem_118, emx]
        have X9 : FX (uI st 25 9 (nI p)) := hX
        obtain ⟨st', b1, b2, b3⟩ := fill28 X9 (q := nI (escP w p)) (lo := lo) (hi := lo) (by omega) hlo
        exact ⟨st', upto_trans (u9 _) (upto_mono b2 (fun q hq => Or.inr hq)), fun j hj => by rw [(b2.2.2 25 (by omega)).1]; exact j9 _ j hj, Or.inl ⟨p, _, rfl, b1, by rw [(b2.2.2 25 (by omega)).1]; exact k9 _⟩⟩
      · rw [if_neg (c := lo = 93 ∧ escP w p = p) (fun q => hpe q.2), if_neg (c := nI (escP w p) = nI p) (by rw [c_eq (by omega) (by omega)]; exact hpe)]
        exact go54
    · rw [if_neg (c := lo = 93 ∧ escP w p = p) (fun q => h93 q.1), if_neg (c := nI lo = 93) (by show ¬ nI lo = nI 93; rw [c_eq (by omega) (by omega)]; exact h93)]
      exact go54
end CPAT
