/-! THE MODEL READS ATOMS -/
def on4 (q : Nat) : Prop := q = 130 ∨ (151 ≤ q ∧ q ≤ 154)
section MATOM
variable {st : ab_S} {w : List Nat} {E : List Ed} {N nS p : Nat} {S : Nat → Prop}
theorem setLM {l1 : Int32} {fst : Nat} (hn : nS < 40) : ∀ (f p : Nat) (S : Nat → Prop) (st : ab_S), MU st w E N nS → sI st 130 33 = nI p → sI st 130 35 = -1 → p ≤ w.length → w.length < f + p → hS st nS S → fst ≤ p → (fst < p ∨ w[p]? ≠ some 93) → ∃ st', FS nS st st' ∧ ((∃ e, setG w fst f p S = .inl e ∧ e ≤ w.length ∧ L_X11_parseSet_51 130 l1 st = some (none, st') ∧ sI st' 130 35 = nI e) ∨ (∃ S' q, setG w fst f p S = .inr (S', q + 1) ∧ p ≤ q ∧ q < w.length ∧ L_X11_parseSet_51 130 l1 st = L_X11_parseSet_176 130 l1 st' ∧ sI st' 130 33 = nI q ∧ sI st' 130 35 = -1 ∧ hS st' nS S')) := by
  intro f
  induction f with
  | zero => intro p S st h h33 h35 hp hf; omega
  | succ f ih =>
    intro p S st h h33 h35 hp hf hS0 hfp hfst
    have X := h.1
    have hl := h.2.2.1
    have hw := lgM h
    have eG : setG w fst (f + 1) p S = if fst < p ∧ w[p]? = some 93 then .inr (S, p + 1) else match itm w p with
      | .inl e => .inl e
      | .inr r => setG w fst f r.2.2 (fun c => S c ∨ (r.1 ≤ c ∧ c ≤ r.2.1)) := rfl
    rw [eG]
    by_cases h93 : w[p]? = some 93
    · have hlt : fst < p := hfst.resolve_right (fun z => z h93)
      have := (List.getElem?_eq_some_iff.mp h93).1
      rw [if_pos ⟨hlt, h93⟩]
      refine ⟨st, FS_rfl, Or.inr ⟨S, p, rfl, Nat.le_refl _, by omega, ?_, h33, h35, hS0⟩⟩
      rw [e_X11_parseSet_51, im X, Option.bind_some, h35, if_pos rfl, here_ok h h33 (by omega), ri_ok, lgif 93 93 rfl (by omega) hw, if_pos h93]
    · rw [if_neg (fun z => h93 z.2)]
      obtain ⟨s1, F1, a⟩ := mitem_ok h hn h33 h35 hp hS0 h93 (l1 := l1)
      rcases a with ⟨e, a1, a2, a3, a4⟩ | ⟨lo, hi, q, a1, a2, a3, a4, a5, a6, a7⟩
      · rw [a1]
        exact ⟨s1, F1, Or.inl ⟨e, rfl, a2, a3, a4⟩⟩
      · rw [a1, a4]
        dsimp only
        obtain ⟨s2, F2, b⟩ := ih q _ s1 (FS_MU h F1) a5 a6 a3 (by omega) a7 (by omega) (Or.inl (by omega))
        refine ⟨s2, FS_trans F1 F2, ?_⟩
        rcases b with b | ⟨S', q', b1, b2, b3⟩
        · exact Or.inl b
        · exact Or.inr ⟨S', q', b1, by omega, b3⟩
theorem negLM (hn : nS < 40) (h : MU st w E N nS) (hS0 : hS st nS S) : ∃ st', L_X11_parseSet_196 130 1 0 st = some (none, st') ∧ FS nS st st' ∧ (∀ j, sI st' 130 j = sI st 130 j) ∧ hS st' nS (fun c => c < 256 ∧ ¬ S c) := by
  have key : ∀ k i (s : ab_S), 256 - i = k → i ≤ 256 → MU s w E N nS → FS nS st s → (∀ j, sI s 130 j = sI st 130 j) → (∀ c, c < i → (sI s 154 (256 * nS + c) = 0 ∨ sI s 154 (256 * nS + c) = 1) ∧ (sI s 154 (256 * nS + c) = 1 ↔ ¬ S c)) → (∀ c, i ≤ c → c < 256 → sI s 154 (256 * nS + c) = sI st 154 (256 * nS + c)) → ∃ st', L_X11_parseSet_196 130 1 (nI i) s = some (none, st') ∧ FS nS st st' ∧ (∀ j, sI st' 130 j = sI st 130 j) ∧ hS st' nS (fun c => c < 256 ∧ ¬ S c) := by
    intro k
    induction k with
    | zero =>
      intro i s hk hi hM hF h130 hlo hhi
      refine ⟨s, ?_, hF, h130, fun c hc => ⟨(hlo c (by omega)).1, (hlo c (by omega)).2.trans ⟨fun z => ⟨hc, z⟩, fun z => z.2⟩⟩⟩
      rw [e_X11_parseSet_196, nl 256, if_pos (by rw [c_le (by omega) (by omega)]; omega)]
    | succ k ih =>
      intro i s hk hi hM hF h130 hlo hhi
      have X := hM.1
      have h32 := hM.2.2.2.2.2.2.1
      have v0 := hS0 i (by omega)
      have e0 := hhi i (Nat.le_refl _) (by omega)
      have fin : ∀ v : Int32, (v = 0 ∨ v = 1) → (v = 1 ↔ ¬ S i) → ∃ st', L_X11_parseSet_196 130 1 (nI (i + 1)) (uI s 154 (256 * nS + i) v) = some (none, st') ∧ FS nS st st' ∧ (∀ j, sI st' 130 j = sI st 130 j) ∧ hS st' nS (fun c => c < 256 ∧ ¬ S c) := by
        intro v hv hv2
        refine ih (i + 1) _ (by omega) (by omega) (FS_MU hM FS_154) (FS_trans hF FS_154) (fun j => by rw [I_uI, if_neg (by omega)]; exact h130 j) (fun c hc => ?_) (fun c hc hc2 => by rw [I_uI, if_neg (by omega)]; exact hhi c (by omega) hc2)
        rw [I_uI]
        by_cases q : c = i
        · rw [if_pos ⟨rfl, by rw [q]⟩, q]
          exact ⟨hv, hv2⟩
        · rw [if_neg (by omega)]
          exact hlo c (by omega)
      rw [e_X11_parseSet_196, nl 256, if_neg (by rw [c_le (by omega) (by omega)]; omega), if_neg (by decide), n31r X, Option.bind_some, im X, Option.bind_some, h32, Option.bind_some, Option.bind_some, a_mul, a_add, r154 X (by omega), Option.bind_some, e0]
      rcases v0.1 with z | z
      · rw [z, if_pos rfl, e_X11_parseSet_244, w154 X (by omega), Option.bind_some, nI_1]
        exact fin 1 (Or.inr rfl) ⟨(fun _ y => by have := v0.2.mpr y; rw [z] at this; exact absurd this (by decide)), fun _ => rfl⟩
      · rw [z, if_neg (by decide), e_X11_parseSet_244, w154 X (by omega), Option.bind_some, nI_1]
        exact fin 0 (Or.inl rfl) ⟨(fun y => absurd y (by decide)), fun y => absurd (v0.2.mp z) y⟩
  exact key _ 0 st rfl (Nat.zero_le _) h FS_rfl (fun _ => rfl) (fun c hc => by omega) (fun _ _ _ => rfl)
theorem parseSet_ok (hn : nS < 40) (h : MU st w E N nS) (h33 : sI st 130 33 = nI p) (h35 : sI st 130 35 = -1) (hp : p ≤ w.length) (hS0 : hS st nS (fun _ => False)) : ∃ st', FS nS st st' ∧ ((∃ e, sPar w p = .inl e ∧ e ≤ w.length ∧ f_X11_parseSet 130 st = some (none, st') ∧ sI st' 130 35 = nI e) ∨ (∃ S q, sPar w p = .inr (S, q) ∧ p < q ∧ q ≤ w.length ∧ f_X11_parseSet 130 st = some (none, st') ∧ sI st' 130 33 = nI q ∧ sI st' 130 35 = -1 ∧ hS st' nS S)) := by
  have X := h.1
  have hl := h.2.2.1
  have hw := lgM h
  -- behind the caret
  have rest : ∀ (s : ab_S) (l1 : Int32) (q : Nat), MU s w E N nS → FS nS st s → sI s 130 33 = nI q → sI s 130 35 = -1 → q ≤ w.length → hS s nS (fun _ => False) → ∃ st', FS nS st st' ∧ ((∃ e, setG w q 26 q (fun _ => False) = .inl e ∧ e ≤ w.length ∧ (if lg w q = (93 : Int32) then Option.bind (ab_gI s 130 11 33) fun x4 =>
      ab_rv (f_X11_fail 130 x4 s) fun s5 =>
      some (none, s5) else L_X11_parseSet_51 130 l1 s) = some (none, st') ∧ sI st' 130 35 = nI e) ∨ (∃ S' q', setG w q 26 q (fun _ => False) = .inr (S', q' + 1) ∧ q ≤ q' ∧ q' < w.length ∧ (if lg w q = (93 : Int32) then Option.bind (ab_gI s 130 11 33) fun x4 =>
      ab_rv (f_X11_fail 130 x4 s) fun s5 =>
      some (none, s5) else L_X11_parseSet_51 130 l1 s) = L_X11_parseSet_196 130 l1 0 st' ∧ sI st' 130 33 = nI (q' + 1) ∧ sI st' 130 35 = -1 ∧ hS st' nS S')) := by
    intro s l1 q hM hF h3 h5 hq hS1
    rw [lgif 93 93 rfl (by omega) hw]
    by_cases h93 : w[q]? = some 93
    · have := (List.getElem?_eq_some_iff.mp h93).1
      have hE : escP w q = q := by unfold escP; rw [h93, if_neg (by intro z; cases z)]
      have ei : itm w q = .inl q := by
        unfold itm
        rw [hE, h93]
        dsimp only
        rw [if_pos ⟨rfl, rfl⟩]
      have eG : setG w q 26 q (fun _ => False) = if q < q ∧ w[q]? = some 93 then .inr ((fun _ => False), q + 1) else match itm w q with
        | .inl e => .inl e
        | .inr r => setG w q 25 r.2.2 (fun c => False ∨ (r.1 ≤ c ∧ c ≤ r.2.1)) := rfl
      rw [if_pos h93, im hM.1, Option.bind_some, h3, fail_ok hM.1 h5, rv_ok]
      refine ⟨_, FS_trans hF FS_35, Or.inl ⟨q, ?_, hq, rfl, by rw [I_uI, if_pos ⟨rfl, rfl⟩]⟩⟩
      rw [eG, if_neg (by omega), ei]
    · rw [if_neg h93]
      obtain ⟨s2, F2, b⟩ := setLM (l1 := l1) (fst := q) hn 26 q (fun _ => False) s hM h3 h5 hq (by omega) hS1 (Nat.le_refl _) (Or.inr h93)
      rcases b with ⟨e, b1, b2, b3, b4⟩ | ⟨S', q', b1, b2, b3, b4, b5, b6, b7⟩
      · exact ⟨s2, FS_trans hF F2, Or.inl ⟨e, b1, b2, b3, b4⟩⟩
      · have M2 := FS_MU hM F2
        refine ⟨uI s2 130 33 (nI (q' + 1)), FS_trans (FS_trans hF F2) FS_33, Or.inr ⟨S', q', b1, b2, b3, ?_, by rw [I_uI, if_pos ⟨rfl, rfl⟩], by rw [I_uI, if_neg (by omega)]; exact b6, b7⟩⟩
        rw [b4, e_X11_parseSet_176, im M2.1, Option.bind_some, b6, if_pos rfl, im M2.1, Option.bind_some, b5, nI_1, pm M2.1, Option.bind_some]
  rw [e_X11_parseSet_0, cm X, here_ok h h33 (by omega), ri_ok, lgif 94 94 rfl (by omega) hw]
  unfold sPar
  by_cases h94 : w[p]? = some 94
  · have hpl := (List.getElem?_eq_some_iff.mp h94).1
    have F1 : FS nS st (uI st 130 33 (nI (p + 1))) := FS_33
    have M1 := FS_MU h F1
    have k33 : sI (uI st 130 33 (nI (p + 1))) 130 33 = nI (p + 1) := by rw [I_uI, if_pos ⟨rfl, rfl⟩]
    rw [if_pos h94, if_pos h94, e_X11_parseSet_14, im X, Option.bind_some, h33, if_neg (by decide), e_X11_parseSet_29, nI_1, pm X, Option.bind_some, here_ok M1 k33 (by omega), ri_ok]
    obtain ⟨s2, F2, b⟩ := rest (uI st 130 33 (nI (p + 1))) 1 (p + 1) M1 F1 k33 (by rw [I_uI, if_neg (by omega)]; exact h35) (by omega) hS0
    rcases b with ⟨e, b1, b2, b3, b4⟩ | ⟨S', q', b1, b2, b3, b4, b5, b6, b7⟩
    · rw [b1, b3]
      exact ⟨s2, F2, Or.inl ⟨e, rfl, b2, rfl, b4⟩⟩
    · rw [b1, b4]
      obtain ⟨s3, c1, c2, c3, c4⟩ := negLM hn (FS_MU h F2) b7
      exact ⟨s3, FS_trans F2 c2, Or.inr ⟨_, q' + 1, rfl, by omega, by omega, c1, (c3 33).trans b5, (c3 35).trans b6, c4⟩⟩
  · have F1 : FS nS st (uI st 130 33 (nI p)) := FS_33
    have M1 := FS_MU h F1
    have k33 : sI (uI st 130 33 (nI p)) 130 33 = nI p := by rw [I_uI, if_pos ⟨rfl, rfl⟩]
    have a0 : nI p + (0 : Int32) = nI p := by rw [show (0 : Int32) = nI 0 from rfl, a_add]; rfl
    rw [if_neg h94, if_neg h94, e_X11_parseSet_14, im X, Option.bind_some, h33, if_pos rfl, e_X11_parseSet_29, a0, pm X, Option.bind_some, here_ok M1 k33 (by omega), ri_ok]
    obtain ⟨s2, F2, b⟩ := rest (uI st 130 33 (nI p)) 0 p M1 F1 k33 (by rw [I_uI, if_neg (by omega)]; exact h35) hp hS0
    rcases b with ⟨e, b1, b2, b3, b4⟩ | ⟨S', q', b1, b2, b3, b4, b5, b6, b7⟩
    · rw [b1, b3]
      exact ⟨s2, F2, Or.inl ⟨e, rfl, b2, rfl, b4⟩⟩
    · rw [b1, b4]
      have M2 := FS_MU h F2
      refine ⟨s2, F2, Or.inr ⟨S', q' + 1, rfl, by omega, by omega, ?_, b5, b6, b7⟩⟩
      rw [e_X11_parseSet_196, if_neg (by decide), if_pos rfl]
theorem clearM (hn : nS < 40) (h : MU st w E N nS) {l1 l2 : Int32} : ∃ st', L_X11_parseAtom_7 130 l1 l2 0 st = L_X11_parseAtom_7 130 l1 l2 (nI 256) st' ∧ FS nS st st' ∧ (∀ j, sI st' 130 j = sI st 130 j) ∧ hS st' nS (fun _ => False) := by
  have key : ∀ k i (s : ab_S), 256 - i = k → i ≤ 256 → MU s w E N nS → FS nS st s → (∀ j, sI s 130 j = sI st 130 j) → (∀ c, c < i → sI s 154 (256 * nS + c) = 0) → ∃ st', L_X11_parseAtom_7 130 l1 l2 (nI i) s = L_X11_parseAtom_7 130 l1 l2 (nI 256) st' ∧ FS nS st st' ∧ (∀ j, sI st' 130 j = sI st 130 j) ∧ hS st' nS (fun _ => False) := by
    intro k
    induction k with
    | zero =>
      intro i s hk hi hM hF h130 hlo
      have hi2 : i = 256 := by omega
      subst hi2
      refine ⟨s, rfl, hF, h130, fun c hc => ⟨Or.inl (hlo c hc), ⟨fun z => ?_, fun z => absurd z id⟩⟩⟩
      rw [hlo c hc] at z
      exact absurd z (by decide)
    | succ k ih =>
      intro i s hk hi hM hF h130 hlo
      have X := hM.1
      have h32 := hM.2.2.2.2.2.2.1
      obtain ⟨st', a⟩ := ih (i + 1) (uI s 154 (256 * nS + i) 0) (by omega) (by omega) (FS_MU hM FS_154) (FS_trans hF FS_154) (fun j => by rw [I_uI, if_neg (by omega)]; exact h130 j) (fun c hc => by
        rw [I_uI]
        by_cases q : c = i
        · rw [if_pos ⟨rfl, by rw [q]⟩]
        · rw [if_neg (by omega)]; exact hlo c (by omega))
      refine ⟨st', ?_, a.2⟩
      rw [← a.1, e_X11_parseAtom_7, if_neg (c := (256 : Int32) ≤ nI i) (by show ¬ nI 256 ≤ nI i; rw [c_le (by omega) (by omega)]; omega), n31r X, Option.bind_some, im X, Option.bind_some, h32, show (256 : Int32) = nI 256 from rfl, a_mul, a_add, w154 X (by omega), Option.bind_some, nI_1]
      rfl
  exact key _ 0 st rfl (Nat.zero_le _) h FS_rfl (fun _ => rfl) (fun c hc => by omega)
theorem oneOf_run (h : MU st w E N nS) (hE : E.length < 400) (hN : N < 400) {u : Int32} : ∃ st', f_X11_oneOf 130 u st = some (some (.int (nI N)), st') ∧ FX st' ∧ upto on3 st st' ∧ K3 st st' := by
  obtain ⟨s1, b1, ⟨a1, a2, a3, a4, a5, a6, a7, a8⟩, b3, b4⟩ := spot_ok h hN
  have X2 := FX_up a1 (stp_up (k := E.length) (u := u) (v := nI N) (x := nI nS))
  have c32 : sI (stpS s1 E.length u (nI N) (nI nS)) 130 32 = nI nS := a7
  have u3 : upto on3 (stpS s1 E.length u (nI N) (nI nS)) (uI (stpS s1 E.length u (nI N) (nI nS)) 130 32 (nI (nS + 1))) := upto_uI (Or.inl rfl)
  refine ⟨uI (stpS s1 E.length u (nI N) (nI nS)) 130 32 (nI (nS + 1)), ?_, FX_up X2 u3, upto_trans (upto_mono b3 (fun q hq => Or.inl hq)) (upto_trans stp_up u3), fun j h1 h2 h3 => ?_⟩
  · rw [e_X11_oneOf_0, cm h.1, b1, ri_ok, im a1, Option.bind_some, a7, stp_run a1 hE a5, rv_ok, im X2, Option.bind_some, c32, nI_1, pm X2, Option.bind_some]
  · rw [I_uI, if_neg (by omega), stp_K j h1 h2 h3]; exact b4 j h1 h2 h3
theorem parseAtom_ok (hn : nS < 40) (h : MU st w E N nS) (hE : E.length < 400) (hN : N < 400) (h33 : sI st 130 33 = nI p) (h35 : sI st 130 35 = -1) {c : Nat} (hg : w[p]? = some c) (h1 : c ≠ 124) (h2 : c ≠ 41) {b : Nat} : ∃ st', upto on4 st st' ∧ (∀ j, j < 26 → sI st' 130 j = sI st 130 j) ∧ ((∃ e x, atm w p = .inl e ∧ e ≤ w.length ∧ f_X11_parseAtom 130 (nI b) st = some (some (.int x), st') ∧ sI st' 130 35 = nI e) ∨ (∃ S q, atm w p = .inr (S, q) ∧ p < q ∧ q ≤ w.length ∧ f_X11_parseAtom 130 (nI b) st = some (some (.int (nI N)), st') ∧ MU st' w (E ++ [(b, N, some S)]) (N + 1) (nS + 1) ∧ sI st' 130 33 = nI q ∧ sI st' 130 35 = -1)) := by
  have X := h.1
  have hl := h.2.2.1
  have hw := lgM h
  have hp := (List.getElem?_eq_some_iff.mp hg).1
  have hc := hw _ (List.mem_of_getElem? hg)
  have lif : ∀ (k : Nat), k < 256 → ((nI c = nI k) ↔ c = k) := fun k hk => by rw [c_eq (by omega) (by omega)]
  have neq : ∀ (K : Int32) (k : Nat), K = nI k → k < 256 → c ≠ k → ¬ nI c = K := fun K k e hk hne z => hne ((lif k hk).mp (z.trans e))
  have yeq : ∀ (K : Int32) (k : Nat), K = nI k → c = k → nI c = K := fun K k e hk => by rw [e, hk]
  obtain ⟨s1, a1, F1, a3, a4⟩ := clearM hn h (l1 := nI b) (l2 := nI c)
  have M1 := FS_MU h F1
  have X1 := M1.1
  have k33 : sI s1 130 33 = nI p := (a3 33).trans h33
  have k35 : sI s1 130 35 = -1 := (a3 35).trans h35
  have onFS : ∀ {s s' : ab_S}, FS nS s s' → upto on4 s s' := fun hF => upto_mono hF.1 (fun q hq => by show q = 130 ∨ _; omega)
  have on33 : ∀ {s s' : ab_S}, upto on3 s s' → upto on4 s s' := fun hF => upto_mono hF (fun q hq => by have hq' : q = 130 ∨ (151 ≤ q ∧ q ≤ 153) := hq; show q = 130 ∨ _; omega)
  have lowF : ∀ {s s' : ab_S}, FS nS s s' → ∀ j, j < 26 → sI s' 130 j = sI s 130 j := fun hF j hj => hF.2.1 j (by omega) (by omega)
  -- a set is full: one step
  have one : ∀ (s : ab_S) (S : Nat → Prop) (q : Nat) (r : Option ab_R), FS nS st s → sI s 130 33 = nI q → sI s 130 35 = -1 → hS s nS S → p < q → q ≤ w.length → r = (ab_ri (f_X11_oneOf 130 (nI b) s) fun x11 s10 => some (some (.int x11), s10)) → atm w p = .inr (S, q) → ∃ st', upto on4 st st' ∧ (∀ j, j < 26 → sI st' 130 j = sI st 130 j) ∧ ((∃ e x, atm w p = .inl e ∧ e ≤ w.length ∧ r = some (some (.int x), st') ∧ sI st' 130 35 = nI e) ∨ (∃ S q, atm w p = .inr (S, q) ∧ p < q ∧ q ≤ w.length ∧ r = some (some (.int (nI N)), st') ∧ MU st' w (E ++ [(b, N, some S)]) (N + 1) (nS + 1) ∧ sI st' 130 33 = nI q ∧ sI st' 130 35 = -1)) := by
    intro s S q r hF y3 y5 hSs hq1 hq2 hr hat
    obtain ⟨s', z1, z2, z3, z4⟩ := oneOf_ok (FS_MU h hF) hE hN hSs (u := b)
    refine ⟨s', upto_trans (onFS hF) (on33 z3), fun j hj => (z4 j (by omega) (by omega) (by omega)).trans (lowF hF j hj), Or.inr ⟨S, q, hat, hq1, hq2, ?_, z2, (z4 33 (by omega) (by omega) (by omega)).trans y3, (z4 35 (by omega) (by omega) (by omega)).trans y5⟩⟩
    rw [hr, z1, ri_ok]
  -- a fault at p
  have flt : ∀ (s : ab_S) (e0 : Nat), FS nS st s → e0 ≤ w.length → sI s 130 35 = -1 → atm w p = .inl e0 → ∃ st', upto on4 st st' ∧ (∀ j, j < 26 → sI st' 130 j = sI st 130 j) ∧ ((∃ e x, atm w p = .inl e ∧ e ≤ w.length ∧ (ab_rv (f_X11_fail 130 (nI e0) s) fun s2 => some (some (.int (nI b)), s2)) = some (some (.int x), st') ∧ sI st' 130 35 = nI e) ∨ (∃ S q, atm w p = .inr (S, q) ∧ p < q ∧ q ≤ w.length ∧ (ab_rv (f_X11_fail 130 (nI e0) s) fun s2 => some (some (.int (nI b)), s2)) = some (some (.int (nI N)), st') ∧ MU st' w (E ++ [(b, N, some S)]) (N + 1) (nS + 1) ∧ sI st' 130 33 = nI q ∧ sI st' 130 35 = -1)) := by
    intro s e hF he h5 hat
    refine ⟨uI s 130 35 (nI e), upto_trans (onFS hF) (onFS (FS_35 (nS := nS))), fun j hj => (lowF (FS_trans hF FS_35) j hj), Or.inl ⟨e, nI b, hat, he, ?_, by rw [I_uI, if_pos ⟨rfl, rfl⟩]⟩⟩
    rw [fail_ok (FS_MU h hF).1 h5, rv_ok]
  have ad : ∀ (s : ab_S) (q : Nat), MU s w E N nS → sI s 130 33 = nI q → (∀ k : ab_S → Option ab_R, (Option.bind (ab_gI s 130 11 33) fun x7 => Option.bind (ab_pI s 130 11 33 (x7 + (1 : Int32))) k) = k (uI s 130 33 (nI (q + 1)))) := by
    intro s q hM h3 k
    rw [im hM.1, Option.bind_some, h3, nI_1, pm hM.1, Option.bind_some]
  rw [e_X11_parseAtom_0, cm X, here_ok h h33 (by omega), ri_ok, lg_some hg, a1, e_X11_parseAtom_7, if_pos (by show nI 256 ≤ nI 256; rw [c_le (by omega) (by omega)]; omega)]
  have atmE : atm w p = if c = 46 then .inr (fun z => 0 ≤ z ∧ z ≤ 255, p + 1) else if c = 91 then sPar w (p + 1) else if c = 42 ∨ c = 43 ∨ c = 63 ∨ c = 93 then .inl p
    else match w[escP w p]? with
      | none => .inl w.length
      | some s => .inr (fun z => s ≤ z ∧ z ≤ s, escP w p + 1) := by
    unfold atm
    rw [hg]
    rfl
  rw [if_neg (c := nI c = 41) (neq 41 41 rfl (by omega) h2)]
  by_cases h42 : c = 42
  · rw [if_pos (c := nI c = 42) (yeq 42 42 rfl h42), im X1, Option.bind_some, k33]
    exact flt s1 p F1 (by omega) k35 (by rw [atmE, if_neg (by omega), if_neg (by omega), if_pos (by omega)])
  rw [if_neg (c := nI c = 42) (neq 42 42 rfl (by omega) h42)]
  by_cases h43 : c = 43
  · rw [if_pos (c := nI c = 43) (yeq 43 43 rfl h43), im X1, Option.bind_some, k33]
    exact flt s1 p F1 (by omega) k35 (by rw [atmE, if_neg (by omega), if_neg (by omega), if_pos (by omega)])
  rw [if_neg (c := nI c = 43) (neq 43 43 rfl (by omega) h43)]
  by_cases h46 : c = 46
  · rw [if_pos (c := nI c = 46) (yeq 46 46 rfl h46), ad s1 p M1 k33]
    have F2 : FS nS s1 (uI s1 130 33 (nI (p + 1))) := FS_33
    obtain ⟨s2, b1, b2, b3, b4⟩ := fillM_ok (FS_MU M1 F2) hn (lo := 0) (hi := 255) (by omega) (by omega) (hS_130 a4)
    have b1' : f_X11_fill 130 0 255 (uI s1 130 33 (nI (p + 1))) = some (none, s2) := b1
    rw [b1', rv_ok]
    exact one s2 _ (p + 1) _ (FS_trans F1 (FS_trans F2 b2)) ((b4 33).trans (by rw [I_uI, if_pos ⟨rfl, rfl⟩])) ((b4 35).trans (by rw [I_uI, if_neg (by omega)]; exact k35)) (hS_iff b3 (fun c hc => ⟨fun z => z.elim (fun y => absurd y id) id, Or.inr⟩)) (by omega) (by omega) rfl (by rw [atmE, if_pos h46])
  rw [if_neg (c := nI c = 46) (neq 46 46 rfl (by omega) h46)]
  by_cases h63 : c = 63
  · rw [if_pos (c := nI c = 63) (yeq 63 63 rfl h63), im X1, Option.bind_some, k33]
    exact flt s1 p F1 (by omega) k35 (by rw [atmE, if_neg (by omega), if_neg (by omega), if_pos (by omega)])
  rw [if_neg (c := nI c = 63) (neq 63 63 rfl (by omega) h63)]
  by_cases h91 : c = 91
  · rw [if_pos (c := nI c = 91) (yeq 91 91 rfl h91), ad s1 p M1 k33]
    have F2 : FS nS s1 (uI s1 130 33 (nI (p + 1))) := FS_33
    have atm91 : atm w p = sPar w (p + 1) := by rw [atmE, if_neg h46, if_pos h91]
    obtain ⟨s2, F3, y⟩ := parseSet_ok hn (FS_MU M1 F2) (p := p + 1) (by rw [I_uI, if_pos ⟨rfl, rfl⟩]) (by rw [I_uI, if_neg (by omega)]; exact k35) (by omega) (hS_130 a4)
    have F4 := FS_trans F1 (FS_trans F2 F3)
    rcases y with ⟨e, y1, y2, y3, y4⟩ | ⟨S, q, y1, y2, y3, y4, y5, y6, y7⟩
    · rw [y3, rv_ok]
      obtain ⟨s3, z1, z2, z3, z4⟩ := oneOf_run (FS_MU h F4) hE hN (u := nI b)
      refine ⟨s3, upto_trans (onFS F4) (on33 z3), fun j hj => (z4 j (by omega) (by omega) (by omega)).trans (lowF F4 j hj), Or.inl ⟨e, nI N, atm91.trans y1, y2, ?_, (z4 35 (by omega) (by omega) (by omega)).trans y4⟩⟩
      rw [z1, ri_ok]
    · rw [y4, rv_ok]
      exact one s2 S q _ F4 y5 y6 y7 (by omega) y3 rfl (atm91.trans y1)
  rw [if_neg (c := nI c = 91) (neq 91 91 rfl (by omega) h91)]
  by_cases h92 : c = 92
  · have hesc : escP w p = p + 1 := by unfold escP; rw [hg, if_pos (by rw [h92])]
    have F2 : FS nS s1 (uI s1 130 33 (nI (p + 1))) := FS_33
    have M2 := FS_MU M1 F2
    have q33 : sI (uI s1 130 33 (nI (p + 1))) 130 33 = nI (p + 1) := by rw [I_uI, if_pos ⟨rfl, rfl⟩]
    have q35 : sI (uI s1 130 33 (nI (p + 1))) 130 35 = -1 := by rw [I_uI, if_neg (by omega)]; exact k35
    have atm92 : atm w p = match w[p + 1]? with
      | none => .inl w.length
      | some s => .inr (fun z => s ≤ z ∧ z ≤ s, p + 1 + 1) := by rw [atmE, if_neg h46, if_neg h91, if_neg (by omega), hesc]
    rw [if_pos (c := nI c = 92) (yeq 92 92 rfl h92), ad s1 p M1 k33, im M2.1, Option.bind_some, q33, im M2.1, Option.bind_some, M2.2.2.2.1]
    by_cases hend : p + 1 = w.length
    · rw [if_pos (by rw [hend]), Option.bind_some]
      exact flt _ w.length (FS_trans F1 F2) (Nat.le_refl _) q35 (by rw [atm92, List.getElem?_eq_none (by omega)])
    · have hg2 : w[p + 1]? = some w[p + 1] := List.getElem?_eq_getElem (by omega)
      have hc2 := hw _ (List.mem_of_getElem? hg2)
      generalize w[p + 1] = z at hg2 hc2
      rw [if_neg (by rw [c_eq (by omega) (by omega)]; exact hend), here_ok M2 q33 (by omega), ri_ok, here_ok M2 q33 (by omega), ri_ok, lg_some hg2]
      obtain ⟨s2, b1, b2, b3, b4⟩ := fillM_ok M2 hn (lo := z) (hi := z) (by omega) (by omega) (hS_130 a4)
      have F3 := FS_trans F1 (FS_trans F2 b2)
      have M3 := FS_MU M2 b2
      rw [b1, rv_ok, ad s2 (p + 1) M3 ((b4 33).trans q33)]
      exact one _ _ (p + 1 + 1) _ (FS_trans F3 FS_33) (by rw [I_uI, if_pos ⟨rfl, rfl⟩]) (by rw [I_uI, if_neg (by omega)]; exact (b4 35).trans q35) (hS_130 (hS_iff b3 (fun c hc => ⟨fun z => z.elim (fun y => absurd y id) id, Or.inr⟩))) (by omega) (by omega) rfl (by rw [atm92, hg2])
  rw [if_neg (c := nI c = 92) (neq 92 92 rfl (by omega) h92)]
  by_cases h93 : c = 93
  · rw [if_pos (c := nI c = 93) (yeq 93 93 rfl h93), im X1, Option.bind_some, k33]
    exact flt s1 p F1 (by omega) k35 (by rw [atmE, if_neg (by omega), if_neg (by omega), if_pos (by omega)])
  rw [if_neg (c := nI c = 93) (neq 93 93 rfl (by omega) h93), if_neg (c := nI c = 124) (neq 124 124 rfl (by omega) h1)]
  have hesc : escP w p = p := by unfold escP; rw [hg, if_neg (fun z => h92 (Option.some.inj z))]
  obtain ⟨s2, b1, b2, b3, b4⟩ := fillM_ok M1 hn (lo := c) (hi := c) (by omega) (by omega) a4
  have F3 := FS_trans F1 b2
  have M3 := FS_MU M1 b2
  rw [b1, rv_ok, ad s2 p M3 ((b4 33).trans k33)]
  exact one _ _ (p + 1) _ (FS_trans F3 FS_33) (by rw [I_uI, if_pos ⟨rfl, rfl⟩]) (by rw [I_uI, if_neg (by omega)]; exact (b4 35).trans k35) (hS_130 (hS_iff b3 (fun c hc => ⟨fun z => z.elim (fun y => absurd y id) id, Or.inr⟩))) (by omega) (by omega) rfl (by rw [atmE, if_neg h46, if_neg h91, if_neg (by omega), hesc, hg])
end MATOM
