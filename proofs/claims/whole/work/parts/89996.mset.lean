/-! THE MODEL READS SETS -/
def FS (nS : Nat) (st st' : ab_S) : Prop := upto (fun q => q = 130 ∨ q = 154) st st' ∧ (∀ j, j ≠ 33 → j ≠ 35 → sI st' 130 j = sI st 130 j) ∧ ∀ s c, s < nS → c < 256 → sI st' 154 (256 * s + c) = sI st 154 (256 * s + c)
section MSET
variable {st : ab_S} {w : List Nat} {E : List Ed} {N nS p : Nat} {S : Nat → Prop}
theorem FS_rfl : FS nS st st := ⟨upto_rfl, fun _ _ _ => rfl, fun _ _ _ _ => rfl⟩
theorem FS_trans {st' st2 : ab_S} (h : FS nS st st') (h2 : FS nS st' st2) : FS nS st st2 := ⟨upto_trans h.1 h2.1, fun j a b => (h2.2.1 j a b).trans (h.2.1 j a b), fun s c a b => (h2.2.2 s c a b).trans (h.2.2 s c a b)⟩
theorem FS_MU {st' : ab_S} (h : MU st w E N nS) (hf : FS nS st st') : MU st' w E N nS := MU_up h hf.1 (by omega) hf.2.2 (hf.2.1 _ (by omega) (by omega)) (hf.2.1 _ (by omega) (by omega)) (hf.2.1 _ (by omega) (by omega)) (hf.2.1 _ (by omega) (by omega))
theorem FS_33 {v : Int32} : FS nS st (uI st 130 33 v) := ⟨upto_uI (Or.inl rfl), fun j a b => by rw [I_uI, if_neg (by omega)], fun s c _ _ => by rw [I_uI, if_neg (by omega)]⟩
theorem FS_35 {v : Int32} : FS nS st (uI st 130 35 v) := ⟨upto_uI (Or.inl rfl), fun j a b => by rw [I_uI, if_neg (by omega)], fun s c _ _ => by rw [I_uI, if_neg (by omega)]⟩
theorem FS_154 {k : Nat} {v : Int32} : FS nS st (uI st 154 (256 * nS + k) v) := ⟨upto_uI (Or.inr rfl), fun j a b => by rw [I_uI, if_neg (by omega)], fun s c hs hc => by rw [I_uI, if_neg (by omega)]⟩
theorem hS_iff {S' : Nat → Prop} {s : Nat} (h : hS st s S) (hi : ∀ c, c < 256 → (S c ↔ S' c)) : hS st s S' := fun c hc => ⟨(h c hc).1, (h c hc).2.trans (hi c hc)⟩
theorem hS_130 {k s : Nat} {v : Int32} (h : hS st s S) : hS (uI st 130 k v) s S := h
theorem hS_set {k : Nat} (h : hS st nS S) : hS (uI st 154 (256 * nS + k) 1) nS (fun c => S c ∨ c = k) := by
  intro c hc
  rw [I_uI]
  by_cases q : c = k
  · rw [if_pos ⟨rfl, by rw [q]⟩]
    exact ⟨Or.inr rfl, ⟨fun _ => Or.inr q, fun _ => rfl⟩⟩
  · rw [if_neg (by omega)]
    exact ⟨(h c hc).1, (h c hc).2.trans ⟨Or.inl, fun z => z.resolve_right q⟩⟩
theorem fillM_ok (hX : MU st w E N nS) (hn : nS < 40) {lo hi : Nat} (hlo : lo ≤ 256) (hhi : hi < 256) (h : hS st nS S) : ∃ st', f_X11_fill 130 (nI lo) (nI hi) st = some (none, st') ∧ FS nS st st' ∧ hS st' nS (fun c => S c ∨ (lo ≤ c ∧ c ≤ hi)) ∧ ∀ j, sI st' 130 j = sI st 130 j := by
  have key : ∀ k lo (s : ab_S) (S : Nat → Prop), hi + 1 - lo = k → lo ≤ 256 → MU s w E N nS → hS s nS S → ∃ st', L_X11_fill_2 130 (nI hi) (nI lo) s = some (none, st') ∧ FS nS s st' ∧ hS st' nS (fun c => S c ∨ (lo ≤ c ∧ c ≤ hi)) ∧ ∀ j, sI st' 130 j = sI s 130 j := by
    intro k
    induction k with
    | zero =>
      intro lo s S hk hlo hM h
      refine ⟨s, ?_, FS_rfl, hS_iff h (fun c hc => ⟨Or.inl, fun z => z.elim id (fun y => by omega)⟩), fun _ => rfl⟩
      rw [e_X11_fill_2, if_pos (by rw [c_lt (by omega) (by omega)]; omega)]
    | succ k ih =>
      intro lo s S hk hlo hM h
      have X := hM.1
      have h32 := hM.2.2.2.2.2.2.1
      obtain ⟨st', a1, a2, a3, a4⟩ := ih (lo + 1) (uI s 154 (256 * nS + lo) 1) (fun c => S c ∨ c = lo) (by omega) (by omega) (FS_MU hM FS_154) (hS_set h)
      refine ⟨st', ?_, FS_trans FS_154 a2, hS_iff a3 (fun c hc => ?_), fun j => (a4 j).trans (by rw [I_uI, if_neg (by omega)])⟩
      · rw [e_X11_fill_2, if_neg (by rw [c_lt (by omega) (by omega)]; omega), n31r X, Option.bind_some, im X, Option.bind_some, h32, nl 256, a_mul, a_add, w154 X (by omega), Option.bind_some, nI_1]
        exact a1
      · constructor
        · rintro ((z | z) | z)
          · exact Or.inl z
          · exact Or.inr (by omega)
          · exact Or.inr (by omega)
        · rintro (z | z)
          · exact Or.inl (Or.inl z)
          · by_cases q : c = lo
            · exact Or.inl (Or.inr q)
            · exact Or.inr (by omega)
  rw [e_X11_fill_0, cm hX.1]
  exact key _ lo st S rfl hlo hX h
theorem lgM (h : MU st w E N nS) : ∀ s ∈ w, s < 256 := fun s hs => by
  obtain ⟨k, hk, e⟩ := List.getElem_of_mem hs
  exact (h.2.1.1 k s (by rw [List.getElem?_eq_getElem hk, e])).2
theorem setSign_ok (h : MU st w E N nS) (h33 : sI st 130 33 = nI p) (h35 : sI st 130 35 = -1) (hp : p ≤ w.length) : ∃ st', upto (fun q => q = 130) st st' ∧ FS nS st st' ∧ ((w[escP w p]? = none ∧ f_X11_setSign 130 st = some (some (.int 0), st') ∧ sI st' 130 35 = nI w.length) ∨ (∃ c, w[escP w p]? = some c ∧ c < 256 ∧ f_X11_setSign 130 st = some (some (.int (nI c)), st') ∧ sI st' 130 33 = nI (escP w p + 1) ∧ sI st' 130 35 = -1)) := by
  have hl := h.2.2.1
  have hw := lgM h
  have tail : ∀ (s : ab_S) (q : Nat), MU s w E N nS → sI s 130 33 = nI q → sI s 130 35 = -1 → q ≤ w.length → ∃ st', upto (fun q => q = 130) s st' ∧ FS nS s st' ∧ ((w[q]? = none ∧ L_X11_setSign_19 130 s = some (some (.int 0), st') ∧ sI st' 130 35 = nI w.length) ∨ (∃ c, w[q]? = some c ∧ c < 256 ∧ L_X11_setSign_19 130 s = some (some (.int (nI c)), st') ∧ sI st' 130 33 = nI (q + 1) ∧ sI st' 130 35 = -1)) := by
    intro s q hM h33 h35 hq
    have X := hM.1
    rw [e_X11_setSign_19, im X, Option.bind_some, h33, im X, Option.bind_some, hM.2.2.2.1]
    by_cases he : q = w.length
    · rw [if_pos (by rw [he]), Option.bind_some, fail_ok X h35, rv_ok]
      exact ⟨_, upto_uI rfl, FS_35, Or.inl ⟨by rw [he]; exact List.getElem?_eq_none (Nat.le_refl _), rfl, by rw [I_uI, if_pos ⟨rfl, rfl⟩]⟩⟩
    · have hg : w[q]? = some w[q] := List.getElem?_eq_getElem (by omega)
      have hc := hw _ (List.mem_of_getElem? hg)
      generalize w[q] = c at hg hc
      rw [if_neg (by rw [c_eq (by omega) (by omega)]; exact he), here_ok hM h33 (by omega), ri_ok, im X, Option.bind_some, h33, nI_1, pm X, Option.bind_some, lg_some hg]
      exact ⟨_, upto_uI rfl, FS_33, Or.inr ⟨c, hg, hc, rfl, by rw [I_uI, if_pos ⟨rfl, rfl⟩], by rw [I_uI, if_neg (by omega)]; exact h35⟩⟩
  have X := h.1
  rw [e_X11_setSign_0, cm X, here_ok h h33 (by omega), ri_ok, lgif 92 92 rfl (by omega) hw]
  unfold escP
  by_cases q : w[p]? = some 92
  · have := (List.getElem?_eq_some_iff.mp q).1
    rw [if_pos q, if_pos q, im X, Option.bind_some, h33, nI_1, pm X, Option.bind_some]
    obtain ⟨st', a1, a2, a3⟩ := tail (uI st 130 33 (nI (p + 1))) (p + 1) (FS_MU h FS_33) (by rw [I_uI, if_pos ⟨rfl, rfl⟩]) (by rw [I_uI, if_neg (by omega)]; exact h35) (by omega)
    exact ⟨st', upto_trans (upto_uI rfl) a1, FS_trans FS_33 a2, a3⟩
  · rw [if_neg q, if_neg q]
    exact tail st p h h33 h35 hp
/-- a fault inside a set ends it -/
theorem set_bad (h : MU st w E N nS) {e : Nat} (he : e ≤ w.length) (h35 : sI st 130 35 = nI e) {l1 : Int32} : L_X11_parseSet_51 130 l1 st = some (none, st) := by
  have X := h.1
  have hl := h.2.2.1
  rw [e_X11_parseSet_51, im X, Option.bind_some, h35, if_neg (by rw [c_m1e (by omega)]; exact id), e_X11_parseSet_176, im X, Option.bind_some, h35, if_neg (by rw [c_m1e (by omega)]; exact id)]
theorem mitem_ok (h : MU st w E N nS) (hn : nS < 40) (h33 : sI st 130 33 = nI p) (h35 : sI st 130 35 = -1) (hp : p ≤ w.length) (hS0 : hS st nS S) (h93 : w[p]? ≠ some 93) {l1 : Int32} : ∃ st', FS nS st st' ∧ ((∃ e, itm w p = .inl e ∧ e ≤ w.length ∧ L_X11_parseSet_51 130 l1 st = some (none, st') ∧ sI st' 130 35 = nI e) ∨ (∃ lo hi q, itm w p = .inr (lo, hi, q) ∧ p < q ∧ q ≤ w.length ∧ L_X11_parseSet_51 130 l1 st = L_X11_parseSet_51 130 l1 st' ∧ sI st' 130 33 = nI q ∧ sI st' 130 35 = -1 ∧ hS st' nS (fun c => S c ∨ (lo ≤ c ∧ c ≤ hi)))) := by
  have X := h.1
  have hl := h.2.2.1
  have hw := lgM h
  have hE := escP_le (w := w) (p := p)
  obtain ⟨s1, u1, F1, a⟩ := setSign_ok h h33 h35 hp
  have M1 := FS_MU h F1
  have X1 := M1.1
  have S1 : hS s1 nS S := fun c hc => by rw [(u1.2.2 154 (by omega)).1]; exact hS0 c hc
  have e51 : L_X11_parseSet_51 130 l1 st = ab_ri (f_X11_setSign 130 st) fun x5 s4 =>
        Option.bind (ab_gI s4 130 11 35) fun x6 =>
        if x6 = (-1 : Int32)
        then ab_ri (f_X11_here 130 s4) fun x8 s7 =>
          if x8 = (45 : Int32)
          then Option.bind (ab_gI s7 130 11 33) fun x9 =>
            Option.bind (ab_gI s7 130 11 34) fun x10 =>
            if x10 ≤ (x9 + (1 : Int32))
            then L_X11_parseSet_121 130 l1 x5 s7
            else Option.bind (ab_gR s7 130 11 0) fun x11 =>
              Option.bind (ab_gI s7 130 11 33) fun x12 =>
              Option.bind (ab_rB s7 x11 (x12 + (1 : Int32))) fun x13 =>
              if x13 = (93 : Int32)
              then L_X11_parseSet_159 130 l1 x5 x5 s7
              else L_X11_parseSet_121 130 l1 x5 s7
          else L_X11_parseSet_159 130 l1 x5 x5 s7
        else L_X11_parseSet_159 130 l1 x5 x5 s4 := by
    rw [e_X11_parseSet_51, im X, Option.bind_some, h35, if_pos rfl, here_ok h h33 (by omega), ri_ok, lgif 93 93 rfl (by omega) hw, if_neg h93]
  have bad : ∀ (s : ab_S) (x y : Int32) (e : Nat), MU s w E N nS → e ≤ w.length → sI s 130 35 = nI e → L_X11_parseSet_159 130 l1 x y s = some (none, s) := by
    intro s x y e hM he h5
    rw [e_X11_parseSet_159, im hM.1, Option.bind_some, h5, if_neg (by rw [c_m1e (by omega)]; exact id), e_X11_parseSet_173, set_bad hM he h5]
  have good : ∀ (s : ab_S) (lo hi q : Nat), MU s w E N nS → lo < 256 → hi < 256 → sI s 130 33 = nI q → sI s 130 35 = -1 → hS s nS S → ∃ s', FS nS s s' ∧ L_X11_parseSet_159 130 l1 (nI lo) (nI hi) s = L_X11_parseSet_51 130 l1 s' ∧ sI s' 130 33 = nI q ∧ sI s' 130 35 = -1 ∧ hS s' nS (fun c => S c ∨ (lo ≤ c ∧ c ≤ hi)) := by
    intro s lo hi q hM hlo hhi h3 h5 hSs
    obtain ⟨s', b1, b2, b3, b4⟩ := fillM_ok hM hn (lo := lo) (hi := hi) (by omega) hhi hSs
    refine ⟨s', b2, ?_, (b4 33).trans h3, (b4 35).trans h5, b3⟩
    rw [e_X11_parseSet_159, im hM.1, Option.bind_some, h5, if_pos rfl, b1, rv_ok, e_X11_parseSet_173]
  rw [e51]
  unfold itm
  rcases a with ⟨g, a1, a2⟩ | ⟨lo, g, hlo, a1, a2, a3⟩
  · rw [g, a1, ri_ok, im X1, Option.bind_some, a2, if_neg (by rw [c_m1e (by omega)]; exact id), bad s1 0 0 w.length M1 (Nat.le_refl _) a2]
    exact ⟨s1, F1, Or.inl ⟨_, rfl, Nat.le_refl _, rfl, a2⟩⟩
  · have hgl := (List.getElem?_eq_some_iff.mp g).1
    have n93 : ¬ (lo = 93 ∧ escP w p = p) := fun z => h93 (by rw [← z.1, ← g, z.2])
    rw [g, a1, ri_ok, im X1, Option.bind_some, a3, if_pos rfl, here_ok M1 a2 (by omega), ri_ok, lgif 45 45 rfl (by omega) hw]
    dsimp only
    rw [if_neg n93]
    have single : ¬ (w[escP w p + 1]? = some 45 ∧ w[escP w p + 2]? ≠ some 93) → ∃ st', FS nS st st' ∧ ((∃ e, (if w[escP w p + 1]? = some 45 ∧ w[escP w p + 2]? ≠ some 93 then (match w[escP w (escP w p + 2)]? with
      | none => Sum.inl w.length
      | some hi => if hi < lo then .inl (escP w (escP w p + 2)) else .inr (lo, hi, escP w (escP w p + 2) + 1))
    else .inr (lo, lo, escP w p + 1) : Nat ⊕ (Nat × Nat × Nat)) = .inl e ∧ e ≤ w.length ∧ L_X11_parseSet_159 130 l1 (nI lo) (nI lo) s1 = some (none, st') ∧ sI st' 130 35 = nI e) ∨ (∃ lo' hi q, (if w[escP w p + 1]? = some 45 ∧ w[escP w p + 2]? ≠ some 93 then (match w[escP w (escP w p + 2)]? with
      | none => Sum.inl w.length
      | some hi => if hi < lo then .inl (escP w (escP w p + 2)) else .inr (lo, hi, escP w (escP w p + 2) + 1))
    else .inr (lo, lo, escP w p + 1) : Nat ⊕ (Nat × Nat × Nat)) = .inr (lo', hi, q) ∧ p < q ∧ q ≤ w.length ∧ L_X11_parseSet_159 130 l1 (nI lo) (nI lo) s1 = L_X11_parseSet_51 130 l1 st' ∧ sI st' 130 33 = nI q ∧ sI st' 130 35 = -1 ∧ hS st' nS (fun c => S c ∨ (lo' ≤ c ∧ c ≤ hi)))) := by
      intro hno
      obtain ⟨s', b1, b2, b3, b4, b5⟩ := good s1 lo lo _ M1 hlo hlo a2 a3 S1
      rw [if_neg hno]
      exact ⟨s', FS_trans F1 b1, Or.inr ⟨lo, lo, _, rfl, by omega, by omega, b2, b3, b4, b5⟩⟩
    by_cases h45 : w[escP w p + 1]? = some 45
    rotate_left
    · rw [if_neg h45]
      exact single (fun z => h45 z.1)
    have hg1 := (List.getElem?_eq_some_iff.mp h45).1
    rw [if_pos h45, im X1, Option.bind_some, a2, im X1, Option.bind_some, M1.2.2.2.1, nI_1]
    -- the range
    have rng : w[escP w p + 2]? ≠ some 93 → ∃ st', FS nS st st' ∧ ((∃ e, (if w[escP w p + 1]? = some 45 ∧ w[escP w p + 2]? ≠ some 93 then (match w[escP w (escP w p + 2)]? with
      | none => Sum.inl w.length
      | some hi => if hi < lo then .inl (escP w (escP w p + 2)) else .inr (lo, hi, escP w (escP w p + 2) + 1))
    else .inr (lo, lo, escP w p + 1) : Nat ⊕ (Nat × Nat × Nat)) = .inl e ∧ e ≤ w.length ∧ L_X11_parseSet_121 130 l1 (nI lo) s1 = some (none, st') ∧ sI st' 130 35 = nI e) ∨ (∃ lo' hi q, (if w[escP w p + 1]? = some 45 ∧ w[escP w p + 2]? ≠ some 93 then (match w[escP w (escP w p + 2)]? with
      | none => Sum.inl w.length
      | some hi => if hi < lo then .inl (escP w (escP w p + 2)) else .inr (lo, hi, escP w (escP w p + 2) + 1))
    else .inr (lo, lo, escP w p + 1) : Nat ⊕ (Nat × Nat × Nat)) = .inr (lo', hi, q) ∧ p < q ∧ q ≤ w.length ∧ L_X11_parseSet_121 130 l1 (nI lo) s1 = L_X11_parseSet_51 130 l1 st' ∧ sI st' 130 33 = nI q ∧ sI st' 130 35 = -1 ∧ hS st' nS (fun c => S c ∨ (lo' ≤ c ∧ c ≤ hi)))) := by
      intro hno
      rw [if_pos ⟨h45, hno⟩, e_X11_parseSet_121, im X1, Option.bind_some, a2, nI_1, pm X1, Option.bind_some]
      have F2 : FS nS s1 (uI s1 130 33 (nI (escP w p + 1 + 1))) := FS_33
      have M2 := FS_MU M1 F2
      have hE2 := escP_le (w := w) (p := escP w p + 2)
      obtain ⟨s3, v1, v2, v3⟩ := setSign_ok M2 (p := escP w p + 2) (by rw [I_uI, if_pos ⟨rfl, rfl⟩]) (by rw [I_uI, if_neg (by omega)]; exact a3) (by omega)
      have M3 := FS_MU M2 v2
      have F3 := FS_trans F1 (FS_trans F2 v2)
      have S3 : hS s3 nS S := fun c hc => by rw [(v1.2.2 154 (by omega)).1]; exact S1 c hc
      rcases v3 with ⟨y, y1, y2⟩ | ⟨hi, y, hhi, y1, y2, y3⟩
      · rw [y, y1, ri_ok, im M3.1, Option.bind_some, y2, if_neg (by rw [c_m1e (by omega)]; exact id), bad s3 _ _ w.length M3 (Nat.le_refl _) y2]
        exact ⟨s3, F3, Or.inl ⟨_, rfl, Nat.le_refl _, rfl, y2⟩⟩
      · have hgl2 := (List.getElem?_eq_some_iff.mp y).1
        rw [y, y1, ri_ok, im M3.1, Option.bind_some, y3, if_pos rfl]
        dsimp only
        by_cases hlt : hi < lo
        · have em : nI (escP w (escP w p + 2) + 1) - (1 : Int32) = nI (escP w (escP w p + 2)) := by rw [show (1 : Int32) = nI 1 from rfl, a_sub (by omega)]; rfl
          rw [if_pos hlt, if_neg (by rw [c_le (by omega) (by omega)]; omega), im M3.1, Option.bind_some, y2, em, fail_ok M3.1 y3, rv_ok]
          have F4 : FS nS s3 (uI s3 130 35 (nI (escP w (escP w p + 2)))) := FS_35
          have h5 : sI (uI s3 130 35 (nI (escP w (escP w p + 2)))) 130 35 = nI (escP w (escP w p + 2)) := by rw [I_uI, if_pos ⟨rfl, rfl⟩]
          rw [bad _ _ _ _ (FS_MU M3 F4) (by omega) h5]
          exact ⟨_, FS_trans F3 F4, Or.inl ⟨_, rfl, by omega, rfl, h5⟩⟩
        · rw [if_neg hlt, if_pos (by rw [c_le (by omega) (by omega)]; omega)]
          obtain ⟨s', b1, b2, b3, b4, b5⟩ := good s3 lo hi _ M3 hlo hhi y2 y3 S3
          exact ⟨s', FS_trans F3 b1, Or.inr ⟨lo, hi, _, rfl, by omega, by omega, b2, b3, b4, b5⟩⟩
    by_cases hend : w.length ≤ escP w p + 1 + 1
    · rw [if_pos (c := nI w.length ≤ nI (escP w p + 1 + 1)) (by rw [c_le (by omega) (by omega)]; omega)]
      exact rng (by rw [List.getElem?_eq_none (by omega)]; intro z; cases z)
    · have hg2 : w[escP w p + 2]? = some w[escP w p + 2] := List.getElem?_eq_getElem (by omega)
      obtain ⟨y1, y2⟩ := M1.2.1.1 _ _ hg2
      rw [if_neg (c := nI w.length ≤ nI (escP w p + 1 + 1)) (by rw [c_le (by omega) (by omega)]; omega), n0r X1, Option.bind_some, Option.bind_some, nI_1, show escP w p + 1 + 1 = escP w p + 2 from rfl, r131 X1 (by omega), Option.bind_some, y1]
      generalize w[escP w p + 2] = z at hg2 y1 y2
      have hbk : (93 : Int32) = by8 93 := by decide
      by_cases h93' : z = 93
      · rw [if_pos (c := by8 z = 93) (by rw [h93']; decide)]
        exact single (fun q => q.2 (by rw [hg2, h93']))
      · rw [if_neg (c := by8 z = 93) (fun q => h93' (by8_inj y2 (by omega) (q.trans hbk)))]
        exact rng (by rw [hg2]; intro q; exact h93' (Option.some.inj q))
end MSET
