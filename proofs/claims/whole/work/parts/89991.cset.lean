/-! THE CLASS READS PATTERNS: sets, brackets, all -/
section CSET
variable {L : Nat} {st : ab_S} {own : Nat → Nat} {n d : Nat} {CL SL : Nat → Lg} {W : Option Lg} {a : Nat} {w : List Nat}
theorem PI_w {st' : ab_S} (h : PI st own n d CL SL W) (hu : upto onP st st') (h9 : ∀ j, j ≠ 9 → sI st' 25 j = sI st 25 j) : PI st' own n d CL SL W := by
  obtain ⟨a1, a2, a3, a4, a5, a6, a7, a8, a9, a10, a11⟩ := h
  have nu : ∀ q, q ≠ 25 → q ≠ 28 → sI st' q = sI st q := fun q h1 h2 => (hu.2.2 q (by unfold onP; omega)).1
  have eF : ∀ i j, Fs st' i j ↔ Fs st i j := fun i j => by unfold Fs; rw [nu 27 (by omega) (by omega)]
  have eT : ∀ i c, Ts st' i c ↔ Ts st i c := fun i c => by unfold Ts; rw [nu 26 (by omega) (by omega)]
  have kp : ∀ o P l, isPrt st o P l → 31 ≤ o → isPrt st' o P l := fun o P l hp ho => isPrt_eq hp (fun k => by rw [nu o (by omega) (by omega)]) (fun i j _ => (eF i j).symm) (fun i c _ => (eT i c).symm)
  exact ⟨FX_up a1 hu, a2, a3, by rw [h9 8 (by decide)]; exact a4, by rw [h9 7 (by decide)]; exact a5, by rw [h9 6 (by decide)]; exact a6, fun i j q => a7 i j ((eF i j).mp q), fun i c q => a8 i c ((eT i c).mp q), fun j hj => ⟨kp _ _ _ (a9 j hj).1 (by omega), kp _ _ _ (a9 j hj).2 (by omega)⟩, fun l hl => kp _ _ _ (a10 l hl) (by omega), a11⟩
theorem ofSet_ok (h : PI st own n d CL SL none) (hn : n < 24) {v : Int32} : ∃ st', f_X5_putPlaceOfSet 25 v st = some (none, st') ∧ PI st' (up1 own n 100) (n + 1) d CL SL (some (oneL (fun c => c < 256 ∧ sI st 28 c = v))) ∧ upto on25 st st' ∧ sI st' 25 9 = sI st 25 9 := by
  have hX := h.1
  have X1 : FX (npS st n) := hX
  have e28 : ∀ c, sI (npS st n) 28 c = sI st 28 c := fun c => by rw [np_s 28 c (by omega), if_neg (fun z => by omega), if_neg (fun z => by omega)]
  have key : ∀ k c0 (s : ab_S), 256 - c0 = k → c0 ≤ 256 → upto (fun q => q = 26) (npS st n) s → (∀ i c, Ts s i c ↔ Ts (npS st n) i c ∨ (i = n ∧ c < c0 ∧ sI st 28 c = v)) → ∃ st', L_X5_putPlaceOfSet_7 25 v ((1 : Int32) <<< (nI n &&& 31)) (nI c0) s = some (none, st') ∧ upto (fun q => q = 26) (npS st n) st' ∧ ∀ i c, Ts st' i c ↔ Ts (npS st n) i c ∨ (i = n ∧ c < 256 ∧ sI st 28 c = v) := by
    intro k
    induction k with
    | zero =>
      intro c0 s hk hc hu hT
      have : c0 = 256 := by omega
      subst this
      refine ⟨s, ?_, hu, hT⟩
      rw [e_X5_putPlaceOfSet_7, nl 256, if_pos (by rw [c_le (by omega) (by omega)]; omega)]
    | succ k ih =>
      intro c0 s hk hc hu hT
      have X := FX_up X1 hu
      have q28 : sI s 28 c0 = sI st 28 c0 := by rw [(hu.2.2 28 (by omega)).1, e28]
      rw [e_X5_putPlaceOfSet_7, nl 256, if_neg (by rw [c_le (by omega) (by omega)]; omega), g25_2 X, Option.bind_some, r28 X (by omega), Option.bind_some, q28, e_X5_putPlaceOfSet_34, nI_1]
      by_cases hv : sI st 28 c0 = v
      · rw [if_pos hv, g25_0 X, Option.bind_some, r26 X (by omega), Option.bind_some, w26 X (by omega), Option.bind_some, e_X5_putPlaceOfSet_34, nI_1]
        refine ih (c0 + 1) _ (by omega) (by omega) (upto_trans hu (upto_uI rfl)) (fun i c => ?_)
        have e : Ts (uI s 26 c0 (sI s 26 c0 ||| ((1 : Int32) <<< (nI n &&& 31)))) i c ↔ Ts s i c ∨ (i = n ∧ c = c0) := by
          unfold Ts
          rw [I_uI]
          by_cases hcc : c = c0
          · subst hcc
            rw [if_pos ⟨rfl, rfl⟩, hb_or, hb_one hn]
            exact ⟨fun q => q.2.elim (fun z => Or.inl ⟨q.1, z⟩) (fun z => Or.inr ⟨z, rfl⟩), fun q => q.elim (fun z => ⟨z.1, Or.inl z.2⟩) (fun z => ⟨by omega, Or.inr z.1⟩)⟩
          · rw [if_neg (fun z => hcc z.2)]
            exact ⟨Or.inl, fun q => q.elim (fun z => z) (fun z => absurd z.2 hcc)⟩
        rw [e, hT i c]
        constructor
        · rintro ((q | ⟨q1, q2, q3⟩) | ⟨q1, q2⟩)
          · exact Or.inl q
          · exact Or.inr ⟨q1, by omega, q3⟩
          · exact Or.inr ⟨q1, by omega, by rw [q2]; exact hv⟩
        · rintro (q | ⟨q1, q2, q3⟩)
          · exact Or.inl (Or.inl q)
          · by_cases hcc : c = c0
            · exact Or.inr ⟨q1, hcc⟩
            · exact Or.inl (Or.inr ⟨q1, by omega, q3⟩)
      · rw [if_neg hv]
        refine ih (c0 + 1) s (by omega) (by omega) hu (fun i c => ?_)
        rw [hT i c]
        constructor
        · rintro (q | ⟨q1, q2, q3⟩)
          · exact Or.inl q
          · exact Or.inr ⟨q1, by omega, q3⟩
        · rintro (q | ⟨q1, q2, q3⟩)
          · exact Or.inl q
          · by_cases hcc : c = c0
            · subst hcc; exact absurd q3 hv
            · exact Or.inr ⟨q1, by omega, q3⟩
  obtain ⟨s2, a1, a2, a3⟩ := key _ 0 (npS st n) rfl (Nat.zero_le _) upto_rfl (fun i c => ⟨Or.inl, fun q => q.elim (fun z => z) (fun z => by omega)⟩)
  have eT : ∀ i c, Ts (npS st n) i c ↔ Ts st i c := fun i c => by unfold Ts; rw [np_s 26 c (by omega), if_neg (fun z => by omega), if_neg (fun z => by omega)]
  obtain ⟨b1, b2⟩ := PI_new h hn (upto_mono a2 (fun q hq => Or.inl hq)) (p := fun c => c < 256 ∧ sI st 28 c = v) (fun i c => by rw [a3 i c, eT])
  refine ⟨s2, ?_, b1, b2, ?_⟩
  · rw [e_X5_putPlaceOfSet_0, c25 hX, newPlace_ok hX h.2.2.2.1 hn, ri_ok]
    exact a1
  · rw [(a2.2.2 25 (by omega)).1, np_s 25 9 (by omega)]; simp
theorem oneL_congr {p q : Nat → Prop} (h : ∀ c, p c ↔ q c) : oneL p = oneL q := by rw [(funext fun c => propext (h c) : p = q)]
/-- the items of a set, and its end -/
theorem setG_ok {ot : Int32} (hot : ot = 0 ∨ ot = 1) (ha : 61 < a) (hl : w.length ≤ 24) {fst : Nat} (hn : n < 24) : ∀ f p k (S : Nat → Prop) (st : ab_S), w.length + 1 < f + p → fst ≤ p → p ≤ w.length → k + fst ≤ p → PI st own n d CL SL none → isSg st a 4000 w → (∀ c, S c → c < 256) → (∀ c, c < 256 → ((S c → sI st 28 c = 1) ∧ (¬ S c → sI st 28 c = 0))) → sI st 25 9 = -1 → ∃ st', upto on25 st st' ∧ ((∃ e q, setG w fst f p S = .inl e ∧ L_X5_readSet_44 25 a ot (nI fst) (nI p) (nI k) st = some (some (.int q), st') ∧ sI st' 25 9 = nI e ∧ PI st' own n d CL SL none) ∨ (∃ S' q, setG w fst f p S = .inr (S', q) ∧ p < q ∧ q ≤ w.length ∧ L_X5_readSet_44 25 a ot (nI fst) (nI p) (nI k) st = some (some (.int (nI q)), st') ∧ sI st' 25 9 = -1 ∧ PI st' (up1 own n 100) (n + 1) d CL SL (some (oneL (fun c => if ot = 0 then S' c else c < 256 ∧ ¬ S' c))))) := by
  intro f
  induction f with
  | zero => intro p k S st hf h1 h2; omega
  | succ f ih =>
    intro p k S st hf hfp hp hk hP hw hS h28 h9
    have hX := hP.1
    have h6 := hw.2.2.2.2.2.1
    have eG : setG w fst (f + 1) p S = if fst < p ∧ w[p]? = some 93 then .inr (S, p + 1) else match itm w p with
      | .inl e => .inl e
      | .inr r => setG w fst f r.2.2 (fun c => S c ∨ (r.1 ≤ c ∧ c ≤ r.2.1)) := rfl
    rw [eG]
    have head : L_X5_readSet_44 25 a ot (nI fst) (nI p) (nI k) st = if fst < p ∧ w[p]? = some 93 then L_X5_readSet_87 (nI p) 25 (if ot = 0 then 1 else 0) st else L_X5_readSet_95 25 a ot (nI fst) (nI p) (nI k) st := by
      rw [e_X5_readSet_44, if_neg (by show ¬ nI 24 < nI k; rw [c_lt (by omega) (by omega)]; omega), i25 hX, Option.bind_some, h9, if_pos rfl]
      by_cases hpf : fst < p
      · rw [if_neg (by rw [c_le (by omega) (by omega)]; omega), at2_ok hw hl (by omega), ri_ok, lgif 93 93 rfl (by omega) h6]
        by_cases h93 : w[p]? = some 93
        · rw [if_pos (c := w[p]? = some 93) h93, if_pos (c := fst < p ∧ w[p]? = some 93) ⟨hpf, h93⟩]
          rcases hot with q | q
          · rw [if_pos q, if_pos q]
          · rw [if_neg (by rw [q]; decide), if_neg (by rw [q]; decide)]
        · rw [if_neg (c := w[p]? = some 93) h93, if_neg (c := fst < p ∧ w[p]? = some 93) (fun q => h93 q.2)]
      · rw [if_pos (by rw [c_le (by omega) (by omega)]; omega), if_neg (fun q => hpf q.1)]
    rw [head]
    by_cases hend : fst < p ∧ w[p]? = some 93
    · rw [if_pos hend, if_pos hend]
      obtain ⟨st', b1, b2, b3, b4⟩ := ofSet_ok hP hn (v := if ot = 0 then 1 else 0)
      have hpl := (List.getElem?_eq_some_iff.mp hend.2).1
      refine ⟨st', b3, Or.inr ⟨S, p + 1, rfl, by omega, by omega, ?_, b4.trans h9, ?_⟩⟩
      · rw [e_X5_readSet_87, b1, rv_ok, nI_1]
      · have : oneL (fun c => if ot = 0 then S c else c < 256 ∧ ¬ S c) = oneL (fun c => c < 256 ∧ sI st 28 c = if ot = 0 then 1 else 0) := by
          refine oneL_congr (fun c => ?_)
          rcases hot with q | q
          · rw [if_pos q, if_pos q]
            constructor
            · intro z; exact ⟨hS c z, (h28 c (hS c z)).1 z⟩
            · rintro ⟨z1, z2⟩
              by_cases hc : S c
              · exact hc
              · have := (h28 c z1).2 hc
                rw [this] at z2
                exact absurd z2 (by decide)
          · rw [if_neg (by rw [q]; decide), if_neg (by rw [q]; decide)]
            constructor
            · rintro ⟨z1, z2⟩; exact ⟨z1, (h28 c z1).2 z2⟩
            · rintro ⟨z1, z2⟩
              refine ⟨z1, fun z => ?_⟩
              rw [(h28 c z1).1 z] at z2
              exact absurd z2 (by decide)
        rw [this]
        exact b2
    · rw [if_neg hend, if_neg hend, e_X5_readSet_95]
      obtain ⟨s1, c1, c2, c3⟩ := item_ok hX hw ha hl (p := p) (by omega)
      have U1 : upto on25 st s1 := upto_mono c1 (fun q hq => by unfold onP at hq; show 25 ≤ q ∧ q ≤ 41; omega)
      have P1 := PI_w hP c1 c2
      have X1 := P1.1
      rcases c3 with ⟨e, q, t1, t2, t3⟩ | ⟨lo, hi, q, t1, t2, t3, t4, t5, t6, t7, t8⟩
      · refine ⟨s1, U1, Or.inl ⟨e, q, by rw [t1], ?_, t3, P1⟩⟩
        rw [t2, ri_ok, e_X5_readSet_44]
        by_cases h24 : (24 : Int32) < nI k + 1
        · rw [if_pos h24]
        · rw [if_neg h24, i25 X1, Option.bind_some, t3, if_neg]
          have he : e < 2147483648 := by
            have : itm w p = .inl e := t1
            unfold itm at this
            have hE := escP_le (w := w) (p := p)
            have hE2 := escP_le (w := w) (p := escP w p + 2)
            split at this
            · cases this; omega
            · split at this
              · cases this; omega
              · split at this
                · split at this
                  · cases this; omega
                  · split at this
                    · cases this; omega
                    · cases this
                · cases this
          rw [c_m1e he]; exact id
      · rw [t1]
        dsimp only
        obtain ⟨st', v1, v2⟩ := ih q (k + 1) (fun c => S c ∨ (lo ≤ c ∧ c ≤ hi)) s1 (by omega) (by omega) (by omega) (by omega) P1 (isSg_up hw U1 (by show ¬ (25 ≤ a ∧ a ≤ 41); omega) (by show ¬ (25 ≤ a + 1 ∧ a + 1 ≤ 41); omega)) (fun c hc => hc.elim (fun z => hS c z) (fun z => by omega)) (fun c hc => by
          rw [t8 c hc]
          refine ⟨fun z => ?_, fun z => ?_⟩
          · by_cases hr : lo ≤ c ∧ c ≤ hi
            · rw [if_pos hr]
            · rw [if_neg hr]
              exact (h28 c hc).1 (z.elim (fun y => y) (fun y => absurd y hr))
          · rw [if_neg (fun y => z (Or.inr y))]
            exact (h28 c hc).2 (fun y => z (Or.inl y))) (t7.trans h9)
        refine ⟨st', upto_trans U1 v1, ?_⟩
        rw [t6, ri_ok, nI_1]
        rcases v2 with ⟨e, q', z1, z2, z3, z4⟩ | ⟨S', q', z1, z2, z3, z4, z5, z6⟩
        · exact Or.inl ⟨e, q', z1, z2, z3, z4⟩
        · exact Or.inr ⟨S', q', z1, by omega, z3, z4, z5, z6⟩
theorem set_ok (ha : 61 < a) (hl : w.length ≤ 24) (hn : n < 24) {p : Nat} (hp : p ≤ w.length) (hP : PI st own n d CL SL none) (hw : isSg st a 4000 w) (h9 : sI st 25 9 = -1) : ∃ st', upto on25 st st' ∧ ((∃ e q, sPar w p = .inl e ∧ f_X5_readSet 25 a (nI p) st = some (some (.int q), st') ∧ sI st' 25 9 = nI e ∧ PI st' own n d CL SL none) ∨ (∃ S' q, sPar w p = .inr (S', q) ∧ p < q ∧ q ≤ w.length ∧ f_X5_readSet 25 a (nI p) st = some (some (.int (nI q)), st') ∧ sI st' 25 9 = -1 ∧ PI st' (up1 own n 100) (n + 1) d CL SL (some (oneL S')))) := by
  have hX := hP.1
  have h6 := hw.2.2.2.2.2.1
  have s28 : (sH st)[28]? = some (1, 256) := hX.elim fun _ h => Fx_sh h rfl
  obtain ⟨s1, a1, a2, a3⟩ := fill_ok s28 (by omega)
  have u1 : upto onP st s1 := upto_mono a2 (fun q hq => Or.inr hq)
  have U1 : upto on25 st s1 := upto_mono a2 (fun q hq => by show 25 ≤ q ∧ q ≤ 41; omega)
  have P1 := PI_w hP u1 (fun j _ => by rw [(a2.2.2 25 (by omega)).1])
  have W1 := isSg_up hw U1 (by show ¬ (25 ≤ a ∧ a ≤ 41); omega) (by show ¬ (25 ≤ a + 1 ∧ a + 1 ≤ 41); omega)
  have n1 : sI s1 25 9 = -1 := by rw [(a2.2.2 25 (by omega)).1]; exact h9
  rw [e_X5_readSet_0, c25 hX, g25_2 hX, Option.bind_some, a1, rv_ok, at2_ok W1 hl (by omega), ri_ok, lgif 94 94 rfl (by omega) h6]
  unfold sPar
  by_cases h94 : w[p]? = some 94
  · have hpl := (List.getElem?_eq_some_iff.mp h94).1
    rw [if_pos h94, if_pos h94, e_X5_readSet_23, if_neg (by decide), e_X5_readSet_35, nI_1]
    obtain ⟨st', v1, v2⟩ := setG_ok (own := own) (d := d) (CL := CL) (SL := SL) (ot := 1) (Or.inr rfl) ha hl (fst := p + 1) hn 26 (p + 1) 0 (fun _ => False) s1 (by omega) (Nat.le_refl _) (by omega) (by omega) P1 W1 (fun c h => h.elim) (fun c hc => ⟨fun h => h.elim, fun _ => a3 c hc⟩) n1
    refine ⟨st', upto_trans U1 v1, ?_⟩
    rcases v2 with ⟨e, q', z1, z2, z3, z4⟩ | ⟨S', q', z1, z2, z3, z4, z5, z6⟩
    · rw [z1]; exact Or.inl ⟨e, q', rfl, z2, z3, z4⟩
    · rw [z1]
      refine Or.inr ⟨_, q', rfl, by omega, z3, z4, z5, ?_⟩
      rw [oneL_congr (fun c => by rw [if_neg (show ¬ (1 : Int32) = 0 by decide)])] at z6
      exact z6
  · rw [if_neg h94, if_neg h94, e_X5_readSet_23, if_pos rfl, e_X5_readSet_35]
    obtain ⟨st', v1, v2⟩ := setG_ok (own := own) (d := d) (CL := CL) (SL := SL) (ot := 0) (Or.inl rfl) ha hl (fst := p) hn 26 p 0 (fun _ => False) s1 (by omega) (Nat.le_refl _) (by omega) (by omega) P1 W1 (fun c h => h.elim) (fun c hc => ⟨fun h => h.elim, fun _ => a3 c hc⟩) n1
    refine ⟨st', upto_trans U1 v1, ?_⟩
    rcases v2 with ⟨e, q', z1, z2, z3, z4⟩ | ⟨S', q', z1, z2, z3, z4, z5, z6⟩
    · exact Or.inl ⟨e, q', z1, z2, z3, z4⟩
    · refine Or.inr ⟨S', q', z1, z2, z3, z4, z5, ?_⟩
      rw [oneL_congr (fun c => by rw [if_pos (show (0 : Int32) = 0 from rfl)])] at z6
      exact z6
end CSET
