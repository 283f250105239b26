/-! THE MODEL'S PATTERNS: parsePattern, close -/
def hV (st : ab_S) (o N : Nat) (V : Nat → Prop) : Prop := ∀ k, k < N → (sI st o k = 0 ∨ sI st o k = 1) ∧ (sI st o k = 1 ↔ V k)
def cz (st : ab_S) (o : Nat) : Nat → Nat
  | 0 => 0
  | n + 1 => cz st o n + if sI st o n = 0 then 1 else 0
section MCLOSE
variable {st : ab_S} {w : List Nat} {E : List Ed} {N nS o : Nat}
theorem parseP_ok (hX : FX st) (hr : mRow st w) (hl : w.length ≤ 24) : ∃ st', FM st st' ∧ ((∃ e, patL w = .inl e ∧ e ≤ w.length ∧ f_X11_parsePattern 130 (nI w.length) st = some (none, st') ∧ sI st' 130 35 = nI e) ∨ (∃ l E N nS en, patL w = .inr l ∧ f_X11_parsePattern 130 (nI w.length) st = some (none, st') ∧ sI st' 130 35 = -1 ∧ PE st' w E N nS l en)) := by
  have up : ∀ {s : ab_S} {k : Nat} {v : Int32}, FX s → FX (uI s 130 k v) := fun h => FX_up h (upto_uI (W := fun q => q = 130) rfl)
  have X1 : FX (uI st 130 33 0) := up hX
  have X2 : FX (uI (uI st 130 33 0) 130 34 (nI w.length)) := up X1
  have X3 : FX (uI (uI (uI st 130 33 0) 130 34 (nI w.length)) 130 35 (-1)) := up X2
  have X4 : FX (uI (uI (uI (uI st 130 33 0) 130 34 (nI w.length)) 130 35 (-1)) 130 29 0) := up X3
  have X5 : FX (uI (uI (uI (uI (uI st 130 33 0) 130 34 (nI w.length)) 130 35 (-1)) 130 29 0) 130 30 0) := up X4
  have X6 : FX (uI (uI (uI (uI (uI (uI st 130 33 0) 130 34 (nI w.length)) 130 35 (-1)) 130 29 0) 130 30 0) 130 32 0) := up X5
  have F6 : FM st (uI (uI (uI (uI (uI (uI st 130 33 0) 130 34 (nI w.length)) 130 35 (-1)) 130 29 0) 130 30 0) 130 32 0) := FM_trans (FM_f (by omega)) (FM_trans (FM_f (by omega)) (FM_trans (FM_f (by omega)) (FM_trans (FM_f (by omega)) (FM_trans (FM_f (by omega)) (FM_f (by omega))))))
  have M6 : MU (uI (uI (uI (uI (uI (uI st 130 33 0) 130 34 (nI w.length)) 130 35 (-1)) 130 29 0) 130 30 0) 130 32 0) w [] 0 0 := ⟨X6, mRow_up hr F6.1 (by show ¬ (131 = 130 ∨ _); omega), hl, rfl, rfl, rfl, rfl, fun k e he => by cases he⟩
  have h33 : sI (uI (uI (uI (uI (uI (uI st 130 33 0) 130 34 (nI w.length)) 130 35 (-1)) 130 29 0) 130 30 0) 130 32 0) 130 33 = nI 0 := rfl
  have h35 : sI (uI (uI (uI (uI (uI (uI st 130 33 0) 130 34 (nI w.length)) 130 35 (-1)) 130 29 0) 130 30 0) 130 32 0) 130 35 = -1 := rfl
  rw [e_X11_parsePattern_0, cm hX, pm hX, Option.bind_some, pm X1, Option.bind_some, pm X2, Option.bind_some, pm X3, Option.bind_some, pm X4, Option.bind_some, pm X5, Option.bind_some]
  generalize uI (uI (uI (uI (uI (uI st 130 33 0) 130 34 (nI w.length)) 130 35 (-1)) 130 29 0) 130 30 0) 130 32 0 = s6 at *
  obtain ⟨s1, a1, a2, a3, a4⟩ := spot_ok M6 (by omega)
  obtain ⟨s2, b1, b2, b3, b4, b5⟩ := openAlt_ok a2 (n := 0) (by show 0 < 400; omega) (by omega) (by omega) (a := 0)
  have b1' : f_X11_openAlt 130 0 (nI 0) s1 = some (none, s2) := b1
  have L2 : LV s2 0 (fun _ => 0) (fun _ => 1) (fun _ => 2) := by
    refine ⟨fun i hi => ?_, fun i hi => by omega⟩
    have hi0 : i = 0 := by omega
    subst hi0
    rw [b5 155 (by omega), b5 156 (by omega), b5 157 (by omega)]
    exact ⟨rfl, rfl, rfl⟩
  have K2 := K3_trans a4 b4
  obtain ⟨st', z1, z2⟩ := parseLM (w := w) 26 0 0 s2 [(0, 2, none)] 3 0 (fun _ => 0) (fun _ => 1) (fun _ => 2) (fun _ => noL) (fun _ => epsL) ⟨b2, gi_start, L2, (K2 33 (by omega) (by omega) (by omega)).trans h33, (K2 35 (by omega) (by omega) (by omega)).trans h35, Nat.zero_le _, by omega, Nat.le_refl _, by omega, by show 1 ≤ _; omega, rfl⟩ (by omega)
  have e0 : f_X11_parseAll 130 s6 = L_X11_parseAll_13 130 (nI 0) 1 s2 := by
    rw [e_X11_parseAll_0, cm M6.1, a1, ri_ok, b1', rv_ok]
    rfl
  rw [e0]
  refine ⟨st', FM_trans F6 (FM_trans (FM_trans (FM_1 a3 a4) b3) z1), ?_⟩
  rcases z2 with ⟨e, y1, y2, y3, y4⟩ | ⟨l, E', N', nS', en, y1, y2, y3, y4⟩
  · exact Or.inl ⟨e, y1, y2, by rw [y3, rv_ok], y4⟩
  · exact Or.inr ⟨l, E', N', nS', en, y1, by rw [y2, rv_ok], y3, y4⟩
theorem rO (h : FX st) (ho : o = 159 ∨ o = 160) {n : Nat} (hn : n < 400) : ab_rB st o (nI n) = some (sI st o n) := by
  rcases ho with rfl | rfl
  · exact h.elim fun _ h => rZ_ok (Fx_sh h (o := 159) rfl) hn (by omega)
  · exact h.elim fun _ h => rZ_ok (Fx_sh h (o := 160) rfl) hn (by omega)
theorem wO (h : FX st) (ho : o = 159 ∨ o = 160) {n : Nat} (hn : n < 400) {v : Int32} : ab_wB st o (nI n) v = some (uI st o n (v &&& 1)) := by
  rcases ho with rfl | rfl
  · exact h.elim fun _ h => wZ_ok (Fx_sh h (o := 159) rfl) hn (by omega)
  · exact h.elim fun _ h => wZ_ok (Fx_sh h (o := 160) rfl) hn (by omega)
theorem MU_o {st' : ab_S} (h : MU st w E N nS) (hu : upto (fun q => 159 ≤ q ∧ q ≤ 160) st st') : MU st' w E N nS := MU_up h hu (by omega) (fun s c _ _ => by rw [(hu.2.2 154 (by omega)).1]) (by rw [(hu.2.2 130 (by omega)).1]) (by rw [(hu.2.2 130 (by omega)).1]) (by rw [(hu.2.2 130 (by omega)).1]) (by rw [(hu.2.2 130 (by omega)).1])
theorem cz_hi {j : Nat} {v : Int32} : ∀ n, n ≤ j → cz (uI st o j v) o n = cz st o n
  | 0, _ => rfl
  | n + 1, h => by
    show cz (uI st o j v) o n + (if sI (uI st o j v) o n = 0 then 1 else 0) = cz st o n + if sI st o n = 0 then 1 else 0
    rw [cz_hi n (by omega), I_uI, if_neg (c := o = o ∧ n = j) (by omega)]
theorem cz_set {j : Nat} (h0 : sI st o j = 0) : ∀ n, j < n → cz (uI st o j 1) o n + 1 = cz st o n
  | 0, h => by omega
  | n + 1, h => by
    show cz (uI st o j 1) o n + (if sI (uI st o j 1) o n = 0 then 1 else 0) + 1 = cz st o n + if sI st o n = 0 then 1 else 0
    rw [I_uI]
    by_cases q : n = j
    · subst q
      rw [cz_hi n (Nat.le_refl _), if_pos (c := o = o ∧ n = n) ⟨rfl, rfl⟩, if_neg (c := (1 : Int32) = 0) (by decide), h0, if_pos (c := (0 : Int32) = 0) rfl]
    · rw [if_neg (c := o = o ∧ n = j) (fun z => q z.2)]
      have := cz_set h0 n (by omega)
      omega
/-- a pass over the steps -/
theorem pass_ok (ho : o = 159 ∨ o = 160) {C : Nat → Prop} (hC : ∀ u v, (u, v, none) ∈ E → C u → C v) (hN : N ≤ 80) (hE : E.length ≤ 80) (hlt : ∀ e ∈ E, e.1 < N ∧ e.2.1 < N) (hnS : nS < 40) (hM : MU st w E N nS) (hg : ∀ v, v < N → (sI st o v = 0 ∨ sI st o v = 1) ∧ (sI st o v = 1 → C v)) : ∃ s', upto (fun q => q = o) st s' ∧ (∀ v, v < N → (sI s' o v = 0 ∨ sI s' o v = 1) ∧ (sI s' o v = 1 → C v) ∧ (sI st o v = 1 → sI s' o v = 1)) ∧ ((L_X11_close_10 130 o 0 0 st = some (none, s') ∧ ∀ u v, (u, v, none) ∈ E → sI s' o u = 1 → sI s' o v = 1) ∨ (L_X11_close_10 130 o 0 0 st = L_X11_close_10 130 o 0 0 s' ∧ cz s' o N < cz st o N)) := by
  have key : ∀ k' k (s : ab_S) (fl : Int32), E.length - k = k' → k ≤ E.length → upto (fun q => q = o) st s → (∀ v, v < N → (sI s o v = 0 ∨ sI s o v = 1) ∧ (sI s o v = 1 → C v) ∧ (sI st o v = 1 → sI s o v = 1)) → ((fl = 0 ∧ s = st ∧ ∀ j u v, j < k → E[j]? = some (u, v, none) → sI s o u = 1 → sI s o v = 1) ∨ (fl = 1 ∧ cz s o N < cz st o N)) → ∃ s', upto (fun q => q = o) st s' ∧ (∀ v, v < N → (sI s' o v = 0 ∨ sI s' o v = 1) ∧ (sI s' o v = 1 → C v) ∧ (sI st o v = 1 → sI s' o v = 1)) ∧ ((L_X11_close_10 130 o fl (nI k) s = some (none, s') ∧ ∀ u v, (u, v, none) ∈ E → sI s' o u = 1 → sI s' o v = 1) ∨ (L_X11_close_10 130 o fl (nI k) s = L_X11_close_10 130 o 0 0 s' ∧ cz s' o N < cz st o N)) := by
    intro k'
    induction k' with
    | zero =>
      intro k s fl hk hkl hu hv hfl
      have M := MU_o hM (upto_mono hu (fun q hq => by omega))
      refine ⟨s, hu, hv, ?_⟩
      rw [e_X11_close_10, im M.1, Option.bind_some, M.2.2.2.2.1, if_pos (by rw [c_le (by omega) (by omega)]; omega), e_X11_close_2]
      rcases hfl with ⟨rfl, -, h3⟩ | ⟨rfl, h2⟩
      · rw [if_pos rfl]
        refine Or.inl ⟨rfl, fun u v he hu => ?_⟩
        obtain ⟨j, hj, e⟩ := List.getElem_of_mem he
        exact h3 j u v (by omega) (by rw [List.getElem?_eq_getElem hj, e]) hu
      · rw [if_neg (by decide)]
        exact Or.inr ⟨rfl, h2⟩
    | succ k' ih =>
      intro k s fl hk hkl hu hv hfl
      have M := MU_o hM (upto_mono hu (fun q hq => by omega))
      have X := M.1
      have hek : E[k]? = some E[k] := List.getElem?_eq_getElem (by omega)
      have hem := hlt _ (List.mem_of_getElem? hek)
      have hmem := List.mem_of_getElem? hek
      obtain ⟨d1, d2, d3⟩ := M.2.2.2.2.2.2.2 k _ hek
      generalize E[k] = e at hek hem d1 d2 d3 hmem
      obtain ⟨u, v, lab⟩ := e
      dsimp only at hem d1 d2 d3
      rw [e_X11_close_10, im X, Option.bind_some, M.2.2.2.2.1, if_neg (by rw [c_le (by omega) (by omega)]; omega), n28r X, Option.bind_some, r153 X (by omega), Option.bind_some]
      -- nothing changes here
      have skip : (lab = none → sI s o u = 1 → sI s o v = 1) → ∃ s', upto (fun q => q = o) st s' ∧ (∀ v, v < N → (sI s' o v = 0 ∨ sI s' o v = 1) ∧ (sI s' o v = 1 → C v) ∧ (sI st o v = 1 → sI s' o v = 1)) ∧ ((L_X11_close_61 130 o fl (nI k) s = some (none, s') ∧ ∀ u v, (u, v, none) ∈ E → sI s' o u = 1 → sI s' o v = 1) ∨ (L_X11_close_61 130 o fl (nI k) s = L_X11_close_10 130 o 0 0 s' ∧ cz s' o N < cz st o N)) := by
        intro hno
        rw [e_X11_close_61, nI_1]
        refine ih (k + 1) s fl (by omega) (by omega) hu hv (hfl.imp (fun z => ⟨z.1, z.2.1, fun j a b hj he hj1 => ?_⟩) id)
        by_cases q : j = k
        · rw [q, hek] at he
          cases he
          exact hno rfl hj1
        · exact z.2.2 j a b (by omega) he hj1
      cases lab with
      | some f =>
        obtain ⟨q, hq1, hq2, -⟩ := d3
        rw [hq2, if_neg (by rw [c_m1e (by omega)]; exact id)]
        exact skip (fun z => by cases z)
      | none =>
        have d3' : sI s 153 k = -1 := d3
        have gu := hv u hem.1
        have gv := hv v hem.2
        rw [d3', if_pos rfl, n26r X, Option.bind_some, r151 X (by omega), Option.bind_some, d1, rO X ho (by omega), Option.bind_some]
        rcases gu.1 with z | z
        · rw [z, if_pos rfl]
          exact skip (fun _ y => by rw [z] at y; exact absurd y (by decide))
        · rw [z, if_neg (by decide), n27r X, Option.bind_some, r152 X (by omega), Option.bind_some, d2, rO X ho (by omega), Option.bind_some]
          rcases gv.1 with y | y
          · have Cv : C v := hC u v hmem (gu.2.1 z)
            rw [y, if_pos rfl, Option.bind_some, r152 X (by omega), Option.bind_some, d2, wO X ho (by omega), Option.bind_some, show (1 : Int32) &&& 1 = 1 from rfl, e_X11_close_61, nI_1]
            have hcz := cz_set y N hem.2
            have hle : cz s o N ≤ cz st o N := by
              rcases hfl with ⟨-, h2, -⟩ | ⟨-, h2⟩
              · rw [h2]; exact Nat.le_refl _
              · omega
            refine ih (k + 1) (uI s o v 1) 1 (by omega) (by omega) (upto_trans hu (upto_uI rfl)) (fun j hj => ?_) (Or.inr ⟨rfl, by omega⟩)
            rw [I_uI]
            by_cases q : j = v
            · rw [if_pos ⟨rfl, q⟩, q]
              exact ⟨Or.inr rfl, fun _ => Cv, fun _ => rfl⟩
            · rw [if_neg (fun z => q z.2)]
              exact hv j hj
          · rw [y, if_neg (by decide)]
            exact skip (fun _ _ => y)
  exact key _ 0 st 0 rfl (Nat.zero_le _) upto_rfl (fun v hv => ⟨(hg v hv).1, (hg v hv).2, id⟩) (Or.inl ⟨rfl, rfl, fun j _ _ hj => by omega⟩)
theorem close0_ok (ho : o = 159 ∨ o = 160) {V : Nat → Prop} (hN : N ≤ 80) (hE : E.length ≤ 80) (hlt : ∀ e ∈ E, e.1 < N ∧ e.2.1 < N) (hnS : nS < 40) (hM : MU st w E N nS) (hv : hV st o N V) : ∃ s', f_X11_close 130 o st = some (none, s') ∧ upto (fun q => q = o) st s' ∧ hV s' o N (fun v => ∃ u, u < N ∧ V u ∧ Pt E u v []) := by
  have hC : ∀ a b, (a, b, none) ∈ E → (∃ u, u < N ∧ V u ∧ Pt E u a []) → ∃ u, u < N ∧ V u ∧ Pt E u b [] := by
    rintro a b he ⟨u, h1, h2, h3⟩
    exact ⟨u, h1, h2, Pt_trans h3 (Pt_eps he (Pt_nil _))⟩
  have key : ∀ m (s : ab_S), cz s o N ≤ m → upto (fun q => q = o) st s → (∀ v, v < N → (sI s o v = 0 ∨ sI s o v = 1) ∧ (sI s o v = 1 → ∃ u, u < N ∧ V u ∧ Pt E u v []) ∧ (sI st o v = 1 → sI s o v = 1)) → ∃ s', L_X11_close_10 130 o 0 0 s = some (none, s') ∧ upto (fun q => q = o) st s' ∧ hV s' o N (fun v => ∃ u, u < N ∧ V u ∧ Pt E u v []) := by
    intro m
    induction m with
    | zero =>
      intro s hm hu hg
      have M := MU_o hM (upto_mono hu (fun q hq => by omega))
      obtain ⟨s', a1, a2, a3⟩ := pass_ok ho hC hN hE hlt hnS M (fun v hv => ⟨(hg v hv).1, (hg v hv).2.1⟩)
      rcases a3 with ⟨b1, b2⟩ | ⟨-, b2⟩
      · refine ⟨s', b1, upto_trans hu a1, fun v hvn => ⟨(a2 v hvn).1, (a2 v hvn).2.1, ?_⟩⟩
        rintro ⟨u, c1, c2, c3⟩
        have hu1 : sI s' o u = 1 := (a2 u c1).2.2 ((hg u c1).2.2 ((hv u c1).2.mpr c2))
        have := Pt_up (V := fun a x => x = [] → sI s' o a = 1 → sI s' o v = 1) (fun _ h => h) (fun a b x he hb hx ha => hb hx (b2 a b he ha)) (fun a b c f x he hf hb hx => by cases hx) c3
        exact this rfl hu1
      · omega
    | succ m ih =>
      intro s hm hu hg
      have M := MU_o hM (upto_mono hu (fun q hq => by omega))
      obtain ⟨s', a1, a2, a3⟩ := pass_ok ho hC hN hE hlt hnS M (fun v hv => ⟨(hg v hv).1, (hg v hv).2.1⟩)
      rcases a3 with ⟨b1, b2⟩ | ⟨b1, b2⟩
      · refine ⟨s', b1, upto_trans hu a1, fun v hvn => ⟨(a2 v hvn).1, (a2 v hvn).2.1, ?_⟩⟩
        rintro ⟨u, c1, c2, c3⟩
        have hu1 : sI s' o u = 1 := (a2 u c1).2.2 ((hg u c1).2.2 ((hv u c1).2.mpr c2))
        have := Pt_up (V := fun a x => x = [] → sI s' o a = 1 → sI s' o v = 1) (fun _ h => h) (fun a b x he hb hx ha => hb hx (b2 a b he ha)) (fun a b c f x he hf hb hx => by cases hx) c3
        exact this rfl hu1
      · rw [b1]
        exact ih s' (by omega) (upto_trans hu a1) (fun v hv => ⟨(a2 v hv).1, (a2 v hv).2.1, fun z => (a2 v hv).2.2 ((hg v hv).2.2 z)⟩)
  rw [e_X11_close_0, cm hM.1, e_X11_close_2, if_neg (by decide)]
  exact key _ st (Nat.le_refl _) upto_rfl (fun v hvn => ⟨(hv v hvn).1, fun z => ⟨v, hvn, (hv v hvn).2.mp z, Pt_nil _⟩, id⟩)
theorem Pt_snoc {u v c : Nat} {y : List Nat} : Pt E u v (y ++ [c]) ↔ ∃ a b f, Pt E u a y ∧ (a, b, some f) ∈ E ∧ f c ∧ Pt E b v [] := by
  constructor
  · intro h
    have := (Pt_up (V := fun u z => Pt E u v z ∧ ∀ y, z = y ++ [c] → ∃ a b f, Pt E u a y ∧ (a, b, some f) ∈ E ∧ f c ∧ Pt E b v []) ⟨Pt_nil _, fun y hy => ?_⟩ ?_ ?_ h).2 y rfl
    · exact this
    · have := congrArg List.length hy
      simp at this
    · rintro a b x he ⟨h1, h2⟩
      refine ⟨Pt_eps he h1, fun y hy => ?_⟩
      obtain ⟨p, q, f, g1, g2⟩ := h2 y hy
      exact ⟨p, q, f, Pt_eps he g1, g2⟩
    · rintro a b c' f x he hf ⟨h1, h2⟩
      refine ⟨Pt_sgn he hf h1, fun y hy => ?_⟩
      cases y with
      | nil =>
        have hy' := List.cons.inj hy
        rw [hy'.1] at hf
        rw [hy'.2] at h1
        exact ⟨a, b, f, Pt_nil _, he, hf, h1⟩
      | cons d y =>
        have hy' := List.cons.inj hy
        obtain ⟨p, q, f', g1, g2⟩ := h2 y hy'.2
        rw [← hy'.1]
        exact ⟨p, q, f', Pt_sgn he hf g1, g2⟩
  · rintro ⟨a, b, f, h1, h2, h3, h4⟩
    exact Pt_trans h1 (Pt_sgn h2 h3 h4)
end MCLOSE
