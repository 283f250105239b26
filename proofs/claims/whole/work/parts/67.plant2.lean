/-! PLANT: all beginnings, in order -/
def lst (E : Dc) (b : List Nat) : Nat := (mem_b E b).foldl (fun m x => min m x.2) 1000000000000
def ownI (E : Dc) (b : List Nat) : Int64 := match E.find? (fun x => decide (x.1 = b)) with
  | some x => lN x.2
  | none => -1
def ndG (st : ab_S) (N : List (List Nat)) (R F : List Nat → Nat) (O : List Nat → Int64) : Prop := ∀ k b, N[k]? = some b → (b = [] → sI st 7 k = -1) ∧ (∀ c a, b = c ++ [a] → a < 256 ∧ ∃ p, p < k ∧ N[p]? = some c ∧ sI st 7 k = nI p ∧ sI st 8 k = nI a) ∧ sI st 9 k = nI (R b) ∧ sJ st 10 k = lN (F b) ∧ sJ st 11 k = O b ∧ sI st 12 k = -1
theorem begs_len : ∀ (n : Nat) {D : Dc}, D.length = n → (∀ x ∈ D, x.1.length ≤ 12) → (begs D).length ≤ 1 + 12 * n
  | 0, D, h, _ => by
    have : D = [] := List.eq_nil_of_length_eq_zero h
    subst this
    simp [begs, begsGo]
  | n + 1, D, h, hl => by
    have hne : D ≠ [] := fun q => by rw [q] at h; simp at h
    have hD := (List.dropLast_concat_getLast hne).symm
    generalize D.dropLast = E at hD
    generalize D.getLast hne = x at hD
    subst hD
    have hE : E.length = n := by simpa using h
    have ih := begs_len n hE (fun y hy => hl y (List.mem_append.mpr (Or.inl hy)))
    have hx := hl x (by simp)
    rw [begs_snoc, List.length_append, newP_len]
    omega
theorem ndG_grow {st : ab_S} {N : List (List Nat)} {R F : List Nat → Nat} {O : List Nat → Int64} (h : ndG st N R F O) {c : List Nat} {a p : Nat} (hp : N[p]? = some c) (ha : a < 256) (hR : R (c ++ [a]) = 0) (hF : F (c ++ [a]) = 1000000000000) (hO : O (c ++ [a]) = -1) : ndG (growS st N.length (nI p) (nI a) 1000000000000) (N ++ [c ++ [a]]) R F O := by
  intro k b hk
  have hkl := (List.getElem?_eq_some_iff.mp hk).1
  have hpl := (List.getElem?_eq_some_iff.mp hp).1
  rw [List.length_append, List.length_singleton] at hkl
  have r7 : sI (growS st N.length (nI p) (nI a) 1000000000000) 7 k = if k = N.length then nI p else sI st 7 k := by simp [growS, I_uI, I_uJ]
  have r8 : sI (growS st N.length (nI p) (nI a) 1000000000000) 8 k = if k = N.length then nI a else sI st 8 k := by simp [growS, I_uI, I_uJ]
  have r9 : sI (growS st N.length (nI p) (nI a) 1000000000000) 9 k = if k = N.length then 0 else sI st 9 k := by simp [growS, I_uI, I_uJ]
  have r12 : sI (growS st N.length (nI p) (nI a) 1000000000000) 12 k = if k = N.length then -1 else sI st 12 k := by simp [growS, I_uI, I_uJ]
  have r10 : sJ (growS st N.length (nI p) (nI a) 1000000000000) 10 k = if k = N.length then 1000000000000 else sJ st 10 k := by simp [growS, J_uI, J_uJ]
  have r11 : sJ (growS st N.length (nI p) (nI a) 1000000000000) 11 k = if k = N.length then -1 else sJ st 11 k := by simp [growS, J_uI, J_uJ]
  rw [r7, r8, r9, r10, r11, r12]
  by_cases hkn : k = N.length
  · rw [hkn, List.getElem?_append_right (Nat.le_refl _), Nat.sub_self] at hk
    cases hk
    simp only [if_pos hkn]
    refine ⟨fun q => by simp at q, fun c' a' q => ?_, by rw [hR]; rfl, by rw [hF]; rfl, hO.symm, trivial⟩
    obtain ⟨q1, q2⟩ := List.append_inj' q rfl
    cases q2
    subst q1
    exact ⟨ha, p, by omega, by rw [List.getElem?_append_left hpl]; exact hp, rfl, rfl⟩
  · rw [List.getElem?_append_left (by omega)] at hk
    simp only [if_neg hkn]
    obtain ⟨h1, h2, h3⟩ := h k b hk
    refine ⟨h1, fun c' a' q => ?_, h3⟩
    obtain ⟨g1, p', g2, g3, g4⟩ := h2 c' a' q
    exact ⟨g1, p', g2, by rw [List.getElem?_append_left (List.getElem?_eq_some_iff.mp g3).1]; exact g3, g4⟩
section PL
variable {L : Nat} {st : ab_S} {D : Dc}
theorem growS_up {n : Nat} {a b : Int32} {m : Int64} : upto (fun q => 6 ≤ q ∧ q ≤ 12) st (growS st n a b m) := upto_trans (upto_uI (by omega)) (upto_trans (upto_uI (by omega)) (upto_trans (upto_uI (by omega)) (upto_trans (upto_uJ (by omega)) (upto_trans (upto_uJ (by omega)) (upto_trans (upto_uI (by omega)) (upto_uI (by omega)))))))
theorem growS_sz {n : Nat} {a b : Int32} {m : Int64} : sI (growS st n a b m) 6 13 = nI (n + 1) := by simp [growS, I_uI, I_uJ]; exact nI_1 n
theorem lastW_take {t : Nat} {y : List Nat × Nat} (h : D[t]? = some y) : lastW [] (D.take (t + 1)) = y.1 := by
  rw [List.take_succ, h]
  exact lastW_snoc
theorem shared_ok {o t : Nat} {x : List Nat × Nat} (hT : isTm st o D) (hx : D[t]? = some x) : f_X8_sharedWithLast o (nI t) (nI x.1.length) st = some (some (.int (nI (cpl (lastW [] (D.take t)) x.1))), st) := by
  have hl := lt_of_get hx
  have h9 := hT.2.2.2.2.2.2.2.2.1
  obtain ⟨-, xl, xs, -⟩ := hT.2.2.2.2.2.2.2.2.2 t x hx
  have hx256 : ∀ s ∈ x.1, s < 256 := fun s hs => by
    obtain ⟨q, hq⟩ := List.mem_iff_getElem?.mp hs
    exact (xs q s hq).2
  generalize hy : lastW [] (D.take t) = y
  have hy256 : ∀ s ∈ y, s < 256 := by
    cases t with
    | zero => simp [lastW] at hy; subst hy; simp
    | succ t =>
      have hg : D[t]? = some D[t] := List.getElem?_eq_getElem (by omega)
      rw [lastW_take hg] at hy
      obtain ⟨-, yl, ys, -⟩ := hT.2.2.2.2.2.2.2.2.2 t _ hg
      rw [hy] at ys
      intro s hs
      obtain ⟨q, hq⟩ := List.mem_iff_getElem?.mp hs
      exact (ys q s hq).2
  have hprev : ∀ k, k < 100 → f_X7_signAt o (nI t - 1) (nI k) st = some (some (.int (lg y k)), st) := by
    intro k hk
    cases t with
    | zero =>
      simp [lastW] at hy
      subst hy
      show f_X7_signAt o (-1) (nI k) st = _
      rw [signAt_any hT, atO_neg (by decide)]
      rfl
    | succ t =>
      have hg : D[t]? = some D[t] := List.getElem?_eq_getElem (by omega)
      rw [lastW_take hg] at hy
      rw [nI_pred, signAt_ok hT hg (by omega), hy]
  have key : ∀ j i, x.1.length - i = j → i ≤ x.1.length → L_X8_sharedWithLast_2 o (nI t) (nI x.1.length) (nI i) st = some (some (.int (nI (i + cpl (y.drop i) (x.1.drop i)))), st) := by
    intro j
    induction j with
    | zero =>
      intro i hj hi
      rw [e_X8_sharedWithLast_2, if_pos (by rw [c_le (by omega) (by omega)]; omega), List.drop_eq_nil_of_le (as := x.1) (by omega)]
      congr 3
      cases y.drop i <;> simp [cpl]
    | succ j ih =>
      intro i hj hi
      have hg : x.1[i]? = some x.1[i] := List.getElem?_eq_getElem (by omega)
      rw [e_X8_sharedWithLast_2, if_neg (by rw [c_le (by omega) (by omega)]; omega), signAt_ok hT hx (by omega), ri_ok, hprev i (by omega), ri_ok]
      have hinj := lg_inj (i := i) (j := i) hx256 hy256
      cases hgy : y[i]? with
      | none =>
        rw [if_neg (fun q => by have := hinj.mp q; rw [hg, hgy] at this; cases this), drop_none hgy]
        simp [cpl]
      | some u =>
        rw [drop_some hg, drop_some hgy]
        unfold cpl
        by_cases hq : u = x.1[i]
        · rw [if_pos (hinj.mpr (by rw [hg, hgy, hq])), if_pos hq, nI_1, ih (i + 1) (by omega) (by omega), Nat.add_assoc, Nat.add_comm 1]
        · rw [if_neg (fun z => hq (by have := hinj.mp z; rw [hg, hgy] at this; exact (Option.some.inj this).symm)), if_neg hq]
          rfl
  rw [e_X8_sharedWithLast_0]
  have := key _ 0 rfl (by omega)
  rw [List.drop_zero, List.drop_zero, Nat.zero_add] at this
  exact this
/-- the beginnings of E are planted; the path leads to its last term -/
def plI (st : ab_S) (E : Dc) : Prop := sI st 6 13 = nI (begs E).length ∧ ndG st (begs E) (fun b => (mem_b E b).length) (lst E) (ownI E) ∧ ∀ i, i ≤ (lastW [] E).length → ∃ p, (begs E)[p]? = some ((lastW [] E).take i) ∧ sI st 19 i = nI p
theorem noMem {E : Dc} {b : List Nat} (h : b ∉ begs E) : mem_b E b = [] := by
  rw [List.eq_nil_iff_forall_not_mem]
  intro x hx
  obtain ⟨h1, h2⟩ := mem_b_iff.mp hx
  exact h (begs_iff.mpr (Or.inr ⟨x, h1, h2⟩))
theorem noOwn {E : Dc} {b : List Nat} (h : b ∉ begs E) : ownI E b = -1 := by
  unfold ownI
  cases hf : E.find? (fun x => decide (x.1 = b)) with
  | none => rfl
  | some x =>
    have h3 := List.mem_of_find?_eq_some hf
    have h4 : x.1 = b := by simpa using List.find?_some hf
    exact absurd (begs_iff.mpr (Or.inr ⟨x, h3, ⟨[], by rw [h4]; simp⟩⟩)) h
theorem take_app {x : List Nat} {i : Nat} (h : i < x.length) : x.take (i + 1) = x.take i ++ [x[i]] := by
  rw [List.take_succ, List.getElem?_eq_getElem h]; rfl
/-- a term's own beginnings are grown -/
theorem plant_grow {o t : Nat} {x : List Nat × Nat} {E : Dc} (hF : FX st) (hT : isTm st o D) (ho : 65 < o) (hx : D[t]? = some x) (hs : srt (E ++ [x])) (hl : ∀ y ∈ E, y.1.length ≤ 12) (hEl : E.length < 200) (h : plI st E) : ∃ st', L_X8_plant_60 6 o (nI t) (nI x.1.length) (nI (cpl (lastW [] E) x.1)) st = L_X8_plant_60 6 o (nI t) (nI x.1.length) (nI x.1.length) st' ∧ upto (fun q => 6 ≤ q ∧ q ≤ 19) st st' ∧ sI st' 6 13 = nI (begs (E ++ [x])).length ∧ ndG st' (begs (E ++ [x])) (fun b => (mem_b E b).length) (lst E) (ownI E) ∧ ∀ i, i ≤ x.1.length → ∃ p, (begs (E ++ [x]))[p]? = some (x.1.take i) ∧ sI st' 19 i = nI p := by
  obtain ⟨g1, g2, g3⟩ := h
  obtain ⟨-, xl, xs, -⟩ := hT.2.2.2.2.2.2.2.2.2 t x hx
  have hc := cpl_le (x := lastW [] E) (y := x.1)
  have hct := cpl_take (x := lastW [] E) (y := x.1)
  have hbl := begs_len _ rfl hl
  have htot : (begs (E ++ [x])).length = (begs E).length + (x.1.length - cpl (lastW [] E) x.1) := by rw [begs_snoc, List.length_append, newP_len]
  generalize hcp : cpl (lastW [] E) x.1 = cp at *
  have key : ∀ j i st1, x.1.length - i = j → cp ≤ i → i ≤ x.1.length → upto (fun q => 6 ≤ q ∧ q ≤ 19) st st1 → sI st1 6 13 = nI ((begs E).length + (i - cp)) → ndG st1 (begs E ++ (newP (lastW [] E) x.1).take (i - cp)) (fun b => (mem_b E b).length) (lst E) (ownI E) → (∀ q, q ≤ i → ∃ p, (begs E ++ (newP (lastW [] E) x.1).take (i - cp))[p]? = some (x.1.take q) ∧ sI st1 19 q = nI p) → ∃ st', L_X8_plant_60 6 o (nI t) (nI x.1.length) (nI i) st1 = L_X8_plant_60 6 o (nI t) (nI x.1.length) (nI x.1.length) st' ∧ upto (fun q => 6 ≤ q ∧ q ≤ 19) st st' ∧ sI st' 6 13 = nI (begs (E ++ [x])).length ∧ ndG st' (begs (E ++ [x])) (fun b => (mem_b E b).length) (lst E) (ownI E) ∧ ∀ i, i ≤ x.1.length → ∃ p, (begs (E ++ [x]))[p]? = some (x.1.take i) ∧ sI st' 19 i = nI p := by
    intro j
    induction j with
    | zero =>
      intro i st1 hj hci hi hu h1 h2 h3
      have hix : i = x.1.length := by omega
      subst hix
      have ht : (newP (lastW [] E) x.1).take (x.1.length - cp) = newP (lastW [] E) x.1 := List.take_of_length_le (by rw [newP_len, hcp]; omega)
      rw [ht, ← begs_snoc] at h2 h3
      exact ⟨st1, rfl, hu, by rw [h1, htot], h2, h3⟩
    | succ j ih =>
      intro i st1 hj hci hi hu h1 h2 h3
      have F1 : FX st1 := FX_up hF hu
      have hT1 := isTm_up hT hu (by omega) (by omega) (by omega) (by omega)
      have hnl : (newP (lastW [] E) x.1).length = x.1.length - cp := by rw [newP_len, hcp]
      have hil : i < x.1.length := by omega
      obtain ⟨p, hp1, hp2⟩ := h3 i (Nat.le_refl _)
      have hg : x.1[i]? = some x.1[i] := List.getElem?_eq_getElem hil
      have hsg := (xs i _ hg).2
      have hNl : (begs E ++ (newP (lastW [] E) x.1).take (i - cp)).length = (begs E).length + (i - cp) := by
        rw [List.length_append, List.length_take, hnl]; omega
      have hpl := (List.getElem?_eq_some_iff.mp hp1).1
      have hget : (newP (lastW [] E) x.1)[i - cp]? = some (x.1.take i ++ [x.1[i]]) := by
        rw [newP_get (by rw [hcp]; omega), hcp, show cp + 1 + (i - cp) = i + 1 by omega, take_app hil]
      have hNew : begs E ++ (newP (lastW [] E) x.1).take (i + 1 - cp) = (begs E ++ (newP (lastW [] E) x.1).take (i - cp)) ++ [x.1.take i ++ [x.1[i]]] := by
        rw [show i + 1 - cp = (i - cp) + 1 by omega, List.take_succ, hget, ← List.append_assoc]; rfl
      have hnb : x.1.take i ++ [x.1[i]] ∉ begs E := by
        intro q
        have := (new_iff hs (c := x.1.take i ++ [x.1[i]]) (by rw [← take_app hil]; exact List.take_prefix _ _) (fun z => absurd (List.append_eq_nil_iff.mp z).2 (by simp))).mp q
        rw [List.length_append, List.length_take, List.length_singleton, hcp] at this
        omega
      have hnd := ndG_grow h2 (c := x.1.take i) (a := x.1[i]) hp1 hsg (by show (mem_b E _).length = 0; rw [noMem hnb]; rfl) (by unfold lst; rw [noMem hnb]; rfl) (noOwn hnb)
      rw [hNl] at hnd
      have hgr := grow_ok F1 (n := (begs E).length + (i - cp)) (by omega) h1 (nI p) (nI x.1[i]) 1000000000000
      let s9 := growS st1 ((begs E).length + (i - cp)) (nI p) (nI x.1[i]) 1000000000000
      let s11 := uI s9 19 (i + 1) (nI ((begs E).length + (i - cp)))
      have F9 : FX s9 := FX_up F1 growS_up
      have u9 : upto (fun q => 6 ≤ q ∧ q ≤ 19) st1 s9 := upto_mono growS_up (fun q hq => by omega)
      have u11 : upto (fun q => q = 19) s9 s11 := upto_uI rfl
      have hU : upto (fun q => 6 ≤ q ∧ q ≤ 19) st s11 := upto_trans hu (upto_trans u9 (upto_mono u11 (fun q hq => by omega)))
      have e60 : L_X8_plant_60 6 o (nI t) (nI x.1.length) (nI i) st1 = L_X8_plant_60 6 o (nI t) (nI x.1.length) (nI (i + 1)) s11 := by
        rw [e_X8_plant_60, if_neg (by rw [c_le (by omega) (by omega)]; omega), g6_12 F1, Option.bind_some, Option.bind_some, r19 F1 (by omega), Option.bind_some, hp2, signAt_ok hT1 hx (by omega), ri_ok, lg_some hg, hgr, ri_ok, nI_1, w19 F9 (by omega), Option.bind_some]
      rw [e60]
      refine ih (i + 1) s11 (by omega) (by omega) (by omega) hU ?_ ?_ ?_
      · rw [(u11.2.2 6 (by omega)).1, growS_sz]
        congr 1
        omega
      · rw [hNew]
        intro k b hk
        have := hnd k b hk
        rw [(u11.2.2 7 (by omega)).1, (u11.2.2 8 (by omega)).1, (u11.2.2 9 (by omega)).1, (u11.2.2 10 (by omega)).2, (u11.2.2 11 (by omega)).2, (u11.2.2 12 (by omega)).1]
        exact this
      · intro q hq
        rw [hNew]
        have e19 : sI s11 19 q = if q = i + 1 then nI ((begs E).length + (i - cp)) else sI st1 19 q := by
          show sI (uI s9 19 (i + 1) _) 19 q = _
          rw [I_uI, ((growS_up (st := st1) (n := (begs E).length + (i - cp)) (a := nI p) (b := nI x.1[i]) (m := 1000000000000)).2.2 19 (by omega)).1]
          simp
        rw [e19]
        by_cases hqi : q = i + 1
        · subst hqi
          rw [if_pos rfl]
          exact ⟨_, by rw [← hNl, List.getElem?_append_right (Nat.le_refl _), Nat.sub_self, take_app hil]; rfl, rfl⟩
        · rw [if_neg hqi]
          obtain ⟨p', h1', h2'⟩ := h3 q (by omega)
          exact ⟨p', by rw [List.getElem?_append_left (List.getElem?_eq_some_iff.mp h1').1]; exact h1', h2'⟩
  refine key _ cp st rfl (Nat.le_refl _) (by omega) upto_rfl (by rw [g1]; simp) (by rw [Nat.sub_self]; simpa using g2) (fun q hq => ?_)
  obtain ⟨p, p1, p2⟩ := g3 q (by omega)
  refine ⟨p, ?_, p2⟩
  rw [Nat.sub_self, List.take_zero, List.append_nil, p1]
  have e1 : ((lastW [] E).take cp).take q = (x.1.take cp).take q := by rw [hct]
  rw [List.take_take, List.take_take, Nat.min_eq_left hq] at e1
  rw [e1]
end PL
