/-! PLANT: counting along the path; the whole of it -/
section PL3
variable {L : Nat} {st : ab_S} {D : Dc}
theorem minL {a b : Nat} (ha : a < 9223372036854775808) (hb : b < 9223372036854775808) : (if lN b < lN a then lN b else lN a) = lN (min a b) := by
  by_cases h : b < a
  · rw [if_pos ((pk_lLT hb ha).mpr h), Nat.min_eq_right (by omega)]
  · rw [if_neg (fun q => h ((pk_lLT hb ha).mp q)), Nat.min_eq_left (by omega)]
theorem nodup_get {α : Type} {l : List α} (h : l.Nodup) {i j : Nat} {x : α} (hi : l[i]? = some x) (hj : l[j]? = some x) : i = j := by
  have h1 := (List.getElem?_eq_some_iff.mp hi)
  have h2 := (List.getElem?_eq_some_iff.mp hj)
  obtain ⟨a1, a2⟩ := h1
  obtain ⟨b1, b2⟩ := h2
  exact (List.getElem_inj h).mp (a2.trans b2.symm)
def cntR (E : Dc) (x : List Nat × Nat) (i : Nat) (b : List Nat) : Nat := (mem_b E b).length + (if b <+: x.1 ∧ b.length < i then 1 else 0)
def cntF (E : Dc) (x : List Nat × Nat) (i : Nat) (b : List Nat) : Nat := if b <+: x.1 ∧ b.length < i then min (lst E b) x.2 else lst E b
theorem lst_le {E : Dc} {b : List Nat} : lst E b ≤ 1000000000000 := by
  unfold lst
  have : ∀ (l : Dc) (m : Nat), l.foldl (fun m x => min m x.2) m ≤ m := by
    intro l
    induction l with
    | nil => intro m; exact Nat.le_refl _
    | cons y l ih => intro m; rw [List.foldl_cons]; have := ih (min m y.2); omega
  exact this _ _
theorem count_ok (hF : FX st) {E : Dc} {x : List Nat × Nat} (hs : srt (E ++ [x])) (hxl : x.1.length ≤ 12) (hxo : x.2 ≤ 1000000000000) (hEl : E.length < 200) (hl : ∀ y ∈ E, y.1.length ≤ 12) (hsz : sI st 6 13 = nI (begs (E ++ [x])).length) (hnd : ndG st (begs (E ++ [x])) (fun b => (mem_b E b).length) (lst E) (ownI E)) (hpa : ∀ i, i ≤ x.1.length → ∃ p, (begs (E ++ [x]))[p]? = some (x.1.take i) ∧ sI st 19 i = nI p) : ∃ st', f_X8_countAlongPath 6 (nI x.1.length) (lN x.2) st = some (none, st') ∧ upto (fun q => 6 ≤ q ∧ q ≤ 19) st st' ∧ plI st' (E ++ [x]) := by
  have hnod := begs_nd hs
  have hbl := begs_len _ rfl (D := E ++ [x]) (fun y hy => by
    rcases List.mem_append.mp hy with q | q
    · exact hl y q
    · cases List.mem_singleton.mp q; exact hxl)
  rw [List.length_append, List.length_singleton] at hbl
  generalize hN : begs (E ++ [x]) = N at *
  have hml : ∀ b, (mem_b E b).length ≤ 200 := fun b => by
    have := List.length_filter_le (fun y : List Nat × Nat => b.isPrefixOf y.1) E
    unfold mem_b
    omega
  have key : ∀ j i st1, x.1.length + 1 - i = j → i ≤ x.1.length + 1 → upto (fun q => q = 9 ∨ q = 10) st st1 → ndG st1 N (cntR E x i) (cntF E x i) (ownI E) → ∃ st2, L_X8_countAlongPath_3 6 (nI x.1.length) (lN x.2) (nI i) st1 = some (none, st2) ∧ upto (fun q => 6 ≤ q ∧ q ≤ 19) st st2 ∧ plI st2 (E ++ [x]) := by
    intro j
    induction j with
    | zero =>
      intro i st1 hj hi hu h1
      have hix : i = x.1.length + 1 := by omega
      have F1 := FX_up hF hu
      obtain ⟨p, p1, p2⟩ := hpa x.1.length (Nat.le_refl _)
      rw [List.take_length] at p1
      have hpl := (List.getElem?_eq_some_iff.mp p1).1
      let s4 := uJ st1 11 p (lN x.2)
      have u4 : upto (fun q => q = 11) st1 s4 := upto_uJ rfl
      have hU : upto (fun q => 6 ≤ q ∧ q ≤ 19) st s4 := upto_trans (upto_mono hu (fun q hq => by omega)) (upto_mono u4 (fun q hq => by omega))
      have e19 : sI st1 19 = sI st 19 := (hu.2.2 19 (by omega)).1
      refine ⟨s4, ?_, hU, ?_, ?_, ?_⟩
      · rw [e_X8_countAlongPath_3, if_pos (by rw [c_lt (by omega) (by omega)]; omega), g6_4 F1, Option.bind_some, g6_12 F1, Option.bind_some, r19 F1 (by omega), Option.bind_some, e19, p2, w11 F1 (by omega), Option.bind_some]
      · rw [(u4.2.2 6 (by omega)).1, (hu.2.2 6 (by omega)).1, hN]; exact hsz
      · rw [hN]
        intro k b hk
        obtain ⟨q1, q2, q3, q4, q5, q6⟩ := h1 k b hk
        rw [(u4.2.2 7 (by omega)).1, (u4.2.2 8 (by omega)).1, (u4.2.2 9 (by omega)).1, (u4.2.2 10 (by omega)).2, (u4.2.2 12 (by omega)).1]
        refine ⟨q1, q2, ?_, ?_, ?_, q6⟩
        · rw [q3]
          unfold cntR
          show _ = nI (mem_b (E ++ [x]) b).length
          rw [mem_b_snoc, List.length_append]
          congr 2
          by_cases hb : b <+: x.1
          · have := hb.length_le
            rw [if_pos ⟨hb, by omega⟩, if_pos (List.isPrefixOf_iff_prefix.mpr hb)]; rfl
          · rw [if_neg (fun z => hb z.1), if_neg (fun z => hb (List.isPrefixOf_iff_prefix.mp z))]; rfl
        · rw [q4]
          unfold cntF lst
          rw [mem_b_snoc, List.foldl_append]
          congr 1
          by_cases hb : b <+: x.1
          · have := hb.length_le
            rw [if_pos ⟨hb, by omega⟩, if_pos (List.isPrefixOf_iff_prefix.mpr hb)]; rfl
          · rw [if_neg (fun z => hb z.1), if_neg (fun z => hb (List.isPrefixOf_iff_prefix.mp z))]; rfl
        · show sJ (uJ st1 11 p (lN x.2)) 11 k = ownI (E ++ [x]) b
          rw [J_uJ, q5]
          unfold ownI
          rw [List.find?_append]
          by_cases hb : x.1 = b
          · have hkp : k = p := nodup_get hnod hk (by rw [← hb]; exact p1)
            rw [if_pos ⟨rfl, hkp⟩]
            have hnone : E.find? (fun y => decide (y.1 = b)) = none := by
              rw [List.find?_eq_none]
              intro y hy q
              have h4 : y.1 = b := by simpa using q
              have := srt_last hs y hy
              rw [h4, hb, lcmp_self] at this; cases this
            rw [hnone]
            simp [hb]
          · have hkp : ¬ k = p := fun q => by
              rw [q, p1] at hk
              exact hb (Option.some.inj hk)
            rw [if_neg (fun z => hkp z.2)]
            cases hf : E.find? (fun y => decide (y.1 = b)) with
            | some y => rfl
            | none => simp [hb]
      · intro q hq
        rw [lastW_snoc] at hq ⊢
        rw [hN, (u4.2.2 19 (by omega)).1, e19]
        exact hpa q hq
    | succ j ih =>
      intro i st1 hj hi hu h1
      have F1 := FX_up hF hu
      have e19 : sI st1 19 = sI st 19 := (hu.2.2 19 (by omega)).1
      obtain ⟨p, p1, p2⟩ := hpa i (by omega)
      have hpl := (List.getElem?_eq_some_iff.mp p1).1
      obtain ⟨q1, q2, q3, q4, q5, q6⟩ := h1 p _ p1
      have hnot : ¬ (x.1.take i <+: x.1 ∧ (x.1.take i).length < i) := fun z => by have := z.2; rw [List.length_take] at this; omega
      have c1 : cntR E x i (x.1.take i) = (mem_b E (x.1.take i)).length := by unfold cntR; rw [if_neg hnot]; rfl
      have c2 : cntF E x i (x.1.take i) = lst E (x.1.take i) := by unfold cntF; rw [if_neg hnot]
      rw [c1] at q3
      rw [c2] at q4
      have hle := lst_le (E := E) (b := x.1.take i)
      let s9 := uI st1 9 p (nI ((mem_b E (x.1.take i)).length + 1))
      let s13 := uJ s9 10 p (lN (min (lst E (x.1.take i)) x.2))
      have F9 : FX s9 := F1
      have u13 : upto (fun q => q = 9 ∨ q = 10) st1 s13 := upto_trans (upto_uI (Or.inl rfl)) (upto_uJ (Or.inr rfl))
      have e3 : L_X8_countAlongPath_3 6 (nI x.1.length) (lN x.2) (nI i) st1 = L_X8_countAlongPath_3 6 (nI x.1.length) (lN x.2) (nI (i + 1)) s13 := by
        rw [e_X8_countAlongPath_3, if_neg (by rw [c_lt (by omega) (by omega)]; omega), g6_12 F1, Option.bind_some, r19 F1 (by omega), Option.bind_some, e19, p2, g6_2 F1, Option.bind_some, r9 F1 (by omega), Option.bind_some, q3, nI_1, w9 F1 (by omega), Option.bind_some, g6_3 F9, Option.bind_some, Option.bind_some, r10 F9 (by omega), Option.bind_some]
        show Option.bind (ab_wJ s9 10 (nI p) (if lN x.2 < sJ st1 10 p then lN x.2 else sJ st1 10 p)) _ = _
        rw [q4, minL (by omega) (by omega), w10 F9 (by omega), Option.bind_some, nI_1]
      rw [e3]
      refine ih (i + 1) s13 (by omega) (by omega) (upto_trans hu u13) (fun k b hk => ?_)
      obtain ⟨w1, w2, w3, w4, w5, w6⟩ := h1 k b hk
      rw [(u13.2.2 7 (by omega)).1, (u13.2.2 8 (by omega)).1, (u13.2.2 11 (by omega)).2, (u13.2.2 12 (by omega)).1]
      have r9' : sI s13 9 k = if k = p then nI ((mem_b E (x.1.take i)).length + 1) else sI st1 9 k := by
        show sI (uI st1 9 p _) 9 k = _
        rw [I_uI]; simp
      have r10' : sJ s13 10 k = if k = p then lN (min (lst E (x.1.take i)) x.2) else sJ st1 10 k := by
        show sJ (uJ s9 10 p _) 10 k = _
        rw [J_uJ]; simp; rfl
      rw [r9', r10']
      refine ⟨w1, w2, ?_, ?_, w5, w6⟩
      · by_cases hkp : k = p
        · subst hkp
          rw [p1] at hk
          cases hk
          rw [if_pos rfl]
          unfold cntR
          rw [if_pos ⟨List.take_prefix _ _, by rw [List.length_take]; omega⟩]
        · rw [if_neg hkp, w3]
          congr 1
          have hbi : ¬ b = x.1.take i := fun q => hkp (nodup_get hnod hk (q ▸ p1))
          have : (b <+: x.1 ∧ b.length < i + 1) ↔ (b <+: x.1 ∧ b.length < i) := by
            constructor
            · rintro ⟨z1, z2⟩
              refine ⟨z1, ?_⟩
              have : b.length ≠ i := fun q => hbi (by rw [← q]; exact List.prefix_iff_eq_take.mp z1)
              omega
            · rintro ⟨z1, z2⟩
              exact ⟨z1, by omega⟩
          unfold cntR
          simp only [this]
      · by_cases hkp : k = p
        · subst hkp
          rw [p1] at hk
          cases hk
          rw [if_pos rfl]
          unfold cntF
          rw [if_pos ⟨List.take_prefix _ _, by rw [List.length_take]; omega⟩]
        · rw [if_neg hkp, w4]
          congr 1
          have hbi : ¬ b = x.1.take i := fun q => hkp (nodup_get hnod hk (q ▸ p1))
          have : (b <+: x.1 ∧ b.length < i + 1) ↔ (b <+: x.1 ∧ b.length < i) := by
            constructor
            · rintro ⟨z1, z2⟩
              refine ⟨z1, ?_⟩
              have : b.length ≠ i := fun q => hbi (by rw [← q]; exact List.prefix_iff_eq_take.mp z1)
              omega
            · rintro ⟨z1, z2⟩
              exact ⟨z1, by omega⟩
          unfold cntF
          simp only [this]
  rw [e_X8_countAlongPath_0, c6 hF]
  refine key _ 0 st rfl (by omega) upto_rfl (fun k b hk => ?_)
  have e1 : cntR E x 0 b = (mem_b E b).length := by unfold cntR; rw [if_neg (fun z => by omega)]; rfl
  have e2 : cntF E x 0 b = lst E b := by unfold cntF; rw [if_neg (fun z => by omega)]
  rw [e1, e2]
  exact hnd k b hk
theorem take_snoc' {t : Nat} {x : List Nat × Nat} (h : D[t]? = some x) : D.take (t + 1) = D.take t ++ [x] := by rw [List.take_succ, h]; rfl
theorem srt_take {t : Nat} (h : srt D) : srt (D.take t) := by
  have := List.take_append_drop t D
  rw [← this] at h
  exact srt_app h
theorem tm_len {o : Nat} (h : isTm st o D) : ∀ x ∈ D, x.1.length ≤ 12 := fun x hx => by
  obtain ⟨i, hi⟩ := List.mem_iff_getElem?.mp hx
  exact (h.2.2.2.2.2.2.2.2.2 i x hi).2.1
theorem tm_256 {o : Nat} (h : isTm st o D) : ∀ x ∈ D, ∀ s ∈ x.1, s < 256 := fun x hx s hs => by
  obtain ⟨i, hi⟩ := List.mem_iff_getElem?.mp hx
  obtain ⟨j, hj⟩ := List.mem_iff_getElem?.mp hs
  exact ((h.2.2.2.2.2.2.2.2.2 i x hi).2.2.1 j s hj).2
theorem lst_least {b : List Nat} (h : mem_b D b ≠ []) (ho : ∀ x ∈ D, x.2 ≤ 1000000000000) : lst D b = least D b := by
  unfold lst least
  have e : ∀ (l : Dc) (m : Nat), l.foldl (fun m x => min m x.2) m = (l.map (fun x => x.2)).foldl min m := by
    intro l
    induction l with
    | nil => intro m; rfl
    | cons y l ih => intro m; rw [List.foldl_cons, List.map_cons, List.foldl_cons, ih]
  cases hm : mem_b D b with
  | nil => exact absurd hm h
  | cons y l =>
    have hy : y ∈ D := (mem_b_iff.mp (by rw [hm]; exact List.mem_cons_self ..)).1
    have := ho y hy
    rw [List.foldl_cons, Nat.min_eq_right this, e]
    rfl
/-- what is planted of a whole dictionary -/
def plD (st : ab_S) (D : Dc) : Prop := sI st 6 13 = nI (begs D).length ∧ (begs D).length ≤ 2401 ∧ ndG st (begs D) (fun b => (mem_b D b).length) (least D) (ownI D)
theorem plant_ok (hF : FX st) {o : Nat} (hT : isTm st o D) (ho : 65 < o) (hs : srt D) : ∃ st', f_X8_plant 6 o st = some (none, st') ∧ upto (fun q => 6 ≤ q ∧ q ≤ 19) st st' ∧ plD st' D := by
  have h9 := hT.2.2.2.2.2.2.2.2.1
  have h8 := hT.2.2.2.2.2.2.2.1
  have hlen := tm_len hT
  have hout := tm_out hT
  have hbD := begs_len _ rfl hlen
  let s1 := uI st 6 13 0
  have F1 : FX s1 := hF
  have u1 : upto (fun q => 6 ≤ q ∧ q ≤ 19) st s1 := upto_uI (by omega)
  have hT1 := isTm_up hT u1 (by omega) (by omega) (by omega) (by omega)
  have loop : ∀ j t st1, D.length - t = j → t ≤ D.length → upto (fun q => 6 ≤ q ∧ q ≤ 19) st st1 → plI st1 (D.take t) → ∃ st2, L_X8_plant_33 6 o (nI t) st1 = some (none, st2) ∧ upto (fun q => 6 ≤ q ∧ q ≤ 19) st st2 ∧ plI st2 D := by
    intro j
    induction j with
    | zero =>
      intro t st1 hj ht hu hp
      have htD : D.take t = D := List.take_of_length_le (by omega)
      rw [htD] at hp
      have hT1 := isTm_up hT hu (by omega) (by omega) (by omega) (by omega)
      refine ⟨st1, ?_, hu, hp⟩
      rw [e_X8_plant_33, gI_ok hT1.1, Option.bind_some, hT1.2.2.2.2.2.2.2.1, if_pos (by rw [c_le (by omega) (by omega)]; omega)]
    | succ j ih =>
      intro t st1 hj ht hu hp
      have F1 := FX_up hF hu
      have hT1 := isTm_up hT hu (by omega) (by omega) (by omega) (by omega)
      have hx : D[t]? = some D[t] := List.getElem?_eq_getElem (by omega)
      generalize D[t] = x at hx
      have hxD := List.mem_of_getElem? hx
      have hx12 := hlen x hxD
      have hxo := hout x hxD
      have hsn := take_snoc' hx
      have hsrt : srt (D.take t ++ [x]) := by rw [← hsn]; exact srt_take hs
      have hEl : (D.take t).length < 200 := by rw [List.length_take]; omega
      have hEm : ∀ y ∈ D.take t, y.1.length ≤ 12 := fun y hy => hlen y (List.mem_of_mem_take hy)
      obtain ⟨s2, g1, g2, g3, g4, g5⟩ := plant_grow F1 hT1 ho hx hsrt hEm hEl hp
      have F2 := FX_up F1 g2
      have hT2 := isTm_up hT1 g2 (by omega) (by omega) (by omega) (by omega)
      obtain ⟨s3, c1, c2, c3⟩ := count_ok F2 hsrt hx12 hxo hEl hEm g3 g4 g5
      rw [← hsn] at c3
      obtain ⟨s4, d1, d2, d3⟩ := ih (t + 1) s3 (by omega) (by omega) (upto_trans hu (upto_trans g2 c2)) c3
      refine ⟨s4, ?_, d2, d3⟩
      have h12 : (if (12 : Int32) < nI x.1.length then (12 : Int32) else nI x.1.length) = nI x.1.length := by
        rw [nl 12, if_neg (by rw [c_lt (by omega) (by omega)]; omega)]
      rw [e_X8_plant_33, gI_ok hT1.1, Option.bind_some, hT1.2.2.2.2.2.2.2.1, if_neg (by rw [c_le (by omega) (by omega)]; omega), lengthAt_ok hT1 hx, ri_ok, h12, shared_ok hT1 hx, ri_ok, g1, e_X8_plant_60, if_pos (Int32.le_refl _), outAt_ok hT2 hx, rl_ok, c1, rv_ok, nI_1, d1]
  have root : ∀ m : Nat, ∃ s3, L_X8_plant_27 6 o 19 0 6 (-1) (-1) (lN m) s1 = L_X8_plant_33 6 o (nI 0) s3 ∧ upto (fun q => 6 ≤ q ∧ q ≤ 19) st s3 ∧ sI s3 6 13 = nI 1 ∧ sI s3 7 0 = -1 ∧ sI s3 9 0 = 0 ∧ sJ s3 10 0 = lN m ∧ sJ s3 11 0 = -1 ∧ sI s3 12 0 = -1 ∧ sI s3 19 0 = nI 0 := by
    intro m
    have hg := grow_ok F1 (n := 0) (by omega) (by show sI (uI st 6 13 0) 6 13 = nI 0; rw [I_uI, if_pos ⟨rfl, rfl⟩]; rfl) (-1) (-1) (lN m)
    have F2 : FX (growS s1 0 (-1) (-1) (lN m)) := FX_up F1 growS_up
    have u2 : upto (fun q => 6 ≤ q ∧ q ≤ 19) s1 (growS s1 0 (-1) (-1) (lN m)) := upto_mono growS_up (fun q hq => by omega)
    refine ⟨uI (growS s1 0 (-1) (-1) (lN m)) 19 0 (nI 0), ?_, upto_trans u1 (upto_trans u2 (upto_uI (by omega))), ?_, ?_, ?_, ?_, ?_, ?_, ?_⟩
    · rw [e_X8_plant_27, hg, ri_ok]
      show Option.bind (ab_wI (growS s1 0 (-1) (-1) (lN m)) 19 (nI 0) (nI 0)) _ = _
      rw [w19 F2 (by omega), Option.bind_some]; rfl
    · rw [I_uI, if_neg (fun z => by omega), growS_sz]
    · simp [growS, I_uI, I_uJ]
    · simp [growS, I_uI, I_uJ]
    · simp [growS, J_uI, J_uJ]
    · simp [growS, J_uI, J_uJ]
    · simp [growS, I_uI, I_uJ]
    · simp [I_uI]
  have nil0 : ∀ s3 m, sI s3 7 0 = -1 → sI s3 9 0 = 0 → sJ s3 10 0 = lN m → sJ s3 11 0 = -1 → sI s3 12 0 = -1 → ∀ (R F : List Nat → Nat) (O : List Nat → Int64), R [] = 0 → F [] = m → O [] = -1 → ndG s3 [[]] R F O := by
    intro s3 m z1 z2 z3 z4 z5 R F O z6 z7 z8 k b hk
    have hk0 : k = 0 := by have := (List.getElem?_eq_some_iff.mp hk).1; simpa using this
    subst hk0
    cases hk
    exact ⟨fun _ => z1, fun c a q => by simp at q, by rw [z2, z6]; rfl, by rw [z3, z7], by rw [z4, z8], z5⟩
  have e0 : f_X8_plant 6 o st = if D.length = 0 then L_X8_plant_27 6 o 19 0 6 (-1) (-1) (lN 0) s1 else L_X8_plant_27 6 o 19 0 6 (-1) (-1) (lN 1000000000000) s1 := by
    rw [e_X8_plant_0, c6 hF, p6 hF, Option.bind_some]
    show Option.bind (ab_gR s1 6 8 12) _ = _
    rw [g6_12 F1, Option.bind_some]
    show Option.bind (ab_gI s1 o 7 3) _ = _
    rw [gI_ok hT1.1, Option.bind_some, hT1.2.2.2.2.2.2.2.1]
    show (if nI D.length = nI 0 then _ else _) = _
    by_cases h0 : D.length = 0
    · rw [if_pos (by rw [h0]), if_pos h0]; rfl
    · rw [if_neg (by rw [c_eq (by omega) (by omega)]; exact h0), if_neg h0]; rfl
  rw [e0]
  by_cases h0 : D.length = 0
  · rw [if_pos h0]
    have hD : D = [] := List.eq_nil_of_length_eq_zero h0
    subst hD
    obtain ⟨s3, q1, q2, q3, q4, q5, q6, q7, q8, q9⟩ := root 0
    have hT3 := isTm_up hT q2 (by omega) (by omega) (by omega) (by omega)
    refine ⟨s3, ?_, q2, by rw [q3]; rfl, by simp [begs, begsGo], nil0 s3 0 q4 q5 q6 q7 q8 _ _ _ rfl rfl rfl⟩
    rw [q1, e_X8_plant_33, gI_ok hT3.1, Option.bind_some, hT3.2.2.2.2.2.2.2.1, if_pos (by rw [c_le (by simp) (by omega)]; simp)]
  · rw [if_neg h0]
    obtain ⟨s3, q1, q2, q3, q4, q5, q6, q7, q8, q9⟩ := root 1000000000000
    have hp0 : plI s3 (D.take 0) := ⟨by rw [q3]; rfl, nil0 s3 1000000000000 q4 q5 q6 q7 q8 _ _ _ rfl rfl rfl, fun i hi => ⟨0, by simp [lastW] at hi; subst hi; rfl, by simp [lastW] at hi; subst hi; exact q9⟩⟩
    obtain ⟨s4, d1, d2, d3⟩ := loop _ 0 s3 rfl (by omega) q2 hp0
    refine ⟨s4, by rw [q1, d1], d2, d3.1, by omega, fun k b hk => ?_⟩
    obtain ⟨w1, w2, w3, w4, w5⟩ := d3.2.1 k b hk
    refine ⟨w1, w2, w3, ?_, w5⟩
    rw [w4]
    congr 1
    refine lst_least ?_ hout
    have hb := List.mem_of_getElem? hk
    rcases begs_iff.mp hb with rfl | ⟨x, hx, hp⟩
    · have : D[0]? = some D[0] := List.getElem?_eq_getElem (by omega)
      intro q
      have hm : D[0] ∈ mem_b D [] := mem_b_iff.mpr ⟨List.mem_of_getElem? this, List.nil_prefix⟩
      rw [q] at hm; simp at hm
    · intro q
      have hm : x ∈ mem_b D b := mem_b_iff.mpr ⟨hx, hp⟩
      rw [q] at hm; simp at hm
end PL3
