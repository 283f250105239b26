/-! NUMBERS of states; the machine is drawn -/
theorem idx_get {α : Type} [BEq α] [LawfulBEq α] : ∀ {l : List α} {s : Nat} {r : α}, l.Nodup → l[s]? = some r → l.idxOf r = s
  | [], s, r, _, h => by simp at h
  | x :: l, 0, r, _, h => by
    have : x = r := by simpa using h
    subst this
    simp [List.idxOf_cons]
  | x :: l, s + 1, r, hn, h => by
    have hn' := List.nodup_cons.mp hn
    have h' : l[s]? = some r := by simpa using h
    have hne : x ≠ r := fun q => hn'.1 (q ▸ List.mem_of_getElem? h')
    have hb : (x == r) = false := by simpa using hne
    rw [List.idxOf_cons, idx_get hn'.2 h', hb]
    rfl
section DRAW
variable {L : Nat} {st : ab_S} {D : Dc}
def rsK (D : Dc) (k : Nat) : List Dc := ded [] ((List.range k).map (rs D))
theorem rsK_all : rsK D (begs D).length = rsts D := by
  unfold rsK rsts
  congr 1
  apply List.ext_getElem?
  intro i
  by_cases hi : i < (begs D).length
  · rw [List.getElem?_map, List.getElem?_range hi, List.getElem?_map, nb_some hi]; rfl
  · rw [List.getElem?_eq_none (by simp; omega), List.getElem?_eq_none (by simp; omega)]
theorem rsK_succ {k : Nat} : rsK D (k + 1) = if rs D k ∈ rsK D k then rsK D k else rsK D k ++ [rs D k] := by
  have e : rsK D (k + 1) = ded (rsK D k) [rs D k] := by
    unfold rsK
    rw [List.range_succ, List.map_append, ded_app]
    rfl
  rw [e, ded_one]
  by_cases hm : rs D k ∈ rsK D k
  · rw [if_pos hm, if_pos hm]
  · rw [if_neg hm, if_neg hm]
theorem rsK_nd {k : Nat} : (rsK D k).Nodup := ded_nodup List.nodup_nil
theorem rsK_len : ∀ {k : Nat}, (rsK D k).length ≤ k
  | 0 => by simp [rsK, ded]
  | k + 1 => by
    have := rsK_len (k := k)
    rw [rsK_succ]
    split
    · omega
    · rw [List.length_append, List.length_singleton]; omega
def NS (st : ab_S) (D : Dc) (k : Nat) : Prop := sI st 6 14 = nI (rsK D k).length ∧ (∀ j, j < (begs D).length → (∃ s, (rsK D k)[s]? = some (rs D j) ∧ sI st 16 (rep D j) = nI s) ∨ (rs D j ∉ rsK D k ∧ sI st 16 (rep D j) = -1)) ∧ ∀ s r, (rsK D k)[s]? = some r → sI st 17 s = nI (repR D r)
theorem number_ok (h : okD D) (hF : FX st) (hsz : sI st 6 13 = nI (begs D).length) (hal : ∀ j, j < (begs D).length → sI st 14 j = nI (rep D j)) : ∃ st', f_X8_numberStates 6 st = some (none, st') ∧ upto (fun q => q = 6 ∨ q = 16 ∨ q = 17) st st' ∧ sI st' 6 13 = nI (begs D).length ∧ NS st' D (begs D).length := by
  have hn0 := begs_2401 h
  let s1 := uI st 6 14 0
  have F1 : FX s1 := hF
  have u1 : upto (fun q => q = 6 ∨ q = 16 ∨ q = 17) st s1 := upto_uI (Or.inl rfl)
  have z1 : sI s1 6 13 = nI (begs D).length := by show sI (uI st 6 14 0) 6 13 = _; rw [I_uI, if_neg (fun z => by omega)]; exact hsz
  have k7 : ∀ j k st1, (begs D).length - k = j → k ≤ (begs D).length → upto (fun q => q = 16) s1 st1 → (∀ i, i < k → sI st1 16 i = -1) → ∃ st2, L_X8_numberStates_7 6 (nI k) st1 = L_X8_numberStates_30 6 (nI 0) st2 ∧ upto (fun q => q = 16) s1 st2 ∧ ∀ i, i < (begs D).length → sI st2 16 i = -1 := by
    intro j
    induction j with
    | zero =>
      intro k st1 hj hk hu hi
      refine ⟨st1, ?_, hu, fun i hi' => hi i (by omega)⟩
      rw [e_X8_numberStates_7, i6 (FX_up F1 hu), Option.bind_some, (hu.2.2 6 (by omega)).1, z1, if_pos (by rw [c_le (by omega) (by omega)]; omega)]
      rfl
    | succ j ih =>
      intro k st1 hj hk hu hi
      have F2 := FX_up F1 hu
      rw [e_X8_numberStates_7, i6 F2, Option.bind_some, (hu.2.2 6 (by omega)).1, z1, if_neg (by rw [c_le (by omega) (by omega)]; omega), g6_9 F2, Option.bind_some, w16 F2 (by omega), Option.bind_some, nI_1]
      refine ih (k + 1) _ (by omega) (by omega) (upto_trans hu (upto_uI rfl)) (fun i hi' => ?_)
      rw [I_uI]
      by_cases hik : i = k
      · rw [if_pos ⟨rfl, hik⟩]
      · rw [if_neg (fun z => hik z.2)]; exact hi i (by omega)
  obtain ⟨s2, m1, m2, m3⟩ := k7 _ 0 s1 rfl (by omega) upto_rfl (fun i hi => by omega)
  have k30 : ∀ j k st1, (begs D).length - k = j → k ≤ (begs D).length → upto (fun q => q = 6 ∨ q = 16 ∨ q = 17) st st1 → sI st1 6 13 = nI (begs D).length → NS st1 D k → ∃ st2, L_X8_numberStates_30 6 (nI k) st1 = some (none, st2) ∧ upto (fun q => q = 6 ∨ q = 16 ∨ q = 17) st st2 ∧ sI st2 6 13 = nI (begs D).length ∧ NS st2 D (begs D).length := by
    intro j
    induction j with
    | zero =>
      intro k st1 hj hk hu hz hN
      have : k = (begs D).length := by omega
      subst this
      exact ⟨st1, by rw [e_X8_numberStates_30, i6 (FX_up hF hu), Option.bind_some, hz, if_pos (Int32.le_refl _)], hu, hz, hN⟩
    | succ j ih =>
      intro k st1 hj hk hu hz hN
      have F2 := FX_up hF hu
      have hkn : k < (begs D).length := by omega
      obtain ⟨rp1, rp2, rp3⟩ := rep_ok hkn
      obtain ⟨n1, n2, n3⟩ := hN
      have hkl := rsK_len (D := D) (k := k)
      rw [e_X8_numberStates_30, i6 F2, Option.bind_some, hz, if_neg (by rw [c_le (by omega) (by omega)]; omega), g6_7 F2, Option.bind_some, r14 F2 (by omega), Option.bind_some, (hu.2.2 14 (by omega)).1, hal k hkn, g6_9 F2, Option.bind_some, r16 F2 (by omega), Option.bind_some]
      rcases n2 k hkn with ⟨s, q1, q2⟩ | ⟨q1, q2⟩
      · have hsl := (List.getElem?_eq_some_iff.mp q1).1
        rw [q2, if_neg (by rw [c_m1e (by omega)]; exact id), e_X8_numberStates_85, nI_1]
        refine ih (k + 1) st1 (by omega) (by omega) hu hz ?_
        unfold NS
        rw [rsK_succ, if_pos (List.mem_of_getElem? q1)]
        exact ⟨n1, n2, n3⟩
      · let s8 := uI st1 16 (rep D k) (nI (rsK D k).length)
        let s11 := uI s8 17 (rsK D k).length (nI (rep D k))
        let s13 := uI s11 6 14 (nI ((rsK D k).length + 1))
        have F8 : FX s8 := F2
        have F11 : FX s11 := F2
        have e8 : sI s8 6 14 = nI (rsK D k).length := by show sI (uI st1 16 _ _) 6 14 = _; rw [I_uI, if_neg (fun z => by omega)]; exact n1
        have e11 : sI s11 6 14 = nI (rsK D k).length := by show sI (uI s8 17 _ _) 6 14 = _; rw [I_uI, if_neg (fun z => by omega)]; exact e8
        have u13 : upto (fun q => q = 6 ∨ q = 16 ∨ q = 17) st1 s13 := upto_trans (upto_uI (by omega)) (upto_trans (upto_uI (by omega)) (upto_uI (by omega)))
        have r16' : ∀ i, sI s13 16 i = if i = rep D k then nI (rsK D k).length else sI st1 16 i := fun i => by simp [s13, s11, s8, I_uI]
        have r17' : ∀ i, sI s13 17 i = if i = (rsK D k).length then nI (rep D k) else sI st1 17 i := fun i => by simp [s13, s11, s8, I_uI]
        rw [q2, if_pos rfl, Option.bind_some, i6 F2, Option.bind_some, n1, w16 F2 (by omega), Option.bind_some]
        show ∃ st2, (Option.bind (ab_gR s8 6 8 10) fun x9 => Option.bind (ab_gI s8 6 8 14) fun x10 => Option.bind (ab_wI s8 x9 x10 (nI (rep D k))) fun s11 => Option.bind (ab_gI s11 6 8 14) fun x12 => Option.bind (ab_pI s11 6 8 14 (x12 + 1)) fun s13 => L_X8_numberStates_85 6 (nI k) s13) = _ ∧ _
        rw [g6_10 F8, Option.bind_some, i6 F8, Option.bind_some, e8, w17 F8 (by omega), Option.bind_some]
        show ∃ st2, (Option.bind (ab_gI s11 6 8 14) fun x12 => Option.bind (ab_pI s11 6 8 14 (x12 + 1)) fun s13 => L_X8_numberStates_85 6 (nI k) s13) = _ ∧ _
        rw [i6 F11, Option.bind_some, e11, nI_1, p6 F11, Option.bind_some, e_X8_numberStates_85, nI_1]
        refine ih (k + 1) s13 (by omega) (by omega) (upto_trans hu u13) ?_ ?_
        · show sI (uI s11 6 14 _) 6 13 = _
          rw [I_uI, if_neg (fun z => by omega)]
          show sI (uI s8 17 _ _) 6 13 = _
          rw [I_uI, if_neg (fun z => by omega)]
          show sI (uI st1 16 _ _) 6 13 = _
          rw [I_uI, if_neg (fun z => by omega)]
          exact hz
        · unfold NS
          rw [rsK_succ, if_neg q1]
          refine ⟨?_, fun i hi => ?_, fun s r hs => ?_⟩
          · show sI (uI s11 6 14 _) 6 14 = _
            rw [I_uI, if_pos ⟨rfl, rfl⟩, List.length_append, List.length_singleton]
          · rw [r16']
            obtain ⟨ip1, ip2, -⟩ := rep_ok hi
            by_cases hr : rs D i = rs D k
            · left
              refine ⟨(rsK D k).length, ?_, ?_⟩
              · rw [List.getElem?_append_right (Nat.le_refl _), Nat.sub_self, hr]; rfl
              · rw [if_pos (by unfold rep; rw [hr])]
            · have hne : ¬ rep D i = rep D k := fun q => hr (by rw [← ip2, ← rp2, q])
              rw [if_neg hne]
              rcases n2 i hi with ⟨s, t1, t2⟩ | ⟨t1, t2⟩
              · exact Or.inl ⟨s, by rw [List.getElem?_append_left (List.getElem?_eq_some_iff.mp t1).1]; exact t1, t2⟩
              · refine Or.inr ⟨fun q => ?_, t2⟩
                rcases List.mem_append.mp q with q | q
                · exact t1 q
                · exact hr (List.mem_singleton.mp q)
          · rw [r17']
            by_cases hsl : s = (rsK D k).length
            · rw [if_pos hsl]
              rw [hsl, List.getElem?_append_right (Nat.le_refl _), Nat.sub_self] at hs
              cases hs
              rfl
            · rw [if_neg hsl]
              have := (List.getElem?_eq_some_iff.mp hs).1
              rw [List.length_append, List.length_singleton] at this
              rw [List.getElem?_append_left (by omega)] at hs
              exact n3 s r hs
  have u2 : upto (fun q => q = 6 ∨ q = 16 ∨ q = 17) st s2 := upto_trans u1 (upto_mono m2 (fun q hq => by omega))
  obtain ⟨s3, d1, d2, d3, d4⟩ := k30 _ 0 s2 rfl (by omega) u2 (by rw [(m2.2.2 6 (by omega)).1]; exact z1) ⟨by rw [(m2.2.2 6 (by omega)).1]; show sI (uI st 6 14 0) 6 14 = _; rw [I_uI, if_pos ⟨rfl, rfl⟩]; rfl, fun j hj => Or.inr ⟨by simp [rsK, ded], m3 _ (rep_ok hj).1⟩, fun s r hs => by simp [rsK, ded] at hs⟩
  refine ⟨s3, ?_, d2, d3, d4⟩
  rw [e_X8_numberStates_0, c6 hF, p6 hF, Option.bind_some]
  show L_X8_numberStates_7 6 (nI 0) s1 = _
  rw [m1, d1]
end DRAW
