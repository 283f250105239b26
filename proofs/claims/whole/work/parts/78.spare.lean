/-! THE CLASS: the spare dictionary takes another's place; join -/
section SPARE
variable {L : Nat} {st : ab_S} {S : Sg}
theorem CS_sp (h : CS L st S) {W : Nat → Prop} {st' : ab_S} {o : Nat} (ho : sR st 2 14 = o) (hu : upto W st st') (hW : ∀ q, W q → (scr q ∧ q ≠ 2) ∨ (o ≤ q ∧ q ≤ o + 11)) : CS L st' S := by
  obtain ⟨hF, h2, ⟨p, p1, p2, p3, p4, p5⟩, h4, h5, h6, h7, h8, w, h9⟩ := h
  have hp4 : p 4 = o := p4.symm.trans ho
  have ho4 : o ∈ dO := hp4 ▸ p1 4 (by omega)
  have hol := dO_lt ho4
  have hn' : ∀ q, ¬ ((scr q ∧ q ≠ 2) ∨ (o ≤ q ∧ q ≤ o + 11)) → ¬ W q := fun q hq w => hq (hW q w)
  have hs : ∀ q, q < 66 → 57 ≤ q ∨ q < 6 → ¬ W q := fun q h1 h2 => hn' q (by unfold scr; omega)
  have hk : ∀ q, 126 ≤ q → q < 130 → ¬ W q := fun q h1 h2 => hn' q (by unfold scr; omega)
  refine ⟨Fx_up hF hu, ccol_up h2 hu (fun q _ _ => hs q (by omega) (by omega)), ⟨p, p1, p2, fun d hd => by rw [hu.2.1]; exact p3 d hd, by rw [hu.2.1]; exact p4, fun d hd => ?_⟩, fun e he => by rw [(hu.2.2 4 (hs 4 (by omega) (by omega))).1]; exact h4 e he, cwk_up h5 hu (fun q _ _ => hk q (by omega) (by omega)), ⟨by rw [(hu.2.2 2 (hs 2 (by omega) (by omega))).1]; exact h6.1, fun k t hk => by rw [(hu.2.2 61 (hs 61 (by omega) (by omega))).1]; exact h6.2 k t hk⟩, by rw [(hu.2.2 2 (hs 2 (by omega) (by omega))).1]; exact h7, isSg_up h8 hu (hs _ (by omega) (by omega)) (hs _ (by omega) (by omega)), w, isSg_up h9 hu (hs _ (by omega) (by omega)) (hs _ (by omega) (by omega))⟩
  have h1 := dO_lt (p1 d (by omega))
  have h2 := dO_far (p1 d (by omega)) ho4 (fun q => by have := p2 d 4 (by omega) (by omega) (q.trans hp4.symm); omega)
  exact dicC_eq (p5 d hd) hu.1 (fun q _ _ => eqA_up hu (hn' q (by unfold scr; omega)))
theorem dO_sh {o : Nat} (hF : Fx L st) (ho : o ∈ dO) : (sH st)[o]? = some (0, 0) ∧ sR st o 0 = o + 1 ∧ sR st o 1 = o + 5 := by
  have sh : ∀ o, o ∈ dO → (S0 L)[o]? = some (0, 0) := by
    intro o ho
    simp only [dO, List.mem_cons, List.not_mem_nil, or_false] at ho
    rcases ho with rfl | rfl | rfl | rfl | rfl <;> rfl
  have r0 : ∀ o, o ∈ dO → (o, 0, o + 1) ∈ fxr := by decide +kernel
  have r1 : ∀ o, o ∈ dO → (o, 1, o + 5) ∈ fxr := by decide +kernel
  exact ⟨Fx_sh hF (sh o ho), Fx_rf hF (r0 o ho), Fx_rf hF (r1 o ho)⟩
theorem sp_at (h : CS L st S) : sR st 2 14 ∈ dO := by
  obtain ⟨hF, h2, ⟨p, p1, p2, p3, p4, p5⟩, -⟩ := h
  rw [p4]; exact p1 4 (by omega)
theorem spare_ok (h : CS L st S) {k o : Nat} {D : Dc} (hk : k < 4) (ho : sR st 2 14 = o) (hT : isTm st (o + 1) D) (hM : isMc st (o + 5) (mach D)) : ∃ st', f_X10_putSpareAt 2 (nI k) st = some (none, st') ∧ CS L st' (setAge (setDic S k D false) k) ∧ onC st st' := by
  have s2 := sh2 h
  have r20 := rf2_0 h
  obtain ⟨hF, h2, ⟨p, p1, p2, p3, p4, p5⟩, h4, h5, h6, h7, h8, w, h9⟩ := h
  have hp4 : p 4 = o := p4.symm.trans ho
  have ho4 : o ∈ dO := hp4 ▸ p1 4 (by omega)
  have hol := dO_lt ho4
  have hok := dO_lt (p1 k (by omega))
  obtain ⟨z1, z2, z3⟩ := dO_sh hF ho4
  let s1 := uI st o 2 0
  let s2' := uR s1 3 k o
  let s3 := uR s2' 2 14 (p k)
  let s4 := uI s3 4 k (sA S k + 1)
  have eA : ∀ q, q ≠ o → q ≠ 3 → q ≠ 2 → q ≠ 4 → eqA st s4 q := by
    intro q n1 n2 n3 n4
    refine ⟨?_, rfl, ?_⟩
    · funext b
      show sI (uI (uR (uR (uI st o 2 0) 3 k o) 2 14 (p k)) 4 k (sA S k + 1)) q b = _
      rw [I_uI, if_neg (fun z => n4 z.1), I_uR, I_uR, I_uI, if_neg (fun z => n1 z.1)]
    · funext b
      show sR (uI (uR (uR (uI st o 2 0) 3 k o) 2 14 (p k)) 4 k (sA S k + 1)) q b = _
      rw [R_uI, R_uR, if_neg (fun z => n3 z.1), R_uR, if_neg (fun z => n2 z.1), R_uI]
  have eI2 : sI s4 2 = sI st 2 := by
    funext b
    show sI (uI (uR (uR (uI st o 2 0) 3 k o) 2 14 (p k)) 4 k (sA S k + 1)) 2 b = _
    rw [I_uI, if_neg (fun z => by omega), I_uR, I_uR, I_uI, if_neg (fun z => by omega)]
  have eI4 : ∀ e, sI s4 4 e = if e = k then sA S k + 1 else sI st 4 e := by
    intro e
    show sI (uI (uR (uR (uI st o 2 0) 3 k o) 2 14 (p k)) 4 k (sA S k + 1)) 4 e = _
    rw [I_uI, I_uR, I_uR, I_uI, if_neg (c := 4 = o ∧ e = 2) (fun z => by omega)]
    simp
  have eR2 : ∀ b, sR s4 2 b = if b = 14 then p k else sR st 2 b := by
    intro b
    show sR (uI (uR (uR (uI st o 2 0) 3 k o) 2 14 (p k)) 4 k (sA S k + 1)) 2 b = _
    rw [R_uI, R_uR, R_uR, if_neg (c := 2 = 3 ∧ b = k) (fun z => by omega), R_uI]
    simp
  have eR3 : ∀ b, sR s4 3 b = if b = k then o else sR st 3 b := by
    intro b
    show sR (uI (uR (uR (uI st o 2 0) 3 k o) 2 14 (p k)) 4 k (sA S k + 1)) 3 b = _
    rw [R_uI, R_uR, if_neg (c := 3 = 2 ∧ b = 14) (fun z => by omega), R_uR, R_uI]
    simp
  have eo : eqo st s1 (o + 1) ∧ True := ⟨⟨(uI_oth (o + 1) (by omega)).1, rfl⟩, trivial⟩
  have eRo : ∀ q, q ≠ 2 → q ≠ 3 → sR s4 q = sR st q := by
    intro q n1 n2
    funext b
    show sR (uI (uR (uR (uI st o 2 0) 3 k o) 2 14 (p k)) 4 k (sA S k + 1)) q b = _
    rw [R_uI, R_uR, if_neg (fun z => n1 z.1), R_uR, if_neg (fun z => n2 z.1), R_uI]
  have hF4 : Fx L s4 := by
    refine ⟨hF.1, fun q hq => ?_⟩
    have hx := fx_2 q hq
    have hy := fx_3 q hq
    by_cases hq2 : q.1 = 2
    · rw [hq2, eR2, if_neg (hx hq2).2.2, ← hq2]; exact hF.2 q hq
    · rw [eRo q.1 hq2 hy]; exact hF.2 q hq
  refine ⟨s4, ?_, ⟨hF4, ?_, ?_, ?_, ?_, ?_, ?_, ?_, ?_⟩, rfl, fun q hq => eA q (by omega) (by omega) (by omega) (by omega)⟩
  · have g1 : (sH st)[3]? = some (8, 4) := Fx_sh hF rfl
    have t2 : (sH s1)[2]? = some (0, 10) := s2
    have t2' : (sH s2')[2]? = some (0, 10) := s2
    have t3 : (sH s3)[2]? = some (0, 10) := s2
    have r1 : sR s1 2 0 = 3 := r20
    have r2 : sR s1 2 14 = o := ho
    have r3 : sR s3 2 1 = 4 := by
      show sR (uR (uR (uI st o 2 0) 3 k o) 2 14 (p k)) 2 1 = _
      rw [R_uR, if_neg (fun z => by omega), R_uR, if_neg (fun z => by omega), R_uI]
      exact Fx_rf hF (v := 4) (by decide)
    have h44 : sI s3 4 k = sA S k := by
      show sI (uR (uR (uI st o 2 0) 3 k o) 2 14 (p k)) 4 k = _
      rw [I_uR, I_uR, I_uI, if_neg (fun z => by omega)]
      exact h4 k hk
    have g4 : (sH s3)[4]? = some (1, 4) := Fx_sh hF (o := 4) rfl
    rw [e_X10_putSpareAt_0, rc_ok s2, gR_ok s2, Option.bind_some, r20, rR_ok g1 (by decide) (by omega) (by omega), Option.bind_some, p3 k hk, gR_ok s2, Option.bind_some, ho, pZ_0 z1, Option.bind_some]
    show Option.bind (ab_gR s1 2 10 0) _ = _
    have g1' : (sH s1)[3]? = some (8, 4) := g1
    have z1' : (sH s1)[o]? = some (0, 0) := z1
    rw [gR_ok t2, Option.bind_some, gR_ok t2, Option.bind_some, r1, r2, wR_ok (c := 0) g1' (by omega) (by omega) z1', Option.bind_some]
    show Option.bind (ab_pR s2' 2 10 14 (p k)) _ = _
    rw [pR_ok t2', Option.bind_some]
    show Option.bind (ab_gR s3 2 10 1) _ = _
    rw [gR_ok t3, Option.bind_some, r3, rI_ok g4 (by omega) (by omega), Option.bind_some, h44, wI_ok g4 (by omega) (by omega), Option.bind_some]
  · obtain ⟨c, u, hcu, g1, g2, g3, w', g4⟩ := h2
    exact ⟨c, u, hcu, by rw [eR2]; exact g1, by rw [eR2]; exact g2, isSg_eq g3 rfl (eA c (by omega) (by omega) (by omega) (by omega)) (eA (c + 1) (by omega) (by omega) (by omega) (by omega)), w', isSg_eq g4 rfl (eA u (by omega) (by omega) (by omega) (by omega)) (eA (u + 1) (by omega) (by omega) (by omega) (by omega))⟩
  · refine ⟨fun i => if i = k then p 4 else if i = 4 then p k else p i, fun i hi => ?_, fun i j hi hj e => ?_, fun d hd => ?_, ?_, fun d hd => ?_⟩
    · dsimp only
      split
      · exact p1 4 (by omega)
      · split
        · exact p1 k (by omega)
        · exact p1 i hi
    · dsimp only at e
      by_cases ik : i = k
      · by_cases jk : j = k
        · omega
        · rw [if_pos ik, if_neg jk] at e
          by_cases j4 : j = 4
          · rw [if_pos j4] at e
            have := p2 4 k (by omega) (by omega) e; omega
          · rw [if_neg j4] at e
            have := p2 4 j (by omega) hj e; omega
      · by_cases jk : j = k
        · rw [if_neg ik, if_pos jk] at e
          by_cases i4 : i = 4
          · rw [if_pos i4] at e
            have := p2 k 4 (by omega) (by omega) e; omega
          · rw [if_neg i4] at e
            have := p2 i 4 hi (by omega) e; omega
        · rw [if_neg ik, if_neg jk] at e
          by_cases i4 : i = 4
          · by_cases j4 : j = 4
            · omega
            · rw [if_pos i4, if_neg j4] at e
              have := p2 k j (by omega) hj e; omega
          · by_cases j4 : j = 4
            · rw [if_neg i4, if_pos j4] at e
              have := p2 i k hi (by omega) e; omega
            · rw [if_neg i4, if_neg j4] at e
              exact p2 i j hi hj e
    · dsimp only
      rw [eR3]
      by_cases dk : d = k
      · rw [if_pos dk, if_pos dk, hp4]
      · rw [if_neg dk, if_neg dk, if_neg (by omega)]
        exact p3 d hd
    · dsimp only
      rw [eR2, if_pos rfl, if_neg (by omega), if_pos rfl]
    · dsimp only
      show dicC s4 _ (up1 (sD S) k D d) (up1 (sO S) k false d)
      by_cases dk : d = k
      · subst dk
        rw [if_pos rfl, up1_s, up1_s, hp4]
        have e1 : ∀ q, o < q → q ≤ o + 11 → eqA st s4 q := fun q _ _ => eA q (by omega) (by omega) (by omega) (by omega)
        refine ⟨isTm_eq hT rfl (e1 _ (by omega) (by omega)) (e1 _ (by omega) (by omega)) (e1 _ (by omega) (by omega)) (e1 _ (by omega) (by omega)), ?_, fun _ => isMc_eq hM (e1 _ (by omega) (by omega)) (e1 _ (by omega) (by omega)) (e1 _ (by omega) (by omega)) (e1 _ (by omega) (by omega)) (e1 _ (by omega) (by omega)) (e1 _ (by omega) (by omega)) (e1 _ (by omega) (by omega))⟩
        show sI (uI (uR (uR (uI st o 2 0) 3 d o) 2 14 (p d)) 4 d (sA S d + 1)) o 2 = _
        rw [I_uI, if_neg (fun z => by omega), I_uR, I_uR, I_uI, if_pos ⟨rfl, rfl⟩]
        rfl
      · rw [if_neg dk, if_neg (show ¬ d = 4 by omega), up1_o dk, up1_o dk]
        have h1 := dO_lt (p1 d (by omega))
        have h2 := dO_far (p1 d (by omega)) ho4 (fun q => by have := p2 d 4 (by omega) (by omega) (q.trans hp4.symm); omega)
        exact dicC_eq (p5 d hd) rfl (fun q _ _ => eA q (by omega) (by omega) (by omega) (by omega))
  · intro e he
    rw [eI4]
    show _ = up1 (sA S) k (sA S k + 1) e
    by_cases ek : e = k
    · subst ek; rw [if_pos rfl, up1_s]
    · rw [if_neg ek, up1_o ek]; exact h4 e he
  · intro e he
    rw [(eA (126 + e) (by omega) (by omega) (by omega) (by omega)).1]; exact h5 e he
  · exact ⟨by rw [eI2]; exact h6.1, fun j t hj => by rw [(eA 61 (by omega) (by omega) (by omega) (by omega)).1]; exact h6.2 j t hj⟩
  · rw [eI2]; exact h7
  · exact isSg_eq h8 rfl (eA _ (by omega) (by omega) (by omega) (by omega)) (eA _ (by omega) (by omega) (by omega) (by omega))
  · exact ⟨w, isSg_eq h9 rfl (eA _ (by omega) (by omega) (by omega) (by omega)) (eA _ (by omega) (by omega) (by omega) (by omega))⟩
/-- the spare terms, cleared -/
theorem sp_clear (hF : Fx L st) {o : Nat} (ho : o ∈ dO) : isTm (uI st (o + 1) 3 0) (o + 1) [] := by
  have sh : ∀ o, o ∈ dO → (S0 L)[o + 1]? = some (0, 7) ∧ (S0 L)[o + 1 + 1]? = some (1, 200) ∧ (S0 L)[o + 1 + 2]? = some (1, 2400) ∧ (S0 L)[o + 1 + 3]? = some (2, 200) := by
    intro o ho
    simp only [dO, List.mem_cons, List.not_mem_nil, or_false] at ho
    rcases ho with rfl | rfl | rfl | rfl | rfl <;> exact ⟨rfl, rfl, rfl, rfl⟩
  have r0 : ∀ o, o ∈ dO → (o + 1, 0, o + 1 + 1) ∈ fxr ∧ (o + 1, 1, o + 1 + 2) ∈ fxr ∧ (o + 1, 2, o + 1 + 3) ∈ fxr := by decide +kernel
  obtain ⟨a1, a2, a3, a4⟩ := sh o ho
  obtain ⟨b1, b2, b3⟩ := r0 o ho
  refine ⟨Fx_sh hF a1, Fx_sh hF a2, Fx_sh hF a3, Fx_sh hF a4, Fx_rf hF b1, Fx_rf hF b2, Fx_rf hF b3, ?_, by simp, fun t x hx => by simp at hx⟩
  rw [I_uI, if_pos ⟨rfl, rfl⟩]; rfl
theorem uI_uI {o k : Nat} {v : Int32} : uI (uI st o k v) o k v = uI st o k v := by
  have : (uI (uI st o k v) o k v).1 = (uI st o k v).1 := by
    funext a b
    show sI (uI (uI st o k v) o k v) a b = sI (uI st o k v) a b
    rw [I_uI]
    by_cases h : a = o ∧ b = k
    · rw [if_pos h, I_uI, if_pos h]
    · rw [if_neg h]
  exact Prod.ext this rfl
theorem C_join (h : CS L st S) (hwf : wfS S) (a b c how : Int32) : ∃ st', f_X10_join 2 a b c how st = some (some (.int (a_join S a b c how).1), st') ∧ CS L st' (a_join S a b c how).2 ∧ onC st st' := by
  unfold a_join
  rcases isD_cases a with hd | ⟨a, ha, rfl⟩
  · rw [withD_no hd]
    exact ⟨st, by rw [e_X10_join_0, rc_ok (sh2 h), cD_no hd, ri_ok, if_pos rfl], h, onC_rfl⟩
  rw [withD_n ha]
  rcases isD_cases b with hd | ⟨b, hb, rfl⟩
  · rw [withD_no hd]
    exact ⟨st, by rw [e_X10_join_0, rc_ok (sh2 h), cD_ok ha, ri_ok, if_neg (by decide), cD_no hd, ri_ok, if_pos rfl], h, onC_rfl⟩
  rw [withD_n hb]
  rcases isD_cases c with hd | ⟨c, hc, rfl⟩
  · rw [withD_no hd]
    exact ⟨st, by rw [e_X10_join_0, rc_ok (sh2 h), cD_ok ha, ri_ok, if_neg (by decide), cD_ok hb, ri_ok, if_neg (by decide), cD_no hd, ri_ok, if_pos rfl], h, onC_rfl⟩
  rw [withD_n hc]
  rcases isD_cases how with hd | ⟨how, hh, rfl⟩
  · rw [withD_no hd, e_X10_join_0, rc_ok (sh2 h), cD_ok ha, ri_ok, if_neg (by decide), cD_ok hb, ri_ok, if_neg (by decide), cD_ok hc, ri_ok, if_neg (by decide)]
    refine ⟨st, ?_, h, onC_rfl⟩
    by_cases h0 : how < 0
    · rw [if_pos h0]
    · rw [if_neg h0, if_neg]
      intro q
      apply hd
      have h0' : (0 : Int32).toInt = 0 := rfl
      have h4 : (4 : Int32).toInt = 4 := rfl
      rw [Int32.lt_iff_toInt_lt, h0'] at h0
      rw [Int32.lt_iff_toInt_lt, h4] at q
      unfold isD
      omega
  rw [withD_n hh, e_X10_join_0, rc_ok (sh2 h), cD_ok ha, ri_ok, if_neg (by decide), cD_ok hb, ri_ok, if_neg (by decide), cD_ok hc, ri_ok, if_neg (by decide), if_neg (nI_pos (by omega)), if_pos (by rw [nl 4, c_lt (by omega) (by omega)]; exact hh)]
  obtain ⟨oa, hoa, a0, a1, a2, a3, a4, a5⟩ := dic_rf h ha
  obtain ⟨ob, hob, b0, b1, b2, b3, b4, b5⟩ := dic_rf h hb
  rw [gR_ok (sh2 h), Option.bind_some, rf2_0 h, a1, Option.bind_some, gI_ok a2, Option.bind_some, a5.2.1]
  by_cases h1 : sO S a = false
  · rw [bi0 h1, if_pos h1, Option.bind_some, b1, Option.bind_some, gI_ok b2, Option.bind_some, b5.2.1]
    by_cases h2 : sO S b = false
    · rw [bi0 h2, if_pos h2, gR_ok (sh2 h), Option.bind_some]
      have hso := sp_at h
      generalize hspo : sR st 2 14 = o at hso
      have hol := dO_lt hso
      obtain ⟨z1, z2, z3⟩ := dO_sh h.1 hso
      have far : ∀ d, d < 4 → ∀ od, sR st 3 d = od → od + 11 < o ∨ o + 11 < od := by
        intro d hd od e
        obtain ⟨-, -, ⟨p, p1, p2, p3, p4, p5⟩, -⟩ := h
        rw [← e, p3 d hd, ← hspo, p4]
        exact dO_far (p1 d (by omega)) (p1 4 (by omega)) (fun q => by have := p2 d 4 (by omega) (by omega) q; omega)
      have fa := far a ha oa a0
      have fb := far b hb ob b0
      rw [gR_ok z1, Option.bind_some, z2, Option.bind_some, a1, Option.bind_some, gR_ok a2, Option.bind_some, a3, Option.bind_some, b1, Option.bind_some, gR_ok b2, Option.bind_some, b3]
      have u0 : upto (fun q => q = o + 1) st (uI st (o + 1) 3 0) := upto_uI rfl
      have hT0 := sp_clear h.1 hso
      have hA0 := isTm_up a5.1 u0 (by omega) (by omega) (by omega) (by omega)
      have hB0 := isTm_up b5.1 u0 (by omega) (by omega) (by omega) (by omega)
      obtain ⟨s1, g1, g2, g3⟩ := gather_cls hh hT0 hA0 hB0 (by omega) (by omega)
      have eg : f_X7_gather (o + 1) (oa + 1) (ob + 1) (nI how) st = f_X7_gather (o + 1) (oa + 1) (ob + 1) (nI how) (uI st (o + 1) 3 0) := by
        have q1 : (sH st)[o + 1]? = some (0, 7) := hT0.1
        rw [e_X7_gather_0, e_X7_gather_0, rc_ok q1, rc_ok hT0.1, (clearT_ok hT0).1, e_X7_clear_0, rc_ok q1, pI_ok q1, Option.bind_some, uI_uI]
      rw [eg, g1, ri_ok]
      have u1 : upto (fun q => o + 1 ≤ q ∧ q ≤ o + 4) st s1 := upto_trans (upto_mono u0 (fun q hq => by omega)) (upto_mono g2 (fun q hq => by omega))
      have C1 : CS L s1 S := CS_sp h hspo u1 (fun q hq => Or.inr (by omega))
      by_cases hj : jans (joinD how (sD S a) (sD S b)) < 0
      · rw [if_pos hj]
        simp only [hj, if_true]
        exact ⟨s1, rfl, C1, onC_up u1 (fun q hq => by omega)⟩
      · rw [if_neg hj]
        simp only [hj, if_false]
        have hT1 := g3 hj
        have hsp1 : sR s1 2 14 = o := by rw [u1.2.1]; exact hspo
        obtain ⟨s2, c1, c2, c3⟩ := build_ok C1.1 hso hT1 (joinD_srt (hwf.2.1 a ha) (hwf.2.1 b hb))
        have C2 : CS L s2 S := CS_sp C1 hsp1 c2 (fun q hq => by unfold scr; omega)
        have hsp2 : sR s2 2 14 = o := by rw [c2.2.1]; exact hsp1
        obtain ⟨s3, d1, d2, d3⟩ := spare_ok C2 hc hsp2 (isTm_up hT1 c2 (by omega) (by omega) (by omega) (by omega)) c3
        refine ⟨s3, ?_, d2, onC_trans (onC_up u1 (fun q hq => by omega)) (onC_trans (onC_up c2 (fun q hq => by omega)) d3)⟩
        rw [gR_ok (sh2 C1), Option.bind_some, Fx_rf C1.1 (v := 6) (by decide), gR_ok (sh2 C1), Option.bind_some, hsp1, c1, rv_ok, d1, rv_ok]
    · rw [bi1 h2, if_neg h2]
      exact ⟨st, rfl, h, onC_rfl⟩
  · rw [bi1 h1, if_neg h1]
    exact ⟨st, rfl, h, onC_rfl⟩
theorem W_join (h : wfS S) (a b c how : Int32) : wfS (a_join S a b c how).2 := by
  unfold a_join
  rcases isD_cases a with hd | ⟨a, ha, rfl⟩
  · rw [withD_no hd]; exact h
  rw [withD_n ha]
  rcases isD_cases b with hd | ⟨b, hb, rfl⟩
  · rw [withD_no hd]; exact h
  rw [withD_n hb]
  rcases isD_cases c with hd | ⟨c, hc, rfl⟩
  · rw [withD_no hd]; exact h
  rw [withD_n hc]
  rcases isD_cases how with hd | ⟨how, hh, rfl⟩
  · rw [withD_no hd]; exact h
  rw [withD_n hh]
  by_cases h1 : sO S a = false
  · rw [if_pos h1]
    by_cases h2 : sO S b = false
    · rw [if_pos h2]
      dsimp only
      split
      · exact h
      · exact wf_age (wf_dic h (joinD_srt (h.2.1 a ha) (h.2.1 b hb)))
    · rw [if_neg h2]; exact h
  · rw [if_neg h1]; exact h
end SPARE
