/-! CALLS, first: the dictionary's number, what is collected -/
def setW (S : Sg) (w : List Nat) : Sg := (w, S.2)
def isD (d : Int32) : Prop := 0 ≤ d.toInt ∧ d.toInt < 4
theorem isD_cases (d : Int32) : ¬ isD d ∨ ∃ k, k < 4 ∧ d = nI k := by
  by_cases h : isD d
  · right
    rcases n_cases d with hn | ⟨n, hn, rfl⟩
    · have := Int32.lt_iff_toInt_lt.mp hn
      have h0 : (0 : Int32).toInt = 0 := rfl
      unfold isD at h
      omega
    · unfold isD at h
      rw [nI_toInt hn] at h
      exact ⟨n, by omega, rfl⟩
  · exact Or.inl h
theorem isD_n {k : Nat} (h : k < 4) : isD (nI k) := by unfold isD; rw [nI_toInt (by omega)]; omega
theorem cD_no {d : Int32} (h : ¬ isD d) (st : ab_S) : f_X10_isDictionary d st = some (some (.int 0), st) := by
  rw [e_X10_isDictionary_0, z_0, z_1]
  by_cases h1 : d < 0
  · rw [if_pos h1]
  · rw [if_neg h1, if_pos]
    have h0 : (0 : Int32).toInt = 0 := rfl
    have h4 : (4 : Int32).toInt = 4 := rfl
    unfold isD at h
    rw [Int32.lt_iff_toInt_lt, h0] at h1
    rw [Int32.le_iff_toInt_le, h4]
    omega
theorem cD_ok {k : Nat} (h : k < 4) (st : ab_S) : f_X10_isDictionary (nI k) st = some (some (.int 1), st) := by
  rw [e_X10_isDictionary_0, z_0, z_1, if_neg (nI_pos (by omega)), if_neg]
  rw [nl 4, c_le (by omega) (by omega)]
  omega
theorem cW_no {d : Int32} (h : ¬ isD d) (st : ab_S) : f_X10_isWalk d st = some (some (.int 0), st) := by
  have := cD_no h st
  rw [e_X10_isDictionary_0] at this
  rw [e_X10_isWalk_0]
  exact this
theorem cW_ok {k : Nat} (h : k < 4) (st : ab_S) : f_X10_isWalk (nI k) st = some (some (.int 1), st) := by
  have := cD_ok h st
  rw [e_X10_isDictionary_0] at this
  rw [e_X10_isWalk_0]
  exact this
theorem isIn_ok (x lo hi : Int64) (st : ab_S) : f_X11_isIn x lo hi st = some (some (.int (if lo.toInt ≤ x.toInt ∧ x.toInt ≤ hi.toInt then 1 else 0)), st) := by
  rw [e_X11_isIn_0, z_0, z_1]
  by_cases h1 : x < lo
  · have := Int64.lt_iff_toInt_lt.mp h1
    rw [if_pos ((lg_cmp_lt _ _).mpr h1), if_neg (by omega)]
  · have h4 : ¬ x.toInt < lo.toInt := fun q => h1 (Int64.lt_iff_toInt_lt.mpr q)
    rw [if_neg (fun q => h1 ((lg_cmp_lt _ _).mp q))]
    by_cases h2 : hi < x
    · have h3 := Int64.lt_iff_toInt_lt.mp h2
      rw [if_pos ((lg_cmp_gt _ _).mpr h2), if_neg (by omega)]
    · have h3 : ¬ hi.toInt < x.toInt := fun q => h2 (Int64.lt_iff_toInt_lt.mpr q)
      rw [if_neg (fun q => h2 ((lg_cmp_gt _ _).mp q)), if_pos (by omega)]
theorem isIn_i (x : Int32) (lo hi : Int64) (st : ab_S) : f_X11_isIn x.toInt64 lo hi st = some (some (.int (if lo.toInt ≤ x.toInt ∧ x.toInt ≤ hi.toInt then 1 else 0)), st) := by
  rw [isIn_ok, Int32.toInt_toInt64]
theorem pred_toInt {n : Nat} (h : n < 1000000) : ((nI n - (1 : Int32)).toInt64).toInt = (n : Int) - 1 := by
  rw [Int32.toInt_toInt64]
  exact pk_sub_toInt (a := n) (b := 1) (by omega) (by omega)
theorem mD_no {d : Int32} (h : ¬ isD d) (st : ab_S) : f_X11_isDictionary d st = some (some (.int 0), st) := by
  rw [e_X11_isDictionary_0, isIn_i, if_neg, ri_ok, z_0]
  have h0 : (0 : Int64).toInt = 0 := rfl
  have h3 : (3 : Int64).toInt = 3 := rfl
  unfold isD at h
  rw [h0, h3]
  omega
theorem mD_ok {k : Nat} (h : k < 4) (st : ab_S) : f_X11_isDictionary (nI k) st = some (some (.int 1), st) := by
  rw [e_X11_isDictionary_0, isIn_i, if_pos, ri_ok, z_1]
  have h0 : (0 : Int64).toInt = 0 := rfl
  have h3 : (3 : Int64).toInt = 3 := rfl
  rw [h0, h3, nI_toInt (by omega)]
  omega
theorem mW_no {d : Int32} (h : ¬ isD d) (st : ab_S) : f_X11_isIn d.toInt64 (0 : Int64) (3 : Int64) st = some (some (.int 0), st) := by
  rw [isIn_i, if_neg]
  have h0 : (0 : Int64).toInt = 0 := rfl
  have h3 : (3 : Int64).toInt = 3 := rfl
  unfold isD at h
  rw [h0, h3]
  omega
theorem mW_ok {k : Nat} (h : k < 4) (st : ab_S) : f_X11_isIn (nI k).toInt64 (0 : Int64) (3 : Int64) st = some (some (.int 1), st) := by
  rw [isIn_i, if_pos]
  have h0 : (0 : Int64).toInt = 0 := rfl
  have h3 : (3 : Int64).toInt = 3 := rfl
  rw [h0, h3, nI_toInt (by omega)]
  omega
theorem fx_2 : ∀ q ∈ fxr, q.1 = 2 → q.2.1 ≠ 12 ∧ q.2.1 ≠ 13 ∧ q.2.1 ≠ 14 := by decide +kernel
theorem fx_3 : ∀ q ∈ fxr, q.1 ≠ 3 := by decide +kernel
/-- takeCollected: the row is handed out, nothing is collected -/
theorem take_ok {L : Nat} {st : ab_S} {S : Sg} (h : CS L st S) : ∃ (c : Nat) (st' : ab_S), f_X10_takeCollected 2 st = some (some (.ref c), st') ∧ CS L st' (setW S []) ∧ isSg st' c 4000 (sW S) ∧ onC st st' ∧ (c = 62 ∨ c = 64) ∧ sR st' 2 12 ≠ c := by
  obtain ⟨hF, ⟨c, u, hcu, g1, g2, g3, w', g4⟩, h3, h4, h5, h6, h7, h8, h9⟩ := h
  have s2 : (sH st)[2]? = some (0, 10) := Fx_sh hF rfl
  have hne : c ≠ u ∧ c + 1 ≠ u ∧ u + 1 ≠ c ∧ c ≠ 2 ∧ u ≠ 2 ∧ c + 1 ≠ 2 ∧ u + 1 ≠ 2 := by omega
  have hu : (sH st)[u]? = some (0, 6) := g4.1
  refine ⟨c, uI (uR (uR st 2 12 u) 2 13 c) u 1 0, ?_, ?_, ?_, ?_, ?_, ?_⟩
  · have t2 : (sH (uR st 2 12 u))[2]? = some (0, 10) := s2
    have t3 : (sH (uR (uR st 2 12 u) 2 13 c))[2]? = some (0, 10) := s2
    have hg4 : isSg (uR (uR st 2 12 u) 2 13 c) u 4000 w' := isSg_mono g4 rfl (by simp [R_uR, hne.2.2.2.2.1]) ⟨rfl, rfl⟩ ⟨rfl, rfl⟩
    rw [e_X10_takeCollected_0, rc_ok s2, gR_ok s2, Option.bind_some, gR_ok s2, Option.bind_some, g1, g2, pR_ok s2, Option.bind_some, pR_ok t2, Option.bind_some, gR_ok t3, Option.bind_some]
    have : sR (uR (uR st 2 12 u) 2 13 c) 2 12 = u := by simp [R_uR]
    rw [this, (clear_ok hg4).1, rv_ok]
  · have eA : ∀ o, o ≠ 2 → o ≠ u → eqA st (uI (uR (uR st 2 12 u) 2 13 c) u 1 0) o := fun o h2 hu' => ⟨by funext k; simp [I_uI, I_uR, hu'], rfl, by funext k; simp [R_uI, R_uR, h2]⟩
    have eI : sI (uI (uR (uR st 2 12 u) 2 13 c) u 1 0) 2 = sI st 2 := by
      have h2u : ¬ (2 = u) := fun q => hne.2.2.2.2.1 q.symm
      funext k
      simp [I_uI, I_uR, h2u]
    refine ⟨⟨hF.1, fun q hq => ?_⟩, ?_, ?_, ?_, ?_, ?_, ?_, ?_, ?_⟩
    · have hx := fx_2 q hq
      show sR (uR (uR st 2 12 u) 2 13 c) q.1 q.2.1 = _
      rw [R_uR, R_uR, if_neg (fun z => (hx z.1).2.1 z.2), if_neg (fun z => (hx z.1).1 z.2)]
      exact hF.2 q hq
    · have hg4 : isSg (uR (uR st 2 12 u) 2 13 c) u 4000 w' := isSg_mono g4 rfl (by simp [R_uR, hne.2.2.2.2.1]) ⟨rfl, rfl⟩ ⟨rfl, rfl⟩
      refine ⟨u, c, by omega, ?_, ?_, (clear_ok hg4).2, sW S, ?_⟩
      · simp [R_uI, R_uR]
      · simp [R_uI, R_uR]
      · exact isSg_eq g3 rfl (eA c (by omega) (by omega)) (eA (c + 1) (by omega) (by omega))
    · obtain ⟨p, p1, p2, p3, p4, p5⟩ := h3
      refine ⟨p, p1, p2, fun d hd => ?_, ?_, fun d hd => ?_⟩
      · rw [(eA 3 (by omega) (by omega)).2.2]; exact p3 d hd
      · show sR (uR (uR st 2 12 u) 2 13 c) 2 14 = _
        rw [R_uR, R_uR, if_neg (by omega), if_neg (by omega)]; exact p4
      · have := dO_lt (p1 d (by omega))
        exact dicC_eq (p5 d hd) rfl (fun q hq1 hq2 => eA q (by omega) (by omega))
    · intro d hd; rw [(eA 4 (by omega) (by omega)).1]; exact h4 d hd
    · intro k hk; rw [(eA (126 + k) (by omega) (by omega)).1]; exact h5 k hk
    · rw [eI, (eA 61 (by omega) (by omega)).1]; exact h6
    · rw [eI]; exact h7
    · exact isSg_eq h8 rfl (eA 57 (by omega) (by omega)) (eA 58 (by omega) (by omega))
    · obtain ⟨w, hw⟩ := h9
      exact ⟨w, isSg_eq hw rfl (eA 59 (by omega) (by omega)) (eA 60 (by omega) (by omega))⟩
  · exact isSg_eq g3 rfl ⟨by funext k; have := hne.1; simp [I_uI, I_uR, this], rfl, by funext k; have := hne.2.2.2.1; simp [R_uI, R_uR, this]⟩ ⟨by funext k; have := hne.2.1; simp [I_uI, I_uR, this], rfl, by funext k; have := hne.2.2.2.2.2.1; simp [R_uI, R_uR, this]⟩
  · refine ⟨rfl, fun o ho => ?_⟩
    have q1 : o ≠ u := by omega
    have q2 : o ≠ 2 := by omega
    exact ⟨by funext k; simp [I_uI, I_uR, q1], rfl, by funext k; simp [R_uI, R_uR, q2]⟩
  · omega
  · simp [R_uI, R_uR]; omega
theorem forgetM_ok {L : Nat} {st : ab_S} {S : Sg} (h : MS L st S) : f_X11_forget 130 st = some (some (.int (nI (sW S).length)), uI st 130 1 0) ∧ MS L (uI st 130 1 0) (setW S []) ∧ mRow (uI st 130 1 0) (sW S) ∧ onM st (uI st 130 1 0) := by
  obtain ⟨hF, h2, h3, h4, h5, h6, h7, h8⟩ := h
  have s : (sH st)[130]? = some (0, 11) := Fx_sh hF rfl
  have hu : upto (fun q => q = 130) st (uI st 130 1 0) := upto_uI rfl
  have ne : ∀ o, o ≠ 130 → sI (uI st 130 1 0) o = sI st o := fun o ho => (hu.2.2 o ho).1
  refine ⟨?_, ⟨Fx_up hF hu, ⟨?_, fun k s hk => by simp [setW, sW] at hk, by simp [setW, sW]⟩, fun d hd => ⟨isMd_up (h3 d hd).1 hu (by decide) (by decide) (by decide) (by decide), by rw [ne 136 (by decide)]; exact (h3 d hd).2⟩, fun d hd => by rw [ne 137 (by decide)]; exact h4 d hd, fun k hk => by rw [ne 140 (by decide), ne 141 (by decide), ne 142 (by decide), ne 143 (by decide)]; exact h5 k hk, ?_, ?_, ?_⟩, mRow_up h2.2 hu (by decide), onM_up hu (fun o ho => by omega)⟩
  · rw [e_X11_forget_0, rc_ok s, gI_ok s, Option.bind_some, pI_ok s, Option.bind_some, h2.1]
  · simp [I_uI, setW, sW]; rfl
  · refine ⟨?_, fun k t hk => by rw [ne 138 (by decide)]; exact h6.2 k t hk⟩
    rw [I_uI, if_neg (by decide)]; exact h6.1
  · rw [I_uI, if_neg (by decide)]; exact h7
  · refine ⟨?_, fun k t hk => by rw [ne 139 (by decide)]; exact h8.2 k t hk⟩
    rw [I_uI, if_neg (by decide)]; exact h8.1
