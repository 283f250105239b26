/-! THE START: both are new; the law answers 1 -/
def S_0 : Sg := ([], fun _ => [], fun _ => false, fun _ => 0, fun _ => (-1, 0, 0, 0), [], -1, [])
section INIT
variable {g : Nat → Int32} {L : Nat}
theorem i_I {o k : Nat} (ho : o ≠ 1) : sI (den g L sM3) o k = lk 0 sM3.2.1 o k := by
  show lk (if o = 1 then g k else 0) sM3.2.1 o k = _
  rw [if_neg ho]
theorem i_R {o k : Nat} : sR (den g L sM3) o k = lk 0 sM3.2.2.2 o k := rfl
theorem i_J {o k : Nat} : sJ (den g L sM3) o k = lk 0 sM3.2.2.1 o k := rfl
theorem i_H : sM3.1 = (S0 0).drop 2 := by decide +kernel
theorem i_Fx : Fx L (den g L sM3) := by
  refine ⟨?_, ?_⟩
  · show (6, 0) :: (7, L) :: sM3.1 = S0 L
    rw [i_H]
    rfl
  · have h : ∀ q ∈ fxr, lk 0 sM3.2.2.2 q.1 q.2.1 = q.2.2 := by decide +kernel
    exact h
theorem i_Sg {o room : Nat} (hr : room < 100000) (h1 : (S0 L)[o]? = some (0, 6)) (h2 : (S0 L)[o + 1]? = some (1, room)) (h3 : lk 0 sM3.2.2.2 o 0 = o + 1) (h4 : lk 0 sM3.2.1 o 1 = 0) (ho : o ≠ 1) : isSg (den g L sM3) o room [] := by
  have hF := i_Fx (g := g) (L := L)
  refine ⟨Fx_sh hF h1, Fx_sh hF h2, h3, ?_, fun k s _ h => by simp at h, fun s h => by simp at h, hr, by decide⟩
  rw [i_I ho, h4]
  rfl
theorem mach_nil : mach [] = (0, 1, [(none, 0, [])]) := by rfl
theorem i_dic {o : Nat} (hd : o = 78 ∨ o = 90 ∨ o = 102 ∨ o = 114) : dicC (den g L sM3) o [] false := by
  have hF := i_Fx (g := g) (L := L)
  have hT : ∀ o, (S0 L)[o + 1]? = some (0, 7) → (S0 L)[o + 1 + 1]? = some (1, 200) → (S0 L)[o + 1 + 2]? = some (1, 2400) → (S0 L)[o + 1 + 3]? = some (2, 200) → lk 0 sM3.2.2.2 (o + 1) 0 = o + 1 + 1 → lk 0 sM3.2.2.2 (o + 1) 1 = o + 1 + 2 → lk 0 sM3.2.2.2 (o + 1) 2 = o + 1 + 3 → lk 0 sM3.2.1 (o + 1) 3 = 0 → o ≠ 0 → isTm (den g L sM3) (o + 1) [] := by
    intro o h1 h2 h3 h4 h5 h6 h7 h8 h9
    refine ⟨Fx_sh hF h1, Fx_sh hF h2, Fx_sh hF h3, Fx_sh hF h4, h5, h6, h7, ?_, Nat.zero_le _, fun t x h => by simp at h⟩
    rw [i_I (by omega), h8]
    rfl
  have hM : ∀ o, 1 < o → lk 0 sM3.2.2.1 (o + 5) 6 = 0 → lk 0 sM3.2.1 (o + 5) 7 = 1 → lk 0 sM3.2.1 (o + 5) 8 = 0 → lk 0 sM3.2.1 (o + 5) 9 = 0 → lk 0 sM3.2.1 (o + 5) 10 = 1 → lk 0 sM3.2.1 (o + 5 + 1) 0 = 0 → lk 0 sM3.2.1 (o + 5 + 1) 1 = 0 → lk 0 sM3.2.2.1 (o + 5 + 2) 0 = -1 → lk 0 sM3.2.1 (o + 5 + 3) 0 = 0 → isMc (den g L sM3) (o + 5) (mach []) := by
    intro o ho h1 h2 h3 h4 h5 h6 h7 h8 h9
    rw [mach_nil]
    refine ⟨?_, ?_, ?_, ?_, ?_, ?_, by decide, fun s x hx => ?_⟩
    · rw [i_J, h1]; rfl
    · rw [i_I (by omega), h2]; rfl
    · rw [i_I (by omega), h3]; rfl
    · rw [i_I (by omega), h4]; rfl
    · rw [i_I (by omega), h5]; rfl
    · rw [i_I (by omega), h6]; rfl
    · have hs : s = 0 := by
        have := (List.getElem?_eq_some_iff.mp hx).1
        have : s < 1 := this
        omega
      subst hs
      cases hx
      refine ⟨?_, (fun v hv => by cases hv), ?_, Nat.zero_le _, ?_, ?_, (fun j y hy => by cases hy)⟩
      · rw [i_J, h8]; rfl
      · rw [i_I (by omega), h9]; rfl
      · rw [i_I (by omega), h6]; rfl
      · rw [i_I (by omega), h7]; rfl
  have c : ∀ o, 1 < o → lk 0 sM3.2.1 o 2 = 0 → sI (den g L sM3) o 2 = b01 false := by
    intro o ho h
    rw [i_I (by omega), h]; rfl
  rcases hd with rfl | rfl | rfl | rfl
  · exact ⟨hT 78 rfl rfl rfl rfl (by decide +kernel) (by decide +kernel) (by decide +kernel) (by decide +kernel) (by omega), c 78 (by omega) (by decide +kernel), fun _ => hM 78 (by omega) (by decide +kernel) (by decide +kernel) (by decide +kernel) (by decide +kernel) (by decide +kernel) (by decide +kernel) (by decide +kernel) (by decide +kernel) (by decide +kernel)⟩
  · exact ⟨hT 90 rfl rfl rfl rfl (by decide +kernel) (by decide +kernel) (by decide +kernel) (by decide +kernel) (by omega), c 90 (by omega) (by decide +kernel), fun _ => hM 90 (by omega) (by decide +kernel) (by decide +kernel) (by decide +kernel) (by decide +kernel) (by decide +kernel) (by decide +kernel) (by decide +kernel) (by decide +kernel) (by decide +kernel)⟩
  · exact ⟨hT 102 rfl rfl rfl rfl (by decide +kernel) (by decide +kernel) (by decide +kernel) (by decide +kernel) (by omega), c 102 (by omega) (by decide +kernel), fun _ => hM 102 (by omega) (by decide +kernel) (by decide +kernel) (by decide +kernel) (by decide +kernel) (by decide +kernel) (by decide +kernel) (by decide +kernel) (by decide +kernel) (by decide +kernel)⟩
  · exact ⟨hT 114 rfl rfl rfl rfl (by decide +kernel) (by decide +kernel) (by decide +kernel) (by decide +kernel) (by omega), c 114 (by omega) (by decide +kernel), fun _ => hM 114 (by omega) (by decide +kernel) (by decide +kernel) (by decide +kernel) (by decide +kernel) (by decide +kernel) (by decide +kernel) (by decide +kernel) (by decide +kernel) (by decide +kernel)⟩
theorem i_CS : CS L (den g L sM3) S_0 := by
  have b4 : ∀ d, d < 4 → lk 0 sM3.2.1 4 d = 0 := by decide +kernel
  have b6 : ∀ d, d < 4 → lk 0 sM3.2.1 (126 + d) 0 = -1 := by decide +kernel
  have b3 : ∀ d, d < 4 → lk 0 sM3.2.2.2 3 d = 78 + 12 * d := by decide +kernel
  refine ⟨i_Fx, ?_, ?_, ?_, ?_, ⟨?_, fun k t h => ?_⟩, ?_, ?_, ?_⟩
  · exact ⟨62, 64, Or.inl ⟨rfl, rfl⟩, (by rw [i_R]; decide +kernel), (by rw [i_R]; decide +kernel), i_Sg (by omega) rfl rfl (by decide +kernel) (by decide +kernel) (by omega), [], i_Sg (by omega) rfl rfl (by decide +kernel) (by decide +kernel) (by omega)⟩
  · refine ⟨fun i => if i = 4 then 66 else 78 + 12 * i, ?_, ?_, fun d hd => ?_, ?_, fun d hd => ?_⟩
    · decide +kernel
    · intro i j hi hj
      dsimp only
      split <;> split <;> omega
    · dsimp only
      rw [if_neg (by omega)]
      exact b3 d hd
    · rw [i_R]; decide +kernel
    · dsimp only
      rw [if_neg (by omega)]
      exact i_dic (by omega)
  · intro d hd
    rw [i_I (by omega), b4 d hd]
    rfl
  · intro k hk
    refine ⟨?_, fun h => absurd rfl h⟩
    rw [i_I (by omega), b6 k hk]
    rfl
  · rw [i_I (by omega)]
    exact (by decide +kernel : lk 0 sM3.2.1 2 10 = nI 0)
  · simp [S_0, sM] at h
  · rw [i_I (by omega)]
    exact (by decide +kernel : lk 0 sM3.2.1 2 11 = -1)
  · exact i_Sg (by omega) rfl rfl (by decide +kernel) (by decide +kernel) (by omega)
  · exact ⟨[], i_Sg (by omega) rfl rfl (by decide +kernel) (by decide +kernel) (by omega)⟩
theorem i_MS : MS L (den g L sM3) S_0 := by
  have b5 : ∀ d, d < 4 → lk 0 sM3.2.1 135 d = 0 := by decide +kernel
  have b6 : ∀ d, d < 4 → lk 0 sM3.2.1 136 d = 0 := by decide +kernel
  have b7 : ∀ d, d < 4 → lk 0 sM3.2.1 137 d = 0 := by decide +kernel
  have b0 : ∀ d, d < 4 → lk 0 sM3.2.1 140 d = -1 := by decide +kernel
  refine ⟨i_Fx, ⟨?_, fun k s h => ?_, Nat.zero_le _⟩, fun d hd => ⟨⟨?_, Nat.zero_le _, fun t x h => ?_⟩, ?_⟩, fun d hd => ?_, fun k hk => ⟨?_, fun h => absurd rfl h⟩, ⟨?_, fun k t h => ?_⟩, ?_, ?_, fun k s h => ?_⟩
  · rw [i_I (by omega)]
    exact (by decide +kernel : lk 0 sM3.2.1 130 1 = nI 0)
  · simp [S_0, sW] at h
  · rw [i_I (by omega), b5 d hd]; rfl
  · simp [S_0, sD] at h
  · rw [i_I (by omega), b6 d hd]; rfl
  · rw [i_I (by omega), b7 d hd]; rfl
  · rw [i_I (by omega), b0 k hk]; rfl
  · rw [i_I (by omega)]
    exact (by decide +kernel : lk 0 sM3.2.1 130 9 = nI 0)
  · simp [S_0, sM] at h
  · rw [i_I (by omega)]
    exact (by decide +kernel : lk 0 sM3.2.1 130 10 = -1)
  · rw [i_I (by omega)]
    exact (by decide +kernel : lk 0 sM3.2.1 130 12 = nI 0)
  · simp [S_0, sP] at h
theorem i_wf : wfS S_0 := ⟨fun k hk => ⟨Or.inl rfl, Or.inl rfl⟩, fun d hd => srt_nil, Nat.zero_le _, fun t h => by simp [S_0, sM] at h, Nat.zero_le _, fun s h => by simp [S_0, sW] at h, Nat.zero_le _, fun s h => by simp [S_0, sP] at h⟩
theorem law_1 (hL : L ≤ 2560) : ∃ st', f_L_law 1 (den g L ([], [], [], [])) = some (some (.int 1), st') ∧ sH st' = S0 L := by
  have w0 : wfN ([], [], [], []) := ⟨(fun q hq => absurd hq (by simp)), (fun q hq => absurd hq (by simp)), (fun q hq => absurd hq (by simp))⟩
  rw [e_L_law_0, newo_d w0]
  change ∃ st', (ab_rv (f_X10_init 2 (den g L sN0)) _) = _ ∧ _
  rw [cls_init.1, rv_ok, newo_d (cls_init (g := g) (L := L)).2, show lnN sW4 = 130 from by decide +kernel]
  change ∃ st', (ab_rv (f_X11_init 130 (den g L sM0)) _) = _ ∧ _
  rw [mod_init, rv_ok]
  exact law_loop hL _ 0 _ S_0 rfl (Nat.zero_le _) ⟨i_CS, i_MS, i_wf⟩
end INIT
