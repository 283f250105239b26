/-! COLLECT, ADD as calls -/
section COL
variable {L : Nat} {st : ab_S} {S : Sg}
theorem nI_nat (m : Nat) : (nI m).toBitVec.toNat = m % 4294967296 := by
  show (BitVec.ofNat 32 m).toNat = _
  simp
theorem by_C {n i : Nat} (hn : n < 18446744073709551616) (hi : i < 8) : ((lN n).toUInt64 >>> (((8 : Int32) * nI i).toInt64.toUInt64 &&& Int64.toUInt64 63)).toInt64.toInt32.toBitVec.toNat % 256 = n / 2 ^ (8 * i) % 256 := by
  rw [nl 8, a_mul, wb_shr hn (by omega), lN_i, nI_nat]
  omega
theorem by_M {n k : Nat} (hk : k ≤ 56) : (lN n >>> lN k).toInt32.toInt8.toInt32 = by8 (n / 2 ^ k % 256) := by
  unfold by8
  congr 1
  apply Int8.toBitVec_inj.mp
  apply BitVec.eq_of_getLsbD_eq
  intro j hj
  have e1 : (lN k).toBitVec.smod 64 = BitVec.ofNat 64 k := by rw [wb_tb]; exact wb_sm k (by omega)
  show ((((lN n).toBitVec.sshiftRight' ((lN k).toBitVec.smod 64)).signExtend 32).signExtend 8).getLsbD j = ((BitVec.ofNat 32 (n / 2 ^ k % 256)).signExtend 8).getLsbD j
  rw [e1, wb_tb]
  simp only [BitVec.sshiftRight', BitVec.getLsbD_signExtend, BitVec.getLsbD_sshiftRight, BitVec.getLsbD_ofNat, BitVec.toNat_ofNat]
  have h1 : k % 2 ^ 64 = k := Nat.mod_eq_of_lt (by omega)
  have hd : n / 2 ^ k % 256 = n / 2 ^ k % 2 ^ 8 := rfl
  rw [h1, hd, Nat.testBit_mod_two_pow, Nat.testBit_div_two_pow]
  have q1 : j < 64 := by omega
  have q2 : j < 32 := by omega
  have q3 : k + j < 64 := by omega
  have q4 : ¬ (64 ≤ j) := by omega
  simp [hj, q1, q2, q3, q4, Nat.add_comm]
def byts (n : Nat) (m : Nat) : List Nat := (List.range m).map (fun i => n / 2 ^ (8 * i) % 256)
theorem byts_len {n m : Nat} : (byts n m).length = m := by simp [byts]
theorem byts_get {n m i s : Nat} (h : (byts n m)[i]? = some s) : i < m ∧ s = n / 2 ^ (8 * i) % 256 := by
  have hi : i < m := by
    have := (List.getElem?_eq_some_iff.mp h).1
    rwa [byts_len] at this
  refine ⟨hi, ?_⟩
  simp [byts, hi] at h
  exact h.symm
theorem byts_succ {n m : Nat} : byts n (m + 1) = byts n m ++ [n / 2 ^ (8 * m) % 256] := by simp [byts, List.range_succ]
theorem byts_lt {n m : Nat} : ∀ s ∈ byts n m, s < 256 := by
  intro s hs
  simp [byts] at hs
  obtain ⟨i, -, rfl⟩ := hs
  exact Nat.mod_lt _ (by decide)
def a_collect (S : Sg) (v : Int64) (n : Int32) : Int32 × Sg := if 1 ≤ n.toInt ∧ n.toInt ≤ 8 then (if (sW S).length + n.toNatClampNeg ≤ 4000 then (nI ((sW S).length + n.toNatClampNeg), setW S (sW S ++ byts v.toBitVec.toNat n.toNatClampNeg)) else (-3, S)) else (-2, S)
theorem n18 (n : Int32) : ¬ (1 ≤ n.toInt ∧ n.toInt ≤ 8) ∨ ∃ m, 1 ≤ m ∧ m ≤ 8 ∧ n = nI m := by
  by_cases h : 1 ≤ n.toInt ∧ n.toInt ≤ 8
  · right
    rcases n_cases n with hn | ⟨m, hm, rfl⟩
    · have := Int32.lt_iff_toInt_lt.mp hn
      have h0 : (0 : Int32).toInt = 0 := rfl
      omega
    · rw [nI_toInt hm] at h
      exact ⟨m, by omega, by omega, rfl⟩
  · exact Or.inl h
/-- the class's row of signs grows -/
theorem CS_col (h : CS L st S) (v : Int32) (hl : (sW S).length + 1 ≤ 4000) : ∃ c st', sR st 2 12 = c ∧ f_X6_put c v st = some (none, st') ∧ CS L st' (setW S (sW S ++ [v.toBitVec.toNat % 256])) ∧ onC st st' := by
  obtain ⟨hF, ⟨c, u, hcu, g1, g2, g3, w', g4⟩, h3, h4, h5, h6, h7, h8, w, h9⟩ := h
  obtain ⟨st', p1, p2, p3⟩ := put_ok g3 v (by omega)
  refine ⟨c, st', g1, p1, ⟨Fx_up hF p3, ⟨c, u, hcu, by rw [p3.2.1]; exact g1, by rw [p3.2.1]; exact g2, p2, w', isSg_up g4 p3 (by omega) (by omega)⟩, cdic_up h3 p3 (fun q _ _ => by omega), fun d hd => by rw [(p3.2.2 4 (by omega)).1]; exact h4 d hd, cwk_up h5 p3 (fun q _ _ => by omega), ⟨by rw [(p3.2.2 2 (by omega)).1]; exact h6.1, fun k t hk => by rw [(p3.2.2 61 (by omega)).1]; exact h6.2 k t hk⟩, by rw [(p3.2.2 2 (by omega)).1]; exact h7, isSg_up h8 p3 (by omega) (by omega), w, isSg_up h9 p3 (by omega) (by omega)⟩, onC_up p3 (fun q hq => by omega)⟩
theorem CS_size (h : CS L st S) : ∃ c, sR st 2 12 = c ∧ (sH st)[c]? = some (0, 6) ∧ sI st c 1 = nI (sW S).length := by
  obtain ⟨hF, ⟨c, u, hcu, g1, g2, g3, w', g4⟩, -⟩ := h
  exact ⟨c, g1, g3.1, g3.2.2.2.1⟩
theorem C_collect (h : CS L st S) (hwf : wfS S) (v : Int64) (n : Int32) : ∃ st', f_X10_collect 2 v n st = some (some (.int (a_collect S v n).1), st') ∧ CS L st' (a_collect S v n).2 ∧ onC st st' := by
  have h4000 := hwf.2.2.2.2.1
  obtain ⟨N, hN, rfl⟩ := wb_of v
  unfold a_collect
  rw [wb_tn hN]
  have h0 : (1 : Int32).toInt = 1 := rfl
  have h8 : (8 : Int32).toInt = 8 := rfl
  rcases n18 n with hn | ⟨m, hm1, hm8, rfl⟩
  · rw [if_neg hn]
    refine ⟨st, ?_, h, onC_rfl⟩
    rw [e_X10_collect_0, rc_ok (sh2 h)]
    by_cases h1 : n < 1
    · rw [if_pos h1]
    · rw [if_neg h1, if_neg]
      rw [Int32.lt_iff_toInt_lt, h0] at h1
      rw [Int32.le_iff_toInt_le, h8]
      omega
  · rw [if_pos (by rw [nI_toInt (by omega)]; omega), a_cl (by omega)]
    obtain ⟨c, c1, c2, c3⟩ := CS_size h
    have e0 : f_X10_collect 2 (lN N) (nI m) st = if (sW S).length + m ≤ 4000 then L_X10_collect_35 2 (lN N) (nI m) (0 : Int32) st else some (some (.int (-3)), st) := by
      rw [e_X10_collect_0, rc_ok (sh2 h), nl 1, if_neg (by rw [c_lt (by omega) (by omega)]; omega), nl 8, if_pos (by rw [c_le (by omega) (by omega)]; omega), gR_ok (sh2 h), Option.bind_some, c1, gI_ok c2, Option.bind_some, c3, a_add, nl 4000]
      by_cases hf : (sW S).length + m ≤ 4000
      · rw [if_pos hf, if_pos (by rw [c_le (by omega) (by omega)]; exact hf)]
      · rw [if_neg hf, if_neg (by rw [c_le (by omega) (by omega)]; exact hf)]
    rw [e0]
    by_cases hf : (sW S).length + m ≤ 4000
    · rw [if_pos hf, if_pos hf]
      have key : ∀ j i st1, m - i = j → i ≤ m → CS L st1 (setW S (sW S ++ byts N i)) → ∃ st', L_X10_collect_35 2 (lN N) (nI m) (nI i) st1 = some (some (.int (nI ((sW S).length + m))), st') ∧ CS L st' (setW S (sW S ++ byts N m)) ∧ onC st1 st' := by
        intro j
        induction j with
        | zero =>
          intro i st1 hj hi h1
          have : i = m := by omega
          subst this
          obtain ⟨c, c1, c2, c3⟩ := CS_size h1
          refine ⟨st1, ?_, h1, onC_rfl⟩
          rw [e_X10_collect_35, if_pos (Int32.le_refl _), gR_ok (sh2 h1), Option.bind_some, c1, gI_ok c2, Option.bind_some, c3]
          show some (some (Value.int (nI (sW S ++ byts N i).length)), st1) = _
          rw [List.length_append, byts_len]
        | succ j ih =>
          intro i st1 hj hi h1
          have e1 : sW (setW S (sW S ++ byts N i)) = sW S ++ byts N i := rfl
          obtain ⟨c, st2, c1, c2, c3, c4⟩ := CS_col h1 ((lN N).toUInt64 >>> (((8 : Int32) * nI i).toInt64.toUInt64 &&& Int64.toUInt64 63)).toInt64.toInt32 (by rw [e1, List.length_append, byts_len]; omega)
          have e2 : setW (setW S (sW S ++ byts N i)) (sW (setW S (sW S ++ byts N i)) ++ [((lN N).toUInt64 >>> (((8 : Int32) * nI i).toInt64.toUInt64 &&& Int64.toUInt64 63)).toInt64.toInt32.toBitVec.toNat % 256]) = setW S (sW S ++ byts N (i + 1)) := by
            rw [by_C hN (by omega), e1, byts_succ, List.append_assoc]; rfl
          rw [e2] at c3
          obtain ⟨st', d1, d2, d3⟩ := ih (i + 1) st2 (by omega) (by omega) c3
          refine ⟨st', ?_, d2, onC_trans c4 d3⟩
          rw [e_X10_collect_35, if_neg (by rw [c_le (by omega) (by omega)]; omega), gR_ok (sh2 h1), Option.bind_some, c1, c2, rv_ok, nI_1, d1]
      have := key _ 0 st rfl (by omega) (by simpa [byts, setW, sW] using h)
      exact this
    · rw [if_neg hf, if_neg hf]
      exact ⟨st, rfl, h, onC_rfl⟩
theorem M_collect (h : MS L st S) (hwf : wfS S) (v : Int64) (n : Int32) : ∃ st', f_X11_collect 130 v n st = some (some (.int (a_collect S v n).1), st') ∧ MS L st' (a_collect S v n).2 ∧ onM st st' := by
  have h4000 := hwf.2.2.2.2.1
  obtain ⟨N, hN, rfl⟩ := wb_of v
  unfold a_collect
  rw [wb_tn hN]
  have h0 : (1 : Int64).toInt = 1 := rfl
  have h8 : (8 : Int64).toInt = 8 := rfl
  rcases n18 n with hn | ⟨m, hm1, hm8, rfl⟩
  · rw [if_neg hn]
    refine ⟨st, ?_, h, onM_rfl⟩
    rw [e_X11_collect_0, rc_ok (sh130 h), isIn_i, h0, h8, if_neg hn, ri_ok, if_pos rfl]
  · have hmm : 1 ≤ (nI m).toInt ∧ (nI m).toInt ≤ 8 := by rw [nI_toInt (by omega)]; omega
    rw [if_pos hmm, a_cl (by omega)]
    have e0 : f_X11_collect 130 (lN N) (nI m) st = if (sW S).length + m ≤ 4000 then L_X11_collect_33 130 (lN N) (nI m) (0 : Int32) st else some (some (.int (-3)), st) := by
      rw [e_X11_collect_0, rc_ok (sh130 h), isIn_i, h0, h8, if_pos hmm, ri_ok, if_neg (by decide), gI_ok (sh130 h), Option.bind_some, h.2.1.1, a_add, nl 4000]
      by_cases hf : (sW S).length + m ≤ 4000
      · rw [if_pos hf, if_pos (by rw [c_le (by omega) (by omega)]; exact hf)]
      · rw [if_neg hf, if_neg (by rw [c_le (by omega) (by omega)]; exact hf)]
    rw [e0]
    by_cases hf : (sW S).length + m ≤ 4000
    · rw [if_pos hf, if_pos hf]
      have key : ∀ j i st1, m - i = j → i ≤ m → upto (fun q => q = 131) st st1 → mRow st1 (sW S ++ byts N i) → ∃ st', L_X11_collect_33 130 (lN N) (nI m) (nI i) st1 = some (some (.int (nI ((sW S).length + m))), st') ∧ MS L st' (setW S (sW S ++ byts N m)) ∧ onM st st' := by
        intro j
        induction j with
        | zero =>
          intro i st1 hj hi hu hr
          have : i = m := by omega
          subst this
          have hs : (sH st1)[130]? = some (0, 11) := by rw [hu.1]; exact sh130 h
          have e1 : sI st1 130 = sI st 130 := (hu.2.2 130 (by omega)).1
          let s2 := uI st1 130 1 (nI ((sW S).length + i))
          have u2 : upto (fun q => q = 130) st1 s2 := upto_uI rfl
          have hU : upto (fun q => q = 130 ∨ q = 131) st s2 := upto_trans (upto_mono hu (fun q hq => Or.inr hq)) (upto_mono u2 (fun q hq => Or.inl hq))
          have hs2 : (sH s2)[130]? = some (0, 11) := hs
          have f1 : sI s2 130 1 = nI ((sW S).length + i) := by
            show sI (uI st1 130 1 (nI ((sW S).length + i))) 130 1 = _
            rw [I_uI, if_pos ⟨rfl, rfl⟩]
          have f2 : ∀ k, k ≠ 1 → sI s2 130 k = sI st 130 k := fun k hk => by
            show sI (uI st1 130 1 (nI ((sW S).length + i))) 130 k = _
            rw [I_uI, if_neg (fun z => hk z.2), e1]
          refine ⟨s2, ?_, ?_, onM_up hU (fun q hq => by omega)⟩
          · rw [e_X11_collect_33, if_pos (Int32.le_refl _), gI_ok hs, Option.bind_some, e1, h.2.1.1, pI_ok hs, Option.bind_some, a_add]
            show Option.bind (ab_gI s2 130 11 1) _ = _
            rw [gI_ok hs2, Option.bind_some, f1]
          · obtain ⟨hF, g2, g3, g4, g5, g6, g7, g8⟩ := h
            have e : ∀ q, ¬ (q = 130 ∨ q = 131) → sI s2 q = sI st q := fun q a => (hU.2.2 q a).1
            refine ⟨Fx_up hF hU, ⟨?_, mRow_up hr u2 (by omega)⟩, fun d hd => ⟨isMd_up (g3 d hd).1 hU (by omega) (by omega) (by omega) (by omega), by rw [e 136 (by omega)]; exact (g3 d hd).2⟩, fun d hd => by rw [e 137 (by omega)]; exact g4 d hd, fun k hk => by rw [e 140 (by omega), e 141 (by omega), e 142 (by omega), e 143 (by omega)]; exact g5 k hk, ⟨by rw [f2 9 (by decide)]; exact g6.1, fun k t hk => by rw [e 138 (by omega)]; exact g6.2 k t hk⟩, by rw [f2 10 (by decide)]; exact g7, ⟨by rw [f2 12 (by decide)]; exact g8.1, fun k s hk => by rw [e 139 (by omega)]; exact g8.2 k s hk⟩⟩
            rw [f1]
            show _ = nI (sW S ++ byts N i).length
            rw [List.length_append, byts_len]
        | succ j ih =>
          intro i st1 hj hi hu hr
          have hF1 : Fx L st1 := Fx_up h.1 hu
          have e1 : sI st1 130 = sI st 130 := (hu.2.2 130 (by omega)).1
          rw [e_X11_collect_33, if_neg (by rw [c_le (by omega) (by omega)]; omega), gR_ok (Fx_sh hF1 rfl), Option.bind_some, Fx_rf hF1 (v := 131) (by decide), gI_ok (Fx_sh hF1 rfl), Option.bind_some, e1, h.2.1.1, a_add, wB_ok (Fx_sh hF1 (o := 131) rfl) (by omega) (by omega), Option.bind_some, nl 8, a_mul, wb_c _ (by omega), by_M (by omega), by8_idem, nI_1]
          refine ih (i + 1) _ (by omega) (by omega) (upto_trans hu (upto_uI rfl)) ⟨fun k s hk => ?_, by rw [List.length_append, byts_len]; omega⟩
          rw [byts_succ, ← List.append_assoc] at hk
          by_cases hki : k < (sW S ++ byts N i).length
          · rw [List.getElem?_append_left hki] at hk
            have hkl : ¬ k = (sW S).length + i := by rw [List.length_append, byts_len] at hki; omega
            rw [I_uI, if_neg (fun z => hkl z.2)]
            exact hr.1 k s hk
          · rw [List.getElem?_append_right (by omega)] at hk
            have hk0 : k - (sW S ++ byts N i).length = 0 := by
              have := (List.getElem?_eq_some_iff.mp hk).1
              simp only [List.length_singleton] at this
              omega
            rw [hk0] at hk
            cases hk
            have hkl : k = (sW S).length + i := by rw [List.length_append, byts_len] at hk0 hki; omega
            rw [I_uI, if_pos ⟨rfl, hkl⟩]
            exact ⟨rfl, Nat.mod_lt _ (by decide)⟩
      exact key _ 0 st rfl (by omega) upto_rfl (by simpa [byts] using h.2.1.2)
    · rw [if_neg hf, if_neg hf]
      exact ⟨st, rfl, h, onM_rfl⟩
theorem W_collect (h : wfS S) (v : Int64) (n : Int32) : wfS (a_collect S v n).2 := by
  unfold a_collect
  by_cases h1 : 1 ≤ n.toInt ∧ n.toInt ≤ 8
  · rw [if_pos h1]
    by_cases h2 : (sW S).length + n.toNatClampNeg ≤ 4000
    · rw [if_pos h2]
      refine wf_W h (by rw [List.length_append, byts_len]; exact h2) (fun s hs => ?_)
      rcases List.mem_append.mp hs with q | q
      · exact h.2.2.2.2.2.1 s q
      · exact byts_lt s q
    · rw [if_neg h2]; exact h
  · rw [if_neg h1]; exact h
end COL
