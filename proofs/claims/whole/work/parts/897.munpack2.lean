/-! THE MODEL UNPACKS: states, the whole -/
section MUNP2
variable {L : Nat} {st : ab_S} {w : List Nat}
theorem frm_I {q k : Nat} {v : Int32} (h : (164 ≤ q ∧ q ≤ 168) ∨ (q = 130 ∧ (k = 33 ∨ k = 51 ∨ k = 52))) : frm st (uI st q k v) := by
  refine ⟨upto_uI (by omega), fun j h1 h2 h3 => ?_⟩
  rw [I_uI, if_neg (fun z => by omega)]
theorem frm_J {q k : Nat} {v : Int64} (h : 164 ≤ q ∧ q ≤ 168) : frm st (uJ st q k v) := ⟨upto_uJ (by omega), fun j _ _ _ => rfl⟩
/-- a state is refused: wrong is set -/
theorem bad143 {p s : Nat} (h : rdr L st w p) (hs : s < 2403) {b c : Int64} : ∃ st', frm st st' ∧ L_X11_unpack_143 130 b c (nI s) 130 1 st = some (some (.int 0), st') := by
  have hX := rdr_fx h
  have h1 : rdr L (uI st 130 52 1) w p := rdr_r h r130_52 (by rw [I_uI, if_neg (by decide)]; exact h.2.2.2.1) h.2.2.2.2
  obtain ⟨s2, p2, a1, a2, a3, a4⟩ := mnum_ok h1
  have X2 := rdr_fx a2
  have w2 : sI s2 130 52 = 1 := by
    rcases a4 with ⟨_, _, _, _, _, _, _, q⟩ | ⟨_, _, q⟩
    · rw [q, I_uI, if_pos ⟨rfl, rfl⟩]
    · exact q
  have X3 : FX (uI s2 165 s (sI s2 130 51)) := X2
  have w3 : sI (uI s2 165 s (sI s2 130 51)) 130 52 = 1 := by rw [I_uI, if_neg (fun z => by omega)]; exact w2
  refine ⟨uI s2 165 s (sI s2 130 51), frm_trans (frm_r r130_52) (frm_trans (frm_r a1) (frm_I (Or.inl (by omega)))), ?_⟩
  rw [e_X11_unpack_143, pmZ1 hX, Option.bind_some]
  rcases a4 with ⟨m, r, -, -, q, -, -, -⟩ | ⟨-, q, -⟩
  · rw [q, rl_ok, n47r X2, Option.bind_some, im X2, Option.bind_some, w165 X2 hs, Option.bind_some, bad166 X3 w3]
  · rw [q, rl_ok, n47r X2, Option.bind_some, im X2, Option.bind_some, w165 X2 hs, Option.bind_some, bad166 X3 w3]
theorem good143 {b : Int64} {n s p : Nat} {Q : QS} {v : Option Nat} (hn : n ≤ 2401) (hs : Q.length = s) (hsn : s < n) (hv : ∀ u, v = some u → u ≤ UV) (hR : rdr L st w p) (hQ : mqS st Q n) (h3 : 3 * aB Q Q.length ≤ p) : ∃ st', frm (uJ st 164 s (lastI v)) st' ∧ ((∃ x r' p', rdS2 7 false n v (w.drop p) = some (x, r') ∧ L_X11_unpack_143 130 b (lN n) (nI s) 130 0 (uJ st 164 s (lastI v)) = L_X11_unpack_79 130 b (lN n) (nI (s + 1)) st' ∧ rdr L st' w p' ∧ mqS st' (Q ++ [x]) n ∧ sI st' 130 52 = 0 ∧ w.drop p' = r' ∧ 3 * aB (Q ++ [x]) (Q.length + 1) ≤ p') ∨ (rdS2 7 false n v (w.drop p) = none ∧ L_X11_unpack_143 130 b (lN n) (nI s) 130 0 (uJ st 164 s (lastI v)) = some (some (.int 0), st'))) := by
  have R0 : rdr L (uJ st 164 s (lastI v)) w p := rdr_up hR (upto_uJ rfl : upto (fun q => q = 164) st _) (by omega) (by omega)
  have X0 := rdr_fx R0
  have R1 : rdr L (uI (uJ st 164 s (lastI v)) 130 52 0) w p := rdr_r R0 r130_52 (by rw [I_uI, if_neg (by decide)]; exact R0.2.2.2.1) R0.2.2.2.2
  obtain ⟨s2, p2, a1, a2, a3, a4⟩ := mnum_ok R1
  have X2 := rdr_fx a2
  have fr2 : frm (uJ st 164 s (lastI v)) s2 := frm_trans (frm_r r130_52) (frm_r a1)
  have e51 : sI s2 130 51 = nI (aB Q Q.length) := by
    rw [a1.2 51 (by decide) (by decide), I_uI, if_neg (by decide)]
    exact hQ.2
  unfold rdS2
  rcases a4 with ⟨m, r, c1, c2, c3, c4, c5, c6⟩ | ⟨c1, c3, c6⟩
  rotate_left
  · have X3 : FX (uI s2 165 s (sI s2 130 51)) := X2
    have w3 : sI (uI s2 165 s (sI s2 130 51)) 130 52 = 1 := by rw [I_uI, if_neg (fun z => by omega)]; exact c6
    refine ⟨_, frm_trans fr2 (frm_I (q := 165) (k := s) (v := sI s2 130 51) (Or.inl (by omega))), Or.inr ⟨by rw [c1]; rfl, ?_⟩⟩
    rw [e_X11_unpack_143, pmZ0 X0, Option.bind_some, c3, rl_ok, n47r X2, Option.bind_some, im X2, Option.bind_some, w165 X2 (by omega), Option.bind_some, bad166 X3 w3]
  have w2 : sI s2 130 52 = 0 := by rw [c6, I_uI, if_pos ⟨rfl, rfl⟩]
  let s3 := uI s2 165 s (nI (aB Q Q.length))
  have R3 : rdr L s3 w p2 := rdr_up a2 (upto_uI rfl : upto (fun q => q = 165) s2 _) (by omega) (by omega)
  have w3 : sI s3 130 52 = 0 := by show sI (uI s2 165 s (nI (aB Q Q.length))) 130 52 = _; rw [I_uI, if_neg (fun z => by omega)]; exact w2
  have i2 : ∀ q j, q ≠ 130 → sI s2 q j = sI st q j := fun q j h => by
    rw [(a1.1.2.2 q h).1, I_uI, if_neg (fun z => h z.1)]; rfl
  have j2 : ∀ q j, q ≠ 130 → sJ s2 q j = if q = 164 ∧ j = s then lastI v else sJ st q j := fun q j h => by
    rw [(a1.1.2.2 q h).2, J_uI, J_uJ]
  have Q3 : mqS s3 (Q ++ [(v, 0, [])]) n := by
    refine mqS_state hQ hv ?_ ?_ ?_ ?_ ?_ ?_ ?_ ?_
    · intro j hj
      show sJ s2 164 j = _
      rw [j2 164 j (by omega), if_neg (fun z => hj (by omega))]
    · intro j hj
      show sI (uI s2 165 s (nI (aB Q Q.length))) 165 j = _
      rw [I_uI, if_neg (fun z => hj (by omega)), i2 165 j (by omega)]
    · show sJ s2 164 Q.length = _
      rw [j2 164 _ (by omega), if_pos ⟨rfl, hs⟩]
    · show sI (uI s2 165 s (nI (aB Q Q.length))) 165 Q.length = _
      rw [I_uI, if_pos ⟨rfl, hs⟩]
    · funext j
      show sI (uI s2 165 s (nI (aB Q Q.length))) 166 j = _
      rw [I_uI, if_neg (fun z => by omega), i2 166 j (by omega)]
    · funext j
      show sI (uI s2 165 s (nI (aB Q Q.length))) 167 j = _
      rw [I_uI, if_neg (fun z => by omega), i2 167 j (by omega)]
    · funext j
      show sJ s2 168 j = _
      rw [j2 168 j (by omega), if_neg (fun z => by omega)]
    · show sI (uI s2 165 s (nI (aB Q Q.length))) 130 51 = _
      rw [I_uI, if_neg (fun z => by omega), e51]
      exact hQ.2.symm
  have hA : aB (Q ++ [(v, 0, [])]) (Q.length + 1) = aB Q Q.length := by rw [aB_last]; rfl
  obtain ⟨st', f1, f2⟩ := marcs_ok (b := b) hn c2 hs (w.length - p2) 0 p2 0 [] s3 rfl (Nat.zero_le _) rfl R3 Q3 w3 (by rw [hA]; omega)
  refine ⟨st', frm_trans fr2 (frm_trans (frm_I (q := 165) (k := s) (v := nI (aB Q Q.length)) (Or.inl (by omega))) f1), ?_⟩
  have e1 : L_X11_unpack_143 130 b (lN n) (nI s) 130 0 (uJ st 164 s (lastI v)) = L_X11_unpack_166 130 b (lN n) (nI s) (lN m) (lN 0) s3 := by
    rw [e_X11_unpack_143, pmZ0 X0, Option.bind_some, c3, rl_ok, n47r X2, Option.bind_some, im X2, Option.bind_some, w165 X2 (by omega), Option.bind_some, e51]
    rfl
  rw [e1, c1, Option.bind_some, if_neg (fun q => by cases q.1)]
  dsimp only
  rw [← c4]
  rw [Nat.sub_zero] at f2
  rcases f2 with ⟨l2, r', p', t1, t2, t3, t4, t5, t6, t7⟩ | ⟨t1, t2⟩
  · exact Or.inl ⟨(v, 0, l2), r', p', by rw [t1]; rfl, t2, t3, t4, t5, t6, t7⟩
  · exact Or.inr ⟨by rw [t1]; rfl, t2⟩
theorem mstateU_ok {b : Int64} {n s p : Nat} {Q : QS} (hn : n ≤ 2401) (hs : Q.length = s) (hsn : s < n) (hR : rdr L st w p) (hQ : mqS st Q n) (h52 : sI st 130 52 = 0) (h3 : 3 * aB Q Q.length ≤ p) : ∃ st', frm st st' ∧ ((∃ x r' p', rdS 7 false n (w.drop p) = some (x, r') ∧ L_X11_unpack_79 130 b (lN n) (nI s) st = L_X11_unpack_79 130 b (lN n) (nI (s + 1)) st' ∧ rdr L st' w p' ∧ mqS st' (Q ++ [x]) n ∧ sI st' 130 52 = 0 ∧ w.drop p' = r' ∧ 3 * aB (Q ++ [x]) (Q.length + 1) ≤ p') ∨ (rdS 7 false n (w.drop p) = none ∧ L_X11_unpack_79 130 b (lN n) (nI s) st = some (some (.int 0), st'))) := by
  have hX := rdr_fx hR
  have hwl := hR.2.1.2
  obtain ⟨s1, r1, v1⟩ := mbyte_ok hR
  have X1 : FX s1 := FX_up hX r1.1
  have head : ∀ c : Int32, f_X11_readByte 130 st = some (some (.int c), s1) → L_X11_unpack_79 130 b (lN n) (nI s) st = if c = 1 then ab_rl (f_X11_readNumber 130 s1) fun x6 s5 => L_X11_unpack_123 130 b (lN n) (nI s) c 164 (nI s) x6 s5 else L_X11_unpack_123 130 b (lN n) (nI s) c 164 (nI s) (-1) s1 := by
    intro c hc
    rw [e_X11_unpack_79, nI_l (by omega), if_neg (fun q => by have := (lc_ge (by omega) (by omega)).mp q; omega), im hX, Option.bind_some, h52, if_pos rfl, hc, ri_ok, n46r X1, Option.bind_some]
  -- wrong behind 123
  have bad123 : ∀ (c : Int32) (t2 : Int64) (s2 : ab_S) (p2 : Nat), frm st s2 → rdr L s2 w p2 → (sI s2 130 52 = 1 ∨ ¬ c ≤ 1) → (sI s2 130 52 = 0 ∨ sI s2 130 52 = 1) → ∃ st', frm st st' ∧ L_X11_unpack_123 130 b (lN n) (nI s) c 164 (nI s) t2 s2 = some (some (.int 0), st') := by
    intro c t2 s2 p2 hf hR2 hbad h01
    have X2 := rdr_fx hR2
    have R3 : rdr L (uJ s2 164 s t2) w p2 := rdr_up hR2 (upto_uJ rfl : upto (fun q => q = 164) s2 _) (by omega) (by omega)
    have X3 := rdr_fx R3
    obtain ⟨st', f1, f2⟩ := bad143 R3 (s := s) (by omega) (b := b) (c := lN n)
    refine ⟨st', frm_trans hf (frm_trans (frm_J (by omega)) f1), ?_⟩
    rw [e_X11_unpack_123, w164 X2 (by omega), Option.bind_some, im X3, Option.bind_some, e_X11_unpack_138, f2]
    show (if sI s2 130 52 = 0 then _ else _) = _
    by_cases h0 : sI s2 130 52 = 0
    · rcases hbad with q | q
      · rw [h0] at q; exact absurd q (by decide)
      · rw [if_pos h0, if_neg q]
    · rw [if_neg h0]
  have good123 : ∀ (c : Nat) (v : Option Nat) (s2 : ab_S), c ≤ 1 → sI s2 130 52 = 0 → FX s2 → L_X11_unpack_123 130 b (lN n) (nI s) (nI c) 164 (nI s) (lastI v) s2 = L_X11_unpack_143 130 b (lN n) (nI s) 130 0 (uJ s2 164 s (lastI v)) := by
    intro c v s2 hc h0 X2
    have X3 : FX (uJ s2 164 s (lastI v)) := X2
    rw [e_X11_unpack_123, w164 X2 (by omega), Option.bind_some, im X3, Option.bind_some]
    show (if sI s2 130 52 = 0 then _ else _) = _
    rw [if_pos h0, if_pos (by show nI c ≤ nI 1; rw [c_le (by omega) (by omega)]; omega)]
  rcases v1 with ⟨c, hg, hc, hb, hR1, h521⟩ | ⟨hg, hb, hR1, h521⟩
  rotate_left
  · obtain ⟨st', f1, f2⟩ := bad123 0 (-1) s1 p (frm_r r1) hR1 (Or.inl h521) (Or.inr h521)
    refine ⟨st', f1, Or.inr ⟨by rw [drop_none hg]; rfl, ?_⟩⟩
    rw [head 0 hb, if_neg (by decide), f2]
  have w1 : sI s1 130 52 = 0 := h521.trans h52
  have hQ1 := mqS_r hQ r1
  have eS : rdS 7 false n (c :: w.drop (p + 1)) = if c = 0 then rdS2 7 false n none (w.drop (p + 1)) else if c = 1 then (rdn 7 (w.drop (p + 1))).bind fun v => rdS2 7 false n (some v.1) v.2 else none := rfl
  rw [drop_some hg, eS, head (nI c) hb]
  by_cases c1 : c = 1
  · subst c1
    rw [if_neg (by decide), if_pos rfl, if_pos (show nI 1 = 1 from rfl)]
    obtain ⟨s2, p2, a1, a2, a3, a4⟩ := mnum_ok hR1
    rcases a4 with ⟨m, r, d1, d2, d3, d4, d5, d6⟩ | ⟨d1, d3, d6⟩
    · obtain ⟨st', f1, f2⟩ := good143 (b := b) hn hs hsn (v := some m) (fun u hu => by cases hu; exact d2) a2 (mqS_r hQ1 a1) (by omega)
      refine ⟨st', frm_trans (frm_r r1) (frm_trans (frm_r a1) (frm_trans (frm_J (by omega)) f1)), ?_⟩
      have eg := good123 1 (some m) s2 (Nat.le_refl _) (d6.trans w1) (rdr_fx a2)
      rw [d3, rl_ok, d1, Option.bind_some]
      dsimp only
      rw [show lN m = lastI (some m) from rfl, eg, ← d4]
      exact f2
    · obtain ⟨st', f1, f2⟩ := bad123 (nI 1) 0 s2 p2 (frm_trans (frm_r r1) (frm_r a1)) a2 (Or.inl d6) (Or.inr d6)
      refine ⟨st', f1, Or.inr ⟨by rw [d1]; rfl, ?_⟩⟩
      rw [d3, rl_ok, f2]
  · rw [if_neg (c := nI c = 1) (by show ¬ nI c = nI 1; rw [c_eq (by omega) (by omega)]; exact c1)]
    by_cases c0 : c = 0
    · subst c0
      rw [if_pos rfl]
      obtain ⟨st', f1, f2⟩ := good143 (b := b) hn hs hsn (v := none) (fun u hu => by cases hu) hR1 hQ1 (by omega)
      refine ⟨st', frm_trans (frm_r r1) (frm_trans (frm_J (by omega)) f1), ?_⟩
      have eg := good123 0 none s1 (Nat.zero_le _) w1 X1
      rw [show (-1 : Int64) = lastI none from rfl, eg]
      exact f2
    · rw [if_neg c0, if_neg c1]
      obtain ⟨st', f1, f2⟩ := bad123 (nI c) (-1) s1 (p + 1) (frm_r r1) hR1 (Or.inr (by show ¬ nI c ≤ nI 1; rw [c_le (by omega) (by omega)]; omega)) (Or.inl w1)
      exact ⟨st', f1, Or.inr ⟨rfl, f2⟩⟩
/-- what the model has read, whole -/
def mqF (st : ab_S) (Q : QS) : Prop := mqS st Q Q.length ∧ sI st 165 Q.length = nI (aB Q Q.length) ∧ Q.length ≤ 2401 ∧ aB Q Q.length ≤ 1400
def frm2 (st st' : ab_S) : Prop := upto (fun q => q = 130 ∨ (164 ≤ q ∧ q ≤ 168)) st st' ∧ ∀ j, j ≠ 33 → j ≠ 34 → j ≠ 51 → j ≠ 52 → sI st' 130 j = sI st 130 j
theorem munpack_ok (hF : Fx L st) (hw : mRow st w) : (∃ M s6, rdM 7 false w = some M ∧ frm2 st s6 ∧ f_X11_unpack 130 (nI w.length) st = (ab_ri (f_X11_spell 130 (lN M.1) s6) fun x8 s7 => ab_z x8 (some (some (.int x8), s7))) ∧ mqF s6 M.2.2 ∧ 1 ≤ M.2.2.length ∧ M.1 ≤ UV) ∨ (rdM 7 false w = none ∧ ∃ st', frm2 st st' ∧ f_X11_unpack 130 (nI w.length) st = some (some (.int 0), st')) := by
  have hX : FX st := ⟨L, hF⟩
  have hwl := hw.2
  have hw6 : ∀ s ∈ w, s < 256 := fun s hs => by obtain ⟨k, hk⟩ := List.getElem?_of_mem hs; exact (hw.1 k s hk).2
  have hUV : UV = 562949953421311 := rfl
  let s0 := uI (uI (uI st 130 33 0) 130 34 (nI w.length)) 130 52 0
  have u0 : upto (fun q => q = 130) st s0 := upto_trans (upto_uI rfl) (upto_trans (upto_uI rfl) (upto_uI rfl))
  have f0 : frm2 st s0 := by
    refine ⟨upto_mono u0 (fun q hq => Or.inl hq), fun j h1 h2 h3 h4 => ?_⟩
    show sI (uI (uI (uI st 130 33 0) 130 34 (nI w.length)) 130 52 0) 130 j = _
    rw [I_uI, if_neg (fun z => h4 z.2), I_uI, if_neg (fun z => h2 z.2), I_uI, if_neg (fun z => h1 z.2)]
  have frm2_f : ∀ {s' : ab_S}, frm s0 s' → frm2 st s' := fun h => ⟨upto_trans f0.1 h.1, fun j h1 h2 h3 h4 => (h.2 j h1 h3 h4).trans (f0.2 j h1 h2 h3 h4)⟩
  have R0 : rdr L s0 w 0 := by
    refine ⟨Fx_up hF u0, mRow_up hw u0 (by omega), ?_, ?_, Nat.zero_le _⟩
    · show sI (uI (uI (uI st 130 33 0) 130 34 (nI w.length)) 130 52 0) 130 34 = _
      rw [I_uI, if_neg (by decide), I_uI, if_pos ⟨rfl, rfl⟩]
    · show sI (uI (uI (uI st 130 33 0) 130 34 (nI w.length)) 130 52 0) 130 33 = _
      rw [I_uI, if_neg (by decide), I_uI, if_neg (by decide), I_uI, if_pos ⟨rfl, rfl⟩]
      rfl
  have w0 : sI s0 130 52 = 0 := by
    show sI (uI (uI (uI st 130 33 0) 130 34 (nI w.length)) 130 52 0) 130 52 = _
    rw [I_uI, if_pos ⟨rfl, rfl⟩]
  have Xa : FX (uI st 130 33 0) := hX
  have Xb : FX (uI (uI st 130 33 0) 130 34 (nI w.length)) := hX
  rw [rdM_eq hw6, e_X11_unpack_0, cm hX, pm hX, Option.bind_some, pm Xa, Option.bind_some, pmZ0 Xb, Option.bind_some]
  change (∃ M s6, _ ∧ _ ∧ (ab_ri (f_X11_readByte 130 s0) _) = _ ∧ _) ∨ (_ ∧ ∃ st', _ ∧ (ab_ri (f_X11_readByte 130 s0) _) = _)
  obtain ⟨s1, r1, v1⟩ := mbyte_ok R0
  rcases v1 with ⟨c, hg, hc, hb, hR1, h521⟩ | ⟨hg, hb, hR1, h521⟩
  rotate_left
  · refine Or.inr ⟨if_neg (fun q => by rw [lg_none hg] at q; exact absurd q.1 (by decide)), s1, frm2_f (frm_r r1), ?_⟩
    rw [hb, ri_ok, if_neg (by decide), z_0]
  rw [hb, ri_ok]
  have l0 : lg w 0 = nI c := lg_some hg
  by_cases h84 : nI c = 84
  rotate_left
  · refine Or.inr ⟨if_neg (fun q => by rw [l0] at q; exact h84 q.1), s1, frm2_f (frm_r r1), ?_⟩
    rw [if_neg h84, z_0]
  rw [if_pos h84]
  obtain ⟨s2, r2, v2⟩ := mbyte_ok hR1
  have fr2 := frm_trans (frm_r r1) (frm_r r2)
  rcases v2 with ⟨c', hg', hc', hb', hR2, h522⟩ | ⟨hg', hb', hR2, h522⟩
  rotate_left
  · refine Or.inr ⟨if_neg (fun q => by rw [show lg w 1 = -1 from lg_none hg'] at q; exact absurd q.2 (by decide)), s2, frm2_f fr2, ?_⟩
    rw [hb', ri_ok, if_neg (by decide), z_0]
  rw [hb', ri_ok]
  have l1 : lg w 1 = nI c' := lg_some hg'
  by_cases h77 : nI c' = 77
  rotate_left
  · refine Or.inr ⟨if_neg (fun q => by rw [l1] at q; exact h77 q.2), s2, frm2_f fr2, ?_⟩
    rw [if_neg h77, z_0]
  rw [if_pos h77, if_pos ⟨l0.trans h84, l1.trans h77⟩]
  change rdr L s2 w 2 at hR2
  have w2 : sI s2 130 52 = 0 := h522.trans (h521.trans w0)
  unfold rdM2
  obtain ⟨s3, p3, a1, a2, a3, a4⟩ := mnum_ok hR2
  obtain ⟨s4, p4, b1, b2, b3, b4⟩ := mnum_ok a2
  have fr4 := frm_trans fr2 (frm_trans (frm_r a1) (frm_r b1))
  have X4 := rdr_fx b2
  have wrong4 : sI s4 130 52 = 1 → ∀ x9 x11 : Int64, f_X11_readNumber 130 s2 = some (some (.long x9), s3) → f_X11_readNumber 130 s3 = some (some (.long x11), s4) → (ab_rl (f_X11_readNumber 130 s2) fun x9 s8 => ab_rl (f_X11_readNumber 130 s8) fun x11 s10 => Option.bind (ab_gI s10 130 11 52) fun x12 => if x12 = 0 then if (lg_cmp x11 (1 : Int64)) < 0 then ab_z (0 : Int32) (some (some (.int (0 : Int32)), s10)) else if (lg_cmp x11 (2401 : Int64)) ≤ 0 then Option.bind (ab_pI s10 130 11 51 (0 : Int32)) fun s13 => L_X11_unpack_79 130 x9 x11 (0 : Int32) s13 else ab_z (0 : Int32) (some (some (.int (0 : Int32)), s10)) else ab_z (0 : Int32) (some (some (.int (0 : Int32)), s10))) = some (some (.int 0), s4) := by
    intro h x9 x11 q1 q2
    rw [q1, rl_ok, q2, rl_ok, im X4, Option.bind_some, h, if_neg (by decide), z_0]
  rcases a4 with ⟨b0, r, c1, c2, c3, c4, c5, c6⟩ | ⟨c1, c3, c6⟩
  rotate_left
  · refine Or.inr ⟨by rw [c1]; rfl, s4, frm2_f fr4, ?_⟩
    rcases b4 with ⟨_, _, _, _, q, _, _, q2⟩ | ⟨_, q, q2⟩
    · exact wrong4 (q2.trans c6) _ _ c3 q
    · exact wrong4 q2 _ _ c3 q
  rcases b4 with ⟨n, r', d1, d2, d3, d4, d5, d6⟩ | ⟨d1, d3, d6⟩
  rotate_left
  · refine Or.inr ⟨?_, s4, frm2_f fr4, wrong4 d6 _ _ c3 d3⟩
    rw [c1, Option.bind_some]
    dsimp only
    rw [← c4, d1]; rfl
  have w4 : sI s4 130 52 = 0 := d6.trans (c6.trans w2)
  rw [c1, Option.bind_some]
  dsimp only
  rw [← c4, d1, Option.bind_some]
  dsimp only
  rw [c3, rl_ok, d3, rl_ok, im X4, Option.bind_some, w4, if_pos rfl, z_0]
  have g1 : (lg_cmp (lN n) 1 < 0) ↔ n < 1 := by
    show (lg_cmp (lN n) (lN 1) < 0) ↔ _
    rw [lg_cmp_lt, pk_lLT (by omega) (by omega)]
  have g2 : (lg_cmp (lN n) 2401 ≤ 0) ↔ n ≤ 2401 := lc_le (a := n) (b := 2401) (by omega) (by omega)
  by_cases hn1 : n < 1
  · refine Or.inr ⟨if_neg (fun q => by omega), s4, frm2_f fr4, ?_⟩
    rw [if_pos (g1.mpr hn1)]
  by_cases hn2 : n ≤ 2401
  rotate_left
  · refine Or.inr ⟨if_neg (fun q => by omega), s4, frm2_f fr4, ?_⟩
    rw [if_neg (fun q => hn1 (g1.mp q)), if_neg (fun q => hn2 (g2.mp q))]
  rw [if_neg (fun q => hn1 (g1.mp q)), if_pos (g2.mpr hn2), if_pos (show 1 ≤ n ∧ n ≤ 2401 by omega), pm X4, Option.bind_some, ← d4]
  let s5 := uI s4 130 51 0
  have fr5 : frm s0 s5 := frm_trans fr4 (frm_I (Or.inr ⟨rfl, by omega⟩))
  have R5 : rdr L s5 w p4 := by
    refine ⟨Fx_up b2.1 (upto_uI rfl : upto (fun q => q = 130) s4 s5), mRow_up b2.2.1 (upto_uI rfl : upto (fun q => q = 130) s4 s5) (by omega), ?_, ?_, b2.2.2.2.2⟩
    · show sI (uI s4 130 51 0) 130 34 = _
      rw [I_uI, if_neg (by decide)]; exact b2.2.2.1
    · show sI (uI s4 130 51 0) 130 33 = _
      rw [I_uI, if_neg (by decide)]; exact b2.2.2.2.1
  have w5 : sI s5 130 52 = 0 := by show sI (uI s4 130 51 0) 130 52 = _; rw [I_uI, if_neg (by decide)]; exact w4
  have Q5 : mqS s5 [] n := ⟨fun s x hs => by simp at hs, by show sI (uI s4 130 51 0) 130 51 = _; rw [I_uI, if_pos ⟨rfl, rfl⟩]; rfl⟩
  have key : ∀ k s p Q (st1 : ab_S), s + k = n → Q.length = s → frm s0 st1 → rdr L st1 w p → mqS st1 Q n → sI st1 130 52 = 0 → 3 * aB Q Q.length ≤ p → (∃ z s6, rdQ 7 false n k (w.drop p) = some (z, []) ∧ frm s0 s6 ∧ L_X11_unpack_79 130 (lN b0) (lN n) (nI s) st1 = (ab_ri (f_X11_spell 130 (lN b0) s6) fun x8 s7 => ab_z x8 (some (some (.int x8), s7))) ∧ mqF s6 (Q ++ z) ∧ z.length = k) ∨ ((∀ z, rdQ 7 false n k (w.drop p) ≠ some (z, [])) ∧ ∃ st', frm s0 st' ∧ L_X11_unpack_79 130 (lN b0) (lN n) (nI s) st1 = some (some (.int 0), st')) := by
    intro k
    induction k with
    | zero =>
      intro s p Q st1 hs hQl hf hR hQ h52 h3
      have X1 := rdr_fx hR
      have hpl := hR.2.2.2.2
      rw [e_X11_unpack_79, nI_l (by omega), if_pos ((lc_ge (by omega) (by omega)).mpr (by omega)), e_X11_unpack_274, im X1, Option.bind_some, h52, if_pos rfl, im X1, Option.bind_some, im X1, Option.bind_some, hR.2.2.1, hR.2.2.2.1, z_0]
      by_cases hpe : p = w.length
      · rw [if_pos (by rw [c_le (by omega) (by omega)]; omega), n47r X1, Option.bind_some, im X1, Option.bind_some, lN_i, w165 X1 (by omega), Option.bind_some, hQ.2]
        refine Or.inl ⟨[], uI st1 165 n (nI (aB Q Q.length)), by rw [hpe, List.drop_length]; rfl, frm_trans hf (frm_I (Or.inl (by omega))), rfl, ?_, rfl⟩
        rw [List.append_nil]
        have e165 : ∀ j, j ≠ n → sI (uI st1 165 n (nI (aB Q Q.length))) 165 j = sI st1 165 j := fun j hj => by rw [I_uI, if_neg (fun z => hj z.2)]
        refine ⟨⟨fun t x ht => ?_, ?_⟩, ?_, by omega, by omega⟩
        · have htl := (List.getElem?_eq_some_iff.mp ht).1
          obtain ⟨m1, m2, m3, m4⟩ := hQ.1 t x ht
          refine ⟨m1, m2, by rw [e165 t (by omega)]; exact m3, fun j y hj => ?_⟩
          obtain ⟨k1, k2, k3, k4, k5, k6⟩ := m4 j y hj
          refine ⟨?_, k2, ?_, by omega, k5, k6⟩
          · rw [I_uI, if_neg (fun z => by omega)]; exact k1
          · rw [I_uI, if_neg (fun z => by omega)]; exact k3
        · rw [I_uI, if_neg (fun z => by omega)]; exact hQ.2
        · rw [I_uI, if_pos ⟨rfl, by omega⟩]
      · rw [if_neg (by rw [c_le (by omega) (by omega)]; omega)]
        refine Or.inr ⟨fun z q => ?_, st1, hf, rfl⟩
        have q2 : (([] : QS), w.drop p) = (z, []) := Option.some.inj q
        have := congrArg (fun t => t.2.length) q2
        simp at this
        omega
    | succ k ih =>
      intro s p Q st1 hs hQl hf hR hQ h52 h3
      obtain ⟨s3, v1, v2⟩ := mstateU_ok (b := lN b0) hn2 hQl (by omega) hR hQ h52 h3
      have eQ : rdQ 7 false n (k + 1) (w.drop p) = (rdS 7 false n (w.drop p)).bind fun x => (rdQ 7 false n k x.2).map fun z => (x.1 :: z.1, z.2) := rfl
      rw [eQ]
      rcases v2 with ⟨x, r', p', t1, t2, t3, t4, t5, t6, t7⟩ | ⟨t1, t2⟩
      · have nx := ih (s + 1) p' (Q ++ [x]) s3 (by omega) (by rw [List.length_append, List.length_singleton]; omega) (frm_trans hf v1) t3 t4 t5 (by rw [List.length_append, List.length_singleton]; exact t7)
        rw [t2, t1, Option.bind_some]
        dsimp only
        rw [← t6]
        rcases nx with ⟨z, s6, a1, a2, a3, a4, a5⟩ | ⟨a1, a2⟩
        · exact Or.inl ⟨x :: z, s6, by rw [a1]; rfl, a2, a3, by rw [List.append_assoc] at a4; exact a4, by simp [a5]⟩
        · refine Or.inr ⟨fun z q => ?_, a2⟩
          cases hr : rdQ 7 false n k (w.drop p') with
          | none => rw [hr] at q; cases q
          | some y =>
            obtain ⟨y1, y2⟩ := y
            rw [hr] at q
            have e2 : y2 = [] := congrArg (fun t => t.2) (Option.some.inj q)
            exact a1 y1 (by rw [hr, e2])
      · refine Or.inr ⟨fun z q => ?_, s3, frm_trans hf v1, t2⟩
        rw [t1] at q; cases q
  have kk := key n 0 p4 [] s5 (by omega) rfl fr5 R5 Q5 w5 (by show 3 * aB [] 0 ≤ p4; unfold aB arcsB; simp)
  rcases kk with ⟨z, s6, e1, e2, e3, e4, e5⟩ | ⟨e1, st', e2, e3⟩
  · refine Or.inl ⟨(b0, 0, z), s6, ?_, frm2_f e2, e3, e4, by show 1 ≤ z.length; omega, c2⟩
    rw [e1, Option.bind_some]; exact if_pos rfl
  · refine Or.inr ⟨?_, st', frm2_f e2, e3⟩
    cases hr : rdQ 7 false n n (w.drop p4) with
    | none => rfl
    | some y =>
      rw [Option.bind_some]
      exact if_neg (fun q => e1 y.1 (by rw [hr, ← q]))
end MUNP2
