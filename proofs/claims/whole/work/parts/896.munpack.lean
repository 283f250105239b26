/-! THE MODEL UNPACKS -/
section MUNP
variable {L : Nat} {st : ab_S} {w : List Nat}
theorem rdA_f {K n B bf c : Nat} {r : List Nat} : rdA K false B (n + 1) bf (c :: r) = (rdn K r).bind fun x => (rdn K x.2).bind fun y => if x.1 < B then (rdA K false B n (c + 1) y.2).map fun z => ((c, x.1, y.1) :: z.1, z.2) else none := by
  rw [rdA_cons, if_neg (fun q => by cases q.1)]
theorem marcs_ok {b : Int64} {n s m : Nat} {Q : QS} {v : Option Nat} (hn : n ≤ 2401) (hm : m ≤ UV) (hs : Q.length = s) : ∀ len k p bf (as : List (Nat × Nat × Nat)) (st : ab_S), w.length - p = len → k ≤ m → as.length = k → rdr L st w p → mqS st (Q ++ [(v, 0, as)]) n → sI st 130 52 = 0 → 3 * aB (Q ++ [(v, 0, as)]) (Q.length + 1) ≤ p → ∃ st', frm st st' ∧ ((∃ l2 r' p', rdA 7 false n (m - k) bf (w.drop p) = some (l2, r') ∧ L_X11_unpack_166 130 b (lN n) (nI s) (lN m) (lN k) st = L_X11_unpack_79 130 b (lN n) (nI (s + 1)) st' ∧ rdr L st' w p' ∧ mqS st' (Q ++ [(v, 0, as ++ l2)]) n ∧ sI st' 130 52 = 0 ∧ w.drop p' = r' ∧ 3 * aB (Q ++ [(v, 0, as ++ l2)]) (Q.length + 1) ≤ p') ∨ (rdA 7 false n (m - k) bf (w.drop p) = none ∧ L_X11_unpack_166 130 b (lN n) (nI s) (lN m) (lN k) st = some (some (.int 0), st'))) := by
  have hUV : UV = 562949953421311 := rfl
  intro len
  induction len using Nat.strongRecOn with
  | ind len ih =>
    intro k p bf as st hlen hkm hask hR hQ h52 h3
    have hX := rdr_fx hR
    have hwl := hR.2.1.2
    have hpw := hR.2.2.2.2
    by_cases hk : k = m
    · refine ⟨st, ⟨upto_rfl, fun _ _ _ _ => rfl⟩, Or.inl ⟨[], w.drop p, p, by rw [show m - k = 0 by omega]; rfl, ?_, hR, by rw [List.append_nil]; exact hQ, h52, rfl, by rw [List.append_nil]; exact h3⟩⟩
      rw [e_X11_unpack_166, if_pos ((lc_ge (by omega) (by omega)).mpr (by omega)), e_X11_unpack_268, nI_1]
    obtain ⟨j, hj⟩ : ∃ j, m - k = j + 1 := ⟨m - k - 1, by omega⟩
    have h51 : sI st 130 51 = nI (aB (Q ++ [(v, 0, as)]) (Q.length + 1)) := by have := hQ.2; rw [List.length_append, List.length_singleton] at this; exact this
    generalize ha : aB (Q ++ [(v, 0, as)]) (Q.length + 1) = A at *
    obtain ⟨s1, r1, v1⟩ := mbyte_ok hR
    have X1 : FX s1 := FX_up hX r1.1
    let s1' := fun c : Int32 => uI s1 166 A c
    -- the rest of one arc, whatever was read
    have body : ∀ (c : Int32), f_X11_readByte 130 st = some (some (.int c), s1) → L_X11_unpack_166 130 b (lN n) (nI s) (lN m) (lN k) st = ab_rl (f_X11_readNumber 130 (s1' c)) fun x8 s7 => Option.bind (ab_gR s7 130 11 50) fun x9 => Option.bind (ab_gI s7 130 11 51) fun x10 => ab_rl (f_X11_readNumber 130 s7) fun x12 s11 => Option.bind (ab_wJ s11 x9 x10 x12) fun s13 => Option.bind (ab_gI s13 130 11 52) fun x14 => if x14 = 0 then (if (lg_cmp x8 (lN n)) < 0 then L_X11_unpack_234 130 b (lN n) (nI s) (lN m) (lN k) x8 130 0 s13 else L_X11_unpack_229 130 b (lN n) (nI s) (lN m) (lN k) x8 130 s13) else L_X11_unpack_229 130 b (lN n) (nI s) (lN m) (lN k) x8 130 s13 := by
      intro c hc
      rw [e_X11_unpack_166, if_neg (fun q => by have := (lc_ge (by omega) (by omega)).mp q; omega), im hX, Option.bind_some, h52, if_pos rfl, n48r hX, Option.bind_some, im hX, Option.bind_some, h51, hc, ri_ok, w166 X1 (by omega), Option.bind_some]
    have u1' : ∀ c, upto (fun q => q = 166) s1 (s1' c) := fun c => upto_uI rfl
    have bad229 : ∀ (x8 : Int64) (s13 : ab_S), FX s13 → sI s13 130 51 = nI A → ∃ st', frm s13 st' ∧ L_X11_unpack_229 130 b (lN n) (nI s) (lN m) (lN k) x8 130 s13 = some (some (.int 0), st') := by
      intro x8 s13 X h
      have Xa : FX (uI s13 130 52 1) := X
      have Xb : FX (uI (uI s13 130 52 1) 167 A x8.toInt32) := X
      have Xc : FX (uI (uI (uI s13 130 52 1) 167 A x8.toInt32) 130 51 (nI A + 1)) := X
      have ea : sI (uI s13 130 52 1) 130 51 = nI A := by rw [I_uI, if_neg (by decide)]; exact h
      have eb : sI (uI (uI s13 130 52 1) 167 A x8.toInt32) 130 51 = nI A := by rw [I_uI, if_neg (fun z => by omega)]; exact ea
      have ec : sI (uI (uI (uI s13 130 52 1) 167 A x8.toInt32) 130 51 (nI A + 1)) 130 52 = 1 := by
        rw [I_uI, if_neg (by decide), I_uI, if_neg (fun z => by omega), I_uI, if_pos ⟨rfl, rfl⟩]
      refine ⟨uI (uI (uI s13 130 52 1) 167 A x8.toInt32) 130 51 (nI A + 1), ⟨upto_trans (upto_uI (Or.inl rfl)) (upto_trans (upto_uI (Or.inr (by omega))) (upto_uI (Or.inl rfl))), fun j h1 h2 h3 => ?_⟩, ?_⟩
      rotate_left
      · rw [e_X11_unpack_229, e_X11_unpack_234, pmZ1 X, Option.bind_some, n49r Xa, Option.bind_some, im Xa, Option.bind_some, ea, w167 Xa (by omega), Option.bind_some, im Xb, Option.bind_some, pm Xb, Option.bind_some, eb, bad166 Xc ec]
      · rw [I_uI, if_neg (fun z => h2 z.2), I_uI, if_neg (fun z => by omega), I_uI, if_neg (fun z => h3 z.2)]
    -- from the sign on
    have after : ∀ (c : Int32) (p1 : Nat), f_X11_readByte 130 st = some (some (.int c), s1) → rdr L s1 w p1 → ∃ s7 p2 x8, r130 (s1' c) s7 ∧ rdr L s7 w p2 ∧ p1 ≤ p2 ∧ ((∃ x r, rdn 7 (w.drop p1) = some (x, r) ∧ x ≤ UV ∧ x8 = lN x ∧ w.drop p2 = r ∧ p1 + 1 ≤ p2 ∧ sI s7 130 52 = sI s1 130 52) ∨ (rdn 7 (w.drop p1) = none ∧ x8 = 0 ∧ sI s7 130 52 = 1)) ∧ ∃ s11 p3 x12, r130 s7 s11 ∧ rdr L s11 w p3 ∧ p2 ≤ p3 ∧ ((∃ y r, rdn 7 (w.drop p2) = some (y, r) ∧ y ≤ UV ∧ x12 = lN y ∧ w.drop p3 = r ∧ p2 + 1 ≤ p3 ∧ sI s11 130 52 = sI s7 130 52) ∨ (rdn 7 (w.drop p2) = none ∧ x12 = 0 ∧ sI s11 130 52 = 1)) ∧ L_X11_unpack_166 130 b (lN n) (nI s) (lN m) (lN k) st = (if sI s11 130 52 = 0 then (if (lg_cmp x8 (lN n)) < 0 then L_X11_unpack_234 130 b (lN n) (nI s) (lN m) (lN k) x8 130 0 (uJ s11 168 A x12) else L_X11_unpack_229 130 b (lN n) (nI s) (lN m) (lN k) x8 130 (uJ s11 168 A x12)) else L_X11_unpack_229 130 b (lN n) (nI s) (lN m) (lN k) x8 130 (uJ s11 168 A x12)) := by
      intro c p1 hc hR1
      have hR1' : rdr L (s1' c) w p1 := rdr_up hR1 (u1' c) (by omega) (by omega)
      obtain ⟨s7, p2, a1, a2, a3, a4⟩ := mnum_ok hR1'
      obtain ⟨s11, p3, b1, b2, b3, b4⟩ := mnum_ok a2
      have e52 : sI (s1' c) 130 52 = sI s1 130 52 := by show sI (uI s1 166 A c) 130 52 = _; rw [I_uI, if_neg (fun z => by omega)]
      have X7 := rdr_fx a2
      have X11 := rdr_fx b2
      have e7 : sI s7 130 51 = nI A := by
        rw [a1.2 51 (by decide) (by decide)]
        show sI (uI s1 166 A c) 130 51 = _
        rw [I_uI, if_neg (fun z => by omega), r1.2 51 (by decide) (by decide)]
        exact h51
      have tail : ∀ (x8 x12 : Int64), f_X11_readNumber 130 (s1' c) = some (some (.long x8), s7) → f_X11_readNumber 130 s7 = some (some (.long x12), s11) → L_X11_unpack_166 130 b (lN n) (nI s) (lN m) (lN k) st = (if sI s11 130 52 = 0 then (if (lg_cmp x8 (lN n)) < 0 then L_X11_unpack_234 130 b (lN n) (nI s) (lN m) (lN k) x8 130 0 (uJ s11 168 A x12) else L_X11_unpack_229 130 b (lN n) (nI s) (lN m) (lN k) x8 130 (uJ s11 168 A x12)) else L_X11_unpack_229 130 b (lN n) (nI s) (lN m) (lN k) x8 130 (uJ s11 168 A x12)) := by
        intro x8 x12 h1 h2
        have X12 : FX (uJ s11 168 A x12) := X11
        rw [body c hc, h1, rl_ok, n50r X7, Option.bind_some, im X7, Option.bind_some, e7, h2, rl_ok, w168 X11 (by omega), Option.bind_some, im X12, Option.bind_some]
        rfl
      rcases a4 with ⟨x, r, c1, c2, c3, c4, c5, c6⟩ | ⟨c1, c3, c6⟩
      · rcases b4 with ⟨y, r2, d1, d2, d3, d4, d5, d6⟩ | ⟨d1, d3, d6⟩
        · exact ⟨s7, p2, lN x, a1, a2, a3, Or.inl ⟨x, r, c1, c2, rfl, c4, c5, c6.trans e52⟩, s11, p3, lN y, b1, b2, b3, Or.inl ⟨y, r2, d1, d2, rfl, d4, d5, d6⟩, tail _ _ c3 d3⟩
        · exact ⟨s7, p2, lN x, a1, a2, a3, Or.inl ⟨x, r, c1, c2, rfl, c4, c5, c6.trans e52⟩, s11, p3, 0, b1, b2, b3, Or.inr ⟨d1, rfl, d6⟩, tail _ _ c3 d3⟩
      · rcases b4 with ⟨y, r2, d1, d2, d3, d4, d5, d6⟩ | ⟨d1, d3, d6⟩
        · exact ⟨s7, p2, 0, a1, a2, a3, Or.inr ⟨c1, rfl, c6⟩, s11, p3, lN y, b1, b2, b3, Or.inl ⟨y, r2, d1, d2, rfl, d4, d5, d6⟩, tail _ _ c3 d3⟩
        · exact ⟨s7, p2, 0, a1, a2, a3, Or.inr ⟨c1, rfl, c6⟩, s11, p3, 0, b1, b2, b3, Or.inr ⟨d1, rfl, d6⟩, tail _ _ c3 d3⟩
    have fr0 : frm st s1 := frm_r r1
    have frS : ∀ (c : Int32) (s7 s11 : ab_S) (x12 : Int64), r130 (s1' c) s7 → r130 s7 s11 → frm st (uJ s11 168 A x12) := by
      intro c s7 s11 x12 h1 h2
      refine frm_trans fr0 (frm_trans (st' := s1' c) ⟨upto_uI (Or.inr (by omega)), fun j _ _ _ => ?_⟩ (frm_trans (frm_r h1) (frm_trans (frm_r h2) ⟨upto_uJ (Or.inr (by omega)), fun j _ _ _ => rfl⟩)))
      show sI (uI s1 166 A c) 130 j = _
      rw [I_uI, if_neg (fun z => by omega)]
    have e51 : ∀ (c : Int32) (s7 s11 : ab_S) (x12 : Int64), r130 (s1' c) s7 → r130 s7 s11 → sI (uJ s11 168 A x12) 130 51 = nI A := by
      intro c s7 s11 x12 h1 h2
      show sI s11 130 51 = _
      rw [h2.2 51 (by decide) (by decide), h1.2 51 (by decide) (by decide)]
      show sI (uI s1 166 A c) 130 51 = _
      rw [I_uI, if_neg (fun z => by omega), r1.2 51 (by decide) (by decide)]
      exact h51
    rcases v1 with ⟨c, hg, hc, hb, hR1, h521⟩ | ⟨hg, hb, hR1, h521⟩
    rotate_left
    · -- no sign
      obtain ⟨s7, p2, x8, a1, a2, a3, a4, s11, p3, x12, b1, b2, b3, b4, b5⟩ := after 0 p hb hR1
      have w11 : sI s11 130 52 = 1 := by
        have w7 : sI s7 130 52 = 1 := by
          rcases a4 with ⟨_, _, _, _, _, _, _, q⟩ | ⟨_, _, q⟩
          · rw [q]; exact h521
          · exact q
        rcases b4 with ⟨_, _, _, _, _, _, _, q⟩ | ⟨_, _, q⟩
        · rw [q]; exact w7
        · exact q
      obtain ⟨st', f1, f2⟩ := bad229 x8 (uJ s11 168 A x12) (rdr_fx b2) (e51 0 s7 s11 x12 a1 b1)
      refine ⟨st', frm_trans (frS 0 s7 s11 x12 a1 b1) f1, Or.inr ⟨by rw [hj, drop_none hg]; rfl, ?_⟩⟩
      rw [b5, w11, if_neg (by decide), f2]
    · obtain ⟨s7, p2, x8, a1, a2, a3, a4, s11, p3, x12, b1, b2, b3, b4, b5⟩ := after (nI c) (p + 1) hb hR1
      have X11 := rdr_fx b2
      have w1 : sI s1 130 52 = 0 := h521.trans h52
      have no : ∀ (e : rdA 7 false n (m - k) bf (w.drop p) = none) (e2 : L_X11_unpack_166 130 b (lN n) (nI s) (lN m) (lN k) st = L_X11_unpack_229 130 b (lN n) (nI s) (lN m) (lN k) x8 130 (uJ s11 168 A x12)), ∃ st', frm st st' ∧ ((∃ l2 r' p', rdA 7 false n (m - k) bf (w.drop p) = some (l2, r') ∧ L_X11_unpack_166 130 b (lN n) (nI s) (lN m) (lN k) st = L_X11_unpack_79 130 b (lN n) (nI (s + 1)) st' ∧ rdr L st' w p' ∧ mqS st' (Q ++ [(v, 0, as ++ l2)]) n ∧ sI st' 130 52 = 0 ∧ w.drop p' = r' ∧ 3 * aB (Q ++ [(v, 0, as ++ l2)]) (Q.length + 1) ≤ p') ∨ (rdA 7 false n (m - k) bf (w.drop p) = none ∧ L_X11_unpack_166 130 b (lN n) (nI s) (lN m) (lN k) st = some (some (.int 0), st'))) := by
        intro e e2
        obtain ⟨st', f1, f2⟩ := bad229 x8 (uJ s11 168 A x12) X11 (e51 (nI c) s7 s11 x12 a1 b1)
        exact ⟨st', frm_trans (frS (nI c) s7 s11 x12 a1 b1) f1, Or.inr ⟨e, by rw [e2, f2]⟩⟩
      rw [hj, drop_some hg, rdA_f] at no ⊢
      rcases a4 with ⟨x, rx, c1, c2, rfl, c4, c5, c6⟩ | ⟨c1, rfl, c6⟩
      rotate_left
      · refine no (by rw [c1]; rfl) ?_
        have w11 : sI s11 130 52 = 1 := by
          rcases b4 with ⟨_, _, _, _, _, _, _, q⟩ | ⟨_, _, q⟩
          · rw [q]; exact c6
          · exact q
        rw [b5, w11, if_neg (by decide)]
      rcases b4 with ⟨y, ry, d1, d2, rfl, d4, d5, d6⟩ | ⟨d1, rfl, d6⟩
      rotate_left
      · refine no ?_ ?_
        · rw [c1, Option.bind_some]
          dsimp only
          rw [← c4, d1]; rfl
        · rw [b5, d6, if_neg (by decide)]
      have w11 : sI s11 130 52 = 0 := d6.trans (c6.trans w1)
      have hcmp : (lg_cmp (lN x) (lN n) < 0) ↔ x < n := by rw [lg_cmp_lt, pk_lLT (by omega) (by omega)]
      have eR : ((rdn 7 (w.drop (p + 1))).bind fun x => (rdn 7 x.2).bind fun y => if x.1 < n then (rdA 7 false n j (c + 1) y.2).map fun z => ((c, x.1, y.1) :: z.1, z.2) else none) = if x < n then (rdA 7 false n j (c + 1) (w.drop p3)).map fun z => ((c, x, y) :: z.1, z.2) else none := by
        rw [c1, Option.bind_some]
        dsimp only
        rw [← c4, d1, Option.bind_some, d4]
      rw [eR] at no ⊢
      by_cases hxn : x < n
      rotate_left
      · refine no (if_neg hxn) ?_
        rw [b5, w11, if_pos rfl, if_neg (fun q => hxn (hcmp.mp q))]
      rw [if_pos hxn]
      -- an arc is kept
      let s13 := uJ s11 168 A (lN y)
      let s14 := uI s13 130 52 0
      let s15 := uI s14 167 A (nI x)
      let s16 := uI s15 130 51 (nI (A + 1))
      have X13 : FX s13 := X11
      have X14 : FX s14 := X11
      have X15 : FX s15 := X11
      have g51 : sI s14 130 51 = nI A := by
        show sI (uI (uJ s11 168 A (lN y)) 130 52 0) 130 51 = _
        rw [I_uI, if_neg (by decide)]
        exact e51 (nI c) s7 s11 (lN y) a1 b1
      have g51' : sI s15 130 51 = nI A := by
        show sI (uI s14 167 A (nI x)) 130 51 = _
        rw [I_uI, if_neg (fun z => by omega)]; exact g51
      have estep : L_X11_unpack_166 130 b (lN n) (nI s) (lN m) (lN k) st = L_X11_unpack_166 130 b (lN n) (nI s) (lN m) (lN (k + 1)) s16 := by
        rw [b5, w11, if_pos rfl, if_pos (hcmp.mpr hxn)]
        show L_X11_unpack_234 130 b (lN n) (nI s) (lN m) (lN k) (lN x) 130 0 s13 = _
        rw [e_X11_unpack_234, pmZ0 X13, Option.bind_some]
        show Option.bind (ab_gR s14 130 11 49) _ = _
        rw [n49r X14, Option.bind_some, im X14, Option.bind_some, g51, lN_i, w167 X14 (by omega), Option.bind_some]
        show Option.bind (ab_gI s15 130 11 51) _ = _
        rw [im X15, Option.bind_some, g51', nI_1, pm X15, Option.bind_some, lN_1]
      have fr16 : frm st s16 := by
        refine frm_trans (frS (nI c) s7 s11 (lN y) a1 b1) ⟨upto_trans (upto_uI (Or.inl rfl)) (upto_trans (upto_uI (Or.inr (by omega))) (upto_uI (Or.inl rfl))), fun j h1 h2 h3 => ?_⟩
        show sI (uI (uI (uI s13 130 52 0) 167 A (nI x)) 130 51 (nI (A + 1))) 130 j = _
        rw [I_uI, if_neg (fun z => h2 z.2), I_uI, if_neg (fun z => by omega), I_uI, if_neg (fun z => h3 z.2)]
      have R16 : rdr L s16 w p3 := by
        refine ⟨Fx_up hR.1 fr16.1, mRow_up hR.2.1 fr16.1 (by omega), ?_, ?_, b2.2.2.2.2⟩
        · rw [fr16.2 34 (by decide) (by decide) (by decide)]; exact hR.2.2.1
        · show sI (uI (uI (uI (uJ s11 168 A (lN y)) 130 52 0) 167 A (nI x)) 130 51 (nI (A + 1))) 130 33 = _
          rw [I_uI, if_neg (by decide), I_uI, if_neg (fun z => by omega), I_uI, if_neg (by decide)]
          exact b2.2.2.2.1
      have q52 : sI s16 130 52 = 0 := by
        show sI (uI (uI (uI (uJ s11 168 A (lN y)) 130 52 0) 167 A (nI x)) 130 51 (nI (A + 1))) 130 52 = _
        rw [I_uI, if_neg (by decide), I_uI, if_neg (fun z => by omega), I_uI, if_pos ⟨rfl, rfl⟩]
      have i166 : sI s11 166 = sI (uI s1 166 A (nI c)) 166 := by rw [(b1.1.2.2 166 (by omega)).1, (a1.1.2.2 166 (by omega)).1]
      have i167 : sI s11 167 = sI st 167 := by
        rw [(b1.1.2.2 167 (by omega)).1, (a1.1.2.2 167 (by omega)).1, ((u1' (nI c)).2.2 167 (by omega)).1, (r1.1.2.2 167 (by omega)).1]
      have i168 : sJ s11 168 = sJ st 168 := by
        rw [(b1.1.2.2 168 (by omega)).2, (a1.1.2.2 168 (by omega)).2, ((u1' (nI c)).2.2 168 (by omega)).2, (r1.1.2.2 168 (by omega)).2]
      have i164 : sJ s11 164 = sJ st 164 := by
        rw [(b1.1.2.2 164 (by omega)).2, (a1.1.2.2 164 (by omega)).2, ((u1' (nI c)).2.2 164 (by omega)).2, (r1.1.2.2 164 (by omega)).2]
      have i165 : sI s11 165 = sI st 165 := by
        rw [(b1.1.2.2 165 (by omega)).1, (a1.1.2.2 165 (by omega)).1, ((u1' (nI c)).2.2 165 (by omega)).1, (r1.1.2.2 165 (by omega)).1]
      have s16I : ∀ q j, q ≠ 130 → q ≠ 167 → sI s16 q j = sI s11 q j := fun q j h1 h2 => by
        show sI (uI (uI (uI (uJ s11 168 A (lN y)) 130 52 0) 167 A (nI x)) 130 51 (nI (A + 1))) q j = _
        rw [I_uI, if_neg (fun z => h1 z.1), I_uI, if_neg (fun z => h2 z.1), I_uI, if_neg (fun z => h1 z.1), I_uJ]
      have s16J : ∀ q j, sJ s16 q j = if q = 168 ∧ j = A then lN y else sJ s11 q j := fun q j => by
        show sJ (uI (uI (uI (uJ s11 168 A (lN y)) 130 52 0) 167 A (nI x)) 130 51 (nI (A + 1))) q j = _
        rw [J_uI, J_uI, J_uI, J_uJ]
      have s167 : ∀ j, sI s16 167 j = if j = A then nI x else sI st 167 j := fun j => by
        show sI (uI (uI (uI (uJ s11 168 A (lN y)) 130 52 0) 167 A (nI x)) 130 51 (nI (A + 1))) 167 j = _
        rw [I_uI, if_neg (fun z => by omega), I_uI, I_uI, if_neg (c := 167 = 130 ∧ j = 52) (fun z => by omega), I_uJ, i167]
        simp
      have Q16 : mqS s16 (Q ++ [(v, 0, as ++ [(c, x, y)])]) n := by
        refine mqS_arc hQ (y := (c, x, y)) ⟨hc, hxn, d2⟩ ?_ ?_ ?_ ?_ ?_ ?_ ?_ ?_ ?_
        · funext j; rw [s16J, if_neg (fun z => by omega), i164]
        · funext j; rw [s16I 165 j (by omega) (by omega), i165]
        · intro j hj
          rw [ha] at hj
          rw [s16I 166 j (by omega) (by omega), i166, I_uI, if_neg (fun z => hj z.2), (r1.1.2.2 166 (by omega)).1]
        · intro j hj
          rw [ha] at hj
          rw [s167, if_neg hj]
        · intro j hj
          rw [ha] at hj
          rw [s16J, if_neg (fun z => hj z.2), i168]
        · rw [ha, s16I 166 A (by omega) (by omega), i166, I_uI, if_pos ⟨rfl, rfl⟩]
        · rw [ha, s167, if_pos rfl]
        · rw [ha, s16J, if_pos ⟨rfl, rfl⟩]
        · rw [ha]
          show sI (uI s15 130 51 (nI (A + 1))) 130 51 = _
          rw [I_uI, if_pos ⟨rfl, rfl⟩]
      have hA1 : aB (Q ++ [(v, 0, as ++ [(c, x, y)])]) (Q.length + 1) = A + 1 := by
        rw [aB_last] at ha ⊢
        dsimp only at ha ⊢
        rw [List.length_append, List.length_singleton]
        omega
      have hpl := (List.getElem?_eq_some_iff.mp hg).1
      have hmj : m - (k + 1) = j := by omega
      obtain ⟨st', f1, f2⟩ := ih (w.length - p3) (by omega) (k + 1) p3 (c + 1) (as ++ [(c, x, y)]) s16 rfl (by omega) (by rw [List.length_append, List.length_singleton, hask]) R16 Q16 q52 (by rw [hA1]; omega)
      refine ⟨st', frm_trans fr16 f1, ?_⟩
      rw [hmj] at f2
      rw [estep]
      rcases f2 with ⟨l2, r', p', t1, t2, t3, t4, t5, t6, t7⟩ | ⟨t1, t2⟩
      · refine Or.inl ⟨(c, x, y) :: l2, r', p', by rw [t1]; rfl, t2, t3, ?_, t5, t6, ?_⟩
        · rw [List.append_assoc] at t4; exact t4
        · rw [List.append_assoc] at t7; exact t7
      · exact Or.inr ⟨by rw [t1]; rfl, t2⟩
end MUNP
