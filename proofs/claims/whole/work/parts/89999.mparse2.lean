/-! THE MODEL READS PATTERNS, whole -/
def PE (st : ab_S) (w : List Nat) (E : List Ed) (N nS : Nat) (l : Lg) (en : Nat) : Prop := MU st w E N nS ∧ sI st 130 36 = nI en ∧ en < N ∧ (∀ e ∈ E, e.1 < N ∧ e.2.1 < N) ∧ N ≤ 80 ∧ E.length ≤ 80 ∧ nS < 40 ∧ ∀ x, Pt E 0 en x ↔ l x
section MPARSE2
variable {w : List Nat}
theorem parseLM : ∀ (f p n : Nat) (st : ab_S) (E : List Ed) (N nS : Nat) (A T Q : Nat → Nat) (CL SL : Nat → Lg), MP st w p n E N nS A T Q CL SL → w.length < f + p → ∃ st', FM st st' ∧ ((∃ e, prs w f p n CL SL = .inl e ∧ e ≤ w.length ∧ L_X11_parseAll_13 130 (nI n) 1 st = some (none, st') ∧ sI st' 130 35 = nI e) ∨ (∃ l E' N' nS' en, prs w f p n CL SL = .inr l ∧ L_X11_parseAll_13 130 (nI n) 1 st = some (none, st') ∧ sI st' 130 35 = -1 ∧ PE st' w E' N' nS' l en)) := by
  intro f
  induction f with
  | zero =>
    intro p n st E N nS A T Q CL SL h hf
    have := h.2.2.2.2.2.1
    omega
  | succ f ih =>
    intro p n st E N nS A T Q CL SL h hf
    obtain ⟨hM, hG, hL, h33, h35, hp, hn, hnS, hN, hE, hA0⟩ := h
    have X := hM.1
    have hl := hM.2.2.1
    have hw := lgM hM
    obtain ⟨l1, l2, l3⟩ := hL.1 n (Nat.le_refl _)
    have bad : ∀ (s : ab_S) (e : Nat) (k1 k2 : Int32), FX s → FM st s → e ≤ w.length → sI s 130 35 = nI e → ∃ st', FM st st' ∧ L_X11_parseAll_13 130 k1 k2 s = some (none, st') ∧ sI st' 130 35 = nI e := by
      intro s e k1 k2 hX hF he h5
      exact ⟨_, FM_trans hF (FM_f (by omega)), bad_end hX (by omega) h5, by rw [I_uI, if_neg (by omega)]; exact h5⟩
    have e13 : L_X11_parseAll_13 130 (nI n) 1 st = if lg w p = (-1 : Int32)
        then L_X11_parseAll_47 130 (nI n) 1 (lg w p) st
        else if lg w p = (124 : Int32)
          then L_X11_parseAll_47 130 (nI n) 1 (lg w p) st
          else if lg w p = (41 : Int32)
            then L_X11_parseAll_47 130 (nI n) 1 (lg w p) st
            else ab_ri (f_X11_spot 130 st) fun x5 s4 =>
              Option.bind (ab_gR s4 130 11 39) fun x6 =>
              Option.bind (ab_rI s4 x6 (nI n)) fun x7 =>
              ab_rv (f_X11_step 130 x7 x5 (-1 : Int32) s4) fun s8 =>
              Option.bind (ab_gR s8 130 11 40) fun x9 =>
              Option.bind (ab_wI s8 x9 (nI n) x5) fun s10 =>
              if lg w p = (40 : Int32)
              then if nI n = (4 : Int32)
                then Option.bind (ab_gI s10 130 11 33) fun x11 =>
                  ab_rv (f_X11_fail 130 x11 s10) fun s12 =>
                  L_X11_parseAll_266 130 (nI n) 1 s12
                else L_X11_parseAll_212 130 (nI n) 1 (lg w p) x5 s10
              else L_X11_parseAll_212 130 (nI n) 1 (lg w p) x5 s10 := by
      rw [e_X11_parseAll_13, if_neg (by decide), im X, Option.bind_some, h35, if_pos rfl, here_ok hM h33 (by omega), ri_ok]
    obtain ⟨s5, a1, a2, a3, a4⟩ := step_ok hM (by omega) (u := Q n) (v := T n)
    have X5 := a2.1
    have F5 := FM_3 a3 a4
    have k33 : sI s5 130 33 = nI p := (a4 33 (by omega) (by omega) (by omega)).trans h33
    have k35 : sI s5 130 35 = -1 := (a4 35 (by omega) (by omega) (by omega)).trans h35
    have e47 : ∀ l3 : Int32, L_X11_parseAll_47 130 (nI n) 1 l3 st = if l3 = (124 : Int32)
    then Option.bind (ab_gI s5 130 11 33) fun x6 =>
      Option.bind (ab_pI s5 130 11 33 (x6 + (1 : Int32))) fun s7 =>
      ab_rv (f_X11_openSequence 130 (nI n) s7) fun s8 =>
      L_X11_parseAll_266 130 (nI n) 1 s8
    else if nI n = 0
      then if l3 = (41 : Int32)
        then Option.bind (ab_gI s5 130 11 33) fun x9 =>
          ab_rv (f_X11_fail 130 x9 s5) fun s10 =>
          L_X11_parseAll_266 130 (nI n) (0 : Int32) s10
        else L_X11_parseAll_266 130 (nI n) (0 : Int32) s5
      else if l3 = (41 : Int32)
        then Option.bind (ab_gI s5 130 11 33) fun x11 =>
          Option.bind (ab_pI s5 130 11 33 (x11 + (1 : Int32))) fun s12 =>
          Option.bind (ab_gR s12 130 11 40) fun x13 =>
          Option.bind (ab_rI s12 x13 (nI n + (-1 : Int32))) fun x14 =>
          Option.bind (ab_gR s12 130 11 38) fun x15 =>
          Option.bind (ab_rI s12 x15 ((nI n + (-1 : Int32)) + (1 : Int32))) fun x16 =>
          ab_rv (f_X11_closePiece 130 (nI n + (-1 : Int32)) x14 x16 s12) fun s17 =>
          L_X11_parseAll_266 130 (nI n + (-1 : Int32)) 1 s17
        else Option.bind (ab_gI s5 130 11 34) fun x18 =>
          ab_rv (f_X11_fail 130 x18 s5) fun s19 =>
          L_X11_parseAll_266 130 (nI n) 1 s19 := by
      intro l3'
      rw [e_X11_parseAll_47, n39r X, Option.bind_some, r157 X (by omega), Option.bind_some, l3, n38r X, Option.bind_some, r156 X (by omega), Option.bind_some, l2, a1, rv_ok]
    rw [e13, prs_eq]
    cases hg : w[p]? with
    | none =>
      have hpe : w.length ≤ p := List.getElem?_eq_none_iff.mp hg
      rw [lg_none hg, if_pos (c := (-1 : Int32) = -1) rfl, e47, if_neg (c := (-1 : Int32) = 124) (by decide)]
      dsimp only
      cases n with
      | zero =>
        rw [if_pos (c := 0 = 0) rfl, if_pos (c := nI 0 = 0) rfl, if_neg (c := (-1 : Int32) = 41) (by decide), e_X11_parseAll_266, e_X11_parseAll_13, if_pos (c := (0 : Int32) = 0) rfl, e_X11_parseAll_269, n38r X5, Option.bind_some, show (0 : Int32) = nI 0 from rfl, r156 X5 (by omega), Option.bind_some, pm X5, Option.bind_some, lv3 a3 (by omega), l2]
        have g2 := hG.g2 0 (Nat.le_refl _)
        refine ⟨_, FM_trans F5 (FM_f (by omega)), Or.inr ⟨_, E ++ [(Q 0, T 0, none)], N, nS, T 0, rfl, rfl, by rw [I_uI, if_neg (by omega)]; exact k35, MU_f a2 (by omega), by rw [I_uI, if_pos ⟨rfl, rfl⟩], g2.2.1, fun e he => ?_, by omega, ?_, by omega, fun x => ?_⟩⟩
        · rcases List.mem_append.mp he with q | q
          · exact hG.g1 e q
          · rw [List.mem_singleton.mp q]; exact ⟨g2.2.2.2.1, g2.2.1⟩
        · rw [List.length_append]; show E.length + 1 ≤ 80; omega
        · have := gi_end hG x
          rw [hA0] at this
          exact this
      | succ m =>
        rw [if_neg (c := m + 1 = 0) (Nat.succ_ne_zero m), if_neg (c := nI (m + 1) = 0) (by show ¬ nI (m + 1) = nI 0; rw [c_eq (by omega) (by omega)]; omega), if_neg (c := (-1 : Int32) = 41) (by decide), im X5, Option.bind_some, a2.2.2.2.1, fail_ok X5 k35, rv_ok, e_X11_parseAll_266]
        obtain ⟨st', z1, z2, z3⟩ := bad (uI s5 130 35 (nI w.length)) w.length (nI (m + 1)) 1 (MU_f a2 (by omega)).1 (FM_trans F5 (FM_f (by omega))) (Nat.le_refl _) (by rw [I_uI, if_pos ⟨rfl, rfl⟩])
        exact ⟨st', z1, Or.inl ⟨_, rfl, Nat.le_refl _, z2, z3⟩⟩
    | some c =>
      have hpl := (List.getElem?_eq_some_iff.mp hg).1
      have hc := hw _ (List.mem_of_getElem? hg)
      have neq : ∀ (K : Int32) (k : Nat), K = nI k → k < 256 → c ≠ k → ¬ nI c = K := fun K k e hk hne z => hne (by rw [e, c_eq (by omega) (by omega)] at z; exact z)
      have yeq : ∀ (K : Int32) (k : Nat), K = nI k → c = k → nI c = K := fun K k e hk => by rw [e, hk]
      rw [lg_some hg, if_neg (c := nI c = -1) (by rw [c_m1e (by omega)]; exact id)]
      dsimp only
      by_cases h124 : c = 124
      · have M7 : MU (uI s5 130 33 (nI (p + 1))) w (E ++ [(Q n, T n, none)]) N nS := MU_f a2 (by omega)
        have c155 : sI (uI s5 130 33 (nI (p + 1))) 155 n = nI (A n) := by rw [I_uI, if_neg (by omega), lv3 a3 (by omega)]; exact l1
        obtain ⟨s8, b1, b2, b3, b4, b5⟩ := openSeq_ok M7 (by rw [List.length_append]; show E.length + 1 < 400; omega) (by omega) (by omega) c155
        rw [if_pos (c := nI c = 124) (yeq 124 124 rfl h124), if_pos h124, e47, if_pos (c := nI c = 124) (yeq 124 124 rfl h124), im X5, Option.bind_some, k33, nI_1, pm X5, Option.bind_some, b1, rv_ok, e_X11_parseAll_266]
        rw [List.append_assoc] at b2
        have L8 : LV s8 n A T (up1 Q n N) := LV_Q (LV_up hL (fun q hq i => by rw [I_uI, if_neg (by omega), lv3 a3 hq])) b5
        obtain ⟨st', z1, z2⟩ := ih (p + 1) n s8 _ (N + 1) nS A T (up1 Q n N) _ _ ⟨b2, gi_bar hG, L8, by rw [b4 33 (by omega) (by omega) (by omega), I_uI, if_pos ⟨rfl, rfl⟩], by rw [b4 35 (by omega) (by omega) (by omega), I_uI, if_neg (by omega)]; exact k35, by omega, hn, by omega, by omega, by rw [List.length_append]; show E.length + 2 ≤ _; omega, hA0⟩ (by omega)
        exact ⟨st', FM_trans (FM_trans F5 (FM_trans (FM_f (by omega)) b3)) z1, z2⟩
      rw [if_neg (c := nI c = 124) (neq 124 124 rfl (by omega) h124), if_neg h124]
      by_cases h41 : c = 41
      · rw [if_pos (c := nI c = 41) (yeq 41 41 rfl h41), if_pos h41, e47, if_neg (c := nI c = 124) (neq 124 124 rfl (by omega) h124)]
        cases n with
        | zero =>
          rw [if_pos (c := nI 0 = 0) rfl, if_pos (c := nI c = 41) (yeq 41 41 rfl h41), if_pos (c := 0 = 0) rfl, im X5, Option.bind_some, k33, fail_ok X5 k35, rv_ok, e_X11_parseAll_266]
          obtain ⟨st', z1, z2, z3⟩ := bad (uI s5 130 35 (nI p)) p (nI 0) 0 (MU_f a2 (by omega)).1 (FM_trans F5 (FM_f (by omega))) hp (by rw [I_uI, if_pos ⟨rfl, rfl⟩])
          exact ⟨st', z1, Or.inl ⟨_, rfl, hp, z2, z3⟩⟩
        | succ m =>
          have em : nI (m + 1) + (-1 : Int32) = nI m := by rw [← nI_1, Int32.add_assoc, show (1 : Int32) + -1 = 0 from rfl, Int32.add_zero]
          have M7 : MU (uI s5 130 33 (nI (p + 1))) w (E ++ [(Q (m + 1), T (m + 1), none)]) N nS := MU_f a2 (by omega)
          have c158 : sI (uI s5 130 33 (nI (p + 1))) 158 m = nI (A (m + 1)) := by rw [I_uI, if_neg (by omega), lv3 a3 (by omega)]; exact hL.2 m (by omega)
          have c156 : sI (uI s5 130 33 (nI (p + 1))) 156 (m + 1) = nI (T (m + 1)) := by rw [I_uI, if_neg (by omega), lv3 a3 (by omega)]; exact l2
          rw [if_neg (c := nI (m + 1) = 0) (by show ¬ nI (m + 1) = nI 0; rw [c_eq (by omega) (by omega)]; omega), if_pos (c := nI c = 41) (yeq 41 41 rfl h41), if_neg (c := m + 1 = 0) (Nat.succ_ne_zero m), im X5, Option.bind_some, k33, nI_1, pm X5, Option.bind_some, em, n40r M7.1, Option.bind_some, r158 M7.1 (by omega), Option.bind_some, c158, n38r M7.1, Option.bind_some, nI_1, r156 M7.1 (by omega), Option.bind_some, c156]
          obtain ⟨g1, g2⟩ := gi_shut hG
          have L7 : LV (uI s5 130 33 (nI (p + 1))) m A T Q := LV_up ⟨fun i hi => hL.1 i (by omega), fun i hi => hL.2 i (by omega)⟩ (fun q hq i => by rw [I_uI, if_neg (by omega), lv3 a3 hq])
          obtain ⟨s8, E8, b1, b2, b3, b4, b5, b6, b7, b8, b9, b10⟩ := closePiece_ok M7 g1 L7 (p := p + 1) (by rw [I_uI, if_pos ⟨rfl, rfl⟩]) (by rw [I_uI, if_neg (by omega)]; exact k35) (by omega) (by rw [List.length_append]; show E.length + 1 < 390; omega) (by omega) (by omega) g2
          rw [b1, rv_ok, e_X11_parseAll_266]
          rw [List.length_append] at b10
          have b10' : E8.length + 2 * (p + 1) ≤ E.length + 1 + 1 + 2 * (clsP w (orL (CL (m + 1)) (SL (m + 1))) (SL m) (p + 1)).2 := b10
          obtain ⟨st', z1, z2⟩ := ih _ m s8 E8 (N + 1) nS A T (up1 Q m N) CL _ ⟨b3, b4, b5, b6, b7, b8, by omega, by omega, by omega, by omega, hA0⟩ (by omega)
          exact ⟨st', FM_trans (FM_trans F5 (FM_trans (FM_f (by omega)) b2)) z1, z2⟩
      rw [if_neg (c := nI c = 41) (neq 41 41 rfl (by omega) h41), if_neg h41]
      obtain ⟨s4, y1, y2, y3, y4⟩ := spot_ok hM (by omega)
      have c157 : sI s4 157 n = nI (Q n) := by rw [lv1 y3 (by omega)]; exact l3
      obtain ⟨s8, v1, v2, v3, v4⟩ := step_ok y2 (by omega) (u := Q n) (v := N)
      have M10 := MU_lv v2 (o := 158) (k := n) (v := nI N) (by omega)
      have K10 := K3_trans y4 (K3_trans v4 (K3_lv (o := 158) (k := n) (v := nI N) (by omega)))
      have F10 : FM st (uI s8 158 n (nI N)) := FM_trans (FM_1 y3 y4) (FM_trans (FM_3 v3 v4) (FM_u (by omega)))
      have q33 : sI (uI s8 158 n (nI N)) 130 33 = nI p := (K10 33 (by omega) (by omega) (by omega)).trans h33
      have q35 : sI (uI s8 158 n (nI N)) 130 35 = -1 := (K10 35 (by omega) (by omega) (by omega)).trans h35
      have lv10 : ∀ q, 155 ≤ q ∧ q ≤ 158 → ∀ i, sI (uI s8 158 n (nI N)) q i = if q = 158 ∧ i = n then nI N else sI st q i := by
        intro q hq i
        rw [I_uI]
        by_cases z : q = 158 ∧ i = n
        · rw [if_pos z, if_pos z]
        · rw [if_neg z, if_neg z, lv3 v3 hq, lv1 y3 hq]
      rw [y1, ri_ok, n39r y2.1, Option.bind_some, r157 y2.1 (by omega), Option.bind_some, c157, v1, rv_ok, n40r v2.1, Option.bind_some, w158 v2.1 (by omega), Option.bind_some]
      by_cases h40 : c = 40
      · rw [if_pos (c := nI c = 40) (yeq 40 40 rfl h40), if_pos h40]
        by_cases hn4 : n = 4
        · rw [if_pos (show nI n = 4 from by rw [hn4]; rfl), if_pos hn4, im M10.1, Option.bind_some, q33, fail_ok M10.1 q35, rv_ok, e_X11_parseAll_266]
          obtain ⟨st', z1, z2, z3⟩ := bad (uI (uI s8 158 n (nI N)) 130 35 (nI p)) p (nI n) 1 (MU_f M10 (by omega)).1 (FM_trans F10 (FM_f (by omega))) hp (by rw [I_uI, if_pos ⟨rfl, rfl⟩])
          exact ⟨st', z1, Or.inl ⟨_, rfl, hp, z2, z3⟩⟩
        · have M11 : MU (uI (uI s8 158 n (nI N)) 130 33 (nI (p + 1))) w (E ++ [(Q n, N, none)]) (N + 1) nS := MU_f M10 (by omega)
          obtain ⟨s12, b1, b2, b3, b4, b5⟩ := openAlt_ok M11 (by rw [List.length_append]; show E.length + 1 < 400; omega) (by omega) (n := n + 1) (by omega) (a := N)
          rw [if_neg (show ¬ nI n = 4 from by show ¬ nI n = nI 4; rw [c_eq (by omega) (by omega)]; exact hn4), if_neg hn4, e_X11_parseAll_212, if_pos (c := nI c = 40) (yeq 40 40 rfl h40), im M10.1, Option.bind_some, q33, nI_1, nI_1, pm M10.1, Option.bind_some, b1, rv_ok, e_X11_parseAll_266]
          rw [List.append_assoc] at b2
          have L12 : LV s12 (n + 1) (up1 A (n + 1) N) (up1 T (n + 1) (N + 1)) (up1 Q (n + 1) (N + 2)) := by
            constructor
            · intro i hi
              rw [b5 155 (by omega), b5 156 (by omega), b5 157 (by omega)]
              by_cases z : i = n + 1
              · rw [if_pos ⟨rfl, z⟩, if_neg (by omega), if_pos ⟨rfl, z⟩, if_neg (by omega), if_neg (by omega), if_pos ⟨rfl, z⟩, z, up1_s, up1_s, up1_s]
                exact ⟨rfl, rfl, rfl⟩
              · rw [if_neg (by omega), if_neg (by omega), if_neg (by omega), if_neg (by omega), if_neg (by omega), if_neg (by omega), if_neg (by omega), if_neg (by omega), if_neg (by omega), up1_o z, up1_o z, up1_o z, I_uI, if_neg (by omega), lv10 155 (by omega), if_neg (by omega), I_uI, if_neg (by omega), lv10 156 (by omega), if_neg (by omega), I_uI, if_neg (by omega), lv10 157 (by omega), if_neg (by omega)]
                exact hL.1 i (by omega)
            · intro i hi
              rw [b5 158 (by omega), if_neg (by omega), if_neg (by omega), if_neg (by omega), I_uI, if_neg (by omega), lv10 158 (by omega)]
              by_cases z : i = n
              · rw [if_pos ⟨rfl, z⟩, z, up1_s]
              · rw [if_neg (fun q => z q.2), up1_o (by omega)]
                exact hL.2 i (by omega)
          obtain ⟨st', z1, z2⟩ := ih (p + 1) (n + 1) s12 _ (N + 3) nS (up1 A (n + 1) N) (up1 T (n + 1) (N + 1)) (up1 Q (n + 1) (N + 2)) _ _ ⟨b2, gi_open hG, L12, by rw [b4 33 (by omega) (by omega) (by omega), I_uI, if_pos ⟨rfl, rfl⟩], by rw [b4 35 (by omega) (by omega) (by omega), I_uI, if_neg (by omega)]; exact q35, by omega, by omega, by omega, by omega, by rw [List.length_append]; show E.length + 2 ≤ _; omega, by rw [up1_o (by omega)]; exact hA0⟩ (by omega)
          exact ⟨st', FM_trans (FM_trans F10 (FM_trans (FM_f (by omega)) b3)) z1, z2⟩
      · rw [if_neg (c := nI c = 40) (neq 40 40 rfl (by omega) h40), if_neg h40, e_X11_parseAll_212, if_neg (c := nI c = 40) (neq 40 40 rfl (by omega) h40)]
        obtain ⟨s12, b1, b2, b3⟩ := parseAtom_ok (by omega) M10 (by rw [List.length_append]; show E.length + 1 < 400; omega) (by omega) q33 q35 hg h124 h41 (b := N)
        have F12 := FM_trans F10 (FM_4 b1 b2)
        have X12 := FM_X X F12
        rcases b3 with ⟨e, x, d1, d2, d3, d4⟩ | ⟨S, q, d1, d2, d3, d4, d5, d6, d7⟩
        · rw [d1, d3, ri_ok, im X12, Option.bind_some, d4, if_neg (by rw [c_m1e (by omega)]; exact id), e_X11_parseAll_266]
          obtain ⟨st', z1, z2, z3⟩ := bad s12 e (nI n) 1 X12 F12 d2 d4
          exact ⟨st', z1, Or.inl ⟨e, rfl, d2, z2, z3⟩⟩
        · rw [d1, d4, ri_ok, im X12, Option.bind_some, d7, if_pos rfl]
          dsimp only
          rw [List.append_assoc] at d5
          obtain ⟨g1, g2⟩ := gi_atom hG (f := S)
          have lv12 : ∀ q, 155 ≤ q ∧ q ≤ 157 → ∀ i, sI s12 q i = sI st q i := by
            intro q hq i
            rw [(b1.2.2 q (by show ¬ (q = 130 ∨ _); omega)).1, lv10 q (by omega), if_neg (by omega)]
          have L12 : LV s12 n A T Q := by
            refine ⟨fun i hi => by rw [lv12 155 (by omega), lv12 156 (by omega), lv12 157 (by omega)]; exact hL.1 i hi, fun i hi => ?_⟩
            rw [(b1.2.2 158 (by show ¬ (158 = 130 ∨ _); omega)).1, lv10 158 (by omega), if_neg (by omega)]
            exact hL.2 i hi
          obtain ⟨s13, E13, c1, c2, c3, c4, c5, c6, c7, c8, c9, c10⟩ := closePiece_ok d5 g1 L12 d6 d7 d3 (by rw [List.length_append]; show E.length + 2 < 390; omega) (by omega) (by omega) g2
          rw [c1, rv_ok, e_X11_parseAll_266]
          rw [List.length_append] at c10
          have c10' : E13.length + 2 * q ≤ E.length + 2 + 1 + 2 * (clsP w (oneL S) (SL n) q).2 := c10
          obtain ⟨st', z1, z2⟩ := ih _ n s13 E13 (N + 3) (nS + 1) A T (up1 Q n (N + 2)) CL _ ⟨c3, c4, c5, c6, c7, c8, hn, by omega, by omega, by omega, hA0⟩ (by omega)
          exact ⟨st', FM_trans (FM_trans F12 c2) z1, z2⟩
end MPARSE2
