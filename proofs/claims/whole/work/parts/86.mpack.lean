/-! THE MODEL PACKS: draft (163), packed (139) -/
def drf (st : ab_S) (w : List Nat) : Prop := ∀ k s, w[k]? = some s → sI st 163 k = by8 s
section MPACK
variable {L : Nat} {st : ab_S}
theorem n45r (h : FX st) : ab_gR st 130 11 45 = some 163 := h.elim fun _ h => by rw [gR_ok (Fx_sh h rfl), Fx_rf h (v := 163) (by decide)]
theorem n11r (h : FX st) : ab_gR st 130 11 11 = some 139 := h.elim fun _ h => by rw [gR_ok (Fx_sh h rfl), Fx_rf h (v := 139) (by decide)]
theorem w163 (h : FX st) {n : Nat} (hn : n < 50000) {v : Int32} : ab_wB st 163 (nI n) v = some (uI st 163 n v.toInt8.toInt32) := h.elim fun _ h => wB_ok (Fx_sh h (o := 163) rfl) hn (by omega)
theorem r163 (h : FX st) {n : Nat} (hn : n < 50000) : ab_rB st 163 (nI n) = some (sI st 163 n) := h.elim fun _ h => rB_ok (Fx_sh h (o := 163) rfl) hn (by omega)
theorem w139 (h : FX st) {n : Nat} (hn : n < 50000) {v : Int32} : ab_wB st 139 (nI n) v = some (uI st 139 n v.toInt8.toInt32) := h.elim fun _ h => wB_ok (Fx_sh h (o := 139) rfl) hn (by omega)
theorem drf_snoc {w : List Nat} {s : Nat} (h : drf st w) : drf (uI st 163 w.length (by8 s)) (w ++ [s]) := by
  intro k t hk
  rw [I_uI]
  by_cases hkl : k = w.length
  · subst hkl
    rw [if_pos ⟨rfl, rfl⟩]
    rw [List.getElem?_append_right (Nat.le_refl _), Nat.sub_self] at hk
    simp at hk
    rw [hk]
  · rw [if_neg (fun z => hkl z.2)]
    have hl := (List.getElem?_eq_some_iff.mp hk).1
    rw [List.length_append, List.length_singleton] at hl
    rw [List.getElem?_append_left (by omega)] at hk
    exact h k t hk
theorem drf_up {W : Nat → Prop} {st' : ab_S} {w : List Nat} (h : drf st w) (hu : upto W st st') (hW : ¬ W 163) : drf st' w := fun k s hk => by rw [(hu.2.2 163 hW).1]; exact h k s hk
theorem wr1 (h : FX st) {w : List Nat} (hd : drf st w) (hl : w.length < 50000) {v : Int32} {s : Nat} (hv : v.toInt8.toInt32 = by8 s) : ∃ st', ab_wB st 163 (nI w.length) v = some st' ∧ drf st' (w ++ [s]) ∧ upto (fun q => q = 163) st st' := ⟨_, by rw [w163 h hl, hv], drf_snoc hd, upto_uI rfl⟩
theorem or128M : ∀ m, m < 128 → ((lN m ||| (128 : Int64)).toInt32.toInt8.toInt32).toInt8.toInt32 = by8 (m + 128) := by decide +kernel
theorem low127 : ∀ m, m < 128 → ((lN m).toInt32.toInt8.toInt32).toInt8.toInt32 = by8 m := by decide +kernel
theorem mwrite_ok (hX : FX st) {w : List Nat} (hd : drf st w) {v : Nat} (hv : v ≤ 1000000000000) (hl : w.length + 6 < 50000) : ∃ st', f_X11_write 130 163 (nI w.length) (lN v) st = some (some (.int (nI (w ++ num v).length)), st') ∧ drf st' (w ++ num v) ∧ upto (fun q => q = 163) st st' := by
  have key : ∀ k v (st : ab_S) (w : List Nat), v < 128 ^ (k + 1) → k ≤ 5 → FX st → drf st w → w.length + k < 50000 → ∃ st', L_X11_write_6 163 (nI w.length) (lN v) st = some (some (.int (nI (w ++ numK k v).length)), st') ∧ drf st' (w ++ numK k v) ∧ upto (fun q => q = 163) st st' := by
    intro k
    induction k with
    | zero =>
      intro v st w hv hk hX hd hl
      obtain ⟨s1, p1, p2, p3⟩ := wr1 hX hd (by omega) (low127 v (by omega))
      refine ⟨s1, ?_, p2, p3⟩
      rw [e_X11_write_6, if_pos (c := lg_cmp (lN v) 127 ≤ 0) ((lc_le (b := 127) (by omega) (by omega)).mpr (by omega)), p1, Option.bind_some, nI_1, List.length_append]
      rfl
    | succ k ih =>
      intro v st w hv hk hX hd hl
      have hv42 : v < 4611686018427387904 := by
        have : 128 ^ (k + 1 + 1) ≤ 128 ^ 6 := Nat.pow_le_pow_right (by omega) (by omega)
        omega
      unfold numK
      rw [e_X11_write_6]
      by_cases hle : v ≤ 127
      · obtain ⟨s1, p1, p2, p3⟩ := wr1 hX hd (by omega) (low127 v (by omega))
        rw [if_pos (c := lg_cmp (lN v) 127 ≤ 0) ((lc_le (b := 127) (by omega) (by omega)).mpr hle), if_pos hle]
        refine ⟨s1, ?_, p2, p3⟩
        rw [p1, Option.bind_some, nI_1, List.length_append]
        rfl
      · rw [if_neg (c := lg_cmp (lN v) 127 ≤ 0) (fun q => hle ((lc_le (b := 127) (by omega) (by omega)).mp q)), if_neg hle]
        have e1 : (lN v &&& (127 : Int64)) = lN (v % 128) := wb_mask (k := 7) (by omega) (by omega)
        obtain ⟨s1, p1, p2, p3⟩ := wr1 hX hd (by omega) (or128M (v % 128) (by omega))
        have e2 : lN v >>> ((7 : Int32).toInt64 &&& 63) = lN (v / 128) := pf_shr (d := 7) (by decide) (by omega)
        rw [e1, p1, Option.bind_some, e2, nI_1]
        obtain ⟨s2, q1, q2, q3⟩ := ih (v / 128) s1 (w ++ [v % 128 + 128]) (by rw [Nat.pow_succ] at hv; exact Nat.div_lt_of_lt_mul (by omega)) (by omega) (FX_up hX p3) p2 (by rw [List.length_append, List.length_singleton]; omega)
        rw [List.append_assoc, List.length_append, List.length_singleton] at q1
        rw [List.append_assoc] at q2
        exact ⟨s2, q1, q2, upto_trans p3 q3⟩
  rw [e_X11_write_0, cm hX]
  exact key 5 v st w (by omega) (by omega) hX hd (by omega)
theorem mB_up {W : Nat → Prop} {st' : ab_S} {D : Dc} (h : mB st D) (hu : upto W st st') (hW : ∀ q, q = 130 ∨ (144 ≤ q ∧ q ≤ 150) → ¬ W q) : mB st' D := by
  refine ⟨⟨by rw [(hu.2.2 130 (hW _ (by omega))).1]; exact h.1.1, fun k b hk hb => bgS_up (h.1.2 k b hk hb) hu (fun q _ _ => hW q (by omega))⟩, by rw [(hu.2.2 130 (hW _ (by omega))).1]; exact h.2.1, fun j hj => ?_, fun s r hs => ?_⟩
  · obtain ⟨s, p1, p2⟩ := h.2.2.1 j hj
    exact ⟨s, p1, by rw [(hu.2.2 149 (hW _ (by omega))).1]; exact p2⟩
  · obtain ⟨j, p1, p2, p3⟩ := h.2.2.2 s r hs
    exact ⟨j, p1, p2, by rw [(hu.2.2 150 (hW _ (by omega))).1]; exact p3⟩
def arcsP (l : List (Nat × Nat × Nat)) : List Nat := l.flatMap (fun y => y.1 :: (num y.2.1 ++ num y.2.2))
theorem arcsP_len : ∀ {l : List (Nat × Nat × Nat)}, (arcsP l).length ≤ 13 * l.length
  | [] => by simp [arcsP]
  | y :: l => by
    have := arcsP_len (l := l)
    have h1 := num_len (v := y.2.1)
    have h2 := num_len (v := y.2.2)
    unfold arcsP at this ⊢
    simp only [List.flatMap_cons, List.length_append, List.length_cons] at this ⊢
    omega
/-- one state -/
theorem mstate_ok (hF : Fx L st) {d : Nat} {D : Dc} (hd : d < 5) (hM : isMd st d D) (hok : okD D) (hB : mB st D) {w : List Nat} (hw : drf st w) {s : Nat} {r : Dc} (hs : (rsts D)[s]? = some r) (hl : w.length + (packS ((mach D).2.2[s]?.getD (none, 0, []))).length + 20 < 50000) : ∃ st', L_X11_pack_54 130 (nI d) (nI w.length) (nI s) st = L_X11_pack_54 130 (nI d) (nI (w ++ packS ((mach D).2.2[s]?.getD (none, 0, []))).length) (nI (s + 1)) st' ∧ drf st' (w ++ packS ((mach D).2.2[s]?.getD (none, 0, []))) ∧ upto (fun q => q = 163) st st' := by
  have hN := begs_2401 hok
  have hRl := rsts_len hok
  have hsl := (List.getElem?_eq_some_iff.mp hs).1
  have hD := hM.2.1
  obtain ⟨j, q1, q2, q3⟩ := mB_s hB hs
  have hm := mach_at hok.1 hs q2
  rw [hm] at hl ⊢
  dsimp only [Option.getD_some] at hl ⊢
  have hj := nb_some q1
  generalize nb D j = b at *
  obtain ⟨t, e, a1, a2, a3, a4, a5, a6⟩ := hB.1.2 j b q1 hj
  have hX : FX st := ⟨L, hF⟩
  have hbQ : bQ (stQ D b) := (bM_ok hok).2.2.1 _ (List.mem_of_getElem? hm)
  have hHl := hds_len hok (b := b)
  have no163 : ∀ q, q = 130 ∨ (144 ≤ q ∧ q ≤ 150) → ¬ q = 163 := fun q _ => by omega
  -- the arcs
  have arcs : ∀ k i (st1 : ab_S) (w1 : List Nat), (hds D b).length - i = k → i ≤ (hds D b).length → upto (fun q => q = 163) st st1 → drf st1 w1 → w1.length + (arcsP ((arcsO D b).drop i)).length + 13 < 50000 → ∃ st', L_X11_pack_165 130 (nI d) (nI w1.length) (nI s) (nI j) (nI (hds D b).length) (nI i) st1 = L_X11_pack_54 130 (nI d) (nI (w1 ++ arcsP ((arcsO D b).drop i)).length) (nI (s + 1)) st' ∧ drf st' (w1 ++ arcsP ((arcsO D b).drop i)) ∧ upto (fun q => q = 163) st st' := by
    intro k
    induction k with
    | zero =>
      intro i st1 w1 hk hi hu h1 hl1
      have e0 : (arcsO D b).drop i = [] := List.drop_eq_nil_of_le (by rw [arcs_hds]; omega)
      rw [e0]
      show ∃ st', _ = L_X11_pack_54 130 (nI d) (nI (w1 ++ []).length) (nI (s + 1)) st' ∧ drf st' (w1 ++ []) ∧ _
      rw [List.append_nil, e_X11_pack_165, if_pos (by rw [c_le (by omega) (by omega)]; omega), nI_1]
      exact ⟨st1, rfl, h1, hu⟩
    | succ k ih =>
      intro i st1 w1 hk hi hu h1 hl1
      have F1 := Fx_up hF hu
      have X1 : FX st1 := ⟨L, F1⟩
      have M1 := isMd_up hM hu (by omega) (by omega) (by omega) (by omega)
      have B1 := mB_up hB hu no163
      have hg : (hds D b)[i]? = some (hds D b)[i] := List.getElem?_eq_getElem (by omega)
      generalize (hds D b)[i] = a at hg
      have hga : (arcsO D b)[i]? = some (a, stOf D (b ++ [a]), least D (b ++ [a]) - least D b) := by rw [arcs_get, hg]; rfl
      have hdr : (arcsO D b).drop i = (a, stOf D (b ++ [a]), least D (b ++ [a]) - least D b) :: (arcsO D b).drop (i + 1) := by
        have hl := List.getElem?_eq_some_iff.mp hga
        rw [List.drop_eq_getElem_cons hl.1, hl.2]
      have hP : arcsP ((arcsO D b).drop i) = a :: (num (stOf D (b ++ [a])) ++ num (least D (b ++ [a]) - least D b)) ++ arcsP ((arcsO D b).drop (i + 1)) := by
        rw [hdr]; unfold arcsP; rw [List.flatMap_cons]
      rw [hP] at hl1 ⊢
      have hmem := hds_begs.mp (List.mem_of_getElem? hg)
      have hc := bix_get hok.1 hmem
      have hcl := (List.getElem?_eq_some_iff.mp hc).1
      have hkl := kid_le (List.mem_of_getElem? hg)
      have hlh := least_hi hok (b := b ++ [a])
      have hsl2 := (List.getElem?_eq_some_iff.mp (stOf_lt hmem)).1
      obtain ⟨t', e', c1, c2, c3, c4, c5, c6⟩ := hB.1.2 _ _ hcl hc
      have hst := mB_o hB hc
      have htx : ∃ x, D[t']? = some x ∧ b ++ [a] <+: x.1 := by
        obtain ⟨y, hy, hp⟩ := hds_mem.mp (List.mem_of_getElem? hg)
        obtain ⟨i', hi'⟩ := List.getElem?_of_mem hy
        have hin := (c3.2.2 i' y hi').mp hp
        have hl := lt_of_get hi'
        have hgt : D[t']? = some D[t'] := List.getElem?_eq_getElem (by omega)
        exact ⟨_, hgt, (c3.2.2 t' _ hgt).mpr ⟨Nat.le_refl _, by omega⟩⟩
      obtain ⟨x, hx, hp⟩ := htx
      have hxa := (snoc_pre.mp hp).2
      have h256 := ((hM.2.2 _ _ hx).2.2.1 _ _ hxa).2
      have n1 := num_len (v := stOf D (b ++ [a]))
      have n2 := num_len (v := least D (b ++ [a]) - least D b)
      simp only [List.length_append, List.length_cons] at hl1
      have ekid : kidI D b i = nI (bix D (b ++ [a])) := by unfold kidI; rw [hg]
      obtain ⟨s2, p1, p2, p3⟩ := wr1 X1 h1 (by omega) (v := (nI a).toInt8.toInt32) (s := a) (by8_idem a)
      have u2 := upto_trans hu p3
      have X2 := FX_up hX u2
      obtain ⟨s3, r1, r2, r3⟩ := mwrite_ok X2 p2 (v := stOf D (b ++ [a])) (by omega) (by rw [List.length_append, List.length_singleton]; omega)
      have u3 := upto_trans u2 r3
      have X3 := FX_up hX u3
      obtain ⟨s4, v1, v2, v3⟩ := mwrite_ok X3 r2 (v := least D (b ++ [a]) - least D b) (by omega) (by simp only [List.length_append, List.length_singleton]; omega)
      have u4 := upto_trans u3 v3
      obtain ⟨s5, z1, z2, z3⟩ := ih (i + 1) s4 _ (by omega) (by omega) u4 v2 (by simp only [List.length_append, List.length_singleton]; omega)
      have eA : w1 ++ (a :: (num (stOf D (b ++ [a])) ++ num (least D (b ++ [a]) - least D b)) ++ arcsP ((arcsO D b).drop (i + 1))) = w1 ++ [a] ++ num (stOf D (b ++ [a])) ++ num (least D (b ++ [a]) - least D b) ++ arcsP ((arcsO D b).drop (i + 1)) := by simp
      rw [eA]
      refine ⟨s5, ?_, z2, z3⟩
      have i144 : ∀ {st' : ab_S}, upto (fun q => q = 163) st st' → sI st' 144 (bix D (b ++ [a])) = nI t' := fun hu => by rw [(hu.2.2 144 (by omega)).1]; exact c1
      rw [e_X11_pack_165, if_neg (by rw [c_le (by omega) (by omega)]; omega), child_ok F1 hd M1 hok B1.1 hj (by omega), ri_ok, ekid, n45r X1, Option.bind_some, n18r X1, Option.bind_some, r144 X1 (by omega), Option.bind_some, n20r X1, Option.bind_some, r146 X1 (by omega), Option.bind_some, i144 hu, show sI st1 146 j = nI b.length by rw [(hu.2.2 146 (by omega)).1]; exact a4, letter_ok F1 M1 (by omega) hx hxa, ri_ok, p1, Option.bind_some, n45r X2, Option.bind_some, n23r X2, Option.bind_some, r149 X2 (by omega), Option.bind_some, show sI s2 149 (bix D (b ++ [a])) = nI (stOf D (b ++ [a])) by rw [(u2.2.2 149 (by omega)).1]; exact hst, nI_l (by omega), nI_1]
      rw [List.length_append, List.length_singleton] at r1
      rw [r1, ri_ok, n45r X3, Option.bind_some, n21r X3, Option.bind_some, r147 X3 (by omega), Option.bind_some, Option.bind_some, r147 X3 (by omega), Option.bind_some, show sJ s3 147 (bix D (b ++ [a])) = lN (least D (b ++ [a])) by rw [(u3.2.2 147 (by omega)).2]; exact c5, show sJ s3 147 j = lN (least D b) by rw [(u3.2.2 147 (by omega)).2]; exact a5, lN_sub hkl, v1, ri_ok, nI_1]
      exact z1
  have mid : ∀ (st1 : ab_S) (w1 : List Nat), upto (fun q => q = 163) st st1 → drf st1 w1 → w1.length + (num (hds D b).length).length + (arcsP (arcsO D b)).length + 13 < 50000 → ∃ st', L_X11_pack_140 130 (nI d) (nI w1.length) (nI s) (nI j) st1 = L_X11_pack_54 130 (nI d) (nI (w1 ++ num (hds D b).length ++ arcsP (arcsO D b)).length) (nI (s + 1)) st' ∧ drf st' (w1 ++ num (hds D b).length ++ arcsP (arcsO D b)) ∧ upto (fun q => q = 163) st st' := by
    intro st1 w1 hu h1 hl1
    have F1 := Fx_up hF hu
    have X1 : FX st1 := ⟨L, F1⟩
    have M1 := isMd_up hM hu (by omega) (by omega) (by omega) (by omega)
    have B1 := mB_up hB hu no163
    obtain ⟨s2, r1, r2, r3⟩ := mwrite_ok X1 h1 (v := (hds D b).length) (by omega) (by omega)
    obtain ⟨s3, z1, z2, z3⟩ := arcs _ 0 s2 _ rfl (Nat.zero_le _) (upto_trans hu r3) r2 (by rw [List.drop_zero, List.length_append]; omega)
    rw [List.drop_zero] at z1 z2
    refine ⟨s3, ?_, z2, z3⟩
    rw [e_X11_pack_140, children_ok F1 hd M1 hok B1.1 hj, ri_ok, n45r X1, Option.bind_some, nI_l (by omega), r1, ri_ok]
    exact z1
  have hfin := final_okM hF hd hM hok.1 (by omega) (hB.1.2 j b q1 hj)
  rw [e_X11_pack_54, im hX, Option.bind_some, mB_n hB, if_neg (by rw [c_le (by omega) (by omega)]; omega), n24r hX, Option.bind_some, r150 hX (by omega), Option.bind_some, q3, hfin, ri_ok, n45r hX, Option.bind_some]
  rcases last_at hok.1 a3 with ⟨hlt, x, hx, hxb, hlo⟩ | ⟨hlo, hlen⟩
  · have hle := least_le (mem_b_iff.mpr ⟨List.mem_of_getElem? hx, by rw [hxb]; exact List.prefix_refl _⟩ : x ∈ mem_b D b)
    have hxo := (hok.2.2 x (List.mem_of_getElem? hx)).2.2
    have ep : packS (stQ D b) = (1 :: num (x.2 - least D b)) ++ num (hds D b).length ++ arcsP (arcsO D b) := by
      unfold packS stQ
      dsimp only
      rw [hlo, arcs_hds]; rfl
    rw [ep] at hl ⊢
    simp only [List.length_append, List.length_cons] at hl
    obtain ⟨c1, c2, c3, c4⟩ := mMd hM hd hx
    obtain ⟨s2, p1, p2, p3⟩ := wr1 hX hw (by omega) (v := (1 : Int32).toInt8.toInt32) (s := 1) rfl
    have X2 := FX_up hX p3
    obtain ⟨s3, r1, r2, r3⟩ := mwrite_ok X2 p2 (v := x.2 - least D b) (by omega) (by rw [List.length_append, List.length_singleton]; omega)
    obtain ⟨s4, z1, z2, z3⟩ := mid s3 _ (upto_trans p3 r3) r2 (by simp only [List.length_append, List.length_singleton]; omega)
    have eA : w ++ ((1 :: num (x.2 - least D b)) ++ num (hds D b).length ++ arcsP (arcsO D b)) = w ++ [1] ++ num (x.2 - least D b) ++ num (hds D b).length ++ arcsP (arcsO D b) := by simp
    rw [eA]
    refine ⟨s4, ?_, z2, z3⟩
    rw [List.length_append, List.length_singleton] at r1
    rw [hlo, bi1 (by simp), e_X11_pack_94, p1, Option.bind_some, bi1 (by simp), n45r X2, Option.bind_some, n4 X2, Option.bind_some, n18r X2, Option.bind_some, r144 X2 (by omega), Option.bind_some, show sI s2 144 j = nI t by rw [(p3.2.2 144 (by omega)).1]; exact a1, nl 200, a_mul, a_add, r134 X2 c1, Option.bind_some, n21r X2, Option.bind_some, r147 X2 (by omega), Option.bind_some, show sJ s2 134 (200 * d + t) = lN x.2 by rw [(p3.2.2 134 (by omega)).2]; exact c4, show sJ s2 147 j = lN (least D b) by rw [(p3.2.2 147 (by omega)).2]; exact a5, lN_sub hle, nI_1, r1, ri_ok]
    exact z1
  · have ep : packS (stQ D b) = [0] ++ num (hds D b).length ++ arcsP (arcsO D b) := by
      unfold packS stQ
      dsimp only
      rw [hlo, arcs_hds]; rfl
    rw [ep] at hl ⊢
    simp only [List.length_append, List.length_cons, List.length_nil] at hl
    obtain ⟨s2, p1, p2, p3⟩ := wr1 hX hw (by omega) (v := (0 : Int32).toInt8.toInt32) (s := 0) rfl
    obtain ⟨s4, z1, z2, z3⟩ := mid s2 _ p3 p2 (by simp only [List.length_append, List.length_singleton]; omega)
    have eA : w ++ ([0] ++ num (hds D b).length ++ arcsP (arcsO D b)) = w ++ [0] ++ num (hds D b).length ++ arcsP (arcsO D b) := by simp
    rw [eA]
    refine ⟨s4, ?_, z2, z3⟩
    rw [List.length_append (bs := [0]), List.length_singleton] at z1
    rw [hlo, bi0 (b := (none : Option Nat).isSome) rfl, e_X11_pack_94, p1, Option.bind_some, bi0 (b := (none : Option Nat).isSome) rfl, nI_1]
    exact z1
theorem mpack_ok (hF : Fx L st) {d : Nat} {D : Dc} (hd : d < 5) (hM : isMd st d D) (hok : okD D) : ∃ st', f_X11_pack 130 (nI d) st = some (some (.int (nI (pack D).length)), st') ∧ drf st' (pack D) ∧ upto (fun q => q = 130 ∨ (144 ≤ q ∧ q ≤ 150) ∨ q = 163) st st' ∧ (∀ j, j ≠ 17 → j ≠ 25 → sI st' 130 j = sI st 130 j) := by
  obtain ⟨s1, a1, a2, a3, a4⟩ := build_okM hF hd hM hok
  have hB := bM_ok hok
  have hN := begs_2401 hok
  have hRl := rsts_len hok
  have F1 := Fx_up hF a3
  have X1 : FX s1 := ⟨L, F1⟩
  have M1 := isMd_up hM a3 (by omega) (by omega) (by omega) (by omega)
  have no163 : ∀ q, q = 130 ∨ (144 ≤ q ∧ q ≤ 150) → ¬ q = 163 := fun q _ => by omega
  have key : ∀ k s (st1 : ab_S), (rsts D).length - s = k → s ≤ (rsts D).length → upto (fun q => q = 163) s1 st1 → drf st1 (pkT (mach D) s) → ∃ st', L_X11_pack_54 130 (nI d) (nI (pkT (mach D) s).length) (nI s) st1 = some (some (.int (nI (pack D).length)), st') ∧ drf st' (pack D) ∧ upto (fun q => q = 163) s1 st' := by
    intro k
    induction k with
    | zero =>
      intro s st1 hk hs hu h1
      have hsl : s = (mach D).2.2.length := by rw [mach_len]; omega
      rw [hsl, pkT_all] at h1 ⊢
      have X2 := FX_up X1 hu
      refine ⟨st1, ?_, h1, hu⟩
      rw [e_X11_pack_54, im X2, Option.bind_some, mB_n (mB_up a2 hu no163), mach_len, if_pos (by rw [c_le (by omega) (by omega)]; omega)]
      rfl
    | succ k ih =>
      intro s st1 hk hs hu h1
      have hg : (rsts D)[s]? = some (rsts D)[s] := List.getElem?_eq_getElem (by omega)
      have hsm : s < (mach D).2.2.length := by rw [mach_len]; omega
      obtain ⟨xs, hgm⟩ : ∃ xs, (mach D).2.2[s]? = some xs := ⟨_, List.getElem?_eq_getElem hsm⟩
      have hlen := pkT_len hB (s + 1)
      have es := pkT_succ hgm
      obtain ⟨s2, p1, p2, p3⟩ := mstate_ok (Fx_up F1 hu) hd (isMd_up M1 hu (by omega) (by omega) (by omega) (by omega)) hok (mB_up a2 hu no163) h1 hg (by
        rw [hgm]
        dsimp only [Option.getD_some]
        rw [es, List.length_append] at hlen
        omega)
      rw [hgm] at p1 p2
      dsimp only [Option.getD_some] at p1 p2
      rw [← es] at p1 p2
      rw [p1]
      exact ih (s + 1) s2 (by omega) (by omega) (upto_trans hu p3) p2
  obtain ⟨s2, p1, p2, p3⟩ := wr1 X1 (w := []) (fun k s hk => by simp at hk) (by simp) (v := 84) (s := 84) rfl
  have X2 := FX_up X1 p3
  obtain ⟨s3, q1, q2, q3⟩ := wr1 X2 p2 (by simp) (v := 77) (s := 77) rfl
  have u3 := upto_trans p3 q3
  have X3 := FX_up X1 u3
  obtain ⟨s4, r1, r2, r3⟩ := mwrite_ok X3 q2 (v := least D []) (least_hi hok) (by simp)
  have u4 := upto_trans u3 r3
  have X4 := FX_up X1 u4
  have n1 := num_len (v := least D [])
  obtain ⟨s5, t1, t2, t3⟩ := mwrite_ok X4 r2 (v := (rsts D).length) (by omega) (by simp only [List.length_append, List.length_singleton, List.length_nil]; omega)
  have e0 : pkT (mach D) 0 = ((([] ++ [84]) ++ [77]) ++ num (least D [])) ++ num (rsts D).length := by
    unfold pkT
    rw [mach_len]
    simp
    rfl
  rw [← e0] at t1 t2
  obtain ⟨s6, v1, v2, v3⟩ := key _ 0 s5 rfl (Nat.zero_le _) (upto_trans u4 t3) t2
  refine ⟨s6, ?_, v2, upto_trans (upto_mono a3 (fun q hq => by omega)) (upto_mono v3 (fun q hq => by omega)), fun j h1 h2 => by rw [(v3.2.2 130 (by omega)).1]; exact a4 j h1 h2⟩
  obtain ⟨t, e, b1, b2, b3, b4, b5, b6⟩ := a2.1.2 0 [] (by simp [begs]) begs_0
  have hX : FX st := ⟨L, hF⟩
  have p1' : ab_wB s1 163 (nI 0) 84 = some s2 := p1
  have q1' : ab_wB s2 163 (nI 1) 77 = some s3 := q1
  have r1' : f_X11_write 130 163 (nI 2) (lN (least D [])) s3 = some (some (.int (nI ([] ++ [84] ++ [77] ++ num (least D [])).length)), s4) := r1
  have e147 : sJ s3 147 0 = lN (least D []) := by rw [(u3.2.2 147 (by omega)).2]; exact b5
  rw [e_X11_pack_0, cm hX, a1, rv_ok, n45r X1, Option.bind_some, nl 0, nl 1, nl 2, p1', Option.bind_some, n45r X2, Option.bind_some, q1', Option.bind_some, n45r X3, Option.bind_some, n21r X3, Option.bind_some, r147 X3 (by omega), Option.bind_some, e147, r1', ri_ok, n45r X4, Option.bind_some, im X4, Option.bind_some, mB_n (mB_up a2 u4 no163), nI_l (by omega), t1, ri_ok]
  exact v1
end MPACK
section MPKD
variable {L : Nat} {st : ab_S} {S : Sg}
theorem M_packed (h : MS L st S) (hwf : wfS S) (hCo : ∀ d, d < 4 → ∀ x ∈ sD S d, x.2 ≤ 1000000000000) (d : Int32) : ∃ st', f_X11_packed 130 d st = some (some (.int (a_packed S d).1), st') ∧ MS L st' (a_packed S d).2 ∧ onM st st' := by
  unfold a_packed
  rcases isD_cases d with hd | ⟨k, hd, rfl⟩
  · rw [withD_no hd]
    exact ⟨st, by rw [e_X11_packed_0, rc_ok (sh130 h), mD_no hd, ri_ok, if_pos rfl], h, onM_rfl⟩
  · rw [withD_n hd, e_X11_packed_0, rc_ok (sh130 h), mD_ok hd, ri_ok, if_neg (by decide), ← Option.bind_assoc, mOpen2 h hd, Option.bind_some]
    by_cases hb : sO S k = false
    rotate_left
    · rw [bi1 hb, if_neg hb]
      exact ⟨st, rfl, h, onM_rfl⟩
    rw [bi0 hb, if_pos hb]
    have hok := okD_M h hwf hCo hd
    obtain ⟨s1, a1, a2, a3, a4⟩ := mpack_ok h.1 (by omega) (h.2.2.1 k hd).1 hok
    have hlen : (pack (sD S k)).length ≤ 43219 := packM_len (bM_ok hok)
    have h256 : ∀ s ∈ pack (sD S k), s < 256 := packM_256 (bM_ok hok)
    generalize pack (sD S k) = w at *
    have X1 : FX s1 := FX_up ⟨L, h.1⟩ a3
    have u2 : upto (fun q => q = 130) s1 (uI s1 130 12 (nI w.length)) := upto_uI rfl
    have key : ∀ m n (st1 : ab_S), w.length - n = m → n ≤ w.length → upto (fun q => q = 139) (uI s1 130 12 (nI w.length)) st1 → (∀ i s, i < n → w[i]? = some s → sI st1 139 i = by8 s) → ∃ st', L_X11_packed_33 130 (nI n) st1 = some (some (.int (nI w.length)), st') ∧ upto (fun q => q = 139) (uI s1 130 12 (nI w.length)) st' ∧ ∀ i s, w[i]? = some s → sI st' 139 i = by8 s := by
      intro m
      induction m with
      | zero =>
        intro n st1 hm hn hu hp
        have X2 : FX st1 := FX_up (FX_up X1 u2) hu
        have e12 : sI st1 130 12 = nI w.length := by rw [(hu.2.2 130 (by omega)).1, I_uI, if_pos ⟨rfl, rfl⟩]
        refine ⟨st1, ?_, hu, fun i s hi => hp i s (by have := (List.getElem?_eq_some_iff.mp hi).1; omega) hi⟩
        rw [e_X11_packed_33, im X2, Option.bind_some, e12, if_pos (by rw [c_le (by omega) (by omega)]; omega), Option.bind_some]
      | succ m ih =>
        intro n st1 hm hn hu hp
        have X2 : FX st1 := FX_up (FX_up X1 u2) hu
        have e12 : sI st1 130 12 = nI w.length := by rw [(hu.2.2 130 (by omega)).1, I_uI, if_pos ⟨rfl, rfl⟩]
        have hg : w[n]? = some w[n] := List.getElem?_eq_getElem (by omega)
        have e163 : sI st1 163 n = by8 w[n] := by rw [(hu.2.2 163 (by omega)).1, (u2.2.2 163 (by omega)).1]; exact a2 n _ hg
        rw [e_X11_packed_33, im X2, Option.bind_some, e12, if_neg (by rw [c_le (by omega) (by omega)]; omega), n11r X2, Option.bind_some, n45r X2, Option.bind_some, r163 X2 (by omega), Option.bind_some, w139 X2 (by omega), Option.bind_some, e163, by8_idem, nI_1]
        refine ih (n + 1) _ (by omega) (by omega) (upto_trans hu (upto_uI rfl)) (fun i s hi hs => ?_)
        rw [I_uI]
        by_cases hin : i = n
        · subst hin
          rw [if_pos ⟨rfl, rfl⟩]
          rw [hg] at hs
          cases hs
          rfl
        · rw [if_neg (fun z => hin z.2)]
          exact hp i s (by omega) hs
    obtain ⟨s2, b1, b2, b3⟩ := key _ 0 _ rfl (Nat.zero_le _) upto_rfl (fun i s hi => by omega)
    have hu : upto (fun q => q = 130 ∨ (144 ≤ q ∧ q ≤ 150) ∨ q = 163 ∨ q = 139) st s2 := upto_trans (upto_mono a3 (fun q hq => by omega)) (upto_trans (upto_mono u2 (fun q hq => by omega)) (upto_mono b2 (fun q hq => by omega)))
    have e130 : ∀ j, j ≠ 12 → j ≠ 17 → j ≠ 25 → sI s2 130 j = sI st 130 j := fun j h1 h2 h3 => by
      rw [(b2.2.2 130 (by omega)).1, I_uI, if_neg (fun z => h1 z.2)]; exact a4 j h2 h3
    refine ⟨s2, ?_, ?_, onM_up hu (fun q hq => by omega)⟩
    · rw [a1, ri_ok, pm X1, Option.bind_some]
      exact b1
    · obtain ⟨hF, g2, g3, g4, g5, g6, g7, g8⟩ := h
      have e : ∀ q, 131 ≤ q → q ≤ 143 → q ≠ 139 → sI s2 q = sI st q := fun q _ _ _ => (hu.2.2 q (by omega)).1
      exact ⟨Fx_up hF hu, ⟨by rw [e130 1 (by decide) (by decide) (by decide)]; exact g2.1, mRow_up g2.2 hu (by omega)⟩, fun d hd => ⟨isMd_up (g3 d hd).1 hu (by omega) (by omega) (by omega) (by omega), by rw [e 136 (by omega) (by omega) (by omega)]; exact (g3 d hd).2⟩, fun d hd => by rw [e 137 (by omega) (by omega) (by omega)]; exact g4 d hd, fun k hk => by rw [e 140 (by omega) (by omega) (by omega), e 141 (by omega) (by omega) (by omega), e 142 (by omega) (by omega) (by omega), e 143 (by omega) (by omega) (by omega)]; exact g5 k hk, ⟨by rw [e130 9 (by decide) (by decide) (by decide)]; exact g6.1, fun k t hk => by rw [e 138 (by omega) (by omega) (by omega)]; exact g6.2 k t hk⟩, by rw [e130 10 (by decide) (by decide) (by decide)]; exact g7, ⟨by rw [(b2.2.2 130 (by omega)).1, I_uI, if_pos ⟨rfl, rfl⟩]; rfl, fun k s hk => b3 k s hk⟩⟩
end MPKD
