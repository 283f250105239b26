/-! ALIKE: the loop -/
section AL4
variable {st : ab_S} {D : Dc}
theorem kidx_step (hs : srt D) {p v : Nat} (hp : p < (begs D).length) (hv : v < (begs D).length) : kidx D p v = if isKid (nb D p) (nb D v) = true then v :: kidx D p (v + 1) else kidx D p (v + 1) := seg_step hv
theorem findAlike_ok (h : okD D) (hF : FX st) (hp : plD st D) : ∃ st', f_X8_findAlike 6 st = some (none, st') ∧ upto (fun q => 12 ≤ q ∧ q ≤ 18) st st' ∧ ndS st' D ∧ sI st' 6 13 = nI (begs D).length ∧ (∀ p, p < (begs D).length → lnk st' 13 (sI st' 12 p) (kidx D p 0)) ∧ ∀ j, j < (begs D).length → sI st' 14 j = nI (rep D j) := by
  obtain ⟨p1, p2, p3⟩ := hp
  have hn1 : 0 < (begs D).length := by simp [begs]
  have hnd : ndS st D := fun k b hk => by
    obtain ⟨q1, q2, q3, q4, q5, q6⟩ := p3 k b hk
    exact ⟨q1, q2, q3, q4, q5⟩
  have h12 : ∀ k, k < (begs D).length → sI st 12 k = -1 := fun k hk => (p3 k _ (nb_some hk)).2.2.2.2.2
  generalize hn : (begs D).length = n at *
  -- how many buckets
  have k2 : ∀ j e, 12 - e = j → e ≤ 12 → ∃ e', e' ≤ 12 ∧ L_X8_findAlike_2 6 (nI (2 ^ e)) st = L_X8_findAlike_26 6 (nI (2 ^ e')) (nI 0) st := by
    intro j
    induction j with
    | zero =>
      intro e hj he
      have : e = 12 := by omega
      subst this
      refine ⟨12, by omega, ?_⟩
      rw [e_X8_findAlike_2, i6 hF, Option.bind_some, p1, e_X8_findAlike_24]
      show (if nI n ≤ nI 4096 then _ else if nI 4096 ≤ nI 4096 then _ else _) = _
      rw [if_pos (by rw [c_le (by omega) (by omega)]; omega)]
      rfl
    | succ j ih =>
      intro e hj he
      have hpow : 2 ^ e ≤ 2048 := by
        have : 2 ^ e ≤ 2 ^ 11 := Nat.pow_le_pow_right (by omega) (by omega)
        exact this
      by_cases hle : n ≤ 2 ^ e
      · refine ⟨e, by omega, ?_⟩
        rw [e_X8_findAlike_2, i6 hF, Option.bind_some, p1, e_X8_findAlike_24, if_pos (by rw [c_le (by omega) (by omega)]; exact hle)]
        rfl
      · obtain ⟨e', g1, g2⟩ := ih (e + 1) (by omega) (by omega)
        refine ⟨e', g1, ?_⟩
        rw [e_X8_findAlike_2, i6 hF, Option.bind_some, p1, if_neg (by rw [c_le (by omega) (by omega)]; exact hle)]
        show (if nI 4096 ≤ nI (2 ^ e) then _ else L_X8_findAlike_2 6 (nI (2 ^ e) * nI 2) st) = _
        rw [if_neg (by rw [c_le (by omega) (by omega)]; omega), a_mul, ← Nat.pow_succ, g2]
  obtain ⟨e, he, hk2⟩ := k2 _ 0 rfl (by omega)
  have hB : 2 ^ e ≤ 4096 ∧ 0 < 2 ^ e := ⟨Nat.pow_le_pow_right (by omega) he, Nat.pow_pos (by omega)⟩
  generalize hBB : 2 ^ e = B at *
  -- all buckets are empty
  have k26 : ∀ j i st1, B - i = j → i ≤ B → upto (fun q => q = 18) st st1 → (∀ g, g < i → sI st1 18 g = -1) → ∃ st2, L_X8_findAlike_26 6 (nI B) (nI i) st1 = L_X8_findAlike_51 6 (nI B) (nI n - 1) st2 ∧ upto (fun q => q = 18) st st2 ∧ ∀ g, g < B → sI st2 18 g = -1 := by
    intro j
    induction j with
    | zero =>
      intro i st1 hj hi hu hg
      refine ⟨st1, ?_, hu, fun g hg' => hg g (by omega)⟩
      rw [e_X8_findAlike_26, if_pos (by rw [c_le (by omega) (by omega)]; omega), i6 (FX_up hF hu), Option.bind_some, (hu.2.2 6 (by omega)).1, p1]
    | succ j ih =>
      intro i st1 hj hi hu hg
      have F1 := FX_up hF hu
      rw [e_X8_findAlike_26, if_neg (by rw [c_le (by omega) (by omega)]; omega), g6_11 F1, Option.bind_some, w18 F1 (by omega), Option.bind_some, nI_1]
      refine ih (i + 1) _ (by omega) (by omega) (upto_trans hu (upto_uI rfl)) (fun g hg' => ?_)
      rw [I_uI]
      by_cases hgi : g = i
      · rw [if_pos ⟨rfl, hgi⟩]
      · rw [if_neg (fun z => hgi z.2)]; exact hg g (by omega)
  obtain ⟨s2, m1, m2, m3⟩ := k26 _ 0 st rfl (by omega) upto_rfl (fun g hg => by omega)
  -- node by node
  have k51 : ∀ k st1, k ≤ n → upto (fun q => 12 ≤ q ∧ q ≤ 18) st st1 → FA st1 D B k → ∃ st2, L_X8_findAlike_51 6 (nI B) (nI k - 1) st1 = some (none, st2) ∧ upto (fun q => 12 ≤ q ∧ q ≤ 18) st st2 ∧ FA st2 D B 0 := by
    intro k
    induction k with
    | zero =>
      intro st1 _ hu hA
      exact ⟨st1, by rw [e_X8_findAlike_51, if_pos (by decide)], hu, hA⟩
    | succ v ih =>
      intro st1 hk hu hA
      have F1 := FX_up hF hu
      have hA' := hA
      obtain ⟨a1, a2, a3, a4, a5⟩ := hA'
      have hvn : v < (begs D).length := by omega
      have hkl := kidx_len h (p := v)
      rw [kidx_all h.1 a2 hvn] at hkl
      have hmask : mixV (lastv st1 v) ((kidx D v (v + 1)).map (dat st1 v)) &&& (nI B - 1) = nI (bkt D B v) := by
        rw [own_last h a2 (nb_some hvn), kidx_dat h a2 hvn (fun j h1 h2 => a4 j (by omega) h2)]
        have hb : (nI B - 1).toBitVec.toNat = 2 ^ e - 1 := by
          show (nI B - nI 1).toBitVec.toNat = _
          rw [a_sub (by omega), pk_tn (by omega), hBB]
        rw [pk_and _ e hb, hBB]
        rfl
      have hbl : bkt D B v < B := Nat.mod_lt _ hB.2
      obtain ⟨s4, f1, f2, f3⟩ := alike_ok h F1 hB.1 hvn hA rfl hbl
      have F4 := FX_up F1 f2
      let s6 := uI s4 14 v (nI (rep D v))
      have F6 : FX s6 := F4
      have u6 : upto (fun q => q = 14) s4 s6 := upto_uI rfl
      have u16 : upto (fun q => q = 14 ∨ q = 15 ∨ q = 18) st1 s6 := upto_trans (upto_mono f2 (fun q hq => by omega)) (upto_mono u6 (fun q hq => by omega))
      have al6 : ∀ j, v ≤ j → j < (begs D).length → sI s6 14 j = nI (rep D j) := fun j h1 h2 => by
        show sI (uI s4 14 v _) 14 j = _
        rw [I_uI, (f2.2.2 14 (by omega)).1]
        by_cases hjv : j = v
        · rw [if_pos ⟨rfl, hjv⟩, hjv]
        · rw [if_neg (fun z => hjv z.2)]; exact a4 j (by omega) h2
      have bk6 : ∀ st', sI st' 15 = sI s6 15 → sI st' 18 = sI s6 18 → ∀ g, g < B → ∃ l, lnk st' 15 (sI st' 18 g) l ∧ l.Nodup ∧ ∀ j, j ∈ l ↔ (v ≤ j ∧ j < (begs D).length ∧ rep D j = j ∧ bkt D B j = g) := fun st' e1 e2 g hg => by
        obtain ⟨l, c1, c2, c3⟩ := f3 g hg
        refine ⟨l, ?_, c2, c3⟩
        rw [e2, (u6.2.2 18 (by omega)).1]
        exact lnk_eq (fun q _ => by rw [e1, (u6.2.2 15 (by omega)).1]) c1
      have n6 := ndS_up a2 u16 (fun q _ _ => by omega)
      have e51 : L_X8_findAlike_51 6 (nI B) (nI (v + 1) - 1) st1 = Option.bind (ab_gR s6 6 8 0) fun x7 => Option.bind (ab_rI s6 x7 (nI v)) fun x8 => if x8 < 0 then L_X8_findAlike_105 6 (nI B) (nI v) s6 else Option.bind (ab_gR s6 6 8 6) fun x9 => Option.bind (ab_gR s6 6 8 5) fun x10 => Option.bind (ab_rI s6 x10 x8) fun x11 => Option.bind (ab_wI s6 x9 (nI v) x11) fun s12 => Option.bind (ab_gR s12 6 8 5) fun x13 => Option.bind (ab_wI s12 x13 x8 (nI v)) fun s14 => L_X8_findAlike_105 6 (nI B) (nI v) s14 := by
        rw [nI_pred, e_X8_findAlike_51, if_neg (nI_pos (by omega)), g6_7 F1, Option.bind_some, mixed_ok F1 (by omega) (a3 v hvn) hkl, ri_ok, hmask, f1, ri_ok, w14 F4 (by omega), Option.bind_some]
      rw [e51, g6_0 F6, Option.bind_some, r7 F6 (by omega), Option.bind_some]
      by_cases hroot : nb D v = []
      · -- the root
        have hpar := (n6 v _ (nb_some hvn)).1 hroot
        rw [hpar, if_pos (by decide), e_X8_findAlike_105, nI_m1]
        refine ih s6 (by omega) (upto_trans hu (upto_mono u16 (fun q hq => by omega))) ⟨by rw [(u16.2.2 6 (by omega)).1]; exact a1, n6, fun p hp => ?_, al6, bk6 s6 rfl rfl⟩
        have hnk : ¬ isKid (nb D p) (nb D v) = true := fun q => by
          obtain ⟨a, ha⟩ := isKid_iff.mp q
          rw [hroot] at ha; simp at ha
        rw [kidx_step h.1 hp hvn, if_neg hnk, (u16.2.2 12 (by omega)).1]
        exact lnk_eq (fun q _ => by rw [(u16.2.2 13 (by omega)).1]) (a3 p hp)
      · obtain ⟨c, a, hca⟩ : ∃ c a, nb D v = c ++ [a] := ⟨(nb D v).dropLast, (nb D v).getLast hroot, (List.dropLast_concat_getLast hroot).symm⟩
        obtain ⟨-, p', g2, g3, g4, g5⟩ := (n6 v _ (nb_some hvn)).2.1 c a hca
        have hpn : p' < (begs D).length := (List.getElem?_eq_some_iff.mp g3).1
        have hnbp : nb D p' = c := nb_get g3
        let s12 := uI s6 13 v (sI s6 12 p')
        let s14 := uI s12 12 p' (nI v)
        have F12 : FX s12 := F6
        have u14 : upto (fun q => q = 12 ∨ q = 13) s6 s14 := upto_trans (upto_uI (Or.inr rfl)) (upto_uI (Or.inl rfl))
        have r13' : ∀ q, sI s14 13 q = if q = v then sI s6 12 p' else sI s6 13 q := fun q => by simp [s14, s12, I_uI]
        have r12' : ∀ q, sI s14 12 q = if q = p' then nI v else sI s6 12 q := fun q => by simp [s14, s12, I_uI]
        rw [g4, if_neg (nI_pos (by omega)), g6_6 F6, Option.bind_some, g6_5 F6, Option.bind_some, r12 F6 (by omega), Option.bind_some, w13 F6 (by omega), Option.bind_some]
        show ∃ st2, (Option.bind (ab_gR s12 6 8 5) fun x13 => Option.bind (ab_wI s12 x13 (nI p') (nI v)) fun s14 => L_X8_findAlike_105 6 (nI B) (nI v) s14) = _ ∧ _
        rw [g6_5 F12, Option.bind_some, w12 F12 (by omega), Option.bind_some, e_X8_findAlike_105, nI_m1]
        refine ih s14 (by omega) (upto_trans hu (upto_trans (upto_mono u16 (fun q hq => by omega)) (upto_mono u14 (fun q hq => by omega)))) ⟨by rw [(u14.2.2 6 (by omega)).1, (u16.2.2 6 (by omega)).1]; exact a1, ndS_up n6 u14 (fun q _ _ => by omega), fun p hp => ?_, fun j h1 h2 => by rw [(u14.2.2 14 (by omega)).1]; exact al6 j h1 h2, bk6 s14 (u14.2.2 15 (by omega)).1 (u14.2.2 18 (by omega)).1⟩
        have hold : ∀ l, (∀ q ∈ l, v < q) → lnk st1 13 (sI st1 12 p) l → lnk s14 13 (sI st1 12 p) l := fun l hl hlk => lnk_eq (fun q hq => by
          have := hl q hq
          rw [r13', if_neg (by omega), (u16.2.2 13 (by omega)).1]) hlk
        have hgt : ∀ q ∈ kidx D p (v + 1), v < q := fun q hq => by have := (seg_mem.mp hq).1; omega
        have h12e : sI s6 12 = sI st1 12 := (u16.2.2 12 (by omega)).1
        by_cases hpp : p = p'
        · subst hpp
          have hk : isKid (nb D p) (nb D v) = true := isKid_iff.mpr ⟨a, by rw [hnbp]; exact hca⟩
          rw [kidx_step h.1 hp hvn, if_pos hk, r12', if_pos rfl]
          refine ⟨rfl, by omega, ?_⟩
          rw [r13', if_pos rfl, h12e]
          exact hold _ hgt (a3 p hp)
        · have hk : ¬ isKid (nb D p) (nb D v) = true := fun q => by
            obtain ⟨a', ha'⟩ := isKid_iff.mp q
            rw [hca] at ha'
            have := (List.append_inj' ha' rfl).1
            rw [← hnbp] at this
            exact hpp (nb_inj h.1 hp hpn this.symm)
          rw [kidx_step h.1 hp hvn, if_neg hk, r12', if_neg hpp, h12e]
          exact hold _ hgt (a3 p hp)
  have hA0 : FA s2 D B n := by
    refine ⟨by rw [(m2.2.2 6 (by omega)).1, hn]; exact p1, ndS_up hnd m2 (fun q _ _ => by omega), fun p hp => ?_, fun j h1 h2 => by omega, fun g hg => ⟨[], m3 g hg, List.nodup_nil, fun j => ⟨fun z => by simp at z, fun z => by omega⟩⟩⟩
    have : kidx D p n = [] := by unfold kidx seg; rw [hn, Nat.sub_self]; rfl
    rw [this, (m2.2.2 12 (by omega)).1]
    exact h12 p (by omega)
  obtain ⟨s3, d1, d2, d3⟩ := k51 n s2 (Nat.le_refl _) (upto_mono m2 (fun q hq => by omega)) hA0
  refine ⟨s3, ?_, d2, d3.2.1, by rw [← hn]; exact d3.1, fun p hp => d3.2.2.1 p (by omega), fun j hj => d3.2.2.2.1 j (Nat.zero_le _) (by omega)⟩
  rw [e_X8_findAlike_0, c6 hF]
  show L_X8_findAlike_2 6 (nI (2 ^ 0)) st = _
  rw [hk2, m1, d1]
end AL4
