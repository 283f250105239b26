/-! THE MODEL READS ITS MACHINE: isFinal, beginningOf, child, children -/
theorem ded_sub {α : Type} [DecidableEq α] : ∀ {l acc : List α}, (ded acc l).Sublist (acc ++ l)
  | [], acc => by rw [List.append_nil]; exact List.Sublist.refl _
  | x :: l, acc => by
    unfold ded
    split
    · exact (ded_sub (l := l) (acc := acc)).trans (List.Sublist.append (List.Sublist.refl acc) (List.sublist_cons_self x l))
    · have := ded_sub (l := l) (acc := acc ++ [x])
      rw [List.append_assoc] at this
      exact this
theorem pre_ge {b y : List Nat} (h : b <+: y) : ¬ lcmp y b = -1 := by
  have e := lcmp_drop h (List.prefix_refl b)
  rw [List.drop_length] at e
  rw [← e]
  cases y.drop b.length with
  | nil => decide
  | cons a z => show ¬ (1 : Int32) = -1; decide
theorem let_ord {D : Dc} (hs : srt D) {b : List Nat} {i j a c : Nat} {x y : List Nat × Nat} (hx : D[i]? = some x) (hy : D[j]? = some y) (hij : i ≤ j) (hbx : b <+: x.1) (hby : b <+: y.1) (ha : x.1[b.length]? = some a) (hc : y.1[b.length]? = some c) : a ≤ c := by
  by_cases h : i = j
  · subst h
    rw [hx] at hy
    cases hy
    rw [ha] at hc
    cases hc
    exact Nat.le_refl _
  · have h1 := hs i j x y hx hy (by omega)
    rw [← lcmp_drop hbx hby, drop_some ha, drop_some hc] at h1
    unfold lcmp at h1
    by_cases e : a = c
    · omega
    · rw [if_neg e] at h1
      by_cases e2 : a < c
      · omega
      · rw [if_neg e2] at h1; simp at h1
theorem hds_srt {D : Dc} (hs : srt D) (b : List Nat) : (hds D b).Pairwise (fun a c => a < c) := by
  have h1 : ((mem_b D b).filterMap (fun x => x.1[b.length]?)).Pairwise (fun a c => a ≤ c) := by
    rw [List.pairwise_filterMap]
    have hp : (mem_b D b).Pairwise (fun x y => lcmp x.1 y.1 = -1) := List.Pairwise.filter _ (srt_iff.mp hs)
    have hall : ∀ x ∈ mem_b D b, b <+: x.1 := fun x hx => (mem_b_iff.mp hx).2
    refine List.Pairwise.imp_of_mem ?_ hp
    intro x y hx hy h a ha c hc
    rw [← lcmp_drop (hall x hx) (hall y hy), drop_some ha, drop_some hc] at h
    unfold lcmp at h
    by_cases e : a = c
    · omega
    · rw [if_neg e] at h
      by_cases e2 : a < c
      · omega
      · rw [if_neg e2] at h; simp at h
  have h2 : (hds D b).Pairwise (fun a c => a ≤ c) := by
    have := ded_sub (l := (mem_b D b).filterMap (fun x => x.1[b.length]?)) (acc := [])
    rw [List.nil_append] at this
    exact h1.sublist this
  have h3 : (hds D b).Pairwise (fun a c => a ≠ c) := hds_nd
  exact (h2.and h3).imp (fun h => by omega)
theorem last_at {D : Dc} (hs : srt D) {b : List Nat} {t e : Nat} (hg : sgm D b t e) : (t < e ∧ ∃ x, D[t]? = some x ∧ x.1 = b ∧ lastO D b = some (x.2 - least D b)) ∨ (lastO D b = none ∧ ∀ i x, t ≤ i → i < e → D[i]? = some x → b.length < x.1.length) := by
  unfold lastO
  cases hf : D.find? (fun x => decide (x.1 = b)) with
  | none =>
    refine Or.inr ⟨rfl, fun i x h1 h2 hx => ?_⟩
    have hp := (hg.2.2 i x hx).mpr ⟨h1, h2⟩
    have hle := hp.length_le
    have hn := List.find?_eq_none.mp hf x (List.mem_of_getElem? hx)
    rcases Nat.lt_or_ge b.length x.1.length with q | q
    · exact q
    · exact absurd (hp.eq_of_length (by omega)).symm (by simpa using hn)
  | some x =>
    have hxb : x.1 = b := by simpa using List.find?_some hf
    obtain ⟨i, hi⟩ := List.getElem?_of_mem (List.mem_of_find?_eq_some hf)
    have hin := (hg.2.2 i x hi).mp (by rw [hxb]; exact List.prefix_refl _)
    have hl := lt_of_get hi
    refine Or.inl ⟨by omega, ?_⟩
    have hg0 : D[t]? = some D[t] := List.getElem?_eq_getElem (by omega)
    have hp := (hg.2.2 t _ hg0).mpr ⟨Nat.le_refl _, by omega⟩
    by_cases hit : i = t
    · subst hit
      exact ⟨x, hi, hxb, rfl⟩
    · have := hs t i _ x hg0 hi (by omega)
      rw [hxb] at this
      exact absurd this (pre_ge hp)
def bix (D : Dc) (c : List Nat) : Nat := (begs D).idxOf c
theorem bix_get {D : Dc} (hs : srt D) {c : List Nat} (h : c ∈ begs D) : (begs D)[bix D c]? = some c := by
  obtain ⟨k, hk⟩ := List.getElem?_of_mem h
  unfold bix
  rw [idx_get (begs_nd hs) hk]; exact hk
def kidI (D : Dc) (b : List Nat) (i : Nat) : Int32 := match (hds D b)[i]? with
  | some a => nI (bix D (b ++ [a]))
  | none => -1
section MREAD
variable {L : Nat} {st : ab_S} {D : Dc}
theorem final_okM (hF : Fx L st) {d : Nat} (hd : d < 5) (hM : isMd st d D) (hs : srt D) {k : Nat} {b : List Nat} (hk : k < 2401) (h : bgS st D k b) : f_X11_isFinal 130 (nI d) (nI k) st = some (some (.int (b01 (lastO D b).isSome)), st) := by
  have hX : FX st := ⟨L, hF⟩
  have hD := hM.2.1
  obtain ⟨t, e, a1, a2, a3, a4, a5, a6⟩ := h
  have hte := a3.1
  have heD := a3.2.1
  rw [e_X11_isFinal_0, cm hX, n18r hX, Option.bind_some, r144 hX hk, Option.bind_some, n19r hX, Option.bind_some, r145 hX hk, Option.bind_some, a1, a2, z_0, z_1]
  rcases last_at hs a3 with ⟨hlt, x, hx, hxb, hlo⟩ | ⟨hlo, hlen⟩
  · obtain ⟨c1, c2, c3, c4⟩ := mMd hM hd hx
    rw [hlo, if_neg (by rw [c_le (by omega) (by omega)]; omega), n3 hX, Option.bind_some, Option.bind_some, r144 hX hk, Option.bind_some, a1, nl 200, a_mul, a_add, r133 hX c1, Option.bind_some, n20r hX, Option.bind_some, r146 hX hk, Option.bind_some, c2, a4, if_pos (by rw [hxb])]
    rfl
  · rw [hlo]
    by_cases hlt : t < e
    · have hg : D[t]? = some D[t] := List.getElem?_eq_getElem (by omega)
      obtain ⟨c1, c2, c3, c4⟩ := mMd hM hd hg
      have hl := hlen t _ (Nat.le_refl _) hlt hg
      rw [if_neg (by rw [c_le (by omega) (by omega)]; omega), n3 hX, Option.bind_some, Option.bind_some, r144 hX hk, Option.bind_some, a1, nl 200, a_mul, a_add, r133 hX c1, Option.bind_some, n20r hX, Option.bind_some, r146 hX hk, Option.bind_some, c2, a4, if_neg (by rw [c_eq (by omega) (by omega)]; omega)]
      rfl
    · rw [if_pos (by rw [c_le (by omega) (by omega)]; omega)]
      rfl
theorem begOf_ok (hF : Fx L st) (hok : okD D) (hA : bgA st D (begs D).length) {d i n : Nat} {x : List Nat × Nat} (hx : D[i]? = some x) (hn : n ≤ x.1.length) (hb : x.1.take n ∈ begs D) : f_X11_beginningOf 130 (nI d) (nI i) (nI n) st = some (some (.int (nI (bix D (x.1.take n)))), st) := by
  have hX : FX st := ⟨L, hF⟩
  have hN := begs_2401 hok
  have hg := bix_get hok.1 hb
  have hkl := (List.getElem?_eq_some_iff.mp hg).1
  have hx12 := (hok.2.2 x (List.mem_of_getElem? hx)).1
  have hil := lt_of_get hx
  have hD := hok.2.1
  have htl : (x.1.take n).length = n := by rw [List.length_take, Nat.min_eq_left hn]
  generalize hkk : bix D (x.1.take n) = kk at *
  have key : ∀ m k, kk - k = m → k ≤ kk → L_X11_beginningOf_3 130 (nI i) (nI n) (nI k) st = some (some (.int (nI kk)), st) := by
    intro m
    induction m with
    | zero =>
      intro k hm hk
      have hke : k = kk := by omega
      subst hke
      obtain ⟨t, e, a1, a2, a3, a4, a5, a6⟩ := hA.2 k _ hkl hg
      have hin := (a3.2.2 i x hx).mp (List.take_prefix _ _)
      have heD := a3.2.1
      rw [htl] at a4
      rw [e_X11_beginningOf_3, n20r hX, Option.bind_some, r146 hX (by omega), Option.bind_some, a4, if_pos rfl, n18r hX, Option.bind_some, r144 hX (by omega), Option.bind_some, a1, if_neg (by rw [c_lt (by omega) (by omega)]; omega), n19r hX, Option.bind_some, r145 hX (by omega), Option.bind_some, a2, if_pos (by rw [c_lt (by omega) (by omega)]; omega)]
    | succ m ih =>
      intro k hm hk
      have hgk : (begs D)[k]? = some (begs D)[k] := List.getElem?_eq_getElem (by omega)
      generalize (begs D)[k] = c at hgk
      obtain ⟨t, e, a1, a2, a3, a4, a5, a6⟩ := hA.2 k _ (by omega) hgk
      have heD := a3.2.1
      have hte := a3.1
      have nxt := ih (k + 1) (by omega) (by omega)
      have hcl : c.length ≤ 12 := by
        rcases begs_iff.mp (List.mem_of_getElem? hgk) with q | ⟨y, hy, hp⟩
        · rw [q]; simp
        · exact Nat.le_trans hp.length_le (hok.2.2 y hy).1
      rw [e_X11_beginningOf_3, n20r hX, Option.bind_some, r146 hX (by omega), Option.bind_some, a4]
      by_cases hcn : c.length = n
      · rw [if_pos (by rw [hcn]), n18r hX, Option.bind_some, r144 hX (by omega), Option.bind_some, a1, e_X11_beginningOf_36, nI_1]
        by_cases h1 : i < t
        · rw [if_pos (by rw [c_lt (by omega) (by omega)]; omega)]
          exact nxt
        · rw [if_neg (by rw [c_lt (by omega) (by omega)]; omega), n19r hX, Option.bind_some, r145 hX (by omega), Option.bind_some, a2, if_neg]
          · exact nxt
          · rw [c_lt (by omega) (by omega)]
            intro h2
            have hp := (a3.2.2 i x hx).mpr ⟨by omega, h2⟩
            have : c = x.1.take n := by
              rw [List.prefix_iff_eq_take.mp hp, hcn]
            rw [this] at hgk
            have := nodup_get (begs_nd hok.1) hgk hg
            omega
      · rw [if_neg (by rw [c_eq (by omega) (by omega)]; exact hcn), e_X11_beginningOf_36, nI_1]
        exact nxt
  rw [e_X11_beginningOf_0, cm hX]
  exact key _ 0 rfl (Nat.zero_le _)
theorem child_ok (hF : Fx L st) {d : Nat} (hd : d < 5) (hM : isMd st d D) (hok : okD D) (hA : bgA st D (begs D).length) {k : Nat} {b : List Nat} (hk : (begs D)[k]? = some b) {i : Nat} (hi : i < 2147483648) : f_X11_child 130 (nI d) (nI k) (nI i) st = some (some (.int (kidI D b i)), st) := by
  have hX : FX st := ⟨L, hF⟩
  have hD := hM.2.1
  have hN := begs_2401 hok
  have hkl := (List.getElem?_eq_some_iff.mp hk).1
  have hbg := hA.2 k b hkl hk
  have hfin := final_okM hF hd hM hok.1 (by omega) hbg
  obtain ⟨t, e, a1, a2, a3, a4, a5, a6⟩ := hbg
  have hte := a3.1
  have heD := a3.2.1
  have hbl : b.length ≤ 12 := by
    rcases begs_iff.mp (List.mem_of_getElem? hk) with q | ⟨y, hy, hp⟩
    · rw [q]; simp
    · exact Nat.le_trans hp.length_le (hok.2.2 y hy).1
  have hHs := hds_srt hok.1 b
  have hHn := hds_nd (D := D) (b := b)
  have hH256 := hds_len hok (b := b)
  -- letters behind b
  have key : ∀ t0, t ≤ t0 → t0 ≤ e → (∀ j x, t0 ≤ j → j < e → D[j]? = some x → b.length < x.1.length) → (∀ h, h ∈ hds D b → ∃ j x, t0 ≤ j ∧ j < e ∧ D[j]? = some x ∧ x.1[b.length]? = some h) → ∀ m n p, e - p = m → t0 ≤ p → p ≤ e → n ≤ (hds D b).length → n ≤ i → (∀ j x a, D[j]? = some x → t0 ≤ j → j < e → x.1[b.length]? = some a → (j < p ↔ a ∈ (hds D b).take n)) → L_X11_child_26 130 (nI d) (nI k) (nI i) (nI n) (nI p) st = some (some (.int (kidI D b i)), st) := by
    intro t0 ht0 ht0e hlen hsrc m
    induction m using Nat.strongRecOn with
    | ind m ih =>
      intro n p hm hp hpe hn hni hinv
      by_cases hpe2 : p = e
      · -- no more
        have hnH : n = (hds D b).length := by
          rcases Nat.lt_or_ge n (hds D b).length with q | q
          · exfalso
            have hg : (hds D b)[n]? = some (hds D b)[n] := List.getElem?_eq_getElem q
            obtain ⟨j, x, h1, h2, h3, h4⟩ := hsrc _ (List.mem_of_getElem? hg)
            have hm := (hinv j x _ h3 h1 h2 h4).mp (by omega)
            obtain ⟨n', hn'⟩ := List.getElem?_of_mem hm
            have hl := (List.getElem?_eq_some_iff.mp hn').1
            rw [List.length_take] at hl
            rw [List.getElem?_take_of_lt (by omega)] at hn'
            have := nodup_get hHn hn' hg
            omega
          · omega
        rw [e_X11_child_26, n19r hX, Option.bind_some, r145 hX (by omega), Option.bind_some, a2, if_pos (by rw [c_le (by omega) (by omega)]; omega)]
        unfold kidI
        rw [List.getElem?_eq_none (by omega)]
      · have hg : D[p]? = some D[p] := List.getElem?_eq_getElem (by omega)
        generalize D[p] = x at hg
        have hxl := hlen p x hp (by omega) hg
        have hbx : b <+: x.1 := (a3.2.2 p x hg).mpr ⟨by omega, by omega⟩
        have hga : x.1[b.length]? = some x.1[b.length] := List.getElem?_eq_getElem hxl
        generalize x.1[b.length] = a at hga
        have haH : a ∈ hds D b := hds_mem.mpr ⟨x, List.mem_of_getElem? hg, snoc_pre.mpr ⟨hbx, hga⟩⟩
        have hna : a ∉ (hds D b).take n := fun q => by have := (hinv p x a hg hp (by omega) hga).mpr q; omega
        obtain ⟨na, hna2⟩ := List.getElem?_of_mem haH
        have hnl := (List.getElem?_eq_some_iff.mp hna2).1
        have hnle : n ≤ na := by
          rcases Nat.lt_or_ge na n with q | q
          · exact absurd (List.mem_of_getElem? (show ((hds D b).take n)[na]? = some a by rw [List.getElem?_take_of_lt q]; exact hna2)) hna
          · exact q
        have hgn : (hds D b)[n]? = some (hds D b)[n] := List.getElem?_eq_getElem (by omega)
        have hah : (hds D b)[n] = a := by
          generalize hhe : (hds D b)[n] = h at hgn
          obtain ⟨j, y, h1, h2, h3, h4⟩ := hsrc h (List.mem_of_getElem? hgn)
          have hjp : p ≤ j := by
            rcases Nat.lt_or_ge j p with q | q
            · exfalso
              have hm := (hinv j y h h3 h1 h2 h4).mp q
              obtain ⟨n', hn'⟩ := List.getElem?_of_mem hm
              have hl := (List.getElem?_eq_some_iff.mp hn').1
              rw [List.length_take] at hl
              rw [List.getElem?_take_of_lt (by omega)] at hn'
              have := nodup_get hHn hn' hgn
              omega
            · exact q
          have hle := let_ord hok.1 hg h3 hjp hbx ((a3.2.2 j y h3).mpr ⟨by omega, h2⟩) hga h4
          have hge : h ≤ a := by
            by_cases hnn : n = na
            · subst hnn
              rw [hgn] at hna2
              cases hna2
              exact Nat.le_refl _
            · have := List.pairwise_iff_getElem.mp hHs n na (by omega) hnl (by omega)
              rw [hhe, (List.getElem?_eq_some_iff.mp hna2).2] at this
              omega
          omega
        rw [hah] at hgn
        have ha256 := ((hM.2.2 _ _ hg).2.2.1 _ _ hga).2
        rw [e_X11_child_26, n19r hX, Option.bind_some, r145 hX (by omega), Option.bind_some, a2, if_neg (by rw [c_le (by omega) (by omega)]; omega)]
        by_cases hin : n = i
        · subst hin
          have htk : x.1.take (b.length + 1) = b ++ [a] := take_snoc (snoc_pre.mpr ⟨hbx, hga⟩)
          rw [if_pos rfl, n20r hX, Option.bind_some, r146 hX (by omega), Option.bind_some, a4, nI_1, begOf_ok hF hok hA hg (by omega) (by rw [htk]; exact hds_begs.mp haH), ri_ok, htk]
          unfold kidI
          rw [hgn]
        · rw [if_neg (by rw [c_eq (by omega) (by omega)]; exact hin), n20r hX, Option.bind_some, r146 hX (by omega), Option.bind_some, a4, letter_ok hF hM (by omega) hg hga, ri_ok]
          have inner : ∀ m2 q, e - q = m2 → p ≤ q → q ≤ e → (∀ j y, p ≤ j → j < q → D[j]? = some y → y.1[b.length]? = some a) → L_X11_child_74 130 (nI d) (nI k) (nI i) (nI n) (nI q) (nI a) st = some (some (.int (kidI D b i)), st) := by
            have done : ∀ q, p < q → q ≤ e → (∀ j y, p ≤ j → j < q → D[j]? = some y → y.1[b.length]? = some a) → (∀ y c, q < e → D[q]? = some y → y.1[b.length]? = some c → c ≠ a) → L_X11_child_109 130 (nI d) (nI k) (nI i) (nI n) (nI q) st = some (some (.int (kidI D b i)), st) := by
              intro q hpq hqe hall hne
              rw [e_X11_child_109, nI_1]
              refine ih (e - q) (by omega) (n + 1) q rfl (by omega) hqe (by omega) (by omega) (fun j y c hy h1 h2 hc => ?_)
              rw [List.take_succ, hgn]
              show j < q ↔ c ∈ (hds D b).take n ++ [a]
              rw [List.mem_append, List.mem_singleton, ← hinv j y c hy h1 h2 hc]
              constructor
              · intro hj
                rcases Nat.lt_or_ge j p with w | w
                · exact Or.inl w
                · have := hall j y w hj hy
                  rw [hc] at this
                  exact Or.inr (Option.some.inj this)
              · rintro (w | w)
                · omega
                · rcases Nat.lt_or_ge j q with z | z
                  · exact z
                  · exfalso
                    have hgq : D[q]? = some D[q] := List.getElem?_eq_getElem (by omega)
                    generalize D[q] = u at hgq
                    have hul := hlen q u (by omega) (by omega) hgq
                    have hgu : u.1[b.length]? = some u.1[b.length] := List.getElem?_eq_getElem hul
                    generalize u.1[b.length] = cu at hgu
                    have hbu : b <+: u.1 := (a3.2.2 q u hgq).mpr ⟨by omega, by omega⟩
                    have o1 := let_ord hok.1 hg hgq (by omega) hbx hbu hga hgu
                    have o2 := let_ord hok.1 hgq hy z hbu ((a3.2.2 j y hy).mpr ⟨by omega, h2⟩) hgu hc
                    exact hne u cu (by omega) hgq hgu (by omega)
            intro m2
            induction m2 with
            | zero =>
              intro q hm2 hpq hqe hall
              rw [e_X11_child_74, n19r hX, Option.bind_some, r145 hX (by omega), Option.bind_some, a2, if_pos (by rw [c_le (by omega) (by omega)]; omega)]
              exact done q (by omega) hqe hall (fun _ _ h => by omega)
            | succ m2 ih2 =>
              intro q hm2 hpq hqe hall
              have hgq : D[q]? = some D[q] := List.getElem?_eq_getElem (by omega)
              generalize D[q] = u at hgq
              have hul := hlen q u (by omega) (by omega) hgq
              have hgu : u.1[b.length]? = some u.1[b.length] := List.getElem?_eq_getElem hul
              generalize u.1[b.length] = cu at hgu
              have hc256 := ((hM.2.2 _ _ hgq).2.2.1 _ _ hgu).2
              rw [e_X11_child_74, n19r hX, Option.bind_some, r145 hX (by omega), Option.bind_some, a2, if_neg (by rw [c_le (by omega) (by omega)]; omega), n20r hX, Option.bind_some, r146 hX (by omega), Option.bind_some, a4, letter_ok hF hM (by omega) hgq hgu, ri_ok]
              by_cases hcu : cu = a
              · rw [if_pos (by rw [hcu]), nI_1]
                refine ih2 (q + 1) (by omega) (by omega) (by omega) (fun j y h1 h2 hy => ?_)
                by_cases hjq : j = q
                · subst hjq
                  rw [hgq] at hy
                  cases hy
                  rw [hgu, hcu]
                · exact hall j y h1 (by omega) hy
              · rw [if_neg (by rw [c_eq (by omega) (by omega)]; exact hcu)]
                refine done q ?_ hqe hall (fun y c _ hy hc => ?_)
                · rcases Nat.lt_or_ge p q with w | w
                  · exact w
                  · exfalso
                    have : q = p := by omega
                    subst this
                    rw [hg] at hgq
                    cases hgq
                    rw [hga] at hgu
                    exact hcu (Option.some.inj hgu).symm
                · rw [hgq] at hy
                  cases hy
                  rw [hgu] at hc
                  cases hc
                  exact hcu
          exact inner _ p rfl (Nat.le_refl _) hpe (fun j y h1 h2 => by omega)
  -- where the letters come from
  have src : ∀ t0, (∀ j x, D[j]? = some x → t ≤ j → j < e → b.length < x.1.length → t0 ≤ j) → ∀ h, h ∈ hds D b → ∃ j x, t0 ≤ j ∧ j < e ∧ D[j]? = some x ∧ x.1[b.length]? = some h := by
    intro t0 ht0 h hh
    obtain ⟨x, hx, hp⟩ := hds_mem.mp hh
    obtain ⟨j, hj⟩ := List.getElem?_of_mem hx
    have h2 := snoc_pre.mp hp
    have hin := (a3.2.2 j x hj).mp h2.1
    exact ⟨j, x, ht0 j x hj hin.1 hin.2 (List.getElem?_eq_some_iff.mp h2.2).1, hin.2, hj, h2.2⟩
  rw [e_X11_child_0, cm hX, n18r hX, Option.bind_some, r144 hX (by omega), Option.bind_some, hfin, ri_ok, a1, e_X11_child_23, e_X11_child_23]
  have start : ∀ t0, t ≤ t0 → t0 ≤ e → (∀ j x, t0 ≤ j → j < e → D[j]? = some x → b.length < x.1.length) → (∀ j x, D[j]? = some x → t ≤ j → j < e → b.length < x.1.length → t0 ≤ j) → L_X11_child_26 130 (nI d) (nI k) (nI i) (nI 0) (nI t0) st = some (some (.int (kidI D b i)), st) := by
    intro t0 h1 h2 h3 h4
    exact key t0 h1 h2 h3 (src t0 h4) _ 0 t0 rfl (Nat.le_refl _) h2 (Nat.zero_le _) (Nat.zero_le _) (fun j x a _ hj _ _ => by rw [List.take_zero]; simp; omega)
  rcases last_at hok.1 a3 with ⟨hlt, x, hx, hxb, hlo⟩ | ⟨hlo, hlen⟩
  · rw [hlo, bi1 (by simp), nI_1]
    refine start (t + 1) (by omega) (by omega) (fun j y h1 h2 hy => ?_) (fun j y hy h1 h2 h3 => ?_)
    · have hp := (a3.2.2 j y hy).mpr ⟨by omega, h2⟩
      have hle := hp.length_le
      rcases Nat.lt_or_ge b.length y.1.length with q | q
      · exact q
      · exfalso
        have hyb := hp.eq_of_length (by omega)
        have := hok.1 t j x y hx hy (by omega)
        rw [hxb, ← hyb, lcmp_self] at this
        simp at this
    · rcases Nat.lt_or_ge t j with q | q
      · exact q
      · exfalso
        have : j = t := by omega
        subst this
        rw [hx] at hy
        cases hy
        rw [hxb] at h3
        omega
  · rw [hlo, bi0 (b := (none : Option Nat).isSome) rfl, show nI t + (0 : Int32) = nI t from by rw [show (0 : Int32) = nI 0 from rfl, a_add]; rfl]
    exact start t (Nat.le_refl _) hte hlen (fun j _ _ h1 _ _ => h1)
theorem children_ok (hF : Fx L st) {d : Nat} (hd : d < 5) (hM : isMd st d D) (hok : okD D) (hA : bgA st D (begs D).length) {k : Nat} {b : List Nat} (hk : (begs D)[k]? = some b) : f_X11_children 130 (nI d) (nI k) st = some (some (.int (nI (hds D b).length)), st) := by
  have hX : FX st := ⟨L, hF⟩
  have hH256 := hds_len hok (b := b)
  have hN := begs_2401 hok
  have key : ∀ m n, (hds D b).length - n = m → n ≤ (hds D b).length → L_X11_children_2 130 (nI d) (nI k) (nI n) st = some (some (.int (nI (hds D b).length)), st) := by
    intro m
    induction m with
    | zero =>
      intro n hm hn
      rw [e_X11_children_2, child_ok hF hd hM hok hA hk (by omega), ri_ok, if_pos (by unfold kidI; rw [List.getElem?_eq_none (by omega)]), show n = (hds D b).length by omega]
    | succ m ih =>
      intro n hm hn
      have hg : (hds D b)[n]? = some (hds D b)[n] := List.getElem?_eq_getElem (by omega)
      have hb : bix D (b ++ [(hds D b)[n]]) < 2147483648 := by
        have := (List.getElem?_eq_some_iff.mp (bix_get hok.1 (hds_begs.mp (List.mem_of_getElem? hg)))).1
        omega
      rw [e_X11_children_2, child_ok hF hd hM hok hA hk (by omega), ri_ok, if_neg (by unfold kidI; rw [hg]; show ¬ nI _ = -1; rw [c_m1e hb]; exact id), nI_1]
      exact ih (n + 1) (by omega) (by omega)
  rw [e_X11_children_0, cm hX]
  exact key _ 0 rfl (Nat.zero_le _)
end MREAD
