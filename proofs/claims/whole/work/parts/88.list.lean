/-! THE TERMS OF A MACHINE, in order: the walk over its paths -/
def arcsQ (Q : QS) (s : Nat) : List (Nat × Nat × Nat) := match Q[s]? with
  | some x => x.2.2
  | none => []
def lastQ (Q : QS) (s : Nat) : Option Nat := (Q[s]?).bind fun x => x.1
abbrev Nd : Type := List Nat × Nat × Nat
def vs (Q : QS) : Nat → Nat → List Nat → Nat → List Nd
  | 0, s, p, v => [(p, s, v)]
  | k + 1, s, p, v => (p, s, v) :: (arcsQ Q s).flatMap (fun y => vs Q k y.2.1 (p ++ [y.1]) (v + y.2.2))
def tmN (Q : QS) (n : Nd) : Option (List Nat × Nat) := (lastQ Q n.2.1).map (fun l => (n.1, n.2.2 + l))
theorem lcmp_pp : ∀ {p x y : List Nat}, lcmp (p ++ x) (p ++ y) = lcmp x y
  | [], _, _ => rfl
  | a :: p, x, y => by
    show (if a = a then lcmp (p ++ x) (p ++ y) else _) = _
    rw [if_pos rfl, lcmp_pp]
theorem vs_pre {Q : QS} : ∀ {k s : Nat} {p : List Nat} {v : Nat} {n : Nd}, n ∈ vs Q k s p v → p <+: n.1
  | 0, s, p, v, n, h => by
    have : n = (p, s, v) := by simpa [vs] using h
    rw [this]
    exact List.prefix_refl _
  | k + 1, s, p, v, n, h => by
    unfold vs at h
    rcases List.mem_cons.mp h with e | e
    · rw [e]
      exact List.prefix_refl _
    · obtain ⟨y, hy, hn⟩ := List.mem_flatMap.mp e
      exact (List.prefix_append p [y.1]).trans (vs_pre hn)
theorem vs_srt {Q : QS} (hQ : ∀ s, rsg (arcsQ Q s)) : ∀ {k s : Nat} {p : List Nat} {v : Nat}, (vs Q k s p v).Pairwise (fun a b => lcmp a.1 b.1 = -1)
  | 0, s, p, v => by unfold vs; exact List.pairwise_singleton _ _
  | k + 1, s, p, v => by
    unfold vs
    rw [List.pairwise_cons]
    constructor
    · intro n hn
      obtain ⟨y, hy, hm⟩ := List.mem_flatMap.mp hn
      obtain ⟨z, hz⟩ := vs_pre hm
      show lcmp p n.1 = -1
      rw [← hz]
      have e : lcmp (p ++ []) (p ++ ([y.1] ++ z)) = -1 := by rw [lcmp_pp]; rfl
      rw [List.append_nil] at e
      rw [List.append_assoc]
      exact e
    · rw [List.flatMap, List.pairwise_flatten]
      refine ⟨fun l hl => ?_, ?_⟩
      · obtain ⟨y, -, rfl⟩ := List.mem_map.mp hl
        exact vs_srt hQ
      · rw [List.pairwise_map]
        refine (hQ s).imp ?_
        intro y y' hlt n hn n' hn'
        obtain ⟨z, hz⟩ := vs_pre hn
        obtain ⟨z', hz'⟩ := vs_pre hn'
        rw [← hz, ← hz', List.append_assoc, List.append_assoc, lcmp_pp]
        show (if y.1 = y'.1 then _ else if y.1 < y'.1 then (-1 : Int32) else 1) = -1
        rw [if_neg (by omega), if_pos hlt]
theorem lt_srt {Q : QS} (hQ : ∀ s, rsg (arcsQ Q s)) {k s v : Nat} {p : List Nat} : srt ((vs Q k s p v).filterMap (tmN Q)) := by
  rw [srt_iff, List.pairwise_filterMap]
  refine (vs_srt hQ).imp ?_
  intro a b h x hx y hy
  unfold tmN at hx hy
  cases h1 : lastQ Q a.2.1 with
  | none => rw [h1] at hx; cases hx
  | some l =>
    cases h2 : lastQ Q b.2.1 with
    | none => rw [h2] at hy; cases hy
    | some l' =>
      rw [h1] at hx
      rw [h2] at hy
      cases hx
      cases hy
      exact h
theorem arcsQ_zr {Q : QS} {s : Nat} : arcsQ (Q.map zr) s = arcsQ Q s := by
  unfold arcsQ
  rw [List.getElem?_map]
  cases Q[s]? <;> rfl
theorem lastQ_zr {Q : QS} {s : Nat} : lastQ (Q.map zr) s = lastQ Q s := by
  unfold lastQ
  rw [List.getElem?_map]
  cases Q[s]? <;> rfl
section LM
variable {D : Dc}
theorem arcsQ_mach (h : okD D) {b : List Nat} (hb : b ∈ begs D) : arcsQ (mach D).2.2 (stOf D b) = arcsO D b := by
  unfold arcsQ
  rw [mach_get h.1 (stOf_lt hb) rfl]
  rfl
theorem lastQ_mach (h : okD D) {b : List Nat} (hb : b ∈ begs D) : lastQ (mach D).2.2 (stOf D b) = lastO D b := by
  unfold lastQ
  rw [mach_get h.1 (stOf_lt hb) rfl]
  rfl
theorem mach_st (h : okD D) {s : Nat} {x : QX} (hs : (mach D).2.2[s]? = some x) : ∃ b, b ∈ begs D ∧ x = stQ D b := by
  have hsl := (List.getElem?_eq_some_iff.mp hs).1
  rw [mach_len] at hsl
  have hg : (rsts D)[s]? = some (rsts D)[s] := List.getElem?_eq_getElem hsl
  obtain ⟨b, hb, hbr⟩ := rsts_mem.mp (List.mem_of_getElem? hg)
  have := mach_get h.1 hg hbr
  rw [hs] at this
  exact ⟨b, hb, Option.some.inj this⟩
theorem rsg_arcsO (h : okD D) (b : List Nat) : rsg (arcsO D b) := by
  unfold rsg arcsO
  rw [List.pairwise_map]
  exact hds_srt h.1 b
theorem rsg_mach (h : okD D) (s : Nat) : rsg (arcsQ (mach D).2.2 s) := by
  unfold arcsQ
  cases hs : (mach D).2.2[s]? with
  | none => exact List.Pairwise.nil
  | some x =>
    obtain ⟨b, -, rfl⟩ := mach_st h hs
    exact rsg_arcsO h b
theorem okQ_mach (h : okD D) : ∀ x ∈ (mach D).2.2, okQ (mach D).2.2.length x := by
  intro x hx
  obtain ⟨s, hs⟩ := List.getElem?_of_mem hx
  obtain ⟨b, hb, rfl⟩ := mach_st h hs
  refine ⟨(bM_ok h).2.2.1 _ hx, rsg_arcsO h b, ?_, fun y hy => ?_⟩
  · show (arcsO D b).length ≤ 256
    rw [arcs_hds]; exact hds_len h
  · obtain ⟨a, ha, rfl⟩ := List.mem_map.mp hy
    rw [mach_len]
    exact (List.getElem?_eq_some_iff.mp (stOf_lt (hds_begs.mp ha))).1
theorem mach_pos : 1 ≤ (mach D).2.2.length := by
  rw [mach_len]
  have := (List.getElem?_eq_some_iff.mp (stOf_lt (D := D) (b := []) (begs_iff.mpr (Or.inl rfl)))).1
  omega
theorem begs_12 (h : okD D) {b : List Nat} (hb : b ∈ begs D) : b.length ≤ 12 := by
  rcases begs_iff.mp hb with q | ⟨y, hy, hp⟩
  · rw [q]; simp
  · exact Nat.le_trans hp.length_le (h.2.2 y hy).1
theorem vs_mach (h : okD D) : ∀ {k : Nat} {b : List Nat}, b ∈ begs D → 12 ≤ k + b.length → ∀ n, n ∈ vs (mach D).2.2 k (stOf D b) b (least D b) ↔ ∃ c ∈ begs D, b <+: c ∧ n = (c, stOf D c, least D c)
  | 0, b, hb, hk, n => by
    unfold vs
    rw [List.mem_singleton]
    constructor
    · intro e
      exact ⟨b, hb, List.prefix_refl _, e⟩
    · rintro ⟨c, hc, hp, rfl⟩
      have := begs_12 h hc
      have := hp.length_le
      rw [hp.eq_of_length (by omega)]
  | k + 1, b, hb, hk, n => by
    unfold vs
    rw [List.mem_cons, arcsQ_mach h hb, List.mem_flatMap]
    constructor
    · rintro (e | ⟨y, hy, hn⟩)
      · exact ⟨b, hb, List.prefix_refl _, e⟩
      · obtain ⟨a, ha, rfl⟩ := List.mem_map.mp hy
        have hl := kid_le ha
        dsimp only at hn
        rw [show least D b + (least D (b ++ [a]) - least D b) = least D (b ++ [a]) by omega] at hn
        obtain ⟨c, hc, hp, e⟩ := (vs_mach h (hds_begs.mp ha) (by rw [List.length_append, List.length_singleton]; omega) n).mp hn
        exact ⟨c, hc, (List.prefix_append b [a]).trans hp, e⟩
    · rintro ⟨c, hc, hp, rfl⟩
      by_cases hbc : c = b
      · exact Or.inl (by rw [hbc])
      · right
        obtain ⟨z, hz⟩ := hp
        cases z with
        | nil => rw [List.append_nil] at hz; exact absurd hz.symm hbc
        | cons a z =>
          have hpa : b ++ [a] <+: c := ⟨z, by rw [← hz]; simp⟩
          have hba : b ++ [a] ∈ begs D := begs_pre hc hpa
          have ha := hds_begs.mpr hba
          have hl := kid_le ha
          refine ⟨(a, stOf D (b ++ [a]), least D (b ++ [a]) - least D b), List.mem_map.mpr ⟨a, ha, rfl⟩, ?_⟩
          dsimp only
          rw [show least D b + (least D (b ++ [a]) - least D b) = least D (b ++ [a]) by omega]
          exact (vs_mach h hba (by rw [List.length_append, List.length_singleton]; omega) _).mpr ⟨c, hc, hpa, rfl⟩
theorem vs_all (h : okD D) (n : Nd) : n ∈ vs (mach D).2.2 12 0 [] (least D []) ↔ ∃ c ∈ begs D, n = (c, stOf D c, least D c) := by
  have := vs_mach h (k := 12) (b := []) (begs_iff.mpr (Or.inl rfl)) (by simp) n
  rw [stOf_nil] at this
  rw [this]
  exact ⟨fun ⟨c, h1, _, h2⟩ => ⟨c, h1, h2⟩, fun ⟨c, h1, h2⟩ => ⟨c, h1, List.nil_prefix, h2⟩⟩
theorem lt_mach (h : okD D) : (vs (mach D).2.2 12 0 [] (least D [])).filterMap (tmN (mach D).2.2) = D := by
  refine srt_ext (lt_srt (rsg_mach h)) h.1 (fun x => ?_)
  rw [List.mem_filterMap]
  constructor
  · rintro ⟨n, hn, hx⟩
    obtain ⟨c, hc, rfl⟩ := (vs_all h n).mp hn
    unfold tmN at hx
    dsimp only at hx
    rw [lastQ_mach h hc] at hx
    cases hl : lastO D c with
    | none => rw [hl] at hx; cases hx
    | some l =>
      rw [hl] at hx
      cases hx
      obtain ⟨y, hy, hy1, hy2⟩ := rest_mem.mp ((lastO_iff h.1).mp hl)
      rw [List.append_nil] at hy1
      have : y = (c, least D c + l) := Prod.ext hy1 (by rw [hy2]; exact Nat.add_comm _ _)
      show (c, least D c + l) ∈ D
      rw [← this]
      exact hy
  · intro hx
    have hc : x.1 ∈ begs D := begs_iff.mpr (Or.inr ⟨x, hx, List.prefix_refl _⟩)
    have hle := least_le (mem_b_iff.mpr ⟨hx, List.prefix_refl _⟩ : x ∈ mem_b D x.1)
    have hl : lastO D x.1 = some (x.2 - least D x.1) := (lastO_iff h.1).mpr (rest_mem.mpr ⟨x, hx, by rw [List.append_nil], by omega⟩)
    refine ⟨(x.1, stOf D x.1, least D x.1), (vs_all h _).mpr ⟨x.1, hc, rfl⟩, ?_⟩
    unfold tmN
    dsimp only
    rw [lastQ_mach h hc, hl]
    show some (x.1, least D x.1 + (x.2 - least D x.1)) = some x
    rw [show least D x.1 + (x.2 - least D x.1) = x.2 by omega]
theorem vs_len (h : okD D) : (vs (mach D).2.2 12 0 [] (least D [])).length ≤ (begs D).length := by
  have hs := vs_srt (rsg_mach h) (k := 12) (s := 0) (p := []) (v := least D [])
  have hn : ((vs (mach D).2.2 12 0 [] (least D [])).map (fun n => n.1)).Nodup := by
    rw [List.nodup_iff_pairwise_ne, List.pairwise_map]
    refine hs.imp ?_
    intro a b hab e
    rw [e, lcmp_self] at hab
    simp at hab
  have := sub_len hn (R := begs D) (fun c hc => by
    obtain ⟨n, hn, rfl⟩ := List.mem_map.mp hc
    obtain ⟨c, hc2, rfl⟩ := (vs_all h n).mp hn
    exact hc2)
  rw [List.length_map] at this
  exact this
theorem nodead (h : okD D) {c : List Nat} (hc : c ∈ begs D) (hn : c ≠ []) : lastO D c ≠ none ∨ arcsO D c ≠ [] := by
  rcases begs_iff.mp hc with q | ⟨x, hx, hp⟩
  · exact absurd q hn
  · obtain ⟨z, hz⟩ := hp
    cases z with
    | nil =>
      left
      have hle := least_le (mem_b_iff.mpr ⟨hx, ⟨[], hz⟩⟩ : x ∈ mem_b D c)
      have : lastO D c = some (x.2 - least D c) := (lastO_iff h.1).mpr (rest_mem.mpr ⟨x, hx, hz.symm, by omega⟩)
      rw [this]
      simp
    | cons a z =>
      right
      have ha : a ∈ hds D c := hds_mem.mpr ⟨x, hx, ⟨z, by rw [← hz]; simp⟩⟩
      intro e
      have := arcs_hds (D := D) (b := c)
      rw [e] at this
      have h0 : hds D c = [] := List.length_eq_zero_iff.mp (by rw [← this]; rfl)
      rw [h0] at ha
      simp at ha
theorem deep12 (h : okD D) {c : List Nat} (hc : c ∈ begs D) (hl : 12 ≤ c.length) : arcsO D c = [] := by
  unfold arcsO
  rw [List.map_eq_nil_iff]
  cases hh : hds D c with
  | nil => rfl
  | cons a l =>
    have := begs_12 h (hds_begs.mp (by rw [hh]; exact List.mem_cons_self : a ∈ hds D c))
    rw [List.length_append, List.length_singleton] at this
    omega
end LM
-- the stack
def lvl (Q : QS) (S I V : Nat → Nat) (p : List Nat) (j : Nat) : List Nd := if j < 12 then ((arcsQ Q (S j)).drop (I j)).flatMap (fun y => vs Q (11 - j) y.2.1 (p.take j ++ [y.1]) (V j + y.2.2)) else []
def sr (Q : QS) (S I V : Nat → Nat) (p : List Nat) : Nat → List Nd
  | 0 => lvl Q S I V p 0
  | j + 1 => lvl Q S I V p (j + 1) ++ sr Q S I V p j
theorem sr_congr {Q : QS} {S I V S' I' V' : Nat → Nat} {p p' : List Nat} : ∀ {j : Nat}, (∀ i, i ≤ j → S i = S' i ∧ I i = I' i ∧ V i = V' i ∧ p.take i = p'.take i) → sr Q S I V p j = sr Q S' I' V' p' j
  | 0, h => by
    obtain ⟨h1, h2, h3, h4⟩ := h 0 (Nat.le_refl _)
    unfold sr lvl
    rw [h1, h2, h3, h4]
  | j + 1, h => by
    obtain ⟨h1, h2, h3, h4⟩ := h (j + 1) (Nat.le_refl _)
    unfold sr
    rw [sr_congr (fun i hi => h i (by omega))]
    unfold lvl
    rw [h1, h2, h3, h4]
theorem sr_down {Q : QS} {S I V : Nat → Nat} {p : List Nat} {dp : Nat} {y : Nat × Nat × Nat} (hp : p.length = dp) (hd : dp < 12) (hy : (arcsQ Q (S dp))[I dp]? = some y) : sr Q S I V p dp = (p ++ [y.1], y.2.1, V dp + y.2.2) :: sr Q (up1 S (dp + 1) y.2.1) (up1 (up1 I dp (I dp + 1)) (dp + 1) 0) (up1 V (dp + 1) (V dp + y.2.2)) (p ++ [y.1]) (dp + 1) := by
  have hdr : (arcsQ Q (S dp)).drop (I dp) = y :: (arcsQ Q (S dp)).drop (I dp + 1) := by
    have hl := List.getElem?_eq_some_iff.mp hy
    rw [List.drop_eq_getElem_cons hl.1, hl.2]
  have htk : p.take dp = p := List.take_of_length_le (by omega)
  have e1 : lvl Q S I V p dp = vs Q (11 - dp) y.2.1 (p ++ [y.1]) (V dp + y.2.2) ++ lvl Q S (up1 I dp (I dp + 1)) V p dp := by
    unfold lvl
    rw [if_pos hd, if_pos hd, hdr, List.flatMap_cons, up1_s, htk]
  have e2 : vs Q (11 - dp) y.2.1 (p ++ [y.1]) (V dp + y.2.2) = (p ++ [y.1], y.2.1, V dp + y.2.2) :: lvl Q (up1 S (dp + 1) y.2.1) (up1 (up1 I dp (I dp + 1)) (dp + 1) 0) (up1 V (dp + 1) (V dp + y.2.2)) (p ++ [y.1]) (dp + 1) := by
    unfold lvl
    by_cases h11 : dp + 1 < 12
    · rw [if_pos h11, up1_s, up1_s, up1_s, List.drop_zero, List.take_of_length_le (by rw [List.length_append, List.length_singleton]; omega)]
      obtain ⟨k, hk⟩ : ∃ k, 11 - dp = k + 1 := ⟨10 - dp, by omega⟩
      rw [hk, show 11 - (dp + 1) = k by omega]
      rfl
    · rw [if_neg h11, show 11 - dp = 0 by omega]
      rfl
  have rest : ∀ j, j < dp → sr Q S I V p j = sr Q (up1 S (dp + 1) y.2.1) (up1 (up1 I dp (I dp + 1)) (dp + 1) 0) (up1 V (dp + 1) (V dp + y.2.2)) (p ++ [y.1]) j := by
    intro j hj
    refine sr_congr (fun i hi => ⟨?_, ?_, ?_, ?_⟩)
    · rw [up1_o (by omega)]
    · rw [up1_o (by omega), up1_o (by omega)]
    · rw [up1_o (by omega)]
    · rw [List.take_append_of_le_length (by omega)]
  have e3 : lvl Q S (up1 I dp (I dp + 1)) V p dp = lvl Q (up1 S (dp + 1) y.2.1) (up1 (up1 I dp (I dp + 1)) (dp + 1) 0) (up1 V (dp + 1) (V dp + y.2.2)) (p ++ [y.1]) dp := by
    unfold lvl
    rw [up1_s, up1_o (show dp ≠ dp + 1 by omega), up1_o (show dp ≠ dp + 1 by omega), up1_s, up1_o (show dp ≠ dp + 1 by omega), List.take_append_of_le_length (by omega)]
  show _ = _ :: (lvl Q _ _ _ _ (dp + 1) ++ sr Q _ _ _ _ dp)
  cases dp with
  | zero =>
    show lvl Q S I V p 0 = _ :: (lvl Q _ _ _ _ (0 + 1) ++ lvl Q _ _ _ _ 0)
    rw [e1, e2, e3]
    rfl
  | succ d =>
    show lvl Q S I V p (d + 1) ++ sr Q S I V p d = _ :: (lvl Q _ _ _ _ (d + 1 + 1) ++ (lvl Q _ _ _ _ (d + 1) ++ sr Q _ _ _ _ d))
    rw [e1, e2, e3, rest d (by omega)]
    simp
theorem lvl_nil {Q : QS} {S I V : Nat → Nat} {p : List Nat} {j : Nat} (h : (arcsQ Q (S j))[I j]? = none) : lvl Q S I V p j = [] := by
  unfold lvl
  split
  · rw [List.drop_eq_nil_of_le (List.getElem?_eq_none_iff.mp h)]; rfl
  · rfl
theorem sr_start {Q : QS} {v : Nat} {S I V : Nat → Nat} (h1 : S 0 = 0) (h2 : I 0 = 0) (h3 : V 0 = v) : vs Q 12 0 [] v = ([], 0, v) :: sr Q S I V [] 0 := by
  unfold sr lvl
  rw [if_pos (by omega), h1, h2, h3]
  rfl
