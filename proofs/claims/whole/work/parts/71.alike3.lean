/-! ALIKE: the class's search -/
def ndS (st : ab_S) (D : Dc) : Prop := ∀ k b, (begs D)[k]? = some b → (b = [] → sI st 7 k = -1) ∧ (∀ c a, b = c ++ [a] → a < 256 ∧ ∃ p, p < k ∧ (begs D)[p]? = some c ∧ sI st 7 k = nI p ∧ sI st 8 k = nI a) ∧ sI st 9 k = nI (mem_b D b).length ∧ sJ st 10 k = lN (least D b) ∧ sJ st 11 k = ownI D b
theorem ndS_up {st st' : ab_S} {D : Dc} {W : Nat → Prop} (h : ndS st D) (hu : upto W st st') (hW : ∀ q, 7 ≤ q → q ≤ 11 → ¬ W q) : ndS st' D := by
  intro k b hk
  have := h k b hk
  rw [(hu.2.2 7 (hW _ (by omega) (by omega))).1, (hu.2.2 8 (hW _ (by omega) (by omega))).1, (hu.2.2 9 (hW _ (by omega) (by omega))).1, (hu.2.2 10 (hW _ (by omega) (by omega))).2, (hu.2.2 11 (hW _ (by omega) (by omega))).2]
  exact this
def bkt (D : Dc) (B k : Nat) : Nat := (mixV (lastI (lastO D (nb D k))) (kd D (nb D k))).toBitVec.toNat % B
def FA (st : ab_S) (D : Dc) (B k : Nat) : Prop := sI st 6 13 = nI (begs D).length ∧ ndS st D ∧ (∀ p, p < (begs D).length → lnk st 13 (sI st 12 p) (kidx D p k)) ∧ (∀ j, k ≤ j → j < (begs D).length → sI st 14 j = nI (rep D j)) ∧ ∀ h, h < B → ∃ l, lnk st 15 (sI st 18 h) l ∧ l.Nodup ∧ ∀ j, j ∈ l ↔ (k ≤ j ∧ j < (begs D).length ∧ rep D j = j ∧ bkt D B j = h)
section AL3
variable {st : ab_S} {D : Dc}
theorem own_last (h : okD D) {k : Nat} {b : List Nat} (hn : ndS st D) (hk : (begs D)[k]? = some b) : lastv st k = lastI (lastO D b) := by
  obtain ⟨-, -, -, h4, h5⟩ := hn k b hk
  unfold lastv lastO
  rw [h4, h5]
  unfold ownI
  cases hf : D.find? (fun x => decide (x.1 = b)) with
  | none => rw [if_pos rfl]; rfl
  | some x =>
    have h3 := List.mem_of_find?_eq_some hf
    have h6 : x.1 = b := by simpa using List.find?_some hf
    have hx := (h.2.2 x h3).2.2
    have hl := least_le (b := b) (mem_b_iff.mpr ⟨h3, ⟨[], by rw [h6]; simp⟩⟩)
    have hne : ¬ lN x.2 = -1 := fun q => by
      have := congrArg Int64.toInt q
      rw [pk_lT (by omega)] at this
      have hm : (-1 : Int64).toInt = -1 := by decide
      rw [hm] at this
      omega
    show (if lN x.2 = -1 then (-1 : Int64) else lN x.2 - lN (least D b)) = _
    rw [if_neg hne, lN_sub hl]
    rfl
theorem par_lt (hs : srt D) (hn : ndS st D) {p j : Nat} (hp : p < (begs D).length) (hj : j < (begs D).length) (hk : isKid (nb D p) (nb D j) = true) : p < j ∧ ∃ a, a < 256 ∧ nb D j = nb D p ++ [a] ∧ sI st 7 j = nI p ∧ sI st 8 j = nI a := by
  obtain ⟨a, ha⟩ := isKid_iff.mp hk
  obtain ⟨-, h2, -⟩ := hn j _ (nb_some hj)
  obtain ⟨g1, p', g2, g3, g4, g5⟩ := h2 _ a ha
  have : p' = p := nodup_get (begs_nd hs) g3 (nb_some hp)
  subst this
  exact ⟨g2, a, g1, ha, g4, g5⟩
theorem kidx_all (hs : srt D) (hn : ndS st D) {p : Nat} (hp : p < (begs D).length) : kidx D p 0 = kidx D p (p + 1) := by
  refine seg_skip (by omega) (fun j hj => ?_)
  by_cases hk : isKid (nb D p) (nb D j) = true
  · have := (par_lt hs hn hp (by omega) hk).1
    omega
  · exact ts_nt hk
theorem kidx_len (h : okD D) {p : Nat} : (kidx D p 0).length ≤ 256 := by
  have := congrArg List.length (kidx_map h.1 (p := p))
  rw [List.length_map, List.length_map] at this
  rw [this]
  exact hds_len h
theorem kidx_dat (h : okD D) (hn : ndS st D) {p : Nat} (hp : p < (begs D).length) (ha : ∀ j, p < j → j < (begs D).length → sI st 14 j = nI (rep D j)) : (kidx D p (p + 1)).map (dat st p) = kd D (nb D p) := by
  have hn0 := begs_2401 h
  have e1 : (kidx D p (p + 1)).map (dat st p) = ((kidx D p (p + 1)).map (nb D)).map (fun c => (nI (c.getD (nb D p).length 0), nI (repR D (rest D c)), lN (least D c - least D (nb D p)))) := by
    rw [List.map_map]
    apply List.map_congr_left
    intro j hj
    obtain ⟨j1, j2, j3⟩ := seg_mem.mp hj
    obtain ⟨q1, a, q2, q3, q4, q5⟩ := par_lt h.1 hn hp j2 j3
    obtain ⟨-, -, -, r1, -⟩ := hn j _ (nb_some j2)
    obtain ⟨-, -, -, r2, -⟩ := hn p _ (nb_some hp)
    have hah : a ∈ hds D (nb D p) := hds_begs.mpr (q3 ▸ List.mem_of_getElem? (nb_some j2))
    have hle := kid_le hah
    show (sI st 8 j, sI st 14 j, sJ st 10 j - sJ st 10 p) = (nI ((nb D j).getD (nb D p).length 0), nI (repR D (rest D (nb D j))), lN (least D (nb D j) - least D (nb D p)))
    rw [q5, ha j q1 j2, r1, r2, lN_sub (by rw [q3]; exact hle), q3]
    have : (nb D p ++ [a]).getD (nb D p).length 0 = a := by simp [List.getD]
    rw [this]
    show (nI a, nI (repR D (rest D (nb D j))), _) = _
    rw [q3]
  rw [e1, ← kidx_all h.1 hn hp, kidx_map h.1, List.map_map]
  unfold kd
  apply List.map_congr_left
  intro a _
  show (nI ((nb D p ++ [a]).getD (nb D p).length 0), _, _) = _
  have : (nb D p ++ [a]).getD (nb D p).length 0 = a := by simp [List.getD]
  rw [this]
/-- two beginnings have the same rest -/
theorem same_iff (h : okD D) (hF : FX st) (hn : ndS st D) {x y : Nat} (hx : x < (begs D).length) (hy : y < (begs D).length) (hxy : x < y) (hlk : ∀ p, p < (begs D).length → lnk st 13 (sI st 12 p) (kidx D p (x + 1))) (ha : ∀ j, x < j → j < (begs D).length → sI st 14 j = nI (rep D j)) : f_X8_haveSameRest 6 (nI x) (nI y) st = some (some (.int (if rs D x = rs D y then 1 else 0)), st) := by
  have hn0 := begs_2401 h
  have hky : kidx D y (x + 1) = kidx D y (y + 1) := by
    rw [← kidx_all h.1 hn hy]
    refine (seg_skip (by omega) (fun j hj => ?_)).symm
    by_cases hk : isKid (nb D y) (nb D j) = true
    · have := (par_lt h.1 hn hy (by omega) hk).1
      omega
    · exact ts_nt hk
  have l1 := hlk x hx
  have l2 := hlk y hy
  rw [hky] at l2
  have hlen := kidx_len h (p := x)
  rw [kidx_all h.1 hn hx] at hlen
  rw [same_ok hF (by omega) (by omega) l1 l2 hlen, kidx_dat h hn hx ha, kidx_dat h hn hy (fun j h1 h2 => ha j (by omega) h2), own_last h hn (nb_some hx), own_last h hn (nb_some hy), (hn x _ (nb_some hx)).2.2.1, (hn y _ (nb_some hy)).2.2.1]
  have hli : ∀ b c, lastI (lastO D b) = lastI (lastO D c) → lastO D b = lastO D c := by
    have hb : ∀ b v, lastO D b = some v → v ≤ 1000000000000 := fun b v hv => by
      obtain ⟨x, hx, -, hx2⟩ := rest_mem.mp ((lastO_iff h.1).mp hv)
      have := (h.2.2 x hx).2.2
      omega
    have hm : (-1 : Int64).toInt = -1 := by decide
    intro b c e
    cases hb1 : lastO D b with
    | none => cases hc1 : lastO D c with
      | none => rfl
      | some v =>
        rw [hb1, hc1] at e
        have h2 := hb c v hc1
        have := congrArg Int64.toInt (show (-1 : Int64) = lN v from e)
        rw [pk_lT (by omega), hm] at this
        omega
    | some u => cases hc1 : lastO D c with
      | none =>
        rw [hb1, hc1] at e
        have h2 := hb b u hb1
        have := congrArg Int64.toInt (show lN u = (-1 : Int64) from e)
        rw [pk_lT (by omega), hm] at this
        omega
      | some v =>
        rw [hb1, hc1] at e
        have h2 := hb b u hb1
        have h3 := hb c v hc1
        have := (pk_lEQ (by omega) (by omega)).mp (show lN u = lN v from e)
        rw [this]
  by_cases hr : rs D x = rs D y
  · obtain ⟨e1, -, -⟩ := (rest_eq h.1).mp hr
    rw [if_pos hr, if_pos ⟨by rw [← rest_len, ← rest_len]; exact congrArg (fun r => nI (List.length r)) hr, by rw [e1], kd_rest h.1 hr⟩]
  · rw [if_neg hr, if_neg (fun q => hr (rest_kd h (hli _ _ q.2.1) q.2.2))]
theorem bkt_rs (hs : srt D) {B x y : Nat} (h : rs D x = rs D y) : bkt D B x = bkt D B y := by
  unfold bkt
  rw [kd_rest hs h, ((rest_eq hs).mp h).1]
theorem alike_ok (h : okD D) (hF : FX st) {B v : Nat} (hB : B ≤ 4096) (hv : v < (begs D).length) (hA : FA st D B (v + 1)) {hh : Nat} (hhh : bkt D B v = hh) (hhB : hh < B) : ∃ st', f_X8_firstAlike 6 (nI v) (nI hh) st = some (some (.int (nI (rep D v))), st') ∧ upto (fun q => q = 15 ∨ q = 18) st st' ∧ ∀ g, g < B → ∃ l, lnk st' 15 (sI st' 18 g) l ∧ l.Nodup ∧ ∀ j, j ∈ l ↔ (v ≤ j ∧ j < (begs D).length ∧ rep D j = j ∧ bkt D B j = g) := by
  obtain ⟨a1, a2, a3, a4, a5⟩ := hA
  have hn0 := begs_2401 h
  obtain ⟨l0, b1, b2, b3⟩ := a5 hh hhB
  obtain ⟨rp1, rp2, rp3⟩ := rep_ok hv
  have hl0 : l0.length ≤ (begs D).length := by
    have := sub_len (R := List.range (begs D).length) b2 (fun j hj => List.mem_range.mpr ((b3 j).mp hj).2.1)
    rwa [List.length_range] at this
  -- nothing found
  have e48 : rep D v = v → ∃ st', L_X8_firstAlike_48 6 (nI v) (nI hh) st = some (some (.int (nI (rep D v))), st') ∧ upto (fun q => q = 15 ∨ q = 18) st st' ∧ ∀ g, g < B → ∃ l, lnk st' 15 (sI st' 18 g) l ∧ l.Nodup ∧ ∀ j, j ∈ l ↔ (v ≤ j ∧ j < (begs D).length ∧ rep D j = j ∧ bkt D B j = g) := by
    intro hrv
    let s4 := uI st 15 v (sI st 18 hh)
    let s6 := uI s4 18 hh (nI v)
    have F4 : FX s4 := hF
    have r15 : ∀ k, sI s6 15 k = if k = v then sI st 18 hh else sI st 15 k := fun k => by simp [s6, s4, I_uI]
    have r18' : ∀ g, sI s6 18 g = if g = hh then nI v else sI st 18 g := fun g => by simp [s6, s4, I_uI]
    refine ⟨s6, ?_, upto_trans (upto_uI (Or.inl rfl)) (upto_uI (Or.inr rfl)), fun g hg => ?_⟩
    · rw [e_X8_firstAlike_48, g6_8 hF, Option.bind_some, g6_11 hF, Option.bind_some, r18 hF (by omega), Option.bind_some, w15 hF (by omega), Option.bind_some, g6_11 F4, Option.bind_some, w18 F4 (by omega), Option.bind_some, hrv]
    · obtain ⟨l, c1, c2, c3⟩ := a5 g hg
      have hvl : v ∉ l := fun q => by have := ((c3 v).mp q).1; omega
      have hcl : lnk s6 15 (sI st 18 g) l := lnk_eq (fun k hk => by rw [r15, if_neg (show ¬ k = v from fun q => hvl (q ▸ hk))]) c1
      by_cases hgh : g = hh
      · refine ⟨v :: l, ⟨by rw [r18', if_pos hgh], by omega, by rw [r15, if_pos rfl, ← hgh]; exact hcl⟩, List.nodup_cons.mpr ⟨hvl, c2⟩, fun j => ?_⟩
        rw [List.mem_cons, c3]
        constructor
        · rintro (rfl | ⟨z1, z2⟩)
          · exact ⟨Nat.le_refl _, hv, hrv, by rw [hgh]; exact hhh⟩
          · exact ⟨by omega, z2⟩
        · rintro ⟨z1, z2⟩
          by_cases hjv : j = v
          · exact Or.inl hjv
          · exact Or.inr ⟨by omega, z2⟩
      · refine ⟨l, by rw [r18', if_neg hgh]; exact hcl, c2, fun j => ?_⟩
        rw [c3]
        constructor
        · rintro ⟨z1, z2⟩; exact ⟨by omega, z2⟩
        · rintro ⟨z1, z2, z3, z4⟩
          refine ⟨?_, z2, z3, z4⟩
          have : j ≠ v := fun q => hgh (by rw [← z4, q, hhh])
          omega
  -- the scan
  have scan : ∀ (l : List Nat) (f : Int32) (s : Nat), lnk st 15 f l → s + l.length ≤ (begs D).length → (∀ j ∈ l, j ∈ l0) → (∀ j ∈ l0, j ∈ l ∨ rs D j ≠ rs D v) → ∃ st', L_X8_firstAlike_10 6 (nI v) (nI hh) f (nI s) st = some (some (.int (nI (rep D v))), st') ∧ upto (fun q => q = 15 ∨ q = 18) st st' ∧ ∀ g, g < B → ∃ l, lnk st' 15 (sI st' 18 g) l ∧ l.Nodup ∧ ∀ j, j ∈ l ↔ (v ≤ j ∧ j < (begs D).length ∧ rep D j = j ∧ bkt D B j = g) := by
    intro l
    induction l with
    | nil =>
      intro f s hl hsl hsub hall
      have hf : f = -1 := hl
      have hrv : rep D v = v := by
        have h1 : v ≤ rep D v := rp3 v hv rfl
        by_cases hq : rep D v = v
        · exact hq
        · have hin : rep D v ∈ l0 := (b3 _).mpr ⟨by omega, rp1, by show repR D (rs D (rep D v)) = rep D v; rw [rp2]; rfl, by rw [bkt_rs h.1 rp2]; exact hhh⟩
          rcases hall _ hin with z | z
          · simp at z
          · exact absurd rp2 z
      rw [e_X8_firstAlike_10, i6 hF, Option.bind_some, a1, if_pos hf]
      simp only [ite_self]
      exact e48 hrv
    | cons y l ih =>
      intro f s hl hsl hsub hall
      obtain ⟨rfl, hy, hl'⟩ := hl
      rw [List.length_cons] at hsl
      obtain ⟨y1, y2, y3, y4⟩ := (b3 y).mp (hsub y (List.mem_cons_self ..))
      rw [e_X8_firstAlike_10, i6 hF, Option.bind_some, a1, if_neg (by rw [c_le (by omega) (by omega)]; omega), if_neg (by rw [c_m1e (by omega)]; exact id), same_iff h hF a2 hv y2 (by omega) a3 (fun j h1 h2 => a4 j (by omega) h2), ri_ok]
      by_cases hr : rs D v = rs D y
      · rw [if_pos hr, if_neg (by decide)]
        have hry : rep D v = y := by
          have : rep D v = rep D y := by unfold rep; rw [hr]
          rw [this, y3]
        rw [hry]
        refine ⟨st, rfl, upto_rfl, fun g hg => ?_⟩
        obtain ⟨l', c1, c2, c3⟩ := a5 g hg
        refine ⟨l', c1, c2, fun j => ?_⟩
        rw [c3]
        constructor
        · rintro ⟨z1, z2⟩; exact ⟨by omega, z2⟩
        · rintro ⟨z1, z2, z3, z4⟩
          refine ⟨?_, z2, z3, z4⟩
          have : j ≠ v := fun q => by
            rw [q, hry] at z3
            omega
          omega
      · rw [if_neg hr, if_pos rfl, g6_8 hF, Option.bind_some, r15 hF hy, Option.bind_some, nI_1]
        refine ih _ (s + 1) hl' (by omega) (fun j hj => hsub j (List.mem_cons_of_mem _ hj)) (fun j hj => ?_)
        rcases hall j hj with z | z
        · rcases List.mem_cons.mp z with rfl | z
          · exact Or.inr (fun q => hr q.symm)
          · exact Or.inl z
        · exact Or.inr z
  rw [e_X8_firstAlike_0, c6 hF, g6_11 hF, Option.bind_some, r18 hF (by omega), Option.bind_some]
  exact scan l0 _ 0 b1 (by omega) (fun j hj => hj) (fun j hj => Or.inl hj)
end AL3
