/-! ALIKE in mathematics: beginnings by their places, the last one with the same rest -/
def nb (D : Dc) (k : Nat) : List Nat := ((begs D)[k]?).getD []
def rs (D : Dc) (k : Nat) : Dc := rest D (nb D k)
def repN (P : Nat → Bool) : Nat → Nat
  | 0 => 0
  | n + 1 => if P n = true then n else repN P n
theorem repN_ok {P : Nat → Bool} : ∀ {n k : Nat}, k < n → P k = true → repN P n < n ∧ P (repN P n) = true ∧ ∀ j, j < n → P j = true → j ≤ repN P n
  | 0, k, h, _ => by omega
  | n + 1, k, h, hk => by
    unfold repN
    by_cases hn : P n = true
    · rw [if_pos hn]
      exact ⟨by omega, hn, fun j hj _ => by omega⟩
    · rw [if_neg hn]
      have hkn : k < n := by
        have : k ≠ n := fun q => hn (q ▸ hk)
        omega
      obtain ⟨h1, h2, h3⟩ := repN_ok hkn hk
      refine ⟨by omega, h2, fun j hj hp => ?_⟩
      have : j ≠ n := fun q => hn (q ▸ hp)
      exact h3 j (by omega) hp
def repR (D : Dc) (r : Dc) : Nat := repN (fun j => decide (rs D j = r)) (begs D).length
def rep (D : Dc) (k : Nat) : Nat := repR D (rs D k)
theorem rep_ok {D : Dc} {k : Nat} (hk : k < (begs D).length) : rep D k < (begs D).length ∧ rs D (rep D k) = rs D k ∧ ∀ j, j < (begs D).length → rs D j = rs D k → j ≤ rep D k := by
  obtain ⟨h1, h2, h3⟩ := repN_ok (P := fun j => decide (rs D j = rs D k)) hk (by simp)
  exact ⟨h1, of_decide_eq_true h2, fun j hj hr => h3 j hj (decide_eq_true hr)⟩
theorem nb_get {D : Dc} {k : Nat} {b : List Nat} (h : (begs D)[k]? = some b) : nb D k = b := by unfold nb; rw [h]; rfl
theorem nb_some {D : Dc} {k : Nat} (h : k < (begs D).length) : (begs D)[k]? = some (nb D k) := by
  have : (begs D)[k]? = some (begs D)[k] := List.getElem?_eq_getElem h
  rw [nb_get this]; exact this
theorem nb_inj {D : Dc} (hs : srt D) {i j : Nat} (hi : i < (begs D).length) (hj : j < (begs D).length) (h : nb D i = nb D j) : i = j := nodup_get (begs_nd hs) (nb_some hi) (by rw [h]; exact nb_some hj)
theorem nb_of {D : Dc} {b : List Nat} (h : b ∈ begs D) : ∃ k, k < (begs D).length ∧ nb D k = b := by
  obtain ⟨k, hk⟩ := List.mem_iff_getElem?.mp h
  exact ⟨k, (List.getElem?_eq_some_iff.mp hk).1, nb_get hk⟩
theorem repR_ok {D : Dc} {b : List Nat} (h : b ∈ begs D) : repR D (rest D b) < (begs D).length ∧ rs D (repR D (rest D b)) = rest D b := by
  obtain ⟨k, hk, rfl⟩ := nb_of h
  obtain ⟨h1, h2, -⟩ := rep_ok hk
  exact ⟨h1, h2⟩
def kd (D : Dc) (b : List Nat) : List (Int32 × Int32 × Int64) := (hds D b).map (fun a => (nI a, nI (repR D (rest D (b ++ [a]))), lN (least D (b ++ [a]) - least D b)))
theorem kd_rest {D : Dc} (hs : srt D) {b c : List Nat} (h : rest D b = rest D c) : kd D b = kd D c := by
  obtain ⟨-, h2, h3⟩ := (rest_eq hs).mp h
  unfold kd
  rw [← h2]
  apply List.map_congr_left
  intro a ha
  obtain ⟨e1, e2⟩ := h3 a ha
  rw [e1, e2]
/-- what a dictionary's parts keep to -/
def okD (D : Dc) : Prop := srt D ∧ D.length ≤ 200 ∧ ∀ x ∈ D, x.1.length ≤ 12 ∧ (∀ s ∈ x.1, s < 256) ∧ x.2 ≤ 1000000000000
theorem hds_256 {D : Dc} (h : okD D) {b : List Nat} {a : Nat} (ha : a ∈ hds D b) : a < 256 := by
  obtain ⟨x, hx, hp⟩ := hds_mem.mp ha
  exact (h.2.2 x hx).2.1 a (List.mem_of_getElem? (snoc_pre.mp hp).2)
theorem hds_nd {D : Dc} {b : List Nat} : (hds D b).Nodup := ded_nodup List.nodup_nil
theorem hds_len {D : Dc} (h : okD D) {b : List Nat} : (hds D b).length ≤ 256 := by
  have := sub_len (R := List.range 256) (hds_nd (D := D) (b := b)) (fun a ha => List.mem_range.mpr (hds_256 h ha))
  rwa [List.length_range] at this
theorem least_hi {D : Dc} (h : okD D) {b : List Nat} : least D b ≤ 1000000000000 := by
  unfold least
  by_cases hm : (mem_b D b).map (fun x => x.2) = []
  · rw [hm]; decide
  · obtain ⟨x, hx, hxc⟩ := List.mem_map.mp (minO_mem hm)
    rw [← hxc]
    exact (h.2.2 x (mem_b_iff.mp hx).1).2.2
theorem begs_2401 {D : Dc} (h : okD D) : (begs D).length ≤ 2401 := by
  have := begs_len _ rfl (D := D) (fun x hx => (h.2.2 x hx).1)
  have := h.2.1
  omega
theorem rest_kd {D : Dc} (h : okD D) {b c : List Nat} (h1 : lastO D b = lastO D c) (h2 : kd D b = kd D c) : rest D b = rest D c := by
  have hn := begs_2401 h
  have hh : hds D b = hds D c := by
    have e : ∀ d, (kd D d).map (fun x => x.1.toNatClampNeg) = hds D d := fun d => by
      unfold kd
      rw [List.map_map]
      conv => rhs; rw [← List.map_id (hds D d)]
      apply List.map_congr_left
      intro a ha
      show (nI a).toNatClampNeg = a
      exact a_cl (by have := hds_256 h ha; omega)
    rw [← e b, ← e c, h2]
  refine (rest_eq h.1).mpr ⟨h1, hh, fun a ha => ?_⟩
  unfold kd at h2
  rw [← hh] at h2
  have hc := List.map_inj_left.mp h2 a ha
  rw [Prod.mk.injEq, Prod.mk.injEq] at hc
  obtain ⟨-, c1, c2⟩ := hc
  have hb1 : b ++ [a] ∈ begs D := hds_begs.mp ha
  have hb2 : c ++ [a] ∈ begs D := hds_begs.mp (hh ▸ ha)
  obtain ⟨p1, p2⟩ := repR_ok hb1
  obtain ⟨q1, q2⟩ := repR_ok hb2
  rw [c_eq (by omega) (by omega)] at c1
  have l1 := least_hi h (b := b ++ [a])
  have l2 := least_hi h (b := c ++ [a])
  rw [pk_lEQ (by omega) (by omega)] at c2
  refine ⟨?_, c2⟩
  rw [← p2, ← q2, c1]
theorem kd_lt {D : Dc} {b : List Nat} : (kd D b).length = (hds D b).length := by unfold kd; rw [List.length_map]
-- children by their places
def seg (q : Nat → Bool) (k n : Nat) : List Nat := (List.range' k (n - k)).filter q
theorem seg_step {q : Nat → Bool} {k n : Nat} (h : k < n) : seg q k n = if q k = true then k :: seg q (k + 1) n else seg q (k + 1) n := by
  unfold seg
  rw [show n - k = (n - (k + 1)) + 1 by omega, List.range'_succ]
  by_cases hq : q k = true
  · rw [if_pos hq, List.filter_cons_of_pos hq]
  · rw [if_neg hq, List.filter_cons_of_neg hq]
theorem seg_mem {q : Nat → Bool} {k n j : Nat} : j ∈ seg q k n ↔ k ≤ j ∧ j < n ∧ q j = true := by
  unfold seg
  rw [List.mem_filter, List.mem_range'_1]
  constructor
  · rintro ⟨⟨h1, h2⟩, h3⟩; exact ⟨h1, by omega, h3⟩
  · rintro ⟨h1, h2, h3⟩; exact ⟨⟨h1, by omega⟩, h3⟩
theorem seg_skip {q : Nat → Bool} {n : Nat} : ∀ {k}, k ≤ n → (∀ j, j < k → q j = false) → seg q 0 n = seg q k n
  | 0, _, _ => rfl
  | k + 1, hk, h => by
    rw [seg_skip (k := k) (by omega) (fun j hj => h j (by omega)), seg_step (by omega), h k (by omega)]
    simp
theorem seg_map {α : Type} {p : α → Bool} {d : α} : ∀ {l : List α}, ((List.range l.length).filter (fun j => p (l[j]?.getD d))).map (fun j => l[j]?.getD d) = l.filter p := by
  intro l
  have h1 : (List.range l.length).map (fun j => l[j]?.getD d) = l := by
    apply List.ext_getElem?
    intro i
    by_cases hi : i < l.length
    · rw [List.getElem?_map, List.getElem?_range hi, List.getElem?_eq_getElem hi]
      simp [hi]
    · rw [List.getElem?_eq_none (by simp; omega), List.getElem?_eq_none (by omega)]
  have h2 : (List.range l.length).filter (fun j => p (l[j]?.getD d)) = (List.range l.length).filter (p ∘ fun j => l[j]?.getD d) := rfl
  rw [h2, ← List.filter_map, h1]
def kidx (D : Dc) (p k : Nat) : List Nat := seg (fun j => isKid (nb D p) (nb D j)) k (begs D).length
theorem kidx_map {D : Dc} (hs : srt D) {p : Nat} : (kidx D p 0).map (nb D) = (hds D (nb D p)).map (fun a => nb D p ++ [a]) := by
  rw [← kids_hds hs]
  unfold kidx seg kids
  rw [Nat.sub_zero, ← List.range_eq_range']
  exact seg_map
