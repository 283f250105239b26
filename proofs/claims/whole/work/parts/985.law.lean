/-! THE LAW'S OWN TABLE, piece by piece (memory) -/
noncomputable def lw_okP : Nat × ab_I → Bool := fun q => decide (decode code q.1 = .ok (q.2.1, q.2.2.1)) && (ab_chk q.1 q.2.1 q.2.2.1 q.2.2.2.1 q.2.2.2.2 && ab_chk2 RL false m_L_law q.1 q.2.1 q.2.2.2.1)
theorem all_ch {α : Type} {P : α → Bool} {l : List α} {a n c : Nat} (h1 : ((l.drop a).take n).all P = true) (hc : a + n = c) (h2 : (l.drop c).all P = true) : (l.drop a).all P = true := by
  subst hc
  rw [← List.take_append_drop n (l.drop a), List.all_append, h1, List.drop_drop, h2]
  rfl
