theorem kc_X11_walk : ab_okC b_X11_walk RX11 false m_X11_walk = true := by decide +kernel
theorem kf_X11_walk : ab_okF RX11 m_X11_walk = true := by decide +kernel
theorem mk_X11_walk (l : Launch) : mok l b_X11_walk RX11 false 3 72 m_X11_walk := ⟨okC_e kc_X11_walk, okF_e kf_X11_walk, List.forall_mem_cons.mpr ⟨Or.inl (cee_of kd_X11_isIn (by decide +kernel) (ct_X11_isIn l) rfl), List.forall_mem_cons.mpr ⟨Or.inl (cee_of kd_X11_isDictionary (by decide +kernel) (ct_X11_isDictionary l) rfl), List.forall_mem_cons.mpr ⟨Or.inl (cee_of kd_X11_forget (by decide +kernel) (ct_X11_forget l) rfl), List.forall_mem_cons.mpr ⟨Or.inl (cee_of kd_X11_compare (by decide +kernel) (ct_X11_compare l) rfl), List.forall_mem_cons.mpr ⟨Or.inl (cee_of kd_X11_above (by decide +kernel) (ct_X11_above l) rfl), fun _ h => absurd h List.not_mem_nil⟩⟩⟩⟩⟩⟩
theorem kd_X11_walk : ab_okY y_X11_walk b_X11_walk 6 (some .int) 1 4 11 = true := by decide +kernel
theorem ct_X11_walk (l : Launch) : ab_spec l y_X11_walk b_X11_walk 6 (some .int) 3 72 1 4 11 g_X11_walk := by
  intro as st k r h
  unfold g_X11_walk at h
  split at h
  · obtain ⟨x, t, hf, hk⟩ := ri_e h
    obtain ⟨hs, hf⟩ := rc_e hf
    obtain ⟨he, hc⟩ := ct_of (y := y_X11_walk) (ret := (some .int)) (rs := [.int x]) one_X11_walk (mk_X11_walk l) rfl (by decide +kernel) (fun h => by cases h) (Or.inr (Or.inl ⟨rfl, rfl⟩)) rfl (Nat.le_of_ble_eq_true rfl) rfl (Nat.le_of_ble_eq_true rfl) hf
    exact ⟨rfl, fun _ => ⟨_, _, rfl, hs⟩, _, t, hk, Nat.le_of_ble_eq_true rfl, he, hc⟩
  · cases h
theorem kc_X9_step : ab_okC b_X9_step RX9 false m_X9_step = true := by decide +kernel
theorem kf_X9_step : ab_okF RX9 m_X9_step = true := by decide +kernel
theorem mk_X9_step (l : Launch) : mok l b_X9_step RX9 false 0 0 m_X9_step := ⟨okC_e kc_X9_step, okF_e kf_X9_step, fun _ h => absurd h List.not_mem_nil⟩
theorem kd_X9_step : ab_okY y_X9_step b_X9_step 3 (some .int) 1 2 9 = true := by decide +kernel
theorem ct_X9_step (l : Launch) : ab_spec l y_X9_step b_X9_step 3 (some .int) 0 0 1 2 9 g_X9_step := by
  intro as st k r h
  unfold g_X9_step at h
  split at h
  · obtain ⟨x, t, hf, hk⟩ := ri_e h
    obtain ⟨hs, hf⟩ := rc_e hf
    obtain ⟨he, hc⟩ := ct_of (y := y_X9_step) (ret := (some .int)) (rs := [.int x]) one_X9_step (mk_X9_step l) rfl (by decide +kernel) (fun h => by cases h) (Or.inr (Or.inl ⟨rfl, rfl⟩)) rfl (Nat.le_of_ble_eq_true rfl) rfl (Nat.le_of_ble_eq_true rfl) hf
    exact ⟨rfl, fun _ => ⟨_, _, rfl, hs⟩, _, t, hk, Nat.le_of_ble_eq_true rfl, he, hc⟩
  · cases h
theorem kc_X10_next : ab_okC b_X10_next RX10 false m_X10_next = true := by decide +kernel
theorem kf_X10_next : ab_okF RX10 m_X10_next = true := by decide +kernel
theorem mk_X10_next (l : Launch) : mok l b_X10_next RX10 false 1 22 m_X10_next := ⟨okC_e kc_X10_next, okF_e kf_X10_next, List.forall_mem_cons.mpr ⟨Or.inl (cee_of kd_X10_isDictionary (by decide +kernel) (ct_X10_isDictionary l) rfl), List.forall_mem_cons.mpr ⟨Or.inl (cee_of kd_X10_isWalk (by decide +kernel) (ct_X10_isWalk l) rfl), List.forall_mem_cons.mpr ⟨Or.inl (cee_of kd_X9_step (by decide +kernel) (ct_X9_step l) rfl), fun _ h => absurd h List.not_mem_nil⟩⟩⟩⟩
theorem kd_X10_next : ab_okY y_X10_next b_X10_next 4 (some .int) 1 2 10 = true := by decide +kernel
theorem ct_X10_next (l : Launch) : ab_spec l y_X10_next b_X10_next 4 (some .int) 1 22 1 2 10 g_X10_next := by
  intro as st k r h
  unfold g_X10_next at h
  split at h
  · obtain ⟨x, t, hf, hk⟩ := ri_e h
    obtain ⟨hs, hf⟩ := rc_e hf
    obtain ⟨he, hc⟩ := ct_of (y := y_X10_next) (ret := (some .int)) (rs := [.int x]) one_X10_next (mk_X10_next l) rfl (by decide +kernel) (fun h => by cases h) (Or.inr (Or.inl ⟨rfl, rfl⟩)) rfl (Nat.le_of_ble_eq_true rfl) rfl (Nat.le_of_ble_eq_true rfl) hf
    exact ⟨rfl, fun _ => ⟨_, _, rfl, hs⟩, _, t, hk, Nat.le_of_ble_eq_true rfl, he, hc⟩
  · cases h
theorem kc_X11_next : ab_okC b_X11_next RX11 false m_X11_next = true := by decide +kernel
theorem kf_X11_next : ab_okF RX11 m_X11_next = true := by decide +kernel
theorem mk_X11_next (l : Launch) : mok l b_X11_next RX11 false 1 25 m_X11_next := ⟨okC_e kc_X11_next, okF_e kf_X11_next, List.forall_mem_cons.mpr ⟨Or.inl (cee_of kd_X11_isIn (by decide +kernel) (ct_X11_isIn l) rfl), fun _ h => absurd h List.not_mem_nil⟩⟩
theorem kd_X11_next : ab_okY y_X11_next b_X11_next 4 (some .int) 1 2 11 = true := by decide +kernel
theorem ct_X11_next (l : Launch) : ab_spec l y_X11_next b_X11_next 4 (some .int) 1 25 1 2 11 g_X11_next := by
  intro as st k r h
  unfold g_X11_next at h
  split at h
  · obtain ⟨x, t, hf, hk⟩ := ri_e h
    obtain ⟨hs, hf⟩ := rc_e hf
    obtain ⟨he, hc⟩ := ct_of (y := y_X11_next) (ret := (some .int)) (rs := [.int x]) one_X11_next (mk_X11_next l) rfl (by decide +kernel) (fun h => by cases h) (Or.inr (Or.inl ⟨rfl, rfl⟩)) rfl (Nat.le_of_ble_eq_true rfl) rfl (Nat.le_of_ble_eq_true rfl) hf
    exact ⟨rfl, fun _ => ⟨_, _, rfl, hs⟩, _, t, hk, Nat.le_of_ble_eq_true rfl, he, hc⟩
  · cases h
theorem kf_L_law : ab_okF RL m_L_law = true := by decide +kernel
theorem mk_L_law (l : Launch) : mok l code RL false 8 186 m_L_law := ⟨okC_e kc_L_law, okF_e kf_L_law, List.forall_mem_cons.mpr ⟨Or.inl (cee_of kd_X10_init (by decide +kernel) (ct_X10_init l) rfl), List.forall_mem_cons.mpr ⟨Or.inl (cee_of kd_X11_init (by decide +kernel) (ct_X11_init l) rfl), List.forall_mem_cons.mpr ⟨Or.inl (cee_of kd_X10_collect (by decide +kernel) (ct_X10_collect l) rfl), List.forall_mem_cons.mpr ⟨Or.inl (cee_of kd_X11_collect (by decide +kernel) (ct_X11_collect l) rfl), List.forall_mem_cons.mpr ⟨Or.inl (cee_of kd_X10_forget (by decide +kernel) (ct_X10_forget l) rfl), List.forall_mem_cons.mpr ⟨Or.inl (cee_of kd_X11_forget (by decide +kernel) (ct_X11_forget l) rfl), List.forall_mem_cons.mpr ⟨Or.inl (cee_of kd_X10_begin (by decide +kernel) (ct_X10_begin l) rfl), List.forall_mem_cons.mpr ⟨Or.inl (cee_of kd_X11_begin (by decide +kernel) (ct_X11_begin l) rfl), List.forall_mem_cons.mpr ⟨Or.inl (cee_of kd_X10_add (by decide +kernel) (ct_X10_add l) rfl), List.forall_mem_cons.mpr ⟨Or.inl (cee_of kd_X11_add (by decide +kernel) (ct_X11_add l) rfl), List.forall_mem_cons.mpr ⟨Or.inl (cee_of kd_X10_done (by decide +kernel) (ct_X10_done l) rfl), List.forall_mem_cons.mpr ⟨Or.inl (cee_of kd_X11_done (by decide +kernel) (ct_X11_done l) rfl), List.forall_mem_cons.mpr ⟨Or.inl (cee_of kd_X10_find (by decide +kernel) (ct_X10_find l) rfl), List.forall_mem_cons.mpr ⟨Or.inl (cee_of kd_X11_find (by decide +kernel) (ct_X11_find l) rfl), List.forall_mem_cons.mpr ⟨Or.inl (cee_of kd_X10_state (by decide +kernel) (ct_X10_state l) rfl), List.forall_mem_cons.mpr ⟨Or.inl (cee_of kd_X11_state (by decide +kernel) (ct_X11_state l) rfl), List.forall_mem_cons.mpr ⟨Or.inl (cee_of kd_X10_count (by decide +kernel) (ct_X10_count l) rfl), List.forall_mem_cons.mpr ⟨Or.inl (cee_of kd_X11_count (by decide +kernel) (ct_X11_count l) rfl), List.forall_mem_cons.mpr ⟨Or.inl (cee_of kd_X10_arc (by decide +kernel) (ct_X10_arc l) rfl), List.forall_mem_cons.mpr ⟨Or.inl (cee_of kd_X11_arc (by decide +kernel) (ct_X11_arc l) rfl), List.forall_mem_cons.mpr ⟨Or.inl (cee_of kd_X10_number (by decide +kernel) (ct_X10_number l) rfl), List.forall_mem_cons.mpr ⟨Or.inl (cee_of kd_X11_number (by decide +kernel) (ct_X11_number l) rfl), List.forall_mem_cons.mpr ⟨Or.inl (cee_of kd_X10_term (by decide +kernel) (ct_X10_term l) rfl), List.forall_mem_cons.mpr ⟨Or.inl (cee_of kd_X11_term (by decide +kernel) (ct_X11_term l) rfl), List.forall_mem_cons.mpr ⟨Or.inl (cee_of kd_X10_out (by decide +kernel) (ct_X10_out l) rfl), List.forall_mem_cons.mpr ⟨Or.inl (cee_of kd_X11_out (by decide +kernel) (ct_X11_out l) rfl), List.forall_mem_cons.mpr ⟨Or.inl (cee_of kd_X10_ceiling (by decide +kernel) (ct_X10_ceiling l) rfl), List.forall_mem_cons.mpr ⟨Or.inl (cee_of kd_X11_ceiling (by decide +kernel) (ct_X11_ceiling l) rfl), List.forall_mem_cons.mpr ⟨Or.inl (cee_of kd_X10_prefix (by decide +kernel) (ct_X10_prefix l) rfl), List.forall_mem_cons.mpr ⟨Or.inl (cee_of kd_X11_prefix (by decide +kernel) (ct_X11_prefix l) rfl), List.forall_mem_cons.mpr ⟨Or.inl (cee_of kd_X10_cheapest (by decide +kernel) (ct_X10_cheapest l) rfl), List.forall_mem_cons.mpr ⟨Or.inl (cee_of kd_X11_cheapest (by decide +kernel) (ct_X11_cheapest l) rfl), List.forall_mem_cons.mpr ⟨Or.inl (cee_of kd_X10_meet (by decide +kernel) (ct_X10_meet l) rfl), List.forall_mem_cons.mpr ⟨Or.inl (cee_of kd_X11_meet (by decide +kernel) (ct_X11_meet l) rfl), List.forall_mem_cons.mpr ⟨Or.inl (cee_of kd_X10_fault (by decide +kernel) (ct_X10_fault l) rfl), List.forall_mem_cons.mpr ⟨Or.inl (cee_of kd_X11_fault (by decide +kernel) (ct_X11_fault l) rfl), List.forall_mem_cons.mpr ⟨Or.inl (cee_of kd_X10_row (by decide +kernel) (ct_X10_row l) rfl), List.forall_mem_cons.mpr ⟨Or.inl (cee_of kd_X11_row (by decide +kernel) (ct_X11_row l) rfl), List.forall_mem_cons.mpr ⟨Or.inl (cee_of kd_X10_join (by decide +kernel) (ct_X10_join l) rfl), List.forall_mem_cons.mpr ⟨Or.inl (cee_of kd_X11_join (by decide +kernel) (ct_X11_join l) rfl), List.forall_mem_cons.mpr ⟨Or.inl (cee_of kd_X10_packed (by decide +kernel) (ct_X10_packed l) rfl), List.forall_mem_cons.mpr ⟨Or.inl (cee_of kd_X11_packed (by decide +kernel) (ct_X11_packed l) rfl), List.forall_mem_cons.mpr ⟨Or.inl (cee_of kd_X10_sign (by decide +kernel) (ct_X10_sign l) rfl), List.forall_mem_cons.mpr ⟨Or.inl (cee_of kd_X11_sign (by decide +kernel) (ct_X11_sign l) rfl), List.forall_mem_cons.mpr ⟨Or.inl (cee_of kd_X10_load (by decide +kernel) (ct_X10_load l) rfl), List.forall_mem_cons.mpr ⟨Or.inl (cee_of kd_X11_load (by decide +kernel) (ct_X11_load l) rfl), List.forall_mem_cons.mpr ⟨Or.inl (cee_of kd_X10_walk (by decide +kernel) (ct_X10_walk l) rfl), List.forall_mem_cons.mpr ⟨Or.inl (cee_of kd_X11_walk (by decide +kernel) (ct_X11_walk l) rfl), List.forall_mem_cons.mpr ⟨Or.inl (cee_of kd_X10_next (by decide +kernel) (ct_X10_next l) rfl), List.forall_mem_cons.mpr ⟨Or.inl (cee_of kd_X11_next (by decide +kernel) (ct_X11_next l) rfl), fun _ h => absurd h List.not_mem_nil⟩⟩⟩⟩⟩⟩⟩⟩⟩⟩⟩⟩⟩⟩⟩⟩⟩⟩⟩⟩⟩⟩⟩⟩⟩⟩⟩⟩⟩⟩⟩⟩⟩⟩⟩⟩⟩⟩⟩⟩⟩⟩⟩⟩⟩⟩⟩⟩⟩⟩⟩
