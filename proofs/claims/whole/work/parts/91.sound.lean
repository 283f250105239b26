theorem kc_X10_add : ab_okC b_X10_add RX10 false m_X10_add = true := by decide +kernel
theorem kf_X10_add : ab_okF RX10 m_X10_add = true := by decide +kernel
theorem mk_X10_add (l : Launch) : mok l b_X10_add RX10 false 4 89 m_X10_add := ⟨okC_e kc_X10_add, okF_e kf_X10_add, List.forall_mem_cons.mpr ⟨Or.inl (cee_of kd_X10_takeCollected (by decide +kernel) (ct_X10_takeCollected l) rfl), List.forall_mem_cons.mpr ⟨Or.inl (cee_of kd_X10_isDictionary (by decide +kernel) (ct_X10_isDictionary l) rfl), List.forall_mem_cons.mpr ⟨Or.inl (cee_of kd_X7_compareWith (by decide +kernel) (ct_X7_compareWith l) rfl), List.forall_mem_cons.mpr ⟨Or.inl (cee_of kd_X7_append (by decide +kernel) (ct_X7_append l) rfl), fun _ h => absurd h List.not_mem_nil⟩⟩⟩⟩⟩
theorem kd_X10_add : ab_okY y_X10_add b_X10_add 6 (some .int) 1 3 10 = true := by decide +kernel
theorem ct_X10_add (l : Launch) : ab_spec l y_X10_add b_X10_add 6 (some .int) 4 89 1 3 10 g_X10_add := by
  intro as st k r h
  unfold g_X10_add at h
  split at h
  · obtain ⟨x, t, hf, hk⟩ := ri_e h
    obtain ⟨hs, hf⟩ := rc_e hf
    obtain ⟨he, hc⟩ := ct_of (y := y_X10_add) (ret := (some .int)) (rs := [.int x]) one_X10_add (mk_X10_add l) rfl (by decide +kernel) (fun h => by cases h) (Or.inr (Or.inl ⟨rfl, rfl⟩)) rfl (Nat.le_of_ble_eq_true rfl) rfl (Nat.le_of_ble_eq_true rfl) hf
    exact ⟨rfl, fun _ => ⟨_, _, rfl, hs⟩, _, t, hk, Nat.le_of_ble_eq_true rfl, he, hc⟩
  · cases h
theorem kc_X11_letter : ab_okC b_X11_letter RX11 false m_X11_letter = true := by decide +kernel
theorem kf_X11_letter : ab_okF RX11 m_X11_letter = true := by decide +kernel
theorem mk_X11_letter (l : Launch) : mok l b_X11_letter RX11 false 0 0 m_X11_letter := ⟨okC_e kc_X11_letter, okF_e kf_X11_letter, fun _ h => absurd h List.not_mem_nil⟩
theorem kd_X11_letter : ab_okY y_X11_letter b_X11_letter 4 (some .int) 1 4 11 = true := by decide +kernel
theorem ct_X11_letter (l : Launch) : ab_spec l y_X11_letter b_X11_letter 4 (some .int) 0 0 1 4 11 g_X11_letter := by
  intro as st k r h
  unfold g_X11_letter at h
  split at h
  · obtain ⟨x, t, hf, hk⟩ := ri_e h
    obtain ⟨hs, hf⟩ := rc_e hf
    obtain ⟨he, hc⟩ := ct_of (y := y_X11_letter) (ret := (some .int)) (rs := [.int x]) one_X11_letter (mk_X11_letter l) rfl (by decide +kernel) (fun h => by cases h) (Or.inr (Or.inl ⟨rfl, rfl⟩)) rfl (Nat.le_of_ble_eq_true rfl) rfl (Nat.le_of_ble_eq_true rfl) hf
    exact ⟨rfl, fun _ => ⟨_, _, rfl, hs⟩, _, t, hk, Nat.le_of_ble_eq_true rfl, he, hc⟩
  · cases h
theorem kc_X11_compare : ab_okC b_X11_compare RX11 false m_X11_compare = true := by decide +kernel
theorem kf_X11_compare : ab_okF RX11 m_X11_compare = true := by decide +kernel
theorem mk_X11_compare (l : Launch) : mok l b_X11_compare RX11 false 1 23 m_X11_compare := ⟨okC_e kc_X11_compare, okF_e kf_X11_compare, List.forall_mem_cons.mpr ⟨Or.inl (cee_of kd_X11_letter (by decide +kernel) (ct_X11_letter l) rfl), fun _ h => absurd h List.not_mem_nil⟩⟩
theorem kd_X11_compare : ab_okY y_X11_compare b_X11_compare 7 (some .int) 1 4 11 = true := by decide +kernel
theorem ct_X11_compare (l : Launch) : ab_spec l y_X11_compare b_X11_compare 7 (some .int) 1 23 1 4 11 g_X11_compare := by
  intro as st k r h
  unfold g_X11_compare at h
  split at h
  · obtain ⟨x, t, hf, hk⟩ := ri_e h
    obtain ⟨hs, hf⟩ := rc_e hf
    obtain ⟨he, hc⟩ := ct_of (y := y_X11_compare) (ret := (some .int)) (rs := [.int x]) one_X11_compare (mk_X11_compare l) rfl (by decide +kernel) (fun h => by cases h) (Or.inr (Or.inl ⟨rfl, rfl⟩)) rfl (Nat.le_of_ble_eq_true rfl) rfl (Nat.le_of_ble_eq_true rfl) hf
    exact ⟨rfl, fun _ => ⟨_, _, rfl, hs⟩, _, t, hk, Nat.le_of_ble_eq_true rfl, he, hc⟩
  · cases h
theorem kc_X11_append : ab_okC b_X11_append RX11 false m_X11_append = true := by decide +kernel
theorem kf_X11_append : ab_okF RX11 m_X11_append = true := by decide +kernel
theorem mk_X11_append (l : Launch) : mok l b_X11_append RX11 false 0 0 m_X11_append := ⟨okC_e kc_X11_append, okF_e kf_X11_append, fun _ h => absurd h List.not_mem_nil⟩
theorem kd_X11_append : ab_okY y_X11_append b_X11_append 9 none 1 6 11 = true := by decide +kernel
theorem ct_X11_append (l : Launch) : ab_spec l y_X11_append b_X11_append 9 none 0 0 1 6 11 g_X11_append := by
  intro as st k r h
  unfold g_X11_append at h
  split at h
  · obtain ⟨t, hf, hk⟩ := rv_e h
    obtain ⟨hs, hf⟩ := rc_e hf
    obtain ⟨he, hc⟩ := ct_of (y := y_X11_append) (ret := none) (rs := []) one_X11_append (mk_X11_append l) rfl (by decide +kernel) (fun h => by cases h) (Or.inl ⟨rfl, rfl⟩) rfl (Nat.le_of_ble_eq_true rfl) rfl (Nat.le_of_ble_eq_true rfl) hf
    exact ⟨rfl, fun _ => ⟨_, _, rfl, hs⟩, _, t, hk, Nat.le_of_ble_eq_true rfl, he, hc⟩
  · cases h
theorem kc_X11_add : ab_okC b_X11_add RX11 false m_X11_add = true := by decide +kernel
theorem kf_X11_add : ab_okF RX11 m_X11_add = true := by decide +kernel
theorem mk_X11_add (l : Launch) : mok l b_X11_add RX11 false 2 49 m_X11_add := ⟨okC_e kc_X11_add, okF_e kf_X11_add, List.forall_mem_cons.mpr ⟨Or.inl (cee_of kd_X11_isIn (by decide +kernel) (ct_X11_isIn l) rfl), List.forall_mem_cons.mpr ⟨Or.inl (cee_of kd_X11_isDictionary (by decide +kernel) (ct_X11_isDictionary l) rfl), List.forall_mem_cons.mpr ⟨Or.inl (cee_of kd_X11_forget (by decide +kernel) (ct_X11_forget l) rfl), List.forall_mem_cons.mpr ⟨Or.inl (cee_of kd_X11_compare (by decide +kernel) (ct_X11_compare l) rfl), List.forall_mem_cons.mpr ⟨Or.inl (cee_of kd_X11_append (by decide +kernel) (ct_X11_append l) rfl), fun _ h => absurd h List.not_mem_nil⟩⟩⟩⟩⟩⟩
theorem kd_X11_add : ab_okY y_X11_add b_X11_add 5 (some .int) 1 3 11 = true := by decide +kernel
theorem ct_X11_add (l : Launch) : ab_spec l y_X11_add b_X11_add 5 (some .int) 2 49 1 3 11 g_X11_add := by
  intro as st k r h
  unfold g_X11_add at h
  split at h
  · obtain ⟨x, t, hf, hk⟩ := ri_e h
    obtain ⟨hs, hf⟩ := rc_e hf
    obtain ⟨he, hc⟩ := ct_of (y := y_X11_add) (ret := (some .int)) (rs := [.int x]) one_X11_add (mk_X11_add l) rfl (by decide +kernel) (fun h => by cases h) (Or.inr (Or.inl ⟨rfl, rfl⟩)) rfl (Nat.le_of_ble_eq_true rfl) rfl (Nat.le_of_ble_eq_true rfl) hf
    exact ⟨rfl, fun _ => ⟨_, _, rfl, hs⟩, _, t, hk, Nat.le_of_ble_eq_true rfl, he, hc⟩
  · cases h
theorem kc_X8_grow : ab_okC b_X8_grow RX8 false m_X8_grow = true := by decide +kernel
theorem kf_X8_grow : ab_okF RX8 m_X8_grow = true := by decide +kernel
theorem mk_X8_grow (l : Launch) : mok l b_X8_grow RX8 false 1 23 m_X8_grow := ⟨okC_e kc_X8_grow, okF_e kf_X8_grow, List.forall_mem_cons.mpr ⟨Or.inr (Or.inr ⟨rfl, Nat.le_of_ble_eq_true rfl, Nat.le_of_ble_eq_true rfl, Or.inr (Or.inl ⟨rfl, rfl, by decide +kernel⟩)⟩), fun _ h => absurd h List.not_mem_nil⟩⟩
theorem kd_X8_grow : ab_okY y_X8_grow b_X8_grow 6 (some .int) 1 4 8 = true := by decide +kernel
theorem ct_X8_grow (l : Launch) : ab_spec l y_X8_grow b_X8_grow 6 (some .int) 1 23 1 4 8 g_X8_grow := by
  intro as st k r h
  unfold g_X8_grow at h
  split at h
  · obtain ⟨x, t, hf, hk⟩ := ri_e h
    obtain ⟨hs, hf⟩ := rc_e hf
    obtain ⟨he, hc⟩ := ct_of (y := y_X8_grow) (ret := (some .int)) (rs := [.int x]) one_X8_grow (mk_X8_grow l) rfl (by decide +kernel) (fun h => by cases h) (Or.inr (Or.inl ⟨rfl, rfl⟩)) rfl (Nat.le_of_ble_eq_true rfl) rfl (Nat.le_of_ble_eq_true rfl) hf
    exact ⟨rfl, fun _ => ⟨_, _, rfl, hs⟩, _, t, hk, Nat.le_of_ble_eq_true rfl, he, hc⟩
  · cases h
theorem kc_X8_sharedWithLast : ab_okC b_X8_sharedWithLast RX8 false m_X8_sharedWithLast = true := by decide +kernel
theorem kf_X8_sharedWithLast : ab_okF RX8 m_X8_sharedWithLast = true := by decide +kernel
theorem mk_X8_sharedWithLast (l : Launch) : mok l b_X8_sharedWithLast RX8 false 3 64 m_X8_sharedWithLast := ⟨okC_e kc_X8_sharedWithLast, okF_e kf_X8_sharedWithLast, List.forall_mem_cons.mpr ⟨Or.inl (cee_of kd_X7_signAt (by decide +kernel) (ct_X7_signAt l) rfl), fun _ h => absurd h List.not_mem_nil⟩⟩
theorem kd_X8_sharedWithLast : ab_okY y_X8_sharedWithLast b_X8_sharedWithLast 4 (some .int) 0 3 8 = true := by decide +kernel
theorem ct_X8_sharedWithLast (l : Launch) : ab_spec l y_X8_sharedWithLast b_X8_sharedWithLast 4 (some .int) 3 64 0 3 8 g_X8_sharedWithLast := by
  intro as st k r h
  unfold g_X8_sharedWithLast at h
  split at h
  · obtain ⟨x, t, hf, hk⟩ := ri_e h
    obtain ⟨he, hc⟩ := ct_of (y := y_X8_sharedWithLast) (ret := (some .int)) (rs := [.int x]) one_X8_sharedWithLast (mk_X8_sharedWithLast l) rfl (by decide +kernel) (fun h => by cases h) (Or.inr (Or.inl ⟨rfl, rfl⟩)) rfl (Nat.le_of_ble_eq_true rfl) rfl (Nat.le_of_ble_eq_true rfl) hf
    exact ⟨rfl, fun h => absurd rfl h, _, t, hk, Nat.le_of_ble_eq_true rfl, he, hc⟩
  · cases h
theorem kc_X7_outAt : ab_okC b_X7_outAt RX7 false m_X7_outAt = true := by decide +kernel
theorem kf_X7_outAt : ab_okF RX7 m_X7_outAt = true := by decide +kernel
theorem mk_X7_outAt (l : Launch) : mok l b_X7_outAt RX7 false 1 21 m_X7_outAt := ⟨okC_e kc_X7_outAt, okF_e kf_X7_outAt, List.forall_mem_cons.mpr ⟨Or.inl (cee_of kd_X7_has (by decide +kernel) (ct_X7_has l) rfl), fun _ h => absurd h List.not_mem_nil⟩⟩
theorem kd_X7_outAt : ab_okY y_X7_outAt b_X7_outAt 2 (some .long) 1 2 7 = true := by decide +kernel
theorem ct_X7_outAt (l : Launch) : ab_spec l y_X7_outAt b_X7_outAt 2 (some .long) 1 21 1 2 7 g_X7_outAt := by
  intro as st k r h
  unfold g_X7_outAt at h
  split at h
  · obtain ⟨x, t, hf, hk⟩ := rl_e h
    obtain ⟨hs, hf⟩ := rc_e hf
    obtain ⟨he, hc⟩ := ct_of (y := y_X7_outAt) (ret := (some .long)) (rs := [.long x]) one_X7_outAt (mk_X7_outAt l) rfl (by decide +kernel) (fun h => by cases h) (Or.inr (Or.inr (Or.inr (Or.inl ⟨rfl, rfl⟩)))) rfl (Nat.le_of_ble_eq_true rfl) rfl (Nat.le_of_ble_eq_true rfl) hf
    exact ⟨rfl, fun _ => ⟨_, _, rfl, hs⟩, _, t, hk, Nat.le_of_ble_eq_true rfl, he, hc⟩
  · cases h
theorem kc_X8_countAlongPath : ab_okC b_X8_countAlongPath RX8 false m_X8_countAlongPath = true := by decide +kernel
theorem kf_X8_countAlongPath : ab_okF RX8 m_X8_countAlongPath = true := by decide +kernel
theorem mk_X8_countAlongPath (l : Launch) : mok l b_X8_countAlongPath RX8 false 1 23 m_X8_countAlongPath := ⟨okC_e kc_X8_countAlongPath, okF_e kf_X8_countAlongPath, List.forall_mem_cons.mpr ⟨Or.inr (Or.inr ⟨rfl, Nat.le_of_ble_eq_true rfl, Nat.le_of_ble_eq_true rfl, Or.inr (Or.inr (Or.inr ⟨rfl, rfl, by decide +kernel⟩))⟩), fun _ h => absurd h List.not_mem_nil⟩⟩
theorem kd_X8_countAlongPath : ab_okY y_X8_countAlongPath b_X8_countAlongPath 6 none 1 3 8 = true := by decide +kernel
theorem ct_X8_countAlongPath (l : Launch) : ab_spec l y_X8_countAlongPath b_X8_countAlongPath 6 none 1 23 1 3 8 g_X8_countAlongPath := by
  intro as st k r h
  unfold g_X8_countAlongPath at h
  split at h
  · obtain ⟨t, hf, hk⟩ := rv_e h
    obtain ⟨hs, hf⟩ := rc_e hf
    obtain ⟨he, hc⟩ := ct_of (y := y_X8_countAlongPath) (ret := none) (rs := []) one_X8_countAlongPath (mk_X8_countAlongPath l) rfl (by decide +kernel) (fun h => by cases h) (Or.inl ⟨rfl, rfl⟩) rfl (Nat.le_of_ble_eq_true rfl) rfl (Nat.le_of_ble_eq_true rfl) hf
    exact ⟨rfl, fun _ => ⟨_, _, rfl, hs⟩, _, t, hk, Nat.le_of_ble_eq_true rfl, he, hc⟩
  · cases h
theorem kc_X8_plant : ab_okC b_X8_plant RX8 false m_X8_plant = true := by decide +kernel
theorem kf_X8_plant : ab_okF RX8 m_X8_plant = true := by decide +kernel
theorem mk_X8_plant (l : Launch) : mok l b_X8_plant RX8 false 4 87 m_X8_plant := ⟨okC_e kc_X8_plant, okF_e kf_X8_plant, List.forall_mem_cons.mpr ⟨Or.inl (cee_of kd_X8_grow (by decide +kernel) (ct_X8_grow l) rfl), List.forall_mem_cons.mpr ⟨Or.inl (cee_of kd_X7_lengthAt (by decide +kernel) (ct_X7_lengthAt l) rfl), List.forall_mem_cons.mpr ⟨Or.inr (Or.inr ⟨rfl, Nat.le_of_ble_eq_true rfl, Nat.le_of_ble_eq_true rfl, Or.inr (Or.inl ⟨rfl, rfl, by decide +kernel⟩)⟩), List.forall_mem_cons.mpr ⟨Or.inl (cee_of kd_X8_sharedWithLast (by decide +kernel) (ct_X8_sharedWithLast l) rfl), List.forall_mem_cons.mpr ⟨Or.inl (cee_of kd_X7_signAt (by decide +kernel) (ct_X7_signAt l) rfl), List.forall_mem_cons.mpr ⟨Or.inl (cee_of kd_X7_outAt (by decide +kernel) (ct_X7_outAt l) rfl), List.forall_mem_cons.mpr ⟨Or.inl (cee_of kd_X8_countAlongPath (by decide +kernel) (ct_X8_countAlongPath l) rfl), fun _ h => absurd h List.not_mem_nil⟩⟩⟩⟩⟩⟩⟩⟩
theorem kd_X8_plant : ab_okY y_X8_plant b_X8_plant 5 none 1 2 8 = true := by decide +kernel
theorem ct_X8_plant (l : Launch) : ab_spec l y_X8_plant b_X8_plant 5 none 4 87 1 2 8 g_X8_plant := by
  intro as st k r h
  unfold g_X8_plant at h
  split at h
  · obtain ⟨t, hf, hk⟩ := rv_e h
    obtain ⟨hs, hf⟩ := rc_e hf
    obtain ⟨he, hc⟩ := ct_of (y := y_X8_plant) (ret := none) (rs := []) one_X8_plant (mk_X8_plant l) rfl (by decide +kernel) (fun h => by cases h) (Or.inl ⟨rfl, rfl⟩) rfl (Nat.le_of_ble_eq_true rfl) rfl (Nat.le_of_ble_eq_true rfl) hf
    exact ⟨rfl, fun _ => ⟨_, _, rfl, hs⟩, _, t, hk, Nat.le_of_ble_eq_true rfl, he, hc⟩
  · cases h
theorem kc_X8_lastOutput : ab_okC b_X8_lastOutput RX8 false m_X8_lastOutput = true := by decide +kernel
theorem kf_X8_lastOutput : ab_okF RX8 m_X8_lastOutput = true := by decide +kernel
theorem mk_X8_lastOutput (l : Launch) : mok l b_X8_lastOutput RX8 false 0 0 m_X8_lastOutput := ⟨okC_e kc_X8_lastOutput, okF_e kf_X8_lastOutput, fun _ h => absurd h List.not_mem_nil⟩
theorem kd_X8_lastOutput : ab_okY y_X8_lastOutput b_X8_lastOutput 2 (some .long) 1 2 8 = true := by decide +kernel
theorem ct_X8_lastOutput (l : Launch) : ab_spec l y_X8_lastOutput b_X8_lastOutput 2 (some .long) 0 0 1 2 8 g_X8_lastOutput := by
  intro as st k r h
  unfold g_X8_lastOutput at h
  split at h
  · obtain ⟨x, t, hf, hk⟩ := rl_e h
    obtain ⟨hs, hf⟩ := rc_e hf
    obtain ⟨he, hc⟩ := ct_of (y := y_X8_lastOutput) (ret := (some .long)) (rs := [.long x]) one_X8_lastOutput (mk_X8_lastOutput l) rfl (by decide +kernel) (fun h => by cases h) (Or.inr (Or.inr (Or.inr (Or.inl ⟨rfl, rfl⟩)))) rfl (Nat.le_of_ble_eq_true rfl) rfl (Nat.le_of_ble_eq_true rfl) hf
    exact ⟨rfl, fun _ => ⟨_, _, rfl, hs⟩, _, t, hk, Nat.le_of_ble_eq_true rfl, he, hc⟩
  · cases h
theorem kc_X8_output : ab_okC b_X8_output RX8 false m_X8_output = true := by decide +kernel
theorem kf_X8_output : ab_okF RX8 m_X8_output = true := by decide +kernel
theorem mk_X8_output (l : Launch) : mok l b_X8_output RX8 false 0 0 m_X8_output := ⟨okC_e kc_X8_output, okF_e kf_X8_output, fun _ h => absurd h List.not_mem_nil⟩
theorem kd_X8_output : ab_okY y_X8_output b_X8_output 3 (some .long) 1 3 8 = true := by decide +kernel
theorem ct_X8_output (l : Launch) : ab_spec l y_X8_output b_X8_output 3 (some .long) 0 0 1 3 8 g_X8_output := by
  intro as st k r h
  unfold g_X8_output at h
  split at h
  · obtain ⟨x, t, hf, hk⟩ := rl_e h
    obtain ⟨hs, hf⟩ := rc_e hf
    obtain ⟨he, hc⟩ := ct_of (y := y_X8_output) (ret := (some .long)) (rs := [.long x]) one_X8_output (mk_X8_output l) rfl (by decide +kernel) (fun h => by cases h) (Or.inr (Or.inr (Or.inr (Or.inl ⟨rfl, rfl⟩)))) rfl (Nat.le_of_ble_eq_true rfl) rfl (Nat.le_of_ble_eq_true rfl) hf
    exact ⟨rfl, fun _ => ⟨_, _, rfl, hs⟩, _, t, hk, Nat.le_of_ble_eq_true rfl, he, hc⟩
  · cases h
theorem kc_X8_mixed : ab_okC b_X8_mixed RX8 false m_X8_mixed = true := by decide +kernel
theorem kf_X8_mixed : ab_okF RX8 m_X8_mixed = true := by decide +kernel
theorem mk_X8_mixed (l : Launch) : mok l b_X8_mixed RX8 false 1 22 m_X8_mixed := ⟨okC_e kc_X8_mixed, okF_e kf_X8_mixed, List.forall_mem_cons.mpr ⟨Or.inl (cee_of kd_X8_lastOutput (by decide +kernel) (ct_X8_lastOutput l) rfl), List.forall_mem_cons.mpr ⟨Or.inl (cee_of kd_X8_output (by decide +kernel) (ct_X8_output l) rfl), fun _ h => absurd h List.not_mem_nil⟩⟩⟩
theorem kd_X8_mixed : ab_okY y_X8_mixed b_X8_mixed 6 (some .int) 1 2 8 = true := by decide +kernel
theorem ct_X8_mixed (l : Launch) : ab_spec l y_X8_mixed b_X8_mixed 6 (some .int) 1 22 1 2 8 g_X8_mixed := by
  intro as st k r h
  unfold g_X8_mixed at h
  split at h
  · obtain ⟨x, t, hf, hk⟩ := ri_e h
    obtain ⟨hs, hf⟩ := rc_e hf
    obtain ⟨he, hc⟩ := ct_of (y := y_X8_mixed) (ret := (some .int)) (rs := [.int x]) one_X8_mixed (mk_X8_mixed l) rfl (by decide +kernel) (fun h => by cases h) (Or.inr (Or.inl ⟨rfl, rfl⟩)) rfl (Nat.le_of_ble_eq_true rfl) rfl (Nat.le_of_ble_eq_true rfl) hf
    exact ⟨rfl, fun _ => ⟨_, _, rfl, hs⟩, _, t, hk, Nat.le_of_ble_eq_true rfl, he, hc⟩
  · cases h
theorem kc_X8_haveSameRest : ab_okC b_X8_haveSameRest RX8 false m_X8_haveSameRest = true := by decide +kernel
theorem kf_X8_haveSameRest : ab_okF RX8 m_X8_haveSameRest = true := by decide +kernel
theorem mk_X8_haveSameRest (l : Launch) : mok l b_X8_haveSameRest RX8 false 1 22 m_X8_haveSameRest := ⟨okC_e kc_X8_haveSameRest, okF_e kf_X8_haveSameRest, List.forall_mem_cons.mpr ⟨Or.inl (cee_of kd_X8_lastOutput (by decide +kernel) (ct_X8_lastOutput l) rfl), List.forall_mem_cons.mpr ⟨Or.inl (cee_of kd_X8_output (by decide +kernel) (ct_X8_output l) rfl), fun _ h => absurd h List.not_mem_nil⟩⟩⟩
theorem kd_X8_haveSameRest : ab_okY y_X8_haveSameRest b_X8_haveSameRest 6 (some .boolean) 1 3 8 = true := by decide +kernel
theorem ct_X8_haveSameRest (l : Launch) : ab_spec l y_X8_haveSameRest b_X8_haveSameRest 6 (some .boolean) 1 22 1 3 8 g_X8_haveSameRest := by
  intro as st k r h
  unfold g_X8_haveSameRest at h
  split at h
  · obtain ⟨x, t, hf, hk⟩ := ri_e h
    obtain ⟨hs, hf⟩ := rc_e hf
    obtain ⟨he, hc⟩ := ct_of (y := y_X8_haveSameRest) (ret := (some .boolean)) (rs := [.int x]) one_X8_haveSameRest (mk_X8_haveSameRest l) rfl (by decide +kernel) (fun h => by cases h) (Or.inr (Or.inr (Or.inl ⟨rfl, rfl⟩))) rfl (Nat.le_of_ble_eq_true rfl) rfl (Nat.le_of_ble_eq_true rfl) hf
    exact ⟨rfl, fun _ => ⟨_, _, rfl, hs⟩, _, t, hk, Nat.le_of_ble_eq_true rfl, he, hc⟩
  · cases h
theorem kc_X8_firstAlike : ab_okC b_X8_firstAlike RX8 false m_X8_firstAlike = true := by decide +kernel
theorem kf_X8_firstAlike : ab_okF RX8 m_X8_firstAlike = true := by decide +kernel
theorem mk_X8_firstAlike (l : Launch) : mok l b_X8_firstAlike RX8 false 2 47 m_X8_firstAlike := ⟨okC_e kc_X8_firstAlike, okF_e kf_X8_firstAlike, List.forall_mem_cons.mpr ⟨Or.inl (cee_of kd_X8_haveSameRest (by decide +kernel) (ct_X8_haveSameRest l) rfl), fun _ h => absurd h List.not_mem_nil⟩⟩
theorem kd_X8_firstAlike : ab_okY y_X8_firstAlike b_X8_firstAlike 5 (some .int) 1 3 8 = true := by decide +kernel
theorem ct_X8_firstAlike (l : Launch) : ab_spec l y_X8_firstAlike b_X8_firstAlike 5 (some .int) 2 47 1 3 8 g_X8_firstAlike := by
  intro as st k r h
  unfold g_X8_firstAlike at h
  split at h
  · obtain ⟨x, t, hf, hk⟩ := ri_e h
    obtain ⟨hs, hf⟩ := rc_e hf
    obtain ⟨he, hc⟩ := ct_of (y := y_X8_firstAlike) (ret := (some .int)) (rs := [.int x]) one_X8_firstAlike (mk_X8_firstAlike l) rfl (by decide +kernel) (fun h => by cases h) (Or.inr (Or.inl ⟨rfl, rfl⟩)) rfl (Nat.le_of_ble_eq_true rfl) rfl (Nat.le_of_ble_eq_true rfl) hf
    exact ⟨rfl, fun _ => ⟨_, _, rfl, hs⟩, _, t, hk, Nat.le_of_ble_eq_true rfl, he, hc⟩
  · cases h
theorem kc_X8_findAlike : ab_okC b_X8_findAlike RX8 false m_X8_findAlike = true := by decide +kernel
theorem kf_X8_findAlike : ab_okF RX8 m_X8_findAlike = true := by decide +kernel
theorem mk_X8_findAlike (l : Launch) : mok l b_X8_findAlike RX8 false 3 71 m_X8_findAlike := ⟨okC_e kc_X8_findAlike, okF_e kf_X8_findAlike, List.forall_mem_cons.mpr ⟨Or.inl (cee_of kd_X8_mixed (by decide +kernel) (ct_X8_mixed l) rfl), List.forall_mem_cons.mpr ⟨Or.inl (cee_of kd_X8_firstAlike (by decide +kernel) (ct_X8_firstAlike l) rfl), fun _ h => absurd h List.not_mem_nil⟩⟩⟩
theorem kd_X8_findAlike : ab_okY y_X8_findAlike b_X8_findAlike 4 none 1 1 8 = true := by decide +kernel
theorem ct_X8_findAlike (l : Launch) : ab_spec l y_X8_findAlike b_X8_findAlike 4 none 3 71 1 1 8 g_X8_findAlike := by
  intro as st k r h
  unfold g_X8_findAlike at h
  split at h
  · obtain ⟨t, hf, hk⟩ := rv_e h
    obtain ⟨hs, hf⟩ := rc_e hf
    obtain ⟨he, hc⟩ := ct_of (y := y_X8_findAlike) (ret := none) (rs := []) one_X8_findAlike (mk_X8_findAlike l) rfl (by decide +kernel) (fun h => by cases h) (Or.inl ⟨rfl, rfl⟩) rfl (Nat.le_of_ble_eq_true rfl) rfl (Nat.le_of_ble_eq_true rfl) hf
    exact ⟨rfl, fun _ => ⟨_, _, rfl, hs⟩, _, t, hk, Nat.le_of_ble_eq_true rfl, he, hc⟩
  · cases h
theorem kc_X8_numberStates : ab_okC b_X8_numberStates RX8 false m_X8_numberStates = true := by decide +kernel
theorem kf_X8_numberStates : ab_okF RX8 m_X8_numberStates = true := by decide +kernel
theorem mk_X8_numberStates (l : Launch) : mok l b_X8_numberStates RX8 false 0 0 m_X8_numberStates := ⟨okC_e kc_X8_numberStates, okF_e kf_X8_numberStates, fun _ h => absurd h List.not_mem_nil⟩
theorem kd_X8_numberStates : ab_okY y_X8_numberStates b_X8_numberStates 3 none 1 1 8 = true := by decide +kernel
theorem ct_X8_numberStates (l : Launch) : ab_spec l y_X8_numberStates b_X8_numberStates 3 none 0 0 1 1 8 g_X8_numberStates := by
  intro as st k r h
  unfold g_X8_numberStates at h
  split at h
  · obtain ⟨t, hf, hk⟩ := rv_e h
    obtain ⟨hs, hf⟩ := rc_e hf
    obtain ⟨he, hc⟩ := ct_of (y := y_X8_numberStates) (ret := none) (rs := []) one_X8_numberStates (mk_X8_numberStates l) rfl (by decide +kernel) (fun h => by cases h) (Or.inl ⟨rfl, rfl⟩) rfl (Nat.le_of_ble_eq_true rfl) rfl (Nat.le_of_ble_eq_true rfl) hf
    exact ⟨rfl, fun _ => ⟨_, _, rfl, hs⟩, _, t, hk, Nat.le_of_ble_eq_true rfl, he, hc⟩
  · cases h
theorem kc_X1_putArc : ab_okC b_X1_putArc RX1 false m_X1_putArc = true := by decide +kernel
theorem kf_X1_putArc : ab_okF RX1 m_X1_putArc = true := by decide +kernel
theorem mk_X1_putArc (l : Launch) : mok l b_X1_putArc RX1 false 0 0 m_X1_putArc := ⟨okC_e kc_X1_putArc, okF_e kf_X1_putArc, fun _ h => absurd h List.not_mem_nil⟩
theorem kd_X1_putArc : ab_okY y_X1_putArc b_X1_putArc 5 (some .boolean) 1 4 1 = true := by decide +kernel
theorem ct_X1_putArc (l : Launch) : ab_spec l y_X1_putArc b_X1_putArc 5 (some .boolean) 0 0 1 4 1 g_X1_putArc := by
  intro as st k r h
  unfold g_X1_putArc at h
  split at h
  · obtain ⟨x, t, hf, hk⟩ := ri_e h
    obtain ⟨hs, hf⟩ := rc_e hf
    obtain ⟨he, hc⟩ := ct_of (y := y_X1_putArc) (ret := (some .boolean)) (rs := [.int x]) one_X1_putArc (mk_X1_putArc l) rfl (by decide +kernel) (fun h => by cases h) (Or.inr (Or.inr (Or.inl ⟨rfl, rfl⟩))) rfl (Nat.le_of_ble_eq_true rfl) rfl (Nat.le_of_ble_eq_true rfl) hf
    exact ⟨rfl, fun _ => ⟨_, _, rfl, hs⟩, _, t, hk, Nat.le_of_ble_eq_true rfl, he, hc⟩
  · cases h
theorem kc_X8_draw : ab_okC b_X8_draw RX8 false m_X8_draw = true := by decide +kernel
theorem kf_X8_draw : ab_okF RX8 m_X8_draw = true := by decide +kernel
theorem mk_X8_draw (l : Launch) : mok l b_X8_draw RX8 false 1 24 m_X8_draw := ⟨okC_e kc_X8_draw, okF_e kf_X8_draw, List.forall_mem_cons.mpr ⟨Or.inl (cee_of kd_X8_lastOutput (by decide +kernel) (ct_X8_lastOutput l) rfl), List.forall_mem_cons.mpr ⟨Or.inl (cee_of kd_X8_output (by decide +kernel) (ct_X8_output l) rfl), List.forall_mem_cons.mpr ⟨Or.inl (cee_of kd_X1_clear (by decide +kernel) (ct_X1_clear l) rfl), List.forall_mem_cons.mpr ⟨Or.inl (cee_of kd_X1_putState (by decide +kernel) (ct_X1_putState l) rfl), List.forall_mem_cons.mpr ⟨Or.inl (cee_of kd_X1_putArc (by decide +kernel) (ct_X1_putArc l) rfl), fun _ h => absurd h List.not_mem_nil⟩⟩⟩⟩⟩⟩
theorem kd_X8_draw : ab_okY y_X8_draw b_X8_draw 6 none 1 2 8 = true := by decide +kernel
theorem ct_X8_draw (l : Launch) : ab_spec l y_X8_draw b_X8_draw 6 none 1 24 1 2 8 g_X8_draw := by
  intro as st k r h
  unfold g_X8_draw at h
  split at h
  · obtain ⟨t, hf, hk⟩ := rv_e h
    obtain ⟨hs, hf⟩ := rc_e hf
    obtain ⟨he, hc⟩ := ct_of (y := y_X8_draw) (ret := none) (rs := []) one_X8_draw (mk_X8_draw l) rfl (by decide +kernel) (fun h => by cases h) (Or.inl ⟨rfl, rfl⟩) rfl (Nat.le_of_ble_eq_true rfl) rfl (Nat.le_of_ble_eq_true rfl) hf
    exact ⟨rfl, fun _ => ⟨_, _, rfl, hs⟩, _, t, hk, Nat.le_of_ble_eq_true rfl, he, hc⟩
  · cases h
theorem kc_X8_build : ab_okC b_X8_build RX8 false m_X8_build = true := by decide +kernel
theorem kf_X8_build : ab_okF RX8 m_X8_build = true := by decide +kernel
theorem mk_X8_build (l : Launch) : mok l b_X8_build RX8 false 5 111 m_X8_build := ⟨okC_e kc_X8_build, okF_e kf_X8_build, List.forall_mem_cons.mpr ⟨Or.inl (cee_of kd_X8_plant (by decide +kernel) (ct_X8_plant l) rfl), List.forall_mem_cons.mpr ⟨Or.inl (cee_of kd_X8_findAlike (by decide +kernel) (ct_X8_findAlike l) rfl), List.forall_mem_cons.mpr ⟨Or.inl (cee_of kd_X8_numberStates (by decide +kernel) (ct_X8_numberStates l) rfl), List.forall_mem_cons.mpr ⟨Or.inl (cee_of kd_X8_draw (by decide +kernel) (ct_X8_draw l) rfl), fun _ h => absurd h List.not_mem_nil⟩⟩⟩⟩⟩
theorem kd_X8_build : ab_okY y_X8_build b_X8_build 2 none 1 2 8 = true := by decide +kernel
theorem ct_X8_build (l : Launch) : ab_spec l y_X8_build b_X8_build 2 none 5 111 1 2 8 g_X8_build := by
  intro as st k r h
  unfold g_X8_build at h
  split at h
  · obtain ⟨t, hf, hk⟩ := rv_e h
    obtain ⟨hs, hf⟩ := rc_e hf
    obtain ⟨he, hc⟩ := ct_of (y := y_X8_build) (ret := none) (rs := []) one_X8_build (mk_X8_build l) rfl (by decide +kernel) (fun h => by cases h) (Or.inl ⟨rfl, rfl⟩) rfl (Nat.le_of_ble_eq_true rfl) rfl (Nat.le_of_ble_eq_true rfl) hf
    exact ⟨rfl, fun _ => ⟨_, _, rfl, hs⟩, _, t, hk, Nat.le_of_ble_eq_true rfl, he, hc⟩
  · cases h
theorem kc_X10_done : ab_okC b_X10_done RX10 false m_X10_done = true := by decide +kernel
theorem kf_X10_done : ab_okF RX10 m_X10_done = true := by decide +kernel
theorem mk_X10_done (l : Launch) : mok l b_X10_done RX10 false 6 132 m_X10_done := ⟨okC_e kc_X10_done, okF_e kf_X10_done, List.forall_mem_cons.mpr ⟨Or.inl (cee_of kd_X10_isDictionary (by decide +kernel) (ct_X10_isDictionary l) rfl), List.forall_mem_cons.mpr ⟨Or.inl (cee_of kd_X8_build (by decide +kernel) (ct_X8_build l) rfl), fun _ h => absurd h List.not_mem_nil⟩⟩⟩
theorem kd_X10_done : ab_okY y_X10_done b_X10_done 3 (some .int) 1 2 10 = true := by decide +kernel
theorem ct_X10_done (l : Launch) : ab_spec l y_X10_done b_X10_done 3 (some .int) 6 132 1 2 10 g_X10_done := by
  intro as st k r h
  unfold g_X10_done at h
  split at h
  · obtain ⟨x, t, hf, hk⟩ := ri_e h
    obtain ⟨hs, hf⟩ := rc_e hf
    obtain ⟨he, hc⟩ := ct_of (y := y_X10_done) (ret := (some .int)) (rs := [.int x]) one_X10_done (mk_X10_done l) rfl (by decide +kernel) (fun h => by cases h) (Or.inr (Or.inl ⟨rfl, rfl⟩)) rfl (Nat.le_of_ble_eq_true rfl) rfl (Nat.le_of_ble_eq_true rfl) hf
    exact ⟨rfl, fun _ => ⟨_, _, rfl, hs⟩, _, t, hk, Nat.le_of_ble_eq_true rfl, he, hc⟩
  · cases h
