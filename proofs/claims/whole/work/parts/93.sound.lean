theorem kc_X11_isFinal : ab_okC b_X11_isFinal RX11 false m_X11_isFinal = true := by decide +kernel
theorem kf_X11_isFinal : ab_okF RX11 m_X11_isFinal = true := by decide +kernel
theorem mk_X11_isFinal (l : Launch) : mok l b_X11_isFinal RX11 false 0 0 m_X11_isFinal := ⟨okC_e kc_X11_isFinal, okF_e kf_X11_isFinal, fun _ h => absurd h List.not_mem_nil⟩
theorem kd_X11_isFinal : ab_okY y_X11_isFinal b_X11_isFinal 3 (some .boolean) 1 3 11 = true := by decide +kernel
theorem ct_X11_isFinal (l : Launch) : ab_spec l y_X11_isFinal b_X11_isFinal 3 (some .boolean) 0 0 1 3 11 g_X11_isFinal := by
  intro as st k r h
  unfold g_X11_isFinal at h
  split at h
  · obtain ⟨x, t, hf, hk⟩ := ri_e h
    obtain ⟨hs, hf⟩ := rc_e hf
    obtain ⟨he, hc⟩ := ct_of (y := y_X11_isFinal) (ret := (some .boolean)) (rs := [.int x]) one_X11_isFinal (mk_X11_isFinal l) rfl (by decide +kernel) (fun h => by cases h) (Or.inr (Or.inr (Or.inl ⟨rfl, rfl⟩))) rfl (Nat.le_of_ble_eq_true rfl) rfl (Nat.le_of_ble_eq_true rfl) hf
    exact ⟨rfl, fun _ => ⟨_, _, rfl, hs⟩, _, t, hk, Nat.le_of_ble_eq_true rfl, he, hc⟩
  · cases h
theorem kc_X11_beginningOf : ab_okC b_X11_beginningOf RX11 false m_X11_beginningOf = true := by decide +kernel
theorem kf_X11_beginningOf : ab_okF RX11 m_X11_beginningOf = true := by decide +kernel
theorem mk_X11_beginningOf (l : Launch) : mok l b_X11_beginningOf RX11 false 0 0 m_X11_beginningOf := ⟨okC_e kc_X11_beginningOf, okF_e kf_X11_beginningOf, fun _ h => absurd h List.not_mem_nil⟩
theorem kd_X11_beginningOf : ab_okY y_X11_beginningOf b_X11_beginningOf 5 (some .int) 1 4 11 = true := by decide +kernel
theorem ct_X11_beginningOf (l : Launch) : ab_spec l y_X11_beginningOf b_X11_beginningOf 5 (some .int) 0 0 1 4 11 g_X11_beginningOf := by
  intro as st k r h
  unfold g_X11_beginningOf at h
  split at h
  · obtain ⟨x, t, hf, hk⟩ := ri_e h
    obtain ⟨hs, hf⟩ := rc_e hf
    obtain ⟨he, hc⟩ := ct_of (y := y_X11_beginningOf) (ret := (some .int)) (rs := [.int x]) one_X11_beginningOf (mk_X11_beginningOf l) rfl (by decide +kernel) (fun h => by cases h) (Or.inr (Or.inl ⟨rfl, rfl⟩)) rfl (Nat.le_of_ble_eq_true rfl) rfl (Nat.le_of_ble_eq_true rfl) hf
    exact ⟨rfl, fun _ => ⟨_, _, rfl, hs⟩, _, t, hk, Nat.le_of_ble_eq_true rfl, he, hc⟩
  · cases h
theorem kc_X11_child : ab_okC b_X11_child RX11 false m_X11_child = true := by decide +kernel
theorem kf_X11_child : ab_okF RX11 m_X11_child = true := by decide +kernel
theorem mk_X11_child (l : Launch) : mok l b_X11_child RX11 false 1 24 m_X11_child := ⟨okC_e kc_X11_child, okF_e kf_X11_child, List.forall_mem_cons.mpr ⟨Or.inl (cee_of kd_X11_letter (by decide +kernel) (ct_X11_letter l) rfl), List.forall_mem_cons.mpr ⟨Or.inl (cee_of kd_X11_isFinal (by decide +kernel) (ct_X11_isFinal l) rfl), List.forall_mem_cons.mpr ⟨Or.inl (cee_of kd_X11_beginningOf (by decide +kernel) (ct_X11_beginningOf l) rfl), fun _ h => absurd h List.not_mem_nil⟩⟩⟩⟩
theorem kd_X11_child : ab_okY y_X11_child b_X11_child 7 (some .int) 1 4 11 = true := by decide +kernel
theorem ct_X11_child (l : Launch) : ab_spec l y_X11_child b_X11_child 7 (some .int) 1 24 1 4 11 g_X11_child := by
  intro as st k r h
  unfold g_X11_child at h
  split at h
  · obtain ⟨x, t, hf, hk⟩ := ri_e h
    obtain ⟨hs, hf⟩ := rc_e hf
    obtain ⟨he, hc⟩ := ct_of (y := y_X11_child) (ret := (some .int)) (rs := [.int x]) one_X11_child (mk_X11_child l) rfl (by decide +kernel) (fun h => by cases h) (Or.inr (Or.inl ⟨rfl, rfl⟩)) rfl (Nat.le_of_ble_eq_true rfl) rfl (Nat.le_of_ble_eq_true rfl) hf
    exact ⟨rfl, fun _ => ⟨_, _, rfl, hs⟩, _, t, hk, Nat.le_of_ble_eq_true rfl, he, hc⟩
  · cases h
theorem kc_X11_children : ab_okC b_X11_children RX11 false m_X11_children = true := by decide +kernel
theorem kf_X11_children : ab_okF RX11 m_X11_children = true := by decide +kernel
theorem mk_X11_children (l : Launch) : mok l b_X11_children RX11 false 2 50 m_X11_children := ⟨okC_e kc_X11_children, okF_e kf_X11_children, List.forall_mem_cons.mpr ⟨Or.inl (cee_of kd_X11_child (by decide +kernel) (ct_X11_child l) rfl), fun _ h => absurd h List.not_mem_nil⟩⟩
theorem kd_X11_children : ab_okY y_X11_children b_X11_children 4 (some .int) 1 3 11 = true := by decide +kernel
theorem ct_X11_children (l : Launch) : ab_spec l y_X11_children b_X11_children 4 (some .int) 2 50 1 3 11 g_X11_children := by
  intro as st k r h
  unfold g_X11_children at h
  split at h
  · obtain ⟨x, t, hf, hk⟩ := ri_e h
    obtain ⟨hs, hf⟩ := rc_e hf
    obtain ⟨he, hc⟩ := ct_of (y := y_X11_children) (ret := (some .int)) (rs := [.int x]) one_X11_children (mk_X11_children l) rfl (by decide +kernel) (fun h => by cases h) (Or.inr (Or.inl ⟨rfl, rfl⟩)) rfl (Nat.le_of_ble_eq_true rfl) rfl (Nat.le_of_ble_eq_true rfl) hf
    exact ⟨rfl, fun _ => ⟨_, _, rfl, hs⟩, _, t, hk, Nat.le_of_ble_eq_true rfl, he, hc⟩
  · cases h
theorem kc_X11_greater : ab_okC b_X11_greater RX11 false m_X11_greater = true := by decide +kernel
theorem kf_X11_greater : ab_okF RX11 m_X11_greater = true := by decide +kernel
theorem mk_X11_greater (l : Launch) : mok l b_X11_greater RX11 false 0 0 m_X11_greater := ⟨okC_e kc_X11_greater, okF_e kf_X11_greater, fun _ h => absurd h List.not_mem_nil⟩
theorem kd_X11_greater : ab_okY y_X11_greater b_X11_greater 4 (some .long) 0 2 11 = true := by decide +kernel
theorem ct_X11_greater (l : Launch) : ab_spec l y_X11_greater b_X11_greater 4 (some .long) 0 0 0 2 11 g_X11_greater := by
  intro as st k r h
  unfold g_X11_greater at h
  split at h
  · obtain ⟨x, t, hf, hk⟩ := rl_e h
    obtain ⟨he, hc⟩ := ct_of (y := y_X11_greater) (ret := (some .long)) (rs := [.long x]) one_X11_greater (mk_X11_greater l) rfl (by decide +kernel) (fun h => by cases h) (Or.inr (Or.inr (Or.inr (Or.inl ⟨rfl, rfl⟩)))) rfl (Nat.le_of_ble_eq_true rfl) rfl (Nat.le_of_ble_eq_true rfl) hf
    exact ⟨rfl, fun h => absurd rfl h, _, t, hk, Nat.le_of_ble_eq_true rfl, he, hc⟩
  · cases h
theorem kc_X11_count : ab_okC b_X11_count RX11 false m_X11_count = true := by decide +kernel
theorem kf_X11_count : ab_okF RX11 m_X11_count = true := by decide +kernel
theorem mk_X11_count (l : Launch) : mok l b_X11_count RX11 false 3 79 m_X11_count := ⟨okC_e kc_X11_count, okF_e kf_X11_count, List.forall_mem_cons.mpr ⟨Or.inl (cee_of kd_X11_isIn (by decide +kernel) (ct_X11_isIn l) rfl), List.forall_mem_cons.mpr ⟨Or.inl (cee_of kd_X11_isDictionary (by decide +kernel) (ct_X11_isDictionary l) rfl), List.forall_mem_cons.mpr ⟨Or.inl (cee_of kd_X11_build (by decide +kernel) (ct_X11_build l) rfl), List.forall_mem_cons.mpr ⟨Or.inl (cee_of kd_X11_isFinal (by decide +kernel) (ct_X11_isFinal l) rfl), List.forall_mem_cons.mpr ⟨Or.inl (cee_of kd_X11_children (by decide +kernel) (ct_X11_children l) rfl), List.forall_mem_cons.mpr ⟨Or.inl (cee_of kd_X11_greater (by decide +kernel) (ct_X11_greater l) rfl), fun _ h => absurd h List.not_mem_nil⟩⟩⟩⟩⟩⟩⟩
theorem kd_X11_count : ab_okY y_X11_count b_X11_count 5 (some .int) 1 3 11 = true := by decide +kernel
theorem ct_X11_count (l : Launch) : ab_spec l y_X11_count b_X11_count 5 (some .int) 3 79 1 3 11 g_X11_count := by
  intro as st k r h
  unfold g_X11_count at h
  split at h
  · obtain ⟨x, t, hf, hk⟩ := ri_e h
    obtain ⟨hs, hf⟩ := rc_e hf
    obtain ⟨he, hc⟩ := ct_of (y := y_X11_count) (ret := (some .int)) (rs := [.int x]) one_X11_count (mk_X11_count l) rfl (by decide +kernel) (fun h => by cases h) (Or.inr (Or.inl ⟨rfl, rfl⟩)) rfl (Nat.le_of_ble_eq_true rfl) rfl (Nat.le_of_ble_eq_true rfl) hf
    exact ⟨rfl, fun _ => ⟨_, _, rfl, hs⟩, _, t, hk, Nat.le_of_ble_eq_true rfl, he, hc⟩
  · cases h
theorem kc_X1_tellState : ab_okC b_X1_tellState RX1 false m_X1_tellState = true := by decide +kernel
theorem kf_X1_tellState : ab_okF RX1 m_X1_tellState = true := by decide +kernel
theorem mk_X1_tellState (l : Launch) : mok l b_X1_tellState RX1 false 2 42 m_X1_tellState := ⟨okC_e kc_X1_tellState, okF_e kf_X1_tellState, List.forall_mem_cons.mpr ⟨Or.inl (cee_of kd_X1_has (by decide +kernel) (ct_X1_has l) rfl), List.forall_mem_cons.mpr ⟨Or.inl (cee_of kd_X1_arcsOf (by decide +kernel) (ct_X1_arcsOf l) rfl), fun _ h => absurd h List.not_mem_nil⟩⟩⟩
theorem kd_X1_tellState : ab_okY y_X1_tellState b_X1_tellState 3 (some .long) 1 3 1 = true := by decide +kernel
theorem ct_X1_tellState (l : Launch) : ab_spec l y_X1_tellState b_X1_tellState 3 (some .long) 2 42 1 3 1 g_X1_tellState := by
  intro as st k r h
  unfold g_X1_tellState at h
  split at h
  · obtain ⟨x, t, hf, hk⟩ := rl_e h
    obtain ⟨hs, hf⟩ := rc_e hf
    obtain ⟨he, hc⟩ := ct_of (y := y_X1_tellState) (ret := (some .long)) (rs := [.long x]) one_X1_tellState (mk_X1_tellState l) rfl (by decide +kernel) (fun h => by cases h) (Or.inr (Or.inr (Or.inr (Or.inl ⟨rfl, rfl⟩)))) rfl (Nat.le_of_ble_eq_true rfl) rfl (Nat.le_of_ble_eq_true rfl) hf
    exact ⟨rfl, fun _ => ⟨_, _, rfl, hs⟩, _, t, hk, Nat.le_of_ble_eq_true rfl, he, hc⟩
  · cases h
theorem kc_X10_arc : ab_okC b_X10_arc RX10 false m_X10_arc = true := by decide +kernel
theorem kf_X10_arc : ab_okF RX10 m_X10_arc = true := by decide +kernel
theorem mk_X10_arc (l : Launch) : mok l b_X10_arc RX10 false 4 88 m_X10_arc := ⟨okC_e kc_X10_arc, okF_e kf_X10_arc, List.forall_mem_cons.mpr ⟨Or.inl (cee_of kd_X10_isDictionary (by decide +kernel) (ct_X10_isDictionary l) rfl), List.forall_mem_cons.mpr ⟨Or.inl (cee_of kd_X1_tellState (by decide +kernel) (ct_X1_tellState l) rfl), List.forall_mem_cons.mpr ⟨Or.inl (cee_of kd_X1_tellArc (by decide +kernel) (ct_X1_tellArc l) rfl), fun _ h => absurd h List.not_mem_nil⟩⟩⟩⟩
theorem kd_X10_arc : ab_okY y_X10_arc b_X10_arc 7 (some .long) 1 5 10 = true := by decide +kernel
theorem ct_X10_arc (l : Launch) : ab_spec l y_X10_arc b_X10_arc 7 (some .long) 4 88 1 5 10 g_X10_arc := by
  intro as st k r h
  unfold g_X10_arc at h
  split at h
  · obtain ⟨x, t, hf, hk⟩ := rl_e h
    obtain ⟨hs, hf⟩ := rc_e hf
    obtain ⟨he, hc⟩ := ct_of (y := y_X10_arc) (ret := (some .long)) (rs := [.long x]) one_X10_arc (mk_X10_arc l) rfl (by decide +kernel) (fun h => by cases h) (Or.inr (Or.inr (Or.inr (Or.inl ⟨rfl, rfl⟩)))) rfl (Nat.le_of_ble_eq_true rfl) rfl (Nat.le_of_ble_eq_true rfl) hf
    exact ⟨rfl, fun _ => ⟨_, _, rfl, hs⟩, _, t, hk, Nat.le_of_ble_eq_true rfl, he, hc⟩
  · cases h
theorem kc_X11_arc : ab_okC b_X11_arc RX11 false m_X11_arc = true := by decide +kernel
theorem kf_X11_arc : ab_okF RX11 m_X11_arc = true := by decide +kernel
theorem mk_X11_arc (l : Launch) : mok l b_X11_arc RX11 false 3 79 m_X11_arc := ⟨okC_e kc_X11_arc, okF_e kf_X11_arc, List.forall_mem_cons.mpr ⟨Or.inl (cee_of kd_X11_isIn (by decide +kernel) (ct_X11_isIn l) rfl), List.forall_mem_cons.mpr ⟨Or.inl (cee_of kd_X11_letter (by decide +kernel) (ct_X11_letter l) rfl), List.forall_mem_cons.mpr ⟨Or.inl (cee_of kd_X11_isDictionary (by decide +kernel) (ct_X11_isDictionary l) rfl), List.forall_mem_cons.mpr ⟨Or.inl (cee_of kd_X11_build (by decide +kernel) (ct_X11_build l) rfl), List.forall_mem_cons.mpr ⟨Or.inl (cee_of kd_X11_isFinal (by decide +kernel) (ct_X11_isFinal l) rfl), List.forall_mem_cons.mpr ⟨Or.inl (cee_of kd_X11_child (by decide +kernel) (ct_X11_child l) rfl), List.forall_mem_cons.mpr ⟨Or.inl (cee_of kd_X11_children (by decide +kernel) (ct_X11_children l) rfl), fun _ h => absurd h List.not_mem_nil⟩⟩⟩⟩⟩⟩⟩⟩
theorem kd_X11_arc : ab_okY y_X11_arc b_X11_arc 7 (some .long) 1 5 11 = true := by decide +kernel
theorem ct_X11_arc (l : Launch) : ab_spec l y_X11_arc b_X11_arc 7 (some .long) 3 79 1 5 11 g_X11_arc := by
  intro as st k r h
  unfold g_X11_arc at h
  split at h
  · obtain ⟨x, t, hf, hk⟩ := rl_e h
    obtain ⟨hs, hf⟩ := rc_e hf
    obtain ⟨he, hc⟩ := ct_of (y := y_X11_arc) (ret := (some .long)) (rs := [.long x]) one_X11_arc (mk_X11_arc l) rfl (by decide +kernel) (fun h => by cases h) (Or.inr (Or.inr (Or.inr (Or.inl ⟨rfl, rfl⟩)))) rfl (Nat.le_of_ble_eq_true rfl) rfl (Nat.le_of_ble_eq_true rfl) hf
    exact ⟨rfl, fun _ => ⟨_, _, rfl, hs⟩, _, t, hk, Nat.le_of_ble_eq_true rfl, he, hc⟩
  · cases h
theorem kc_X10_number : ab_okC b_X10_number RX10 false m_X10_number = true := by decide +kernel
theorem kf_X10_number : ab_okF RX10 m_X10_number = true := by decide +kernel
theorem mk_X10_number (l : Launch) : mok l b_X10_number RX10 false 6 136 m_X10_number := ⟨okC_e kc_X10_number, okF_e kf_X10_number, List.forall_mem_cons.mpr ⟨Or.inl (cee_of kd_X10_takeCollected (by decide +kernel) (ct_X10_takeCollected l) rfl), List.forall_mem_cons.mpr ⟨Or.inl (cee_of kd_X10_isDictionary (by decide +kernel) (ct_X10_isDictionary l) rfl), List.forall_mem_cons.mpr ⟨Or.inl (cee_of kd_X7_numberOf (by decide +kernel) (ct_X7_numberOf l) rfl), fun _ h => absurd h List.not_mem_nil⟩⟩⟩⟩
theorem kd_X10_number : ab_okY y_X10_number b_X10_number 4 (some .int) 1 2 10 = true := by decide +kernel
theorem ct_X10_number (l : Launch) : ab_spec l y_X10_number b_X10_number 4 (some .int) 6 136 1 2 10 g_X10_number := by
  intro as st k r h
  unfold g_X10_number at h
  split at h
  · obtain ⟨x, t, hf, hk⟩ := ri_e h
    obtain ⟨hs, hf⟩ := rc_e hf
    obtain ⟨he, hc⟩ := ct_of (y := y_X10_number) (ret := (some .int)) (rs := [.int x]) one_X10_number (mk_X10_number l) rfl (by decide +kernel) (fun h => by cases h) (Or.inr (Or.inl ⟨rfl, rfl⟩)) rfl (Nat.le_of_ble_eq_true rfl) rfl (Nat.le_of_ble_eq_true rfl) hf
    exact ⟨rfl, fun _ => ⟨_, _, rfl, hs⟩, _, t, hk, Nat.le_of_ble_eq_true rfl, he, hc⟩
  · cases h
theorem kc_X11_number : ab_okC b_X11_number RX11 false m_X11_number = true := by decide +kernel
theorem kf_X11_number : ab_okF RX11 m_X11_number = true := by decide +kernel
theorem mk_X11_number (l : Launch) : mok l b_X11_number RX11 false 3 72 m_X11_number := ⟨okC_e kc_X11_number, okF_e kf_X11_number, List.forall_mem_cons.mpr ⟨Or.inl (cee_of kd_X11_isDictionary (by decide +kernel) (ct_X11_isDictionary l) rfl), List.forall_mem_cons.mpr ⟨Or.inl (cee_of kd_X11_forget (by decide +kernel) (ct_X11_forget l) rfl), List.forall_mem_cons.mpr ⟨Or.inl (cee_of kd_X11_place (by decide +kernel) (ct_X11_place l) rfl), fun _ h => absurd h List.not_mem_nil⟩⟩⟩⟩
theorem kd_X11_number : ab_okY y_X11_number b_X11_number 3 (some .int) 1 2 11 = true := by decide +kernel
theorem ct_X11_number (l : Launch) : ab_spec l y_X11_number b_X11_number 3 (some .int) 3 72 1 2 11 g_X11_number := by
  intro as st k r h
  unfold g_X11_number at h
  split at h
  · obtain ⟨x, t, hf, hk⟩ := ri_e h
    obtain ⟨hs, hf⟩ := rc_e hf
    obtain ⟨he, hc⟩ := ct_of (y := y_X11_number) (ret := (some .int)) (rs := [.int x]) one_X11_number (mk_X11_number l) rfl (by decide +kernel) (fun h => by cases h) (Or.inr (Or.inl ⟨rfl, rfl⟩)) rfl (Nat.le_of_ble_eq_true rfl) rfl (Nat.le_of_ble_eq_true rfl) hf
    exact ⟨rfl, fun _ => ⟨_, _, rfl, hs⟩, _, t, hk, Nat.le_of_ble_eq_true rfl, he, hc⟩
  · cases h
theorem kc_X10_term : ab_okC b_X10_term RX10 false m_X10_term = true := by decide +kernel
theorem kf_X10_term : ab_okF RX10 m_X10_term = true := by decide +kernel
theorem mk_X10_term (l : Launch) : mok l b_X10_term RX10 false 3 64 m_X10_term := ⟨okC_e kc_X10_term, okF_e kf_X10_term, List.forall_mem_cons.mpr ⟨Or.inl (cee_of kd_X10_isDictionary (by decide +kernel) (ct_X10_isDictionary l) rfl), List.forall_mem_cons.mpr ⟨Or.inl (cee_of kd_X7_lengthAt (by decide +kernel) (ct_X7_lengthAt l) rfl), List.forall_mem_cons.mpr ⟨Or.inl (cee_of kd_X7_signAt (by decide +kernel) (ct_X7_signAt l) rfl), fun _ h => absurd h List.not_mem_nil⟩⟩⟩⟩
theorem kd_X10_term : ab_okY y_X10_term b_X10_term 5 (some .int) 1 4 10 = true := by decide +kernel
theorem ct_X10_term (l : Launch) : ab_spec l y_X10_term b_X10_term 5 (some .int) 3 64 1 4 10 g_X10_term := by
  intro as st k r h
  unfold g_X10_term at h
  split at h
  · obtain ⟨x, t, hf, hk⟩ := ri_e h
    obtain ⟨hs, hf⟩ := rc_e hf
    obtain ⟨he, hc⟩ := ct_of (y := y_X10_term) (ret := (some .int)) (rs := [.int x]) one_X10_term (mk_X10_term l) rfl (by decide +kernel) (fun h => by cases h) (Or.inr (Or.inl ⟨rfl, rfl⟩)) rfl (Nat.le_of_ble_eq_true rfl) rfl (Nat.le_of_ble_eq_true rfl) hf
    exact ⟨rfl, fun _ => ⟨_, _, rfl, hs⟩, _, t, hk, Nat.le_of_ble_eq_true rfl, he, hc⟩
  · cases h
theorem kc_X11_term : ab_okC b_X11_term RX11 false m_X11_term = true := by decide +kernel
theorem kf_X11_term : ab_okF RX11 m_X11_term = true := by decide +kernel
theorem mk_X11_term (l : Launch) : mok l b_X11_term RX11 false 2 45 m_X11_term := ⟨okC_e kc_X11_term, okF_e kf_X11_term, List.forall_mem_cons.mpr ⟨Or.inl (cee_of kd_X11_isIn (by decide +kernel) (ct_X11_isIn l) rfl), List.forall_mem_cons.mpr ⟨Or.inl (cee_of kd_X11_letter (by decide +kernel) (ct_X11_letter l) rfl), List.forall_mem_cons.mpr ⟨Or.inl (cee_of kd_X11_isDictionary (by decide +kernel) (ct_X11_isDictionary l) rfl), fun _ h => absurd h List.not_mem_nil⟩⟩⟩⟩
theorem kd_X11_term : ab_okY y_X11_term b_X11_term 4 (some .int) 1 4 11 = true := by decide +kernel
theorem ct_X11_term (l : Launch) : ab_spec l y_X11_term b_X11_term 4 (some .int) 2 45 1 4 11 g_X11_term := by
  intro as st k r h
  unfold g_X11_term at h
  split at h
  · obtain ⟨x, t, hf, hk⟩ := ri_e h
    obtain ⟨hs, hf⟩ := rc_e hf
    obtain ⟨he, hc⟩ := ct_of (y := y_X11_term) (ret := (some .int)) (rs := [.int x]) one_X11_term (mk_X11_term l) rfl (by decide +kernel) (fun h => by cases h) (Or.inr (Or.inl ⟨rfl, rfl⟩)) rfl (Nat.le_of_ble_eq_true rfl) rfl (Nat.le_of_ble_eq_true rfl) hf
    exact ⟨rfl, fun _ => ⟨_, _, rfl, hs⟩, _, t, hk, Nat.le_of_ble_eq_true rfl, he, hc⟩
  · cases h
theorem kc_X10_out : ab_okC b_X10_out RX10 false m_X10_out = true := by decide +kernel
theorem kf_X10_out : ab_okF RX10 m_X10_out = true := by decide +kernel
theorem mk_X10_out (l : Launch) : mok l b_X10_out RX10 false 2 42 m_X10_out := ⟨okC_e kc_X10_out, okF_e kf_X10_out, List.forall_mem_cons.mpr ⟨Or.inl (cee_of kd_X10_isDictionary (by decide +kernel) (ct_X10_isDictionary l) rfl), List.forall_mem_cons.mpr ⟨Or.inl (cee_of kd_X7_outAt (by decide +kernel) (ct_X7_outAt l) rfl), fun _ h => absurd h List.not_mem_nil⟩⟩⟩
theorem kd_X10_out : ab_okY y_X10_out b_X10_out 3 (some .long) 1 3 10 = true := by decide +kernel
theorem ct_X10_out (l : Launch) : ab_spec l y_X10_out b_X10_out 3 (some .long) 2 42 1 3 10 g_X10_out := by
  intro as st k r h
  unfold g_X10_out at h
  split at h
  · obtain ⟨x, t, hf, hk⟩ := rl_e h
    obtain ⟨hs, hf⟩ := rc_e hf
    obtain ⟨he, hc⟩ := ct_of (y := y_X10_out) (ret := (some .long)) (rs := [.long x]) one_X10_out (mk_X10_out l) rfl (by decide +kernel) (fun h => by cases h) (Or.inr (Or.inr (Or.inr (Or.inl ⟨rfl, rfl⟩)))) rfl (Nat.le_of_ble_eq_true rfl) rfl (Nat.le_of_ble_eq_true rfl) hf
    exact ⟨rfl, fun _ => ⟨_, _, rfl, hs⟩, _, t, hk, Nat.le_of_ble_eq_true rfl, he, hc⟩
  · cases h
theorem kc_X11_out : ab_okC b_X11_out RX11 false m_X11_out = true := by decide +kernel
theorem kf_X11_out : ab_okF RX11 m_X11_out = true := by decide +kernel
theorem mk_X11_out (l : Launch) : mok l b_X11_out RX11 false 2 45 m_X11_out := ⟨okC_e kc_X11_out, okF_e kf_X11_out, List.forall_mem_cons.mpr ⟨Or.inl (cee_of kd_X11_isIn (by decide +kernel) (ct_X11_isIn l) rfl), List.forall_mem_cons.mpr ⟨Or.inl (cee_of kd_X11_isDictionary (by decide +kernel) (ct_X11_isDictionary l) rfl), fun _ h => absurd h List.not_mem_nil⟩⟩⟩
theorem kd_X11_out : ab_okY y_X11_out b_X11_out 3 (some .long) 1 3 11 = true := by decide +kernel
theorem ct_X11_out (l : Launch) : ab_spec l y_X11_out b_X11_out 3 (some .long) 2 45 1 3 11 g_X11_out := by
  intro as st k r h
  unfold g_X11_out at h
  split at h
  · obtain ⟨x, t, hf, hk⟩ := rl_e h
    obtain ⟨hs, hf⟩ := rc_e hf
    obtain ⟨he, hc⟩ := ct_of (y := y_X11_out) (ret := (some .long)) (rs := [.long x]) one_X11_out (mk_X11_out l) rfl (by decide +kernel) (fun h => by cases h) (Or.inr (Or.inr (Or.inr (Or.inl ⟨rfl, rfl⟩)))) rfl (Nat.le_of_ble_eq_true rfl) rfl (Nat.le_of_ble_eq_true rfl) hf
    exact ⟨rfl, fun _ => ⟨_, _, rfl, hs⟩, _, t, hk, Nat.le_of_ble_eq_true rfl, he, hc⟩
  · cases h
theorem kc_X10_ceiling : ab_okC b_X10_ceiling RX10 false m_X10_ceiling = true := by decide +kernel
theorem kf_X10_ceiling : ab_okF RX10 m_X10_ceiling = true := by decide +kernel
theorem mk_X10_ceiling (l : Launch) : mok l b_X10_ceiling RX10 false 5 114 m_X10_ceiling := ⟨okC_e kc_X10_ceiling, okF_e kf_X10_ceiling, List.forall_mem_cons.mpr ⟨Or.inl (cee_of kd_X10_takeCollected (by decide +kernel) (ct_X10_takeCollected l) rfl), List.forall_mem_cons.mpr ⟨Or.inl (cee_of kd_X10_isDictionary (by decide +kernel) (ct_X10_isDictionary l) rfl), List.forall_mem_cons.mpr ⟨Or.inl (cee_of kd_X7_leastNotBelow (by decide +kernel) (ct_X7_leastNotBelow l) rfl), fun _ h => absurd h List.not_mem_nil⟩⟩⟩⟩
theorem kd_X10_ceiling : ab_okY y_X10_ceiling b_X10_ceiling 5 (some .int) 1 2 10 = true := by decide +kernel
theorem ct_X10_ceiling (l : Launch) : ab_spec l y_X10_ceiling b_X10_ceiling 5 (some .int) 5 114 1 2 10 g_X10_ceiling := by
  intro as st k r h
  unfold g_X10_ceiling at h
  split at h
  · obtain ⟨x, t, hf, hk⟩ := ri_e h
    obtain ⟨hs, hf⟩ := rc_e hf
    obtain ⟨he, hc⟩ := ct_of (y := y_X10_ceiling) (ret := (some .int)) (rs := [.int x]) one_X10_ceiling (mk_X10_ceiling l) rfl (by decide +kernel) (fun h => by cases h) (Or.inr (Or.inl ⟨rfl, rfl⟩)) rfl (Nat.le_of_ble_eq_true rfl) rfl (Nat.le_of_ble_eq_true rfl) hf
    exact ⟨rfl, fun _ => ⟨_, _, rfl, hs⟩, _, t, hk, Nat.le_of_ble_eq_true rfl, he, hc⟩
  · cases h
theorem kc_X11_above : ab_okC b_X11_above RX11 false m_X11_above = true := by decide +kernel
theorem kf_X11_above : ab_okF RX11 m_X11_above = true := by decide +kernel
theorem mk_X11_above (l : Launch) : mok l b_X11_above RX11 false 2 49 m_X11_above := ⟨okC_e kc_X11_above, okF_e kf_X11_above, List.forall_mem_cons.mpr ⟨Or.inl (cee_of kd_X11_compare (by decide +kernel) (ct_X11_compare l) rfl), fun _ h => absurd h List.not_mem_nil⟩⟩
theorem kd_X11_above : ab_okY y_X11_above b_X11_above 4 (some .int) 1 3 11 = true := by decide +kernel
theorem ct_X11_above (l : Launch) : ab_spec l y_X11_above b_X11_above 4 (some .int) 2 49 1 3 11 g_X11_above := by
  intro as st k r h
  unfold g_X11_above at h
  split at h
  · obtain ⟨x, t, hf, hk⟩ := ri_e h
    obtain ⟨hs, hf⟩ := rc_e hf
    obtain ⟨he, hc⟩ := ct_of (y := y_X11_above) (ret := (some .int)) (rs := [.int x]) one_X11_above (mk_X11_above l) rfl (by decide +kernel) (fun h => by cases h) (Or.inr (Or.inl ⟨rfl, rfl⟩)) rfl (Nat.le_of_ble_eq_true rfl) rfl (Nat.le_of_ble_eq_true rfl) hf
    exact ⟨rfl, fun _ => ⟨_, _, rfl, hs⟩, _, t, hk, Nat.le_of_ble_eq_true rfl, he, hc⟩
  · cases h
theorem kc_X11_ceiling : ab_okC b_X11_ceiling RX11 false m_X11_ceiling = true := by decide +kernel
theorem kf_X11_ceiling : ab_okF RX11 m_X11_ceiling = true := by decide +kernel
theorem mk_X11_ceiling (l : Launch) : mok l b_X11_ceiling RX11 false 3 72 m_X11_ceiling := ⟨okC_e kc_X11_ceiling, okF_e kf_X11_ceiling, List.forall_mem_cons.mpr ⟨Or.inl (cee_of kd_X11_isDictionary (by decide +kernel) (ct_X11_isDictionary l) rfl), List.forall_mem_cons.mpr ⟨Or.inl (cee_of kd_X11_forget (by decide +kernel) (ct_X11_forget l) rfl), List.forall_mem_cons.mpr ⟨Or.inl (cee_of kd_X11_above (by decide +kernel) (ct_X11_above l) rfl), fun _ h => absurd h List.not_mem_nil⟩⟩⟩⟩
theorem kd_X11_ceiling : ab_okY y_X11_ceiling b_X11_ceiling 4 (some .int) 1 2 11 = true := by decide +kernel
theorem ct_X11_ceiling (l : Launch) : ab_spec l y_X11_ceiling b_X11_ceiling 4 (some .int) 3 72 1 2 11 g_X11_ceiling := by
  intro as st k r h
  unfold g_X11_ceiling at h
  split at h
  · obtain ⟨x, t, hf, hk⟩ := ri_e h
    obtain ⟨hs, hf⟩ := rc_e hf
    obtain ⟨he, hc⟩ := ct_of (y := y_X11_ceiling) (ret := (some .int)) (rs := [.int x]) one_X11_ceiling (mk_X11_ceiling l) rfl (by decide +kernel) (fun h => by cases h) (Or.inr (Or.inl ⟨rfl, rfl⟩)) rfl (Nat.le_of_ble_eq_true rfl) rfl (Nat.le_of_ble_eq_true rfl) hf
    exact ⟨rfl, fun _ => ⟨_, _, rfl, hs⟩, _, t, hk, Nat.le_of_ble_eq_true rfl, he, hc⟩
  · cases h
theorem kc_X7_beginsWith : ab_okC b_X7_beginsWith RX7 false m_X7_beginsWith = true := by decide +kernel
theorem kf_X7_beginsWith : ab_okF RX7 m_X7_beginsWith = true := by decide +kernel
theorem mk_X7_beginsWith (l : Launch) : mok l b_X7_beginsWith RX7 false 3 64 m_X7_beginsWith := ⟨okC_e kc_X7_beginsWith, okF_e kf_X7_beginsWith, List.forall_mem_cons.mpr ⟨Or.inl (cee_of kd_X7_has (by decide +kernel) (ct_X7_has l) rfl), List.forall_mem_cons.mpr ⟨Or.inl (cee_of kd_X7_lengthAt (by decide +kernel) (ct_X7_lengthAt l) rfl), List.forall_mem_cons.mpr ⟨Or.inl (cee_of kd_X7_signAt (by decide +kernel) (ct_X7_signAt l) rfl), List.forall_mem_cons.mpr ⟨Or.inl (cee_of kd_X6_at (by decide +kernel) (ct_X6_at l) rfl), fun _ h => absurd h List.not_mem_nil⟩⟩⟩⟩⟩
theorem kd_X7_beginsWith : ab_okY y_X7_beginsWith b_X7_beginsWith 4 (some .boolean) 1 3 7 = true := by decide +kernel
theorem ct_X7_beginsWith (l : Launch) : ab_spec l y_X7_beginsWith b_X7_beginsWith 4 (some .boolean) 3 64 1 3 7 g_X7_beginsWith := by
  intro as st k r h
  unfold g_X7_beginsWith at h
  split at h
  · obtain ⟨x, t, hf, hk⟩ := ri_e h
    obtain ⟨hs, hf⟩ := rc_e hf
    obtain ⟨he, hc⟩ := ct_of (y := y_X7_beginsWith) (ret := (some .boolean)) (rs := [.int x]) one_X7_beginsWith (mk_X7_beginsWith l) rfl (by decide +kernel) (fun h => by cases h) (Or.inr (Or.inr (Or.inl ⟨rfl, rfl⟩))) rfl (Nat.le_of_ble_eq_true rfl) rfl (Nat.le_of_ble_eq_true rfl) hf
    exact ⟨rfl, fun _ => ⟨_, _, rfl, hs⟩, _, t, hk, Nat.le_of_ble_eq_true rfl, he, hc⟩
  · cases h
theorem kc_X10_rankFound : ab_okC b_X10_rankFound RX10 false m_X10_rankFound = true := by decide +kernel
theorem kf_X10_rankFound : ab_okF RX10 m_X10_rankFound = true := by decide +kernel
theorem mk_X10_rankFound (l : Launch) : mok l b_X10_rankFound RX10 false 2 42 m_X10_rankFound := ⟨okC_e kc_X10_rankFound, okF_e kf_X10_rankFound, List.forall_mem_cons.mpr ⟨Or.inl (cee_of kd_X7_outAt (by decide +kernel) (ct_X7_outAt l) rfl), fun _ h => absurd h List.not_mem_nil⟩⟩
theorem kd_X10_rankFound : ab_okY y_X10_rankFound b_X10_rankFound 8 none 1 4 10 = true := by decide +kernel
theorem ct_X10_rankFound (l : Launch) : ab_spec l y_X10_rankFound b_X10_rankFound 8 none 2 42 1 4 10 g_X10_rankFound := by
  intro as st k r h
  unfold g_X10_rankFound at h
  split at h
  · obtain ⟨t, hf, hk⟩ := rv_e h
    obtain ⟨hs, hf⟩ := rc_e hf
    obtain ⟨he, hc⟩ := ct_of (y := y_X10_rankFound) (ret := none) (rs := []) one_X10_rankFound (mk_X10_rankFound l) rfl (by decide +kernel) (fun h => by cases h) (Or.inl ⟨rfl, rfl⟩) rfl (Nat.le_of_ble_eq_true rfl) rfl (Nat.le_of_ble_eq_true rfl) hf
    exact ⟨rfl, fun _ => ⟨_, _, rfl, hs⟩, _, t, hk, Nat.le_of_ble_eq_true rfl, he, hc⟩
  · cases h
theorem kc_X10_putFound : ab_okC b_X10_putFound RX10 false m_X10_putFound = true := by decide +kernel
theorem kf_X10_putFound : ab_okF RX10 m_X10_putFound = true := by decide +kernel
theorem mk_X10_putFound (l : Launch) : mok l b_X10_putFound RX10 false 0 0 m_X10_putFound := ⟨okC_e kc_X10_putFound, okF_e kf_X10_putFound, fun _ h => absurd h List.not_mem_nil⟩
theorem kd_X10_putFound : ab_okY y_X10_putFound b_X10_putFound 2 none 1 2 10 = true := by decide +kernel
theorem ct_X10_putFound (l : Launch) : ab_spec l y_X10_putFound b_X10_putFound 2 none 0 0 1 2 10 g_X10_putFound := by
  intro as st k r h
  unfold g_X10_putFound at h
  split at h
  · obtain ⟨t, hf, hk⟩ := rv_e h
    obtain ⟨hs, hf⟩ := rc_e hf
    obtain ⟨he, hc⟩ := ct_of (y := y_X10_putFound) (ret := none) (rs := []) one_X10_putFound (mk_X10_putFound l) rfl (by decide +kernel) (fun h => by cases h) (Or.inl ⟨rfl, rfl⟩) rfl (Nat.le_of_ble_eq_true rfl) rfl (Nat.le_of_ble_eq_true rfl) hf
    exact ⟨rfl, fun _ => ⟨_, _, rfl, hs⟩, _, t, hk, Nat.le_of_ble_eq_true rfl, he, hc⟩
  · cases h
theorem kc_X10_keepBeginning : ab_okC b_X10_keepBeginning RX10 false m_X10_keepBeginning = true := by decide +kernel
theorem kf_X10_keepBeginning : ab_okF RX10 m_X10_keepBeginning = true := by decide +kernel
theorem mk_X10_keepBeginning (l : Launch) : mok l b_X10_keepBeginning RX10 false 5 114 m_X10_keepBeginning := ⟨okC_e kc_X10_keepBeginning, okF_e kf_X10_keepBeginning, List.forall_mem_cons.mpr ⟨Or.inl (cee_of kd_X10_takeCollected (by decide +kernel) (ct_X10_takeCollected l) rfl), List.forall_mem_cons.mpr ⟨Or.inl (cee_of kd_X7_leastNotBelow (by decide +kernel) (ct_X7_leastNotBelow l) rfl), List.forall_mem_cons.mpr ⟨Or.inl (cee_of kd_X7_beginsWith (by decide +kernel) (ct_X7_beginsWith l) rfl), List.forall_mem_cons.mpr ⟨Or.inl (cee_of kd_X10_rankFound (by decide +kernel) (ct_X10_rankFound l) rfl), List.forall_mem_cons.mpr ⟨Or.inl (cee_of kd_X10_putFound (by decide +kernel) (ct_X10_putFound l) rfl), fun _ h => absurd h List.not_mem_nil⟩⟩⟩⟩⟩⟩
theorem kd_X10_keepBeginning : ab_okY y_X10_keepBeginning b_X10_keepBeginning 8 (some .int) 1 4 10 = true := by decide +kernel
theorem ct_X10_keepBeginning (l : Launch) : ab_spec l y_X10_keepBeginning b_X10_keepBeginning 8 (some .int) 5 114 1 4 10 g_X10_keepBeginning := by
  intro as st k r h
  unfold g_X10_keepBeginning at h
  split at h
  · obtain ⟨x, t, hf, hk⟩ := ri_e h
    obtain ⟨hs, hf⟩ := rc_e hf
    obtain ⟨he, hc⟩ := ct_of (y := y_X10_keepBeginning) (ret := (some .int)) (rs := [.int x]) one_X10_keepBeginning (mk_X10_keepBeginning l) rfl (by decide +kernel) (fun h => by cases h) (Or.inr (Or.inl ⟨rfl, rfl⟩)) rfl (Nat.le_of_ble_eq_true rfl) rfl (Nat.le_of_ble_eq_true rfl) hf
    exact ⟨rfl, fun _ => ⟨_, _, rfl, hs⟩, _, t, hk, Nat.le_of_ble_eq_true rfl, he, hc⟩
  · cases h
