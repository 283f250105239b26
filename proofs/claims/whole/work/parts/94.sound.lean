theorem kc_X10_prefix : ab_okC b_X10_prefix RX10 false m_X10_prefix = true := by decide +kernel
theorem kf_X10_prefix : ab_okF RX10 m_X10_prefix = true := by decide +kernel
theorem mk_X10_prefix (l : Launch) : mok l b_X10_prefix RX10 false 6 141 m_X10_prefix := ⟨okC_e kc_X10_prefix, okF_e kf_X10_prefix, List.forall_mem_cons.mpr ⟨Or.inl (cee_of kd_X10_isDictionary (by decide +kernel) (ct_X10_isDictionary l) rfl), List.forall_mem_cons.mpr ⟨Or.inl (cee_of kd_X10_keepBeginning (by decide +kernel) (ct_X10_keepBeginning l) rfl), fun _ h => absurd h List.not_mem_nil⟩⟩⟩
theorem kd_X10_prefix : ab_okY y_X10_prefix b_X10_prefix 2 (some .int) 1 2 10 = true := by decide +kernel
theorem ct_X10_prefix (l : Launch) : ab_spec l y_X10_prefix b_X10_prefix 2 (some .int) 6 141 1 2 10 g_X10_prefix := by
  intro as st k r h
  unfold g_X10_prefix at h
  split at h
  · obtain ⟨x, t, hf, hk⟩ := ri_e h
    obtain ⟨hs, hf⟩ := rc_e hf
    obtain ⟨he, hc⟩ := ct_of (y := y_X10_prefix) (ret := (some .int)) (rs := [.int x]) one_X10_prefix (mk_X10_prefix l) rfl (by decide +kernel) (fun h => by cases h) (Or.inr (Or.inl ⟨rfl, rfl⟩)) rfl (Nat.le_of_ble_eq_true rfl) rfl (Nat.le_of_ble_eq_true rfl) hf
    exact ⟨rfl, fun _ => ⟨_, _, rfl, hs⟩, _, t, hk, Nat.le_of_ble_eq_true rfl, he, hc⟩
  · cases h
theorem kc_X11_gather : ab_okC b_X11_gather RX11 false m_X11_gather = true := by decide +kernel
theorem kf_X11_gather : ab_okF RX11 m_X11_gather = true := by decide +kernel
theorem mk_X11_gather (l : Launch) : mok l b_X11_gather RX11 false 2 48 m_X11_gather := ⟨okC_e kc_X11_gather, okF_e kf_X11_gather, List.forall_mem_cons.mpr ⟨Or.inl (cee_of kd_X11_isBeginning (by decide +kernel) (ct_X11_isBeginning l) rfl), fun _ h => absurd h List.not_mem_nil⟩⟩
theorem kd_X11_gather : ab_okY y_X11_gather b_X11_gather 4 none 1 3 11 = true := by decide +kernel
theorem ct_X11_gather (l : Launch) : ab_spec l y_X11_gather b_X11_gather 4 none 2 48 1 3 11 g_X11_gather := by
  intro as st k r h
  unfold g_X11_gather at h
  split at h
  · obtain ⟨t, hf, hk⟩ := rv_e h
    obtain ⟨hs, hf⟩ := rc_e hf
    obtain ⟨he, hc⟩ := ct_of (y := y_X11_gather) (ret := none) (rs := []) one_X11_gather (mk_X11_gather l) rfl (by decide +kernel) (fun h => by cases h) (Or.inl ⟨rfl, rfl⟩) rfl (Nat.le_of_ble_eq_true rfl) rfl (Nat.le_of_ble_eq_true rfl) hf
    exact ⟨rfl, fun _ => ⟨_, _, rfl, hs⟩, _, t, hk, Nat.le_of_ble_eq_true rfl, he, hc⟩
  · cases h
theorem kc_X11_prefix : ab_okC b_X11_prefix RX11 false m_X11_prefix = true := by decide +kernel
theorem kf_X11_prefix : ab_okF RX11 m_X11_prefix = true := by decide +kernel
theorem mk_X11_prefix (l : Launch) : mok l b_X11_prefix RX11 false 3 71 m_X11_prefix := ⟨okC_e kc_X11_prefix, okF_e kf_X11_prefix, List.forall_mem_cons.mpr ⟨Or.inl (cee_of kd_X11_isDictionary (by decide +kernel) (ct_X11_isDictionary l) rfl), List.forall_mem_cons.mpr ⟨Or.inl (cee_of kd_X11_forget (by decide +kernel) (ct_X11_forget l) rfl), List.forall_mem_cons.mpr ⟨Or.inl (cee_of kd_X11_gather (by decide +kernel) (ct_X11_gather l) rfl), fun _ h => absurd h List.not_mem_nil⟩⟩⟩⟩
theorem kd_X11_prefix : ab_okY y_X11_prefix b_X11_prefix 3 (some .int) 1 2 11 = true := by decide +kernel
theorem ct_X11_prefix (l : Launch) : ab_spec l y_X11_prefix b_X11_prefix 3 (some .int) 3 71 1 2 11 g_X11_prefix := by
  intro as st k r h
  unfold g_X11_prefix at h
  split at h
  · obtain ⟨x, t, hf, hk⟩ := ri_e h
    obtain ⟨hs, hf⟩ := rc_e hf
    obtain ⟨he, hc⟩ := ct_of (y := y_X11_prefix) (ret := (some .int)) (rs := [.int x]) one_X11_prefix (mk_X11_prefix l) rfl (by decide +kernel) (fun h => by cases h) (Or.inr (Or.inl ⟨rfl, rfl⟩)) rfl (Nat.le_of_ble_eq_true rfl) rfl (Nat.le_of_ble_eq_true rfl) hf
    exact ⟨rfl, fun _ => ⟨_, _, rfl, hs⟩, _, t, hk, Nat.le_of_ble_eq_true rfl, he, hc⟩
  · cases h
theorem kc_X10_cheapest : ab_okC b_X10_cheapest RX10 false m_X10_cheapest = true := by decide +kernel
theorem kf_X10_cheapest : ab_okF RX10 m_X10_cheapest = true := by decide +kernel
theorem mk_X10_cheapest (l : Launch) : mok l b_X10_cheapest RX10 false 6 141 m_X10_cheapest := ⟨okC_e kc_X10_cheapest, okF_e kf_X10_cheapest, List.forall_mem_cons.mpr ⟨Or.inl (cee_of kd_X10_isDictionary (by decide +kernel) (ct_X10_isDictionary l) rfl), List.forall_mem_cons.mpr ⟨Or.inl (cee_of kd_X10_keepBeginning (by decide +kernel) (ct_X10_keepBeginning l) rfl), fun _ h => absurd h List.not_mem_nil⟩⟩⟩
theorem kd_X10_cheapest : ab_okY y_X10_cheapest b_X10_cheapest 3 (some .int) 1 3 10 = true := by decide +kernel
theorem ct_X10_cheapest (l : Launch) : ab_spec l y_X10_cheapest b_X10_cheapest 3 (some .int) 6 141 1 3 10 g_X10_cheapest := by
  intro as st k r h
  unfold g_X10_cheapest at h
  split at h
  · obtain ⟨x, t, hf, hk⟩ := ri_e h
    obtain ⟨hs, hf⟩ := rc_e hf
    obtain ⟨he, hc⟩ := ct_of (y := y_X10_cheapest) (ret := (some .int)) (rs := [.int x]) one_X10_cheapest (mk_X10_cheapest l) rfl (by decide +kernel) (fun h => by cases h) (Or.inr (Or.inl ⟨rfl, rfl⟩)) rfl (Nat.le_of_ble_eq_true rfl) rfl (Nat.le_of_ble_eq_true rfl) hf
    exact ⟨rfl, fun _ => ⟨_, _, rfl, hs⟩, _, t, hk, Nat.le_of_ble_eq_true rfl, he, hc⟩
  · cases h
theorem kc_X11_cheapest : ab_okC b_X11_cheapest RX11 false m_X11_cheapest = true := by decide +kernel
theorem kf_X11_cheapest : ab_okF RX11 m_X11_cheapest = true := by decide +kernel
theorem mk_X11_cheapest (l : Launch) : mok l b_X11_cheapest RX11 false 3 71 m_X11_cheapest := ⟨okC_e kc_X11_cheapest, okF_e kf_X11_cheapest, List.forall_mem_cons.mpr ⟨Or.inl (cee_of kd_X11_isIn (by decide +kernel) (ct_X11_isIn l) rfl), List.forall_mem_cons.mpr ⟨Or.inl (cee_of kd_X11_isDictionary (by decide +kernel) (ct_X11_isDictionary l) rfl), List.forall_mem_cons.mpr ⟨Or.inl (cee_of kd_X11_forget (by decide +kernel) (ct_X11_forget l) rfl), List.forall_mem_cons.mpr ⟨Or.inl (cee_of kd_X11_lesser (by decide +kernel) (ct_X11_lesser l) rfl), List.forall_mem_cons.mpr ⟨Or.inl (cee_of kd_X11_gather (by decide +kernel) (ct_X11_gather l) rfl), fun _ h => absurd h List.not_mem_nil⟩⟩⟩⟩⟩⟩
theorem kd_X11_cheapest : ab_okY y_X11_cheapest b_X11_cheapest 7 (some .int) 1 3 11 = true := by decide +kernel
theorem ct_X11_cheapest (l : Launch) : ab_spec l y_X11_cheapest b_X11_cheapest 7 (some .int) 3 71 1 3 11 g_X11_cheapest := by
  intro as st k r h
  unfold g_X11_cheapest at h
  split at h
  · obtain ⟨x, t, hf, hk⟩ := ri_e h
    obtain ⟨hs, hf⟩ := rc_e hf
    obtain ⟨he, hc⟩ := ct_of (y := y_X11_cheapest) (ret := (some .int)) (rs := [.int x]) one_X11_cheapest (mk_X11_cheapest l) rfl (by decide +kernel) (fun h => by cases h) (Or.inr (Or.inl ⟨rfl, rfl⟩)) rfl (Nat.le_of_ble_eq_true rfl) rfl (Nat.le_of_ble_eq_true rfl) hf
    exact ⟨rfl, fun _ => ⟨_, _, rfl, hs⟩, _, t, hk, Nat.le_of_ble_eq_true rfl, he, hc⟩
  · cases h
theorem kc_J_fill : ab_okC b_J_fill RJ7 false m_J_fill = true := by decide +kernel
theorem kf_J_fill : ab_okF RJ7 m_J_fill = true := by decide +kernel
theorem mk_J_fill (l : Launch) : mok l b_J_fill RJ7 false 0 0 m_J_fill := ⟨okC_e kc_J_fill, okF_e kf_J_fill, fun _ h => absurd h List.not_mem_nil⟩
theorem kd_J_fill : ab_okY y_J_fill b_J_fill 4 none 0 2 0 = true := by decide +kernel
theorem ct_J_fill (l : Launch) : ab_spec l y_J_fill b_J_fill 4 none 0 0 0 2 0 g_J_fill := by
  intro as st k r h
  unfold g_J_fill at h
  split at h
  · obtain ⟨t, hf, hk⟩ := rv_e h
    obtain ⟨he, hc⟩ := ct_of (y := y_J_fill) (ret := none) (rs := []) one_J_fill (mk_J_fill l) rfl (by decide +kernel) (fun h => by cases h) (Or.inl ⟨rfl, rfl⟩) rfl (Nat.le_of_ble_eq_true rfl) rfl (Nat.le_of_ble_eq_true rfl) hf
    exact ⟨rfl, fun h => absurd rfl h, _, t, hk, Nat.le_of_ble_eq_true rfl, he, hc⟩
  · cases h
theorem kc_X4_become : ab_okC b_X4_become RX4 false m_X4_become = true := by decide +kernel
theorem kf_X4_become : ab_okF RX4 m_X4_become = true := by decide +kernel
theorem mk_X4_become (l : Launch) : mok l b_X4_become RX4 false 0 0 m_X4_become := ⟨okC_e kc_X4_become, okF_e kf_X4_become, fun _ h => absurd h List.not_mem_nil⟩
theorem kd_X4_become : ab_okY y_X4_become b_X4_become 4 none 1 4 4 = true := by decide +kernel
theorem ct_X4_become (l : Launch) : ab_spec l y_X4_become b_X4_become 4 none 0 0 1 4 4 g_X4_become := by
  intro as st k r h
  unfold g_X4_become at h
  split at h
  · obtain ⟨t, hf, hk⟩ := rv_e h
    obtain ⟨hs, hf⟩ := rc_e hf
    obtain ⟨he, hc⟩ := ct_of (y := y_X4_become) (ret := none) (rs := []) one_X4_become (mk_X4_become l) rfl (by decide +kernel) (fun h => by cases h) (Or.inl ⟨rfl, rfl⟩) rfl (Nat.le_of_ble_eq_true rfl) rfl (Nat.le_of_ble_eq_true rfl) hf
    exact ⟨rfl, fun _ => ⟨_, _, rfl, hs⟩, _, t, hk, Nat.le_of_ble_eq_true rfl, he, hc⟩
  · cases h
theorem kc_X5_startLevel : ab_okC b_X5_startLevel RX5 false m_X5_startLevel = true := by decide +kernel
theorem kf_X5_startLevel : ab_okF RX5 m_X5_startLevel = true := by decide +kernel
theorem mk_X5_startLevel (l : Launch) : mok l b_X5_startLevel RX5 false 1 23 m_X5_startLevel := ⟨okC_e kc_X5_startLevel, okF_e kf_X5_startLevel, List.forall_mem_cons.mpr ⟨Or.inl (cee_of kd_X4_become (by decide +kernel) (ct_X4_become l) rfl), fun _ h => absurd h List.not_mem_nil⟩⟩
theorem kd_X5_startLevel : ab_okY y_X5_startLevel b_X5_startLevel 1 none 1 1 5 = true := by decide +kernel
theorem ct_X5_startLevel (l : Launch) : ab_spec l y_X5_startLevel b_X5_startLevel 1 none 1 23 1 1 5 g_X5_startLevel := by
  intro as st k r h
  unfold g_X5_startLevel at h
  split at h
  · obtain ⟨t, hf, hk⟩ := rv_e h
    obtain ⟨hs, hf⟩ := rc_e hf
    obtain ⟨he, hc⟩ := ct_of (y := y_X5_startLevel) (ret := none) (rs := []) one_X5_startLevel (mk_X5_startLevel l) rfl (by decide +kernel) (fun h => by cases h) (Or.inl ⟨rfl, rfl⟩) rfl (Nat.le_of_ble_eq_true rfl) rfl (Nat.le_of_ble_eq_true rfl) hf
    exact ⟨rfl, fun _ => ⟨_, _, rfl, hs⟩, _, t, hk, Nat.le_of_ble_eq_true rfl, he, hc⟩
  · cases h
theorem kc_X5_start : ab_okC b_X5_start RX5 false m_X5_start = true := by decide +kernel
theorem kf_X5_start : ab_okF RX5 m_X5_start = true := by decide +kernel
theorem mk_X5_start (l : Launch) : mok l b_X5_start RX5 false 2 43 m_X5_start := ⟨okC_e kc_X5_start, okF_e kf_X5_start, List.forall_mem_cons.mpr ⟨Or.inl (cee_of kd_J_fill (by decide +kernel) (ct_J_fill l) rfl), List.forall_mem_cons.mpr ⟨Or.inl (cee_of kd_X5_startLevel (by decide +kernel) (ct_X5_startLevel l) rfl), fun _ h => absurd h List.not_mem_nil⟩⟩⟩
theorem kd_X5_start : ab_okY y_X5_start b_X5_start 1 none 1 1 5 = true := by decide +kernel
theorem ct_X5_start (l : Launch) : ab_spec l y_X5_start b_X5_start 1 none 2 43 1 1 5 g_X5_start := by
  intro as st k r h
  unfold g_X5_start at h
  split at h
  · obtain ⟨t, hf, hk⟩ := rv_e h
    obtain ⟨hs, hf⟩ := rc_e hf
    obtain ⟨he, hc⟩ := ct_of (y := y_X5_start) (ret := none) (rs := []) one_X5_start (mk_X5_start l) rfl (by decide +kernel) (fun h => by cases h) (Or.inl ⟨rfl, rfl⟩) rfl (Nat.le_of_ble_eq_true rfl) rfl (Nat.le_of_ble_eq_true rfl) hf
    exact ⟨rfl, fun _ => ⟨_, _, rfl, hs⟩, _, t, hk, Nat.le_of_ble_eq_true rfl, he, hc⟩
  · cases h
theorem kc_X5_lead : ab_okC b_X5_lead RX5 false m_X5_lead = true := by decide +kernel
theorem kf_X5_lead : ab_okF RX5 m_X5_lead = true := by decide +kernel
theorem mk_X5_lead (l : Launch) : mok l b_X5_lead RX5 false 0 0 m_X5_lead := ⟨okC_e kc_X5_lead, okF_e kf_X5_lead, fun _ h => absurd h List.not_mem_nil⟩
theorem kd_X5_lead : ab_okY y_X5_lead b_X5_lead 4 none 1 3 5 = true := by decide +kernel
theorem ct_X5_lead (l : Launch) : ab_spec l y_X5_lead b_X5_lead 4 none 0 0 1 3 5 g_X5_lead := by
  intro as st k r h
  unfold g_X5_lead at h
  split at h
  · obtain ⟨t, hf, hk⟩ := rv_e h
    obtain ⟨hs, hf⟩ := rc_e hf
    obtain ⟨he, hc⟩ := ct_of (y := y_X5_lead) (ret := none) (rs := []) one_X5_lead (mk_X5_lead l) rfl (by decide +kernel) (fun h => by cases h) (Or.inl ⟨rfl, rfl⟩) rfl (Nat.le_of_ble_eq_true rfl) rfl (Nat.le_of_ble_eq_true rfl) hf
    exact ⟨rfl, fun _ => ⟨_, _, rfl, hs⟩, _, t, hk, Nat.le_of_ble_eq_true rfl, he, hc⟩
  · cases h
theorem kc_X5_repeat : ab_okC b_X5_repeat RX5 false m_X5_repeat = true := by decide +kernel
theorem kf_X5_repeat : ab_okF RX5 m_X5_repeat = true := by decide +kernel
theorem mk_X5_repeat (l : Launch) : mok l b_X5_repeat RX5 false 1 23 m_X5_repeat := ⟨okC_e kc_X5_repeat, okF_e kf_X5_repeat, List.forall_mem_cons.mpr ⟨Or.inl (cee_of kd_X5_lead (by decide +kernel) (ct_X5_lead l) rfl), fun _ h => absurd h List.not_mem_nil⟩⟩
theorem kd_X5_repeat : ab_okY y_X5_repeat b_X5_repeat 2 none 1 2 5 = true := by decide +kernel
theorem ct_X5_repeat (l : Launch) : ab_spec l y_X5_repeat b_X5_repeat 2 none 1 23 1 2 5 g_X5_repeat := by
  intro as st k r h
  unfold g_X5_repeat at h
  split at h
  · obtain ⟨t, hf, hk⟩ := rv_e h
    obtain ⟨hs, hf⟩ := rc_e hf
    obtain ⟨he, hc⟩ := ct_of (y := y_X5_repeat) (ret := none) (rs := []) one_X5_repeat (mk_X5_repeat l) rfl (by decide +kernel) (fun h => by cases h) (Or.inl ⟨rfl, rfl⟩) rfl (Nat.le_of_ble_eq_true rfl) rfl (Nat.le_of_ble_eq_true rfl) hf
    exact ⟨rfl, fun _ => ⟨_, _, rfl, hs⟩, _, t, hk, Nat.le_of_ble_eq_true rfl, he, hc⟩
  · cases h
theorem kc_X5_settlePiece : ab_okC b_X5_settlePiece RX5 false m_X5_settlePiece = true := by decide +kernel
theorem kf_X5_settlePiece : ab_okF RX5 m_X5_settlePiece = true := by decide +kernel
theorem mk_X5_settlePiece (l : Launch) : mok l b_X5_settlePiece RX5 false 1 23 m_X5_settlePiece := ⟨okC_e kc_X5_settlePiece, okF_e kf_X5_settlePiece, List.forall_mem_cons.mpr ⟨Or.inl (cee_of kd_X4_become (by decide +kernel) (ct_X4_become l) rfl), List.forall_mem_cons.mpr ⟨Or.inl (cee_of kd_X5_lead (by decide +kernel) (ct_X5_lead l) rfl), fun _ h => absurd h List.not_mem_nil⟩⟩⟩
theorem kd_X5_settlePiece : ab_okY y_X5_settlePiece b_X5_settlePiece 4 none 1 1 5 = true := by decide +kernel
theorem ct_X5_settlePiece (l : Launch) : ab_spec l y_X5_settlePiece b_X5_settlePiece 4 none 1 23 1 1 5 g_X5_settlePiece := by
  intro as st k r h
  unfold g_X5_settlePiece at h
  split at h
  · obtain ⟨t, hf, hk⟩ := rv_e h
    obtain ⟨hs, hf⟩ := rc_e hf
    obtain ⟨he, hc⟩ := ct_of (y := y_X5_settlePiece) (ret := none) (rs := []) one_X5_settlePiece (mk_X5_settlePiece l) rfl (by decide +kernel) (fun h => by cases h) (Or.inl ⟨rfl, rfl⟩) rfl (Nat.le_of_ble_eq_true rfl) rfl (Nat.le_of_ble_eq_true rfl) hf
    exact ⟨rfl, fun _ => ⟨_, _, rfl, hs⟩, _, t, hk, Nat.le_of_ble_eq_true rfl, he, hc⟩
  · cases h
theorem kc_X5_readRepeat : ab_okC b_X5_readRepeat RX5 false m_X5_readRepeat = true := by decide +kernel
theorem kf_X5_readRepeat : ab_okF RX5 m_X5_readRepeat = true := by decide +kernel
theorem mk_X5_readRepeat (l : Launch) : mok l b_X5_readRepeat RX5 false 2 46 m_X5_readRepeat := ⟨okC_e kc_X5_readRepeat, okF_e kf_X5_readRepeat, List.forall_mem_cons.mpr ⟨Or.inl (cee_of kd_X5_repeat (by decide +kernel) (ct_X5_repeat l) rfl), List.forall_mem_cons.mpr ⟨Or.inl (cee_of kd_X5_settlePiece (by decide +kernel) (ct_X5_settlePiece l) rfl), fun _ h => absurd h List.not_mem_nil⟩⟩⟩
theorem kd_X5_readRepeat : ab_okY y_X5_readRepeat b_X5_readRepeat 3 none 1 3 5 = true := by decide +kernel
theorem ct_X5_readRepeat (l : Launch) : ab_spec l y_X5_readRepeat b_X5_readRepeat 3 none 2 46 1 3 5 g_X5_readRepeat := by
  intro as st k r h
  unfold g_X5_readRepeat at h
  split at h
  · obtain ⟨t, hf, hk⟩ := rv_e h
    obtain ⟨hs, hf⟩ := rc_e hf
    obtain ⟨he, hc⟩ := ct_of (y := y_X5_readRepeat) (ret := none) (rs := []) one_X5_readRepeat (mk_X5_readRepeat l) rfl (by decide +kernel) (fun h => by cases h) (Or.inl ⟨rfl, rfl⟩) rfl (Nat.le_of_ble_eq_true rfl) rfl (Nat.le_of_ble_eq_true rfl) hf
    exact ⟨rfl, fun _ => ⟨_, _, rfl, hs⟩, _, t, hk, Nat.le_of_ble_eq_true rfl, he, hc⟩
  · cases h
theorem kc_X5_settleSequence : ab_okC b_X5_settleSequence RX5 false m_X5_settleSequence = true := by decide +kernel
theorem kf_X5_settleSequence : ab_okF RX5 m_X5_settleSequence = true := by decide +kernel
theorem mk_X5_settleSequence (l : Launch) : mok l b_X5_settleSequence RX5 false 1 23 m_X5_settleSequence := ⟨okC_e kc_X5_settleSequence, okF_e kf_X5_settleSequence, List.forall_mem_cons.mpr ⟨Or.inl (cee_of kd_X4_become (by decide +kernel) (ct_X4_become l) rfl), fun _ h => absurd h List.not_mem_nil⟩⟩
theorem kd_X5_settleSequence : ab_okY y_X5_settleSequence b_X5_settleSequence 3 none 1 1 5 = true := by decide +kernel
theorem ct_X5_settleSequence (l : Launch) : ab_spec l y_X5_settleSequence b_X5_settleSequence 3 none 1 23 1 1 5 g_X5_settleSequence := by
  intro as st k r h
  unfold g_X5_settleSequence at h
  split at h
  · obtain ⟨t, hf, hk⟩ := rv_e h
    obtain ⟨hs, hf⟩ := rc_e hf
    obtain ⟨he, hc⟩ := ct_of (y := y_X5_settleSequence) (ret := none) (rs := []) one_X5_settleSequence (mk_X5_settleSequence l) rfl (by decide +kernel) (fun h => by cases h) (Or.inl ⟨rfl, rfl⟩) rfl (Nat.le_of_ble_eq_true rfl) rfl (Nat.le_of_ble_eq_true rfl) hf
    exact ⟨rfl, fun _ => ⟨_, _, rfl, hs⟩, _, t, hk, Nat.le_of_ble_eq_true rfl, he, hc⟩
  · cases h
theorem kc_X5_openBracket : ab_okC b_X5_openBracket RX5 false m_X5_openBracket = true := by decide +kernel
theorem kf_X5_openBracket : ab_okF RX5 m_X5_openBracket = true := by decide +kernel
theorem mk_X5_openBracket (l : Launch) : mok l b_X5_openBracket RX5 false 2 43 m_X5_openBracket := ⟨okC_e kc_X5_openBracket, okF_e kf_X5_openBracket, List.forall_mem_cons.mpr ⟨Or.inl (cee_of kd_X5_startLevel (by decide +kernel) (ct_X5_startLevel l) rfl), fun _ h => absurd h List.not_mem_nil⟩⟩
theorem kd_X5_openBracket : ab_okY y_X5_openBracket b_X5_openBracket 2 none 1 2 5 = true := by decide +kernel
theorem ct_X5_openBracket (l : Launch) : ab_spec l y_X5_openBracket b_X5_openBracket 2 none 2 43 1 2 5 g_X5_openBracket := by
  intro as st k r h
  unfold g_X5_openBracket at h
  split at h
  · obtain ⟨t, hf, hk⟩ := rv_e h
    obtain ⟨hs, hf⟩ := rc_e hf
    obtain ⟨he, hc⟩ := ct_of (y := y_X5_openBracket) (ret := none) (rs := []) one_X5_openBracket (mk_X5_openBracket l) rfl (by decide +kernel) (fun h => by cases h) (Or.inl ⟨rfl, rfl⟩) rfl (Nat.le_of_ble_eq_true rfl) rfl (Nat.le_of_ble_eq_true rfl) hf
    exact ⟨rfl, fun _ => ⟨_, _, rfl, hs⟩, _, t, hk, Nat.le_of_ble_eq_true rfl, he, hc⟩
  · cases h
theorem kc_X5_closeBracket : ab_okC b_X5_closeBracket RX5 false m_X5_closeBracket = true := by decide +kernel
theorem kf_X5_closeBracket : ab_okF RX5 m_X5_closeBracket = true := by decide +kernel
theorem mk_X5_closeBracket (l : Launch) : mok l b_X5_closeBracket RX5 false 2 45 m_X5_closeBracket := ⟨okC_e kc_X5_closeBracket, okF_e kf_X5_closeBracket, List.forall_mem_cons.mpr ⟨Or.inl (cee_of kd_X5_settleSequence (by decide +kernel) (ct_X5_settleSequence l) rfl), List.forall_mem_cons.mpr ⟨Or.inl (cee_of kd_X4_become (by decide +kernel) (ct_X4_become l) rfl), fun _ h => absurd h List.not_mem_nil⟩⟩⟩
theorem kd_X5_closeBracket : ab_okY y_X5_closeBracket b_X5_closeBracket 3 none 1 2 5 = true := by decide +kernel
theorem ct_X5_closeBracket (l : Launch) : ab_spec l y_X5_closeBracket b_X5_closeBracket 3 none 2 45 1 2 5 g_X5_closeBracket := by
  intro as st k r h
  unfold g_X5_closeBracket at h
  split at h
  · obtain ⟨t, hf, hk⟩ := rv_e h
    obtain ⟨hs, hf⟩ := rc_e hf
    obtain ⟨he, hc⟩ := ct_of (y := y_X5_closeBracket) (ret := none) (rs := []) one_X5_closeBracket (mk_X5_closeBracket l) rfl (by decide +kernel) (fun h => by cases h) (Or.inl ⟨rfl, rfl⟩) rfl (Nat.le_of_ble_eq_true rfl) rfl (Nat.le_of_ble_eq_true rfl) hf
    exact ⟨rfl, fun _ => ⟨_, _, rfl, hs⟩, _, t, hk, Nat.le_of_ble_eq_true rfl, he, hc⟩
  · cases h
theorem kc_X5_newPlace : ab_okC b_X5_newPlace RX5 false m_X5_newPlace = true := by decide +kernel
theorem kf_X5_newPlace : ab_okF RX5 m_X5_newPlace = true := by decide +kernel
theorem mk_X5_newPlace (l : Launch) : mok l b_X5_newPlace RX5 false 1 23 m_X5_newPlace := ⟨okC_e kc_X5_newPlace, okF_e kf_X5_newPlace, List.forall_mem_cons.mpr ⟨Or.inl (cee_of kd_X4_become (by decide +kernel) (ct_X4_become l) rfl), List.forall_mem_cons.mpr ⟨Or.inr (Or.inr ⟨rfl, Nat.le_of_ble_eq_true rfl, Nat.le_of_ble_eq_true rfl, Or.inr (Or.inl ⟨rfl, rfl, by decide +kernel⟩)⟩), fun _ h => absurd h List.not_mem_nil⟩⟩⟩
theorem kd_X5_newPlace : ab_okY y_X5_newPlace b_X5_newPlace 2 (some .int) 1 1 5 = true := by decide +kernel
theorem ct_X5_newPlace (l : Launch) : ab_spec l y_X5_newPlace b_X5_newPlace 2 (some .int) 1 23 1 1 5 g_X5_newPlace := by
  intro as st k r h
  unfold g_X5_newPlace at h
  split at h
  · obtain ⟨x, t, hf, hk⟩ := ri_e h
    obtain ⟨hs, hf⟩ := rc_e hf
    obtain ⟨he, hc⟩ := ct_of (y := y_X5_newPlace) (ret := (some .int)) (rs := [.int x]) one_X5_newPlace (mk_X5_newPlace l) rfl (by decide +kernel) (fun h => by cases h) (Or.inr (Or.inl ⟨rfl, rfl⟩)) rfl (Nat.le_of_ble_eq_true rfl) rfl (Nat.le_of_ble_eq_true rfl) hf
    exact ⟨rfl, fun _ => ⟨_, _, rfl, hs⟩, _, t, hk, Nat.le_of_ble_eq_true rfl, he, hc⟩
  · cases h
theorem kc_X5_putPlaceOfSet : ab_okC b_X5_putPlaceOfSet RX5 false m_X5_putPlaceOfSet = true := by decide +kernel
theorem kf_X5_putPlaceOfSet : ab_okF RX5 m_X5_putPlaceOfSet = true := by decide +kernel
theorem mk_X5_putPlaceOfSet (l : Launch) : mok l b_X5_putPlaceOfSet RX5 false 2 44 m_X5_putPlaceOfSet := ⟨okC_e kc_X5_putPlaceOfSet, okF_e kf_X5_putPlaceOfSet, List.forall_mem_cons.mpr ⟨Or.inl (cee_of kd_X5_newPlace (by decide +kernel) (ct_X5_newPlace l) rfl), fun _ h => absurd h List.not_mem_nil⟩⟩
theorem kd_X5_putPlaceOfSet : ab_okY y_X5_putPlaceOfSet b_X5_putPlaceOfSet 4 none 1 2 5 = true := by decide +kernel
theorem ct_X5_putPlaceOfSet (l : Launch) : ab_spec l y_X5_putPlaceOfSet b_X5_putPlaceOfSet 4 none 2 44 1 2 5 g_X5_putPlaceOfSet := by
  intro as st k r h
  unfold g_X5_putPlaceOfSet at h
  split at h
  · obtain ⟨t, hf, hk⟩ := rv_e h
    obtain ⟨hs, hf⟩ := rc_e hf
    obtain ⟨he, hc⟩ := ct_of (y := y_X5_putPlaceOfSet) (ret := none) (rs := []) one_X5_putPlaceOfSet (mk_X5_putPlaceOfSet l) rfl (by decide +kernel) (fun h => by cases h) (Or.inl ⟨rfl, rfl⟩) rfl (Nat.le_of_ble_eq_true rfl) rfl (Nat.le_of_ble_eq_true rfl) hf
    exact ⟨rfl, fun _ => ⟨_, _, rfl, hs⟩, _, t, hk, Nat.le_of_ble_eq_true rfl, he, hc⟩
  · cases h
theorem kc_X5_pastEscape : ab_okC b_X5_pastEscape RX5 false m_X5_pastEscape = true := by decide +kernel
theorem kf_X5_pastEscape : ab_okF RX5 m_X5_pastEscape = true := by decide +kernel
theorem mk_X5_pastEscape (l : Launch) : mok l b_X5_pastEscape RX5 false 1 21 m_X5_pastEscape := ⟨okC_e kc_X5_pastEscape, okF_e kf_X5_pastEscape, List.forall_mem_cons.mpr ⟨Or.inl (cee_of kd_X6_at (by decide +kernel) (ct_X6_at l) rfl), fun _ h => absurd h List.not_mem_nil⟩⟩
theorem kd_X5_pastEscape : ab_okY y_X5_pastEscape b_X5_pastEscape 2 (some .int) 0 2 5 = true := by decide +kernel
theorem ct_X5_pastEscape (l : Launch) : ab_spec l y_X5_pastEscape b_X5_pastEscape 2 (some .int) 1 21 0 2 5 g_X5_pastEscape := by
  intro as st k r h
  unfold g_X5_pastEscape at h
  split at h
  · obtain ⟨x, t, hf, hk⟩ := ri_e h
    obtain ⟨he, hc⟩ := ct_of (y := y_X5_pastEscape) (ret := (some .int)) (rs := [.int x]) one_X5_pastEscape (mk_X5_pastEscape l) rfl (by decide +kernel) (fun h => by cases h) (Or.inr (Or.inl ⟨rfl, rfl⟩)) rfl (Nat.le_of_ble_eq_true rfl) rfl (Nat.le_of_ble_eq_true rfl) hf
    exact ⟨rfl, fun h => absurd rfl h, _, t, hk, Nat.le_of_ble_eq_true rfl, he, hc⟩
  · cases h
theorem kc_X5_readItem : ab_okC b_X5_readItem RX5 false m_X5_readItem = true := by decide +kernel
theorem kf_X5_readItem : ab_okF RX5 m_X5_readItem = true := by decide +kernel
theorem mk_X5_readItem (l : Launch) : mok l b_X5_readItem RX5 false 2 42 m_X5_readItem := ⟨okC_e kc_X5_readItem, okF_e kf_X5_readItem, List.forall_mem_cons.mpr ⟨Or.inl (cee_of kd_X6_at (by decide +kernel) (ct_X6_at l) rfl), List.forall_mem_cons.mpr ⟨Or.inl (cee_of kd_X5_pastEscape (by decide +kernel) (ct_X5_pastEscape l) rfl), List.forall_mem_cons.mpr ⟨Or.inr (Or.inr ⟨rfl, Nat.le_of_ble_eq_true rfl, Nat.le_of_ble_eq_true rfl, Or.inl ⟨rfl, rfl, by decide +kernel⟩⟩), fun _ h => absurd h List.not_mem_nil⟩⟩⟩⟩
theorem kd_X5_readItem : ab_okY y_X5_readItem b_X5_readItem 7 (some .int) 1 3 5 = true := by decide +kernel
theorem ct_X5_readItem (l : Launch) : ab_spec l y_X5_readItem b_X5_readItem 7 (some .int) 2 42 1 3 5 g_X5_readItem := by
  intro as st k r h
  unfold g_X5_readItem at h
  split at h
  · obtain ⟨x, t, hf, hk⟩ := ri_e h
    obtain ⟨hs, hf⟩ := rc_e hf
    obtain ⟨he, hc⟩ := ct_of (y := y_X5_readItem) (ret := (some .int)) (rs := [.int x]) one_X5_readItem (mk_X5_readItem l) rfl (by decide +kernel) (fun h => by cases h) (Or.inr (Or.inl ⟨rfl, rfl⟩)) rfl (Nat.le_of_ble_eq_true rfl) rfl (Nat.le_of_ble_eq_true rfl) hf
    exact ⟨rfl, fun _ => ⟨_, _, rfl, hs⟩, _, t, hk, Nat.le_of_ble_eq_true rfl, he, hc⟩
  · cases h
theorem kc_X5_readSet : ab_okC b_X5_readSet RX5 false m_X5_readSet = true := by decide +kernel
theorem kf_X5_readSet : ab_okF RX5 m_X5_readSet = true := by decide +kernel
theorem mk_X5_readSet (l : Launch) : mok l b_X5_readSet RX5 false 3 68 m_X5_readSet := ⟨okC_e kc_X5_readSet, okF_e kf_X5_readSet, List.forall_mem_cons.mpr ⟨Or.inl (cee_of kd_X6_at (by decide +kernel) (ct_X6_at l) rfl), List.forall_mem_cons.mpr ⟨Or.inl (cee_of kd_J_fill (by decide +kernel) (ct_J_fill l) rfl), List.forall_mem_cons.mpr ⟨Or.inl (cee_of kd_X5_putPlaceOfSet (by decide +kernel) (ct_X5_putPlaceOfSet l) rfl), List.forall_mem_cons.mpr ⟨Or.inl (cee_of kd_X5_readItem (by decide +kernel) (ct_X5_readItem l) rfl), fun _ h => absurd h List.not_mem_nil⟩⟩⟩⟩⟩
theorem kd_X5_readSet : ab_okY y_X5_readSet b_X5_readSet 7 (some .int) 1 3 5 = true := by decide +kernel
theorem ct_X5_readSet (l : Launch) : ab_spec l y_X5_readSet b_X5_readSet 7 (some .int) 3 68 1 3 5 g_X5_readSet := by
  intro as st k r h
  unfold g_X5_readSet at h
  split at h
  · obtain ⟨x, t, hf, hk⟩ := ri_e h
    obtain ⟨hs, hf⟩ := rc_e hf
    obtain ⟨he, hc⟩ := ct_of (y := y_X5_readSet) (ret := (some .int)) (rs := [.int x]) one_X5_readSet (mk_X5_readSet l) rfl (by decide +kernel) (fun h => by cases h) (Or.inr (Or.inl ⟨rfl, rfl⟩)) rfl (Nat.le_of_ble_eq_true rfl) rfl (Nat.le_of_ble_eq_true rfl) hf
    exact ⟨rfl, fun _ => ⟨_, _, rfl, hs⟩, _, t, hk, Nat.le_of_ble_eq_true rfl, he, hc⟩
  · cases h
theorem kc_X5_putPlace : ab_okC b_X5_putPlace RX5 false m_X5_putPlace = true := by decide +kernel
theorem kf_X5_putPlace : ab_okF RX5 m_X5_putPlace = true := by decide +kernel
theorem mk_X5_putPlace (l : Launch) : mok l b_X5_putPlace RX5 false 2 44 m_X5_putPlace := ⟨okC_e kc_X5_putPlace, okF_e kf_X5_putPlace, List.forall_mem_cons.mpr ⟨Or.inr (Or.inr ⟨rfl, Nat.le_of_ble_eq_true rfl, Nat.le_of_ble_eq_true rfl, Or.inl ⟨rfl, rfl, by decide +kernel⟩⟩), List.forall_mem_cons.mpr ⟨Or.inl (cee_of kd_X5_newPlace (by decide +kernel) (ct_X5_newPlace l) rfl), fun _ h => absurd h List.not_mem_nil⟩⟩⟩
theorem kd_X5_putPlace : ab_okY y_X5_putPlace b_X5_putPlace 5 none 1 3 5 = true := by decide +kernel
theorem ct_X5_putPlace (l : Launch) : ab_spec l y_X5_putPlace b_X5_putPlace 5 none 2 44 1 3 5 g_X5_putPlace := by
  intro as st k r h
  unfold g_X5_putPlace at h
  split at h
  · obtain ⟨t, hf, hk⟩ := rv_e h
    obtain ⟨hs, hf⟩ := rc_e hf
    obtain ⟨he, hc⟩ := ct_of (y := y_X5_putPlace) (ret := none) (rs := []) one_X5_putPlace (mk_X5_putPlace l) rfl (by decide +kernel) (fun h => by cases h) (Or.inl ⟨rfl, rfl⟩) rfl (Nat.le_of_ble_eq_true rfl) rfl (Nat.le_of_ble_eq_true rfl) hf
    exact ⟨rfl, fun _ => ⟨_, _, rfl, hs⟩, _, t, hk, Nat.le_of_ble_eq_true rfl, he, hc⟩
  · cases h
theorem kc_X5_readPlain : ab_okC b_X5_readPlain RX5 false m_X5_readPlain = true := by decide +kernel
theorem kf_X5_readPlain : ab_okF RX5 m_X5_readPlain = true := by decide +kernel
theorem mk_X5_readPlain (l : Launch) : mok l b_X5_readPlain RX5 false 3 68 m_X5_readPlain := ⟨okC_e kc_X5_readPlain, okF_e kf_X5_readPlain, List.forall_mem_cons.mpr ⟨Or.inl (cee_of kd_X6_at (by decide +kernel) (ct_X6_at l) rfl), List.forall_mem_cons.mpr ⟨Or.inl (cee_of kd_X5_putPlace (by decide +kernel) (ct_X5_putPlace l) rfl), List.forall_mem_cons.mpr ⟨Or.inl (cee_of kd_X5_pastEscape (by decide +kernel) (ct_X5_pastEscape l) rfl), fun _ h => absurd h List.not_mem_nil⟩⟩⟩⟩
theorem kd_X5_readPlain : ab_okY y_X5_readPlain b_X5_readPlain 5 (some .int) 1 3 5 = true := by decide +kernel
theorem ct_X5_readPlain (l : Launch) : ab_spec l y_X5_readPlain b_X5_readPlain 5 (some .int) 3 68 1 3 5 g_X5_readPlain := by
  intro as st k r h
  unfold g_X5_readPlain at h
  split at h
  · obtain ⟨x, t, hf, hk⟩ := ri_e h
    obtain ⟨hs, hf⟩ := rc_e hf
    obtain ⟨he, hc⟩ := ct_of (y := y_X5_readPlain) (ret := (some .int)) (rs := [.int x]) one_X5_readPlain (mk_X5_readPlain l) rfl (by decide +kernel) (fun h => by cases h) (Or.inr (Or.inl ⟨rfl, rfl⟩)) rfl (Nat.le_of_ble_eq_true rfl) rfl (Nat.le_of_ble_eq_true rfl) hf
    exact ⟨rfl, fun _ => ⟨_, _, rfl, hs⟩, _, t, hk, Nat.le_of_ble_eq_true rfl, he, hc⟩
  · cases h
theorem kc_X5_readOne : ab_okC b_X5_readOne RX5 false m_X5_readOne = true := by decide +kernel
theorem kf_X5_readOne : ab_okF RX5 m_X5_readOne = true := by decide +kernel
theorem mk_X5_readOne (l : Launch) : mok l b_X5_readOne RX5 false 4 94 m_X5_readOne := ⟨okC_e kc_X5_readOne, okF_e kf_X5_readOne, List.forall_mem_cons.mpr ⟨Or.inl (cee_of kd_X6_at (by decide +kernel) (ct_X6_at l) rfl), List.forall_mem_cons.mpr ⟨Or.inl (cee_of kd_X5_putPlace (by decide +kernel) (ct_X5_putPlace l) rfl), List.forall_mem_cons.mpr ⟨Or.inl (cee_of kd_X5_settlePiece (by decide +kernel) (ct_X5_settlePiece l) rfl), List.forall_mem_cons.mpr ⟨Or.inl (cee_of kd_X5_settleSequence (by decide +kernel) (ct_X5_settleSequence l) rfl), List.forall_mem_cons.mpr ⟨Or.inl (cee_of kd_X5_readRepeat (by decide +kernel) (ct_X5_readRepeat l) rfl), List.forall_mem_cons.mpr ⟨Or.inl (cee_of kd_X5_openBracket (by decide +kernel) (ct_X5_openBracket l) rfl), List.forall_mem_cons.mpr ⟨Or.inl (cee_of kd_X5_closeBracket (by decide +kernel) (ct_X5_closeBracket l) rfl), List.forall_mem_cons.mpr ⟨Or.inl (cee_of kd_X5_readSet (by decide +kernel) (ct_X5_readSet l) rfl), List.forall_mem_cons.mpr ⟨Or.inl (cee_of kd_X5_readPlain (by decide +kernel) (ct_X5_readPlain l) rfl), fun _ h => absurd h List.not_mem_nil⟩⟩⟩⟩⟩⟩⟩⟩⟩⟩
theorem kd_X5_readOne : ab_okY y_X5_readOne b_X5_readOne 4 (some .int) 1 3 5 = true := by decide +kernel
theorem ct_X5_readOne (l : Launch) : ab_spec l y_X5_readOne b_X5_readOne 4 (some .int) 4 94 1 3 5 g_X5_readOne := by
  intro as st k r h
  unfold g_X5_readOne at h
  split at h
  · obtain ⟨x, t, hf, hk⟩ := ri_e h
    obtain ⟨hs, hf⟩ := rc_e hf
    obtain ⟨he, hc⟩ := ct_of (y := y_X5_readOne) (ret := (some .int)) (rs := [.int x]) one_X5_readOne (mk_X5_readOne l) rfl (by decide +kernel) (fun h => by cases h) (Or.inr (Or.inl ⟨rfl, rfl⟩)) rfl (Nat.le_of_ble_eq_true rfl) rfl (Nat.le_of_ble_eq_true rfl) hf
    exact ⟨rfl, fun _ => ⟨_, _, rfl, hs⟩, _, t, hk, Nat.le_of_ble_eq_true rfl, he, hc⟩
  · cases h
theorem kc_X5_readPattern : ab_okC b_X5_readPattern RX5 false m_X5_readPattern = true := by decide +kernel
theorem kf_X5_readPattern : ab_okF RX5 m_X5_readPattern = true := by decide +kernel
theorem mk_X5_readPattern (l : Launch) : mok l b_X5_readPattern RX5 false 5 117 m_X5_readPattern := ⟨okC_e kc_X5_readPattern, okF_e kf_X5_readPattern, List.forall_mem_cons.mpr ⟨Or.inl (cee_of kd_X5_start (by decide +kernel) (ct_X5_start l) rfl), List.forall_mem_cons.mpr ⟨Or.inl (cee_of kd_X5_settlePiece (by decide +kernel) (ct_X5_settlePiece l) rfl), List.forall_mem_cons.mpr ⟨Or.inl (cee_of kd_X5_settleSequence (by decide +kernel) (ct_X5_settleSequence l) rfl), List.forall_mem_cons.mpr ⟨Or.inl (cee_of kd_X5_readOne (by decide +kernel) (ct_X5_readOne l) rfl), fun _ h => absurd h List.not_mem_nil⟩⟩⟩⟩⟩
theorem kd_X5_readPattern : ab_okY y_X5_readPattern b_X5_readPattern 4 (some .int) 1 2 5 = true := by decide +kernel
theorem ct_X5_readPattern (l : Launch) : ab_spec l y_X5_readPattern b_X5_readPattern 4 (some .int) 5 117 1 2 5 g_X5_readPattern := by
  intro as st k r h
  unfold g_X5_readPattern at h
  split at h
  · obtain ⟨x, t, hf, hk⟩ := ri_e h
    obtain ⟨hs, hf⟩ := rc_e hf
    obtain ⟨he, hc⟩ := ct_of (y := y_X5_readPattern) (ret := (some .int)) (rs := [.int x]) one_X5_readPattern (mk_X5_readPattern l) rfl (by decide +kernel) (fun h => by cases h) (Or.inr (Or.inl ⟨rfl, rfl⟩)) rfl (Nat.le_of_ble_eq_true rfl) rfl (Nat.le_of_ble_eq_true rfl) hf
    exact ⟨rfl, fun _ => ⟨_, _, rfl, hs⟩, _, t, hk, Nat.le_of_ble_eq_true rfl, he, hc⟩
  · cases h
theorem kc_X5_readWild : ab_okC b_X5_readWild RX5 false m_X5_readWild = true := by decide +kernel
theorem kf_X5_readWild : ab_okF RX5 m_X5_readWild = true := by decide +kernel
theorem mk_X5_readWild (l : Launch) : mok l b_X5_readWild RX5 false 3 68 m_X5_readWild := ⟨okC_e kc_X5_readWild, okF_e kf_X5_readWild, List.forall_mem_cons.mpr ⟨Or.inl (cee_of kd_X5_start (by decide +kernel) (ct_X5_start l) rfl), List.forall_mem_cons.mpr ⟨Or.inl (cee_of kd_X6_at (by decide +kernel) (ct_X6_at l) rfl), List.forall_mem_cons.mpr ⟨Or.inl (cee_of kd_X5_putPlace (by decide +kernel) (ct_X5_putPlace l) rfl), List.forall_mem_cons.mpr ⟨Or.inl (cee_of kd_X5_repeat (by decide +kernel) (ct_X5_repeat l) rfl), List.forall_mem_cons.mpr ⟨Or.inl (cee_of kd_X5_settlePiece (by decide +kernel) (ct_X5_settlePiece l) rfl), List.forall_mem_cons.mpr ⟨Or.inl (cee_of kd_X5_settleSequence (by decide +kernel) (ct_X5_settleSequence l) rfl), fun _ h => absurd h List.not_mem_nil⟩⟩⟩⟩⟩⟩⟩
theorem kd_X5_readWild : ab_okY y_X5_readWild b_X5_readWild 4 none 1 2 5 = true := by decide +kernel
theorem ct_X5_readWild (l : Launch) : ab_spec l y_X5_readWild b_X5_readWild 4 none 3 68 1 2 5 g_X5_readWild := by
  intro as st k r h
  unfold g_X5_readWild at h
  split at h
  · obtain ⟨t, hf, hk⟩ := rv_e h
    obtain ⟨hs, hf⟩ := rc_e hf
    obtain ⟨he, hc⟩ := ct_of (y := y_X5_readWild) (ret := none) (rs := []) one_X5_readWild (mk_X5_readWild l) rfl (by decide +kernel) (fun h => by cases h) (Or.inl ⟨rfl, rfl⟩) rfl (Nat.le_of_ble_eq_true rfl) rfl (Nat.le_of_ble_eq_true rfl) hf
    exact ⟨rfl, fun _ => ⟨_, _, rfl, hs⟩, _, t, hk, Nat.le_of_ble_eq_true rfl, he, hc⟩
  · cases h
theorem kc_X2_read : ab_okC b_X2_read RX2 false m_X2_read = true := by decide +kernel
theorem kf_X2_read : ab_okF RX2 m_X2_read = true := by decide +kernel
theorem mk_X2_read (l : Launch) : mok l b_X2_read RX2 false 0 0 m_X2_read := ⟨okC_e kc_X2_read, okF_e kf_X2_read, fun _ h => absurd h List.not_mem_nil⟩
theorem kd_X2_read : ab_okY y_X2_read b_X2_read 3 none 1 3 2 = true := by decide +kernel
theorem ct_X2_read (l : Launch) : ab_spec l y_X2_read b_X2_read 3 none 0 0 1 3 2 g_X2_read := by
  intro as st k r h
  unfold g_X2_read at h
  split at h
  · obtain ⟨t, hf, hk⟩ := rv_e h
    obtain ⟨hs, hf⟩ := rc_e hf
    obtain ⟨he, hc⟩ := ct_of (y := y_X2_read) (ret := none) (rs := []) one_X2_read (mk_X2_read l) rfl (by decide +kernel) (fun h => by cases h) (Or.inl ⟨rfl, rfl⟩) rfl (Nat.le_of_ble_eq_true rfl) rfl (Nat.le_of_ble_eq_true rfl) hf
    exact ⟨rfl, fun _ => ⟨_, _, rfl, hs⟩, _, t, hk, Nat.le_of_ble_eq_true rfl, he, hc⟩
  · cases h
theorem kc_X2_fewest : ab_okC b_X2_fewest RX2 false m_X2_fewest = true := by decide +kernel
theorem kf_X2_fewest : ab_okF RX2 m_X2_fewest = true := by decide +kernel
theorem mk_X2_fewest (l : Launch) : mok l b_X2_fewest RX2 false 3 64 m_X2_fewest := ⟨okC_e kc_X2_fewest, okF_e kf_X2_fewest, List.forall_mem_cons.mpr ⟨Or.inl (cee_of kd_X6_at (by decide +kernel) (ct_X6_at l) rfl), List.forall_mem_cons.mpr ⟨Or.inl (cee_of kd_X7_signAt (by decide +kernel) (ct_X7_signAt l) rfl), List.forall_mem_cons.mpr ⟨Or.inr (Or.inr ⟨rfl, Nat.le_of_ble_eq_true rfl, Nat.le_of_ble_eq_true rfl, Or.inr (Or.inl ⟨rfl, rfl, by decide +kernel⟩)⟩), fun _ h => absurd h List.not_mem_nil⟩⟩⟩⟩
theorem kd_X2_fewest : ab_okY y_X2_fewest b_X2_fewest 9 (some .int) 1 5 2 = true := by decide +kernel
theorem ct_X2_fewest (l : Launch) : ab_spec l y_X2_fewest b_X2_fewest 9 (some .int) 3 64 1 5 2 g_X2_fewest := by
  intro as st k r h
  unfold g_X2_fewest at h
  split at h
  · obtain ⟨x, t, hf, hk⟩ := ri_e h
    obtain ⟨hs, hf⟩ := rc_e hf
    obtain ⟨he, hc⟩ := ct_of (y := y_X2_fewest) (ret := (some .int)) (rs := [.int x]) one_X2_fewest (mk_X2_fewest l) rfl (by decide +kernel) (fun h => by cases h) (Or.inr (Or.inl ⟨rfl, rfl⟩)) rfl (Nat.le_of_ble_eq_true rfl) rfl (Nat.le_of_ble_eq_true rfl) hf
    exact ⟨rfl, fun _ => ⟨_, _, rfl, hs⟩, _, t, hk, Nat.le_of_ble_eq_true rfl, he, hc⟩
  · cases h
