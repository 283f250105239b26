theorem kc_X11_lesser : ab_okC b_X11_lesser RX11 false m_X11_lesser = true := by decide +kernel
theorem kf_X11_lesser : ab_okF RX11 m_X11_lesser = true := by decide +kernel
theorem mk_X11_lesser (l : Launch) : mok l b_X11_lesser RX11 false 0 0 m_X11_lesser := ⟨okC_e kc_X11_lesser, okF_e kf_X11_lesser, fun _ h => absurd h List.not_mem_nil⟩
theorem kd_X11_lesser : ab_okY y_X11_lesser b_X11_lesser 4 (some .long) 0 2 11 = true := by decide +kernel
theorem ct_X11_lesser (l : Launch) : ab_spec l y_X11_lesser b_X11_lesser 4 (some .long) 0 0 0 2 11 g_X11_lesser := by
  intro as st k r h
  unfold g_X11_lesser at h
  split at h
  · obtain ⟨x, t, hf, hk⟩ := rl_e h
    obtain ⟨he, hc⟩ := ct_of (y := y_X11_lesser) (ret := (some .long)) (rs := [.long x]) one_X11_lesser (mk_X11_lesser l) rfl (by decide +kernel) (fun h => by cases h) (Or.inr (Or.inr (Or.inr (Or.inl ⟨rfl, rfl⟩)))) rfl (Nat.le_of_ble_eq_true rfl) rfl (Nat.le_of_ble_eq_true rfl) hf
    exact ⟨rfl, fun h => absurd rfl h, _, t, hk, Nat.le_of_ble_eq_true rfl, he, hc⟩
  · cases h
theorem kc_X11_put : ab_okC b_X11_put RX11 false m_X11_put = true := by decide +kernel
theorem kf_X11_put : ab_okF RX11 m_X11_put = true := by decide +kernel
theorem mk_X11_put (l : Launch) : mok l b_X11_put RX11 false 1 23 m_X11_put := ⟨okC_e kc_X11_put, okF_e kf_X11_put, List.forall_mem_cons.mpr ⟨Or.inl (cee_of kd_X11_letter (by decide +kernel) (ct_X11_letter l) rfl), List.forall_mem_cons.mpr ⟨Or.inl (cee_of kd_X11_lesser (by decide +kernel) (ct_X11_lesser l) rfl), fun _ h => absurd h List.not_mem_nil⟩⟩⟩
theorem kd_X11_put : ab_okY y_X11_put b_X11_put 12 none 1 5 11 = true := by decide +kernel
theorem ct_X11_put (l : Launch) : ab_spec l y_X11_put b_X11_put 12 none 1 23 1 5 11 g_X11_put := by
  intro as st k r h
  unfold g_X11_put at h
  split at h
  · obtain ⟨t, hf, hk⟩ := rv_e h
    obtain ⟨hs, hf⟩ := rc_e hf
    obtain ⟨he, hc⟩ := ct_of (y := y_X11_put) (ret := none) (rs := []) one_X11_put (mk_X11_put l) rfl (by decide +kernel) (fun h => by cases h) (Or.inl ⟨rfl, rfl⟩) rfl (Nat.le_of_ble_eq_true rfl) rfl (Nat.le_of_ble_eq_true rfl) hf
    exact ⟨rfl, fun _ => ⟨_, _, rfl, hs⟩, _, t, hk, Nat.le_of_ble_eq_true rfl, he, hc⟩
  · cases h
theorem kc_X11_isShared : ab_okC b_X11_isShared RX11 false m_X11_isShared = true := by decide +kernel
theorem kf_X11_isShared : ab_okF RX11 m_X11_isShared = true := by decide +kernel
theorem mk_X11_isShared (l : Launch) : mok l b_X11_isShared RX11 false 1 23 m_X11_isShared := ⟨okC_e kc_X11_isShared, okF_e kf_X11_isShared, List.forall_mem_cons.mpr ⟨Or.inl (cee_of kd_X11_letter (by decide +kernel) (ct_X11_letter l) rfl), fun _ h => absurd h List.not_mem_nil⟩⟩
theorem kd_X11_isShared : ab_okY y_X11_isShared b_X11_isShared 7 (some .boolean) 1 5 11 = true := by decide +kernel
theorem ct_X11_isShared (l : Launch) : ab_spec l y_X11_isShared b_X11_isShared 7 (some .boolean) 1 23 1 5 11 g_X11_isShared := by
  intro as st k r h
  unfold g_X11_isShared at h
  split at h
  · obtain ⟨x, t, hf, hk⟩ := ri_e h
    obtain ⟨hs, hf⟩ := rc_e hf
    obtain ⟨he, hc⟩ := ct_of (y := y_X11_isShared) (ret := (some .boolean)) (rs := [.int x]) one_X11_isShared (mk_X11_isShared l) rfl (by decide +kernel) (fun h => by cases h) (Or.inr (Or.inr (Or.inl ⟨rfl, rfl⟩))) rfl (Nat.le_of_ble_eq_true rfl) rfl (Nat.le_of_ble_eq_true rfl) hf
    exact ⟨rfl, fun _ => ⟨_, _, rfl, hs⟩, _, t, hk, Nat.le_of_ble_eq_true rfl, he, hc⟩
  · cases h
theorem kc_X11_isSame : ab_okC b_X11_isSame RX11 false m_X11_isSame = true := by decide +kernel
theorem kf_X11_isSame : ab_okF RX11 m_X11_isSame = true := by decide +kernel
theorem mk_X11_isSame (l : Launch) : mok l b_X11_isSame RX11 false 1 23 m_X11_isSame := ⟨okC_e kc_X11_isSame, okF_e kf_X11_isSame, List.forall_mem_cons.mpr ⟨Or.inl (cee_of kd_X11_letter (by decide +kernel) (ct_X11_letter l) rfl), fun _ h => absurd h List.not_mem_nil⟩⟩
theorem kd_X11_isSame : ab_okY y_X11_isSame b_X11_isSame 9 (some .boolean) 1 4 11 = true := by decide +kernel
theorem ct_X11_isSame (l : Launch) : ab_spec l y_X11_isSame b_X11_isSame 9 (some .boolean) 1 23 1 4 11 g_X11_isSame := by
  intro as st k r h
  unfold g_X11_isSame at h
  split at h
  · obtain ⟨x, t, hf, hk⟩ := ri_e h
    obtain ⟨hs, hf⟩ := rc_e hf
    obtain ⟨he, hc⟩ := ct_of (y := y_X11_isSame) (ret := (some .boolean)) (rs := [.int x]) one_X11_isSame (mk_X11_isSame l) rfl (by decide +kernel) (fun h => by cases h) (Or.inr (Or.inr (Or.inl ⟨rfl, rfl⟩))) rfl (Nat.le_of_ble_eq_true rfl) rfl (Nat.le_of_ble_eq_true rfl) hf
    exact ⟨rfl, fun _ => ⟨_, _, rfl, hs⟩, _, t, hk, Nat.le_of_ble_eq_true rfl, he, hc⟩
  · cases h
theorem kc_X11_build : ab_okC b_X11_build RX11 false m_X11_build = true := by decide +kernel
theorem kf_X11_build : ab_okF RX11 m_X11_build = true := by decide +kernel
theorem mk_X11_build (l : Launch) : mok l b_X11_build RX11 false 2 54 m_X11_build := ⟨okC_e kc_X11_build, okF_e kf_X11_build, List.forall_mem_cons.mpr ⟨Or.inl (cee_of kd_X11_letter (by decide +kernel) (ct_X11_letter l) rfl), List.forall_mem_cons.mpr ⟨Or.inl (cee_of kd_X11_put (by decide +kernel) (ct_X11_put l) rfl), List.forall_mem_cons.mpr ⟨Or.inl (cee_of kd_X11_isShared (by decide +kernel) (ct_X11_isShared l) rfl), List.forall_mem_cons.mpr ⟨Or.inl (cee_of kd_X11_isSame (by decide +kernel) (ct_X11_isSame l) rfl), fun _ h => absurd h List.not_mem_nil⟩⟩⟩⟩⟩
theorem kd_X11_build : ab_okY y_X11_build b_X11_build 6 none 1 2 11 = true := by decide +kernel
theorem ct_X11_build (l : Launch) : ab_spec l y_X11_build b_X11_build 6 none 2 54 1 2 11 g_X11_build := by
  intro as st k r h
  unfold g_X11_build at h
  split at h
  · obtain ⟨t, hf, hk⟩ := rv_e h
    obtain ⟨hs, hf⟩ := rc_e hf
    obtain ⟨he, hc⟩ := ct_of (y := y_X11_build) (ret := none) (rs := []) one_X11_build (mk_X11_build l) rfl (by decide +kernel) (fun h => by cases h) (Or.inl ⟨rfl, rfl⟩) rfl (Nat.le_of_ble_eq_true rfl) rfl (Nat.le_of_ble_eq_true rfl) hf
    exact ⟨rfl, fun _ => ⟨_, _, rfl, hs⟩, _, t, hk, Nat.le_of_ble_eq_true rfl, he, hc⟩
  · cases h
theorem kc_X11_done : ab_okC b_X11_done RX11 false m_X11_done = true := by decide +kernel
theorem kf_X11_done : ab_okF RX11 m_X11_done = true := by decide +kernel
theorem mk_X11_done (l : Launch) : mok l b_X11_done RX11 false 3 79 m_X11_done := ⟨okC_e kc_X11_done, okF_e kf_X11_done, List.forall_mem_cons.mpr ⟨Or.inl (cee_of kd_X11_isDictionary (by decide +kernel) (ct_X11_isDictionary l) rfl), List.forall_mem_cons.mpr ⟨Or.inl (cee_of kd_X11_build (by decide +kernel) (ct_X11_build l) rfl), fun _ h => absurd h List.not_mem_nil⟩⟩⟩
theorem kd_X11_done : ab_okY y_X11_done b_X11_done 2 (some .int) 1 2 11 = true := by decide +kernel
theorem ct_X11_done (l : Launch) : ab_spec l y_X11_done b_X11_done 2 (some .int) 3 79 1 2 11 g_X11_done := by
  intro as st k r h
  unfold g_X11_done at h
  split at h
  · obtain ⟨x, t, hf, hk⟩ := ri_e h
    obtain ⟨hs, hf⟩ := rc_e hf
    obtain ⟨he, hc⟩ := ct_of (y := y_X11_done) (ret := (some .int)) (rs := [.int x]) one_X11_done (mk_X11_done l) rfl (by decide +kernel) (fun h => by cases h) (Or.inr (Or.inl ⟨rfl, rfl⟩)) rfl (Nat.le_of_ble_eq_true rfl) rfl (Nat.le_of_ble_eq_true rfl) hf
    exact ⟨rfl, fun _ => ⟨_, _, rfl, hs⟩, _, t, hk, Nat.le_of_ble_eq_true rfl, he, hc⟩
  · cases h
theorem kc_X7_leastNotBelow : ab_okC b_X7_leastNotBelow RX7 false m_X7_leastNotBelow = true := by decide +kernel
theorem kf_X7_leastNotBelow : ab_okF RX7 m_X7_leastNotBelow = true := by decide +kernel
theorem mk_X7_leastNotBelow (l : Launch) : mok l b_X7_leastNotBelow RX7 false 4 89 m_X7_leastNotBelow := ⟨okC_e kc_X7_leastNotBelow, okF_e kf_X7_leastNotBelow, List.forall_mem_cons.mpr ⟨Or.inl (cee_of kd_X7_compareWith (by decide +kernel) (ct_X7_compareWith l) rfl), fun _ h => absurd h List.not_mem_nil⟩⟩
theorem kd_X7_leastNotBelow : ab_okY y_X7_leastNotBelow b_X7_leastNotBelow 6 (some .int) 1 2 7 = true := by decide +kernel
theorem ct_X7_leastNotBelow (l : Launch) : ab_spec l y_X7_leastNotBelow b_X7_leastNotBelow 6 (some .int) 4 89 1 2 7 g_X7_leastNotBelow := by
  intro as st k r h
  unfold g_X7_leastNotBelow at h
  split at h
  · obtain ⟨x, t, hf, hk⟩ := ri_e h
    obtain ⟨hs, hf⟩ := rc_e hf
    obtain ⟨he, hc⟩ := ct_of (y := y_X7_leastNotBelow) (ret := (some .int)) (rs := [.int x]) one_X7_leastNotBelow (mk_X7_leastNotBelow l) rfl (by decide +kernel) (fun h => by cases h) (Or.inr (Or.inl ⟨rfl, rfl⟩)) rfl (Nat.le_of_ble_eq_true rfl) rfl (Nat.le_of_ble_eq_true rfl) hf
    exact ⟨rfl, fun _ => ⟨_, _, rfl, hs⟩, _, t, hk, Nat.le_of_ble_eq_true rfl, he, hc⟩
  · cases h
theorem kc_X7_numberOf : ab_okC b_X7_numberOf RX7 false m_X7_numberOf = true := by decide +kernel
theorem kf_X7_numberOf : ab_okF RX7 m_X7_numberOf = true := by decide +kernel
theorem mk_X7_numberOf (l : Launch) : mok l b_X7_numberOf RX7 false 5 114 m_X7_numberOf := ⟨okC_e kc_X7_numberOf, okF_e kf_X7_numberOf, List.forall_mem_cons.mpr ⟨Or.inl (cee_of kd_X7_compareWith (by decide +kernel) (ct_X7_compareWith l) rfl), List.forall_mem_cons.mpr ⟨Or.inl (cee_of kd_X7_leastNotBelow (by decide +kernel) (ct_X7_leastNotBelow l) rfl), fun _ h => absurd h List.not_mem_nil⟩⟩⟩
theorem kd_X7_numberOf : ab_okY y_X7_numberOf b_X7_numberOf 3 (some .int) 1 2 7 = true := by decide +kernel
theorem ct_X7_numberOf (l : Launch) : ab_spec l y_X7_numberOf b_X7_numberOf 3 (some .int) 5 114 1 2 7 g_X7_numberOf := by
  intro as st k r h
  unfold g_X7_numberOf at h
  split at h
  · obtain ⟨x, t, hf, hk⟩ := ri_e h
    obtain ⟨hs, hf⟩ := rc_e hf
    obtain ⟨he, hc⟩ := ct_of (y := y_X7_numberOf) (ret := (some .int)) (rs := [.int x]) one_X7_numberOf (mk_X7_numberOf l) rfl (by decide +kernel) (fun h => by cases h) (Or.inr (Or.inl ⟨rfl, rfl⟩)) rfl (Nat.le_of_ble_eq_true rfl) rfl (Nat.le_of_ble_eq_true rfl) hf
    exact ⟨rfl, fun _ => ⟨_, _, rfl, hs⟩, _, t, hk, Nat.le_of_ble_eq_true rfl, he, hc⟩
  · cases h
theorem kc_X10_find : ab_okC b_X10_find RX10 false m_X10_find = true := by decide +kernel
theorem kf_X10_find : ab_okF RX10 m_X10_find = true := by decide +kernel
theorem mk_X10_find (l : Launch) : mok l b_X10_find RX10 false 6 136 m_X10_find := ⟨okC_e kc_X10_find, okF_e kf_X10_find, List.forall_mem_cons.mpr ⟨Or.inl (cee_of kd_X10_takeCollected (by decide +kernel) (ct_X10_takeCollected l) rfl), List.forall_mem_cons.mpr ⟨Or.inl (cee_of kd_X10_isDictionary (by decide +kernel) (ct_X10_isDictionary l) rfl), List.forall_mem_cons.mpr ⟨Or.inl (cee_of kd_X7_numberOf (by decide +kernel) (ct_X7_numberOf l) rfl), List.forall_mem_cons.mpr ⟨Or.inl (cee_of kd_X7_outAt (by decide +kernel) (ct_X7_outAt l) rfl), fun _ h => absurd h List.not_mem_nil⟩⟩⟩⟩⟩
theorem kd_X10_find : ab_okY y_X10_find b_X10_find 4 (some .long) 1 2 10 = true := by decide +kernel
theorem ct_X10_find (l : Launch) : ab_spec l y_X10_find b_X10_find 4 (some .long) 6 136 1 2 10 g_X10_find := by
  intro as st k r h
  unfold g_X10_find at h
  split at h
  · obtain ⟨x, t, hf, hk⟩ := rl_e h
    obtain ⟨hs, hf⟩ := rc_e hf
    obtain ⟨he, hc⟩ := ct_of (y := y_X10_find) (ret := (some .long)) (rs := [.long x]) one_X10_find (mk_X10_find l) rfl (by decide +kernel) (fun h => by cases h) (Or.inr (Or.inr (Or.inr (Or.inl ⟨rfl, rfl⟩)))) rfl (Nat.le_of_ble_eq_true rfl) rfl (Nat.le_of_ble_eq_true rfl) hf
    exact ⟨rfl, fun _ => ⟨_, _, rfl, hs⟩, _, t, hk, Nat.le_of_ble_eq_true rfl, he, hc⟩
  · cases h
theorem kc_X11_place : ab_okC b_X11_place RX11 false m_X11_place = true := by decide +kernel
theorem kf_X11_place : ab_okF RX11 m_X11_place = true := by decide +kernel
theorem mk_X11_place (l : Launch) : mok l b_X11_place RX11 false 2 49 m_X11_place := ⟨okC_e kc_X11_place, okF_e kf_X11_place, List.forall_mem_cons.mpr ⟨Or.inl (cee_of kd_X11_compare (by decide +kernel) (ct_X11_compare l) rfl), fun _ h => absurd h List.not_mem_nil⟩⟩
theorem kd_X11_place : ab_okY y_X11_place b_X11_place 4 (some .int) 1 3 11 = true := by decide +kernel
theorem ct_X11_place (l : Launch) : ab_spec l y_X11_place b_X11_place 4 (some .int) 2 49 1 3 11 g_X11_place := by
  intro as st k r h
  unfold g_X11_place at h
  split at h
  · obtain ⟨x, t, hf, hk⟩ := ri_e h
    obtain ⟨hs, hf⟩ := rc_e hf
    obtain ⟨he, hc⟩ := ct_of (y := y_X11_place) (ret := (some .int)) (rs := [.int x]) one_X11_place (mk_X11_place l) rfl (by decide +kernel) (fun h => by cases h) (Or.inr (Or.inl ⟨rfl, rfl⟩)) rfl (Nat.le_of_ble_eq_true rfl) rfl (Nat.le_of_ble_eq_true rfl) hf
    exact ⟨rfl, fun _ => ⟨_, _, rfl, hs⟩, _, t, hk, Nat.le_of_ble_eq_true rfl, he, hc⟩
  · cases h
theorem kc_X11_find : ab_okC b_X11_find RX11 false m_X11_find = true := by decide +kernel
theorem kf_X11_find : ab_okF RX11 m_X11_find = true := by decide +kernel
theorem mk_X11_find (l : Launch) : mok l b_X11_find RX11 false 3 72 m_X11_find := ⟨okC_e kc_X11_find, okF_e kf_X11_find, List.forall_mem_cons.mpr ⟨Or.inl (cee_of kd_X11_isDictionary (by decide +kernel) (ct_X11_isDictionary l) rfl), List.forall_mem_cons.mpr ⟨Or.inl (cee_of kd_X11_forget (by decide +kernel) (ct_X11_forget l) rfl), List.forall_mem_cons.mpr ⟨Or.inl (cee_of kd_X11_place (by decide +kernel) (ct_X11_place l) rfl), fun _ h => absurd h List.not_mem_nil⟩⟩⟩⟩
theorem kd_X11_find : ab_okY y_X11_find b_X11_find 4 (some .long) 1 2 11 = true := by decide +kernel
theorem ct_X11_find (l : Launch) : ab_spec l y_X11_find b_X11_find 4 (some .long) 3 72 1 2 11 g_X11_find := by
  intro as st k r h
  unfold g_X11_find at h
  split at h
  · obtain ⟨x, t, hf, hk⟩ := rl_e h
    obtain ⟨hs, hf⟩ := rc_e hf
    obtain ⟨he, hc⟩ := ct_of (y := y_X11_find) (ret := (some .long)) (rs := [.long x]) one_X11_find (mk_X11_find l) rfl (by decide +kernel) (fun h => by cases h) (Or.inr (Or.inr (Or.inr (Or.inl ⟨rfl, rfl⟩)))) rfl (Nat.le_of_ble_eq_true rfl) rfl (Nat.le_of_ble_eq_true rfl) hf
    exact ⟨rfl, fun _ => ⟨_, _, rfl, hs⟩, _, t, hk, Nat.le_of_ble_eq_true rfl, he, hc⟩
  · cases h
theorem kc_X1_has : ab_okC b_X1_has RX1 false m_X1_has = true := by decide +kernel
theorem kf_X1_has : ab_okF RX1 m_X1_has = true := by decide +kernel
theorem mk_X1_has (l : Launch) : mok l b_X1_has RX1 false 0 0 m_X1_has := ⟨okC_e kc_X1_has, okF_e kf_X1_has, fun _ h => absurd h List.not_mem_nil⟩
theorem kd_X1_has : ab_okY y_X1_has b_X1_has 2 (some .boolean) 1 2 1 = true := by decide +kernel
theorem ct_X1_has (l : Launch) : ab_spec l y_X1_has b_X1_has 2 (some .boolean) 0 0 1 2 1 g_X1_has := by
  intro as st k r h
  unfold g_X1_has at h
  split at h
  · obtain ⟨x, t, hf, hk⟩ := ri_e h
    obtain ⟨hs, hf⟩ := rc_e hf
    obtain ⟨he, hc⟩ := ct_of (y := y_X1_has) (ret := (some .boolean)) (rs := [.int x]) one_X1_has (mk_X1_has l) rfl (by decide +kernel) (fun h => by cases h) (Or.inr (Or.inr (Or.inl ⟨rfl, rfl⟩))) rfl (Nat.le_of_ble_eq_true rfl) rfl (Nat.le_of_ble_eq_true rfl) hf
    exact ⟨rfl, fun _ => ⟨_, _, rfl, hs⟩, _, t, hk, Nat.le_of_ble_eq_true rfl, he, hc⟩
  · cases h
theorem kc_X1_arcsOf : ab_okC b_X1_arcsOf RX1 false m_X1_arcsOf = true := by decide +kernel
theorem kf_X1_arcsOf : ab_okF RX1 m_X1_arcsOf = true := by decide +kernel
theorem mk_X1_arcsOf (l : Launch) : mok l b_X1_arcsOf RX1 false 1 21 m_X1_arcsOf := ⟨okC_e kc_X1_arcsOf, okF_e kf_X1_arcsOf, List.forall_mem_cons.mpr ⟨Or.inl (cee_of kd_X1_has (by decide +kernel) (ct_X1_has l) rfl), fun _ h => absurd h List.not_mem_nil⟩⟩
theorem kd_X1_arcsOf : ab_okY y_X1_arcsOf b_X1_arcsOf 2 (some .int) 1 2 1 = true := by decide +kernel
theorem ct_X1_arcsOf (l : Launch) : ab_spec l y_X1_arcsOf b_X1_arcsOf 2 (some .int) 1 21 1 2 1 g_X1_arcsOf := by
  intro as st k r h
  unfold g_X1_arcsOf at h
  split at h
  · obtain ⟨x, t, hf, hk⟩ := ri_e h
    obtain ⟨hs, hf⟩ := rc_e hf
    obtain ⟨he, hc⟩ := ct_of (y := y_X1_arcsOf) (ret := (some .int)) (rs := [.int x]) one_X1_arcsOf (mk_X1_arcsOf l) rfl (by decide +kernel) (fun h => by cases h) (Or.inr (Or.inl ⟨rfl, rfl⟩)) rfl (Nat.le_of_ble_eq_true rfl) rfl (Nat.le_of_ble_eq_true rfl) hf
    exact ⟨rfl, fun _ => ⟨_, _, rfl, hs⟩, _, t, hk, Nat.le_of_ble_eq_true rfl, he, hc⟩
  · cases h
theorem kc_X1_placeOfArc : ab_okC b_X1_placeOfArc RX1 false m_X1_placeOfArc = true := by decide +kernel
theorem kf_X1_placeOfArc : ab_okF RX1 m_X1_placeOfArc = true := by decide +kernel
theorem mk_X1_placeOfArc (l : Launch) : mok l b_X1_placeOfArc RX1 false 2 42 m_X1_placeOfArc := ⟨okC_e kc_X1_placeOfArc, okF_e kf_X1_placeOfArc, List.forall_mem_cons.mpr ⟨Or.inl (cee_of kd_X1_arcsOf (by decide +kernel) (ct_X1_arcsOf l) rfl), fun _ h => absurd h List.not_mem_nil⟩⟩
theorem kd_X1_placeOfArc : ab_okY y_X1_placeOfArc b_X1_placeOfArc 3 (some .int) 1 3 1 = true := by decide +kernel
theorem ct_X1_placeOfArc (l : Launch) : ab_spec l y_X1_placeOfArc b_X1_placeOfArc 3 (some .int) 2 42 1 3 1 g_X1_placeOfArc := by
  intro as st k r h
  unfold g_X1_placeOfArc at h
  split at h
  · obtain ⟨x, t, hf, hk⟩ := ri_e h
    obtain ⟨hs, hf⟩ := rc_e hf
    obtain ⟨he, hc⟩ := ct_of (y := y_X1_placeOfArc) (ret := (some .int)) (rs := [.int x]) one_X1_placeOfArc (mk_X1_placeOfArc l) rfl (by decide +kernel) (fun h => by cases h) (Or.inr (Or.inl ⟨rfl, rfl⟩)) rfl (Nat.le_of_ble_eq_true rfl) rfl (Nat.le_of_ble_eq_true rfl) hf
    exact ⟨rfl, fun _ => ⟨_, _, rfl, hs⟩, _, t, hk, Nat.le_of_ble_eq_true rfl, he, hc⟩
  · cases h
theorem kc_X1_tellArc : ab_okC b_X1_tellArc RX1 false m_X1_tellArc = true := by decide +kernel
theorem kf_X1_tellArc : ab_okF RX1 m_X1_tellArc = true := by decide +kernel
theorem mk_X1_tellArc (l : Launch) : mok l b_X1_tellArc RX1 false 3 64 m_X1_tellArc := ⟨okC_e kc_X1_tellArc, okF_e kf_X1_tellArc, List.forall_mem_cons.mpr ⟨Or.inl (cee_of kd_X1_placeOfArc (by decide +kernel) (ct_X1_placeOfArc l) rfl), fun _ h => absurd h List.not_mem_nil⟩⟩
theorem kd_X1_tellArc : ab_okY y_X1_tellArc b_X1_tellArc 5 (some .long) 1 4 1 = true := by decide +kernel
theorem ct_X1_tellArc (l : Launch) : ab_spec l y_X1_tellArc b_X1_tellArc 5 (some .long) 3 64 1 4 1 g_X1_tellArc := by
  intro as st k r h
  unfold g_X1_tellArc at h
  split at h
  · obtain ⟨x, t, hf, hk⟩ := rl_e h
    obtain ⟨hs, hf⟩ := rc_e hf
    obtain ⟨he, hc⟩ := ct_of (y := y_X1_tellArc) (ret := (some .long)) (rs := [.long x]) one_X1_tellArc (mk_X1_tellArc l) rfl (by decide +kernel) (fun h => by cases h) (Or.inr (Or.inr (Or.inr (Or.inl ⟨rfl, rfl⟩)))) rfl (Nat.le_of_ble_eq_true rfl) rfl (Nat.le_of_ble_eq_true rfl) hf
    exact ⟨rfl, fun _ => ⟨_, _, rfl, hs⟩, _, t, hk, Nat.le_of_ble_eq_true rfl, he, hc⟩
  · cases h
theorem kc_X1_stateBehindSign : ab_okC b_X1_stateBehindSign RX1 false m_X1_stateBehindSign = true := by decide +kernel
theorem kf_X1_stateBehindSign : ab_okF RX1 m_X1_stateBehindSign = true := by decide +kernel
theorem mk_X1_stateBehindSign (l : Launch) : mok l b_X1_stateBehindSign RX1 false 4 88 m_X1_stateBehindSign := ⟨okC_e kc_X1_stateBehindSign, okF_e kf_X1_stateBehindSign, List.forall_mem_cons.mpr ⟨Or.inl (cee_of kd_X1_arcsOf (by decide +kernel) (ct_X1_arcsOf l) rfl), List.forall_mem_cons.mpr ⟨Or.inl (cee_of kd_X1_tellArc (by decide +kernel) (ct_X1_tellArc l) rfl), fun _ h => absurd h List.not_mem_nil⟩⟩⟩
theorem kd_X1_stateBehindSign : ab_okY y_X1_stateBehindSign b_X1_stateBehindSign 4 (some .int) 1 3 1 = true := by decide +kernel
theorem ct_X1_stateBehindSign (l : Launch) : ab_spec l y_X1_stateBehindSign b_X1_stateBehindSign 4 (some .int) 4 88 1 3 1 g_X1_stateBehindSign := by
  intro as st k r h
  unfold g_X1_stateBehindSign at h
  split at h
  · obtain ⟨x, t, hf, hk⟩ := ri_e h
    obtain ⟨hs, hf⟩ := rc_e hf
    obtain ⟨he, hc⟩ := ct_of (y := y_X1_stateBehindSign) (ret := (some .int)) (rs := [.int x]) one_X1_stateBehindSign (mk_X1_stateBehindSign l) rfl (by decide +kernel) (fun h => by cases h) (Or.inr (Or.inl ⟨rfl, rfl⟩)) rfl (Nat.le_of_ble_eq_true rfl) rfl (Nat.le_of_ble_eq_true rfl) hf
    exact ⟨rfl, fun _ => ⟨_, _, rfl, hs⟩, _, t, hk, Nat.le_of_ble_eq_true rfl, he, hc⟩
  · cases h
theorem kc_X1_stateBehind : ab_okC b_X1_stateBehind RX1 false m_X1_stateBehind = true := by decide +kernel
theorem kf_X1_stateBehind : ab_okF RX1 m_X1_stateBehind = true := by decide +kernel
theorem mk_X1_stateBehind (l : Launch) : mok l b_X1_stateBehind RX1 false 5 111 m_X1_stateBehind := ⟨okC_e kc_X1_stateBehind, okF_e kf_X1_stateBehind, List.forall_mem_cons.mpr ⟨Or.inl (cee_of kd_X6_at (by decide +kernel) (ct_X6_at l) rfl), List.forall_mem_cons.mpr ⟨Or.inl (cee_of kd_X1_stateBehindSign (by decide +kernel) (ct_X1_stateBehindSign l) rfl), fun _ h => absurd h List.not_mem_nil⟩⟩⟩
theorem kd_X1_stateBehind : ab_okY y_X1_stateBehind b_X1_stateBehind 4 (some .int) 1 2 1 = true := by decide +kernel
theorem ct_X1_stateBehind (l : Launch) : ab_spec l y_X1_stateBehind b_X1_stateBehind 4 (some .int) 5 111 1 2 1 g_X1_stateBehind := by
  intro as st k r h
  unfold g_X1_stateBehind at h
  split at h
  · obtain ⟨x, t, hf, hk⟩ := ri_e h
    obtain ⟨hs, hf⟩ := rc_e hf
    obtain ⟨he, hc⟩ := ct_of (y := y_X1_stateBehind) (ret := (some .int)) (rs := [.int x]) one_X1_stateBehind (mk_X1_stateBehind l) rfl (by decide +kernel) (fun h => by cases h) (Or.inr (Or.inl ⟨rfl, rfl⟩)) rfl (Nat.le_of_ble_eq_true rfl) rfl (Nat.le_of_ble_eq_true rfl) hf
    exact ⟨rfl, fun _ => ⟨_, _, rfl, hs⟩, _, t, hk, Nat.le_of_ble_eq_true rfl, he, hc⟩
  · cases h
theorem kc_X10_state : ab_okC b_X10_state RX10 false m_X10_state = true := by decide +kernel
theorem kf_X10_state : ab_okF RX10 m_X10_state = true := by decide +kernel
theorem mk_X10_state (l : Launch) : mok l b_X10_state RX10 false 6 134 m_X10_state := ⟨okC_e kc_X10_state, okF_e kf_X10_state, List.forall_mem_cons.mpr ⟨Or.inl (cee_of kd_X10_takeCollected (by decide +kernel) (ct_X10_takeCollected l) rfl), List.forall_mem_cons.mpr ⟨Or.inl (cee_of kd_X10_isDictionary (by decide +kernel) (ct_X10_isDictionary l) rfl), List.forall_mem_cons.mpr ⟨Or.inl (cee_of kd_X1_stateBehind (by decide +kernel) (ct_X1_stateBehind l) rfl), fun _ h => absurd h List.not_mem_nil⟩⟩⟩⟩
theorem kd_X10_state : ab_okY y_X10_state b_X10_state 4 (some .int) 1 2 10 = true := by decide +kernel
theorem ct_X10_state (l : Launch) : ab_spec l y_X10_state b_X10_state 4 (some .int) 6 134 1 2 10 g_X10_state := by
  intro as st k r h
  unfold g_X10_state at h
  split at h
  · obtain ⟨x, t, hf, hk⟩ := ri_e h
    obtain ⟨hs, hf⟩ := rc_e hf
    obtain ⟨he, hc⟩ := ct_of (y := y_X10_state) (ret := (some .int)) (rs := [.int x]) one_X10_state (mk_X10_state l) rfl (by decide +kernel) (fun h => by cases h) (Or.inr (Or.inl ⟨rfl, rfl⟩)) rfl (Nat.le_of_ble_eq_true rfl) rfl (Nat.le_of_ble_eq_true rfl) hf
    exact ⟨rfl, fun _ => ⟨_, _, rfl, hs⟩, _, t, hk, Nat.le_of_ble_eq_true rfl, he, hc⟩
  · cases h
theorem kc_X11_isBeginning : ab_okC b_X11_isBeginning RX11 false m_X11_isBeginning = true := by decide +kernel
theorem kf_X11_isBeginning : ab_okF RX11 m_X11_isBeginning = true := by decide +kernel
theorem mk_X11_isBeginning (l : Launch) : mok l b_X11_isBeginning RX11 false 1 23 m_X11_isBeginning := ⟨okC_e kc_X11_isBeginning, okF_e kf_X11_isBeginning, List.forall_mem_cons.mpr ⟨Or.inl (cee_of kd_X11_letter (by decide +kernel) (ct_X11_letter l) rfl), fun _ h => absurd h List.not_mem_nil⟩⟩
theorem kd_X11_isBeginning : ab_okY y_X11_isBeginning b_X11_isBeginning 6 (some .boolean) 1 4 11 = true := by decide +kernel
theorem ct_X11_isBeginning (l : Launch) : ab_spec l y_X11_isBeginning b_X11_isBeginning 6 (some .boolean) 1 23 1 4 11 g_X11_isBeginning := by
  intro as st k r h
  unfold g_X11_isBeginning at h
  split at h
  · obtain ⟨x, t, hf, hk⟩ := ri_e h
    obtain ⟨hs, hf⟩ := rc_e hf
    obtain ⟨he, hc⟩ := ct_of (y := y_X11_isBeginning) (ret := (some .boolean)) (rs := [.int x]) one_X11_isBeginning (mk_X11_isBeginning l) rfl (by decide +kernel) (fun h => by cases h) (Or.inr (Or.inr (Or.inl ⟨rfl, rfl⟩))) rfl (Nat.le_of_ble_eq_true rfl) rfl (Nat.le_of_ble_eq_true rfl) hf
    exact ⟨rfl, fun _ => ⟨_, _, rfl, hs⟩, _, t, hk, Nat.le_of_ble_eq_true rfl, he, hc⟩
  · cases h
theorem kc_X11_state : ab_okC b_X11_state RX11 false m_X11_state = true := by decide +kernel
theorem kf_X11_state : ab_okF RX11 m_X11_state = true := by decide +kernel
theorem mk_X11_state (l : Launch) : mok l b_X11_state RX11 false 3 79 m_X11_state := ⟨okC_e kc_X11_state, okF_e kf_X11_state, List.forall_mem_cons.mpr ⟨Or.inl (cee_of kd_X11_isDictionary (by decide +kernel) (ct_X11_isDictionary l) rfl), List.forall_mem_cons.mpr ⟨Or.inl (cee_of kd_X11_forget (by decide +kernel) (ct_X11_forget l) rfl), List.forall_mem_cons.mpr ⟨Or.inl (cee_of kd_X11_build (by decide +kernel) (ct_X11_build l) rfl), List.forall_mem_cons.mpr ⟨Or.inl (cee_of kd_X11_isBeginning (by decide +kernel) (ct_X11_isBeginning l) rfl), fun _ h => absurd h List.not_mem_nil⟩⟩⟩⟩⟩
theorem kd_X11_state : ab_okY y_X11_state b_X11_state 4 (some .int) 1 2 11 = true := by decide +kernel
theorem ct_X11_state (l : Launch) : ab_spec l y_X11_state b_X11_state 4 (some .int) 3 79 1 2 11 g_X11_state := by
  intro as st k r h
  unfold g_X11_state at h
  split at h
  · obtain ⟨x, t, hf, hk⟩ := ri_e h
    obtain ⟨hs, hf⟩ := rc_e hf
    obtain ⟨he, hc⟩ := ct_of (y := y_X11_state) (ret := (some .int)) (rs := [.int x]) one_X11_state (mk_X11_state l) rfl (by decide +kernel) (fun h => by cases h) (Or.inr (Or.inl ⟨rfl, rfl⟩)) rfl (Nat.le_of_ble_eq_true rfl) rfl (Nat.le_of_ble_eq_true rfl) hf
    exact ⟨rfl, fun _ => ⟨_, _, rfl, hs⟩, _, t, hk, Nat.le_of_ble_eq_true rfl, he, hc⟩
  · cases h
theorem kc_X7_longest : ab_okC b_X7_longest RX7 false m_X7_longest = true := by decide +kernel
theorem kf_X7_longest : ab_okF RX7 m_X7_longest = true := by decide +kernel
theorem mk_X7_longest (l : Launch) : mok l b_X7_longest RX7 false 2 42 m_X7_longest := ⟨okC_e kc_X7_longest, okF_e kf_X7_longest, List.forall_mem_cons.mpr ⟨Or.inl (cee_of kd_X7_lengthAt (by decide +kernel) (ct_X7_lengthAt l) rfl), List.forall_mem_cons.mpr ⟨Or.inr (Or.inr ⟨rfl, Nat.le_of_ble_eq_true rfl, Nat.le_of_ble_eq_true rfl, Or.inl ⟨rfl, rfl, by decide +kernel⟩⟩), fun _ h => absurd h List.not_mem_nil⟩⟩⟩
theorem kd_X7_longest : ab_okY y_X7_longest b_X7_longest 3 (some .int) 1 1 7 = true := by decide +kernel
theorem ct_X7_longest (l : Launch) : ab_spec l y_X7_longest b_X7_longest 3 (some .int) 2 42 1 1 7 g_X7_longest := by
  intro as st k r h
  unfold g_X7_longest at h
  split at h
  · obtain ⟨x, t, hf, hk⟩ := ri_e h
    obtain ⟨hs, hf⟩ := rc_e hf
    obtain ⟨he, hc⟩ := ct_of (y := y_X7_longest) (ret := (some .int)) (rs := [.int x]) one_X7_longest (mk_X7_longest l) rfl (by decide +kernel) (fun h => by cases h) (Or.inr (Or.inl ⟨rfl, rfl⟩)) rfl (Nat.le_of_ble_eq_true rfl) rfl (Nat.le_of_ble_eq_true rfl) hf
    exact ⟨rfl, fun _ => ⟨_, _, rfl, hs⟩, _, t, hk, Nat.le_of_ble_eq_true rfl, he, hc⟩
  · cases h
theorem kc_X10_count : ab_okC b_X10_count RX10 false m_X10_count = true := by decide +kernel
theorem kf_X10_count : ab_okF RX10 m_X10_count = true := by decide +kernel
theorem mk_X10_count (l : Launch) : mok l b_X10_count RX10 false 3 64 m_X10_count := ⟨okC_e kc_X10_count, okF_e kf_X10_count, List.forall_mem_cons.mpr ⟨Or.inl (cee_of kd_X10_isDictionary (by decide +kernel) (ct_X10_isDictionary l) rfl), List.forall_mem_cons.mpr ⟨Or.inl (cee_of kd_X7_longest (by decide +kernel) (ct_X7_longest l) rfl), fun _ h => absurd h List.not_mem_nil⟩⟩⟩
theorem kd_X10_count : ab_okY y_X10_count b_X10_count 4 (some .int) 1 3 10 = true := by decide +kernel
theorem ct_X10_count (l : Launch) : ab_spec l y_X10_count b_X10_count 4 (some .int) 3 64 1 3 10 g_X10_count := by
  intro as st k r h
  unfold g_X10_count at h
  split at h
  · obtain ⟨x, t, hf, hk⟩ := ri_e h
    obtain ⟨hs, hf⟩ := rc_e hf
    obtain ⟨he, hc⟩ := ct_of (y := y_X10_count) (ret := (some .int)) (rs := [.int x]) one_X10_count (mk_X10_count l) rfl (by decide +kernel) (fun h => by cases h) (Or.inr (Or.inl ⟨rfl, rfl⟩)) rfl (Nat.le_of_ble_eq_true rfl) rfl (Nat.le_of_ble_eq_true rfl) hf
    exact ⟨rfl, fun _ => ⟨_, _, rfl, hs⟩, _, t, hk, Nat.le_of_ble_eq_true rfl, he, hc⟩
  · cases h
