theorem kc_X3_enter : ab_okC b_X3_enter RX3 false m_X3_enter = true := by decide +kernel
theorem kf_X3_enter : ab_okF RX3 m_X3_enter = true := by decide +kernel
theorem mk_X3_enter (l : Launch) : mok l b_X3_enter RX3 false 2 42 m_X3_enter := ⟨okC_e kc_X3_enter, okF_e kf_X3_enter, List.forall_mem_cons.mpr ⟨Or.inl (cee_of kd_X1_lastOf (by decide +kernel) (ct_X1_lastOf l) rfl), List.forall_mem_cons.mpr ⟨Or.inl (cee_of kd_X1_arcsOf (by decide +kernel) (ct_X1_arcsOf l) rfl), List.forall_mem_cons.mpr ⟨Or.inl (cee_of kd_X7_append (by decide +kernel) (ct_X7_append l) rfl), fun _ h => absurd h List.not_mem_nil⟩⟩⟩⟩
theorem kd_X3_enter : ab_okY y_X3_enter b_X3_enter 9 (some .boolean) 1 6 3 = true := by decide +kernel
theorem ct_X3_enter (l : Launch) : ab_spec l y_X3_enter b_X3_enter 9 (some .boolean) 2 42 1 6 3 g_X3_enter := by
  intro as st k r h
  unfold g_X3_enter at h
  split at h
  · obtain ⟨x, t, hf, hk⟩ := ri_e h
    obtain ⟨hs, hf⟩ := rc_e hf
    obtain ⟨he, hc⟩ := ct_of (y := y_X3_enter) (ret := (some .boolean)) (rs := [.int x]) one_X3_enter (mk_X3_enter l) rfl (by decide +kernel) (fun h => by cases h) (Or.inr (Or.inr (Or.inl ⟨rfl, rfl⟩))) rfl (Nat.le_of_ble_eq_true rfl) rfl (Nat.le_of_ble_eq_true rfl) hf
    exact ⟨rfl, fun _ => ⟨_, _, rfl, hs⟩, _, t, hk, Nat.le_of_ble_eq_true rfl, he, hc⟩
  · cases h
theorem kc_X3_follow : ab_okC b_X3_follow RX3 false m_X3_follow = true := by decide +kernel
theorem kf_X3_follow : ab_okF RX3 m_X3_follow = true := by decide +kernel
theorem mk_X3_follow (l : Launch) : mok l b_X3_follow RX3 false 4 88 m_X3_follow := ⟨okC_e kc_X3_follow, okF_e kf_X3_follow, List.forall_mem_cons.mpr ⟨Or.inl (cee_of kd_X1_tellArc (by decide +kernel) (ct_X1_tellArc l) rfl), List.forall_mem_cons.mpr ⟨Or.inl (cee_of kd_X3_enter (by decide +kernel) (ct_X3_enter l) rfl), fun _ h => absurd h List.not_mem_nil⟩⟩⟩
theorem kd_X3_follow : ab_okY y_X3_follow b_X3_follow 8 (some .boolean) 1 4 3 = true := by decide +kernel
theorem ct_X3_follow (l : Launch) : ab_spec l y_X3_follow b_X3_follow 8 (some .boolean) 4 88 1 4 3 g_X3_follow := by
  intro as st k r h
  unfold g_X3_follow at h
  split at h
  · obtain ⟨x, t, hf, hk⟩ := ri_e h
    obtain ⟨hs, hf⟩ := rc_e hf
    obtain ⟨he, hc⟩ := ct_of (y := y_X3_follow) (ret := (some .boolean)) (rs := [.int x]) one_X3_follow (mk_X3_follow l) rfl (by decide +kernel) (fun h => by cases h) (Or.inr (Or.inr (Or.inl ⟨rfl, rfl⟩))) rfl (Nat.le_of_ble_eq_true rfl) rfl (Nat.le_of_ble_eq_true rfl) hf
    exact ⟨rfl, fun _ => ⟨_, _, rfl, hs⟩, _, t, hk, Nat.le_of_ble_eq_true rfl, he, hc⟩
  · cases h
theorem kc_X3_listTerms : ab_okC b_X3_listTerms RX3 false m_X3_listTerms = true := by decide +kernel
theorem kf_X3_listTerms : ab_okF RX3 m_X3_listTerms = true := by decide +kernel
theorem mk_X3_listTerms (l : Launch) : mok l b_X3_listTerms RX3 false 5 115 m_X3_listTerms := ⟨okC_e kc_X3_listTerms, okF_e kf_X3_listTerms, List.forall_mem_cons.mpr ⟨Or.inl (cee_of kd_X1_tellArc (by decide +kernel) (ct_X1_tellArc l) rfl), List.forall_mem_cons.mpr ⟨Or.inl (cee_of kd_X7_clear (by decide +kernel) (ct_X7_clear l) rfl), List.forall_mem_cons.mpr ⟨Or.inl (cee_of kd_X3_enter (by decide +kernel) (ct_X3_enter l) rfl), List.forall_mem_cons.mpr ⟨Or.inl (cee_of kd_X3_follow (by decide +kernel) (ct_X3_follow l) rfl), fun _ h => absurd h List.not_mem_nil⟩⟩⟩⟩⟩
theorem kd_X3_listTerms : ab_okY y_X3_listTerms b_X3_listTerms 8 (some .boolean) 1 3 3 = true := by decide +kernel
theorem ct_X3_listTerms (l : Launch) : ab_spec l y_X3_listTerms b_X3_listTerms 8 (some .boolean) 5 115 1 3 3 g_X3_listTerms := by
  intro as st k r h
  unfold g_X3_listTerms at h
  split at h
  · obtain ⟨x, t, hf, hk⟩ := ri_e h
    obtain ⟨hs, hf⟩ := rc_e hf
    obtain ⟨he, hc⟩ := ct_of (y := y_X3_listTerms) (ret := (some .boolean)) (rs := [.int x]) one_X3_listTerms (mk_X3_listTerms l) rfl (by decide +kernel) (fun h => by cases h) (Or.inr (Or.inr (Or.inl ⟨rfl, rfl⟩))) rfl (Nat.le_of_ble_eq_true rfl) rfl (Nat.le_of_ble_eq_true rfl) hf
    exact ⟨rfl, fun _ => ⟨_, _, rfl, hs⟩, _, t, hk, Nat.le_of_ble_eq_true rfl, he, hc⟩
  · cases h
theorem kc_X3_read : ab_okC b_X3_read RX3 false m_X3_read = true := by decide +kernel
theorem kf_X3_read : ab_okF RX3 m_X3_read = true := by decide +kernel
theorem mk_X3_read (l : Launch) : mok l b_X3_read RX3 false 6 142 m_X3_read := ⟨okC_e kc_X3_read, okF_e kf_X3_read, List.forall_mem_cons.mpr ⟨Or.inl (cee_of kd_X3_readMachine (by decide +kernel) (ct_X3_readMachine l) rfl), List.forall_mem_cons.mpr ⟨Or.inl (cee_of kd_X3_listTerms (by decide +kernel) (ct_X3_listTerms l) rfl), fun _ h => absurd h List.not_mem_nil⟩⟩⟩
theorem kd_X3_read : ab_okY y_X3_read b_X3_read 3 (some .boolean) 1 3 3 = true := by decide +kernel
theorem ct_X3_read (l : Launch) : ab_spec l y_X3_read b_X3_read 3 (some .boolean) 6 142 1 3 3 g_X3_read := by
  intro as st k r h
  unfold g_X3_read at h
  split at h
  · obtain ⟨x, t, hf, hk⟩ := ri_e h
    obtain ⟨hs, hf⟩ := rc_e hf
    obtain ⟨he, hc⟩ := ct_of (y := y_X3_read) (ret := (some .boolean)) (rs := [.int x]) one_X3_read (mk_X3_read l) rfl (by decide +kernel) (fun h => by cases h) (Or.inr (Or.inr (Or.inl ⟨rfl, rfl⟩))) rfl (Nat.le_of_ble_eq_true rfl) rfl (Nat.le_of_ble_eq_true rfl) hf
    exact ⟨rfl, fun _ => ⟨_, _, rfl, hs⟩, _, t, hk, Nat.le_of_ble_eq_true rfl, he, hc⟩
  · cases h
theorem kc_X6_sameAs : ab_okC b_X6_sameAs RX6 false m_X6_sameAs = true := by decide +kernel
theorem kf_X6_sameAs : ab_okF RX6 m_X6_sameAs = true := by decide +kernel
theorem mk_X6_sameAs (l : Launch) : mok l b_X6_sameAs RX6 false 1 21 m_X6_sameAs := ⟨okC_e kc_X6_sameAs, okF_e kf_X6_sameAs, List.forall_mem_cons.mpr ⟨Or.inl (cee_of kd_X6_at (by decide +kernel) (ct_X6_at l) rfl), fun _ h => absurd h List.not_mem_nil⟩⟩
theorem kd_X6_sameAs : ab_okY y_X6_sameAs b_X6_sameAs 3 (some .boolean) 1 2 6 = true := by decide +kernel
theorem ct_X6_sameAs (l : Launch) : ab_spec l y_X6_sameAs b_X6_sameAs 3 (some .boolean) 1 21 1 2 6 g_X6_sameAs := by
  intro as st k r h
  unfold g_X6_sameAs at h
  split at h
  · obtain ⟨x, t, hf, hk⟩ := ri_e h
    obtain ⟨hs, hf⟩ := rc_e hf
    obtain ⟨he, hc⟩ := ct_of (y := y_X6_sameAs) (ret := (some .boolean)) (rs := [.int x]) one_X6_sameAs (mk_X6_sameAs l) rfl (by decide +kernel) (fun h => by cases h) (Or.inr (Or.inr (Or.inl ⟨rfl, rfl⟩))) rfl (Nat.le_of_ble_eq_true rfl) rfl (Nat.le_of_ble_eq_true rfl) hf
    exact ⟨rfl, fun _ => ⟨_, _, rfl, hs⟩, _, t, hk, Nat.le_of_ble_eq_true rfl, he, hc⟩
  · cases h
theorem kc_X10_load : ab_okC b_X10_load RX10 false m_X10_load = true := by decide +kernel
theorem kf_X10_load : ab_okF RX10 m_X10_load = true := by decide +kernel
theorem mk_X10_load (l : Launch) : mok l b_X10_load RX10 false 7 164 m_X10_load := ⟨okC_e kc_X10_load, okF_e kf_X10_load, List.forall_mem_cons.mpr ⟨Or.inl (cee_of kd_X10_takeCollected (by decide +kernel) (ct_X10_takeCollected l) rfl), List.forall_mem_cons.mpr ⟨Or.inl (cee_of kd_X10_isDictionary (by decide +kernel) (ct_X10_isDictionary l) rfl), List.forall_mem_cons.mpr ⟨Or.inl (cee_of kd_X8_build (by decide +kernel) (ct_X8_build l) rfl), List.forall_mem_cons.mpr ⟨Or.inl (cee_of kd_X10_putSpareAt (by decide +kernel) (ct_X10_putSpareAt l) rfl), List.forall_mem_cons.mpr ⟨Or.inl (cee_of kd_X3_write (by decide +kernel) (ct_X3_write l) rfl), List.forall_mem_cons.mpr ⟨Or.inl (cee_of kd_X3_read (by decide +kernel) (ct_X3_read l) rfl), List.forall_mem_cons.mpr ⟨Or.inl (cee_of kd_X6_sameAs (by decide +kernel) (ct_X6_sameAs l) rfl), fun _ h => absurd h List.not_mem_nil⟩⟩⟩⟩⟩⟩⟩⟩
theorem kd_X10_load : ab_okY y_X10_load b_X10_load 3 (some .int) 1 2 10 = true := by decide +kernel
theorem ct_X10_load (l : Launch) : ab_spec l y_X10_load b_X10_load 3 (some .int) 7 164 1 2 10 g_X10_load := by
  intro as st k r h
  unfold g_X10_load at h
  split at h
  · obtain ⟨x, t, hf, hk⟩ := ri_e h
    obtain ⟨hs, hf⟩ := rc_e hf
    obtain ⟨he, hc⟩ := ct_of (y := y_X10_load) (ret := (some .int)) (rs := [.int x]) one_X10_load (mk_X10_load l) rfl (by decide +kernel) (fun h => by cases h) (Or.inr (Or.inl ⟨rfl, rfl⟩)) rfl (Nat.le_of_ble_eq_true rfl) rfl (Nat.le_of_ble_eq_true rfl) hf
    exact ⟨rfl, fun _ => ⟨_, _, rfl, hs⟩, _, t, hk, Nat.le_of_ble_eq_true rfl, he, hc⟩
  · cases h
theorem kc_X11_readByte : ab_okC b_X11_readByte RX11 false m_X11_readByte = true := by decide +kernel
theorem kf_X11_readByte : ab_okF RX11 m_X11_readByte = true := by decide +kernel
theorem mk_X11_readByte (l : Launch) : mok l b_X11_readByte RX11 false 0 0 m_X11_readByte := ⟨okC_e kc_X11_readByte, okF_e kf_X11_readByte, fun _ h => absurd h List.not_mem_nil⟩
theorem kd_X11_readByte : ab_okY y_X11_readByte b_X11_readByte 1 (some .int) 1 1 11 = true := by decide +kernel
theorem ct_X11_readByte (l : Launch) : ab_spec l y_X11_readByte b_X11_readByte 1 (some .int) 0 0 1 1 11 g_X11_readByte := by
  intro as st k r h
  unfold g_X11_readByte at h
  split at h
  · obtain ⟨x, t, hf, hk⟩ := ri_e h
    obtain ⟨hs, hf⟩ := rc_e hf
    obtain ⟨he, hc⟩ := ct_of (y := y_X11_readByte) (ret := (some .int)) (rs := [.int x]) one_X11_readByte (mk_X11_readByte l) rfl (by decide +kernel) (fun h => by cases h) (Or.inr (Or.inl ⟨rfl, rfl⟩)) rfl (Nat.le_of_ble_eq_true rfl) rfl (Nat.le_of_ble_eq_true rfl) hf
    exact ⟨rfl, fun _ => ⟨_, _, rfl, hs⟩, _, t, hk, Nat.le_of_ble_eq_true rfl, he, hc⟩
  · cases h
theorem kc_X11_readNumber : ab_okC b_X11_readNumber RX11 false m_X11_readNumber = true := by decide +kernel
theorem kf_X11_readNumber : ab_okF RX11 m_X11_readNumber = true := by decide +kernel
theorem mk_X11_readNumber (l : Launch) : mok l b_X11_readNumber RX11 false 0 0 m_X11_readNumber := ⟨okC_e kc_X11_readNumber, okF_e kf_X11_readNumber, fun _ h => absurd h List.not_mem_nil⟩
theorem kd_X11_readNumber : ab_okY y_X11_readNumber b_X11_readNumber 5 (some .long) 1 1 11 = true := by decide +kernel
theorem ct_X11_readNumber (l : Launch) : ab_spec l y_X11_readNumber b_X11_readNumber 5 (some .long) 0 0 1 1 11 g_X11_readNumber := by
  intro as st k r h
  unfold g_X11_readNumber at h
  split at h
  · obtain ⟨x, t, hf, hk⟩ := rl_e h
    obtain ⟨hs, hf⟩ := rc_e hf
    obtain ⟨he, hc⟩ := ct_of (y := y_X11_readNumber) (ret := (some .long)) (rs := [.long x]) one_X11_readNumber (mk_X11_readNumber l) rfl (by decide +kernel) (fun h => by cases h) (Or.inr (Or.inr (Or.inr (Or.inl ⟨rfl, rfl⟩)))) rfl (Nat.le_of_ble_eq_true rfl) rfl (Nat.le_of_ble_eq_true rfl) hf
    exact ⟨rfl, fun _ => ⟨_, _, rfl, hs⟩, _, t, hk, Nat.le_of_ble_eq_true rfl, he, hc⟩
  · cases h
theorem kc_X11_spellOne : ab_okC b_X11_spellOne RX11 false m_X11_spellOne = true := by decide +kernel
theorem kf_X11_spellOne : ab_okF RX11 m_X11_spellOne = true := by decide +kernel
theorem mk_X11_spellOne (l : Launch) : mok l b_X11_spellOne RX11 false 2 51 m_X11_spellOne := ⟨okC_e kc_X11_spellOne, okF_e kf_X11_spellOne, List.forall_mem_cons.mpr ⟨Or.inl (cee_of kd_X11_isIn (by decide +kernel) (ct_X11_isIn l) rfl), List.forall_mem_cons.mpr ⟨Or.inl (cee_of kd_X11_append (by decide +kernel) (ct_X11_append l) rfl), List.forall_mem_cons.mpr ⟨Or.inl (cee_of kd_X11_compareTerms (by decide +kernel) (ct_X11_compareTerms l) rfl), fun _ h => absurd h List.not_mem_nil⟩⟩⟩⟩
theorem kd_X11_spellOne : ab_okY y_X11_spellOne b_X11_spellOne 6 (some .boolean) 1 2 11 = true := by decide +kernel
theorem ct_X11_spellOne (l : Launch) : ab_spec l y_X11_spellOne b_X11_spellOne 6 (some .boolean) 2 51 1 2 11 g_X11_spellOne := by
  intro as st k r h
  unfold g_X11_spellOne at h
  split at h
  · obtain ⟨x, t, hf, hk⟩ := ri_e h
    obtain ⟨hs, hf⟩ := rc_e hf
    obtain ⟨he, hc⟩ := ct_of (y := y_X11_spellOne) (ret := (some .boolean)) (rs := [.int x]) one_X11_spellOne (mk_X11_spellOne l) rfl (by decide +kernel) (fun h => by cases h) (Or.inr (Or.inr (Or.inl ⟨rfl, rfl⟩))) rfl (Nat.le_of_ble_eq_true rfl) rfl (Nat.le_of_ble_eq_true rfl) hf
    exact ⟨rfl, fun _ => ⟨_, _, rfl, hs⟩, _, t, hk, Nat.le_of_ble_eq_true rfl, he, hc⟩
  · cases h
theorem kc_X11_spell : ab_okC b_X11_spell RX11 false m_X11_spell = true := by decide +kernel
theorem kf_X11_spell : ab_okF RX11 m_X11_spell = true := by decide +kernel
theorem mk_X11_spell (l : Launch) : mok l b_X11_spell RX11 false 3 76 m_X11_spell := ⟨okC_e kc_X11_spell, okF_e kf_X11_spell, List.forall_mem_cons.mpr ⟨Or.inl (cee_of kd_X11_spellOne (by decide +kernel) (ct_X11_spellOne l) rfl), fun _ h => absurd h List.not_mem_nil⟩⟩
theorem kd_X11_spell : ab_okY y_X11_spell b_X11_spell 7 (some .boolean) 1 2 11 = true := by decide +kernel
theorem ct_X11_spell (l : Launch) : ab_spec l y_X11_spell b_X11_spell 7 (some .boolean) 3 76 1 2 11 g_X11_spell := by
  intro as st k r h
  unfold g_X11_spell at h
  split at h
  · obtain ⟨x, t, hf, hk⟩ := ri_e h
    obtain ⟨hs, hf⟩ := rc_e hf
    obtain ⟨he, hc⟩ := ct_of (y := y_X11_spell) (ret := (some .boolean)) (rs := [.int x]) one_X11_spell (mk_X11_spell l) rfl (by decide +kernel) (fun h => by cases h) (Or.inr (Or.inr (Or.inl ⟨rfl, rfl⟩))) rfl (Nat.le_of_ble_eq_true rfl) rfl (Nat.le_of_ble_eq_true rfl) hf
    exact ⟨rfl, fun _ => ⟨_, _, rfl, hs⟩, _, t, hk, Nat.le_of_ble_eq_true rfl, he, hc⟩
  · cases h
theorem kc_X11_unpack : ab_okC b_X11_unpack RX11 false m_X11_unpack = true := by decide +kernel
theorem kf_X11_unpack : ab_okF RX11 m_X11_unpack = true := by decide +kernel
theorem mk_X11_unpack (l : Launch) : mok l b_X11_unpack RX11 false 4 102 m_X11_unpack := ⟨okC_e kc_X11_unpack, okF_e kf_X11_unpack, List.forall_mem_cons.mpr ⟨Or.inl (cee_of kd_X11_readByte (by decide +kernel) (ct_X11_readByte l) rfl), List.forall_mem_cons.mpr ⟨Or.inl (cee_of kd_X11_readNumber (by decide +kernel) (ct_X11_readNumber l) rfl), List.forall_mem_cons.mpr ⟨Or.inl (cee_of kd_X11_spell (by decide +kernel) (ct_X11_spell l) rfl), fun _ h => absurd h List.not_mem_nil⟩⟩⟩⟩
theorem kd_X11_unpack : ab_okY y_X11_unpack b_X11_unpack 14 (some .boolean) 1 2 11 = true := by decide +kernel
theorem ct_X11_unpack (l : Launch) : ab_spec l y_X11_unpack b_X11_unpack 14 (some .boolean) 4 102 1 2 11 g_X11_unpack := by
  intro as st k r h
  unfold g_X11_unpack at h
  split at h
  · obtain ⟨x, t, hf, hk⟩ := ri_e h
    obtain ⟨hs, hf⟩ := rc_e hf
    obtain ⟨he, hc⟩ := ct_of (y := y_X11_unpack) (ret := (some .boolean)) (rs := [.int x]) one_X11_unpack (mk_X11_unpack l) rfl (by decide +kernel) (fun h => by cases h) (Or.inr (Or.inr (Or.inl ⟨rfl, rfl⟩))) rfl (Nat.le_of_ble_eq_true rfl) rfl (Nat.le_of_ble_eq_true rfl) hf
    exact ⟨rfl, fun _ => ⟨_, _, rfl, hs⟩, _, t, hk, Nat.le_of_ble_eq_true rfl, he, hc⟩
  · cases h
theorem kc_X11_load : ab_okC b_X11_load RX11 false m_X11_load = true := by decide +kernel
theorem kf_X11_load : ab_okF RX11 m_X11_load = true := by decide +kernel
theorem mk_X11_load (l : Launch) : mok l b_X11_load RX11 false 5 135 m_X11_load := ⟨okC_e kc_X11_load, okF_e kf_X11_load, List.forall_mem_cons.mpr ⟨Or.inl (cee_of kd_X11_isDictionary (by decide +kernel) (ct_X11_isDictionary l) rfl), List.forall_mem_cons.mpr ⟨Or.inl (cee_of kd_X11_forget (by decide +kernel) (ct_X11_forget l) rfl), List.forall_mem_cons.mpr ⟨Or.inl (cee_of kd_X11_come (by decide +kernel) (ct_X11_come l) rfl), List.forall_mem_cons.mpr ⟨Or.inl (cee_of kd_X11_pack (by decide +kernel) (ct_X11_pack l) rfl), List.forall_mem_cons.mpr ⟨Or.inl (cee_of kd_X11_unpack (by decide +kernel) (ct_X11_unpack l) rfl), fun _ h => absurd h List.not_mem_nil⟩⟩⟩⟩⟩⟩
theorem kd_X11_load : ab_okY y_X11_load b_X11_load 5 (some .int) 1 2 11 = true := by decide +kernel
theorem ct_X11_load (l : Launch) : ab_spec l y_X11_load b_X11_load 5 (some .int) 5 135 1 2 11 g_X11_load := by
  intro as st k r h
  unfold g_X11_load at h
  split at h
  · obtain ⟨x, t, hf, hk⟩ := ri_e h
    obtain ⟨hs, hf⟩ := rc_e hf
    obtain ⟨he, hc⟩ := ct_of (y := y_X11_load) (ret := (some .int)) (rs := [.int x]) one_X11_load (mk_X11_load l) rfl (by decide +kernel) (fun h => by cases h) (Or.inr (Or.inl ⟨rfl, rfl⟩)) rfl (Nat.le_of_ble_eq_true rfl) rfl (Nat.le_of_ble_eq_true rfl) hf
    exact ⟨rfl, fun _ => ⟨_, _, rfl, hs⟩, _, t, hk, Nat.le_of_ble_eq_true rfl, he, hc⟩
  · cases h
theorem kc_X10_isWalk : ab_okC b_X10_isWalk RX10 false m_X10_isWalk = true := by decide +kernel
theorem kf_X10_isWalk : ab_okF RX10 m_X10_isWalk = true := by decide +kernel
theorem mk_X10_isWalk (l : Launch) : mok l b_X10_isWalk RX10 false 0 0 m_X10_isWalk := ⟨okC_e kc_X10_isWalk, okF_e kf_X10_isWalk, fun _ h => absurd h List.not_mem_nil⟩
theorem kd_X10_isWalk : ab_okY y_X10_isWalk b_X10_isWalk 1 (some .boolean) 0 1 10 = true := by decide +kernel
theorem ct_X10_isWalk (l : Launch) : ab_spec l y_X10_isWalk b_X10_isWalk 1 (some .boolean) 0 0 0 1 10 g_X10_isWalk := by
  intro as st k r h
  unfold g_X10_isWalk at h
  split at h
  · obtain ⟨x, t, hf, hk⟩ := ri_e h
    obtain ⟨he, hc⟩ := ct_of (y := y_X10_isWalk) (ret := (some .boolean)) (rs := [.int x]) one_X10_isWalk (mk_X10_isWalk l) rfl (by decide +kernel) (fun h => by cases h) (Or.inr (Or.inr (Or.inl ⟨rfl, rfl⟩))) rfl (Nat.le_of_ble_eq_true rfl) rfl (Nat.le_of_ble_eq_true rfl) hf
    exact ⟨rfl, fun h => absurd rfl h, _, t, hk, Nat.le_of_ble_eq_true rfl, he, hc⟩
  · cases h
theorem kc_X7_greatestNotAbove : ab_okC b_X7_greatestNotAbove RX7 false m_X7_greatestNotAbove = true := by decide +kernel
theorem kf_X7_greatestNotAbove : ab_okF RX7 m_X7_greatestNotAbove = true := by decide +kernel
theorem mk_X7_greatestNotAbove (l : Launch) : mok l b_X7_greatestNotAbove RX7 false 5 114 m_X7_greatestNotAbove := ⟨okC_e kc_X7_greatestNotAbove, okF_e kf_X7_greatestNotAbove, List.forall_mem_cons.mpr ⟨Or.inl (cee_of kd_X7_compareWith (by decide +kernel) (ct_X7_compareWith l) rfl), List.forall_mem_cons.mpr ⟨Or.inl (cee_of kd_X7_leastNotBelow (by decide +kernel) (ct_X7_leastNotBelow l) rfl), fun _ h => absurd h List.not_mem_nil⟩⟩⟩
theorem kd_X7_greatestNotAbove : ab_okY y_X7_greatestNotAbove b_X7_greatestNotAbove 3 (some .int) 1 2 7 = true := by decide +kernel
theorem ct_X7_greatestNotAbove (l : Launch) : ab_spec l y_X7_greatestNotAbove b_X7_greatestNotAbove 3 (some .int) 5 114 1 2 7 g_X7_greatestNotAbove := by
  intro as st k r h
  unfold g_X7_greatestNotAbove at h
  split at h
  · obtain ⟨x, t, hf, hk⟩ := ri_e h
    obtain ⟨hs, hf⟩ := rc_e hf
    obtain ⟨he, hc⟩ := ct_of (y := y_X7_greatestNotAbove) (ret := (some .int)) (rs := [.int x]) one_X7_greatestNotAbove (mk_X7_greatestNotAbove l) rfl (by decide +kernel) (fun h => by cases h) (Or.inr (Or.inl ⟨rfl, rfl⟩)) rfl (Nat.le_of_ble_eq_true rfl) rfl (Nat.le_of_ble_eq_true rfl) hf
    exact ⟨rfl, fun _ => ⟨_, _, rfl, hs⟩, _, t, hk, Nat.le_of_ble_eq_true rfl, he, hc⟩
  · cases h
theorem kc_X9_start : ab_okC b_X9_start RX9 false m_X9_start = true := by decide +kernel
theorem kf_X9_start : ab_okF RX9 m_X9_start = true := by decide +kernel
theorem mk_X9_start (l : Launch) : mok l b_X9_start RX9 false 0 0 m_X9_start := ⟨okC_e kc_X9_start, okF_e kf_X9_start, fun _ h => absurd h List.not_mem_nil⟩
theorem kd_X9_start : ab_okY y_X9_start b_X9_start 5 none 1 5 9 = true := by decide +kernel
theorem ct_X9_start (l : Launch) : ab_spec l y_X9_start b_X9_start 5 none 0 0 1 5 9 g_X9_start := by
  intro as st k r h
  unfold g_X9_start at h
  split at h
  · obtain ⟨t, hf, hk⟩ := rv_e h
    obtain ⟨hs, hf⟩ := rc_e hf
    obtain ⟨he, hc⟩ := ct_of (y := y_X9_start) (ret := none) (rs := []) one_X9_start (mk_X9_start l) rfl (by decide +kernel) (fun h => by cases h) (Or.inl ⟨rfl, rfl⟩) rfl (Nat.le_of_ble_eq_true rfl) rfl (Nat.le_of_ble_eq_true rfl) hf
    exact ⟨rfl, fun _ => ⟨_, _, rfl, hs⟩, _, t, hk, Nat.le_of_ble_eq_true rfl, he, hc⟩
  · cases h
theorem kc_X10_walk : ab_okC b_X10_walk RX10 false m_X10_walk = true := by decide +kernel
theorem kf_X10_walk : ab_okF RX10 m_X10_walk = true := by decide +kernel
theorem mk_X10_walk (l : Launch) : mok l b_X10_walk RX10 false 6 136 m_X10_walk := ⟨okC_e kc_X10_walk, okF_e kf_X10_walk, List.forall_mem_cons.mpr ⟨Or.inl (cee_of kd_X10_takeCollected (by decide +kernel) (ct_X10_takeCollected l) rfl), List.forall_mem_cons.mpr ⟨Or.inl (cee_of kd_X10_isDictionary (by decide +kernel) (ct_X10_isDictionary l) rfl), List.forall_mem_cons.mpr ⟨Or.inl (cee_of kd_X7_leastNotBelow (by decide +kernel) (ct_X7_leastNotBelow l) rfl), List.forall_mem_cons.mpr ⟨Or.inl (cee_of kd_X10_isWalk (by decide +kernel) (ct_X10_isWalk l) rfl), List.forall_mem_cons.mpr ⟨Or.inl (cee_of kd_X7_greatestNotAbove (by decide +kernel) (ct_X7_greatestNotAbove l) rfl), List.forall_mem_cons.mpr ⟨Or.inl (cee_of kd_X9_start (by decide +kernel) (ct_X9_start l) rfl), fun _ h => absurd h List.not_mem_nil⟩⟩⟩⟩⟩⟩⟩
theorem kd_X10_walk : ab_okY y_X10_walk b_X10_walk 7 (some .int) 1 4 10 = true := by decide +kernel
theorem ct_X10_walk (l : Launch) : ab_spec l y_X10_walk b_X10_walk 7 (some .int) 6 136 1 4 10 g_X10_walk := by
  intro as st k r h
  unfold g_X10_walk at h
  split at h
  · obtain ⟨x, t, hf, hk⟩ := ri_e h
    obtain ⟨hs, hf⟩ := rc_e hf
    obtain ⟨he, hc⟩ := ct_of (y := y_X10_walk) (ret := (some .int)) (rs := [.int x]) one_X10_walk (mk_X10_walk l) rfl (by decide +kernel) (fun h => by cases h) (Or.inr (Or.inl ⟨rfl, rfl⟩)) rfl (Nat.le_of_ble_eq_true rfl) rfl (Nat.le_of_ble_eq_true rfl) hf
    exact ⟨rfl, fun _ => ⟨_, _, rfl, hs⟩, _, t, hk, Nat.le_of_ble_eq_true rfl, he, hc⟩
  · cases h
theorem kc_X11_walk : ab_okC b_X11_walk RX11 false m_X11_walk = true := by decide +kernel
theorem kf_X11_walk : ab_okF RX11 m_X11_walk = true := by decide +kernel
theorem mk_X11_walk (l : Launch) : mok l b_X11_walk RX11 false 3 72 m_X11_walk := ⟨okC_e kc_X11_walk, okF_e kf_X11_walk, List.forall_mem_cons.mpr ⟨Or.inl (cee_of kd_X11_isIn (by decide +kernel) (ct_X11_isIn l) rfl), List.forall_mem_cons.mpr ⟨Or.inl (cee_of kd_X11_isDictionary (by decide +kernel) (ct_X11_isDictionary l) rfl), List.forall_mem_cons.mpr ⟨Or.inl (cee_of kd_X11_forget (by decide +kernel) (ct_X11_forget l) rfl), List.forall_mem_cons.mpr ⟨Or.inl (cee_of kd_X11_compare (by decide +kernel) (ct_X11_compare l) rfl), List.forall_mem_cons.mpr ⟨Or.inl (cee_of kd_X11_above (by decide +kernel) (ct_X11_above l) rfl), fun _ h => absurd h List.not_mem_nil⟩⟩⟩⟩⟩⟩
theorem kd_X11_walk : ab_okY y_X11_walk b_X11_walk 6 (some .int) 1 4 11 = true := by decide +kernel
theorem ct_X11_walk (l : Launch) : ab_spec l y_X11_walk b_X11_walk 6 (some .int) 3 72 1 4 11 g_X11_walk := by
  intro as st k r h
  unfold g_X11_walk at h
  split at h
  · obtain ⟨x, t, hf, hk⟩ := ri_e h
    obtain ⟨hs, hf⟩ := rc_e hf
    obtain ⟨he, hc⟩ := ct_of (y := y_X11_walk) (ret := (some .int)) (rs := [.int x]) one_X11_walk (mk_X11_walk l) rfl (by decide +kernel) (fun h => by cases h) (Or.inr (Or.inl ⟨rfl, rfl⟩)) rfl (Nat.le_of_ble_eq_true rfl) rfl (Nat.le_of_ble_eq_true rfl) hf
    exact ⟨rfl, fun _ => ⟨_, _, rfl, hs⟩, _, t, hk, Nat.le_of_ble_eq_true rfl, he, hc⟩
  · cases h
