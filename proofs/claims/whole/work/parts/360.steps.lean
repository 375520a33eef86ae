theorem xlen1 {as : List Int32} (h : as.length = 1) : ∃ x1, as = [x1] := by
  match as, h with
  | [a], _ => exact ⟨a, rfl⟩
theorem xlen2 {as : List Int32} (h : as.length = 2) : ∃ x1 x2, as = [x1, x2] := by
  match as, h with
  | [a, b], _ => exact ⟨a, b, rfl⟩
theorem xlen3 {as : List Int32} (h : as.length = 3) : ∃ x1 x2 x3, as = [x1, x2, x3] := by
  match as, h with
  | [a, b, c], _ => exact ⟨a, b, c, rfl⟩
theorem xlen5 {as : List Int32} (h : as.length = 5) : ∃ x1 x2 x3 x4 x5, as = [x1, x2, x3, x4, x5] := by
  match as, h with
  | [a, b, c, d, e], _ => exact ⟨a, b, c, d, e, rfl⟩
theorem st_splits (l : Launch) (t : Nat) (ht : t < 512) : xSt (Iv t) (Iv (t + 1)) l yX9_splits yX10_splits j9_splits j10_splits (fun as => as.length = 1) := by
  intro as hx hm hI hl
  obtain ⟨x1, rfl⟩ : ∃ x1, as = [x1] := xlen1 hl
  refine Iv_el (C := fun hx hm => ∃ (v : Int32) (hx' hm' : xHp), xCt l yX9_splits (some .int) j9_splits [.ref 0, .int x1] hx (some (.int v)) hx' ∧ xCt l yX10_splits (some .int) j10_splits [.ref 0, .int x1] hm (some (.int v)) hm' ∧ Iv (t + 1) hx' hm') ?_ hx hm hI
  intro c_chance c_n_fields c_n_ties c_n_worth c_n_forces c_n_many c_n_codes c_n_b_list c_n_b_many c_n_p_list c_n_p_weights c_n_p_drawn c_n_p_many c_n_p_all c_n_p_turns c_l_fault c_l_t_bytes c_l_t_many c_l_t_kind c_l_t_from c_l_t_behind c_l_t_end c_l_s_fields c_l_s_ties c_l_s_worth c_l_s_forces c_l_s_many c_l_s_codes c_l_s_b_list c_l_s_b_many c_l_s_p_list c_l_s_p_weights c_l_s_p_drawn c_l_s_p_many c_l_s_p_all c_l_s_p_turns c_nt_seen c_nt_many c_v_kept c_v_many c_v_turns c_v_stale c_v_goes c_v_row c_w_all c_w_mass c_g_picks c_g_many c_g_table c_g_rowNames c_g_columnNames c_g_rows c_g_columns c_g_scale m_thrown m_told m_read m_many m_eights m_gains m_notes m_seen m_turns m_drawn m_state m_tape m_taped m_size m_from m_next m_token m_value m_fault m_number m_fives m_isLeft m_wentTimes m_goes m_isLeftLaid m_game m_rows m_columns m_isFound m_bestValue m_bestBelow m_bestShare m_share m_matrix m_system m_shares m_allShares hR
  obtain ⟨K, W, ti, fo, bN, bI, pN, pI, pW, tu, dr, nN, nS, tN, bs, hX, hM, hB, hP, hT, hN, hTp, hSx, hSm, hF, hch⟩ := id hR
  obtain ⟨v, e9, e10⟩ := call_splits hX hM x1 m_thrown
  refine ⟨v, _, _, C9_splits l e9, C10_splits l e10, Iv_mk ?_⟩
  exact Rl_mono (Nat.le_succ t) hR
theorem st_number (l : Launch) (t : Nat) (ht : t < 512) : xSt (Iv t) (Iv (t + 1)) l yX9_number yX10_number j9_number j10_number (fun as => as.length = 2) := by
  intro as hx hm hI hl
  obtain ⟨x1, x2, rfl⟩ : ∃ x1 x2, as = [x1, x2] := xlen2 hl
  refine Iv_el (C := fun hx hm => ∃ (v : Int32) (hx' hm' : xHp), xCt l yX9_number (some .int) j9_number [.ref 0, .int x1, .int x2] hx (some (.int v)) hx' ∧ xCt l yX10_number (some .int) j10_number [.ref 0, .int x1, .int x2] hm (some (.int v)) hm' ∧ Iv (t + 1) hx' hm') ?_ hx hm hI
  intro c_chance c_n_fields c_n_ties c_n_worth c_n_forces c_n_many c_n_codes c_n_b_list c_n_b_many c_n_p_list c_n_p_weights c_n_p_drawn c_n_p_many c_n_p_all c_n_p_turns c_l_fault c_l_t_bytes c_l_t_many c_l_t_kind c_l_t_from c_l_t_behind c_l_t_end c_l_s_fields c_l_s_ties c_l_s_worth c_l_s_forces c_l_s_many c_l_s_codes c_l_s_b_list c_l_s_b_many c_l_s_p_list c_l_s_p_weights c_l_s_p_drawn c_l_s_p_many c_l_s_p_all c_l_s_p_turns c_nt_seen c_nt_many c_v_kept c_v_many c_v_turns c_v_stale c_v_goes c_v_row c_w_all c_w_mass c_g_picks c_g_many c_g_table c_g_rowNames c_g_columnNames c_g_rows c_g_columns c_g_scale m_thrown m_told m_read m_many m_eights m_gains m_notes m_seen m_turns m_drawn m_state m_tape m_taped m_size m_from m_next m_token m_value m_fault m_number m_fives m_isLeft m_wentTimes m_goes m_isLeftLaid m_game m_rows m_columns m_isFound m_bestValue m_bestBelow m_bestShare m_share m_matrix m_system m_shares m_allShares hR
  obtain ⟨K, W, ti, fo, bN, bI, pN, pI, pW, tu, dr, nN, nS, tN, bs, hX, hM, hB, hP, hT, hN, hTp, hSx, hSm, hF, hch⟩ := id hR
  obtain ⟨v, e9, e10⟩ := call_number (z := 20000) (by omega) hX hM x1 x2 m_thrown
  refine ⟨v, _, _, C9_number l e9, C10_number l e10, Iv_mk ?_⟩
  exact Rl_mono (Nat.le_succ t) hR
