theorem xlen1 {as : List Int32} (h : as.length = 1) : ∃ x1, as = [x1] := by
  match as, h with
  | [a], _ => exact ⟨a, rfl⟩
theorem xlen2 {as : List Int32} (h : as.length = 2) : ∃ x1 x2, as = [x1, x2] := by
  match as, h with
  | [a, b], _ => exact ⟨a, b, rfl⟩
theorem xlen3 {as : List Int32} (h : as.length = 3) : ∃ x1 x2 x3, as = [x1, x2, x3] := by
  match as, h with
  | [a, b, c], _ => exact ⟨a, b, c, rfl⟩
theorem xlen5 {as : List Int32} (h : as.length = 5) : ∃ x1 x2 x3 x4 x5, as = [x1, x2, x3, x4, x5] := by
  match as, h with
  | [a, b, c, d, e], _ => exact ⟨a, b, c, d, e, rfl⟩
theorem st_splits (l : Launch) (t : Nat) (ht : t < 512) : xSt (Iv t) (Iv (t + 1)) l yX9_splits yX10_splits j9_splits j10_splits (fun as => as.length = 1) := by
  intro as hx hm hI hl
  obtain ⟨x1, rfl⟩ : ∃ x1, as = [x1] := xlen1 hl
  refine Iv_el (C := fun hx hm => ∃ (v : Int32) (hx' hm' : xHp), xCt l yX9_splits (some .int) j9_splits [.ref 0, .int x1] hx (some (.int v)) hx' ∧ xCt l yX10_splits (some .int) j10_splits [.ref 0, .int x1] hm (some (.int v)) hm' ∧ Iv (t + 1) hx' hm') ?_ hx hm hI
  intro c_chance c_n_fields c_n_ties c_n_worth c_n_forces c_n_many c_n_codes c_n_b_list c_n_b_many c_n_p_list c_n_p_weights c_n_p_drawn c_n_p_many c_n_p_all c_n_p_turns c_l_fault c_l_t_bytes c_l_t_many c_l_t_kind c_l_t_from c_l_t_behind c_l_t_end c_l_s_fields c_l_s_ties c_l_s_worth c_l_s_forces c_l_s_many c_l_s_codes c_l_s_b_list c_l_s_b_many c_l_s_p_list c_l_s_p_weights c_l_s_p_drawn c_l_s_p_many c_l_s_p_all c_l_s_p_turns c_nt_seen c_nt_many c_v_kept c_v_many c_v_turns c_v_stale c_v_goes c_v_row c_w_all c_w_mass c_g_picks c_g_many c_g_table c_g_rowNames c_g_columnNames c_g_rows c_g_columns c_g_scale m_thrown m_told m_read m_many m_eights m_gains m_notes m_seen m_turns m_drawn m_state m_tape m_taped m_size m_from m_next m_token m_value m_fault m_number m_fives m_isLeft m_wentTimes m_goes m_isLeftLaid m_game m_rows m_columns m_isFound m_bestValue m_bestBelow m_bestShare m_share m_matrix m_system m_shares m_allShares hR
  obtain ⟨K, W, ti, fo, bN, bI, pN, pI, pW, tu, dr, nN, nS, tN, bs, hX, hM, hB, hP, hT, hN, hTp, hSx, hSm, hF, hch⟩ := id hR
  obtain ⟨v, e9, e10⟩ := call_splits hX hM x1 m_thrown
  refine ⟨v, _, _, C9_splits l e9, C10_splits l e10, Iv_mk ?_⟩
  exact Rl_mono (Nat.le_succ t) hR
theorem st_number (l : Launch) (t : Nat) (ht : t < 512) : xSt (Iv t) (Iv (t + 1)) l yX9_number yX10_number j9_number j10_number (fun as => as.length = 2) := by
  intro as hx hm hI hl
  obtain ⟨x1, x2, rfl⟩ : ∃ x1 x2, as = [x1, x2] := xlen2 hl
  refine Iv_el (C := fun hx hm => ∃ (v : Int32) (hx' hm' : xHp), xCt l yX9_number (some .int) j9_number [.ref 0, .int x1, .int x2] hx (some (.int v)) hx' ∧ xCt l yX10_number (some .int) j10_number [.ref 0, .int x1, .int x2] hm (some (.int v)) hm' ∧ Iv (t + 1) hx' hm') ?_ hx hm hI
  intro c_chance c_n_fields c_n_ties c_n_worth c_n_forces c_n_many c_n_codes c_n_b_list c_n_b_many c_n_p_list c_n_p_weights c_n_p_drawn c_n_p_many c_n_p_all c_n_p_turns c_l_fault c_l_t_bytes c_l_t_many c_l_t_kind c_l_t_from c_l_t_behind c_l_t_end c_l_s_fields c_l_s_ties c_l_s_worth c_l_s_forces c_l_s_many c_l_s_codes c_l_s_b_list c_l_s_b_many c_l_s_p_list c_l_s_p_weights c_l_s_p_drawn c_l_s_p_many c_l_s_p_all c_l_s_p_turns c_nt_seen c_nt_many c_v_kept c_v_many c_v_turns c_v_stale c_v_goes c_v_row c_w_all c_w_mass c_g_picks c_g_many c_g_table c_g_rowNames c_g_columnNames c_g_rows c_g_columns c_g_scale m_thrown m_told m_read m_many m_eights m_gains m_notes m_seen m_turns m_drawn m_state m_tape m_taped m_size m_from m_next m_token m_value m_fault m_number m_fives m_isLeft m_wentTimes m_goes m_isLeftLaid m_game m_rows m_columns m_isFound m_bestValue m_bestBelow m_bestShare m_share m_matrix m_system m_shares m_allShares hR
  obtain ⟨K, W, ti, fo, bN, bI, pN, pI, pW, tu, dr, nN, nS, tN, bs, hX, hM, hB, hP, hT, hN, hTp, hSx, hSm, hF, hch⟩ := id hR
  obtain ⟨v, e9, e10⟩ := call_number (z := 20000) (by omega) hX hM x1 x2 m_thrown
  refine ⟨v, _, _, C9_number l e9, C10_number l e10, Iv_mk ?_⟩
  exact Rl_mono (Nat.le_succ t) hR
theorem st_gain (l : Launch) (t : Nat) (ht : t < 512) : xSt (Iv t) (Iv (t + 1)) l yX9_gain yX10_gain j9_gain j10_gain (fun as => as.length = 2) := by
  intro as hx hm hI hl
  obtain ⟨x1, x2, rfl⟩ : ∃ x1 x2, as = [x1, x2] := xlen2 hl
  refine Iv_el (C := fun hx hm => ∃ (v : Int32) (hx' hm' : xHp), xCt l yX9_gain (some .int) j9_gain [.ref 0, .int x1, .int x2] hx (some (.int v)) hx' ∧ xCt l yX10_gain (some .int) j10_gain [.ref 0, .int x1, .int x2] hm (some (.int v)) hm' ∧ Iv (t + 1) hx' hm') ?_ hx hm hI
  intro c_chance c_n_fields c_n_ties c_n_worth c_n_forces c_n_many c_n_codes c_n_b_list c_n_b_many c_n_p_list c_n_p_weights c_n_p_drawn c_n_p_many c_n_p_all c_n_p_turns c_l_fault c_l_t_bytes c_l_t_many c_l_t_kind c_l_t_from c_l_t_behind c_l_t_end c_l_s_fields c_l_s_ties c_l_s_worth c_l_s_forces c_l_s_many c_l_s_codes c_l_s_b_list c_l_s_b_many c_l_s_p_list c_l_s_p_weights c_l_s_p_drawn c_l_s_p_many c_l_s_p_all c_l_s_p_turns c_nt_seen c_nt_many c_v_kept c_v_many c_v_turns c_v_stale c_v_goes c_v_row c_w_all c_w_mass c_g_picks c_g_many c_g_table c_g_rowNames c_g_columnNames c_g_rows c_g_columns c_g_scale m_thrown m_told m_read m_many m_eights m_gains m_notes m_seen m_turns m_drawn m_state m_tape m_taped m_size m_from m_next m_token m_value m_fault m_number m_fives m_isLeft m_wentTimes m_goes m_isLeftLaid m_game m_rows m_columns m_isFound m_bestValue m_bestBelow m_bestShare m_share m_matrix m_system m_shares m_allShares hR
  obtain ⟨K, W, ti, fo, bN, bI, pN, pI, pW, tu, dr, nN, nS, tN, bs, hX, hM, hB, hP, hT, hN, hTp, hSx, hSm, hF, hch⟩ := id hR
  obtain ⟨v, e9, e10⟩ := call_gain (z := 20000) (by omega) hX hM x1 x2 m_thrown
  refine ⟨v, _, _, C9_gain l e9, C10_gain l e10, Iv_mk ?_⟩
  exact Rl_mono (Nat.le_succ t) hR
theorem st_worse (l : Launch) (t : Nat) (ht : t < 512) : xSt (Iv t) (Iv (t + 1)) l yX9_worse yX10_worse j9_worse j10_worse (fun as => as.length = 3 ∧ (as.getD 2 0 = 0 ∨ as.getD 2 0 = 1)) := by
  intro as hx hm hI hl
  obtain ⟨hl, hcond⟩ := hl
  obtain ⟨x1, x2, x3, rfl⟩ : ∃ x1 x2 x3, as = [x1, x2, x3] := xlen3 hl
  refine Iv_el (C := fun hx hm => ∃ (v : Int32) (hx' hm' : xHp), xCt l yX9_worse (some .int) j9_worse [.ref 0, .int x1, .int x2, .int x3] hx (some (.int v)) hx' ∧ xCt l yX10_worse (some .int) j10_worse [.ref 0, .int x1, .int x2, .int x3] hm (some (.int v)) hm' ∧ Iv (t + 1) hx' hm') ?_ hx hm hI
  intro c_chance c_n_fields c_n_ties c_n_worth c_n_forces c_n_many c_n_codes c_n_b_list c_n_b_many c_n_p_list c_n_p_weights c_n_p_drawn c_n_p_many c_n_p_all c_n_p_turns c_l_fault c_l_t_bytes c_l_t_many c_l_t_kind c_l_t_from c_l_t_behind c_l_t_end c_l_s_fields c_l_s_ties c_l_s_worth c_l_s_forces c_l_s_many c_l_s_codes c_l_s_b_list c_l_s_b_many c_l_s_p_list c_l_s_p_weights c_l_s_p_drawn c_l_s_p_many c_l_s_p_all c_l_s_p_turns c_nt_seen c_nt_many c_v_kept c_v_many c_v_turns c_v_stale c_v_goes c_v_row c_w_all c_w_mass c_g_picks c_g_many c_g_table c_g_rowNames c_g_columnNames c_g_rows c_g_columns c_g_scale m_thrown m_told m_read m_many m_eights m_gains m_notes m_seen m_turns m_drawn m_state m_tape m_taped m_size m_from m_next m_token m_value m_fault m_number m_fives m_isLeft m_wentTimes m_goes m_isLeftLaid m_game m_rows m_columns m_isFound m_bestValue m_bestBelow m_bestShare m_share m_matrix m_system m_shares m_allShares hR
  obtain ⟨K, W, ti, fo, bN, bI, pN, pI, pW, tu, dr, nN, nS, tN, bs, hX, hM, hB, hP, hT, hN, hTp, hSx, hSm, hF, hch⟩ := id hR
  obtain ⟨v, e9, e10⟩ := call_worse (z := 20000) (by omega) hX hM x1 x2 x3 m_thrown hcond m_isLeft
  refine ⟨v, _, _, C9_worse l e9, C10_worse l e10, Iv_mk ?_⟩
  exact Rl_mono (Nat.le_succ t) hR
theorem st_safe (l : Launch) (t : Nat) (ht : t < 512) : xSt (Iv t) (Iv (t + 1)) l yX9_safe yX10_safe j9_safe j10_safe (fun as => as.length = 2) := by
  intro as hx hm hI hl
  obtain ⟨x1, x2, rfl⟩ : ∃ x1 x2, as = [x1, x2] := xlen2 hl
  refine Iv_el (C := fun hx hm => ∃ (v : Int32) (hx' hm' : xHp), xCt l yX9_safe (some .int) j9_safe [.ref 0, .int x1, .int x2] hx (some (.int v)) hx' ∧ xCt l yX10_safe (some .int) j10_safe [.ref 0, .int x1, .int x2] hm (some (.int v)) hm' ∧ Iv (t + 1) hx' hm') ?_ hx hm hI
  intro c_chance c_n_fields c_n_ties c_n_worth c_n_forces c_n_many c_n_codes c_n_b_list c_n_b_many c_n_p_list c_n_p_weights c_n_p_drawn c_n_p_many c_n_p_all c_n_p_turns c_l_fault c_l_t_bytes c_l_t_many c_l_t_kind c_l_t_from c_l_t_behind c_l_t_end c_l_s_fields c_l_s_ties c_l_s_worth c_l_s_forces c_l_s_many c_l_s_codes c_l_s_b_list c_l_s_b_many c_l_s_p_list c_l_s_p_weights c_l_s_p_drawn c_l_s_p_many c_l_s_p_all c_l_s_p_turns c_nt_seen c_nt_many c_v_kept c_v_many c_v_turns c_v_stale c_v_goes c_v_row c_w_all c_w_mass c_g_picks c_g_many c_g_table c_g_rowNames c_g_columnNames c_g_rows c_g_columns c_g_scale m_thrown m_told m_read m_many m_eights m_gains m_notes m_seen m_turns m_drawn m_state m_tape m_taped m_size m_from m_next m_token m_value m_fault m_number m_fives m_isLeft m_wentTimes m_goes m_isLeftLaid m_game m_rows m_columns m_isFound m_bestValue m_bestBelow m_bestShare m_share m_matrix m_system m_shares m_allShares hR
  obtain ⟨K, W, ti, fo, bN, bI, pN, pI, pW, tu, dr, nN, nS, tN, bs, hX, hM, hB, hP, hT, hN, hTp, hSx, hSm, hF, hch⟩ := id hR
  obtain ⟨v, e9, e10⟩ := call_safe (z := 20000) (by omega) hX hM x1 x2 m_thrown
  refine ⟨v, _, _, C9_safe l e9, C10_safe l e10, Iv_mk ?_⟩
  exact Rl_mono (Nat.le_succ t) hR
theorem st_field (l : Launch) (t : Nat) (ht : t < 512) : xSt (Iv t) (Iv (t + 1)) l yX9_field yX10_field j9_field j10_field (fun as => as.length = 1) := by
  intro as hx hm hI hl
  obtain ⟨x1, rfl⟩ : ∃ x1, as = [x1] := xlen1 hl
  refine Iv_el (C := fun hx hm => ∃ (v : Int32) (hx' hm' : xHp), xCt l yX9_field (some .int) j9_field [.ref 0, .int x1] hx (some (.int v)) hx' ∧ xCt l yX10_field (some .int) j10_field [.ref 0, .int x1] hm (some (.int v)) hm' ∧ Iv (t + 1) hx' hm') ?_ hx hm hI
  intro c_chance c_n_fields c_n_ties c_n_worth c_n_forces c_n_many c_n_codes c_n_b_list c_n_b_many c_n_p_list c_n_p_weights c_n_p_drawn c_n_p_many c_n_p_all c_n_p_turns c_l_fault c_l_t_bytes c_l_t_many c_l_t_kind c_l_t_from c_l_t_behind c_l_t_end c_l_s_fields c_l_s_ties c_l_s_worth c_l_s_forces c_l_s_many c_l_s_codes c_l_s_b_list c_l_s_b_many c_l_s_p_list c_l_s_p_weights c_l_s_p_drawn c_l_s_p_many c_l_s_p_all c_l_s_p_turns c_nt_seen c_nt_many c_v_kept c_v_many c_v_turns c_v_stale c_v_goes c_v_row c_w_all c_w_mass c_g_picks c_g_many c_g_table c_g_rowNames c_g_columnNames c_g_rows c_g_columns c_g_scale m_thrown m_told m_read m_many m_eights m_gains m_notes m_seen m_turns m_drawn m_state m_tape m_taped m_size m_from m_next m_token m_value m_fault m_number m_fives m_isLeft m_wentTimes m_goes m_isLeftLaid m_game m_rows m_columns m_isFound m_bestValue m_bestBelow m_bestShare m_share m_matrix m_system m_shares m_allShares hR
  obtain ⟨K, W, ti, fo, bN, bI, pN, pI, pW, tu, dr, nN, nS, tN, bs, hX, hM, hB, hP, hT, hN, hTp, hSx, hSm, hF, hch⟩ := id hR
  rcases call_field (z := 20000) (by omega) hX hM x1 m_thrown c_n_b_many c_n_p_drawn c_n_p_many c_n_p_all c_n_p_turns c_nt_seen c_nt_many c_v_stale m_notes m_seen m_turns m_drawn m_isLeftLaid with ⟨e9, e10⟩ | ⟨v, K', W', worth', many', codes', bm2, pdr2, pm2, pa2, pt2, sn2, nm2, told', manym', eights', gains', notes', seen', turns', drawn', e9, e10, hX', hM', hFr⟩
  · exact ⟨-1, _, _, C9_field l e9, C10_field l e10, Iv_mk (Rl_mono (Nat.le_succ t) hR)⟩
  · exact ⟨v, _, _, C9_field l e9, C10_field l e10, Iv_mk (fresh_Rl hX' hM' hFr hTp hF hch)⟩
theorem st_lose (l : Launch) (t : Nat) (ht : t < 512) : xSt (Iv t) (Iv (t + 1)) l yX9_lose yX10_lose j9_lose j10_lose (fun as => as.length = 0) := by
  intro as hx hm hI hl
  obtain rfl : as = [] := List.eq_nil_of_length_eq_zero hl
  refine Iv_el (C := fun hx hm => ∃ (v : Int32) (hx' hm' : xHp), xCt l yX9_lose (some .int) j9_lose [.ref 0] hx (some (.int v)) hx' ∧ xCt l yX10_lose (some .int) j10_lose [.ref 0] hm (some (.int v)) hm' ∧ Iv (t + 1) hx' hm') ?_ hx hm hI
  intro c_chance c_n_fields c_n_ties c_n_worth c_n_forces c_n_many c_n_codes c_n_b_list c_n_b_many c_n_p_list c_n_p_weights c_n_p_drawn c_n_p_many c_n_p_all c_n_p_turns c_l_fault c_l_t_bytes c_l_t_many c_l_t_kind c_l_t_from c_l_t_behind c_l_t_end c_l_s_fields c_l_s_ties c_l_s_worth c_l_s_forces c_l_s_many c_l_s_codes c_l_s_b_list c_l_s_b_many c_l_s_p_list c_l_s_p_weights c_l_s_p_drawn c_l_s_p_many c_l_s_p_all c_l_s_p_turns c_nt_seen c_nt_many c_v_kept c_v_many c_v_turns c_v_stale c_v_goes c_v_row c_w_all c_w_mass c_g_picks c_g_many c_g_table c_g_rowNames c_g_columnNames c_g_rows c_g_columns c_g_scale m_thrown m_told m_read m_many m_eights m_gains m_notes m_seen m_turns m_drawn m_state m_tape m_taped m_size m_from m_next m_token m_value m_fault m_number m_fives m_isLeft m_wentTimes m_goes m_isLeftLaid m_game m_rows m_columns m_isFound m_bestValue m_bestBelow m_bestShare m_share m_matrix m_system m_shares m_allShares hR
  obtain ⟨K, W, ti, fo, bN, bI, pN, pI, pW, tu, dr, nN, nS, tN, bs, hX, hM, hB, hP, hT, hN, hTp, hSx, hSm, hF, hch⟩ := id hR
  rcases call_lose (z := 20000) (by omega) hX hM m_thrown c_n_b_many c_n_p_drawn c_n_p_many c_n_p_all c_n_p_turns c_nt_seen c_nt_many c_v_stale m_notes m_seen m_turns m_drawn m_isLeftLaid with ⟨e9, e10⟩ | ⟨v, K', many', codes', bm2, pdr2, pm2, pa2, pt2, sn2, nm2, told', manym', eights', gains', notes', seen', turns', drawn', e9, e10, hX', hM', hFr⟩
  · exact ⟨-1, _, _, C9_lose l e9, C10_lose l e10, Iv_mk (Rl_mono (Nat.le_succ t) hR)⟩
  · exact ⟨v, _, _, C9_lose l e9, C10_lose l e10, Iv_mk (fresh_Rl hX' hM' hFr hTp hF hch)⟩
theorem st_forces (l : Launch) (t : Nat) (ht : t < 512) : xSt (Iv t) (Iv (t + 1)) l yX9_forces yX10_forces j9_forces j10_forces (fun as => as.length = 2) := by
  intro as hx hm hI hl
  obtain ⟨x1, x2, rfl⟩ : ∃ x1 x2, as = [x1, x2] := xlen2 hl
  refine Iv_el (C := fun hx hm => ∃ (v : Int32) (hx' hm' : xHp), xCt l yX9_forces (some .int) j9_forces [.ref 0, .int x1, .int x2] hx (some (.int v)) hx' ∧ xCt l yX10_forces (some .int) j10_forces [.ref 0, .int x1, .int x2] hm (some (.int v)) hm' ∧ Iv (t + 1) hx' hm') ?_ hx hm hI
  intro c_chance c_n_fields c_n_ties c_n_worth c_n_forces c_n_many c_n_codes c_n_b_list c_n_b_many c_n_p_list c_n_p_weights c_n_p_drawn c_n_p_many c_n_p_all c_n_p_turns c_l_fault c_l_t_bytes c_l_t_many c_l_t_kind c_l_t_from c_l_t_behind c_l_t_end c_l_s_fields c_l_s_ties c_l_s_worth c_l_s_forces c_l_s_many c_l_s_codes c_l_s_b_list c_l_s_b_many c_l_s_p_list c_l_s_p_weights c_l_s_p_drawn c_l_s_p_many c_l_s_p_all c_l_s_p_turns c_nt_seen c_nt_many c_v_kept c_v_many c_v_turns c_v_stale c_v_goes c_v_row c_w_all c_w_mass c_g_picks c_g_many c_g_table c_g_rowNames c_g_columnNames c_g_rows c_g_columns c_g_scale m_thrown m_told m_read m_many m_eights m_gains m_notes m_seen m_turns m_drawn m_state m_tape m_taped m_size m_from m_next m_token m_value m_fault m_number m_fives m_isLeft m_wentTimes m_goes m_isLeftLaid m_game m_rows m_columns m_isFound m_bestValue m_bestBelow m_bestShare m_share m_matrix m_system m_shares m_allShares hR
  obtain ⟨K, W, ti, fo, bN, bI, pN, pI, pW, tu, dr, nN, nS, tN, bs, hX, hM, hB, hP, hT, hN, hTp, hSx, hSm, hF, hch⟩ := id hR
  rcases call_forces (z := 20000) (by omega) hX hM x1 x2 m_thrown c_n_b_many c_n_p_drawn c_n_p_many c_n_p_all c_n_p_turns c_nt_seen c_nt_many c_v_stale m_notes m_seen m_turns m_drawn m_isLeftLaid with ⟨e9, e10⟩ | ⟨v, fo', forces', many', codes', bm2, pdr2, pm2, pa2, pt2, sn2, nm2, told', manym', eights', gains', notes', seen', turns', drawn', e9, e10, hX', hM', hFr⟩
  · exact ⟨-1, _, _, C9_forces l e9, C10_forces l e10, Iv_mk (Rl_mono (Nat.le_succ t) hR)⟩
  · exact ⟨v, _, _, C9_forces l e9, C10_forces l e10, Iv_mk (fresh_Rl hX' hM' hFr hTp hF hch)⟩
theorem st_ties (l : Launch) (t : Nat) (ht : t < 512) : xSt (Iv t) (Iv (t + 1)) l yX9_ties yX10_ties j9_ties j10_ties (fun as => as.length = 1) := by
  intro as hx hm hI hl
  obtain ⟨x1, rfl⟩ : ∃ x1, as = [x1] := xlen1 hl
  refine Iv_el (C := fun hx hm => ∃ (v : Int32) (hx' hm' : xHp), xCt l yX9_ties (some .int) j9_ties [.ref 0, .int x1] hx (some (.int v)) hx' ∧ xCt l yX10_ties (some .int) j10_ties [.ref 0, .int x1] hm (some (.int v)) hm' ∧ Iv (t + 1) hx' hm') ?_ hx hm hI
  intro c_chance c_n_fields c_n_ties c_n_worth c_n_forces c_n_many c_n_codes c_n_b_list c_n_b_many c_n_p_list c_n_p_weights c_n_p_drawn c_n_p_many c_n_p_all c_n_p_turns c_l_fault c_l_t_bytes c_l_t_many c_l_t_kind c_l_t_from c_l_t_behind c_l_t_end c_l_s_fields c_l_s_ties c_l_s_worth c_l_s_forces c_l_s_many c_l_s_codes c_l_s_b_list c_l_s_b_many c_l_s_p_list c_l_s_p_weights c_l_s_p_drawn c_l_s_p_many c_l_s_p_all c_l_s_p_turns c_nt_seen c_nt_many c_v_kept c_v_many c_v_turns c_v_stale c_v_goes c_v_row c_w_all c_w_mass c_g_picks c_g_many c_g_table c_g_rowNames c_g_columnNames c_g_rows c_g_columns c_g_scale m_thrown m_told m_read m_many m_eights m_gains m_notes m_seen m_turns m_drawn m_state m_tape m_taped m_size m_from m_next m_token m_value m_fault m_number m_fives m_isLeft m_wentTimes m_goes m_isLeftLaid m_game m_rows m_columns m_isFound m_bestValue m_bestBelow m_bestShare m_share m_matrix m_system m_shares m_allShares hR
  obtain ⟨K, W, ti, fo, bN, bI, pN, pI, pW, tu, dr, nN, nS, tN, bs, hX, hM, hB, hP, hT, hN, hTp, hSx, hSm, hF, hch⟩ := id hR
  rcases call_ties (z := 20000) (by omega) hX hM x1 m_thrown c_v_stale m_isLeftLaid with ⟨e9, e10⟩ | ⟨v, t', manym', eights', gains', e9, e10, hX', hM'⟩
  · exact ⟨-1, _, _, C9_ties l e9, C10_ties l e10, Iv_mk (Rl_mono (Nat.le_succ t) hR)⟩
  · refine ⟨v, _, _, C9_ties l e9, C10_ties l e10, Iv_mk ⟨K, W, t', fo, bN, bI, pN, pI, pW, tu, dr, nN, nS, tN, bs, hX', hM', fun s hs => ?_, fun s hs => ?_, TNr_mono (Nat.le_succ t) hT, hN, hTp, Or.inl rfl, Or.inl rfl, hF, hch⟩⟩
    · obtain ⟨c1, c2, c3, c4, c5⟩ := hB s hs
      exact ⟨c1, c2, (upd_diff _ _ (by omega)).trans c3, fun k hk => ⟨(c4 k hk).1, (c4 k hk).2.1, (upd_diff _ _ (by omega)).trans (c4 k hk).2.2⟩, c5⟩
    · obtain ⟨c1, c2, c3, c4, c5, c6⟩ := hP s hs
      exact ⟨c1, c2, (upd_diff _ _ (by omega)).trans c3, c4, fun k hk => by obtain ⟨d1, d2, d3, d4, d5, d6, d7⟩ := c5 k hk; exact ⟨d1, d2, d3, d4, d5, (upd_diff _ _ (by omega)).trans d6, (upd_diff _ _ (by omega)).trans d7⟩, c6⟩
theorem st_add (l : Launch) (t : Nat) (ht : t < 512) : xSt (Iv t) (Iv (t + 1)) l yX9_add yX10_add j9_add j10_add (fun as => as.length = 2) := by
  intro as hx hm hI hl
  obtain ⟨x1, x2, rfl⟩ : ∃ x1 x2, as = [x1, x2] := xlen2 hl
  refine Iv_el (C := fun hx hm => ∃ (v : Int32) (hx' hm' : xHp), xCt l yX9_add (some .int) j9_add [.ref 0, .int x1, .int x2] hx (some (.int v)) hx' ∧ xCt l yX10_add (some .int) j10_add [.ref 0, .int x1, .int x2] hm (some (.int v)) hm' ∧ Iv (t + 1) hx' hm') ?_ hx hm hI
  intro c_chance c_n_fields c_n_ties c_n_worth c_n_forces c_n_many c_n_codes c_n_b_list c_n_b_many c_n_p_list c_n_p_weights c_n_p_drawn c_n_p_many c_n_p_all c_n_p_turns c_l_fault c_l_t_bytes c_l_t_many c_l_t_kind c_l_t_from c_l_t_behind c_l_t_end c_l_s_fields c_l_s_ties c_l_s_worth c_l_s_forces c_l_s_many c_l_s_codes c_l_s_b_list c_l_s_b_many c_l_s_p_list c_l_s_p_weights c_l_s_p_drawn c_l_s_p_many c_l_s_p_all c_l_s_p_turns c_nt_seen c_nt_many c_v_kept c_v_many c_v_turns c_v_stale c_v_goes c_v_row c_w_all c_w_mass c_g_picks c_g_many c_g_table c_g_rowNames c_g_columnNames c_g_rows c_g_columns c_g_scale m_thrown m_told m_read m_many m_eights m_gains m_notes m_seen m_turns m_drawn m_state m_tape m_taped m_size m_from m_next m_token m_value m_fault m_number m_fives m_isLeft m_wentTimes m_goes m_isLeftLaid m_game m_rows m_columns m_isFound m_bestValue m_bestBelow m_bestShare m_share m_matrix m_system m_shares m_allShares hR
  obtain ⟨K, W, ti, fo, bN, bI, pN, pI, pW, tu, dr, nN, nS, tN, bs, hX, hM, hB, hP, hT, hN, hTp, hSx, hSm, hF, hch⟩ := id hR
  obtain ⟨v, bList', bMany', told', bN', bI', e9, e10, hM', hB', hP'⟩ := call_add (z := 20000) (by omega) hX hM hB hP x1 x2 m_thrown
  refine ⟨v, _, _, C9_add l e9, C10_add l e10, Iv_mk ?_⟩
  exact ⟨K, W, ti, fo, bN', bI', pN, pI, pW, tu, dr, nN, nS, tN, bs, hX, hM', hB', hP', TNr_mono (Nat.le_succ t) hT, hN, hTp, hSx, hSm, hF, hch⟩
theorem st_shut (l : Launch) (t : Nat) (ht : t < 512) : xSt (Iv t) (Iv (t + 1)) l yX9_shut yX10_shut j9_shut j10_shut (fun as => as.length = 1) := by
  intro as hx hm hI hl
  obtain ⟨x1, rfl⟩ : ∃ x1, as = [x1] := xlen1 hl
  refine Iv_el (C := fun hx hm => ∃ (v : Int32) (hx' hm' : xHp), xCt l yX9_shut (some .int) j9_shut [.ref 0, .int x1] hx (some (.int v)) hx' ∧ xCt l yX10_shut (some .int) j10_shut [.ref 0, .int x1] hm (some (.int v)) hm' ∧ Iv (t + 1) hx' hm') ?_ hx hm hI
  intro c_chance c_n_fields c_n_ties c_n_worth c_n_forces c_n_many c_n_codes c_n_b_list c_n_b_many c_n_p_list c_n_p_weights c_n_p_drawn c_n_p_many c_n_p_all c_n_p_turns c_l_fault c_l_t_bytes c_l_t_many c_l_t_kind c_l_t_from c_l_t_behind c_l_t_end c_l_s_fields c_l_s_ties c_l_s_worth c_l_s_forces c_l_s_many c_l_s_codes c_l_s_b_list c_l_s_b_many c_l_s_p_list c_l_s_p_weights c_l_s_p_drawn c_l_s_p_many c_l_s_p_all c_l_s_p_turns c_nt_seen c_nt_many c_v_kept c_v_many c_v_turns c_v_stale c_v_goes c_v_row c_w_all c_w_mass c_g_picks c_g_many c_g_table c_g_rowNames c_g_columnNames c_g_rows c_g_columns c_g_scale m_thrown m_told m_read m_many m_eights m_gains m_notes m_seen m_turns m_drawn m_state m_tape m_taped m_size m_from m_next m_token m_value m_fault m_number m_fives m_isLeft m_wentTimes m_goes m_isLeftLaid m_game m_rows m_columns m_isFound m_bestValue m_bestBelow m_bestShare m_share m_matrix m_system m_shares m_allShares hR
  obtain ⟨K, W, ti, fo, bN, bI, pN, pI, pW, tu, dr, nN, nS, tN, bs, hX, hM, hB, hP, hT, hN, hTp, hSx, hSm, hF, hch⟩ := id hR
  obtain ⟨v, bMany', told', bN', e9, e10, hM', hB', hP'⟩ := call_shut hM hB hP x1 m_thrown
  refine ⟨v, _, _, C9_shut l e9, C10_shut l e10, Iv_mk ?_⟩
  exact ⟨K, W, ti, fo, bN', bI, pN, pI, pW, tu, dr, nN, nS, tN, bs, hX, hM', hB', hP', TNr_mono (Nat.le_succ t) hT, hN, hTp, hSx, hSm, hF, hch⟩
theorem st_book (l : Launch) (t : Nat) (ht : t < 512) : xSt (Iv t) (Iv (t + 1)) l yX9_book yX10_book j9_book j10_book (fun as => as.length = 2) := by
  intro as hx hm hI hl
  obtain ⟨x1, x2, rfl⟩ : ∃ x1 x2, as = [x1, x2] := xlen2 hl
  refine Iv_el (C := fun hx hm => ∃ (v : Int32) (hx' hm' : xHp), xCt l yX9_book (some .int) j9_book [.ref 0, .int x1, .int x2] hx (some (.int v)) hx' ∧ xCt l yX10_book (some .int) j10_book [.ref 0, .int x1, .int x2] hm (some (.int v)) hm' ∧ Iv (t + 1) hx' hm') ?_ hx hm hI
  intro c_chance c_n_fields c_n_ties c_n_worth c_n_forces c_n_many c_n_codes c_n_b_list c_n_b_many c_n_p_list c_n_p_weights c_n_p_drawn c_n_p_many c_n_p_all c_n_p_turns c_l_fault c_l_t_bytes c_l_t_many c_l_t_kind c_l_t_from c_l_t_behind c_l_t_end c_l_s_fields c_l_s_ties c_l_s_worth c_l_s_forces c_l_s_many c_l_s_codes c_l_s_b_list c_l_s_b_many c_l_s_p_list c_l_s_p_weights c_l_s_p_drawn c_l_s_p_many c_l_s_p_all c_l_s_p_turns c_nt_seen c_nt_many c_v_kept c_v_many c_v_turns c_v_stale c_v_goes c_v_row c_w_all c_w_mass c_g_picks c_g_many c_g_table c_g_rowNames c_g_columnNames c_g_rows c_g_columns c_g_scale m_thrown m_told m_read m_many m_eights m_gains m_notes m_seen m_turns m_drawn m_state m_tape m_taped m_size m_from m_next m_token m_value m_fault m_number m_fives m_isLeft m_wentTimes m_goes m_isLeftLaid m_game m_rows m_columns m_isFound m_bestValue m_bestBelow m_bestShare m_share m_matrix m_system m_shares m_allShares hR
  obtain ⟨K, W, ti, fo, bN, bI, pN, pI, pW, tu, dr, nN, nS, tN, bs, hX, hM, hB, hP, hT, hN, hTp, hSx, hSm, hF, hch⟩ := id hR
  obtain ⟨v, e9, e10⟩ := call_book (z := 20000) (by omega) hM hB x1 x2 m_thrown
  refine ⟨v, _, _, C9_book l e9, C10_book l e10, Iv_mk ?_⟩
  exact Rl_mono (Nat.le_succ t) hR
theorem st_value (l : Launch) (t : Nat) (ht : t < 512) : xSt (Iv t) (Iv (t + 1)) l yX9_value yX10_value j9_value j10_value (fun as => as.length = 1) := by
  intro as hx hm hI hl
  obtain ⟨x1, rfl⟩ : ∃ x1, as = [x1] := xlen1 hl
  refine Iv_el (C := fun hx hm => ∃ (v : Int32) (hx' hm' : xHp), xCt l yX9_value (some .int) j9_value [.ref 0, .int x1] hx (some (.int v)) hx' ∧ xCt l yX10_value (some .int) j10_value [.ref 0, .int x1] hm (some (.int v)) hm' ∧ Iv (t + 1) hx' hm') ?_ hx hm hI
  intro c_chance c_n_fields c_n_ties c_n_worth c_n_forces c_n_many c_n_codes c_n_b_list c_n_b_many c_n_p_list c_n_p_weights c_n_p_drawn c_n_p_many c_n_p_all c_n_p_turns c_l_fault c_l_t_bytes c_l_t_many c_l_t_kind c_l_t_from c_l_t_behind c_l_t_end c_l_s_fields c_l_s_ties c_l_s_worth c_l_s_forces c_l_s_many c_l_s_codes c_l_s_b_list c_l_s_b_many c_l_s_p_list c_l_s_p_weights c_l_s_p_drawn c_l_s_p_many c_l_s_p_all c_l_s_p_turns c_nt_seen c_nt_many c_v_kept c_v_many c_v_turns c_v_stale c_v_goes c_v_row c_w_all c_w_mass c_g_picks c_g_many c_g_table c_g_rowNames c_g_columnNames c_g_rows c_g_columns c_g_scale m_thrown m_told m_read m_many m_eights m_gains m_notes m_seen m_turns m_drawn m_state m_tape m_taped m_size m_from m_next m_token m_value m_fault m_number m_fives m_isLeft m_wentTimes m_goes m_isLeftLaid m_game m_rows m_columns m_isFound m_bestValue m_bestBelow m_bestShare m_share m_matrix m_system m_shares m_allShares hR
  obtain ⟨K, W, ti, fo, bN, bI, pN, pI, pW, tu, dr, nN, nS, tN, bs, hX, hM, hB, hP, hT, hN, hTp, hSx, hSm, hF, hch⟩ := id hR
  obtain ⟨v, o, p, e9, e10⟩ := call_value (z := 20000) (by omega) hX hM hB x1 m_thrown c_g_picks c_g_many c_g_table c_g_rowNames c_g_columnNames c_g_rows c_g_columns c_g_scale m_game m_rows m_columns m_isFound m_bestValue m_bestBelow m_bestShare m_share m_matrix m_system
  refine ⟨v, _, _, C9_value l e9, C10_value l e10, Iv_mk ?_⟩
  exact Rl_mono (Nat.le_succ t) hR
theorem st_best (l : Launch) (t : Nat) (ht : t < 512) : xSt (Iv t) (Iv (t + 1)) l yX9_best yX10_best j9_best j10_best (fun as => as.length = 3) := by
  intro as hx hm hI hl
  obtain ⟨x1, x2, x3, rfl⟩ : ∃ x1 x2 x3, as = [x1, x2, x3] := xlen3 hl
  refine Iv_el (C := fun hx hm => ∃ (v : Int32) (hx' hm' : xHp), xCt l yX9_best (some .int) j9_best [.ref 0, .int x1, .int x2, .int x3] hx (some (.int v)) hx' ∧ xCt l yX10_best (some .int) j10_best [.ref 0, .int x1, .int x2, .int x3] hm (some (.int v)) hm' ∧ Iv (t + 1) hx' hm') ?_ hx hm hI
  intro c_chance c_n_fields c_n_ties c_n_worth c_n_forces c_n_many c_n_codes c_n_b_list c_n_b_many c_n_p_list c_n_p_weights c_n_p_drawn c_n_p_many c_n_p_all c_n_p_turns c_l_fault c_l_t_bytes c_l_t_many c_l_t_kind c_l_t_from c_l_t_behind c_l_t_end c_l_s_fields c_l_s_ties c_l_s_worth c_l_s_forces c_l_s_many c_l_s_codes c_l_s_b_list c_l_s_b_many c_l_s_p_list c_l_s_p_weights c_l_s_p_drawn c_l_s_p_many c_l_s_p_all c_l_s_p_turns c_nt_seen c_nt_many c_v_kept c_v_many c_v_turns c_v_stale c_v_goes c_v_row c_w_all c_w_mass c_g_picks c_g_many c_g_table c_g_rowNames c_g_columnNames c_g_rows c_g_columns c_g_scale m_thrown m_told m_read m_many m_eights m_gains m_notes m_seen m_turns m_drawn m_state m_tape m_taped m_size m_from m_next m_token m_value m_fault m_number m_fives m_isLeft m_wentTimes m_goes m_isLeftLaid m_game m_rows m_columns m_isFound m_bestValue m_bestBelow m_bestShare m_share m_matrix m_system m_shares m_allShares hR
  obtain ⟨K, W, ti, fo, bN, bI, pN, pI, pW, tu, dr, nN, nS, tN, bs, hX, hM, hB, hP, hT, hN, hTp, hSx, hSm, hF, hch⟩ := id hR
  obtain ⟨v, o, p, e9, e10⟩ := call_best (z := 20000) (by omega) hX hM hB x1 x2 x3 m_thrown c_g_picks c_g_many c_g_table c_g_rowNames c_g_columnNames c_g_rows c_g_columns c_g_scale m_game m_rows m_columns m_isFound m_bestValue m_bestBelow m_bestShare m_share m_matrix m_system
  refine ⟨v, _, _, C9_best l e9, C10_best l e10, Iv_mk ?_⟩
  exact Rl_mono (Nat.le_succ t) hR
theorem st_valueWith (l : Launch) (t : Nat) (ht : t < 512) : xSt (Iv t) (Iv (t + 1)) l yX9_valueWith yX10_valueWith j9_valueWith j10_valueWith (fun as => as.length = 3) := by
  intro as hx hm hI hl
  obtain ⟨x1, x2, x3, rfl⟩ : ∃ x1 x2 x3, as = [x1, x2, x3] := xlen3 hl
  refine Iv_el (C := fun hx hm => ∃ (v : Int32) (hx' hm' : xHp), xCt l yX9_valueWith (some .int) j9_valueWith [.ref 0, .int x1, .int x2, .int x3] hx (some (.int v)) hx' ∧ xCt l yX10_valueWith (some .int) j10_valueWith [.ref 0, .int x1, .int x2, .int x3] hm (some (.int v)) hm' ∧ Iv (t + 1) hx' hm') ?_ hx hm hI
  intro c_chance c_n_fields c_n_ties c_n_worth c_n_forces c_n_many c_n_codes c_n_b_list c_n_b_many c_n_p_list c_n_p_weights c_n_p_drawn c_n_p_many c_n_p_all c_n_p_turns c_l_fault c_l_t_bytes c_l_t_many c_l_t_kind c_l_t_from c_l_t_behind c_l_t_end c_l_s_fields c_l_s_ties c_l_s_worth c_l_s_forces c_l_s_many c_l_s_codes c_l_s_b_list c_l_s_b_many c_l_s_p_list c_l_s_p_weights c_l_s_p_drawn c_l_s_p_many c_l_s_p_all c_l_s_p_turns c_nt_seen c_nt_many c_v_kept c_v_many c_v_turns c_v_stale c_v_goes c_v_row c_w_all c_w_mass c_g_picks c_g_many c_g_table c_g_rowNames c_g_columnNames c_g_rows c_g_columns c_g_scale m_thrown m_told m_read m_many m_eights m_gains m_notes m_seen m_turns m_drawn m_state m_tape m_taped m_size m_from m_next m_token m_value m_fault m_number m_fives m_isLeft m_wentTimes m_goes m_isLeftLaid m_game m_rows m_columns m_isFound m_bestValue m_bestBelow m_bestShare m_share m_matrix m_system m_shares m_allShares hR
  obtain ⟨K, W, ti, fo, bN, bI, pN, pI, pW, tu, dr, nN, nS, tN, bs, hX, hM, hB, hP, hT, hN, hTp, hSx, hSm, hF, hch⟩ := id hR
  obtain ⟨v, o, p, e9, e10⟩ := call_valueWith (z := 20000) (by omega) hX hM hB x1 x2 x3 m_thrown c_g_picks c_g_many c_g_table c_g_rowNames c_g_columnNames c_g_rows c_g_columns c_g_scale m_game m_rows m_columns m_isFound m_bestValue m_bestBelow m_bestShare m_share m_matrix m_system
  refine ⟨v, _, _, C9_valueWith l e9, C10_valueWith l e10, Iv_mk ?_⟩
  exact Rl_mono (Nat.le_succ t) hR
theorem st_needless (l : Launch) (t : Nat) (ht : t < 512) : xSt (Iv t) (Iv (t + 1)) l yX9_needless yX10_needless j9_needless j10_needless (fun as => as.length = 1) := by
  intro as hx hm hI hl
  obtain ⟨x1, rfl⟩ : ∃ x1, as = [x1] := xlen1 hl
  refine Iv_el (C := fun hx hm => ∃ (v : Int32) (hx' hm' : xHp), xCt l yX9_needless (some .int) j9_needless [.ref 0, .int x1] hx (some (.int v)) hx' ∧ xCt l yX10_needless (some .int) j10_needless [.ref 0, .int x1] hm (some (.int v)) hm' ∧ Iv (t + 1) hx' hm') ?_ hx hm hI
  intro c_chance c_n_fields c_n_ties c_n_worth c_n_forces c_n_many c_n_codes c_n_b_list c_n_b_many c_n_p_list c_n_p_weights c_n_p_drawn c_n_p_many c_n_p_all c_n_p_turns c_l_fault c_l_t_bytes c_l_t_many c_l_t_kind c_l_t_from c_l_t_behind c_l_t_end c_l_s_fields c_l_s_ties c_l_s_worth c_l_s_forces c_l_s_many c_l_s_codes c_l_s_b_list c_l_s_b_many c_l_s_p_list c_l_s_p_weights c_l_s_p_drawn c_l_s_p_many c_l_s_p_all c_l_s_p_turns c_nt_seen c_nt_many c_v_kept c_v_many c_v_turns c_v_stale c_v_goes c_v_row c_w_all c_w_mass c_g_picks c_g_many c_g_table c_g_rowNames c_g_columnNames c_g_rows c_g_columns c_g_scale m_thrown m_told m_read m_many m_eights m_gains m_notes m_seen m_turns m_drawn m_state m_tape m_taped m_size m_from m_next m_token m_value m_fault m_number m_fives m_isLeft m_wentTimes m_goes m_isLeftLaid m_game m_rows m_columns m_isFound m_bestValue m_bestBelow m_bestShare m_share m_matrix m_system m_shares m_allShares hR
  obtain ⟨K, W, ti, fo, bN, bI, pN, pI, pW, tu, dr, nN, nS, tN, bs, hX, hM, hB, hP, hT, hN, hTp, hSx, hSm, hF, hch⟩ := id hR
  obtain ⟨v, o, p, e9, e10⟩ := call_needless (z := 20000) (by omega) hX hM hB x1 m_thrown c_g_picks c_g_many c_g_table c_g_rowNames c_g_columnNames c_g_rows c_g_columns c_g_scale m_game m_rows m_columns m_isFound m_bestValue m_bestBelow m_bestShare m_share m_matrix m_system
  refine ⟨v, _, _, C9_needless l e9, C10_needless l e10, Iv_mk ?_⟩
  exact Rl_mono (Nat.le_succ t) hR
theorem st_state (l : Launch) (t : Nat) (ht : t < 512) : xSt (Iv t) (Iv (t + 1)) l yX9_state yX10_state j9_state j10_state (fun as => as.length = 1) := by
  intro as hx hm hI hl
  obtain ⟨x1, rfl⟩ : ∃ x1, as = [x1] := xlen1 hl
  refine Iv_el (C := fun hx hm => ∃ (v : Int32) (hx' hm' : xHp), xCt l yX9_state (some .int) j9_state [.ref 0, .int x1] hx (some (.int v)) hx' ∧ xCt l yX10_state (some .int) j10_state [.ref 0, .int x1] hm (some (.int v)) hm' ∧ Iv (t + 1) hx' hm') ?_ hx hm hI
  intro c_chance c_n_fields c_n_ties c_n_worth c_n_forces c_n_many c_n_codes c_n_b_list c_n_b_many c_n_p_list c_n_p_weights c_n_p_drawn c_n_p_many c_n_p_all c_n_p_turns c_l_fault c_l_t_bytes c_l_t_many c_l_t_kind c_l_t_from c_l_t_behind c_l_t_end c_l_s_fields c_l_s_ties c_l_s_worth c_l_s_forces c_l_s_many c_l_s_codes c_l_s_b_list c_l_s_b_many c_l_s_p_list c_l_s_p_weights c_l_s_p_drawn c_l_s_p_many c_l_s_p_all c_l_s_p_turns c_nt_seen c_nt_many c_v_kept c_v_many c_v_turns c_v_stale c_v_goes c_v_row c_w_all c_w_mass c_g_picks c_g_many c_g_table c_g_rowNames c_g_columnNames c_g_rows c_g_columns c_g_scale m_thrown m_told m_read m_many m_eights m_gains m_notes m_seen m_turns m_drawn m_state m_tape m_taped m_size m_from m_next m_token m_value m_fault m_number m_fives m_isLeft m_wentTimes m_goes m_isLeftLaid m_game m_rows m_columns m_isFound m_bestValue m_bestBelow m_bestShare m_share m_matrix m_system m_shares m_allShares hR
  obtain ⟨K, W, ti, fo, bN, bI, pN, pI, pW, tu, dr, nN, nS, tN, bs, hX, hM, hB, hP, hT, hN, hTp, hSx, hSm, hF, hch⟩ := id hR
  obtain ⟨v, e9, e10⟩ : ∃ v, F9_state x1 c_chance = some (v, x1) ∧ F10_state x1 m_thrown m_state = some (v, 0, x1) := ⟨c_chance, rfl, by rw [hch]; rfl⟩
  refine ⟨v, _, _, C9_state l e9, C10_state l e10, Iv_mk ?_⟩
  exact ⟨K, W, ti, fo, bN, bI, pN, pI, pW, tu, dr, nN, nS, tN, bs, hX, hM, hB, hP, TNr_mono (Nat.le_succ t) hT, hN, hTp, hSx, hSm, hF, rfl⟩
theorem st_note (l : Launch) (t : Nat) (ht : t < 512) : xSt (Iv t) (Iv (t + 1)) l yX9_note yX10_note j9_note j10_note (fun as => as.length = 2) := by
  intro as hx hm hI hl
  obtain ⟨x1, x2, rfl⟩ : ∃ x1 x2, as = [x1, x2] := xlen2 hl
  refine Iv_el (C := fun hx hm => ∃ (v : Int32) (hx' hm' : xHp), xCt l yX9_note (some .int) j9_note [.ref 0, .int x1, .int x2] hx (some (.int v)) hx' ∧ xCt l yX10_note (some .int) j10_note [.ref 0, .int x1, .int x2] hm (some (.int v)) hm' ∧ Iv (t + 1) hx' hm') ?_ hx hm hI
  intro c_chance c_n_fields c_n_ties c_n_worth c_n_forces c_n_many c_n_codes c_n_b_list c_n_b_many c_n_p_list c_n_p_weights c_n_p_drawn c_n_p_many c_n_p_all c_n_p_turns c_l_fault c_l_t_bytes c_l_t_many c_l_t_kind c_l_t_from c_l_t_behind c_l_t_end c_l_s_fields c_l_s_ties c_l_s_worth c_l_s_forces c_l_s_many c_l_s_codes c_l_s_b_list c_l_s_b_many c_l_s_p_list c_l_s_p_weights c_l_s_p_drawn c_l_s_p_many c_l_s_p_all c_l_s_p_turns c_nt_seen c_nt_many c_v_kept c_v_many c_v_turns c_v_stale c_v_goes c_v_row c_w_all c_w_mass c_g_picks c_g_many c_g_table c_g_rowNames c_g_columnNames c_g_rows c_g_columns c_g_scale m_thrown m_told m_read m_many m_eights m_gains m_notes m_seen m_turns m_drawn m_state m_tape m_taped m_size m_from m_next m_token m_value m_fault m_number m_fives m_isLeft m_wentTimes m_goes m_isLeftLaid m_game m_rows m_columns m_isFound m_bestValue m_bestBelow m_bestShare m_share m_matrix m_system m_shares m_allShares hR
  obtain ⟨K, W, ti, fo, bN, bI, pN, pI, pW, tu, dr, nN, nS, tN, bs, hX, hM, hB, hP, hT, hN, hTp, hSx, hSm, hF, hch⟩ := id hR
  obtain ⟨v, ntSeen', ntMany', notes', seen', nN', nS', e9, e10, hN'⟩ := call_note hX hM hN x1 x2 m_thrown
  refine ⟨v, _, _, C9_note l e9, C10_note l e10, Iv_mk ?_⟩
  exact ⟨K, W, ti, fo, bN, bI, pN, pI, pW, tu, dr, nN', nS', tN, bs, hX, hM, hB, hP, TNr_mono (Nat.le_succ t) hT, hN', hTp, hSx, hSm, hF, hch⟩
theorem st_entry (l : Launch) (t : Nat) (ht : t < 512) : xSt (Iv t) (Iv (t + 1)) l yX9_entry yX10_entry j9_entry j10_entry (fun as => as.length = 3) := by
  intro as hx hm hI hl
  obtain ⟨x1, x2, x3, rfl⟩ : ∃ x1 x2 x3, as = [x1, x2, x3] := xlen3 hl
  refine Iv_el (C := fun hx hm => ∃ (v : Int32) (hx' hm' : xHp), xCt l yX9_entry (some .int) j9_entry [.ref 0, .int x1, .int x2, .int x3] hx (some (.int v)) hx' ∧ xCt l yX10_entry (some .int) j10_entry [.ref 0, .int x1, .int x2, .int x3] hm (some (.int v)) hm' ∧ Iv (t + 1) hx' hm') ?_ hx hm hI
  intro c_chance c_n_fields c_n_ties c_n_worth c_n_forces c_n_many c_n_codes c_n_b_list c_n_b_many c_n_p_list c_n_p_weights c_n_p_drawn c_n_p_many c_n_p_all c_n_p_turns c_l_fault c_l_t_bytes c_l_t_many c_l_t_kind c_l_t_from c_l_t_behind c_l_t_end c_l_s_fields c_l_s_ties c_l_s_worth c_l_s_forces c_l_s_many c_l_s_codes c_l_s_b_list c_l_s_b_many c_l_s_p_list c_l_s_p_weights c_l_s_p_drawn c_l_s_p_many c_l_s_p_all c_l_s_p_turns c_nt_seen c_nt_many c_v_kept c_v_many c_v_turns c_v_stale c_v_goes c_v_row c_w_all c_w_mass c_g_picks c_g_many c_g_table c_g_rowNames c_g_columnNames c_g_rows c_g_columns c_g_scale m_thrown m_told m_read m_many m_eights m_gains m_notes m_seen m_turns m_drawn m_state m_tape m_taped m_size m_from m_next m_token m_value m_fault m_number m_fives m_isLeft m_wentTimes m_goes m_isLeftLaid m_game m_rows m_columns m_isFound m_bestValue m_bestBelow m_bestShare m_share m_matrix m_system m_shares m_allShares hR
  obtain ⟨K, W, ti, fo, bN, bI, pN, pI, pW, tu, dr, nN, nS, tN, bs, hX, hM, hB, hP, hT, hN, hTp, hSx, hSm, hF, hch⟩ := id hR
  obtain ⟨v, e9, e10⟩ := call_entry (z := 20000) (by omega) hM hP hT x1 x2 x3 m_thrown
  refine ⟨v, _, _, C9_entry l e9, C10_entry l e10, Iv_mk ?_⟩
  exact Rl_mono (Nat.le_succ t) hR
theorem st_feed (l : Launch) (t : Nat) (ht : t < 512) : xSt (Iv t) (Iv (t + 1)) l yX9_feed yX10_feed j9_feed j10_feed (fun as => as.length = 5) := by
  intro as hx hm hI hl
  obtain ⟨x1, x2, x3, x4, x5, rfl⟩ : ∃ x1 x2 x3 x4 x5, as = [x1, x2, x3, x4, x5] := xlen5 hl
  refine Iv_el (C := fun hx hm => ∃ (v : Int32) (hx' hm' : xHp), xCt l yX9_feed (some .int) j9_feed [.ref 0, .int x1, .int x2, .int x3, .int x4, .int x5] hx (some (.int v)) hx' ∧ xCt l yX10_feed (some .int) j10_feed [.ref 0, .int x1, .int x2, .int x3, .int x4, .int x5] hm (some (.int v)) hm' ∧ Iv (t + 1) hx' hm') ?_ hx hm hI
  intro c_chance c_n_fields c_n_ties c_n_worth c_n_forces c_n_many c_n_codes c_n_b_list c_n_b_many c_n_p_list c_n_p_weights c_n_p_drawn c_n_p_many c_n_p_all c_n_p_turns c_l_fault c_l_t_bytes c_l_t_many c_l_t_kind c_l_t_from c_l_t_behind c_l_t_end c_l_s_fields c_l_s_ties c_l_s_worth c_l_s_forces c_l_s_many c_l_s_codes c_l_s_b_list c_l_s_b_many c_l_s_p_list c_l_s_p_weights c_l_s_p_drawn c_l_s_p_many c_l_s_p_all c_l_s_p_turns c_nt_seen c_nt_many c_v_kept c_v_many c_v_turns c_v_stale c_v_goes c_v_row c_w_all c_w_mass c_g_picks c_g_many c_g_table c_g_rowNames c_g_columnNames c_g_rows c_g_columns c_g_scale m_thrown m_told m_read m_many m_eights m_gains m_notes m_seen m_turns m_drawn m_state m_tape m_taped m_size m_from m_next m_token m_value m_fault m_number m_fives m_isLeft m_wentTimes m_goes m_isLeftLaid m_game m_rows m_columns m_isFound m_bestValue m_bestBelow m_bestShare m_share m_matrix m_system m_shares m_allShares hR
  obtain ⟨K, W, ti, fo, bN, bI, pN, pI, pW, tu, dr, nN, nS, tN, bs, hX, hM, hB, hP, hT, hN, hTp, hSx, hSm, hF, hch⟩ := id hR
  obtain ⟨v, tb', tm', tape', ta', tN', bs', e9, e10, hTp'⟩ := call_feed (z := 20000) (z' := 20000) (by omega) (by omega) hTp x1 x2 x3 x4 x5 m_thrown
  refine ⟨v, _, _, C9_feed l e9, C10_feed l e10, Iv_mk ?_⟩
  exact ⟨K, W, ti, fo, bN, bI, pN, pI, pW, tu, dr, nN, nS, tN', bs', hX, hM, hB, hP, TNr_mono (Nat.le_succ t) hT, hN, hTp', hSx, hSm, hF, hch⟩
theorem st_plan (l : Launch) (t : Nat) (ht : t < 512) : xSt (Iv t) (Iv (t + 1)) l yX9_plan yX10_plan j9_plan j10_plan (fun as => as.length = 3) := by
  intro as hx hm hI hl
  obtain ⟨x1, x2, x3, rfl⟩ : ∃ x1 x2 x3, as = [x1, x2, x3] := xlen3 hl
  refine Iv_el (C := fun hx hm => ∃ (v : Int32) (hx' hm' : xHp), xCt l yX9_plan (some .int) j9_plan [.ref 0, .int x1, .int x2, .int x3] hx (some (.int v)) hx' ∧ xCt l yX10_plan (some .int) j10_plan [.ref 0, .int x1, .int x2, .int x3] hm (some (.int v)) hm' ∧ Iv (t + 1) hx' hm') ?_ hx hm hI
  intro c_chance c_n_fields c_n_ties c_n_worth c_n_forces c_n_many c_n_codes c_n_b_list c_n_b_many c_n_p_list c_n_p_weights c_n_p_drawn c_n_p_many c_n_p_all c_n_p_turns c_l_fault c_l_t_bytes c_l_t_many c_l_t_kind c_l_t_from c_l_t_behind c_l_t_end c_l_s_fields c_l_s_ties c_l_s_worth c_l_s_forces c_l_s_many c_l_s_codes c_l_s_b_list c_l_s_b_many c_l_s_p_list c_l_s_p_weights c_l_s_p_drawn c_l_s_p_many c_l_s_p_all c_l_s_p_turns c_nt_seen c_nt_many c_v_kept c_v_many c_v_turns c_v_stale c_v_goes c_v_row c_w_all c_w_mass c_g_picks c_g_many c_g_table c_g_rowNames c_g_columnNames c_g_rows c_g_columns c_g_scale m_thrown m_told m_read m_many m_eights m_gains m_notes m_seen m_turns m_drawn m_state m_tape m_taped m_size m_from m_next m_token m_value m_fault m_number m_fives m_isLeft m_wentTimes m_goes m_isLeftLaid m_game m_rows m_columns m_isFound m_bestValue m_bestBelow m_bestShare m_share m_matrix m_system m_shares m_allShares hR
  obtain ⟨K, W, ti, fo, bN, bI, pN, pI, pW, tu, dr, nN, nS, tN, bs, hX, hM, hB, hP, hT, hN, hTp, hSx, hSm, hF, hch⟩ := id hR
  obtain ⟨v, pList', pWei', pDrawn', pMany', pAll', pTurns', told', turns', drawn', pN', pI', pW', tu', dr', e9, e10, hM', hB', hP', hT'⟩ := call_plan (z := 20000) (by omega) hX hM hB hP hT x1 x2 x3 m_thrown
  refine ⟨v, _, _, C9_plan l e9, C10_plan l e10, Iv_mk ?_⟩
  exact ⟨K, W, ti, fo, bN, bI, pN', pI', pW', tu', dr', nN, nS, tN, bs, hX, hM', hB', hP', TNr_mono (Nat.le_succ t) hT', hN, hTp, hSx, hSm, hF, hch⟩
theorem st_draw (l : Launch) (t : Nat) (ht : t < 512) : xSt (Iv t) (Iv (t + 1)) l yX9_draw yX10_draw j9_draw j10_draw (fun as => as.length = 2) := by
  intro as hx hm hI hl
  obtain ⟨x1, x2, rfl⟩ : ∃ x1 x2, as = [x1, x2] := xlen2 hl
  refine Iv_el (C := fun hx hm => ∃ (v : Int32) (hx' hm' : xHp), xCt l yX9_draw (some .int) j9_draw [.ref 0, .int x1, .int x2] hx (some (.int v)) hx' ∧ xCt l yX10_draw (some .int) j10_draw [.ref 0, .int x1, .int x2] hm (some (.int v)) hm' ∧ Iv (t + 1) hx' hm') ?_ hx hm hI
  intro c_chance c_n_fields c_n_ties c_n_worth c_n_forces c_n_many c_n_codes c_n_b_list c_n_b_many c_n_p_list c_n_p_weights c_n_p_drawn c_n_p_many c_n_p_all c_n_p_turns c_l_fault c_l_t_bytes c_l_t_many c_l_t_kind c_l_t_from c_l_t_behind c_l_t_end c_l_s_fields c_l_s_ties c_l_s_worth c_l_s_forces c_l_s_many c_l_s_codes c_l_s_b_list c_l_s_b_many c_l_s_p_list c_l_s_p_weights c_l_s_p_drawn c_l_s_p_many c_l_s_p_all c_l_s_p_turns c_nt_seen c_nt_many c_v_kept c_v_many c_v_turns c_v_stale c_v_goes c_v_row c_w_all c_w_mass c_g_picks c_g_many c_g_table c_g_rowNames c_g_columnNames c_g_rows c_g_columns c_g_scale m_thrown m_told m_read m_many m_eights m_gains m_notes m_seen m_turns m_drawn m_state m_tape m_taped m_size m_from m_next m_token m_value m_fault m_number m_fives m_isLeft m_wentTimes m_goes m_isLeftLaid m_game m_rows m_columns m_isFound m_bestValue m_bestBelow m_bestShare m_share m_matrix m_system m_shares m_allShares hR
  obtain ⟨K, W, ti, fo, bN, bI, pN, pI, pW, tu, dr, nN, nS, tN, bs, hX, hM, hB, hP, hT, hN, hTp, hSx, hSm, hF, hch⟩ := id hR
  subst hch
  obtain ⟨v, state', pDrawn', pTurns', turns', drawn', tu', dr', e9, e10, hT'⟩ := call_draw ht (z := 20000) (by omega) hM hP hT x1 x2 m_thrown c_chance
  refine ⟨v, _, _, C9_draw l e9, C10_draw l e10, Iv_mk ?_⟩
  exact ⟨K, W, ti, fo, bN, bI, pN, pI, pW, tu', dr', nN, nS, tN, bs, hX, hM, hB, hP, hT', hN, hTp, hSx, hSm, hF, rfl⟩
theorem st_match (l : Launch) (t : Nat) (ht : t < 512) : xSt (Iv t) (Iv (t + 1)) l yX9_match yX10_match j9_match j10_match (fun as => as.length = 1) := by
  intro as hx hm hI hl
  obtain ⟨x1, rfl⟩ : ∃ x1, as = [x1] := xlen1 hl
  refine Iv_el (C := fun hx hm => ∃ (v : Int32) (hx' hm' : xHp), xCt l yX9_match (some .int) j9_match [.ref 0, .int x1] hx (some (.int v)) hx' ∧ xCt l yX10_match (some .int) j10_match [.ref 0, .int x1] hm (some (.int v)) hm' ∧ Iv (t + 1) hx' hm') ?_ hx hm hI
  intro c_chance c_n_fields c_n_ties c_n_worth c_n_forces c_n_many c_n_codes c_n_b_list c_n_b_many c_n_p_list c_n_p_weights c_n_p_drawn c_n_p_many c_n_p_all c_n_p_turns c_l_fault c_l_t_bytes c_l_t_many c_l_t_kind c_l_t_from c_l_t_behind c_l_t_end c_l_s_fields c_l_s_ties c_l_s_worth c_l_s_forces c_l_s_many c_l_s_codes c_l_s_b_list c_l_s_b_many c_l_s_p_list c_l_s_p_weights c_l_s_p_drawn c_l_s_p_many c_l_s_p_all c_l_s_p_turns c_nt_seen c_nt_many c_v_kept c_v_many c_v_turns c_v_stale c_v_goes c_v_row c_w_all c_w_mass c_g_picks c_g_many c_g_table c_g_rowNames c_g_columnNames c_g_rows c_g_columns c_g_scale m_thrown m_told m_read m_many m_eights m_gains m_notes m_seen m_turns m_drawn m_state m_tape m_taped m_size m_from m_next m_token m_value m_fault m_number m_fives m_isLeft m_wentTimes m_goes m_isLeftLaid m_game m_rows m_columns m_isFound m_bestValue m_bestBelow m_bestShare m_share m_matrix m_system m_shares m_allShares hR
  obtain ⟨K, W, ti, fo, bN, bI, pN, pI, pW, tu, dr, nN, nS, tN, bs, hX, hM, hB, hP, hT, hN, hTp, hSx, hSm, hF, hch⟩ := id hR
  subst hch
  obtain ⟨v, state', e9, e10⟩ := call_match (z := 20000) (by omega) hX hM hP x1 m_thrown c_chance
  refine ⟨v, _, _, C9_match l e9, C10_match l e10, Iv_mk ?_⟩
  exact ⟨K, W, ti, fo, bN, bI, pN, pI, pW, tu, dr, nN, nS, tN, bs, hX, hM, hB, hP, TNr_mono (Nat.le_succ t) hT, hN, hTp, hSx, hSm, hF, rfl⟩
theorem st_ways (l : Launch) (t : Nat) (ht : t < 512) : xStL (Iv t) (Iv (t + 1)) l yX9_ways yX10_ways j9_ways j10_ways (fun as => as.length = 3) := by
  intro as hx hm hI hl
  obtain ⟨x1, x2, x3, rfl⟩ : ∃ x1 x2 x3, as = [x1, x2, x3] := xlen3 hl
  refine Iv_el (C := fun hx hm => ∃ (v : Int64) (hx' hm' : xHp), xCt l yX9_ways (some .long) j9_ways [.ref 0, .int x1, .int x2, .int x3] hx (some (.long v)) hx' ∧ xCt l yX10_ways (some .long) j10_ways [.ref 0, .int x1, .int x2, .int x3] hm (some (.long v)) hm' ∧ Iv (t + 1) hx' hm') ?_ hx hm hI
  intro c_chance c_n_fields c_n_ties c_n_worth c_n_forces c_n_many c_n_codes c_n_b_list c_n_b_many c_n_p_list c_n_p_weights c_n_p_drawn c_n_p_many c_n_p_all c_n_p_turns c_l_fault c_l_t_bytes c_l_t_many c_l_t_kind c_l_t_from c_l_t_behind c_l_t_end c_l_s_fields c_l_s_ties c_l_s_worth c_l_s_forces c_l_s_many c_l_s_codes c_l_s_b_list c_l_s_b_many c_l_s_p_list c_l_s_p_weights c_l_s_p_drawn c_l_s_p_many c_l_s_p_all c_l_s_p_turns c_nt_seen c_nt_many c_v_kept c_v_many c_v_turns c_v_stale c_v_goes c_v_row c_w_all c_w_mass c_g_picks c_g_many c_g_table c_g_rowNames c_g_columnNames c_g_rows c_g_columns c_g_scale m_thrown m_told m_read m_many m_eights m_gains m_notes m_seen m_turns m_drawn m_state m_tape m_taped m_size m_from m_next m_token m_value m_fault m_number m_fives m_isLeft m_wentTimes m_goes m_isLeftLaid m_game m_rows m_columns m_isFound m_bestValue m_bestBelow m_bestShare m_share m_matrix m_system m_shares m_allShares hR
  obtain ⟨K, W, ti, fo, bN, bI, pN, pI, pW, tu, dr, nN, nS, tN, bs, hX, hM, hB, hP, hT, hN, hTp, hSx, hSm, hF, hch⟩ := id hR
  obtain ⟨v, e9, e10⟩ := call_ways (z := 20000) (by omega) x1 x2 x3 m_thrown
  refine ⟨v, _, _, C9_ways l e9, C10_ways l e10, Iv_mk ?_⟩
  exact Rl_mono (Nat.le_succ t) hR
theorem st_count (l : Launch) (t : Nat) (ht : t < 512) : xSt (Iv t) (Iv (t + 1)) l yX9_count yX10_count j9_count j10_count (fun as => as.length = 1) := by
  intro as hx hm hI hl
  obtain ⟨x1, rfl⟩ : ∃ x1, as = [x1] := xlen1 hl
  refine Iv_el (C := fun hx hm => ∃ (v : Int32) (hx' hm' : xHp), xCt l yX9_count (some .int) j9_count [.ref 0, .int x1] hx (some (.int v)) hx' ∧ xCt l yX10_count (some .int) j10_count [.ref 0, .int x1] hm (some (.int v)) hm' ∧ Iv (t + 1) hx' hm') ?_ hx hm hI
  intro c_chance c_n_fields c_n_ties c_n_worth c_n_forces c_n_many c_n_codes c_n_b_list c_n_b_many c_n_p_list c_n_p_weights c_n_p_drawn c_n_p_many c_n_p_all c_n_p_turns c_l_fault c_l_t_bytes c_l_t_many c_l_t_kind c_l_t_from c_l_t_behind c_l_t_end c_l_s_fields c_l_s_ties c_l_s_worth c_l_s_forces c_l_s_many c_l_s_codes c_l_s_b_list c_l_s_b_many c_l_s_p_list c_l_s_p_weights c_l_s_p_drawn c_l_s_p_many c_l_s_p_all c_l_s_p_turns c_nt_seen c_nt_many c_v_kept c_v_many c_v_turns c_v_stale c_v_goes c_v_row c_w_all c_w_mass c_g_picks c_g_many c_g_table c_g_rowNames c_g_columnNames c_g_rows c_g_columns c_g_scale m_thrown m_told m_read m_many m_eights m_gains m_notes m_seen m_turns m_drawn m_state m_tape m_taped m_size m_from m_next m_token m_value m_fault m_number m_fives m_isLeft m_wentTimes m_goes m_isLeftLaid m_game m_rows m_columns m_isFound m_bestValue m_bestBelow m_bestShare m_share m_matrix m_system m_shares m_allShares hR
  obtain ⟨K, W, ti, fo, bN, bI, pN, pI, pW, tu, dr, nN, nS, tN, bs, hX, hM, hB, hP, hT, hN, hTp, hSx, hSm, hF, hch⟩ := id hR
  subst hch
  obtain ⟨v, e9, e10⟩ := call_count (z := 20000) (by omega) hX hM hB hP hN hTp x1 m_thrown c_chance
  refine ⟨v, _, _, C9_count l e9, C10_count l e10, Iv_mk ?_⟩
  exact Rl_mono (Nat.le_succ t) hR
theorem st_apart (l : Launch) (t : Nat) (ht : t < 512) : xSt (Iv t) (Iv (t + 1)) l yX9_apart yX10_apart j9_apart j10_apart (fun as => as.length = 2) := by
  intro as hx hm hI hl
  obtain ⟨x1, x2, rfl⟩ : ∃ x1 x2, as = [x1, x2] := xlen2 hl
  refine Iv_el (C := fun hx hm => ∃ (v : Int32) (hx' hm' : xHp), xCt l yX9_apart (some .int) j9_apart [.ref 0, .int x1, .int x2] hx (some (.int v)) hx' ∧ xCt l yX10_apart (some .int) j10_apart [.ref 0, .int x1, .int x2] hm (some (.int v)) hm' ∧ Iv (t + 1) hx' hm') ?_ hx hm hI
  intro c_chance c_n_fields c_n_ties c_n_worth c_n_forces c_n_many c_n_codes c_n_b_list c_n_b_many c_n_p_list c_n_p_weights c_n_p_drawn c_n_p_many c_n_p_all c_n_p_turns c_l_fault c_l_t_bytes c_l_t_many c_l_t_kind c_l_t_from c_l_t_behind c_l_t_end c_l_s_fields c_l_s_ties c_l_s_worth c_l_s_forces c_l_s_many c_l_s_codes c_l_s_b_list c_l_s_b_many c_l_s_p_list c_l_s_p_weights c_l_s_p_drawn c_l_s_p_many c_l_s_p_all c_l_s_p_turns c_nt_seen c_nt_many c_v_kept c_v_many c_v_turns c_v_stale c_v_goes c_v_row c_w_all c_w_mass c_g_picks c_g_many c_g_table c_g_rowNames c_g_columnNames c_g_rows c_g_columns c_g_scale m_thrown m_told m_read m_many m_eights m_gains m_notes m_seen m_turns m_drawn m_state m_tape m_taped m_size m_from m_next m_token m_value m_fault m_number m_fives m_isLeft m_wentTimes m_goes m_isLeftLaid m_game m_rows m_columns m_isFound m_bestValue m_bestBelow m_bestShare m_share m_matrix m_system m_shares m_allShares hR
  obtain ⟨K, W, ti, fo, bN, bI, pN, pI, pW, tu, dr, nN, nS, tN, bs, hX, hM, hB, hP, hT, hN, hTp, hSx, hSm, hF, hch⟩ := id hR
  obtain ⟨v, e9, e10⟩ := call_apart (z := 20000) (by omega) hX hM hP hN x1 x2 m_thrown
  refine ⟨v, _, _, C9_apart l e9, C10_apart l e10, Iv_mk ?_⟩
  exact Rl_mono (Nat.le_succ t) hR
theorem st_reply (l : Launch) (t : Nat) (ht : t < 512) : xSt (Iv t) (Iv (t + 1)) l yX9_reply yX10_reply j9_reply j10_reply (fun as => as.length = 1) := by
  intro as hx hm hI hl
  obtain ⟨x1, rfl⟩ : ∃ x1, as = [x1] := xlen1 hl
  refine Iv_el (C := fun hx hm => ∃ (v : Int32) (hx' hm' : xHp), xCt l yX9_reply (some .int) j9_reply [.ref 0, .int x1] hx (some (.int v)) hx' ∧ xCt l yX10_reply (some .int) j10_reply [.ref 0, .int x1] hm (some (.int v)) hm' ∧ Iv (t + 1) hx' hm') ?_ hx hm hI
  intro c_chance c_n_fields c_n_ties c_n_worth c_n_forces c_n_many c_n_codes c_n_b_list c_n_b_many c_n_p_list c_n_p_weights c_n_p_drawn c_n_p_many c_n_p_all c_n_p_turns c_l_fault c_l_t_bytes c_l_t_many c_l_t_kind c_l_t_from c_l_t_behind c_l_t_end c_l_s_fields c_l_s_ties c_l_s_worth c_l_s_forces c_l_s_many c_l_s_codes c_l_s_b_list c_l_s_b_many c_l_s_p_list c_l_s_p_weights c_l_s_p_drawn c_l_s_p_many c_l_s_p_all c_l_s_p_turns c_nt_seen c_nt_many c_v_kept c_v_many c_v_turns c_v_stale c_v_goes c_v_row c_w_all c_w_mass c_g_picks c_g_many c_g_table c_g_rowNames c_g_columnNames c_g_rows c_g_columns c_g_scale m_thrown m_told m_read m_many m_eights m_gains m_notes m_seen m_turns m_drawn m_state m_tape m_taped m_size m_from m_next m_token m_value m_fault m_number m_fives m_isLeft m_wentTimes m_goes m_isLeftLaid m_game m_rows m_columns m_isFound m_bestValue m_bestBelow m_bestShare m_share m_matrix m_system m_shares m_allShares hR
  obtain ⟨K, W, ti, fo, bN, bI, pN, pI, pW, tu, dr, nN, nS, tN, bs, hX, hM, hB, hP, hT, hN, hTp, hSx, hSm, hF, hch⟩ := id hR
  obtain ⟨v, wall', wmass', shares', alls', e9, e10⟩ := call_reply (z := 20000) (by omega) hX hM hP x1 m_thrown c_w_all c_w_mass m_fives m_shares m_allShares
  refine ⟨v, _, _, C9_reply l e9, C10_reply l e10, Iv_mk ?_⟩
  exact Rl_mono (Nat.le_succ t) hR
theorem st_hold (l : Launch) (t : Nat) (ht : t < 512) : xSt (Iv t) (Iv (t + 1)) l yX9_hold yX10_hold j9_hold j10_hold (fun as => as.length = 2) := by
  intro as hx hm hI hl
  obtain ⟨x1, x2, rfl⟩ : ∃ x1 x2, as = [x1, x2] := xlen2 hl
  refine Iv_el (C := fun hx hm => ∃ (v : Int32) (hx' hm' : xHp), xCt l yX9_hold (some .int) j9_hold [.ref 0, .int x1, .int x2] hx (some (.int v)) hx' ∧ xCt l yX10_hold (some .int) j10_hold [.ref 0, .int x1, .int x2] hm (some (.int v)) hm' ∧ Iv (t + 1) hx' hm') ?_ hx hm hI
  intro c_chance c_n_fields c_n_ties c_n_worth c_n_forces c_n_many c_n_codes c_n_b_list c_n_b_many c_n_p_list c_n_p_weights c_n_p_drawn c_n_p_many c_n_p_all c_n_p_turns c_l_fault c_l_t_bytes c_l_t_many c_l_t_kind c_l_t_from c_l_t_behind c_l_t_end c_l_s_fields c_l_s_ties c_l_s_worth c_l_s_forces c_l_s_many c_l_s_codes c_l_s_b_list c_l_s_b_many c_l_s_p_list c_l_s_p_weights c_l_s_p_drawn c_l_s_p_many c_l_s_p_all c_l_s_p_turns c_nt_seen c_nt_many c_v_kept c_v_many c_v_turns c_v_stale c_v_goes c_v_row c_w_all c_w_mass c_g_picks c_g_many c_g_table c_g_rowNames c_g_columnNames c_g_rows c_g_columns c_g_scale m_thrown m_told m_read m_many m_eights m_gains m_notes m_seen m_turns m_drawn m_state m_tape m_taped m_size m_from m_next m_token m_value m_fault m_number m_fives m_isLeft m_wentTimes m_goes m_isLeftLaid m_game m_rows m_columns m_isFound m_bestValue m_bestBelow m_bestShare m_share m_matrix m_system m_shares m_allShares hR
  obtain ⟨K, W, ti, fo, bN, bI, pN, pI, pW, tu, dr, nN, nS, tN, bs, hX, hM, hB, hP, hT, hN, hTp, hSx, hSm, hF, hch⟩ := id hR
  obtain ⟨v, wall', wmass', shares', alls', e9, e10⟩ := call_hold (z := 20000) (by omega) hX hM hP x1 x2 m_thrown c_w_all c_w_mass m_fives m_shares m_allShares
  refine ⟨v, _, _, C9_hold l e9, C10_hold l e10, Iv_mk ?_⟩
  exact Rl_mono (Nat.le_succ t) hR
theorem st_meet (l : Launch) (t : Nat) (ht : t < 512) : xSt (Iv t) (Iv (t + 1)) l yX9_meet yX10_meet j9_meet j10_meet (fun as => as.length = 0) := by
  intro as hx hm hI hl
  obtain rfl : as = [] := List.eq_nil_of_length_eq_zero hl
  refine Iv_el (C := fun hx hm => ∃ (v : Int32) (hx' hm' : xHp), xCt l yX9_meet (some .int) j9_meet [.ref 0] hx (some (.int v)) hx' ∧ xCt l yX10_meet (some .int) j10_meet [.ref 0] hm (some (.int v)) hm' ∧ Iv (t + 1) hx' hm') ?_ hx hm hI
  intro c_chance c_n_fields c_n_ties c_n_worth c_n_forces c_n_many c_n_codes c_n_b_list c_n_b_many c_n_p_list c_n_p_weights c_n_p_drawn c_n_p_many c_n_p_all c_n_p_turns c_l_fault c_l_t_bytes c_l_t_many c_l_t_kind c_l_t_from c_l_t_behind c_l_t_end c_l_s_fields c_l_s_ties c_l_s_worth c_l_s_forces c_l_s_many c_l_s_codes c_l_s_b_list c_l_s_b_many c_l_s_p_list c_l_s_p_weights c_l_s_p_drawn c_l_s_p_many c_l_s_p_all c_l_s_p_turns c_nt_seen c_nt_many c_v_kept c_v_many c_v_turns c_v_stale c_v_goes c_v_row c_w_all c_w_mass c_g_picks c_g_many c_g_table c_g_rowNames c_g_columnNames c_g_rows c_g_columns c_g_scale m_thrown m_told m_read m_many m_eights m_gains m_notes m_seen m_turns m_drawn m_state m_tape m_taped m_size m_from m_next m_token m_value m_fault m_number m_fives m_isLeft m_wentTimes m_goes m_isLeftLaid m_game m_rows m_columns m_isFound m_bestValue m_bestBelow m_bestShare m_share m_matrix m_system m_shares m_allShares hR
  obtain ⟨K, W, ti, fo, bN, bI, pN, pI, pW, tu, dr, nN, nS, tN, bs, hX, hM, hB, hP, hT, hN, hTp, hSx, hSm, hF, hch⟩ := id hR
  obtain ⟨v, wall', wmass', shares', alls', e9, e10⟩ := call_meet (z := 20000) (by omega) hX hM hP m_thrown c_w_all c_w_mass m_fives m_shares m_allShares
  refine ⟨v, _, _, C9_meet l e9, C10_meet l e10, Iv_mk ?_⟩
  exact Rl_mono (Nat.le_succ t) hR
theorem st_mean (l : Launch) (t : Nat) (ht : t < 512) : xSt (Iv t) (Iv (t + 1)) l yX9_mean yX10_mean j9_mean j10_mean (fun as => as.length = 3) := by
  intro as hx hm hI hl
  obtain ⟨x1, x2, x3, rfl⟩ : ∃ x1 x2 x3, as = [x1, x2, x3] := xlen3 hl
  refine Iv_el (C := fun hx hm => ∃ (v : Int32) (hx' hm' : xHp), xCt l yX9_mean (some .int) j9_mean [.ref 0, .int x1, .int x2, .int x3] hx (some (.int v)) hx' ∧ xCt l yX10_mean (some .int) j10_mean [.ref 0, .int x1, .int x2, .int x3] hm (some (.int v)) hm' ∧ Iv (t + 1) hx' hm') ?_ hx hm hI
  intro c_chance c_n_fields c_n_ties c_n_worth c_n_forces c_n_many c_n_codes c_n_b_list c_n_b_many c_n_p_list c_n_p_weights c_n_p_drawn c_n_p_many c_n_p_all c_n_p_turns c_l_fault c_l_t_bytes c_l_t_many c_l_t_kind c_l_t_from c_l_t_behind c_l_t_end c_l_s_fields c_l_s_ties c_l_s_worth c_l_s_forces c_l_s_many c_l_s_codes c_l_s_b_list c_l_s_b_many c_l_s_p_list c_l_s_p_weights c_l_s_p_drawn c_l_s_p_many c_l_s_p_all c_l_s_p_turns c_nt_seen c_nt_many c_v_kept c_v_many c_v_turns c_v_stale c_v_goes c_v_row c_w_all c_w_mass c_g_picks c_g_many c_g_table c_g_rowNames c_g_columnNames c_g_rows c_g_columns c_g_scale m_thrown m_told m_read m_many m_eights m_gains m_notes m_seen m_turns m_drawn m_state m_tape m_taped m_size m_from m_next m_token m_value m_fault m_number m_fives m_isLeft m_wentTimes m_goes m_isLeftLaid m_game m_rows m_columns m_isFound m_bestValue m_bestBelow m_bestShare m_share m_matrix m_system m_shares m_allShares hR
  obtain ⟨K, W, ti, fo, bN, bI, pN, pI, pW, tu, dr, nN, nS, tN, bs, hX, hM, hB, hP, hT, hN, hTp, hSx, hSm, hF, hch⟩ := id hR
  obtain ⟨v, wall', wmass', e9, e10⟩ := call_mean (z := 20000) (by omega) hX hM hP x1 x2 x3 m_thrown c_w_all c_w_mass
  refine ⟨v, _, _, C9_mean l e9, C10_mean l e10, Iv_mk ?_⟩
  exact Rl_mono (Nat.le_succ t) hR
theorem st_against (l : Launch) (t : Nat) (ht : t < 512) : xSt (Iv t) (Iv (t + 1)) l yX9_against yX10_against j9_against j10_against (fun as => as.length = 2) := by
  intro as hx hm hI hl
  obtain ⟨x1, x2, rfl⟩ : ∃ x1 x2, as = [x1, x2] := xlen2 hl
  refine Iv_el (C := fun hx hm => ∃ (v : Int32) (hx' hm' : xHp), xCt l yX9_against (some .int) j9_against [.ref 0, .int x1, .int x2] hx (some (.int v)) hx' ∧ xCt l yX10_against (some .int) j10_against [.ref 0, .int x1, .int x2] hm (some (.int v)) hm' ∧ Iv (t + 1) hx' hm') ?_ hx hm hI
  intro c_chance c_n_fields c_n_ties c_n_worth c_n_forces c_n_many c_n_codes c_n_b_list c_n_b_many c_n_p_list c_n_p_weights c_n_p_drawn c_n_p_many c_n_p_all c_n_p_turns c_l_fault c_l_t_bytes c_l_t_many c_l_t_kind c_l_t_from c_l_t_behind c_l_t_end c_l_s_fields c_l_s_ties c_l_s_worth c_l_s_forces c_l_s_many c_l_s_codes c_l_s_b_list c_l_s_b_many c_l_s_p_list c_l_s_p_weights c_l_s_p_drawn c_l_s_p_many c_l_s_p_all c_l_s_p_turns c_nt_seen c_nt_many c_v_kept c_v_many c_v_turns c_v_stale c_v_goes c_v_row c_w_all c_w_mass c_g_picks c_g_many c_g_table c_g_rowNames c_g_columnNames c_g_rows c_g_columns c_g_scale m_thrown m_told m_read m_many m_eights m_gains m_notes m_seen m_turns m_drawn m_state m_tape m_taped m_size m_from m_next m_token m_value m_fault m_number m_fives m_isLeft m_wentTimes m_goes m_isLeftLaid m_game m_rows m_columns m_isFound m_bestValue m_bestBelow m_bestShare m_share m_matrix m_system m_shares m_allShares hR
  obtain ⟨K, W, ti, fo, bN, bI, pN, pI, pW, tu, dr, nN, nS, tN, bs, hX, hM, hB, hP, hT, hN, hTp, hSx, hSm, hF, hch⟩ := id hR
  obtain ⟨v, wall', wmass', e9, e10⟩ := call_against (z := 20000) (by omega) hX hM hN x1 x2 m_thrown c_w_all c_w_mass
  refine ⟨v, _, _, C9_against l e9, C10_against l e10, Iv_mk ?_⟩
  exact Rl_mono (Nat.le_succ t) hR
theorem st_both (l : Launch) (t : Nat) (ht : t < 512) : xSt (Iv t) (Iv (t + 1)) l yX9_both yX10_both j9_both j10_both (fun as => as.length = 1) := by
  intro as hx hm hI hl
  obtain ⟨x1, rfl⟩ : ∃ x1, as = [x1] := xlen1 hl
  refine Iv_el (C := fun hx hm => ∃ (v : Int32) (hx' hm' : xHp), xCt l yX9_both (some .int) j9_both [.ref 0, .int x1] hx (some (.int v)) hx' ∧ xCt l yX10_both (some .int) j10_both [.ref 0, .int x1] hm (some (.int v)) hm' ∧ Iv (t + 1) hx' hm') ?_ hx hm hI
  intro c_chance c_n_fields c_n_ties c_n_worth c_n_forces c_n_many c_n_codes c_n_b_list c_n_b_many c_n_p_list c_n_p_weights c_n_p_drawn c_n_p_many c_n_p_all c_n_p_turns c_l_fault c_l_t_bytes c_l_t_many c_l_t_kind c_l_t_from c_l_t_behind c_l_t_end c_l_s_fields c_l_s_ties c_l_s_worth c_l_s_forces c_l_s_many c_l_s_codes c_l_s_b_list c_l_s_b_many c_l_s_p_list c_l_s_p_weights c_l_s_p_drawn c_l_s_p_many c_l_s_p_all c_l_s_p_turns c_nt_seen c_nt_many c_v_kept c_v_many c_v_turns c_v_stale c_v_goes c_v_row c_w_all c_w_mass c_g_picks c_g_many c_g_table c_g_rowNames c_g_columnNames c_g_rows c_g_columns c_g_scale m_thrown m_told m_read m_many m_eights m_gains m_notes m_seen m_turns m_drawn m_state m_tape m_taped m_size m_from m_next m_token m_value m_fault m_number m_fives m_isLeft m_wentTimes m_goes m_isLeftLaid m_game m_rows m_columns m_isFound m_bestValue m_bestBelow m_bestShare m_share m_matrix m_system m_shares m_allShares hR
  obtain ⟨K, W, ti, fo, bN, bI, pN, pI, pW, tu, dr, nN, nS, tN, bs, hX, hM, hB, hP, hT, hN, hTp, hSx, hSm, hF, hch⟩ := id hR
  obtain ⟨v, wall', wmass', e9, e10⟩ := call_both (z := 20000) (by omega) hX hM hP x1 m_thrown c_w_all c_w_mass
  refine ⟨v, _, _, C9_both l e9, C10_both l e10, Iv_mk ?_⟩
  exact Rl_mono (Nat.le_succ t) hR
theorem st_split (l : Launch) (htr : l.stackTraces = false) (t : Nat) (ht : t < 512) : xStS (Iv t) (Iv (t + 1)) l := by
  intro x1 x2 hx hm hI
  refine Iv_el (C := fun hx hm => ∃ (v : Int32) (hm' : xHp), xCt l yX10_split (some .int) j10_split [.ref 0, .int x1, .int x2] hm (some (.int v)) hm' ∧ Iv (t + 1) hx hm' ∧ ((xCt l yX10_thrown (some .int) j10_thrown [.ref 0] hm' (some (.int 0)) hm' ∧ ∀ out : Nat → Int64, xCtX l yL_split (some .int) jL_split [(0, 10, 13, 13)] [.ref 0, .int x1, .int x2, .ref 81] (hx ++ [.inl (1, 1, .inr (.inl out))]) (some (.int 0)) (hx ++ [.inl (1, 1, .inr (.inl (vp_updL out 0 v.toInt64)))])) ∨ (xCt l yX10_thrown (some .int) j10_thrown [.ref 0] hm' (some (.int 1)) hm' ∧ ∀ out : Nat → Int64, xCtX l yL_split (some .int) jL_split [(0, 10, 13, 13)] [.ref 0, .int x1, .int x2, .ref 81] (hx ++ [.inl (1, 1, .inr (.inl out))]) (some (.int 1)) (hx ++ [.inl (1, 1, .inr (.inl out))])))) ?_ hx hm hI
  intro c_chance c_n_fields c_n_ties c_n_worth c_n_forces c_n_many c_n_codes c_n_b_list c_n_b_many c_n_p_list c_n_p_weights c_n_p_drawn c_n_p_many c_n_p_all c_n_p_turns c_l_fault c_l_t_bytes c_l_t_many c_l_t_kind c_l_t_from c_l_t_behind c_l_t_end c_l_s_fields c_l_s_ties c_l_s_worth c_l_s_forces c_l_s_many c_l_s_codes c_l_s_b_list c_l_s_b_many c_l_s_p_list c_l_s_p_weights c_l_s_p_drawn c_l_s_p_many c_l_s_p_all c_l_s_p_turns c_nt_seen c_nt_many c_v_kept c_v_many c_v_turns c_v_stale c_v_goes c_v_row c_w_all c_w_mass c_g_picks c_g_many c_g_table c_g_rowNames c_g_columnNames c_g_rows c_g_columns c_g_scale m_thrown m_told m_read m_many m_eights m_gains m_notes m_seen m_turns m_drawn m_state m_tape m_taped m_size m_from m_next m_token m_value m_fault m_number m_fives m_isLeft m_wentTimes m_goes m_isLeftLaid m_game m_rows m_columns m_isFound m_bestValue m_bestBelow m_bestShare m_share m_matrix m_system m_shares m_allShares hR
  obtain ⟨K, W, ti, fo, bN, bI, pN, pI, pW, tu, dr, nN, nS, tN, bs, hX, hM, hB, hP, hT, hN, hTp, hSx, hSm, hF, hch⟩ := id hR
  obtain ⟨a, rfl, h1, h2⟩ := i3_ex x1
  obtain ⟨b, rfl, h3, h4⟩ := i3_ex x2
  by_cases e1 : isp K fo a b
  · obtain ⟨s, i, rfl, rfl, hs, hi⟩ := e1
    have n0 := ns_bd hX.1 (hX.2.1 s hs)
    have e9 : F9_split (i3 s) (i3 i) c_n_many c_n_codes = some (i3 (cd K (fo s) i : Nat)) := by
      unfold F9_split
      rw [isSplit4_yes hX hs hi]
      simp (disch := omega) only [Option.bind_some, xg_in, i3_xnN]
      rw [if_neg n10, hX.2.2.2.2.2.2.2 s i hs hi]
    have e10 : F10_split (i3 s) (i3 i) m_thrown m_many m_eights = some (i3 (cd K (fo s) i : Nat), 0) := by
      unfold F10_split
      rw [isSplit10_yes hM hs hi]
      simp only [Option.bind_some]
      rw [if_neg n10]
      unfold F10_split_b15
      rw [F10_eightsOf_ok hM hs hi]
      rfl
    exact ⟨_, _, C10_split l e10, Iv_mk (Rl_mono (Nat.le_succ t) hR), Or.inl ⟨C10_thrown l rfl, fun out => CL_splitR l e9⟩⟩
  · have e10 : F10_split (i3 a) (i3 b) m_thrown m_many m_eights = some (0, 1) := by
      unfold F10_split
      rw [isSplit10_no hM h1 h2 h3 h4 e1]
      rfl
    exact ⟨_, _, C10_split l e10, Iv_mk (Rl_mono (Nat.le_succ t) hR), Or.inr ⟨C10_thrown l rfl, fun out => CL_splitT l htr (isSplit4_no hX h1 h2 h3 h4 e1)⟩⟩
theorem st_shapes (l : Launch) (t : Nat) (ht : t < 512) : xSt (Iv t) (Iv (t + 1)) l yX9_shapes yX10_shapes j9_shapes j10_shapes (fun as => as.length = 1) := by
  intro as hx hm hI hl
  obtain ⟨x1, rfl⟩ : ∃ x1, as = [x1] := xlen1 hl
  refine Iv_el (C := fun hx hm => ∃ (v : Int32) (hx' hm' : xHp), xCt l yX9_shapes (some .int) j9_shapes [.ref 0, .int x1] hx (some (.int v)) hx' ∧ xCt l yX10_shapes (some .int) j10_shapes [.ref 0, .int x1] hm (some (.int v)) hm' ∧ Iv (t + 1) hx' hm') ?_ hx hm hI
  intro c_chance c_n_fields c_n_ties c_n_worth c_n_forces c_n_many c_n_codes c_n_b_list c_n_b_many c_n_p_list c_n_p_weights c_n_p_drawn c_n_p_many c_n_p_all c_n_p_turns c_l_fault c_l_t_bytes c_l_t_many c_l_t_kind c_l_t_from c_l_t_behind c_l_t_end c_l_s_fields c_l_s_ties c_l_s_worth c_l_s_forces c_l_s_many c_l_s_codes c_l_s_b_list c_l_s_b_many c_l_s_p_list c_l_s_p_weights c_l_s_p_drawn c_l_s_p_many c_l_s_p_all c_l_s_p_turns c_nt_seen c_nt_many c_v_kept c_v_many c_v_turns c_v_stale c_v_goes c_v_row c_w_all c_w_mass c_g_picks c_g_many c_g_table c_g_rowNames c_g_columnNames c_g_rows c_g_columns c_g_scale m_thrown m_told m_read m_many m_eights m_gains m_notes m_seen m_turns m_drawn m_state m_tape m_taped m_size m_from m_next m_token m_value m_fault m_number m_fives m_isLeft m_wentTimes m_goes m_isLeftLaid m_game m_rows m_columns m_isFound m_bestValue m_bestBelow m_bestShare m_share m_matrix m_system m_shares m_allShares hR
  obtain ⟨K, W, ti, fo, bN, bI, pN, pI, pW, tu, dr, nN, nS, tN, bs, hX, hM, hB, hP, hT, hN, hTp, hSx, hSm, hF, hch⟩ := id hR
  obtain ⟨v, e9, e10⟩ := call_shapes (z := 20000) (by omega) hX hM hF x1 m_thrown
  refine ⟨v, _, _, C9_shapes l e9, C10_shapes l e10, Iv_mk ?_⟩
  exact Rl_mono (Nat.le_succ t) hR
theorem st_shape (l : Launch) (t : Nat) (ht : t < 512) : xSt (Iv t) (Iv (t + 1)) l yX9_shape yX10_shape j9_shape j10_shape (fun as => as.length = 3) := by
  intro as hx hm hI hl
  obtain ⟨x1, x2, x3, rfl⟩ : ∃ x1 x2 x3, as = [x1, x2, x3] := xlen3 hl
  refine Iv_el (C := fun hx hm => ∃ (v : Int32) (hx' hm' : xHp), xCt l yX9_shape (some .int) j9_shape [.ref 0, .int x1, .int x2, .int x3] hx (some (.int v)) hx' ∧ xCt l yX10_shape (some .int) j10_shape [.ref 0, .int x1, .int x2, .int x3] hm (some (.int v)) hm' ∧ Iv (t + 1) hx' hm') ?_ hx hm hI
  intro c_chance c_n_fields c_n_ties c_n_worth c_n_forces c_n_many c_n_codes c_n_b_list c_n_b_many c_n_p_list c_n_p_weights c_n_p_drawn c_n_p_many c_n_p_all c_n_p_turns c_l_fault c_l_t_bytes c_l_t_many c_l_t_kind c_l_t_from c_l_t_behind c_l_t_end c_l_s_fields c_l_s_ties c_l_s_worth c_l_s_forces c_l_s_many c_l_s_codes c_l_s_b_list c_l_s_b_many c_l_s_p_list c_l_s_p_weights c_l_s_p_drawn c_l_s_p_many c_l_s_p_all c_l_s_p_turns c_nt_seen c_nt_many c_v_kept c_v_many c_v_turns c_v_stale c_v_goes c_v_row c_w_all c_w_mass c_g_picks c_g_many c_g_table c_g_rowNames c_g_columnNames c_g_rows c_g_columns c_g_scale m_thrown m_told m_read m_many m_eights m_gains m_notes m_seen m_turns m_drawn m_state m_tape m_taped m_size m_from m_next m_token m_value m_fault m_number m_fives m_isLeft m_wentTimes m_goes m_isLeftLaid m_game m_rows m_columns m_isFound m_bestValue m_bestBelow m_bestShare m_share m_matrix m_system m_shares m_allShares hR
  obtain ⟨K, W, ti, fo, bN, bI, pN, pI, pW, tu, dr, nN, nS, tN, bs, hX, hM, hB, hP, hT, hN, hTp, hSx, hSm, hF, hch⟩ := id hR
  obtain ⟨v, e9, e10⟩ := call_shape (z := 20000) (by omega) hX hM hF x1 x2 x3 m_thrown
  refine ⟨v, _, _, C9_shape l e9, C10_shape l e10, Iv_mk ?_⟩
  exact Rl_mono (Nat.le_succ t) hR
theorem st_evenHold (l : Launch) (t : Nat) (ht : t < 512) : xSt (Iv t) (Iv (t + 1)) l yX9_evenHold yX10_evenHold j9_evenHold j10_evenHold (fun as => as.length = 2) := by
  intro as hx hm hI hl
  obtain ⟨x1, x2, rfl⟩ : ∃ x1 x2, as = [x1, x2] := xlen2 hl
  refine Iv_el (C := fun hx hm => ∃ (v : Int32) (hx' hm' : xHp), xCt l yX9_evenHold (some .int) j9_evenHold [.ref 0, .int x1, .int x2] hx (some (.int v)) hx' ∧ xCt l yX10_evenHold (some .int) j10_evenHold [.ref 0, .int x1, .int x2] hm (some (.int v)) hm' ∧ Iv (t + 1) hx' hm') ?_ hx hm hI
  intro c_chance c_n_fields c_n_ties c_n_worth c_n_forces c_n_many c_n_codes c_n_b_list c_n_b_many c_n_p_list c_n_p_weights c_n_p_drawn c_n_p_many c_n_p_all c_n_p_turns c_l_fault c_l_t_bytes c_l_t_many c_l_t_kind c_l_t_from c_l_t_behind c_l_t_end c_l_s_fields c_l_s_ties c_l_s_worth c_l_s_forces c_l_s_many c_l_s_codes c_l_s_b_list c_l_s_b_many c_l_s_p_list c_l_s_p_weights c_l_s_p_drawn c_l_s_p_many c_l_s_p_all c_l_s_p_turns c_nt_seen c_nt_many c_v_kept c_v_many c_v_turns c_v_stale c_v_goes c_v_row c_w_all c_w_mass c_g_picks c_g_many c_g_table c_g_rowNames c_g_columnNames c_g_rows c_g_columns c_g_scale m_thrown m_told m_read m_many m_eights m_gains m_notes m_seen m_turns m_drawn m_state m_tape m_taped m_size m_from m_next m_token m_value m_fault m_number m_fives m_isLeft m_wentTimes m_goes m_isLeftLaid m_game m_rows m_columns m_isFound m_bestValue m_bestBelow m_bestShare m_share m_matrix m_system m_shares m_allShares hR
  obtain ⟨K, W, ti, fo, bN, bI, pN, pI, pW, tu, dr, nN, nS, tN, bs, hX, hM, hB, hP, hT, hN, hTp, hSx, hSm, hF, hch⟩ := id hR
  obtain ⟨v, wall', wmass', shares', alls', e9, e10⟩ := call_evenHold (z := 20000) (by omega) hX hM hF hP x1 x2 m_thrown c_w_all c_w_mass m_shares m_allShares
  refine ⟨v, _, _, C9_evenHold l e9, C10_evenHold l e10, Iv_mk ?_⟩
  exact Rl_mono (Nat.le_succ t) hR
theorem st_evenShare (l : Launch) (t : Nat) (ht : t < 512) : xSt (Iv t) (Iv (t + 1)) l yX9_evenShare yX10_evenShare j9_evenShare j10_evenShare (fun as => as.length = 3) := by
  intro as hx hm hI hl
  obtain ⟨x1, x2, x3, rfl⟩ : ∃ x1 x2 x3, as = [x1, x2, x3] := xlen3 hl
  refine Iv_el (C := fun hx hm => ∃ (v : Int32) (hx' hm' : xHp), xCt l yX9_evenShare (some .int) j9_evenShare [.ref 0, .int x1, .int x2, .int x3] hx (some (.int v)) hx' ∧ xCt l yX10_evenShare (some .int) j10_evenShare [.ref 0, .int x1, .int x2, .int x3] hm (some (.int v)) hm' ∧ Iv (t + 1) hx' hm') ?_ hx hm hI
  intro c_chance c_n_fields c_n_ties c_n_worth c_n_forces c_n_many c_n_codes c_n_b_list c_n_b_many c_n_p_list c_n_p_weights c_n_p_drawn c_n_p_many c_n_p_all c_n_p_turns c_l_fault c_l_t_bytes c_l_t_many c_l_t_kind c_l_t_from c_l_t_behind c_l_t_end c_l_s_fields c_l_s_ties c_l_s_worth c_l_s_forces c_l_s_many c_l_s_codes c_l_s_b_list c_l_s_b_many c_l_s_p_list c_l_s_p_weights c_l_s_p_drawn c_l_s_p_many c_l_s_p_all c_l_s_p_turns c_nt_seen c_nt_many c_v_kept c_v_many c_v_turns c_v_stale c_v_goes c_v_row c_w_all c_w_mass c_g_picks c_g_many c_g_table c_g_rowNames c_g_columnNames c_g_rows c_g_columns c_g_scale m_thrown m_told m_read m_many m_eights m_gains m_notes m_seen m_turns m_drawn m_state m_tape m_taped m_size m_from m_next m_token m_value m_fault m_number m_fives m_isLeft m_wentTimes m_goes m_isLeftLaid m_game m_rows m_columns m_isFound m_bestValue m_bestBelow m_bestShare m_share m_matrix m_system m_shares m_allShares hR
  obtain ⟨K, W, ti, fo, bN, bI, pN, pI, pW, tu, dr, nN, nS, tN, bs, hX, hM, hB, hP, hT, hN, hTp, hSx, hSm, hF, hch⟩ := id hR
  obtain ⟨v, shares', alls', e9, e10⟩ := call_evenShare (z := 20000) (by omega) hX hM hF hP x1 x2 x3 m_thrown m_shares m_allShares
  refine ⟨v, _, _, C9_evenShare l e9, C10_evenShare l e10, Iv_mk ?_⟩
  exact Rl_mono (Nat.le_succ t) hR
theorem st_left (l : Launch) (t : Nat) (ht : t < 512) : xSt (Iv t) (Iv (t + 1)) l yX9_left yX10_left j9_left j10_left (fun as => as.length = 2) := by
  intro as hx hm hI hl
  obtain ⟨x1, x2, rfl⟩ : ∃ x1 x2, as = [x1, x2] := xlen2 hl
  refine Iv_el (C := fun hx hm => ∃ (v : Int32) (hx' hm' : xHp), xCt l yX9_left (some .int) j9_left [.ref 0, .int x1, .int x2] hx (some (.int v)) hx' ∧ xCt l yX10_left (some .int) j10_left [.ref 0, .int x1, .int x2] hm (some (.int v)) hm' ∧ Iv (t + 1) hx' hm') ?_ hx hm hI
  intro c_chance c_n_fields c_n_ties c_n_worth c_n_forces c_n_many c_n_codes c_n_b_list c_n_b_many c_n_p_list c_n_p_weights c_n_p_drawn c_n_p_many c_n_p_all c_n_p_turns c_l_fault c_l_t_bytes c_l_t_many c_l_t_kind c_l_t_from c_l_t_behind c_l_t_end c_l_s_fields c_l_s_ties c_l_s_worth c_l_s_forces c_l_s_many c_l_s_codes c_l_s_b_list c_l_s_b_many c_l_s_p_list c_l_s_p_weights c_l_s_p_drawn c_l_s_p_many c_l_s_p_all c_l_s_p_turns c_nt_seen c_nt_many c_v_kept c_v_many c_v_turns c_v_stale c_v_goes c_v_row c_w_all c_w_mass c_g_picks c_g_many c_g_table c_g_rowNames c_g_columnNames c_g_rows c_g_columns c_g_scale m_thrown m_told m_read m_many m_eights m_gains m_notes m_seen m_turns m_drawn m_state m_tape m_taped m_size m_from m_next m_token m_value m_fault m_number m_fives m_isLeft m_wentTimes m_goes m_isLeftLaid m_game m_rows m_columns m_isFound m_bestValue m_bestBelow m_bestShare m_share m_matrix m_system m_shares m_allShares hR
  obtain ⟨K, W, ti, fo, bN, bI, pN, pI, pW, tu, dr, nN, nS, tN, bs, hX, hM, hB, hP, hT, hN, hTp, hSx, hSm, hF, hch⟩ := id hR
  obtain ⟨v, kept', many', turns', stale', goes', row', isLeft', went', goesm', laid', e9, e10, hSx', hSm'⟩ := call_left (z := 20000) (by omega) hX hM hSx hSm x1 x2 m_thrown c_v_goes c_v_row m_goes
  refine ⟨v, _, _, C9_left l e9, C10_left l e10, Iv_mk ?_⟩
  exact ⟨K, W, ti, fo, bN, bI, pN, pI, pW, tu, dr, nN, nS, tN, bs, hX, hM, hB, hP, TNr_mono (Nat.le_succ t) hT, hN, hTp, hSx', hSm', hF, hch⟩
theorem st_rounds (l : Launch) (t : Nat) (ht : t < 512) : xSt (Iv t) (Iv (t + 1)) l yX9_rounds yX10_rounds j9_rounds j10_rounds (fun as => as.length = 0) := by
  intro as hx hm hI hl
  obtain rfl : as = [] := List.eq_nil_of_length_eq_zero hl
  refine Iv_el (C := fun hx hm => ∃ (v : Int32) (hx' hm' : xHp), xCt l yX9_rounds (some .int) j9_rounds [.ref 0] hx (some (.int v)) hx' ∧ xCt l yX10_rounds (some .int) j10_rounds [.ref 0] hm (some (.int v)) hm' ∧ Iv (t + 1) hx' hm') ?_ hx hm hI
  intro c_chance c_n_fields c_n_ties c_n_worth c_n_forces c_n_many c_n_codes c_n_b_list c_n_b_many c_n_p_list c_n_p_weights c_n_p_drawn c_n_p_many c_n_p_all c_n_p_turns c_l_fault c_l_t_bytes c_l_t_many c_l_t_kind c_l_t_from c_l_t_behind c_l_t_end c_l_s_fields c_l_s_ties c_l_s_worth c_l_s_forces c_l_s_many c_l_s_codes c_l_s_b_list c_l_s_b_many c_l_s_p_list c_l_s_p_weights c_l_s_p_drawn c_l_s_p_many c_l_s_p_all c_l_s_p_turns c_nt_seen c_nt_many c_v_kept c_v_many c_v_turns c_v_stale c_v_goes c_v_row c_w_all c_w_mass c_g_picks c_g_many c_g_table c_g_rowNames c_g_columnNames c_g_rows c_g_columns c_g_scale m_thrown m_told m_read m_many m_eights m_gains m_notes m_seen m_turns m_drawn m_state m_tape m_taped m_size m_from m_next m_token m_value m_fault m_number m_fives m_isLeft m_wentTimes m_goes m_isLeftLaid m_game m_rows m_columns m_isFound m_bestValue m_bestBelow m_bestShare m_share m_matrix m_system m_shares m_allShares hR
  obtain ⟨K, W, ti, fo, bN, bI, pN, pI, pW, tu, dr, nN, nS, tN, bs, hX, hM, hB, hP, hT, hN, hTp, hSx, hSm, hF, hch⟩ := id hR
  obtain ⟨v, kept', many', turns', stale', goes', row', isLeft', went', goesm', laid', e9, e10, hSx', hSm'⟩ := call_rounds (z := 20000) (by omega) hX hM hSx hSm m_thrown c_v_goes c_v_row m_goes
  refine ⟨v, _, _, C9_rounds l e9, C10_rounds l e10, Iv_mk ?_⟩
  exact ⟨K, W, ti, fo, bN, bI, pN, pI, pW, tu, dr, nN, nS, tN, bs, hX, hM, hB, hP, TNr_mono (Nat.le_succ t) hT, hN, hTp, hSx', hSm', hF, hch⟩
theorem st_text (l : Launch) (t : Nat) (ht : t < 512) : xStP (Iv t) (Iv (t + 1)) l yX9_text yX10_text j9_text j10_text (fun as => as.length = 1) := by
  intro as hx hm hI hl
  obtain ⟨x1, rfl⟩ : ∃ x1, as = [x1] := xlen1 hl
  refine Iv_el (C := fun hx hm => ∃ (v : Int32) (hx' hm' : xHp), xCtP l yX9_text (some .int) j9_text [.ref 0, .int x1] hx (some (.int v)) hx' ∧ xCt l yX10_text (some .int) j10_text [.ref 0, .int x1] hm (some (.int v)) hm' ∧ Iv (t + 1) hx' hm') ?_ hx hm hI
  intro c_chance c_n_fields c_n_ties c_n_worth c_n_forces c_n_many c_n_codes c_n_b_list c_n_b_many c_n_p_list c_n_p_weights c_n_p_drawn c_n_p_many c_n_p_all c_n_p_turns c_l_fault c_l_t_bytes c_l_t_many c_l_t_kind c_l_t_from c_l_t_behind c_l_t_end c_l_s_fields c_l_s_ties c_l_s_worth c_l_s_forces c_l_s_many c_l_s_codes c_l_s_b_list c_l_s_b_many c_l_s_p_list c_l_s_p_weights c_l_s_p_drawn c_l_s_p_many c_l_s_p_all c_l_s_p_turns c_nt_seen c_nt_many c_v_kept c_v_many c_v_turns c_v_stale c_v_goes c_v_row c_w_all c_w_mass c_g_picks c_g_many c_g_table c_g_rowNames c_g_columnNames c_g_rows c_g_columns c_g_scale m_thrown m_told m_read m_many m_eights m_gains m_notes m_seen m_turns m_drawn m_state m_tape m_taped m_size m_from m_next m_token m_value m_fault m_number m_fives m_isLeft m_wentTimes m_goes m_isLeftLaid m_game m_rows m_columns m_isFound m_bestValue m_bestBelow m_bestShare m_share m_matrix m_system m_shares m_allShares hR
  obtain ⟨K, W, ti, fo, bN, bI, pN, pI, pW, tu, dr, nN, nS, tN, bs, hX, hM, hB, hP, hT, hN, hTp, hSx, hSm, hF, hch⟩ := id hR
  obtain ⟨v9, v10, e9, e10, ev, eth, hRl⟩ := call_text (z := 20000) (T := t) (by omega) hX hM hB hP hT (ntS := fun _ _ => 0) hN hTp hSx hSm hF hch x1 m_thrown c_l_fault c_l_t_kind c_l_t_from c_l_t_behind c_l_t_end c_l_s_fields c_l_s_ties c_l_s_worth c_l_s_forces c_l_s_many c_l_s_codes c_l_s_b_list c_l_s_b_many c_l_s_p_list c_l_s_p_weights c_l_s_p_drawn c_l_s_p_many c_l_s_p_all c_l_s_p_turns m_read m_size m_from m_next m_token m_value m_fault m_number
  have h10 := C10_text l (c_state := m_state) (c_fives := m_fives) (c_isLeft := m_isLeft) (c_wentTimes := m_wentTimes) (c_goes := m_goes) (c_game := m_game) (c_rows := m_rows) (c_columns := m_columns) (c_isFound := m_isFound) (c_bestValue := m_bestValue) (c_bestBelow := m_bestBelow) (c_bestShare := m_bestShare) (c_share := m_share) (c_matrix := m_matrix) (c_system := m_system) (c_shares := m_shares) (c_allShares := m_allShares) e10
  have h9 := C9_text l (c_chance := c_chance) (c_v_kept := c_v_kept) (c_v_many := c_v_many) (c_v_turns := c_v_turns) (c_v_goes := c_v_goes) (c_v_row := c_v_row) (c_w_all := c_w_all) (c_w_mass := c_w_mass) (c_g_picks := c_g_picks) (c_g_many := c_g_many) (c_g_table := c_g_table) (c_g_rowNames := c_g_rowNames) (c_g_columnNames := c_g_columnNames) (c_g_rows := c_g_rows) (c_g_columns := c_g_columns) (c_g_scale := c_g_scale) e9
  rw [ev] at h10
  exact ⟨v9.1, _, _, h9, h10, Iv_mk hRl⟩
