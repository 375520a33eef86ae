/-! ===== all steps; the start; the law ===== -/
theorem Iv_shp {T : Nat} : ∀ hx hm, Iv T hx hm → xShp hx hm := Iv_el (fun c_chance c_n_fields c_n_ties c_n_worth c_n_forces c_n_many c_n_codes c_n_b_list c_n_b_many c_n_p_list c_n_p_weights c_n_p_drawn c_n_p_many c_n_p_all c_n_p_turns c_l_fault c_l_t_bytes c_l_t_many c_l_t_kind c_l_t_from c_l_t_behind c_l_t_end c_l_s_fields c_l_s_ties c_l_s_worth c_l_s_forces c_l_s_many c_l_s_codes c_l_s_b_list c_l_s_b_many c_l_s_p_list c_l_s_p_weights c_l_s_p_drawn c_l_s_p_many c_l_s_p_all c_l_s_p_turns c_nt_seen c_nt_many c_v_kept c_v_many c_v_turns c_v_stale c_v_goes c_v_row c_w_all c_w_mass c_g_picks c_g_many c_g_table c_g_rowNames c_g_columnNames c_g_rows c_g_columns c_g_scale m_thrown m_told m_read m_many m_eights m_gains m_notes m_seen m_turns m_drawn m_state m_tape m_taped m_size m_from m_next m_token m_value m_fault m_number m_fives m_isLeft m_wentTimes m_goes m_isLeftLaid m_game m_rows m_columns m_isFound m_bestValue m_bestBelow m_bestShare m_share m_matrix m_system m_shares m_allShares _ => ⟨rfl, rfl, ⟨_, rfl⟩, ⟨_, rfl⟩, xScH_of (Nat.le_of_ble_eq_true rfl) rfl⟩)
theorem Iv_mono {T : Nat} : ∀ hx hm, Iv T hx hm → Iv (T + 1) hx hm := Iv_el (fun c_chance c_n_fields c_n_ties c_n_worth c_n_forces c_n_many c_n_codes c_n_b_list c_n_b_many c_n_p_list c_n_p_weights c_n_p_drawn c_n_p_many c_n_p_all c_n_p_turns c_l_fault c_l_t_bytes c_l_t_many c_l_t_kind c_l_t_from c_l_t_behind c_l_t_end c_l_s_fields c_l_s_ties c_l_s_worth c_l_s_forces c_l_s_many c_l_s_codes c_l_s_b_list c_l_s_b_many c_l_s_p_list c_l_s_p_weights c_l_s_p_drawn c_l_s_p_many c_l_s_p_all c_l_s_p_turns c_nt_seen c_nt_many c_v_kept c_v_many c_v_turns c_v_stale c_v_goes c_v_row c_w_all c_w_mass c_g_picks c_g_many c_g_table c_g_rowNames c_g_columnNames c_g_rows c_g_columns c_g_scale m_thrown m_told m_read m_many m_eights m_gains m_notes m_seen m_turns m_drawn m_state m_tape m_taped m_size m_from m_next m_token m_value m_fault m_number m_fives m_isLeft m_wentTimes m_goes m_isLeftLaid m_game m_rows m_columns m_isFound m_bestValue m_bestBelow m_bestShare m_share m_matrix m_system m_shares m_allShares h => Iv_mk (Rl_mono (Nat.le_succ T) h))
theorem law_ok (l : Launch) (htr : l.stackTraces = false) (t : Nat) (ht : t < 512) : xLawOk l (Iv t) (Iv (t + 1)) := by
  refine ⟨⟨Iv_shp, Iv_shp, Iv_mono⟩, st_feed l t ht, st_text l t ht, st_field l t ht, st_lose l t ht, st_forces l t ht, st_ties l t ht, st_splits l t ht, st_split l htr t ht, st_number l t ht, st_gain l t ht, st_shapes l t ht, st_shape l t ht, st_ways l t ht, st_worse l t ht, st_left l t ht, st_rounds l t ht, st_safe l t ht, st_add l t ht, st_shut l t ht, st_book l t ht, st_value l t ht, st_best l t ht, st_valueWith l t ht, st_needless l t ht, st_plan l t ht, st_entry l t ht, st_hold l t ht, st_reply l t ht, st_meet l t ht, st_evenHold l t ht, st_evenShare l t ht, st_both l t ht, st_mean l t ht, st_state l t ht, fun as hx hm hI hP => st_draw l t ht as hx hm hI hP.1, st_match l t ht, st_note l t ht, st_against l t ht, st_apart l t ht, st_count l t ht⟩
theorem law_all (l : Launch) (htr : l.stackTraces = false) : xLawAll l := by
  have hV : Vd 3 (fun _ => 1) 0 := ⟨by omega, by omega, fun _ _ => Int.le_refl _, by decide, by omega, by omega⟩
  have hfo : ∀ s, s < 2 → (fun s => if s = 0 then 5 else 4 : Nat → Nat) s ≤ 7 := fun s _ => by
    show (if s = 0 then 5 else 4) ≤ 7
    split <;> omega
  have e0 : F4_listSplits 20000 0 3 (upd (upd (fun _ => 0) 0 5) 1 4) (fun _ => 0) (fun _ _ => 0) = _ := F4_listSplits_ok (z := 20000) (K := 3) (s := 0) (f := 5) (forces := upd (upd (fun _ => 0) 0 5) 1 4) (many := fun _ => 0) (codes := fun _ _ => 0) (by omega) (by omega) (by omega) (by omega) (by omega) rfl
  have e1 : F4_listSplits 20000 1 3 (upd (upd (fun _ => 0) 0 5) 1 4) (upd (fun _ => 0) 0 (i3 (ns 3 5 : Nat))) (va_up (fun _ _ => 0) 0 (putL (fun _ => 0) 0 (cl 3 5))) = _ := F4_listSplits_ok (z := 20000) (K := 3) (s := 1) (f := 4) (forces := upd (upd (fun _ => 0) 0 5) 1 4) (many := upd (fun _ => 0) 0 (i3 (ns 3 5 : Nat))) (codes := va_up (fun _ _ => 0) 0 (putL (fun _ => 0) 0 (cl 3 5))) (by omega) (by omega) (by omega) (by omega) (by omega) rfl
  obtain ⟨many', eights', gains', e2, hM⟩ := F10_lays_ok (z := 20000) (K := 3) (W := fun _ => 1) (t := 0) (fo := fun s => if s = 0 then 5 else 4) (told := upd (upd (upd (upd (upd (upd (fun _ => 0) 0 3) 1 1) 2 1) 3 1) 5 5) 6 4) (many := fun _ => 0) (eights := fun _ => 0) (gains := fun _ => 0) (il := 0) (by omega) hV hfo rfl (fun k hk => by
    rcases (show k = 0 ∨ k = 1 ∨ k = 2 by omega) with rfl | rfl | rfl <;> rfl) (fun s hs => by
    rcases two_cases hs with rfl | rfl <;> rfl) rfl
  refine ⟨Iv, 20000, _, _, _, e0, e1, e2, fun t ht => law_ok l htr t ht, ?_⟩
  have hX : SX 3 (fun _ => 1) 0 (fun s => if s = 0 then 5 else 4) 3 0 (upd (upd (upd (fun _ => 0) 0 1) 1 1) 2 1) (upd (upd (fun _ => 0) 0 5) 1 4) (upd (upd (fun _ => 0) 0 (i3 (ns 3 5 : Nat))) 1 (i3 (ns 3 4 : Nat))) (va_up (va_up (fun _ _ => 0) 0 (putL (fun _ => 0) 0 (cl 3 5))) 1 (putL ((va_up (fun _ _ => 0) 0 (putL (fun _ => 0) 0 (cl 3 5))) 1) 0 (cl 3 4))) := by
    refine ⟨hV, hfo, rfl, rfl, fun k hk => ?_, fun s hs => ?_, fun s hs => ?_, fun s i hs hi => ?_⟩
    · rcases (show k = 0 ∨ k = 1 ∨ k = 2 by omega) with rfl | rfl | rfl <;> rfl
    · rcases two_cases hs with rfl | rfl <;> rfl
    · rcases two_cases hs with rfl | rfl
      · rw [upd_diff _ _ (by omega), upd_same]; rfl
      · rw [upd_same]; rfl
    · rcases two_cases hs with rfl | rfl
      · have hi' : i < (cl 3 5).length := hi
        rw [va_up_ne _ _ (by omega), va_up_self, putL_at, if_pos ⟨Nat.zero_le _, by omega⟩, Nat.sub_zero]
        rfl
      · have hi' : i < (cl 3 4).length := hi
        rw [va_up_self, putL_at, if_pos ⟨Nat.zero_le _, by omega⟩, Nat.sub_zero]
        rfl
  refine Iv_mk ⟨3, fun _ => 1, 0, fun s => if s = 0 then 5 else 4, fun _ => 0, fun _ _ => 0, fun _ => 0, fun _ _ => 0, fun _ _ => 0, fun _ => 0, fun _ _ => 0, fun _ => 0, fun _ _ => 0, 0, fun _ => 0, hX, hM, BKr_zero _ _ _ _ (fun s hs => ?_), PLr_zero _ _ _ _ _ _ (fun s hs => ?_), fun s hs => ⟨Nat.le_refl _, rfl, rfl, fun k hk => ⟨Nat.le_refl _, rfl, rfl⟩⟩, fun s hs => ⟨Nat.zero_le _, rfl, rfl, fun i hi => ⟨Nat.le_refl _, rfl, rfl⟩⟩, ⟨Nat.zero_le _, rfl, rfl, fun k hk => absurd hk (Nat.not_lt_zero k)⟩, Or.inl rfl, Or.inl rfl, fun k hk => ?_, rfl⟩
  · rcases two_cases hs with rfl | rfl <;> exact ⟨rfl, rfl⟩
  · rcases two_cases hs with rfl | rfl <;> exact ⟨rfl, rfl, rfl⟩
  · rcases (show k = 0 ∨ k = 1 ∨ k = 2 ∨ k = 3 ∨ k = 4 ∨ k = 5 ∨ k = 6 ∨ k = 7 by omega) with rfl | rfl | rfl | rfl | rfl | rfl | rfl | rfl <;> rfl
