theorem k10_207 : Cond.methodLink RX10 207 yX10_begins ∈ wsL_law0 := List.mem_of_getElem? (i := 520) (by decide +kernel)
theorem dX10_field_0 : decode cX10_field 0 = .ok (.aload_n 0, 1) := by decide +kernel
theorem dX10_field_1 : decode cX10_field 1 = .ok (.iconst 0, 1) := by decide +kernel
theorem dX10_field_2 : decode cX10_field 2 = .ok (.putfield 1, 3) := by decide +kernel
theorem dX10_field_5 : decode cX10_field 5 = .ok (.iload_n 1, 1) := by decide +kernel
theorem dX10_field_6 : decode cX10_field 6 = .ok (.iconst 1, 1) := by decide +kernel
theorem dX10_field_7 : decode cX10_field 7 = .ok (.bipush 8, 2) := by decide +kernel
theorem dX10_field_9 : decode cX10_field 9 = .ok (.invokestatic 7, 3) := by decide +kernel
theorem dX10_field_12 : decode cX10_field 12 = .ok (.ifCond .eq 27, 3) := by decide +kernel
theorem dX10_field_15 : decode cX10_field 15 = .ok (.aload_n 0, 1) := by decide +kernel
theorem dX10_field_16 : decode cX10_field 16 = .ok (.getfield 17, 3) := by decide +kernel
theorem dX10_field_19 : decode cX10_field 19 = .ok (.iconst 0, 1) := by decide +kernel
theorem dX10_field_20 : decode cX10_field 20 = .ok (.iaload, 1) := by decide +kernel
theorem dX10_field_21 : decode cX10_field 21 = .ok (.iconst 4, 1) := by decide +kernel
theorem dX10_field_22 : decode cX10_field 22 = .ok (.if_icmp .eq 17, 3) := by decide +kernel
theorem dX10_field_25 : decode cX10_field 25 = .ok (.aload_n 0, 1) := by decide +kernel
theorem dX10_field_26 : decode cX10_field 26 = .ok (.getfield 17, 3) := by decide +kernel
theorem dX10_field_29 : decode cX10_field 29 = .ok (.invokestatic 163, 3) := by decide +kernel
theorem dX10_field_32 : decode cX10_field 32 = .ok (.iload_n 1, 1) := by decide +kernel
theorem dX10_field_33 : decode cX10_field 33 = .ok (.iadd, 1) := by decide +kernel
theorem dX10_field_34 : decode cX10_field 34 = .ok (.bipush 8, 2) := by decide +kernel
theorem dX10_field_36 : decode cX10_field 36 = .ok (.if_icmp .le 5, 3) := by decide +kernel
theorem dX10_field_39 : decode cX10_field 39 = .ok (.iconst (-1), 1) := by decide +kernel
theorem dX10_field_40 : decode cX10_field 40 = .ok (.ireturn, 1) := by decide +kernel
theorem dX10_field_41 : decode cX10_field 41 = .ok (.aload_n 0, 1) := by decide +kernel
theorem dX10_field_42 : decode cX10_field 42 = .ok (.getfield 17, 3) := by decide +kernel
theorem dX10_field_45 : decode cX10_field 45 = .ok (.iconst 1, 1) := by decide +kernel
theorem dX10_field_46 : decode cX10_field 46 = .ok (.aload_n 0, 1) := by decide +kernel
theorem dX10_field_47 : decode cX10_field 47 = .ok (.getfield 17, 3) := by decide +kernel
theorem dX10_field_50 : decode cX10_field 50 = .ok (.iconst 0, 1) := by decide +kernel
theorem dX10_field_51 : decode cX10_field 51 = .ok (.iaload, 1) := by decide +kernel
theorem dX10_field_52 : decode cX10_field 52 = .ok (.iadd, 1) := by decide +kernel
theorem dX10_field_53 : decode cX10_field 53 = .ok (.iload_n 1, 1) := by decide +kernel
theorem dX10_field_54 : decode cX10_field 54 = .ok (.iastore, 1) := by decide +kernel
theorem dX10_field_55 : decode cX10_field 55 = .ok (.aload_n 0, 1) := by decide +kernel
theorem dX10_field_56 : decode cX10_field 56 = .ok (.getfield 17, 3) := by decide +kernel
theorem dX10_field_59 : decode cX10_field 59 = .ok (.iconst 0, 1) := by decide +kernel
theorem dX10_field_60 : decode cX10_field 60 = .ok (.dup2, 1) := by decide +kernel
theorem dX10_field_61 : decode cX10_field 61 = .ok (.iaload, 1) := by decide +kernel
theorem dX10_field_62 : decode cX10_field 62 = .ok (.iconst 1, 1) := by decide +kernel
theorem dX10_field_63 : decode cX10_field 63 = .ok (.iadd, 1) := by decide +kernel
theorem dX10_field_64 : decode cX10_field 64 = .ok (.iastore, 1) := by decide +kernel
theorem dX10_field_65 : decode cX10_field 65 = .ok (.aload_n 0, 1) := by decide +kernel
theorem dX10_field_66 : decode cX10_field 66 = .ok (.invokevirtual 207, 3) := by decide +kernel
theorem dX10_field_69 : decode cX10_field 69 = .ok (.aload_n 0, 1) := by decide +kernel
theorem dX10_field_70 : decode cX10_field 70 = .ok (.getfield 17, 3) := by decide +kernel
theorem dX10_field_73 : decode cX10_field 73 = .ok (.iconst 0, 1) := by decide +kernel
theorem dX10_field_74 : decode cX10_field 74 = .ok (.iaload, 1) := by decide +kernel
theorem dX10_field_75 : decode cX10_field 75 = .ok (.ireturn, 1) := by decide +kernel
abbrev j10_field : xJ := (cX10_field, 2, RX10, 11, 0, 0)
def F10_field (z : Nat) (x1 : Int32) (c_thrown : Int32) (c_told : (Nat → Int32)) (c_many : (Nat → Int32)) (c_eights : (Nat → Int32)) (c_gains : (Nat → Int32)) (c_notes : (Nat → Int32)) (c_seen : (Nat → Int32)) (c_turns : (Nat → Int32)) (c_drawn : (Nat → Int32)) (c_isLeftLaid : Int32) : Option (Int32 × Int32 × (Nat → Int32) × (Nat → Int32) × (Nat → Int32) × (Nat → Int32) × (Nat → Int32) × (Nat → Int32) × (Nat → Int32) × (Nat → Int32) × Int32) :=
  (F10_within x1 (1 : Int32) (8 : Int32)).bind (fun v9 => if v9 = 0 then (some ((-1 : Int32), (0 : Int32), c_told, c_many, c_eights, c_gains, c_notes, c_seen, c_turns, c_drawn, c_isLeftLaid)) else (if (c_told 0) = (4 : Int32) then (some ((-1 : Int32), (0 : Int32), c_told, c_many, c_eights, c_gains, c_notes, c_seen, c_turns, c_drawn, c_isLeftLaid)) else ((F10_worths z c_told).bind (fun v29 => if (v29 + x1) ≤ (8 : Int32) then (xg (xin ((1 : Int32) + (c_told 0)) 56) ((F10_begins z (upd (upd c_told (xn ((1 : Int32) + (c_told 0))) x1) 0 (((upd c_told (xn ((1 : Int32) + (c_told 0))) x1) 0) + (1 : Int32))) c_many c_eights c_gains c_notes c_seen c_turns c_drawn c_isLeftLaid).bind (fun v66 => some ((v66.1 0), (0 : Int32), v66.1, v66.2.1, v66.2.2.1, v66.2.2.2.1, v66.2.2.2.2.1, v66.2.2.2.2.2.1, v66.2.2.2.2.2.2.1, v66.2.2.2.2.2.2.2.1, v66.2.2.2.2.2.2.2.2)))) else (some ((-1 : Int32), (0 : Int32), c_told, c_many, c_eights, c_gains, c_notes, c_seen, c_turns, c_drawn, c_isLeftLaid))))))
theorem T10_field {X : xX} {z : Nat} {x1 : Int32} {c_thrown : Int32} {c_told : (Nat → Int32)} {c_many : (Nat → Int32)} {c_eights : (Nat → Int32)} {c_gains : (Nat → Int32)} {c_notes : (Nat → Int32)} {c_seen : (Nat → Int32)} {c_turns : (Nat → Int32)} {c_drawn : (Nat → Int32)} {c_isLeftLaid : Int32} {c_read : (Nat → Int32)} {c_state : Int32} {c_tape : (Nat → Int32)} {c_taped : Int32} {c_size : Int32} {c_from : Int32} {c_next : Int32} {c_token : Int32} {c_value : Int32} {c_fault : Int32} {c_number : Int32} {c_fives : (Nat → Int32)} {c_isLeft : (Nat → Int32)} {c_wentTimes : Int32} {c_goes : (Nat → Int32)} {c_game : (Nat → Int32)} {c_rows : Int32} {c_columns : Int32} {c_isFound : Int32} {c_bestValue : Int64} {c_bestBelow : Int64} {c_bestShare : (Nat → Int64)} {c_share : (Nat → Int64)} {c_matrix : (Nat → Int64)} {c_system : (Nat → Int64)} {c_shares : (Nat → Int32)} {c_allShares : Int32} {v : Int32 × Int32 × (Nat → Int32) × (Nat → Int32) × (Nat → Int32) × (Nat → Int32) × (Nat → Int32) × (Nat → Int32) × (Nat → Int32) × (Nat → Int32) × Int32} (hX : xIs (j10_field) X ((some .int)) (some (.int v.1)) (hM v.2.1 v.2.2.1 c_read v.2.2.2.1 v.2.2.2.2.1 v.2.2.2.2.2.1 v.2.2.2.2.2.2.1 v.2.2.2.2.2.2.2.1 v.2.2.2.2.2.2.2.2.1 v.2.2.2.2.2.2.2.2.2.1 c_state c_tape c_taped c_size c_from c_next c_token c_value c_fault c_number c_fives c_isLeft c_wentTimes c_goes v.2.2.2.2.2.2.2.2.2.2 c_game c_rows c_columns c_isFound c_bestValue c_bestBelow c_bestShare c_share c_matrix c_system c_shares c_allShares)) (hf : F10_field z x1 c_thrown c_told c_many c_eights c_gains c_notes c_seen c_turns c_drawn c_isLeftLaid = some v) : xV (j10_field) X 0 0 (hM c_thrown c_told c_read c_many c_eights c_gains c_notes c_seen c_turns c_drawn c_state c_tape c_taped c_size c_from c_next c_token c_value c_fault c_number c_fives c_isLeft c_wentTimes c_goes c_isLeftLaid c_game c_rows c_columns c_isFound c_bestValue c_bestBelow c_bestShare c_share c_matrix c_system c_shares c_allShares) 0 [(0, .ref 0), (1, .int x1)] [] := by
  unfold F10_field at hf
  refine xV_aload_n 1 rfl dX10_field_0 rfl 0 rfl ?_
  refine xV_iconst 2 rfl dX10_field_1 xk_i0 ?_
  refine xV_put (h' := (hM (0 : Int32) c_told c_read c_many c_eights c_gains c_notes c_seen c_turns c_drawn c_state c_tape c_taped c_size c_from c_next c_token c_value c_fault c_number c_fives c_isLeft c_wentTimes c_goes c_isLeftLaid c_game c_rows c_columns c_isFound c_bestValue c_bestBelow c_bestShare c_share c_matrix c_system c_shares c_allShares)) 5 rfl dX10_field_2 f10_1 rfl nf10_0 (fun _ => rfl) (fun _ => rfl) (Nat.le_of_ble_eq_true rfl) rfl ?_
  refine xV_iload_n 6 rfl dX10_field_5 rfl 1 rfl ?_
  refine xV_iconst 7 rfl dX10_field_6 xk_i1 ?_
  refine xV_bipush 9 rfl dX10_field_7 xk_b8 ?_
  obtain ⟨v9, hv9, hf⟩ := xb_s hf
  refine xV_st0 (rest := []) 12 rfl dX10_field_9 rfl (C10_within X.1.2.1 hv9) m10_within s10_within k10_7 rfl (Nat.le_of_ble_eq_true rfl) (Nat.le_of_ble_eq_true rfl) (Nat.le_of_ble_eq_true rfl) ⟨Nat.le_refl _, Nat.le_refl _⟩ ?_
  show xV (j10_field) X 0 0 (hM (0 : Int32) c_told c_read c_many c_eights c_gains c_notes c_seen c_turns c_drawn c_state c_tape c_taped c_size c_from c_next c_token c_value c_fault c_number c_fives c_isLeft c_wentTimes c_goes c_isLeftLaid c_game c_rows c_columns c_isFound c_bestValue c_bestBelow c_bestShare c_share c_matrix c_system c_shares c_allShares) 12 [(0, .ref 0), (1, .int x1)] [.int v9]
  refine xV_if_eq (tgt := 39) 15 rfl dX10_field_12 (by decide) (fun h12 => ?_) (fun h12 => ?_)
  · have hf := xif_t hf h12
    refine xV_iconst 40 rfl dX10_field_39 xk_im1 ?_
    obtain rfl := Option.some.inj hf
    exact xV_iret hX dX10_field_40 rfl (Nat.zero_le _) (Nat.zero_le _)
  · have hf := xif_f hf h12
    refine xV_aload_n 16 rfl dX10_field_15 rfl 0 rfl ?_
    refine xV_get (v := .ref 1) 19 rfl dX10_field_16 f10_17 rfl rfl ?_
    refine xV_iconst 20 rfl dX10_field_19 xk_i0 ?_
    refine xV_iaload 21 rfl dX10_field_20 rfl xk_in0_56 xk_j0 ?_
    refine xV_iconst 22 rfl dX10_field_21 xk_i4 ?_
    refine xV_icmp_eq (tgt := 39) 25 rfl dX10_field_22 (by decide) (fun h22 => ?_) (fun h22 => ?_)
    · have hf := xif_t hf h22
      refine xV_iconst 40 rfl dX10_field_39 xk_im1 ?_
      obtain rfl := Option.some.inj hf
      exact xV_iret hX dX10_field_40 rfl (Nat.zero_le _) (Nat.zero_le _)
    · have hf := xif_f hf h22
      refine xV_aload_n 26 rfl dX10_field_25 rfl 0 rfl ?_
      refine xV_get (v := .ref 1) 29 rfl dX10_field_26 f10_17 rfl rfl ?_
      obtain ⟨v29, hv29, hf⟩ := xb_s hf
      refine xV_st1 (h' := (hM (0 : Int32) c_told c_read c_many c_eights c_gains c_notes c_seen c_turns c_drawn c_state c_tape c_taped c_size c_from c_next c_token c_value c_fault c_number c_fives c_isLeft c_wentTimes c_goes c_isLeftLaid c_game c_rows c_columns c_isFound c_bestValue c_bestBelow c_bestShare c_share c_matrix c_system c_shares c_allShares)) (rest := []) 32 rfl dX10_field_29 rfl (C10_worths X.1.2.1 hv29) m10_worths s10_worths k10_163 rfl rfl rfl rfl rfl rfl (Nat.le_of_ble_eq_true rfl) (Nat.le_of_ble_eq_true rfl) (Nat.le_of_ble_eq_true rfl) ⟨Nat.le_refl _, Nat.le_refl _⟩ ?_
      show xV (j10_field) X 0 0 (hM (0 : Int32) c_told c_read c_many c_eights c_gains c_notes c_seen c_turns c_drawn c_state c_tape c_taped c_size c_from c_next c_token c_value c_fault c_number c_fives c_isLeft c_wentTimes c_goes c_isLeftLaid c_game c_rows c_columns c_isFound c_bestValue c_bestBelow c_bestShare c_share c_matrix c_system c_shares c_allShares) 32 [(0, .ref 0), (1, .int x1)] [.int v29]
      refine xV_iload_n 33 rfl dX10_field_32 rfl 1 rfl ?_
      refine xV_iadd 34 rfl dX10_field_33 ?_
      refine xV_bipush 36 rfl dX10_field_34 xk_b8 ?_
      refine xV_icmp_le (tgt := 41) 39 rfl dX10_field_36 (by decide) (fun h36 => ?_) (fun h36 => ?_)
      · have hf := xif_t hf h36
        refine xV_aload_n 42 rfl dX10_field_41 rfl 0 rfl ?_
        refine xV_get (v := .ref 1) 45 rfl dX10_field_42 f10_17 rfl rfl ?_
        refine xV_iconst 46 rfl dX10_field_45 xk_i1 ?_
        refine xV_aload_n 47 rfl dX10_field_46 rfl 0 rfl ?_
        refine xV_get (v := .ref 1) 50 rfl dX10_field_47 f10_17 rfl rfl ?_
        refine xV_iconst 51 rfl dX10_field_50 xk_i0 ?_
        refine xV_iaload 52 rfl dX10_field_51 rfl xk_in0_56 xk_j0 ?_
        refine xV_iadd 53 rfl dX10_field_52 ?_
        refine xV_iload_n 54 rfl dX10_field_53 rfl 1 rfl ?_
        obtain ⟨hg54, hf⟩ := xg_s hf
        refine xV_iastore (h' := (hM (0 : Int32) (upd c_told (xn ((1 : Int32) + (c_told 0))) x1) c_read c_many c_eights c_gains c_notes c_seen c_turns c_drawn c_state c_tape c_taped c_size c_from c_next c_token c_value c_fault c_number c_fives c_isLeft c_wentTimes c_goes c_isLeftLaid c_game c_rows c_columns c_isFound c_bestValue c_bestBelow c_bestShare c_share c_matrix c_system c_shares c_allShares)) 55 rfl dX10_field_54 rfl (xin_ok hg54) rfl rfl ?_
        refine xV_aload_n 56 rfl dX10_field_55 rfl 0 rfl ?_
        refine xV_get (v := .ref 1) 59 rfl dX10_field_56 f10_17 rfl rfl ?_
        refine xV_iconst 60 rfl dX10_field_59 xk_i0 ?_
        refine xV_dup2 61 rfl dX10_field_60 rfl rfl ?_
        refine xV_iaload 62 rfl dX10_field_61 rfl xk_in0_56 xk_j0 ?_
        refine xV_iconst 63 rfl dX10_field_62 xk_i1 ?_
        refine xV_iadd 64 rfl dX10_field_63 ?_
        refine xV_iastore (h' := (hM (0 : Int32) (upd (upd c_told (xn ((1 : Int32) + (c_told 0))) x1) 0 (((upd c_told (xn ((1 : Int32) + (c_told 0))) x1) 0) + (1 : Int32))) c_read c_many c_eights c_gains c_notes c_seen c_turns c_drawn c_state c_tape c_taped c_size c_from c_next c_token c_value c_fault c_number c_fives c_isLeft c_wentTimes c_goes c_isLeftLaid c_game c_rows c_columns c_isFound c_bestValue c_bestBelow c_bestShare c_share c_matrix c_system c_shares c_allShares)) 65 rfl dX10_field_64 rfl xk_in0_56 xk_j0 rfl ?_
        refine xV_aload_n 66 rfl dX10_field_65 rfl 0 rfl ?_
        obtain ⟨v66, hv66, hf⟩ := xb_s hf
        refine xV_same (rest := []) 69 rfl dX10_field_66 rfl (C10_begins X.1.2.1 hv66) m10_begins v10_begins k10_207 rfl rfl rfl rfl rfl (Nat.le_of_ble_eq_true rfl) (Nat.le_of_ble_eq_true rfl) (Nat.le_of_ble_eq_true rfl) ⟨Nat.le_refl _, Nat.le_refl _⟩ ?_
        show xV (j10_field) X 0 0 (hM (0 : Int32) v66.1 c_read v66.2.1 v66.2.2.1 v66.2.2.2.1 v66.2.2.2.2.1 v66.2.2.2.2.2.1 v66.2.2.2.2.2.2.1 v66.2.2.2.2.2.2.2.1 c_state c_tape c_taped c_size c_from c_next c_token c_value c_fault c_number c_fives c_isLeft c_wentTimes c_goes v66.2.2.2.2.2.2.2.2 c_game c_rows c_columns c_isFound c_bestValue c_bestBelow c_bestShare c_share c_matrix c_system c_shares c_allShares) 69 [(0, .ref 0), (1, .int x1)] []
        refine xV_aload_n 70 rfl dX10_field_69 rfl 0 rfl ?_
        refine xV_get (v := .ref 1) 73 rfl dX10_field_70 f10_17 rfl rfl ?_
        refine xV_iconst 74 rfl dX10_field_73 xk_i0 ?_
        refine xV_iaload 75 rfl dX10_field_74 rfl xk_in0_56 xk_j0 ?_
        obtain rfl := Option.some.inj hf
        exact xV_iret hX dX10_field_75 rfl (Nat.zero_le _) (Nat.zero_le _)
      · have hf := xif_f hf h36
        refine xV_iconst 40 rfl dX10_field_39 xk_im1 ?_
        obtain rfl := Option.some.inj hf
        exact xV_iret hX dX10_field_40 rfl (Nat.zero_le _) (Nat.zero_le _)
theorem C10_field (l : Launch) {z : Nat} {x1 : Int32} {c_thrown : Int32} {c_told : (Nat → Int32)} {c_many : (Nat → Int32)} {c_eights : (Nat → Int32)} {c_gains : (Nat → Int32)} {c_notes : (Nat → Int32)} {c_seen : (Nat → Int32)} {c_turns : (Nat → Int32)} {c_drawn : (Nat → Int32)} {c_isLeftLaid : Int32} {c_read : (Nat → Int32)} {c_state : Int32} {c_tape : (Nat → Int32)} {c_taped : Int32} {c_size : Int32} {c_from : Int32} {c_next : Int32} {c_token : Int32} {c_value : Int32} {c_fault : Int32} {c_number : Int32} {c_fives : (Nat → Int32)} {c_isLeft : (Nat → Int32)} {c_wentTimes : Int32} {c_goes : (Nat → Int32)} {c_game : (Nat → Int32)} {c_rows : Int32} {c_columns : Int32} {c_isFound : Int32} {c_bestValue : Int64} {c_bestBelow : Int64} {c_bestShare : (Nat → Int64)} {c_share : (Nat → Int64)} {c_matrix : (Nat → Int64)} {c_system : (Nat → Int64)} {c_shares : (Nat → Int32)} {c_allShares : Int32} {v : Int32 × Int32 × (Nat → Int32) × (Nat → Int32) × (Nat → Int32) × (Nat → Int32) × (Nat → Int32) × (Nat → Int32) × (Nat → Int32) × (Nat → Int32) × Int32} (hf : F10_field z x1 c_thrown c_told c_many c_eights c_gains c_notes c_seen c_turns c_drawn c_isLeftLaid = some v) : xCt l yX10_field ((some .int)) j10_field [.ref 0, .int x1] (hM c_thrown c_told c_read c_many c_eights c_gains c_notes c_seen c_turns c_drawn c_state c_tape c_taped c_size c_from c_next c_token c_value c_fault c_number c_fives c_isLeft c_wentTimes c_goes c_isLeftLaid c_game c_rows c_columns c_isFound c_bestValue c_bestBelow c_bestShare c_share c_matrix c_system c_shares c_allShares) (some (.int v.1)) (hM v.2.1 v.2.2.1 c_read v.2.2.2.1 v.2.2.2.2.1 v.2.2.2.2.2.1 v.2.2.2.2.2.2.1 v.2.2.2.2.2.2.2.1 v.2.2.2.2.2.2.2.2.1 v.2.2.2.2.2.2.2.2.2.1 c_state c_tape c_taped c_size c_from c_next c_token c_value c_fault c_number c_fives c_isLeft c_wentTimes c_goes v.2.2.2.2.2.2.2.2.2.2 c_game c_rows c_columns c_isFound c_bestValue c_bestBelow c_bestShare c_share c_matrix c_system c_shares c_allShares) := xCt_of (by decide) rfl (Nat.le_of_ble_eq_true rfl) (fun _ hX => T10_field hX hf)
theorem m10_field : xMd yX10_field RX10 ((some .int)) j10_field 1 := ⟨List.mem_of_getElem? (i := 519) (by decide +kernel), List.mem_of_getElem? (i := 5) (by decide +kernel), rfl, by decide +kernel⟩
theorem v10_field : xMv yX10_field RX10 := ⟨List.mem_of_getElem? (i := 517) (by decide +kernel), List.mem_of_getElem? (i := 518) (by decide +kernel)⟩
theorem dX10_lose_0 : decode cX10_lose 0 = .ok (.aload_n 0, 1) := by decide +kernel
theorem dX10_lose_1 : decode cX10_lose 1 = .ok (.iconst 0, 1) := by decide +kernel
theorem dX10_lose_2 : decode cX10_lose 2 = .ok (.putfield 1, 3) := by decide +kernel
theorem dX10_lose_5 : decode cX10_lose 5 = .ok (.aload_n 0, 1) := by decide +kernel
theorem dX10_lose_6 : decode cX10_lose 6 = .ok (.getfield 17, 3) := by decide +kernel
theorem dX10_lose_9 : decode cX10_lose 9 = .ok (.iconst 0, 1) := by decide +kernel
theorem dX10_lose_10 : decode cX10_lose 10 = .ok (.iaload, 1) := by decide +kernel
theorem dX10_lose_11 : decode cX10_lose 11 = .ok (.iconst 1, 1) := by decide +kernel
theorem dX10_lose_12 : decode cX10_lose 12 = .ok (.if_icmp .ne 5, 3) := by decide +kernel
theorem dX10_lose_15 : decode cX10_lose 15 = .ok (.iconst (-1), 1) := by decide +kernel
theorem dX10_lose_16 : decode cX10_lose 16 = .ok (.ireturn, 1) := by decide +kernel
theorem dX10_lose_17 : decode cX10_lose 17 = .ok (.aload_n 0, 1) := by decide +kernel
theorem dX10_lose_18 : decode cX10_lose 18 = .ok (.getfield 17, 3) := by decide +kernel
theorem dX10_lose_21 : decode cX10_lose 21 = .ok (.iconst 0, 1) := by decide +kernel
theorem dX10_lose_22 : decode cX10_lose 22 = .ok (.dup2, 1) := by decide +kernel
theorem dX10_lose_23 : decode cX10_lose 23 = .ok (.iaload, 1) := by decide +kernel
theorem dX10_lose_24 : decode cX10_lose 24 = .ok (.iconst 1, 1) := by decide +kernel
theorem dX10_lose_25 : decode cX10_lose 25 = .ok (.isub, 1) := by decide +kernel
theorem dX10_lose_26 : decode cX10_lose 26 = .ok (.iastore, 1) := by decide +kernel
theorem dX10_lose_27 : decode cX10_lose 27 = .ok (.aload_n 0, 1) := by decide +kernel
theorem dX10_lose_28 : decode cX10_lose 28 = .ok (.invokevirtual 207, 3) := by decide +kernel
theorem dX10_lose_31 : decode cX10_lose 31 = .ok (.aload_n 0, 1) := by decide +kernel
theorem dX10_lose_32 : decode cX10_lose 32 = .ok (.getfield 17, 3) := by decide +kernel
theorem dX10_lose_35 : decode cX10_lose 35 = .ok (.iconst 0, 1) := by decide +kernel
theorem dX10_lose_36 : decode cX10_lose 36 = .ok (.iaload, 1) := by decide +kernel
theorem dX10_lose_37 : decode cX10_lose 37 = .ok (.ireturn, 1) := by decide +kernel
abbrev j10_lose : xJ := (cX10_lose, 1, RX10, 11, 0, 0)
def F10_lose (z : Nat) (c_thrown : Int32) (c_told : (Nat → Int32)) (c_many : (Nat → Int32)) (c_eights : (Nat → Int32)) (c_gains : (Nat → Int32)) (c_notes : (Nat → Int32)) (c_seen : (Nat → Int32)) (c_turns : (Nat → Int32)) (c_drawn : (Nat → Int32)) (c_isLeftLaid : Int32) : Option (Int32 × Int32 × (Nat → Int32) × (Nat → Int32) × (Nat → Int32) × (Nat → Int32) × (Nat → Int32) × (Nat → Int32) × (Nat → Int32) × (Nat → Int32) × Int32) :=
  if (c_told 0) = (1 : Int32) then (some ((-1 : Int32), (0 : Int32), c_told, c_many, c_eights, c_gains, c_notes, c_seen, c_turns, c_drawn, c_isLeftLaid)) else ((F10_begins z (upd c_told 0 ((c_told 0) - (1 : Int32))) c_many c_eights c_gains c_notes c_seen c_turns c_drawn c_isLeftLaid).bind (fun v28 => some ((v28.1 0), (0 : Int32), v28.1, v28.2.1, v28.2.2.1, v28.2.2.2.1, v28.2.2.2.2.1, v28.2.2.2.2.2.1, v28.2.2.2.2.2.2.1, v28.2.2.2.2.2.2.2.1, v28.2.2.2.2.2.2.2.2)))
theorem T10_lose {X : xX} {z : Nat} {c_thrown : Int32} {c_told : (Nat → Int32)} {c_many : (Nat → Int32)} {c_eights : (Nat → Int32)} {c_gains : (Nat → Int32)} {c_notes : (Nat → Int32)} {c_seen : (Nat → Int32)} {c_turns : (Nat → Int32)} {c_drawn : (Nat → Int32)} {c_isLeftLaid : Int32} {c_read : (Nat → Int32)} {c_state : Int32} {c_tape : (Nat → Int32)} {c_taped : Int32} {c_size : Int32} {c_from : Int32} {c_next : Int32} {c_token : Int32} {c_value : Int32} {c_fault : Int32} {c_number : Int32} {c_fives : (Nat → Int32)} {c_isLeft : (Nat → Int32)} {c_wentTimes : Int32} {c_goes : (Nat → Int32)} {c_game : (Nat → Int32)} {c_rows : Int32} {c_columns : Int32} {c_isFound : Int32} {c_bestValue : Int64} {c_bestBelow : Int64} {c_bestShare : (Nat → Int64)} {c_share : (Nat → Int64)} {c_matrix : (Nat → Int64)} {c_system : (Nat → Int64)} {c_shares : (Nat → Int32)} {c_allShares : Int32} {v : Int32 × Int32 × (Nat → Int32) × (Nat → Int32) × (Nat → Int32) × (Nat → Int32) × (Nat → Int32) × (Nat → Int32) × (Nat → Int32) × (Nat → Int32) × Int32} (hX : xIs (j10_lose) X ((some .int)) (some (.int v.1)) (hM v.2.1 v.2.2.1 c_read v.2.2.2.1 v.2.2.2.2.1 v.2.2.2.2.2.1 v.2.2.2.2.2.2.1 v.2.2.2.2.2.2.2.1 v.2.2.2.2.2.2.2.2.1 v.2.2.2.2.2.2.2.2.2.1 c_state c_tape c_taped c_size c_from c_next c_token c_value c_fault c_number c_fives c_isLeft c_wentTimes c_goes v.2.2.2.2.2.2.2.2.2.2 c_game c_rows c_columns c_isFound c_bestValue c_bestBelow c_bestShare c_share c_matrix c_system c_shares c_allShares)) (hf : F10_lose z c_thrown c_told c_many c_eights c_gains c_notes c_seen c_turns c_drawn c_isLeftLaid = some v) : xV (j10_lose) X 0 0 (hM c_thrown c_told c_read c_many c_eights c_gains c_notes c_seen c_turns c_drawn c_state c_tape c_taped c_size c_from c_next c_token c_value c_fault c_number c_fives c_isLeft c_wentTimes c_goes c_isLeftLaid c_game c_rows c_columns c_isFound c_bestValue c_bestBelow c_bestShare c_share c_matrix c_system c_shares c_allShares) 0 [(0, .ref 0)] [] := by
  unfold F10_lose at hf
  refine xV_aload_n 1 rfl dX10_lose_0 rfl 0 rfl ?_
  refine xV_iconst 2 rfl dX10_lose_1 xk_i0 ?_
  refine xV_put (h' := (hM (0 : Int32) c_told c_read c_many c_eights c_gains c_notes c_seen c_turns c_drawn c_state c_tape c_taped c_size c_from c_next c_token c_value c_fault c_number c_fives c_isLeft c_wentTimes c_goes c_isLeftLaid c_game c_rows c_columns c_isFound c_bestValue c_bestBelow c_bestShare c_share c_matrix c_system c_shares c_allShares)) 5 rfl dX10_lose_2 f10_1 rfl nf10_0 (fun _ => rfl) (fun _ => rfl) (Nat.le_of_ble_eq_true rfl) rfl ?_
  refine xV_aload_n 6 rfl dX10_lose_5 rfl 0 rfl ?_
  refine xV_get (v := .ref 1) 9 rfl dX10_lose_6 f10_17 rfl rfl ?_
  refine xV_iconst 10 rfl dX10_lose_9 xk_i0 ?_
  refine xV_iaload 11 rfl dX10_lose_10 rfl xk_in0_56 xk_j0 ?_
  refine xV_iconst 12 rfl dX10_lose_11 xk_i1 ?_
  refine xV_icmp_ne (tgt := 17) 15 rfl dX10_lose_12 (by decide) (fun h12 => ?_) (fun h12 => ?_)
  · have hf := xif_f hf h12
    refine xV_aload_n 18 rfl dX10_lose_17 rfl 0 rfl ?_
    refine xV_get (v := .ref 1) 21 rfl dX10_lose_18 f10_17 rfl rfl ?_
    refine xV_iconst 22 rfl dX10_lose_21 xk_i0 ?_
    refine xV_dup2 23 rfl dX10_lose_22 rfl rfl ?_
    refine xV_iaload 24 rfl dX10_lose_23 rfl xk_in0_56 xk_j0 ?_
    refine xV_iconst 25 rfl dX10_lose_24 xk_i1 ?_
    refine xV_isub 26 rfl dX10_lose_25 ?_
    refine xV_iastore (h' := (hM (0 : Int32) (upd c_told 0 ((c_told 0) - (1 : Int32))) c_read c_many c_eights c_gains c_notes c_seen c_turns c_drawn c_state c_tape c_taped c_size c_from c_next c_token c_value c_fault c_number c_fives c_isLeft c_wentTimes c_goes c_isLeftLaid c_game c_rows c_columns c_isFound c_bestValue c_bestBelow c_bestShare c_share c_matrix c_system c_shares c_allShares)) 27 rfl dX10_lose_26 rfl xk_in0_56 xk_j0 rfl ?_
    refine xV_aload_n 28 rfl dX10_lose_27 rfl 0 rfl ?_
    obtain ⟨v28, hv28, hf⟩ := xb_s hf
    refine xV_same (rest := []) 31 rfl dX10_lose_28 rfl (C10_begins X.1.2.1 hv28) m10_begins v10_begins k10_207 rfl rfl rfl rfl rfl (Nat.le_of_ble_eq_true rfl) (Nat.le_of_ble_eq_true rfl) (Nat.le_of_ble_eq_true rfl) ⟨Nat.le_refl _, Nat.le_refl _⟩ ?_
    show xV (j10_lose) X 0 0 (hM (0 : Int32) v28.1 c_read v28.2.1 v28.2.2.1 v28.2.2.2.1 v28.2.2.2.2.1 v28.2.2.2.2.2.1 v28.2.2.2.2.2.2.1 v28.2.2.2.2.2.2.2.1 c_state c_tape c_taped c_size c_from c_next c_token c_value c_fault c_number c_fives c_isLeft c_wentTimes c_goes v28.2.2.2.2.2.2.2.2 c_game c_rows c_columns c_isFound c_bestValue c_bestBelow c_bestShare c_share c_matrix c_system c_shares c_allShares) 31 [(0, .ref 0)] []
    refine xV_aload_n 32 rfl dX10_lose_31 rfl 0 rfl ?_
    refine xV_get (v := .ref 1) 35 rfl dX10_lose_32 f10_17 rfl rfl ?_
    refine xV_iconst 36 rfl dX10_lose_35 xk_i0 ?_
    refine xV_iaload 37 rfl dX10_lose_36 rfl xk_in0_56 xk_j0 ?_
    obtain rfl := Option.some.inj hf
    exact xV_iret hX dX10_lose_37 rfl (Nat.zero_le _) (Nat.zero_le _)
  · have hf := xif_t hf h12
    refine xV_iconst 16 rfl dX10_lose_15 xk_im1 ?_
    obtain rfl := Option.some.inj hf
    exact xV_iret hX dX10_lose_16 rfl (Nat.zero_le _) (Nat.zero_le _)
theorem C10_lose (l : Launch) {z : Nat} {c_thrown : Int32} {c_told : (Nat → Int32)} {c_many : (Nat → Int32)} {c_eights : (Nat → Int32)} {c_gains : (Nat → Int32)} {c_notes : (Nat → Int32)} {c_seen : (Nat → Int32)} {c_turns : (Nat → Int32)} {c_drawn : (Nat → Int32)} {c_isLeftLaid : Int32} {c_read : (Nat → Int32)} {c_state : Int32} {c_tape : (Nat → Int32)} {c_taped : Int32} {c_size : Int32} {c_from : Int32} {c_next : Int32} {c_token : Int32} {c_value : Int32} {c_fault : Int32} {c_number : Int32} {c_fives : (Nat → Int32)} {c_isLeft : (Nat → Int32)} {c_wentTimes : Int32} {c_goes : (Nat → Int32)} {c_game : (Nat → Int32)} {c_rows : Int32} {c_columns : Int32} {c_isFound : Int32} {c_bestValue : Int64} {c_bestBelow : Int64} {c_bestShare : (Nat → Int64)} {c_share : (Nat → Int64)} {c_matrix : (Nat → Int64)} {c_system : (Nat → Int64)} {c_shares : (Nat → Int32)} {c_allShares : Int32} {v : Int32 × Int32 × (Nat → Int32) × (Nat → Int32) × (Nat → Int32) × (Nat → Int32) × (Nat → Int32) × (Nat → Int32) × (Nat → Int32) × (Nat → Int32) × Int32} (hf : F10_lose z c_thrown c_told c_many c_eights c_gains c_notes c_seen c_turns c_drawn c_isLeftLaid = some v) : xCt l yX10_lose ((some .int)) j10_lose [.ref 0] (hM c_thrown c_told c_read c_many c_eights c_gains c_notes c_seen c_turns c_drawn c_state c_tape c_taped c_size c_from c_next c_token c_value c_fault c_number c_fives c_isLeft c_wentTimes c_goes c_isLeftLaid c_game c_rows c_columns c_isFound c_bestValue c_bestBelow c_bestShare c_share c_matrix c_system c_shares c_allShares) (some (.int v.1)) (hM v.2.1 v.2.2.1 c_read v.2.2.2.1 v.2.2.2.2.1 v.2.2.2.2.2.1 v.2.2.2.2.2.2.1 v.2.2.2.2.2.2.2.1 v.2.2.2.2.2.2.2.2.1 v.2.2.2.2.2.2.2.2.2.1 c_state c_tape c_taped c_size c_from c_next c_token c_value c_fault c_number c_fives c_isLeft c_wentTimes c_goes v.2.2.2.2.2.2.2.2.2.2 c_game c_rows c_columns c_isFound c_bestValue c_bestBelow c_bestShare c_share c_matrix c_system c_shares c_allShares) := xCt_of (by decide) rfl (Nat.le_of_ble_eq_true rfl) (fun _ hX => T10_lose hX hf)
theorem m10_lose : xMd yX10_lose RX10 ((some .int)) j10_lose 0 := ⟨List.mem_of_getElem? (i := 531) (by decide +kernel), List.mem_of_getElem? (i := 5) (by decide +kernel), rfl, by decide +kernel⟩
theorem v10_lose : xMv yX10_lose RX10 := ⟨List.mem_of_getElem? (i := 529) (by decide +kernel), List.mem_of_getElem? (i := 530) (by decide +kernel)⟩
theorem dX10_forces_0 : decode cX10_forces 0 = .ok (.aload_n 0, 1) := by decide +kernel
theorem dX10_forces_1 : decode cX10_forces 1 = .ok (.iconst 0, 1) := by decide +kernel
theorem dX10_forces_2 : decode cX10_forces 2 = .ok (.putfield 1, 3) := by decide +kernel
theorem dX10_forces_5 : decode cX10_forces 5 = .ok (.iload_n 1, 1) := by decide +kernel
theorem dX10_forces_6 : decode cX10_forces 6 = .ok (.invokestatic 105, 3) := by decide +kernel
theorem dX10_forces_9 : decode cX10_forces 9 = .ok (.ifCond .eq 13, 3) := by decide +kernel
theorem dX10_forces_12 : decode cX10_forces 12 = .ok (.iload_n 2, 1) := by decide +kernel
theorem dX10_forces_13 : decode cX10_forces 13 = .ok (.iconst 0, 1) := by decide +kernel
theorem dX10_forces_14 : decode cX10_forces 14 = .ok (.bipush 7, 2) := by decide +kernel
theorem dX10_forces_16 : decode cX10_forces 16 = .ok (.invokestatic 7, 3) := by decide +kernel
theorem dX10_forces_19 : decode cX10_forces 19 = .ok (.ifCond .ne 5, 3) := by decide +kernel
theorem dX10_forces_22 : decode cX10_forces 22 = .ok (.iconst (-1), 1) := by decide +kernel
theorem dX10_forces_23 : decode cX10_forces 23 = .ok (.ireturn, 1) := by decide +kernel
theorem dX10_forces_24 : decode cX10_forces 24 = .ok (.aload_n 0, 1) := by decide +kernel
theorem dX10_forces_25 : decode cX10_forces 25 = .ok (.getfield 17, 3) := by decide +kernel
theorem dX10_forces_28 : decode cX10_forces 28 = .ok (.iconst 5, 1) := by decide +kernel
theorem dX10_forces_29 : decode cX10_forces 29 = .ok (.iload_n 1, 1) := by decide +kernel
theorem dX10_forces_30 : decode cX10_forces 30 = .ok (.iadd, 1) := by decide +kernel
theorem dX10_forces_31 : decode cX10_forces 31 = .ok (.iaload, 1) := by decide +kernel
theorem dX10_forces_32 : decode cX10_forces 32 = .ok (.istore_n 3, 1) := by decide +kernel
theorem dX10_forces_33 : decode cX10_forces 33 = .ok (.aload_n 0, 1) := by decide +kernel
theorem dX10_forces_34 : decode cX10_forces 34 = .ok (.getfield 17, 3) := by decide +kernel
theorem dX10_forces_37 : decode cX10_forces 37 = .ok (.iconst 5, 1) := by decide +kernel
theorem dX10_forces_38 : decode cX10_forces 38 = .ok (.iload_n 1, 1) := by decide +kernel
theorem dX10_forces_39 : decode cX10_forces 39 = .ok (.iadd, 1) := by decide +kernel
theorem dX10_forces_40 : decode cX10_forces 40 = .ok (.iload_n 2, 1) := by decide +kernel
theorem dX10_forces_41 : decode cX10_forces 41 = .ok (.iastore, 1) := by decide +kernel
theorem dX10_forces_42 : decode cX10_forces 42 = .ok (.aload_n 0, 1) := by decide +kernel
theorem dX10_forces_43 : decode cX10_forces 43 = .ok (.invokevirtual 207, 3) := by decide +kernel
theorem dX10_forces_46 : decode cX10_forces 46 = .ok (.iload_n 3, 1) := by decide +kernel
theorem dX10_forces_47 : decode cX10_forces 47 = .ok (.ireturn, 1) := by decide +kernel
abbrev j10_forces : xJ := (cX10_forces, 4, RX10, 11, 0, 0)
def F10_forces (z : Nat) (x1 : Int32) (x2 : Int32) (c_thrown : Int32) (c_told : (Nat → Int32)) (c_many : (Nat → Int32)) (c_eights : (Nat → Int32)) (c_gains : (Nat → Int32)) (c_notes : (Nat → Int32)) (c_seen : (Nat → Int32)) (c_turns : (Nat → Int32)) (c_drawn : (Nat → Int32)) (c_isLeftLaid : Int32) : Option (Int32 × Int32 × (Nat → Int32) × (Nat → Int32) × (Nat → Int32) × (Nat → Int32) × (Nat → Int32) × (Nat → Int32) × (Nat → Int32) × (Nat → Int32) × Int32) :=
  (F10_isSide x1).bind (fun v6 => if v6 = 0 then (some ((-1 : Int32), (0 : Int32), c_told, c_many, c_eights, c_gains, c_notes, c_seen, c_turns, c_drawn, c_isLeftLaid)) else ((F10_within x2 (0 : Int32) (7 : Int32)).bind (fun v16 => if v16 = 0 then (some ((-1 : Int32), (0 : Int32), c_told, c_many, c_eights, c_gains, c_notes, c_seen, c_turns, c_drawn, c_isLeftLaid)) else (xg (xin ((5 : Int32) + x1) 56) (xg (xin ((5 : Int32) + x1) 56) ((F10_begins z (upd c_told (xn ((5 : Int32) + x1)) x2) c_many c_eights c_gains c_notes c_seen c_turns c_drawn c_isLeftLaid).bind (fun v43 => some ((c_told (xn ((5 : Int32) + x1))), (0 : Int32), v43.1, v43.2.1, v43.2.2.1, v43.2.2.2.1, v43.2.2.2.2.1, v43.2.2.2.2.2.1, v43.2.2.2.2.2.2.1, v43.2.2.2.2.2.2.2.1, v43.2.2.2.2.2.2.2.2))))))))
theorem T10_forces {X : xX} {z : Nat} {x1 : Int32} {x2 : Int32} {c_thrown : Int32} {c_told : (Nat → Int32)} {c_many : (Nat → Int32)} {c_eights : (Nat → Int32)} {c_gains : (Nat → Int32)} {c_notes : (Nat → Int32)} {c_seen : (Nat → Int32)} {c_turns : (Nat → Int32)} {c_drawn : (Nat → Int32)} {c_isLeftLaid : Int32} {c_read : (Nat → Int32)} {c_state : Int32} {c_tape : (Nat → Int32)} {c_taped : Int32} {c_size : Int32} {c_from : Int32} {c_next : Int32} {c_token : Int32} {c_value : Int32} {c_fault : Int32} {c_number : Int32} {c_fives : (Nat → Int32)} {c_isLeft : (Nat → Int32)} {c_wentTimes : Int32} {c_goes : (Nat → Int32)} {c_game : (Nat → Int32)} {c_rows : Int32} {c_columns : Int32} {c_isFound : Int32} {c_bestValue : Int64} {c_bestBelow : Int64} {c_bestShare : (Nat → Int64)} {c_share : (Nat → Int64)} {c_matrix : (Nat → Int64)} {c_system : (Nat → Int64)} {c_shares : (Nat → Int32)} {c_allShares : Int32} {v : Int32 × Int32 × (Nat → Int32) × (Nat → Int32) × (Nat → Int32) × (Nat → Int32) × (Nat → Int32) × (Nat → Int32) × (Nat → Int32) × (Nat → Int32) × Int32} (hX : xIs (j10_forces) X ((some .int)) (some (.int v.1)) (hM v.2.1 v.2.2.1 c_read v.2.2.2.1 v.2.2.2.2.1 v.2.2.2.2.2.1 v.2.2.2.2.2.2.1 v.2.2.2.2.2.2.2.1 v.2.2.2.2.2.2.2.2.1 v.2.2.2.2.2.2.2.2.2.1 c_state c_tape c_taped c_size c_from c_next c_token c_value c_fault c_number c_fives c_isLeft c_wentTimes c_goes v.2.2.2.2.2.2.2.2.2.2 c_game c_rows c_columns c_isFound c_bestValue c_bestBelow c_bestShare c_share c_matrix c_system c_shares c_allShares)) (hf : F10_forces z x1 x2 c_thrown c_told c_many c_eights c_gains c_notes c_seen c_turns c_drawn c_isLeftLaid = some v) : xV (j10_forces) X 0 0 (hM c_thrown c_told c_read c_many c_eights c_gains c_notes c_seen c_turns c_drawn c_state c_tape c_taped c_size c_from c_next c_token c_value c_fault c_number c_fives c_isLeft c_wentTimes c_goes c_isLeftLaid c_game c_rows c_columns c_isFound c_bestValue c_bestBelow c_bestShare c_share c_matrix c_system c_shares c_allShares) 0 [(0, .ref 0), (1, .int x1), (2, .int x2)] [] := by
  unfold F10_forces at hf
  refine xV_aload_n 1 rfl dX10_forces_0 rfl 0 rfl ?_
  refine xV_iconst 2 rfl dX10_forces_1 xk_i0 ?_
  refine xV_put (h' := (hM (0 : Int32) c_told c_read c_many c_eights c_gains c_notes c_seen c_turns c_drawn c_state c_tape c_taped c_size c_from c_next c_token c_value c_fault c_number c_fives c_isLeft c_wentTimes c_goes c_isLeftLaid c_game c_rows c_columns c_isFound c_bestValue c_bestBelow c_bestShare c_share c_matrix c_system c_shares c_allShares)) 5 rfl dX10_forces_2 f10_1 rfl nf10_0 (fun _ => rfl) (fun _ => rfl) (Nat.le_of_ble_eq_true rfl) rfl ?_
  refine xV_iload_n 6 rfl dX10_forces_5 rfl 1 rfl ?_
  obtain ⟨v6, hv6, hf⟩ := xb_s hf
  refine xV_st0 (rest := []) 9 rfl dX10_forces_6 rfl (C10_isSide X.1.2.1 hv6) m10_isSide s10_isSide k10_105 rfl (Nat.le_of_ble_eq_true rfl) (Nat.le_of_ble_eq_true rfl) (Nat.le_of_ble_eq_true rfl) ⟨Nat.le_refl _, Nat.le_refl _⟩ ?_
  show xV (j10_forces) X 0 0 (hM (0 : Int32) c_told c_read c_many c_eights c_gains c_notes c_seen c_turns c_drawn c_state c_tape c_taped c_size c_from c_next c_token c_value c_fault c_number c_fives c_isLeft c_wentTimes c_goes c_isLeftLaid c_game c_rows c_columns c_isFound c_bestValue c_bestBelow c_bestShare c_share c_matrix c_system c_shares c_allShares) 9 [(0, .ref 0), (1, .int x1), (2, .int x2)] [.int v6]
  refine xV_if_eq (tgt := 22) 12 rfl dX10_forces_9 (by decide) (fun h9 => ?_) (fun h9 => ?_)
  · have hf := xif_t hf h9
    refine xV_iconst 23 rfl dX10_forces_22 xk_im1 ?_
    obtain rfl := Option.some.inj hf
    exact xV_iret hX dX10_forces_23 rfl (Nat.zero_le _) (Nat.zero_le _)
  · have hf := xif_f hf h9
    refine xV_iload_n 13 rfl dX10_forces_12 rfl 2 rfl ?_
    refine xV_iconst 14 rfl dX10_forces_13 xk_i0 ?_
    refine xV_bipush 16 rfl dX10_forces_14 xk_b7 ?_
    obtain ⟨v16, hv16, hf⟩ := xb_s hf
    refine xV_st0 (rest := []) 19 rfl dX10_forces_16 rfl (C10_within X.1.2.1 hv16) m10_within s10_within k10_7 rfl (Nat.le_of_ble_eq_true rfl) (Nat.le_of_ble_eq_true rfl) (Nat.le_of_ble_eq_true rfl) ⟨Nat.le_refl _, Nat.le_refl _⟩ ?_
    show xV (j10_forces) X 0 0 (hM (0 : Int32) c_told c_read c_many c_eights c_gains c_notes c_seen c_turns c_drawn c_state c_tape c_taped c_size c_from c_next c_token c_value c_fault c_number c_fives c_isLeft c_wentTimes c_goes c_isLeftLaid c_game c_rows c_columns c_isFound c_bestValue c_bestBelow c_bestShare c_share c_matrix c_system c_shares c_allShares) 19 [(0, .ref 0), (1, .int x1), (2, .int x2)] [.int v16]
    refine xV_if_ne (tgt := 24) 22 rfl dX10_forces_19 (by decide) (fun h19 => ?_) (fun h19 => ?_)
    · have hf := xif_f hf h19
      refine xV_aload_n 25 rfl dX10_forces_24 rfl 0 rfl ?_
      refine xV_get (v := .ref 1) 28 rfl dX10_forces_25 f10_17 rfl rfl ?_
      refine xV_iconst 29 rfl dX10_forces_28 xk_i5 ?_
      refine xV_iload_n 30 rfl dX10_forces_29 rfl 1 rfl ?_
      refine xV_iadd 31 rfl dX10_forces_30 ?_
      obtain ⟨hg31, hf⟩ := xg_s hf
      refine xV_iaload 32 rfl dX10_forces_31 rfl (xin_ok hg31) rfl ?_
      refine xV_istore_n (L' := [(3, .int (c_told (xn ((5 : Int32) + x1)))), (0, .ref 0), (1, .int x1), (2, .int x2)]) 33 rfl dX10_forces_32 rfl (xlt rfl) rfl ?_
      refine xV_aload_n 34 rfl dX10_forces_33 rfl 1 rfl ?_
      refine xV_get (v := .ref 1) 37 rfl dX10_forces_34 f10_17 rfl rfl ?_
      refine xV_iconst 38 rfl dX10_forces_37 xk_i5 ?_
      refine xV_iload_n 39 rfl dX10_forces_38 rfl 2 rfl ?_
      refine xV_iadd 40 rfl dX10_forces_39 ?_
      refine xV_iload_n 41 rfl dX10_forces_40 rfl 3 rfl ?_
      obtain ⟨hg41, hf⟩ := xg_s hf
      refine xV_iastore (h' := (hM (0 : Int32) (upd c_told (xn ((5 : Int32) + x1)) x2) c_read c_many c_eights c_gains c_notes c_seen c_turns c_drawn c_state c_tape c_taped c_size c_from c_next c_token c_value c_fault c_number c_fives c_isLeft c_wentTimes c_goes c_isLeftLaid c_game c_rows c_columns c_isFound c_bestValue c_bestBelow c_bestShare c_share c_matrix c_system c_shares c_allShares)) 42 rfl dX10_forces_41 rfl (xin_ok hg41) rfl rfl ?_
      refine xV_aload_n 43 rfl dX10_forces_42 rfl 1 rfl ?_
      obtain ⟨v43, hv43, hf⟩ := xb_s hf
      refine xV_same (rest := []) 46 rfl dX10_forces_43 rfl (C10_begins X.1.2.1 hv43) m10_begins v10_begins k10_207 rfl rfl rfl rfl rfl (Nat.le_of_ble_eq_true rfl) (Nat.le_of_ble_eq_true rfl) (Nat.le_of_ble_eq_true rfl) ⟨Nat.le_refl _, Nat.le_refl _⟩ ?_
      show xV (j10_forces) X 0 0 (hM (0 : Int32) v43.1 c_read v43.2.1 v43.2.2.1 v43.2.2.2.1 v43.2.2.2.2.1 v43.2.2.2.2.2.1 v43.2.2.2.2.2.2.1 v43.2.2.2.2.2.2.2.1 c_state c_tape c_taped c_size c_from c_next c_token c_value c_fault c_number c_fives c_isLeft c_wentTimes c_goes v43.2.2.2.2.2.2.2.2 c_game c_rows c_columns c_isFound c_bestValue c_bestBelow c_bestShare c_share c_matrix c_system c_shares c_allShares) 46 [(3, .int (c_told (xn ((5 : Int32) + x1)))), (0, .ref 0), (1, .int x1), (2, .int x2)] []
      refine xV_iload_n 47 rfl dX10_forces_46 rfl 0 rfl ?_
      obtain rfl := Option.some.inj hf
      exact xV_iret hX dX10_forces_47 rfl (Nat.zero_le _) (Nat.zero_le _)
    · have hf := xif_t hf h19
      refine xV_iconst 23 rfl dX10_forces_22 xk_im1 ?_
      obtain rfl := Option.some.inj hf
      exact xV_iret hX dX10_forces_23 rfl (Nat.zero_le _) (Nat.zero_le _)
theorem C10_forces (l : Launch) {z : Nat} {x1 : Int32} {x2 : Int32} {c_thrown : Int32} {c_told : (Nat → Int32)} {c_many : (Nat → Int32)} {c_eights : (Nat → Int32)} {c_gains : (Nat → Int32)} {c_notes : (Nat → Int32)} {c_seen : (Nat → Int32)} {c_turns : (Nat → Int32)} {c_drawn : (Nat → Int32)} {c_isLeftLaid : Int32} {c_read : (Nat → Int32)} {c_state : Int32} {c_tape : (Nat → Int32)} {c_taped : Int32} {c_size : Int32} {c_from : Int32} {c_next : Int32} {c_token : Int32} {c_value : Int32} {c_fault : Int32} {c_number : Int32} {c_fives : (Nat → Int32)} {c_isLeft : (Nat → Int32)} {c_wentTimes : Int32} {c_goes : (Nat → Int32)} {c_game : (Nat → Int32)} {c_rows : Int32} {c_columns : Int32} {c_isFound : Int32} {c_bestValue : Int64} {c_bestBelow : Int64} {c_bestShare : (Nat → Int64)} {c_share : (Nat → Int64)} {c_matrix : (Nat → Int64)} {c_system : (Nat → Int64)} {c_shares : (Nat → Int32)} {c_allShares : Int32} {v : Int32 × Int32 × (Nat → Int32) × (Nat → Int32) × (Nat → Int32) × (Nat → Int32) × (Nat → Int32) × (Nat → Int32) × (Nat → Int32) × (Nat → Int32) × Int32} (hf : F10_forces z x1 x2 c_thrown c_told c_many c_eights c_gains c_notes c_seen c_turns c_drawn c_isLeftLaid = some v) : xCt l yX10_forces ((some .int)) j10_forces [.ref 0, .int x1, .int x2] (hM c_thrown c_told c_read c_many c_eights c_gains c_notes c_seen c_turns c_drawn c_state c_tape c_taped c_size c_from c_next c_token c_value c_fault c_number c_fives c_isLeft c_wentTimes c_goes c_isLeftLaid c_game c_rows c_columns c_isFound c_bestValue c_bestBelow c_bestShare c_share c_matrix c_system c_shares c_allShares) (some (.int v.1)) (hM v.2.1 v.2.2.1 c_read v.2.2.2.1 v.2.2.2.2.1 v.2.2.2.2.2.1 v.2.2.2.2.2.2.1 v.2.2.2.2.2.2.2.1 v.2.2.2.2.2.2.2.2.1 v.2.2.2.2.2.2.2.2.2.1 c_state c_tape c_taped c_size c_from c_next c_token c_value c_fault c_number c_fives c_isLeft c_wentTimes c_goes v.2.2.2.2.2.2.2.2.2.2 c_game c_rows c_columns c_isFound c_bestValue c_bestBelow c_bestShare c_share c_matrix c_system c_shares c_allShares) := xCt_of (by decide) rfl (Nat.le_of_ble_eq_true rfl) (fun _ hX => T10_forces hX hf)
theorem m10_forces : xMd yX10_forces RX10 ((some .int)) j10_forces 2 := ⟨List.mem_of_getElem? (i := 541) (by decide +kernel), List.mem_of_getElem? (i := 5) (by decide +kernel), rfl, by decide +kernel⟩
theorem v10_forces : xMv yX10_forces RX10 := ⟨List.mem_of_getElem? (i := 539) (by decide +kernel), List.mem_of_getElem? (i := 540) (by decide +kernel)⟩
theorem dX10_ties_0 : decode cX10_ties 0 = .ok (.aload_n 0, 1) := by decide +kernel
theorem dX10_ties_1 : decode cX10_ties 1 = .ok (.iconst 0, 1) := by decide +kernel
theorem dX10_ties_2 : decode cX10_ties 2 = .ok (.putfield 1, 3) := by decide +kernel
theorem dX10_ties_5 : decode cX10_ties 5 = .ok (.iload_n 1, 1) := by decide +kernel
theorem dX10_ties_6 : decode cX10_ties 6 = .ok (.iconst 0, 1) := by decide +kernel
theorem dX10_ties_7 : decode cX10_ties 7 = .ok (.iconst 2, 1) := by decide +kernel
theorem dX10_ties_8 : decode cX10_ties 8 = .ok (.invokestatic 7, 3) := by decide +kernel
theorem dX10_ties_11 : decode cX10_ties 11 = .ok (.ifCond .ne 5, 3) := by decide +kernel
theorem dX10_ties_14 : decode cX10_ties 14 = .ok (.iconst (-1), 1) := by decide +kernel
theorem dX10_ties_15 : decode cX10_ties 15 = .ok (.ireturn, 1) := by decide +kernel
theorem dX10_ties_16 : decode cX10_ties 16 = .ok (.aload_n 0, 1) := by decide +kernel
theorem dX10_ties_17 : decode cX10_ties 17 = .ok (.getfield 17, 3) := by decide +kernel
theorem dX10_ties_20 : decode cX10_ties 20 = .ok (.bipush 7, 2) := by decide +kernel
theorem dX10_ties_22 : decode cX10_ties 22 = .ok (.iaload, 1) := by decide +kernel
theorem dX10_ties_23 : decode cX10_ties 23 = .ok (.istore_n 2, 1) := by decide +kernel
theorem dX10_ties_24 : decode cX10_ties 24 = .ok (.aload_n 0, 1) := by decide +kernel
theorem dX10_ties_25 : decode cX10_ties 25 = .ok (.getfield 17, 3) := by decide +kernel
theorem dX10_ties_28 : decode cX10_ties 28 = .ok (.bipush 7, 2) := by decide +kernel
theorem dX10_ties_30 : decode cX10_ties 30 = .ok (.iload_n 1, 1) := by decide +kernel
theorem dX10_ties_31 : decode cX10_ties 31 = .ok (.iastore, 1) := by decide +kernel
theorem dX10_ties_32 : decode cX10_ties 32 = .ok (.aload_n 0, 1) := by decide +kernel
theorem dX10_ties_33 : decode cX10_ties 33 = .ok (.invokevirtual 79, 3) := by decide +kernel
theorem dX10_ties_36 : decode cX10_ties 36 = .ok (.iload_n 2, 1) := by decide +kernel
theorem dX10_ties_37 : decode cX10_ties 37 = .ok (.ireturn, 1) := by decide +kernel
abbrev j10_ties : xJ := (cX10_ties, 3, RX10, 10, 0, 0)
def F10_ties (z : Nat) (x1 : Int32) (c_thrown : Int32) (c_told : (Nat → Int32)) (c_many : (Nat → Int32)) (c_eights : (Nat → Int32)) (c_gains : (Nat → Int32)) (c_isLeftLaid : Int32) : Option (Int32 × Int32 × (Nat → Int32) × (Nat → Int32) × (Nat → Int32) × (Nat → Int32) × Int32) :=
  (F10_within x1 (0 : Int32) (2 : Int32)).bind (fun v8 => if v8 = 0 then (some ((-1 : Int32), (0 : Int32), c_told, c_many, c_eights, c_gains, c_isLeftLaid)) else ((F10_lays z (upd c_told 7 x1) c_many c_eights c_gains c_isLeftLaid).bind (fun v33 => some ((c_told 7), (0 : Int32), (upd c_told 7 x1), v33.1, v33.2.1, v33.2.2.1, v33.2.2.2))))
theorem T10_ties {X : xX} {z : Nat} {x1 : Int32} {c_thrown : Int32} {c_told : (Nat → Int32)} {c_many : (Nat → Int32)} {c_eights : (Nat → Int32)} {c_gains : (Nat → Int32)} {c_isLeftLaid : Int32} {c_read : (Nat → Int32)} {c_notes : (Nat → Int32)} {c_seen : (Nat → Int32)} {c_turns : (Nat → Int32)} {c_drawn : (Nat → Int32)} {c_state : Int32} {c_tape : (Nat → Int32)} {c_taped : Int32} {c_size : Int32} {c_from : Int32} {c_next : Int32} {c_token : Int32} {c_value : Int32} {c_fault : Int32} {c_number : Int32} {c_fives : (Nat → Int32)} {c_isLeft : (Nat → Int32)} {c_wentTimes : Int32} {c_goes : (Nat → Int32)} {c_game : (Nat → Int32)} {c_rows : Int32} {c_columns : Int32} {c_isFound : Int32} {c_bestValue : Int64} {c_bestBelow : Int64} {c_bestShare : (Nat → Int64)} {c_share : (Nat → Int64)} {c_matrix : (Nat → Int64)} {c_system : (Nat → Int64)} {c_shares : (Nat → Int32)} {c_allShares : Int32} {v : Int32 × Int32 × (Nat → Int32) × (Nat → Int32) × (Nat → Int32) × (Nat → Int32) × Int32} (hX : xIs (j10_ties) X ((some .int)) (some (.int v.1)) (hM v.2.1 v.2.2.1 c_read v.2.2.2.1 v.2.2.2.2.1 v.2.2.2.2.2.1 c_notes c_seen c_turns c_drawn c_state c_tape c_taped c_size c_from c_next c_token c_value c_fault c_number c_fives c_isLeft c_wentTimes c_goes v.2.2.2.2.2.2 c_game c_rows c_columns c_isFound c_bestValue c_bestBelow c_bestShare c_share c_matrix c_system c_shares c_allShares)) (hf : F10_ties z x1 c_thrown c_told c_many c_eights c_gains c_isLeftLaid = some v) : xV (j10_ties) X 0 0 (hM c_thrown c_told c_read c_many c_eights c_gains c_notes c_seen c_turns c_drawn c_state c_tape c_taped c_size c_from c_next c_token c_value c_fault c_number c_fives c_isLeft c_wentTimes c_goes c_isLeftLaid c_game c_rows c_columns c_isFound c_bestValue c_bestBelow c_bestShare c_share c_matrix c_system c_shares c_allShares) 0 [(0, .ref 0), (1, .int x1)] [] := by
  unfold F10_ties at hf
  refine xV_aload_n 1 rfl dX10_ties_0 rfl 0 rfl ?_
  refine xV_iconst 2 rfl dX10_ties_1 xk_i0 ?_
  refine xV_put (h' := (hM (0 : Int32) c_told c_read c_many c_eights c_gains c_notes c_seen c_turns c_drawn c_state c_tape c_taped c_size c_from c_next c_token c_value c_fault c_number c_fives c_isLeft c_wentTimes c_goes c_isLeftLaid c_game c_rows c_columns c_isFound c_bestValue c_bestBelow c_bestShare c_share c_matrix c_system c_shares c_allShares)) 5 rfl dX10_ties_2 f10_1 rfl nf10_0 (fun _ => rfl) (fun _ => rfl) (Nat.le_of_ble_eq_true rfl) rfl ?_
  refine xV_iload_n 6 rfl dX10_ties_5 rfl 1 rfl ?_
  refine xV_iconst 7 rfl dX10_ties_6 xk_i0 ?_
  refine xV_iconst 8 rfl dX10_ties_7 xk_i2 ?_
  obtain ⟨v8, hv8, hf⟩ := xb_s hf
  refine xV_st0 (rest := []) 11 rfl dX10_ties_8 rfl (C10_within X.1.2.1 hv8) m10_within s10_within k10_7 rfl (Nat.le_of_ble_eq_true rfl) (Nat.le_of_ble_eq_true rfl) (Nat.le_of_ble_eq_true rfl) ⟨Nat.le_refl _, Nat.le_refl _⟩ ?_
  show xV (j10_ties) X 0 0 (hM (0 : Int32) c_told c_read c_many c_eights c_gains c_notes c_seen c_turns c_drawn c_state c_tape c_taped c_size c_from c_next c_token c_value c_fault c_number c_fives c_isLeft c_wentTimes c_goes c_isLeftLaid c_game c_rows c_columns c_isFound c_bestValue c_bestBelow c_bestShare c_share c_matrix c_system c_shares c_allShares) 11 [(0, .ref 0), (1, .int x1)] [.int v8]
  refine xV_if_ne (tgt := 16) 14 rfl dX10_ties_11 (by decide) (fun h11 => ?_) (fun h11 => ?_)
  · have hf := xif_f hf h11
    refine xV_aload_n 17 rfl dX10_ties_16 rfl 0 rfl ?_
    refine xV_get (v := .ref 1) 20 rfl dX10_ties_17 f10_17 rfl rfl ?_
    refine xV_bipush 22 rfl dX10_ties_20 xk_b7 ?_
    refine xV_iaload 23 rfl dX10_ties_22 rfl xk_in7_56 xk_j7 ?_
    refine xV_istore_n (L' := [(2, .int (c_told 7)), (0, .ref 0), (1, .int x1)]) 24 rfl dX10_ties_23 rfl (xlt rfl) rfl ?_
    refine xV_aload_n 25 rfl dX10_ties_24 rfl 1 rfl ?_
    refine xV_get (v := .ref 1) 28 rfl dX10_ties_25 f10_17 rfl rfl ?_
    refine xV_bipush 30 rfl dX10_ties_28 xk_b7 ?_
    refine xV_iload_n 31 rfl dX10_ties_30 rfl 2 rfl ?_
    refine xV_iastore (h' := (hM (0 : Int32) (upd c_told 7 x1) c_read c_many c_eights c_gains c_notes c_seen c_turns c_drawn c_state c_tape c_taped c_size c_from c_next c_token c_value c_fault c_number c_fives c_isLeft c_wentTimes c_goes c_isLeftLaid c_game c_rows c_columns c_isFound c_bestValue c_bestBelow c_bestShare c_share c_matrix c_system c_shares c_allShares)) 32 rfl dX10_ties_31 rfl xk_in7_56 xk_j7 rfl ?_
    refine xV_aload_n 33 rfl dX10_ties_32 rfl 1 rfl ?_
    obtain ⟨v33, hv33, hf⟩ := xb_s hf
    refine xV_same (rest := []) 36 rfl dX10_ties_33 rfl (C10_lays X.1.2.1 hv33) m10_lays v10_lays k10_79 rfl rfl rfl rfl rfl (Nat.le_of_ble_eq_true rfl) (Nat.le_of_ble_eq_true rfl) (Nat.le_of_ble_eq_true rfl) ⟨Nat.le_refl _, Nat.le_refl _⟩ ?_
    show xV (j10_ties) X 0 0 (hM (0 : Int32) (upd c_told 7 x1) c_read v33.1 v33.2.1 v33.2.2.1 c_notes c_seen c_turns c_drawn c_state c_tape c_taped c_size c_from c_next c_token c_value c_fault c_number c_fives c_isLeft c_wentTimes c_goes v33.2.2.2 c_game c_rows c_columns c_isFound c_bestValue c_bestBelow c_bestShare c_share c_matrix c_system c_shares c_allShares) 36 [(2, .int (c_told 7)), (0, .ref 0), (1, .int x1)] []
    refine xV_iload_n 37 rfl dX10_ties_36 rfl 0 rfl ?_
    obtain rfl := Option.some.inj hf
    exact xV_iret hX dX10_ties_37 rfl (Nat.zero_le _) (Nat.zero_le _)
  · have hf := xif_t hf h11
    refine xV_iconst 15 rfl dX10_ties_14 xk_im1 ?_
    obtain rfl := Option.some.inj hf
    exact xV_iret hX dX10_ties_15 rfl (Nat.zero_le _) (Nat.zero_le _)
theorem C10_ties (l : Launch) {z : Nat} {x1 : Int32} {c_thrown : Int32} {c_told : (Nat → Int32)} {c_many : (Nat → Int32)} {c_eights : (Nat → Int32)} {c_gains : (Nat → Int32)} {c_isLeftLaid : Int32} {c_read : (Nat → Int32)} {c_notes : (Nat → Int32)} {c_seen : (Nat → Int32)} {c_turns : (Nat → Int32)} {c_drawn : (Nat → Int32)} {c_state : Int32} {c_tape : (Nat → Int32)} {c_taped : Int32} {c_size : Int32} {c_from : Int32} {c_next : Int32} {c_token : Int32} {c_value : Int32} {c_fault : Int32} {c_number : Int32} {c_fives : (Nat → Int32)} {c_isLeft : (Nat → Int32)} {c_wentTimes : Int32} {c_goes : (Nat → Int32)} {c_game : (Nat → Int32)} {c_rows : Int32} {c_columns : Int32} {c_isFound : Int32} {c_bestValue : Int64} {c_bestBelow : Int64} {c_bestShare : (Nat → Int64)} {c_share : (Nat → Int64)} {c_matrix : (Nat → Int64)} {c_system : (Nat → Int64)} {c_shares : (Nat → Int32)} {c_allShares : Int32} {v : Int32 × Int32 × (Nat → Int32) × (Nat → Int32) × (Nat → Int32) × (Nat → Int32) × Int32} (hf : F10_ties z x1 c_thrown c_told c_many c_eights c_gains c_isLeftLaid = some v) : xCt l yX10_ties ((some .int)) j10_ties [.ref 0, .int x1] (hM c_thrown c_told c_read c_many c_eights c_gains c_notes c_seen c_turns c_drawn c_state c_tape c_taped c_size c_from c_next c_token c_value c_fault c_number c_fives c_isLeft c_wentTimes c_goes c_isLeftLaid c_game c_rows c_columns c_isFound c_bestValue c_bestBelow c_bestShare c_share c_matrix c_system c_shares c_allShares) (some (.int v.1)) (hM v.2.1 v.2.2.1 c_read v.2.2.2.1 v.2.2.2.2.1 v.2.2.2.2.2.1 c_notes c_seen c_turns c_drawn c_state c_tape c_taped c_size c_from c_next c_token c_value c_fault c_number c_fives c_isLeft c_wentTimes c_goes v.2.2.2.2.2.2 c_game c_rows c_columns c_isFound c_bestValue c_bestBelow c_bestShare c_share c_matrix c_system c_shares c_allShares) := xCt_of (by decide) rfl (Nat.le_of_ble_eq_true rfl) (fun _ hX => T10_ties hX hf)
theorem m10_ties : xMd yX10_ties RX10 ((some .int)) j10_ties 1 := ⟨List.mem_of_getElem? (i := 553) (by decide +kernel), List.mem_of_getElem? (i := 5) (by decide +kernel), rfl, by decide +kernel⟩
theorem v10_ties : xMv yX10_ties RX10 := ⟨List.mem_of_getElem? (i := 551) (by decide +kernel), List.mem_of_getElem? (i := 552) (by decide +kernel)⟩
theorem dX10_splits_0 : decode cX10_splits 0 = .ok (.aload_n 0, 1) := by decide +kernel
theorem dX10_splits_1 : decode cX10_splits 1 = .ok (.iconst 0, 1) := by decide +kernel
theorem dX10_splits_2 : decode cX10_splits 2 = .ok (.putfield 1, 3) := by decide +kernel
theorem dX10_splits_5 : decode cX10_splits 5 = .ok (.iload_n 1, 1) := by decide +kernel
theorem dX10_splits_6 : decode cX10_splits 6 = .ok (.invokestatic 105, 3) := by decide +kernel
theorem dX10_splits_9 : decode cX10_splits 9 = .ok (.ifCond .eq 12, 3) := by decide +kernel
theorem dX10_splits_12 : decode cX10_splits 12 = .ok (.aload_n 0, 1) := by decide +kernel
theorem dX10_splits_13 : decode cX10_splits 13 = .ok (.getfield 24, 3) := by decide +kernel
theorem dX10_splits_16 : decode cX10_splits 16 = .ok (.iload_n 1, 1) := by decide +kernel
theorem dX10_splits_17 : decode cX10_splits 17 = .ok (.iaload, 1) := by decide +kernel
theorem dX10_splits_18 : decode cX10_splits 18 = .ok (.goto 4, 3) := by decide +kernel
theorem dX10_splits_21 : decode cX10_splits 21 = .ok (.iconst (-1), 1) := by decide +kernel
theorem dX10_splits_22 : decode cX10_splits 22 = .ok (.ireturn, 1) := by decide +kernel
abbrev j10_splits : xJ := (cX10_splits, 2, RX10, 3, 0, 0)
def F10_splits (x1 : Int32) (c_thrown : Int32) (c_many : (Nat → Int32)) : Option (Int32 × Int32) :=
  (F10_isSide x1).bind (fun v6 => if v6 = 0 then (some ((-1 : Int32), (0 : Int32))) else (xg (xin x1 2) (some ((c_many (xn x1)), (0 : Int32)))))
theorem T10_splits {X : xX} {x1 : Int32} {c_thrown : Int32} {c_many : (Nat → Int32)} {c_told : (Nat → Int32)} {c_read : (Nat → Int32)} {c_eights : (Nat → Int32)} {c_gains : (Nat → Int32)} {c_notes : (Nat → Int32)} {c_seen : (Nat → Int32)} {c_turns : (Nat → Int32)} {c_drawn : (Nat → Int32)} {c_state : Int32} {c_tape : (Nat → Int32)} {c_taped : Int32} {c_size : Int32} {c_from : Int32} {c_next : Int32} {c_token : Int32} {c_value : Int32} {c_fault : Int32} {c_number : Int32} {c_fives : (Nat → Int32)} {c_isLeft : (Nat → Int32)} {c_wentTimes : Int32} {c_goes : (Nat → Int32)} {c_isLeftLaid : Int32} {c_game : (Nat → Int32)} {c_rows : Int32} {c_columns : Int32} {c_isFound : Int32} {c_bestValue : Int64} {c_bestBelow : Int64} {c_bestShare : (Nat → Int64)} {c_share : (Nat → Int64)} {c_matrix : (Nat → Int64)} {c_system : (Nat → Int64)} {c_shares : (Nat → Int32)} {c_allShares : Int32} {v : Int32 × Int32} (hX : xIs (j10_splits) X ((some .int)) (some (.int v.1)) (hM v.2 c_told c_read c_many c_eights c_gains c_notes c_seen c_turns c_drawn c_state c_tape c_taped c_size c_from c_next c_token c_value c_fault c_number c_fives c_isLeft c_wentTimes c_goes c_isLeftLaid c_game c_rows c_columns c_isFound c_bestValue c_bestBelow c_bestShare c_share c_matrix c_system c_shares c_allShares)) (hf : F10_splits x1 c_thrown c_many = some v) : xV (j10_splits) X 0 0 (hM c_thrown c_told c_read c_many c_eights c_gains c_notes c_seen c_turns c_drawn c_state c_tape c_taped c_size c_from c_next c_token c_value c_fault c_number c_fives c_isLeft c_wentTimes c_goes c_isLeftLaid c_game c_rows c_columns c_isFound c_bestValue c_bestBelow c_bestShare c_share c_matrix c_system c_shares c_allShares) 0 [(0, .ref 0), (1, .int x1)] [] := by
  unfold F10_splits at hf
  refine xV_aload_n 1 rfl dX10_splits_0 rfl 0 rfl ?_
  refine xV_iconst 2 rfl dX10_splits_1 xk_i0 ?_
  refine xV_put (h' := (hM (0 : Int32) c_told c_read c_many c_eights c_gains c_notes c_seen c_turns c_drawn c_state c_tape c_taped c_size c_from c_next c_token c_value c_fault c_number c_fives c_isLeft c_wentTimes c_goes c_isLeftLaid c_game c_rows c_columns c_isFound c_bestValue c_bestBelow c_bestShare c_share c_matrix c_system c_shares c_allShares)) 5 rfl dX10_splits_2 f10_1 rfl nf10_0 (fun _ => rfl) (fun _ => rfl) (Nat.le_of_ble_eq_true rfl) rfl ?_
  refine xV_iload_n 6 rfl dX10_splits_5 rfl 1 rfl ?_
  obtain ⟨v6, hv6, hf⟩ := xb_s hf
  refine xV_st0 (rest := []) 9 rfl dX10_splits_6 rfl (C10_isSide X.1.2.1 hv6) m10_isSide s10_isSide k10_105 rfl (Nat.le_of_ble_eq_true rfl) (Nat.le_of_ble_eq_true rfl) (Nat.le_of_ble_eq_true rfl) ⟨Nat.le_refl _, Nat.le_refl _⟩ ?_
  show xV (j10_splits) X 0 0 (hM (0 : Int32) c_told c_read c_many c_eights c_gains c_notes c_seen c_turns c_drawn c_state c_tape c_taped c_size c_from c_next c_token c_value c_fault c_number c_fives c_isLeft c_wentTimes c_goes c_isLeftLaid c_game c_rows c_columns c_isFound c_bestValue c_bestBelow c_bestShare c_share c_matrix c_system c_shares c_allShares) 9 [(0, .ref 0), (1, .int x1)] [.int v6]
  refine xV_if_eq (tgt := 21) 12 rfl dX10_splits_9 (by decide) (fun h9 => ?_) (fun h9 => ?_)
  · have hf := xif_t hf h9
    refine xV_iconst 22 rfl dX10_splits_21 xk_im1 ?_
    obtain rfl := Option.some.inj hf
    exact xV_iret hX dX10_splits_22 rfl (Nat.zero_le _) (Nat.zero_le _)
  · have hf := xif_f hf h9
    refine xV_aload_n 13 rfl dX10_splits_12 rfl 0 rfl ?_
    refine xV_get (v := .ref 3) 16 rfl dX10_splits_13 f10_24 rfl rfl ?_
    refine xV_iload_n 17 rfl dX10_splits_16 rfl 1 rfl ?_
    obtain ⟨hg17, hf⟩ := xg_s hf
    refine xV_iaload 18 rfl dX10_splits_17 rfl (xin_ok hg17) rfl ?_
    refine xV_goto (tgt := 22) dX10_splits_18 (by decide) ?_
    obtain rfl := Option.some.inj hf
    exact xV_iret hX dX10_splits_22 rfl (Nat.zero_le _) (Nat.zero_le _)
theorem C10_splits (l : Launch) {x1 : Int32} {c_thrown : Int32} {c_many : (Nat → Int32)} {c_told : (Nat → Int32)} {c_read : (Nat → Int32)} {c_eights : (Nat → Int32)} {c_gains : (Nat → Int32)} {c_notes : (Nat → Int32)} {c_seen : (Nat → Int32)} {c_turns : (Nat → Int32)} {c_drawn : (Nat → Int32)} {c_state : Int32} {c_tape : (Nat → Int32)} {c_taped : Int32} {c_size : Int32} {c_from : Int32} {c_next : Int32} {c_token : Int32} {c_value : Int32} {c_fault : Int32} {c_number : Int32} {c_fives : (Nat → Int32)} {c_isLeft : (Nat → Int32)} {c_wentTimes : Int32} {c_goes : (Nat → Int32)} {c_isLeftLaid : Int32} {c_game : (Nat → Int32)} {c_rows : Int32} {c_columns : Int32} {c_isFound : Int32} {c_bestValue : Int64} {c_bestBelow : Int64} {c_bestShare : (Nat → Int64)} {c_share : (Nat → Int64)} {c_matrix : (Nat → Int64)} {c_system : (Nat → Int64)} {c_shares : (Nat → Int32)} {c_allShares : Int32} {v : Int32 × Int32} (hf : F10_splits x1 c_thrown c_many = some v) : xCt l yX10_splits ((some .int)) j10_splits [.ref 0, .int x1] (hM c_thrown c_told c_read c_many c_eights c_gains c_notes c_seen c_turns c_drawn c_state c_tape c_taped c_size c_from c_next c_token c_value c_fault c_number c_fives c_isLeft c_wentTimes c_goes c_isLeftLaid c_game c_rows c_columns c_isFound c_bestValue c_bestBelow c_bestShare c_share c_matrix c_system c_shares c_allShares) (some (.int v.1)) (hM v.2 c_told c_read c_many c_eights c_gains c_notes c_seen c_turns c_drawn c_state c_tape c_taped c_size c_from c_next c_token c_value c_fault c_number c_fives c_isLeft c_wentTimes c_goes c_isLeftLaid c_game c_rows c_columns c_isFound c_bestValue c_bestBelow c_bestShare c_share c_matrix c_system c_shares c_allShares) := xCt_of (by decide) rfl (Nat.le_of_ble_eq_true rfl) (fun _ hX => T10_splits hX hf)
theorem m10_splits : xMd yX10_splits RX10 ((some .int)) j10_splits 1 := ⟨List.mem_of_getElem? (i := 562) (by decide +kernel), List.mem_of_getElem? (i := 5) (by decide +kernel), rfl, by decide +kernel⟩
theorem v10_splits : xMv yX10_splits RX10 := ⟨List.mem_of_getElem? (i := 560) (by decide +kernel), List.mem_of_getElem? (i := 561) (by decide +kernel)⟩
theorem k10_210 : Cond.methodLink RX10 210 yX10_isSplit ∈ wsL_law0 := List.mem_of_getElem? (i := 583) (by decide +kernel)
theorem dX10_split_0 : decode cX10_split 0 = .ok (.aload_n 0, 1) := by decide +kernel
theorem dX10_split_1 : decode cX10_split 1 = .ok (.aload_n 0, 1) := by decide +kernel
theorem dX10_split_2 : decode cX10_split 2 = .ok (.iload_n 1, 1) := by decide +kernel
theorem dX10_split_3 : decode cX10_split 3 = .ok (.iload_n 2, 1) := by decide +kernel
theorem dX10_split_4 : decode cX10_split 4 = .ok (.invokevirtual 210, 3) := by decide +kernel
theorem dX10_split_7 : decode cX10_split 7 = .ok (.ifCond .eq 7, 3) := by decide +kernel
theorem dX10_split_10 : decode cX10_split 10 = .ok (.iconst 0, 1) := by decide +kernel
theorem dX10_split_11 : decode cX10_split 11 = .ok (.goto 4, 3) := by decide +kernel
theorem dX10_split_14 : decode cX10_split 14 = .ok (.iconst 1, 1) := by decide +kernel
theorem dX10_split_15 : decode cX10_split 15 = .ok (.putfield 1, 3) := by decide +kernel
theorem dX10_split_18 : decode cX10_split 18 = .ok (.aload_n 0, 1) := by decide +kernel
theorem dX10_split_19 : decode cX10_split 19 = .ok (.getfield 1, 3) := by decide +kernel
theorem dX10_split_22 : decode cX10_split 22 = .ok (.ifCond .le 7, 3) := by decide +kernel
theorem dX10_split_25 : decode cX10_split 25 = .ok (.iconst 0, 1) := by decide +kernel
theorem dX10_split_26 : decode cX10_split 26 = .ok (.goto 9, 3) := by decide +kernel
theorem dX10_split_29 : decode cX10_split 29 = .ok (.aload_n 0, 1) := by decide +kernel
theorem dX10_split_30 : decode cX10_split 30 = .ok (.iload_n 1, 1) := by decide +kernel
theorem dX10_split_31 : decode cX10_split 31 = .ok (.iload_n 2, 1) := by decide +kernel
theorem dX10_split_32 : decode cX10_split 32 = .ok (.invokevirtual 86, 3) := by decide +kernel
theorem dX10_split_35 : decode cX10_split 35 = .ok (.ireturn, 1) := by decide +kernel
abbrev j10_split : xJ := (cX10_split, 3, RX10, 4, 0, 0)
def F10_split_b15  (x1 : Int32) (x2 : Int32) (s1 : Int32) (c_thrown : Int32) (c_many : (Nat → Int32)) (c_eights : (Nat → Int32)) : Option (Int32 × Int32) :=
  if s1 ≤ 0 then ((F10_eightsOf x1 x2 c_eights).bind (fun v32 => some (v32, s1))) else (some ((0 : Int32), s1))
theorem T10_split_b15 {X : xX} {c_told : (Nat → Int32)} {c_read : (Nat → Int32)} {c_gains : (Nat → Int32)} {c_notes : (Nat → Int32)} {c_seen : (Nat → Int32)} {c_turns : (Nat → Int32)} {c_drawn : (Nat → Int32)} {c_state : Int32} {c_tape : (Nat → Int32)} {c_taped : Int32} {c_size : Int32} {c_from : Int32} {c_next : Int32} {c_token : Int32} {c_value : Int32} {c_fault : Int32} {c_number : Int32} {c_fives : (Nat → Int32)} {c_isLeft : (Nat → Int32)} {c_wentTimes : Int32} {c_goes : (Nat → Int32)} {c_isLeftLaid : Int32} {c_game : (Nat → Int32)} {c_rows : Int32} {c_columns : Int32} {c_isFound : Int32} {c_bestValue : Int64} {c_bestBelow : Int64} {c_bestShare : (Nat → Int64)} {c_share : (Nat → Int64)} {c_matrix : (Nat → Int64)} {c_system : (Nat → Int64)} {c_shares : (Nat → Int32)} {c_allShares : Int32} {x1 : Int32} {x2 : Int32} {s1 : Int32} {c_thrown : Int32} {c_many : (Nat → Int32)} {c_eights : (Nat → Int32)} {v : Int32 × Int32} (hX : xIs (j10_split) X ((some .int)) (some (.int v.1)) (hM v.2 c_told c_read c_many c_eights c_gains c_notes c_seen c_turns c_drawn c_state c_tape c_taped c_size c_from c_next c_token c_value c_fault c_number c_fives c_isLeft c_wentTimes c_goes c_isLeftLaid c_game c_rows c_columns c_isFound c_bestValue c_bestBelow c_bestShare c_share c_matrix c_system c_shares c_allShares)) (hf : F10_split_b15 x1 x2 s1 c_thrown c_many c_eights = some v) : xV (j10_split) X 0 0 (hM c_thrown c_told c_read c_many c_eights c_gains c_notes c_seen c_turns c_drawn c_state c_tape c_taped c_size c_from c_next c_token c_value c_fault c_number c_fives c_isLeft c_wentTimes c_goes c_isLeftLaid c_game c_rows c_columns c_isFound c_bestValue c_bestBelow c_bestShare c_share c_matrix c_system c_shares c_allShares) 15 [(0, .ref 0), (1, .int x1), (2, .int x2)] [.int s1, .ref 0] := by
  unfold F10_split_b15 at hf
  refine xV_put (h' := (hM s1 c_told c_read c_many c_eights c_gains c_notes c_seen c_turns c_drawn c_state c_tape c_taped c_size c_from c_next c_token c_value c_fault c_number c_fives c_isLeft c_wentTimes c_goes c_isLeftLaid c_game c_rows c_columns c_isFound c_bestValue c_bestBelow c_bestShare c_share c_matrix c_system c_shares c_allShares)) 18 rfl dX10_split_15 f10_1 rfl nf10_0 (fun _ => rfl) (fun _ => rfl) (Nat.le_of_ble_eq_true rfl) rfl ?_
  refine xV_aload_n 19 rfl dX10_split_18 rfl 0 rfl ?_
  refine xV_get (v := .int s1) 22 rfl dX10_split_19 f10_1 rfl rfl ?_
  refine xV_if_le (tgt := 29) 25 rfl dX10_split_22 (by decide) (fun h22 => ?_) (fun h22 => ?_)
  · have hf := xif_t hf h22
    refine xV_aload_n 30 rfl dX10_split_29 rfl 0 rfl ?_
    refine xV_iload_n 31 rfl dX10_split_30 rfl 1 rfl ?_
    refine xV_iload_n 32 rfl dX10_split_31 rfl 2 rfl ?_
    obtain ⟨v32, hv32, hf⟩ := xb_s hf
    refine xV_same (rest := []) 35 rfl dX10_split_32 rfl (C10_eightsOf X.1.2.1 hv32) m10_eightsOf v10_eightsOf k10_86 rfl rfl rfl rfl rfl (Nat.le_of_ble_eq_true rfl) (Nat.le_of_ble_eq_true rfl) (Nat.le_of_ble_eq_true rfl) ⟨Nat.le_refl _, Nat.le_refl _⟩ ?_
    show xV (j10_split) X 0 0 (hM s1 c_told c_read c_many c_eights c_gains c_notes c_seen c_turns c_drawn c_state c_tape c_taped c_size c_from c_next c_token c_value c_fault c_number c_fives c_isLeft c_wentTimes c_goes c_isLeftLaid c_game c_rows c_columns c_isFound c_bestValue c_bestBelow c_bestShare c_share c_matrix c_system c_shares c_allShares) 35 [(0, .ref 0), (1, .int x1), (2, .int x2)] [.int v32]
    obtain rfl := Option.some.inj hf
    exact xV_iret hX dX10_split_35 rfl (Nat.zero_le _) (Nat.zero_le _)
  · have hf := xif_f hf h22
    refine xV_iconst 26 rfl dX10_split_25 xk_i0 ?_
    refine xV_goto (tgt := 35) dX10_split_26 (by decide) ?_
    obtain rfl := Option.some.inj hf
    exact xV_iret hX dX10_split_35 rfl (Nat.zero_le _) (Nat.zero_le _)
def F10_split (x1 : Int32) (x2 : Int32) (c_thrown : Int32) (c_many : (Nat → Int32)) (c_eights : (Nat → Int32)) : Option (Int32 × Int32) :=
  (F10_isSplit x1 x2 c_many).bind (fun v4 => if v4 = 0 then (F10_split_b15 x1 x2 (1 : Int32) c_thrown c_many c_eights) else (F10_split_b15 x1 x2 (0 : Int32) c_thrown c_many c_eights))
theorem T10_split {X : xX} {x1 : Int32} {x2 : Int32} {c_thrown : Int32} {c_many : (Nat → Int32)} {c_eights : (Nat → Int32)} {c_told : (Nat → Int32)} {c_read : (Nat → Int32)} {c_gains : (Nat → Int32)} {c_notes : (Nat → Int32)} {c_seen : (Nat → Int32)} {c_turns : (Nat → Int32)} {c_drawn : (Nat → Int32)} {c_state : Int32} {c_tape : (Nat → Int32)} {c_taped : Int32} {c_size : Int32} {c_from : Int32} {c_next : Int32} {c_token : Int32} {c_value : Int32} {c_fault : Int32} {c_number : Int32} {c_fives : (Nat → Int32)} {c_isLeft : (Nat → Int32)} {c_wentTimes : Int32} {c_goes : (Nat → Int32)} {c_isLeftLaid : Int32} {c_game : (Nat → Int32)} {c_rows : Int32} {c_columns : Int32} {c_isFound : Int32} {c_bestValue : Int64} {c_bestBelow : Int64} {c_bestShare : (Nat → Int64)} {c_share : (Nat → Int64)} {c_matrix : (Nat → Int64)} {c_system : (Nat → Int64)} {c_shares : (Nat → Int32)} {c_allShares : Int32} {v : Int32 × Int32} (hX : xIs (j10_split) X ((some .int)) (some (.int v.1)) (hM v.2 c_told c_read c_many c_eights c_gains c_notes c_seen c_turns c_drawn c_state c_tape c_taped c_size c_from c_next c_token c_value c_fault c_number c_fives c_isLeft c_wentTimes c_goes c_isLeftLaid c_game c_rows c_columns c_isFound c_bestValue c_bestBelow c_bestShare c_share c_matrix c_system c_shares c_allShares)) (hf : F10_split x1 x2 c_thrown c_many c_eights = some v) : xV (j10_split) X 0 0 (hM c_thrown c_told c_read c_many c_eights c_gains c_notes c_seen c_turns c_drawn c_state c_tape c_taped c_size c_from c_next c_token c_value c_fault c_number c_fives c_isLeft c_wentTimes c_goes c_isLeftLaid c_game c_rows c_columns c_isFound c_bestValue c_bestBelow c_bestShare c_share c_matrix c_system c_shares c_allShares) 0 [(0, .ref 0), (1, .int x1), (2, .int x2)] [] := by
  unfold F10_split at hf
  refine xV_aload_n 1 rfl dX10_split_0 rfl 0 rfl ?_
  refine xV_aload_n 2 rfl dX10_split_1 rfl 0 rfl ?_
  refine xV_iload_n 3 rfl dX10_split_2 rfl 1 rfl ?_
  refine xV_iload_n 4 rfl dX10_split_3 rfl 2 rfl ?_
  obtain ⟨v4, hv4, hf⟩ := xb_s hf
  refine xV_same (rest := [.ref 0]) 7 rfl dX10_split_4 rfl (C10_isSplit X.1.2.1 hv4) m10_isSplit v10_isSplit k10_210 rfl rfl rfl rfl rfl (Nat.le_of_ble_eq_true rfl) (Nat.le_of_ble_eq_true rfl) (Nat.le_of_ble_eq_true rfl) ⟨Nat.le_refl _, Nat.le_refl _⟩ ?_
  show xV (j10_split) X 0 0 (hM c_thrown c_told c_read c_many c_eights c_gains c_notes c_seen c_turns c_drawn c_state c_tape c_taped c_size c_from c_next c_token c_value c_fault c_number c_fives c_isLeft c_wentTimes c_goes c_isLeftLaid c_game c_rows c_columns c_isFound c_bestValue c_bestBelow c_bestShare c_share c_matrix c_system c_shares c_allShares) 7 [(0, .ref 0), (1, .int x1), (2, .int x2)] [.int v4, .ref 0]
  refine xV_if_eq (tgt := 14) 10 rfl dX10_split_7 (by decide) (fun h7 => ?_) (fun h7 => ?_)
  · have hf := xif_t hf h7
    refine xV_iconst 15 rfl dX10_split_14 xk_i1 ?_
    exact T10_split_b15 hX hf
  · have hf := xif_f hf h7
    refine xV_iconst 11 rfl dX10_split_10 xk_i0 ?_
    refine xV_goto (tgt := 15) dX10_split_11 (by decide) ?_
    exact T10_split_b15 hX hf
theorem C10_split (l : Launch) {x1 : Int32} {x2 : Int32} {c_thrown : Int32} {c_many : (Nat → Int32)} {c_eights : (Nat → Int32)} {c_told : (Nat → Int32)} {c_read : (Nat → Int32)} {c_gains : (Nat → Int32)} {c_notes : (Nat → Int32)} {c_seen : (Nat → Int32)} {c_turns : (Nat → Int32)} {c_drawn : (Nat → Int32)} {c_state : Int32} {c_tape : (Nat → Int32)} {c_taped : Int32} {c_size : Int32} {c_from : Int32} {c_next : Int32} {c_token : Int32} {c_value : Int32} {c_fault : Int32} {c_number : Int32} {c_fives : (Nat → Int32)} {c_isLeft : (Nat → Int32)} {c_wentTimes : Int32} {c_goes : (Nat → Int32)} {c_isLeftLaid : Int32} {c_game : (Nat → Int32)} {c_rows : Int32} {c_columns : Int32} {c_isFound : Int32} {c_bestValue : Int64} {c_bestBelow : Int64} {c_bestShare : (Nat → Int64)} {c_share : (Nat → Int64)} {c_matrix : (Nat → Int64)} {c_system : (Nat → Int64)} {c_shares : (Nat → Int32)} {c_allShares : Int32} {v : Int32 × Int32} (hf : F10_split x1 x2 c_thrown c_many c_eights = some v) : xCt l yX10_split ((some .int)) j10_split [.ref 0, .int x1, .int x2] (hM c_thrown c_told c_read c_many c_eights c_gains c_notes c_seen c_turns c_drawn c_state c_tape c_taped c_size c_from c_next c_token c_value c_fault c_number c_fives c_isLeft c_wentTimes c_goes c_isLeftLaid c_game c_rows c_columns c_isFound c_bestValue c_bestBelow c_bestShare c_share c_matrix c_system c_shares c_allShares) (some (.int v.1)) (hM v.2 c_told c_read c_many c_eights c_gains c_notes c_seen c_turns c_drawn c_state c_tape c_taped c_size c_from c_next c_token c_value c_fault c_number c_fives c_isLeft c_wentTimes c_goes c_isLeftLaid c_game c_rows c_columns c_isFound c_bestValue c_bestBelow c_bestShare c_share c_matrix c_system c_shares c_allShares) := xCt_of (by decide) rfl (Nat.le_of_ble_eq_true rfl) (fun _ hX => T10_split hX hf)
theorem m10_split : xMd yX10_split RX10 ((some .int)) j10_split 2 := ⟨List.mem_of_getElem? (i := 582) (by decide +kernel), List.mem_of_getElem? (i := 5) (by decide +kernel), rfl, by decide +kernel⟩
theorem v10_split : xMv yX10_split RX10 := ⟨List.mem_of_getElem? (i := 580) (by decide +kernel), List.mem_of_getElem? (i := 581) (by decide +kernel)⟩
theorem k10_213 : Cond.methodLink RX10 213 yX10_numberOf ∈ wsL_law0 := List.mem_of_getElem? (i := 600) (by decide +kernel)
theorem dX10_number_0 : decode cX10_number 0 = .ok (.aload_n 0, 1) := by decide +kernel
theorem dX10_number_1 : decode cX10_number 1 = .ok (.iconst 0, 1) := by decide +kernel
theorem dX10_number_2 : decode cX10_number 2 = .ok (.putfield 1, 3) := by decide +kernel
theorem dX10_number_5 : decode cX10_number 5 = .ok (.iload_n 1, 1) := by decide +kernel
theorem dX10_number_6 : decode cX10_number 6 = .ok (.invokestatic 105, 3) := by decide +kernel
theorem dX10_number_9 : decode cX10_number 9 = .ok (.ifCond .eq 12, 3) := by decide +kernel
theorem dX10_number_12 : decode cX10_number 12 = .ok (.aload_n 0, 1) := by decide +kernel
theorem dX10_number_13 : decode cX10_number 13 = .ok (.iload_n 1, 1) := by decide +kernel
theorem dX10_number_14 : decode cX10_number 14 = .ok (.iload_n 2, 1) := by decide +kernel
theorem dX10_number_15 : decode cX10_number 15 = .ok (.invokevirtual 213, 3) := by decide +kernel
theorem dX10_number_18 : decode cX10_number 18 = .ok (.goto 4, 3) := by decide +kernel
theorem dX10_number_21 : decode cX10_number 21 = .ok (.iconst (-1), 1) := by decide +kernel
theorem dX10_number_22 : decode cX10_number 22 = .ok (.ireturn, 1) := by decide +kernel
abbrev j10_number : xJ := (cX10_number, 3, RX10, 3, 0, 0)
def F10_number (z : Nat) (x1 : Int32) (x2 : Int32) (c_thrown : Int32) (c_many : (Nat → Int32)) (c_eights : (Nat → Int32)) : Option (Int32 × Int32) :=
  (F10_isSide x1).bind (fun v6 => if v6 = 0 then (some ((-1 : Int32), (0 : Int32))) else ((F10_numberOf z x1 x2 c_many c_eights).bind (fun v15 => some (v15, (0 : Int32)))))
theorem T10_number {X : xX} {z : Nat} {x1 : Int32} {x2 : Int32} {c_thrown : Int32} {c_many : (Nat → Int32)} {c_eights : (Nat → Int32)} {c_told : (Nat → Int32)} {c_read : (Nat → Int32)} {c_gains : (Nat → Int32)} {c_notes : (Nat → Int32)} {c_seen : (Nat → Int32)} {c_turns : (Nat → Int32)} {c_drawn : (Nat → Int32)} {c_state : Int32} {c_tape : (Nat → Int32)} {c_taped : Int32} {c_size : Int32} {c_from : Int32} {c_next : Int32} {c_token : Int32} {c_value : Int32} {c_fault : Int32} {c_number : Int32} {c_fives : (Nat → Int32)} {c_isLeft : (Nat → Int32)} {c_wentTimes : Int32} {c_goes : (Nat → Int32)} {c_isLeftLaid : Int32} {c_game : (Nat → Int32)} {c_rows : Int32} {c_columns : Int32} {c_isFound : Int32} {c_bestValue : Int64} {c_bestBelow : Int64} {c_bestShare : (Nat → Int64)} {c_share : (Nat → Int64)} {c_matrix : (Nat → Int64)} {c_system : (Nat → Int64)} {c_shares : (Nat → Int32)} {c_allShares : Int32} {v : Int32 × Int32} (hX : xIs (j10_number) X ((some .int)) (some (.int v.1)) (hM v.2 c_told c_read c_many c_eights c_gains c_notes c_seen c_turns c_drawn c_state c_tape c_taped c_size c_from c_next c_token c_value c_fault c_number c_fives c_isLeft c_wentTimes c_goes c_isLeftLaid c_game c_rows c_columns c_isFound c_bestValue c_bestBelow c_bestShare c_share c_matrix c_system c_shares c_allShares)) (hf : F10_number z x1 x2 c_thrown c_many c_eights = some v) : xV (j10_number) X 0 0 (hM c_thrown c_told c_read c_many c_eights c_gains c_notes c_seen c_turns c_drawn c_state c_tape c_taped c_size c_from c_next c_token c_value c_fault c_number c_fives c_isLeft c_wentTimes c_goes c_isLeftLaid c_game c_rows c_columns c_isFound c_bestValue c_bestBelow c_bestShare c_share c_matrix c_system c_shares c_allShares) 0 [(0, .ref 0), (1, .int x1), (2, .int x2)] [] := by
  unfold F10_number at hf
  refine xV_aload_n 1 rfl dX10_number_0 rfl 0 rfl ?_
  refine xV_iconst 2 rfl dX10_number_1 xk_i0 ?_
  refine xV_put (h' := (hM (0 : Int32) c_told c_read c_many c_eights c_gains c_notes c_seen c_turns c_drawn c_state c_tape c_taped c_size c_from c_next c_token c_value c_fault c_number c_fives c_isLeft c_wentTimes c_goes c_isLeftLaid c_game c_rows c_columns c_isFound c_bestValue c_bestBelow c_bestShare c_share c_matrix c_system c_shares c_allShares)) 5 rfl dX10_number_2 f10_1 rfl nf10_0 (fun _ => rfl) (fun _ => rfl) (Nat.le_of_ble_eq_true rfl) rfl ?_
  refine xV_iload_n 6 rfl dX10_number_5 rfl 1 rfl ?_
  obtain ⟨v6, hv6, hf⟩ := xb_s hf
  refine xV_st0 (rest := []) 9 rfl dX10_number_6 rfl (C10_isSide X.1.2.1 hv6) m10_isSide s10_isSide k10_105 rfl (Nat.le_of_ble_eq_true rfl) (Nat.le_of_ble_eq_true rfl) (Nat.le_of_ble_eq_true rfl) ⟨Nat.le_refl _, Nat.le_refl _⟩ ?_
  show xV (j10_number) X 0 0 (hM (0 : Int32) c_told c_read c_many c_eights c_gains c_notes c_seen c_turns c_drawn c_state c_tape c_taped c_size c_from c_next c_token c_value c_fault c_number c_fives c_isLeft c_wentTimes c_goes c_isLeftLaid c_game c_rows c_columns c_isFound c_bestValue c_bestBelow c_bestShare c_share c_matrix c_system c_shares c_allShares) 9 [(0, .ref 0), (1, .int x1), (2, .int x2)] [.int v6]
  refine xV_if_eq (tgt := 21) 12 rfl dX10_number_9 (by decide) (fun h9 => ?_) (fun h9 => ?_)
  · have hf := xif_t hf h9
    refine xV_iconst 22 rfl dX10_number_21 xk_im1 ?_
    obtain rfl := Option.some.inj hf
    exact xV_iret hX dX10_number_22 rfl (Nat.zero_le _) (Nat.zero_le _)
  · have hf := xif_f hf h9
    refine xV_aload_n 13 rfl dX10_number_12 rfl 0 rfl ?_
    refine xV_iload_n 14 rfl dX10_number_13 rfl 1 rfl ?_
    refine xV_iload_n 15 rfl dX10_number_14 rfl 2 rfl ?_
    obtain ⟨v15, hv15, hf⟩ := xb_s hf
    refine xV_same (rest := []) 18 rfl dX10_number_15 rfl (C10_numberOf X.1.2.1 hv15) m10_numberOf v10_numberOf k10_213 rfl rfl rfl rfl rfl (Nat.le_of_ble_eq_true rfl) (Nat.le_of_ble_eq_true rfl) (Nat.le_of_ble_eq_true rfl) ⟨Nat.le_refl _, Nat.le_refl _⟩ ?_
    show xV (j10_number) X 0 0 (hM (0 : Int32) c_told c_read c_many c_eights c_gains c_notes c_seen c_turns c_drawn c_state c_tape c_taped c_size c_from c_next c_token c_value c_fault c_number c_fives c_isLeft c_wentTimes c_goes c_isLeftLaid c_game c_rows c_columns c_isFound c_bestValue c_bestBelow c_bestShare c_share c_matrix c_system c_shares c_allShares) 18 [(0, .ref 0), (1, .int x1), (2, .int x2)] [.int v15]
    refine xV_goto (tgt := 22) dX10_number_18 (by decide) ?_
    obtain rfl := Option.some.inj hf
    exact xV_iret hX dX10_number_22 rfl (Nat.zero_le _) (Nat.zero_le _)
theorem C10_number (l : Launch) {z : Nat} {x1 : Int32} {x2 : Int32} {c_thrown : Int32} {c_many : (Nat → Int32)} {c_eights : (Nat → Int32)} {c_told : (Nat → Int32)} {c_read : (Nat → Int32)} {c_gains : (Nat → Int32)} {c_notes : (Nat → Int32)} {c_seen : (Nat → Int32)} {c_turns : (Nat → Int32)} {c_drawn : (Nat → Int32)} {c_state : Int32} {c_tape : (Nat → Int32)} {c_taped : Int32} {c_size : Int32} {c_from : Int32} {c_next : Int32} {c_token : Int32} {c_value : Int32} {c_fault : Int32} {c_number : Int32} {c_fives : (Nat → Int32)} {c_isLeft : (Nat → Int32)} {c_wentTimes : Int32} {c_goes : (Nat → Int32)} {c_isLeftLaid : Int32} {c_game : (Nat → Int32)} {c_rows : Int32} {c_columns : Int32} {c_isFound : Int32} {c_bestValue : Int64} {c_bestBelow : Int64} {c_bestShare : (Nat → Int64)} {c_share : (Nat → Int64)} {c_matrix : (Nat → Int64)} {c_system : (Nat → Int64)} {c_shares : (Nat → Int32)} {c_allShares : Int32} {v : Int32 × Int32} (hf : F10_number z x1 x2 c_thrown c_many c_eights = some v) : xCt l yX10_number ((some .int)) j10_number [.ref 0, .int x1, .int x2] (hM c_thrown c_told c_read c_many c_eights c_gains c_notes c_seen c_turns c_drawn c_state c_tape c_taped c_size c_from c_next c_token c_value c_fault c_number c_fives c_isLeft c_wentTimes c_goes c_isLeftLaid c_game c_rows c_columns c_isFound c_bestValue c_bestBelow c_bestShare c_share c_matrix c_system c_shares c_allShares) (some (.int v.1)) (hM v.2 c_told c_read c_many c_eights c_gains c_notes c_seen c_turns c_drawn c_state c_tape c_taped c_size c_from c_next c_token c_value c_fault c_number c_fives c_isLeft c_wentTimes c_goes c_isLeftLaid c_game c_rows c_columns c_isFound c_bestValue c_bestBelow c_bestShare c_share c_matrix c_system c_shares c_allShares) := xCt_of (by decide) rfl (Nat.le_of_ble_eq_true rfl) (fun _ hX => T10_number hX hf)
theorem m10_number : xMd yX10_number RX10 ((some .int)) j10_number 2 := ⟨List.mem_of_getElem? (i := 599) (by decide +kernel), List.mem_of_getElem? (i := 5) (by decide +kernel), rfl, by decide +kernel⟩
theorem v10_number : xMv yX10_number RX10 := ⟨List.mem_of_getElem? (i := 597) (by decide +kernel), List.mem_of_getElem? (i := 598) (by decide +kernel)⟩
theorem xk_bm100 : (Int8.ofInt (-100)).toInt32 = (-100 : Int32) := by decide
theorem dX10_gain_0 : decode cX10_gain 0 = .ok (.aload_n 0, 1) := by decide +kernel
theorem dX10_gain_1 : decode cX10_gain 1 = .ok (.iconst 0, 1) := by decide +kernel
theorem dX10_gain_2 : decode cX10_gain 2 = .ok (.putfield 1, 3) := by decide +kernel
theorem dX10_gain_5 : decode cX10_gain 5 = .ok (.aload_n 0, 1) := by decide +kernel
theorem dX10_gain_6 : decode cX10_gain 6 = .ok (.iconst 0, 1) := by decide +kernel
theorem dX10_gain_7 : decode cX10_gain 7 = .ok (.iload_n 1, 1) := by decide +kernel
theorem dX10_gain_8 : decode cX10_gain 8 = .ok (.invokevirtual 210, 3) := by decide +kernel
theorem dX10_gain_11 : decode cX10_gain 11 = .ok (.ifCond .eq 27, 3) := by decide +kernel
theorem dX10_gain_14 : decode cX10_gain 14 = .ok (.aload_n 0, 1) := by decide +kernel
theorem dX10_gain_15 : decode cX10_gain 15 = .ok (.iconst 1, 1) := by decide +kernel
theorem dX10_gain_16 : decode cX10_gain 16 = .ok (.iload_n 2, 1) := by decide +kernel
theorem dX10_gain_17 : decode cX10_gain 17 = .ok (.invokevirtual 210, 3) := by decide +kernel
theorem dX10_gain_20 : decode cX10_gain 20 = .ok (.ifCond .eq 18, 3) := by decide +kernel
theorem dX10_gain_23 : decode cX10_gain 23 = .ok (.aload_n 0, 1) := by decide +kernel
theorem dX10_gain_24 : decode cX10_gain 24 = .ok (.getfield 30, 3) := by decide +kernel
theorem dX10_gain_27 : decode cX10_gain 27 = .ok (.sipush 128, 3) := by decide +kernel
theorem dX10_gain_30 : decode cX10_gain 30 = .ok (.iload_n 1, 1) := by decide +kernel
theorem dX10_gain_31 : decode cX10_gain 31 = .ok (.imul, 1) := by decide +kernel
theorem dX10_gain_32 : decode cX10_gain 32 = .ok (.iload_n 2, 1) := by decide +kernel
theorem dX10_gain_33 : decode cX10_gain 33 = .ok (.iadd, 1) := by decide +kernel
theorem dX10_gain_34 : decode cX10_gain 34 = .ok (.iaload, 1) := by decide +kernel
theorem dX10_gain_35 : decode cX10_gain 35 = .ok (.goto 5, 3) := by decide +kernel
theorem dX10_gain_38 : decode cX10_gain 38 = .ok (.bipush (-100), 2) := by decide +kernel
theorem dX10_gain_40 : decode cX10_gain 40 = .ok (.ireturn, 1) := by decide +kernel
abbrev j10_gain : xJ := (cX10_gain, 3, RX10, 4, 0, 0)
def F10_gain (x1 : Int32) (x2 : Int32) (c_thrown : Int32) (c_many : (Nat → Int32)) (c_gains : (Nat → Int32)) : Option (Int32 × Int32) :=
  (F10_isSplit (0 : Int32) x1 c_many).bind (fun v8 => if v8 = 0 then (some ((-100 : Int32), (0 : Int32))) else ((F10_isSplit (1 : Int32) x2 c_many).bind (fun v17 => if v17 = 0 then (some ((-100 : Int32), (0 : Int32))) else (xg (xin (((128 : Int32) * x1) + x2) 16384) (some ((c_gains (xn (((128 : Int32) * x1) + x2))), (0 : Int32)))))))
theorem T10_gain {X : xX} {x1 : Int32} {x2 : Int32} {c_thrown : Int32} {c_many : (Nat → Int32)} {c_gains : (Nat → Int32)} {c_told : (Nat → Int32)} {c_read : (Nat → Int32)} {c_eights : (Nat → Int32)} {c_notes : (Nat → Int32)} {c_seen : (Nat → Int32)} {c_turns : (Nat → Int32)} {c_drawn : (Nat → Int32)} {c_state : Int32} {c_tape : (Nat → Int32)} {c_taped : Int32} {c_size : Int32} {c_from : Int32} {c_next : Int32} {c_token : Int32} {c_value : Int32} {c_fault : Int32} {c_number : Int32} {c_fives : (Nat → Int32)} {c_isLeft : (Nat → Int32)} {c_wentTimes : Int32} {c_goes : (Nat → Int32)} {c_isLeftLaid : Int32} {c_game : (Nat → Int32)} {c_rows : Int32} {c_columns : Int32} {c_isFound : Int32} {c_bestValue : Int64} {c_bestBelow : Int64} {c_bestShare : (Nat → Int64)} {c_share : (Nat → Int64)} {c_matrix : (Nat → Int64)} {c_system : (Nat → Int64)} {c_shares : (Nat → Int32)} {c_allShares : Int32} {v : Int32 × Int32} (hX : xIs (j10_gain) X ((some .int)) (some (.int v.1)) (hM v.2 c_told c_read c_many c_eights c_gains c_notes c_seen c_turns c_drawn c_state c_tape c_taped c_size c_from c_next c_token c_value c_fault c_number c_fives c_isLeft c_wentTimes c_goes c_isLeftLaid c_game c_rows c_columns c_isFound c_bestValue c_bestBelow c_bestShare c_share c_matrix c_system c_shares c_allShares)) (hf : F10_gain x1 x2 c_thrown c_many c_gains = some v) : xV (j10_gain) X 0 0 (hM c_thrown c_told c_read c_many c_eights c_gains c_notes c_seen c_turns c_drawn c_state c_tape c_taped c_size c_from c_next c_token c_value c_fault c_number c_fives c_isLeft c_wentTimes c_goes c_isLeftLaid c_game c_rows c_columns c_isFound c_bestValue c_bestBelow c_bestShare c_share c_matrix c_system c_shares c_allShares) 0 [(0, .ref 0), (1, .int x1), (2, .int x2)] [] := by
  unfold F10_gain at hf
  refine xV_aload_n 1 rfl dX10_gain_0 rfl 0 rfl ?_
  refine xV_iconst 2 rfl dX10_gain_1 xk_i0 ?_
  refine xV_put (h' := (hM (0 : Int32) c_told c_read c_many c_eights c_gains c_notes c_seen c_turns c_drawn c_state c_tape c_taped c_size c_from c_next c_token c_value c_fault c_number c_fives c_isLeft c_wentTimes c_goes c_isLeftLaid c_game c_rows c_columns c_isFound c_bestValue c_bestBelow c_bestShare c_share c_matrix c_system c_shares c_allShares)) 5 rfl dX10_gain_2 f10_1 rfl nf10_0 (fun _ => rfl) (fun _ => rfl) (Nat.le_of_ble_eq_true rfl) rfl ?_
  refine xV_aload_n 6 rfl dX10_gain_5 rfl 0 rfl ?_
  refine xV_iconst 7 rfl dX10_gain_6 xk_i0 ?_
  refine xV_iload_n 8 rfl dX10_gain_7 rfl 1 rfl ?_
  obtain ⟨v8, hv8, hf⟩ := xb_s hf
  refine xV_same (rest := []) 11 rfl dX10_gain_8 rfl (C10_isSplit X.1.2.1 hv8) m10_isSplit v10_isSplit k10_210 rfl rfl rfl rfl rfl (Nat.le_of_ble_eq_true rfl) (Nat.le_of_ble_eq_true rfl) (Nat.le_of_ble_eq_true rfl) ⟨Nat.le_refl _, Nat.le_refl _⟩ ?_
  show xV (j10_gain) X 0 0 (hM (0 : Int32) c_told c_read c_many c_eights c_gains c_notes c_seen c_turns c_drawn c_state c_tape c_taped c_size c_from c_next c_token c_value c_fault c_number c_fives c_isLeft c_wentTimes c_goes c_isLeftLaid c_game c_rows c_columns c_isFound c_bestValue c_bestBelow c_bestShare c_share c_matrix c_system c_shares c_allShares) 11 [(0, .ref 0), (1, .int x1), (2, .int x2)] [.int v8]
  refine xV_if_eq (tgt := 38) 14 rfl dX10_gain_11 (by decide) (fun h11 => ?_) (fun h11 => ?_)
  · have hf := xif_t hf h11
    refine xV_bipush 40 rfl dX10_gain_38 xk_bm100 ?_
    obtain rfl := Option.some.inj hf
    exact xV_iret hX dX10_gain_40 rfl (Nat.zero_le _) (Nat.zero_le _)
  · have hf := xif_f hf h11
    refine xV_aload_n 15 rfl dX10_gain_14 rfl 0 rfl ?_
    refine xV_iconst 16 rfl dX10_gain_15 xk_i1 ?_
    refine xV_iload_n 17 rfl dX10_gain_16 rfl 2 rfl ?_
    obtain ⟨v17, hv17, hf⟩ := xb_s hf
    refine xV_same (rest := []) 20 rfl dX10_gain_17 rfl (C10_isSplit X.1.2.1 hv17) m10_isSplit v10_isSplit k10_210 rfl rfl rfl rfl rfl (Nat.le_of_ble_eq_true rfl) (Nat.le_of_ble_eq_true rfl) (Nat.le_of_ble_eq_true rfl) ⟨Nat.le_refl _, Nat.le_refl _⟩ ?_
    show xV (j10_gain) X 0 0 (hM (0 : Int32) c_told c_read c_many c_eights c_gains c_notes c_seen c_turns c_drawn c_state c_tape c_taped c_size c_from c_next c_token c_value c_fault c_number c_fives c_isLeft c_wentTimes c_goes c_isLeftLaid c_game c_rows c_columns c_isFound c_bestValue c_bestBelow c_bestShare c_share c_matrix c_system c_shares c_allShares) 20 [(0, .ref 0), (1, .int x1), (2, .int x2)] [.int v17]
    refine xV_if_eq (tgt := 38) 23 rfl dX10_gain_20 (by decide) (fun h20 => ?_) (fun h20 => ?_)
    · have hf := xif_t hf h20
      refine xV_bipush 40 rfl dX10_gain_38 xk_bm100 ?_
      obtain rfl := Option.some.inj hf
      exact xV_iret hX dX10_gain_40 rfl (Nat.zero_le _) (Nat.zero_le _)
    · have hf := xif_f hf h20
      refine xV_aload_n 24 rfl dX10_gain_23 rfl 0 rfl ?_
      refine xV_get (v := .ref 5) 27 rfl dX10_gain_24 f10_30 rfl rfl ?_
      refine xV_sipush 30 rfl dX10_gain_27 xk_s128 ?_
      refine xV_iload_n 31 rfl dX10_gain_30 rfl 1 rfl ?_
      refine xV_imul 32 rfl dX10_gain_31 ?_
      refine xV_iload_n 33 rfl dX10_gain_32 rfl 2 rfl ?_
      refine xV_iadd 34 rfl dX10_gain_33 ?_
      obtain ⟨hg34, hf⟩ := xg_s hf
      refine xV_iaload 35 rfl dX10_gain_34 rfl (xin_ok hg34) rfl ?_
      refine xV_goto (tgt := 40) dX10_gain_35 (by decide) ?_
      obtain rfl := Option.some.inj hf
      exact xV_iret hX dX10_gain_40 rfl (Nat.zero_le _) (Nat.zero_le _)
theorem C10_gain (l : Launch) {x1 : Int32} {x2 : Int32} {c_thrown : Int32} {c_many : (Nat → Int32)} {c_gains : (Nat → Int32)} {c_told : (Nat → Int32)} {c_read : (Nat → Int32)} {c_eights : (Nat → Int32)} {c_notes : (Nat → Int32)} {c_seen : (Nat → Int32)} {c_turns : (Nat → Int32)} {c_drawn : (Nat → Int32)} {c_state : Int32} {c_tape : (Nat → Int32)} {c_taped : Int32} {c_size : Int32} {c_from : Int32} {c_next : Int32} {c_token : Int32} {c_value : Int32} {c_fault : Int32} {c_number : Int32} {c_fives : (Nat → Int32)} {c_isLeft : (Nat → Int32)} {c_wentTimes : Int32} {c_goes : (Nat → Int32)} {c_isLeftLaid : Int32} {c_game : (Nat → Int32)} {c_rows : Int32} {c_columns : Int32} {c_isFound : Int32} {c_bestValue : Int64} {c_bestBelow : Int64} {c_bestShare : (Nat → Int64)} {c_share : (Nat → Int64)} {c_matrix : (Nat → Int64)} {c_system : (Nat → Int64)} {c_shares : (Nat → Int32)} {c_allShares : Int32} {v : Int32 × Int32} (hf : F10_gain x1 x2 c_thrown c_many c_gains = some v) : xCt l yX10_gain ((some .int)) j10_gain [.ref 0, .int x1, .int x2] (hM c_thrown c_told c_read c_many c_eights c_gains c_notes c_seen c_turns c_drawn c_state c_tape c_taped c_size c_from c_next c_token c_value c_fault c_number c_fives c_isLeft c_wentTimes c_goes c_isLeftLaid c_game c_rows c_columns c_isFound c_bestValue c_bestBelow c_bestShare c_share c_matrix c_system c_shares c_allShares) (some (.int v.1)) (hM v.2 c_told c_read c_many c_eights c_gains c_notes c_seen c_turns c_drawn c_state c_tape c_taped c_size c_from c_next c_token c_value c_fault c_number c_fives c_isLeft c_wentTimes c_goes c_isLeftLaid c_game c_rows c_columns c_isFound c_bestValue c_bestBelow c_bestShare c_share c_matrix c_system c_shares c_allShares) := xCt_of (by decide) rfl (Nat.le_of_ble_eq_true rfl) (fun _ hX => T10_gain hX hf)
theorem m10_gain : xMd yX10_gain RX10 ((some .int)) j10_gain 2 := ⟨List.mem_of_getElem? (i := 623) (by decide +kernel), List.mem_of_getElem? (i := 5) (by decide +kernel), rfl, by decide +kernel⟩
theorem v10_gain : xMv yX10_gain RX10 := ⟨List.mem_of_getElem? (i := 621) (by decide +kernel), List.mem_of_getElem? (i := 622) (by decide +kernel)⟩
theorem f10_50 : xFl RX10 50 10 20 := ⟨_, rfl, by decide, List.mem_of_getElem? (i := 134) (by decide +kernel)⟩
theorem dX10_codeOn_0 : decode cX10_codeOn 0 = .ok (.iconst 0, 1) := by decide +kernel
theorem dX10_codeOn_1 : decode cX10_codeOn 1 = .ok (.istore 4, 2) := by decide +kernel
theorem dX10_codeOn_3 : decode cX10_codeOn 3 = .ok (.iconst 0, 1) := by decide +kernel
theorem dX10_codeOn_4 : decode cX10_codeOn 4 = .ok (.istore 5, 2) := by decide +kernel
theorem dX10_codeOn_6 : decode cX10_codeOn 6 = .ok (.iload 5, 2) := by decide +kernel
theorem dX10_codeOn_8 : decode cX10_codeOn 8 = .ok (.aload_n 0, 1) := by decide +kernel
theorem dX10_codeOn_9 : decode cX10_codeOn 9 = .ok (.getfield 17, 3) := by decide +kernel
theorem dX10_codeOn_12 : decode cX10_codeOn 12 = .ok (.iconst 0, 1) := by decide +kernel
theorem dX10_codeOn_13 : decode cX10_codeOn 13 = .ok (.iaload, 1) := by decide +kernel
theorem dX10_codeOn_14 : decode cX10_codeOn 14 = .ok (.if_icmp .ge 41, 3) := by decide +kernel
theorem dX10_codeOn_17 : decode cX10_codeOn 17 = .ok (.iload 4, 2) := by decide +kernel
theorem dX10_codeOn_19 : decode cX10_codeOn 19 = .ok (.aload_n 0, 1) := by decide +kernel
theorem dX10_codeOn_20 : decode cX10_codeOn 20 = .ok (.iload 5, 2) := by decide +kernel
theorem dX10_codeOn_22 : decode cX10_codeOn 22 = .ok (.invokevirtual 94, 3) := by decide +kernel
theorem dX10_codeOn_25 : decode cX10_codeOn 25 = .ok (.iload_n 3, 1) := by decide +kernel
theorem dX10_codeOn_26 : decode cX10_codeOn 26 = .ok (.if_icmp .ne 19, 3) := by decide +kernel
theorem dX10_codeOn_29 : decode cX10_codeOn 29 = .ok (.aload_n 0, 1) := by decide +kernel
theorem dX10_codeOn_30 : decode cX10_codeOn 30 = .ok (.getfield 50, 3) := by decide +kernel
theorem dX10_codeOn_33 : decode cX10_codeOn 33 = .ok (.aload_n 0, 1) := by decide +kernel
theorem dX10_codeOn_34 : decode cX10_codeOn 34 = .ok (.iload_n 1, 1) := by decide +kernel
theorem dX10_codeOn_35 : decode cX10_codeOn 35 = .ok (.iload_n 2, 1) := by decide +kernel
theorem dX10_codeOn_36 : decode cX10_codeOn 36 = .ok (.iload 5, 2) := by decide +kernel
theorem dX10_codeOn_38 : decode cX10_codeOn 38 = .ok (.invokevirtual 90, 3) := by decide +kernel
theorem dX10_codeOn_41 : decode cX10_codeOn 41 = .ok (.iaload, 1) := by decide +kernel
theorem dX10_codeOn_42 : decode cX10_codeOn 42 = .ok (.goto 4, 3) := by decide +kernel
theorem dX10_codeOn_45 : decode cX10_codeOn 45 = .ok (.iconst 0, 1) := by decide +kernel
theorem dX10_codeOn_46 : decode cX10_codeOn 46 = .ok (.iadd, 1) := by decide +kernel
theorem dX10_codeOn_47 : decode cX10_codeOn 47 = .ok (.istore 4, 2) := by decide +kernel
theorem dX10_codeOn_49 : decode cX10_codeOn 49 = .ok (.iinc 5 1, 3) := by decide +kernel
theorem dX10_codeOn_52 : decode cX10_codeOn 52 = .ok (.goto (-46), 3) := by decide +kernel
theorem dX10_codeOn_55 : decode cX10_codeOn 55 = .ok (.iload 4, 2) := by decide +kernel
theorem dX10_codeOn_57 : decode cX10_codeOn 57 = .ok (.ireturn, 1) := by decide +kernel
abbrev j10_codeOn : xJ := (cX10_codeOn, 6, RX10, 3, 0, 0)
def F10_codeOn_b46 (z : Nat) (x1 : Int32) (x2 : Int32) (x3 : Int32) (x5 : Int32) (s0 : Int32) (s1 : Int32) (c_told : (Nat → Int32)) (c_eights : (Nat → Int32)) (c_fives : (Nat → Int32)) (k6 : Int32 → Int32 → Int32 → Int32 → Int32 → (Nat → Int32) → (Nat → Int32) → (Nat → Int32) → Option (Int32)) : Option (Int32) :=
  k6 x1 x2 x3 (s0 + s1) (x5 + (1 : Int32)) c_told c_eights c_fives
theorem T10_codeOn_b46 {X : xX} {c_thrown : Int32} {c_read : (Nat → Int32)} {c_many : (Nat → Int32)} {c_gains : (Nat → Int32)} {c_notes : (Nat → Int32)} {c_seen : (Nat → Int32)} {c_turns : (Nat → Int32)} {c_drawn : (Nat → Int32)} {c_state : Int32} {c_tape : (Nat → Int32)} {c_taped : Int32} {c_size : Int32} {c_from : Int32} {c_next : Int32} {c_token : Int32} {c_value : Int32} {c_fault : Int32} {c_number : Int32} {c_isLeft : (Nat → Int32)} {c_wentTimes : Int32} {c_goes : (Nat → Int32)} {c_isLeftLaid : Int32} {c_game : (Nat → Int32)} {c_rows : Int32} {c_columns : Int32} {c_isFound : Int32} {c_bestValue : Int64} {c_bestBelow : Int64} {c_bestShare : (Nat → Int64)} {c_share : (Nat → Int64)} {c_matrix : (Nat → Int64)} {c_system : (Nat → Int64)} {c_shares : (Nat → Int32)} {c_allShares : Int32} {x1 : Int32} {x2 : Int32} {x3 : Int32} {x5 : Int32} {s0 : Int32} {s1 : Int32} {c_told : (Nat → Int32)} {c_eights : (Nat → Int32)} {c_fives : (Nat → Int32)} {z : Nat} {v : Int32} {k6 : Int32 → Int32 → Int32 → Int32 → Int32 → (Nat → Int32) → (Nat → Int32) → (Nat → Int32) → Option (Int32)} (hX : xIs (j10_codeOn) X ((some .int)) (some (.int v)) (hM c_thrown c_told c_read c_many c_eights c_gains c_notes c_seen c_turns c_drawn c_state c_tape c_taped c_size c_from c_next c_token c_value c_fault c_number c_fives c_isLeft c_wentTimes c_goes c_isLeftLaid c_game c_rows c_columns c_isFound c_bestValue c_bestBelow c_bestShare c_share c_matrix c_system c_shares c_allShares)) (hk6 : ∀ {x1 : Int32} {x2 : Int32} {x3 : Int32} {x4 : Int32} {x5 : Int32}, k6 x1 x2 x3 x4 x5 c_told c_eights c_fives = some v → xV (j10_codeOn) X 0 0 (hM c_thrown c_told c_read c_many c_eights c_gains c_notes c_seen c_turns c_drawn c_state c_tape c_taped c_size c_from c_next c_token c_value c_fault c_number c_fives c_isLeft c_wentTimes c_goes c_isLeftLaid c_game c_rows c_columns c_isFound c_bestValue c_bestBelow c_bestShare c_share c_matrix c_system c_shares c_allShares) 6 [(0, .ref 0), (1, .int x1), (2, .int x2), (3, .int x3), (4, .int x4), (5, .int x5)] []) (hf : F10_codeOn_b46 z x1 x2 x3 x5 s0 s1 c_told c_eights c_fives k6 = some v) : xV (j10_codeOn) X 0 0 (hM c_thrown c_told c_read c_many c_eights c_gains c_notes c_seen c_turns c_drawn c_state c_tape c_taped c_size c_from c_next c_token c_value c_fault c_number c_fives c_isLeft c_wentTimes c_goes c_isLeftLaid c_game c_rows c_columns c_isFound c_bestValue c_bestBelow c_bestShare c_share c_matrix c_system c_shares c_allShares) 46 [(0, .ref 0), (1, .int x1), (2, .int x2), (3, .int x3), (5, .int x5)] [.int s1, .int s0] := by
  unfold F10_codeOn_b46 at hf
  refine xV_iadd 47 rfl dX10_codeOn_46 ?_
  refine xV_istore (L' := [(4, .int (s0 + s1)), (0, .ref 0), (1, .int x1), (2, .int x2), (3, .int x3), (5, .int x5)]) 49 rfl dX10_codeOn_47 (xlt rfl) rfl ?_
  refine xV_iinc (L' := [(5, .int (x5 + (1 : Int32))), (4, .int (s0 + s1)), (0, .ref 0), (1, .int x1), (2, .int x2), (3, .int x3)]) 52 rfl dX10_codeOn_49 5 rfl (xk_inc xk_i1) (xlt rfl) rfl ?_
  refine xV_goto (tgt := 6) dX10_codeOn_52 (by decide) ?_
  refine xV_sub [2, 3, 4, 5, 1, 0] rfl ?_
  exact hk6 hf
def F10_codeOn_b6 (z : Nat) (w : Nat) (x1 : Int32) (x2 : Int32) (x3 : Int32) (x4 : Int32) (x5 : Int32) (c_told : (Nat → Int32)) (c_eights : (Nat → Int32)) (c_fives : (Nat → Int32)) : Option (Int32) := match w with
  | 0 => none
  | w + 1 => if (c_told 0) ≤ x5 then (some (x4)) else ((F10_worth x5 c_told).bind (fun v22 => if v22 = x3 then ((F10_on x1 x2 x5 c_told c_eights).bind (fun v38 => xg (xin v38 8) (F10_codeOn_b46 z x1 x2 x3 x5 x4 (c_fives (xn v38)) c_told c_eights c_fives (fun q0 q1 q2 q3 q4 q5 q6 q7 => F10_codeOn_b6 z w q0 q1 q2 q3 q4 q5 q6 q7)))) else (F10_codeOn_b46 z x1 x2 x3 x5 x4 (0 : Int32) c_told c_eights c_fives (fun q0 q1 q2 q3 q4 q5 q6 q7 => F10_codeOn_b6 z w q0 q1 q2 q3 q4 q5 q6 q7))))
theorem T10_codeOn_b6 {X : xX} {c_thrown : Int32} {c_told : (Nat → Int32)} {c_read : (Nat → Int32)} {c_many : (Nat → Int32)} {c_eights : (Nat → Int32)} {c_gains : (Nat → Int32)} {c_notes : (Nat → Int32)} {c_seen : (Nat → Int32)} {c_turns : (Nat → Int32)} {c_drawn : (Nat → Int32)} {c_state : Int32} {c_tape : (Nat → Int32)} {c_taped : Int32} {c_size : Int32} {c_from : Int32} {c_next : Int32} {c_token : Int32} {c_value : Int32} {c_fault : Int32} {c_number : Int32} {c_fives : (Nat → Int32)} {c_isLeft : (Nat → Int32)} {c_wentTimes : Int32} {c_goes : (Nat → Int32)} {c_isLeftLaid : Int32} {c_game : (Nat → Int32)} {c_rows : Int32} {c_columns : Int32} {c_isFound : Int32} {c_bestValue : Int64} {c_bestBelow : Int64} {c_bestShare : (Nat → Int64)} {c_share : (Nat → Int64)} {c_matrix : (Nat → Int64)} {c_system : (Nat → Int64)} {c_shares : (Nat → Int32)} {c_allShares : Int32} {z : Nat} {v : Int32} (hX : xIs (j10_codeOn) X ((some .int)) (some (.int v)) (hM c_thrown c_told c_read c_many c_eights c_gains c_notes c_seen c_turns c_drawn c_state c_tape c_taped c_size c_from c_next c_token c_value c_fault c_number c_fives c_isLeft c_wentTimes c_goes c_isLeftLaid c_game c_rows c_columns c_isFound c_bestValue c_bestBelow c_bestShare c_share c_matrix c_system c_shares c_allShares)) : ∀ (w : Nat) {x1 : Int32} {x2 : Int32} {x3 : Int32} {x4 : Int32} {x5 : Int32}, F10_codeOn_b6 z w x1 x2 x3 x4 x5 c_told c_eights c_fives = some v → xV (j10_codeOn) X 0 0 (hM c_thrown c_told c_read c_many c_eights c_gains c_notes c_seen c_turns c_drawn c_state c_tape c_taped c_size c_from c_next c_token c_value c_fault c_number c_fives c_isLeft c_wentTimes c_goes c_isLeftLaid c_game c_rows c_columns c_isFound c_bestValue c_bestBelow c_bestShare c_share c_matrix c_system c_shares c_allShares) 6 [(0, .ref 0), (1, .int x1), (2, .int x2), (3, .int x3), (4, .int x4), (5, .int x5)] [] := by
  intro w
  induction w with
  | zero => intro x1 x2 x3 x4 x5 hf; cases hf
  | succ w ih =>
    intro x1 x2 x3 x4 x5 hf
    unfold F10_codeOn_b6 at hf
    refine xV_iload 8 rfl dX10_codeOn_6 5 rfl ?_
    refine xV_aload_n 9 rfl dX10_codeOn_8 rfl 0 rfl ?_
    refine xV_get (v := .ref 1) 12 rfl dX10_codeOn_9 f10_17 rfl rfl ?_
    refine xV_iconst 13 rfl dX10_codeOn_12 xk_i0 ?_
    refine xV_iaload 14 rfl dX10_codeOn_13 rfl xk_in0_56 xk_j0 ?_
    refine xV_icmp_ge (tgt := 55) 17 rfl dX10_codeOn_14 (by decide) (fun h14 => ?_) (fun h14 => ?_)
    · have hf := xif_t hf h14
      refine xV_iload 57 rfl dX10_codeOn_55 4 rfl ?_
      obtain rfl := Option.some.inj hf
      exact xV_iret hX dX10_codeOn_57 rfl (Nat.zero_le _) (Nat.zero_le _)
    · have hf := xif_f hf h14
      refine xV_iload 19 rfl dX10_codeOn_17 4 rfl ?_
      refine xV_aload_n 20 rfl dX10_codeOn_19 rfl 0 rfl ?_
      refine xV_iload 22 rfl dX10_codeOn_20 5 rfl ?_
      obtain ⟨v22, hv22, hf⟩ := xb_s hf
      refine xV_same (rest := [.int x4]) 25 rfl dX10_codeOn_22 rfl (C10_worth X.1.2.1 hv22) m10_worth v10_worth k10_94 rfl rfl rfl rfl rfl (Nat.le_of_ble_eq_true rfl) (Nat.le_of_ble_eq_true rfl) (Nat.le_of_ble_eq_true rfl) ⟨Nat.le_refl _, Nat.le_refl _⟩ ?_
      show xV (j10_codeOn) X 0 0 (hM c_thrown c_told c_read c_many c_eights c_gains c_notes c_seen c_turns c_drawn c_state c_tape c_taped c_size c_from c_next c_token c_value c_fault c_number c_fives c_isLeft c_wentTimes c_goes c_isLeftLaid c_game c_rows c_columns c_isFound c_bestValue c_bestBelow c_bestShare c_share c_matrix c_system c_shares c_allShares) 25 [(0, .ref 0), (1, .int x1), (2, .int x2), (3, .int x3), (4, .int x4), (5, .int x5)] [.int v22, .int x4]
      refine xV_iload_n 26 rfl dX10_codeOn_25 rfl 3 rfl ?_
      refine xV_icmp_ne (tgt := 45) 29 rfl dX10_codeOn_26 (by decide) (fun h26 => ?_) (fun h26 => ?_)
      · have hf := xif_f hf h26
        refine xV_iconst 46 rfl dX10_codeOn_45 xk_i0 ?_
        refine xV_sub [0, 1, 2, 3, 5] rfl ?_
        exact T10_codeOn_b46 hX (fun {_ _ _ _ _} hq => ih hq) hf
      · have hf := xif_t hf h26
        refine xV_aload_n 30 rfl dX10_codeOn_29 rfl 0 rfl ?_
        refine xV_get (v := .ref 11) 33 rfl dX10_codeOn_30 f10_50 rfl rfl ?_
        refine xV_aload_n 34 rfl dX10_codeOn_33 rfl 0 rfl ?_
        refine xV_iload_n 35 rfl dX10_codeOn_34 rfl 1 rfl ?_
        refine xV_iload_n 36 rfl dX10_codeOn_35 rfl 2 rfl ?_
        refine xV_iload 38 rfl dX10_codeOn_36 5 rfl ?_
        obtain ⟨v38, hv38, hf⟩ := xb_s hf
        refine xV_same (rest := [.ref 11, .int x4]) 41 rfl dX10_codeOn_38 rfl (C10_on X.1.2.1 hv38) m10_on v10_on k10_90 rfl rfl rfl rfl rfl (Nat.le_of_ble_eq_true rfl) (Nat.le_of_ble_eq_true rfl) (Nat.le_of_ble_eq_true rfl) ⟨Nat.le_refl _, Nat.le_refl _⟩ ?_
        show xV (j10_codeOn) X 0 0 (hM c_thrown c_told c_read c_many c_eights c_gains c_notes c_seen c_turns c_drawn c_state c_tape c_taped c_size c_from c_next c_token c_value c_fault c_number c_fives c_isLeft c_wentTimes c_goes c_isLeftLaid c_game c_rows c_columns c_isFound c_bestValue c_bestBelow c_bestShare c_share c_matrix c_system c_shares c_allShares) 41 [(0, .ref 0), (1, .int x1), (2, .int x2), (3, .int x3), (4, .int x4), (5, .int x5)] [.int v38, .ref 11, .int x4]
        obtain ⟨hg41, hf⟩ := xg_s hf
        refine xV_iaload 42 rfl dX10_codeOn_41 rfl (xin_ok hg41) rfl ?_
        refine xV_goto (tgt := 46) dX10_codeOn_42 (by decide) ?_
        refine xV_sub [0, 1, 2, 3, 5] rfl ?_
        exact T10_codeOn_b46 hX (fun {_ _ _ _ _} hq => ih hq) hf
def F10_codeOn (z : Nat) (x1 : Int32) (x2 : Int32) (x3 : Int32) (c_told : (Nat → Int32)) (c_eights : (Nat → Int32)) (c_fives : (Nat → Int32)) : Option (Int32) :=
  F10_codeOn_b6 z z x1 x2 x3 (0 : Int32) (0 : Int32) c_told c_eights c_fives
theorem T10_codeOn {X : xX} {z : Nat} {x1 : Int32} {x2 : Int32} {x3 : Int32} {c_told : (Nat → Int32)} {c_eights : (Nat → Int32)} {c_fives : (Nat → Int32)} {c_thrown : Int32} {c_read : (Nat → Int32)} {c_many : (Nat → Int32)} {c_gains : (Nat → Int32)} {c_notes : (Nat → Int32)} {c_seen : (Nat → Int32)} {c_turns : (Nat → Int32)} {c_drawn : (Nat → Int32)} {c_state : Int32} {c_tape : (Nat → Int32)} {c_taped : Int32} {c_size : Int32} {c_from : Int32} {c_next : Int32} {c_token : Int32} {c_value : Int32} {c_fault : Int32} {c_number : Int32} {c_isLeft : (Nat → Int32)} {c_wentTimes : Int32} {c_goes : (Nat → Int32)} {c_isLeftLaid : Int32} {c_game : (Nat → Int32)} {c_rows : Int32} {c_columns : Int32} {c_isFound : Int32} {c_bestValue : Int64} {c_bestBelow : Int64} {c_bestShare : (Nat → Int64)} {c_share : (Nat → Int64)} {c_matrix : (Nat → Int64)} {c_system : (Nat → Int64)} {c_shares : (Nat → Int32)} {c_allShares : Int32} {v : Int32} (hX : xIs (j10_codeOn) X ((some .int)) (some (.int v)) (hM c_thrown c_told c_read c_many c_eights c_gains c_notes c_seen c_turns c_drawn c_state c_tape c_taped c_size c_from c_next c_token c_value c_fault c_number c_fives c_isLeft c_wentTimes c_goes c_isLeftLaid c_game c_rows c_columns c_isFound c_bestValue c_bestBelow c_bestShare c_share c_matrix c_system c_shares c_allShares)) (hf : F10_codeOn z x1 x2 x3 c_told c_eights c_fives = some v) : xV (j10_codeOn) X 0 0 (hM c_thrown c_told c_read c_many c_eights c_gains c_notes c_seen c_turns c_drawn c_state c_tape c_taped c_size c_from c_next c_token c_value c_fault c_number c_fives c_isLeft c_wentTimes c_goes c_isLeftLaid c_game c_rows c_columns c_isFound c_bestValue c_bestBelow c_bestShare c_share c_matrix c_system c_shares c_allShares) 0 [(0, .ref 0), (1, .int x1), (2, .int x2), (3, .int x3)] [] := by
  unfold F10_codeOn at hf
  refine xV_iconst 1 rfl dX10_codeOn_0 xk_i0 ?_
  refine xV_istore (L' := [(4, .int (0 : Int32)), (0, .ref 0), (1, .int x1), (2, .int x2), (3, .int x3)]) 3 rfl dX10_codeOn_1 (xlt rfl) rfl ?_
  refine xV_iconst 4 rfl dX10_codeOn_3 xk_i0 ?_
  refine xV_istore (L' := [(5, .int (0 : Int32)), (4, .int (0 : Int32)), (0, .ref 0), (1, .int x1), (2, .int x2), (3, .int x3)]) 6 rfl dX10_codeOn_4 (xlt rfl) rfl ?_
  refine xV_sub [2, 3, 4, 5, 1, 0] rfl ?_
  exact T10_codeOn_b6 hX _ hf
theorem C10_codeOn (l : Launch) {z : Nat} {x1 : Int32} {x2 : Int32} {x3 : Int32} {c_told : (Nat → Int32)} {c_eights : (Nat → Int32)} {c_fives : (Nat → Int32)} {c_thrown : Int32} {c_read : (Nat → Int32)} {c_many : (Nat → Int32)} {c_gains : (Nat → Int32)} {c_notes : (Nat → Int32)} {c_seen : (Nat → Int32)} {c_turns : (Nat → Int32)} {c_drawn : (Nat → Int32)} {c_state : Int32} {c_tape : (Nat → Int32)} {c_taped : Int32} {c_size : Int32} {c_from : Int32} {c_next : Int32} {c_token : Int32} {c_value : Int32} {c_fault : Int32} {c_number : Int32} {c_isLeft : (Nat → Int32)} {c_wentTimes : Int32} {c_goes : (Nat → Int32)} {c_isLeftLaid : Int32} {c_game : (Nat → Int32)} {c_rows : Int32} {c_columns : Int32} {c_isFound : Int32} {c_bestValue : Int64} {c_bestBelow : Int64} {c_bestShare : (Nat → Int64)} {c_share : (Nat → Int64)} {c_matrix : (Nat → Int64)} {c_system : (Nat → Int64)} {c_shares : (Nat → Int32)} {c_allShares : Int32} {v : Int32} (hf : F10_codeOn z x1 x2 x3 c_told c_eights c_fives = some v) : xCt l yX10_codeOn ((some .int)) j10_codeOn [.ref 0, .int x1, .int x2, .int x3] (hM c_thrown c_told c_read c_many c_eights c_gains c_notes c_seen c_turns c_drawn c_state c_tape c_taped c_size c_from c_next c_token c_value c_fault c_number c_fives c_isLeft c_wentTimes c_goes c_isLeftLaid c_game c_rows c_columns c_isFound c_bestValue c_bestBelow c_bestShare c_share c_matrix c_system c_shares c_allShares) (some (.int v)) (hM c_thrown c_told c_read c_many c_eights c_gains c_notes c_seen c_turns c_drawn c_state c_tape c_taped c_size c_from c_next c_token c_value c_fault c_number c_fives c_isLeft c_wentTimes c_goes c_isLeftLaid c_game c_rows c_columns c_isFound c_bestValue c_bestBelow c_bestShare c_share c_matrix c_system c_shares c_allShares) := xCt_of (by decide) rfl (Nat.le_of_ble_eq_true rfl) (fun _ hX => T10_codeOn hX hf)
theorem m10_codeOn : xMd yX10_codeOn RX10 ((some .int)) j10_codeOn 3 := ⟨List.mem_of_getElem? (i := 659) (by decide +kernel), List.mem_of_getElem? (i := 5) (by decide +kernel), rfl, by decide +kernel⟩
theorem v10_codeOn : xMv yX10_codeOn RX10 := ⟨List.mem_of_getElem? (i := 657) (by decide +kernel), List.mem_of_getElem? (i := 658) (by decide +kernel)⟩
theorem k10_216 : Cond.methodLink RX10 216 yX10_codeOn ∈ wsL_law0 := List.mem_of_getElem? (i := 656) (by decide +kernel)
theorem dX10_areLike_0 : decode cX10_areLike 0 = .ok (.iconst 1, 1) := by decide +kernel
theorem dX10_areLike_1 : decode cX10_areLike 1 = .ok (.istore 4, 2) := by decide +kernel
theorem dX10_areLike_3 : decode cX10_areLike 3 = .ok (.iconst 0, 1) := by decide +kernel
theorem dX10_areLike_4 : decode cX10_areLike 4 = .ok (.istore 5, 2) := by decide +kernel
theorem dX10_areLike_6 : decode cX10_areLike 6 = .ok (.iload 5, 2) := by decide +kernel
theorem dX10_areLike_8 : decode cX10_areLike 8 = .ok (.aload_n 0, 1) := by decide +kernel
theorem dX10_areLike_9 : decode cX10_areLike 9 = .ok (.getfield 17, 3) := by decide +kernel
theorem dX10_areLike_12 : decode cX10_areLike 12 = .ok (.iconst 0, 1) := by decide +kernel
theorem dX10_areLike_13 : decode cX10_areLike 13 = .ok (.iaload, 1) := by decide +kernel
theorem dX10_areLike_14 : decode cX10_areLike 14 = .ok (.if_icmp .ge 48, 3) := by decide +kernel
theorem dX10_areLike_17 : decode cX10_areLike 17 = .ok (.iload 4, 2) := by decide +kernel
theorem dX10_areLike_19 : decode cX10_areLike 19 = .ok (.ifCond .eq 34, 3) := by decide +kernel
theorem dX10_areLike_22 : decode cX10_areLike 22 = .ok (.aload_n 0, 1) := by decide +kernel
theorem dX10_areLike_23 : decode cX10_areLike 23 = .ok (.iload_n 1, 1) := by decide +kernel
theorem dX10_areLike_24 : decode cX10_areLike 24 = .ok (.iload_n 2, 1) := by decide +kernel
theorem dX10_areLike_25 : decode cX10_areLike 25 = .ok (.aload_n 0, 1) := by decide +kernel
theorem dX10_areLike_26 : decode cX10_areLike 26 = .ok (.iload 5, 2) := by decide +kernel
theorem dX10_areLike_28 : decode cX10_areLike 28 = .ok (.invokevirtual 94, 3) := by decide +kernel
theorem dX10_areLike_31 : decode cX10_areLike 31 = .ok (.invokevirtual 216, 3) := by decide +kernel
theorem dX10_areLike_34 : decode cX10_areLike 34 = .ok (.aload_n 0, 1) := by decide +kernel
theorem dX10_areLike_35 : decode cX10_areLike 35 = .ok (.iload_n 1, 1) := by decide +kernel
theorem dX10_areLike_36 : decode cX10_areLike 36 = .ok (.iload_n 3, 1) := by decide +kernel
theorem dX10_areLike_37 : decode cX10_areLike 37 = .ok (.aload_n 0, 1) := by decide +kernel
theorem dX10_areLike_38 : decode cX10_areLike 38 = .ok (.iload 5, 2) := by decide +kernel
theorem dX10_areLike_40 : decode cX10_areLike 40 = .ok (.invokevirtual 94, 3) := by decide +kernel
theorem dX10_areLike_43 : decode cX10_areLike 43 = .ok (.invokevirtual 216, 3) := by decide +kernel
theorem dX10_areLike_46 : decode cX10_areLike 46 = .ok (.if_icmp .ne 7, 3) := by decide +kernel
theorem dX10_areLike_49 : decode cX10_areLike 49 = .ok (.iconst 1, 1) := by decide +kernel
theorem dX10_areLike_50 : decode cX10_areLike 50 = .ok (.goto 4, 3) := by decide +kernel
theorem dX10_areLike_53 : decode cX10_areLike 53 = .ok (.iconst 0, 1) := by decide +kernel
theorem dX10_areLike_54 : decode cX10_areLike 54 = .ok (.istore 4, 2) := by decide +kernel
theorem dX10_areLike_56 : decode cX10_areLike 56 = .ok (.iinc 5 1, 3) := by decide +kernel
theorem dX10_areLike_59 : decode cX10_areLike 59 = .ok (.goto (-53), 3) := by decide +kernel
theorem dX10_areLike_62 : decode cX10_areLike 62 = .ok (.iload 4, 2) := by decide +kernel
theorem dX10_areLike_64 : decode cX10_areLike 64 = .ok (.ireturn, 1) := by decide +kernel
abbrev j10_areLike : xJ := (cX10_areLike, 6, RX10, 4, 0, 0)
def F10_areLike_b54 (z : Nat) (x1 : Int32) (x2 : Int32) (x3 : Int32) (x5 : Int32) (s0 : Int32) (c_told : (Nat → Int32)) (c_eights : (Nat → Int32)) (c_fives : (Nat → Int32)) (k6 : Int32 → Int32 → Int32 → Int32 → Int32 → (Nat → Int32) → (Nat → Int32) → (Nat → Int32) → Option (Int32)) : Option (Int32) :=
  k6 x1 x2 x3 s0 (x5 + (1 : Int32)) c_told c_eights c_fives
theorem T10_areLike_b54 {X : xX} {c_thrown : Int32} {c_read : (Nat → Int32)} {c_many : (Nat → Int32)} {c_gains : (Nat → Int32)} {c_notes : (Nat → Int32)} {c_seen : (Nat → Int32)} {c_turns : (Nat → Int32)} {c_drawn : (Nat → Int32)} {c_state : Int32} {c_tape : (Nat → Int32)} {c_taped : Int32} {c_size : Int32} {c_from : Int32} {c_next : Int32} {c_token : Int32} {c_value : Int32} {c_fault : Int32} {c_number : Int32} {c_isLeft : (Nat → Int32)} {c_wentTimes : Int32} {c_goes : (Nat → Int32)} {c_isLeftLaid : Int32} {c_game : (Nat → Int32)} {c_rows : Int32} {c_columns : Int32} {c_isFound : Int32} {c_bestValue : Int64} {c_bestBelow : Int64} {c_bestShare : (Nat → Int64)} {c_share : (Nat → Int64)} {c_matrix : (Nat → Int64)} {c_system : (Nat → Int64)} {c_shares : (Nat → Int32)} {c_allShares : Int32} {x1 : Int32} {x2 : Int32} {x3 : Int32} {x5 : Int32} {s0 : Int32} {c_told : (Nat → Int32)} {c_eights : (Nat → Int32)} {c_fives : (Nat → Int32)} {z : Nat} {v : Int32} {k6 : Int32 → Int32 → Int32 → Int32 → Int32 → (Nat → Int32) → (Nat → Int32) → (Nat → Int32) → Option (Int32)} (hX : xIs (j10_areLike) X ((some .boolean)) (some (.int v)) (hM c_thrown c_told c_read c_many c_eights c_gains c_notes c_seen c_turns c_drawn c_state c_tape c_taped c_size c_from c_next c_token c_value c_fault c_number c_fives c_isLeft c_wentTimes c_goes c_isLeftLaid c_game c_rows c_columns c_isFound c_bestValue c_bestBelow c_bestShare c_share c_matrix c_system c_shares c_allShares)) (hk6 : ∀ {x1 : Int32} {x2 : Int32} {x3 : Int32} {x4 : Int32} {x5 : Int32}, k6 x1 x2 x3 x4 x5 c_told c_eights c_fives = some v → xV (j10_areLike) X 0 0 (hM c_thrown c_told c_read c_many c_eights c_gains c_notes c_seen c_turns c_drawn c_state c_tape c_taped c_size c_from c_next c_token c_value c_fault c_number c_fives c_isLeft c_wentTimes c_goes c_isLeftLaid c_game c_rows c_columns c_isFound c_bestValue c_bestBelow c_bestShare c_share c_matrix c_system c_shares c_allShares) 6 [(0, .ref 0), (1, .int x1), (2, .int x2), (3, .int x3), (4, .int x4), (5, .int x5)] []) (hf : F10_areLike_b54 z x1 x2 x3 x5 s0 c_told c_eights c_fives k6 = some v) : xV (j10_areLike) X 0 0 (hM c_thrown c_told c_read c_many c_eights c_gains c_notes c_seen c_turns c_drawn c_state c_tape c_taped c_size c_from c_next c_token c_value c_fault c_number c_fives c_isLeft c_wentTimes c_goes c_isLeftLaid c_game c_rows c_columns c_isFound c_bestValue c_bestBelow c_bestShare c_share c_matrix c_system c_shares c_allShares) 54 [(0, .ref 0), (1, .int x1), (2, .int x2), (3, .int x3), (5, .int x5)] [.int s0] := by
  unfold F10_areLike_b54 at hf
  refine xV_istore (L' := [(4, .int s0), (0, .ref 0), (1, .int x1), (2, .int x2), (3, .int x3), (5, .int x5)]) 56 rfl dX10_areLike_54 (xlt rfl) rfl ?_
  refine xV_iinc (L' := [(5, .int (x5 + (1 : Int32))), (4, .int s0), (0, .ref 0), (1, .int x1), (2, .int x2), (3, .int x3)]) 59 rfl dX10_areLike_56 5 rfl (xk_inc xk_i1) (xlt rfl) rfl ?_
  refine xV_goto (tgt := 6) dX10_areLike_59 (by decide) ?_
  refine xV_sub [2, 3, 4, 5, 1, 0] rfl ?_
  exact hk6 hf
def F10_areLike_b6 (z : Nat) (w : Nat) (x1 : Int32) (x2 : Int32) (x3 : Int32) (x4 : Int32) (x5 : Int32) (c_told : (Nat → Int32)) (c_eights : (Nat → Int32)) (c_fives : (Nat → Int32)) : Option (Int32) := match w with
  | 0 => none
  | w + 1 => if (c_told 0) ≤ x5 then (xg (xbo x4) (some (x4))) else (if x4 = 0 then (F10_areLike_b54 z x1 x2 x3 x5 (0 : Int32) c_told c_eights c_fives (fun q0 q1 q2 q3 q4 q5 q6 q7 => F10_areLike_b6 z w q0 q1 q2 q3 q4 q5 q6 q7)) else ((F10_worth x5 c_told).bind (fun v28 => (F10_codeOn z x1 x2 v28 c_told c_eights c_fives).bind (fun v31 => (F10_worth x5 c_told).bind (fun v40 => (F10_codeOn z x1 x3 v40 c_told c_eights c_fives).bind (fun v43 => if v31 = v43 then (F10_areLike_b54 z x1 x2 x3 x5 (1 : Int32) c_told c_eights c_fives (fun q0 q1 q2 q3 q4 q5 q6 q7 => F10_areLike_b6 z w q0 q1 q2 q3 q4 q5 q6 q7)) else (F10_areLike_b54 z x1 x2 x3 x5 (0 : Int32) c_told c_eights c_fives (fun q0 q1 q2 q3 q4 q5 q6 q7 => F10_areLike_b6 z w q0 q1 q2 q3 q4 q5 q6 q7))))))))
theorem T10_areLike_b6 {X : xX} {c_thrown : Int32} {c_told : (Nat → Int32)} {c_read : (Nat → Int32)} {c_many : (Nat → Int32)} {c_eights : (Nat → Int32)} {c_gains : (Nat → Int32)} {c_notes : (Nat → Int32)} {c_seen : (Nat → Int32)} {c_turns : (Nat → Int32)} {c_drawn : (Nat → Int32)} {c_state : Int32} {c_tape : (Nat → Int32)} {c_taped : Int32} {c_size : Int32} {c_from : Int32} {c_next : Int32} {c_token : Int32} {c_value : Int32} {c_fault : Int32} {c_number : Int32} {c_fives : (Nat → Int32)} {c_isLeft : (Nat → Int32)} {c_wentTimes : Int32} {c_goes : (Nat → Int32)} {c_isLeftLaid : Int32} {c_game : (Nat → Int32)} {c_rows : Int32} {c_columns : Int32} {c_isFound : Int32} {c_bestValue : Int64} {c_bestBelow : Int64} {c_bestShare : (Nat → Int64)} {c_share : (Nat → Int64)} {c_matrix : (Nat → Int64)} {c_system : (Nat → Int64)} {c_shares : (Nat → Int32)} {c_allShares : Int32} {z : Nat} {v : Int32} (hX : xIs (j10_areLike) X ((some .boolean)) (some (.int v)) (hM c_thrown c_told c_read c_many c_eights c_gains c_notes c_seen c_turns c_drawn c_state c_tape c_taped c_size c_from c_next c_token c_value c_fault c_number c_fives c_isLeft c_wentTimes c_goes c_isLeftLaid c_game c_rows c_columns c_isFound c_bestValue c_bestBelow c_bestShare c_share c_matrix c_system c_shares c_allShares)) : ∀ (w : Nat) {x1 : Int32} {x2 : Int32} {x3 : Int32} {x4 : Int32} {x5 : Int32}, F10_areLike_b6 z w x1 x2 x3 x4 x5 c_told c_eights c_fives = some v → xV (j10_areLike) X 0 0 (hM c_thrown c_told c_read c_many c_eights c_gains c_notes c_seen c_turns c_drawn c_state c_tape c_taped c_size c_from c_next c_token c_value c_fault c_number c_fives c_isLeft c_wentTimes c_goes c_isLeftLaid c_game c_rows c_columns c_isFound c_bestValue c_bestBelow c_bestShare c_share c_matrix c_system c_shares c_allShares) 6 [(0, .ref 0), (1, .int x1), (2, .int x2), (3, .int x3), (4, .int x4), (5, .int x5)] [] := by
  intro w
  induction w with
  | zero => intro x1 x2 x3 x4 x5 hf; cases hf
  | succ w ih =>
    intro x1 x2 x3 x4 x5 hf
    unfold F10_areLike_b6 at hf
    refine xV_iload 8 rfl dX10_areLike_6 5 rfl ?_
    refine xV_aload_n 9 rfl dX10_areLike_8 rfl 0 rfl ?_
    refine xV_get (v := .ref 1) 12 rfl dX10_areLike_9 f10_17 rfl rfl ?_
    refine xV_iconst 13 rfl dX10_areLike_12 xk_i0 ?_
    refine xV_iaload 14 rfl dX10_areLike_13 rfl xk_in0_56 xk_j0 ?_
    refine xV_icmp_ge (tgt := 62) 17 rfl dX10_areLike_14 (by decide) (fun h14 => ?_) (fun h14 => ?_)
    · have hf := xif_t hf h14
      refine xV_iload 64 rfl dX10_areLike_62 4 rfl ?_
      obtain ⟨hgr, hf⟩ := xg_s hf
      obtain rfl := Option.some.inj hf
      exact xV_iret hX dX10_areLike_64 (xbo_ok hgr) (Nat.zero_le _) (Nat.zero_le _)
    · have hf := xif_f hf h14
      refine xV_iload 19 rfl dX10_areLike_17 4 rfl ?_
      refine xV_if_eq (tgt := 53) 22 rfl dX10_areLike_19 (by decide) (fun h19 => ?_) (fun h19 => ?_)
      · have hf := xif_t hf h19
        refine xV_iconst 54 rfl dX10_areLike_53 xk_i0 ?_
        refine xV_sub [0, 1, 2, 3, 5] rfl ?_
        exact T10_areLike_b54 hX (fun {_ _ _ _ _} hq => ih hq) hf
      · have hf := xif_f hf h19
        refine xV_aload_n 23 rfl dX10_areLike_22 rfl 0 rfl ?_
        refine xV_iload_n 24 rfl dX10_areLike_23 rfl 1 rfl ?_
        refine xV_iload_n 25 rfl dX10_areLike_24 rfl 2 rfl ?_
        refine xV_aload_n 26 rfl dX10_areLike_25 rfl 0 rfl ?_
        refine xV_iload 28 rfl dX10_areLike_26 5 rfl ?_
        obtain ⟨v28, hv28, hf⟩ := xb_s hf
        refine xV_same (rest := [.int x2, .int x1, .ref 0]) 31 rfl dX10_areLike_28 rfl (C10_worth X.1.2.1 hv28) m10_worth v10_worth k10_94 rfl rfl rfl rfl rfl (Nat.le_of_ble_eq_true rfl) (Nat.le_of_ble_eq_true rfl) (Nat.le_of_ble_eq_true rfl) ⟨Nat.le_refl _, Nat.le_refl _⟩ ?_
        show xV (j10_areLike) X 0 0 (hM c_thrown c_told c_read c_many c_eights c_gains c_notes c_seen c_turns c_drawn c_state c_tape c_taped c_size c_from c_next c_token c_value c_fault c_number c_fives c_isLeft c_wentTimes c_goes c_isLeftLaid c_game c_rows c_columns c_isFound c_bestValue c_bestBelow c_bestShare c_share c_matrix c_system c_shares c_allShares) 31 [(0, .ref 0), (1, .int x1), (2, .int x2), (3, .int x3), (4, .int x4), (5, .int x5)] [.int v28, .int x2, .int x1, .ref 0]
        obtain ⟨v31, hv31, hf⟩ := xb_s hf
        refine xV_same (rest := []) 34 rfl dX10_areLike_31 rfl (C10_codeOn X.1.2.1 hv31) m10_codeOn v10_codeOn k10_216 rfl rfl rfl rfl rfl (Nat.le_of_ble_eq_true rfl) (Nat.le_of_ble_eq_true rfl) (Nat.le_of_ble_eq_true rfl) ⟨Nat.le_refl _, Nat.le_refl _⟩ ?_
        show xV (j10_areLike) X 0 0 (hM c_thrown c_told c_read c_many c_eights c_gains c_notes c_seen c_turns c_drawn c_state c_tape c_taped c_size c_from c_next c_token c_value c_fault c_number c_fives c_isLeft c_wentTimes c_goes c_isLeftLaid c_game c_rows c_columns c_isFound c_bestValue c_bestBelow c_bestShare c_share c_matrix c_system c_shares c_allShares) 34 [(0, .ref 0), (1, .int x1), (2, .int x2), (3, .int x3), (4, .int x4), (5, .int x5)] [.int v31]
        refine xV_aload_n 35 rfl dX10_areLike_34 rfl 0 rfl ?_
        refine xV_iload_n 36 rfl dX10_areLike_35 rfl 1 rfl ?_
        refine xV_iload_n 37 rfl dX10_areLike_36 rfl 3 rfl ?_
        refine xV_aload_n 38 rfl dX10_areLike_37 rfl 0 rfl ?_
        refine xV_iload 40 rfl dX10_areLike_38 5 rfl ?_
        obtain ⟨v40, hv40, hf⟩ := xb_s hf
        refine xV_same (rest := [.int x3, .int x1, .ref 0, .int v31]) 43 rfl dX10_areLike_40 rfl (C10_worth X.1.2.1 hv40) m10_worth v10_worth k10_94 rfl rfl rfl rfl rfl (Nat.le_of_ble_eq_true rfl) (Nat.le_of_ble_eq_true rfl) (Nat.le_of_ble_eq_true rfl) ⟨Nat.le_refl _, Nat.le_refl _⟩ ?_
        show xV (j10_areLike) X 0 0 (hM c_thrown c_told c_read c_many c_eights c_gains c_notes c_seen c_turns c_drawn c_state c_tape c_taped c_size c_from c_next c_token c_value c_fault c_number c_fives c_isLeft c_wentTimes c_goes c_isLeftLaid c_game c_rows c_columns c_isFound c_bestValue c_bestBelow c_bestShare c_share c_matrix c_system c_shares c_allShares) 43 [(0, .ref 0), (1, .int x1), (2, .int x2), (3, .int x3), (4, .int x4), (5, .int x5)] [.int v40, .int x3, .int x1, .ref 0, .int v31]
        obtain ⟨v43, hv43, hf⟩ := xb_s hf
        refine xV_same (rest := [.int v31]) 46 rfl dX10_areLike_43 rfl (C10_codeOn X.1.2.1 hv43) m10_codeOn v10_codeOn k10_216 rfl rfl rfl rfl rfl (Nat.le_of_ble_eq_true rfl) (Nat.le_of_ble_eq_true rfl) (Nat.le_of_ble_eq_true rfl) ⟨Nat.le_refl _, Nat.le_refl _⟩ ?_
        show xV (j10_areLike) X 0 0 (hM c_thrown c_told c_read c_many c_eights c_gains c_notes c_seen c_turns c_drawn c_state c_tape c_taped c_size c_from c_next c_token c_value c_fault c_number c_fives c_isLeft c_wentTimes c_goes c_isLeftLaid c_game c_rows c_columns c_isFound c_bestValue c_bestBelow c_bestShare c_share c_matrix c_system c_shares c_allShares) 46 [(0, .ref 0), (1, .int x1), (2, .int x2), (3, .int x3), (4, .int x4), (5, .int x5)] [.int v43, .int v31]
        refine xV_icmp_ne (tgt := 53) 49 rfl dX10_areLike_46 (by decide) (fun h46 => ?_) (fun h46 => ?_)
        · have hf := xif_f hf h46
          refine xV_iconst 54 rfl dX10_areLike_53 xk_i0 ?_
          refine xV_sub [0, 1, 2, 3, 5] rfl ?_
          exact T10_areLike_b54 hX (fun {_ _ _ _ _} hq => ih hq) hf
        · have hf := xif_t hf h46
          refine xV_iconst 50 rfl dX10_areLike_49 xk_i1 ?_
          refine xV_goto (tgt := 54) dX10_areLike_50 (by decide) ?_
          refine xV_sub [0, 1, 2, 3, 5] rfl ?_
          exact T10_areLike_b54 hX (fun {_ _ _ _ _} hq => ih hq) hf
def F10_areLike (z : Nat) (x1 : Int32) (x2 : Int32) (x3 : Int32) (c_told : (Nat → Int32)) (c_eights : (Nat → Int32)) (c_fives : (Nat → Int32)) : Option (Int32) :=
  F10_areLike_b6 z z x1 x2 x3 (1 : Int32) (0 : Int32) c_told c_eights c_fives
theorem T10_areLike {X : xX} {z : Nat} {x1 : Int32} {x2 : Int32} {x3 : Int32} {c_told : (Nat → Int32)} {c_eights : (Nat → Int32)} {c_fives : (Nat → Int32)} {c_thrown : Int32} {c_read : (Nat → Int32)} {c_many : (Nat → Int32)} {c_gains : (Nat → Int32)} {c_notes : (Nat → Int32)} {c_seen : (Nat → Int32)} {c_turns : (Nat → Int32)} {c_drawn : (Nat → Int32)} {c_state : Int32} {c_tape : (Nat → Int32)} {c_taped : Int32} {c_size : Int32} {c_from : Int32} {c_next : Int32} {c_token : Int32} {c_value : Int32} {c_fault : Int32} {c_number : Int32} {c_isLeft : (Nat → Int32)} {c_wentTimes : Int32} {c_goes : (Nat → Int32)} {c_isLeftLaid : Int32} {c_game : (Nat → Int32)} {c_rows : Int32} {c_columns : Int32} {c_isFound : Int32} {c_bestValue : Int64} {c_bestBelow : Int64} {c_bestShare : (Nat → Int64)} {c_share : (Nat → Int64)} {c_matrix : (Nat → Int64)} {c_system : (Nat → Int64)} {c_shares : (Nat → Int32)} {c_allShares : Int32} {v : Int32} (hX : xIs (j10_areLike) X ((some .boolean)) (some (.int v)) (hM c_thrown c_told c_read c_many c_eights c_gains c_notes c_seen c_turns c_drawn c_state c_tape c_taped c_size c_from c_next c_token c_value c_fault c_number c_fives c_isLeft c_wentTimes c_goes c_isLeftLaid c_game c_rows c_columns c_isFound c_bestValue c_bestBelow c_bestShare c_share c_matrix c_system c_shares c_allShares)) (hf : F10_areLike z x1 x2 x3 c_told c_eights c_fives = some v) : xV (j10_areLike) X 0 0 (hM c_thrown c_told c_read c_many c_eights c_gains c_notes c_seen c_turns c_drawn c_state c_tape c_taped c_size c_from c_next c_token c_value c_fault c_number c_fives c_isLeft c_wentTimes c_goes c_isLeftLaid c_game c_rows c_columns c_isFound c_bestValue c_bestBelow c_bestShare c_share c_matrix c_system c_shares c_allShares) 0 [(0, .ref 0), (1, .int x1), (2, .int x2), (3, .int x3)] [] := by
  unfold F10_areLike at hf
  refine xV_iconst 1 rfl dX10_areLike_0 xk_i1 ?_
  refine xV_istore (L' := [(4, .int (1 : Int32)), (0, .ref 0), (1, .int x1), (2, .int x2), (3, .int x3)]) 3 rfl dX10_areLike_1 (xlt rfl) rfl ?_
  refine xV_iconst 4 rfl dX10_areLike_3 xk_i0 ?_
  refine xV_istore (L' := [(5, .int (0 : Int32)), (4, .int (1 : Int32)), (0, .ref 0), (1, .int x1), (2, .int x2), (3, .int x3)]) 6 rfl dX10_areLike_4 (xlt rfl) rfl ?_
  refine xV_sub [2, 3, 4, 5, 1, 0] rfl ?_
  exact T10_areLike_b6 hX _ hf
theorem C10_areLike (l : Launch) {z : Nat} {x1 : Int32} {x2 : Int32} {x3 : Int32} {c_told : (Nat → Int32)} {c_eights : (Nat → Int32)} {c_fives : (Nat → Int32)} {c_thrown : Int32} {c_read : (Nat → Int32)} {c_many : (Nat → Int32)} {c_gains : (Nat → Int32)} {c_notes : (Nat → Int32)} {c_seen : (Nat → Int32)} {c_turns : (Nat → Int32)} {c_drawn : (Nat → Int32)} {c_state : Int32} {c_tape : (Nat → Int32)} {c_taped : Int32} {c_size : Int32} {c_from : Int32} {c_next : Int32} {c_token : Int32} {c_value : Int32} {c_fault : Int32} {c_number : Int32} {c_isLeft : (Nat → Int32)} {c_wentTimes : Int32} {c_goes : (Nat → Int32)} {c_isLeftLaid : Int32} {c_game : (Nat → Int32)} {c_rows : Int32} {c_columns : Int32} {c_isFound : Int32} {c_bestValue : Int64} {c_bestBelow : Int64} {c_bestShare : (Nat → Int64)} {c_share : (Nat → Int64)} {c_matrix : (Nat → Int64)} {c_system : (Nat → Int64)} {c_shares : (Nat → Int32)} {c_allShares : Int32} {v : Int32} (hf : F10_areLike z x1 x2 x3 c_told c_eights c_fives = some v) : xCt l yX10_areLike ((some .boolean)) j10_areLike [.ref 0, .int x1, .int x2, .int x3] (hM c_thrown c_told c_read c_many c_eights c_gains c_notes c_seen c_turns c_drawn c_state c_tape c_taped c_size c_from c_next c_token c_value c_fault c_number c_fives c_isLeft c_wentTimes c_goes c_isLeftLaid c_game c_rows c_columns c_isFound c_bestValue c_bestBelow c_bestShare c_share c_matrix c_system c_shares c_allShares) (some (.int v)) (hM c_thrown c_told c_read c_many c_eights c_gains c_notes c_seen c_turns c_drawn c_state c_tape c_taped c_size c_from c_next c_token c_value c_fault c_number c_fives c_isLeft c_wentTimes c_goes c_isLeftLaid c_game c_rows c_columns c_isFound c_bestValue c_bestBelow c_bestShare c_share c_matrix c_system c_shares c_allShares) := xCt_of (by decide) rfl (Nat.le_of_ble_eq_true rfl) (fun _ hX => T10_areLike hX hf)
theorem m10_areLike : xMd yX10_areLike RX10 ((some .boolean)) j10_areLike 3 := ⟨List.mem_of_getElem? (i := 655) (by decide +kernel), List.mem_of_getElem? (i := 5) (by decide +kernel), rfl, by decide +kernel⟩
theorem v10_areLike : xMv yX10_areLike RX10 := ⟨List.mem_of_getElem? (i := 653) (by decide +kernel), List.mem_of_getElem? (i := 654) (by decide +kernel)⟩
theorem k10_219 : Cond.methodLink RX10 219 yX10_areLike ∈ wsL_law0 := List.mem_of_getElem? (i := 652) (by decide +kernel)
theorem dX10_firstLike_0 : decode cX10_firstLike 0 = .ok (.iconst 0, 1) := by decide +kernel
theorem dX10_firstLike_1 : decode cX10_firstLike 1 = .ok (.istore_n 3, 1) := by decide +kernel
theorem dX10_firstLike_2 : decode cX10_firstLike 2 = .ok (.aload_n 0, 1) := by decide +kernel
theorem dX10_firstLike_3 : decode cX10_firstLike 3 = .ok (.iload_n 1, 1) := by decide +kernel
theorem dX10_firstLike_4 : decode cX10_firstLike 4 = .ok (.iload_n 2, 1) := by decide +kernel
theorem dX10_firstLike_5 : decode cX10_firstLike 5 = .ok (.iload_n 3, 1) := by decide +kernel
theorem dX10_firstLike_6 : decode cX10_firstLike 6 = .ok (.invokevirtual 219, 3) := by decide +kernel
theorem dX10_firstLike_9 : decode cX10_firstLike 9 = .ok (.ifCond .ne 9, 3) := by decide +kernel
theorem dX10_firstLike_12 : decode cX10_firstLike 12 = .ok (.iinc 3 1, 3) := by decide +kernel
theorem dX10_firstLike_15 : decode cX10_firstLike 15 = .ok (.goto (-13), 3) := by decide +kernel
theorem dX10_firstLike_18 : decode cX10_firstLike 18 = .ok (.iload_n 3, 1) := by decide +kernel
theorem dX10_firstLike_19 : decode cX10_firstLike 19 = .ok (.ireturn, 1) := by decide +kernel
abbrev j10_firstLike : xJ := (cX10_firstLike, 4, RX10, 5, 0, 0)
def F10_firstLike_b2 (z : Nat) (w : Nat) (x1 : Int32) (x2 : Int32) (x3 : Int32) (c_told : (Nat → Int32)) (c_eights : (Nat → Int32)) (c_fives : (Nat → Int32)) : Option (Int32) := match w with
  | 0 => none
  | w + 1 => (F10_areLike z x1 x2 x3 c_told c_eights c_fives).bind (fun v6 => if v6 = 0 then (F10_firstLike_b2 z w x1 x2 (x3 + (1 : Int32)) c_told c_eights c_fives) else (some (x3)))
theorem T10_firstLike_b2 {X : xX} {c_thrown : Int32} {c_told : (Nat → Int32)} {c_read : (Nat → Int32)} {c_many : (Nat → Int32)} {c_eights : (Nat → Int32)} {c_gains : (Nat → Int32)} {c_notes : (Nat → Int32)} {c_seen : (Nat → Int32)} {c_turns : (Nat → Int32)} {c_drawn : (Nat → Int32)} {c_state : Int32} {c_tape : (Nat → Int32)} {c_taped : Int32} {c_size : Int32} {c_from : Int32} {c_next : Int32} {c_token : Int32} {c_value : Int32} {c_fault : Int32} {c_number : Int32} {c_fives : (Nat → Int32)} {c_isLeft : (Nat → Int32)} {c_wentTimes : Int32} {c_goes : (Nat → Int32)} {c_isLeftLaid : Int32} {c_game : (Nat → Int32)} {c_rows : Int32} {c_columns : Int32} {c_isFound : Int32} {c_bestValue : Int64} {c_bestBelow : Int64} {c_bestShare : (Nat → Int64)} {c_share : (Nat → Int64)} {c_matrix : (Nat → Int64)} {c_system : (Nat → Int64)} {c_shares : (Nat → Int32)} {c_allShares : Int32} {z : Nat} {v : Int32} (hX : xIs (j10_firstLike) X ((some .int)) (some (.int v)) (hM c_thrown c_told c_read c_many c_eights c_gains c_notes c_seen c_turns c_drawn c_state c_tape c_taped c_size c_from c_next c_token c_value c_fault c_number c_fives c_isLeft c_wentTimes c_goes c_isLeftLaid c_game c_rows c_columns c_isFound c_bestValue c_bestBelow c_bestShare c_share c_matrix c_system c_shares c_allShares)) : ∀ (w : Nat) {x1 : Int32} {x2 : Int32} {x3 : Int32}, F10_firstLike_b2 z w x1 x2 x3 c_told c_eights c_fives = some v → xV (j10_firstLike) X 0 0 (hM c_thrown c_told c_read c_many c_eights c_gains c_notes c_seen c_turns c_drawn c_state c_tape c_taped c_size c_from c_next c_token c_value c_fault c_number c_fives c_isLeft c_wentTimes c_goes c_isLeftLaid c_game c_rows c_columns c_isFound c_bestValue c_bestBelow c_bestShare c_share c_matrix c_system c_shares c_allShares) 2 [(0, .ref 0), (1, .int x1), (2, .int x2), (3, .int x3)] [] := by
  intro w
  induction w with
  | zero => intro x1 x2 x3 hf; cases hf
  | succ w ih =>
    intro x1 x2 x3 hf
    unfold F10_firstLike_b2 at hf
    refine xV_aload_n 3 rfl dX10_firstLike_2 rfl 0 rfl ?_
    refine xV_iload_n 4 rfl dX10_firstLike_3 rfl 1 rfl ?_
    refine xV_iload_n 5 rfl dX10_firstLike_4 rfl 2 rfl ?_
    refine xV_iload_n 6 rfl dX10_firstLike_5 rfl 3 rfl ?_
    obtain ⟨v6, hv6, hf⟩ := xb_s hf
    refine xV_same (rest := []) 9 rfl dX10_firstLike_6 rfl (C10_areLike X.1.2.1 hv6) m10_areLike v10_areLike k10_219 rfl rfl rfl rfl rfl (Nat.le_of_ble_eq_true rfl) (Nat.le_of_ble_eq_true rfl) (Nat.le_of_ble_eq_true rfl) ⟨Nat.le_refl _, Nat.le_refl _⟩ ?_
    show xV (j10_firstLike) X 0 0 (hM c_thrown c_told c_read c_many c_eights c_gains c_notes c_seen c_turns c_drawn c_state c_tape c_taped c_size c_from c_next c_token c_value c_fault c_number c_fives c_isLeft c_wentTimes c_goes c_isLeftLaid c_game c_rows c_columns c_isFound c_bestValue c_bestBelow c_bestShare c_share c_matrix c_system c_shares c_allShares) 9 [(0, .ref 0), (1, .int x1), (2, .int x2), (3, .int x3)] [.int v6]
    refine xV_if_ne (tgt := 18) 12 rfl dX10_firstLike_9 (by decide) (fun h9 => ?_) (fun h9 => ?_)
    · have hf := xif_f hf h9
      refine xV_iload_n 19 rfl dX10_firstLike_18 rfl 3 rfl ?_
      obtain rfl := Option.some.inj hf
      exact xV_iret hX dX10_firstLike_19 rfl (Nat.zero_le _) (Nat.zero_le _)
    · have hf := xif_t hf h9
      refine xV_iinc (L' := [(3, .int (x3 + (1 : Int32))), (0, .ref 0), (1, .int x1), (2, .int x2)]) 15 rfl dX10_firstLike_12 3 rfl (xk_inc xk_i1) (xlt rfl) rfl ?_
      refine xV_goto (tgt := 2) dX10_firstLike_15 (by decide) ?_
      refine xV_sub [1, 2, 3, 0] rfl ?_
      exact ih hf
def F10_firstLike (z : Nat) (x1 : Int32) (x2 : Int32) (c_told : (Nat → Int32)) (c_eights : (Nat → Int32)) (c_fives : (Nat → Int32)) : Option (Int32) :=
  F10_firstLike_b2 z z x1 x2 (0 : Int32) c_told c_eights c_fives
theorem T10_firstLike {X : xX} {z : Nat} {x1 : Int32} {x2 : Int32} {c_told : (Nat → Int32)} {c_eights : (Nat → Int32)} {c_fives : (Nat → Int32)} {c_thrown : Int32} {c_read : (Nat → Int32)} {c_many : (Nat → Int32)} {c_gains : (Nat → Int32)} {c_notes : (Nat → Int32)} {c_seen : (Nat → Int32)} {c_turns : (Nat → Int32)} {c_drawn : (Nat → Int32)} {c_state : Int32} {c_tape : (Nat → Int32)} {c_taped : Int32} {c_size : Int32} {c_from : Int32} {c_next : Int32} {c_token : Int32} {c_value : Int32} {c_fault : Int32} {c_number : Int32} {c_isLeft : (Nat → Int32)} {c_wentTimes : Int32} {c_goes : (Nat → Int32)} {c_isLeftLaid : Int32} {c_game : (Nat → Int32)} {c_rows : Int32} {c_columns : Int32} {c_isFound : Int32} {c_bestValue : Int64} {c_bestBelow : Int64} {c_bestShare : (Nat → Int64)} {c_share : (Nat → Int64)} {c_matrix : (Nat → Int64)} {c_system : (Nat → Int64)} {c_shares : (Nat → Int32)} {c_allShares : Int32} {v : Int32} (hX : xIs (j10_firstLike) X ((some .int)) (some (.int v)) (hM c_thrown c_told c_read c_many c_eights c_gains c_notes c_seen c_turns c_drawn c_state c_tape c_taped c_size c_from c_next c_token c_value c_fault c_number c_fives c_isLeft c_wentTimes c_goes c_isLeftLaid c_game c_rows c_columns c_isFound c_bestValue c_bestBelow c_bestShare c_share c_matrix c_system c_shares c_allShares)) (hf : F10_firstLike z x1 x2 c_told c_eights c_fives = some v) : xV (j10_firstLike) X 0 0 (hM c_thrown c_told c_read c_many c_eights c_gains c_notes c_seen c_turns c_drawn c_state c_tape c_taped c_size c_from c_next c_token c_value c_fault c_number c_fives c_isLeft c_wentTimes c_goes c_isLeftLaid c_game c_rows c_columns c_isFound c_bestValue c_bestBelow c_bestShare c_share c_matrix c_system c_shares c_allShares) 0 [(0, .ref 0), (1, .int x1), (2, .int x2)] [] := by
  unfold F10_firstLike at hf
  refine xV_iconst 1 rfl dX10_firstLike_0 xk_i0 ?_
  refine xV_istore_n (L' := [(3, .int (0 : Int32)), (0, .ref 0), (1, .int x1), (2, .int x2)]) 2 rfl dX10_firstLike_1 rfl (xlt rfl) rfl ?_
  refine xV_sub [1, 2, 3, 0] rfl ?_
  exact T10_firstLike_b2 hX _ hf
theorem C10_firstLike (l : Launch) {z : Nat} {x1 : Int32} {x2 : Int32} {c_told : (Nat → Int32)} {c_eights : (Nat → Int32)} {c_fives : (Nat → Int32)} {c_thrown : Int32} {c_read : (Nat → Int32)} {c_many : (Nat → Int32)} {c_gains : (Nat → Int32)} {c_notes : (Nat → Int32)} {c_seen : (Nat → Int32)} {c_turns : (Nat → Int32)} {c_drawn : (Nat → Int32)} {c_state : Int32} {c_tape : (Nat → Int32)} {c_taped : Int32} {c_size : Int32} {c_from : Int32} {c_next : Int32} {c_token : Int32} {c_value : Int32} {c_fault : Int32} {c_number : Int32} {c_isLeft : (Nat → Int32)} {c_wentTimes : Int32} {c_goes : (Nat → Int32)} {c_isLeftLaid : Int32} {c_game : (Nat → Int32)} {c_rows : Int32} {c_columns : Int32} {c_isFound : Int32} {c_bestValue : Int64} {c_bestBelow : Int64} {c_bestShare : (Nat → Int64)} {c_share : (Nat → Int64)} {c_matrix : (Nat → Int64)} {c_system : (Nat → Int64)} {c_shares : (Nat → Int32)} {c_allShares : Int32} {v : Int32} (hf : F10_firstLike z x1 x2 c_told c_eights c_fives = some v) : xCt l yX10_firstLike ((some .int)) j10_firstLike [.ref 0, .int x1, .int x2] (hM c_thrown c_told c_read c_many c_eights c_gains c_notes c_seen c_turns c_drawn c_state c_tape c_taped c_size c_from c_next c_token c_value c_fault c_number c_fives c_isLeft c_wentTimes c_goes c_isLeftLaid c_game c_rows c_columns c_isFound c_bestValue c_bestBelow c_bestShare c_share c_matrix c_system c_shares c_allShares) (some (.int v)) (hM c_thrown c_told c_read c_many c_eights c_gains c_notes c_seen c_turns c_drawn c_state c_tape c_taped c_size c_from c_next c_token c_value c_fault c_number c_fives c_isLeft c_wentTimes c_goes c_isLeftLaid c_game c_rows c_columns c_isFound c_bestValue c_bestBelow c_bestShare c_share c_matrix c_system c_shares c_allShares) := xCt_of (by decide) rfl (Nat.le_of_ble_eq_true rfl) (fun _ hX => T10_firstLike hX hf)
theorem m10_firstLike : xMd yX10_firstLike RX10 ((some .int)) j10_firstLike 2 := ⟨List.mem_of_getElem? (i := 651) (by decide +kernel), List.mem_of_getElem? (i := 5) (by decide +kernel), rfl, by decide +kernel⟩
theorem v10_firstLike : xMv yX10_firstLike RX10 := ⟨List.mem_of_getElem? (i := 649) (by decide +kernel), List.mem_of_getElem? (i := 650) (by decide +kernel)⟩
theorem k10_222 : Cond.methodLink RX10 222 yX10_firstLike ∈ wsL_law0 := List.mem_of_getElem? (i := 648) (by decide +kernel)
theorem dX10_begun_0 : decode cX10_begun 0 = .ok (.iconst 0, 1) := by decide +kernel
theorem dX10_begun_1 : decode cX10_begun 1 = .ok (.istore_n 3, 1) := by decide +kernel
theorem dX10_begun_2 : decode cX10_begun 2 = .ok (.iconst 0, 1) := by decide +kernel
theorem dX10_begun_3 : decode cX10_begun 3 = .ok (.istore 4, 2) := by decide +kernel
theorem dX10_begun_5 : decode cX10_begun 5 = .ok (.iload 4, 2) := by decide +kernel
theorem dX10_begun_7 : decode cX10_begun 7 = .ok (.iload_n 2, 1) := by decide +kernel
theorem dX10_begun_8 : decode cX10_begun 8 = .ok (.if_icmp .gt 29, 3) := by decide +kernel
theorem dX10_begun_11 : decode cX10_begun 11 = .ok (.iload_n 3, 1) := by decide +kernel
theorem dX10_begun_12 : decode cX10_begun 12 = .ok (.aload_n 0, 1) := by decide +kernel
theorem dX10_begun_13 : decode cX10_begun 13 = .ok (.iload_n 1, 1) := by decide +kernel
theorem dX10_begun_14 : decode cX10_begun 14 = .ok (.iload 4, 2) := by decide +kernel
theorem dX10_begun_16 : decode cX10_begun 16 = .ok (.invokevirtual 222, 3) := by decide +kernel
theorem dX10_begun_19 : decode cX10_begun 19 = .ok (.iload 4, 2) := by decide +kernel
theorem dX10_begun_21 : decode cX10_begun 21 = .ok (.if_icmp .ne 7, 3) := by decide +kernel
theorem dX10_begun_24 : decode cX10_begun 24 = .ok (.iconst 1, 1) := by decide +kernel
theorem dX10_begun_25 : decode cX10_begun 25 = .ok (.goto 4, 3) := by decide +kernel
theorem dX10_begun_28 : decode cX10_begun 28 = .ok (.iconst 0, 1) := by decide +kernel
theorem dX10_begun_29 : decode cX10_begun 29 = .ok (.iadd, 1) := by decide +kernel
theorem dX10_begun_30 : decode cX10_begun 30 = .ok (.istore_n 3, 1) := by decide +kernel
theorem dX10_begun_31 : decode cX10_begun 31 = .ok (.iinc 4 1, 3) := by decide +kernel
theorem dX10_begun_34 : decode cX10_begun 34 = .ok (.goto (-29), 3) := by decide +kernel
theorem dX10_begun_37 : decode cX10_begun 37 = .ok (.iload_n 3, 1) := by decide +kernel
theorem dX10_begun_38 : decode cX10_begun 38 = .ok (.ireturn, 1) := by decide +kernel
abbrev j10_begun : xJ := (cX10_begun, 5, RX10, 6, 0, 0)
def F10_begun_b29 (z : Nat) (x1 : Int32) (x2 : Int32) (x4 : Int32) (s0 : Int32) (s1 : Int32) (c_told : (Nat → Int32)) (c_eights : (Nat → Int32)) (c_fives : (Nat → Int32)) (k5 : Int32 → Int32 → Int32 → Int32 → (Nat → Int32) → (Nat → Int32) → (Nat → Int32) → Option (Int32)) : Option (Int32) :=
  k5 x1 x2 (s0 + s1) (x4 + (1 : Int32)) c_told c_eights c_fives
theorem T10_begun_b29 {X : xX} {c_thrown : Int32} {c_read : (Nat → Int32)} {c_many : (Nat → Int32)} {c_gains : (Nat → Int32)} {c_notes : (Nat → Int32)} {c_seen : (Nat → Int32)} {c_turns : (Nat → Int32)} {c_drawn : (Nat → Int32)} {c_state : Int32} {c_tape : (Nat → Int32)} {c_taped : Int32} {c_size : Int32} {c_from : Int32} {c_next : Int32} {c_token : Int32} {c_value : Int32} {c_fault : Int32} {c_number : Int32} {c_isLeft : (Nat → Int32)} {c_wentTimes : Int32} {c_goes : (Nat → Int32)} {c_isLeftLaid : Int32} {c_game : (Nat → Int32)} {c_rows : Int32} {c_columns : Int32} {c_isFound : Int32} {c_bestValue : Int64} {c_bestBelow : Int64} {c_bestShare : (Nat → Int64)} {c_share : (Nat → Int64)} {c_matrix : (Nat → Int64)} {c_system : (Nat → Int64)} {c_shares : (Nat → Int32)} {c_allShares : Int32} {x1 : Int32} {x2 : Int32} {x4 : Int32} {s0 : Int32} {s1 : Int32} {c_told : (Nat → Int32)} {c_eights : (Nat → Int32)} {c_fives : (Nat → Int32)} {z : Nat} {v : Int32} {k5 : Int32 → Int32 → Int32 → Int32 → (Nat → Int32) → (Nat → Int32) → (Nat → Int32) → Option (Int32)} (hX : xIs (j10_begun) X ((some .int)) (some (.int v)) (hM c_thrown c_told c_read c_many c_eights c_gains c_notes c_seen c_turns c_drawn c_state c_tape c_taped c_size c_from c_next c_token c_value c_fault c_number c_fives c_isLeft c_wentTimes c_goes c_isLeftLaid c_game c_rows c_columns c_isFound c_bestValue c_bestBelow c_bestShare c_share c_matrix c_system c_shares c_allShares)) (hk5 : ∀ {x1 : Int32} {x2 : Int32} {x3 : Int32} {x4 : Int32}, k5 x1 x2 x3 x4 c_told c_eights c_fives = some v → xV (j10_begun) X 0 0 (hM c_thrown c_told c_read c_many c_eights c_gains c_notes c_seen c_turns c_drawn c_state c_tape c_taped c_size c_from c_next c_token c_value c_fault c_number c_fives c_isLeft c_wentTimes c_goes c_isLeftLaid c_game c_rows c_columns c_isFound c_bestValue c_bestBelow c_bestShare c_share c_matrix c_system c_shares c_allShares) 5 [(0, .ref 0), (1, .int x1), (2, .int x2), (3, .int x3), (4, .int x4)] []) (hf : F10_begun_b29 z x1 x2 x4 s0 s1 c_told c_eights c_fives k5 = some v) : xV (j10_begun) X 0 0 (hM c_thrown c_told c_read c_many c_eights c_gains c_notes c_seen c_turns c_drawn c_state c_tape c_taped c_size c_from c_next c_token c_value c_fault c_number c_fives c_isLeft c_wentTimes c_goes c_isLeftLaid c_game c_rows c_columns c_isFound c_bestValue c_bestBelow c_bestShare c_share c_matrix c_system c_shares c_allShares) 29 [(0, .ref 0), (1, .int x1), (2, .int x2), (4, .int x4)] [.int s1, .int s0] := by
  unfold F10_begun_b29 at hf
  refine xV_iadd 30 rfl dX10_begun_29 ?_
  refine xV_istore_n (L' := [(3, .int (s0 + s1)), (0, .ref 0), (1, .int x1), (2, .int x2), (4, .int x4)]) 31 rfl dX10_begun_30 rfl (xlt rfl) rfl ?_
  refine xV_iinc (L' := [(4, .int (x4 + (1 : Int32))), (3, .int (s0 + s1)), (0, .ref 0), (1, .int x1), (2, .int x2)]) 34 rfl dX10_begun_31 4 rfl (xk_inc xk_i1) (xlt rfl) rfl ?_
  refine xV_goto (tgt := 5) dX10_begun_34 (by decide) ?_
  refine xV_sub [2, 3, 4, 1, 0] rfl ?_
  exact hk5 hf
def F10_begun_b5 (z : Nat) (w : Nat) (x1 : Int32) (x2 : Int32) (x3 : Int32) (x4 : Int32) (c_told : (Nat → Int32)) (c_eights : (Nat → Int32)) (c_fives : (Nat → Int32)) : Option (Int32) := match w with
  | 0 => none
  | w + 1 => if x2 < x4 then (some (x3)) else ((F10_firstLike z x1 x4 c_told c_eights c_fives).bind (fun v16 => if v16 = x4 then (F10_begun_b29 z x1 x2 x4 x3 (1 : Int32) c_told c_eights c_fives (fun q0 q1 q2 q3 q4 q5 q6 => F10_begun_b5 z w q0 q1 q2 q3 q4 q5 q6)) else (F10_begun_b29 z x1 x2 x4 x3 (0 : Int32) c_told c_eights c_fives (fun q0 q1 q2 q3 q4 q5 q6 => F10_begun_b5 z w q0 q1 q2 q3 q4 q5 q6))))
theorem T10_begun_b5 {X : xX} {c_thrown : Int32} {c_told : (Nat → Int32)} {c_read : (Nat → Int32)} {c_many : (Nat → Int32)} {c_eights : (Nat → Int32)} {c_gains : (Nat → Int32)} {c_notes : (Nat → Int32)} {c_seen : (Nat → Int32)} {c_turns : (Nat → Int32)} {c_drawn : (Nat → Int32)} {c_state : Int32} {c_tape : (Nat → Int32)} {c_taped : Int32} {c_size : Int32} {c_from : Int32} {c_next : Int32} {c_token : Int32} {c_value : Int32} {c_fault : Int32} {c_number : Int32} {c_fives : (Nat → Int32)} {c_isLeft : (Nat → Int32)} {c_wentTimes : Int32} {c_goes : (Nat → Int32)} {c_isLeftLaid : Int32} {c_game : (Nat → Int32)} {c_rows : Int32} {c_columns : Int32} {c_isFound : Int32} {c_bestValue : Int64} {c_bestBelow : Int64} {c_bestShare : (Nat → Int64)} {c_share : (Nat → Int64)} {c_matrix : (Nat → Int64)} {c_system : (Nat → Int64)} {c_shares : (Nat → Int32)} {c_allShares : Int32} {z : Nat} {v : Int32} (hX : xIs (j10_begun) X ((some .int)) (some (.int v)) (hM c_thrown c_told c_read c_many c_eights c_gains c_notes c_seen c_turns c_drawn c_state c_tape c_taped c_size c_from c_next c_token c_value c_fault c_number c_fives c_isLeft c_wentTimes c_goes c_isLeftLaid c_game c_rows c_columns c_isFound c_bestValue c_bestBelow c_bestShare c_share c_matrix c_system c_shares c_allShares)) : ∀ (w : Nat) {x1 : Int32} {x2 : Int32} {x3 : Int32} {x4 : Int32}, F10_begun_b5 z w x1 x2 x3 x4 c_told c_eights c_fives = some v → xV (j10_begun) X 0 0 (hM c_thrown c_told c_read c_many c_eights c_gains c_notes c_seen c_turns c_drawn c_state c_tape c_taped c_size c_from c_next c_token c_value c_fault c_number c_fives c_isLeft c_wentTimes c_goes c_isLeftLaid c_game c_rows c_columns c_isFound c_bestValue c_bestBelow c_bestShare c_share c_matrix c_system c_shares c_allShares) 5 [(0, .ref 0), (1, .int x1), (2, .int x2), (3, .int x3), (4, .int x4)] [] := by
  intro w
  induction w with
  | zero => intro x1 x2 x3 x4 hf; cases hf
  | succ w ih =>
    intro x1 x2 x3 x4 hf
    unfold F10_begun_b5 at hf
    refine xV_iload 7 rfl dX10_begun_5 4 rfl ?_
    refine xV_iload_n 8 rfl dX10_begun_7 rfl 2 rfl ?_
    refine xV_icmp_gt (tgt := 37) 11 rfl dX10_begun_8 (by decide) (fun h8 => ?_) (fun h8 => ?_)
    · have hf := xif_t hf h8
      refine xV_iload_n 38 rfl dX10_begun_37 rfl 3 rfl ?_
      obtain rfl := Option.some.inj hf
      exact xV_iret hX dX10_begun_38 rfl (Nat.zero_le _) (Nat.zero_le _)
    · have hf := xif_f hf h8
      refine xV_iload_n 12 rfl dX10_begun_11 rfl 3 rfl ?_
      refine xV_aload_n 13 rfl dX10_begun_12 rfl 0 rfl ?_
      refine xV_iload_n 14 rfl dX10_begun_13 rfl 1 rfl ?_
      refine xV_iload 16 rfl dX10_begun_14 4 rfl ?_
      obtain ⟨v16, hv16, hf⟩ := xb_s hf
      refine xV_same (rest := [.int x3]) 19 rfl dX10_begun_16 rfl (C10_firstLike X.1.2.1 hv16) m10_firstLike v10_firstLike k10_222 rfl rfl rfl rfl rfl (Nat.le_of_ble_eq_true rfl) (Nat.le_of_ble_eq_true rfl) (Nat.le_of_ble_eq_true rfl) ⟨Nat.le_refl _, Nat.le_refl _⟩ ?_
      show xV (j10_begun) X 0 0 (hM c_thrown c_told c_read c_many c_eights c_gains c_notes c_seen c_turns c_drawn c_state c_tape c_taped c_size c_from c_next c_token c_value c_fault c_number c_fives c_isLeft c_wentTimes c_goes c_isLeftLaid c_game c_rows c_columns c_isFound c_bestValue c_bestBelow c_bestShare c_share c_matrix c_system c_shares c_allShares) 19 [(0, .ref 0), (1, .int x1), (2, .int x2), (3, .int x3), (4, .int x4)] [.int v16, .int x3]
      refine xV_iload 21 rfl dX10_begun_19 4 rfl ?_
      refine xV_icmp_ne (tgt := 28) 24 rfl dX10_begun_21 (by decide) (fun h21 => ?_) (fun h21 => ?_)
      · have hf := xif_f hf h21
        refine xV_iconst 29 rfl dX10_begun_28 xk_i0 ?_
        refine xV_sub [0, 1, 2, 4] rfl ?_
        exact T10_begun_b29 hX (fun {_ _ _ _} hq => ih hq) hf
      · have hf := xif_t hf h21
        refine xV_iconst 25 rfl dX10_begun_24 xk_i1 ?_
        refine xV_goto (tgt := 29) dX10_begun_25 (by decide) ?_
        refine xV_sub [0, 1, 2, 4] rfl ?_
        exact T10_begun_b29 hX (fun {_ _ _ _} hq => ih hq) hf
def F10_begun (z : Nat) (x1 : Int32) (x2 : Int32) (c_told : (Nat → Int32)) (c_eights : (Nat → Int32)) (c_fives : (Nat → Int32)) : Option (Int32) :=
  F10_begun_b5 z z x1 x2 (0 : Int32) (0 : Int32) c_told c_eights c_fives
theorem T10_begun {X : xX} {z : Nat} {x1 : Int32} {x2 : Int32} {c_told : (Nat → Int32)} {c_eights : (Nat → Int32)} {c_fives : (Nat → Int32)} {c_thrown : Int32} {c_read : (Nat → Int32)} {c_many : (Nat → Int32)} {c_gains : (Nat → Int32)} {c_notes : (Nat → Int32)} {c_seen : (Nat → Int32)} {c_turns : (Nat → Int32)} {c_drawn : (Nat → Int32)} {c_state : Int32} {c_tape : (Nat → Int32)} {c_taped : Int32} {c_size : Int32} {c_from : Int32} {c_next : Int32} {c_token : Int32} {c_value : Int32} {c_fault : Int32} {c_number : Int32} {c_isLeft : (Nat → Int32)} {c_wentTimes : Int32} {c_goes : (Nat → Int32)} {c_isLeftLaid : Int32} {c_game : (Nat → Int32)} {c_rows : Int32} {c_columns : Int32} {c_isFound : Int32} {c_bestValue : Int64} {c_bestBelow : Int64} {c_bestShare : (Nat → Int64)} {c_share : (Nat → Int64)} {c_matrix : (Nat → Int64)} {c_system : (Nat → Int64)} {c_shares : (Nat → Int32)} {c_allShares : Int32} {v : Int32} (hX : xIs (j10_begun) X ((some .int)) (some (.int v)) (hM c_thrown c_told c_read c_many c_eights c_gains c_notes c_seen c_turns c_drawn c_state c_tape c_taped c_size c_from c_next c_token c_value c_fault c_number c_fives c_isLeft c_wentTimes c_goes c_isLeftLaid c_game c_rows c_columns c_isFound c_bestValue c_bestBelow c_bestShare c_share c_matrix c_system c_shares c_allShares)) (hf : F10_begun z x1 x2 c_told c_eights c_fives = some v) : xV (j10_begun) X 0 0 (hM c_thrown c_told c_read c_many c_eights c_gains c_notes c_seen c_turns c_drawn c_state c_tape c_taped c_size c_from c_next c_token c_value c_fault c_number c_fives c_isLeft c_wentTimes c_goes c_isLeftLaid c_game c_rows c_columns c_isFound c_bestValue c_bestBelow c_bestShare c_share c_matrix c_system c_shares c_allShares) 0 [(0, .ref 0), (1, .int x1), (2, .int x2)] [] := by
  unfold F10_begun at hf
  refine xV_iconst 1 rfl dX10_begun_0 xk_i0 ?_
  refine xV_istore_n (L' := [(3, .int (0 : Int32)), (0, .ref 0), (1, .int x1), (2, .int x2)]) 2 rfl dX10_begun_1 rfl (xlt rfl) rfl ?_
  refine xV_iconst 3 rfl dX10_begun_2 xk_i0 ?_
  refine xV_istore (L' := [(4, .int (0 : Int32)), (3, .int (0 : Int32)), (0, .ref 0), (1, .int x1), (2, .int x2)]) 5 rfl dX10_begun_3 (xlt rfl) rfl ?_
  refine xV_sub [2, 3, 4, 1, 0] rfl ?_
  exact T10_begun_b5 hX _ hf
theorem C10_begun (l : Launch) {z : Nat} {x1 : Int32} {x2 : Int32} {c_told : (Nat → Int32)} {c_eights : (Nat → Int32)} {c_fives : (Nat → Int32)} {c_thrown : Int32} {c_read : (Nat → Int32)} {c_many : (Nat → Int32)} {c_gains : (Nat → Int32)} {c_notes : (Nat → Int32)} {c_seen : (Nat → Int32)} {c_turns : (Nat → Int32)} {c_drawn : (Nat → Int32)} {c_state : Int32} {c_tape : (Nat → Int32)} {c_taped : Int32} {c_size : Int32} {c_from : Int32} {c_next : Int32} {c_token : Int32} {c_value : Int32} {c_fault : Int32} {c_number : Int32} {c_isLeft : (Nat → Int32)} {c_wentTimes : Int32} {c_goes : (Nat → Int32)} {c_isLeftLaid : Int32} {c_game : (Nat → Int32)} {c_rows : Int32} {c_columns : Int32} {c_isFound : Int32} {c_bestValue : Int64} {c_bestBelow : Int64} {c_bestShare : (Nat → Int64)} {c_share : (Nat → Int64)} {c_matrix : (Nat → Int64)} {c_system : (Nat → Int64)} {c_shares : (Nat → Int32)} {c_allShares : Int32} {v : Int32} (hf : F10_begun z x1 x2 c_told c_eights c_fives = some v) : xCt l yX10_begun ((some .int)) j10_begun [.ref 0, .int x1, .int x2] (hM c_thrown c_told c_read c_many c_eights c_gains c_notes c_seen c_turns c_drawn c_state c_tape c_taped c_size c_from c_next c_token c_value c_fault c_number c_fives c_isLeft c_wentTimes c_goes c_isLeftLaid c_game c_rows c_columns c_isFound c_bestValue c_bestBelow c_bestShare c_share c_matrix c_system c_shares c_allShares) (some (.int v)) (hM c_thrown c_told c_read c_many c_eights c_gains c_notes c_seen c_turns c_drawn c_state c_tape c_taped c_size c_from c_next c_token c_value c_fault c_number c_fives c_isLeft c_wentTimes c_goes c_isLeftLaid c_game c_rows c_columns c_isFound c_bestValue c_bestBelow c_bestShare c_share c_matrix c_system c_shares c_allShares) := xCt_of (by decide) rfl (Nat.le_of_ble_eq_true rfl) (fun _ hX => T10_begun hX hf)
theorem m10_begun : xMd yX10_begun RX10 ((some .int)) j10_begun 2 := ⟨List.mem_of_getElem? (i := 647) (by decide +kernel), List.mem_of_getElem? (i := 5) (by decide +kernel), rfl, by decide +kernel⟩
theorem v10_begun : xMv yX10_begun RX10 := ⟨List.mem_of_getElem? (i := 645) (by decide +kernel), List.mem_of_getElem? (i := 646) (by decide +kernel)⟩
theorem dX10_alike_0 : decode cX10_alike 0 = .ok (.iconst 0, 1) := by decide +kernel
theorem dX10_alike_1 : decode cX10_alike 1 = .ok (.istore_n 3, 1) := by decide +kernel
theorem dX10_alike_2 : decode cX10_alike 2 = .ok (.iconst 0, 1) := by decide +kernel
theorem dX10_alike_3 : decode cX10_alike 3 = .ok (.istore 4, 2) := by decide +kernel
theorem dX10_alike_5 : decode cX10_alike 5 = .ok (.iload 4, 2) := by decide +kernel
theorem dX10_alike_7 : decode cX10_alike 7 = .ok (.aload_n 0, 1) := by decide +kernel
theorem dX10_alike_8 : decode cX10_alike 8 = .ok (.getfield 24, 3) := by decide +kernel
theorem dX10_alike_11 : decode cX10_alike 11 = .ok (.iload_n 1, 1) := by decide +kernel
theorem dX10_alike_12 : decode cX10_alike 12 = .ok (.iaload, 1) := by decide +kernel
theorem dX10_alike_13 : decode cX10_alike 13 = .ok (.if_icmp .ge 28, 3) := by decide +kernel
theorem dX10_alike_16 : decode cX10_alike 16 = .ok (.iload_n 3, 1) := by decide +kernel
theorem dX10_alike_17 : decode cX10_alike 17 = .ok (.aload_n 0, 1) := by decide +kernel
theorem dX10_alike_18 : decode cX10_alike 18 = .ok (.iload_n 1, 1) := by decide +kernel
theorem dX10_alike_19 : decode cX10_alike 19 = .ok (.iload_n 2, 1) := by decide +kernel
theorem dX10_alike_20 : decode cX10_alike 20 = .ok (.iload 4, 2) := by decide +kernel
theorem dX10_alike_22 : decode cX10_alike 22 = .ok (.invokevirtual 219, 3) := by decide +kernel
theorem dX10_alike_25 : decode cX10_alike 25 = .ok (.ifCond .eq 7, 3) := by decide +kernel
theorem dX10_alike_28 : decode cX10_alike 28 = .ok (.iconst 1, 1) := by decide +kernel
theorem dX10_alike_29 : decode cX10_alike 29 = .ok (.goto 4, 3) := by decide +kernel
theorem dX10_alike_32 : decode cX10_alike 32 = .ok (.iconst 0, 1) := by decide +kernel
theorem dX10_alike_33 : decode cX10_alike 33 = .ok (.iadd, 1) := by decide +kernel
theorem dX10_alike_34 : decode cX10_alike 34 = .ok (.istore_n 3, 1) := by decide +kernel
theorem dX10_alike_35 : decode cX10_alike 35 = .ok (.iinc 4 1, 3) := by decide +kernel
theorem dX10_alike_38 : decode cX10_alike 38 = .ok (.goto (-33), 3) := by decide +kernel
theorem dX10_alike_41 : decode cX10_alike 41 = .ok (.iload_n 3, 1) := by decide +kernel
theorem dX10_alike_42 : decode cX10_alike 42 = .ok (.ireturn, 1) := by decide +kernel
abbrev j10_alike : xJ := (cX10_alike, 5, RX10, 5, 0, 0)
def F10_alike_b33 (z : Nat) (x1 : Int32) (x2 : Int32) (x4 : Int32) (s0 : Int32) (s1 : Int32) (c_told : (Nat → Int32)) (c_many : (Nat → Int32)) (c_eights : (Nat → Int32)) (c_fives : (Nat → Int32)) (k5 : Int32 → Int32 → Int32 → Int32 → (Nat → Int32) → (Nat → Int32) → (Nat → Int32) → (Nat → Int32) → Option (Int32)) : Option (Int32) :=
  k5 x1 x2 (s0 + s1) (x4 + (1 : Int32)) c_told c_many c_eights c_fives
theorem T10_alike_b33 {X : xX} {c_thrown : Int32} {c_read : (Nat → Int32)} {c_gains : (Nat → Int32)} {c_notes : (Nat → Int32)} {c_seen : (Nat → Int32)} {c_turns : (Nat → Int32)} {c_drawn : (Nat → Int32)} {c_state : Int32} {c_tape : (Nat → Int32)} {c_taped : Int32} {c_size : Int32} {c_from : Int32} {c_next : Int32} {c_token : Int32} {c_value : Int32} {c_fault : Int32} {c_number : Int32} {c_isLeft : (Nat → Int32)} {c_wentTimes : Int32} {c_goes : (Nat → Int32)} {c_isLeftLaid : Int32} {c_game : (Nat → Int32)} {c_rows : Int32} {c_columns : Int32} {c_isFound : Int32} {c_bestValue : Int64} {c_bestBelow : Int64} {c_bestShare : (Nat → Int64)} {c_share : (Nat → Int64)} {c_matrix : (Nat → Int64)} {c_system : (Nat → Int64)} {c_shares : (Nat → Int32)} {c_allShares : Int32} {x1 : Int32} {x2 : Int32} {x4 : Int32} {s0 : Int32} {s1 : Int32} {c_told : (Nat → Int32)} {c_many : (Nat → Int32)} {c_eights : (Nat → Int32)} {c_fives : (Nat → Int32)} {z : Nat} {v : Int32} {k5 : Int32 → Int32 → Int32 → Int32 → (Nat → Int32) → (Nat → Int32) → (Nat → Int32) → (Nat → Int32) → Option (Int32)} (hX : xIs (j10_alike) X ((some .int)) (some (.int v)) (hM c_thrown c_told c_read c_many c_eights c_gains c_notes c_seen c_turns c_drawn c_state c_tape c_taped c_size c_from c_next c_token c_value c_fault c_number c_fives c_isLeft c_wentTimes c_goes c_isLeftLaid c_game c_rows c_columns c_isFound c_bestValue c_bestBelow c_bestShare c_share c_matrix c_system c_shares c_allShares)) (hk5 : ∀ {x1 : Int32} {x2 : Int32} {x3 : Int32} {x4 : Int32}, k5 x1 x2 x3 x4 c_told c_many c_eights c_fives = some v → xV (j10_alike) X 0 0 (hM c_thrown c_told c_read c_many c_eights c_gains c_notes c_seen c_turns c_drawn c_state c_tape c_taped c_size c_from c_next c_token c_value c_fault c_number c_fives c_isLeft c_wentTimes c_goes c_isLeftLaid c_game c_rows c_columns c_isFound c_bestValue c_bestBelow c_bestShare c_share c_matrix c_system c_shares c_allShares) 5 [(0, .ref 0), (1, .int x1), (2, .int x2), (3, .int x3), (4, .int x4)] []) (hf : F10_alike_b33 z x1 x2 x4 s0 s1 c_told c_many c_eights c_fives k5 = some v) : xV (j10_alike) X 0 0 (hM c_thrown c_told c_read c_many c_eights c_gains c_notes c_seen c_turns c_drawn c_state c_tape c_taped c_size c_from c_next c_token c_value c_fault c_number c_fives c_isLeft c_wentTimes c_goes c_isLeftLaid c_game c_rows c_columns c_isFound c_bestValue c_bestBelow c_bestShare c_share c_matrix c_system c_shares c_allShares) 33 [(0, .ref 0), (1, .int x1), (2, .int x2), (4, .int x4)] [.int s1, .int s0] := by
  unfold F10_alike_b33 at hf
  refine xV_iadd 34 rfl dX10_alike_33 ?_
  refine xV_istore_n (L' := [(3, .int (s0 + s1)), (0, .ref 0), (1, .int x1), (2, .int x2), (4, .int x4)]) 35 rfl dX10_alike_34 rfl (xlt rfl) rfl ?_
  refine xV_iinc (L' := [(4, .int (x4 + (1 : Int32))), (3, .int (s0 + s1)), (0, .ref 0), (1, .int x1), (2, .int x2)]) 38 rfl dX10_alike_35 4 rfl (xk_inc xk_i1) (xlt rfl) rfl ?_
  refine xV_goto (tgt := 5) dX10_alike_38 (by decide) ?_
  refine xV_sub [2, 3, 4, 1, 0] rfl ?_
  exact hk5 hf
def F10_alike_b5 (z : Nat) (w : Nat) (x1 : Int32) (x2 : Int32) (x3 : Int32) (x4 : Int32) (c_told : (Nat → Int32)) (c_many : (Nat → Int32)) (c_eights : (Nat → Int32)) (c_fives : (Nat → Int32)) : Option (Int32) := match w with
  | 0 => none
  | w + 1 => xg (xin x1 2) (if (c_many (xn x1)) ≤ x4 then (some (x3)) else ((F10_areLike z x1 x2 x4 c_told c_eights c_fives).bind (fun v22 => if v22 = 0 then (F10_alike_b33 z x1 x2 x4 x3 (0 : Int32) c_told c_many c_eights c_fives (fun q0 q1 q2 q3 q4 q5 q6 q7 => F10_alike_b5 z w q0 q1 q2 q3 q4 q5 q6 q7)) else (F10_alike_b33 z x1 x2 x4 x3 (1 : Int32) c_told c_many c_eights c_fives (fun q0 q1 q2 q3 q4 q5 q6 q7 => F10_alike_b5 z w q0 q1 q2 q3 q4 q5 q6 q7)))))
theorem T10_alike_b5 {X : xX} {c_thrown : Int32} {c_told : (Nat → Int32)} {c_read : (Nat → Int32)} {c_many : (Nat → Int32)} {c_eights : (Nat → Int32)} {c_gains : (Nat → Int32)} {c_notes : (Nat → Int32)} {c_seen : (Nat → Int32)} {c_turns : (Nat → Int32)} {c_drawn : (Nat → Int32)} {c_state : Int32} {c_tape : (Nat → Int32)} {c_taped : Int32} {c_size : Int32} {c_from : Int32} {c_next : Int32} {c_token : Int32} {c_value : Int32} {c_fault : Int32} {c_number : Int32} {c_fives : (Nat → Int32)} {c_isLeft : (Nat → Int32)} {c_wentTimes : Int32} {c_goes : (Nat → Int32)} {c_isLeftLaid : Int32} {c_game : (Nat → Int32)} {c_rows : Int32} {c_columns : Int32} {c_isFound : Int32} {c_bestValue : Int64} {c_bestBelow : Int64} {c_bestShare : (Nat → Int64)} {c_share : (Nat → Int64)} {c_matrix : (Nat → Int64)} {c_system : (Nat → Int64)} {c_shares : (Nat → Int32)} {c_allShares : Int32} {z : Nat} {v : Int32} (hX : xIs (j10_alike) X ((some .int)) (some (.int v)) (hM c_thrown c_told c_read c_many c_eights c_gains c_notes c_seen c_turns c_drawn c_state c_tape c_taped c_size c_from c_next c_token c_value c_fault c_number c_fives c_isLeft c_wentTimes c_goes c_isLeftLaid c_game c_rows c_columns c_isFound c_bestValue c_bestBelow c_bestShare c_share c_matrix c_system c_shares c_allShares)) : ∀ (w : Nat) {x1 : Int32} {x2 : Int32} {x3 : Int32} {x4 : Int32}, F10_alike_b5 z w x1 x2 x3 x4 c_told c_many c_eights c_fives = some v → xV (j10_alike) X 0 0 (hM c_thrown c_told c_read c_many c_eights c_gains c_notes c_seen c_turns c_drawn c_state c_tape c_taped c_size c_from c_next c_token c_value c_fault c_number c_fives c_isLeft c_wentTimes c_goes c_isLeftLaid c_game c_rows c_columns c_isFound c_bestValue c_bestBelow c_bestShare c_share c_matrix c_system c_shares c_allShares) 5 [(0, .ref 0), (1, .int x1), (2, .int x2), (3, .int x3), (4, .int x4)] [] := by
  intro w
  induction w with
  | zero => intro x1 x2 x3 x4 hf; cases hf
  | succ w ih =>
    intro x1 x2 x3 x4 hf
    unfold F10_alike_b5 at hf
    refine xV_iload 7 rfl dX10_alike_5 4 rfl ?_
    refine xV_aload_n 8 rfl dX10_alike_7 rfl 0 rfl ?_
    refine xV_get (v := .ref 3) 11 rfl dX10_alike_8 f10_24 rfl rfl ?_
    refine xV_iload_n 12 rfl dX10_alike_11 rfl 1 rfl ?_
    obtain ⟨hg12, hf⟩ := xg_s hf
    refine xV_iaload 13 rfl dX10_alike_12 rfl (xin_ok hg12) rfl ?_
    refine xV_icmp_ge (tgt := 41) 16 rfl dX10_alike_13 (by decide) (fun h13 => ?_) (fun h13 => ?_)
    · have hf := xif_t hf h13
      refine xV_iload_n 42 rfl dX10_alike_41 rfl 3 rfl ?_
      obtain rfl := Option.some.inj hf
      exact xV_iret hX dX10_alike_42 rfl (Nat.zero_le _) (Nat.zero_le _)
    · have hf := xif_f hf h13
      refine xV_iload_n 17 rfl dX10_alike_16 rfl 3 rfl ?_
      refine xV_aload_n 18 rfl dX10_alike_17 rfl 0 rfl ?_
      refine xV_iload_n 19 rfl dX10_alike_18 rfl 1 rfl ?_
      refine xV_iload_n 20 rfl dX10_alike_19 rfl 2 rfl ?_
      refine xV_iload 22 rfl dX10_alike_20 4 rfl ?_
      obtain ⟨v22, hv22, hf⟩ := xb_s hf
      refine xV_same (rest := [.int x3]) 25 rfl dX10_alike_22 rfl (C10_areLike X.1.2.1 hv22) m10_areLike v10_areLike k10_219 rfl rfl rfl rfl rfl (Nat.le_of_ble_eq_true rfl) (Nat.le_of_ble_eq_true rfl) (Nat.le_of_ble_eq_true rfl) ⟨Nat.le_refl _, Nat.le_refl _⟩ ?_
      show xV (j10_alike) X 0 0 (hM c_thrown c_told c_read c_many c_eights c_gains c_notes c_seen c_turns c_drawn c_state c_tape c_taped c_size c_from c_next c_token c_value c_fault c_number c_fives c_isLeft c_wentTimes c_goes c_isLeftLaid c_game c_rows c_columns c_isFound c_bestValue c_bestBelow c_bestShare c_share c_matrix c_system c_shares c_allShares) 25 [(0, .ref 0), (1, .int x1), (2, .int x2), (3, .int x3), (4, .int x4)] [.int v22, .int x3]
      refine xV_if_eq (tgt := 32) 28 rfl dX10_alike_25 (by decide) (fun h25 => ?_) (fun h25 => ?_)
      · have hf := xif_t hf h25
        refine xV_iconst 33 rfl dX10_alike_32 xk_i0 ?_
        refine xV_sub [0, 1, 2, 4] rfl ?_
        exact T10_alike_b33 hX (fun {_ _ _ _} hq => ih hq) hf
      · have hf := xif_f hf h25
        refine xV_iconst 29 rfl dX10_alike_28 xk_i1 ?_
        refine xV_goto (tgt := 33) dX10_alike_29 (by decide) ?_
        refine xV_sub [0, 1, 2, 4] rfl ?_
        exact T10_alike_b33 hX (fun {_ _ _ _} hq => ih hq) hf
def F10_alike (z : Nat) (x1 : Int32) (x2 : Int32) (c_told : (Nat → Int32)) (c_many : (Nat → Int32)) (c_eights : (Nat → Int32)) (c_fives : (Nat → Int32)) : Option (Int32) :=
  F10_alike_b5 z z x1 x2 (0 : Int32) (0 : Int32) c_told c_many c_eights c_fives
theorem T10_alike {X : xX} {z : Nat} {x1 : Int32} {x2 : Int32} {c_told : (Nat → Int32)} {c_many : (Nat → Int32)} {c_eights : (Nat → Int32)} {c_fives : (Nat → Int32)} {c_thrown : Int32} {c_read : (Nat → Int32)} {c_gains : (Nat → Int32)} {c_notes : (Nat → Int32)} {c_seen : (Nat → Int32)} {c_turns : (Nat → Int32)} {c_drawn : (Nat → Int32)} {c_state : Int32} {c_tape : (Nat → Int32)} {c_taped : Int32} {c_size : Int32} {c_from : Int32} {c_next : Int32} {c_token : Int32} {c_value : Int32} {c_fault : Int32} {c_number : Int32} {c_isLeft : (Nat → Int32)} {c_wentTimes : Int32} {c_goes : (Nat → Int32)} {c_isLeftLaid : Int32} {c_game : (Nat → Int32)} {c_rows : Int32} {c_columns : Int32} {c_isFound : Int32} {c_bestValue : Int64} {c_bestBelow : Int64} {c_bestShare : (Nat → Int64)} {c_share : (Nat → Int64)} {c_matrix : (Nat → Int64)} {c_system : (Nat → Int64)} {c_shares : (Nat → Int32)} {c_allShares : Int32} {v : Int32} (hX : xIs (j10_alike) X ((some .int)) (some (.int v)) (hM c_thrown c_told c_read c_many c_eights c_gains c_notes c_seen c_turns c_drawn c_state c_tape c_taped c_size c_from c_next c_token c_value c_fault c_number c_fives c_isLeft c_wentTimes c_goes c_isLeftLaid c_game c_rows c_columns c_isFound c_bestValue c_bestBelow c_bestShare c_share c_matrix c_system c_shares c_allShares)) (hf : F10_alike z x1 x2 c_told c_many c_eights c_fives = some v) : xV (j10_alike) X 0 0 (hM c_thrown c_told c_read c_many c_eights c_gains c_notes c_seen c_turns c_drawn c_state c_tape c_taped c_size c_from c_next c_token c_value c_fault c_number c_fives c_isLeft c_wentTimes c_goes c_isLeftLaid c_game c_rows c_columns c_isFound c_bestValue c_bestBelow c_bestShare c_share c_matrix c_system c_shares c_allShares) 0 [(0, .ref 0), (1, .int x1), (2, .int x2)] [] := by
  unfold F10_alike at hf
  refine xV_iconst 1 rfl dX10_alike_0 xk_i0 ?_
  refine xV_istore_n (L' := [(3, .int (0 : Int32)), (0, .ref 0), (1, .int x1), (2, .int x2)]) 2 rfl dX10_alike_1 rfl (xlt rfl) rfl ?_
  refine xV_iconst 3 rfl dX10_alike_2 xk_i0 ?_
  refine xV_istore (L' := [(4, .int (0 : Int32)), (3, .int (0 : Int32)), (0, .ref 0), (1, .int x1), (2, .int x2)]) 5 rfl dX10_alike_3 (xlt rfl) rfl ?_
  refine xV_sub [2, 3, 4, 1, 0] rfl ?_
  exact T10_alike_b5 hX _ hf
theorem C10_alike (l : Launch) {z : Nat} {x1 : Int32} {x2 : Int32} {c_told : (Nat → Int32)} {c_many : (Nat → Int32)} {c_eights : (Nat → Int32)} {c_fives : (Nat → Int32)} {c_thrown : Int32} {c_read : (Nat → Int32)} {c_gains : (Nat → Int32)} {c_notes : (Nat → Int32)} {c_seen : (Nat → Int32)} {c_turns : (Nat → Int32)} {c_drawn : (Nat → Int32)} {c_state : Int32} {c_tape : (Nat → Int32)} {c_taped : Int32} {c_size : Int32} {c_from : Int32} {c_next : Int32} {c_token : Int32} {c_value : Int32} {c_fault : Int32} {c_number : Int32} {c_isLeft : (Nat → Int32)} {c_wentTimes : Int32} {c_goes : (Nat → Int32)} {c_isLeftLaid : Int32} {c_game : (Nat → Int32)} {c_rows : Int32} {c_columns : Int32} {c_isFound : Int32} {c_bestValue : Int64} {c_bestBelow : Int64} {c_bestShare : (Nat → Int64)} {c_share : (Nat → Int64)} {c_matrix : (Nat → Int64)} {c_system : (Nat → Int64)} {c_shares : (Nat → Int32)} {c_allShares : Int32} {v : Int32} (hf : F10_alike z x1 x2 c_told c_many c_eights c_fives = some v) : xCt l yX10_alike ((some .int)) j10_alike [.ref 0, .int x1, .int x2] (hM c_thrown c_told c_read c_many c_eights c_gains c_notes c_seen c_turns c_drawn c_state c_tape c_taped c_size c_from c_next c_token c_value c_fault c_number c_fives c_isLeft c_wentTimes c_goes c_isLeftLaid c_game c_rows c_columns c_isFound c_bestValue c_bestBelow c_bestShare c_share c_matrix c_system c_shares c_allShares) (some (.int v)) (hM c_thrown c_told c_read c_many c_eights c_gains c_notes c_seen c_turns c_drawn c_state c_tape c_taped c_size c_from c_next c_token c_value c_fault c_number c_fives c_isLeft c_wentTimes c_goes c_isLeftLaid c_game c_rows c_columns c_isFound c_bestValue c_bestBelow c_bestShare c_share c_matrix c_system c_shares c_allShares) := xCt_of (by decide) rfl (Nat.le_of_ble_eq_true rfl) (fun _ hX => T10_alike hX hf)
theorem m10_alike : xMd yX10_alike RX10 ((some .int)) j10_alike 2 := ⟨List.mem_of_getElem? (i := 680) (by decide +kernel), List.mem_of_getElem? (i := 5) (by decide +kernel), rfl, by decide +kernel⟩
theorem v10_alike : xMv yX10_alike RX10 := ⟨List.mem_of_getElem? (i := 678) (by decide +kernel), List.mem_of_getElem? (i := 679) (by decide +kernel)⟩
theorem k10_225 : Cond.methodLink RX10 225 yX10_begun ∈ wsL_law0 := List.mem_of_getElem? (i := 644) (by decide +kernel)
theorem dX10_shapes_0 : decode cX10_shapes 0 = .ok (.aload_n 0, 1) := by decide +kernel
theorem dX10_shapes_1 : decode cX10_shapes 1 = .ok (.iconst 0, 1) := by decide +kernel
theorem dX10_shapes_2 : decode cX10_shapes 2 = .ok (.putfield 1, 3) := by decide +kernel
theorem dX10_shapes_5 : decode cX10_shapes 5 = .ok (.iload_n 1, 1) := by decide +kernel
theorem dX10_shapes_6 : decode cX10_shapes 6 = .ok (.invokestatic 105, 3) := by decide +kernel
theorem dX10_shapes_9 : decode cX10_shapes 9 = .ok (.ifCond .eq 19, 3) := by decide +kernel
theorem dX10_shapes_12 : decode cX10_shapes 12 = .ok (.aload_n 0, 1) := by decide +kernel
theorem dX10_shapes_13 : decode cX10_shapes 13 = .ok (.iload_n 1, 1) := by decide +kernel
theorem dX10_shapes_14 : decode cX10_shapes 14 = .ok (.aload_n 0, 1) := by decide +kernel
theorem dX10_shapes_15 : decode cX10_shapes 15 = .ok (.getfield 24, 3) := by decide +kernel
theorem dX10_shapes_18 : decode cX10_shapes 18 = .ok (.iload_n 1, 1) := by decide +kernel
theorem dX10_shapes_19 : decode cX10_shapes 19 = .ok (.iaload, 1) := by decide +kernel
theorem dX10_shapes_20 : decode cX10_shapes 20 = .ok (.iconst 1, 1) := by decide +kernel
theorem dX10_shapes_21 : decode cX10_shapes 21 = .ok (.isub, 1) := by decide +kernel
theorem dX10_shapes_22 : decode cX10_shapes 22 = .ok (.invokevirtual 225, 3) := by decide +kernel
theorem dX10_shapes_25 : decode cX10_shapes 25 = .ok (.goto 4, 3) := by decide +kernel
theorem dX10_shapes_28 : decode cX10_shapes 28 = .ok (.iconst (-1), 1) := by decide +kernel
theorem dX10_shapes_29 : decode cX10_shapes 29 = .ok (.ireturn, 1) := by decide +kernel
abbrev j10_shapes : xJ := (cX10_shapes, 2, RX10, 7, 0, 0)
def F10_shapes (z : Nat) (x1 : Int32) (c_thrown : Int32) (c_told : (Nat → Int32)) (c_many : (Nat → Int32)) (c_eights : (Nat → Int32)) (c_fives : (Nat → Int32)) : Option (Int32 × Int32) :=
  (F10_isSide x1).bind (fun v6 => if v6 = 0 then (some ((-1 : Int32), (0 : Int32))) else (xg (xin x1 2) ((F10_begun z x1 ((c_many (xn x1)) - (1 : Int32)) c_told c_eights c_fives).bind (fun v22 => some (v22, (0 : Int32))))))
theorem T10_shapes {X : xX} {z : Nat} {x1 : Int32} {c_thrown : Int32} {c_told : (Nat → Int32)} {c_many : (Nat → Int32)} {c_eights : (Nat → Int32)} {c_fives : (Nat → Int32)} {c_read : (Nat → Int32)} {c_gains : (Nat → Int32)} {c_notes : (Nat → Int32)} {c_seen : (Nat → Int32)} {c_turns : (Nat → Int32)} {c_drawn : (Nat → Int32)} {c_state : Int32} {c_tape : (Nat → Int32)} {c_taped : Int32} {c_size : Int32} {c_from : Int32} {c_next : Int32} {c_token : Int32} {c_value : Int32} {c_fault : Int32} {c_number : Int32} {c_isLeft : (Nat → Int32)} {c_wentTimes : Int32} {c_goes : (Nat → Int32)} {c_isLeftLaid : Int32} {c_game : (Nat → Int32)} {c_rows : Int32} {c_columns : Int32} {c_isFound : Int32} {c_bestValue : Int64} {c_bestBelow : Int64} {c_bestShare : (Nat → Int64)} {c_share : (Nat → Int64)} {c_matrix : (Nat → Int64)} {c_system : (Nat → Int64)} {c_shares : (Nat → Int32)} {c_allShares : Int32} {v : Int32 × Int32} (hX : xIs (j10_shapes) X ((some .int)) (some (.int v.1)) (hM v.2 c_told c_read c_many c_eights c_gains c_notes c_seen c_turns c_drawn c_state c_tape c_taped c_size c_from c_next c_token c_value c_fault c_number c_fives c_isLeft c_wentTimes c_goes c_isLeftLaid c_game c_rows c_columns c_isFound c_bestValue c_bestBelow c_bestShare c_share c_matrix c_system c_shares c_allShares)) (hf : F10_shapes z x1 c_thrown c_told c_many c_eights c_fives = some v) : xV (j10_shapes) X 0 0 (hM c_thrown c_told c_read c_many c_eights c_gains c_notes c_seen c_turns c_drawn c_state c_tape c_taped c_size c_from c_next c_token c_value c_fault c_number c_fives c_isLeft c_wentTimes c_goes c_isLeftLaid c_game c_rows c_columns c_isFound c_bestValue c_bestBelow c_bestShare c_share c_matrix c_system c_shares c_allShares) 0 [(0, .ref 0), (1, .int x1)] [] := by
  unfold F10_shapes at hf
  refine xV_aload_n 1 rfl dX10_shapes_0 rfl 0 rfl ?_
  refine xV_iconst 2 rfl dX10_shapes_1 xk_i0 ?_
  refine xV_put (h' := (hM (0 : Int32) c_told c_read c_many c_eights c_gains c_notes c_seen c_turns c_drawn c_state c_tape c_taped c_size c_from c_next c_token c_value c_fault c_number c_fives c_isLeft c_wentTimes c_goes c_isLeftLaid c_game c_rows c_columns c_isFound c_bestValue c_bestBelow c_bestShare c_share c_matrix c_system c_shares c_allShares)) 5 rfl dX10_shapes_2 f10_1 rfl nf10_0 (fun _ => rfl) (fun _ => rfl) (Nat.le_of_ble_eq_true rfl) rfl ?_
  refine xV_iload_n 6 rfl dX10_shapes_5 rfl 1 rfl ?_
  obtain ⟨v6, hv6, hf⟩ := xb_s hf
  refine xV_st0 (rest := []) 9 rfl dX10_shapes_6 rfl (C10_isSide X.1.2.1 hv6) m10_isSide s10_isSide k10_105 rfl (Nat.le_of_ble_eq_true rfl) (Nat.le_of_ble_eq_true rfl) (Nat.le_of_ble_eq_true rfl) ⟨Nat.le_refl _, Nat.le_refl _⟩ ?_
  show xV (j10_shapes) X 0 0 (hM (0 : Int32) c_told c_read c_many c_eights c_gains c_notes c_seen c_turns c_drawn c_state c_tape c_taped c_size c_from c_next c_token c_value c_fault c_number c_fives c_isLeft c_wentTimes c_goes c_isLeftLaid c_game c_rows c_columns c_isFound c_bestValue c_bestBelow c_bestShare c_share c_matrix c_system c_shares c_allShares) 9 [(0, .ref 0), (1, .int x1)] [.int v6]
  refine xV_if_eq (tgt := 28) 12 rfl dX10_shapes_9 (by decide) (fun h9 => ?_) (fun h9 => ?_)
  · have hf := xif_t hf h9
    refine xV_iconst 29 rfl dX10_shapes_28 xk_im1 ?_
    obtain rfl := Option.some.inj hf
    exact xV_iret hX dX10_shapes_29 rfl (Nat.zero_le _) (Nat.zero_le _)
  · have hf := xif_f hf h9
    refine xV_aload_n 13 rfl dX10_shapes_12 rfl 0 rfl ?_
    refine xV_iload_n 14 rfl dX10_shapes_13 rfl 1 rfl ?_
    refine xV_aload_n 15 rfl dX10_shapes_14 rfl 0 rfl ?_
    refine xV_get (v := .ref 3) 18 rfl dX10_shapes_15 f10_24 rfl rfl ?_
    refine xV_iload_n 19 rfl dX10_shapes_18 rfl 1 rfl ?_
    obtain ⟨hg19, hf⟩ := xg_s hf
    refine xV_iaload 20 rfl dX10_shapes_19 rfl (xin_ok hg19) rfl ?_
    refine xV_iconst 21 rfl dX10_shapes_20 xk_i1 ?_
    refine xV_isub 22 rfl dX10_shapes_21 ?_
    obtain ⟨v22, hv22, hf⟩ := xb_s hf
    refine xV_same (rest := []) 25 rfl dX10_shapes_22 rfl (C10_begun X.1.2.1 hv22) m10_begun v10_begun k10_225 rfl rfl rfl rfl rfl (Nat.le_of_ble_eq_true rfl) (Nat.le_of_ble_eq_true rfl) (Nat.le_of_ble_eq_true rfl) ⟨Nat.le_refl _, Nat.le_refl _⟩ ?_
    show xV (j10_shapes) X 0 0 (hM (0 : Int32) c_told c_read c_many c_eights c_gains c_notes c_seen c_turns c_drawn c_state c_tape c_taped c_size c_from c_next c_token c_value c_fault c_number c_fives c_isLeft c_wentTimes c_goes c_isLeftLaid c_game c_rows c_columns c_isFound c_bestValue c_bestBelow c_bestShare c_share c_matrix c_system c_shares c_allShares) 25 [(0, .ref 0), (1, .int x1)] [.int v22]
    refine xV_goto (tgt := 29) dX10_shapes_25 (by decide) ?_
    obtain rfl := Option.some.inj hf
    exact xV_iret hX dX10_shapes_29 rfl (Nat.zero_le _) (Nat.zero_le _)
theorem C10_shapes (l : Launch) {z : Nat} {x1 : Int32} {c_thrown : Int32} {c_told : (Nat → Int32)} {c_many : (Nat → Int32)} {c_eights : (Nat → Int32)} {c_fives : (Nat → Int32)} {c_read : (Nat → Int32)} {c_gains : (Nat → Int32)} {c_notes : (Nat → Int32)} {c_seen : (Nat → Int32)} {c_turns : (Nat → Int32)} {c_drawn : (Nat → Int32)} {c_state : Int32} {c_tape : (Nat → Int32)} {c_taped : Int32} {c_size : Int32} {c_from : Int32} {c_next : Int32} {c_token : Int32} {c_value : Int32} {c_fault : Int32} {c_number : Int32} {c_isLeft : (Nat → Int32)} {c_wentTimes : Int32} {c_goes : (Nat → Int32)} {c_isLeftLaid : Int32} {c_game : (Nat → Int32)} {c_rows : Int32} {c_columns : Int32} {c_isFound : Int32} {c_bestValue : Int64} {c_bestBelow : Int64} {c_bestShare : (Nat → Int64)} {c_share : (Nat → Int64)} {c_matrix : (Nat → Int64)} {c_system : (Nat → Int64)} {c_shares : (Nat → Int32)} {c_allShares : Int32} {v : Int32 × Int32} (hf : F10_shapes z x1 c_thrown c_told c_many c_eights c_fives = some v) : xCt l yX10_shapes ((some .int)) j10_shapes [.ref 0, .int x1] (hM c_thrown c_told c_read c_many c_eights c_gains c_notes c_seen c_turns c_drawn c_state c_tape c_taped c_size c_from c_next c_token c_value c_fault c_number c_fives c_isLeft c_wentTimes c_goes c_isLeftLaid c_game c_rows c_columns c_isFound c_bestValue c_bestBelow c_bestShare c_share c_matrix c_system c_shares c_allShares) (some (.int v.1)) (hM v.2 c_told c_read c_many c_eights c_gains c_notes c_seen c_turns c_drawn c_state c_tape c_taped c_size c_from c_next c_token c_value c_fault c_number c_fives c_isLeft c_wentTimes c_goes c_isLeftLaid c_game c_rows c_columns c_isFound c_bestValue c_bestBelow c_bestShare c_share c_matrix c_system c_shares c_allShares) := xCt_of (by decide) rfl (Nat.le_of_ble_eq_true rfl) (fun _ hX => T10_shapes hX hf)
theorem m10_shapes : xMd yX10_shapes RX10 ((some .int)) j10_shapes 1 := ⟨List.mem_of_getElem? (i := 643) (by decide +kernel), List.mem_of_getElem? (i := 5) (by decide +kernel), rfl, by decide +kernel⟩
theorem v10_shapes : xMv yX10_shapes RX10 := ⟨List.mem_of_getElem? (i := 641) (by decide +kernel), List.mem_of_getElem? (i := 642) (by decide +kernel)⟩
theorem k10_228 : Cond.methodLink RX10 228 yX10_alike ∈ wsL_law0 := List.mem_of_getElem? (i := 677) (by decide +kernel)
theorem dX10_shape_0 : decode cX10_shape 0 = .ok (.aload_n 0, 1) := by decide +kernel
theorem dX10_shape_1 : decode cX10_shape 1 = .ok (.iconst 0, 1) := by decide +kernel
theorem dX10_shape_2 : decode cX10_shape 2 = .ok (.putfield 1, 3) := by decide +kernel
theorem dX10_shape_5 : decode cX10_shape 5 = .ok (.aload_n 0, 1) := by decide +kernel
theorem dX10_shape_6 : decode cX10_shape 6 = .ok (.iload_n 1, 1) := by decide +kernel
theorem dX10_shape_7 : decode cX10_shape 7 = .ok (.iload_n 2, 1) := by decide +kernel
theorem dX10_shape_8 : decode cX10_shape 8 = .ok (.invokevirtual 210, 3) := by decide +kernel
theorem dX10_shape_11 : decode cX10_shape 11 = .ok (.ifCond .eq 12, 3) := by decide +kernel
theorem dX10_shape_14 : decode cX10_shape 14 = .ok (.iload_n 3, 1) := by decide +kernel
theorem dX10_shape_15 : decode cX10_shape 15 = .ok (.iconst 0, 1) := by decide +kernel
theorem dX10_shape_16 : decode cX10_shape 16 = .ok (.iconst 2, 1) := by decide +kernel
theorem dX10_shape_17 : decode cX10_shape 17 = .ok (.invokestatic 7, 3) := by decide +kernel
theorem dX10_shape_20 : decode cX10_shape 20 = .ok (.ifCond .ne 5, 3) := by decide +kernel
theorem dX10_shape_23 : decode cX10_shape 23 = .ok (.iconst (-1), 1) := by decide +kernel
theorem dX10_shape_24 : decode cX10_shape 24 = .ok (.ireturn, 1) := by decide +kernel
theorem dX10_shape_25 : decode cX10_shape 25 = .ok (.iload_n 3, 1) := by decide +kernel
theorem dX10_shape_26 : decode cX10_shape 26 = .ok (.ifCond .ne 12, 3) := by decide +kernel
theorem dX10_shape_29 : decode cX10_shape 29 = .ok (.aload_n 0, 1) := by decide +kernel
theorem dX10_shape_30 : decode cX10_shape 30 = .ok (.iload_n 1, 1) := by decide +kernel
theorem dX10_shape_31 : decode cX10_shape 31 = .ok (.iload_n 2, 1) := by decide +kernel
theorem dX10_shape_32 : decode cX10_shape 32 = .ok (.invokevirtual 228, 3) := by decide +kernel
theorem dX10_shape_35 : decode cX10_shape 35 = .ok (.goto 23, 3) := by decide +kernel
theorem dX10_shape_38 : decode cX10_shape 38 = .ok (.iload_n 3, 1) := by decide +kernel
theorem dX10_shape_39 : decode cX10_shape 39 = .ok (.iconst 1, 1) := by decide +kernel
theorem dX10_shape_40 : decode cX10_shape 40 = .ok (.if_icmp .ne 12, 3) := by decide +kernel
theorem dX10_shape_43 : decode cX10_shape 43 = .ok (.aload_n 0, 1) := by decide +kernel
theorem dX10_shape_44 : decode cX10_shape 44 = .ok (.iload_n 1, 1) := by decide +kernel
theorem dX10_shape_45 : decode cX10_shape 45 = .ok (.iload_n 2, 1) := by decide +kernel
theorem dX10_shape_46 : decode cX10_shape 46 = .ok (.invokevirtual 222, 3) := by decide +kernel
theorem dX10_shape_49 : decode cX10_shape 49 = .ok (.goto 9, 3) := by decide +kernel
theorem dX10_shape_52 : decode cX10_shape 52 = .ok (.aload_n 0, 1) := by decide +kernel
theorem dX10_shape_53 : decode cX10_shape 53 = .ok (.iload_n 1, 1) := by decide +kernel
theorem dX10_shape_54 : decode cX10_shape 54 = .ok (.iload_n 2, 1) := by decide +kernel
theorem dX10_shape_55 : decode cX10_shape 55 = .ok (.invokevirtual 225, 3) := by decide +kernel
theorem dX10_shape_58 : decode cX10_shape 58 = .ok (.ireturn, 1) := by decide +kernel
abbrev j10_shape : xJ := (cX10_shape, 4, RX10, 7, 0, 0)
def F10_shape (z : Nat) (x1 : Int32) (x2 : Int32) (x3 : Int32) (c_thrown : Int32) (c_told : (Nat → Int32)) (c_many : (Nat → Int32)) (c_eights : (Nat → Int32)) (c_fives : (Nat → Int32)) : Option (Int32 × Int32) :=
  (F10_isSplit x1 x2 c_many).bind (fun v8 => if v8 = 0 then (some ((-1 : Int32), (0 : Int32))) else ((F10_within x3 (0 : Int32) (2 : Int32)).bind (fun v17 => if v17 = 0 then (some ((-1 : Int32), (0 : Int32))) else (if x3 = 0 then ((F10_alike z x1 x2 c_told c_many c_eights c_fives).bind (fun v32 => some (v32, (0 : Int32)))) else (if x3 = (1 : Int32) then ((F10_firstLike z x1 x2 c_told c_eights c_fives).bind (fun v46 => some (v46, (0 : Int32)))) else ((F10_begun z x1 x2 c_told c_eights c_fives).bind (fun v55 => some (v55, (0 : Int32)))))))))
theorem T10_shape {X : xX} {z : Nat} {x1 : Int32} {x2 : Int32} {x3 : Int32} {c_thrown : Int32} {c_told : (Nat → Int32)} {c_many : (Nat → Int32)} {c_eights : (Nat → Int32)} {c_fives : (Nat → Int32)} {c_read : (Nat → Int32)} {c_gains : (Nat → Int32)} {c_notes : (Nat → Int32)} {c_seen : (Nat → Int32)} {c_turns : (Nat → Int32)} {c_drawn : (Nat → Int32)} {c_state : Int32} {c_tape : (Nat → Int32)} {c_taped : Int32} {c_size : Int32} {c_from : Int32} {c_next : Int32} {c_token : Int32} {c_value : Int32} {c_fault : Int32} {c_number : Int32} {c_isLeft : (Nat → Int32)} {c_wentTimes : Int32} {c_goes : (Nat → Int32)} {c_isLeftLaid : Int32} {c_game : (Nat → Int32)} {c_rows : Int32} {c_columns : Int32} {c_isFound : Int32} {c_bestValue : Int64} {c_bestBelow : Int64} {c_bestShare : (Nat → Int64)} {c_share : (Nat → Int64)} {c_matrix : (Nat → Int64)} {c_system : (Nat → Int64)} {c_shares : (Nat → Int32)} {c_allShares : Int32} {v : Int32 × Int32} (hX : xIs (j10_shape) X ((some .int)) (some (.int v.1)) (hM v.2 c_told c_read c_many c_eights c_gains c_notes c_seen c_turns c_drawn c_state c_tape c_taped c_size c_from c_next c_token c_value c_fault c_number c_fives c_isLeft c_wentTimes c_goes c_isLeftLaid c_game c_rows c_columns c_isFound c_bestValue c_bestBelow c_bestShare c_share c_matrix c_system c_shares c_allShares)) (hf : F10_shape z x1 x2 x3 c_thrown c_told c_many c_eights c_fives = some v) : xV (j10_shape) X 0 0 (hM c_thrown c_told c_read c_many c_eights c_gains c_notes c_seen c_turns c_drawn c_state c_tape c_taped c_size c_from c_next c_token c_value c_fault c_number c_fives c_isLeft c_wentTimes c_goes c_isLeftLaid c_game c_rows c_columns c_isFound c_bestValue c_bestBelow c_bestShare c_share c_matrix c_system c_shares c_allShares) 0 [(0, .ref 0), (1, .int x1), (2, .int x2), (3, .int x3)] [] := by
  unfold F10_shape at hf
  refine xV_aload_n 1 rfl dX10_shape_0 rfl 0 rfl ?_
  refine xV_iconst 2 rfl dX10_shape_1 xk_i0 ?_
  refine xV_put (h' := (hM (0 : Int32) c_told c_read c_many c_eights c_gains c_notes c_seen c_turns c_drawn c_state c_tape c_taped c_size c_from c_next c_token c_value c_fault c_number c_fives c_isLeft c_wentTimes c_goes c_isLeftLaid c_game c_rows c_columns c_isFound c_bestValue c_bestBelow c_bestShare c_share c_matrix c_system c_shares c_allShares)) 5 rfl dX10_shape_2 f10_1 rfl nf10_0 (fun _ => rfl) (fun _ => rfl) (Nat.le_of_ble_eq_true rfl) rfl ?_
  refine xV_aload_n 6 rfl dX10_shape_5 rfl 0 rfl ?_
  refine xV_iload_n 7 rfl dX10_shape_6 rfl 1 rfl ?_
  refine xV_iload_n 8 rfl dX10_shape_7 rfl 2 rfl ?_
  obtain ⟨v8, hv8, hf⟩ := xb_s hf
  refine xV_same (rest := []) 11 rfl dX10_shape_8 rfl (C10_isSplit X.1.2.1 hv8) m10_isSplit v10_isSplit k10_210 rfl rfl rfl rfl rfl (Nat.le_of_ble_eq_true rfl) (Nat.le_of_ble_eq_true rfl) (Nat.le_of_ble_eq_true rfl) ⟨Nat.le_refl _, Nat.le_refl _⟩ ?_
  show xV (j10_shape) X 0 0 (hM (0 : Int32) c_told c_read c_many c_eights c_gains c_notes c_seen c_turns c_drawn c_state c_tape c_taped c_size c_from c_next c_token c_value c_fault c_number c_fives c_isLeft c_wentTimes c_goes c_isLeftLaid c_game c_rows c_columns c_isFound c_bestValue c_bestBelow c_bestShare c_share c_matrix c_system c_shares c_allShares) 11 [(0, .ref 0), (1, .int x1), (2, .int x2), (3, .int x3)] [.int v8]
  refine xV_if_eq (tgt := 23) 14 rfl dX10_shape_11 (by decide) (fun h11 => ?_) (fun h11 => ?_)
  · have hf := xif_t hf h11
    refine xV_iconst 24 rfl dX10_shape_23 xk_im1 ?_
    obtain rfl := Option.some.inj hf
    exact xV_iret hX dX10_shape_24 rfl (Nat.zero_le _) (Nat.zero_le _)
  · have hf := xif_f hf h11
    refine xV_iload_n 15 rfl dX10_shape_14 rfl 3 rfl ?_
    refine xV_iconst 16 rfl dX10_shape_15 xk_i0 ?_
    refine xV_iconst 17 rfl dX10_shape_16 xk_i2 ?_
    obtain ⟨v17, hv17, hf⟩ := xb_s hf
    refine xV_st0 (rest := []) 20 rfl dX10_shape_17 rfl (C10_within X.1.2.1 hv17) m10_within s10_within k10_7 rfl (Nat.le_of_ble_eq_true rfl) (Nat.le_of_ble_eq_true rfl) (Nat.le_of_ble_eq_true rfl) ⟨Nat.le_refl _, Nat.le_refl _⟩ ?_
    show xV (j10_shape) X 0 0 (hM (0 : Int32) c_told c_read c_many c_eights c_gains c_notes c_seen c_turns c_drawn c_state c_tape c_taped c_size c_from c_next c_token c_value c_fault c_number c_fives c_isLeft c_wentTimes c_goes c_isLeftLaid c_game c_rows c_columns c_isFound c_bestValue c_bestBelow c_bestShare c_share c_matrix c_system c_shares c_allShares) 20 [(0, .ref 0), (1, .int x1), (2, .int x2), (3, .int x3)] [.int v17]
    refine xV_if_ne (tgt := 25) 23 rfl dX10_shape_20 (by decide) (fun h20 => ?_) (fun h20 => ?_)
    · have hf := xif_f hf h20
      refine xV_iload_n 26 rfl dX10_shape_25 rfl 3 rfl ?_
      refine xV_if_ne (tgt := 38) 29 rfl dX10_shape_26 (by decide) (fun h26 => ?_) (fun h26 => ?_)
      · have hf := xif_f hf h26
        refine xV_iload_n 39 rfl dX10_shape_38 rfl 3 rfl ?_
        refine xV_iconst 40 rfl dX10_shape_39 xk_i1 ?_
        refine xV_icmp_ne (tgt := 52) 43 rfl dX10_shape_40 (by decide) (fun h40 => ?_) (fun h40 => ?_)
        · have hf := xif_f hf h40
          refine xV_aload_n 53 rfl dX10_shape_52 rfl 0 rfl ?_
          refine xV_iload_n 54 rfl dX10_shape_53 rfl 1 rfl ?_
          refine xV_iload_n 55 rfl dX10_shape_54 rfl 2 rfl ?_
          obtain ⟨v55, hv55, hf⟩ := xb_s hf
          refine xV_same (rest := []) 58 rfl dX10_shape_55 rfl (C10_begun X.1.2.1 hv55) m10_begun v10_begun k10_225 rfl rfl rfl rfl rfl (Nat.le_of_ble_eq_true rfl) (Nat.le_of_ble_eq_true rfl) (Nat.le_of_ble_eq_true rfl) ⟨Nat.le_refl _, Nat.le_refl _⟩ ?_
          show xV (j10_shape) X 0 0 (hM (0 : Int32) c_told c_read c_many c_eights c_gains c_notes c_seen c_turns c_drawn c_state c_tape c_taped c_size c_from c_next c_token c_value c_fault c_number c_fives c_isLeft c_wentTimes c_goes c_isLeftLaid c_game c_rows c_columns c_isFound c_bestValue c_bestBelow c_bestShare c_share c_matrix c_system c_shares c_allShares) 58 [(0, .ref 0), (1, .int x1), (2, .int x2), (3, .int x3)] [.int v55]
          obtain rfl := Option.some.inj hf
          exact xV_iret hX dX10_shape_58 rfl (Nat.zero_le _) (Nat.zero_le _)
        · have hf := xif_t hf h40
          refine xV_aload_n 44 rfl dX10_shape_43 rfl 0 rfl ?_
          refine xV_iload_n 45 rfl dX10_shape_44 rfl 1 rfl ?_
          refine xV_iload_n 46 rfl dX10_shape_45 rfl 2 rfl ?_
          obtain ⟨v46, hv46, hf⟩ := xb_s hf
          refine xV_same (rest := []) 49 rfl dX10_shape_46 rfl (C10_firstLike X.1.2.1 hv46) m10_firstLike v10_firstLike k10_222 rfl rfl rfl rfl rfl (Nat.le_of_ble_eq_true rfl) (Nat.le_of_ble_eq_true rfl) (Nat.le_of_ble_eq_true rfl) ⟨Nat.le_refl _, Nat.le_refl _⟩ ?_
          show xV (j10_shape) X 0 0 (hM (0 : Int32) c_told c_read c_many c_eights c_gains c_notes c_seen c_turns c_drawn c_state c_tape c_taped c_size c_from c_next c_token c_value c_fault c_number c_fives c_isLeft c_wentTimes c_goes c_isLeftLaid c_game c_rows c_columns c_isFound c_bestValue c_bestBelow c_bestShare c_share c_matrix c_system c_shares c_allShares) 49 [(0, .ref 0), (1, .int x1), (2, .int x2), (3, .int x3)] [.int v46]
          refine xV_goto (tgt := 58) dX10_shape_49 (by decide) ?_
          obtain rfl := Option.some.inj hf
          exact xV_iret hX dX10_shape_58 rfl (Nat.zero_le _) (Nat.zero_le _)
      · have hf := xif_t hf h26
        refine xV_aload_n 30 rfl dX10_shape_29 rfl 0 rfl ?_
        refine xV_iload_n 31 rfl dX10_shape_30 rfl 1 rfl ?_
        refine xV_iload_n 32 rfl dX10_shape_31 rfl 2 rfl ?_
        obtain ⟨v32, hv32, hf⟩ := xb_s hf
        refine xV_same (rest := []) 35 rfl dX10_shape_32 rfl (C10_alike X.1.2.1 hv32) m10_alike v10_alike k10_228 rfl rfl rfl rfl rfl (Nat.le_of_ble_eq_true rfl) (Nat.le_of_ble_eq_true rfl) (Nat.le_of_ble_eq_true rfl) ⟨Nat.le_refl _, Nat.le_refl _⟩ ?_
        show xV (j10_shape) X 0 0 (hM (0 : Int32) c_told c_read c_many c_eights c_gains c_notes c_seen c_turns c_drawn c_state c_tape c_taped c_size c_from c_next c_token c_value c_fault c_number c_fives c_isLeft c_wentTimes c_goes c_isLeftLaid c_game c_rows c_columns c_isFound c_bestValue c_bestBelow c_bestShare c_share c_matrix c_system c_shares c_allShares) 35 [(0, .ref 0), (1, .int x1), (2, .int x2), (3, .int x3)] [.int v32]
        refine xV_goto (tgt := 58) dX10_shape_35 (by decide) ?_
        obtain rfl := Option.some.inj hf
        exact xV_iret hX dX10_shape_58 rfl (Nat.zero_le _) (Nat.zero_le _)
    · have hf := xif_t hf h20
      refine xV_iconst 24 rfl dX10_shape_23 xk_im1 ?_
      obtain rfl := Option.some.inj hf
      exact xV_iret hX dX10_shape_24 rfl (Nat.zero_le _) (Nat.zero_le _)
theorem C10_shape (l : Launch) {z : Nat} {x1 : Int32} {x2 : Int32} {x3 : Int32} {c_thrown : Int32} {c_told : (Nat → Int32)} {c_many : (Nat → Int32)} {c_eights : (Nat → Int32)} {c_fives : (Nat → Int32)} {c_read : (Nat → Int32)} {c_gains : (Nat → Int32)} {c_notes : (Nat → Int32)} {c_seen : (Nat → Int32)} {c_turns : (Nat → Int32)} {c_drawn : (Nat → Int32)} {c_state : Int32} {c_tape : (Nat → Int32)} {c_taped : Int32} {c_size : Int32} {c_from : Int32} {c_next : Int32} {c_token : Int32} {c_value : Int32} {c_fault : Int32} {c_number : Int32} {c_isLeft : (Nat → Int32)} {c_wentTimes : Int32} {c_goes : (Nat → Int32)} {c_isLeftLaid : Int32} {c_game : (Nat → Int32)} {c_rows : Int32} {c_columns : Int32} {c_isFound : Int32} {c_bestValue : Int64} {c_bestBelow : Int64} {c_bestShare : (Nat → Int64)} {c_share : (Nat → Int64)} {c_matrix : (Nat → Int64)} {c_system : (Nat → Int64)} {c_shares : (Nat → Int32)} {c_allShares : Int32} {v : Int32 × Int32} (hf : F10_shape z x1 x2 x3 c_thrown c_told c_many c_eights c_fives = some v) : xCt l yX10_shape ((some .int)) j10_shape [.ref 0, .int x1, .int x2, .int x3] (hM c_thrown c_told c_read c_many c_eights c_gains c_notes c_seen c_turns c_drawn c_state c_tape c_taped c_size c_from c_next c_token c_value c_fault c_number c_fives c_isLeft c_wentTimes c_goes c_isLeftLaid c_game c_rows c_columns c_isFound c_bestValue c_bestBelow c_bestShare c_share c_matrix c_system c_shares c_allShares) (some (.int v.1)) (hM v.2 c_told c_read c_many c_eights c_gains c_notes c_seen c_turns c_drawn c_state c_tape c_taped c_size c_from c_next c_token c_value c_fault c_number c_fives c_isLeft c_wentTimes c_goes c_isLeftLaid c_game c_rows c_columns c_isFound c_bestValue c_bestBelow c_bestShare c_share c_matrix c_system c_shares c_allShares) := xCt_of (by decide) rfl (Nat.le_of_ble_eq_true rfl) (fun _ hX => T10_shape hX hf)
theorem m10_shape : xMd yX10_shape RX10 ((some .int)) j10_shape 3 := ⟨List.mem_of_getElem? (i := 676) (by decide +kernel), List.mem_of_getElem? (i := 5) (by decide +kernel), rfl, by decide +kernel⟩
theorem v10_shape : xMv yX10_shape RX10 := ⟨List.mem_of_getElem? (i := 674) (by decide +kernel), List.mem_of_getElem? (i := 675) (by decide +kernel)⟩
theorem q10_231 : Jvm.Cond.constantLong RX10 231 (-1) ∈ wsL_law0 := List.mem_of_getElem? (i := 690) (by decide +kernel)
theorem dX10_ways_0 : decode cX10_ways 0 = .ok (.aload_n 0, 1) := by decide +kernel
theorem dX10_ways_1 : decode cX10_ways 1 = .ok (.iconst 0, 1) := by decide +kernel
theorem dX10_ways_2 : decode cX10_ways 2 = .ok (.putfield 1, 3) := by decide +kernel
theorem dX10_ways_5 : decode cX10_ways 5 = .ok (.iload_n 1, 1) := by decide +kernel
theorem dX10_ways_6 : decode cX10_ways 6 = .ok (.iconst 0, 1) := by decide +kernel
theorem dX10_ways_7 : decode cX10_ways 7 = .ok (.bipush 20, 2) := by decide +kernel
theorem dX10_ways_9 : decode cX10_ways 9 = .ok (.invokestatic 7, 3) := by decide +kernel
theorem dX10_ways_12 : decode cX10_ways 12 = .ok (.ifCond .eq 22, 3) := by decide +kernel
theorem dX10_ways_15 : decode cX10_ways 15 = .ok (.iload_n 2, 1) := by decide +kernel
theorem dX10_ways_16 : decode cX10_ways 16 = .ok (.iconst 1, 1) := by decide +kernel
theorem dX10_ways_17 : decode cX10_ways 17 = .ok (.bipush 8, 2) := by decide +kernel
theorem dX10_ways_19 : decode cX10_ways 19 = .ok (.invokestatic 7, 3) := by decide +kernel
theorem dX10_ways_22 : decode cX10_ways 22 = .ok (.ifCond .eq 12, 3) := by decide +kernel
theorem dX10_ways_25 : decode cX10_ways 25 = .ok (.iload_n 3, 1) := by decide +kernel
theorem dX10_ways_26 : decode cX10_ways 26 = .ok (.iconst 0, 1) := by decide +kernel
theorem dX10_ways_27 : decode cX10_ways 27 = .ok (.iconst 3, 1) := by decide +kernel
theorem dX10_ways_28 : decode cX10_ways 28 = .ok (.invokestatic 7, 3) := by decide +kernel
theorem dX10_ways_31 : decode cX10_ways 31 = .ok (.ifCond .ne 7, 3) := by decide +kernel
theorem dX10_ways_34 : decode cX10_ways 34 = .ok (.ldc2_w 231, 3) := by decide +kernel
theorem dX10_ways_37 : decode cX10_ways 37 = .ok (.lreturn, 1) := by decide +kernel
theorem dX10_ways_38 : decode cX10_ways 38 = .ok (.iload_n 1, 1) := by decide +kernel
theorem dX10_ways_39 : decode cX10_ways 39 = .ok (.iload_n 2, 1) := by decide +kernel
theorem dX10_ways_40 : decode cX10_ways 40 = .ok (.iload_n 3, 1) := by decide +kernel
theorem dX10_ways_41 : decode cX10_ways 41 = .ok (.imul, 1) := by decide +kernel
theorem dX10_ways_42 : decode cX10_ways 42 = .ok (.isub, 1) := by decide +kernel
theorem dX10_ways_43 : decode cX10_ways 43 = .ok (.istore 4, 2) := by decide +kernel
theorem dX10_ways_45 : decode cX10_ways 45 = .ok (.iload 4, 2) := by decide +kernel
theorem dX10_ways_47 : decode cX10_ways 47 = .ok (.ifCond .ge 7, 3) := by decide +kernel
theorem dX10_ways_50 : decode cX10_ways 50 = .ok (.lconst 0, 1) := by decide +kernel
theorem dX10_ways_51 : decode cX10_ways 51 = .ok (.goto 4, 3) := by decide +kernel
theorem dX10_ways_54 : decode cX10_ways 54 = .ok (.lconst 1, 1) := by decide +kernel
theorem dX10_ways_55 : decode cX10_ways 55 = .ok (.lstore 5, 2) := by decide +kernel
theorem dX10_ways_57 : decode cX10_ways 57 = .ok (.iconst 1, 1) := by decide +kernel
theorem dX10_ways_58 : decode cX10_ways 58 = .ok (.istore 7, 2) := by decide +kernel
theorem dX10_ways_60 : decode cX10_ways 60 = .ok (.iload 7, 2) := by decide +kernel
theorem dX10_ways_62 : decode cX10_ways 62 = .ok (.iload_n 2, 1) := by decide +kernel
theorem dX10_ways_63 : decode cX10_ways 63 = .ok (.if_icmp .ge 24, 3) := by decide +kernel
theorem dX10_ways_66 : decode cX10_ways 66 = .ok (.lload 5, 2) := by decide +kernel
theorem dX10_ways_68 : decode cX10_ways 68 = .ok (.iload 4, 2) := by decide +kernel
theorem dX10_ways_70 : decode cX10_ways 70 = .ok (.iload 7, 2) := by decide +kernel
theorem dX10_ways_72 : decode cX10_ways 72 = .ok (.iadd, 1) := by decide +kernel
theorem dX10_ways_73 : decode cX10_ways 73 = .ok (.i2l, 1) := by decide +kernel
theorem dX10_ways_74 : decode cX10_ways 74 = .ok (.lmul, 1) := by decide +kernel
theorem dX10_ways_75 : decode cX10_ways 75 = .ok (.iload 7, 2) := by decide +kernel
theorem dX10_ways_77 : decode cX10_ways 77 = .ok (.i2l, 1) := by decide +kernel
theorem dX10_ways_78 : decode cX10_ways 78 = .ok (.ldiv, 1) := by decide +kernel
theorem dX10_ways_79 : decode cX10_ways 79 = .ok (.lstore 5, 2) := by decide +kernel
theorem dX10_ways_81 : decode cX10_ways 81 = .ok (.iinc 7 1, 3) := by decide +kernel
theorem dX10_ways_84 : decode cX10_ways 84 = .ok (.goto (-24), 3) := by decide +kernel
theorem dX10_ways_87 : decode cX10_ways 87 = .ok (.iload 4, 2) := by decide +kernel
theorem dX10_ways_89 : decode cX10_ways 89 = .ok (.ifCond .ge 7, 3) := by decide +kernel
theorem dX10_ways_92 : decode cX10_ways 92 = .ok (.lconst 0, 1) := by decide +kernel
theorem dX10_ways_93 : decode cX10_ways 93 = .ok (.goto 5, 3) := by decide +kernel
theorem dX10_ways_96 : decode cX10_ways 96 = .ok (.lload 5, 2) := by decide +kernel
theorem dX10_ways_98 : decode cX10_ways 98 = .ok (.lreturn, 1) := by decide +kernel
abbrev j10_ways : xJ := (cX10_ways, 8, RX10, 2, 0, 0)
def F10_ways_b34 (z : Nat) (c_thrown : Int32) : Option (Int64 × Int32) :=
  some ((-1 : Int64), c_thrown)
theorem T10_ways_b34 {X : xX} {c_told : (Nat → Int32)} {c_read : (Nat → Int32)} {c_many : (Nat → Int32)} {c_eights : (Nat → Int32)} {c_gains : (Nat → Int32)} {c_notes : (Nat → Int32)} {c_seen : (Nat → Int32)} {c_turns : (Nat → Int32)} {c_drawn : (Nat → Int32)} {c_state : Int32} {c_tape : (Nat → Int32)} {c_taped : Int32} {c_size : Int32} {c_from : Int32} {c_next : Int32} {c_token : Int32} {c_value : Int32} {c_fault : Int32} {c_number : Int32} {c_fives : (Nat → Int32)} {c_isLeft : (Nat → Int32)} {c_wentTimes : Int32} {c_goes : (Nat → Int32)} {c_isLeftLaid : Int32} {c_game : (Nat → Int32)} {c_rows : Int32} {c_columns : Int32} {c_isFound : Int32} {c_bestValue : Int64} {c_bestBelow : Int64} {c_bestShare : (Nat → Int64)} {c_share : (Nat → Int64)} {c_matrix : (Nat → Int64)} {c_system : (Nat → Int64)} {c_shares : (Nat → Int32)} {c_allShares : Int32} {c_thrown : Int32} {z : Nat} {v : Int64 × Int32} (hX : xIs (j10_ways) X ((some .long)) (some (.long v.1)) (hM v.2 c_told c_read c_many c_eights c_gains c_notes c_seen c_turns c_drawn c_state c_tape c_taped c_size c_from c_next c_token c_value c_fault c_number c_fives c_isLeft c_wentTimes c_goes c_isLeftLaid c_game c_rows c_columns c_isFound c_bestValue c_bestBelow c_bestShare c_share c_matrix c_system c_shares c_allShares)) (hf : F10_ways_b34 z c_thrown = some v) : xV (j10_ways) X 0 0 (hM c_thrown c_told c_read c_many c_eights c_gains c_notes c_seen c_turns c_drawn c_state c_tape c_taped c_size c_from c_next c_token c_value c_fault c_number c_fives c_isLeft c_wentTimes c_goes c_isLeftLaid c_game c_rows c_columns c_isFound c_bestValue c_bestBelow c_bestShare c_share c_matrix c_system c_shares c_allShares) 34 [] [] := by
  unfold F10_ways_b34 at hf
  refine xV_ldc2 37 rfl dX10_ways_34 q10_231 ?_
  obtain rfl := Option.some.inj hf
  exact xV_lret hX dX10_ways_37 (Nat.zero_le _) (Nat.zero_le _)
def F10_ways_b87 (z : Nat) (x4 : Int32) (x5 : Int64) (c_thrown : Int32) : Option (Int64 × Int32) :=
  if 0 ≤ x4 then (some (x5, c_thrown)) else (some ((0 : Int64), c_thrown))
theorem T10_ways_b87 {X : xX} {c_told : (Nat → Int32)} {c_read : (Nat → Int32)} {c_many : (Nat → Int32)} {c_eights : (Nat → Int32)} {c_gains : (Nat → Int32)} {c_notes : (Nat → Int32)} {c_seen : (Nat → Int32)} {c_turns : (Nat → Int32)} {c_drawn : (Nat → Int32)} {c_state : Int32} {c_tape : (Nat → Int32)} {c_taped : Int32} {c_size : Int32} {c_from : Int32} {c_next : Int32} {c_token : Int32} {c_value : Int32} {c_fault : Int32} {c_number : Int32} {c_fives : (Nat → Int32)} {c_isLeft : (Nat → Int32)} {c_wentTimes : Int32} {c_goes : (Nat → Int32)} {c_isLeftLaid : Int32} {c_game : (Nat → Int32)} {c_rows : Int32} {c_columns : Int32} {c_isFound : Int32} {c_bestValue : Int64} {c_bestBelow : Int64} {c_bestShare : (Nat → Int64)} {c_share : (Nat → Int64)} {c_matrix : (Nat → Int64)} {c_system : (Nat → Int64)} {c_shares : (Nat → Int32)} {c_allShares : Int32} {x4 : Int32} {x5 : Int64} {c_thrown : Int32} {z : Nat} {v : Int64 × Int32} (hX : xIs (j10_ways) X ((some .long)) (some (.long v.1)) (hM v.2 c_told c_read c_many c_eights c_gains c_notes c_seen c_turns c_drawn c_state c_tape c_taped c_size c_from c_next c_token c_value c_fault c_number c_fives c_isLeft c_wentTimes c_goes c_isLeftLaid c_game c_rows c_columns c_isFound c_bestValue c_bestBelow c_bestShare c_share c_matrix c_system c_shares c_allShares)) (hf : F10_ways_b87 z x4 x5 c_thrown = some v) : xV (j10_ways) X 0 0 (hM c_thrown c_told c_read c_many c_eights c_gains c_notes c_seen c_turns c_drawn c_state c_tape c_taped c_size c_from c_next c_token c_value c_fault c_number c_fives c_isLeft c_wentTimes c_goes c_isLeftLaid c_game c_rows c_columns c_isFound c_bestValue c_bestBelow c_bestShare c_share c_matrix c_system c_shares c_allShares) 87 [(4, .int x4), (5, .long x5)] [] := by
  unfold F10_ways_b87 at hf
  refine xV_iload 89 rfl dX10_ways_87 0 rfl ?_
  refine xV_if_ge (tgt := 96) 92 rfl dX10_ways_89 (by decide) (fun h89 => ?_) (fun h89 => ?_)
  · have hf := xif_t hf h89
    refine xV_lload 98 rfl dX10_ways_96 1 rfl ?_
    obtain rfl := Option.some.inj hf
    exact xV_lret hX dX10_ways_98 (Nat.zero_le _) (Nat.zero_le _)
  · have hf := xif_f hf h89
    refine xV_lconst (v := 0) 93 rfl dX10_ways_92 (by decide) ?_
    refine xV_goto (tgt := 98) dX10_ways_93 (by decide) ?_
    obtain rfl := Option.some.inj hf
    exact xV_lret hX dX10_ways_98 (Nat.zero_le _) (Nat.zero_le _)
def F10_ways_b60 (z : Nat) (w : Nat) (x2 : Int32) (x4 : Int32) (x5 : Int64) (x7 : Int32) (c_thrown : Int32) : Option (Int64 × Int32) := match w with
  | 0 => none
  | w + 1 => if x2 ≤ x7 then (F10_ways_b87 z x4 x5 c_thrown) else (xg (xnzl (x7).toInt64) (F10_ways_b60 z w x2 x4 ((x5 * ((x4 + x7)).toInt64) / (x7).toInt64) (x7 + (1 : Int32)) c_thrown))
theorem T10_ways_b60 {X : xX} {c_told : (Nat → Int32)} {c_read : (Nat → Int32)} {c_many : (Nat → Int32)} {c_eights : (Nat → Int32)} {c_gains : (Nat → Int32)} {c_notes : (Nat → Int32)} {c_seen : (Nat → Int32)} {c_turns : (Nat → Int32)} {c_drawn : (Nat → Int32)} {c_state : Int32} {c_tape : (Nat → Int32)} {c_taped : Int32} {c_size : Int32} {c_from : Int32} {c_next : Int32} {c_token : Int32} {c_value : Int32} {c_fault : Int32} {c_number : Int32} {c_fives : (Nat → Int32)} {c_isLeft : (Nat → Int32)} {c_wentTimes : Int32} {c_goes : (Nat → Int32)} {c_isLeftLaid : Int32} {c_game : (Nat → Int32)} {c_rows : Int32} {c_columns : Int32} {c_isFound : Int32} {c_bestValue : Int64} {c_bestBelow : Int64} {c_bestShare : (Nat → Int64)} {c_share : (Nat → Int64)} {c_matrix : (Nat → Int64)} {c_system : (Nat → Int64)} {c_shares : (Nat → Int32)} {c_allShares : Int32} {z : Nat} {v : Int64 × Int32} (hX : xIs (j10_ways) X ((some .long)) (some (.long v.1)) (hM v.2 c_told c_read c_many c_eights c_gains c_notes c_seen c_turns c_drawn c_state c_tape c_taped c_size c_from c_next c_token c_value c_fault c_number c_fives c_isLeft c_wentTimes c_goes c_isLeftLaid c_game c_rows c_columns c_isFound c_bestValue c_bestBelow c_bestShare c_share c_matrix c_system c_shares c_allShares)) : ∀ (w : Nat) {x2 : Int32} {x4 : Int32} {x5 : Int64} {x7 : Int32} {c_thrown : Int32}, F10_ways_b60 z w x2 x4 x5 x7 c_thrown = some v → xV (j10_ways) X 0 0 (hM c_thrown c_told c_read c_many c_eights c_gains c_notes c_seen c_turns c_drawn c_state c_tape c_taped c_size c_from c_next c_token c_value c_fault c_number c_fives c_isLeft c_wentTimes c_goes c_isLeftLaid c_game c_rows c_columns c_isFound c_bestValue c_bestBelow c_bestShare c_share c_matrix c_system c_shares c_allShares) 60 [(2, .int x2), (4, .int x4), (5, .long x5), (7, .int x7)] [] := by
  intro w
  induction w with
  | zero => intro x2 x4 x5 x7 c_thrown hf; cases hf
  | succ w ih =>
    intro x2 x4 x5 x7 c_thrown hf
    unfold F10_ways_b60 at hf
    refine xV_iload 62 rfl dX10_ways_60 3 rfl ?_
    refine xV_iload_n 63 rfl dX10_ways_62 rfl 0 rfl ?_
    refine xV_icmp_ge (tgt := 87) 66 rfl dX10_ways_63 (by decide) (fun h63 => ?_) (fun h63 => ?_)
    · have hf := xif_t hf h63
      refine xV_sub [1, 2] rfl ?_
      exact T10_ways_b87 hX hf
    · have hf := xif_f hf h63
      refine xV_lload 68 rfl dX10_ways_66 2 rfl ?_
      refine xV_iload 70 rfl dX10_ways_68 1 rfl ?_
      refine xV_iload 72 rfl dX10_ways_70 3 rfl ?_
      refine xV_iadd 73 rfl dX10_ways_72 ?_
      refine xV_i2l 74 rfl dX10_ways_73 ?_
      refine xV_lmul 75 rfl dX10_ways_74 ?_
      refine xV_iload 77 rfl dX10_ways_75 3 rfl ?_
      refine xV_i2l 78 rfl dX10_ways_77 ?_
      obtain ⟨hg78, hf⟩ := xg_s hf
      refine xV_ldiv 79 rfl dX10_ways_78 (xnzl_ok hg78) ?_
      refine xV_lstore (L' := [(5, .long ((x5 * ((x4 + x7)).toInt64) / (x7).toInt64)), (2, .int x2), (4, .int x4), (7, .int x7)]) 81 rfl dX10_ways_79 (xlt rfl) rfl ?_
      refine xV_iinc (L' := [(7, .int (x7 + (1 : Int32))), (5, .long ((x5 * ((x4 + x7)).toInt64) / (x7).toInt64)), (2, .int x2), (4, .int x4)]) 84 rfl dX10_ways_81 3 rfl (xk_inc xk_i1) (xlt rfl) rfl ?_
      refine xV_goto (tgt := 60) dX10_ways_84 (by decide) ?_
      refine xV_sub [2, 3, 1, 0] rfl ?_
      exact ih hf
def F10_ways_b55 (z : Nat) (x2 : Int32) (x4 : Int32) (s0 : Int64) (c_thrown : Int32) : Option (Int64 × Int32) :=
  F10_ways_b60 z z x2 x4 s0 (1 : Int32) c_thrown
theorem T10_ways_b55 {X : xX} {c_told : (Nat → Int32)} {c_read : (Nat → Int32)} {c_many : (Nat → Int32)} {c_eights : (Nat → Int32)} {c_gains : (Nat → Int32)} {c_notes : (Nat → Int32)} {c_seen : (Nat → Int32)} {c_turns : (Nat → Int32)} {c_drawn : (Nat → Int32)} {c_state : Int32} {c_tape : (Nat → Int32)} {c_taped : Int32} {c_size : Int32} {c_from : Int32} {c_next : Int32} {c_token : Int32} {c_value : Int32} {c_fault : Int32} {c_number : Int32} {c_fives : (Nat → Int32)} {c_isLeft : (Nat → Int32)} {c_wentTimes : Int32} {c_goes : (Nat → Int32)} {c_isLeftLaid : Int32} {c_game : (Nat → Int32)} {c_rows : Int32} {c_columns : Int32} {c_isFound : Int32} {c_bestValue : Int64} {c_bestBelow : Int64} {c_bestShare : (Nat → Int64)} {c_share : (Nat → Int64)} {c_matrix : (Nat → Int64)} {c_system : (Nat → Int64)} {c_shares : (Nat → Int32)} {c_allShares : Int32} {x2 : Int32} {x4 : Int32} {s0 : Int64} {c_thrown : Int32} {z : Nat} {v : Int64 × Int32} (hX : xIs (j10_ways) X ((some .long)) (some (.long v.1)) (hM v.2 c_told c_read c_many c_eights c_gains c_notes c_seen c_turns c_drawn c_state c_tape c_taped c_size c_from c_next c_token c_value c_fault c_number c_fives c_isLeft c_wentTimes c_goes c_isLeftLaid c_game c_rows c_columns c_isFound c_bestValue c_bestBelow c_bestShare c_share c_matrix c_system c_shares c_allShares)) (hf : F10_ways_b55 z x2 x4 s0 c_thrown = some v) : xV (j10_ways) X 0 0 (hM c_thrown c_told c_read c_many c_eights c_gains c_notes c_seen c_turns c_drawn c_state c_tape c_taped c_size c_from c_next c_token c_value c_fault c_number c_fives c_isLeft c_wentTimes c_goes c_isLeftLaid c_game c_rows c_columns c_isFound c_bestValue c_bestBelow c_bestShare c_share c_matrix c_system c_shares c_allShares) 55 [(2, .int x2), (4, .int x4)] [.long s0] := by
  unfold F10_ways_b55 at hf
  refine xV_lstore (L' := [(5, .long s0), (2, .int x2), (4, .int x4)]) 57 rfl dX10_ways_55 (xlt rfl) rfl ?_
  refine xV_iconst 58 rfl dX10_ways_57 xk_i1 ?_
  refine xV_istore (L' := [(7, .int (1 : Int32)), (5, .long s0), (2, .int x2), (4, .int x4)]) 60 rfl dX10_ways_58 (xlt rfl) rfl ?_
  refine xV_sub [2, 3, 1, 0] rfl ?_
  exact T10_ways_b60 hX _ hf
def F10_ways (z : Nat) (x1 : Int32) (x2 : Int32) (x3 : Int32) (c_thrown : Int32) : Option (Int64 × Int32) :=
  (F10_within x1 (0 : Int32) (20 : Int32)).bind (fun v9 => if v9 = 0 then (F10_ways_b34 z (0 : Int32)) else ((F10_within x2 (1 : Int32) (8 : Int32)).bind (fun v19 => if v19 = 0 then (F10_ways_b34 z (0 : Int32)) else ((F10_within x3 (0 : Int32) (3 : Int32)).bind (fun v28 => if v28 = 0 then (F10_ways_b34 z (0 : Int32)) else (if 0 ≤ (x1 - (x2 * x3)) then (F10_ways_b55 z x2 (x1 - (x2 * x3)) (1 : Int64) (0 : Int32)) else (F10_ways_b55 z x2 (x1 - (x2 * x3)) (0 : Int64) (0 : Int32))))))))
theorem T10_ways {X : xX} {z : Nat} {x1 : Int32} {x2 : Int32} {x3 : Int32} {c_thrown : Int32} {c_told : (Nat → Int32)} {c_read : (Nat → Int32)} {c_many : (Nat → Int32)} {c_eights : (Nat → Int32)} {c_gains : (Nat → Int32)} {c_notes : (Nat → Int32)} {c_seen : (Nat → Int32)} {c_turns : (Nat → Int32)} {c_drawn : (Nat → Int32)} {c_state : Int32} {c_tape : (Nat → Int32)} {c_taped : Int32} {c_size : Int32} {c_from : Int32} {c_next : Int32} {c_token : Int32} {c_value : Int32} {c_fault : Int32} {c_number : Int32} {c_fives : (Nat → Int32)} {c_isLeft : (Nat → Int32)} {c_wentTimes : Int32} {c_goes : (Nat → Int32)} {c_isLeftLaid : Int32} {c_game : (Nat → Int32)} {c_rows : Int32} {c_columns : Int32} {c_isFound : Int32} {c_bestValue : Int64} {c_bestBelow : Int64} {c_bestShare : (Nat → Int64)} {c_share : (Nat → Int64)} {c_matrix : (Nat → Int64)} {c_system : (Nat → Int64)} {c_shares : (Nat → Int32)} {c_allShares : Int32} {v : Int64 × Int32} (hX : xIs (j10_ways) X ((some .long)) (some (.long v.1)) (hM v.2 c_told c_read c_many c_eights c_gains c_notes c_seen c_turns c_drawn c_state c_tape c_taped c_size c_from c_next c_token c_value c_fault c_number c_fives c_isLeft c_wentTimes c_goes c_isLeftLaid c_game c_rows c_columns c_isFound c_bestValue c_bestBelow c_bestShare c_share c_matrix c_system c_shares c_allShares)) (hf : F10_ways z x1 x2 x3 c_thrown = some v) : xV (j10_ways) X 0 0 (hM c_thrown c_told c_read c_many c_eights c_gains c_notes c_seen c_turns c_drawn c_state c_tape c_taped c_size c_from c_next c_token c_value c_fault c_number c_fives c_isLeft c_wentTimes c_goes c_isLeftLaid c_game c_rows c_columns c_isFound c_bestValue c_bestBelow c_bestShare c_share c_matrix c_system c_shares c_allShares) 0 [(0, .ref 0), (1, .int x1), (2, .int x2), (3, .int x3)] [] := by
  unfold F10_ways at hf
  refine xV_aload_n 1 rfl dX10_ways_0 rfl 0 rfl ?_
  refine xV_iconst 2 rfl dX10_ways_1 xk_i0 ?_
  refine xV_put (h' := (hM (0 : Int32) c_told c_read c_many c_eights c_gains c_notes c_seen c_turns c_drawn c_state c_tape c_taped c_size c_from c_next c_token c_value c_fault c_number c_fives c_isLeft c_wentTimes c_goes c_isLeftLaid c_game c_rows c_columns c_isFound c_bestValue c_bestBelow c_bestShare c_share c_matrix c_system c_shares c_allShares)) 5 rfl dX10_ways_2 f10_1 rfl nf10_0 (fun _ => rfl) (fun _ => rfl) (Nat.le_of_ble_eq_true rfl) rfl ?_
  refine xV_iload_n 6 rfl dX10_ways_5 rfl 1 rfl ?_
  refine xV_iconst 7 rfl dX10_ways_6 xk_i0 ?_
  refine xV_bipush 9 rfl dX10_ways_7 xk_b20 ?_
  obtain ⟨v9, hv9, hf⟩ := xb_s hf
  refine xV_st0 (rest := []) 12 rfl dX10_ways_9 rfl (C10_within X.1.2.1 hv9) m10_within s10_within k10_7 rfl (Nat.le_of_ble_eq_true rfl) (Nat.le_of_ble_eq_true rfl) (Nat.le_of_ble_eq_true rfl) ⟨Nat.le_refl _, Nat.le_refl _⟩ ?_
  show xV (j10_ways) X 0 0 (hM (0 : Int32) c_told c_read c_many c_eights c_gains c_notes c_seen c_turns c_drawn c_state c_tape c_taped c_size c_from c_next c_token c_value c_fault c_number c_fives c_isLeft c_wentTimes c_goes c_isLeftLaid c_game c_rows c_columns c_isFound c_bestValue c_bestBelow c_bestShare c_share c_matrix c_system c_shares c_allShares) 12 [(0, .ref 0), (1, .int x1), (2, .int x2), (3, .int x3)] [.int v9]
  refine xV_if_eq (tgt := 34) 15 rfl dX10_ways_12 (by decide) (fun h12 => ?_) (fun h12 => ?_)
  · have hf := xif_t hf h12
    refine xV_sub [] rfl ?_
    exact T10_ways_b34 hX hf
  · have hf := xif_f hf h12
    refine xV_iload_n 16 rfl dX10_ways_15 rfl 2 rfl ?_
    refine xV_iconst 17 rfl dX10_ways_16 xk_i1 ?_
    refine xV_bipush 19 rfl dX10_ways_17 xk_b8 ?_
    obtain ⟨v19, hv19, hf⟩ := xb_s hf
    refine xV_st0 (rest := []) 22 rfl dX10_ways_19 rfl (C10_within X.1.2.1 hv19) m10_within s10_within k10_7 rfl (Nat.le_of_ble_eq_true rfl) (Nat.le_of_ble_eq_true rfl) (Nat.le_of_ble_eq_true rfl) ⟨Nat.le_refl _, Nat.le_refl _⟩ ?_
    show xV (j10_ways) X 0 0 (hM (0 : Int32) c_told c_read c_many c_eights c_gains c_notes c_seen c_turns c_drawn c_state c_tape c_taped c_size c_from c_next c_token c_value c_fault c_number c_fives c_isLeft c_wentTimes c_goes c_isLeftLaid c_game c_rows c_columns c_isFound c_bestValue c_bestBelow c_bestShare c_share c_matrix c_system c_shares c_allShares) 22 [(0, .ref 0), (1, .int x1), (2, .int x2), (3, .int x3)] [.int v19]
    refine xV_if_eq (tgt := 34) 25 rfl dX10_ways_22 (by decide) (fun h22 => ?_) (fun h22 => ?_)
    · have hf := xif_t hf h22
      refine xV_sub [] rfl ?_
      exact T10_ways_b34 hX hf
    · have hf := xif_f hf h22
      refine xV_iload_n 26 rfl dX10_ways_25 rfl 3 rfl ?_
      refine xV_iconst 27 rfl dX10_ways_26 xk_i0 ?_
      refine xV_iconst 28 rfl dX10_ways_27 xk_i3 ?_
      obtain ⟨v28, hv28, hf⟩ := xb_s hf
      refine xV_st0 (rest := []) 31 rfl dX10_ways_28 rfl (C10_within X.1.2.1 hv28) m10_within s10_within k10_7 rfl (Nat.le_of_ble_eq_true rfl) (Nat.le_of_ble_eq_true rfl) (Nat.le_of_ble_eq_true rfl) ⟨Nat.le_refl _, Nat.le_refl _⟩ ?_
      show xV (j10_ways) X 0 0 (hM (0 : Int32) c_told c_read c_many c_eights c_gains c_notes c_seen c_turns c_drawn c_state c_tape c_taped c_size c_from c_next c_token c_value c_fault c_number c_fives c_isLeft c_wentTimes c_goes c_isLeftLaid c_game c_rows c_columns c_isFound c_bestValue c_bestBelow c_bestShare c_share c_matrix c_system c_shares c_allShares) 31 [(0, .ref 0), (1, .int x1), (2, .int x2), (3, .int x3)] [.int v28]
      refine xV_if_ne (tgt := 38) 34 rfl dX10_ways_31 (by decide) (fun h31 => ?_) (fun h31 => ?_)
      · have hf := xif_f hf h31
        refine xV_iload_n 39 rfl dX10_ways_38 rfl 1 rfl ?_
        refine xV_iload_n 40 rfl dX10_ways_39 rfl 2 rfl ?_
        refine xV_iload_n 41 rfl dX10_ways_40 rfl 3 rfl ?_
        refine xV_imul 42 rfl dX10_ways_41 ?_
        refine xV_isub 43 rfl dX10_ways_42 ?_
        refine xV_istore (L' := [(4, .int (x1 - (x2 * x3))), (0, .ref 0), (1, .int x1), (2, .int x2), (3, .int x3)]) 45 rfl dX10_ways_43 (xlt rfl) rfl ?_
        refine xV_iload 47 rfl dX10_ways_45 0 rfl ?_
        refine xV_if_ge (tgt := 54) 50 rfl dX10_ways_47 (by decide) (fun h47 => ?_) (fun h47 => ?_)
        · have hf := xif_t hf h47
          refine xV_lconst (v := 1) 55 rfl dX10_ways_54 (by decide) ?_
          refine xV_sub [3, 0] rfl ?_
          exact T10_ways_b55 hX hf
        · have hf := xif_f hf h47
          refine xV_lconst (v := 0) 51 rfl dX10_ways_50 (by decide) ?_
          refine xV_goto (tgt := 55) dX10_ways_51 (by decide) ?_
          refine xV_sub [3, 0] rfl ?_
          exact T10_ways_b55 hX hf
      · have hf := xif_t hf h31
        refine xV_sub [] rfl ?_
        exact T10_ways_b34 hX hf
theorem C10_ways (l : Launch) {z : Nat} {x1 : Int32} {x2 : Int32} {x3 : Int32} {c_thrown : Int32} {c_told : (Nat → Int32)} {c_read : (Nat → Int32)} {c_many : (Nat → Int32)} {c_eights : (Nat → Int32)} {c_gains : (Nat → Int32)} {c_notes : (Nat → Int32)} {c_seen : (Nat → Int32)} {c_turns : (Nat → Int32)} {c_drawn : (Nat → Int32)} {c_state : Int32} {c_tape : (Nat → Int32)} {c_taped : Int32} {c_size : Int32} {c_from : Int32} {c_next : Int32} {c_token : Int32} {c_value : Int32} {c_fault : Int32} {c_number : Int32} {c_fives : (Nat → Int32)} {c_isLeft : (Nat → Int32)} {c_wentTimes : Int32} {c_goes : (Nat → Int32)} {c_isLeftLaid : Int32} {c_game : (Nat → Int32)} {c_rows : Int32} {c_columns : Int32} {c_isFound : Int32} {c_bestValue : Int64} {c_bestBelow : Int64} {c_bestShare : (Nat → Int64)} {c_share : (Nat → Int64)} {c_matrix : (Nat → Int64)} {c_system : (Nat → Int64)} {c_shares : (Nat → Int32)} {c_allShares : Int32} {v : Int64 × Int32} (hf : F10_ways z x1 x2 x3 c_thrown = some v) : xCt l yX10_ways ((some .long)) j10_ways [.ref 0, .int x1, .int x2, .int x3] (hM c_thrown c_told c_read c_many c_eights c_gains c_notes c_seen c_turns c_drawn c_state c_tape c_taped c_size c_from c_next c_token c_value c_fault c_number c_fives c_isLeft c_wentTimes c_goes c_isLeftLaid c_game c_rows c_columns c_isFound c_bestValue c_bestBelow c_bestShare c_share c_matrix c_system c_shares c_allShares) (some (.long v.1)) (hM v.2 c_told c_read c_many c_eights c_gains c_notes c_seen c_turns c_drawn c_state c_tape c_taped c_size c_from c_next c_token c_value c_fault c_number c_fives c_isLeft c_wentTimes c_goes c_isLeftLaid c_game c_rows c_columns c_isFound c_bestValue c_bestBelow c_bestShare c_share c_matrix c_system c_shares c_allShares) := xCt_of (by decide) rfl (Nat.le_of_ble_eq_true rfl) (fun _ hX => T10_ways hX hf)
theorem m10_ways : xMd yX10_ways RX10 ((some .long)) j10_ways 3 := ⟨List.mem_of_getElem? (i := 689) (by decide +kernel), List.mem_of_getElem? (i := 5) (by decide +kernel), rfl, by decide +kernel⟩
theorem v10_ways : xMv yX10_ways RX10 := ⟨List.mem_of_getElem? (i := 687) (by decide +kernel), List.mem_of_getElem? (i := 688) (by decide +kernel)⟩
theorem f10_53 : xFl RX10 53 10 21 := ⟨_, rfl, by decide, List.mem_of_getElem? (i := 136) (by decide +kernel)⟩
theorem k10_233 : Cond.methodLink RX10 233 yX10_gainFor ∈ wsL_law0 := List.mem_of_getElem? (i := 712) (by decide +kernel)
theorem dX10_isWorse_0 : decode cX10_isWorse 0 = .ok (.iconst 0, 1) := by decide +kernel
theorem dX10_isWorse_1 : decode cX10_isWorse 1 = .ok (.istore 6, 2) := by decide +kernel
theorem dX10_isWorse_3 : decode cX10_isWorse 3 = .ok (.iconst 1, 1) := by decide +kernel
theorem dX10_isWorse_4 : decode cX10_isWorse 4 = .ok (.iload_n 1, 1) := by decide +kernel
theorem dX10_isWorse_5 : decode cX10_isWorse 5 = .ok (.isub, 1) := by decide +kernel
theorem dX10_isWorse_6 : decode cX10_isWorse 6 = .ok (.istore 7, 2) := by decide +kernel
theorem dX10_isWorse_8 : decode cX10_isWorse 8 = .ok (.iconst 0, 1) := by decide +kernel
theorem dX10_isWorse_9 : decode cX10_isWorse 9 = .ok (.istore 8, 2) := by decide +kernel
theorem dX10_isWorse_11 : decode cX10_isWorse 11 = .ok (.iload 8, 2) := by decide +kernel
theorem dX10_isWorse_13 : decode cX10_isWorse 13 = .ok (.aload_n 0, 1) := by decide +kernel
theorem dX10_isWorse_14 : decode cX10_isWorse 14 = .ok (.getfield 24, 3) := by decide +kernel
theorem dX10_isWorse_17 : decode cX10_isWorse 17 = .ok (.iload 7, 2) := by decide +kernel
theorem dX10_isWorse_19 : decode cX10_isWorse 19 = .ok (.iaload, 1) := by decide +kernel
theorem dX10_isWorse_20 : decode cX10_isWorse 20 = .ok (.if_icmp .ge 84, 3) := by decide +kernel
theorem dX10_isWorse_23 : decode cX10_isWorse 23 = .ok (.iload 5, 2) := by decide +kernel
theorem dX10_isWorse_25 : decode cX10_isWorse 25 = .ok (.ifCond .ne 20, 3) := by decide +kernel
theorem dX10_isWorse_28 : decode cX10_isWorse 28 = .ok (.aload_n 0, 1) := by decide +kernel
theorem dX10_isWorse_29 : decode cX10_isWorse 29 = .ok (.getfield 53, 3) := by decide +kernel
theorem dX10_isWorse_32 : decode cX10_isWorse 32 = .ok (.sipush 128, 3) := by decide +kernel
theorem dX10_isWorse_35 : decode cX10_isWorse 35 = .ok (.iload 7, 2) := by decide +kernel
theorem dX10_isWorse_37 : decode cX10_isWorse 37 = .ok (.imul, 1) := by decide +kernel
theorem dX10_isWorse_38 : decode cX10_isWorse 38 = .ok (.iload 8, 2) := by decide +kernel
theorem dX10_isWorse_40 : decode cX10_isWorse 40 = .ok (.iadd, 1) := by decide +kernel
theorem dX10_isWorse_41 : decode cX10_isWorse 41 = .ok (.baload, 1) := by decide +kernel
theorem dX10_isWorse_42 : decode cX10_isWorse 42 = .ok (.ifCond .eq 56, 3) := by decide +kernel
theorem dX10_isWorse_45 : decode cX10_isWorse 45 = .ok (.aload_n 0, 1) := by decide +kernel
theorem dX10_isWorse_46 : decode cX10_isWorse 46 = .ok (.iload_n 1, 1) := by decide +kernel
theorem dX10_isWorse_47 : decode cX10_isWorse 47 = .ok (.iload_n 2, 1) := by decide +kernel
theorem dX10_isWorse_48 : decode cX10_isWorse 48 = .ok (.iload 8, 2) := by decide +kernel
theorem dX10_isWorse_50 : decode cX10_isWorse 50 = .ok (.invokevirtual 233, 3) := by decide +kernel
theorem dX10_isWorse_53 : decode cX10_isWorse 53 = .ok (.aload_n 0, 1) := by decide +kernel
theorem dX10_isWorse_54 : decode cX10_isWorse 54 = .ok (.iload_n 1, 1) := by decide +kernel
theorem dX10_isWorse_55 : decode cX10_isWorse 55 = .ok (.iload_n 3, 1) := by decide +kernel
theorem dX10_isWorse_56 : decode cX10_isWorse 56 = .ok (.iload 8, 2) := by decide +kernel
theorem dX10_isWorse_58 : decode cX10_isWorse 58 = .ok (.invokevirtual 233, 3) := by decide +kernel
theorem dX10_isWorse_61 : decode cX10_isWorse 61 = .ok (.isub, 1) := by decide +kernel
theorem dX10_isWorse_62 : decode cX10_isWorse 62 = .ok (.istore 9, 2) := by decide +kernel
theorem dX10_isWorse_64 : decode cX10_isWorse 64 = .ok (.iload 9, 2) := by decide +kernel
theorem dX10_isWorse_66 : decode cX10_isWorse 66 = .ok (.ifCond .gt 13, 3) := by decide +kernel
theorem dX10_isWorse_69 : decode cX10_isWorse 69 = .ok (.iload 4, 2) := by decide +kernel
theorem dX10_isWorse_71 : decode cX10_isWorse 71 = .ok (.ifCond .eq 10, 3) := by decide +kernel
theorem dX10_isWorse_74 : decode cX10_isWorse 74 = .ok (.iload 9, 2) := by decide +kernel
theorem dX10_isWorse_76 : decode cX10_isWorse 76 = .ok (.ifCond .ne 5, 3) := by decide +kernel
theorem dX10_isWorse_79 : decode cX10_isWorse 79 = .ok (.iconst 0, 1) := by decide +kernel
theorem dX10_isWorse_80 : decode cX10_isWorse 80 = .ok (.ireturn, 1) := by decide +kernel
theorem dX10_isWorse_81 : decode cX10_isWorse 81 = .ok (.iload 6, 2) := by decide +kernel
theorem dX10_isWorse_83 : decode cX10_isWorse 83 = .ok (.ifCond .ne 8, 3) := by decide +kernel
theorem dX10_isWorse_86 : decode cX10_isWorse 86 = .ok (.iload 9, 2) := by decide +kernel
theorem dX10_isWorse_88 : decode cX10_isWorse 88 = .ok (.ifCond .ge 7, 3) := by decide +kernel
theorem dX10_isWorse_91 : decode cX10_isWorse 91 = .ok (.iconst 1, 1) := by decide +kernel
theorem dX10_isWorse_92 : decode cX10_isWorse 92 = .ok (.goto 4, 3) := by decide +kernel
theorem dX10_isWorse_95 : decode cX10_isWorse 95 = .ok (.iconst 0, 1) := by decide +kernel
theorem dX10_isWorse_96 : decode cX10_isWorse 96 = .ok (.istore 6, 2) := by decide +kernel
theorem dX10_isWorse_98 : decode cX10_isWorse 98 = .ok (.iinc 8 1, 3) := by decide +kernel
theorem dX10_isWorse_101 : decode cX10_isWorse 101 = .ok (.goto (-90), 3) := by decide +kernel
theorem dX10_isWorse_104 : decode cX10_isWorse 104 = .ok (.iload 6, 2) := by decide +kernel
theorem dX10_isWorse_106 : decode cX10_isWorse 106 = .ok (.ireturn, 1) := by decide +kernel
abbrev j10_isWorse : xJ := (cX10_isWorse, 10, RX10, 2, 0, 0)
def F10_isWorse_b98 (z : Nat) (x1 : Int32) (x2 : Int32) (x3 : Int32) (x4 : Int32) (x5 : Int32) (x6 : Int32) (x7 : Int32) (x8 : Int32) (c_many : (Nat → Int32)) (c_gains : (Nat → Int32)) (c_isLeft : (Nat → Int32)) (k11 : Int32 → Int32 → Int32 → Int32 → Int32 → Int32 → Int32 → Int32 → (Nat → Int32) → (Nat → Int32) → (Nat → Int32) → Option (Int32)) : Option (Int32) :=
  k11 x1 x2 x3 x4 x5 x6 x7 (x8 + (1 : Int32)) c_many c_gains c_isLeft
theorem T10_isWorse_b98 {X : xX} {c_thrown : Int32} {c_told : (Nat → Int32)} {c_read : (Nat → Int32)} {c_eights : (Nat → Int32)} {c_notes : (Nat → Int32)} {c_seen : (Nat → Int32)} {c_turns : (Nat → Int32)} {c_drawn : (Nat → Int32)} {c_state : Int32} {c_tape : (Nat → Int32)} {c_taped : Int32} {c_size : Int32} {c_from : Int32} {c_next : Int32} {c_token : Int32} {c_value : Int32} {c_fault : Int32} {c_number : Int32} {c_fives : (Nat → Int32)} {c_wentTimes : Int32} {c_goes : (Nat → Int32)} {c_isLeftLaid : Int32} {c_game : (Nat → Int32)} {c_rows : Int32} {c_columns : Int32} {c_isFound : Int32} {c_bestValue : Int64} {c_bestBelow : Int64} {c_bestShare : (Nat → Int64)} {c_share : (Nat → Int64)} {c_matrix : (Nat → Int64)} {c_system : (Nat → Int64)} {c_shares : (Nat → Int32)} {c_allShares : Int32} {x1 : Int32} {x2 : Int32} {x3 : Int32} {x4 : Int32} {x5 : Int32} {x6 : Int32} {x7 : Int32} {x8 : Int32} {c_many : (Nat → Int32)} {c_gains : (Nat → Int32)} {c_isLeft : (Nat → Int32)} {z : Nat} {v : Int32} {k11 : Int32 → Int32 → Int32 → Int32 → Int32 → Int32 → Int32 → Int32 → (Nat → Int32) → (Nat → Int32) → (Nat → Int32) → Option (Int32)} (hX : xIs (j10_isWorse) X ((some .boolean)) (some (.int v)) (hM c_thrown c_told c_read c_many c_eights c_gains c_notes c_seen c_turns c_drawn c_state c_tape c_taped c_size c_from c_next c_token c_value c_fault c_number c_fives c_isLeft c_wentTimes c_goes c_isLeftLaid c_game c_rows c_columns c_isFound c_bestValue c_bestBelow c_bestShare c_share c_matrix c_system c_shares c_allShares)) (hk11 : ∀ {x1 : Int32} {x2 : Int32} {x3 : Int32} {x4 : Int32} {x5 : Int32} {x6 : Int32} {x7 : Int32} {x8 : Int32}, k11 x1 x2 x3 x4 x5 x6 x7 x8 c_many c_gains c_isLeft = some v → xV (j10_isWorse) X 0 0 (hM c_thrown c_told c_read c_many c_eights c_gains c_notes c_seen c_turns c_drawn c_state c_tape c_taped c_size c_from c_next c_token c_value c_fault c_number c_fives c_isLeft c_wentTimes c_goes c_isLeftLaid c_game c_rows c_columns c_isFound c_bestValue c_bestBelow c_bestShare c_share c_matrix c_system c_shares c_allShares) 11 [(0, .ref 0), (1, .int x1), (2, .int x2), (3, .int x3), (4, .int x4), (5, .int x5), (6, .int x6), (7, .int x7), (8, .int x8)] []) (hf : F10_isWorse_b98 z x1 x2 x3 x4 x5 x6 x7 x8 c_many c_gains c_isLeft k11 = some v) : xV (j10_isWorse) X 0 0 (hM c_thrown c_told c_read c_many c_eights c_gains c_notes c_seen c_turns c_drawn c_state c_tape c_taped c_size c_from c_next c_token c_value c_fault c_number c_fives c_isLeft c_wentTimes c_goes c_isLeftLaid c_game c_rows c_columns c_isFound c_bestValue c_bestBelow c_bestShare c_share c_matrix c_system c_shares c_allShares) 98 [(0, .ref 0), (1, .int x1), (2, .int x2), (3, .int x3), (4, .int x4), (5, .int x5), (6, .int x6), (7, .int x7), (8, .int x8)] [] := by
  unfold F10_isWorse_b98 at hf
  refine xV_iinc (L' := [(8, .int (x8 + (1 : Int32))), (0, .ref 0), (1, .int x1), (2, .int x2), (3, .int x3), (4, .int x4), (5, .int x5), (6, .int x6), (7, .int x7)]) 101 rfl dX10_isWorse_98 8 rfl (xk_inc xk_i1) (xlt rfl) rfl ?_
  refine xV_goto (tgt := 11) dX10_isWorse_101 (by decide) ?_
  refine xV_sub [1, 2, 3, 4, 5, 6, 7, 8, 0] rfl ?_
  exact hk11 hf
def F10_isWorse_b96 (z : Nat) (x1 : Int32) (x2 : Int32) (x3 : Int32) (x4 : Int32) (x5 : Int32) (x7 : Int32) (x8 : Int32) (s0 : Int32) (c_many : (Nat → Int32)) (c_gains : (Nat → Int32)) (c_isLeft : (Nat → Int32)) (k11 : Int32 → Int32 → Int32 → Int32 → Int32 → Int32 → Int32 → Int32 → (Nat → Int32) → (Nat → Int32) → (Nat → Int32) → Option (Int32)) : Option (Int32) :=
  F10_isWorse_b98 z x1 x2 x3 x4 x5 s0 x7 x8 c_many c_gains c_isLeft k11
theorem T10_isWorse_b96 {X : xX} {c_thrown : Int32} {c_told : (Nat → Int32)} {c_read : (Nat → Int32)} {c_eights : (Nat → Int32)} {c_notes : (Nat → Int32)} {c_seen : (Nat → Int32)} {c_turns : (Nat → Int32)} {c_drawn : (Nat → Int32)} {c_state : Int32} {c_tape : (Nat → Int32)} {c_taped : Int32} {c_size : Int32} {c_from : Int32} {c_next : Int32} {c_token : Int32} {c_value : Int32} {c_fault : Int32} {c_number : Int32} {c_fives : (Nat → Int32)} {c_wentTimes : Int32} {c_goes : (Nat → Int32)} {c_isLeftLaid : Int32} {c_game : (Nat → Int32)} {c_rows : Int32} {c_columns : Int32} {c_isFound : Int32} {c_bestValue : Int64} {c_bestBelow : Int64} {c_bestShare : (Nat → Int64)} {c_share : (Nat → Int64)} {c_matrix : (Nat → Int64)} {c_system : (Nat → Int64)} {c_shares : (Nat → Int32)} {c_allShares : Int32} {x1 : Int32} {x2 : Int32} {x3 : Int32} {x4 : Int32} {x5 : Int32} {x7 : Int32} {x8 : Int32} {s0 : Int32} {c_many : (Nat → Int32)} {c_gains : (Nat → Int32)} {c_isLeft : (Nat → Int32)} {z : Nat} {v : Int32} {k11 : Int32 → Int32 → Int32 → Int32 → Int32 → Int32 → Int32 → Int32 → (Nat → Int32) → (Nat → Int32) → (Nat → Int32) → Option (Int32)} (hX : xIs (j10_isWorse) X ((some .boolean)) (some (.int v)) (hM c_thrown c_told c_read c_many c_eights c_gains c_notes c_seen c_turns c_drawn c_state c_tape c_taped c_size c_from c_next c_token c_value c_fault c_number c_fives c_isLeft c_wentTimes c_goes c_isLeftLaid c_game c_rows c_columns c_isFound c_bestValue c_bestBelow c_bestShare c_share c_matrix c_system c_shares c_allShares)) (hk11 : ∀ {x1 : Int32} {x2 : Int32} {x3 : Int32} {x4 : Int32} {x5 : Int32} {x6 : Int32} {x7 : Int32} {x8 : Int32}, k11 x1 x2 x3 x4 x5 x6 x7 x8 c_many c_gains c_isLeft = some v → xV (j10_isWorse) X 0 0 (hM c_thrown c_told c_read c_many c_eights c_gains c_notes c_seen c_turns c_drawn c_state c_tape c_taped c_size c_from c_next c_token c_value c_fault c_number c_fives c_isLeft c_wentTimes c_goes c_isLeftLaid c_game c_rows c_columns c_isFound c_bestValue c_bestBelow c_bestShare c_share c_matrix c_system c_shares c_allShares) 11 [(0, .ref 0), (1, .int x1), (2, .int x2), (3, .int x3), (4, .int x4), (5, .int x5), (6, .int x6), (7, .int x7), (8, .int x8)] []) (hf : F10_isWorse_b96 z x1 x2 x3 x4 x5 x7 x8 s0 c_many c_gains c_isLeft k11 = some v) : xV (j10_isWorse) X 0 0 (hM c_thrown c_told c_read c_many c_eights c_gains c_notes c_seen c_turns c_drawn c_state c_tape c_taped c_size c_from c_next c_token c_value c_fault c_number c_fives c_isLeft c_wentTimes c_goes c_isLeftLaid c_game c_rows c_columns c_isFound c_bestValue c_bestBelow c_bestShare c_share c_matrix c_system c_shares c_allShares) 96 [(0, .ref 0), (1, .int x1), (2, .int x2), (3, .int x3), (4, .int x4), (5, .int x5), (7, .int x7), (8, .int x8)] [.int s0] := by
  unfold F10_isWorse_b96 at hf
  refine xV_istore (L' := [(6, .int s0), (0, .ref 0), (1, .int x1), (2, .int x2), (3, .int x3), (4, .int x4), (5, .int x5), (7, .int x7), (8, .int x8)]) 98 rfl dX10_isWorse_96 (xlt rfl) rfl ?_
  refine xV_sub [1, 2, 3, 4, 5, 6, 0, 7, 8] rfl ?_
  exact T10_isWorse_b98 hX hk11 hf
def F10_isWorse_b81 (z : Nat) (x1 : Int32) (x2 : Int32) (x3 : Int32) (x4 : Int32) (x5 : Int32) (x6 : Int32) (x7 : Int32) (x8 : Int32) (x9 : Int32) (c_many : (Nat → Int32)) (c_gains : (Nat → Int32)) (c_isLeft : (Nat → Int32)) (k11 : Int32 → Int32 → Int32 → Int32 → Int32 → Int32 → Int32 → Int32 → (Nat → Int32) → (Nat → Int32) → (Nat → Int32) → Option (Int32)) : Option (Int32) :=
  if x6 = 0 then (if 0 ≤ x9 then (F10_isWorse_b96 z x1 x2 x3 x4 x5 x7 x8 (0 : Int32) c_many c_gains c_isLeft k11) else (F10_isWorse_b96 z x1 x2 x3 x4 x5 x7 x8 (1 : Int32) c_many c_gains c_isLeft k11)) else (F10_isWorse_b96 z x1 x2 x3 x4 x5 x7 x8 (1 : Int32) c_many c_gains c_isLeft k11)
theorem T10_isWorse_b81 {X : xX} {c_thrown : Int32} {c_told : (Nat → Int32)} {c_read : (Nat → Int32)} {c_eights : (Nat → Int32)} {c_notes : (Nat → Int32)} {c_seen : (Nat → Int32)} {c_turns : (Nat → Int32)} {c_drawn : (Nat → Int32)} {c_state : Int32} {c_tape : (Nat → Int32)} {c_taped : Int32} {c_size : Int32} {c_from : Int32} {c_next : Int32} {c_token : Int32} {c_value : Int32} {c_fault : Int32} {c_number : Int32} {c_fives : (Nat → Int32)} {c_wentTimes : Int32} {c_goes : (Nat → Int32)} {c_isLeftLaid : Int32} {c_game : (Nat → Int32)} {c_rows : Int32} {c_columns : Int32} {c_isFound : Int32} {c_bestValue : Int64} {c_bestBelow : Int64} {c_bestShare : (Nat → Int64)} {c_share : (Nat → Int64)} {c_matrix : (Nat → Int64)} {c_system : (Nat → Int64)} {c_shares : (Nat → Int32)} {c_allShares : Int32} {x1 : Int32} {x2 : Int32} {x3 : Int32} {x4 : Int32} {x5 : Int32} {x6 : Int32} {x7 : Int32} {x8 : Int32} {x9 : Int32} {c_many : (Nat → Int32)} {c_gains : (Nat → Int32)} {c_isLeft : (Nat → Int32)} {z : Nat} {v : Int32} {k11 : Int32 → Int32 → Int32 → Int32 → Int32 → Int32 → Int32 → Int32 → (Nat → Int32) → (Nat → Int32) → (Nat → Int32) → Option (Int32)} (hX : xIs (j10_isWorse) X ((some .boolean)) (some (.int v)) (hM c_thrown c_told c_read c_many c_eights c_gains c_notes c_seen c_turns c_drawn c_state c_tape c_taped c_size c_from c_next c_token c_value c_fault c_number c_fives c_isLeft c_wentTimes c_goes c_isLeftLaid c_game c_rows c_columns c_isFound c_bestValue c_bestBelow c_bestShare c_share c_matrix c_system c_shares c_allShares)) (hk11 : ∀ {x1 : Int32} {x2 : Int32} {x3 : Int32} {x4 : Int32} {x5 : Int32} {x6 : Int32} {x7 : Int32} {x8 : Int32}, k11 x1 x2 x3 x4 x5 x6 x7 x8 c_many c_gains c_isLeft = some v → xV (j10_isWorse) X 0 0 (hM c_thrown c_told c_read c_many c_eights c_gains c_notes c_seen c_turns c_drawn c_state c_tape c_taped c_size c_from c_next c_token c_value c_fault c_number c_fives c_isLeft c_wentTimes c_goes c_isLeftLaid c_game c_rows c_columns c_isFound c_bestValue c_bestBelow c_bestShare c_share c_matrix c_system c_shares c_allShares) 11 [(0, .ref 0), (1, .int x1), (2, .int x2), (3, .int x3), (4, .int x4), (5, .int x5), (6, .int x6), (7, .int x7), (8, .int x8)] []) (hf : F10_isWorse_b81 z x1 x2 x3 x4 x5 x6 x7 x8 x9 c_many c_gains c_isLeft k11 = some v) : xV (j10_isWorse) X 0 0 (hM c_thrown c_told c_read c_many c_eights c_gains c_notes c_seen c_turns c_drawn c_state c_tape c_taped c_size c_from c_next c_token c_value c_fault c_number c_fives c_isLeft c_wentTimes c_goes c_isLeftLaid c_game c_rows c_columns c_isFound c_bestValue c_bestBelow c_bestShare c_share c_matrix c_system c_shares c_allShares) 81 [(0, .ref 0), (1, .int x1), (2, .int x2), (3, .int x3), (4, .int x4), (5, .int x5), (6, .int x6), (7, .int x7), (8, .int x8), (9, .int x9)] [] := by
  unfold F10_isWorse_b81 at hf
  refine xV_iload 83 rfl dX10_isWorse_81 6 rfl ?_
  refine xV_if_ne (tgt := 91) 86 rfl dX10_isWorse_83 (by decide) (fun h83 => ?_) (fun h83 => ?_)
  · have hf := xif_f hf h83
    refine xV_iconst 92 rfl dX10_isWorse_91 xk_i1 ?_
    refine xV_goto (tgt := 96) dX10_isWorse_92 (by decide) ?_
    refine xV_sub [0, 1, 2, 3, 4, 5, 7, 8] rfl ?_
    exact T10_isWorse_b96 hX hk11 hf
  · have hf := xif_t hf h83
    refine xV_iload 88 rfl dX10_isWorse_86 9 rfl ?_
    refine xV_if_ge (tgt := 95) 91 rfl dX10_isWorse_88 (by decide) (fun h88 => ?_) (fun h88 => ?_)
    · have hf := xif_t hf h88
      refine xV_iconst 96 rfl dX10_isWorse_95 xk_i0 ?_
      refine xV_sub [0, 1, 2, 3, 4, 5, 7, 8] rfl ?_
      exact T10_isWorse_b96 hX hk11 hf
    · have hf := xif_f hf h88
      refine xV_iconst 92 rfl dX10_isWorse_91 xk_i1 ?_
      refine xV_goto (tgt := 96) dX10_isWorse_92 (by decide) ?_
      refine xV_sub [0, 1, 2, 3, 4, 5, 7, 8] rfl ?_
      exact T10_isWorse_b96 hX hk11 hf
def F10_isWorse_b45 (z : Nat) (x1 : Int32) (x2 : Int32) (x3 : Int32) (x4 : Int32) (x5 : Int32) (x6 : Int32) (x7 : Int32) (x8 : Int32) (c_many : (Nat → Int32)) (c_gains : (Nat → Int32)) (c_isLeft : (Nat → Int32)) (k11 : Int32 → Int32 → Int32 → Int32 → Int32 → Int32 → Int32 → Int32 → (Nat → Int32) → (Nat → Int32) → (Nat → Int32) → Option (Int32)) : Option (Int32) :=
  (F10_gainFor x1 x2 x8 c_gains).bind (fun v50 => (F10_gainFor x1 x3 x8 c_gains).bind (fun v58 => if 0 < (v50 - v58) then (some ((0 : Int32))) else (if x4 = 0 then (F10_isWorse_b81 z x1 x2 x3 x4 x5 x6 x7 x8 (v50 - v58) c_many c_gains c_isLeft k11) else (if (v50 - v58) = 0 then (some ((0 : Int32))) else (F10_isWorse_b81 z x1 x2 x3 x4 x5 x6 x7 x8 (v50 - v58) c_many c_gains c_isLeft k11)))))
theorem T10_isWorse_b45 {X : xX} {c_thrown : Int32} {c_told : (Nat → Int32)} {c_read : (Nat → Int32)} {c_eights : (Nat → Int32)} {c_notes : (Nat → Int32)} {c_seen : (Nat → Int32)} {c_turns : (Nat → Int32)} {c_drawn : (Nat → Int32)} {c_state : Int32} {c_tape : (Nat → Int32)} {c_taped : Int32} {c_size : Int32} {c_from : Int32} {c_next : Int32} {c_token : Int32} {c_value : Int32} {c_fault : Int32} {c_number : Int32} {c_fives : (Nat → Int32)} {c_wentTimes : Int32} {c_goes : (Nat → Int32)} {c_isLeftLaid : Int32} {c_game : (Nat → Int32)} {c_rows : Int32} {c_columns : Int32} {c_isFound : Int32} {c_bestValue : Int64} {c_bestBelow : Int64} {c_bestShare : (Nat → Int64)} {c_share : (Nat → Int64)} {c_matrix : (Nat → Int64)} {c_system : (Nat → Int64)} {c_shares : (Nat → Int32)} {c_allShares : Int32} {x1 : Int32} {x2 : Int32} {x3 : Int32} {x4 : Int32} {x5 : Int32} {x6 : Int32} {x7 : Int32} {x8 : Int32} {c_many : (Nat → Int32)} {c_gains : (Nat → Int32)} {c_isLeft : (Nat → Int32)} {z : Nat} {v : Int32} {k11 : Int32 → Int32 → Int32 → Int32 → Int32 → Int32 → Int32 → Int32 → (Nat → Int32) → (Nat → Int32) → (Nat → Int32) → Option (Int32)} (hX : xIs (j10_isWorse) X ((some .boolean)) (some (.int v)) (hM c_thrown c_told c_read c_many c_eights c_gains c_notes c_seen c_turns c_drawn c_state c_tape c_taped c_size c_from c_next c_token c_value c_fault c_number c_fives c_isLeft c_wentTimes c_goes c_isLeftLaid c_game c_rows c_columns c_isFound c_bestValue c_bestBelow c_bestShare c_share c_matrix c_system c_shares c_allShares)) (hk11 : ∀ {x1 : Int32} {x2 : Int32} {x3 : Int32} {x4 : Int32} {x5 : Int32} {x6 : Int32} {x7 : Int32} {x8 : Int32}, k11 x1 x2 x3 x4 x5 x6 x7 x8 c_many c_gains c_isLeft = some v → xV (j10_isWorse) X 0 0 (hM c_thrown c_told c_read c_many c_eights c_gains c_notes c_seen c_turns c_drawn c_state c_tape c_taped c_size c_from c_next c_token c_value c_fault c_number c_fives c_isLeft c_wentTimes c_goes c_isLeftLaid c_game c_rows c_columns c_isFound c_bestValue c_bestBelow c_bestShare c_share c_matrix c_system c_shares c_allShares) 11 [(0, .ref 0), (1, .int x1), (2, .int x2), (3, .int x3), (4, .int x4), (5, .int x5), (6, .int x6), (7, .int x7), (8, .int x8)] []) (hf : F10_isWorse_b45 z x1 x2 x3 x4 x5 x6 x7 x8 c_many c_gains c_isLeft k11 = some v) : xV (j10_isWorse) X 0 0 (hM c_thrown c_told c_read c_many c_eights c_gains c_notes c_seen c_turns c_drawn c_state c_tape c_taped c_size c_from c_next c_token c_value c_fault c_number c_fives c_isLeft c_wentTimes c_goes c_isLeftLaid c_game c_rows c_columns c_isFound c_bestValue c_bestBelow c_bestShare c_share c_matrix c_system c_shares c_allShares) 45 [(0, .ref 0), (1, .int x1), (2, .int x2), (3, .int x3), (4, .int x4), (5, .int x5), (6, .int x6), (7, .int x7), (8, .int x8)] [] := by
  unfold F10_isWorse_b45 at hf
  refine xV_aload_n 46 rfl dX10_isWorse_45 rfl 0 rfl ?_
  refine xV_iload_n 47 rfl dX10_isWorse_46 rfl 1 rfl ?_
  refine xV_iload_n 48 rfl dX10_isWorse_47 rfl 2 rfl ?_
  refine xV_iload 50 rfl dX10_isWorse_48 8 rfl ?_
  obtain ⟨v50, hv50, hf⟩ := xb_s hf
  refine xV_same (rest := []) 53 rfl dX10_isWorse_50 rfl (C10_gainFor X.1.2.1 hv50) m10_gainFor v10_gainFor k10_233 rfl rfl rfl rfl rfl (Nat.le_of_ble_eq_true rfl) (Nat.le_of_ble_eq_true rfl) (Nat.le_of_ble_eq_true rfl) ⟨Nat.le_refl _, Nat.le_refl _⟩ ?_
  show xV (j10_isWorse) X 0 0 (hM c_thrown c_told c_read c_many c_eights c_gains c_notes c_seen c_turns c_drawn c_state c_tape c_taped c_size c_from c_next c_token c_value c_fault c_number c_fives c_isLeft c_wentTimes c_goes c_isLeftLaid c_game c_rows c_columns c_isFound c_bestValue c_bestBelow c_bestShare c_share c_matrix c_system c_shares c_allShares) 53 [(0, .ref 0), (1, .int x1), (2, .int x2), (3, .int x3), (4, .int x4), (5, .int x5), (6, .int x6), (7, .int x7), (8, .int x8)] [.int v50]
  refine xV_aload_n 54 rfl dX10_isWorse_53 rfl 0 rfl ?_
  refine xV_iload_n 55 rfl dX10_isWorse_54 rfl 1 rfl ?_
  refine xV_iload_n 56 rfl dX10_isWorse_55 rfl 3 rfl ?_
  refine xV_iload 58 rfl dX10_isWorse_56 8 rfl ?_
  obtain ⟨v58, hv58, hf⟩ := xb_s hf
  refine xV_same (rest := [.int v50]) 61 rfl dX10_isWorse_58 rfl (C10_gainFor X.1.2.1 hv58) m10_gainFor v10_gainFor k10_233 rfl rfl rfl rfl rfl (Nat.le_of_ble_eq_true rfl) (Nat.le_of_ble_eq_true rfl) (Nat.le_of_ble_eq_true rfl) ⟨Nat.le_refl _, Nat.le_refl _⟩ ?_
  show xV (j10_isWorse) X 0 0 (hM c_thrown c_told c_read c_many c_eights c_gains c_notes c_seen c_turns c_drawn c_state c_tape c_taped c_size c_from c_next c_token c_value c_fault c_number c_fives c_isLeft c_wentTimes c_goes c_isLeftLaid c_game c_rows c_columns c_isFound c_bestValue c_bestBelow c_bestShare c_share c_matrix c_system c_shares c_allShares) 61 [(0, .ref 0), (1, .int x1), (2, .int x2), (3, .int x3), (4, .int x4), (5, .int x5), (6, .int x6), (7, .int x7), (8, .int x8)] [.int v58, .int v50]
  refine xV_isub 62 rfl dX10_isWorse_61 ?_
  refine xV_istore (L' := [(9, .int (v50 - v58)), (0, .ref 0), (1, .int x1), (2, .int x2), (3, .int x3), (4, .int x4), (5, .int x5), (6, .int x6), (7, .int x7), (8, .int x8)]) 64 rfl dX10_isWorse_62 (xlt rfl) rfl ?_
  refine xV_iload 66 rfl dX10_isWorse_64 0 rfl ?_
  refine xV_if_gt (tgt := 79) 69 rfl dX10_isWorse_66 (by decide) (fun h66 => ?_) (fun h66 => ?_)
  · have hf := xif_t hf h66
    refine xV_iconst 80 rfl dX10_isWorse_79 xk_i0 ?_
    obtain rfl := Option.some.inj hf
    exact xV_iret hX dX10_isWorse_80 (xbo_ok rfl) (Nat.zero_le _) (Nat.zero_le _)
  · have hf := xif_f hf h66
    refine xV_iload 71 rfl dX10_isWorse_69 5 rfl ?_
    refine xV_if_eq (tgt := 81) 74 rfl dX10_isWorse_71 (by decide) (fun h71 => ?_) (fun h71 => ?_)
    · have hf := xif_t hf h71
      refine xV_sub [1, 2, 3, 4, 5, 6, 7, 8, 9, 0] rfl ?_
      exact T10_isWorse_b81 hX hk11 hf
    · have hf := xif_f hf h71
      refine xV_iload 76 rfl dX10_isWorse_74 0 rfl ?_
      refine xV_if_ne (tgt := 81) 79 rfl dX10_isWorse_76 (by decide) (fun h76 => ?_) (fun h76 => ?_)
      · have hf := xif_f hf h76
        refine xV_sub [1, 2, 3, 4, 5, 6, 7, 8, 9, 0] rfl ?_
        exact T10_isWorse_b81 hX hk11 hf
      · have hf := xif_t hf h76
        refine xV_iconst 80 rfl dX10_isWorse_79 xk_i0 ?_
        obtain rfl := Option.some.inj hf
        exact xV_iret hX dX10_isWorse_80 (xbo_ok rfl) (Nat.zero_le _) (Nat.zero_le _)
def F10_isWorse_b11 (z : Nat) (w : Nat) (x1 : Int32) (x2 : Int32) (x3 : Int32) (x4 : Int32) (x5 : Int32) (x6 : Int32) (x7 : Int32) (x8 : Int32) (c_many : (Nat → Int32)) (c_gains : (Nat → Int32)) (c_isLeft : (Nat → Int32)) : Option (Int32) := match w with
  | 0 => none
  | w + 1 => xg (xin x7 2) (if (c_many (xn x7)) ≤ x8 then (xg (xbo x6) (some (x6))) else (if x5 = 0 then (xg (xin (((128 : Int32) * x7) + x8) 256) (if (c_isLeft (xn (((128 : Int32) * x7) + x8))) = 0 then (F10_isWorse_b98 z x1 x2 x3 x4 x5 x6 x7 x8 c_many c_gains c_isLeft (fun q0 q1 q2 q3 q4 q5 q6 q7 q8 q9 q10 => F10_isWorse_b11 z w q0 q1 q2 q3 q4 q5 q6 q7 q8 q9 q10)) else (F10_isWorse_b45 z x1 x2 x3 x4 x5 x6 x7 x8 c_many c_gains c_isLeft (fun q0 q1 q2 q3 q4 q5 q6 q7 q8 q9 q10 => F10_isWorse_b11 z w q0 q1 q2 q3 q4 q5 q6 q7 q8 q9 q10)))) else (F10_isWorse_b45 z x1 x2 x3 x4 x5 x6 x7 x8 c_many c_gains c_isLeft (fun q0 q1 q2 q3 q4 q5 q6 q7 q8 q9 q10 => F10_isWorse_b11 z w q0 q1 q2 q3 q4 q5 q6 q7 q8 q9 q10))))
theorem T10_isWorse_b11 {X : xX} {c_thrown : Int32} {c_told : (Nat → Int32)} {c_read : (Nat → Int32)} {c_many : (Nat → Int32)} {c_eights : (Nat → Int32)} {c_gains : (Nat → Int32)} {c_notes : (Nat → Int32)} {c_seen : (Nat → Int32)} {c_turns : (Nat → Int32)} {c_drawn : (Nat → Int32)} {c_state : Int32} {c_tape : (Nat → Int32)} {c_taped : Int32} {c_size : Int32} {c_from : Int32} {c_next : Int32} {c_token : Int32} {c_value : Int32} {c_fault : Int32} {c_number : Int32} {c_fives : (Nat → Int32)} {c_isLeft : (Nat → Int32)} {c_wentTimes : Int32} {c_goes : (Nat → Int32)} {c_isLeftLaid : Int32} {c_game : (Nat → Int32)} {c_rows : Int32} {c_columns : Int32} {c_isFound : Int32} {c_bestValue : Int64} {c_bestBelow : Int64} {c_bestShare : (Nat → Int64)} {c_share : (Nat → Int64)} {c_matrix : (Nat → Int64)} {c_system : (Nat → Int64)} {c_shares : (Nat → Int32)} {c_allShares : Int32} {z : Nat} {v : Int32} (hX : xIs (j10_isWorse) X ((some .boolean)) (some (.int v)) (hM c_thrown c_told c_read c_many c_eights c_gains c_notes c_seen c_turns c_drawn c_state c_tape c_taped c_size c_from c_next c_token c_value c_fault c_number c_fives c_isLeft c_wentTimes c_goes c_isLeftLaid c_game c_rows c_columns c_isFound c_bestValue c_bestBelow c_bestShare c_share c_matrix c_system c_shares c_allShares)) : ∀ (w : Nat) {x1 : Int32} {x2 : Int32} {x3 : Int32} {x4 : Int32} {x5 : Int32} {x6 : Int32} {x7 : Int32} {x8 : Int32}, F10_isWorse_b11 z w x1 x2 x3 x4 x5 x6 x7 x8 c_many c_gains c_isLeft = some v → xV (j10_isWorse) X 0 0 (hM c_thrown c_told c_read c_many c_eights c_gains c_notes c_seen c_turns c_drawn c_state c_tape c_taped c_size c_from c_next c_token c_value c_fault c_number c_fives c_isLeft c_wentTimes c_goes c_isLeftLaid c_game c_rows c_columns c_isFound c_bestValue c_bestBelow c_bestShare c_share c_matrix c_system c_shares c_allShares) 11 [(0, .ref 0), (1, .int x1), (2, .int x2), (3, .int x3), (4, .int x4), (5, .int x5), (6, .int x6), (7, .int x7), (8, .int x8)] [] := by
  intro w
  induction w with
  | zero => intro x1 x2 x3 x4 x5 x6 x7 x8 hf; cases hf
  | succ w ih =>
    intro x1 x2 x3 x4 x5 x6 x7 x8 hf
    unfold F10_isWorse_b11 at hf
    refine xV_iload 13 rfl dX10_isWorse_11 8 rfl ?_
    refine xV_aload_n 14 rfl dX10_isWorse_13 rfl 0 rfl ?_
    refine xV_get (v := .ref 3) 17 rfl dX10_isWorse_14 f10_24 rfl rfl ?_
    refine xV_iload 19 rfl dX10_isWorse_17 7 rfl ?_
    obtain ⟨hg19, hf⟩ := xg_s hf
    refine xV_iaload 20 rfl dX10_isWorse_19 rfl (xin_ok hg19) rfl ?_
    refine xV_icmp_ge (tgt := 104) 23 rfl dX10_isWorse_20 (by decide) (fun h20 => ?_) (fun h20 => ?_)
    · have hf := xif_t hf h20
      refine xV_iload 106 rfl dX10_isWorse_104 6 rfl ?_
      obtain ⟨hgr, hf⟩ := xg_s hf
      obtain rfl := Option.some.inj hf
      exact xV_iret hX dX10_isWorse_106 (xbo_ok hgr) (Nat.zero_le _) (Nat.zero_le _)
    · have hf := xif_f hf h20
      refine xV_iload 25 rfl dX10_isWorse_23 5 rfl ?_
      refine xV_if_ne (tgt := 45) 28 rfl dX10_isWorse_25 (by decide) (fun h25 => ?_) (fun h25 => ?_)
      · have hf := xif_f hf h25
        exact T10_isWorse_b45 hX (fun {_ _ _ _ _ _ _ _} hq => ih hq) hf
      · have hf := xif_t hf h25
        refine xV_aload_n 29 rfl dX10_isWorse_28 rfl 0 rfl ?_
        refine xV_get (v := .ref 12) 32 rfl dX10_isWorse_29 f10_53 rfl rfl ?_
        refine xV_sipush 35 rfl dX10_isWorse_32 xk_s128 ?_
        refine xV_iload 37 rfl dX10_isWorse_35 7 rfl ?_
        refine xV_imul 38 rfl dX10_isWorse_37 ?_
        refine xV_iload 40 rfl dX10_isWorse_38 8 rfl ?_
        refine xV_iadd 41 rfl dX10_isWorse_40 ?_
        obtain ⟨hg41, hf⟩ := xg_s hf
        refine xV_zaload 42 rfl dX10_isWorse_41 rfl (xin_ok hg41) rfl ?_
        refine xV_if_eq (tgt := 98) 45 rfl dX10_isWorse_42 (by decide) (fun h42 => ?_) (fun h42 => ?_)
        · have hf := xif_t hf h42
          exact T10_isWorse_b98 hX (fun {_ _ _ _ _ _ _ _} hq => ih hq) hf
        · have hf := xif_f hf h42
          exact T10_isWorse_b45 hX (fun {_ _ _ _ _ _ _ _} hq => ih hq) hf
def F10_isWorse (z : Nat) (x1 : Int32) (x2 : Int32) (x3 : Int32) (x4 : Int32) (x5 : Int32) (c_many : (Nat → Int32)) (c_gains : (Nat → Int32)) (c_isLeft : (Nat → Int32)) : Option (Int32) :=
  F10_isWorse_b11 z z x1 x2 x3 x4 x5 (0 : Int32) ((1 : Int32) - x1) (0 : Int32) c_many c_gains c_isLeft
theorem T10_isWorse {X : xX} {z : Nat} {x1 : Int32} {x2 : Int32} {x3 : Int32} {x4 : Int32} {x5 : Int32} {c_many : (Nat → Int32)} {c_gains : (Nat → Int32)} {c_isLeft : (Nat → Int32)} {c_thrown : Int32} {c_told : (Nat → Int32)} {c_read : (Nat → Int32)} {c_eights : (Nat → Int32)} {c_notes : (Nat → Int32)} {c_seen : (Nat → Int32)} {c_turns : (Nat → Int32)} {c_drawn : (Nat → Int32)} {c_state : Int32} {c_tape : (Nat → Int32)} {c_taped : Int32} {c_size : Int32} {c_from : Int32} {c_next : Int32} {c_token : Int32} {c_value : Int32} {c_fault : Int32} {c_number : Int32} {c_fives : (Nat → Int32)} {c_wentTimes : Int32} {c_goes : (Nat → Int32)} {c_isLeftLaid : Int32} {c_game : (Nat → Int32)} {c_rows : Int32} {c_columns : Int32} {c_isFound : Int32} {c_bestValue : Int64} {c_bestBelow : Int64} {c_bestShare : (Nat → Int64)} {c_share : (Nat → Int64)} {c_matrix : (Nat → Int64)} {c_system : (Nat → Int64)} {c_shares : (Nat → Int32)} {c_allShares : Int32} {v : Int32} (hX : xIs (j10_isWorse) X ((some .boolean)) (some (.int v)) (hM c_thrown c_told c_read c_many c_eights c_gains c_notes c_seen c_turns c_drawn c_state c_tape c_taped c_size c_from c_next c_token c_value c_fault c_number c_fives c_isLeft c_wentTimes c_goes c_isLeftLaid c_game c_rows c_columns c_isFound c_bestValue c_bestBelow c_bestShare c_share c_matrix c_system c_shares c_allShares)) (hf : F10_isWorse z x1 x2 x3 x4 x5 c_many c_gains c_isLeft = some v) : xV (j10_isWorse) X 0 0 (hM c_thrown c_told c_read c_many c_eights c_gains c_notes c_seen c_turns c_drawn c_state c_tape c_taped c_size c_from c_next c_token c_value c_fault c_number c_fives c_isLeft c_wentTimes c_goes c_isLeftLaid c_game c_rows c_columns c_isFound c_bestValue c_bestBelow c_bestShare c_share c_matrix c_system c_shares c_allShares) 0 [(0, .ref 0), (1, .int x1), (2, .int x2), (3, .int x3), (4, .int x4), (5, .int x5)] [] := by
  unfold F10_isWorse at hf
  refine xV_iconst 1 rfl dX10_isWorse_0 xk_i0 ?_
  refine xV_istore (L' := [(6, .int (0 : Int32)), (0, .ref 0), (1, .int x1), (2, .int x2), (3, .int x3), (4, .int x4), (5, .int x5)]) 3 rfl dX10_isWorse_1 (xlt rfl) rfl ?_
  refine xV_iconst 4 rfl dX10_isWorse_3 xk_i1 ?_
  refine xV_iload_n 5 rfl dX10_isWorse_4 rfl 2 rfl ?_
  refine xV_isub 6 rfl dX10_isWorse_5 ?_
  refine xV_istore (L' := [(7, .int ((1 : Int32) - x1)), (6, .int (0 : Int32)), (0, .ref 0), (1, .int x1), (2, .int x2), (3, .int x3), (4, .int x4), (5, .int x5)]) 8 rfl dX10_isWorse_6 (xlt rfl) rfl ?_
  refine xV_iconst 9 rfl dX10_isWorse_8 xk_i0 ?_
  refine xV_istore (L' := [(8, .int (0 : Int32)), (7, .int ((1 : Int32) - x1)), (6, .int (0 : Int32)), (0, .ref 0), (1, .int x1), (2, .int x2), (3, .int x3), (4, .int x4), (5, .int x5)]) 11 rfl dX10_isWorse_9 (xlt rfl) rfl ?_
  refine xV_sub [3, 4, 5, 6, 7, 8, 2, 1, 0] rfl ?_
  exact T10_isWorse_b11 hX _ hf
theorem C10_isWorse (l : Launch) {z : Nat} {x1 : Int32} {x2 : Int32} {x3 : Int32} {x4 : Int32} {x5 : Int32} {c_many : (Nat → Int32)} {c_gains : (Nat → Int32)} {c_isLeft : (Nat → Int32)} {c_thrown : Int32} {c_told : (Nat → Int32)} {c_read : (Nat → Int32)} {c_eights : (Nat → Int32)} {c_notes : (Nat → Int32)} {c_seen : (Nat → Int32)} {c_turns : (Nat → Int32)} {c_drawn : (Nat → Int32)} {c_state : Int32} {c_tape : (Nat → Int32)} {c_taped : Int32} {c_size : Int32} {c_from : Int32} {c_next : Int32} {c_token : Int32} {c_value : Int32} {c_fault : Int32} {c_number : Int32} {c_fives : (Nat → Int32)} {c_wentTimes : Int32} {c_goes : (Nat → Int32)} {c_isLeftLaid : Int32} {c_game : (Nat → Int32)} {c_rows : Int32} {c_columns : Int32} {c_isFound : Int32} {c_bestValue : Int64} {c_bestBelow : Int64} {c_bestShare : (Nat → Int64)} {c_share : (Nat → Int64)} {c_matrix : (Nat → Int64)} {c_system : (Nat → Int64)} {c_shares : (Nat → Int32)} {c_allShares : Int32} {v : Int32} (hf : F10_isWorse z x1 x2 x3 x4 x5 c_many c_gains c_isLeft = some v) : xCt l yX10_isWorse ((some .boolean)) j10_isWorse [.ref 0, .int x1, .int x2, .int x3, .int x4, .int x5] (hM c_thrown c_told c_read c_many c_eights c_gains c_notes c_seen c_turns c_drawn c_state c_tape c_taped c_size c_from c_next c_token c_value c_fault c_number c_fives c_isLeft c_wentTimes c_goes c_isLeftLaid c_game c_rows c_columns c_isFound c_bestValue c_bestBelow c_bestShare c_share c_matrix c_system c_shares c_allShares) (some (.int v)) (hM c_thrown c_told c_read c_many c_eights c_gains c_notes c_seen c_turns c_drawn c_state c_tape c_taped c_size c_from c_next c_token c_value c_fault c_number c_fives c_isLeft c_wentTimes c_goes c_isLeftLaid c_game c_rows c_columns c_isFound c_bestValue c_bestBelow c_bestShare c_share c_matrix c_system c_shares c_allShares) := xCt_of (by decide) rfl (Nat.le_of_ble_eq_true rfl) (fun _ hX => T10_isWorse hX hf)
theorem m10_isWorse : xMd yX10_isWorse RX10 ((some .boolean)) j10_isWorse 5 := ⟨List.mem_of_getElem? (i := 711) (by decide +kernel), List.mem_of_getElem? (i := 5) (by decide +kernel), rfl, by decide +kernel⟩
theorem v10_isWorse : xMv yX10_isWorse RX10 := ⟨List.mem_of_getElem? (i := 709) (by decide +kernel), List.mem_of_getElem? (i := 710) (by decide +kernel)⟩
theorem k10_236 : Cond.methodLink RX10 236 yX10_isWorse ∈ wsL_law0 := List.mem_of_getElem? (i := 708) (by decide +kernel)
theorem dX10_worse_0 : decode cX10_worse 0 = .ok (.aload_n 0, 1) := by decide +kernel
theorem dX10_worse_1 : decode cX10_worse 1 = .ok (.iconst 0, 1) := by decide +kernel
theorem dX10_worse_2 : decode cX10_worse 2 = .ok (.putfield 1, 3) := by decide +kernel
theorem dX10_worse_5 : decode cX10_worse 5 = .ok (.aload_n 0, 1) := by decide +kernel
theorem dX10_worse_6 : decode cX10_worse 6 = .ok (.iload_n 1, 1) := by decide +kernel
theorem dX10_worse_7 : decode cX10_worse 7 = .ok (.iload_n 2, 1) := by decide +kernel
theorem dX10_worse_8 : decode cX10_worse 8 = .ok (.invokevirtual 210, 3) := by decide +kernel
theorem dX10_worse_11 : decode cX10_worse 11 = .ok (.ifCond .ne 5, 3) := by decide +kernel
theorem dX10_worse_14 : decode cX10_worse 14 = .ok (.iconst (-1), 1) := by decide +kernel
theorem dX10_worse_15 : decode cX10_worse 15 = .ok (.ireturn, 1) := by decide +kernel
theorem dX10_worse_16 : decode cX10_worse 16 = .ok (.iconst 0, 1) := by decide +kernel
theorem dX10_worse_17 : decode cX10_worse 17 = .ok (.istore 4, 2) := by decide +kernel
theorem dX10_worse_19 : decode cX10_worse 19 = .ok (.iload 4, 2) := by decide +kernel
theorem dX10_worse_21 : decode cX10_worse 21 = .ok (.aload_n 0, 1) := by decide +kernel
theorem dX10_worse_22 : decode cX10_worse 22 = .ok (.getfield 24, 3) := by decide +kernel
theorem dX10_worse_25 : decode cX10_worse 25 = .ok (.iload_n 1, 1) := by decide +kernel
theorem dX10_worse_26 : decode cX10_worse 26 = .ok (.iaload, 1) := by decide +kernel
theorem dX10_worse_27 : decode cX10_worse 27 = .ok (.if_icmp .ge 25, 3) := by decide +kernel
theorem dX10_worse_30 : decode cX10_worse 30 = .ok (.aload_n 0, 1) := by decide +kernel
theorem dX10_worse_31 : decode cX10_worse 31 = .ok (.iload_n 1, 1) := by decide +kernel
theorem dX10_worse_32 : decode cX10_worse 32 = .ok (.iload_n 2, 1) := by decide +kernel
theorem dX10_worse_33 : decode cX10_worse 33 = .ok (.iload 4, 2) := by decide +kernel
theorem dX10_worse_35 : decode cX10_worse 35 = .ok (.iload_n 3, 1) := by decide +kernel
theorem dX10_worse_36 : decode cX10_worse 36 = .ok (.iconst 1, 1) := by decide +kernel
theorem dX10_worse_37 : decode cX10_worse 37 = .ok (.invokevirtual 236, 3) := by decide +kernel
theorem dX10_worse_40 : decode cX10_worse 40 = .ok (.ifCond .eq 6, 3) := by decide +kernel
theorem dX10_worse_43 : decode cX10_worse 43 = .ok (.iload 4, 2) := by decide +kernel
theorem dX10_worse_45 : decode cX10_worse 45 = .ok (.ireturn, 1) := by decide +kernel
theorem dX10_worse_46 : decode cX10_worse 46 = .ok (.iinc 4 1, 3) := by decide +kernel
theorem dX10_worse_49 : decode cX10_worse 49 = .ok (.goto (-30), 3) := by decide +kernel
theorem dX10_worse_52 : decode cX10_worse 52 = .ok (.bipush (-2), 2) := by decide +kernel
theorem dX10_worse_54 : decode cX10_worse 54 = .ok (.ireturn, 1) := by decide +kernel
abbrev j10_worse : xJ := (cX10_worse, 5, RX10, 4, 0, 0)
def F10_worse_b19 (z : Nat) (w : Nat) (x1 : Int32) (x2 : Int32) (x3 : Int32) (x4 : Int32) (c_thrown : Int32) (c_many : (Nat → Int32)) (c_gains : (Nat → Int32)) (c_isLeft : (Nat → Int32)) : Option (Int32 × Int32) := match w with
  | 0 => none
  | w + 1 => xg (xin x1 2) (if (c_many (xn x1)) ≤ x4 then (some ((-2 : Int32), c_thrown)) else ((F10_isWorse z x1 x2 x4 x3 (1 : Int32) c_many c_gains c_isLeft).bind (fun v37 => if v37 = 0 then (F10_worse_b19 z w x1 x2 x3 (x4 + (1 : Int32)) c_thrown c_many c_gains c_isLeft) else (some (x4, c_thrown)))))
theorem T10_worse_b19 {X : xX} {c_told : (Nat → Int32)} {c_read : (Nat → Int32)} {c_many : (Nat → Int32)} {c_eights : (Nat → Int32)} {c_gains : (Nat → Int32)} {c_notes : (Nat → Int32)} {c_seen : (Nat → Int32)} {c_turns : (Nat → Int32)} {c_drawn : (Nat → Int32)} {c_state : Int32} {c_tape : (Nat → Int32)} {c_taped : Int32} {c_size : Int32} {c_from : Int32} {c_next : Int32} {c_token : Int32} {c_value : Int32} {c_fault : Int32} {c_number : Int32} {c_fives : (Nat → Int32)} {c_isLeft : (Nat → Int32)} {c_wentTimes : Int32} {c_goes : (Nat → Int32)} {c_isLeftLaid : Int32} {c_game : (Nat → Int32)} {c_rows : Int32} {c_columns : Int32} {c_isFound : Int32} {c_bestValue : Int64} {c_bestBelow : Int64} {c_bestShare : (Nat → Int64)} {c_share : (Nat → Int64)} {c_matrix : (Nat → Int64)} {c_system : (Nat → Int64)} {c_shares : (Nat → Int32)} {c_allShares : Int32} {z : Nat} {v : Int32 × Int32} (hX : xIs (j10_worse) X ((some .int)) (some (.int v.1)) (hM v.2 c_told c_read c_many c_eights c_gains c_notes c_seen c_turns c_drawn c_state c_tape c_taped c_size c_from c_next c_token c_value c_fault c_number c_fives c_isLeft c_wentTimes c_goes c_isLeftLaid c_game c_rows c_columns c_isFound c_bestValue c_bestBelow c_bestShare c_share c_matrix c_system c_shares c_allShares)) : ∀ (w : Nat) {x1 : Int32} {x2 : Int32} {x3 : Int32} {x4 : Int32} {c_thrown : Int32}, F10_worse_b19 z w x1 x2 x3 x4 c_thrown c_many c_gains c_isLeft = some v → xV (j10_worse) X 0 0 (hM c_thrown c_told c_read c_many c_eights c_gains c_notes c_seen c_turns c_drawn c_state c_tape c_taped c_size c_from c_next c_token c_value c_fault c_number c_fives c_isLeft c_wentTimes c_goes c_isLeftLaid c_game c_rows c_columns c_isFound c_bestValue c_bestBelow c_bestShare c_share c_matrix c_system c_shares c_allShares) 19 [(0, .ref 0), (1, .int x1), (2, .int x2), (3, .int x3), (4, .int x4)] [] := by
  intro w
  induction w with
  | zero => intro x1 x2 x3 x4 c_thrown hf; cases hf
  | succ w ih =>
    intro x1 x2 x3 x4 c_thrown hf
    unfold F10_worse_b19 at hf
    refine xV_iload 21 rfl dX10_worse_19 4 rfl ?_
    refine xV_aload_n 22 rfl dX10_worse_21 rfl 0 rfl ?_
    refine xV_get (v := .ref 3) 25 rfl dX10_worse_22 f10_24 rfl rfl ?_
    refine xV_iload_n 26 rfl dX10_worse_25 rfl 1 rfl ?_
    obtain ⟨hg26, hf⟩ := xg_s hf
    refine xV_iaload 27 rfl dX10_worse_26 rfl (xin_ok hg26) rfl ?_
    refine xV_icmp_ge (tgt := 52) 30 rfl dX10_worse_27 (by decide) (fun h27 => ?_) (fun h27 => ?_)
    · have hf := xif_t hf h27
      refine xV_bipush 54 rfl dX10_worse_52 xk_bm2 ?_
      obtain rfl := Option.some.inj hf
      exact xV_iret hX dX10_worse_54 rfl (Nat.zero_le _) (Nat.zero_le _)
    · have hf := xif_f hf h27
      refine xV_aload_n 31 rfl dX10_worse_30 rfl 0 rfl ?_
      refine xV_iload_n 32 rfl dX10_worse_31 rfl 1 rfl ?_
      refine xV_iload_n 33 rfl dX10_worse_32 rfl 2 rfl ?_
      refine xV_iload 35 rfl dX10_worse_33 4 rfl ?_
      refine xV_iload_n 36 rfl dX10_worse_35 rfl 3 rfl ?_
      refine xV_iconst 37 rfl dX10_worse_36 xk_i1 ?_
      obtain ⟨v37, hv37, hf⟩ := xb_s hf
      refine xV_same (rest := []) 40 rfl dX10_worse_37 rfl (C10_isWorse X.1.2.1 hv37) m10_isWorse v10_isWorse k10_236 rfl rfl rfl rfl rfl (Nat.le_of_ble_eq_true rfl) (Nat.le_of_ble_eq_true rfl) (Nat.le_of_ble_eq_true rfl) ⟨Nat.le_refl _, Nat.le_refl _⟩ ?_
      show xV (j10_worse) X 0 0 (hM c_thrown c_told c_read c_many c_eights c_gains c_notes c_seen c_turns c_drawn c_state c_tape c_taped c_size c_from c_next c_token c_value c_fault c_number c_fives c_isLeft c_wentTimes c_goes c_isLeftLaid c_game c_rows c_columns c_isFound c_bestValue c_bestBelow c_bestShare c_share c_matrix c_system c_shares c_allShares) 40 [(0, .ref 0), (1, .int x1), (2, .int x2), (3, .int x3), (4, .int x4)] [.int v37]
      refine xV_if_eq (tgt := 46) 43 rfl dX10_worse_40 (by decide) (fun h40 => ?_) (fun h40 => ?_)
      · have hf := xif_t hf h40
        refine xV_iinc (L' := [(4, .int (x4 + (1 : Int32))), (0, .ref 0), (1, .int x1), (2, .int x2), (3, .int x3)]) 49 rfl dX10_worse_46 4 rfl (xk_inc xk_i1) (xlt rfl) rfl ?_
        refine xV_goto (tgt := 19) dX10_worse_49 (by decide) ?_
        refine xV_sub [1, 2, 3, 4, 0] rfl ?_
        exact ih hf
      · have hf := xif_f hf h40
        refine xV_iload 45 rfl dX10_worse_43 4 rfl ?_
        obtain rfl := Option.some.inj hf
        exact xV_iret hX dX10_worse_45 rfl (Nat.zero_le _) (Nat.zero_le _)
def F10_worse (z : Nat) (x1 : Int32) (x2 : Int32) (x3 : Int32) (c_thrown : Int32) (c_many : (Nat → Int32)) (c_gains : (Nat → Int32)) (c_isLeft : (Nat → Int32)) : Option (Int32 × Int32) :=
  (F10_isSplit x1 x2 c_many).bind (fun v8 => if v8 = 0 then (some ((-1 : Int32), (0 : Int32))) else (F10_worse_b19 z z x1 x2 x3 (0 : Int32) (0 : Int32) c_many c_gains c_isLeft))
theorem T10_worse {X : xX} {z : Nat} {x1 : Int32} {x2 : Int32} {x3 : Int32} {c_thrown : Int32} {c_many : (Nat → Int32)} {c_gains : (Nat → Int32)} {c_isLeft : (Nat → Int32)} {c_told : (Nat → Int32)} {c_read : (Nat → Int32)} {c_eights : (Nat → Int32)} {c_notes : (Nat → Int32)} {c_seen : (Nat → Int32)} {c_turns : (Nat → Int32)} {c_drawn : (Nat → Int32)} {c_state : Int32} {c_tape : (Nat → Int32)} {c_taped : Int32} {c_size : Int32} {c_from : Int32} {c_next : Int32} {c_token : Int32} {c_value : Int32} {c_fault : Int32} {c_number : Int32} {c_fives : (Nat → Int32)} {c_wentTimes : Int32} {c_goes : (Nat → Int32)} {c_isLeftLaid : Int32} {c_game : (Nat → Int32)} {c_rows : Int32} {c_columns : Int32} {c_isFound : Int32} {c_bestValue : Int64} {c_bestBelow : Int64} {c_bestShare : (Nat → Int64)} {c_share : (Nat → Int64)} {c_matrix : (Nat → Int64)} {c_system : (Nat → Int64)} {c_shares : (Nat → Int32)} {c_allShares : Int32} {v : Int32 × Int32} (hX : xIs (j10_worse) X ((some .int)) (some (.int v.1)) (hM v.2 c_told c_read c_many c_eights c_gains c_notes c_seen c_turns c_drawn c_state c_tape c_taped c_size c_from c_next c_token c_value c_fault c_number c_fives c_isLeft c_wentTimes c_goes c_isLeftLaid c_game c_rows c_columns c_isFound c_bestValue c_bestBelow c_bestShare c_share c_matrix c_system c_shares c_allShares)) (hf : F10_worse z x1 x2 x3 c_thrown c_many c_gains c_isLeft = some v) : xV (j10_worse) X 0 0 (hM c_thrown c_told c_read c_many c_eights c_gains c_notes c_seen c_turns c_drawn c_state c_tape c_taped c_size c_from c_next c_token c_value c_fault c_number c_fives c_isLeft c_wentTimes c_goes c_isLeftLaid c_game c_rows c_columns c_isFound c_bestValue c_bestBelow c_bestShare c_share c_matrix c_system c_shares c_allShares) 0 [(0, .ref 0), (1, .int x1), (2, .int x2), (3, .int x3)] [] := by
  unfold F10_worse at hf
  refine xV_aload_n 1 rfl dX10_worse_0 rfl 0 rfl ?_
  refine xV_iconst 2 rfl dX10_worse_1 xk_i0 ?_
  refine xV_put (h' := (hM (0 : Int32) c_told c_read c_many c_eights c_gains c_notes c_seen c_turns c_drawn c_state c_tape c_taped c_size c_from c_next c_token c_value c_fault c_number c_fives c_isLeft c_wentTimes c_goes c_isLeftLaid c_game c_rows c_columns c_isFound c_bestValue c_bestBelow c_bestShare c_share c_matrix c_system c_shares c_allShares)) 5 rfl dX10_worse_2 f10_1 rfl nf10_0 (fun _ => rfl) (fun _ => rfl) (Nat.le_of_ble_eq_true rfl) rfl ?_
  refine xV_aload_n 6 rfl dX10_worse_5 rfl 0 rfl ?_
  refine xV_iload_n 7 rfl dX10_worse_6 rfl 1 rfl ?_
  refine xV_iload_n 8 rfl dX10_worse_7 rfl 2 rfl ?_
  obtain ⟨v8, hv8, hf⟩ := xb_s hf
  refine xV_same (rest := []) 11 rfl dX10_worse_8 rfl (C10_isSplit X.1.2.1 hv8) m10_isSplit v10_isSplit k10_210 rfl rfl rfl rfl rfl (Nat.le_of_ble_eq_true rfl) (Nat.le_of_ble_eq_true rfl) (Nat.le_of_ble_eq_true rfl) ⟨Nat.le_refl _, Nat.le_refl _⟩ ?_
  show xV (j10_worse) X 0 0 (hM (0 : Int32) c_told c_read c_many c_eights c_gains c_notes c_seen c_turns c_drawn c_state c_tape c_taped c_size c_from c_next c_token c_value c_fault c_number c_fives c_isLeft c_wentTimes c_goes c_isLeftLaid c_game c_rows c_columns c_isFound c_bestValue c_bestBelow c_bestShare c_share c_matrix c_system c_shares c_allShares) 11 [(0, .ref 0), (1, .int x1), (2, .int x2), (3, .int x3)] [.int v8]
  refine xV_if_ne (tgt := 16) 14 rfl dX10_worse_11 (by decide) (fun h11 => ?_) (fun h11 => ?_)
  · have hf := xif_f hf h11
    refine xV_iconst 17 rfl dX10_worse_16 xk_i0 ?_
    refine xV_istore (L' := [(4, .int (0 : Int32)), (0, .ref 0), (1, .int x1), (2, .int x2), (3, .int x3)]) 19 rfl dX10_worse_17 (xlt rfl) rfl ?_
    refine xV_sub [1, 2, 3, 4, 0] rfl ?_
    exact T10_worse_b19 hX _ hf
  · have hf := xif_t hf h11
    refine xV_iconst 15 rfl dX10_worse_14 xk_im1 ?_
    obtain rfl := Option.some.inj hf
    exact xV_iret hX dX10_worse_15 rfl (Nat.zero_le _) (Nat.zero_le _)
theorem C10_worse (l : Launch) {z : Nat} {x1 : Int32} {x2 : Int32} {x3 : Int32} {c_thrown : Int32} {c_many : (Nat → Int32)} {c_gains : (Nat → Int32)} {c_isLeft : (Nat → Int32)} {c_told : (Nat → Int32)} {c_read : (Nat → Int32)} {c_eights : (Nat → Int32)} {c_notes : (Nat → Int32)} {c_seen : (Nat → Int32)} {c_turns : (Nat → Int32)} {c_drawn : (Nat → Int32)} {c_state : Int32} {c_tape : (Nat → Int32)} {c_taped : Int32} {c_size : Int32} {c_from : Int32} {c_next : Int32} {c_token : Int32} {c_value : Int32} {c_fault : Int32} {c_number : Int32} {c_fives : (Nat → Int32)} {c_wentTimes : Int32} {c_goes : (Nat → Int32)} {c_isLeftLaid : Int32} {c_game : (Nat → Int32)} {c_rows : Int32} {c_columns : Int32} {c_isFound : Int32} {c_bestValue : Int64} {c_bestBelow : Int64} {c_bestShare : (Nat → Int64)} {c_share : (Nat → Int64)} {c_matrix : (Nat → Int64)} {c_system : (Nat → Int64)} {c_shares : (Nat → Int32)} {c_allShares : Int32} {v : Int32 × Int32} (hf : F10_worse z x1 x2 x3 c_thrown c_many c_gains c_isLeft = some v) : xCt l yX10_worse ((some .int)) j10_worse [.ref 0, .int x1, .int x2, .int x3] (hM c_thrown c_told c_read c_many c_eights c_gains c_notes c_seen c_turns c_drawn c_state c_tape c_taped c_size c_from c_next c_token c_value c_fault c_number c_fives c_isLeft c_wentTimes c_goes c_isLeftLaid c_game c_rows c_columns c_isFound c_bestValue c_bestBelow c_bestShare c_share c_matrix c_system c_shares c_allShares) (some (.int v.1)) (hM v.2 c_told c_read c_many c_eights c_gains c_notes c_seen c_turns c_drawn c_state c_tape c_taped c_size c_from c_next c_token c_value c_fault c_number c_fives c_isLeft c_wentTimes c_goes c_isLeftLaid c_game c_rows c_columns c_isFound c_bestValue c_bestBelow c_bestShare c_share c_matrix c_system c_shares c_allShares) := xCt_of (by decide) rfl (Nat.le_of_ble_eq_true rfl) (fun _ hX => T10_worse hX hf)
theorem m10_worse : xMd yX10_worse RX10 ((some .int)) j10_worse 3 := ⟨List.mem_of_getElem? (i := 707) (by decide +kernel), List.mem_of_getElem? (i := 5) (by decide +kernel), rfl, by decide +kernel⟩
theorem v10_worse : xMv yX10_worse RX10 := ⟨List.mem_of_getElem? (i := 705) (by decide +kernel), List.mem_of_getElem? (i := 706) (by decide +kernel)⟩
