theorem xk_b40 : (Int8.ofInt (40)).toInt32 = (40 : Int32) := by decide
theorem dX10_note_0 : decode cX10_note 0 = .ok (.aload_n 0, 1) := by decide +kernel
theorem dX10_note_1 : decode cX10_note 1 = .ok (.iconst 0, 1) := by decide +kernel
theorem dX10_note_2 : decode cX10_note 2 = .ok (.putfield 1, 3) := by decide +kernel
theorem dX10_note_5 : decode cX10_note 5 = .ok (.aload_n 0, 1) := by decide +kernel
theorem dX10_note_6 : decode cX10_note 6 = .ok (.iload_n 1, 1) := by decide +kernel
theorem dX10_note_7 : decode cX10_note 7 = .ok (.iload_n 2, 1) := by decide +kernel
theorem dX10_note_8 : decode cX10_note 8 = .ok (.invokevirtual 210, 3) := by decide +kernel
theorem dX10_note_11 : decode cX10_note 11 = .ok (.ifCond .eq 14, 3) := by decide +kernel
theorem dX10_note_14 : decode cX10_note 14 = .ok (.aload_n 0, 1) := by decide +kernel
theorem dX10_note_15 : decode cX10_note 15 = .ok (.getfield 33, 3) := by decide +kernel
theorem dX10_note_18 : decode cX10_note 18 = .ok (.iload_n 1, 1) := by decide +kernel
theorem dX10_note_19 : decode cX10_note 19 = .ok (.iaload, 1) := by decide +kernel
theorem dX10_note_20 : decode cX10_note 20 = .ok (.bipush 40, 2) := by decide +kernel
theorem dX10_note_22 : decode cX10_note 22 = .ok (.if_icmp .ne 5, 3) := by decide +kernel
theorem dX10_note_25 : decode cX10_note 25 = .ok (.iconst (-1), 1) := by decide +kernel
theorem dX10_note_26 : decode cX10_note 26 = .ok (.ireturn, 1) := by decide +kernel
theorem dX10_note_27 : decode cX10_note 27 = .ok (.aload_n 0, 1) := by decide +kernel
theorem dX10_note_28 : decode cX10_note 28 = .ok (.getfield 36, 3) := by decide +kernel
theorem dX10_note_31 : decode cX10_note 31 = .ok (.sipush 128, 3) := by decide +kernel
theorem dX10_note_34 : decode cX10_note 34 = .ok (.iload_n 1, 1) := by decide +kernel
theorem dX10_note_35 : decode cX10_note 35 = .ok (.imul, 1) := by decide +kernel
theorem dX10_note_36 : decode cX10_note 36 = .ok (.iload_n 2, 1) := by decide +kernel
theorem dX10_note_37 : decode cX10_note 37 = .ok (.iadd, 1) := by decide +kernel
theorem dX10_note_38 : decode cX10_note 38 = .ok (.dup2, 1) := by decide +kernel
theorem dX10_note_39 : decode cX10_note 39 = .ok (.iaload, 1) := by decide +kernel
theorem dX10_note_40 : decode cX10_note 40 = .ok (.iconst 1, 1) := by decide +kernel
theorem dX10_note_41 : decode cX10_note 41 = .ok (.iadd, 1) := by decide +kernel
theorem dX10_note_42 : decode cX10_note 42 = .ok (.iastore, 1) := by decide +kernel
theorem dX10_note_43 : decode cX10_note 43 = .ok (.aload_n 0, 1) := by decide +kernel
theorem dX10_note_44 : decode cX10_note 44 = .ok (.getfield 33, 3) := by decide +kernel
theorem dX10_note_47 : decode cX10_note 47 = .ok (.iload_n 1, 1) := by decide +kernel
theorem dX10_note_48 : decode cX10_note 48 = .ok (.dup2, 1) := by decide +kernel
theorem dX10_note_49 : decode cX10_note 49 = .ok (.iaload, 1) := by decide +kernel
theorem dX10_note_50 : decode cX10_note 50 = .ok (.iconst 1, 1) := by decide +kernel
theorem dX10_note_51 : decode cX10_note 51 = .ok (.iadd, 1) := by decide +kernel
theorem dX10_note_52 : decode cX10_note 52 = .ok (.iastore, 1) := by decide +kernel
theorem dX10_note_53 : decode cX10_note 53 = .ok (.aload_n 0, 1) := by decide +kernel
theorem dX10_note_54 : decode cX10_note 54 = .ok (.getfield 33, 3) := by decide +kernel
theorem dX10_note_57 : decode cX10_note 57 = .ok (.iload_n 1, 1) := by decide +kernel
theorem dX10_note_58 : decode cX10_note 58 = .ok (.iaload, 1) := by decide +kernel
theorem dX10_note_59 : decode cX10_note 59 = .ok (.ireturn, 1) := by decide +kernel
abbrev j10_note : xJ := (cX10_note, 3, RX10, 4, 0, 0)
def F10_note (x1 : Int32) (x2 : Int32) (c_thrown : Int32) (c_many : (Nat → Int32)) (c_notes : (Nat → Int32)) (c_seen : (Nat → Int32)) : Option (Int32 × Int32 × (Nat → Int32) × (Nat → Int32)) :=
  (F10_isSplit x1 x2 c_many).bind (fun v8 => if v8 = 0 then (some ((-1 : Int32), (0 : Int32), c_notes, c_seen)) else (xg (xin x1 2) (if (c_notes (xn x1)) = (40 : Int32) then (some ((-1 : Int32), (0 : Int32), c_notes, c_seen)) else (xg (xin (((128 : Int32) * x1) + x2) 256) (xg (xin (((128 : Int32) * x1) + x2) 256) (xg (xin x1 2) (xg (xin x1 2) (xg (xin x1 2) (some (((upd c_notes (xn x1) ((c_notes (xn x1)) + (1 : Int32))) (xn x1)), (0 : Int32), (upd c_notes (xn x1) ((c_notes (xn x1)) + (1 : Int32))), (upd c_seen (xn (((128 : Int32) * x1) + x2)) ((c_seen (xn (((128 : Int32) * x1) + x2))) + (1 : Int32)))))))))))))
theorem T10_note {X : xX} {x1 : Int32} {x2 : Int32} {c_thrown : Int32} {c_many : (Nat → Int32)} {c_notes : (Nat → Int32)} {c_seen : (Nat → Int32)} {c_told : (Nat → Int32)} {c_read : (Nat → Int32)} {c_eights : (Nat → Int32)} {c_gains : (Nat → Int32)} {c_turns : (Nat → Int32)} {c_drawn : (Nat → Int32)} {c_state : Int32} {c_tape : (Nat → Int32)} {c_taped : Int32} {c_size : Int32} {c_from : Int32} {c_next : Int32} {c_token : Int32} {c_value : Int32} {c_fault : Int32} {c_number : Int32} {c_fives : (Nat → Int32)} {c_isLeft : (Nat → Int32)} {c_wentTimes : Int32} {c_goes : (Nat → Int32)} {c_isLeftLaid : Int32} {c_game : (Nat → Int32)} {c_rows : Int32} {c_columns : Int32} {c_isFound : Int32} {c_bestValue : Int64} {c_bestBelow : Int64} {c_bestShare : (Nat → Int64)} {c_share : (Nat → Int64)} {c_matrix : (Nat → Int64)} {c_system : (Nat → Int64)} {c_shares : (Nat → Int32)} {c_allShares : Int32} {v : Int32 × Int32 × (Nat → Int32) × (Nat → Int32)} (hX : xIs (j10_note) X ((some .int)) (some (.int v.1)) (hM v.2.1 c_told c_read c_many c_eights c_gains v.2.2.1 v.2.2.2 c_turns c_drawn c_state c_tape c_taped c_size c_from c_next c_token c_value c_fault c_number c_fives c_isLeft c_wentTimes c_goes c_isLeftLaid c_game c_rows c_columns c_isFound c_bestValue c_bestBelow c_bestShare c_share c_matrix c_system c_shares c_allShares)) (hf : F10_note x1 x2 c_thrown c_many c_notes c_seen = some v) : xV (j10_note) X 0 0 (hM c_thrown c_told c_read c_many c_eights c_gains c_notes c_seen c_turns c_drawn c_state c_tape c_taped c_size c_from c_next c_token c_value c_fault c_number c_fives c_isLeft c_wentTimes c_goes c_isLeftLaid c_game c_rows c_columns c_isFound c_bestValue c_bestBelow c_bestShare c_share c_matrix c_system c_shares c_allShares) 0 [(0, .ref 0), (1, .int x1), (2, .int x2)] [] := by
  unfold F10_note at hf
  refine xV_aload_n 1 rfl dX10_note_0 rfl 0 rfl ?_
  refine xV_iconst 2 rfl dX10_note_1 xk_i0 ?_
  refine xV_put (h' := (hM (0 : Int32) c_told c_read c_many c_eights c_gains c_notes c_seen c_turns c_drawn c_state c_tape c_taped c_size c_from c_next c_token c_value c_fault c_number c_fives c_isLeft c_wentTimes c_goes c_isLeftLaid c_game c_rows c_columns c_isFound c_bestValue c_bestBelow c_bestShare c_share c_matrix c_system c_shares c_allShares)) 5 rfl dX10_note_2 f10_1 rfl nf10_0 (fun _ => rfl) (fun _ => rfl) (Nat.le_of_ble_eq_true rfl) rfl ?_
  refine xV_aload_n 6 rfl dX10_note_5 rfl 0 rfl ?_
  refine xV_iload_n 7 rfl dX10_note_6 rfl 1 rfl ?_
  refine xV_iload_n 8 rfl dX10_note_7 rfl 2 rfl ?_
  obtain ⟨v8, hv8, hf⟩ := xb_s hf
  refine xV_same (rest := []) 11 rfl dX10_note_8 rfl (C10_isSplit X.1.2.1 hv8) m10_isSplit v10_isSplit k10_210 rfl rfl rfl rfl rfl (Nat.le_of_ble_eq_true rfl) (Nat.le_of_ble_eq_true rfl) (Nat.le_of_ble_eq_true rfl) ⟨Nat.le_refl _, Nat.le_refl _⟩ ?_
  show xV (j10_note) X 0 0 (hM (0 : Int32) c_told c_read c_many c_eights c_gains c_notes c_seen c_turns c_drawn c_state c_tape c_taped c_size c_from c_next c_token c_value c_fault c_number c_fives c_isLeft c_wentTimes c_goes c_isLeftLaid c_game c_rows c_columns c_isFound c_bestValue c_bestBelow c_bestShare c_share c_matrix c_system c_shares c_allShares) 11 [(0, .ref 0), (1, .int x1), (2, .int x2)] [.int v8]
  refine xV_if_eq (tgt := 25) 14 rfl dX10_note_11 (by decide) (fun h11 => ?_) (fun h11 => ?_)
  · have hf := xif_t hf h11
    refine xV_iconst 26 rfl dX10_note_25 xk_im1 ?_
    obtain rfl := Option.some.inj hf
    exact xV_iret hX dX10_note_26 rfl (Nat.zero_le _) (Nat.zero_le _)
  · have hf := xif_f hf h11
    refine xV_aload_n 15 rfl dX10_note_14 rfl 0 rfl ?_
    refine xV_get (v := .ref 6) 18 rfl dX10_note_15 f10_33 rfl rfl ?_
    refine xV_iload_n 19 rfl dX10_note_18 rfl 1 rfl ?_
    obtain ⟨hg19, hf⟩ := xg_s hf
    refine xV_iaload 20 rfl dX10_note_19 rfl (xin_ok hg19) rfl ?_
    refine xV_bipush 22 rfl dX10_note_20 xk_b40 ?_
    refine xV_icmp_ne (tgt := 27) 25 rfl dX10_note_22 (by decide) (fun h22 => ?_) (fun h22 => ?_)
    · have hf := xif_f hf h22
      refine xV_aload_n 28 rfl dX10_note_27 rfl 0 rfl ?_
      refine xV_get (v := .ref 7) 31 rfl dX10_note_28 f10_36 rfl rfl ?_
      refine xV_sipush 34 rfl dX10_note_31 xk_s128 ?_
      refine xV_iload_n 35 rfl dX10_note_34 rfl 1 rfl ?_
      refine xV_imul 36 rfl dX10_note_35 ?_
      refine xV_iload_n 37 rfl dX10_note_36 rfl 2 rfl ?_
      refine xV_iadd 38 rfl dX10_note_37 ?_
      refine xV_dup2 39 rfl dX10_note_38 rfl rfl ?_
      obtain ⟨hg39, hf⟩ := xg_s hf
      refine xV_iaload 40 rfl dX10_note_39 rfl (xin_ok hg39) rfl ?_
      refine xV_iconst 41 rfl dX10_note_40 xk_i1 ?_
      refine xV_iadd 42 rfl dX10_note_41 ?_
      obtain ⟨hg42, hf⟩ := xg_s hf
      refine xV_iastore (h' := (hM (0 : Int32) c_told c_read c_many c_eights c_gains c_notes (upd c_seen (xn (((128 : Int32) * x1) + x2)) ((c_seen (xn (((128 : Int32) * x1) + x2))) + (1 : Int32))) c_turns c_drawn c_state c_tape c_taped c_size c_from c_next c_token c_value c_fault c_number c_fives c_isLeft c_wentTimes c_goes c_isLeftLaid c_game c_rows c_columns c_isFound c_bestValue c_bestBelow c_bestShare c_share c_matrix c_system c_shares c_allShares)) 43 rfl dX10_note_42 rfl (xin_ok hg42) rfl rfl ?_
      refine xV_aload_n 44 rfl dX10_note_43 rfl 0 rfl ?_
      refine xV_get (v := .ref 6) 47 rfl dX10_note_44 f10_33 rfl rfl ?_
      refine xV_iload_n 48 rfl dX10_note_47 rfl 1 rfl ?_
      refine xV_dup2 49 rfl dX10_note_48 rfl rfl ?_
      obtain ⟨hg49, hf⟩ := xg_s hf
      refine xV_iaload 50 rfl dX10_note_49 rfl (xin_ok hg49) rfl ?_
      refine xV_iconst 51 rfl dX10_note_50 xk_i1 ?_
      refine xV_iadd 52 rfl dX10_note_51 ?_
      obtain ⟨hg52, hf⟩ := xg_s hf
      refine xV_iastore (h' := (hM (0 : Int32) c_told c_read c_many c_eights c_gains (upd c_notes (xn x1) ((c_notes (xn x1)) + (1 : Int32))) (upd c_seen (xn (((128 : Int32) * x1) + x2)) ((c_seen (xn (((128 : Int32) * x1) + x2))) + (1 : Int32))) c_turns c_drawn c_state c_tape c_taped c_size c_from c_next c_token c_value c_fault c_number c_fives c_isLeft c_wentTimes c_goes c_isLeftLaid c_game c_rows c_columns c_isFound c_bestValue c_bestBelow c_bestShare c_share c_matrix c_system c_shares c_allShares)) 53 rfl dX10_note_52 rfl (xin_ok hg52) rfl rfl ?_
      refine xV_aload_n 54 rfl dX10_note_53 rfl 0 rfl ?_
      refine xV_get (v := .ref 6) 57 rfl dX10_note_54 f10_33 rfl rfl ?_
      refine xV_iload_n 58 rfl dX10_note_57 rfl 1 rfl ?_
      obtain ⟨hg58, hf⟩ := xg_s hf
      refine xV_iaload 59 rfl dX10_note_58 rfl (xin_ok hg58) rfl ?_
      obtain rfl := Option.some.inj hf
      exact xV_iret hX dX10_note_59 rfl (Nat.zero_le _) (Nat.zero_le _)
    · have hf := xif_t hf h22
      refine xV_iconst 26 rfl dX10_note_25 xk_im1 ?_
      obtain rfl := Option.some.inj hf
      exact xV_iret hX dX10_note_26 rfl (Nat.zero_le _) (Nat.zero_le _)
theorem C10_note (l : Launch) {x1 : Int32} {x2 : Int32} {c_thrown : Int32} {c_many : (Nat → Int32)} {c_notes : (Nat → Int32)} {c_seen : (Nat → Int32)} {c_told : (Nat → Int32)} {c_read : (Nat → Int32)} {c_eights : (Nat → Int32)} {c_gains : (Nat → Int32)} {c_turns : (Nat → Int32)} {c_drawn : (Nat → Int32)} {c_state : Int32} {c_tape : (Nat → Int32)} {c_taped : Int32} {c_size : Int32} {c_from : Int32} {c_next : Int32} {c_token : Int32} {c_value : Int32} {c_fault : Int32} {c_number : Int32} {c_fives : (Nat → Int32)} {c_isLeft : (Nat → Int32)} {c_wentTimes : Int32} {c_goes : (Nat → Int32)} {c_isLeftLaid : Int32} {c_game : (Nat → Int32)} {c_rows : Int32} {c_columns : Int32} {c_isFound : Int32} {c_bestValue : Int64} {c_bestBelow : Int64} {c_bestShare : (Nat → Int64)} {c_share : (Nat → Int64)} {c_matrix : (Nat → Int64)} {c_system : (Nat → Int64)} {c_shares : (Nat → Int32)} {c_allShares : Int32} {v : Int32 × Int32 × (Nat → Int32) × (Nat → Int32)} (hf : F10_note x1 x2 c_thrown c_many c_notes c_seen = some v) : xCt l yX10_note ((some .int)) j10_note [.ref 0, .int x1, .int x2] (hM c_thrown c_told c_read c_many c_eights c_gains c_notes c_seen c_turns c_drawn c_state c_tape c_taped c_size c_from c_next c_token c_value c_fault c_number c_fives c_isLeft c_wentTimes c_goes c_isLeftLaid c_game c_rows c_columns c_isFound c_bestValue c_bestBelow c_bestShare c_share c_matrix c_system c_shares c_allShares) (some (.int v.1)) (hM v.2.1 c_told c_read c_many c_eights c_gains v.2.2.1 v.2.2.2 c_turns c_drawn c_state c_tape c_taped c_size c_from c_next c_token c_value c_fault c_number c_fives c_isLeft c_wentTimes c_goes c_isLeftLaid c_game c_rows c_columns c_isFound c_bestValue c_bestBelow c_bestShare c_share c_matrix c_system c_shares c_allShares) := xCt_of (by decide) rfl (Nat.le_of_ble_eq_true rfl) (fun _ hX => T10_note hX hf)
theorem m10_note : xMd yX10_note RX10 ((some .int)) j10_note 2 := ⟨List.mem_of_getElem? (i := 1261) (by decide +kernel), List.mem_of_getElem? (i := 5) (by decide +kernel), rfl, by decide +kernel⟩
theorem v10_note : xMv yX10_note RX10 := ⟨List.mem_of_getElem? (i := 1259) (by decide +kernel), List.mem_of_getElem? (i := 1260) (by decide +kernel)⟩
theorem dX10_gainOnNotes_0 : decode cX10_gainOnNotes 0 = .ok (.iconst 0, 1) := by decide +kernel
theorem dX10_gainOnNotes_1 : decode cX10_gainOnNotes 1 = .ok (.istore_n 3, 1) := by decide +kernel
theorem dX10_gainOnNotes_2 : decode cX10_gainOnNotes 2 = .ok (.iconst 0, 1) := by decide +kernel
theorem dX10_gainOnNotes_3 : decode cX10_gainOnNotes 3 = .ok (.istore 4, 2) := by decide +kernel
theorem dX10_gainOnNotes_5 : decode cX10_gainOnNotes 5 = .ok (.iload 4, 2) := by decide +kernel
theorem dX10_gainOnNotes_7 : decode cX10_gainOnNotes 7 = .ok (.aload_n 0, 1) := by decide +kernel
theorem dX10_gainOnNotes_8 : decode cX10_gainOnNotes 8 = .ok (.getfield 24, 3) := by decide +kernel
theorem dX10_gainOnNotes_11 : decode cX10_gainOnNotes 11 = .ok (.iconst 1, 1) := by decide +kernel
theorem dX10_gainOnNotes_12 : decode cX10_gainOnNotes 12 = .ok (.iload_n 1, 1) := by decide +kernel
theorem dX10_gainOnNotes_13 : decode cX10_gainOnNotes 13 = .ok (.isub, 1) := by decide +kernel
theorem dX10_gainOnNotes_14 : decode cX10_gainOnNotes 14 = .ok (.iaload, 1) := by decide +kernel
theorem dX10_gainOnNotes_15 : decode cX10_gainOnNotes 15 = .ok (.if_icmp .ge 36, 3) := by decide +kernel
theorem dX10_gainOnNotes_18 : decode cX10_gainOnNotes 18 = .ok (.iload_n 3, 1) := by decide +kernel
theorem dX10_gainOnNotes_19 : decode cX10_gainOnNotes 19 = .ok (.aload_n 0, 1) := by decide +kernel
theorem dX10_gainOnNotes_20 : decode cX10_gainOnNotes 20 = .ok (.getfield 36, 3) := by decide +kernel
theorem dX10_gainOnNotes_23 : decode cX10_gainOnNotes 23 = .ok (.sipush 128, 3) := by decide +kernel
theorem dX10_gainOnNotes_26 : decode cX10_gainOnNotes 26 = .ok (.iconst 1, 1) := by decide +kernel
theorem dX10_gainOnNotes_27 : decode cX10_gainOnNotes 27 = .ok (.iload_n 1, 1) := by decide +kernel
theorem dX10_gainOnNotes_28 : decode cX10_gainOnNotes 28 = .ok (.isub, 1) := by decide +kernel
theorem dX10_gainOnNotes_29 : decode cX10_gainOnNotes 29 = .ok (.imul, 1) := by decide +kernel
theorem dX10_gainOnNotes_30 : decode cX10_gainOnNotes 30 = .ok (.iload 4, 2) := by decide +kernel
theorem dX10_gainOnNotes_32 : decode cX10_gainOnNotes 32 = .ok (.iadd, 1) := by decide +kernel
theorem dX10_gainOnNotes_33 : decode cX10_gainOnNotes 33 = .ok (.iaload, 1) := by decide +kernel
theorem dX10_gainOnNotes_34 : decode cX10_gainOnNotes 34 = .ok (.aload_n 0, 1) := by decide +kernel
theorem dX10_gainOnNotes_35 : decode cX10_gainOnNotes 35 = .ok (.iload_n 1, 1) := by decide +kernel
theorem dX10_gainOnNotes_36 : decode cX10_gainOnNotes 36 = .ok (.iload_n 2, 1) := by decide +kernel
theorem dX10_gainOnNotes_37 : decode cX10_gainOnNotes 37 = .ok (.iload 4, 2) := by decide +kernel
theorem dX10_gainOnNotes_39 : decode cX10_gainOnNotes 39 = .ok (.invokevirtual 233, 3) := by decide +kernel
theorem dX10_gainOnNotes_42 : decode cX10_gainOnNotes 42 = .ok (.imul, 1) := by decide +kernel
theorem dX10_gainOnNotes_43 : decode cX10_gainOnNotes 43 = .ok (.iadd, 1) := by decide +kernel
theorem dX10_gainOnNotes_44 : decode cX10_gainOnNotes 44 = .ok (.istore_n 3, 1) := by decide +kernel
theorem dX10_gainOnNotes_45 : decode cX10_gainOnNotes 45 = .ok (.iinc 4 1, 3) := by decide +kernel
theorem dX10_gainOnNotes_48 : decode cX10_gainOnNotes 48 = .ok (.goto (-43), 3) := by decide +kernel
theorem dX10_gainOnNotes_51 : decode cX10_gainOnNotes 51 = .ok (.iload_n 3, 1) := by decide +kernel
theorem dX10_gainOnNotes_52 : decode cX10_gainOnNotes 52 = .ok (.ireturn, 1) := by decide +kernel
abbrev j10_gainOnNotes : xJ := (cX10_gainOnNotes, 5, RX10, 2, 0, 0)
def F10_gainOnNotes_b5 (z : Nat) (w : Nat) (x1 : Int32) (x2 : Int32) (x3 : Int32) (x4 : Int32) (c_many : (Nat → Int32)) (c_gains : (Nat → Int32)) (c_seen : (Nat → Int32)) : Option (Int32) := match w with
  | 0 => none
  | w + 1 => xg (xin ((1 : Int32) - x1) 2) (if (c_many (xn ((1 : Int32) - x1))) ≤ x4 then (some (x3)) else (xg (xin (((128 : Int32) * ((1 : Int32) - x1)) + x4) 256) ((F10_gainFor x1 x2 x4 c_gains).bind (fun v39 => F10_gainOnNotes_b5 z w x1 x2 (x3 + ((c_seen (xn (((128 : Int32) * ((1 : Int32) - x1)) + x4))) * v39)) (x4 + (1 : Int32)) c_many c_gains c_seen))))
theorem T10_gainOnNotes_b5 {X : xX} {c_thrown : Int32} {c_told : (Nat → Int32)} {c_read : (Nat → Int32)} {c_many : (Nat → Int32)} {c_eights : (Nat → Int32)} {c_gains : (Nat → Int32)} {c_notes : (Nat → Int32)} {c_seen : (Nat → Int32)} {c_turns : (Nat → Int32)} {c_drawn : (Nat → Int32)} {c_state : Int32} {c_tape : (Nat → Int32)} {c_taped : Int32} {c_size : Int32} {c_from : Int32} {c_next : Int32} {c_token : Int32} {c_value : Int32} {c_fault : Int32} {c_number : Int32} {c_fives : (Nat → Int32)} {c_isLeft : (Nat → Int32)} {c_wentTimes : Int32} {c_goes : (Nat → Int32)} {c_isLeftLaid : Int32} {c_game : (Nat → Int32)} {c_rows : Int32} {c_columns : Int32} {c_isFound : Int32} {c_bestValue : Int64} {c_bestBelow : Int64} {c_bestShare : (Nat → Int64)} {c_share : (Nat → Int64)} {c_matrix : (Nat → Int64)} {c_system : (Nat → Int64)} {c_shares : (Nat → Int32)} {c_allShares : Int32} {z : Nat} {v : Int32} (hX : xIs (j10_gainOnNotes) X ((some .int)) (some (.int v)) (hM c_thrown c_told c_read c_many c_eights c_gains c_notes c_seen c_turns c_drawn c_state c_tape c_taped c_size c_from c_next c_token c_value c_fault c_number c_fives c_isLeft c_wentTimes c_goes c_isLeftLaid c_game c_rows c_columns c_isFound c_bestValue c_bestBelow c_bestShare c_share c_matrix c_system c_shares c_allShares)) : ∀ (w : Nat) {x1 : Int32} {x2 : Int32} {x3 : Int32} {x4 : Int32}, F10_gainOnNotes_b5 z w x1 x2 x3 x4 c_many c_gains c_seen = some v → xV (j10_gainOnNotes) X 0 0 (hM c_thrown c_told c_read c_many c_eights c_gains c_notes c_seen c_turns c_drawn c_state c_tape c_taped c_size c_from c_next c_token c_value c_fault c_number c_fives c_isLeft c_wentTimes c_goes c_isLeftLaid c_game c_rows c_columns c_isFound c_bestValue c_bestBelow c_bestShare c_share c_matrix c_system c_shares c_allShares) 5 [(0, .ref 0), (1, .int x1), (2, .int x2), (3, .int x3), (4, .int x4)] [] := by
  intro w
  induction w with
  | zero => intro x1 x2 x3 x4 hf; cases hf
  | succ w ih =>
    intro x1 x2 x3 x4 hf
    unfold F10_gainOnNotes_b5 at hf
    refine xV_iload 7 rfl dX10_gainOnNotes_5 4 rfl ?_
    refine xV_aload_n 8 rfl dX10_gainOnNotes_7 rfl 0 rfl ?_
    refine xV_get (v := .ref 3) 11 rfl dX10_gainOnNotes_8 f10_24 rfl rfl ?_
    refine xV_iconst 12 rfl dX10_gainOnNotes_11 xk_i1 ?_
    refine xV_iload_n 13 rfl dX10_gainOnNotes_12 rfl 1 rfl ?_
    refine xV_isub 14 rfl dX10_gainOnNotes_13 ?_
    obtain ⟨hg14, hf⟩ := xg_s hf
    refine xV_iaload 15 rfl dX10_gainOnNotes_14 rfl (xin_ok hg14) rfl ?_
    refine xV_icmp_ge (tgt := 51) 18 rfl dX10_gainOnNotes_15 (by decide) (fun h15 => ?_) (fun h15 => ?_)
    · have hf := xif_t hf h15
      refine xV_iload_n 52 rfl dX10_gainOnNotes_51 rfl 3 rfl ?_
      obtain rfl := Option.some.inj hf
      exact xV_iret hX dX10_gainOnNotes_52 rfl (Nat.zero_le _) (Nat.zero_le _)
    · have hf := xif_f hf h15
      refine xV_iload_n 19 rfl dX10_gainOnNotes_18 rfl 3 rfl ?_
      refine xV_aload_n 20 rfl dX10_gainOnNotes_19 rfl 0 rfl ?_
      refine xV_get (v := .ref 7) 23 rfl dX10_gainOnNotes_20 f10_36 rfl rfl ?_
      refine xV_sipush 26 rfl dX10_gainOnNotes_23 xk_s128 ?_
      refine xV_iconst 27 rfl dX10_gainOnNotes_26 xk_i1 ?_
      refine xV_iload_n 28 rfl dX10_gainOnNotes_27 rfl 1 rfl ?_
      refine xV_isub 29 rfl dX10_gainOnNotes_28 ?_
      refine xV_imul 30 rfl dX10_gainOnNotes_29 ?_
      refine xV_iload 32 rfl dX10_gainOnNotes_30 4 rfl ?_
      refine xV_iadd 33 rfl dX10_gainOnNotes_32 ?_
      obtain ⟨hg33, hf⟩ := xg_s hf
      refine xV_iaload 34 rfl dX10_gainOnNotes_33 rfl (xin_ok hg33) rfl ?_
      refine xV_aload_n 35 rfl dX10_gainOnNotes_34 rfl 0 rfl ?_
      refine xV_iload_n 36 rfl dX10_gainOnNotes_35 rfl 1 rfl ?_
      refine xV_iload_n 37 rfl dX10_gainOnNotes_36 rfl 2 rfl ?_
      refine xV_iload 39 rfl dX10_gainOnNotes_37 4 rfl ?_
      obtain ⟨v39, hv39, hf⟩ := xb_s hf
      refine xV_same (rest := [.int (c_seen (xn (((128 : Int32) * ((1 : Int32) - x1)) + x4))), .int x3]) 42 rfl dX10_gainOnNotes_39 rfl (C10_gainFor X.1.2.1 hv39) m10_gainFor v10_gainFor k10_233 rfl rfl rfl rfl rfl (Nat.le_of_ble_eq_true rfl) (Nat.le_of_ble_eq_true rfl) (Nat.le_of_ble_eq_true rfl) ⟨Nat.le_refl _, Nat.le_refl _⟩ ?_
      show xV (j10_gainOnNotes) X 0 0 (hM c_thrown c_told c_read c_many c_eights c_gains c_notes c_seen c_turns c_drawn c_state c_tape c_taped c_size c_from c_next c_token c_value c_fault c_number c_fives c_isLeft c_wentTimes c_goes c_isLeftLaid c_game c_rows c_columns c_isFound c_bestValue c_bestBelow c_bestShare c_share c_matrix c_system c_shares c_allShares) 42 [(0, .ref 0), (1, .int x1), (2, .int x2), (3, .int x3), (4, .int x4)] [.int v39, .int (c_seen (xn (((128 : Int32) * ((1 : Int32) - x1)) + x4))), .int x3]
      refine xV_imul 43 rfl dX10_gainOnNotes_42 ?_
      refine xV_iadd 44 rfl dX10_gainOnNotes_43 ?_
      refine xV_istore_n (L' := [(3, .int (x3 + ((c_seen (xn (((128 : Int32) * ((1 : Int32) - x1)) + x4))) * v39))), (0, .ref 0), (1, .int x1), (2, .int x2), (4, .int x4)]) 45 rfl dX10_gainOnNotes_44 rfl (xlt rfl) rfl ?_
      refine xV_iinc (L' := [(4, .int (x4 + (1 : Int32))), (3, .int (x3 + ((c_seen (xn (((128 : Int32) * ((1 : Int32) - x1)) + x4))) * v39))), (0, .ref 0), (1, .int x1), (2, .int x2)]) 48 rfl dX10_gainOnNotes_45 4 rfl (xk_inc xk_i1) (xlt rfl) rfl ?_
      refine xV_goto (tgt := 5) dX10_gainOnNotes_48 (by decide) ?_
      refine xV_sub [2, 3, 4, 1, 0] rfl ?_
      exact ih hf
def F10_gainOnNotes (z : Nat) (x1 : Int32) (x2 : Int32) (c_many : (Nat → Int32)) (c_gains : (Nat → Int32)) (c_seen : (Nat → Int32)) : Option (Int32) :=
  F10_gainOnNotes_b5 z z x1 x2 (0 : Int32) (0 : Int32) c_many c_gains c_seen
theorem T10_gainOnNotes {X : xX} {z : Nat} {x1 : Int32} {x2 : Int32} {c_many : (Nat → Int32)} {c_gains : (Nat → Int32)} {c_seen : (Nat → Int32)} {c_thrown : Int32} {c_told : (Nat → Int32)} {c_read : (Nat → Int32)} {c_eights : (Nat → Int32)} {c_notes : (Nat → Int32)} {c_turns : (Nat → Int32)} {c_drawn : (Nat → Int32)} {c_state : Int32} {c_tape : (Nat → Int32)} {c_taped : Int32} {c_size : Int32} {c_from : Int32} {c_next : Int32} {c_token : Int32} {c_value : Int32} {c_fault : Int32} {c_number : Int32} {c_fives : (Nat → Int32)} {c_isLeft : (Nat → Int32)} {c_wentTimes : Int32} {c_goes : (Nat → Int32)} {c_isLeftLaid : Int32} {c_game : (Nat → Int32)} {c_rows : Int32} {c_columns : Int32} {c_isFound : Int32} {c_bestValue : Int64} {c_bestBelow : Int64} {c_bestShare : (Nat → Int64)} {c_share : (Nat → Int64)} {c_matrix : (Nat → Int64)} {c_system : (Nat → Int64)} {c_shares : (Nat → Int32)} {c_allShares : Int32} {v : Int32} (hX : xIs (j10_gainOnNotes) X ((some .int)) (some (.int v)) (hM c_thrown c_told c_read c_many c_eights c_gains c_notes c_seen c_turns c_drawn c_state c_tape c_taped c_size c_from c_next c_token c_value c_fault c_number c_fives c_isLeft c_wentTimes c_goes c_isLeftLaid c_game c_rows c_columns c_isFound c_bestValue c_bestBelow c_bestShare c_share c_matrix c_system c_shares c_allShares)) (hf : F10_gainOnNotes z x1 x2 c_many c_gains c_seen = some v) : xV (j10_gainOnNotes) X 0 0 (hM c_thrown c_told c_read c_many c_eights c_gains c_notes c_seen c_turns c_drawn c_state c_tape c_taped c_size c_from c_next c_token c_value c_fault c_number c_fives c_isLeft c_wentTimes c_goes c_isLeftLaid c_game c_rows c_columns c_isFound c_bestValue c_bestBelow c_bestShare c_share c_matrix c_system c_shares c_allShares) 0 [(0, .ref 0), (1, .int x1), (2, .int x2)] [] := by
  unfold F10_gainOnNotes at hf
  refine xV_iconst 1 rfl dX10_gainOnNotes_0 xk_i0 ?_
  refine xV_istore_n (L' := [(3, .int (0 : Int32)), (0, .ref 0), (1, .int x1), (2, .int x2)]) 2 rfl dX10_gainOnNotes_1 rfl (xlt rfl) rfl ?_
  refine xV_iconst 3 rfl dX10_gainOnNotes_2 xk_i0 ?_
  refine xV_istore (L' := [(4, .int (0 : Int32)), (3, .int (0 : Int32)), (0, .ref 0), (1, .int x1), (2, .int x2)]) 5 rfl dX10_gainOnNotes_3 (xlt rfl) rfl ?_
  refine xV_sub [2, 3, 4, 1, 0] rfl ?_
  exact T10_gainOnNotes_b5 hX _ hf
theorem C10_gainOnNotes (l : Launch) {z : Nat} {x1 : Int32} {x2 : Int32} {c_many : (Nat → Int32)} {c_gains : (Nat → Int32)} {c_seen : (Nat → Int32)} {c_thrown : Int32} {c_told : (Nat → Int32)} {c_read : (Nat → Int32)} {c_eights : (Nat → Int32)} {c_notes : (Nat → Int32)} {c_turns : (Nat → Int32)} {c_drawn : (Nat → Int32)} {c_state : Int32} {c_tape : (Nat → Int32)} {c_taped : Int32} {c_size : Int32} {c_from : Int32} {c_next : Int32} {c_token : Int32} {c_value : Int32} {c_fault : Int32} {c_number : Int32} {c_fives : (Nat → Int32)} {c_isLeft : (Nat → Int32)} {c_wentTimes : Int32} {c_goes : (Nat → Int32)} {c_isLeftLaid : Int32} {c_game : (Nat → Int32)} {c_rows : Int32} {c_columns : Int32} {c_isFound : Int32} {c_bestValue : Int64} {c_bestBelow : Int64} {c_bestShare : (Nat → Int64)} {c_share : (Nat → Int64)} {c_matrix : (Nat → Int64)} {c_system : (Nat → Int64)} {c_shares : (Nat → Int32)} {c_allShares : Int32} {v : Int32} (hf : F10_gainOnNotes z x1 x2 c_many c_gains c_seen = some v) : xCt l yX10_gainOnNotes ((some .int)) j10_gainOnNotes [.ref 0, .int x1, .int x2] (hM c_thrown c_told c_read c_many c_eights c_gains c_notes c_seen c_turns c_drawn c_state c_tape c_taped c_size c_from c_next c_token c_value c_fault c_number c_fives c_isLeft c_wentTimes c_goes c_isLeftLaid c_game c_rows c_columns c_isFound c_bestValue c_bestBelow c_bestShare c_share c_matrix c_system c_shares c_allShares) (some (.int v)) (hM c_thrown c_told c_read c_many c_eights c_gains c_notes c_seen c_turns c_drawn c_state c_tape c_taped c_size c_from c_next c_token c_value c_fault c_number c_fives c_isLeft c_wentTimes c_goes c_isLeftLaid c_game c_rows c_columns c_isFound c_bestValue c_bestBelow c_bestShare c_share c_matrix c_system c_shares c_allShares) := xCt_of (by decide) rfl (Nat.le_of_ble_eq_true rfl) (fun _ hX => T10_gainOnNotes hX hf)
theorem m10_gainOnNotes : xMd yX10_gainOnNotes RX10 ((some .int)) j10_gainOnNotes 2 := ⟨List.mem_of_getElem? (i := 1274) (by decide +kernel), List.mem_of_getElem? (i := 5) (by decide +kernel), rfl, by decide +kernel⟩
theorem v10_gainOnNotes : xMv yX10_gainOnNotes RX10 := ⟨List.mem_of_getElem? (i := 1272) (by decide +kernel), List.mem_of_getElem? (i := 1273) (by decide +kernel)⟩
theorem k10_377 : Cond.methodLink RX10 377 yX10_gainOnNotes ∈ wsL_law0 := List.mem_of_getElem? (i := 1271) (by decide +kernel)
theorem dX10_against_0 : decode cX10_against 0 = .ok (.aload_n 0, 1) := by decide +kernel
theorem dX10_against_1 : decode cX10_against 1 = .ok (.iconst 0, 1) := by decide +kernel
theorem dX10_against_2 : decode cX10_against 2 = .ok (.putfield 1, 3) := by decide +kernel
theorem dX10_against_5 : decode cX10_against 5 = .ok (.iload_n 1, 1) := by decide +kernel
theorem dX10_against_6 : decode cX10_against 6 = .ok (.invokestatic 105, 3) := by decide +kernel
theorem dX10_against_9 : decode cX10_against 9 = .ok (.ifCond .eq 23, 3) := by decide +kernel
theorem dX10_against_12 : decode cX10_against 12 = .ok (.iload_n 2, 1) := by decide +kernel
theorem dX10_against_13 : decode cX10_against 13 = .ok (.iconst 0, 1) := by decide +kernel
theorem dX10_against_14 : decode cX10_against 14 = .ok (.iconst 1, 1) := by decide +kernel
theorem dX10_against_15 : decode cX10_against 15 = .ok (.invokestatic 7, 3) := by decide +kernel
theorem dX10_against_18 : decode cX10_against 18 = .ok (.ifCond .eq 14, 3) := by decide +kernel
theorem dX10_against_21 : decode cX10_against 21 = .ok (.aload_n 0, 1) := by decide +kernel
theorem dX10_against_22 : decode cX10_against 22 = .ok (.getfield 33, 3) := by decide +kernel
theorem dX10_against_25 : decode cX10_against 25 = .ok (.iconst 1, 1) := by decide +kernel
theorem dX10_against_26 : decode cX10_against 26 = .ok (.iload_n 1, 1) := by decide +kernel
theorem dX10_against_27 : decode cX10_against 27 = .ok (.isub, 1) := by decide +kernel
theorem dX10_against_28 : decode cX10_against 28 = .ok (.iaload, 1) := by decide +kernel
theorem dX10_against_29 : decode cX10_against 29 = .ok (.ifCond .ne 7, 3) := by decide +kernel
theorem dX10_against_32 : decode cX10_against 32 = .ok (.sipush (-10000), 3) := by decide +kernel
theorem dX10_against_35 : decode cX10_against 35 = .ok (.ireturn, 1) := by decide +kernel
theorem dX10_against_36 : decode cX10_against 36 = .ok (.iconst 0, 1) := by decide +kernel
theorem dX10_against_37 : decode cX10_against 37 = .ok (.istore_n 3, 1) := by decide +kernel
theorem dX10_against_38 : decode cX10_against 38 = .ok (.iconst 1, 1) := by decide +kernel
theorem dX10_against_39 : decode cX10_against 39 = .ok (.istore 4, 2) := by decide +kernel
theorem dX10_against_41 : decode cX10_against 41 = .ok (.iload 4, 2) := by decide +kernel
theorem dX10_against_43 : decode cX10_against 43 = .ok (.aload_n 0, 1) := by decide +kernel
theorem dX10_against_44 : decode cX10_against 44 = .ok (.getfield 24, 3) := by decide +kernel
theorem dX10_against_47 : decode cX10_against 47 = .ok (.iload_n 1, 1) := by decide +kernel
theorem dX10_against_48 : decode cX10_against 48 = .ok (.iaload, 1) := by decide +kernel
theorem dX10_against_49 : decode cX10_against 49 = .ok (.if_icmp .ge 32, 3) := by decide +kernel
theorem dX10_against_52 : decode cX10_against 52 = .ok (.aload_n 0, 1) := by decide +kernel
theorem dX10_against_53 : decode cX10_against 53 = .ok (.iload_n 1, 1) := by decide +kernel
theorem dX10_against_54 : decode cX10_against 54 = .ok (.iload 4, 2) := by decide +kernel
theorem dX10_against_56 : decode cX10_against 56 = .ok (.invokevirtual 377, 3) := by decide +kernel
theorem dX10_against_59 : decode cX10_against 59 = .ok (.aload_n 0, 1) := by decide +kernel
theorem dX10_against_60 : decode cX10_against 60 = .ok (.iload_n 1, 1) := by decide +kernel
theorem dX10_against_61 : decode cX10_against 61 = .ok (.iload_n 3, 1) := by decide +kernel
theorem dX10_against_62 : decode cX10_against 62 = .ok (.invokevirtual 377, 3) := by decide +kernel
theorem dX10_against_65 : decode cX10_against 65 = .ok (.if_icmp .le 8, 3) := by decide +kernel
theorem dX10_against_68 : decode cX10_against 68 = .ok (.iload 4, 2) := by decide +kernel
theorem dX10_against_70 : decode cX10_against 70 = .ok (.goto 4, 3) := by decide +kernel
theorem dX10_against_73 : decode cX10_against 73 = .ok (.iload_n 3, 1) := by decide +kernel
theorem dX10_against_74 : decode cX10_against 74 = .ok (.istore_n 3, 1) := by decide +kernel
theorem dX10_against_75 : decode cX10_against 75 = .ok (.iinc 4 1, 3) := by decide +kernel
theorem dX10_against_78 : decode cX10_against 78 = .ok (.goto (-37), 3) := by decide +kernel
theorem dX10_against_81 : decode cX10_against 81 = .ok (.iload_n 2, 1) := by decide +kernel
theorem dX10_against_82 : decode cX10_against 82 = .ok (.ifCond .ne 7, 3) := by decide +kernel
theorem dX10_against_85 : decode cX10_against 85 = .ok (.iload_n 3, 1) := by decide +kernel
theorem dX10_against_86 : decode cX10_against 86 = .ok (.goto 9, 3) := by decide +kernel
theorem dX10_against_89 : decode cX10_against 89 = .ok (.aload_n 0, 1) := by decide +kernel
theorem dX10_against_90 : decode cX10_against 90 = .ok (.iload_n 1, 1) := by decide +kernel
theorem dX10_against_91 : decode cX10_against 91 = .ok (.iload_n 3, 1) := by decide +kernel
theorem dX10_against_92 : decode cX10_against 92 = .ok (.invokevirtual 377, 3) := by decide +kernel
theorem dX10_against_95 : decode cX10_against 95 = .ok (.ireturn, 1) := by decide +kernel
abbrev j10_against : xJ := (cX10_against, 5, RX10, 3, 0, 0)
def F10_against_b81 (z : Nat) (x1 : Int32) (x2 : Int32) (x3 : Int32) (c_thrown : Int32) (c_many : (Nat → Int32)) (c_gains : (Nat → Int32)) (c_notes : (Nat → Int32)) (c_seen : (Nat → Int32)) : Option (Int32 × Int32) :=
  if x2 = 0 then (some (x3, c_thrown)) else ((F10_gainOnNotes z x1 x3 c_many c_gains c_seen).bind (fun v92 => some (v92, c_thrown)))
theorem T10_against_b81 {X : xX} {c_told : (Nat → Int32)} {c_read : (Nat → Int32)} {c_eights : (Nat → Int32)} {c_turns : (Nat → Int32)} {c_drawn : (Nat → Int32)} {c_state : Int32} {c_tape : (Nat → Int32)} {c_taped : Int32} {c_size : Int32} {c_from : Int32} {c_next : Int32} {c_token : Int32} {c_value : Int32} {c_fault : Int32} {c_number : Int32} {c_fives : (Nat → Int32)} {c_isLeft : (Nat → Int32)} {c_wentTimes : Int32} {c_goes : (Nat → Int32)} {c_isLeftLaid : Int32} {c_game : (Nat → Int32)} {c_rows : Int32} {c_columns : Int32} {c_isFound : Int32} {c_bestValue : Int64} {c_bestBelow : Int64} {c_bestShare : (Nat → Int64)} {c_share : (Nat → Int64)} {c_matrix : (Nat → Int64)} {c_system : (Nat → Int64)} {c_shares : (Nat → Int32)} {c_allShares : Int32} {x1 : Int32} {x2 : Int32} {x3 : Int32} {c_thrown : Int32} {c_many : (Nat → Int32)} {c_gains : (Nat → Int32)} {c_notes : (Nat → Int32)} {c_seen : (Nat → Int32)} {z : Nat} {v : Int32 × Int32} (hX : xIs (j10_against) X ((some .int)) (some (.int v.1)) (hM v.2 c_told c_read c_many c_eights c_gains c_notes c_seen c_turns c_drawn c_state c_tape c_taped c_size c_from c_next c_token c_value c_fault c_number c_fives c_isLeft c_wentTimes c_goes c_isLeftLaid c_game c_rows c_columns c_isFound c_bestValue c_bestBelow c_bestShare c_share c_matrix c_system c_shares c_allShares)) (hf : F10_against_b81 z x1 x2 x3 c_thrown c_many c_gains c_notes c_seen = some v) : xV (j10_against) X 0 0 (hM c_thrown c_told c_read c_many c_eights c_gains c_notes c_seen c_turns c_drawn c_state c_tape c_taped c_size c_from c_next c_token c_value c_fault c_number c_fives c_isLeft c_wentTimes c_goes c_isLeftLaid c_game c_rows c_columns c_isFound c_bestValue c_bestBelow c_bestShare c_share c_matrix c_system c_shares c_allShares) 81 [(0, .ref 0), (1, .int x1), (2, .int x2), (3, .int x3)] [] := by
  unfold F10_against_b81 at hf
  refine xV_iload_n 82 rfl dX10_against_81 rfl 2 rfl ?_
  refine xV_if_ne (tgt := 89) 85 rfl dX10_against_82 (by decide) (fun h82 => ?_) (fun h82 => ?_)
  · have hf := xif_f hf h82
    refine xV_aload_n 90 rfl dX10_against_89 rfl 0 rfl ?_
    refine xV_iload_n 91 rfl dX10_against_90 rfl 1 rfl ?_
    refine xV_iload_n 92 rfl dX10_against_91 rfl 3 rfl ?_
    obtain ⟨v92, hv92, hf⟩ := xb_s hf
    refine xV_same (rest := []) 95 rfl dX10_against_92 rfl (C10_gainOnNotes X.1.2.1 hv92) m10_gainOnNotes v10_gainOnNotes k10_377 rfl rfl rfl rfl rfl (Nat.le_of_ble_eq_true rfl) (Nat.le_of_ble_eq_true rfl) (Nat.le_of_ble_eq_true rfl) ⟨Nat.le_refl _, Nat.le_refl _⟩ ?_
    show xV (j10_against) X 0 0 (hM c_thrown c_told c_read c_many c_eights c_gains c_notes c_seen c_turns c_drawn c_state c_tape c_taped c_size c_from c_next c_token c_value c_fault c_number c_fives c_isLeft c_wentTimes c_goes c_isLeftLaid c_game c_rows c_columns c_isFound c_bestValue c_bestBelow c_bestShare c_share c_matrix c_system c_shares c_allShares) 95 [(0, .ref 0), (1, .int x1), (2, .int x2), (3, .int x3)] [.int v92]
    obtain rfl := Option.some.inj hf
    exact xV_iret hX dX10_against_95 rfl (Nat.zero_le _) (Nat.zero_le _)
  · have hf := xif_t hf h82
    refine xV_iload_n 86 rfl dX10_against_85 rfl 3 rfl ?_
    refine xV_goto (tgt := 95) dX10_against_86 (by decide) ?_
    obtain rfl := Option.some.inj hf
    exact xV_iret hX dX10_against_95 rfl (Nat.zero_le _) (Nat.zero_le _)
def F10_against_b74 (z : Nat) (x1 : Int32) (x2 : Int32) (x4 : Int32) (s0 : Int32) (c_thrown : Int32) (c_many : (Nat → Int32)) (c_gains : (Nat → Int32)) (c_notes : (Nat → Int32)) (c_seen : (Nat → Int32)) (k41 : Int32 → Int32 → Int32 → Int32 → Int32 → (Nat → Int32) → (Nat → Int32) → (Nat → Int32) → (Nat → Int32) → Option (Int32 × Int32)) : Option (Int32 × Int32) :=
  k41 x1 x2 s0 (x4 + (1 : Int32)) c_thrown c_many c_gains c_notes c_seen
theorem T10_against_b74 {X : xX} {c_told : (Nat → Int32)} {c_read : (Nat → Int32)} {c_eights : (Nat → Int32)} {c_turns : (Nat → Int32)} {c_drawn : (Nat → Int32)} {c_state : Int32} {c_tape : (Nat → Int32)} {c_taped : Int32} {c_size : Int32} {c_from : Int32} {c_next : Int32} {c_token : Int32} {c_value : Int32} {c_fault : Int32} {c_number : Int32} {c_fives : (Nat → Int32)} {c_isLeft : (Nat → Int32)} {c_wentTimes : Int32} {c_goes : (Nat → Int32)} {c_isLeftLaid : Int32} {c_game : (Nat → Int32)} {c_rows : Int32} {c_columns : Int32} {c_isFound : Int32} {c_bestValue : Int64} {c_bestBelow : Int64} {c_bestShare : (Nat → Int64)} {c_share : (Nat → Int64)} {c_matrix : (Nat → Int64)} {c_system : (Nat → Int64)} {c_shares : (Nat → Int32)} {c_allShares : Int32} {x1 : Int32} {x2 : Int32} {x4 : Int32} {s0 : Int32} {c_thrown : Int32} {c_many : (Nat → Int32)} {c_gains : (Nat → Int32)} {c_notes : (Nat → Int32)} {c_seen : (Nat → Int32)} {z : Nat} {v : Int32 × Int32} {k41 : Int32 → Int32 → Int32 → Int32 → Int32 → (Nat → Int32) → (Nat → Int32) → (Nat → Int32) → (Nat → Int32) → Option (Int32 × Int32)} (hX : xIs (j10_against) X ((some .int)) (some (.int v.1)) (hM v.2 c_told c_read c_many c_eights c_gains c_notes c_seen c_turns c_drawn c_state c_tape c_taped c_size c_from c_next c_token c_value c_fault c_number c_fives c_isLeft c_wentTimes c_goes c_isLeftLaid c_game c_rows c_columns c_isFound c_bestValue c_bestBelow c_bestShare c_share c_matrix c_system c_shares c_allShares)) (hk41 : ∀ {x1 : Int32} {x2 : Int32} {x3 : Int32} {x4 : Int32} {c_thrown : Int32}, k41 x1 x2 x3 x4 c_thrown c_many c_gains c_notes c_seen = some v → xV (j10_against) X 0 0 (hM c_thrown c_told c_read c_many c_eights c_gains c_notes c_seen c_turns c_drawn c_state c_tape c_taped c_size c_from c_next c_token c_value c_fault c_number c_fives c_isLeft c_wentTimes c_goes c_isLeftLaid c_game c_rows c_columns c_isFound c_bestValue c_bestBelow c_bestShare c_share c_matrix c_system c_shares c_allShares) 41 [(0, .ref 0), (1, .int x1), (2, .int x2), (3, .int x3), (4, .int x4)] []) (hf : F10_against_b74 z x1 x2 x4 s0 c_thrown c_many c_gains c_notes c_seen k41 = some v) : xV (j10_against) X 0 0 (hM c_thrown c_told c_read c_many c_eights c_gains c_notes c_seen c_turns c_drawn c_state c_tape c_taped c_size c_from c_next c_token c_value c_fault c_number c_fives c_isLeft c_wentTimes c_goes c_isLeftLaid c_game c_rows c_columns c_isFound c_bestValue c_bestBelow c_bestShare c_share c_matrix c_system c_shares c_allShares) 74 [(0, .ref 0), (1, .int x1), (2, .int x2), (4, .int x4)] [.int s0] := by
  unfold F10_against_b74 at hf
  refine xV_istore_n (L' := [(3, .int s0), (0, .ref 0), (1, .int x1), (2, .int x2), (4, .int x4)]) 75 rfl dX10_against_74 rfl (xlt rfl) rfl ?_
  refine xV_iinc (L' := [(4, .int (x4 + (1 : Int32))), (3, .int s0), (0, .ref 0), (1, .int x1), (2, .int x2)]) 78 rfl dX10_against_75 4 rfl (xk_inc xk_i1) (xlt rfl) rfl ?_
  refine xV_goto (tgt := 41) dX10_against_78 (by decide) ?_
  refine xV_sub [2, 3, 4, 1, 0] rfl ?_
  exact hk41 hf
def F10_against_b41 (z : Nat) (w : Nat) (x1 : Int32) (x2 : Int32) (x3 : Int32) (x4 : Int32) (c_thrown : Int32) (c_many : (Nat → Int32)) (c_gains : (Nat → Int32)) (c_notes : (Nat → Int32)) (c_seen : (Nat → Int32)) : Option (Int32 × Int32) := match w with
  | 0 => none
  | w + 1 => xg (xin x1 2) (if (c_many (xn x1)) ≤ x4 then (F10_against_b81 z x1 x2 x3 c_thrown c_many c_gains c_notes c_seen) else ((F10_gainOnNotes z x1 x4 c_many c_gains c_seen).bind (fun v56 => (F10_gainOnNotes z x1 x3 c_many c_gains c_seen).bind (fun v62 => if v56 ≤ v62 then (F10_against_b74 z x1 x2 x4 x3 c_thrown c_many c_gains c_notes c_seen (fun q0 q1 q2 q3 q4 q5 q6 q7 q8 => F10_against_b41 z w q0 q1 q2 q3 q4 q5 q6 q7 q8)) else (F10_against_b74 z x1 x2 x4 x4 c_thrown c_many c_gains c_notes c_seen (fun q0 q1 q2 q3 q4 q5 q6 q7 q8 => F10_against_b41 z w q0 q1 q2 q3 q4 q5 q6 q7 q8))))))
theorem T10_against_b41 {X : xX} {c_told : (Nat → Int32)} {c_read : (Nat → Int32)} {c_many : (Nat → Int32)} {c_eights : (Nat → Int32)} {c_gains : (Nat → Int32)} {c_notes : (Nat → Int32)} {c_seen : (Nat → Int32)} {c_turns : (Nat → Int32)} {c_drawn : (Nat → Int32)} {c_state : Int32} {c_tape : (Nat → Int32)} {c_taped : Int32} {c_size : Int32} {c_from : Int32} {c_next : Int32} {c_token : Int32} {c_value : Int32} {c_fault : Int32} {c_number : Int32} {c_fives : (Nat → Int32)} {c_isLeft : (Nat → Int32)} {c_wentTimes : Int32} {c_goes : (Nat → Int32)} {c_isLeftLaid : Int32} {c_game : (Nat → Int32)} {c_rows : Int32} {c_columns : Int32} {c_isFound : Int32} {c_bestValue : Int64} {c_bestBelow : Int64} {c_bestShare : (Nat → Int64)} {c_share : (Nat → Int64)} {c_matrix : (Nat → Int64)} {c_system : (Nat → Int64)} {c_shares : (Nat → Int32)} {c_allShares : Int32} {z : Nat} {v : Int32 × Int32} (hX : xIs (j10_against) X ((some .int)) (some (.int v.1)) (hM v.2 c_told c_read c_many c_eights c_gains c_notes c_seen c_turns c_drawn c_state c_tape c_taped c_size c_from c_next c_token c_value c_fault c_number c_fives c_isLeft c_wentTimes c_goes c_isLeftLaid c_game c_rows c_columns c_isFound c_bestValue c_bestBelow c_bestShare c_share c_matrix c_system c_shares c_allShares)) : ∀ (w : Nat) {x1 : Int32} {x2 : Int32} {x3 : Int32} {x4 : Int32} {c_thrown : Int32}, F10_against_b41 z w x1 x2 x3 x4 c_thrown c_many c_gains c_notes c_seen = some v → xV (j10_against) X 0 0 (hM c_thrown c_told c_read c_many c_eights c_gains c_notes c_seen c_turns c_drawn c_state c_tape c_taped c_size c_from c_next c_token c_value c_fault c_number c_fives c_isLeft c_wentTimes c_goes c_isLeftLaid c_game c_rows c_columns c_isFound c_bestValue c_bestBelow c_bestShare c_share c_matrix c_system c_shares c_allShares) 41 [(0, .ref 0), (1, .int x1), (2, .int x2), (3, .int x3), (4, .int x4)] [] := by
  intro w
  induction w with
  | zero => intro x1 x2 x3 x4 c_thrown hf; cases hf
  | succ w ih =>
    intro x1 x2 x3 x4 c_thrown hf
    unfold F10_against_b41 at hf
    refine xV_iload 43 rfl dX10_against_41 4 rfl ?_
    refine xV_aload_n 44 rfl dX10_against_43 rfl 0 rfl ?_
    refine xV_get (v := .ref 3) 47 rfl dX10_against_44 f10_24 rfl rfl ?_
    refine xV_iload_n 48 rfl dX10_against_47 rfl 1 rfl ?_
    obtain ⟨hg48, hf⟩ := xg_s hf
    refine xV_iaload 49 rfl dX10_against_48 rfl (xin_ok hg48) rfl ?_
    refine xV_icmp_ge (tgt := 81) 52 rfl dX10_against_49 (by decide) (fun h49 => ?_) (fun h49 => ?_)
    · have hf := xif_t hf h49
      refine xV_sub [0, 1, 2, 3] rfl ?_
      exact T10_against_b81 hX hf
    · have hf := xif_f hf h49
      refine xV_aload_n 53 rfl dX10_against_52 rfl 0 rfl ?_
      refine xV_iload_n 54 rfl dX10_against_53 rfl 1 rfl ?_
      refine xV_iload 56 rfl dX10_against_54 4 rfl ?_
      obtain ⟨v56, hv56, hf⟩ := xb_s hf
      refine xV_same (rest := []) 59 rfl dX10_against_56 rfl (C10_gainOnNotes X.1.2.1 hv56) m10_gainOnNotes v10_gainOnNotes k10_377 rfl rfl rfl rfl rfl (Nat.le_of_ble_eq_true rfl) (Nat.le_of_ble_eq_true rfl) (Nat.le_of_ble_eq_true rfl) ⟨Nat.le_refl _, Nat.le_refl _⟩ ?_
      show xV (j10_against) X 0 0 (hM c_thrown c_told c_read c_many c_eights c_gains c_notes c_seen c_turns c_drawn c_state c_tape c_taped c_size c_from c_next c_token c_value c_fault c_number c_fives c_isLeft c_wentTimes c_goes c_isLeftLaid c_game c_rows c_columns c_isFound c_bestValue c_bestBelow c_bestShare c_share c_matrix c_system c_shares c_allShares) 59 [(0, .ref 0), (1, .int x1), (2, .int x2), (3, .int x3), (4, .int x4)] [.int v56]
      refine xV_aload_n 60 rfl dX10_against_59 rfl 0 rfl ?_
      refine xV_iload_n 61 rfl dX10_against_60 rfl 1 rfl ?_
      refine xV_iload_n 62 rfl dX10_against_61 rfl 3 rfl ?_
      obtain ⟨v62, hv62, hf⟩ := xb_s hf
      refine xV_same (rest := [.int v56]) 65 rfl dX10_against_62 rfl (C10_gainOnNotes X.1.2.1 hv62) m10_gainOnNotes v10_gainOnNotes k10_377 rfl rfl rfl rfl rfl (Nat.le_of_ble_eq_true rfl) (Nat.le_of_ble_eq_true rfl) (Nat.le_of_ble_eq_true rfl) ⟨Nat.le_refl _, Nat.le_refl _⟩ ?_
      show xV (j10_against) X 0 0 (hM c_thrown c_told c_read c_many c_eights c_gains c_notes c_seen c_turns c_drawn c_state c_tape c_taped c_size c_from c_next c_token c_value c_fault c_number c_fives c_isLeft c_wentTimes c_goes c_isLeftLaid c_game c_rows c_columns c_isFound c_bestValue c_bestBelow c_bestShare c_share c_matrix c_system c_shares c_allShares) 65 [(0, .ref 0), (1, .int x1), (2, .int x2), (3, .int x3), (4, .int x4)] [.int v62, .int v56]
      refine xV_icmp_le (tgt := 73) 68 rfl dX10_against_65 (by decide) (fun h65 => ?_) (fun h65 => ?_)
      · have hf := xif_t hf h65
        refine xV_iload_n 74 rfl dX10_against_73 rfl 3 rfl ?_
        refine xV_sub [0, 1, 2, 4] rfl ?_
        exact T10_against_b74 hX (fun {_ _ _ _ _} hq => ih hq) hf
      · have hf := xif_f hf h65
        refine xV_iload 70 rfl dX10_against_68 4 rfl ?_
        refine xV_goto (tgt := 74) dX10_against_70 (by decide) ?_
        refine xV_sub [0, 1, 2, 4] rfl ?_
        exact T10_against_b74 hX (fun {_ _ _ _ _} hq => ih hq) hf
def F10_against (z : Nat) (x1 : Int32) (x2 : Int32) (c_thrown : Int32) (c_many : (Nat → Int32)) (c_gains : (Nat → Int32)) (c_notes : (Nat → Int32)) (c_seen : (Nat → Int32)) : Option (Int32 × Int32) :=
  (F10_isSide x1).bind (fun v6 => if v6 = 0 then (some ((-10000 : Int32), (0 : Int32))) else ((F10_within x2 (0 : Int32) (1 : Int32)).bind (fun v15 => if v15 = 0 then (some ((-10000 : Int32), (0 : Int32))) else (xg (xin ((1 : Int32) - x1) 2) (if (c_notes (xn ((1 : Int32) - x1))) = 0 then (some ((-10000 : Int32), (0 : Int32))) else (F10_against_b41 z z x1 x2 (0 : Int32) (1 : Int32) (0 : Int32) c_many c_gains c_notes c_seen))))))
theorem T10_against {X : xX} {z : Nat} {x1 : Int32} {x2 : Int32} {c_thrown : Int32} {c_many : (Nat → Int32)} {c_gains : (Nat → Int32)} {c_notes : (Nat → Int32)} {c_seen : (Nat → Int32)} {c_told : (Nat → Int32)} {c_read : (Nat → Int32)} {c_eights : (Nat → Int32)} {c_turns : (Nat → Int32)} {c_drawn : (Nat → Int32)} {c_state : Int32} {c_tape : (Nat → Int32)} {c_taped : Int32} {c_size : Int32} {c_from : Int32} {c_next : Int32} {c_token : Int32} {c_value : Int32} {c_fault : Int32} {c_number : Int32} {c_fives : (Nat → Int32)} {c_isLeft : (Nat → Int32)} {c_wentTimes : Int32} {c_goes : (Nat → Int32)} {c_isLeftLaid : Int32} {c_game : (Nat → Int32)} {c_rows : Int32} {c_columns : Int32} {c_isFound : Int32} {c_bestValue : Int64} {c_bestBelow : Int64} {c_bestShare : (Nat → Int64)} {c_share : (Nat → Int64)} {c_matrix : (Nat → Int64)} {c_system : (Nat → Int64)} {c_shares : (Nat → Int32)} {c_allShares : Int32} {v : Int32 × Int32} (hX : xIs (j10_against) X ((some .int)) (some (.int v.1)) (hM v.2 c_told c_read c_many c_eights c_gains c_notes c_seen c_turns c_drawn c_state c_tape c_taped c_size c_from c_next c_token c_value c_fault c_number c_fives c_isLeft c_wentTimes c_goes c_isLeftLaid c_game c_rows c_columns c_isFound c_bestValue c_bestBelow c_bestShare c_share c_matrix c_system c_shares c_allShares)) (hf : F10_against z x1 x2 c_thrown c_many c_gains c_notes c_seen = some v) : xV (j10_against) X 0 0 (hM c_thrown c_told c_read c_many c_eights c_gains c_notes c_seen c_turns c_drawn c_state c_tape c_taped c_size c_from c_next c_token c_value c_fault c_number c_fives c_isLeft c_wentTimes c_goes c_isLeftLaid c_game c_rows c_columns c_isFound c_bestValue c_bestBelow c_bestShare c_share c_matrix c_system c_shares c_allShares) 0 [(0, .ref 0), (1, .int x1), (2, .int x2)] [] := by
  unfold F10_against at hf
  refine xV_aload_n 1 rfl dX10_against_0 rfl 0 rfl ?_
  refine xV_iconst 2 rfl dX10_against_1 xk_i0 ?_
  refine xV_put (h' := (hM (0 : Int32) c_told c_read c_many c_eights c_gains c_notes c_seen c_turns c_drawn c_state c_tape c_taped c_size c_from c_next c_token c_value c_fault c_number c_fives c_isLeft c_wentTimes c_goes c_isLeftLaid c_game c_rows c_columns c_isFound c_bestValue c_bestBelow c_bestShare c_share c_matrix c_system c_shares c_allShares)) 5 rfl dX10_against_2 f10_1 rfl nf10_0 (fun _ => rfl) (fun _ => rfl) (Nat.le_of_ble_eq_true rfl) rfl ?_
  refine xV_iload_n 6 rfl dX10_against_5 rfl 1 rfl ?_
  obtain ⟨v6, hv6, hf⟩ := xb_s hf
  refine xV_st0 (rest := []) 9 rfl dX10_against_6 rfl (C10_isSide X.1.2.1 hv6) m10_isSide s10_isSide k10_105 rfl (Nat.le_of_ble_eq_true rfl) (Nat.le_of_ble_eq_true rfl) (Nat.le_of_ble_eq_true rfl) ⟨Nat.le_refl _, Nat.le_refl _⟩ ?_
  show xV (j10_against) X 0 0 (hM (0 : Int32) c_told c_read c_many c_eights c_gains c_notes c_seen c_turns c_drawn c_state c_tape c_taped c_size c_from c_next c_token c_value c_fault c_number c_fives c_isLeft c_wentTimes c_goes c_isLeftLaid c_game c_rows c_columns c_isFound c_bestValue c_bestBelow c_bestShare c_share c_matrix c_system c_shares c_allShares) 9 [(0, .ref 0), (1, .int x1), (2, .int x2)] [.int v6]
  refine xV_if_eq (tgt := 32) 12 rfl dX10_against_9 (by decide) (fun h9 => ?_) (fun h9 => ?_)
  · have hf := xif_t hf h9
    refine xV_sipush 35 rfl dX10_against_32 xk_sm10000 ?_
    obtain rfl := Option.some.inj hf
    exact xV_iret hX dX10_against_35 rfl (Nat.zero_le _) (Nat.zero_le _)
  · have hf := xif_f hf h9
    refine xV_iload_n 13 rfl dX10_against_12 rfl 2 rfl ?_
    refine xV_iconst 14 rfl dX10_against_13 xk_i0 ?_
    refine xV_iconst 15 rfl dX10_against_14 xk_i1 ?_
    obtain ⟨v15, hv15, hf⟩ := xb_s hf
    refine xV_st0 (rest := []) 18 rfl dX10_against_15 rfl (C10_within X.1.2.1 hv15) m10_within s10_within k10_7 rfl (Nat.le_of_ble_eq_true rfl) (Nat.le_of_ble_eq_true rfl) (Nat.le_of_ble_eq_true rfl) ⟨Nat.le_refl _, Nat.le_refl _⟩ ?_
    show xV (j10_against) X 0 0 (hM (0 : Int32) c_told c_read c_many c_eights c_gains c_notes c_seen c_turns c_drawn c_state c_tape c_taped c_size c_from c_next c_token c_value c_fault c_number c_fives c_isLeft c_wentTimes c_goes c_isLeftLaid c_game c_rows c_columns c_isFound c_bestValue c_bestBelow c_bestShare c_share c_matrix c_system c_shares c_allShares) 18 [(0, .ref 0), (1, .int x1), (2, .int x2)] [.int v15]
    refine xV_if_eq (tgt := 32) 21 rfl dX10_against_18 (by decide) (fun h18 => ?_) (fun h18 => ?_)
    · have hf := xif_t hf h18
      refine xV_sipush 35 rfl dX10_against_32 xk_sm10000 ?_
      obtain rfl := Option.some.inj hf
      exact xV_iret hX dX10_against_35 rfl (Nat.zero_le _) (Nat.zero_le _)
    · have hf := xif_f hf h18
      refine xV_aload_n 22 rfl dX10_against_21 rfl 0 rfl ?_
      refine xV_get (v := .ref 6) 25 rfl dX10_against_22 f10_33 rfl rfl ?_
      refine xV_iconst 26 rfl dX10_against_25 xk_i1 ?_
      refine xV_iload_n 27 rfl dX10_against_26 rfl 1 rfl ?_
      refine xV_isub 28 rfl dX10_against_27 ?_
      obtain ⟨hg28, hf⟩ := xg_s hf
      refine xV_iaload 29 rfl dX10_against_28 rfl (xin_ok hg28) rfl ?_
      refine xV_if_ne (tgt := 36) 32 rfl dX10_against_29 (by decide) (fun h29 => ?_) (fun h29 => ?_)
      · have hf := xif_f hf h29
        refine xV_iconst 37 rfl dX10_against_36 xk_i0 ?_
        refine xV_istore_n (L' := [(3, .int (0 : Int32)), (0, .ref 0), (1, .int x1), (2, .int x2)]) 38 rfl dX10_against_37 rfl (xlt rfl) rfl ?_
        refine xV_iconst 39 rfl dX10_against_38 xk_i1 ?_
        refine xV_istore (L' := [(4, .int (1 : Int32)), (3, .int (0 : Int32)), (0, .ref 0), (1, .int x1), (2, .int x2)]) 41 rfl dX10_against_39 (xlt rfl) rfl ?_
        refine xV_sub [2, 3, 4, 1, 0] rfl ?_
        exact T10_against_b41 hX _ hf
      · have hf := xif_t hf h29
        refine xV_sipush 35 rfl dX10_against_32 xk_sm10000 ?_
        obtain rfl := Option.some.inj hf
        exact xV_iret hX dX10_against_35 rfl (Nat.zero_le _) (Nat.zero_le _)
theorem C10_against (l : Launch) {z : Nat} {x1 : Int32} {x2 : Int32} {c_thrown : Int32} {c_many : (Nat → Int32)} {c_gains : (Nat → Int32)} {c_notes : (Nat → Int32)} {c_seen : (Nat → Int32)} {c_told : (Nat → Int32)} {c_read : (Nat → Int32)} {c_eights : (Nat → Int32)} {c_turns : (Nat → Int32)} {c_drawn : (Nat → Int32)} {c_state : Int32} {c_tape : (Nat → Int32)} {c_taped : Int32} {c_size : Int32} {c_from : Int32} {c_next : Int32} {c_token : Int32} {c_value : Int32} {c_fault : Int32} {c_number : Int32} {c_fives : (Nat → Int32)} {c_isLeft : (Nat → Int32)} {c_wentTimes : Int32} {c_goes : (Nat → Int32)} {c_isLeftLaid : Int32} {c_game : (Nat → Int32)} {c_rows : Int32} {c_columns : Int32} {c_isFound : Int32} {c_bestValue : Int64} {c_bestBelow : Int64} {c_bestShare : (Nat → Int64)} {c_share : (Nat → Int64)} {c_matrix : (Nat → Int64)} {c_system : (Nat → Int64)} {c_shares : (Nat → Int32)} {c_allShares : Int32} {v : Int32 × Int32} (hf : F10_against z x1 x2 c_thrown c_many c_gains c_notes c_seen = some v) : xCt l yX10_against ((some .int)) j10_against [.ref 0, .int x1, .int x2] (hM c_thrown c_told c_read c_many c_eights c_gains c_notes c_seen c_turns c_drawn c_state c_tape c_taped c_size c_from c_next c_token c_value c_fault c_number c_fives c_isLeft c_wentTimes c_goes c_isLeftLaid c_game c_rows c_columns c_isFound c_bestValue c_bestBelow c_bestShare c_share c_matrix c_system c_shares c_allShares) (some (.int v.1)) (hM v.2 c_told c_read c_many c_eights c_gains c_notes c_seen c_turns c_drawn c_state c_tape c_taped c_size c_from c_next c_token c_value c_fault c_number c_fives c_isLeft c_wentTimes c_goes c_isLeftLaid c_game c_rows c_columns c_isFound c_bestValue c_bestBelow c_bestShare c_share c_matrix c_system c_shares c_allShares) := xCt_of (by decide) rfl (Nat.le_of_ble_eq_true rfl) (fun _ hX => T10_against hX hf)
theorem m10_against : xMd yX10_against RX10 ((some .int)) j10_against 2 := ⟨List.mem_of_getElem? (i := 1270) (by decide +kernel), List.mem_of_getElem? (i := 5) (by decide +kernel), rfl, by decide +kernel⟩
theorem v10_against : xMv yX10_against RX10 := ⟨List.mem_of_getElem? (i := 1268) (by decide +kernel), List.mem_of_getElem? (i := 1269) (by decide +kernel)⟩
theorem k10_380 : Cond.methodLink RX10 380 Lib.Math.abs.name ∈ wsL_law0 := List.mem_of_getElem? (i := 1291) (by decide +kernel)
theorem k10_385 : Cond.methodLink RX10 385 Lib.Math.max.name ∈ wsL_law0 := List.mem_of_getElem? (i := 1292) (by decide +kernel)
theorem dX10_apart_0 : decode cX10_apart 0 = .ok (.aload_n 0, 1) := by decide +kernel
theorem dX10_apart_1 : decode cX10_apart 1 = .ok (.iconst 0, 1) := by decide +kernel
theorem dX10_apart_2 : decode cX10_apart 2 = .ok (.putfield 1, 3) := by decide +kernel
theorem dX10_apart_5 : decode cX10_apart 5 = .ok (.aload_n 0, 1) := by decide +kernel
theorem dX10_apart_6 : decode cX10_apart 6 = .ok (.iload_n 1, 1) := by decide +kernel
theorem dX10_apart_7 : decode cX10_apart 7 = .ok (.invokevirtual 349, 3) := by decide +kernel
theorem dX10_apart_10 : decode cX10_apart 10 = .ok (.ifCond .eq 21, 3) := by decide +kernel
theorem dX10_apart_13 : decode cX10_apart 13 = .ok (.aload_n 0, 1) := by decide +kernel
theorem dX10_apart_14 : decode cX10_apart 14 = .ok (.getfield 33, 3) := by decide +kernel
theorem dX10_apart_17 : decode cX10_apart 17 = .ok (.iload_n 1, 1) := by decide +kernel
theorem dX10_apart_18 : decode cX10_apart 18 = .ok (.iaload, 1) := by decide +kernel
theorem dX10_apart_19 : decode cX10_apart 19 = .ok (.ifCond .eq 12, 3) := by decide +kernel
theorem dX10_apart_22 : decode cX10_apart 22 = .ok (.iload_n 2, 1) := by decide +kernel
theorem dX10_apart_23 : decode cX10_apart 23 = .ok (.iconst 0, 1) := by decide +kernel
theorem dX10_apart_24 : decode cX10_apart 24 = .ok (.iconst 1, 1) := by decide +kernel
theorem dX10_apart_25 : decode cX10_apart 25 = .ok (.invokestatic 7, 3) := by decide +kernel
theorem dX10_apart_28 : decode cX10_apart 28 = .ok (.ifCond .ne 5, 3) := by decide +kernel
theorem dX10_apart_31 : decode cX10_apart 31 = .ok (.iconst (-1), 1) := by decide +kernel
theorem dX10_apart_32 : decode cX10_apart 32 = .ok (.ireturn, 1) := by decide +kernel
theorem dX10_apart_33 : decode cX10_apart 33 = .ok (.iconst 0, 1) := by decide +kernel
theorem dX10_apart_34 : decode cX10_apart 34 = .ok (.istore_n 3, 1) := by decide +kernel
theorem dX10_apart_35 : decode cX10_apart 35 = .ok (.iconst 0, 1) := by decide +kernel
theorem dX10_apart_36 : decode cX10_apart 36 = .ok (.istore 4, 2) := by decide +kernel
theorem dX10_apart_38 : decode cX10_apart 38 = .ok (.iload 4, 2) := by decide +kernel
theorem dX10_apart_40 : decode cX10_apart 40 = .ok (.aload_n 0, 1) := by decide +kernel
theorem dX10_apart_41 : decode cX10_apart 41 = .ok (.getfield 24, 3) := by decide +kernel
theorem dX10_apart_44 : decode cX10_apart 44 = .ok (.iload_n 1, 1) := by decide +kernel
theorem dX10_apart_45 : decode cX10_apart 45 = .ok (.iaload, 1) := by decide +kernel
theorem dX10_apart_46 : decode cX10_apart 46 = .ok (.if_icmp .ge 74, 3) := by decide +kernel
theorem dX10_apart_49 : decode cX10_apart 49 = .ok (.aload_n 0, 1) := by decide +kernel
theorem dX10_apart_50 : decode cX10_apart 50 = .ok (.iload_n 1, 1) := by decide +kernel
theorem dX10_apart_51 : decode cX10_apart 51 = .ok (.iload 4, 2) := by decide +kernel
theorem dX10_apart_53 : decode cX10_apart 53 = .ok (.invokevirtual 337, 3) := by decide +kernel
theorem dX10_apart_56 : decode cX10_apart 56 = .ok (.istore 5, 2) := by decide +kernel
theorem dX10_apart_58 : decode cX10_apart 58 = .ok (.aload_n 0, 1) := by decide +kernel
theorem dX10_apart_59 : decode cX10_apart 59 = .ok (.getfield 36, 3) := by decide +kernel
theorem dX10_apart_62 : decode cX10_apart 62 = .ok (.sipush 128, 3) := by decide +kernel
theorem dX10_apart_65 : decode cX10_apart 65 = .ok (.iload_n 1, 1) := by decide +kernel
theorem dX10_apart_66 : decode cX10_apart 66 = .ok (.imul, 1) := by decide +kernel
theorem dX10_apart_67 : decode cX10_apart 67 = .ok (.iload 4, 2) := by decide +kernel
theorem dX10_apart_69 : decode cX10_apart 69 = .ok (.iadd, 1) := by decide +kernel
theorem dX10_apart_70 : decode cX10_apart 70 = .ok (.iaload, 1) := by decide +kernel
theorem dX10_apart_71 : decode cX10_apart 71 = .ok (.aload_n 0, 1) := by decide +kernel
theorem dX10_apart_72 : decode cX10_apart 72 = .ok (.iload_n 1, 1) := by decide +kernel
theorem dX10_apart_73 : decode cX10_apart 73 = .ok (.invokevirtual 340, 3) := by decide +kernel
theorem dX10_apart_76 : decode cX10_apart 76 = .ok (.imul, 1) := by decide +kernel
theorem dX10_apart_77 : decode cX10_apart 77 = .ok (.iload 5, 2) := by decide +kernel
theorem dX10_apart_79 : decode cX10_apart 79 = .ok (.iconst (-1), 1) := by decide +kernel
theorem dX10_apart_80 : decode cX10_apart 80 = .ok (.if_icmp .ne 7, 3) := by decide +kernel
theorem dX10_apart_83 : decode cX10_apart 83 = .ok (.iconst 0, 1) := by decide +kernel
theorem dX10_apart_84 : decode cX10_apart 84 = .ok (.goto 10, 3) := by decide +kernel
theorem dX10_apart_87 : decode cX10_apart 87 = .ok (.aload_n 0, 1) := by decide +kernel
theorem dX10_apart_88 : decode cX10_apart 88 = .ok (.iload_n 1, 1) := by decide +kernel
theorem dX10_apart_89 : decode cX10_apart 89 = .ok (.iload 5, 2) := by decide +kernel
theorem dX10_apart_91 : decode cX10_apart 91 = .ok (.invokevirtual 331, 3) := by decide +kernel
theorem dX10_apart_94 : decode cX10_apart 94 = .ok (.aload_n 0, 1) := by decide +kernel
theorem dX10_apart_95 : decode cX10_apart 95 = .ok (.getfield 33, 3) := by decide +kernel
theorem dX10_apart_98 : decode cX10_apart 98 = .ok (.iload_n 1, 1) := by decide +kernel
theorem dX10_apart_99 : decode cX10_apart 99 = .ok (.iaload, 1) := by decide +kernel
theorem dX10_apart_100 : decode cX10_apart 100 = .ok (.imul, 1) := by decide +kernel
theorem dX10_apart_101 : decode cX10_apart 101 = .ok (.isub, 1) := by decide +kernel
theorem dX10_apart_102 : decode cX10_apart 102 = .ok (.istore 6, 2) := by decide +kernel
theorem dX10_apart_104 : decode cX10_apart 104 = .ok (.iload_n 3, 1) := by decide +kernel
theorem dX10_apart_105 : decode cX10_apart 105 = .ok (.iload 6, 2) := by decide +kernel
theorem dX10_apart_107 : decode cX10_apart 107 = .ok (.invokestatic 380, 3) := by decide +kernel
theorem dX10_apart_110 : decode cX10_apart 110 = .ok (.invokestatic 385, 3) := by decide +kernel
theorem dX10_apart_113 : decode cX10_apart 113 = .ok (.istore_n 3, 1) := by decide +kernel
theorem dX10_apart_114 : decode cX10_apart 114 = .ok (.iinc 4 1, 3) := by decide +kernel
theorem dX10_apart_117 : decode cX10_apart 117 = .ok (.goto (-79), 3) := by decide +kernel
theorem dX10_apart_120 : decode cX10_apart 120 = .ok (.iload_n 3, 1) := by decide +kernel
theorem dX10_apart_121 : decode cX10_apart 121 = .ok (.i2l, 1) := by decide +kernel
theorem dX10_apart_122 : decode cX10_apart 122 = .ok (.aload_n 0, 1) := by decide +kernel
theorem dX10_apart_123 : decode cX10_apart 123 = .ok (.getfield 33, 3) := by decide +kernel
theorem dX10_apart_126 : decode cX10_apart 126 = .ok (.iload_n 1, 1) := by decide +kernel
theorem dX10_apart_127 : decode cX10_apart 127 = .ok (.iaload, 1) := by decide +kernel
theorem dX10_apart_128 : decode cX10_apart 128 = .ok (.aload_n 0, 1) := by decide +kernel
theorem dX10_apart_129 : decode cX10_apart 129 = .ok (.iload_n 1, 1) := by decide +kernel
theorem dX10_apart_130 : decode cX10_apart 130 = .ok (.invokevirtual 340, 3) := by decide +kernel
theorem dX10_apart_133 : decode cX10_apart 133 = .ok (.imul, 1) := by decide +kernel
theorem dX10_apart_134 : decode cX10_apart 134 = .ok (.i2l, 1) := by decide +kernel
theorem dX10_apart_135 : decode cX10_apart 135 = .ok (.iload_n 2, 1) := by decide +kernel
theorem dX10_apart_136 : decode cX10_apart 136 = .ok (.invokestatic 324, 3) := by decide +kernel
theorem dX10_apart_139 : decode cX10_apart 139 = .ok (.ireturn, 1) := by decide +kernel
abbrev j10_apart : xJ := (cX10_apart, 7, RX10, 5, 0, 0)
def F10_apart_b120 (z : Nat) (x1 : Int32) (x2 : Int32) (x3 : Int32) (c_thrown : Int32) (c_told : (Nat → Int32)) (c_many : (Nat → Int32)) (c_eights : (Nat → Int32)) (c_notes : (Nat → Int32)) (c_seen : (Nat → Int32)) : Option (Int32 × Int32) :=
  xg (xin x1 2) ((F10_weights z x1 c_told).bind (fun v130 => (F10_term z (x3).toInt64 (((c_notes (xn x1)) * v130)).toInt64 x2).bind (fun v136 => some (v136, c_thrown))))
theorem T10_apart_b120 {X : xX} {c_read : (Nat → Int32)} {c_gains : (Nat → Int32)} {c_turns : (Nat → Int32)} {c_drawn : (Nat → Int32)} {c_state : Int32} {c_tape : (Nat → Int32)} {c_taped : Int32} {c_size : Int32} {c_from : Int32} {c_next : Int32} {c_token : Int32} {c_value : Int32} {c_fault : Int32} {c_number : Int32} {c_fives : (Nat → Int32)} {c_isLeft : (Nat → Int32)} {c_wentTimes : Int32} {c_goes : (Nat → Int32)} {c_isLeftLaid : Int32} {c_game : (Nat → Int32)} {c_rows : Int32} {c_columns : Int32} {c_isFound : Int32} {c_bestValue : Int64} {c_bestBelow : Int64} {c_bestShare : (Nat → Int64)} {c_share : (Nat → Int64)} {c_matrix : (Nat → Int64)} {c_system : (Nat → Int64)} {c_shares : (Nat → Int32)} {c_allShares : Int32} {x1 : Int32} {x2 : Int32} {x3 : Int32} {c_thrown : Int32} {c_told : (Nat → Int32)} {c_many : (Nat → Int32)} {c_eights : (Nat → Int32)} {c_notes : (Nat → Int32)} {c_seen : (Nat → Int32)} {z : Nat} {v : Int32 × Int32} (hX : xIs (j10_apart) X ((some .int)) (some (.int v.1)) (hM v.2 c_told c_read c_many c_eights c_gains c_notes c_seen c_turns c_drawn c_state c_tape c_taped c_size c_from c_next c_token c_value c_fault c_number c_fives c_isLeft c_wentTimes c_goes c_isLeftLaid c_game c_rows c_columns c_isFound c_bestValue c_bestBelow c_bestShare c_share c_matrix c_system c_shares c_allShares)) (hf : F10_apart_b120 z x1 x2 x3 c_thrown c_told c_many c_eights c_notes c_seen = some v) : xV (j10_apart) X 0 0 (hM c_thrown c_told c_read c_many c_eights c_gains c_notes c_seen c_turns c_drawn c_state c_tape c_taped c_size c_from c_next c_token c_value c_fault c_number c_fives c_isLeft c_wentTimes c_goes c_isLeftLaid c_game c_rows c_columns c_isFound c_bestValue c_bestBelow c_bestShare c_share c_matrix c_system c_shares c_allShares) 120 [(0, .ref 0), (1, .int x1), (2, .int x2), (3, .int x3)] [] := by
  unfold F10_apart_b120 at hf
  refine xV_iload_n 121 rfl dX10_apart_120 rfl 3 rfl ?_
  refine xV_i2l 122 rfl dX10_apart_121 ?_
  refine xV_aload_n 123 rfl dX10_apart_122 rfl 0 rfl ?_
  refine xV_get (v := .ref 6) 126 rfl dX10_apart_123 f10_33 rfl rfl ?_
  refine xV_iload_n 127 rfl dX10_apart_126 rfl 1 rfl ?_
  obtain ⟨hg127, hf⟩ := xg_s hf
  refine xV_iaload 128 rfl dX10_apart_127 rfl (xin_ok hg127) rfl ?_
  refine xV_aload_n 129 rfl dX10_apart_128 rfl 0 rfl ?_
  refine xV_iload_n 130 rfl dX10_apart_129 rfl 1 rfl ?_
  obtain ⟨v130, hv130, hf⟩ := xb_s hf
  refine xV_same (rest := [.int (c_notes (xn x1)), .long (x3).toInt64]) 133 rfl dX10_apart_130 rfl (C10_weights X.1.2.1 hv130) m10_weights v10_weights k10_340 rfl rfl rfl rfl rfl (Nat.le_of_ble_eq_true rfl) (Nat.le_of_ble_eq_true rfl) (Nat.le_of_ble_eq_true rfl) ⟨Nat.le_refl _, Nat.le_refl _⟩ ?_
  show xV (j10_apart) X 0 0 (hM c_thrown c_told c_read c_many c_eights c_gains c_notes c_seen c_turns c_drawn c_state c_tape c_taped c_size c_from c_next c_token c_value c_fault c_number c_fives c_isLeft c_wentTimes c_goes c_isLeftLaid c_game c_rows c_columns c_isFound c_bestValue c_bestBelow c_bestShare c_share c_matrix c_system c_shares c_allShares) 133 [(0, .ref 0), (1, .int x1), (2, .int x2), (3, .int x3)] [.int v130, .int (c_notes (xn x1)), .long (x3).toInt64]
  refine xV_imul 134 rfl dX10_apart_133 ?_
  refine xV_i2l 135 rfl dX10_apart_134 ?_
  refine xV_iload_n 136 rfl dX10_apart_135 rfl 2 rfl ?_
  obtain ⟨v136, hv136, hf⟩ := xb_s hf
  refine xV_st0 (rest := []) 139 rfl dX10_apart_136 rfl (C10_term X.1.2.1 hv136) m10_term s10_term k10_324 rfl (Nat.le_of_ble_eq_true rfl) (Nat.le_of_ble_eq_true rfl) (Nat.le_of_ble_eq_true rfl) ⟨Nat.le_refl _, Nat.le_refl _⟩ ?_
  show xV (j10_apart) X 0 0 (hM c_thrown c_told c_read c_many c_eights c_gains c_notes c_seen c_turns c_drawn c_state c_tape c_taped c_size c_from c_next c_token c_value c_fault c_number c_fives c_isLeft c_wentTimes c_goes c_isLeftLaid c_game c_rows c_columns c_isFound c_bestValue c_bestBelow c_bestShare c_share c_matrix c_system c_shares c_allShares) 139 [(0, .ref 0), (1, .int x1), (2, .int x2), (3, .int x3)] [.int v136]
  obtain rfl := Option.some.inj hf
  exact xV_iret hX dX10_apart_139 rfl (Nat.zero_le _) (Nat.zero_le _)
def F10_apart_b94 (z : Nat) (x1 : Int32) (x2 : Int32) (x3 : Int32) (x4 : Int32) (s0 : Int32) (s1 : Int32) (c_thrown : Int32) (c_told : (Nat → Int32)) (c_many : (Nat → Int32)) (c_eights : (Nat → Int32)) (c_notes : (Nat → Int32)) (c_seen : (Nat → Int32)) (k38 : Int32 → Int32 → Int32 → Int32 → Int32 → (Nat → Int32) → (Nat → Int32) → (Nat → Int32) → (Nat → Int32) → (Nat → Int32) → Option (Int32 × Int32)) : Option (Int32 × Int32) :=
  xg (xin x1 2) (k38 x1 x2 (if x3 < (if 0 ≤ (s0 - (s1 * (c_notes (xn x1)))) then (s0 - (s1 * (c_notes (xn x1)))) else 0 - (s0 - (s1 * (c_notes (xn x1))))) then (if 0 ≤ (s0 - (s1 * (c_notes (xn x1)))) then (s0 - (s1 * (c_notes (xn x1)))) else 0 - (s0 - (s1 * (c_notes (xn x1))))) else x3) (x4 + (1 : Int32)) c_thrown c_told c_many c_eights c_notes c_seen)
theorem T10_apart_b94 {X : xX} {c_read : (Nat → Int32)} {c_gains : (Nat → Int32)} {c_turns : (Nat → Int32)} {c_drawn : (Nat → Int32)} {c_state : Int32} {c_tape : (Nat → Int32)} {c_taped : Int32} {c_size : Int32} {c_from : Int32} {c_next : Int32} {c_token : Int32} {c_value : Int32} {c_fault : Int32} {c_number : Int32} {c_fives : (Nat → Int32)} {c_isLeft : (Nat → Int32)} {c_wentTimes : Int32} {c_goes : (Nat → Int32)} {c_isLeftLaid : Int32} {c_game : (Nat → Int32)} {c_rows : Int32} {c_columns : Int32} {c_isFound : Int32} {c_bestValue : Int64} {c_bestBelow : Int64} {c_bestShare : (Nat → Int64)} {c_share : (Nat → Int64)} {c_matrix : (Nat → Int64)} {c_system : (Nat → Int64)} {c_shares : (Nat → Int32)} {c_allShares : Int32} {x1 : Int32} {x2 : Int32} {x3 : Int32} {x4 : Int32} {s0 : Int32} {s1 : Int32} {c_thrown : Int32} {c_told : (Nat → Int32)} {c_many : (Nat → Int32)} {c_eights : (Nat → Int32)} {c_notes : (Nat → Int32)} {c_seen : (Nat → Int32)} {z : Nat} {v : Int32 × Int32} {k38 : Int32 → Int32 → Int32 → Int32 → Int32 → (Nat → Int32) → (Nat → Int32) → (Nat → Int32) → (Nat → Int32) → (Nat → Int32) → Option (Int32 × Int32)} (hX : xIs (j10_apart) X ((some .int)) (some (.int v.1)) (hM v.2 c_told c_read c_many c_eights c_gains c_notes c_seen c_turns c_drawn c_state c_tape c_taped c_size c_from c_next c_token c_value c_fault c_number c_fives c_isLeft c_wentTimes c_goes c_isLeftLaid c_game c_rows c_columns c_isFound c_bestValue c_bestBelow c_bestShare c_share c_matrix c_system c_shares c_allShares)) (hk38 : ∀ {x1 : Int32} {x2 : Int32} {x3 : Int32} {x4 : Int32} {c_thrown : Int32}, k38 x1 x2 x3 x4 c_thrown c_told c_many c_eights c_notes c_seen = some v → xV (j10_apart) X 0 0 (hM c_thrown c_told c_read c_many c_eights c_gains c_notes c_seen c_turns c_drawn c_state c_tape c_taped c_size c_from c_next c_token c_value c_fault c_number c_fives c_isLeft c_wentTimes c_goes c_isLeftLaid c_game c_rows c_columns c_isFound c_bestValue c_bestBelow c_bestShare c_share c_matrix c_system c_shares c_allShares) 38 [(0, .ref 0), (1, .int x1), (2, .int x2), (3, .int x3), (4, .int x4)] []) (hf : F10_apart_b94 z x1 x2 x3 x4 s0 s1 c_thrown c_told c_many c_eights c_notes c_seen k38 = some v) : xV (j10_apart) X 0 0 (hM c_thrown c_told c_read c_many c_eights c_gains c_notes c_seen c_turns c_drawn c_state c_tape c_taped c_size c_from c_next c_token c_value c_fault c_number c_fives c_isLeft c_wentTimes c_goes c_isLeftLaid c_game c_rows c_columns c_isFound c_bestValue c_bestBelow c_bestShare c_share c_matrix c_system c_shares c_allShares) 94 [(0, .ref 0), (1, .int x1), (2, .int x2), (3, .int x3), (4, .int x4)] [.int s1, .int s0] := by
  unfold F10_apart_b94 at hf
  refine xV_aload_n 95 rfl dX10_apart_94 rfl 0 rfl ?_
  refine xV_get (v := .ref 6) 98 rfl dX10_apart_95 f10_33 rfl rfl ?_
  refine xV_iload_n 99 rfl dX10_apart_98 rfl 1 rfl ?_
  obtain ⟨hg99, hf⟩ := xg_s hf
  refine xV_iaload 100 rfl dX10_apart_99 rfl (xin_ok hg99) rfl ?_
  refine xV_imul 101 rfl dX10_apart_100 ?_
  refine xV_isub 102 rfl dX10_apart_101 ?_
  refine xV_istore (L' := [(6, .int (s0 - (s1 * (c_notes (xn x1))))), (0, .ref 0), (1, .int x1), (2, .int x2), (3, .int x3), (4, .int x4)]) 104 rfl dX10_apart_102 (xlt rfl) rfl ?_
  refine xV_iload_n 105 rfl dX10_apart_104 rfl 4 rfl ?_
  refine xV_iload 107 rfl dX10_apart_105 0 rfl ?_
  refine xV_mabs 110 rfl dX10_apart_107 k10_380 (Nat.le_of_ble_eq_true rfl) (Nat.le_of_ble_eq_true rfl) (Nat.zero_le _) (Nat.zero_le _) ?_
  refine xV_mmax 113 rfl dX10_apart_110 k10_385 (Nat.le_of_ble_eq_true rfl) (Nat.le_of_ble_eq_true rfl) (Nat.zero_le _) (Nat.zero_le _) ?_
  refine xV_istore_n (L' := [(3, .int (if x3 < (if 0 ≤ (s0 - (s1 * (c_notes (xn x1)))) then (s0 - (s1 * (c_notes (xn x1)))) else 0 - (s0 - (s1 * (c_notes (xn x1))))) then (if 0 ≤ (s0 - (s1 * (c_notes (xn x1)))) then (s0 - (s1 * (c_notes (xn x1)))) else 0 - (s0 - (s1 * (c_notes (xn x1))))) else x3)), (6, .int (s0 - (s1 * (c_notes (xn x1))))), (0, .ref 0), (1, .int x1), (2, .int x2), (4, .int x4)]) 114 rfl dX10_apart_113 rfl (xlt rfl) rfl ?_
  refine xV_iinc (L' := [(4, .int (x4 + (1 : Int32))), (3, .int (if x3 < (if 0 ≤ (s0 - (s1 * (c_notes (xn x1)))) then (s0 - (s1 * (c_notes (xn x1)))) else 0 - (s0 - (s1 * (c_notes (xn x1))))) then (if 0 ≤ (s0 - (s1 * (c_notes (xn x1)))) then (s0 - (s1 * (c_notes (xn x1)))) else 0 - (s0 - (s1 * (c_notes (xn x1))))) else x3)), (6, .int (s0 - (s1 * (c_notes (xn x1))))), (0, .ref 0), (1, .int x1), (2, .int x2)]) 117 rfl dX10_apart_114 5 rfl (xk_inc xk_i1) (xlt rfl) rfl ?_
  refine xV_goto (tgt := 38) dX10_apart_117 (by decide) ?_
  refine xV_sub [3, 4, 5, 1, 0] rfl ?_
  exact hk38 hf
def F10_apart_b38 (z : Nat) (w : Nat) (x1 : Int32) (x2 : Int32) (x3 : Int32) (x4 : Int32) (c_thrown : Int32) (c_told : (Nat → Int32)) (c_many : (Nat → Int32)) (c_eights : (Nat → Int32)) (c_notes : (Nat → Int32)) (c_seen : (Nat → Int32)) : Option (Int32 × Int32) := match w with
  | 0 => none
  | w + 1 => xg (xin x1 2) (if (c_many (xn x1)) ≤ x4 then (F10_apart_b120 z x1 x2 x3 c_thrown c_told c_many c_eights c_notes c_seen) else ((F10_entryOf z x1 x4 c_told c_many c_eights).bind (fun v53 => xg (xin (((128 : Int32) * x1) + x4) 256) ((F10_weights z x1 c_told).bind (fun v73 => if v53 = (-1 : Int32) then (F10_apart_b94 z x1 x2 x3 x4 ((c_seen (xn (((128 : Int32) * x1) + x4))) * v73) (0 : Int32) c_thrown c_told c_many c_eights c_notes c_seen (fun q0 q1 q2 q3 q4 q5 q6 q7 q8 q9 => F10_apart_b38 z w q0 q1 q2 q3 q4 q5 q6 q7 q8 q9)) else ((F10_weightAt x1 v53 c_told).bind (fun v91 => F10_apart_b94 z x1 x2 x3 x4 ((c_seen (xn (((128 : Int32) * x1) + x4))) * v73) v91 c_thrown c_told c_many c_eights c_notes c_seen (fun q0 q1 q2 q3 q4 q5 q6 q7 q8 q9 => F10_apart_b38 z w q0 q1 q2 q3 q4 q5 q6 q7 q8 q9))))))))
theorem T10_apart_b38 {X : xX} {c_told : (Nat → Int32)} {c_read : (Nat → Int32)} {c_many : (Nat → Int32)} {c_eights : (Nat → Int32)} {c_gains : (Nat → Int32)} {c_notes : (Nat → Int32)} {c_seen : (Nat → Int32)} {c_turns : (Nat → Int32)} {c_drawn : (Nat → Int32)} {c_state : Int32} {c_tape : (Nat → Int32)} {c_taped : Int32} {c_size : Int32} {c_from : Int32} {c_next : Int32} {c_token : Int32} {c_value : Int32} {c_fault : Int32} {c_number : Int32} {c_fives : (Nat → Int32)} {c_isLeft : (Nat → Int32)} {c_wentTimes : Int32} {c_goes : (Nat → Int32)} {c_isLeftLaid : Int32} {c_game : (Nat → Int32)} {c_rows : Int32} {c_columns : Int32} {c_isFound : Int32} {c_bestValue : Int64} {c_bestBelow : Int64} {c_bestShare : (Nat → Int64)} {c_share : (Nat → Int64)} {c_matrix : (Nat → Int64)} {c_system : (Nat → Int64)} {c_shares : (Nat → Int32)} {c_allShares : Int32} {z : Nat} {v : Int32 × Int32} (hX : xIs (j10_apart) X ((some .int)) (some (.int v.1)) (hM v.2 c_told c_read c_many c_eights c_gains c_notes c_seen c_turns c_drawn c_state c_tape c_taped c_size c_from c_next c_token c_value c_fault c_number c_fives c_isLeft c_wentTimes c_goes c_isLeftLaid c_game c_rows c_columns c_isFound c_bestValue c_bestBelow c_bestShare c_share c_matrix c_system c_shares c_allShares)) : ∀ (w : Nat) {x1 : Int32} {x2 : Int32} {x3 : Int32} {x4 : Int32} {c_thrown : Int32}, F10_apart_b38 z w x1 x2 x3 x4 c_thrown c_told c_many c_eights c_notes c_seen = some v → xV (j10_apart) X 0 0 (hM c_thrown c_told c_read c_many c_eights c_gains c_notes c_seen c_turns c_drawn c_state c_tape c_taped c_size c_from c_next c_token c_value c_fault c_number c_fives c_isLeft c_wentTimes c_goes c_isLeftLaid c_game c_rows c_columns c_isFound c_bestValue c_bestBelow c_bestShare c_share c_matrix c_system c_shares c_allShares) 38 [(0, .ref 0), (1, .int x1), (2, .int x2), (3, .int x3), (4, .int x4)] [] := by
  intro w
  induction w with
  | zero => intro x1 x2 x3 x4 c_thrown hf; cases hf
  | succ w ih =>
    intro x1 x2 x3 x4 c_thrown hf
    unfold F10_apart_b38 at hf
    refine xV_iload 40 rfl dX10_apart_38 4 rfl ?_
    refine xV_aload_n 41 rfl dX10_apart_40 rfl 0 rfl ?_
    refine xV_get (v := .ref 3) 44 rfl dX10_apart_41 f10_24 rfl rfl ?_
    refine xV_iload_n 45 rfl dX10_apart_44 rfl 1 rfl ?_
    obtain ⟨hg45, hf⟩ := xg_s hf
    refine xV_iaload 46 rfl dX10_apart_45 rfl (xin_ok hg45) rfl ?_
    refine xV_icmp_ge (tgt := 120) 49 rfl dX10_apart_46 (by decide) (fun h46 => ?_) (fun h46 => ?_)
    · have hf := xif_t hf h46
      refine xV_sub [0, 1, 2, 3] rfl ?_
      exact T10_apart_b120 hX hf
    · have hf := xif_f hf h46
      refine xV_aload_n 50 rfl dX10_apart_49 rfl 0 rfl ?_
      refine xV_iload_n 51 rfl dX10_apart_50 rfl 1 rfl ?_
      refine xV_iload 53 rfl dX10_apart_51 4 rfl ?_
      obtain ⟨v53, hv53, hf⟩ := xb_s hf
      refine xV_same (rest := []) 56 rfl dX10_apart_53 rfl (C10_entryOf X.1.2.1 hv53) m10_entryOf v10_entryOf k10_337 rfl rfl rfl rfl rfl (Nat.le_of_ble_eq_true rfl) (Nat.le_of_ble_eq_true rfl) (Nat.le_of_ble_eq_true rfl) ⟨Nat.le_refl _, Nat.le_refl _⟩ ?_
      show xV (j10_apart) X 0 0 (hM c_thrown c_told c_read c_many c_eights c_gains c_notes c_seen c_turns c_drawn c_state c_tape c_taped c_size c_from c_next c_token c_value c_fault c_number c_fives c_isLeft c_wentTimes c_goes c_isLeftLaid c_game c_rows c_columns c_isFound c_bestValue c_bestBelow c_bestShare c_share c_matrix c_system c_shares c_allShares) 56 [(0, .ref 0), (1, .int x1), (2, .int x2), (3, .int x3), (4, .int x4)] [.int v53]
      refine xV_istore (L' := [(5, .int v53), (0, .ref 0), (1, .int x1), (2, .int x2), (3, .int x3), (4, .int x4)]) 58 rfl dX10_apart_56 (xlt rfl) rfl ?_
      refine xV_aload_n 59 rfl dX10_apart_58 rfl 1 rfl ?_
      refine xV_get (v := .ref 7) 62 rfl dX10_apart_59 f10_36 rfl rfl ?_
      refine xV_sipush 65 rfl dX10_apart_62 xk_s128 ?_
      refine xV_iload_n 66 rfl dX10_apart_65 rfl 2 rfl ?_
      refine xV_imul 67 rfl dX10_apart_66 ?_
      refine xV_iload 69 rfl dX10_apart_67 5 rfl ?_
      refine xV_iadd 70 rfl dX10_apart_69 ?_
      obtain ⟨hg70, hf⟩ := xg_s hf
      refine xV_iaload 71 rfl dX10_apart_70 rfl (xin_ok hg70) rfl ?_
      refine xV_aload_n 72 rfl dX10_apart_71 rfl 1 rfl ?_
      refine xV_iload_n 73 rfl dX10_apart_72 rfl 2 rfl ?_
      obtain ⟨v73, hv73, hf⟩ := xb_s hf
      refine xV_same (rest := [.int (c_seen (xn (((128 : Int32) * x1) + x4)))]) 76 rfl dX10_apart_73 rfl (C10_weights X.1.2.1 hv73) m10_weights v10_weights k10_340 rfl rfl rfl rfl rfl (Nat.le_of_ble_eq_true rfl) (Nat.le_of_ble_eq_true rfl) (Nat.le_of_ble_eq_true rfl) ⟨Nat.le_refl _, Nat.le_refl _⟩ ?_
      show xV (j10_apart) X 0 0 (hM c_thrown c_told c_read c_many c_eights c_gains c_notes c_seen c_turns c_drawn c_state c_tape c_taped c_size c_from c_next c_token c_value c_fault c_number c_fives c_isLeft c_wentTimes c_goes c_isLeftLaid c_game c_rows c_columns c_isFound c_bestValue c_bestBelow c_bestShare c_share c_matrix c_system c_shares c_allShares) 76 [(5, .int v53), (0, .ref 0), (1, .int x1), (2, .int x2), (3, .int x3), (4, .int x4)] [.int v73, .int (c_seen (xn (((128 : Int32) * x1) + x4)))]
      refine xV_imul 77 rfl dX10_apart_76 ?_
      refine xV_iload 79 rfl dX10_apart_77 0 rfl ?_
      refine xV_iconst 80 rfl dX10_apart_79 xk_im1 ?_
      refine xV_icmp_ne (tgt := 87) 83 rfl dX10_apart_80 (by decide) (fun h80 => ?_) (fun h80 => ?_)
      · have hf := xif_f hf h80
        refine xV_aload_n 88 rfl dX10_apart_87 rfl 1 rfl ?_
        refine xV_iload_n 89 rfl dX10_apart_88 rfl 2 rfl ?_
        refine xV_iload 91 rfl dX10_apart_89 0 rfl ?_
        obtain ⟨v91, hv91, hf⟩ := xb_s hf
        refine xV_same (rest := [.int ((c_seen (xn (((128 : Int32) * x1) + x4))) * v73)]) 94 rfl dX10_apart_91 rfl (C10_weightAt X.1.2.1 hv91) m10_weightAt v10_weightAt k10_331 rfl rfl rfl rfl rfl (Nat.le_of_ble_eq_true rfl) (Nat.le_of_ble_eq_true rfl) (Nat.le_of_ble_eq_true rfl) ⟨Nat.le_refl _, Nat.le_refl _⟩ ?_
        show xV (j10_apart) X 0 0 (hM c_thrown c_told c_read c_many c_eights c_gains c_notes c_seen c_turns c_drawn c_state c_tape c_taped c_size c_from c_next c_token c_value c_fault c_number c_fives c_isLeft c_wentTimes c_goes c_isLeftLaid c_game c_rows c_columns c_isFound c_bestValue c_bestBelow c_bestShare c_share c_matrix c_system c_shares c_allShares) 94 [(5, .int v53), (0, .ref 0), (1, .int x1), (2, .int x2), (3, .int x3), (4, .int x4)] [.int v91, .int ((c_seen (xn (((128 : Int32) * x1) + x4))) * v73)]
        refine xV_sub [1, 2, 3, 4, 5] rfl ?_
        exact T10_apart_b94 hX (fun {_ _ _ _ _} hq => ih hq) hf
      · have hf := xif_t hf h80
        refine xV_iconst 84 rfl dX10_apart_83 xk_i0 ?_
        refine xV_goto (tgt := 94) dX10_apart_84 (by decide) ?_
        refine xV_sub [1, 2, 3, 4, 5] rfl ?_
        exact T10_apart_b94 hX (fun {_ _ _ _ _} hq => ih hq) hf
def F10_apart (z : Nat) (x1 : Int32) (x2 : Int32) (c_thrown : Int32) (c_told : (Nat → Int32)) (c_many : (Nat → Int32)) (c_eights : (Nat → Int32)) (c_notes : (Nat → Int32)) (c_seen : (Nat → Int32)) : Option (Int32 × Int32) :=
  (F10_hasPlan x1 c_told).bind (fun v7 => if v7 = 0 then (some ((-1 : Int32), (0 : Int32))) else (xg (xin x1 2) (if (c_notes (xn x1)) = 0 then (some ((-1 : Int32), (0 : Int32))) else ((F10_within x2 (0 : Int32) (1 : Int32)).bind (fun v25 => if v25 = 0 then (some ((-1 : Int32), (0 : Int32))) else (F10_apart_b38 z z x1 x2 (0 : Int32) (0 : Int32) (0 : Int32) c_told c_many c_eights c_notes c_seen))))))
theorem T10_apart {X : xX} {z : Nat} {x1 : Int32} {x2 : Int32} {c_thrown : Int32} {c_told : (Nat → Int32)} {c_many : (Nat → Int32)} {c_eights : (Nat → Int32)} {c_notes : (Nat → Int32)} {c_seen : (Nat → Int32)} {c_read : (Nat → Int32)} {c_gains : (Nat → Int32)} {c_turns : (Nat → Int32)} {c_drawn : (Nat → Int32)} {c_state : Int32} {c_tape : (Nat → Int32)} {c_taped : Int32} {c_size : Int32} {c_from : Int32} {c_next : Int32} {c_token : Int32} {c_value : Int32} {c_fault : Int32} {c_number : Int32} {c_fives : (Nat → Int32)} {c_isLeft : (Nat → Int32)} {c_wentTimes : Int32} {c_goes : (Nat → Int32)} {c_isLeftLaid : Int32} {c_game : (Nat → Int32)} {c_rows : Int32} {c_columns : Int32} {c_isFound : Int32} {c_bestValue : Int64} {c_bestBelow : Int64} {c_bestShare : (Nat → Int64)} {c_share : (Nat → Int64)} {c_matrix : (Nat → Int64)} {c_system : (Nat → Int64)} {c_shares : (Nat → Int32)} {c_allShares : Int32} {v : Int32 × Int32} (hX : xIs (j10_apart) X ((some .int)) (some (.int v.1)) (hM v.2 c_told c_read c_many c_eights c_gains c_notes c_seen c_turns c_drawn c_state c_tape c_taped c_size c_from c_next c_token c_value c_fault c_number c_fives c_isLeft c_wentTimes c_goes c_isLeftLaid c_game c_rows c_columns c_isFound c_bestValue c_bestBelow c_bestShare c_share c_matrix c_system c_shares c_allShares)) (hf : F10_apart z x1 x2 c_thrown c_told c_many c_eights c_notes c_seen = some v) : xV (j10_apart) X 0 0 (hM c_thrown c_told c_read c_many c_eights c_gains c_notes c_seen c_turns c_drawn c_state c_tape c_taped c_size c_from c_next c_token c_value c_fault c_number c_fives c_isLeft c_wentTimes c_goes c_isLeftLaid c_game c_rows c_columns c_isFound c_bestValue c_bestBelow c_bestShare c_share c_matrix c_system c_shares c_allShares) 0 [(0, .ref 0), (1, .int x1), (2, .int x2)] [] := by
  unfold F10_apart at hf
  refine xV_aload_n 1 rfl dX10_apart_0 rfl 0 rfl ?_
  refine xV_iconst 2 rfl dX10_apart_1 xk_i0 ?_
  refine xV_put (h' := (hM (0 : Int32) c_told c_read c_many c_eights c_gains c_notes c_seen c_turns c_drawn c_state c_tape c_taped c_size c_from c_next c_token c_value c_fault c_number c_fives c_isLeft c_wentTimes c_goes c_isLeftLaid c_game c_rows c_columns c_isFound c_bestValue c_bestBelow c_bestShare c_share c_matrix c_system c_shares c_allShares)) 5 rfl dX10_apart_2 f10_1 rfl nf10_0 (fun _ => rfl) (fun _ => rfl) (Nat.le_of_ble_eq_true rfl) rfl ?_
  refine xV_aload_n 6 rfl dX10_apart_5 rfl 0 rfl ?_
  refine xV_iload_n 7 rfl dX10_apart_6 rfl 1 rfl ?_
  obtain ⟨v7, hv7, hf⟩ := xb_s hf
  refine xV_same (rest := []) 10 rfl dX10_apart_7 rfl (C10_hasPlan X.1.2.1 hv7) m10_hasPlan v10_hasPlan k10_349 rfl rfl rfl rfl rfl (Nat.le_of_ble_eq_true rfl) (Nat.le_of_ble_eq_true rfl) (Nat.le_of_ble_eq_true rfl) ⟨Nat.le_refl _, Nat.le_refl _⟩ ?_
  show xV (j10_apart) X 0 0 (hM (0 : Int32) c_told c_read c_many c_eights c_gains c_notes c_seen c_turns c_drawn c_state c_tape c_taped c_size c_from c_next c_token c_value c_fault c_number c_fives c_isLeft c_wentTimes c_goes c_isLeftLaid c_game c_rows c_columns c_isFound c_bestValue c_bestBelow c_bestShare c_share c_matrix c_system c_shares c_allShares) 10 [(0, .ref 0), (1, .int x1), (2, .int x2)] [.int v7]
  refine xV_if_eq (tgt := 31) 13 rfl dX10_apart_10 (by decide) (fun h10 => ?_) (fun h10 => ?_)
  · have hf := xif_t hf h10
    refine xV_iconst 32 rfl dX10_apart_31 xk_im1 ?_
    obtain rfl := Option.some.inj hf
    exact xV_iret hX dX10_apart_32 rfl (Nat.zero_le _) (Nat.zero_le _)
  · have hf := xif_f hf h10
    refine xV_aload_n 14 rfl dX10_apart_13 rfl 0 rfl ?_
    refine xV_get (v := .ref 6) 17 rfl dX10_apart_14 f10_33 rfl rfl ?_
    refine xV_iload_n 18 rfl dX10_apart_17 rfl 1 rfl ?_
    obtain ⟨hg18, hf⟩ := xg_s hf
    refine xV_iaload 19 rfl dX10_apart_18 rfl (xin_ok hg18) rfl ?_
    refine xV_if_eq (tgt := 31) 22 rfl dX10_apart_19 (by decide) (fun h19 => ?_) (fun h19 => ?_)
    · have hf := xif_t hf h19
      refine xV_iconst 32 rfl dX10_apart_31 xk_im1 ?_
      obtain rfl := Option.some.inj hf
      exact xV_iret hX dX10_apart_32 rfl (Nat.zero_le _) (Nat.zero_le _)
    · have hf := xif_f hf h19
      refine xV_iload_n 23 rfl dX10_apart_22 rfl 2 rfl ?_
      refine xV_iconst 24 rfl dX10_apart_23 xk_i0 ?_
      refine xV_iconst 25 rfl dX10_apart_24 xk_i1 ?_
      obtain ⟨v25, hv25, hf⟩ := xb_s hf
      refine xV_st0 (rest := []) 28 rfl dX10_apart_25 rfl (C10_within X.1.2.1 hv25) m10_within s10_within k10_7 rfl (Nat.le_of_ble_eq_true rfl) (Nat.le_of_ble_eq_true rfl) (Nat.le_of_ble_eq_true rfl) ⟨Nat.le_refl _, Nat.le_refl _⟩ ?_
      show xV (j10_apart) X 0 0 (hM (0 : Int32) c_told c_read c_many c_eights c_gains c_notes c_seen c_turns c_drawn c_state c_tape c_taped c_size c_from c_next c_token c_value c_fault c_number c_fives c_isLeft c_wentTimes c_goes c_isLeftLaid c_game c_rows c_columns c_isFound c_bestValue c_bestBelow c_bestShare c_share c_matrix c_system c_shares c_allShares) 28 [(0, .ref 0), (1, .int x1), (2, .int x2)] [.int v25]
      refine xV_if_ne (tgt := 33) 31 rfl dX10_apart_28 (by decide) (fun h28 => ?_) (fun h28 => ?_)
      · have hf := xif_f hf h28
        refine xV_iconst 34 rfl dX10_apart_33 xk_i0 ?_
        refine xV_istore_n (L' := [(3, .int (0 : Int32)), (0, .ref 0), (1, .int x1), (2, .int x2)]) 35 rfl dX10_apart_34 rfl (xlt rfl) rfl ?_
        refine xV_iconst 36 rfl dX10_apart_35 xk_i0 ?_
        refine xV_istore (L' := [(4, .int (0 : Int32)), (3, .int (0 : Int32)), (0, .ref 0), (1, .int x1), (2, .int x2)]) 38 rfl dX10_apart_36 (xlt rfl) rfl ?_
        refine xV_sub [2, 3, 4, 1, 0] rfl ?_
        exact T10_apart_b38 hX _ hf
      · have hf := xif_t hf h28
        refine xV_iconst 32 rfl dX10_apart_31 xk_im1 ?_
        obtain rfl := Option.some.inj hf
        exact xV_iret hX dX10_apart_32 rfl (Nat.zero_le _) (Nat.zero_le _)
theorem C10_apart (l : Launch) {z : Nat} {x1 : Int32} {x2 : Int32} {c_thrown : Int32} {c_told : (Nat → Int32)} {c_many : (Nat → Int32)} {c_eights : (Nat → Int32)} {c_notes : (Nat → Int32)} {c_seen : (Nat → Int32)} {c_read : (Nat → Int32)} {c_gains : (Nat → Int32)} {c_turns : (Nat → Int32)} {c_drawn : (Nat → Int32)} {c_state : Int32} {c_tape : (Nat → Int32)} {c_taped : Int32} {c_size : Int32} {c_from : Int32} {c_next : Int32} {c_token : Int32} {c_value : Int32} {c_fault : Int32} {c_number : Int32} {c_fives : (Nat → Int32)} {c_isLeft : (Nat → Int32)} {c_wentTimes : Int32} {c_goes : (Nat → Int32)} {c_isLeftLaid : Int32} {c_game : (Nat → Int32)} {c_rows : Int32} {c_columns : Int32} {c_isFound : Int32} {c_bestValue : Int64} {c_bestBelow : Int64} {c_bestShare : (Nat → Int64)} {c_share : (Nat → Int64)} {c_matrix : (Nat → Int64)} {c_system : (Nat → Int64)} {c_shares : (Nat → Int32)} {c_allShares : Int32} {v : Int32 × Int32} (hf : F10_apart z x1 x2 c_thrown c_told c_many c_eights c_notes c_seen = some v) : xCt l yX10_apart ((some .int)) j10_apart [.ref 0, .int x1, .int x2] (hM c_thrown c_told c_read c_many c_eights c_gains c_notes c_seen c_turns c_drawn c_state c_tape c_taped c_size c_from c_next c_token c_value c_fault c_number c_fives c_isLeft c_wentTimes c_goes c_isLeftLaid c_game c_rows c_columns c_isFound c_bestValue c_bestBelow c_bestShare c_share c_matrix c_system c_shares c_allShares) (some (.int v.1)) (hM v.2 c_told c_read c_many c_eights c_gains c_notes c_seen c_turns c_drawn c_state c_tape c_taped c_size c_from c_next c_token c_value c_fault c_number c_fives c_isLeft c_wentTimes c_goes c_isLeftLaid c_game c_rows c_columns c_isFound c_bestValue c_bestBelow c_bestShare c_share c_matrix c_system c_shares c_allShares) := xCt_of (by decide) rfl (Nat.le_of_ble_eq_true rfl) (fun _ hX => T10_apart hX hf)
theorem m10_apart : xMd yX10_apart RX10 ((some .int)) j10_apart 2 := ⟨List.mem_of_getElem? (i := 1290) (by decide +kernel), List.mem_of_getElem? (i := 5) (by decide +kernel), rfl, by decide +kernel⟩
theorem v10_apart : xMv yX10_apart RX10 := ⟨List.mem_of_getElem? (i := 1288) (by decide +kernel), List.mem_of_getElem? (i := 1289) (by decide +kernel)⟩
theorem xk_b23 : (Int8.ofInt (23)).toInt32 = (23 : Int32) := by decide
theorem xk_b9 : (Int8.ofInt (9)).toInt32 = (9 : Int32) := by decide
theorem dX10_count_0 : decode cX10_count 0 = .ok (.aload_n 0, 1) := by decide +kernel
theorem dX10_count_1 : decode cX10_count 1 = .ok (.iconst 0, 1) := by decide +kernel
theorem dX10_count_2 : decode cX10_count 2 = .ok (.putfield 1, 3) := by decide +kernel
theorem dX10_count_5 : decode cX10_count 5 = .ok (.iload_n 1, 1) := by decide +kernel
theorem dX10_count_6 : decode cX10_count 6 = .ok (.bipush 20, 2) := by decide +kernel
theorem dX10_count_8 : decode cX10_count 8 = .ok (.bipush 23, 2) := by decide +kernel
theorem dX10_count_10 : decode cX10_count 10 = .ok (.invokestatic 7, 3) := by decide +kernel
theorem dX10_count_13 : decode cX10_count 13 = .ok (.ifCond .eq 29, 3) := by decide +kernel
theorem dX10_count_16 : decode cX10_count 16 = .ok (.iload_n 1, 1) := by decide +kernel
theorem dX10_count_17 : decode cX10_count 17 = .ok (.bipush 20, 2) := by decide +kernel
theorem dX10_count_19 : decode cX10_count 19 = .ok (.isub, 1) := by decide +kernel
theorem dX10_count_20 : decode cX10_count 20 = .ok (.aload_n 0, 1) := by decide +kernel
theorem dX10_count_21 : decode cX10_count 21 = .ok (.getfield 17, 3) := by decide +kernel
theorem dX10_count_24 : decode cX10_count 24 = .ok (.iconst 0, 1) := by decide +kernel
theorem dX10_count_25 : decode cX10_count 25 = .ok (.iaload, 1) := by decide +kernel
theorem dX10_count_26 : decode cX10_count 26 = .ok (.if_icmp .ge 14, 3) := by decide +kernel
theorem dX10_count_29 : decode cX10_count 29 = .ok (.aload_n 0, 1) := by decide +kernel
theorem dX10_count_30 : decode cX10_count 30 = .ok (.iload_n 1, 1) := by decide +kernel
theorem dX10_count_31 : decode cX10_count 31 = .ok (.bipush 20, 2) := by decide +kernel
theorem dX10_count_33 : decode cX10_count 33 = .ok (.isub, 1) := by decide +kernel
theorem dX10_count_34 : decode cX10_count 34 = .ok (.invokevirtual 94, 3) := by decide +kernel
theorem dX10_count_37 : decode cX10_count 37 = .ok (.goto 4, 3) := by decide +kernel
theorem dX10_count_40 : decode cX10_count 40 = .ok (.iconst 0, 1) := by decide +kernel
theorem dX10_count_41 : decode cX10_count 41 = .ok (.ireturn, 1) := by decide +kernel
theorem dX10_count_42 : decode cX10_count 42 = .ok (.iload_n 1, 1) := by decide +kernel
theorem dX10_count_43 : decode cX10_count 43 = .ok (.tableswitch 136 0 12 #[65, 72, 72, 83, 91, 99, 99, 107, 107, 116, 116, 126, 131], 65) := by decide +kernel
theorem dX10_count_108 : decode cX10_count 108 = .ok (.aload_n 0, 1) := by decide +kernel
theorem dX10_count_109 : decode cX10_count 109 = .ok (.getfield 17, 3) := by decide +kernel
theorem dX10_count_112 : decode cX10_count 112 = .ok (.iconst 0, 1) := by decide +kernel
theorem dX10_count_113 : decode cX10_count 113 = .ok (.iaload, 1) := by decide +kernel
theorem dX10_count_114 : decode cX10_count 114 = .ok (.ireturn, 1) := by decide +kernel
theorem dX10_count_115 : decode cX10_count 115 = .ok (.aload_n 0, 1) := by decide +kernel
theorem dX10_count_116 : decode cX10_count 116 = .ok (.getfield 17, 3) := by decide +kernel
theorem dX10_count_119 : decode cX10_count 119 = .ok (.iconst 5, 1) := by decide +kernel
theorem dX10_count_120 : decode cX10_count 120 = .ok (.iload_n 1, 1) := by decide +kernel
theorem dX10_count_121 : decode cX10_count 121 = .ok (.iadd, 1) := by decide +kernel
theorem dX10_count_122 : decode cX10_count 122 = .ok (.iconst 1, 1) := by decide +kernel
theorem dX10_count_123 : decode cX10_count 123 = .ok (.isub, 1) := by decide +kernel
theorem dX10_count_124 : decode cX10_count 124 = .ok (.iaload, 1) := by decide +kernel
theorem dX10_count_125 : decode cX10_count 125 = .ok (.ireturn, 1) := by decide +kernel
theorem dX10_count_126 : decode cX10_count 126 = .ok (.aload_n 0, 1) := by decide +kernel
theorem dX10_count_127 : decode cX10_count 127 = .ok (.getfield 17, 3) := by decide +kernel
theorem dX10_count_130 : decode cX10_count 130 = .ok (.bipush 7, 2) := by decide +kernel
theorem dX10_count_132 : decode cX10_count 132 = .ok (.iaload, 1) := by decide +kernel
theorem dX10_count_133 : decode cX10_count 133 = .ok (.ireturn, 1) := by decide +kernel
theorem dX10_count_134 : decode cX10_count 134 = .ok (.aload_n 0, 1) := by decide +kernel
theorem dX10_count_135 : decode cX10_count 135 = .ok (.getfield 17, 3) := by decide +kernel
theorem dX10_count_138 : decode cX10_count 138 = .ok (.invokestatic 163, 3) := by decide +kernel
theorem dX10_count_141 : decode cX10_count 141 = .ok (.ireturn, 1) := by decide +kernel
theorem dX10_count_142 : decode cX10_count 142 = .ok (.aload_n 0, 1) := by decide +kernel
theorem dX10_count_143 : decode cX10_count 143 = .ok (.iload_n 1, 1) := by decide +kernel
theorem dX10_count_144 : decode cX10_count 144 = .ok (.iconst 5, 1) := by decide +kernel
theorem dX10_count_145 : decode cX10_count 145 = .ok (.isub, 1) := by decide +kernel
theorem dX10_count_146 : decode cX10_count 146 = .ok (.invokevirtual 259, 3) := by decide +kernel
theorem dX10_count_149 : decode cX10_count 149 = .ok (.ireturn, 1) := by decide +kernel
theorem dX10_count_150 : decode cX10_count 150 = .ok (.aload_n 0, 1) := by decide +kernel
theorem dX10_count_151 : decode cX10_count 151 = .ok (.iload_n 1, 1) := by decide +kernel
theorem dX10_count_152 : decode cX10_count 152 = .ok (.bipush 7, 2) := by decide +kernel
theorem dX10_count_154 : decode cX10_count 154 = .ok (.isub, 1) := by decide +kernel
theorem dX10_count_155 : decode cX10_count 155 = .ok (.invokevirtual 328, 3) := by decide +kernel
theorem dX10_count_158 : decode cX10_count 158 = .ok (.ireturn, 1) := by decide +kernel
theorem dX10_count_159 : decode cX10_count 159 = .ok (.aload_n 0, 1) := by decide +kernel
theorem dX10_count_160 : decode cX10_count 160 = .ok (.getfield 33, 3) := by decide +kernel
theorem dX10_count_163 : decode cX10_count 163 = .ok (.iload_n 1, 1) := by decide +kernel
theorem dX10_count_164 : decode cX10_count 164 = .ok (.bipush 9, 2) := by decide +kernel
theorem dX10_count_166 : decode cX10_count 166 = .ok (.isub, 1) := by decide +kernel
theorem dX10_count_167 : decode cX10_count 167 = .ok (.iaload, 1) := by decide +kernel
theorem dX10_count_168 : decode cX10_count 168 = .ok (.ireturn, 1) := by decide +kernel
theorem dX10_count_169 : decode cX10_count 169 = .ok (.aload_n 0, 1) := by decide +kernel
theorem dX10_count_170 : decode cX10_count 170 = .ok (.getfield 363, 3) := by decide +kernel
theorem dX10_count_173 : decode cX10_count 173 = .ok (.ireturn, 1) := by decide +kernel
theorem dX10_count_174 : decode cX10_count 174 = .ok (.aload_n 0, 1) := by decide +kernel
theorem dX10_count_175 : decode cX10_count 175 = .ok (.getfield 123, 3) := by decide +kernel
theorem dX10_count_178 : decode cX10_count 178 = .ok (.ireturn, 1) := by decide +kernel
theorem dX10_count_179 : decode cX10_count 179 = .ok (.bipush (-100), 2) := by decide +kernel
theorem dX10_count_181 : decode cX10_count 181 = .ok (.ireturn, 1) := by decide +kernel
abbrev j10_count : xJ := (cX10_count, 2, RX10, 3, 0, 0)
def F10_count_b115 (z : Nat) (x1 : Int32) (c_thrown : Int32) (c_told : (Nat → Int32)) (c_notes : (Nat → Int32)) (c_state : Int32) (c_taped : Int32) : Option (Int32 × Int32) :=
  xg (xin (((5 : Int32) + x1) - (1 : Int32)) 56) (some ((c_told (xn (((5 : Int32) + x1) - (1 : Int32)))), c_thrown))
theorem T10_count_b115 {X : xX} {c_read : (Nat → Int32)} {c_many : (Nat → Int32)} {c_eights : (Nat → Int32)} {c_gains : (Nat → Int32)} {c_seen : (Nat → Int32)} {c_turns : (Nat → Int32)} {c_drawn : (Nat → Int32)} {c_tape : (Nat → Int32)} {c_size : Int32} {c_from : Int32} {c_next : Int32} {c_token : Int32} {c_value : Int32} {c_fault : Int32} {c_number : Int32} {c_fives : (Nat → Int32)} {c_isLeft : (Nat → Int32)} {c_wentTimes : Int32} {c_goes : (Nat → Int32)} {c_isLeftLaid : Int32} {c_game : (Nat → Int32)} {c_rows : Int32} {c_columns : Int32} {c_isFound : Int32} {c_bestValue : Int64} {c_bestBelow : Int64} {c_bestShare : (Nat → Int64)} {c_share : (Nat → Int64)} {c_matrix : (Nat → Int64)} {c_system : (Nat → Int64)} {c_shares : (Nat → Int32)} {c_allShares : Int32} {x1 : Int32} {c_thrown : Int32} {c_told : (Nat → Int32)} {c_notes : (Nat → Int32)} {c_state : Int32} {c_taped : Int32} {z : Nat} {v : Int32 × Int32} (hX : xIs (j10_count) X ((some .int)) (some (.int v.1)) (hM v.2 c_told c_read c_many c_eights c_gains c_notes c_seen c_turns c_drawn c_state c_tape c_taped c_size c_from c_next c_token c_value c_fault c_number c_fives c_isLeft c_wentTimes c_goes c_isLeftLaid c_game c_rows c_columns c_isFound c_bestValue c_bestBelow c_bestShare c_share c_matrix c_system c_shares c_allShares)) (hf : F10_count_b115 z x1 c_thrown c_told c_notes c_state c_taped = some v) : xV (j10_count) X 0 0 (hM c_thrown c_told c_read c_many c_eights c_gains c_notes c_seen c_turns c_drawn c_state c_tape c_taped c_size c_from c_next c_token c_value c_fault c_number c_fives c_isLeft c_wentTimes c_goes c_isLeftLaid c_game c_rows c_columns c_isFound c_bestValue c_bestBelow c_bestShare c_share c_matrix c_system c_shares c_allShares) 115 [(0, .ref 0), (1, .int x1)] [] := by
  unfold F10_count_b115 at hf
  refine xV_aload_n 116 rfl dX10_count_115 rfl 0 rfl ?_
  refine xV_get (v := .ref 1) 119 rfl dX10_count_116 f10_17 rfl rfl ?_
  refine xV_iconst 120 rfl dX10_count_119 xk_i5 ?_
  refine xV_iload_n 121 rfl dX10_count_120 rfl 1 rfl ?_
  refine xV_iadd 122 rfl dX10_count_121 ?_
  refine xV_iconst 123 rfl dX10_count_122 xk_i1 ?_
  refine xV_isub 124 rfl dX10_count_123 ?_
  obtain ⟨hg124, hf⟩ := xg_s hf
  refine xV_iaload 125 rfl dX10_count_124 rfl (xin_ok hg124) rfl ?_
  obtain rfl := Option.some.inj hf
  exact xV_iret hX dX10_count_125 rfl (Nat.zero_le _) (Nat.zero_le _)
def F10_count_b142 (z : Nat) (x1 : Int32) (c_thrown : Int32) (c_told : (Nat → Int32)) (c_notes : (Nat → Int32)) (c_state : Int32) (c_taped : Int32) : Option (Int32 × Int32) :=
  (F10_booked (x1 - (5 : Int32)) c_told).bind (fun v146 => some (v146, c_thrown))
theorem T10_count_b142 {X : xX} {c_read : (Nat → Int32)} {c_many : (Nat → Int32)} {c_eights : (Nat → Int32)} {c_gains : (Nat → Int32)} {c_seen : (Nat → Int32)} {c_turns : (Nat → Int32)} {c_drawn : (Nat → Int32)} {c_tape : (Nat → Int32)} {c_size : Int32} {c_from : Int32} {c_next : Int32} {c_token : Int32} {c_value : Int32} {c_fault : Int32} {c_number : Int32} {c_fives : (Nat → Int32)} {c_isLeft : (Nat → Int32)} {c_wentTimes : Int32} {c_goes : (Nat → Int32)} {c_isLeftLaid : Int32} {c_game : (Nat → Int32)} {c_rows : Int32} {c_columns : Int32} {c_isFound : Int32} {c_bestValue : Int64} {c_bestBelow : Int64} {c_bestShare : (Nat → Int64)} {c_share : (Nat → Int64)} {c_matrix : (Nat → Int64)} {c_system : (Nat → Int64)} {c_shares : (Nat → Int32)} {c_allShares : Int32} {x1 : Int32} {c_thrown : Int32} {c_told : (Nat → Int32)} {c_notes : (Nat → Int32)} {c_state : Int32} {c_taped : Int32} {z : Nat} {v : Int32 × Int32} (hX : xIs (j10_count) X ((some .int)) (some (.int v.1)) (hM v.2 c_told c_read c_many c_eights c_gains c_notes c_seen c_turns c_drawn c_state c_tape c_taped c_size c_from c_next c_token c_value c_fault c_number c_fives c_isLeft c_wentTimes c_goes c_isLeftLaid c_game c_rows c_columns c_isFound c_bestValue c_bestBelow c_bestShare c_share c_matrix c_system c_shares c_allShares)) (hf : F10_count_b142 z x1 c_thrown c_told c_notes c_state c_taped = some v) : xV (j10_count) X 0 0 (hM c_thrown c_told c_read c_many c_eights c_gains c_notes c_seen c_turns c_drawn c_state c_tape c_taped c_size c_from c_next c_token c_value c_fault c_number c_fives c_isLeft c_wentTimes c_goes c_isLeftLaid c_game c_rows c_columns c_isFound c_bestValue c_bestBelow c_bestShare c_share c_matrix c_system c_shares c_allShares) 142 [(0, .ref 0), (1, .int x1)] [] := by
  unfold F10_count_b142 at hf
  refine xV_aload_n 143 rfl dX10_count_142 rfl 0 rfl ?_
  refine xV_iload_n 144 rfl dX10_count_143 rfl 1 rfl ?_
  refine xV_iconst 145 rfl dX10_count_144 xk_i5 ?_
  refine xV_isub 146 rfl dX10_count_145 ?_
  obtain ⟨v146, hv146, hf⟩ := xb_s hf
  refine xV_same (rest := []) 149 rfl dX10_count_146 rfl (C10_booked X.1.2.1 hv146) m10_booked v10_booked k10_259 rfl rfl rfl rfl rfl (Nat.le_of_ble_eq_true rfl) (Nat.le_of_ble_eq_true rfl) (Nat.le_of_ble_eq_true rfl) ⟨Nat.le_refl _, Nat.le_refl _⟩ ?_
  show xV (j10_count) X 0 0 (hM c_thrown c_told c_read c_many c_eights c_gains c_notes c_seen c_turns c_drawn c_state c_tape c_taped c_size c_from c_next c_token c_value c_fault c_number c_fives c_isLeft c_wentTimes c_goes c_isLeftLaid c_game c_rows c_columns c_isFound c_bestValue c_bestBelow c_bestShare c_share c_matrix c_system c_shares c_allShares) 149 [(0, .ref 0), (1, .int x1)] [.int v146]
  obtain rfl := Option.some.inj hf
  exact xV_iret hX dX10_count_149 rfl (Nat.zero_le _) (Nat.zero_le _)
def F10_count_b150 (z : Nat) (x1 : Int32) (c_thrown : Int32) (c_told : (Nat → Int32)) (c_notes : (Nat → Int32)) (c_state : Int32) (c_taped : Int32) : Option (Int32 × Int32) :=
  (F10_planned (x1 - (7 : Int32)) c_told).bind (fun v155 => some (v155, c_thrown))
theorem T10_count_b150 {X : xX} {c_read : (Nat → Int32)} {c_many : (Nat → Int32)} {c_eights : (Nat → Int32)} {c_gains : (Nat → Int32)} {c_seen : (Nat → Int32)} {c_turns : (Nat → Int32)} {c_drawn : (Nat → Int32)} {c_tape : (Nat → Int32)} {c_size : Int32} {c_from : Int32} {c_next : Int32} {c_token : Int32} {c_value : Int32} {c_fault : Int32} {c_number : Int32} {c_fives : (Nat → Int32)} {c_isLeft : (Nat → Int32)} {c_wentTimes : Int32} {c_goes : (Nat → Int32)} {c_isLeftLaid : Int32} {c_game : (Nat → Int32)} {c_rows : Int32} {c_columns : Int32} {c_isFound : Int32} {c_bestValue : Int64} {c_bestBelow : Int64} {c_bestShare : (Nat → Int64)} {c_share : (Nat → Int64)} {c_matrix : (Nat → Int64)} {c_system : (Nat → Int64)} {c_shares : (Nat → Int32)} {c_allShares : Int32} {x1 : Int32} {c_thrown : Int32} {c_told : (Nat → Int32)} {c_notes : (Nat → Int32)} {c_state : Int32} {c_taped : Int32} {z : Nat} {v : Int32 × Int32} (hX : xIs (j10_count) X ((some .int)) (some (.int v.1)) (hM v.2 c_told c_read c_many c_eights c_gains c_notes c_seen c_turns c_drawn c_state c_tape c_taped c_size c_from c_next c_token c_value c_fault c_number c_fives c_isLeft c_wentTimes c_goes c_isLeftLaid c_game c_rows c_columns c_isFound c_bestValue c_bestBelow c_bestShare c_share c_matrix c_system c_shares c_allShares)) (hf : F10_count_b150 z x1 c_thrown c_told c_notes c_state c_taped = some v) : xV (j10_count) X 0 0 (hM c_thrown c_told c_read c_many c_eights c_gains c_notes c_seen c_turns c_drawn c_state c_tape c_taped c_size c_from c_next c_token c_value c_fault c_number c_fives c_isLeft c_wentTimes c_goes c_isLeftLaid c_game c_rows c_columns c_isFound c_bestValue c_bestBelow c_bestShare c_share c_matrix c_system c_shares c_allShares) 150 [(0, .ref 0), (1, .int x1)] [] := by
  unfold F10_count_b150 at hf
  refine xV_aload_n 151 rfl dX10_count_150 rfl 0 rfl ?_
  refine xV_iload_n 152 rfl dX10_count_151 rfl 1 rfl ?_
  refine xV_bipush 154 rfl dX10_count_152 xk_b7 ?_
  refine xV_isub 155 rfl dX10_count_154 ?_
  obtain ⟨v155, hv155, hf⟩ := xb_s hf
  refine xV_same (rest := []) 158 rfl dX10_count_155 rfl (C10_planned X.1.2.1 hv155) m10_planned v10_planned k10_328 rfl rfl rfl rfl rfl (Nat.le_of_ble_eq_true rfl) (Nat.le_of_ble_eq_true rfl) (Nat.le_of_ble_eq_true rfl) ⟨Nat.le_refl _, Nat.le_refl _⟩ ?_
  show xV (j10_count) X 0 0 (hM c_thrown c_told c_read c_many c_eights c_gains c_notes c_seen c_turns c_drawn c_state c_tape c_taped c_size c_from c_next c_token c_value c_fault c_number c_fives c_isLeft c_wentTimes c_goes c_isLeftLaid c_game c_rows c_columns c_isFound c_bestValue c_bestBelow c_bestShare c_share c_matrix c_system c_shares c_allShares) 158 [(0, .ref 0), (1, .int x1)] [.int v155]
  obtain rfl := Option.some.inj hf
  exact xV_iret hX dX10_count_158 rfl (Nat.zero_le _) (Nat.zero_le _)
def F10_count_b159 (z : Nat) (x1 : Int32) (c_thrown : Int32) (c_told : (Nat → Int32)) (c_notes : (Nat → Int32)) (c_state : Int32) (c_taped : Int32) : Option (Int32 × Int32) :=
  xg (xin (x1 - (9 : Int32)) 2) (some ((c_notes (xn (x1 - (9 : Int32)))), c_thrown))
theorem T10_count_b159 {X : xX} {c_read : (Nat → Int32)} {c_many : (Nat → Int32)} {c_eights : (Nat → Int32)} {c_gains : (Nat → Int32)} {c_seen : (Nat → Int32)} {c_turns : (Nat → Int32)} {c_drawn : (Nat → Int32)} {c_tape : (Nat → Int32)} {c_size : Int32} {c_from : Int32} {c_next : Int32} {c_token : Int32} {c_value : Int32} {c_fault : Int32} {c_number : Int32} {c_fives : (Nat → Int32)} {c_isLeft : (Nat → Int32)} {c_wentTimes : Int32} {c_goes : (Nat → Int32)} {c_isLeftLaid : Int32} {c_game : (Nat → Int32)} {c_rows : Int32} {c_columns : Int32} {c_isFound : Int32} {c_bestValue : Int64} {c_bestBelow : Int64} {c_bestShare : (Nat → Int64)} {c_share : (Nat → Int64)} {c_matrix : (Nat → Int64)} {c_system : (Nat → Int64)} {c_shares : (Nat → Int32)} {c_allShares : Int32} {x1 : Int32} {c_thrown : Int32} {c_told : (Nat → Int32)} {c_notes : (Nat → Int32)} {c_state : Int32} {c_taped : Int32} {z : Nat} {v : Int32 × Int32} (hX : xIs (j10_count) X ((some .int)) (some (.int v.1)) (hM v.2 c_told c_read c_many c_eights c_gains c_notes c_seen c_turns c_drawn c_state c_tape c_taped c_size c_from c_next c_token c_value c_fault c_number c_fives c_isLeft c_wentTimes c_goes c_isLeftLaid c_game c_rows c_columns c_isFound c_bestValue c_bestBelow c_bestShare c_share c_matrix c_system c_shares c_allShares)) (hf : F10_count_b159 z x1 c_thrown c_told c_notes c_state c_taped = some v) : xV (j10_count) X 0 0 (hM c_thrown c_told c_read c_many c_eights c_gains c_notes c_seen c_turns c_drawn c_state c_tape c_taped c_size c_from c_next c_token c_value c_fault c_number c_fives c_isLeft c_wentTimes c_goes c_isLeftLaid c_game c_rows c_columns c_isFound c_bestValue c_bestBelow c_bestShare c_share c_matrix c_system c_shares c_allShares) 159 [(0, .ref 0), (1, .int x1)] [] := by
  unfold F10_count_b159 at hf
  refine xV_aload_n 160 rfl dX10_count_159 rfl 0 rfl ?_
  refine xV_get (v := .ref 6) 163 rfl dX10_count_160 f10_33 rfl rfl ?_
  refine xV_iload_n 164 rfl dX10_count_163 rfl 1 rfl ?_
  refine xV_bipush 166 rfl dX10_count_164 xk_b9 ?_
  refine xV_isub 167 rfl dX10_count_166 ?_
  obtain ⟨hg167, hf⟩ := xg_s hf
  refine xV_iaload 168 rfl dX10_count_167 rfl (xin_ok hg167) rfl ?_
  obtain rfl := Option.some.inj hf
  exact xV_iret hX dX10_count_168 rfl (Nat.zero_le _) (Nat.zero_le _)
def F10_count (z : Nat) (x1 : Int32) (c_thrown : Int32) (c_told : (Nat → Int32)) (c_notes : (Nat → Int32)) (c_state : Int32) (c_taped : Int32) : Option (Int32 × Int32) :=
  (F10_within x1 (20 : Int32) (23 : Int32)).bind (fun v10 => if v10 = 0 then (if x1 = (0 : Int32) then (some ((c_told 0), (0 : Int32))) else (if x1 = (1 : Int32) then (F10_count_b115 z x1 (0 : Int32) c_told c_notes c_state c_taped) else (if x1 = (2 : Int32) then (F10_count_b115 z x1 (0 : Int32) c_told c_notes c_state c_taped) else (if x1 = (3 : Int32) then (some ((c_told 7), (0 : Int32))) else (if x1 = (4 : Int32) then ((F10_worths z c_told).bind (fun v138 => some (v138, (0 : Int32)))) else (if x1 = (5 : Int32) then (F10_count_b142 z x1 (0 : Int32) c_told c_notes c_state c_taped) else (if x1 = (6 : Int32) then (F10_count_b142 z x1 (0 : Int32) c_told c_notes c_state c_taped) else (if x1 = (7 : Int32) then (F10_count_b150 z x1 (0 : Int32) c_told c_notes c_state c_taped) else (if x1 = (8 : Int32) then (F10_count_b150 z x1 (0 : Int32) c_told c_notes c_state c_taped) else (if x1 = (9 : Int32) then (F10_count_b159 z x1 (0 : Int32) c_told c_notes c_state c_taped) else (if x1 = (10 : Int32) then (F10_count_b159 z x1 (0 : Int32) c_told c_notes c_state c_taped) else (if x1 = (11 : Int32) then (some (c_state, (0 : Int32))) else (if x1 = (12 : Int32) then (some (c_taped, (0 : Int32))) else (some ((-100 : Int32), (0 : Int32)))))))))))))))) else (if (c_told 0) ≤ (x1 - (20 : Int32)) then (some ((0 : Int32), (0 : Int32))) else ((F10_worth (x1 - (20 : Int32)) c_told).bind (fun v34 => some (v34, (0 : Int32))))))
theorem T10_count {X : xX} {z : Nat} {x1 : Int32} {c_thrown : Int32} {c_told : (Nat → Int32)} {c_notes : (Nat → Int32)} {c_state : Int32} {c_taped : Int32} {c_read : (Nat → Int32)} {c_many : (Nat → Int32)} {c_eights : (Nat → Int32)} {c_gains : (Nat → Int32)} {c_seen : (Nat → Int32)} {c_turns : (Nat → Int32)} {c_drawn : (Nat → Int32)} {c_tape : (Nat → Int32)} {c_size : Int32} {c_from : Int32} {c_next : Int32} {c_token : Int32} {c_value : Int32} {c_fault : Int32} {c_number : Int32} {c_fives : (Nat → Int32)} {c_isLeft : (Nat → Int32)} {c_wentTimes : Int32} {c_goes : (Nat → Int32)} {c_isLeftLaid : Int32} {c_game : (Nat → Int32)} {c_rows : Int32} {c_columns : Int32} {c_isFound : Int32} {c_bestValue : Int64} {c_bestBelow : Int64} {c_bestShare : (Nat → Int64)} {c_share : (Nat → Int64)} {c_matrix : (Nat → Int64)} {c_system : (Nat → Int64)} {c_shares : (Nat → Int32)} {c_allShares : Int32} {v : Int32 × Int32} (hX : xIs (j10_count) X ((some .int)) (some (.int v.1)) (hM v.2 c_told c_read c_many c_eights c_gains c_notes c_seen c_turns c_drawn c_state c_tape c_taped c_size c_from c_next c_token c_value c_fault c_number c_fives c_isLeft c_wentTimes c_goes c_isLeftLaid c_game c_rows c_columns c_isFound c_bestValue c_bestBelow c_bestShare c_share c_matrix c_system c_shares c_allShares)) (hf : F10_count z x1 c_thrown c_told c_notes c_state c_taped = some v) : xV (j10_count) X 0 0 (hM c_thrown c_told c_read c_many c_eights c_gains c_notes c_seen c_turns c_drawn c_state c_tape c_taped c_size c_from c_next c_token c_value c_fault c_number c_fives c_isLeft c_wentTimes c_goes c_isLeftLaid c_game c_rows c_columns c_isFound c_bestValue c_bestBelow c_bestShare c_share c_matrix c_system c_shares c_allShares) 0 [(0, .ref 0), (1, .int x1)] [] := by
  unfold F10_count at hf
  refine xV_aload_n 1 rfl dX10_count_0 rfl 0 rfl ?_
  refine xV_iconst 2 rfl dX10_count_1 xk_i0 ?_
  refine xV_put (h' := (hM (0 : Int32) c_told c_read c_many c_eights c_gains c_notes c_seen c_turns c_drawn c_state c_tape c_taped c_size c_from c_next c_token c_value c_fault c_number c_fives c_isLeft c_wentTimes c_goes c_isLeftLaid c_game c_rows c_columns c_isFound c_bestValue c_bestBelow c_bestShare c_share c_matrix c_system c_shares c_allShares)) 5 rfl dX10_count_2 f10_1 rfl nf10_0 (fun _ => rfl) (fun _ => rfl) (Nat.le_of_ble_eq_true rfl) rfl ?_
  refine xV_iload_n 6 rfl dX10_count_5 rfl 1 rfl ?_
  refine xV_bipush 8 rfl dX10_count_6 xk_b20 ?_
  refine xV_bipush 10 rfl dX10_count_8 xk_b23 ?_
  obtain ⟨v10, hv10, hf⟩ := xb_s hf
  refine xV_st0 (rest := []) 13 rfl dX10_count_10 rfl (C10_within X.1.2.1 hv10) m10_within s10_within k10_7 rfl (Nat.le_of_ble_eq_true rfl) (Nat.le_of_ble_eq_true rfl) (Nat.le_of_ble_eq_true rfl) ⟨Nat.le_refl _, Nat.le_refl _⟩ ?_
  show xV (j10_count) X 0 0 (hM (0 : Int32) c_told c_read c_many c_eights c_gains c_notes c_seen c_turns c_drawn c_state c_tape c_taped c_size c_from c_next c_token c_value c_fault c_number c_fives c_isLeft c_wentTimes c_goes c_isLeftLaid c_game c_rows c_columns c_isFound c_bestValue c_bestBelow c_bestShare c_share c_matrix c_system c_shares c_allShares) 13 [(0, .ref 0), (1, .int x1)] [.int v10]
  refine xV_if_eq (tgt := 42) 16 rfl dX10_count_13 (by decide) (fun h13 => ?_) (fun h13 => ?_)
  · have hf := xif_t hf h13
    refine xV_iload_n 43 rfl dX10_count_42 rfl 1 rfl ?_
    by_cases h43_0 : x1 = (0 : Int32)
    · have hf := xif_t hf h43_0
      refine xV_tin (tgt := 108) dX10_count_43 h43_0 (by decide) (by decide) rfl (by decide) ?_
      refine xV_aload_n 109 rfl dX10_count_108 rfl 0 rfl ?_
      refine xV_get (v := .ref 1) 112 rfl dX10_count_109 f10_17 rfl rfl ?_
      refine xV_iconst 113 rfl dX10_count_112 xk_i0 ?_
      refine xV_iaload 114 rfl dX10_count_113 rfl xk_in0_56 xk_j0 ?_
      obtain rfl := Option.some.inj hf
      exact xV_iret hX dX10_count_114 rfl (Nat.zero_le _) (Nat.zero_le _)
    · have hf := xif_f hf h43_0
      by_cases h43_1 : x1 = (1 : Int32)
      · have hf := xif_t hf h43_1
        refine xV_tin (tgt := 115) dX10_count_43 h43_1 (by decide) (by decide) rfl (by decide) ?_
        exact T10_count_b115 hX hf
      · have hf := xif_f hf h43_1
        by_cases h43_2 : x1 = (2 : Int32)
        · have hf := xif_t hf h43_2
          refine xV_tin (tgt := 115) dX10_count_43 h43_2 (by decide) (by decide) rfl (by decide) ?_
          exact T10_count_b115 hX hf
        · have hf := xif_f hf h43_2
          by_cases h43_3 : x1 = (3 : Int32)
          · have hf := xif_t hf h43_3
            refine xV_tin (tgt := 126) dX10_count_43 h43_3 (by decide) (by decide) rfl (by decide) ?_
            refine xV_aload_n 127 rfl dX10_count_126 rfl 0 rfl ?_
            refine xV_get (v := .ref 1) 130 rfl dX10_count_127 f10_17 rfl rfl ?_
            refine xV_bipush 132 rfl dX10_count_130 xk_b7 ?_
            refine xV_iaload 133 rfl dX10_count_132 rfl xk_in7_56 xk_j7 ?_
            obtain rfl := Option.some.inj hf
            exact xV_iret hX dX10_count_133 rfl (Nat.zero_le _) (Nat.zero_le _)
          · have hf := xif_f hf h43_3
            by_cases h43_4 : x1 = (4 : Int32)
            · have hf := xif_t hf h43_4
              refine xV_tin (tgt := 134) dX10_count_43 h43_4 (by decide) (by decide) rfl (by decide) ?_
              refine xV_aload_n 135 rfl dX10_count_134 rfl 0 rfl ?_
              refine xV_get (v := .ref 1) 138 rfl dX10_count_135 f10_17 rfl rfl ?_
              obtain ⟨v138, hv138, hf⟩ := xb_s hf
              refine xV_st1 (h' := (hM (0 : Int32) c_told c_read c_many c_eights c_gains c_notes c_seen c_turns c_drawn c_state c_tape c_taped c_size c_from c_next c_token c_value c_fault c_number c_fives c_isLeft c_wentTimes c_goes c_isLeftLaid c_game c_rows c_columns c_isFound c_bestValue c_bestBelow c_bestShare c_share c_matrix c_system c_shares c_allShares)) (rest := []) 141 rfl dX10_count_138 rfl (C10_worths X.1.2.1 hv138) m10_worths s10_worths k10_163 rfl rfl rfl rfl rfl rfl (Nat.le_of_ble_eq_true rfl) (Nat.le_of_ble_eq_true rfl) (Nat.le_of_ble_eq_true rfl) ⟨Nat.le_refl _, Nat.le_refl _⟩ ?_
              show xV (j10_count) X 0 0 (hM (0 : Int32) c_told c_read c_many c_eights c_gains c_notes c_seen c_turns c_drawn c_state c_tape c_taped c_size c_from c_next c_token c_value c_fault c_number c_fives c_isLeft c_wentTimes c_goes c_isLeftLaid c_game c_rows c_columns c_isFound c_bestValue c_bestBelow c_bestShare c_share c_matrix c_system c_shares c_allShares) 141 [(0, .ref 0), (1, .int x1)] [.int v138]
              obtain rfl := Option.some.inj hf
              exact xV_iret hX dX10_count_141 rfl (Nat.zero_le _) (Nat.zero_le _)
            · have hf := xif_f hf h43_4
              by_cases h43_5 : x1 = (5 : Int32)
              · have hf := xif_t hf h43_5
                refine xV_tin (tgt := 142) dX10_count_43 h43_5 (by decide) (by decide) rfl (by decide) ?_
                exact T10_count_b142 hX hf
              · have hf := xif_f hf h43_5
                by_cases h43_6 : x1 = (6 : Int32)
                · have hf := xif_t hf h43_6
                  refine xV_tin (tgt := 142) dX10_count_43 h43_6 (by decide) (by decide) rfl (by decide) ?_
                  exact T10_count_b142 hX hf
                · have hf := xif_f hf h43_6
                  by_cases h43_7 : x1 = (7 : Int32)
                  · have hf := xif_t hf h43_7
                    refine xV_tin (tgt := 150) dX10_count_43 h43_7 (by decide) (by decide) rfl (by decide) ?_
                    exact T10_count_b150 hX hf
                  · have hf := xif_f hf h43_7
                    by_cases h43_8 : x1 = (8 : Int32)
                    · have hf := xif_t hf h43_8
                      refine xV_tin (tgt := 150) dX10_count_43 h43_8 (by decide) (by decide) rfl (by decide) ?_
                      exact T10_count_b150 hX hf
                    · have hf := xif_f hf h43_8
                      by_cases h43_9 : x1 = (9 : Int32)
                      · have hf := xif_t hf h43_9
                        refine xV_tin (tgt := 159) dX10_count_43 h43_9 (by decide) (by decide) rfl (by decide) ?_
                        exact T10_count_b159 hX hf
                      · have hf := xif_f hf h43_9
                        by_cases h43_10 : x1 = (10 : Int32)
                        · have hf := xif_t hf h43_10
                          refine xV_tin (tgt := 159) dX10_count_43 h43_10 (by decide) (by decide) rfl (by decide) ?_
                          exact T10_count_b159 hX hf
                        · have hf := xif_f hf h43_10
                          by_cases h43_11 : x1 = (11 : Int32)
                          · have hf := xif_t hf h43_11
                            refine xV_tin (tgt := 169) dX10_count_43 h43_11 (by decide) (by decide) rfl (by decide) ?_
                            refine xV_aload_n 170 rfl dX10_count_169 rfl 0 rfl ?_
                            refine xV_get (v := .int c_state) 173 rfl dX10_count_170 f10_363 rfl rfl ?_
                            obtain rfl := Option.some.inj hf
                            exact xV_iret hX dX10_count_173 rfl (Nat.zero_le _) (Nat.zero_le _)
                          · have hf := xif_f hf h43_11
                            by_cases h43_12 : x1 = (12 : Int32)
                            · have hf := xif_t hf h43_12
                              refine xV_tin (tgt := 174) dX10_count_43 h43_12 (by decide) (by decide) rfl (by decide) ?_
                              refine xV_aload_n 175 rfl dX10_count_174 rfl 0 rfl ?_
                              refine xV_get (v := .int c_taped) 178 rfl dX10_count_175 f10_123 rfl rfl ?_
                              obtain rfl := Option.some.inj hf
                              exact xV_iret hX dX10_count_178 rfl (Nat.zero_le _) (Nat.zero_le _)
                            · have hf := xif_f hf h43_12
                              refine xV_tout (tgt := 179) dX10_count_43 [(0 : Int32), (1 : Int32), (2 : Int32), (3 : Int32), (4 : Int32), (5 : Int32), (6 : Int32), (7 : Int32), (8 : Int32), (9 : Int32), (10 : Int32), (11 : Int32), (12 : Int32)] 13 (by decide) (by decide) (by simp only [List.mem_cons, List.not_mem_nil, or_false]; rintro v (rfl | rfl | rfl | rfl | rfl | rfl | rfl | rfl | rfl | rfl | rfl | rfl | rfl) <;> assumption) (by decide) ?_
                              refine xV_bipush 181 rfl dX10_count_179 xk_bm100 ?_
                              obtain rfl := Option.some.inj hf
                              exact xV_iret hX dX10_count_181 rfl (Nat.zero_le _) (Nat.zero_le _)
  · have hf := xif_f hf h13
    refine xV_iload_n 17 rfl dX10_count_16 rfl 1 rfl ?_
    refine xV_bipush 19 rfl dX10_count_17 xk_b20 ?_
    refine xV_isub 20 rfl dX10_count_19 ?_
    refine xV_aload_n 21 rfl dX10_count_20 rfl 0 rfl ?_
    refine xV_get (v := .ref 1) 24 rfl dX10_count_21 f10_17 rfl rfl ?_
    refine xV_iconst 25 rfl dX10_count_24 xk_i0 ?_
    refine xV_iaload 26 rfl dX10_count_25 rfl xk_in0_56 xk_j0 ?_
    refine xV_icmp_ge (tgt := 40) 29 rfl dX10_count_26 (by decide) (fun h26 => ?_) (fun h26 => ?_)
    · have hf := xif_t hf h26
      refine xV_iconst 41 rfl dX10_count_40 xk_i0 ?_
      obtain rfl := Option.some.inj hf
      exact xV_iret hX dX10_count_41 rfl (Nat.zero_le _) (Nat.zero_le _)
    · have hf := xif_f hf h26
      refine xV_aload_n 30 rfl dX10_count_29 rfl 0 rfl ?_
      refine xV_iload_n 31 rfl dX10_count_30 rfl 1 rfl ?_
      refine xV_bipush 33 rfl dX10_count_31 xk_b20 ?_
      refine xV_isub 34 rfl dX10_count_33 ?_
      obtain ⟨v34, hv34, hf⟩ := xb_s hf
      refine xV_same (rest := []) 37 rfl dX10_count_34 rfl (C10_worth X.1.2.1 hv34) m10_worth v10_worth k10_94 rfl rfl rfl rfl rfl (Nat.le_of_ble_eq_true rfl) (Nat.le_of_ble_eq_true rfl) (Nat.le_of_ble_eq_true rfl) ⟨Nat.le_refl _, Nat.le_refl _⟩ ?_
      show xV (j10_count) X 0 0 (hM (0 : Int32) c_told c_read c_many c_eights c_gains c_notes c_seen c_turns c_drawn c_state c_tape c_taped c_size c_from c_next c_token c_value c_fault c_number c_fives c_isLeft c_wentTimes c_goes c_isLeftLaid c_game c_rows c_columns c_isFound c_bestValue c_bestBelow c_bestShare c_share c_matrix c_system c_shares c_allShares) 37 [(0, .ref 0), (1, .int x1)] [.int v34]
      refine xV_goto (tgt := 41) dX10_count_37 (by decide) ?_
      obtain rfl := Option.some.inj hf
      exact xV_iret hX dX10_count_41 rfl (Nat.zero_le _) (Nat.zero_le _)
theorem C10_count (l : Launch) {z : Nat} {x1 : Int32} {c_thrown : Int32} {c_told : (Nat → Int32)} {c_notes : (Nat → Int32)} {c_state : Int32} {c_taped : Int32} {c_read : (Nat → Int32)} {c_many : (Nat → Int32)} {c_eights : (Nat → Int32)} {c_gains : (Nat → Int32)} {c_seen : (Nat → Int32)} {c_turns : (Nat → Int32)} {c_drawn : (Nat → Int32)} {c_tape : (Nat → Int32)} {c_size : Int32} {c_from : Int32} {c_next : Int32} {c_token : Int32} {c_value : Int32} {c_fault : Int32} {c_number : Int32} {c_fives : (Nat → Int32)} {c_isLeft : (Nat → Int32)} {c_wentTimes : Int32} {c_goes : (Nat → Int32)} {c_isLeftLaid : Int32} {c_game : (Nat → Int32)} {c_rows : Int32} {c_columns : Int32} {c_isFound : Int32} {c_bestValue : Int64} {c_bestBelow : Int64} {c_bestShare : (Nat → Int64)} {c_share : (Nat → Int64)} {c_matrix : (Nat → Int64)} {c_system : (Nat → Int64)} {c_shares : (Nat → Int32)} {c_allShares : Int32} {v : Int32 × Int32} (hf : F10_count z x1 c_thrown c_told c_notes c_state c_taped = some v) : xCt l yX10_count ((some .int)) j10_count [.ref 0, .int x1] (hM c_thrown c_told c_read c_many c_eights c_gains c_notes c_seen c_turns c_drawn c_state c_tape c_taped c_size c_from c_next c_token c_value c_fault c_number c_fives c_isLeft c_wentTimes c_goes c_isLeftLaid c_game c_rows c_columns c_isFound c_bestValue c_bestBelow c_bestShare c_share c_matrix c_system c_shares c_allShares) (some (.int v.1)) (hM v.2 c_told c_read c_many c_eights c_gains c_notes c_seen c_turns c_drawn c_state c_tape c_taped c_size c_from c_next c_token c_value c_fault c_number c_fives c_isLeft c_wentTimes c_goes c_isLeftLaid c_game c_rows c_columns c_isFound c_bestValue c_bestBelow c_bestShare c_share c_matrix c_system c_shares c_allShares) := xCt_of (by decide) rfl (Nat.le_of_ble_eq_true rfl) (fun _ hX => T10_count hX hf)
theorem m10_count : xMd yX10_count RX10 ((some .int)) j10_count 1 := ⟨List.mem_of_getElem? (i := 1304) (by decide +kernel), List.mem_of_getElem? (i := 5) (by decide +kernel), rfl, by decide +kernel⟩
theorem v10_count : xMv yX10_count RX10 := ⟨List.mem_of_getElem? (i := 1302) (by decide +kernel), List.mem_of_getElem? (i := 1303) (by decide +kernel)⟩
