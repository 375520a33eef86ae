theorem dX10_shut_0 : decode cX10_shut 0 = .ok (.aload_n 0, 1) := by decide +kernel
theorem dX10_shut_1 : decode cX10_shut 1 = .ok (.iconst 0, 1) := by decide +kernel
theorem dX10_shut_2 : decode cX10_shut 2 = .ok (.putfield 1, 3) := by decide +kernel
theorem dX10_shut_5 : decode cX10_shut 5 = .ok (.iload_n 1, 1) := by decide +kernel
theorem dX10_shut_6 : decode cX10_shut 6 = .ok (.invokestatic 105, 3) := by decide +kernel
theorem dX10_shut_9 : decode cX10_shut 9 = .ok (.ifCond .ne 5, 3) := by decide +kernel
theorem dX10_shut_12 : decode cX10_shut 12 = .ok (.iconst (-1), 1) := by decide +kernel
theorem dX10_shut_13 : decode cX10_shut 13 = .ok (.ireturn, 1) := by decide +kernel
theorem dX10_shut_14 : decode cX10_shut 14 = .ok (.aload_n 0, 1) := by decide +kernel
theorem dX10_shut_15 : decode cX10_shut 15 = .ok (.iload_n 1, 1) := by decide +kernel
theorem dX10_shut_16 : decode cX10_shut 16 = .ok (.invokevirtual 259, 3) := by decide +kernel
theorem dX10_shut_19 : decode cX10_shut 19 = .ok (.istore_n 2, 1) := by decide +kernel
theorem dX10_shut_20 : decode cX10_shut 20 = .ok (.aload_n 0, 1) := by decide +kernel
theorem dX10_shut_21 : decode cX10_shut 21 = .ok (.getfield 17, 3) := by decide +kernel
theorem dX10_shut_24 : decode cX10_shut 24 = .ok (.iload_n 1, 1) := by decide +kernel
theorem dX10_shut_25 : decode cX10_shut 25 = .ok (.iconst 0, 1) := by decide +kernel
theorem dX10_shut_26 : decode cX10_shut 26 = .ok (.invokestatic 109, 3) := by decide +kernel
theorem dX10_shut_29 : decode cX10_shut 29 = .ok (.iconst 0, 1) := by decide +kernel
theorem dX10_shut_30 : decode cX10_shut 30 = .ok (.iastore, 1) := by decide +kernel
theorem dX10_shut_31 : decode cX10_shut 31 = .ok (.iload_n 2, 1) := by decide +kernel
theorem dX10_shut_32 : decode cX10_shut 32 = .ok (.ireturn, 1) := by decide +kernel
abbrev j10_shut : xJ := (cX10_shut, 3, RX10, 3, 0, 0)
def F10_shut (x1 : Int32) (c_thrown : Int32) (c_told : (Nat → Int32)) : Option (Int32 × Int32 × (Nat → Int32)) :=
  (F10_isSide x1).bind (fun v6 => if v6 = 0 then (some ((-1 : Int32), (0 : Int32), c_told)) else ((F10_booked x1 c_told).bind (fun v16 => (F10_at x1 (0 : Int32)).bind (fun v26 => xg (xin v26 56) (some (v16, (0 : Int32), (upd c_told (xn v26) (0 : Int32))))))))
theorem T10_shut {X : xX} {x1 : Int32} {c_thrown : Int32} {c_told : (Nat → Int32)} {c_read : (Nat → Int32)} {c_many : (Nat → Int32)} {c_eights : (Nat → Int32)} {c_gains : (Nat → Int32)} {c_notes : (Nat → Int32)} {c_seen : (Nat → Int32)} {c_turns : (Nat → Int32)} {c_drawn : (Nat → Int32)} {c_state : Int32} {c_tape : (Nat → Int32)} {c_taped : Int32} {c_size : Int32} {c_from : Int32} {c_next : Int32} {c_token : Int32} {c_value : Int32} {c_fault : Int32} {c_number : Int32} {c_fives : (Nat → Int32)} {c_isLeft : (Nat → Int32)} {c_wentTimes : Int32} {c_goes : (Nat → Int32)} {c_isLeftLaid : Int32} {c_game : (Nat → Int32)} {c_rows : Int32} {c_columns : Int32} {c_isFound : Int32} {c_bestValue : Int64} {c_bestBelow : Int64} {c_bestShare : (Nat → Int64)} {c_share : (Nat → Int64)} {c_matrix : (Nat → Int64)} {c_system : (Nat → Int64)} {c_shares : (Nat → Int32)} {c_allShares : Int32} {v : Int32 × Int32 × (Nat → Int32)} (hX : xIs (j10_shut) X ((some .int)) (some (.int v.1)) (hM v.2.1 v.2.2 c_read c_many c_eights c_gains c_notes c_seen c_turns c_drawn c_state c_tape c_taped c_size c_from c_next c_token c_value c_fault c_number c_fives c_isLeft c_wentTimes c_goes c_isLeftLaid c_game c_rows c_columns c_isFound c_bestValue c_bestBelow c_bestShare c_share c_matrix c_system c_shares c_allShares)) (hf : F10_shut x1 c_thrown c_told = some v) : xV (j10_shut) X 0 0 (hM c_thrown c_told c_read c_many c_eights c_gains c_notes c_seen c_turns c_drawn c_state c_tape c_taped c_size c_from c_next c_token c_value c_fault c_number c_fives c_isLeft c_wentTimes c_goes c_isLeftLaid c_game c_rows c_columns c_isFound c_bestValue c_bestBelow c_bestShare c_share c_matrix c_system c_shares c_allShares) 0 [(0, .ref 0), (1, .int x1)] [] := by
  unfold F10_shut at hf
  refine xV_aload_n 1 rfl dX10_shut_0 rfl 0 rfl ?_
  refine xV_iconst 2 rfl dX10_shut_1 xk_i0 ?_
  refine xV_put (h' := (hM (0 : Int32) c_told c_read c_many c_eights c_gains c_notes c_seen c_turns c_drawn c_state c_tape c_taped c_size c_from c_next c_token c_value c_fault c_number c_fives c_isLeft c_wentTimes c_goes c_isLeftLaid c_game c_rows c_columns c_isFound c_bestValue c_bestBelow c_bestShare c_share c_matrix c_system c_shares c_allShares)) 5 rfl dX10_shut_2 f10_1 rfl nf10_0 (fun _ => rfl) (fun _ => rfl) (Nat.le_of_ble_eq_true rfl) rfl ?_
  refine xV_iload_n 6 rfl dX10_shut_5 rfl 1 rfl ?_
  obtain ⟨v6, hv6, hf⟩ := xb_s hf
  refine xV_st0 (rest := []) 9 rfl dX10_shut_6 rfl (C10_isSide X.1.2.1 hv6) m10_isSide s10_isSide k10_105 rfl (Nat.le_of_ble_eq_true rfl) (Nat.le_of_ble_eq_true rfl) (Nat.le_of_ble_eq_true rfl) ⟨Nat.le_refl _, Nat.le_refl _⟩ ?_
  show xV (j10_shut) X 0 0 (hM (0 : Int32) c_told c_read c_many c_eights c_gains c_notes c_seen c_turns c_drawn c_state c_tape c_taped c_size c_from c_next c_token c_value c_fault c_number c_fives c_isLeft c_wentTimes c_goes c_isLeftLaid c_game c_rows c_columns c_isFound c_bestValue c_bestBelow c_bestShare c_share c_matrix c_system c_shares c_allShares) 9 [(0, .ref 0), (1, .int x1)] [.int v6]
  refine xV_if_ne (tgt := 14) 12 rfl dX10_shut_9 (by decide) (fun h9 => ?_) (fun h9 => ?_)
  · have hf := xif_f hf h9
    refine xV_aload_n 15 rfl dX10_shut_14 rfl 0 rfl ?_
    refine xV_iload_n 16 rfl dX10_shut_15 rfl 1 rfl ?_
    obtain ⟨v16, hv16, hf⟩ := xb_s hf
    refine xV_same (rest := []) 19 rfl dX10_shut_16 rfl (C10_booked X.1.2.1 hv16) m10_booked v10_booked k10_259 rfl rfl rfl rfl rfl (Nat.le_of_ble_eq_true rfl) (Nat.le_of_ble_eq_true rfl) (Nat.le_of_ble_eq_true rfl) ⟨Nat.le_refl _, Nat.le_refl _⟩ ?_
    show xV (j10_shut) X 0 0 (hM (0 : Int32) c_told c_read c_many c_eights c_gains c_notes c_seen c_turns c_drawn c_state c_tape c_taped c_size c_from c_next c_token c_value c_fault c_number c_fives c_isLeft c_wentTimes c_goes c_isLeftLaid c_game c_rows c_columns c_isFound c_bestValue c_bestBelow c_bestShare c_share c_matrix c_system c_shares c_allShares) 19 [(0, .ref 0), (1, .int x1)] [.int v16]
    refine xV_istore_n (L' := [(2, .int v16), (0, .ref 0), (1, .int x1)]) 20 rfl dX10_shut_19 rfl (xlt rfl) rfl ?_
    refine xV_aload_n 21 rfl dX10_shut_20 rfl 1 rfl ?_
    refine xV_get (v := .ref 1) 24 rfl dX10_shut_21 f10_17 rfl rfl ?_
    refine xV_iload_n 25 rfl dX10_shut_24 rfl 2 rfl ?_
    refine xV_iconst 26 rfl dX10_shut_25 xk_i0 ?_
    obtain ⟨v26, hv26, hf⟩ := xb_s hf
    refine xV_st0 (rest := [.ref 1]) 29 rfl dX10_shut_26 rfl (C10_at X.1.2.1 hv26) m10_at s10_at k10_109 rfl (Nat.le_of_ble_eq_true rfl) (Nat.le_of_ble_eq_true rfl) (Nat.le_of_ble_eq_true rfl) ⟨Nat.le_refl _, Nat.le_refl _⟩ ?_
    show xV (j10_shut) X 0 0 (hM (0 : Int32) c_told c_read c_many c_eights c_gains c_notes c_seen c_turns c_drawn c_state c_tape c_taped c_size c_from c_next c_token c_value c_fault c_number c_fives c_isLeft c_wentTimes c_goes c_isLeftLaid c_game c_rows c_columns c_isFound c_bestValue c_bestBelow c_bestShare c_share c_matrix c_system c_shares c_allShares) 29 [(2, .int v16), (0, .ref 0), (1, .int x1)] [.int v26, .ref 1]
    refine xV_iconst 30 rfl dX10_shut_29 xk_i0 ?_
    obtain ⟨hg30, hf⟩ := xg_s hf
    refine xV_iastore (h' := (hM (0 : Int32) (upd c_told (xn v26) (0 : Int32)) c_read c_many c_eights c_gains c_notes c_seen c_turns c_drawn c_state c_tape c_taped c_size c_from c_next c_token c_value c_fault c_number c_fives c_isLeft c_wentTimes c_goes c_isLeftLaid c_game c_rows c_columns c_isFound c_bestValue c_bestBelow c_bestShare c_share c_matrix c_system c_shares c_allShares)) 31 rfl dX10_shut_30 rfl (xin_ok hg30) rfl rfl ?_
    refine xV_iload_n 32 rfl dX10_shut_31 rfl 0 rfl ?_
    obtain rfl := Option.some.inj hf
    exact xV_iret hX dX10_shut_32 rfl (Nat.zero_le _) (Nat.zero_le _)
  · have hf := xif_t hf h9
    refine xV_iconst 13 rfl dX10_shut_12 xk_im1 ?_
    obtain rfl := Option.some.inj hf
    exact xV_iret hX dX10_shut_13 rfl (Nat.zero_le _) (Nat.zero_le _)
theorem C10_shut (l : Launch) {x1 : Int32} {c_thrown : Int32} {c_told : (Nat → Int32)} {c_read : (Nat → Int32)} {c_many : (Nat → Int32)} {c_eights : (Nat → Int32)} {c_gains : (Nat → Int32)} {c_notes : (Nat → Int32)} {c_seen : (Nat → Int32)} {c_turns : (Nat → Int32)} {c_drawn : (Nat → Int32)} {c_state : Int32} {c_tape : (Nat → Int32)} {c_taped : Int32} {c_size : Int32} {c_from : Int32} {c_next : Int32} {c_token : Int32} {c_value : Int32} {c_fault : Int32} {c_number : Int32} {c_fives : (Nat → Int32)} {c_isLeft : (Nat → Int32)} {c_wentTimes : Int32} {c_goes : (Nat → Int32)} {c_isLeftLaid : Int32} {c_game : (Nat → Int32)} {c_rows : Int32} {c_columns : Int32} {c_isFound : Int32} {c_bestValue : Int64} {c_bestBelow : Int64} {c_bestShare : (Nat → Int64)} {c_share : (Nat → Int64)} {c_matrix : (Nat → Int64)} {c_system : (Nat → Int64)} {c_shares : (Nat → Int32)} {c_allShares : Int32} {v : Int32 × Int32 × (Nat → Int32)} (hf : F10_shut x1 c_thrown c_told = some v) : xCt l yX10_shut ((some .int)) j10_shut [.ref 0, .int x1] (hM c_thrown c_told c_read c_many c_eights c_gains c_notes c_seen c_turns c_drawn c_state c_tape c_taped c_size c_from c_next c_token c_value c_fault c_number c_fives c_isLeft c_wentTimes c_goes c_isLeftLaid c_game c_rows c_columns c_isFound c_bestValue c_bestBelow c_bestShare c_share c_matrix c_system c_shares c_allShares) (some (.int v.1)) (hM v.2.1 v.2.2 c_read c_many c_eights c_gains c_notes c_seen c_turns c_drawn c_state c_tape c_taped c_size c_from c_next c_token c_value c_fault c_number c_fives c_isLeft c_wentTimes c_goes c_isLeftLaid c_game c_rows c_columns c_isFound c_bestValue c_bestBelow c_bestShare c_share c_matrix c_system c_shares c_allShares) := xCt_of (by decide) rfl (Nat.le_of_ble_eq_true rfl) (fun _ hX => T10_shut hX hf)
theorem m10_shut : xMd yX10_shut RX10 ((some .int)) j10_shut 1 := ⟨List.mem_of_getElem? (i := 832) (by decide +kernel), List.mem_of_getElem? (i := 5) (by decide +kernel), rfl, by decide +kernel⟩
theorem v10_shut : xMv yX10_shut RX10 := ⟨List.mem_of_getElem? (i := 830) (by decide +kernel), List.mem_of_getElem? (i := 831) (by decide +kernel)⟩
theorem dX10_book_0 : decode cX10_book 0 = .ok (.aload_n 0, 1) := by decide +kernel
theorem dX10_book_1 : decode cX10_book 1 = .ok (.iconst 0, 1) := by decide +kernel
theorem dX10_book_2 : decode cX10_book 2 = .ok (.putfield 1, 3) := by decide +kernel
theorem dX10_book_5 : decode cX10_book 5 = .ok (.iload_n 1, 1) := by decide +kernel
theorem dX10_book_6 : decode cX10_book 6 = .ok (.invokestatic 105, 3) := by decide +kernel
theorem dX10_book_9 : decode cX10_book 9 = .ok (.ifCond .eq 17, 3) := by decide +kernel
theorem dX10_book_12 : decode cX10_book 12 = .ok (.iload_n 2, 1) := by decide +kernel
theorem dX10_book_13 : decode cX10_book 13 = .ok (.iconst (-1), 1) := by decide +kernel
theorem dX10_book_14 : decode cX10_book 14 = .ok (.if_icmp .lt 12, 3) := by decide +kernel
theorem dX10_book_17 : decode cX10_book 17 = .ok (.iload_n 2, 1) := by decide +kernel
theorem dX10_book_18 : decode cX10_book 18 = .ok (.aload_n 0, 1) := by decide +kernel
theorem dX10_book_19 : decode cX10_book 19 = .ok (.iload_n 1, 1) := by decide +kernel
theorem dX10_book_20 : decode cX10_book 20 = .ok (.invokevirtual 259, 3) := by decide +kernel
theorem dX10_book_23 : decode cX10_book 23 = .ok (.if_icmp .lt 5, 3) := by decide +kernel
theorem dX10_book_26 : decode cX10_book 26 = .ok (.iconst (-1), 1) := by decide +kernel
theorem dX10_book_27 : decode cX10_book 27 = .ok (.ireturn, 1) := by decide +kernel
theorem dX10_book_28 : decode cX10_book 28 = .ok (.iload_n 2, 1) := by decide +kernel
theorem dX10_book_29 : decode cX10_book 29 = .ok (.iconst (-1), 1) := by decide +kernel
theorem dX10_book_30 : decode cX10_book 30 = .ok (.if_icmp .ne 11, 3) := by decide +kernel
theorem dX10_book_33 : decode cX10_book 33 = .ok (.aload_n 0, 1) := by decide +kernel
theorem dX10_book_34 : decode cX10_book 34 = .ok (.iload_n 1, 1) := by decide +kernel
theorem dX10_book_35 : decode cX10_book 35 = .ok (.invokevirtual 259, 3) := by decide +kernel
theorem dX10_book_38 : decode cX10_book 38 = .ok (.goto 9, 3) := by decide +kernel
theorem dX10_book_41 : decode cX10_book 41 = .ok (.aload_n 0, 1) := by decide +kernel
theorem dX10_book_42 : decode cX10_book 42 = .ok (.iload_n 1, 1) := by decide +kernel
theorem dX10_book_43 : decode cX10_book 43 = .ok (.iload_n 2, 1) := by decide +kernel
theorem dX10_book_44 : decode cX10_book 44 = .ok (.invokevirtual 266, 3) := by decide +kernel
theorem dX10_book_47 : decode cX10_book 47 = .ok (.ireturn, 1) := by decide +kernel
abbrev j10_book : xJ := (cX10_book, 3, RX10, 4, 0, 0)
def F10_book (z : Nat) (x1 : Int32) (x2 : Int32) (c_thrown : Int32) (c_told : (Nat → Int32)) (c_many : (Nat → Int32)) (c_eights : (Nat → Int32)) : Option (Int32 × Int32) :=
  (F10_isSide x1).bind (fun v6 => if v6 = 0 then (some ((-1 : Int32), (0 : Int32))) else (if x2 < (-1 : Int32) then (some ((-1 : Int32), (0 : Int32))) else ((F10_booked x1 c_told).bind (fun v20 => if x2 < v20 then (if x2 = (-1 : Int32) then ((F10_booked x1 c_told).bind (fun v35 => some (v35, (0 : Int32)))) else ((F10_bookAt z x1 x2 c_told c_many c_eights).bind (fun v44 => some (v44, (0 : Int32))))) else (some ((-1 : Int32), (0 : Int32)))))))
theorem T10_book {X : xX} {z : Nat} {x1 : Int32} {x2 : Int32} {c_thrown : Int32} {c_told : (Nat → Int32)} {c_many : (Nat → Int32)} {c_eights : (Nat → Int32)} {c_read : (Nat → Int32)} {c_gains : (Nat → Int32)} {c_notes : (Nat → Int32)} {c_seen : (Nat → Int32)} {c_turns : (Nat → Int32)} {c_drawn : (Nat → Int32)} {c_state : Int32} {c_tape : (Nat → Int32)} {c_taped : Int32} {c_size : Int32} {c_from : Int32} {c_next : Int32} {c_token : Int32} {c_value : Int32} {c_fault : Int32} {c_number : Int32} {c_fives : (Nat → Int32)} {c_isLeft : (Nat → Int32)} {c_wentTimes : Int32} {c_goes : (Nat → Int32)} {c_isLeftLaid : Int32} {c_game : (Nat → Int32)} {c_rows : Int32} {c_columns : Int32} {c_isFound : Int32} {c_bestValue : Int64} {c_bestBelow : Int64} {c_bestShare : (Nat → Int64)} {c_share : (Nat → Int64)} {c_matrix : (Nat → Int64)} {c_system : (Nat → Int64)} {c_shares : (Nat → Int32)} {c_allShares : Int32} {v : Int32 × Int32} (hX : xIs (j10_book) X ((some .int)) (some (.int v.1)) (hM v.2 c_told c_read c_many c_eights c_gains c_notes c_seen c_turns c_drawn c_state c_tape c_taped c_size c_from c_next c_token c_value c_fault c_number c_fives c_isLeft c_wentTimes c_goes c_isLeftLaid c_game c_rows c_columns c_isFound c_bestValue c_bestBelow c_bestShare c_share c_matrix c_system c_shares c_allShares)) (hf : F10_book z x1 x2 c_thrown c_told c_many c_eights = some v) : xV (j10_book) X 0 0 (hM c_thrown c_told c_read c_many c_eights c_gains c_notes c_seen c_turns c_drawn c_state c_tape c_taped c_size c_from c_next c_token c_value c_fault c_number c_fives c_isLeft c_wentTimes c_goes c_isLeftLaid c_game c_rows c_columns c_isFound c_bestValue c_bestBelow c_bestShare c_share c_matrix c_system c_shares c_allShares) 0 [(0, .ref 0), (1, .int x1), (2, .int x2)] [] := by
  unfold F10_book at hf
  refine xV_aload_n 1 rfl dX10_book_0 rfl 0 rfl ?_
  refine xV_iconst 2 rfl dX10_book_1 xk_i0 ?_
  refine xV_put (h' := (hM (0 : Int32) c_told c_read c_many c_eights c_gains c_notes c_seen c_turns c_drawn c_state c_tape c_taped c_size c_from c_next c_token c_value c_fault c_number c_fives c_isLeft c_wentTimes c_goes c_isLeftLaid c_game c_rows c_columns c_isFound c_bestValue c_bestBelow c_bestShare c_share c_matrix c_system c_shares c_allShares)) 5 rfl dX10_book_2 f10_1 rfl nf10_0 (fun _ => rfl) (fun _ => rfl) (Nat.le_of_ble_eq_true rfl) rfl ?_
  refine xV_iload_n 6 rfl dX10_book_5 rfl 1 rfl ?_
  obtain ⟨v6, hv6, hf⟩ := xb_s hf
  refine xV_st0 (rest := []) 9 rfl dX10_book_6 rfl (C10_isSide X.1.2.1 hv6) m10_isSide s10_isSide k10_105 rfl (Nat.le_of_ble_eq_true rfl) (Nat.le_of_ble_eq_true rfl) (Nat.le_of_ble_eq_true rfl) ⟨Nat.le_refl _, Nat.le_refl _⟩ ?_
  show xV (j10_book) X 0 0 (hM (0 : Int32) c_told c_read c_many c_eights c_gains c_notes c_seen c_turns c_drawn c_state c_tape c_taped c_size c_from c_next c_token c_value c_fault c_number c_fives c_isLeft c_wentTimes c_goes c_isLeftLaid c_game c_rows c_columns c_isFound c_bestValue c_bestBelow c_bestShare c_share c_matrix c_system c_shares c_allShares) 9 [(0, .ref 0), (1, .int x1), (2, .int x2)] [.int v6]
  refine xV_if_eq (tgt := 26) 12 rfl dX10_book_9 (by decide) (fun h9 => ?_) (fun h9 => ?_)
  · have hf := xif_t hf h9
    refine xV_iconst 27 rfl dX10_book_26 xk_im1 ?_
    obtain rfl := Option.some.inj hf
    exact xV_iret hX dX10_book_27 rfl (Nat.zero_le _) (Nat.zero_le _)
  · have hf := xif_f hf h9
    refine xV_iload_n 13 rfl dX10_book_12 rfl 2 rfl ?_
    refine xV_iconst 14 rfl dX10_book_13 xk_im1 ?_
    refine xV_icmp_lt (tgt := 26) 17 rfl dX10_book_14 (by decide) (fun h14 => ?_) (fun h14 => ?_)
    · have hf := xif_t hf h14
      refine xV_iconst 27 rfl dX10_book_26 xk_im1 ?_
      obtain rfl := Option.some.inj hf
      exact xV_iret hX dX10_book_27 rfl (Nat.zero_le _) (Nat.zero_le _)
    · have hf := xif_f hf h14
      refine xV_iload_n 18 rfl dX10_book_17 rfl 2 rfl ?_
      refine xV_aload_n 19 rfl dX10_book_18 rfl 0 rfl ?_
      refine xV_iload_n 20 rfl dX10_book_19 rfl 1 rfl ?_
      obtain ⟨v20, hv20, hf⟩ := xb_s hf
      refine xV_same (rest := [.int x2]) 23 rfl dX10_book_20 rfl (C10_booked X.1.2.1 hv20) m10_booked v10_booked k10_259 rfl rfl rfl rfl rfl (Nat.le_of_ble_eq_true rfl) (Nat.le_of_ble_eq_true rfl) (Nat.le_of_ble_eq_true rfl) ⟨Nat.le_refl _, Nat.le_refl _⟩ ?_
      show xV (j10_book) X 0 0 (hM (0 : Int32) c_told c_read c_many c_eights c_gains c_notes c_seen c_turns c_drawn c_state c_tape c_taped c_size c_from c_next c_token c_value c_fault c_number c_fives c_isLeft c_wentTimes c_goes c_isLeftLaid c_game c_rows c_columns c_isFound c_bestValue c_bestBelow c_bestShare c_share c_matrix c_system c_shares c_allShares) 23 [(0, .ref 0), (1, .int x1), (2, .int x2)] [.int v20, .int x2]
      refine xV_icmp_lt (tgt := 28) 26 rfl dX10_book_23 (by decide) (fun h23 => ?_) (fun h23 => ?_)
      · have hf := xif_t hf h23
        refine xV_iload_n 29 rfl dX10_book_28 rfl 2 rfl ?_
        refine xV_iconst 30 rfl dX10_book_29 xk_im1 ?_
        refine xV_icmp_ne (tgt := 41) 33 rfl dX10_book_30 (by decide) (fun h30 => ?_) (fun h30 => ?_)
        · have hf := xif_f hf h30
          refine xV_aload_n 42 rfl dX10_book_41 rfl 0 rfl ?_
          refine xV_iload_n 43 rfl dX10_book_42 rfl 1 rfl ?_
          refine xV_iload_n 44 rfl dX10_book_43 rfl 2 rfl ?_
          obtain ⟨v44, hv44, hf⟩ := xb_s hf
          refine xV_same (rest := []) 47 rfl dX10_book_44 rfl (C10_bookAt X.1.2.1 hv44) m10_bookAt v10_bookAt k10_266 rfl rfl rfl rfl rfl (Nat.le_of_ble_eq_true rfl) (Nat.le_of_ble_eq_true rfl) (Nat.le_of_ble_eq_true rfl) ⟨Nat.le_refl _, Nat.le_refl _⟩ ?_
          show xV (j10_book) X 0 0 (hM (0 : Int32) c_told c_read c_many c_eights c_gains c_notes c_seen c_turns c_drawn c_state c_tape c_taped c_size c_from c_next c_token c_value c_fault c_number c_fives c_isLeft c_wentTimes c_goes c_isLeftLaid c_game c_rows c_columns c_isFound c_bestValue c_bestBelow c_bestShare c_share c_matrix c_system c_shares c_allShares) 47 [(0, .ref 0), (1, .int x1), (2, .int x2)] [.int v44]
          obtain rfl := Option.some.inj hf
          exact xV_iret hX dX10_book_47 rfl (Nat.zero_le _) (Nat.zero_le _)
        · have hf := xif_t hf h30
          refine xV_aload_n 34 rfl dX10_book_33 rfl 0 rfl ?_
          refine xV_iload_n 35 rfl dX10_book_34 rfl 1 rfl ?_
          obtain ⟨v35, hv35, hf⟩ := xb_s hf
          refine xV_same (rest := []) 38 rfl dX10_book_35 rfl (C10_booked X.1.2.1 hv35) m10_booked v10_booked k10_259 rfl rfl rfl rfl rfl (Nat.le_of_ble_eq_true rfl) (Nat.le_of_ble_eq_true rfl) (Nat.le_of_ble_eq_true rfl) ⟨Nat.le_refl _, Nat.le_refl _⟩ ?_
          show xV (j10_book) X 0 0 (hM (0 : Int32) c_told c_read c_many c_eights c_gains c_notes c_seen c_turns c_drawn c_state c_tape c_taped c_size c_from c_next c_token c_value c_fault c_number c_fives c_isLeft c_wentTimes c_goes c_isLeftLaid c_game c_rows c_columns c_isFound c_bestValue c_bestBelow c_bestShare c_share c_matrix c_system c_shares c_allShares) 38 [(0, .ref 0), (1, .int x1), (2, .int x2)] [.int v35]
          refine xV_goto (tgt := 47) dX10_book_38 (by decide) ?_
          obtain rfl := Option.some.inj hf
          exact xV_iret hX dX10_book_47 rfl (Nat.zero_le _) (Nat.zero_le _)
      · have hf := xif_f hf h23
        refine xV_iconst 27 rfl dX10_book_26 xk_im1 ?_
        obtain rfl := Option.some.inj hf
        exact xV_iret hX dX10_book_27 rfl (Nat.zero_le _) (Nat.zero_le _)
theorem C10_book (l : Launch) {z : Nat} {x1 : Int32} {x2 : Int32} {c_thrown : Int32} {c_told : (Nat → Int32)} {c_many : (Nat → Int32)} {c_eights : (Nat → Int32)} {c_read : (Nat → Int32)} {c_gains : (Nat → Int32)} {c_notes : (Nat → Int32)} {c_seen : (Nat → Int32)} {c_turns : (Nat → Int32)} {c_drawn : (Nat → Int32)} {c_state : Int32} {c_tape : (Nat → Int32)} {c_taped : Int32} {c_size : Int32} {c_from : Int32} {c_next : Int32} {c_token : Int32} {c_value : Int32} {c_fault : Int32} {c_number : Int32} {c_fives : (Nat → Int32)} {c_isLeft : (Nat → Int32)} {c_wentTimes : Int32} {c_goes : (Nat → Int32)} {c_isLeftLaid : Int32} {c_game : (Nat → Int32)} {c_rows : Int32} {c_columns : Int32} {c_isFound : Int32} {c_bestValue : Int64} {c_bestBelow : Int64} {c_bestShare : (Nat → Int64)} {c_share : (Nat → Int64)} {c_matrix : (Nat → Int64)} {c_system : (Nat → Int64)} {c_shares : (Nat → Int32)} {c_allShares : Int32} {v : Int32 × Int32} (hf : F10_book z x1 x2 c_thrown c_told c_many c_eights = some v) : xCt l yX10_book ((some .int)) j10_book [.ref 0, .int x1, .int x2] (hM c_thrown c_told c_read c_many c_eights c_gains c_notes c_seen c_turns c_drawn c_state c_tape c_taped c_size c_from c_next c_token c_value c_fault c_number c_fives c_isLeft c_wentTimes c_goes c_isLeftLaid c_game c_rows c_columns c_isFound c_bestValue c_bestBelow c_bestShare c_share c_matrix c_system c_shares c_allShares) (some (.int v.1)) (hM v.2 c_told c_read c_many c_eights c_gains c_notes c_seen c_turns c_drawn c_state c_tape c_taped c_size c_from c_next c_token c_value c_fault c_number c_fives c_isLeft c_wentTimes c_goes c_isLeftLaid c_game c_rows c_columns c_isFound c_bestValue c_bestBelow c_bestShare c_share c_matrix c_system c_shares c_allShares) := xCt_of (by decide) rfl (Nat.le_of_ble_eq_true rfl) (fun _ hX => T10_book hX hf)
theorem m10_book : xMd yX10_book RX10 ((some .int)) j10_book 2 := ⟨List.mem_of_getElem? (i := 841) (by decide +kernel), List.mem_of_getElem? (i := 5) (by decide +kernel), rfl, by decide +kernel⟩
theorem v10_book : xMv yX10_book RX10 := ⟨List.mem_of_getElem? (i := 839) (by decide +kernel), List.mem_of_getElem? (i := 840) (by decide +kernel)⟩
theorem dX10_areBooks_0 : decode cX10_areBooks 0 = .ok (.aload_n 0, 1) := by decide +kernel
theorem dX10_areBooks_1 : decode cX10_areBooks 1 = .ok (.iconst 0, 1) := by decide +kernel
theorem dX10_areBooks_2 : decode cX10_areBooks 2 = .ok (.invokevirtual 259, 3) := by decide +kernel
theorem dX10_areBooks_5 : decode cX10_areBooks 5 = .ok (.ifCond .le 15, 3) := by decide +kernel
theorem dX10_areBooks_8 : decode cX10_areBooks 8 = .ok (.aload_n 0, 1) := by decide +kernel
theorem dX10_areBooks_9 : decode cX10_areBooks 9 = .ok (.iconst 1, 1) := by decide +kernel
theorem dX10_areBooks_10 : decode cX10_areBooks 10 = .ok (.invokevirtual 259, 3) := by decide +kernel
theorem dX10_areBooks_13 : decode cX10_areBooks 13 = .ok (.ifCond .le 7, 3) := by decide +kernel
theorem dX10_areBooks_16 : decode cX10_areBooks 16 = .ok (.iconst 1, 1) := by decide +kernel
theorem dX10_areBooks_17 : decode cX10_areBooks 17 = .ok (.goto 4, 3) := by decide +kernel
theorem dX10_areBooks_20 : decode cX10_areBooks 20 = .ok (.iconst 0, 1) := by decide +kernel
theorem dX10_areBooks_21 : decode cX10_areBooks 21 = .ok (.ireturn, 1) := by decide +kernel
abbrev j10_areBooks : xJ := (cX10_areBooks, 1, RX10, 3, 0, 0)
def F10_areBooks (c_told : (Nat → Int32)) : Option (Int32) :=
  (F10_booked (0 : Int32) c_told).bind (fun v2 => if v2 ≤ 0 then (some ((0 : Int32))) else ((F10_booked (1 : Int32) c_told).bind (fun v10 => if v10 ≤ 0 then (some ((0 : Int32))) else (some ((1 : Int32))))))
theorem T10_areBooks {X : xX} {c_told : (Nat → Int32)} {c_thrown : Int32} {c_read : (Nat → Int32)} {c_many : (Nat → Int32)} {c_eights : (Nat → Int32)} {c_gains : (Nat → Int32)} {c_notes : (Nat → Int32)} {c_seen : (Nat → Int32)} {c_turns : (Nat → Int32)} {c_drawn : (Nat → Int32)} {c_state : Int32} {c_tape : (Nat → Int32)} {c_taped : Int32} {c_size : Int32} {c_from : Int32} {c_next : Int32} {c_token : Int32} {c_value : Int32} {c_fault : Int32} {c_number : Int32} {c_fives : (Nat → Int32)} {c_isLeft : (Nat → Int32)} {c_wentTimes : Int32} {c_goes : (Nat → Int32)} {c_isLeftLaid : Int32} {c_game : (Nat → Int32)} {c_rows : Int32} {c_columns : Int32} {c_isFound : Int32} {c_bestValue : Int64} {c_bestBelow : Int64} {c_bestShare : (Nat → Int64)} {c_share : (Nat → Int64)} {c_matrix : (Nat → Int64)} {c_system : (Nat → Int64)} {c_shares : (Nat → Int32)} {c_allShares : Int32} {v : Int32} (hX : xIs (j10_areBooks) X ((some .boolean)) (some (.int v)) (hM c_thrown c_told c_read c_many c_eights c_gains c_notes c_seen c_turns c_drawn c_state c_tape c_taped c_size c_from c_next c_token c_value c_fault c_number c_fives c_isLeft c_wentTimes c_goes c_isLeftLaid c_game c_rows c_columns c_isFound c_bestValue c_bestBelow c_bestShare c_share c_matrix c_system c_shares c_allShares)) (hf : F10_areBooks c_told = some v) : xV (j10_areBooks) X 0 0 (hM c_thrown c_told c_read c_many c_eights c_gains c_notes c_seen c_turns c_drawn c_state c_tape c_taped c_size c_from c_next c_token c_value c_fault c_number c_fives c_isLeft c_wentTimes c_goes c_isLeftLaid c_game c_rows c_columns c_isFound c_bestValue c_bestBelow c_bestShare c_share c_matrix c_system c_shares c_allShares) 0 [(0, .ref 0)] [] := by
  unfold F10_areBooks at hf
  refine xV_aload_n 1 rfl dX10_areBooks_0 rfl 0 rfl ?_
  refine xV_iconst 2 rfl dX10_areBooks_1 xk_i0 ?_
  obtain ⟨v2, hv2, hf⟩ := xb_s hf
  refine xV_same (rest := []) 5 rfl dX10_areBooks_2 rfl (C10_booked X.1.2.1 hv2) m10_booked v10_booked k10_259 rfl rfl rfl rfl rfl (Nat.le_of_ble_eq_true rfl) (Nat.le_of_ble_eq_true rfl) (Nat.le_of_ble_eq_true rfl) ⟨Nat.le_refl _, Nat.le_refl _⟩ ?_
  show xV (j10_areBooks) X 0 0 (hM c_thrown c_told c_read c_many c_eights c_gains c_notes c_seen c_turns c_drawn c_state c_tape c_taped c_size c_from c_next c_token c_value c_fault c_number c_fives c_isLeft c_wentTimes c_goes c_isLeftLaid c_game c_rows c_columns c_isFound c_bestValue c_bestBelow c_bestShare c_share c_matrix c_system c_shares c_allShares) 5 [(0, .ref 0)] [.int v2]
  refine xV_if_le (tgt := 20) 8 rfl dX10_areBooks_5 (by decide) (fun h5 => ?_) (fun h5 => ?_)
  · have hf := xif_t hf h5
    refine xV_iconst 21 rfl dX10_areBooks_20 xk_i0 ?_
    obtain rfl := Option.some.inj hf
    exact xV_iret hX dX10_areBooks_21 (xbo_ok rfl) (Nat.zero_le _) (Nat.zero_le _)
  · have hf := xif_f hf h5
    refine xV_aload_n 9 rfl dX10_areBooks_8 rfl 0 rfl ?_
    refine xV_iconst 10 rfl dX10_areBooks_9 xk_i1 ?_
    obtain ⟨v10, hv10, hf⟩ := xb_s hf
    refine xV_same (rest := []) 13 rfl dX10_areBooks_10 rfl (C10_booked X.1.2.1 hv10) m10_booked v10_booked k10_259 rfl rfl rfl rfl rfl (Nat.le_of_ble_eq_true rfl) (Nat.le_of_ble_eq_true rfl) (Nat.le_of_ble_eq_true rfl) ⟨Nat.le_refl _, Nat.le_refl _⟩ ?_
    show xV (j10_areBooks) X 0 0 (hM c_thrown c_told c_read c_many c_eights c_gains c_notes c_seen c_turns c_drawn c_state c_tape c_taped c_size c_from c_next c_token c_value c_fault c_number c_fives c_isLeft c_wentTimes c_goes c_isLeftLaid c_game c_rows c_columns c_isFound c_bestValue c_bestBelow c_bestShare c_share c_matrix c_system c_shares c_allShares) 13 [(0, .ref 0)] [.int v10]
    refine xV_if_le (tgt := 20) 16 rfl dX10_areBooks_13 (by decide) (fun h13 => ?_) (fun h13 => ?_)
    · have hf := xif_t hf h13
      refine xV_iconst 21 rfl dX10_areBooks_20 xk_i0 ?_
      obtain rfl := Option.some.inj hf
      exact xV_iret hX dX10_areBooks_21 (xbo_ok rfl) (Nat.zero_le _) (Nat.zero_le _)
    · have hf := xif_f hf h13
      refine xV_iconst 17 rfl dX10_areBooks_16 xk_i1 ?_
      refine xV_goto (tgt := 21) dX10_areBooks_17 (by decide) ?_
      obtain rfl := Option.some.inj hf
      exact xV_iret hX dX10_areBooks_21 (xbo_ok rfl) (Nat.zero_le _) (Nat.zero_le _)
theorem C10_areBooks (l : Launch) {c_told : (Nat → Int32)} {c_thrown : Int32} {c_read : (Nat → Int32)} {c_many : (Nat → Int32)} {c_eights : (Nat → Int32)} {c_gains : (Nat → Int32)} {c_notes : (Nat → Int32)} {c_seen : (Nat → Int32)} {c_turns : (Nat → Int32)} {c_drawn : (Nat → Int32)} {c_state : Int32} {c_tape : (Nat → Int32)} {c_taped : Int32} {c_size : Int32} {c_from : Int32} {c_next : Int32} {c_token : Int32} {c_value : Int32} {c_fault : Int32} {c_number : Int32} {c_fives : (Nat → Int32)} {c_isLeft : (Nat → Int32)} {c_wentTimes : Int32} {c_goes : (Nat → Int32)} {c_isLeftLaid : Int32} {c_game : (Nat → Int32)} {c_rows : Int32} {c_columns : Int32} {c_isFound : Int32} {c_bestValue : Int64} {c_bestBelow : Int64} {c_bestShare : (Nat → Int64)} {c_share : (Nat → Int64)} {c_matrix : (Nat → Int64)} {c_system : (Nat → Int64)} {c_shares : (Nat → Int32)} {c_allShares : Int32} {v : Int32} (hf : F10_areBooks c_told = some v) : xCt l yX10_areBooks ((some .boolean)) j10_areBooks [.ref 0] (hM c_thrown c_told c_read c_many c_eights c_gains c_notes c_seen c_turns c_drawn c_state c_tape c_taped c_size c_from c_next c_token c_value c_fault c_number c_fives c_isLeft c_wentTimes c_goes c_isLeftLaid c_game c_rows c_columns c_isFound c_bestValue c_bestBelow c_bestShare c_share c_matrix c_system c_shares c_allShares) (some (.int v)) (hM c_thrown c_told c_read c_many c_eights c_gains c_notes c_seen c_turns c_drawn c_state c_tape c_taped c_size c_from c_next c_token c_value c_fault c_number c_fives c_isLeft c_wentTimes c_goes c_isLeftLaid c_game c_rows c_columns c_isFound c_bestValue c_bestBelow c_bestShare c_share c_matrix c_system c_shares c_allShares) := xCt_of (by decide) rfl (Nat.le_of_ble_eq_true rfl) (fun _ hX => T10_areBooks hX hf)
theorem m10_areBooks : xMd yX10_areBooks RX10 ((some .boolean)) j10_areBooks 0 := ⟨List.mem_of_getElem? (i := 928) (by decide +kernel), List.mem_of_getElem? (i := 5) (by decide +kernel), rfl, by decide +kernel⟩
theorem v10_areBooks : xMv yX10_areBooks RX10 := ⟨List.mem_of_getElem? (i := 926) (by decide +kernel), List.mem_of_getElem? (i := 927) (by decide +kernel)⟩
theorem k10_315 : Cond.methodLink RX10 315 yX10_areBooks ∈ wsL_law0 := List.mem_of_getElem? (i := 925) (by decide +kernel)
theorem k10_318 : Cond.methodLink RX10 318 yX10_laysGame ∈ wsL_law0 := List.mem_of_getElem? (i := 929) (by decide +kernel)
theorem k10_321 : Cond.methodLink RX10 321 yX10_solves ∈ wsL_law0 := List.mem_of_getElem? (i := 939) (by decide +kernel)
theorem k10_324 : Cond.methodLink RX10 324 yX10_term ∈ wsL_law0 := List.mem_of_getElem? (i := 974) (by decide +kernel)
theorem dX10_value_0 : decode cX10_value 0 = .ok (.aload_n 0, 1) := by decide +kernel
theorem dX10_value_1 : decode cX10_value 1 = .ok (.iconst 0, 1) := by decide +kernel
theorem dX10_value_2 : decode cX10_value 2 = .ok (.putfield 1, 3) := by decide +kernel
theorem dX10_value_5 : decode cX10_value 5 = .ok (.iload_n 1, 1) := by decide +kernel
theorem dX10_value_6 : decode cX10_value 6 = .ok (.iconst 0, 1) := by decide +kernel
theorem dX10_value_7 : decode cX10_value 7 = .ok (.iconst 1, 1) := by decide +kernel
theorem dX10_value_8 : decode cX10_value 8 = .ok (.invokestatic 7, 3) := by decide +kernel
theorem dX10_value_11 : decode cX10_value 11 = .ok (.ifCond .eq 10, 3) := by decide +kernel
theorem dX10_value_14 : decode cX10_value 14 = .ok (.aload_n 0, 1) := by decide +kernel
theorem dX10_value_15 : decode cX10_value 15 = .ok (.invokevirtual 315, 3) := by decide +kernel
theorem dX10_value_18 : decode cX10_value 18 = .ok (.ifCond .ne 6, 3) := by decide +kernel
theorem dX10_value_21 : decode cX10_value 21 = .ok (.bipush (-100), 2) := by decide +kernel
theorem dX10_value_23 : decode cX10_value 23 = .ok (.ireturn, 1) := by decide +kernel
theorem dX10_value_24 : decode cX10_value 24 = .ok (.aload_n 0, 1) := by decide +kernel
theorem dX10_value_25 : decode cX10_value 25 = .ok (.iconst 0, 1) := by decide +kernel
theorem dX10_value_26 : decode cX10_value 26 = .ok (.iconst (-1), 1) := by decide +kernel
theorem dX10_value_27 : decode cX10_value 27 = .ok (.iconst (-1), 1) := by decide +kernel
theorem dX10_value_28 : decode cX10_value 28 = .ok (.iconst (-1), 1) := by decide +kernel
theorem dX10_value_29 : decode cX10_value 29 = .ok (.invokevirtual 318, 3) := by decide +kernel
theorem dX10_value_32 : decode cX10_value 32 = .ok (.aload_n 0, 1) := by decide +kernel
theorem dX10_value_33 : decode cX10_value 33 = .ok (.invokevirtual 321, 3) := by decide +kernel
theorem dX10_value_36 : decode cX10_value 36 = .ok (.aload_n 0, 1) := by decide +kernel
theorem dX10_value_37 : decode cX10_value 37 = .ok (.getfield 295, 3) := by decide +kernel
theorem dX10_value_40 : decode cX10_value 40 = .ok (.aload_n 0, 1) := by decide +kernel
theorem dX10_value_41 : decode cX10_value 41 = .ok (.getfield 299, 3) := by decide +kernel
theorem dX10_value_44 : decode cX10_value 44 = .ok (.iload_n 1, 1) := by decide +kernel
theorem dX10_value_45 : decode cX10_value 45 = .ok (.invokestatic 324, 3) := by decide +kernel
theorem dX10_value_48 : decode cX10_value 48 = .ok (.ireturn, 1) := by decide +kernel
abbrev j10_value : xJ := (cX10_value, 2, RX10, 6, 0, 0)
def F10_value (z : Nat) (x1 : Int32) (c_thrown : Int32) (c_told : (Nat → Int32)) (c_many : (Nat → Int32)) (c_eights : (Nat → Int32)) (c_gains : (Nat → Int32)) (c_game : (Nat → Int32)) (c_rows : Int32) (c_columns : Int32) (c_isFound : Int32) (c_bestValue : Int64) (c_bestBelow : Int64) (c_bestShare : (Nat → Int64)) (c_share : (Nat → Int64)) (c_matrix : (Nat → Int64)) (c_system : (Nat → Int64)) : Option (Int32 × Int32 × (Nat → Int32) × Int32 × Int32 × Int32 × Int64 × Int64 × (Nat → Int64) × (Nat → Int64) × (Nat → Int64) × (Nat → Int64)) :=
  (F10_within x1 (0 : Int32) (1 : Int32)).bind (fun v8 => if v8 = 0 then (some ((-100 : Int32), (0 : Int32), c_game, c_rows, c_columns, c_isFound, c_bestValue, c_bestBelow, c_bestShare, c_share, c_matrix, c_system)) else ((F10_areBooks c_told).bind (fun v15 => if v15 = 0 then (some ((-100 : Int32), (0 : Int32), c_game, c_rows, c_columns, c_isFound, c_bestValue, c_bestBelow, c_bestShare, c_share, c_matrix, c_system)) else ((F10_laysGame z (0 : Int32) (-1 : Int32) (-1 : Int32) (-1 : Int32) c_told c_many c_eights c_gains c_game c_rows c_columns).bind (fun v29 => (F10_solves z v29.1 v29.2.1 v29.2.2 c_isFound c_bestValue c_bestBelow c_bestShare c_share c_matrix c_system).bind (fun v33 => (F10_term z v33.2.1 v33.2.2.1 x1).bind (fun v45 => some (v45, (0 : Int32), v29.1, v29.2.1, v29.2.2, v33.1, v33.2.1, v33.2.2.1, v33.2.2.2.1, v33.2.2.2.2.1, v33.2.2.2.2.2.1, v33.2.2.2.2.2.2))))))))
theorem T10_value {X : xX} {z : Nat} {x1 : Int32} {c_thrown : Int32} {c_told : (Nat → Int32)} {c_many : (Nat → Int32)} {c_eights : (Nat → Int32)} {c_gains : (Nat → Int32)} {c_game : (Nat → Int32)} {c_rows : Int32} {c_columns : Int32} {c_isFound : Int32} {c_bestValue : Int64} {c_bestBelow : Int64} {c_bestShare : (Nat → Int64)} {c_share : (Nat → Int64)} {c_matrix : (Nat → Int64)} {c_system : (Nat → Int64)} {c_read : (Nat → Int32)} {c_notes : (Nat → Int32)} {c_seen : (Nat → Int32)} {c_turns : (Nat → Int32)} {c_drawn : (Nat → Int32)} {c_state : Int32} {c_tape : (Nat → Int32)} {c_taped : Int32} {c_size : Int32} {c_from : Int32} {c_next : Int32} {c_token : Int32} {c_value : Int32} {c_fault : Int32} {c_number : Int32} {c_fives : (Nat → Int32)} {c_isLeft : (Nat → Int32)} {c_wentTimes : Int32} {c_goes : (Nat → Int32)} {c_isLeftLaid : Int32} {c_shares : (Nat → Int32)} {c_allShares : Int32} {v : Int32 × Int32 × (Nat → Int32) × Int32 × Int32 × Int32 × Int64 × Int64 × (Nat → Int64) × (Nat → Int64) × (Nat → Int64) × (Nat → Int64)} (hX : xIs (j10_value) X ((some .int)) (some (.int v.1)) (hM v.2.1 c_told c_read c_many c_eights c_gains c_notes c_seen c_turns c_drawn c_state c_tape c_taped c_size c_from c_next c_token c_value c_fault c_number c_fives c_isLeft c_wentTimes c_goes c_isLeftLaid v.2.2.1 v.2.2.2.1 v.2.2.2.2.1 v.2.2.2.2.2.1 v.2.2.2.2.2.2.1 v.2.2.2.2.2.2.2.1 v.2.2.2.2.2.2.2.2.1 v.2.2.2.2.2.2.2.2.2.1 v.2.2.2.2.2.2.2.2.2.2.1 v.2.2.2.2.2.2.2.2.2.2.2 c_shares c_allShares)) (hf : F10_value z x1 c_thrown c_told c_many c_eights c_gains c_game c_rows c_columns c_isFound c_bestValue c_bestBelow c_bestShare c_share c_matrix c_system = some v) : xV (j10_value) X 0 0 (hM c_thrown c_told c_read c_many c_eights c_gains c_notes c_seen c_turns c_drawn c_state c_tape c_taped c_size c_from c_next c_token c_value c_fault c_number c_fives c_isLeft c_wentTimes c_goes c_isLeftLaid c_game c_rows c_columns c_isFound c_bestValue c_bestBelow c_bestShare c_share c_matrix c_system c_shares c_allShares) 0 [(0, .ref 0), (1, .int x1)] [] := by
  unfold F10_value at hf
  refine xV_aload_n 1 rfl dX10_value_0 rfl 0 rfl ?_
  refine xV_iconst 2 rfl dX10_value_1 xk_i0 ?_
  refine xV_put (h' := (hM (0 : Int32) c_told c_read c_many c_eights c_gains c_notes c_seen c_turns c_drawn c_state c_tape c_taped c_size c_from c_next c_token c_value c_fault c_number c_fives c_isLeft c_wentTimes c_goes c_isLeftLaid c_game c_rows c_columns c_isFound c_bestValue c_bestBelow c_bestShare c_share c_matrix c_system c_shares c_allShares)) 5 rfl dX10_value_2 f10_1 rfl nf10_0 (fun _ => rfl) (fun _ => rfl) (Nat.le_of_ble_eq_true rfl) rfl ?_
  refine xV_iload_n 6 rfl dX10_value_5 rfl 1 rfl ?_
  refine xV_iconst 7 rfl dX10_value_6 xk_i0 ?_
  refine xV_iconst 8 rfl dX10_value_7 xk_i1 ?_
  obtain ⟨v8, hv8, hf⟩ := xb_s hf
  refine xV_st0 (rest := []) 11 rfl dX10_value_8 rfl (C10_within X.1.2.1 hv8) m10_within s10_within k10_7 rfl (Nat.le_of_ble_eq_true rfl) (Nat.le_of_ble_eq_true rfl) (Nat.le_of_ble_eq_true rfl) ⟨Nat.le_refl _, Nat.le_refl _⟩ ?_
  show xV (j10_value) X 0 0 (hM (0 : Int32) c_told c_read c_many c_eights c_gains c_notes c_seen c_turns c_drawn c_state c_tape c_taped c_size c_from c_next c_token c_value c_fault c_number c_fives c_isLeft c_wentTimes c_goes c_isLeftLaid c_game c_rows c_columns c_isFound c_bestValue c_bestBelow c_bestShare c_share c_matrix c_system c_shares c_allShares) 11 [(0, .ref 0), (1, .int x1)] [.int v8]
  refine xV_if_eq (tgt := 21) 14 rfl dX10_value_11 (by decide) (fun h11 => ?_) (fun h11 => ?_)
  · have hf := xif_t hf h11
    refine xV_bipush 23 rfl dX10_value_21 xk_bm100 ?_
    obtain rfl := Option.some.inj hf
    exact xV_iret hX dX10_value_23 rfl (Nat.zero_le _) (Nat.zero_le _)
  · have hf := xif_f hf h11
    refine xV_aload_n 15 rfl dX10_value_14 rfl 0 rfl ?_
    obtain ⟨v15, hv15, hf⟩ := xb_s hf
    refine xV_same (rest := []) 18 rfl dX10_value_15 rfl (C10_areBooks X.1.2.1 hv15) m10_areBooks v10_areBooks k10_315 rfl rfl rfl rfl rfl (Nat.le_of_ble_eq_true rfl) (Nat.le_of_ble_eq_true rfl) (Nat.le_of_ble_eq_true rfl) ⟨Nat.le_refl _, Nat.le_refl _⟩ ?_
    show xV (j10_value) X 0 0 (hM (0 : Int32) c_told c_read c_many c_eights c_gains c_notes c_seen c_turns c_drawn c_state c_tape c_taped c_size c_from c_next c_token c_value c_fault c_number c_fives c_isLeft c_wentTimes c_goes c_isLeftLaid c_game c_rows c_columns c_isFound c_bestValue c_bestBelow c_bestShare c_share c_matrix c_system c_shares c_allShares) 18 [(0, .ref 0), (1, .int x1)] [.int v15]
    refine xV_if_ne (tgt := 24) 21 rfl dX10_value_18 (by decide) (fun h18 => ?_) (fun h18 => ?_)
    · have hf := xif_f hf h18
      refine xV_aload_n 25 rfl dX10_value_24 rfl 0 rfl ?_
      refine xV_iconst 26 rfl dX10_value_25 xk_i0 ?_
      refine xV_iconst 27 rfl dX10_value_26 xk_im1 ?_
      refine xV_iconst 28 rfl dX10_value_27 xk_im1 ?_
      refine xV_iconst 29 rfl dX10_value_28 xk_im1 ?_
      obtain ⟨v29, hv29, hf⟩ := xb_s hf
      refine xV_same (rest := []) 32 rfl dX10_value_29 rfl (C10_laysGame X.1.2.1 hv29) m10_laysGame v10_laysGame k10_318 rfl rfl rfl rfl rfl (Nat.le_of_ble_eq_true rfl) (Nat.le_of_ble_eq_true rfl) (Nat.le_of_ble_eq_true rfl) ⟨Nat.le_refl _, Nat.le_refl _⟩ ?_
      show xV (j10_value) X 0 0 (hM (0 : Int32) c_told c_read c_many c_eights c_gains c_notes c_seen c_turns c_drawn c_state c_tape c_taped c_size c_from c_next c_token c_value c_fault c_number c_fives c_isLeft c_wentTimes c_goes c_isLeftLaid v29.1 v29.2.1 v29.2.2 c_isFound c_bestValue c_bestBelow c_bestShare c_share c_matrix c_system c_shares c_allShares) 32 [(0, .ref 0), (1, .int x1)] []
      refine xV_aload_n 33 rfl dX10_value_32 rfl 0 rfl ?_
      obtain ⟨v33, hv33, hf⟩ := xb_s hf
      refine xV_same (rest := []) 36 rfl dX10_value_33 rfl (C10_solves X.1.2.1 hv33) m10_solves v10_solves k10_321 rfl rfl rfl rfl rfl (Nat.le_of_ble_eq_true rfl) (Nat.le_of_ble_eq_true rfl) (Nat.le_of_ble_eq_true rfl) ⟨Nat.le_refl _, Nat.le_refl _⟩ ?_
      show xV (j10_value) X 0 0 (hM (0 : Int32) c_told c_read c_many c_eights c_gains c_notes c_seen c_turns c_drawn c_state c_tape c_taped c_size c_from c_next c_token c_value c_fault c_number c_fives c_isLeft c_wentTimes c_goes c_isLeftLaid v29.1 v29.2.1 v29.2.2 v33.1 v33.2.1 v33.2.2.1 v33.2.2.2.1 v33.2.2.2.2.1 v33.2.2.2.2.2.1 v33.2.2.2.2.2.2 c_shares c_allShares) 36 [(0, .ref 0), (1, .int x1)] []
      refine xV_aload_n 37 rfl dX10_value_36 rfl 0 rfl ?_
      refine xV_get (v := .long v33.2.1) 40 rfl dX10_value_37 f10_295 rfl rfl ?_
      refine xV_aload_n 41 rfl dX10_value_40 rfl 0 rfl ?_
      refine xV_get (v := .long v33.2.2.1) 44 rfl dX10_value_41 f10_299 rfl rfl ?_
      refine xV_iload_n 45 rfl dX10_value_44 rfl 1 rfl ?_
      obtain ⟨v45, hv45, hf⟩ := xb_s hf
      refine xV_st0 (rest := []) 48 rfl dX10_value_45 rfl (C10_term X.1.2.1 hv45) m10_term s10_term k10_324 rfl (Nat.le_of_ble_eq_true rfl) (Nat.le_of_ble_eq_true rfl) (Nat.le_of_ble_eq_true rfl) ⟨Nat.le_refl _, Nat.le_refl _⟩ ?_
      show xV (j10_value) X 0 0 (hM (0 : Int32) c_told c_read c_many c_eights c_gains c_notes c_seen c_turns c_drawn c_state c_tape c_taped c_size c_from c_next c_token c_value c_fault c_number c_fives c_isLeft c_wentTimes c_goes c_isLeftLaid v29.1 v29.2.1 v29.2.2 v33.1 v33.2.1 v33.2.2.1 v33.2.2.2.1 v33.2.2.2.2.1 v33.2.2.2.2.2.1 v33.2.2.2.2.2.2 c_shares c_allShares) 48 [(0, .ref 0), (1, .int x1)] [.int v45]
      obtain rfl := Option.some.inj hf
      exact xV_iret hX dX10_value_48 rfl (Nat.zero_le _) (Nat.zero_le _)
    · have hf := xif_t hf h18
      refine xV_bipush 23 rfl dX10_value_21 xk_bm100 ?_
      obtain rfl := Option.some.inj hf
      exact xV_iret hX dX10_value_23 rfl (Nat.zero_le _) (Nat.zero_le _)
theorem C10_value (l : Launch) {z : Nat} {x1 : Int32} {c_thrown : Int32} {c_told : (Nat → Int32)} {c_many : (Nat → Int32)} {c_eights : (Nat → Int32)} {c_gains : (Nat → Int32)} {c_game : (Nat → Int32)} {c_rows : Int32} {c_columns : Int32} {c_isFound : Int32} {c_bestValue : Int64} {c_bestBelow : Int64} {c_bestShare : (Nat → Int64)} {c_share : (Nat → Int64)} {c_matrix : (Nat → Int64)} {c_system : (Nat → Int64)} {c_read : (Nat → Int32)} {c_notes : (Nat → Int32)} {c_seen : (Nat → Int32)} {c_turns : (Nat → Int32)} {c_drawn : (Nat → Int32)} {c_state : Int32} {c_tape : (Nat → Int32)} {c_taped : Int32} {c_size : Int32} {c_from : Int32} {c_next : Int32} {c_token : Int32} {c_value : Int32} {c_fault : Int32} {c_number : Int32} {c_fives : (Nat → Int32)} {c_isLeft : (Nat → Int32)} {c_wentTimes : Int32} {c_goes : (Nat → Int32)} {c_isLeftLaid : Int32} {c_shares : (Nat → Int32)} {c_allShares : Int32} {v : Int32 × Int32 × (Nat → Int32) × Int32 × Int32 × Int32 × Int64 × Int64 × (Nat → Int64) × (Nat → Int64) × (Nat → Int64) × (Nat → Int64)} (hf : F10_value z x1 c_thrown c_told c_many c_eights c_gains c_game c_rows c_columns c_isFound c_bestValue c_bestBelow c_bestShare c_share c_matrix c_system = some v) : xCt l yX10_value ((some .int)) j10_value [.ref 0, .int x1] (hM c_thrown c_told c_read c_many c_eights c_gains c_notes c_seen c_turns c_drawn c_state c_tape c_taped c_size c_from c_next c_token c_value c_fault c_number c_fives c_isLeft c_wentTimes c_goes c_isLeftLaid c_game c_rows c_columns c_isFound c_bestValue c_bestBelow c_bestShare c_share c_matrix c_system c_shares c_allShares) (some (.int v.1)) (hM v.2.1 c_told c_read c_many c_eights c_gains c_notes c_seen c_turns c_drawn c_state c_tape c_taped c_size c_from c_next c_token c_value c_fault c_number c_fives c_isLeft c_wentTimes c_goes c_isLeftLaid v.2.2.1 v.2.2.2.1 v.2.2.2.2.1 v.2.2.2.2.2.1 v.2.2.2.2.2.2.1 v.2.2.2.2.2.2.2.1 v.2.2.2.2.2.2.2.2.1 v.2.2.2.2.2.2.2.2.2.1 v.2.2.2.2.2.2.2.2.2.2.1 v.2.2.2.2.2.2.2.2.2.2.2 c_shares c_allShares) := xCt_of (by decide) rfl (Nat.le_of_ble_eq_true rfl) (fun _ hX => T10_value hX hf)
theorem m10_value : xMd yX10_value RX10 ((some .int)) j10_value 1 := ⟨List.mem_of_getElem? (i := 922) (by decide +kernel), List.mem_of_getElem? (i := 5) (by decide +kernel), rfl, by decide +kernel⟩
theorem v10_value : xMv yX10_value RX10 := ⟨List.mem_of_getElem? (i := 920) (by decide +kernel), List.mem_of_getElem? (i := 921) (by decide +kernel)⟩
theorem dX10_best_0 : decode cX10_best 0 = .ok (.aload_n 0, 1) := by decide +kernel
theorem dX10_best_1 : decode cX10_best 1 = .ok (.iconst 0, 1) := by decide +kernel
theorem dX10_best_2 : decode cX10_best 2 = .ok (.putfield 1, 3) := by decide +kernel
theorem dX10_best_5 : decode cX10_best 5 = .ok (.iload_n 1, 1) := by decide +kernel
theorem dX10_best_6 : decode cX10_best 6 = .ok (.invokestatic 105, 3) := by decide +kernel
theorem dX10_best_9 : decode cX10_best 9 = .ok (.ifCond .eq 34, 3) := by decide +kernel
theorem dX10_best_12 : decode cX10_best 12 = .ok (.iload_n 3, 1) := by decide +kernel
theorem dX10_best_13 : decode cX10_best 13 = .ok (.iconst 0, 1) := by decide +kernel
theorem dX10_best_14 : decode cX10_best 14 = .ok (.iconst 1, 1) := by decide +kernel
theorem dX10_best_15 : decode cX10_best 15 = .ok (.invokestatic 7, 3) := by decide +kernel
theorem dX10_best_18 : decode cX10_best 18 = .ok (.ifCond .eq 25, 3) := by decide +kernel
theorem dX10_best_21 : decode cX10_best 21 = .ok (.aload_n 0, 1) := by decide +kernel
theorem dX10_best_22 : decode cX10_best 22 = .ok (.invokevirtual 315, 3) := by decide +kernel
theorem dX10_best_25 : decode cX10_best 25 = .ok (.ifCond .eq 18, 3) := by decide +kernel
theorem dX10_best_28 : decode cX10_best 28 = .ok (.iload_n 2, 1) := by decide +kernel
theorem dX10_best_29 : decode cX10_best 29 = .ok (.iconst 0, 1) := by decide +kernel
theorem dX10_best_30 : decode cX10_best 30 = .ok (.aload_n 0, 1) := by decide +kernel
theorem dX10_best_31 : decode cX10_best 31 = .ok (.iload_n 1, 1) := by decide +kernel
theorem dX10_best_32 : decode cX10_best 32 = .ok (.invokevirtual 259, 3) := by decide +kernel
theorem dX10_best_35 : decode cX10_best 35 = .ok (.iconst 1, 1) := by decide +kernel
theorem dX10_best_36 : decode cX10_best 36 = .ok (.isub, 1) := by decide +kernel
theorem dX10_best_37 : decode cX10_best 37 = .ok (.invokestatic 7, 3) := by decide +kernel
theorem dX10_best_40 : decode cX10_best 40 = .ok (.ifCond .ne 5, 3) := by decide +kernel
theorem dX10_best_43 : decode cX10_best 43 = .ok (.iconst (-1), 1) := by decide +kernel
theorem dX10_best_44 : decode cX10_best 44 = .ok (.ireturn, 1) := by decide +kernel
theorem dX10_best_45 : decode cX10_best 45 = .ok (.aload_n 0, 1) := by decide +kernel
theorem dX10_best_46 : decode cX10_best 46 = .ok (.iload_n 1, 1) := by decide +kernel
theorem dX10_best_47 : decode cX10_best 47 = .ok (.iconst (-1), 1) := by decide +kernel
theorem dX10_best_48 : decode cX10_best 48 = .ok (.iconst (-1), 1) := by decide +kernel
theorem dX10_best_49 : decode cX10_best 49 = .ok (.iconst (-1), 1) := by decide +kernel
theorem dX10_best_50 : decode cX10_best 50 = .ok (.invokevirtual 318, 3) := by decide +kernel
theorem dX10_best_53 : decode cX10_best 53 = .ok (.aload_n 0, 1) := by decide +kernel
theorem dX10_best_54 : decode cX10_best 54 = .ok (.invokevirtual 321, 3) := by decide +kernel
theorem dX10_best_57 : decode cX10_best 57 = .ok (.aload_n 0, 1) := by decide +kernel
theorem dX10_best_58 : decode cX10_best 58 = .ok (.getfield 63, 3) := by decide +kernel
theorem dX10_best_61 : decode cX10_best 61 = .ok (.iload_n 2, 1) := by decide +kernel
theorem dX10_best_62 : decode cX10_best 62 = .ok (.laload, 1) := by decide +kernel
theorem dX10_best_63 : decode cX10_best 63 = .ok (.aload_n 0, 1) := by decide +kernel
theorem dX10_best_64 : decode cX10_best 64 = .ok (.getfield 299, 3) := by decide +kernel
theorem dX10_best_67 : decode cX10_best 67 = .ok (.iload_n 3, 1) := by decide +kernel
theorem dX10_best_68 : decode cX10_best 68 = .ok (.invokestatic 324, 3) := by decide +kernel
theorem dX10_best_71 : decode cX10_best 71 = .ok (.ireturn, 1) := by decide +kernel
abbrev j10_best : xJ := (cX10_best, 4, RX10, 6, 0, 0)
def F10_best (z : Nat) (x1 : Int32) (x2 : Int32) (x3 : Int32) (c_thrown : Int32) (c_told : (Nat → Int32)) (c_many : (Nat → Int32)) (c_eights : (Nat → Int32)) (c_gains : (Nat → Int32)) (c_game : (Nat → Int32)) (c_rows : Int32) (c_columns : Int32) (c_isFound : Int32) (c_bestValue : Int64) (c_bestBelow : Int64) (c_bestShare : (Nat → Int64)) (c_share : (Nat → Int64)) (c_matrix : (Nat → Int64)) (c_system : (Nat → Int64)) : Option (Int32 × Int32 × (Nat → Int32) × Int32 × Int32 × Int32 × Int64 × Int64 × (Nat → Int64) × (Nat → Int64) × (Nat → Int64) × (Nat → Int64)) :=
  (F10_isSide x1).bind (fun v6 => if v6 = 0 then (some ((-1 : Int32), (0 : Int32), c_game, c_rows, c_columns, c_isFound, c_bestValue, c_bestBelow, c_bestShare, c_share, c_matrix, c_system)) else ((F10_within x3 (0 : Int32) (1 : Int32)).bind (fun v15 => if v15 = 0 then (some ((-1 : Int32), (0 : Int32), c_game, c_rows, c_columns, c_isFound, c_bestValue, c_bestBelow, c_bestShare, c_share, c_matrix, c_system)) else ((F10_areBooks c_told).bind (fun v22 => if v22 = 0 then (some ((-1 : Int32), (0 : Int32), c_game, c_rows, c_columns, c_isFound, c_bestValue, c_bestBelow, c_bestShare, c_share, c_matrix, c_system)) else ((F10_booked x1 c_told).bind (fun v32 => (F10_within x2 (0 : Int32) (v32 - (1 : Int32))).bind (fun v37 => if v37 = 0 then (some ((-1 : Int32), (0 : Int32), c_game, c_rows, c_columns, c_isFound, c_bestValue, c_bestBelow, c_bestShare, c_share, c_matrix, c_system)) else ((F10_laysGame z x1 (-1 : Int32) (-1 : Int32) (-1 : Int32) c_told c_many c_eights c_gains c_game c_rows c_columns).bind (fun v50 => (F10_solves z v50.1 v50.2.1 v50.2.2 c_isFound c_bestValue c_bestBelow c_bestShare c_share c_matrix c_system).bind (fun v54 => xg (xin x2 8) ((F10_term z (v54.2.2.2.1 (xn x2)) v54.2.2.1 x3).bind (fun v68 => some (v68, (0 : Int32), v50.1, v50.2.1, v50.2.2, v54.1, v54.2.1, v54.2.2.1, v54.2.2.2.1, v54.2.2.2.2.1, v54.2.2.2.2.2.1, v54.2.2.2.2.2.2))))))))))))))
theorem T10_best {X : xX} {z : Nat} {x1 : Int32} {x2 : Int32} {x3 : Int32} {c_thrown : Int32} {c_told : (Nat → Int32)} {c_many : (Nat → Int32)} {c_eights : (Nat → Int32)} {c_gains : (Nat → Int32)} {c_game : (Nat → Int32)} {c_rows : Int32} {c_columns : Int32} {c_isFound : Int32} {c_bestValue : Int64} {c_bestBelow : Int64} {c_bestShare : (Nat → Int64)} {c_share : (Nat → Int64)} {c_matrix : (Nat → Int64)} {c_system : (Nat → Int64)} {c_read : (Nat → Int32)} {c_notes : (Nat → Int32)} {c_seen : (Nat → Int32)} {c_turns : (Nat → Int32)} {c_drawn : (Nat → Int32)} {c_state : Int32} {c_tape : (Nat → Int32)} {c_taped : Int32} {c_size : Int32} {c_from : Int32} {c_next : Int32} {c_token : Int32} {c_value : Int32} {c_fault : Int32} {c_number : Int32} {c_fives : (Nat → Int32)} {c_isLeft : (Nat → Int32)} {c_wentTimes : Int32} {c_goes : (Nat → Int32)} {c_isLeftLaid : Int32} {c_shares : (Nat → Int32)} {c_allShares : Int32} {v : Int32 × Int32 × (Nat → Int32) × Int32 × Int32 × Int32 × Int64 × Int64 × (Nat → Int64) × (Nat → Int64) × (Nat → Int64) × (Nat → Int64)} (hX : xIs (j10_best) X ((some .int)) (some (.int v.1)) (hM v.2.1 c_told c_read c_many c_eights c_gains c_notes c_seen c_turns c_drawn c_state c_tape c_taped c_size c_from c_next c_token c_value c_fault c_number c_fives c_isLeft c_wentTimes c_goes c_isLeftLaid v.2.2.1 v.2.2.2.1 v.2.2.2.2.1 v.2.2.2.2.2.1 v.2.2.2.2.2.2.1 v.2.2.2.2.2.2.2.1 v.2.2.2.2.2.2.2.2.1 v.2.2.2.2.2.2.2.2.2.1 v.2.2.2.2.2.2.2.2.2.2.1 v.2.2.2.2.2.2.2.2.2.2.2 c_shares c_allShares)) (hf : F10_best z x1 x2 x3 c_thrown c_told c_many c_eights c_gains c_game c_rows c_columns c_isFound c_bestValue c_bestBelow c_bestShare c_share c_matrix c_system = some v) : xV (j10_best) X 0 0 (hM c_thrown c_told c_read c_many c_eights c_gains c_notes c_seen c_turns c_drawn c_state c_tape c_taped c_size c_from c_next c_token c_value c_fault c_number c_fives c_isLeft c_wentTimes c_goes c_isLeftLaid c_game c_rows c_columns c_isFound c_bestValue c_bestBelow c_bestShare c_share c_matrix c_system c_shares c_allShares) 0 [(0, .ref 0), (1, .int x1), (2, .int x2), (3, .int x3)] [] := by
  unfold F10_best at hf
  refine xV_aload_n 1 rfl dX10_best_0 rfl 0 rfl ?_
  refine xV_iconst 2 rfl dX10_best_1 xk_i0 ?_
  refine xV_put (h' := (hM (0 : Int32) c_told c_read c_many c_eights c_gains c_notes c_seen c_turns c_drawn c_state c_tape c_taped c_size c_from c_next c_token c_value c_fault c_number c_fives c_isLeft c_wentTimes c_goes c_isLeftLaid c_game c_rows c_columns c_isFound c_bestValue c_bestBelow c_bestShare c_share c_matrix c_system c_shares c_allShares)) 5 rfl dX10_best_2 f10_1 rfl nf10_0 (fun _ => rfl) (fun _ => rfl) (Nat.le_of_ble_eq_true rfl) rfl ?_
  refine xV_iload_n 6 rfl dX10_best_5 rfl 1 rfl ?_
  obtain ⟨v6, hv6, hf⟩ := xb_s hf
  refine xV_st0 (rest := []) 9 rfl dX10_best_6 rfl (C10_isSide X.1.2.1 hv6) m10_isSide s10_isSide k10_105 rfl (Nat.le_of_ble_eq_true rfl) (Nat.le_of_ble_eq_true rfl) (Nat.le_of_ble_eq_true rfl) ⟨Nat.le_refl _, Nat.le_refl _⟩ ?_
  show xV (j10_best) X 0 0 (hM (0 : Int32) c_told c_read c_many c_eights c_gains c_notes c_seen c_turns c_drawn c_state c_tape c_taped c_size c_from c_next c_token c_value c_fault c_number c_fives c_isLeft c_wentTimes c_goes c_isLeftLaid c_game c_rows c_columns c_isFound c_bestValue c_bestBelow c_bestShare c_share c_matrix c_system c_shares c_allShares) 9 [(0, .ref 0), (1, .int x1), (2, .int x2), (3, .int x3)] [.int v6]
  refine xV_if_eq (tgt := 43) 12 rfl dX10_best_9 (by decide) (fun h9 => ?_) (fun h9 => ?_)
  · have hf := xif_t hf h9
    refine xV_iconst 44 rfl dX10_best_43 xk_im1 ?_
    obtain rfl := Option.some.inj hf
    exact xV_iret hX dX10_best_44 rfl (Nat.zero_le _) (Nat.zero_le _)
  · have hf := xif_f hf h9
    refine xV_iload_n 13 rfl dX10_best_12 rfl 3 rfl ?_
    refine xV_iconst 14 rfl dX10_best_13 xk_i0 ?_
    refine xV_iconst 15 rfl dX10_best_14 xk_i1 ?_
    obtain ⟨v15, hv15, hf⟩ := xb_s hf
    refine xV_st0 (rest := []) 18 rfl dX10_best_15 rfl (C10_within X.1.2.1 hv15) m10_within s10_within k10_7 rfl (Nat.le_of_ble_eq_true rfl) (Nat.le_of_ble_eq_true rfl) (Nat.le_of_ble_eq_true rfl) ⟨Nat.le_refl _, Nat.le_refl _⟩ ?_
    show xV (j10_best) X 0 0 (hM (0 : Int32) c_told c_read c_many c_eights c_gains c_notes c_seen c_turns c_drawn c_state c_tape c_taped c_size c_from c_next c_token c_value c_fault c_number c_fives c_isLeft c_wentTimes c_goes c_isLeftLaid c_game c_rows c_columns c_isFound c_bestValue c_bestBelow c_bestShare c_share c_matrix c_system c_shares c_allShares) 18 [(0, .ref 0), (1, .int x1), (2, .int x2), (3, .int x3)] [.int v15]
    refine xV_if_eq (tgt := 43) 21 rfl dX10_best_18 (by decide) (fun h18 => ?_) (fun h18 => ?_)
    · have hf := xif_t hf h18
      refine xV_iconst 44 rfl dX10_best_43 xk_im1 ?_
      obtain rfl := Option.some.inj hf
      exact xV_iret hX dX10_best_44 rfl (Nat.zero_le _) (Nat.zero_le _)
    · have hf := xif_f hf h18
      refine xV_aload_n 22 rfl dX10_best_21 rfl 0 rfl ?_
      obtain ⟨v22, hv22, hf⟩ := xb_s hf
      refine xV_same (rest := []) 25 rfl dX10_best_22 rfl (C10_areBooks X.1.2.1 hv22) m10_areBooks v10_areBooks k10_315 rfl rfl rfl rfl rfl (Nat.le_of_ble_eq_true rfl) (Nat.le_of_ble_eq_true rfl) (Nat.le_of_ble_eq_true rfl) ⟨Nat.le_refl _, Nat.le_refl _⟩ ?_
      show xV (j10_best) X 0 0 (hM (0 : Int32) c_told c_read c_many c_eights c_gains c_notes c_seen c_turns c_drawn c_state c_tape c_taped c_size c_from c_next c_token c_value c_fault c_number c_fives c_isLeft c_wentTimes c_goes c_isLeftLaid c_game c_rows c_columns c_isFound c_bestValue c_bestBelow c_bestShare c_share c_matrix c_system c_shares c_allShares) 25 [(0, .ref 0), (1, .int x1), (2, .int x2), (3, .int x3)] [.int v22]
      refine xV_if_eq (tgt := 43) 28 rfl dX10_best_25 (by decide) (fun h25 => ?_) (fun h25 => ?_)
      · have hf := xif_t hf h25
        refine xV_iconst 44 rfl dX10_best_43 xk_im1 ?_
        obtain rfl := Option.some.inj hf
        exact xV_iret hX dX10_best_44 rfl (Nat.zero_le _) (Nat.zero_le _)
      · have hf := xif_f hf h25
        refine xV_iload_n 29 rfl dX10_best_28 rfl 2 rfl ?_
        refine xV_iconst 30 rfl dX10_best_29 xk_i0 ?_
        refine xV_aload_n 31 rfl dX10_best_30 rfl 0 rfl ?_
        refine xV_iload_n 32 rfl dX10_best_31 rfl 1 rfl ?_
        obtain ⟨v32, hv32, hf⟩ := xb_s hf
        refine xV_same (rest := [.int (0 : Int32), .int x2]) 35 rfl dX10_best_32 rfl (C10_booked X.1.2.1 hv32) m10_booked v10_booked k10_259 rfl rfl rfl rfl rfl (Nat.le_of_ble_eq_true rfl) (Nat.le_of_ble_eq_true rfl) (Nat.le_of_ble_eq_true rfl) ⟨Nat.le_refl _, Nat.le_refl _⟩ ?_
        show xV (j10_best) X 0 0 (hM (0 : Int32) c_told c_read c_many c_eights c_gains c_notes c_seen c_turns c_drawn c_state c_tape c_taped c_size c_from c_next c_token c_value c_fault c_number c_fives c_isLeft c_wentTimes c_goes c_isLeftLaid c_game c_rows c_columns c_isFound c_bestValue c_bestBelow c_bestShare c_share c_matrix c_system c_shares c_allShares) 35 [(0, .ref 0), (1, .int x1), (2, .int x2), (3, .int x3)] [.int v32, .int (0 : Int32), .int x2]
        refine xV_iconst 36 rfl dX10_best_35 xk_i1 ?_
        refine xV_isub 37 rfl dX10_best_36 ?_
        obtain ⟨v37, hv37, hf⟩ := xb_s hf
        refine xV_st0 (rest := []) 40 rfl dX10_best_37 rfl (C10_within X.1.2.1 hv37) m10_within s10_within k10_7 rfl (Nat.le_of_ble_eq_true rfl) (Nat.le_of_ble_eq_true rfl) (Nat.le_of_ble_eq_true rfl) ⟨Nat.le_refl _, Nat.le_refl _⟩ ?_
        show xV (j10_best) X 0 0 (hM (0 : Int32) c_told c_read c_many c_eights c_gains c_notes c_seen c_turns c_drawn c_state c_tape c_taped c_size c_from c_next c_token c_value c_fault c_number c_fives c_isLeft c_wentTimes c_goes c_isLeftLaid c_game c_rows c_columns c_isFound c_bestValue c_bestBelow c_bestShare c_share c_matrix c_system c_shares c_allShares) 40 [(0, .ref 0), (1, .int x1), (2, .int x2), (3, .int x3)] [.int v37]
        refine xV_if_ne (tgt := 45) 43 rfl dX10_best_40 (by decide) (fun h40 => ?_) (fun h40 => ?_)
        · have hf := xif_f hf h40
          refine xV_aload_n 46 rfl dX10_best_45 rfl 0 rfl ?_
          refine xV_iload_n 47 rfl dX10_best_46 rfl 1 rfl ?_
          refine xV_iconst 48 rfl dX10_best_47 xk_im1 ?_
          refine xV_iconst 49 rfl dX10_best_48 xk_im1 ?_
          refine xV_iconst 50 rfl dX10_best_49 xk_im1 ?_
          obtain ⟨v50, hv50, hf⟩ := xb_s hf
          refine xV_same (rest := []) 53 rfl dX10_best_50 rfl (C10_laysGame X.1.2.1 hv50) m10_laysGame v10_laysGame k10_318 rfl rfl rfl rfl rfl (Nat.le_of_ble_eq_true rfl) (Nat.le_of_ble_eq_true rfl) (Nat.le_of_ble_eq_true rfl) ⟨Nat.le_refl _, Nat.le_refl _⟩ ?_
          show xV (j10_best) X 0 0 (hM (0 : Int32) c_told c_read c_many c_eights c_gains c_notes c_seen c_turns c_drawn c_state c_tape c_taped c_size c_from c_next c_token c_value c_fault c_number c_fives c_isLeft c_wentTimes c_goes c_isLeftLaid v50.1 v50.2.1 v50.2.2 c_isFound c_bestValue c_bestBelow c_bestShare c_share c_matrix c_system c_shares c_allShares) 53 [(0, .ref 0), (1, .int x1), (2, .int x2), (3, .int x3)] []
          refine xV_aload_n 54 rfl dX10_best_53 rfl 0 rfl ?_
          obtain ⟨v54, hv54, hf⟩ := xb_s hf
          refine xV_same (rest := []) 57 rfl dX10_best_54 rfl (C10_solves X.1.2.1 hv54) m10_solves v10_solves k10_321 rfl rfl rfl rfl rfl (Nat.le_of_ble_eq_true rfl) (Nat.le_of_ble_eq_true rfl) (Nat.le_of_ble_eq_true rfl) ⟨Nat.le_refl _, Nat.le_refl _⟩ ?_
          show xV (j10_best) X 0 0 (hM (0 : Int32) c_told c_read c_many c_eights c_gains c_notes c_seen c_turns c_drawn c_state c_tape c_taped c_size c_from c_next c_token c_value c_fault c_number c_fives c_isLeft c_wentTimes c_goes c_isLeftLaid v50.1 v50.2.1 v50.2.2 v54.1 v54.2.1 v54.2.2.1 v54.2.2.2.1 v54.2.2.2.2.1 v54.2.2.2.2.2.1 v54.2.2.2.2.2.2 c_shares c_allShares) 57 [(0, .ref 0), (1, .int x1), (2, .int x2), (3, .int x3)] []
          refine xV_aload_n 58 rfl dX10_best_57 rfl 0 rfl ?_
          refine xV_get (v := .ref 15) 61 rfl dX10_best_58 f10_63 rfl rfl ?_
          refine xV_iload_n 62 rfl dX10_best_61 rfl 2 rfl ?_
          obtain ⟨hg62, hf⟩ := xg_s hf
          refine xV_laload 63 rfl dX10_best_62 rfl (xin_ok hg62) rfl ?_
          refine xV_aload_n 64 rfl dX10_best_63 rfl 0 rfl ?_
          refine xV_get (v := .long v54.2.2.1) 67 rfl dX10_best_64 f10_299 rfl rfl ?_
          refine xV_iload_n 68 rfl dX10_best_67 rfl 3 rfl ?_
          obtain ⟨v68, hv68, hf⟩ := xb_s hf
          refine xV_st0 (rest := []) 71 rfl dX10_best_68 rfl (C10_term X.1.2.1 hv68) m10_term s10_term k10_324 rfl (Nat.le_of_ble_eq_true rfl) (Nat.le_of_ble_eq_true rfl) (Nat.le_of_ble_eq_true rfl) ⟨Nat.le_refl _, Nat.le_refl _⟩ ?_
          show xV (j10_best) X 0 0 (hM (0 : Int32) c_told c_read c_many c_eights c_gains c_notes c_seen c_turns c_drawn c_state c_tape c_taped c_size c_from c_next c_token c_value c_fault c_number c_fives c_isLeft c_wentTimes c_goes c_isLeftLaid v50.1 v50.2.1 v50.2.2 v54.1 v54.2.1 v54.2.2.1 v54.2.2.2.1 v54.2.2.2.2.1 v54.2.2.2.2.2.1 v54.2.2.2.2.2.2 c_shares c_allShares) 71 [(0, .ref 0), (1, .int x1), (2, .int x2), (3, .int x3)] [.int v68]
          obtain rfl := Option.some.inj hf
          exact xV_iret hX dX10_best_71 rfl (Nat.zero_le _) (Nat.zero_le _)
        · have hf := xif_t hf h40
          refine xV_iconst 44 rfl dX10_best_43 xk_im1 ?_
          obtain rfl := Option.some.inj hf
          exact xV_iret hX dX10_best_44 rfl (Nat.zero_le _) (Nat.zero_le _)
theorem C10_best (l : Launch) {z : Nat} {x1 : Int32} {x2 : Int32} {x3 : Int32} {c_thrown : Int32} {c_told : (Nat → Int32)} {c_many : (Nat → Int32)} {c_eights : (Nat → Int32)} {c_gains : (Nat → Int32)} {c_game : (Nat → Int32)} {c_rows : Int32} {c_columns : Int32} {c_isFound : Int32} {c_bestValue : Int64} {c_bestBelow : Int64} {c_bestShare : (Nat → Int64)} {c_share : (Nat → Int64)} {c_matrix : (Nat → Int64)} {c_system : (Nat → Int64)} {c_read : (Nat → Int32)} {c_notes : (Nat → Int32)} {c_seen : (Nat → Int32)} {c_turns : (Nat → Int32)} {c_drawn : (Nat → Int32)} {c_state : Int32} {c_tape : (Nat → Int32)} {c_taped : Int32} {c_size : Int32} {c_from : Int32} {c_next : Int32} {c_token : Int32} {c_value : Int32} {c_fault : Int32} {c_number : Int32} {c_fives : (Nat → Int32)} {c_isLeft : (Nat → Int32)} {c_wentTimes : Int32} {c_goes : (Nat → Int32)} {c_isLeftLaid : Int32} {c_shares : (Nat → Int32)} {c_allShares : Int32} {v : Int32 × Int32 × (Nat → Int32) × Int32 × Int32 × Int32 × Int64 × Int64 × (Nat → Int64) × (Nat → Int64) × (Nat → Int64) × (Nat → Int64)} (hf : F10_best z x1 x2 x3 c_thrown c_told c_many c_eights c_gains c_game c_rows c_columns c_isFound c_bestValue c_bestBelow c_bestShare c_share c_matrix c_system = some v) : xCt l yX10_best ((some .int)) j10_best [.ref 0, .int x1, .int x2, .int x3] (hM c_thrown c_told c_read c_many c_eights c_gains c_notes c_seen c_turns c_drawn c_state c_tape c_taped c_size c_from c_next c_token c_value c_fault c_number c_fives c_isLeft c_wentTimes c_goes c_isLeftLaid c_game c_rows c_columns c_isFound c_bestValue c_bestBelow c_bestShare c_share c_matrix c_system c_shares c_allShares) (some (.int v.1)) (hM v.2.1 c_told c_read c_many c_eights c_gains c_notes c_seen c_turns c_drawn c_state c_tape c_taped c_size c_from c_next c_token c_value c_fault c_number c_fives c_isLeft c_wentTimes c_goes c_isLeftLaid v.2.2.1 v.2.2.2.1 v.2.2.2.2.1 v.2.2.2.2.2.1 v.2.2.2.2.2.2.1 v.2.2.2.2.2.2.2.1 v.2.2.2.2.2.2.2.2.1 v.2.2.2.2.2.2.2.2.2.1 v.2.2.2.2.2.2.2.2.2.2.1 v.2.2.2.2.2.2.2.2.2.2.2 c_shares c_allShares) := xCt_of (by decide) rfl (Nat.le_of_ble_eq_true rfl) (fun _ hX => T10_best hX hf)
theorem m10_best : xMd yX10_best RX10 ((some .int)) j10_best 3 := ⟨List.mem_of_getElem? (i := 991) (by decide +kernel), List.mem_of_getElem? (i := 5) (by decide +kernel), rfl, by decide +kernel⟩
theorem v10_best : xMv yX10_best RX10 := ⟨List.mem_of_getElem? (i := 989) (by decide +kernel), List.mem_of_getElem? (i := 990) (by decide +kernel)⟩
theorem dX10_valueWith_0 : decode cX10_valueWith 0 = .ok (.aload_n 0, 1) := by decide +kernel
theorem dX10_valueWith_1 : decode cX10_valueWith 1 = .ok (.iconst 0, 1) := by decide +kernel
theorem dX10_valueWith_2 : decode cX10_valueWith 2 = .ok (.putfield 1, 3) := by decide +kernel
theorem dX10_valueWith_5 : decode cX10_valueWith 5 = .ok (.aload_n 0, 1) := by decide +kernel
theorem dX10_valueWith_6 : decode cX10_valueWith 6 = .ok (.iload_n 1, 1) := by decide +kernel
theorem dX10_valueWith_7 : decode cX10_valueWith 7 = .ok (.iload_n 2, 1) := by decide +kernel
theorem dX10_valueWith_8 : decode cX10_valueWith 8 = .ok (.invokevirtual 210, 3) := by decide +kernel
theorem dX10_valueWith_11 : decode cX10_valueWith 11 = .ok (.ifCond .eq 38, 3) := by decide +kernel
theorem dX10_valueWith_14 : decode cX10_valueWith 14 = .ok (.iload_n 3, 1) := by decide +kernel
theorem dX10_valueWith_15 : decode cX10_valueWith 15 = .ok (.iconst 0, 1) := by decide +kernel
theorem dX10_valueWith_16 : decode cX10_valueWith 16 = .ok (.iconst 1, 1) := by decide +kernel
theorem dX10_valueWith_17 : decode cX10_valueWith 17 = .ok (.invokestatic 7, 3) := by decide +kernel
theorem dX10_valueWith_20 : decode cX10_valueWith 20 = .ok (.ifCond .eq 29, 3) := by decide +kernel
theorem dX10_valueWith_23 : decode cX10_valueWith 23 = .ok (.aload_n 0, 1) := by decide +kernel
theorem dX10_valueWith_24 : decode cX10_valueWith 24 = .ok (.invokevirtual 315, 3) := by decide +kernel
theorem dX10_valueWith_27 : decode cX10_valueWith 27 = .ok (.ifCond .eq 22, 3) := by decide +kernel
theorem dX10_valueWith_30 : decode cX10_valueWith 30 = .ok (.aload_n 0, 1) := by decide +kernel
theorem dX10_valueWith_31 : decode cX10_valueWith 31 = .ok (.iload_n 1, 1) := by decide +kernel
theorem dX10_valueWith_32 : decode cX10_valueWith 32 = .ok (.invokevirtual 259, 3) := by decide +kernel
theorem dX10_valueWith_35 : decode cX10_valueWith 35 = .ok (.bipush 6, 2) := by decide +kernel
theorem dX10_valueWith_37 : decode cX10_valueWith 37 = .ok (.if_icmp .eq 12, 3) := by decide +kernel
theorem dX10_valueWith_40 : decode cX10_valueWith 40 = .ok (.aload_n 0, 1) := by decide +kernel
theorem dX10_valueWith_41 : decode cX10_valueWith 41 = .ok (.iload_n 1, 1) := by decide +kernel
theorem dX10_valueWith_42 : decode cX10_valueWith 42 = .ok (.iload_n 2, 1) := by decide +kernel
theorem dX10_valueWith_43 : decode cX10_valueWith 43 = .ok (.invokevirtual 312, 3) := by decide +kernel
theorem dX10_valueWith_46 : decode cX10_valueWith 46 = .ok (.ifCond .eq 6, 3) := by decide +kernel
theorem dX10_valueWith_49 : decode cX10_valueWith 49 = .ok (.bipush (-100), 2) := by decide +kernel
theorem dX10_valueWith_51 : decode cX10_valueWith 51 = .ok (.ireturn, 1) := by decide +kernel
theorem dX10_valueWith_52 : decode cX10_valueWith 52 = .ok (.aload_n 0, 1) := by decide +kernel
theorem dX10_valueWith_53 : decode cX10_valueWith 53 = .ok (.iconst 0, 1) := by decide +kernel
theorem dX10_valueWith_54 : decode cX10_valueWith 54 = .ok (.iload_n 1, 1) := by decide +kernel
theorem dX10_valueWith_55 : decode cX10_valueWith 55 = .ok (.iconst (-1), 1) := by decide +kernel
theorem dX10_valueWith_56 : decode cX10_valueWith 56 = .ok (.iload_n 2, 1) := by decide +kernel
theorem dX10_valueWith_57 : decode cX10_valueWith 57 = .ok (.invokevirtual 318, 3) := by decide +kernel
theorem dX10_valueWith_60 : decode cX10_valueWith 60 = .ok (.aload_n 0, 1) := by decide +kernel
theorem dX10_valueWith_61 : decode cX10_valueWith 61 = .ok (.invokevirtual 321, 3) := by decide +kernel
theorem dX10_valueWith_64 : decode cX10_valueWith 64 = .ok (.aload_n 0, 1) := by decide +kernel
theorem dX10_valueWith_65 : decode cX10_valueWith 65 = .ok (.getfield 295, 3) := by decide +kernel
theorem dX10_valueWith_68 : decode cX10_valueWith 68 = .ok (.aload_n 0, 1) := by decide +kernel
theorem dX10_valueWith_69 : decode cX10_valueWith 69 = .ok (.getfield 299, 3) := by decide +kernel
theorem dX10_valueWith_72 : decode cX10_valueWith 72 = .ok (.iload_n 3, 1) := by decide +kernel
theorem dX10_valueWith_73 : decode cX10_valueWith 73 = .ok (.invokestatic 324, 3) := by decide +kernel
theorem dX10_valueWith_76 : decode cX10_valueWith 76 = .ok (.ireturn, 1) := by decide +kernel
abbrev j10_valueWith : xJ := (cX10_valueWith, 4, RX10, 6, 0, 0)
def F10_valueWith (z : Nat) (x1 : Int32) (x2 : Int32) (x3 : Int32) (c_thrown : Int32) (c_told : (Nat → Int32)) (c_many : (Nat → Int32)) (c_eights : (Nat → Int32)) (c_gains : (Nat → Int32)) (c_game : (Nat → Int32)) (c_rows : Int32) (c_columns : Int32) (c_isFound : Int32) (c_bestValue : Int64) (c_bestBelow : Int64) (c_bestShare : (Nat → Int64)) (c_share : (Nat → Int64)) (c_matrix : (Nat → Int64)) (c_system : (Nat → Int64)) : Option (Int32 × Int32 × (Nat → Int32) × Int32 × Int32 × Int32 × Int64 × Int64 × (Nat → Int64) × (Nat → Int64) × (Nat → Int64) × (Nat → Int64)) :=
  (F10_isSplit x1 x2 c_many).bind (fun v8 => if v8 = 0 then (some ((-100 : Int32), (0 : Int32), c_game, c_rows, c_columns, c_isFound, c_bestValue, c_bestBelow, c_bestShare, c_share, c_matrix, c_system)) else ((F10_within x3 (0 : Int32) (1 : Int32)).bind (fun v17 => if v17 = 0 then (some ((-100 : Int32), (0 : Int32), c_game, c_rows, c_columns, c_isFound, c_bestValue, c_bestBelow, c_bestShare, c_share, c_matrix, c_system)) else ((F10_areBooks c_told).bind (fun v24 => if v24 = 0 then (some ((-100 : Int32), (0 : Int32), c_game, c_rows, c_columns, c_isFound, c_bestValue, c_bestBelow, c_bestShare, c_share, c_matrix, c_system)) else ((F10_booked x1 c_told).bind (fun v32 => if v32 = (6 : Int32) then (some ((-100 : Int32), (0 : Int32), c_game, c_rows, c_columns, c_isFound, c_bestValue, c_bestBelow, c_bestShare, c_share, c_matrix, c_system)) else ((F10_isBooked z x1 x2 c_told c_many c_eights).bind (fun v43 => if v43 = 0 then ((F10_laysGame z (0 : Int32) x1 (-1 : Int32) x2 c_told c_many c_eights c_gains c_game c_rows c_columns).bind (fun v57 => (F10_solves z v57.1 v57.2.1 v57.2.2 c_isFound c_bestValue c_bestBelow c_bestShare c_share c_matrix c_system).bind (fun v61 => (F10_term z v61.2.1 v61.2.2.1 x3).bind (fun v73 => some (v73, (0 : Int32), v57.1, v57.2.1, v57.2.2, v61.1, v61.2.1, v61.2.2.1, v61.2.2.2.1, v61.2.2.2.2.1, v61.2.2.2.2.2.1, v61.2.2.2.2.2.2))))) else (some ((-100 : Int32), (0 : Int32), c_game, c_rows, c_columns, c_isFound, c_bestValue, c_bestBelow, c_bestShare, c_share, c_matrix, c_system)))))))))))
theorem T10_valueWith {X : xX} {z : Nat} {x1 : Int32} {x2 : Int32} {x3 : Int32} {c_thrown : Int32} {c_told : (Nat → Int32)} {c_many : (Nat → Int32)} {c_eights : (Nat → Int32)} {c_gains : (Nat → Int32)} {c_game : (Nat → Int32)} {c_rows : Int32} {c_columns : Int32} {c_isFound : Int32} {c_bestValue : Int64} {c_bestBelow : Int64} {c_bestShare : (Nat → Int64)} {c_share : (Nat → Int64)} {c_matrix : (Nat → Int64)} {c_system : (Nat → Int64)} {c_read : (Nat → Int32)} {c_notes : (Nat → Int32)} {c_seen : (Nat → Int32)} {c_turns : (Nat → Int32)} {c_drawn : (Nat → Int32)} {c_state : Int32} {c_tape : (Nat → Int32)} {c_taped : Int32} {c_size : Int32} {c_from : Int32} {c_next : Int32} {c_token : Int32} {c_value : Int32} {c_fault : Int32} {c_number : Int32} {c_fives : (Nat → Int32)} {c_isLeft : (Nat → Int32)} {c_wentTimes : Int32} {c_goes : (Nat → Int32)} {c_isLeftLaid : Int32} {c_shares : (Nat → Int32)} {c_allShares : Int32} {v : Int32 × Int32 × (Nat → Int32) × Int32 × Int32 × Int32 × Int64 × Int64 × (Nat → Int64) × (Nat → Int64) × (Nat → Int64) × (Nat → Int64)} (hX : xIs (j10_valueWith) X ((some .int)) (some (.int v.1)) (hM v.2.1 c_told c_read c_many c_eights c_gains c_notes c_seen c_turns c_drawn c_state c_tape c_taped c_size c_from c_next c_token c_value c_fault c_number c_fives c_isLeft c_wentTimes c_goes c_isLeftLaid v.2.2.1 v.2.2.2.1 v.2.2.2.2.1 v.2.2.2.2.2.1 v.2.2.2.2.2.2.1 v.2.2.2.2.2.2.2.1 v.2.2.2.2.2.2.2.2.1 v.2.2.2.2.2.2.2.2.2.1 v.2.2.2.2.2.2.2.2.2.2.1 v.2.2.2.2.2.2.2.2.2.2.2 c_shares c_allShares)) (hf : F10_valueWith z x1 x2 x3 c_thrown c_told c_many c_eights c_gains c_game c_rows c_columns c_isFound c_bestValue c_bestBelow c_bestShare c_share c_matrix c_system = some v) : xV (j10_valueWith) X 0 0 (hM c_thrown c_told c_read c_many c_eights c_gains c_notes c_seen c_turns c_drawn c_state c_tape c_taped c_size c_from c_next c_token c_value c_fault c_number c_fives c_isLeft c_wentTimes c_goes c_isLeftLaid c_game c_rows c_columns c_isFound c_bestValue c_bestBelow c_bestShare c_share c_matrix c_system c_shares c_allShares) 0 [(0, .ref 0), (1, .int x1), (2, .int x2), (3, .int x3)] [] := by
  unfold F10_valueWith at hf
  refine xV_aload_n 1 rfl dX10_valueWith_0 rfl 0 rfl ?_
  refine xV_iconst 2 rfl dX10_valueWith_1 xk_i0 ?_
  refine xV_put (h' := (hM (0 : Int32) c_told c_read c_many c_eights c_gains c_notes c_seen c_turns c_drawn c_state c_tape c_taped c_size c_from c_next c_token c_value c_fault c_number c_fives c_isLeft c_wentTimes c_goes c_isLeftLaid c_game c_rows c_columns c_isFound c_bestValue c_bestBelow c_bestShare c_share c_matrix c_system c_shares c_allShares)) 5 rfl dX10_valueWith_2 f10_1 rfl nf10_0 (fun _ => rfl) (fun _ => rfl) (Nat.le_of_ble_eq_true rfl) rfl ?_
  refine xV_aload_n 6 rfl dX10_valueWith_5 rfl 0 rfl ?_
  refine xV_iload_n 7 rfl dX10_valueWith_6 rfl 1 rfl ?_
  refine xV_iload_n 8 rfl dX10_valueWith_7 rfl 2 rfl ?_
  obtain ⟨v8, hv8, hf⟩ := xb_s hf
  refine xV_same (rest := []) 11 rfl dX10_valueWith_8 rfl (C10_isSplit X.1.2.1 hv8) m10_isSplit v10_isSplit k10_210 rfl rfl rfl rfl rfl (Nat.le_of_ble_eq_true rfl) (Nat.le_of_ble_eq_true rfl) (Nat.le_of_ble_eq_true rfl) ⟨Nat.le_refl _, Nat.le_refl _⟩ ?_
  show xV (j10_valueWith) X 0 0 (hM (0 : Int32) c_told c_read c_many c_eights c_gains c_notes c_seen c_turns c_drawn c_state c_tape c_taped c_size c_from c_next c_token c_value c_fault c_number c_fives c_isLeft c_wentTimes c_goes c_isLeftLaid c_game c_rows c_columns c_isFound c_bestValue c_bestBelow c_bestShare c_share c_matrix c_system c_shares c_allShares) 11 [(0, .ref 0), (1, .int x1), (2, .int x2), (3, .int x3)] [.int v8]
  refine xV_if_eq (tgt := 49) 14 rfl dX10_valueWith_11 (by decide) (fun h11 => ?_) (fun h11 => ?_)
  · have hf := xif_t hf h11
    refine xV_bipush 51 rfl dX10_valueWith_49 xk_bm100 ?_
    obtain rfl := Option.some.inj hf
    exact xV_iret hX dX10_valueWith_51 rfl (Nat.zero_le _) (Nat.zero_le _)
  · have hf := xif_f hf h11
    refine xV_iload_n 15 rfl dX10_valueWith_14 rfl 3 rfl ?_
    refine xV_iconst 16 rfl dX10_valueWith_15 xk_i0 ?_
    refine xV_iconst 17 rfl dX10_valueWith_16 xk_i1 ?_
    obtain ⟨v17, hv17, hf⟩ := xb_s hf
    refine xV_st0 (rest := []) 20 rfl dX10_valueWith_17 rfl (C10_within X.1.2.1 hv17) m10_within s10_within k10_7 rfl (Nat.le_of_ble_eq_true rfl) (Nat.le_of_ble_eq_true rfl) (Nat.le_of_ble_eq_true rfl) ⟨Nat.le_refl _, Nat.le_refl _⟩ ?_
    show xV (j10_valueWith) X 0 0 (hM (0 : Int32) c_told c_read c_many c_eights c_gains c_notes c_seen c_turns c_drawn c_state c_tape c_taped c_size c_from c_next c_token c_value c_fault c_number c_fives c_isLeft c_wentTimes c_goes c_isLeftLaid c_game c_rows c_columns c_isFound c_bestValue c_bestBelow c_bestShare c_share c_matrix c_system c_shares c_allShares) 20 [(0, .ref 0), (1, .int x1), (2, .int x2), (3, .int x3)] [.int v17]
    refine xV_if_eq (tgt := 49) 23 rfl dX10_valueWith_20 (by decide) (fun h20 => ?_) (fun h20 => ?_)
    · have hf := xif_t hf h20
      refine xV_bipush 51 rfl dX10_valueWith_49 xk_bm100 ?_
      obtain rfl := Option.some.inj hf
      exact xV_iret hX dX10_valueWith_51 rfl (Nat.zero_le _) (Nat.zero_le _)
    · have hf := xif_f hf h20
      refine xV_aload_n 24 rfl dX10_valueWith_23 rfl 0 rfl ?_
      obtain ⟨v24, hv24, hf⟩ := xb_s hf
      refine xV_same (rest := []) 27 rfl dX10_valueWith_24 rfl (C10_areBooks X.1.2.1 hv24) m10_areBooks v10_areBooks k10_315 rfl rfl rfl rfl rfl (Nat.le_of_ble_eq_true rfl) (Nat.le_of_ble_eq_true rfl) (Nat.le_of_ble_eq_true rfl) ⟨Nat.le_refl _, Nat.le_refl _⟩ ?_
      show xV (j10_valueWith) X 0 0 (hM (0 : Int32) c_told c_read c_many c_eights c_gains c_notes c_seen c_turns c_drawn c_state c_tape c_taped c_size c_from c_next c_token c_value c_fault c_number c_fives c_isLeft c_wentTimes c_goes c_isLeftLaid c_game c_rows c_columns c_isFound c_bestValue c_bestBelow c_bestShare c_share c_matrix c_system c_shares c_allShares) 27 [(0, .ref 0), (1, .int x1), (2, .int x2), (3, .int x3)] [.int v24]
      refine xV_if_eq (tgt := 49) 30 rfl dX10_valueWith_27 (by decide) (fun h27 => ?_) (fun h27 => ?_)
      · have hf := xif_t hf h27
        refine xV_bipush 51 rfl dX10_valueWith_49 xk_bm100 ?_
        obtain rfl := Option.some.inj hf
        exact xV_iret hX dX10_valueWith_51 rfl (Nat.zero_le _) (Nat.zero_le _)
      · have hf := xif_f hf h27
        refine xV_aload_n 31 rfl dX10_valueWith_30 rfl 0 rfl ?_
        refine xV_iload_n 32 rfl dX10_valueWith_31 rfl 1 rfl ?_
        obtain ⟨v32, hv32, hf⟩ := xb_s hf
        refine xV_same (rest := []) 35 rfl dX10_valueWith_32 rfl (C10_booked X.1.2.1 hv32) m10_booked v10_booked k10_259 rfl rfl rfl rfl rfl (Nat.le_of_ble_eq_true rfl) (Nat.le_of_ble_eq_true rfl) (Nat.le_of_ble_eq_true rfl) ⟨Nat.le_refl _, Nat.le_refl _⟩ ?_
        show xV (j10_valueWith) X 0 0 (hM (0 : Int32) c_told c_read c_many c_eights c_gains c_notes c_seen c_turns c_drawn c_state c_tape c_taped c_size c_from c_next c_token c_value c_fault c_number c_fives c_isLeft c_wentTimes c_goes c_isLeftLaid c_game c_rows c_columns c_isFound c_bestValue c_bestBelow c_bestShare c_share c_matrix c_system c_shares c_allShares) 35 [(0, .ref 0), (1, .int x1), (2, .int x2), (3, .int x3)] [.int v32]
        refine xV_bipush 37 rfl dX10_valueWith_35 xk_b6 ?_
        refine xV_icmp_eq (tgt := 49) 40 rfl dX10_valueWith_37 (by decide) (fun h37 => ?_) (fun h37 => ?_)
        · have hf := xif_t hf h37
          refine xV_bipush 51 rfl dX10_valueWith_49 xk_bm100 ?_
          obtain rfl := Option.some.inj hf
          exact xV_iret hX dX10_valueWith_51 rfl (Nat.zero_le _) (Nat.zero_le _)
        · have hf := xif_f hf h37
          refine xV_aload_n 41 rfl dX10_valueWith_40 rfl 0 rfl ?_
          refine xV_iload_n 42 rfl dX10_valueWith_41 rfl 1 rfl ?_
          refine xV_iload_n 43 rfl dX10_valueWith_42 rfl 2 rfl ?_
          obtain ⟨v43, hv43, hf⟩ := xb_s hf
          refine xV_same (rest := []) 46 rfl dX10_valueWith_43 rfl (C10_isBooked X.1.2.1 hv43) m10_isBooked v10_isBooked k10_312 rfl rfl rfl rfl rfl (Nat.le_of_ble_eq_true rfl) (Nat.le_of_ble_eq_true rfl) (Nat.le_of_ble_eq_true rfl) ⟨Nat.le_refl _, Nat.le_refl _⟩ ?_
          show xV (j10_valueWith) X 0 0 (hM (0 : Int32) c_told c_read c_many c_eights c_gains c_notes c_seen c_turns c_drawn c_state c_tape c_taped c_size c_from c_next c_token c_value c_fault c_number c_fives c_isLeft c_wentTimes c_goes c_isLeftLaid c_game c_rows c_columns c_isFound c_bestValue c_bestBelow c_bestShare c_share c_matrix c_system c_shares c_allShares) 46 [(0, .ref 0), (1, .int x1), (2, .int x2), (3, .int x3)] [.int v43]
          refine xV_if_eq (tgt := 52) 49 rfl dX10_valueWith_46 (by decide) (fun h46 => ?_) (fun h46 => ?_)
          · have hf := xif_t hf h46
            refine xV_aload_n 53 rfl dX10_valueWith_52 rfl 0 rfl ?_
            refine xV_iconst 54 rfl dX10_valueWith_53 xk_i0 ?_
            refine xV_iload_n 55 rfl dX10_valueWith_54 rfl 1 rfl ?_
            refine xV_iconst 56 rfl dX10_valueWith_55 xk_im1 ?_
            refine xV_iload_n 57 rfl dX10_valueWith_56 rfl 2 rfl ?_
            obtain ⟨v57, hv57, hf⟩ := xb_s hf
            refine xV_same (rest := []) 60 rfl dX10_valueWith_57 rfl (C10_laysGame X.1.2.1 hv57) m10_laysGame v10_laysGame k10_318 rfl rfl rfl rfl rfl (Nat.le_of_ble_eq_true rfl) (Nat.le_of_ble_eq_true rfl) (Nat.le_of_ble_eq_true rfl) ⟨Nat.le_refl _, Nat.le_refl _⟩ ?_
            show xV (j10_valueWith) X 0 0 (hM (0 : Int32) c_told c_read c_many c_eights c_gains c_notes c_seen c_turns c_drawn c_state c_tape c_taped c_size c_from c_next c_token c_value c_fault c_number c_fives c_isLeft c_wentTimes c_goes c_isLeftLaid v57.1 v57.2.1 v57.2.2 c_isFound c_bestValue c_bestBelow c_bestShare c_share c_matrix c_system c_shares c_allShares) 60 [(0, .ref 0), (1, .int x1), (2, .int x2), (3, .int x3)] []
            refine xV_aload_n 61 rfl dX10_valueWith_60 rfl 0 rfl ?_
            obtain ⟨v61, hv61, hf⟩ := xb_s hf
            refine xV_same (rest := []) 64 rfl dX10_valueWith_61 rfl (C10_solves X.1.2.1 hv61) m10_solves v10_solves k10_321 rfl rfl rfl rfl rfl (Nat.le_of_ble_eq_true rfl) (Nat.le_of_ble_eq_true rfl) (Nat.le_of_ble_eq_true rfl) ⟨Nat.le_refl _, Nat.le_refl _⟩ ?_
            show xV (j10_valueWith) X 0 0 (hM (0 : Int32) c_told c_read c_many c_eights c_gains c_notes c_seen c_turns c_drawn c_state c_tape c_taped c_size c_from c_next c_token c_value c_fault c_number c_fives c_isLeft c_wentTimes c_goes c_isLeftLaid v57.1 v57.2.1 v57.2.2 v61.1 v61.2.1 v61.2.2.1 v61.2.2.2.1 v61.2.2.2.2.1 v61.2.2.2.2.2.1 v61.2.2.2.2.2.2 c_shares c_allShares) 64 [(0, .ref 0), (1, .int x1), (2, .int x2), (3, .int x3)] []
            refine xV_aload_n 65 rfl dX10_valueWith_64 rfl 0 rfl ?_
            refine xV_get (v := .long v61.2.1) 68 rfl dX10_valueWith_65 f10_295 rfl rfl ?_
            refine xV_aload_n 69 rfl dX10_valueWith_68 rfl 0 rfl ?_
            refine xV_get (v := .long v61.2.2.1) 72 rfl dX10_valueWith_69 f10_299 rfl rfl ?_
            refine xV_iload_n 73 rfl dX10_valueWith_72 rfl 3 rfl ?_
            obtain ⟨v73, hv73, hf⟩ := xb_s hf
            refine xV_st0 (rest := []) 76 rfl dX10_valueWith_73 rfl (C10_term X.1.2.1 hv73) m10_term s10_term k10_324 rfl (Nat.le_of_ble_eq_true rfl) (Nat.le_of_ble_eq_true rfl) (Nat.le_of_ble_eq_true rfl) ⟨Nat.le_refl _, Nat.le_refl _⟩ ?_
            show xV (j10_valueWith) X 0 0 (hM (0 : Int32) c_told c_read c_many c_eights c_gains c_notes c_seen c_turns c_drawn c_state c_tape c_taped c_size c_from c_next c_token c_value c_fault c_number c_fives c_isLeft c_wentTimes c_goes c_isLeftLaid v57.1 v57.2.1 v57.2.2 v61.1 v61.2.1 v61.2.2.1 v61.2.2.2.1 v61.2.2.2.2.1 v61.2.2.2.2.2.1 v61.2.2.2.2.2.2 c_shares c_allShares) 76 [(0, .ref 0), (1, .int x1), (2, .int x2), (3, .int x3)] [.int v73]
            obtain rfl := Option.some.inj hf
            exact xV_iret hX dX10_valueWith_76 rfl (Nat.zero_le _) (Nat.zero_le _)
          · have hf := xif_f hf h46
            refine xV_bipush 51 rfl dX10_valueWith_49 xk_bm100 ?_
            obtain rfl := Option.some.inj hf
            exact xV_iret hX dX10_valueWith_51 rfl (Nat.zero_le _) (Nat.zero_le _)
theorem C10_valueWith (l : Launch) {z : Nat} {x1 : Int32} {x2 : Int32} {x3 : Int32} {c_thrown : Int32} {c_told : (Nat → Int32)} {c_many : (Nat → Int32)} {c_eights : (Nat → Int32)} {c_gains : (Nat → Int32)} {c_game : (Nat → Int32)} {c_rows : Int32} {c_columns : Int32} {c_isFound : Int32} {c_bestValue : Int64} {c_bestBelow : Int64} {c_bestShare : (Nat → Int64)} {c_share : (Nat → Int64)} {c_matrix : (Nat → Int64)} {c_system : (Nat → Int64)} {c_read : (Nat → Int32)} {c_notes : (Nat → Int32)} {c_seen : (Nat → Int32)} {c_turns : (Nat → Int32)} {c_drawn : (Nat → Int32)} {c_state : Int32} {c_tape : (Nat → Int32)} {c_taped : Int32} {c_size : Int32} {c_from : Int32} {c_next : Int32} {c_token : Int32} {c_value : Int32} {c_fault : Int32} {c_number : Int32} {c_fives : (Nat → Int32)} {c_isLeft : (Nat → Int32)} {c_wentTimes : Int32} {c_goes : (Nat → Int32)} {c_isLeftLaid : Int32} {c_shares : (Nat → Int32)} {c_allShares : Int32} {v : Int32 × Int32 × (Nat → Int32) × Int32 × Int32 × Int32 × Int64 × Int64 × (Nat → Int64) × (Nat → Int64) × (Nat → Int64) × (Nat → Int64)} (hf : F10_valueWith z x1 x2 x3 c_thrown c_told c_many c_eights c_gains c_game c_rows c_columns c_isFound c_bestValue c_bestBelow c_bestShare c_share c_matrix c_system = some v) : xCt l yX10_valueWith ((some .int)) j10_valueWith [.ref 0, .int x1, .int x2, .int x3] (hM c_thrown c_told c_read c_many c_eights c_gains c_notes c_seen c_turns c_drawn c_state c_tape c_taped c_size c_from c_next c_token c_value c_fault c_number c_fives c_isLeft c_wentTimes c_goes c_isLeftLaid c_game c_rows c_columns c_isFound c_bestValue c_bestBelow c_bestShare c_share c_matrix c_system c_shares c_allShares) (some (.int v.1)) (hM v.2.1 c_told c_read c_many c_eights c_gains c_notes c_seen c_turns c_drawn c_state c_tape c_taped c_size c_from c_next c_token c_value c_fault c_number c_fives c_isLeft c_wentTimes c_goes c_isLeftLaid v.2.2.1 v.2.2.2.1 v.2.2.2.2.1 v.2.2.2.2.2.1 v.2.2.2.2.2.2.1 v.2.2.2.2.2.2.2.1 v.2.2.2.2.2.2.2.2.1 v.2.2.2.2.2.2.2.2.2.1 v.2.2.2.2.2.2.2.2.2.2.1 v.2.2.2.2.2.2.2.2.2.2.2 c_shares c_allShares) := xCt_of (by decide) rfl (Nat.le_of_ble_eq_true rfl) (fun _ hX => T10_valueWith hX hf)
theorem m10_valueWith : xMd yX10_valueWith RX10 ((some .int)) j10_valueWith 3 := ⟨List.mem_of_getElem? (i := 1003) (by decide +kernel), List.mem_of_getElem? (i := 5) (by decide +kernel), rfl, by decide +kernel⟩
theorem v10_valueWith : xMv yX10_valueWith RX10 := ⟨List.mem_of_getElem? (i := 1001) (by decide +kernel), List.mem_of_getElem? (i := 1002) (by decide +kernel)⟩
theorem dX10_needless_0 : decode cX10_needless 0 = .ok (.aload_n 0, 1) := by decide +kernel
theorem dX10_needless_1 : decode cX10_needless 1 = .ok (.iconst 0, 1) := by decide +kernel
theorem dX10_needless_2 : decode cX10_needless 2 = .ok (.putfield 1, 3) := by decide +kernel
theorem dX10_needless_5 : decode cX10_needless 5 = .ok (.iload_n 1, 1) := by decide +kernel
theorem dX10_needless_6 : decode cX10_needless 6 = .ok (.invokestatic 105, 3) := by decide +kernel
theorem dX10_needless_9 : decode cX10_needless 9 = .ok (.ifCond .eq 10, 3) := by decide +kernel
theorem dX10_needless_12 : decode cX10_needless 12 = .ok (.aload_n 0, 1) := by decide +kernel
theorem dX10_needless_13 : decode cX10_needless 13 = .ok (.invokevirtual 315, 3) := by decide +kernel
theorem dX10_needless_16 : decode cX10_needless 16 = .ok (.ifCond .ne 5, 3) := by decide +kernel
theorem dX10_needless_19 : decode cX10_needless 19 = .ok (.iconst (-1), 1) := by decide +kernel
theorem dX10_needless_20 : decode cX10_needless 20 = .ok (.ireturn, 1) := by decide +kernel
theorem dX10_needless_21 : decode cX10_needless 21 = .ok (.aload_n 0, 1) := by decide +kernel
theorem dX10_needless_22 : decode cX10_needless 22 = .ok (.iconst 0, 1) := by decide +kernel
theorem dX10_needless_23 : decode cX10_needless 23 = .ok (.iconst (-1), 1) := by decide +kernel
theorem dX10_needless_24 : decode cX10_needless 24 = .ok (.iconst (-1), 1) := by decide +kernel
theorem dX10_needless_25 : decode cX10_needless 25 = .ok (.iconst (-1), 1) := by decide +kernel
theorem dX10_needless_26 : decode cX10_needless 26 = .ok (.invokevirtual 318, 3) := by decide +kernel
theorem dX10_needless_29 : decode cX10_needless 29 = .ok (.aload_n 0, 1) := by decide +kernel
theorem dX10_needless_30 : decode cX10_needless 30 = .ok (.invokevirtual 321, 3) := by decide +kernel
theorem dX10_needless_33 : decode cX10_needless 33 = .ok (.aload_n 0, 1) := by decide +kernel
theorem dX10_needless_34 : decode cX10_needless 34 = .ok (.getfield 295, 3) := by decide +kernel
theorem dX10_needless_37 : decode cX10_needless 37 = .ok (.lstore_n 2, 1) := by decide +kernel
theorem dX10_needless_38 : decode cX10_needless 38 = .ok (.aload_n 0, 1) := by decide +kernel
theorem dX10_needless_39 : decode cX10_needless 39 = .ok (.getfield 299, 3) := by decide +kernel
theorem dX10_needless_42 : decode cX10_needless 42 = .ok (.lstore 4, 2) := by decide +kernel
theorem dX10_needless_44 : decode cX10_needless 44 = .ok (.iconst 0, 1) := by decide +kernel
theorem dX10_needless_45 : decode cX10_needless 45 = .ok (.istore 6, 2) := by decide +kernel
theorem dX10_needless_47 : decode cX10_needless 47 = .ok (.iload 6, 2) := by decide +kernel
theorem dX10_needless_49 : decode cX10_needless 49 = .ok (.aload_n 0, 1) := by decide +kernel
theorem dX10_needless_50 : decode cX10_needless 50 = .ok (.iload_n 1, 1) := by decide +kernel
theorem dX10_needless_51 : decode cX10_needless 51 = .ok (.invokevirtual 259, 3) := by decide +kernel
theorem dX10_needless_54 : decode cX10_needless 54 = .ok (.if_icmp .ge 51, 3) := by decide +kernel
theorem dX10_needless_57 : decode cX10_needless 57 = .ok (.aload_n 0, 1) := by decide +kernel
theorem dX10_needless_58 : decode cX10_needless 58 = .ok (.iload_n 1, 1) := by decide +kernel
theorem dX10_needless_59 : decode cX10_needless 59 = .ok (.invokevirtual 259, 3) := by decide +kernel
theorem dX10_needless_62 : decode cX10_needless 62 = .ok (.iconst 1, 1) := by decide +kernel
theorem dX10_needless_63 : decode cX10_needless 63 = .ok (.if_icmp .le 42, 3) := by decide +kernel
theorem dX10_needless_66 : decode cX10_needless 66 = .ok (.aload_n 0, 1) := by decide +kernel
theorem dX10_needless_67 : decode cX10_needless 67 = .ok (.iconst 0, 1) := by decide +kernel
theorem dX10_needless_68 : decode cX10_needless 68 = .ok (.iload_n 1, 1) := by decide +kernel
theorem dX10_needless_69 : decode cX10_needless 69 = .ok (.iload 6, 2) := by decide +kernel
theorem dX10_needless_71 : decode cX10_needless 71 = .ok (.iconst (-1), 1) := by decide +kernel
theorem dX10_needless_72 : decode cX10_needless 72 = .ok (.invokevirtual 318, 3) := by decide +kernel
theorem dX10_needless_75 : decode cX10_needless 75 = .ok (.aload_n 0, 1) := by decide +kernel
theorem dX10_needless_76 : decode cX10_needless 76 = .ok (.invokevirtual 321, 3) := by decide +kernel
theorem dX10_needless_79 : decode cX10_needless 79 = .ok (.aload_n 0, 1) := by decide +kernel
theorem dX10_needless_80 : decode cX10_needless 80 = .ok (.getfield 295, 3) := by decide +kernel
theorem dX10_needless_83 : decode cX10_needless 83 = .ok (.lload 4, 2) := by decide +kernel
theorem dX10_needless_85 : decode cX10_needless 85 = .ok (.lmul, 1) := by decide +kernel
theorem dX10_needless_86 : decode cX10_needless 86 = .ok (.lload_n 2, 1) := by decide +kernel
theorem dX10_needless_87 : decode cX10_needless 87 = .ok (.aload_n 0, 1) := by decide +kernel
theorem dX10_needless_88 : decode cX10_needless 88 = .ok (.getfield 299, 3) := by decide +kernel
theorem dX10_needless_91 : decode cX10_needless 91 = .ok (.lmul, 1) := by decide +kernel
theorem dX10_needless_92 : decode cX10_needless 92 = .ok (.lcmp, 1) := by decide +kernel
theorem dX10_needless_93 : decode cX10_needless 93 = .ok (.ifCond .ne 6, 3) := by decide +kernel
theorem dX10_needless_96 : decode cX10_needless 96 = .ok (.iload 6, 2) := by decide +kernel
theorem dX10_needless_98 : decode cX10_needless 98 = .ok (.ireturn, 1) := by decide +kernel
theorem dX10_needless_99 : decode cX10_needless 99 = .ok (.iinc 6 1, 3) := by decide +kernel
theorem dX10_needless_102 : decode cX10_needless 102 = .ok (.goto (-55), 3) := by decide +kernel
theorem dX10_needless_105 : decode cX10_needless 105 = .ok (.bipush (-2), 2) := by decide +kernel
theorem dX10_needless_107 : decode cX10_needless 107 = .ok (.ireturn, 1) := by decide +kernel
abbrev j10_needless : xJ := (cX10_needless, 7, RX10, 6, 0, 0)
def F10_needless_b47 (z : Nat) (w : Nat) (x1 : Int32) (x2 : Int64) (x4 : Int64) (x6 : Int32) (c_thrown : Int32) (c_told : (Nat → Int32)) (c_many : (Nat → Int32)) (c_eights : (Nat → Int32)) (c_gains : (Nat → Int32)) (c_game : (Nat → Int32)) (c_rows : Int32) (c_columns : Int32) (c_isFound : Int32) (c_bestValue : Int64) (c_bestBelow : Int64) (c_bestShare : (Nat → Int64)) (c_share : (Nat → Int64)) (c_matrix : (Nat → Int64)) (c_system : (Nat → Int64)) : Option (Int32 × Int32 × (Nat → Int32) × Int32 × Int32 × Int32 × Int64 × Int64 × (Nat → Int64) × (Nat → Int64) × (Nat → Int64) × (Nat → Int64)) := match w with
  | 0 => none
  | w + 1 => (F10_booked x1 c_told).bind (fun v51 => if v51 ≤ x6 then (some ((-2 : Int32), c_thrown, c_game, c_rows, c_columns, c_isFound, c_bestValue, c_bestBelow, c_bestShare, c_share, c_matrix, c_system)) else ((F10_booked x1 c_told).bind (fun v59 => if v59 ≤ (1 : Int32) then (some ((-2 : Int32), c_thrown, c_game, c_rows, c_columns, c_isFound, c_bestValue, c_bestBelow, c_bestShare, c_share, c_matrix, c_system)) else ((F10_laysGame z (0 : Int32) x1 x6 (-1 : Int32) c_told c_many c_eights c_gains c_game c_rows c_columns).bind (fun v72 => (F10_solves z v72.1 v72.2.1 v72.2.2 c_isFound c_bestValue c_bestBelow c_bestShare c_share c_matrix c_system).bind (fun v76 => if (lg_cmp (v76.2.1 * x4) (x2 * v76.2.2.1)) = 0 then (some (x6, c_thrown, v72.1, v72.2.1, v72.2.2, v76.1, v76.2.1, v76.2.2.1, v76.2.2.2.1, v76.2.2.2.2.1, v76.2.2.2.2.2.1, v76.2.2.2.2.2.2)) else (F10_needless_b47 z w x1 x2 x4 (x6 + (1 : Int32)) c_thrown c_told c_many c_eights c_gains v72.1 v72.2.1 v72.2.2 v76.1 v76.2.1 v76.2.2.1 v76.2.2.2.1 v76.2.2.2.2.1 v76.2.2.2.2.2.1 v76.2.2.2.2.2.2)))))))
theorem T10_needless_b47 {X : xX} {c_told : (Nat → Int32)} {c_read : (Nat → Int32)} {c_many : (Nat → Int32)} {c_eights : (Nat → Int32)} {c_gains : (Nat → Int32)} {c_notes : (Nat → Int32)} {c_seen : (Nat → Int32)} {c_turns : (Nat → Int32)} {c_drawn : (Nat → Int32)} {c_state : Int32} {c_tape : (Nat → Int32)} {c_taped : Int32} {c_size : Int32} {c_from : Int32} {c_next : Int32} {c_token : Int32} {c_value : Int32} {c_fault : Int32} {c_number : Int32} {c_fives : (Nat → Int32)} {c_isLeft : (Nat → Int32)} {c_wentTimes : Int32} {c_goes : (Nat → Int32)} {c_isLeftLaid : Int32} {c_shares : (Nat → Int32)} {c_allShares : Int32} {z : Nat} {v : Int32 × Int32 × (Nat → Int32) × Int32 × Int32 × Int32 × Int64 × Int64 × (Nat → Int64) × (Nat → Int64) × (Nat → Int64) × (Nat → Int64)} (hX : xIs (j10_needless) X ((some .int)) (some (.int v.1)) (hM v.2.1 c_told c_read c_many c_eights c_gains c_notes c_seen c_turns c_drawn c_state c_tape c_taped c_size c_from c_next c_token c_value c_fault c_number c_fives c_isLeft c_wentTimes c_goes c_isLeftLaid v.2.2.1 v.2.2.2.1 v.2.2.2.2.1 v.2.2.2.2.2.1 v.2.2.2.2.2.2.1 v.2.2.2.2.2.2.2.1 v.2.2.2.2.2.2.2.2.1 v.2.2.2.2.2.2.2.2.2.1 v.2.2.2.2.2.2.2.2.2.2.1 v.2.2.2.2.2.2.2.2.2.2.2 c_shares c_allShares)) : ∀ (w : Nat) {x1 : Int32} {x2 : Int64} {x4 : Int64} {x6 : Int32} {c_thrown : Int32} {c_game : (Nat → Int32)} {c_rows : Int32} {c_columns : Int32} {c_isFound : Int32} {c_bestValue : Int64} {c_bestBelow : Int64} {c_bestShare : (Nat → Int64)} {c_share : (Nat → Int64)} {c_matrix : (Nat → Int64)} {c_system : (Nat → Int64)}, F10_needless_b47 z w x1 x2 x4 x6 c_thrown c_told c_many c_eights c_gains c_game c_rows c_columns c_isFound c_bestValue c_bestBelow c_bestShare c_share c_matrix c_system = some v → xV (j10_needless) X 0 0 (hM c_thrown c_told c_read c_many c_eights c_gains c_notes c_seen c_turns c_drawn c_state c_tape c_taped c_size c_from c_next c_token c_value c_fault c_number c_fives c_isLeft c_wentTimes c_goes c_isLeftLaid c_game c_rows c_columns c_isFound c_bestValue c_bestBelow c_bestShare c_share c_matrix c_system c_shares c_allShares) 47 [(0, .ref 0), (1, .int x1), (2, .long x2), (4, .long x4), (6, .int x6)] [] := by
  intro w
  induction w with
  | zero => intro x1 x2 x4 x6 c_thrown c_game c_rows c_columns c_isFound c_bestValue c_bestBelow c_bestShare c_share c_matrix c_system hf; cases hf
  | succ w ih =>
    intro x1 x2 x4 x6 c_thrown c_game c_rows c_columns c_isFound c_bestValue c_bestBelow c_bestShare c_share c_matrix c_system hf
    unfold F10_needless_b47 at hf
    refine xV_iload 49 rfl dX10_needless_47 4 rfl ?_
    refine xV_aload_n 50 rfl dX10_needless_49 rfl 0 rfl ?_
    refine xV_iload_n 51 rfl dX10_needless_50 rfl 1 rfl ?_
    obtain ⟨v51, hv51, hf⟩ := xb_s hf
    refine xV_same (rest := [.int x6]) 54 rfl dX10_needless_51 rfl (C10_booked X.1.2.1 hv51) m10_booked v10_booked k10_259 rfl rfl rfl rfl rfl (Nat.le_of_ble_eq_true rfl) (Nat.le_of_ble_eq_true rfl) (Nat.le_of_ble_eq_true rfl) ⟨Nat.le_refl _, Nat.le_refl _⟩ ?_
    show xV (j10_needless) X 0 0 (hM c_thrown c_told c_read c_many c_eights c_gains c_notes c_seen c_turns c_drawn c_state c_tape c_taped c_size c_from c_next c_token c_value c_fault c_number c_fives c_isLeft c_wentTimes c_goes c_isLeftLaid c_game c_rows c_columns c_isFound c_bestValue c_bestBelow c_bestShare c_share c_matrix c_system c_shares c_allShares) 54 [(0, .ref 0), (1, .int x1), (2, .long x2), (4, .long x4), (6, .int x6)] [.int v51, .int x6]
    refine xV_icmp_ge (tgt := 105) 57 rfl dX10_needless_54 (by decide) (fun h54 => ?_) (fun h54 => ?_)
    · have hf := xif_t hf h54
      refine xV_bipush 107 rfl dX10_needless_105 xk_bm2 ?_
      obtain rfl := Option.some.inj hf
      exact xV_iret hX dX10_needless_107 rfl (Nat.zero_le _) (Nat.zero_le _)
    · have hf := xif_f hf h54
      refine xV_aload_n 58 rfl dX10_needless_57 rfl 0 rfl ?_
      refine xV_iload_n 59 rfl dX10_needless_58 rfl 1 rfl ?_
      obtain ⟨v59, hv59, hf⟩ := xb_s hf
      refine xV_same (rest := []) 62 rfl dX10_needless_59 rfl (C10_booked X.1.2.1 hv59) m10_booked v10_booked k10_259 rfl rfl rfl rfl rfl (Nat.le_of_ble_eq_true rfl) (Nat.le_of_ble_eq_true rfl) (Nat.le_of_ble_eq_true rfl) ⟨Nat.le_refl _, Nat.le_refl _⟩ ?_
      show xV (j10_needless) X 0 0 (hM c_thrown c_told c_read c_many c_eights c_gains c_notes c_seen c_turns c_drawn c_state c_tape c_taped c_size c_from c_next c_token c_value c_fault c_number c_fives c_isLeft c_wentTimes c_goes c_isLeftLaid c_game c_rows c_columns c_isFound c_bestValue c_bestBelow c_bestShare c_share c_matrix c_system c_shares c_allShares) 62 [(0, .ref 0), (1, .int x1), (2, .long x2), (4, .long x4), (6, .int x6)] [.int v59]
      refine xV_iconst 63 rfl dX10_needless_62 xk_i1 ?_
      refine xV_icmp_le (tgt := 105) 66 rfl dX10_needless_63 (by decide) (fun h63 => ?_) (fun h63 => ?_)
      · have hf := xif_t hf h63
        refine xV_bipush 107 rfl dX10_needless_105 xk_bm2 ?_
        obtain rfl := Option.some.inj hf
        exact xV_iret hX dX10_needless_107 rfl (Nat.zero_le _) (Nat.zero_le _)
      · have hf := xif_f hf h63
        refine xV_aload_n 67 rfl dX10_needless_66 rfl 0 rfl ?_
        refine xV_iconst 68 rfl dX10_needless_67 xk_i0 ?_
        refine xV_iload_n 69 rfl dX10_needless_68 rfl 1 rfl ?_
        refine xV_iload 71 rfl dX10_needless_69 4 rfl ?_
        refine xV_iconst 72 rfl dX10_needless_71 xk_im1 ?_
        obtain ⟨v72, hv72, hf⟩ := xb_s hf
        refine xV_same (rest := []) 75 rfl dX10_needless_72 rfl (C10_laysGame X.1.2.1 hv72) m10_laysGame v10_laysGame k10_318 rfl rfl rfl rfl rfl (Nat.le_of_ble_eq_true rfl) (Nat.le_of_ble_eq_true rfl) (Nat.le_of_ble_eq_true rfl) ⟨Nat.le_refl _, Nat.le_refl _⟩ ?_
        show xV (j10_needless) X 0 0 (hM c_thrown c_told c_read c_many c_eights c_gains c_notes c_seen c_turns c_drawn c_state c_tape c_taped c_size c_from c_next c_token c_value c_fault c_number c_fives c_isLeft c_wentTimes c_goes c_isLeftLaid v72.1 v72.2.1 v72.2.2 c_isFound c_bestValue c_bestBelow c_bestShare c_share c_matrix c_system c_shares c_allShares) 75 [(0, .ref 0), (1, .int x1), (2, .long x2), (4, .long x4), (6, .int x6)] []
        refine xV_aload_n 76 rfl dX10_needless_75 rfl 0 rfl ?_
        obtain ⟨v76, hv76, hf⟩ := xb_s hf
        refine xV_same (rest := []) 79 rfl dX10_needless_76 rfl (C10_solves X.1.2.1 hv76) m10_solves v10_solves k10_321 rfl rfl rfl rfl rfl (Nat.le_of_ble_eq_true rfl) (Nat.le_of_ble_eq_true rfl) (Nat.le_of_ble_eq_true rfl) ⟨Nat.le_refl _, Nat.le_refl _⟩ ?_
        show xV (j10_needless) X 0 0 (hM c_thrown c_told c_read c_many c_eights c_gains c_notes c_seen c_turns c_drawn c_state c_tape c_taped c_size c_from c_next c_token c_value c_fault c_number c_fives c_isLeft c_wentTimes c_goes c_isLeftLaid v72.1 v72.2.1 v72.2.2 v76.1 v76.2.1 v76.2.2.1 v76.2.2.2.1 v76.2.2.2.2.1 v76.2.2.2.2.2.1 v76.2.2.2.2.2.2 c_shares c_allShares) 79 [(0, .ref 0), (1, .int x1), (2, .long x2), (4, .long x4), (6, .int x6)] []
        refine xV_aload_n 80 rfl dX10_needless_79 rfl 0 rfl ?_
        refine xV_get (v := .long v76.2.1) 83 rfl dX10_needless_80 f10_295 rfl rfl ?_
        refine xV_lload 85 rfl dX10_needless_83 3 rfl ?_
        refine xV_lmul 86 rfl dX10_needless_85 ?_
        refine xV_lload_n 87 rfl dX10_needless_86 rfl 2 rfl ?_
        refine xV_aload_n 88 rfl dX10_needless_87 rfl 0 rfl ?_
        refine xV_get (v := .long v76.2.2.1) 91 rfl dX10_needless_88 f10_299 rfl rfl ?_
        refine xV_lmul 92 rfl dX10_needless_91 ?_
        refine xV_lcmp 93 rfl dX10_needless_92 ?_
        refine xV_if_ne (tgt := 99) 96 rfl dX10_needless_93 (by decide) (fun h93 => ?_) (fun h93 => ?_)
        · have hf := xif_f hf h93
          refine xV_iinc (L' := [(6, .int (x6 + (1 : Int32))), (0, .ref 0), (1, .int x1), (2, .long x2), (4, .long x4)]) 102 rfl dX10_needless_99 4 rfl (xk_inc xk_i1) (xlt rfl) rfl ?_
          refine xV_goto (tgt := 47) dX10_needless_102 (by decide) ?_
          refine xV_sub [1, 2, 3, 4, 0] rfl ?_
          exact ih hf
        · have hf := xif_t hf h93
          refine xV_iload 98 rfl dX10_needless_96 4 rfl ?_
          obtain rfl := Option.some.inj hf
          exact xV_iret hX dX10_needless_98 rfl (Nat.zero_le _) (Nat.zero_le _)
def F10_needless (z : Nat) (x1 : Int32) (c_thrown : Int32) (c_told : (Nat → Int32)) (c_many : (Nat → Int32)) (c_eights : (Nat → Int32)) (c_gains : (Nat → Int32)) (c_game : (Nat → Int32)) (c_rows : Int32) (c_columns : Int32) (c_isFound : Int32) (c_bestValue : Int64) (c_bestBelow : Int64) (c_bestShare : (Nat → Int64)) (c_share : (Nat → Int64)) (c_matrix : (Nat → Int64)) (c_system : (Nat → Int64)) : Option (Int32 × Int32 × (Nat → Int32) × Int32 × Int32 × Int32 × Int64 × Int64 × (Nat → Int64) × (Nat → Int64) × (Nat → Int64) × (Nat → Int64)) :=
  (F10_isSide x1).bind (fun v6 => if v6 = 0 then (some ((-1 : Int32), (0 : Int32), c_game, c_rows, c_columns, c_isFound, c_bestValue, c_bestBelow, c_bestShare, c_share, c_matrix, c_system)) else ((F10_areBooks c_told).bind (fun v13 => if v13 = 0 then (some ((-1 : Int32), (0 : Int32), c_game, c_rows, c_columns, c_isFound, c_bestValue, c_bestBelow, c_bestShare, c_share, c_matrix, c_system)) else ((F10_laysGame z (0 : Int32) (-1 : Int32) (-1 : Int32) (-1 : Int32) c_told c_many c_eights c_gains c_game c_rows c_columns).bind (fun v26 => (F10_solves z v26.1 v26.2.1 v26.2.2 c_isFound c_bestValue c_bestBelow c_bestShare c_share c_matrix c_system).bind (fun v30 => F10_needless_b47 z z x1 v30.2.1 v30.2.2.1 (0 : Int32) (0 : Int32) c_told c_many c_eights c_gains v26.1 v26.2.1 v26.2.2 v30.1 v30.2.1 v30.2.2.1 v30.2.2.2.1 v30.2.2.2.2.1 v30.2.2.2.2.2.1 v30.2.2.2.2.2.2))))))
theorem T10_needless {X : xX} {z : Nat} {x1 : Int32} {c_thrown : Int32} {c_told : (Nat → Int32)} {c_many : (Nat → Int32)} {c_eights : (Nat → Int32)} {c_gains : (Nat → Int32)} {c_game : (Nat → Int32)} {c_rows : Int32} {c_columns : Int32} {c_isFound : Int32} {c_bestValue : Int64} {c_bestBelow : Int64} {c_bestShare : (Nat → Int64)} {c_share : (Nat → Int64)} {c_matrix : (Nat → Int64)} {c_system : (Nat → Int64)} {c_read : (Nat → Int32)} {c_notes : (Nat → Int32)} {c_seen : (Nat → Int32)} {c_turns : (Nat → Int32)} {c_drawn : (Nat → Int32)} {c_state : Int32} {c_tape : (Nat → Int32)} {c_taped : Int32} {c_size : Int32} {c_from : Int32} {c_next : Int32} {c_token : Int32} {c_value : Int32} {c_fault : Int32} {c_number : Int32} {c_fives : (Nat → Int32)} {c_isLeft : (Nat → Int32)} {c_wentTimes : Int32} {c_goes : (Nat → Int32)} {c_isLeftLaid : Int32} {c_shares : (Nat → Int32)} {c_allShares : Int32} {v : Int32 × Int32 × (Nat → Int32) × Int32 × Int32 × Int32 × Int64 × Int64 × (Nat → Int64) × (Nat → Int64) × (Nat → Int64) × (Nat → Int64)} (hX : xIs (j10_needless) X ((some .int)) (some (.int v.1)) (hM v.2.1 c_told c_read c_many c_eights c_gains c_notes c_seen c_turns c_drawn c_state c_tape c_taped c_size c_from c_next c_token c_value c_fault c_number c_fives c_isLeft c_wentTimes c_goes c_isLeftLaid v.2.2.1 v.2.2.2.1 v.2.2.2.2.1 v.2.2.2.2.2.1 v.2.2.2.2.2.2.1 v.2.2.2.2.2.2.2.1 v.2.2.2.2.2.2.2.2.1 v.2.2.2.2.2.2.2.2.2.1 v.2.2.2.2.2.2.2.2.2.2.1 v.2.2.2.2.2.2.2.2.2.2.2 c_shares c_allShares)) (hf : F10_needless z x1 c_thrown c_told c_many c_eights c_gains c_game c_rows c_columns c_isFound c_bestValue c_bestBelow c_bestShare c_share c_matrix c_system = some v) : xV (j10_needless) X 0 0 (hM c_thrown c_told c_read c_many c_eights c_gains c_notes c_seen c_turns c_drawn c_state c_tape c_taped c_size c_from c_next c_token c_value c_fault c_number c_fives c_isLeft c_wentTimes c_goes c_isLeftLaid c_game c_rows c_columns c_isFound c_bestValue c_bestBelow c_bestShare c_share c_matrix c_system c_shares c_allShares) 0 [(0, .ref 0), (1, .int x1)] [] := by
  unfold F10_needless at hf
  refine xV_aload_n 1 rfl dX10_needless_0 rfl 0 rfl ?_
  refine xV_iconst 2 rfl dX10_needless_1 xk_i0 ?_
  refine xV_put (h' := (hM (0 : Int32) c_told c_read c_many c_eights c_gains c_notes c_seen c_turns c_drawn c_state c_tape c_taped c_size c_from c_next c_token c_value c_fault c_number c_fives c_isLeft c_wentTimes c_goes c_isLeftLaid c_game c_rows c_columns c_isFound c_bestValue c_bestBelow c_bestShare c_share c_matrix c_system c_shares c_allShares)) 5 rfl dX10_needless_2 f10_1 rfl nf10_0 (fun _ => rfl) (fun _ => rfl) (Nat.le_of_ble_eq_true rfl) rfl ?_
  refine xV_iload_n 6 rfl dX10_needless_5 rfl 1 rfl ?_
  obtain ⟨v6, hv6, hf⟩ := xb_s hf
  refine xV_st0 (rest := []) 9 rfl dX10_needless_6 rfl (C10_isSide X.1.2.1 hv6) m10_isSide s10_isSide k10_105 rfl (Nat.le_of_ble_eq_true rfl) (Nat.le_of_ble_eq_true rfl) (Nat.le_of_ble_eq_true rfl) ⟨Nat.le_refl _, Nat.le_refl _⟩ ?_
  show xV (j10_needless) X 0 0 (hM (0 : Int32) c_told c_read c_many c_eights c_gains c_notes c_seen c_turns c_drawn c_state c_tape c_taped c_size c_from c_next c_token c_value c_fault c_number c_fives c_isLeft c_wentTimes c_goes c_isLeftLaid c_game c_rows c_columns c_isFound c_bestValue c_bestBelow c_bestShare c_share c_matrix c_system c_shares c_allShares) 9 [(0, .ref 0), (1, .int x1)] [.int v6]
  refine xV_if_eq (tgt := 19) 12 rfl dX10_needless_9 (by decide) (fun h9 => ?_) (fun h9 => ?_)
  · have hf := xif_t hf h9
    refine xV_iconst 20 rfl dX10_needless_19 xk_im1 ?_
    obtain rfl := Option.some.inj hf
    exact xV_iret hX dX10_needless_20 rfl (Nat.zero_le _) (Nat.zero_le _)
  · have hf := xif_f hf h9
    refine xV_aload_n 13 rfl dX10_needless_12 rfl 0 rfl ?_
    obtain ⟨v13, hv13, hf⟩ := xb_s hf
    refine xV_same (rest := []) 16 rfl dX10_needless_13 rfl (C10_areBooks X.1.2.1 hv13) m10_areBooks v10_areBooks k10_315 rfl rfl rfl rfl rfl (Nat.le_of_ble_eq_true rfl) (Nat.le_of_ble_eq_true rfl) (Nat.le_of_ble_eq_true rfl) ⟨Nat.le_refl _, Nat.le_refl _⟩ ?_
    show xV (j10_needless) X 0 0 (hM (0 : Int32) c_told c_read c_many c_eights c_gains c_notes c_seen c_turns c_drawn c_state c_tape c_taped c_size c_from c_next c_token c_value c_fault c_number c_fives c_isLeft c_wentTimes c_goes c_isLeftLaid c_game c_rows c_columns c_isFound c_bestValue c_bestBelow c_bestShare c_share c_matrix c_system c_shares c_allShares) 16 [(0, .ref 0), (1, .int x1)] [.int v13]
    refine xV_if_ne (tgt := 21) 19 rfl dX10_needless_16 (by decide) (fun h16 => ?_) (fun h16 => ?_)
    · have hf := xif_f hf h16
      refine xV_aload_n 22 rfl dX10_needless_21 rfl 0 rfl ?_
      refine xV_iconst 23 rfl dX10_needless_22 xk_i0 ?_
      refine xV_iconst 24 rfl dX10_needless_23 xk_im1 ?_
      refine xV_iconst 25 rfl dX10_needless_24 xk_im1 ?_
      refine xV_iconst 26 rfl dX10_needless_25 xk_im1 ?_
      obtain ⟨v26, hv26, hf⟩ := xb_s hf
      refine xV_same (rest := []) 29 rfl dX10_needless_26 rfl (C10_laysGame X.1.2.1 hv26) m10_laysGame v10_laysGame k10_318 rfl rfl rfl rfl rfl (Nat.le_of_ble_eq_true rfl) (Nat.le_of_ble_eq_true rfl) (Nat.le_of_ble_eq_true rfl) ⟨Nat.le_refl _, Nat.le_refl _⟩ ?_
      show xV (j10_needless) X 0 0 (hM (0 : Int32) c_told c_read c_many c_eights c_gains c_notes c_seen c_turns c_drawn c_state c_tape c_taped c_size c_from c_next c_token c_value c_fault c_number c_fives c_isLeft c_wentTimes c_goes c_isLeftLaid v26.1 v26.2.1 v26.2.2 c_isFound c_bestValue c_bestBelow c_bestShare c_share c_matrix c_system c_shares c_allShares) 29 [(0, .ref 0), (1, .int x1)] []
      refine xV_aload_n 30 rfl dX10_needless_29 rfl 0 rfl ?_
      obtain ⟨v30, hv30, hf⟩ := xb_s hf
      refine xV_same (rest := []) 33 rfl dX10_needless_30 rfl (C10_solves X.1.2.1 hv30) m10_solves v10_solves k10_321 rfl rfl rfl rfl rfl (Nat.le_of_ble_eq_true rfl) (Nat.le_of_ble_eq_true rfl) (Nat.le_of_ble_eq_true rfl) ⟨Nat.le_refl _, Nat.le_refl _⟩ ?_
      show xV (j10_needless) X 0 0 (hM (0 : Int32) c_told c_read c_many c_eights c_gains c_notes c_seen c_turns c_drawn c_state c_tape c_taped c_size c_from c_next c_token c_value c_fault c_number c_fives c_isLeft c_wentTimes c_goes c_isLeftLaid v26.1 v26.2.1 v26.2.2 v30.1 v30.2.1 v30.2.2.1 v30.2.2.2.1 v30.2.2.2.2.1 v30.2.2.2.2.2.1 v30.2.2.2.2.2.2 c_shares c_allShares) 33 [(0, .ref 0), (1, .int x1)] []
      refine xV_aload_n 34 rfl dX10_needless_33 rfl 0 rfl ?_
      refine xV_get (v := .long v30.2.1) 37 rfl dX10_needless_34 f10_295 rfl rfl ?_
      refine xV_lstore_n (L' := [(2, .long v30.2.1), (0, .ref 0), (1, .int x1)]) 38 rfl dX10_needless_37 rfl (xlt rfl) rfl ?_
      refine xV_aload_n 39 rfl dX10_needless_38 rfl 1 rfl ?_
      refine xV_get (v := .long v30.2.2.1) 42 rfl dX10_needless_39 f10_299 rfl rfl ?_
      refine xV_lstore (L' := [(4, .long v30.2.2.1), (2, .long v30.2.1), (0, .ref 0), (1, .int x1)]) 44 rfl dX10_needless_42 (xlt rfl) rfl ?_
      refine xV_iconst 45 rfl dX10_needless_44 xk_i0 ?_
      refine xV_istore (L' := [(6, .int (0 : Int32)), (4, .long v30.2.2.1), (2, .long v30.2.1), (0, .ref 0), (1, .int x1)]) 47 rfl dX10_needless_45 (xlt rfl) rfl ?_
      refine xV_sub [3, 4, 2, 1, 0] rfl ?_
      exact T10_needless_b47 hX _ hf
    · have hf := xif_t hf h16
      refine xV_iconst 20 rfl dX10_needless_19 xk_im1 ?_
      obtain rfl := Option.some.inj hf
      exact xV_iret hX dX10_needless_20 rfl (Nat.zero_le _) (Nat.zero_le _)
theorem C10_needless (l : Launch) {z : Nat} {x1 : Int32} {c_thrown : Int32} {c_told : (Nat → Int32)} {c_many : (Nat → Int32)} {c_eights : (Nat → Int32)} {c_gains : (Nat → Int32)} {c_game : (Nat → Int32)} {c_rows : Int32} {c_columns : Int32} {c_isFound : Int32} {c_bestValue : Int64} {c_bestBelow : Int64} {c_bestShare : (Nat → Int64)} {c_share : (Nat → Int64)} {c_matrix : (Nat → Int64)} {c_system : (Nat → Int64)} {c_read : (Nat → Int32)} {c_notes : (Nat → Int32)} {c_seen : (Nat → Int32)} {c_turns : (Nat → Int32)} {c_drawn : (Nat → Int32)} {c_state : Int32} {c_tape : (Nat → Int32)} {c_taped : Int32} {c_size : Int32} {c_from : Int32} {c_next : Int32} {c_token : Int32} {c_value : Int32} {c_fault : Int32} {c_number : Int32} {c_fives : (Nat → Int32)} {c_isLeft : (Nat → Int32)} {c_wentTimes : Int32} {c_goes : (Nat → Int32)} {c_isLeftLaid : Int32} {c_shares : (Nat → Int32)} {c_allShares : Int32} {v : Int32 × Int32 × (Nat → Int32) × Int32 × Int32 × Int32 × Int64 × Int64 × (Nat → Int64) × (Nat → Int64) × (Nat → Int64) × (Nat → Int64)} (hf : F10_needless z x1 c_thrown c_told c_many c_eights c_gains c_game c_rows c_columns c_isFound c_bestValue c_bestBelow c_bestShare c_share c_matrix c_system = some v) : xCt l yX10_needless ((some .int)) j10_needless [.ref 0, .int x1] (hM c_thrown c_told c_read c_many c_eights c_gains c_notes c_seen c_turns c_drawn c_state c_tape c_taped c_size c_from c_next c_token c_value c_fault c_number c_fives c_isLeft c_wentTimes c_goes c_isLeftLaid c_game c_rows c_columns c_isFound c_bestValue c_bestBelow c_bestShare c_share c_matrix c_system c_shares c_allShares) (some (.int v.1)) (hM v.2.1 c_told c_read c_many c_eights c_gains c_notes c_seen c_turns c_drawn c_state c_tape c_taped c_size c_from c_next c_token c_value c_fault c_number c_fives c_isLeft c_wentTimes c_goes c_isLeftLaid v.2.2.1 v.2.2.2.1 v.2.2.2.2.1 v.2.2.2.2.2.1 v.2.2.2.2.2.2.1 v.2.2.2.2.2.2.2.1 v.2.2.2.2.2.2.2.2.1 v.2.2.2.2.2.2.2.2.2.1 v.2.2.2.2.2.2.2.2.2.2.1 v.2.2.2.2.2.2.2.2.2.2.2 c_shares c_allShares) := xCt_of (by decide) rfl (Nat.le_of_ble_eq_true rfl) (fun _ hX => T10_needless hX hf)
theorem m10_needless : xMd yX10_needless RX10 ((some .int)) j10_needless 1 := ⟨List.mem_of_getElem? (i := 1015) (by decide +kernel), List.mem_of_getElem? (i := 5) (by decide +kernel), rfl, by decide +kernel⟩
theorem v10_needless : xMv yX10_needless RX10 := ⟨List.mem_of_getElem? (i := 1013) (by decide +kernel), List.mem_of_getElem? (i := 1014) (by decide +kernel)⟩
theorem dX10_planned_0 : decode cX10_planned 0 = .ok (.aload_n 0, 1) := by decide +kernel
theorem dX10_planned_1 : decode cX10_planned 1 = .ok (.getfield 17, 3) := by decide +kernel
theorem dX10_planned_4 : decode cX10_planned 4 = .ok (.iload_n 1, 1) := by decide +kernel
theorem dX10_planned_5 : decode cX10_planned 5 = .ok (.bipush 7, 2) := by decide +kernel
theorem dX10_planned_7 : decode cX10_planned 7 = .ok (.invokestatic 109, 3) := by decide +kernel
theorem dX10_planned_10 : decode cX10_planned 10 = .ok (.iaload, 1) := by decide +kernel
theorem dX10_planned_11 : decode cX10_planned 11 = .ok (.ireturn, 1) := by decide +kernel
abbrev j10_planned : xJ := (cX10_planned, 2, RX10, 2, 0, 0)
def F10_planned (x1 : Int32) (c_told : (Nat → Int32)) : Option (Int32) :=
  (F10_at x1 (7 : Int32)).bind (fun v7 => xg (xin v7 56) (some ((c_told (xn v7)))))
theorem T10_planned {X : xX} {x1 : Int32} {c_told : (Nat → Int32)} {c_thrown : Int32} {c_read : (Nat → Int32)} {c_many : (Nat → Int32)} {c_eights : (Nat → Int32)} {c_gains : (Nat → Int32)} {c_notes : (Nat → Int32)} {c_seen : (Nat → Int32)} {c_turns : (Nat → Int32)} {c_drawn : (Nat → Int32)} {c_state : Int32} {c_tape : (Nat → Int32)} {c_taped : Int32} {c_size : Int32} {c_from : Int32} {c_next : Int32} {c_token : Int32} {c_value : Int32} {c_fault : Int32} {c_number : Int32} {c_fives : (Nat → Int32)} {c_isLeft : (Nat → Int32)} {c_wentTimes : Int32} {c_goes : (Nat → Int32)} {c_isLeftLaid : Int32} {c_game : (Nat → Int32)} {c_rows : Int32} {c_columns : Int32} {c_isFound : Int32} {c_bestValue : Int64} {c_bestBelow : Int64} {c_bestShare : (Nat → Int64)} {c_share : (Nat → Int64)} {c_matrix : (Nat → Int64)} {c_system : (Nat → Int64)} {c_shares : (Nat → Int32)} {c_allShares : Int32} {v : Int32} (hX : xIs (j10_planned) X ((some .int)) (some (.int v)) (hM c_thrown c_told c_read c_many c_eights c_gains c_notes c_seen c_turns c_drawn c_state c_tape c_taped c_size c_from c_next c_token c_value c_fault c_number c_fives c_isLeft c_wentTimes c_goes c_isLeftLaid c_game c_rows c_columns c_isFound c_bestValue c_bestBelow c_bestShare c_share c_matrix c_system c_shares c_allShares)) (hf : F10_planned x1 c_told = some v) : xV (j10_planned) X 0 0 (hM c_thrown c_told c_read c_many c_eights c_gains c_notes c_seen c_turns c_drawn c_state c_tape c_taped c_size c_from c_next c_token c_value c_fault c_number c_fives c_isLeft c_wentTimes c_goes c_isLeftLaid c_game c_rows c_columns c_isFound c_bestValue c_bestBelow c_bestShare c_share c_matrix c_system c_shares c_allShares) 0 [(0, .ref 0), (1, .int x1)] [] := by
  unfold F10_planned at hf
  refine xV_aload_n 1 rfl dX10_planned_0 rfl 0 rfl ?_
  refine xV_get (v := .ref 1) 4 rfl dX10_planned_1 f10_17 rfl rfl ?_
  refine xV_iload_n 5 rfl dX10_planned_4 rfl 1 rfl ?_
  refine xV_bipush 7 rfl dX10_planned_5 xk_b7 ?_
  obtain ⟨v7, hv7, hf⟩ := xb_s hf
  refine xV_st0 (rest := [.ref 1]) 10 rfl dX10_planned_7 rfl (C10_at X.1.2.1 hv7) m10_at s10_at k10_109 rfl (Nat.le_of_ble_eq_true rfl) (Nat.le_of_ble_eq_true rfl) (Nat.le_of_ble_eq_true rfl) ⟨Nat.le_refl _, Nat.le_refl _⟩ ?_
  show xV (j10_planned) X 0 0 (hM c_thrown c_told c_read c_many c_eights c_gains c_notes c_seen c_turns c_drawn c_state c_tape c_taped c_size c_from c_next c_token c_value c_fault c_number c_fives c_isLeft c_wentTimes c_goes c_isLeftLaid c_game c_rows c_columns c_isFound c_bestValue c_bestBelow c_bestShare c_share c_matrix c_system c_shares c_allShares) 10 [(0, .ref 0), (1, .int x1)] [.int v7, .ref 1]
  obtain ⟨hg10, hf⟩ := xg_s hf
  refine xV_iaload 11 rfl dX10_planned_10 rfl (xin_ok hg10) rfl ?_
  obtain rfl := Option.some.inj hf
  exact xV_iret hX dX10_planned_11 rfl (Nat.zero_le _) (Nat.zero_le _)
theorem C10_planned (l : Launch) {x1 : Int32} {c_told : (Nat → Int32)} {c_thrown : Int32} {c_read : (Nat → Int32)} {c_many : (Nat → Int32)} {c_eights : (Nat → Int32)} {c_gains : (Nat → Int32)} {c_notes : (Nat → Int32)} {c_seen : (Nat → Int32)} {c_turns : (Nat → Int32)} {c_drawn : (Nat → Int32)} {c_state : Int32} {c_tape : (Nat → Int32)} {c_taped : Int32} {c_size : Int32} {c_from : Int32} {c_next : Int32} {c_token : Int32} {c_value : Int32} {c_fault : Int32} {c_number : Int32} {c_fives : (Nat → Int32)} {c_isLeft : (Nat → Int32)} {c_wentTimes : Int32} {c_goes : (Nat → Int32)} {c_isLeftLaid : Int32} {c_game : (Nat → Int32)} {c_rows : Int32} {c_columns : Int32} {c_isFound : Int32} {c_bestValue : Int64} {c_bestBelow : Int64} {c_bestShare : (Nat → Int64)} {c_share : (Nat → Int64)} {c_matrix : (Nat → Int64)} {c_system : (Nat → Int64)} {c_shares : (Nat → Int32)} {c_allShares : Int32} {v : Int32} (hf : F10_planned x1 c_told = some v) : xCt l yX10_planned ((some .int)) j10_planned [.ref 0, .int x1] (hM c_thrown c_told c_read c_many c_eights c_gains c_notes c_seen c_turns c_drawn c_state c_tape c_taped c_size c_from c_next c_token c_value c_fault c_number c_fives c_isLeft c_wentTimes c_goes c_isLeftLaid c_game c_rows c_columns c_isFound c_bestValue c_bestBelow c_bestShare c_share c_matrix c_system c_shares c_allShares) (some (.int v)) (hM c_thrown c_told c_read c_many c_eights c_gains c_notes c_seen c_turns c_drawn c_state c_tape c_taped c_size c_from c_next c_token c_value c_fault c_number c_fives c_isLeft c_wentTimes c_goes c_isLeftLaid c_game c_rows c_columns c_isFound c_bestValue c_bestBelow c_bestShare c_share c_matrix c_system c_shares c_allShares) := xCt_of (by decide) rfl (Nat.le_of_ble_eq_true rfl) (fun _ hX => T10_planned hX hf)
theorem m10_planned : xMd yX10_planned RX10 ((some .int)) j10_planned 1 := ⟨List.mem_of_getElem? (i := 1042) (by decide +kernel), List.mem_of_getElem? (i := 5) (by decide +kernel), rfl, by decide +kernel⟩
theorem v10_planned : xMv yX10_planned RX10 := ⟨List.mem_of_getElem? (i := 1040) (by decide +kernel), List.mem_of_getElem? (i := 1041) (by decide +kernel)⟩
theorem dX10_planAt_0 : decode cX10_planAt 0 = .ok (.aload_n 0, 1) := by decide +kernel
theorem dX10_planAt_1 : decode cX10_planAt 1 = .ok (.iload_n 1, 1) := by decide +kernel
theorem dX10_planAt_2 : decode cX10_planAt 2 = .ok (.aload_n 0, 1) := by decide +kernel
theorem dX10_planAt_3 : decode cX10_planAt 3 = .ok (.getfield 17, 3) := by decide +kernel
theorem dX10_planAt_6 : decode cX10_planAt 6 = .ok (.iload_n 1, 1) := by decide +kernel
theorem dX10_planAt_7 : decode cX10_planAt 7 = .ok (.bipush 8, 2) := by decide +kernel
theorem dX10_planAt_9 : decode cX10_planAt 9 = .ok (.invokestatic 109, 3) := by decide +kernel
theorem dX10_planAt_12 : decode cX10_planAt 12 = .ok (.iload_n 2, 1) := by decide +kernel
theorem dX10_planAt_13 : decode cX10_planAt 13 = .ok (.iadd, 1) := by decide +kernel
theorem dX10_planAt_14 : decode cX10_planAt 14 = .ok (.iaload, 1) := by decide +kernel
theorem dX10_planAt_15 : decode cX10_planAt 15 = .ok (.invokevirtual 213, 3) := by decide +kernel
theorem dX10_planAt_18 : decode cX10_planAt 18 = .ok (.ireturn, 1) := by decide +kernel
abbrev j10_planAt : xJ := (cX10_planAt, 3, RX10, 3, 0, 0)
def F10_planAt (z : Nat) (x1 : Int32) (x2 : Int32) (c_told : (Nat → Int32)) (c_many : (Nat → Int32)) (c_eights : (Nat → Int32)) : Option (Int32) :=
  (F10_at x1 (8 : Int32)).bind (fun v9 => xg (xin (v9 + x2) 56) ((F10_numberOf z x1 (c_told (xn (v9 + x2))) c_many c_eights).bind (fun v15 => some (v15))))
theorem T10_planAt {X : xX} {z : Nat} {x1 : Int32} {x2 : Int32} {c_told : (Nat → Int32)} {c_many : (Nat → Int32)} {c_eights : (Nat → Int32)} {c_thrown : Int32} {c_read : (Nat → Int32)} {c_gains : (Nat → Int32)} {c_notes : (Nat → Int32)} {c_seen : (Nat → Int32)} {c_turns : (Nat → Int32)} {c_drawn : (Nat → Int32)} {c_state : Int32} {c_tape : (Nat → Int32)} {c_taped : Int32} {c_size : Int32} {c_from : Int32} {c_next : Int32} {c_token : Int32} {c_value : Int32} {c_fault : Int32} {c_number : Int32} {c_fives : (Nat → Int32)} {c_isLeft : (Nat → Int32)} {c_wentTimes : Int32} {c_goes : (Nat → Int32)} {c_isLeftLaid : Int32} {c_game : (Nat → Int32)} {c_rows : Int32} {c_columns : Int32} {c_isFound : Int32} {c_bestValue : Int64} {c_bestBelow : Int64} {c_bestShare : (Nat → Int64)} {c_share : (Nat → Int64)} {c_matrix : (Nat → Int64)} {c_system : (Nat → Int64)} {c_shares : (Nat → Int32)} {c_allShares : Int32} {v : Int32} (hX : xIs (j10_planAt) X ((some .int)) (some (.int v)) (hM c_thrown c_told c_read c_many c_eights c_gains c_notes c_seen c_turns c_drawn c_state c_tape c_taped c_size c_from c_next c_token c_value c_fault c_number c_fives c_isLeft c_wentTimes c_goes c_isLeftLaid c_game c_rows c_columns c_isFound c_bestValue c_bestBelow c_bestShare c_share c_matrix c_system c_shares c_allShares)) (hf : F10_planAt z x1 x2 c_told c_many c_eights = some v) : xV (j10_planAt) X 0 0 (hM c_thrown c_told c_read c_many c_eights c_gains c_notes c_seen c_turns c_drawn c_state c_tape c_taped c_size c_from c_next c_token c_value c_fault c_number c_fives c_isLeft c_wentTimes c_goes c_isLeftLaid c_game c_rows c_columns c_isFound c_bestValue c_bestBelow c_bestShare c_share c_matrix c_system c_shares c_allShares) 0 [(0, .ref 0), (1, .int x1), (2, .int x2)] [] := by
  unfold F10_planAt at hf
  refine xV_aload_n 1 rfl dX10_planAt_0 rfl 0 rfl ?_
  refine xV_iload_n 2 rfl dX10_planAt_1 rfl 1 rfl ?_
  refine xV_aload_n 3 rfl dX10_planAt_2 rfl 0 rfl ?_
  refine xV_get (v := .ref 1) 6 rfl dX10_planAt_3 f10_17 rfl rfl ?_
  refine xV_iload_n 7 rfl dX10_planAt_6 rfl 1 rfl ?_
  refine xV_bipush 9 rfl dX10_planAt_7 xk_b8 ?_
  obtain ⟨v9, hv9, hf⟩ := xb_s hf
  refine xV_st0 (rest := [.ref 1, .int x1, .ref 0]) 12 rfl dX10_planAt_9 rfl (C10_at X.1.2.1 hv9) m10_at s10_at k10_109 rfl (Nat.le_of_ble_eq_true rfl) (Nat.le_of_ble_eq_true rfl) (Nat.le_of_ble_eq_true rfl) ⟨Nat.le_refl _, Nat.le_refl _⟩ ?_
  show xV (j10_planAt) X 0 0 (hM c_thrown c_told c_read c_many c_eights c_gains c_notes c_seen c_turns c_drawn c_state c_tape c_taped c_size c_from c_next c_token c_value c_fault c_number c_fives c_isLeft c_wentTimes c_goes c_isLeftLaid c_game c_rows c_columns c_isFound c_bestValue c_bestBelow c_bestShare c_share c_matrix c_system c_shares c_allShares) 12 [(0, .ref 0), (1, .int x1), (2, .int x2)] [.int v9, .ref 1, .int x1, .ref 0]
  refine xV_iload_n 13 rfl dX10_planAt_12 rfl 2 rfl ?_
  refine xV_iadd 14 rfl dX10_planAt_13 ?_
  obtain ⟨hg14, hf⟩ := xg_s hf
  refine xV_iaload 15 rfl dX10_planAt_14 rfl (xin_ok hg14) rfl ?_
  obtain ⟨v15, hv15, hf⟩ := xb_s hf
  refine xV_same (rest := []) 18 rfl dX10_planAt_15 rfl (C10_numberOf X.1.2.1 hv15) m10_numberOf v10_numberOf k10_213 rfl rfl rfl rfl rfl (Nat.le_of_ble_eq_true rfl) (Nat.le_of_ble_eq_true rfl) (Nat.le_of_ble_eq_true rfl) ⟨Nat.le_refl _, Nat.le_refl _⟩ ?_
  show xV (j10_planAt) X 0 0 (hM c_thrown c_told c_read c_many c_eights c_gains c_notes c_seen c_turns c_drawn c_state c_tape c_taped c_size c_from c_next c_token c_value c_fault c_number c_fives c_isLeft c_wentTimes c_goes c_isLeftLaid c_game c_rows c_columns c_isFound c_bestValue c_bestBelow c_bestShare c_share c_matrix c_system c_shares c_allShares) 18 [(0, .ref 0), (1, .int x1), (2, .int x2)] [.int v15]
  obtain rfl := Option.some.inj hf
  exact xV_iret hX dX10_planAt_18 rfl (Nat.zero_le _) (Nat.zero_le _)
theorem C10_planAt (l : Launch) {z : Nat} {x1 : Int32} {x2 : Int32} {c_told : (Nat → Int32)} {c_many : (Nat → Int32)} {c_eights : (Nat → Int32)} {c_thrown : Int32} {c_read : (Nat → Int32)} {c_gains : (Nat → Int32)} {c_notes : (Nat → Int32)} {c_seen : (Nat → Int32)} {c_turns : (Nat → Int32)} {c_drawn : (Nat → Int32)} {c_state : Int32} {c_tape : (Nat → Int32)} {c_taped : Int32} {c_size : Int32} {c_from : Int32} {c_next : Int32} {c_token : Int32} {c_value : Int32} {c_fault : Int32} {c_number : Int32} {c_fives : (Nat → Int32)} {c_isLeft : (Nat → Int32)} {c_wentTimes : Int32} {c_goes : (Nat → Int32)} {c_isLeftLaid : Int32} {c_game : (Nat → Int32)} {c_rows : Int32} {c_columns : Int32} {c_isFound : Int32} {c_bestValue : Int64} {c_bestBelow : Int64} {c_bestShare : (Nat → Int64)} {c_share : (Nat → Int64)} {c_matrix : (Nat → Int64)} {c_system : (Nat → Int64)} {c_shares : (Nat → Int32)} {c_allShares : Int32} {v : Int32} (hf : F10_planAt z x1 x2 c_told c_many c_eights = some v) : xCt l yX10_planAt ((some .int)) j10_planAt [.ref 0, .int x1, .int x2] (hM c_thrown c_told c_read c_many c_eights c_gains c_notes c_seen c_turns c_drawn c_state c_tape c_taped c_size c_from c_next c_token c_value c_fault c_number c_fives c_isLeft c_wentTimes c_goes c_isLeftLaid c_game c_rows c_columns c_isFound c_bestValue c_bestBelow c_bestShare c_share c_matrix c_system c_shares c_allShares) (some (.int v)) (hM c_thrown c_told c_read c_many c_eights c_gains c_notes c_seen c_turns c_drawn c_state c_tape c_taped c_size c_from c_next c_token c_value c_fault c_number c_fives c_isLeft c_wentTimes c_goes c_isLeftLaid c_game c_rows c_columns c_isFound c_bestValue c_bestBelow c_bestShare c_share c_matrix c_system c_shares c_allShares) := xCt_of (by decide) rfl (Nat.le_of_ble_eq_true rfl) (fun _ hX => T10_planAt hX hf)
theorem m10_planAt : xMd yX10_planAt RX10 ((some .int)) j10_planAt 2 := ⟨List.mem_of_getElem? (i := 1046) (by decide +kernel), List.mem_of_getElem? (i := 5) (by decide +kernel), rfl, by decide +kernel⟩
theorem v10_planAt : xMv yX10_planAt RX10 := ⟨List.mem_of_getElem? (i := 1044) (by decide +kernel), List.mem_of_getElem? (i := 1045) (by decide +kernel)⟩
theorem dX10_weightAt_0 : decode cX10_weightAt 0 = .ok (.aload_n 0, 1) := by decide +kernel
theorem dX10_weightAt_1 : decode cX10_weightAt 1 = .ok (.getfield 17, 3) := by decide +kernel
theorem dX10_weightAt_4 : decode cX10_weightAt 4 = .ok (.iload_n 1, 1) := by decide +kernel
theorem dX10_weightAt_5 : decode cX10_weightAt 5 = .ok (.bipush 16, 2) := by decide +kernel
theorem dX10_weightAt_7 : decode cX10_weightAt 7 = .ok (.invokestatic 109, 3) := by decide +kernel
theorem dX10_weightAt_10 : decode cX10_weightAt 10 = .ok (.iload_n 2, 1) := by decide +kernel
theorem dX10_weightAt_11 : decode cX10_weightAt 11 = .ok (.iadd, 1) := by decide +kernel
theorem dX10_weightAt_12 : decode cX10_weightAt 12 = .ok (.iaload, 1) := by decide +kernel
theorem dX10_weightAt_13 : decode cX10_weightAt 13 = .ok (.ireturn, 1) := by decide +kernel
abbrev j10_weightAt : xJ := (cX10_weightAt, 3, RX10, 2, 0, 0)
def F10_weightAt (x1 : Int32) (x2 : Int32) (c_told : (Nat → Int32)) : Option (Int32) :=
  (F10_at x1 (16 : Int32)).bind (fun v7 => xg (xin (v7 + x2) 56) (some ((c_told (xn (v7 + x2))))))
theorem T10_weightAt {X : xX} {x1 : Int32} {x2 : Int32} {c_told : (Nat → Int32)} {c_thrown : Int32} {c_read : (Nat → Int32)} {c_many : (Nat → Int32)} {c_eights : (Nat → Int32)} {c_gains : (Nat → Int32)} {c_notes : (Nat → Int32)} {c_seen : (Nat → Int32)} {c_turns : (Nat → Int32)} {c_drawn : (Nat → Int32)} {c_state : Int32} {c_tape : (Nat → Int32)} {c_taped : Int32} {c_size : Int32} {c_from : Int32} {c_next : Int32} {c_token : Int32} {c_value : Int32} {c_fault : Int32} {c_number : Int32} {c_fives : (Nat → Int32)} {c_isLeft : (Nat → Int32)} {c_wentTimes : Int32} {c_goes : (Nat → Int32)} {c_isLeftLaid : Int32} {c_game : (Nat → Int32)} {c_rows : Int32} {c_columns : Int32} {c_isFound : Int32} {c_bestValue : Int64} {c_bestBelow : Int64} {c_bestShare : (Nat → Int64)} {c_share : (Nat → Int64)} {c_matrix : (Nat → Int64)} {c_system : (Nat → Int64)} {c_shares : (Nat → Int32)} {c_allShares : Int32} {v : Int32} (hX : xIs (j10_weightAt) X ((some .int)) (some (.int v)) (hM c_thrown c_told c_read c_many c_eights c_gains c_notes c_seen c_turns c_drawn c_state c_tape c_taped c_size c_from c_next c_token c_value c_fault c_number c_fives c_isLeft c_wentTimes c_goes c_isLeftLaid c_game c_rows c_columns c_isFound c_bestValue c_bestBelow c_bestShare c_share c_matrix c_system c_shares c_allShares)) (hf : F10_weightAt x1 x2 c_told = some v) : xV (j10_weightAt) X 0 0 (hM c_thrown c_told c_read c_many c_eights c_gains c_notes c_seen c_turns c_drawn c_state c_tape c_taped c_size c_from c_next c_token c_value c_fault c_number c_fives c_isLeft c_wentTimes c_goes c_isLeftLaid c_game c_rows c_columns c_isFound c_bestValue c_bestBelow c_bestShare c_share c_matrix c_system c_shares c_allShares) 0 [(0, .ref 0), (1, .int x1), (2, .int x2)] [] := by
  unfold F10_weightAt at hf
  refine xV_aload_n 1 rfl dX10_weightAt_0 rfl 0 rfl ?_
  refine xV_get (v := .ref 1) 4 rfl dX10_weightAt_1 f10_17 rfl rfl ?_
  refine xV_iload_n 5 rfl dX10_weightAt_4 rfl 1 rfl ?_
  refine xV_bipush 7 rfl dX10_weightAt_5 xk_b16 ?_
  obtain ⟨v7, hv7, hf⟩ := xb_s hf
  refine xV_st0 (rest := [.ref 1]) 10 rfl dX10_weightAt_7 rfl (C10_at X.1.2.1 hv7) m10_at s10_at k10_109 rfl (Nat.le_of_ble_eq_true rfl) (Nat.le_of_ble_eq_true rfl) (Nat.le_of_ble_eq_true rfl) ⟨Nat.le_refl _, Nat.le_refl _⟩ ?_
  show xV (j10_weightAt) X 0 0 (hM c_thrown c_told c_read c_many c_eights c_gains c_notes c_seen c_turns c_drawn c_state c_tape c_taped c_size c_from c_next c_token c_value c_fault c_number c_fives c_isLeft c_wentTimes c_goes c_isLeftLaid c_game c_rows c_columns c_isFound c_bestValue c_bestBelow c_bestShare c_share c_matrix c_system c_shares c_allShares) 10 [(0, .ref 0), (1, .int x1), (2, .int x2)] [.int v7, .ref 1]
  refine xV_iload_n 11 rfl dX10_weightAt_10 rfl 2 rfl ?_
  refine xV_iadd 12 rfl dX10_weightAt_11 ?_
  obtain ⟨hg12, hf⟩ := xg_s hf
  refine xV_iaload 13 rfl dX10_weightAt_12 rfl (xin_ok hg12) rfl ?_
  obtain rfl := Option.some.inj hf
  exact xV_iret hX dX10_weightAt_13 rfl (Nat.zero_le _) (Nat.zero_le _)
theorem C10_weightAt (l : Launch) {x1 : Int32} {x2 : Int32} {c_told : (Nat → Int32)} {c_thrown : Int32} {c_read : (Nat → Int32)} {c_many : (Nat → Int32)} {c_eights : (Nat → Int32)} {c_gains : (Nat → Int32)} {c_notes : (Nat → Int32)} {c_seen : (Nat → Int32)} {c_turns : (Nat → Int32)} {c_drawn : (Nat → Int32)} {c_state : Int32} {c_tape : (Nat → Int32)} {c_taped : Int32} {c_size : Int32} {c_from : Int32} {c_next : Int32} {c_token : Int32} {c_value : Int32} {c_fault : Int32} {c_number : Int32} {c_fives : (Nat → Int32)} {c_isLeft : (Nat → Int32)} {c_wentTimes : Int32} {c_goes : (Nat → Int32)} {c_isLeftLaid : Int32} {c_game : (Nat → Int32)} {c_rows : Int32} {c_columns : Int32} {c_isFound : Int32} {c_bestValue : Int64} {c_bestBelow : Int64} {c_bestShare : (Nat → Int64)} {c_share : (Nat → Int64)} {c_matrix : (Nat → Int64)} {c_system : (Nat → Int64)} {c_shares : (Nat → Int32)} {c_allShares : Int32} {v : Int32} (hf : F10_weightAt x1 x2 c_told = some v) : xCt l yX10_weightAt ((some .int)) j10_weightAt [.ref 0, .int x1, .int x2] (hM c_thrown c_told c_read c_many c_eights c_gains c_notes c_seen c_turns c_drawn c_state c_tape c_taped c_size c_from c_next c_token c_value c_fault c_number c_fives c_isLeft c_wentTimes c_goes c_isLeftLaid c_game c_rows c_columns c_isFound c_bestValue c_bestBelow c_bestShare c_share c_matrix c_system c_shares c_allShares) (some (.int v)) (hM c_thrown c_told c_read c_many c_eights c_gains c_notes c_seen c_turns c_drawn c_state c_tape c_taped c_size c_from c_next c_token c_value c_fault c_number c_fives c_isLeft c_wentTimes c_goes c_isLeftLaid c_game c_rows c_columns c_isFound c_bestValue c_bestBelow c_bestShare c_share c_matrix c_system c_shares c_allShares) := xCt_of (by decide) rfl (Nat.le_of_ble_eq_true rfl) (fun _ hX => T10_weightAt hX hf)
theorem m10_weightAt : xMd yX10_weightAt RX10 ((some .int)) j10_weightAt 2 := ⟨List.mem_of_getElem? (i := 1061) (by decide +kernel), List.mem_of_getElem? (i := 5) (by decide +kernel), rfl, by decide +kernel⟩
theorem v10_weightAt : xMv yX10_weightAt RX10 := ⟨List.mem_of_getElem? (i := 1059) (by decide +kernel), List.mem_of_getElem? (i := 1060) (by decide +kernel)⟩
theorem k10_328 : Cond.methodLink RX10 328 yX10_planned ∈ wsL_law0 := List.mem_of_getElem? (i := 1039) (by decide +kernel)
theorem k10_331 : Cond.methodLink RX10 331 yX10_weightAt ∈ wsL_law0 := List.mem_of_getElem? (i := 1058) (by decide +kernel)
theorem dX10_weights_0 : decode cX10_weights 0 = .ok (.iconst 0, 1) := by decide +kernel
theorem dX10_weights_1 : decode cX10_weights 1 = .ok (.istore_n 2, 1) := by decide +kernel
theorem dX10_weights_2 : decode cX10_weights 2 = .ok (.iconst 0, 1) := by decide +kernel
theorem dX10_weights_3 : decode cX10_weights 3 = .ok (.istore_n 3, 1) := by decide +kernel
theorem dX10_weights_4 : decode cX10_weights 4 = .ok (.iload_n 3, 1) := by decide +kernel
theorem dX10_weights_5 : decode cX10_weights 5 = .ok (.aload_n 0, 1) := by decide +kernel
theorem dX10_weights_6 : decode cX10_weights 6 = .ok (.iload_n 1, 1) := by decide +kernel
theorem dX10_weights_7 : decode cX10_weights 7 = .ok (.invokevirtual 328, 3) := by decide +kernel
theorem dX10_weights_10 : decode cX10_weights 10 = .ok (.if_icmp .ge 18, 3) := by decide +kernel
theorem dX10_weights_13 : decode cX10_weights 13 = .ok (.iload_n 2, 1) := by decide +kernel
theorem dX10_weights_14 : decode cX10_weights 14 = .ok (.aload_n 0, 1) := by decide +kernel
theorem dX10_weights_15 : decode cX10_weights 15 = .ok (.iload_n 1, 1) := by decide +kernel
theorem dX10_weights_16 : decode cX10_weights 16 = .ok (.iload_n 3, 1) := by decide +kernel
theorem dX10_weights_17 : decode cX10_weights 17 = .ok (.invokevirtual 331, 3) := by decide +kernel
theorem dX10_weights_20 : decode cX10_weights 20 = .ok (.iadd, 1) := by decide +kernel
theorem dX10_weights_21 : decode cX10_weights 21 = .ok (.istore_n 2, 1) := by decide +kernel
theorem dX10_weights_22 : decode cX10_weights 22 = .ok (.iinc 3 1, 3) := by decide +kernel
theorem dX10_weights_25 : decode cX10_weights 25 = .ok (.goto (-21), 3) := by decide +kernel
theorem dX10_weights_28 : decode cX10_weights 28 = .ok (.iload_n 2, 1) := by decide +kernel
theorem dX10_weights_29 : decode cX10_weights 29 = .ok (.ireturn, 1) := by decide +kernel
abbrev j10_weights : xJ := (cX10_weights, 4, RX10, 3, 0, 0)
def F10_weights_b4 (z : Nat) (w : Nat) (x1 : Int32) (x2 : Int32) (x3 : Int32) (c_told : (Nat → Int32)) : Option (Int32) := match w with
  | 0 => none
  | w + 1 => (F10_planned x1 c_told).bind (fun v7 => if v7 ≤ x3 then (some (x2)) else ((F10_weightAt x1 x3 c_told).bind (fun v17 => F10_weights_b4 z w x1 (x2 + v17) (x3 + (1 : Int32)) c_told)))
theorem T10_weights_b4 {X : xX} {c_thrown : Int32} {c_told : (Nat → Int32)} {c_read : (Nat → Int32)} {c_many : (Nat → Int32)} {c_eights : (Nat → Int32)} {c_gains : (Nat → Int32)} {c_notes : (Nat → Int32)} {c_seen : (Nat → Int32)} {c_turns : (Nat → Int32)} {c_drawn : (Nat → Int32)} {c_state : Int32} {c_tape : (Nat → Int32)} {c_taped : Int32} {c_size : Int32} {c_from : Int32} {c_next : Int32} {c_token : Int32} {c_value : Int32} {c_fault : Int32} {c_number : Int32} {c_fives : (Nat → Int32)} {c_isLeft : (Nat → Int32)} {c_wentTimes : Int32} {c_goes : (Nat → Int32)} {c_isLeftLaid : Int32} {c_game : (Nat → Int32)} {c_rows : Int32} {c_columns : Int32} {c_isFound : Int32} {c_bestValue : Int64} {c_bestBelow : Int64} {c_bestShare : (Nat → Int64)} {c_share : (Nat → Int64)} {c_matrix : (Nat → Int64)} {c_system : (Nat → Int64)} {c_shares : (Nat → Int32)} {c_allShares : Int32} {z : Nat} {v : Int32} (hX : xIs (j10_weights) X ((some .int)) (some (.int v)) (hM c_thrown c_told c_read c_many c_eights c_gains c_notes c_seen c_turns c_drawn c_state c_tape c_taped c_size c_from c_next c_token c_value c_fault c_number c_fives c_isLeft c_wentTimes c_goes c_isLeftLaid c_game c_rows c_columns c_isFound c_bestValue c_bestBelow c_bestShare c_share c_matrix c_system c_shares c_allShares)) : ∀ (w : Nat) {x1 : Int32} {x2 : Int32} {x3 : Int32}, F10_weights_b4 z w x1 x2 x3 c_told = some v → xV (j10_weights) X 0 0 (hM c_thrown c_told c_read c_many c_eights c_gains c_notes c_seen c_turns c_drawn c_state c_tape c_taped c_size c_from c_next c_token c_value c_fault c_number c_fives c_isLeft c_wentTimes c_goes c_isLeftLaid c_game c_rows c_columns c_isFound c_bestValue c_bestBelow c_bestShare c_share c_matrix c_system c_shares c_allShares) 4 [(0, .ref 0), (1, .int x1), (2, .int x2), (3, .int x3)] [] := by
  intro w
  induction w with
  | zero => intro x1 x2 x3 hf; cases hf
  | succ w ih =>
    intro x1 x2 x3 hf
    unfold F10_weights_b4 at hf
    refine xV_iload_n 5 rfl dX10_weights_4 rfl 3 rfl ?_
    refine xV_aload_n 6 rfl dX10_weights_5 rfl 0 rfl ?_
    refine xV_iload_n 7 rfl dX10_weights_6 rfl 1 rfl ?_
    obtain ⟨v7, hv7, hf⟩ := xb_s hf
    refine xV_same (rest := [.int x3]) 10 rfl dX10_weights_7 rfl (C10_planned X.1.2.1 hv7) m10_planned v10_planned k10_328 rfl rfl rfl rfl rfl (Nat.le_of_ble_eq_true rfl) (Nat.le_of_ble_eq_true rfl) (Nat.le_of_ble_eq_true rfl) ⟨Nat.le_refl _, Nat.le_refl _⟩ ?_
    show xV (j10_weights) X 0 0 (hM c_thrown c_told c_read c_many c_eights c_gains c_notes c_seen c_turns c_drawn c_state c_tape c_taped c_size c_from c_next c_token c_value c_fault c_number c_fives c_isLeft c_wentTimes c_goes c_isLeftLaid c_game c_rows c_columns c_isFound c_bestValue c_bestBelow c_bestShare c_share c_matrix c_system c_shares c_allShares) 10 [(0, .ref 0), (1, .int x1), (2, .int x2), (3, .int x3)] [.int v7, .int x3]
    refine xV_icmp_ge (tgt := 28) 13 rfl dX10_weights_10 (by decide) (fun h10 => ?_) (fun h10 => ?_)
    · have hf := xif_t hf h10
      refine xV_iload_n 29 rfl dX10_weights_28 rfl 2 rfl ?_
      obtain rfl := Option.some.inj hf
      exact xV_iret hX dX10_weights_29 rfl (Nat.zero_le _) (Nat.zero_le _)
    · have hf := xif_f hf h10
      refine xV_iload_n 14 rfl dX10_weights_13 rfl 2 rfl ?_
      refine xV_aload_n 15 rfl dX10_weights_14 rfl 0 rfl ?_
      refine xV_iload_n 16 rfl dX10_weights_15 rfl 1 rfl ?_
      refine xV_iload_n 17 rfl dX10_weights_16 rfl 3 rfl ?_
      obtain ⟨v17, hv17, hf⟩ := xb_s hf
      refine xV_same (rest := [.int x2]) 20 rfl dX10_weights_17 rfl (C10_weightAt X.1.2.1 hv17) m10_weightAt v10_weightAt k10_331 rfl rfl rfl rfl rfl (Nat.le_of_ble_eq_true rfl) (Nat.le_of_ble_eq_true rfl) (Nat.le_of_ble_eq_true rfl) ⟨Nat.le_refl _, Nat.le_refl _⟩ ?_
      show xV (j10_weights) X 0 0 (hM c_thrown c_told c_read c_many c_eights c_gains c_notes c_seen c_turns c_drawn c_state c_tape c_taped c_size c_from c_next c_token c_value c_fault c_number c_fives c_isLeft c_wentTimes c_goes c_isLeftLaid c_game c_rows c_columns c_isFound c_bestValue c_bestBelow c_bestShare c_share c_matrix c_system c_shares c_allShares) 20 [(0, .ref 0), (1, .int x1), (2, .int x2), (3, .int x3)] [.int v17, .int x2]
      refine xV_iadd 21 rfl dX10_weights_20 ?_
      refine xV_istore_n (L' := [(2, .int (x2 + v17)), (0, .ref 0), (1, .int x1), (3, .int x3)]) 22 rfl dX10_weights_21 rfl (xlt rfl) rfl ?_
      refine xV_iinc (L' := [(3, .int (x3 + (1 : Int32))), (2, .int (x2 + v17)), (0, .ref 0), (1, .int x1)]) 25 rfl dX10_weights_22 3 rfl (xk_inc xk_i1) (xlt rfl) rfl ?_
      refine xV_goto (tgt := 4) dX10_weights_25 (by decide) ?_
      refine xV_sub [2, 3, 1, 0] rfl ?_
      exact ih hf
def F10_weights (z : Nat) (x1 : Int32) (c_told : (Nat → Int32)) : Option (Int32) :=
  F10_weights_b4 z z x1 (0 : Int32) (0 : Int32) c_told
theorem T10_weights {X : xX} {z : Nat} {x1 : Int32} {c_told : (Nat → Int32)} {c_thrown : Int32} {c_read : (Nat → Int32)} {c_many : (Nat → Int32)} {c_eights : (Nat → Int32)} {c_gains : (Nat → Int32)} {c_notes : (Nat → Int32)} {c_seen : (Nat → Int32)} {c_turns : (Nat → Int32)} {c_drawn : (Nat → Int32)} {c_state : Int32} {c_tape : (Nat → Int32)} {c_taped : Int32} {c_size : Int32} {c_from : Int32} {c_next : Int32} {c_token : Int32} {c_value : Int32} {c_fault : Int32} {c_number : Int32} {c_fives : (Nat → Int32)} {c_isLeft : (Nat → Int32)} {c_wentTimes : Int32} {c_goes : (Nat → Int32)} {c_isLeftLaid : Int32} {c_game : (Nat → Int32)} {c_rows : Int32} {c_columns : Int32} {c_isFound : Int32} {c_bestValue : Int64} {c_bestBelow : Int64} {c_bestShare : (Nat → Int64)} {c_share : (Nat → Int64)} {c_matrix : (Nat → Int64)} {c_system : (Nat → Int64)} {c_shares : (Nat → Int32)} {c_allShares : Int32} {v : Int32} (hX : xIs (j10_weights) X ((some .int)) (some (.int v)) (hM c_thrown c_told c_read c_many c_eights c_gains c_notes c_seen c_turns c_drawn c_state c_tape c_taped c_size c_from c_next c_token c_value c_fault c_number c_fives c_isLeft c_wentTimes c_goes c_isLeftLaid c_game c_rows c_columns c_isFound c_bestValue c_bestBelow c_bestShare c_share c_matrix c_system c_shares c_allShares)) (hf : F10_weights z x1 c_told = some v) : xV (j10_weights) X 0 0 (hM c_thrown c_told c_read c_many c_eights c_gains c_notes c_seen c_turns c_drawn c_state c_tape c_taped c_size c_from c_next c_token c_value c_fault c_number c_fives c_isLeft c_wentTimes c_goes c_isLeftLaid c_game c_rows c_columns c_isFound c_bestValue c_bestBelow c_bestShare c_share c_matrix c_system c_shares c_allShares) 0 [(0, .ref 0), (1, .int x1)] [] := by
  unfold F10_weights at hf
  refine xV_iconst 1 rfl dX10_weights_0 xk_i0 ?_
  refine xV_istore_n (L' := [(2, .int (0 : Int32)), (0, .ref 0), (1, .int x1)]) 2 rfl dX10_weights_1 rfl (xlt rfl) rfl ?_
  refine xV_iconst 3 rfl dX10_weights_2 xk_i0 ?_
  refine xV_istore_n (L' := [(3, .int (0 : Int32)), (2, .int (0 : Int32)), (0, .ref 0), (1, .int x1)]) 4 rfl dX10_weights_3 rfl (xlt rfl) rfl ?_
  refine xV_sub [2, 3, 1, 0] rfl ?_
  exact T10_weights_b4 hX _ hf
theorem C10_weights (l : Launch) {z : Nat} {x1 : Int32} {c_told : (Nat → Int32)} {c_thrown : Int32} {c_read : (Nat → Int32)} {c_many : (Nat → Int32)} {c_eights : (Nat → Int32)} {c_gains : (Nat → Int32)} {c_notes : (Nat → Int32)} {c_seen : (Nat → Int32)} {c_turns : (Nat → Int32)} {c_drawn : (Nat → Int32)} {c_state : Int32} {c_tape : (Nat → Int32)} {c_taped : Int32} {c_size : Int32} {c_from : Int32} {c_next : Int32} {c_token : Int32} {c_value : Int32} {c_fault : Int32} {c_number : Int32} {c_fives : (Nat → Int32)} {c_isLeft : (Nat → Int32)} {c_wentTimes : Int32} {c_goes : (Nat → Int32)} {c_isLeftLaid : Int32} {c_game : (Nat → Int32)} {c_rows : Int32} {c_columns : Int32} {c_isFound : Int32} {c_bestValue : Int64} {c_bestBelow : Int64} {c_bestShare : (Nat → Int64)} {c_share : (Nat → Int64)} {c_matrix : (Nat → Int64)} {c_system : (Nat → Int64)} {c_shares : (Nat → Int32)} {c_allShares : Int32} {v : Int32} (hf : F10_weights z x1 c_told = some v) : xCt l yX10_weights ((some .int)) j10_weights [.ref 0, .int x1] (hM c_thrown c_told c_read c_many c_eights c_gains c_notes c_seen c_turns c_drawn c_state c_tape c_taped c_size c_from c_next c_token c_value c_fault c_number c_fives c_isLeft c_wentTimes c_goes c_isLeftLaid c_game c_rows c_columns c_isFound c_bestValue c_bestBelow c_bestShare c_share c_matrix c_system c_shares c_allShares) (some (.int v)) (hM c_thrown c_told c_read c_many c_eights c_gains c_notes c_seen c_turns c_drawn c_state c_tape c_taped c_size c_from c_next c_token c_value c_fault c_number c_fives c_isLeft c_wentTimes c_goes c_isLeftLaid c_game c_rows c_columns c_isFound c_bestValue c_bestBelow c_bestShare c_share c_matrix c_system c_shares c_allShares) := xCt_of (by decide) rfl (Nat.le_of_ble_eq_true rfl) (fun _ hX => T10_weights hX hf)
theorem m10_weights : xMd yX10_weights RX10 ((some .int)) j10_weights 1 := ⟨List.mem_of_getElem? (i := 1120) (by decide +kernel), List.mem_of_getElem? (i := 5) (by decide +kernel), rfl, by decide +kernel⟩
theorem v10_weights : xMv yX10_weights RX10 := ⟨List.mem_of_getElem? (i := 1118) (by decide +kernel), List.mem_of_getElem? (i := 1119) (by decide +kernel)⟩
theorem k10_334 : Cond.methodLink RX10 334 yX10_planAt ∈ wsL_law0 := List.mem_of_getElem? (i := 1043) (by decide +kernel)
theorem dX10_entryOf_0 : decode cX10_entryOf 0 = .ok (.iconst 0, 1) := by decide +kernel
theorem dX10_entryOf_1 : decode cX10_entryOf 1 = .ok (.istore_n 3, 1) := by decide +kernel
theorem dX10_entryOf_2 : decode cX10_entryOf 2 = .ok (.iload_n 3, 1) := by decide +kernel
theorem dX10_entryOf_3 : decode cX10_entryOf 3 = .ok (.aload_n 0, 1) := by decide +kernel
theorem dX10_entryOf_4 : decode cX10_entryOf 4 = .ok (.iload_n 1, 1) := by decide +kernel
theorem dX10_entryOf_5 : decode cX10_entryOf 5 = .ok (.invokevirtual 328, 3) := by decide +kernel
theorem dX10_entryOf_8 : decode cX10_entryOf 8 = .ok (.if_icmp .ge 21, 3) := by decide +kernel
theorem dX10_entryOf_11 : decode cX10_entryOf 11 = .ok (.aload_n 0, 1) := by decide +kernel
theorem dX10_entryOf_12 : decode cX10_entryOf 12 = .ok (.iload_n 1, 1) := by decide +kernel
theorem dX10_entryOf_13 : decode cX10_entryOf 13 = .ok (.iload_n 3, 1) := by decide +kernel
theorem dX10_entryOf_14 : decode cX10_entryOf 14 = .ok (.invokevirtual 334, 3) := by decide +kernel
theorem dX10_entryOf_17 : decode cX10_entryOf 17 = .ok (.iload_n 2, 1) := by decide +kernel
theorem dX10_entryOf_18 : decode cX10_entryOf 18 = .ok (.if_icmp .ne 5, 3) := by decide +kernel
theorem dX10_entryOf_21 : decode cX10_entryOf 21 = .ok (.iload_n 3, 1) := by decide +kernel
theorem dX10_entryOf_22 : decode cX10_entryOf 22 = .ok (.ireturn, 1) := by decide +kernel
theorem dX10_entryOf_23 : decode cX10_entryOf 23 = .ok (.iinc 3 1, 3) := by decide +kernel
theorem dX10_entryOf_26 : decode cX10_entryOf 26 = .ok (.goto (-24), 3) := by decide +kernel
theorem dX10_entryOf_29 : decode cX10_entryOf 29 = .ok (.iconst (-1), 1) := by decide +kernel
theorem dX10_entryOf_30 : decode cX10_entryOf 30 = .ok (.ireturn, 1) := by decide +kernel
abbrev j10_entryOf : xJ := (cX10_entryOf, 4, RX10, 4, 0, 0)
def F10_entryOf_b2 (z : Nat) (w : Nat) (x1 : Int32) (x2 : Int32) (x3 : Int32) (c_told : (Nat → Int32)) (c_many : (Nat → Int32)) (c_eights : (Nat → Int32)) : Option (Int32) := match w with
  | 0 => none
  | w + 1 => (F10_planned x1 c_told).bind (fun v5 => if v5 ≤ x3 then (some ((-1 : Int32))) else ((F10_planAt z x1 x3 c_told c_many c_eights).bind (fun v14 => if v14 = x2 then (some (x3)) else (F10_entryOf_b2 z w x1 x2 (x3 + (1 : Int32)) c_told c_many c_eights))))
theorem T10_entryOf_b2 {X : xX} {c_thrown : Int32} {c_told : (Nat → Int32)} {c_read : (Nat → Int32)} {c_many : (Nat → Int32)} {c_eights : (Nat → Int32)} {c_gains : (Nat → Int32)} {c_notes : (Nat → Int32)} {c_seen : (Nat → Int32)} {c_turns : (Nat → Int32)} {c_drawn : (Nat → Int32)} {c_state : Int32} {c_tape : (Nat → Int32)} {c_taped : Int32} {c_size : Int32} {c_from : Int32} {c_next : Int32} {c_token : Int32} {c_value : Int32} {c_fault : Int32} {c_number : Int32} {c_fives : (Nat → Int32)} {c_isLeft : (Nat → Int32)} {c_wentTimes : Int32} {c_goes : (Nat → Int32)} {c_isLeftLaid : Int32} {c_game : (Nat → Int32)} {c_rows : Int32} {c_columns : Int32} {c_isFound : Int32} {c_bestValue : Int64} {c_bestBelow : Int64} {c_bestShare : (Nat → Int64)} {c_share : (Nat → Int64)} {c_matrix : (Nat → Int64)} {c_system : (Nat → Int64)} {c_shares : (Nat → Int32)} {c_allShares : Int32} {z : Nat} {v : Int32} (hX : xIs (j10_entryOf) X ((some .int)) (some (.int v)) (hM c_thrown c_told c_read c_many c_eights c_gains c_notes c_seen c_turns c_drawn c_state c_tape c_taped c_size c_from c_next c_token c_value c_fault c_number c_fives c_isLeft c_wentTimes c_goes c_isLeftLaid c_game c_rows c_columns c_isFound c_bestValue c_bestBelow c_bestShare c_share c_matrix c_system c_shares c_allShares)) : ∀ (w : Nat) {x1 : Int32} {x2 : Int32} {x3 : Int32}, F10_entryOf_b2 z w x1 x2 x3 c_told c_many c_eights = some v → xV (j10_entryOf) X 0 0 (hM c_thrown c_told c_read c_many c_eights c_gains c_notes c_seen c_turns c_drawn c_state c_tape c_taped c_size c_from c_next c_token c_value c_fault c_number c_fives c_isLeft c_wentTimes c_goes c_isLeftLaid c_game c_rows c_columns c_isFound c_bestValue c_bestBelow c_bestShare c_share c_matrix c_system c_shares c_allShares) 2 [(0, .ref 0), (1, .int x1), (2, .int x2), (3, .int x3)] [] := by
  intro w
  induction w with
  | zero => intro x1 x2 x3 hf; cases hf
  | succ w ih =>
    intro x1 x2 x3 hf
    unfold F10_entryOf_b2 at hf
    refine xV_iload_n 3 rfl dX10_entryOf_2 rfl 3 rfl ?_
    refine xV_aload_n 4 rfl dX10_entryOf_3 rfl 0 rfl ?_
    refine xV_iload_n 5 rfl dX10_entryOf_4 rfl 1 rfl ?_
    obtain ⟨v5, hv5, hf⟩ := xb_s hf
    refine xV_same (rest := [.int x3]) 8 rfl dX10_entryOf_5 rfl (C10_planned X.1.2.1 hv5) m10_planned v10_planned k10_328 rfl rfl rfl rfl rfl (Nat.le_of_ble_eq_true rfl) (Nat.le_of_ble_eq_true rfl) (Nat.le_of_ble_eq_true rfl) ⟨Nat.le_refl _, Nat.le_refl _⟩ ?_
    show xV (j10_entryOf) X 0 0 (hM c_thrown c_told c_read c_many c_eights c_gains c_notes c_seen c_turns c_drawn c_state c_tape c_taped c_size c_from c_next c_token c_value c_fault c_number c_fives c_isLeft c_wentTimes c_goes c_isLeftLaid c_game c_rows c_columns c_isFound c_bestValue c_bestBelow c_bestShare c_share c_matrix c_system c_shares c_allShares) 8 [(0, .ref 0), (1, .int x1), (2, .int x2), (3, .int x3)] [.int v5, .int x3]
    refine xV_icmp_ge (tgt := 29) 11 rfl dX10_entryOf_8 (by decide) (fun h8 => ?_) (fun h8 => ?_)
    · have hf := xif_t hf h8
      refine xV_iconst 30 rfl dX10_entryOf_29 xk_im1 ?_
      obtain rfl := Option.some.inj hf
      exact xV_iret hX dX10_entryOf_30 rfl (Nat.zero_le _) (Nat.zero_le _)
    · have hf := xif_f hf h8
      refine xV_aload_n 12 rfl dX10_entryOf_11 rfl 0 rfl ?_
      refine xV_iload_n 13 rfl dX10_entryOf_12 rfl 1 rfl ?_
      refine xV_iload_n 14 rfl dX10_entryOf_13 rfl 3 rfl ?_
      obtain ⟨v14, hv14, hf⟩ := xb_s hf
      refine xV_same (rest := []) 17 rfl dX10_entryOf_14 rfl (C10_planAt X.1.2.1 hv14) m10_planAt v10_planAt k10_334 rfl rfl rfl rfl rfl (Nat.le_of_ble_eq_true rfl) (Nat.le_of_ble_eq_true rfl) (Nat.le_of_ble_eq_true rfl) ⟨Nat.le_refl _, Nat.le_refl _⟩ ?_
      show xV (j10_entryOf) X 0 0 (hM c_thrown c_told c_read c_many c_eights c_gains c_notes c_seen c_turns c_drawn c_state c_tape c_taped c_size c_from c_next c_token c_value c_fault c_number c_fives c_isLeft c_wentTimes c_goes c_isLeftLaid c_game c_rows c_columns c_isFound c_bestValue c_bestBelow c_bestShare c_share c_matrix c_system c_shares c_allShares) 17 [(0, .ref 0), (1, .int x1), (2, .int x2), (3, .int x3)] [.int v14]
      refine xV_iload_n 18 rfl dX10_entryOf_17 rfl 2 rfl ?_
      refine xV_icmp_ne (tgt := 23) 21 rfl dX10_entryOf_18 (by decide) (fun h18 => ?_) (fun h18 => ?_)
      · have hf := xif_f hf h18
        refine xV_iinc (L' := [(3, .int (x3 + (1 : Int32))), (0, .ref 0), (1, .int x1), (2, .int x2)]) 26 rfl dX10_entryOf_23 3 rfl (xk_inc xk_i1) (xlt rfl) rfl ?_
        refine xV_goto (tgt := 2) dX10_entryOf_26 (by decide) ?_
        refine xV_sub [1, 2, 3, 0] rfl ?_
        exact ih hf
      · have hf := xif_t hf h18
        refine xV_iload_n 22 rfl dX10_entryOf_21 rfl 3 rfl ?_
        obtain rfl := Option.some.inj hf
        exact xV_iret hX dX10_entryOf_22 rfl (Nat.zero_le _) (Nat.zero_le _)
def F10_entryOf (z : Nat) (x1 : Int32) (x2 : Int32) (c_told : (Nat → Int32)) (c_many : (Nat → Int32)) (c_eights : (Nat → Int32)) : Option (Int32) :=
  F10_entryOf_b2 z z x1 x2 (0 : Int32) c_told c_many c_eights
theorem T10_entryOf {X : xX} {z : Nat} {x1 : Int32} {x2 : Int32} {c_told : (Nat → Int32)} {c_many : (Nat → Int32)} {c_eights : (Nat → Int32)} {c_thrown : Int32} {c_read : (Nat → Int32)} {c_gains : (Nat → Int32)} {c_notes : (Nat → Int32)} {c_seen : (Nat → Int32)} {c_turns : (Nat → Int32)} {c_drawn : (Nat → Int32)} {c_state : Int32} {c_tape : (Nat → Int32)} {c_taped : Int32} {c_size : Int32} {c_from : Int32} {c_next : Int32} {c_token : Int32} {c_value : Int32} {c_fault : Int32} {c_number : Int32} {c_fives : (Nat → Int32)} {c_isLeft : (Nat → Int32)} {c_wentTimes : Int32} {c_goes : (Nat → Int32)} {c_isLeftLaid : Int32} {c_game : (Nat → Int32)} {c_rows : Int32} {c_columns : Int32} {c_isFound : Int32} {c_bestValue : Int64} {c_bestBelow : Int64} {c_bestShare : (Nat → Int64)} {c_share : (Nat → Int64)} {c_matrix : (Nat → Int64)} {c_system : (Nat → Int64)} {c_shares : (Nat → Int32)} {c_allShares : Int32} {v : Int32} (hX : xIs (j10_entryOf) X ((some .int)) (some (.int v)) (hM c_thrown c_told c_read c_many c_eights c_gains c_notes c_seen c_turns c_drawn c_state c_tape c_taped c_size c_from c_next c_token c_value c_fault c_number c_fives c_isLeft c_wentTimes c_goes c_isLeftLaid c_game c_rows c_columns c_isFound c_bestValue c_bestBelow c_bestShare c_share c_matrix c_system c_shares c_allShares)) (hf : F10_entryOf z x1 x2 c_told c_many c_eights = some v) : xV (j10_entryOf) X 0 0 (hM c_thrown c_told c_read c_many c_eights c_gains c_notes c_seen c_turns c_drawn c_state c_tape c_taped c_size c_from c_next c_token c_value c_fault c_number c_fives c_isLeft c_wentTimes c_goes c_isLeftLaid c_game c_rows c_columns c_isFound c_bestValue c_bestBelow c_bestShare c_share c_matrix c_system c_shares c_allShares) 0 [(0, .ref 0), (1, .int x1), (2, .int x2)] [] := by
  unfold F10_entryOf at hf
  refine xV_iconst 1 rfl dX10_entryOf_0 xk_i0 ?_
  refine xV_istore_n (L' := [(3, .int (0 : Int32)), (0, .ref 0), (1, .int x1), (2, .int x2)]) 2 rfl dX10_entryOf_1 rfl (xlt rfl) rfl ?_
  refine xV_sub [1, 2, 3, 0] rfl ?_
  exact T10_entryOf_b2 hX _ hf
theorem C10_entryOf (l : Launch) {z : Nat} {x1 : Int32} {x2 : Int32} {c_told : (Nat → Int32)} {c_many : (Nat → Int32)} {c_eights : (Nat → Int32)} {c_thrown : Int32} {c_read : (Nat → Int32)} {c_gains : (Nat → Int32)} {c_notes : (Nat → Int32)} {c_seen : (Nat → Int32)} {c_turns : (Nat → Int32)} {c_drawn : (Nat → Int32)} {c_state : Int32} {c_tape : (Nat → Int32)} {c_taped : Int32} {c_size : Int32} {c_from : Int32} {c_next : Int32} {c_token : Int32} {c_value : Int32} {c_fault : Int32} {c_number : Int32} {c_fives : (Nat → Int32)} {c_isLeft : (Nat → Int32)} {c_wentTimes : Int32} {c_goes : (Nat → Int32)} {c_isLeftLaid : Int32} {c_game : (Nat → Int32)} {c_rows : Int32} {c_columns : Int32} {c_isFound : Int32} {c_bestValue : Int64} {c_bestBelow : Int64} {c_bestShare : (Nat → Int64)} {c_share : (Nat → Int64)} {c_matrix : (Nat → Int64)} {c_system : (Nat → Int64)} {c_shares : (Nat → Int32)} {c_allShares : Int32} {v : Int32} (hf : F10_entryOf z x1 x2 c_told c_many c_eights = some v) : xCt l yX10_entryOf ((some .int)) j10_entryOf [.ref 0, .int x1, .int x2] (hM c_thrown c_told c_read c_many c_eights c_gains c_notes c_seen c_turns c_drawn c_state c_tape c_taped c_size c_from c_next c_token c_value c_fault c_number c_fives c_isLeft c_wentTimes c_goes c_isLeftLaid c_game c_rows c_columns c_isFound c_bestValue c_bestBelow c_bestShare c_share c_matrix c_system c_shares c_allShares) (some (.int v)) (hM c_thrown c_told c_read c_many c_eights c_gains c_notes c_seen c_turns c_drawn c_state c_tape c_taped c_size c_from c_next c_token c_value c_fault c_number c_fives c_isLeft c_wentTimes c_goes c_isLeftLaid c_game c_rows c_columns c_isFound c_bestValue c_bestBelow c_bestShare c_share c_matrix c_system c_shares c_allShares) := xCt_of (by decide) rfl (Nat.le_of_ble_eq_true rfl) (fun _ hX => T10_entryOf hX hf)
theorem m10_entryOf : xMd yX10_entryOf RX10 ((some .int)) j10_entryOf 2 := ⟨List.mem_of_getElem? (i := 1038) (by decide +kernel), List.mem_of_getElem? (i := 5) (by decide +kernel), rfl, by decide +kernel⟩
theorem v10_entryOf : xMv yX10_entryOf RX10 := ⟨List.mem_of_getElem? (i := 1036) (by decide +kernel), List.mem_of_getElem? (i := 1037) (by decide +kernel)⟩
theorem k10_337 : Cond.methodLink RX10 337 yX10_entryOf ∈ wsL_law0 := List.mem_of_getElem? (i := 1035) (by decide +kernel)
theorem dX10_plan_0 : decode cX10_plan 0 = .ok (.aload_n 0, 1) := by decide +kernel
theorem dX10_plan_1 : decode cX10_plan 1 = .ok (.iconst 0, 1) := by decide +kernel
theorem dX10_plan_2 : decode cX10_plan 2 = .ok (.putfield 1, 3) := by decide +kernel
theorem dX10_plan_5 : decode cX10_plan 5 = .ok (.aload_n 0, 1) := by decide +kernel
theorem dX10_plan_6 : decode cX10_plan 6 = .ok (.iload_n 1, 1) := by decide +kernel
theorem dX10_plan_7 : decode cX10_plan 7 = .ok (.iload_n 2, 1) := by decide +kernel
theorem dX10_plan_8 : decode cX10_plan 8 = .ok (.invokevirtual 210, 3) := by decide +kernel
theorem dX10_plan_11 : decode cX10_plan 11 = .ok (.ifCond .eq 13, 3) := by decide +kernel
theorem dX10_plan_14 : decode cX10_plan 14 = .ok (.iload_n 3, 1) := by decide +kernel
theorem dX10_plan_15 : decode cX10_plan 15 = .ok (.iconst 0, 1) := by decide +kernel
theorem dX10_plan_16 : decode cX10_plan 16 = .ok (.bipush 99, 2) := by decide +kernel
theorem dX10_plan_18 : decode cX10_plan 18 = .ok (.invokestatic 7, 3) := by decide +kernel
theorem dX10_plan_21 : decode cX10_plan 21 = .ok (.ifCond .ne 5, 3) := by decide +kernel
theorem dX10_plan_24 : decode cX10_plan 24 = .ok (.iconst (-1), 1) := by decide +kernel
theorem dX10_plan_25 : decode cX10_plan 25 = .ok (.ireturn, 1) := by decide +kernel
theorem dX10_plan_26 : decode cX10_plan 26 = .ok (.aload_n 0, 1) := by decide +kernel
theorem dX10_plan_27 : decode cX10_plan 27 = .ok (.iload_n 1, 1) := by decide +kernel
theorem dX10_plan_28 : decode cX10_plan 28 = .ok (.iload_n 2, 1) := by decide +kernel
theorem dX10_plan_29 : decode cX10_plan 29 = .ok (.invokevirtual 337, 3) := by decide +kernel
theorem dX10_plan_32 : decode cX10_plan 32 = .ok (.istore 4, 2) := by decide +kernel
theorem dX10_plan_34 : decode cX10_plan 34 = .ok (.aload_n 0, 1) := by decide +kernel
theorem dX10_plan_35 : decode cX10_plan 35 = .ok (.iload_n 1, 1) := by decide +kernel
theorem dX10_plan_36 : decode cX10_plan 36 = .ok (.invokevirtual 328, 3) := by decide +kernel
theorem dX10_plan_39 : decode cX10_plan 39 = .ok (.istore 5, 2) := by decide +kernel
theorem dX10_plan_41 : decode cX10_plan 41 = .ok (.iload 4, 2) := by decide +kernel
theorem dX10_plan_43 : decode cX10_plan 43 = .ok (.iconst (-1), 1) := by decide +kernel
theorem dX10_plan_44 : decode cX10_plan 44 = .ok (.if_icmp .ne 16, 3) := by decide +kernel
theorem dX10_plan_47 : decode cX10_plan 47 = .ok (.iload_n 3, 1) := by decide +kernel
theorem dX10_plan_48 : decode cX10_plan 48 = .ok (.ifCond .eq 10, 3) := by decide +kernel
theorem dX10_plan_51 : decode cX10_plan 51 = .ok (.iload 5, 2) := by decide +kernel
theorem dX10_plan_53 : decode cX10_plan 53 = .ok (.bipush 8, 2) := by decide +kernel
theorem dX10_plan_55 : decode cX10_plan 55 = .ok (.if_icmp .ne 5, 3) := by decide +kernel
theorem dX10_plan_58 : decode cX10_plan 58 = .ok (.iconst (-1), 1) := by decide +kernel
theorem dX10_plan_59 : decode cX10_plan 59 = .ok (.ireturn, 1) := by decide +kernel
theorem dX10_plan_60 : decode cX10_plan 60 = .ok (.iload_n 3, 1) := by decide +kernel
theorem dX10_plan_61 : decode cX10_plan 61 = .ok (.ifCond .ne 100, 3) := by decide +kernel
theorem dX10_plan_64 : decode cX10_plan 64 = .ok (.iload 4, 2) := by decide +kernel
theorem dX10_plan_66 : decode cX10_plan 66 = .ok (.istore 6, 2) := by decide +kernel
theorem dX10_plan_68 : decode cX10_plan 68 = .ok (.iload 6, 2) := by decide +kernel
theorem dX10_plan_70 : decode cX10_plan 70 = .ok (.iload 5, 2) := by decide +kernel
theorem dX10_plan_72 : decode cX10_plan 72 = .ok (.iconst 1, 1) := by decide +kernel
theorem dX10_plan_73 : decode cX10_plan 73 = .ok (.isub, 1) := by decide +kernel
theorem dX10_plan_74 : decode cX10_plan 74 = .ok (.if_icmp .ge 69, 3) := by decide +kernel
theorem dX10_plan_77 : decode cX10_plan 77 = .ok (.aload_n 0, 1) := by decide +kernel
theorem dX10_plan_78 : decode cX10_plan 78 = .ok (.getfield 17, 3) := by decide +kernel
theorem dX10_plan_81 : decode cX10_plan 81 = .ok (.iload_n 1, 1) := by decide +kernel
theorem dX10_plan_82 : decode cX10_plan 82 = .ok (.bipush 8, 2) := by decide +kernel
theorem dX10_plan_84 : decode cX10_plan 84 = .ok (.invokestatic 109, 3) := by decide +kernel
theorem dX10_plan_87 : decode cX10_plan 87 = .ok (.iload 6, 2) := by decide +kernel
theorem dX10_plan_89 : decode cX10_plan 89 = .ok (.iadd, 1) := by decide +kernel
theorem dX10_plan_90 : decode cX10_plan 90 = .ok (.aload_n 0, 1) := by decide +kernel
theorem dX10_plan_91 : decode cX10_plan 91 = .ok (.getfield 17, 3) := by decide +kernel
theorem dX10_plan_94 : decode cX10_plan 94 = .ok (.iload_n 1, 1) := by decide +kernel
theorem dX10_plan_95 : decode cX10_plan 95 = .ok (.bipush 8, 2) := by decide +kernel
theorem dX10_plan_97 : decode cX10_plan 97 = .ok (.invokestatic 109, 3) := by decide +kernel
theorem dX10_plan_100 : decode cX10_plan 100 = .ok (.iload 6, 2) := by decide +kernel
theorem dX10_plan_102 : decode cX10_plan 102 = .ok (.iadd, 1) := by decide +kernel
theorem dX10_plan_103 : decode cX10_plan 103 = .ok (.iconst 1, 1) := by decide +kernel
theorem dX10_plan_104 : decode cX10_plan 104 = .ok (.iadd, 1) := by decide +kernel
theorem dX10_plan_105 : decode cX10_plan 105 = .ok (.iaload, 1) := by decide +kernel
theorem dX10_plan_106 : decode cX10_plan 106 = .ok (.iastore, 1) := by decide +kernel
theorem dX10_plan_107 : decode cX10_plan 107 = .ok (.aload_n 0, 1) := by decide +kernel
theorem dX10_plan_108 : decode cX10_plan 108 = .ok (.getfield 17, 3) := by decide +kernel
theorem dX10_plan_111 : decode cX10_plan 111 = .ok (.iload_n 1, 1) := by decide +kernel
theorem dX10_plan_112 : decode cX10_plan 112 = .ok (.bipush 16, 2) := by decide +kernel
theorem dX10_plan_114 : decode cX10_plan 114 = .ok (.invokestatic 109, 3) := by decide +kernel
theorem dX10_plan_117 : decode cX10_plan 117 = .ok (.iload 6, 2) := by decide +kernel
theorem dX10_plan_119 : decode cX10_plan 119 = .ok (.iadd, 1) := by decide +kernel
theorem dX10_plan_120 : decode cX10_plan 120 = .ok (.aload_n 0, 1) := by decide +kernel
theorem dX10_plan_121 : decode cX10_plan 121 = .ok (.getfield 17, 3) := by decide +kernel
theorem dX10_plan_124 : decode cX10_plan 124 = .ok (.iload_n 1, 1) := by decide +kernel
theorem dX10_plan_125 : decode cX10_plan 125 = .ok (.bipush 16, 2) := by decide +kernel
theorem dX10_plan_127 : decode cX10_plan 127 = .ok (.invokestatic 109, 3) := by decide +kernel
theorem dX10_plan_130 : decode cX10_plan 130 = .ok (.iload 6, 2) := by decide +kernel
theorem dX10_plan_132 : decode cX10_plan 132 = .ok (.iadd, 1) := by decide +kernel
theorem dX10_plan_133 : decode cX10_plan 133 = .ok (.iconst 1, 1) := by decide +kernel
theorem dX10_plan_134 : decode cX10_plan 134 = .ok (.iadd, 1) := by decide +kernel
theorem dX10_plan_135 : decode cX10_plan 135 = .ok (.iaload, 1) := by decide +kernel
theorem dX10_plan_136 : decode cX10_plan 136 = .ok (.iastore, 1) := by decide +kernel
theorem dX10_plan_137 : decode cX10_plan 137 = .ok (.iinc 6 1, 3) := by decide +kernel
theorem dX10_plan_140 : decode cX10_plan 140 = .ok (.goto (-72), 3) := by decide +kernel
theorem dX10_plan_143 : decode cX10_plan 143 = .ok (.aload_n 0, 1) := by decide +kernel
theorem dX10_plan_144 : decode cX10_plan 144 = .ok (.getfield 17, 3) := by decide +kernel
theorem dX10_plan_147 : decode cX10_plan 147 = .ok (.iload_n 1, 1) := by decide +kernel
theorem dX10_plan_148 : decode cX10_plan 148 = .ok (.bipush 7, 2) := by decide +kernel
theorem dX10_plan_150 : decode cX10_plan 150 = .ok (.invokestatic 109, 3) := by decide +kernel
theorem dX10_plan_153 : decode cX10_plan 153 = .ok (.dup2, 1) := by decide +kernel
theorem dX10_plan_154 : decode cX10_plan 154 = .ok (.iaload, 1) := by decide +kernel
theorem dX10_plan_155 : decode cX10_plan 155 = .ok (.iconst 1, 1) := by decide +kernel
theorem dX10_plan_156 : decode cX10_plan 156 = .ok (.isub, 1) := by decide +kernel
theorem dX10_plan_157 : decode cX10_plan 157 = .ok (.iastore, 1) := by decide +kernel
theorem dX10_plan_158 : decode cX10_plan 158 = .ok (.goto 78, 3) := by decide +kernel
theorem dX10_plan_161 : decode cX10_plan 161 = .ok (.iload 4, 2) := by decide +kernel
theorem dX10_plan_163 : decode cX10_plan 163 = .ok (.iconst (-1), 1) := by decide +kernel
theorem dX10_plan_164 : decode cX10_plan 164 = .ok (.if_icmp .ne 8, 3) := by decide +kernel
theorem dX10_plan_167 : decode cX10_plan 167 = .ok (.iload 5, 2) := by decide +kernel
theorem dX10_plan_169 : decode cX10_plan 169 = .ok (.goto 5, 3) := by decide +kernel
theorem dX10_plan_172 : decode cX10_plan 172 = .ok (.iload 4, 2) := by decide +kernel
theorem dX10_plan_174 : decode cX10_plan 174 = .ok (.istore 6, 2) := by decide +kernel
theorem dX10_plan_176 : decode cX10_plan 176 = .ok (.aload_n 0, 1) := by decide +kernel
theorem dX10_plan_177 : decode cX10_plan 177 = .ok (.getfield 17, 3) := by decide +kernel
theorem dX10_plan_180 : decode cX10_plan 180 = .ok (.iload_n 1, 1) := by decide +kernel
theorem dX10_plan_181 : decode cX10_plan 181 = .ok (.bipush 8, 2) := by decide +kernel
theorem dX10_plan_183 : decode cX10_plan 183 = .ok (.invokestatic 109, 3) := by decide +kernel
theorem dX10_plan_186 : decode cX10_plan 186 = .ok (.iload 6, 2) := by decide +kernel
theorem dX10_plan_188 : decode cX10_plan 188 = .ok (.iadd, 1) := by decide +kernel
theorem dX10_plan_189 : decode cX10_plan 189 = .ok (.aload_n 0, 1) := by decide +kernel
theorem dX10_plan_190 : decode cX10_plan 190 = .ok (.iload_n 1, 1) := by decide +kernel
theorem dX10_plan_191 : decode cX10_plan 191 = .ok (.iload_n 2, 1) := by decide +kernel
theorem dX10_plan_192 : decode cX10_plan 192 = .ok (.invokevirtual 86, 3) := by decide +kernel
theorem dX10_plan_195 : decode cX10_plan 195 = .ok (.iastore, 1) := by decide +kernel
theorem dX10_plan_196 : decode cX10_plan 196 = .ok (.aload_n 0, 1) := by decide +kernel
theorem dX10_plan_197 : decode cX10_plan 197 = .ok (.getfield 17, 3) := by decide +kernel
theorem dX10_plan_200 : decode cX10_plan 200 = .ok (.iload_n 1, 1) := by decide +kernel
theorem dX10_plan_201 : decode cX10_plan 201 = .ok (.bipush 16, 2) := by decide +kernel
theorem dX10_plan_203 : decode cX10_plan 203 = .ok (.invokestatic 109, 3) := by decide +kernel
theorem dX10_plan_206 : decode cX10_plan 206 = .ok (.iload 6, 2) := by decide +kernel
theorem dX10_plan_208 : decode cX10_plan 208 = .ok (.iadd, 1) := by decide +kernel
theorem dX10_plan_209 : decode cX10_plan 209 = .ok (.iload_n 3, 1) := by decide +kernel
theorem dX10_plan_210 : decode cX10_plan 210 = .ok (.iastore, 1) := by decide +kernel
theorem dX10_plan_211 : decode cX10_plan 211 = .ok (.aload_n 0, 1) := by decide +kernel
theorem dX10_plan_212 : decode cX10_plan 212 = .ok (.getfield 17, 3) := by decide +kernel
theorem dX10_plan_215 : decode cX10_plan 215 = .ok (.iload_n 1, 1) := by decide +kernel
theorem dX10_plan_216 : decode cX10_plan 216 = .ok (.bipush 7, 2) := by decide +kernel
theorem dX10_plan_218 : decode cX10_plan 218 = .ok (.invokestatic 109, 3) := by decide +kernel
theorem dX10_plan_221 : decode cX10_plan 221 = .ok (.dup2, 1) := by decide +kernel
theorem dX10_plan_222 : decode cX10_plan 222 = .ok (.iaload, 1) := by decide +kernel
theorem dX10_plan_223 : decode cX10_plan 223 = .ok (.iload 4, 2) := by decide +kernel
theorem dX10_plan_225 : decode cX10_plan 225 = .ok (.iconst (-1), 1) := by decide +kernel
theorem dX10_plan_226 : decode cX10_plan 226 = .ok (.if_icmp .ne 7, 3) := by decide +kernel
theorem dX10_plan_229 : decode cX10_plan 229 = .ok (.iconst 1, 1) := by decide +kernel
theorem dX10_plan_230 : decode cX10_plan 230 = .ok (.goto 4, 3) := by decide +kernel
theorem dX10_plan_233 : decode cX10_plan 233 = .ok (.iconst 0, 1) := by decide +kernel
theorem dX10_plan_234 : decode cX10_plan 234 = .ok (.iadd, 1) := by decide +kernel
theorem dX10_plan_235 : decode cX10_plan 235 = .ok (.iastore, 1) := by decide +kernel
theorem dX10_plan_236 : decode cX10_plan 236 = .ok (.aload_n 0, 1) := by decide +kernel
theorem dX10_plan_237 : decode cX10_plan 237 = .ok (.iload_n 1, 1) := by decide +kernel
theorem dX10_plan_238 : decode cX10_plan 238 = .ok (.invokevirtual 119, 3) := by decide +kernel
theorem dX10_plan_241 : decode cX10_plan 241 = .ok (.aload_n 0, 1) := by decide +kernel
theorem dX10_plan_242 : decode cX10_plan 242 = .ok (.iload_n 1, 1) := by decide +kernel
theorem dX10_plan_243 : decode cX10_plan 243 = .ok (.invokevirtual 328, 3) := by decide +kernel
theorem dX10_plan_246 : decode cX10_plan 246 = .ok (.ireturn, 1) := by decide +kernel
abbrev j10_plan : xJ := (cX10_plan, 7, RX10, 5, 0, 0)
def F10_plan_b236 (z : Nat) (x1 : Int32) (c_thrown : Int32) (c_told : (Nat → Int32)) (c_many : (Nat → Int32)) (c_eights : (Nat → Int32)) (c_turns : (Nat → Int32)) (c_drawn : (Nat → Int32)) : Option (Int32 × Int32 × (Nat → Int32) × (Nat → Int32) × (Nat → Int32)) :=
  (F10_beginsTurns z x1 c_turns c_drawn).bind (fun v238 => (F10_planned x1 c_told).bind (fun v243 => some (v243, c_thrown, c_told, v238.1, v238.2)))
theorem T10_plan_b236 {X : xX} {c_read : (Nat → Int32)} {c_gains : (Nat → Int32)} {c_notes : (Nat → Int32)} {c_seen : (Nat → Int32)} {c_state : Int32} {c_tape : (Nat → Int32)} {c_taped : Int32} {c_size : Int32} {c_from : Int32} {c_next : Int32} {c_token : Int32} {c_value : Int32} {c_fault : Int32} {c_number : Int32} {c_fives : (Nat → Int32)} {c_isLeft : (Nat → Int32)} {c_wentTimes : Int32} {c_goes : (Nat → Int32)} {c_isLeftLaid : Int32} {c_game : (Nat → Int32)} {c_rows : Int32} {c_columns : Int32} {c_isFound : Int32} {c_bestValue : Int64} {c_bestBelow : Int64} {c_bestShare : (Nat → Int64)} {c_share : (Nat → Int64)} {c_matrix : (Nat → Int64)} {c_system : (Nat → Int64)} {c_shares : (Nat → Int32)} {c_allShares : Int32} {x1 : Int32} {c_thrown : Int32} {c_told : (Nat → Int32)} {c_many : (Nat → Int32)} {c_eights : (Nat → Int32)} {c_turns : (Nat → Int32)} {c_drawn : (Nat → Int32)} {z : Nat} {v : Int32 × Int32 × (Nat → Int32) × (Nat → Int32) × (Nat → Int32)} (hX : xIs (j10_plan) X ((some .int)) (some (.int v.1)) (hM v.2.1 v.2.2.1 c_read c_many c_eights c_gains c_notes c_seen v.2.2.2.1 v.2.2.2.2 c_state c_tape c_taped c_size c_from c_next c_token c_value c_fault c_number c_fives c_isLeft c_wentTimes c_goes c_isLeftLaid c_game c_rows c_columns c_isFound c_bestValue c_bestBelow c_bestShare c_share c_matrix c_system c_shares c_allShares)) (hf : F10_plan_b236 z x1 c_thrown c_told c_many c_eights c_turns c_drawn = some v) : xV (j10_plan) X 0 0 (hM c_thrown c_told c_read c_many c_eights c_gains c_notes c_seen c_turns c_drawn c_state c_tape c_taped c_size c_from c_next c_token c_value c_fault c_number c_fives c_isLeft c_wentTimes c_goes c_isLeftLaid c_game c_rows c_columns c_isFound c_bestValue c_bestBelow c_bestShare c_share c_matrix c_system c_shares c_allShares) 236 [(0, .ref 0), (1, .int x1)] [] := by
  unfold F10_plan_b236 at hf
  refine xV_aload_n 237 rfl dX10_plan_236 rfl 0 rfl ?_
  refine xV_iload_n 238 rfl dX10_plan_237 rfl 1 rfl ?_
  obtain ⟨v238, hv238, hf⟩ := xb_s hf
  refine xV_same (rest := []) 241 rfl dX10_plan_238 rfl (C10_beginsTurns X.1.2.1 hv238) m10_beginsTurns v10_beginsTurns k10_119 rfl rfl rfl rfl rfl (Nat.le_of_ble_eq_true rfl) (Nat.le_of_ble_eq_true rfl) (Nat.le_of_ble_eq_true rfl) ⟨Nat.le_refl _, Nat.le_refl _⟩ ?_
  show xV (j10_plan) X 0 0 (hM c_thrown c_told c_read c_many c_eights c_gains c_notes c_seen v238.1 v238.2 c_state c_tape c_taped c_size c_from c_next c_token c_value c_fault c_number c_fives c_isLeft c_wentTimes c_goes c_isLeftLaid c_game c_rows c_columns c_isFound c_bestValue c_bestBelow c_bestShare c_share c_matrix c_system c_shares c_allShares) 241 [(0, .ref 0), (1, .int x1)] []
  refine xV_aload_n 242 rfl dX10_plan_241 rfl 0 rfl ?_
  refine xV_iload_n 243 rfl dX10_plan_242 rfl 1 rfl ?_
  obtain ⟨v243, hv243, hf⟩ := xb_s hf
  refine xV_same (rest := []) 246 rfl dX10_plan_243 rfl (C10_planned X.1.2.1 hv243) m10_planned v10_planned k10_328 rfl rfl rfl rfl rfl (Nat.le_of_ble_eq_true rfl) (Nat.le_of_ble_eq_true rfl) (Nat.le_of_ble_eq_true rfl) ⟨Nat.le_refl _, Nat.le_refl _⟩ ?_
  show xV (j10_plan) X 0 0 (hM c_thrown c_told c_read c_many c_eights c_gains c_notes c_seen v238.1 v238.2 c_state c_tape c_taped c_size c_from c_next c_token c_value c_fault c_number c_fives c_isLeft c_wentTimes c_goes c_isLeftLaid c_game c_rows c_columns c_isFound c_bestValue c_bestBelow c_bestShare c_share c_matrix c_system c_shares c_allShares) 246 [(0, .ref 0), (1, .int x1)] [.int v243]
  obtain rfl := Option.some.inj hf
  exact xV_iret hX dX10_plan_246 rfl (Nat.zero_le _) (Nat.zero_le _)
def F10_plan_b234 (z : Nat) (x1 : Int32) (s1 : Int32) (s2 : Int32) (s3 : Int32) (c_thrown : Int32) (c_told : (Nat → Int32)) (c_many : (Nat → Int32)) (c_eights : (Nat → Int32)) (c_turns : (Nat → Int32)) (c_drawn : (Nat → Int32)) : Option (Int32 × Int32 × (Nat → Int32) × (Nat → Int32) × (Nat → Int32)) :=
  xg (xin s1 56) (F10_plan_b236 z x1 c_thrown (upd c_told (xn s1) (s2 + s3)) c_many c_eights c_turns c_drawn)
theorem T10_plan_b234 {X : xX} {c_read : (Nat → Int32)} {c_gains : (Nat → Int32)} {c_notes : (Nat → Int32)} {c_seen : (Nat → Int32)} {c_state : Int32} {c_tape : (Nat → Int32)} {c_taped : Int32} {c_size : Int32} {c_from : Int32} {c_next : Int32} {c_token : Int32} {c_value : Int32} {c_fault : Int32} {c_number : Int32} {c_fives : (Nat → Int32)} {c_isLeft : (Nat → Int32)} {c_wentTimes : Int32} {c_goes : (Nat → Int32)} {c_isLeftLaid : Int32} {c_game : (Nat → Int32)} {c_rows : Int32} {c_columns : Int32} {c_isFound : Int32} {c_bestValue : Int64} {c_bestBelow : Int64} {c_bestShare : (Nat → Int64)} {c_share : (Nat → Int64)} {c_matrix : (Nat → Int64)} {c_system : (Nat → Int64)} {c_shares : (Nat → Int32)} {c_allShares : Int32} {x1 : Int32} {s1 : Int32} {s2 : Int32} {s3 : Int32} {c_thrown : Int32} {c_told : (Nat → Int32)} {c_many : (Nat → Int32)} {c_eights : (Nat → Int32)} {c_turns : (Nat → Int32)} {c_drawn : (Nat → Int32)} {z : Nat} {v : Int32 × Int32 × (Nat → Int32) × (Nat → Int32) × (Nat → Int32)} (hX : xIs (j10_plan) X ((some .int)) (some (.int v.1)) (hM v.2.1 v.2.2.1 c_read c_many c_eights c_gains c_notes c_seen v.2.2.2.1 v.2.2.2.2 c_state c_tape c_taped c_size c_from c_next c_token c_value c_fault c_number c_fives c_isLeft c_wentTimes c_goes c_isLeftLaid c_game c_rows c_columns c_isFound c_bestValue c_bestBelow c_bestShare c_share c_matrix c_system c_shares c_allShares)) (hf : F10_plan_b234 z x1 s1 s2 s3 c_thrown c_told c_many c_eights c_turns c_drawn = some v) : xV (j10_plan) X 0 0 (hM c_thrown c_told c_read c_many c_eights c_gains c_notes c_seen c_turns c_drawn c_state c_tape c_taped c_size c_from c_next c_token c_value c_fault c_number c_fives c_isLeft c_wentTimes c_goes c_isLeftLaid c_game c_rows c_columns c_isFound c_bestValue c_bestBelow c_bestShare c_share c_matrix c_system c_shares c_allShares) 234 [(0, .ref 0), (1, .int x1)] [.int s3, .int s2, .int s1, .ref 1] := by
  unfold F10_plan_b234 at hf
  refine xV_iadd 235 rfl dX10_plan_234 ?_
  obtain ⟨hg235, hf⟩ := xg_s hf
  refine xV_iastore (h' := (hM c_thrown (upd c_told (xn s1) (s2 + s3)) c_read c_many c_eights c_gains c_notes c_seen c_turns c_drawn c_state c_tape c_taped c_size c_from c_next c_token c_value c_fault c_number c_fives c_isLeft c_wentTimes c_goes c_isLeftLaid c_game c_rows c_columns c_isFound c_bestValue c_bestBelow c_bestShare c_share c_matrix c_system c_shares c_allShares)) 236 rfl dX10_plan_235 rfl (xin_ok hg235) rfl rfl ?_
  exact T10_plan_b236 hX hf
def F10_plan_b174 (z : Nat) (x1 : Int32) (x2 : Int32) (x3 : Int32) (x4 : Int32) (s0 : Int32) (c_thrown : Int32) (c_told : (Nat → Int32)) (c_many : (Nat → Int32)) (c_eights : (Nat → Int32)) (c_turns : (Nat → Int32)) (c_drawn : (Nat → Int32)) : Option (Int32 × Int32 × (Nat → Int32) × (Nat → Int32) × (Nat → Int32)) :=
  (F10_at x1 (8 : Int32)).bind (fun v183 => (F10_eightsOf x1 x2 c_eights).bind (fun v192 => xg (xin (v183 + s0) 56) ((F10_at x1 (16 : Int32)).bind (fun v203 => xg (xin (v203 + s0) 56) ((F10_at x1 (7 : Int32)).bind (fun v218 => xg (xin v218 56) (if x4 = (-1 : Int32) then (F10_plan_b234 z x1 v218 ((upd (upd c_told (xn (v183 + s0)) v192) (xn (v203 + s0)) x3) (xn v218)) (1 : Int32) c_thrown (upd (upd c_told (xn (v183 + s0)) v192) (xn (v203 + s0)) x3) c_many c_eights c_turns c_drawn) else (F10_plan_b234 z x1 v218 ((upd (upd c_told (xn (v183 + s0)) v192) (xn (v203 + s0)) x3) (xn v218)) (0 : Int32) c_thrown (upd (upd c_told (xn (v183 + s0)) v192) (xn (v203 + s0)) x3) c_many c_eights c_turns c_drawn))))))))
theorem T10_plan_b174 {X : xX} {c_read : (Nat → Int32)} {c_gains : (Nat → Int32)} {c_notes : (Nat → Int32)} {c_seen : (Nat → Int32)} {c_state : Int32} {c_tape : (Nat → Int32)} {c_taped : Int32} {c_size : Int32} {c_from : Int32} {c_next : Int32} {c_token : Int32} {c_value : Int32} {c_fault : Int32} {c_number : Int32} {c_fives : (Nat → Int32)} {c_isLeft : (Nat → Int32)} {c_wentTimes : Int32} {c_goes : (Nat → Int32)} {c_isLeftLaid : Int32} {c_game : (Nat → Int32)} {c_rows : Int32} {c_columns : Int32} {c_isFound : Int32} {c_bestValue : Int64} {c_bestBelow : Int64} {c_bestShare : (Nat → Int64)} {c_share : (Nat → Int64)} {c_matrix : (Nat → Int64)} {c_system : (Nat → Int64)} {c_shares : (Nat → Int32)} {c_allShares : Int32} {x1 : Int32} {x2 : Int32} {x3 : Int32} {x4 : Int32} {s0 : Int32} {c_thrown : Int32} {c_told : (Nat → Int32)} {c_many : (Nat → Int32)} {c_eights : (Nat → Int32)} {c_turns : (Nat → Int32)} {c_drawn : (Nat → Int32)} {z : Nat} {v : Int32 × Int32 × (Nat → Int32) × (Nat → Int32) × (Nat → Int32)} (hX : xIs (j10_plan) X ((some .int)) (some (.int v.1)) (hM v.2.1 v.2.2.1 c_read c_many c_eights c_gains c_notes c_seen v.2.2.2.1 v.2.2.2.2 c_state c_tape c_taped c_size c_from c_next c_token c_value c_fault c_number c_fives c_isLeft c_wentTimes c_goes c_isLeftLaid c_game c_rows c_columns c_isFound c_bestValue c_bestBelow c_bestShare c_share c_matrix c_system c_shares c_allShares)) (hf : F10_plan_b174 z x1 x2 x3 x4 s0 c_thrown c_told c_many c_eights c_turns c_drawn = some v) : xV (j10_plan) X 0 0 (hM c_thrown c_told c_read c_many c_eights c_gains c_notes c_seen c_turns c_drawn c_state c_tape c_taped c_size c_from c_next c_token c_value c_fault c_number c_fives c_isLeft c_wentTimes c_goes c_isLeftLaid c_game c_rows c_columns c_isFound c_bestValue c_bestBelow c_bestShare c_share c_matrix c_system c_shares c_allShares) 174 [(0, .ref 0), (1, .int x1), (2, .int x2), (3, .int x3), (4, .int x4)] [.int s0] := by
  unfold F10_plan_b174 at hf
  refine xV_istore (L' := [(6, .int s0), (0, .ref 0), (1, .int x1), (2, .int x2), (3, .int x3), (4, .int x4)]) 176 rfl dX10_plan_174 (xlt rfl) rfl ?_
  refine xV_aload_n 177 rfl dX10_plan_176 rfl 1 rfl ?_
  refine xV_get (v := .ref 1) 180 rfl dX10_plan_177 f10_17 rfl rfl ?_
  refine xV_iload_n 181 rfl dX10_plan_180 rfl 2 rfl ?_
  refine xV_bipush 183 rfl dX10_plan_181 xk_b8 ?_
  obtain ⟨v183, hv183, hf⟩ := xb_s hf
  refine xV_st0 (rest := [.ref 1]) 186 rfl dX10_plan_183 rfl (C10_at X.1.2.1 hv183) m10_at s10_at k10_109 rfl (Nat.le_of_ble_eq_true rfl) (Nat.le_of_ble_eq_true rfl) (Nat.le_of_ble_eq_true rfl) ⟨Nat.le_refl _, Nat.le_refl _⟩ ?_
  show xV (j10_plan) X 0 0 (hM c_thrown c_told c_read c_many c_eights c_gains c_notes c_seen c_turns c_drawn c_state c_tape c_taped c_size c_from c_next c_token c_value c_fault c_number c_fives c_isLeft c_wentTimes c_goes c_isLeftLaid c_game c_rows c_columns c_isFound c_bestValue c_bestBelow c_bestShare c_share c_matrix c_system c_shares c_allShares) 186 [(6, .int s0), (0, .ref 0), (1, .int x1), (2, .int x2), (3, .int x3), (4, .int x4)] [.int v183, .ref 1]
  refine xV_iload 188 rfl dX10_plan_186 0 rfl ?_
  refine xV_iadd 189 rfl dX10_plan_188 ?_
  refine xV_aload_n 190 rfl dX10_plan_189 rfl 1 rfl ?_
  refine xV_iload_n 191 rfl dX10_plan_190 rfl 2 rfl ?_
  refine xV_iload_n 192 rfl dX10_plan_191 rfl 3 rfl ?_
  obtain ⟨v192, hv192, hf⟩ := xb_s hf
  refine xV_same (rest := [.int (v183 + s0), .ref 1]) 195 rfl dX10_plan_192 rfl (C10_eightsOf X.1.2.1 hv192) m10_eightsOf v10_eightsOf k10_86 rfl rfl rfl rfl rfl (Nat.le_of_ble_eq_true rfl) (Nat.le_of_ble_eq_true rfl) (Nat.le_of_ble_eq_true rfl) ⟨Nat.le_refl _, Nat.le_refl _⟩ ?_
  show xV (j10_plan) X 0 0 (hM c_thrown c_told c_read c_many c_eights c_gains c_notes c_seen c_turns c_drawn c_state c_tape c_taped c_size c_from c_next c_token c_value c_fault c_number c_fives c_isLeft c_wentTimes c_goes c_isLeftLaid c_game c_rows c_columns c_isFound c_bestValue c_bestBelow c_bestShare c_share c_matrix c_system c_shares c_allShares) 195 [(6, .int s0), (0, .ref 0), (1, .int x1), (2, .int x2), (3, .int x3), (4, .int x4)] [.int v192, .int (v183 + s0), .ref 1]
  obtain ⟨hg195, hf⟩ := xg_s hf
  refine xV_iastore (h' := (hM c_thrown (upd c_told (xn (v183 + s0)) v192) c_read c_many c_eights c_gains c_notes c_seen c_turns c_drawn c_state c_tape c_taped c_size c_from c_next c_token c_value c_fault c_number c_fives c_isLeft c_wentTimes c_goes c_isLeftLaid c_game c_rows c_columns c_isFound c_bestValue c_bestBelow c_bestShare c_share c_matrix c_system c_shares c_allShares)) 196 rfl dX10_plan_195 rfl (xin_ok hg195) rfl rfl ?_
  refine xV_aload_n 197 rfl dX10_plan_196 rfl 1 rfl ?_
  refine xV_get (v := .ref 1) 200 rfl dX10_plan_197 f10_17 rfl rfl ?_
  refine xV_iload_n 201 rfl dX10_plan_200 rfl 2 rfl ?_
  refine xV_bipush 203 rfl dX10_plan_201 xk_b16 ?_
  obtain ⟨v203, hv203, hf⟩ := xb_s hf
  refine xV_st0 (rest := [.ref 1]) 206 rfl dX10_plan_203 rfl (C10_at X.1.2.1 hv203) m10_at s10_at k10_109 rfl (Nat.le_of_ble_eq_true rfl) (Nat.le_of_ble_eq_true rfl) (Nat.le_of_ble_eq_true rfl) ⟨Nat.le_refl _, Nat.le_refl _⟩ ?_
  show xV (j10_plan) X 0 0 (hM c_thrown (upd c_told (xn (v183 + s0)) v192) c_read c_many c_eights c_gains c_notes c_seen c_turns c_drawn c_state c_tape c_taped c_size c_from c_next c_token c_value c_fault c_number c_fives c_isLeft c_wentTimes c_goes c_isLeftLaid c_game c_rows c_columns c_isFound c_bestValue c_bestBelow c_bestShare c_share c_matrix c_system c_shares c_allShares) 206 [(6, .int s0), (0, .ref 0), (1, .int x1), (2, .int x2), (3, .int x3), (4, .int x4)] [.int v203, .ref 1]
  refine xV_iload 208 rfl dX10_plan_206 0 rfl ?_
  refine xV_iadd 209 rfl dX10_plan_208 ?_
  refine xV_iload_n 210 rfl dX10_plan_209 rfl 4 rfl ?_
  obtain ⟨hg210, hf⟩ := xg_s hf
  refine xV_iastore (h' := (hM c_thrown (upd (upd c_told (xn (v183 + s0)) v192) (xn (v203 + s0)) x3) c_read c_many c_eights c_gains c_notes c_seen c_turns c_drawn c_state c_tape c_taped c_size c_from c_next c_token c_value c_fault c_number c_fives c_isLeft c_wentTimes c_goes c_isLeftLaid c_game c_rows c_columns c_isFound c_bestValue c_bestBelow c_bestShare c_share c_matrix c_system c_shares c_allShares)) 211 rfl dX10_plan_210 rfl (xin_ok hg210) rfl rfl ?_
  refine xV_aload_n 212 rfl dX10_plan_211 rfl 1 rfl ?_
  refine xV_get (v := .ref 1) 215 rfl dX10_plan_212 f10_17 rfl rfl ?_
  refine xV_iload_n 216 rfl dX10_plan_215 rfl 2 rfl ?_
  refine xV_bipush 218 rfl dX10_plan_216 xk_b7 ?_
  obtain ⟨v218, hv218, hf⟩ := xb_s hf
  refine xV_st0 (rest := [.ref 1]) 221 rfl dX10_plan_218 rfl (C10_at X.1.2.1 hv218) m10_at s10_at k10_109 rfl (Nat.le_of_ble_eq_true rfl) (Nat.le_of_ble_eq_true rfl) (Nat.le_of_ble_eq_true rfl) ⟨Nat.le_refl _, Nat.le_refl _⟩ ?_
  show xV (j10_plan) X 0 0 (hM c_thrown (upd (upd c_told (xn (v183 + s0)) v192) (xn (v203 + s0)) x3) c_read c_many c_eights c_gains c_notes c_seen c_turns c_drawn c_state c_tape c_taped c_size c_from c_next c_token c_value c_fault c_number c_fives c_isLeft c_wentTimes c_goes c_isLeftLaid c_game c_rows c_columns c_isFound c_bestValue c_bestBelow c_bestShare c_share c_matrix c_system c_shares c_allShares) 221 [(6, .int s0), (0, .ref 0), (1, .int x1), (2, .int x2), (3, .int x3), (4, .int x4)] [.int v218, .ref 1]
  refine xV_dup2 222 rfl dX10_plan_221 rfl rfl ?_
  obtain ⟨hg222, hf⟩ := xg_s hf
  refine xV_iaload 223 rfl dX10_plan_222 rfl (xin_ok hg222) rfl ?_
  refine xV_iload 225 rfl dX10_plan_223 5 rfl ?_
  refine xV_iconst 226 rfl dX10_plan_225 xk_im1 ?_
  refine xV_icmp_ne (tgt := 233) 229 rfl dX10_plan_226 (by decide) (fun h226 => ?_) (fun h226 => ?_)
  · have hf := xif_f hf h226
    refine xV_iconst 234 rfl dX10_plan_233 xk_i0 ?_
    refine xV_sub [1, 2] rfl ?_
    exact T10_plan_b234 hX hf
  · have hf := xif_t hf h226
    refine xV_iconst 230 rfl dX10_plan_229 xk_i1 ?_
    refine xV_goto (tgt := 234) dX10_plan_230 (by decide) ?_
    refine xV_sub [1, 2] rfl ?_
    exact T10_plan_b234 hX hf
def F10_plan_b143 (z : Nat) (x1 : Int32) (c_thrown : Int32) (c_told : (Nat → Int32)) (c_many : (Nat → Int32)) (c_eights : (Nat → Int32)) (c_turns : (Nat → Int32)) (c_drawn : (Nat → Int32)) : Option (Int32 × Int32 × (Nat → Int32) × (Nat → Int32) × (Nat → Int32)) :=
  (F10_at x1 (7 : Int32)).bind (fun v150 => xg (xin v150 56) (xg (xin v150 56) (F10_plan_b236 z x1 c_thrown (upd c_told (xn v150) ((c_told (xn v150)) - (1 : Int32))) c_many c_eights c_turns c_drawn)))
theorem T10_plan_b143 {X : xX} {c_read : (Nat → Int32)} {c_gains : (Nat → Int32)} {c_notes : (Nat → Int32)} {c_seen : (Nat → Int32)} {c_state : Int32} {c_tape : (Nat → Int32)} {c_taped : Int32} {c_size : Int32} {c_from : Int32} {c_next : Int32} {c_token : Int32} {c_value : Int32} {c_fault : Int32} {c_number : Int32} {c_fives : (Nat → Int32)} {c_isLeft : (Nat → Int32)} {c_wentTimes : Int32} {c_goes : (Nat → Int32)} {c_isLeftLaid : Int32} {c_game : (Nat → Int32)} {c_rows : Int32} {c_columns : Int32} {c_isFound : Int32} {c_bestValue : Int64} {c_bestBelow : Int64} {c_bestShare : (Nat → Int64)} {c_share : (Nat → Int64)} {c_matrix : (Nat → Int64)} {c_system : (Nat → Int64)} {c_shares : (Nat → Int32)} {c_allShares : Int32} {x1 : Int32} {c_thrown : Int32} {c_told : (Nat → Int32)} {c_many : (Nat → Int32)} {c_eights : (Nat → Int32)} {c_turns : (Nat → Int32)} {c_drawn : (Nat → Int32)} {z : Nat} {v : Int32 × Int32 × (Nat → Int32) × (Nat → Int32) × (Nat → Int32)} (hX : xIs (j10_plan) X ((some .int)) (some (.int v.1)) (hM v.2.1 v.2.2.1 c_read c_many c_eights c_gains c_notes c_seen v.2.2.2.1 v.2.2.2.2 c_state c_tape c_taped c_size c_from c_next c_token c_value c_fault c_number c_fives c_isLeft c_wentTimes c_goes c_isLeftLaid c_game c_rows c_columns c_isFound c_bestValue c_bestBelow c_bestShare c_share c_matrix c_system c_shares c_allShares)) (hf : F10_plan_b143 z x1 c_thrown c_told c_many c_eights c_turns c_drawn = some v) : xV (j10_plan) X 0 0 (hM c_thrown c_told c_read c_many c_eights c_gains c_notes c_seen c_turns c_drawn c_state c_tape c_taped c_size c_from c_next c_token c_value c_fault c_number c_fives c_isLeft c_wentTimes c_goes c_isLeftLaid c_game c_rows c_columns c_isFound c_bestValue c_bestBelow c_bestShare c_share c_matrix c_system c_shares c_allShares) 143 [(0, .ref 0), (1, .int x1)] [] := by
  unfold F10_plan_b143 at hf
  refine xV_aload_n 144 rfl dX10_plan_143 rfl 0 rfl ?_
  refine xV_get (v := .ref 1) 147 rfl dX10_plan_144 f10_17 rfl rfl ?_
  refine xV_iload_n 148 rfl dX10_plan_147 rfl 1 rfl ?_
  refine xV_bipush 150 rfl dX10_plan_148 xk_b7 ?_
  obtain ⟨v150, hv150, hf⟩ := xb_s hf
  refine xV_st0 (rest := [.ref 1]) 153 rfl dX10_plan_150 rfl (C10_at X.1.2.1 hv150) m10_at s10_at k10_109 rfl (Nat.le_of_ble_eq_true rfl) (Nat.le_of_ble_eq_true rfl) (Nat.le_of_ble_eq_true rfl) ⟨Nat.le_refl _, Nat.le_refl _⟩ ?_
  show xV (j10_plan) X 0 0 (hM c_thrown c_told c_read c_many c_eights c_gains c_notes c_seen c_turns c_drawn c_state c_tape c_taped c_size c_from c_next c_token c_value c_fault c_number c_fives c_isLeft c_wentTimes c_goes c_isLeftLaid c_game c_rows c_columns c_isFound c_bestValue c_bestBelow c_bestShare c_share c_matrix c_system c_shares c_allShares) 153 [(0, .ref 0), (1, .int x1)] [.int v150, .ref 1]
  refine xV_dup2 154 rfl dX10_plan_153 rfl rfl ?_
  obtain ⟨hg154, hf⟩ := xg_s hf
  refine xV_iaload 155 rfl dX10_plan_154 rfl (xin_ok hg154) rfl ?_
  refine xV_iconst 156 rfl dX10_plan_155 xk_i1 ?_
  refine xV_isub 157 rfl dX10_plan_156 ?_
  obtain ⟨hg157, hf⟩ := xg_s hf
  refine xV_iastore (h' := (hM c_thrown (upd c_told (xn v150) ((c_told (xn v150)) - (1 : Int32))) c_read c_many c_eights c_gains c_notes c_seen c_turns c_drawn c_state c_tape c_taped c_size c_from c_next c_token c_value c_fault c_number c_fives c_isLeft c_wentTimes c_goes c_isLeftLaid c_game c_rows c_columns c_isFound c_bestValue c_bestBelow c_bestShare c_share c_matrix c_system c_shares c_allShares)) 158 rfl dX10_plan_157 rfl (xin_ok hg157) rfl rfl ?_
  refine xV_goto (tgt := 236) dX10_plan_158 (by decide) ?_
  exact T10_plan_b236 hX hf
def F10_plan_b68 (z : Nat) (w : Nat) (x1 : Int32) (x5 : Int32) (x6 : Int32) (c_thrown : Int32) (c_told : (Nat → Int32)) (c_many : (Nat → Int32)) (c_eights : (Nat → Int32)) (c_turns : (Nat → Int32)) (c_drawn : (Nat → Int32)) : Option (Int32 × Int32 × (Nat → Int32) × (Nat → Int32) × (Nat → Int32)) := match w with
  | 0 => none
  | w + 1 => if (x5 - (1 : Int32)) ≤ x6 then (F10_plan_b143 z x1 c_thrown c_told c_many c_eights c_turns c_drawn) else ((F10_at x1 (8 : Int32)).bind (fun v84 => (F10_at x1 (8 : Int32)).bind (fun v97 => xg (xin ((v97 + x6) + (1 : Int32)) 56) (xg (xin (v84 + x6) 56) ((F10_at x1 (16 : Int32)).bind (fun v114 => (F10_at x1 (16 : Int32)).bind (fun v127 => xg (xin ((v127 + x6) + (1 : Int32)) 56) (xg (xin (v114 + x6) 56) (F10_plan_b68 z w x1 x5 (x6 + (1 : Int32)) c_thrown (upd (upd c_told (xn (v84 + x6)) (c_told (xn ((v97 + x6) + (1 : Int32))))) (xn (v114 + x6)) ((upd c_told (xn (v84 + x6)) (c_told (xn ((v97 + x6) + (1 : Int32))))) (xn ((v127 + x6) + (1 : Int32))))) c_many c_eights c_turns c_drawn)))))))))
theorem T10_plan_b68 {X : xX} {c_read : (Nat → Int32)} {c_many : (Nat → Int32)} {c_eights : (Nat → Int32)} {c_gains : (Nat → Int32)} {c_notes : (Nat → Int32)} {c_seen : (Nat → Int32)} {c_state : Int32} {c_tape : (Nat → Int32)} {c_taped : Int32} {c_size : Int32} {c_from : Int32} {c_next : Int32} {c_token : Int32} {c_value : Int32} {c_fault : Int32} {c_number : Int32} {c_fives : (Nat → Int32)} {c_isLeft : (Nat → Int32)} {c_wentTimes : Int32} {c_goes : (Nat → Int32)} {c_isLeftLaid : Int32} {c_game : (Nat → Int32)} {c_rows : Int32} {c_columns : Int32} {c_isFound : Int32} {c_bestValue : Int64} {c_bestBelow : Int64} {c_bestShare : (Nat → Int64)} {c_share : (Nat → Int64)} {c_matrix : (Nat → Int64)} {c_system : (Nat → Int64)} {c_shares : (Nat → Int32)} {c_allShares : Int32} {z : Nat} {v : Int32 × Int32 × (Nat → Int32) × (Nat → Int32) × (Nat → Int32)} (hX : xIs (j10_plan) X ((some .int)) (some (.int v.1)) (hM v.2.1 v.2.2.1 c_read c_many c_eights c_gains c_notes c_seen v.2.2.2.1 v.2.2.2.2 c_state c_tape c_taped c_size c_from c_next c_token c_value c_fault c_number c_fives c_isLeft c_wentTimes c_goes c_isLeftLaid c_game c_rows c_columns c_isFound c_bestValue c_bestBelow c_bestShare c_share c_matrix c_system c_shares c_allShares)) : ∀ (w : Nat) {x1 : Int32} {x5 : Int32} {x6 : Int32} {c_thrown : Int32} {c_told : (Nat → Int32)} {c_turns : (Nat → Int32)} {c_drawn : (Nat → Int32)}, F10_plan_b68 z w x1 x5 x6 c_thrown c_told c_many c_eights c_turns c_drawn = some v → xV (j10_plan) X 0 0 (hM c_thrown c_told c_read c_many c_eights c_gains c_notes c_seen c_turns c_drawn c_state c_tape c_taped c_size c_from c_next c_token c_value c_fault c_number c_fives c_isLeft c_wentTimes c_goes c_isLeftLaid c_game c_rows c_columns c_isFound c_bestValue c_bestBelow c_bestShare c_share c_matrix c_system c_shares c_allShares) 68 [(0, .ref 0), (1, .int x1), (5, .int x5), (6, .int x6)] [] := by
  intro w
  induction w with
  | zero => intro x1 x5 x6 c_thrown c_told c_turns c_drawn hf; cases hf
  | succ w ih =>
    intro x1 x5 x6 c_thrown c_told c_turns c_drawn hf
    unfold F10_plan_b68 at hf
    refine xV_iload 70 rfl dX10_plan_68 3 rfl ?_
    refine xV_iload 72 rfl dX10_plan_70 2 rfl ?_
    refine xV_iconst 73 rfl dX10_plan_72 xk_i1 ?_
    refine xV_isub 74 rfl dX10_plan_73 ?_
    refine xV_icmp_ge (tgt := 143) 77 rfl dX10_plan_74 (by decide) (fun h74 => ?_) (fun h74 => ?_)
    · have hf := xif_t hf h74
      refine xV_sub [0, 1] rfl ?_
      exact T10_plan_b143 hX hf
    · have hf := xif_f hf h74
      refine xV_aload_n 78 rfl dX10_plan_77 rfl 0 rfl ?_
      refine xV_get (v := .ref 1) 81 rfl dX10_plan_78 f10_17 rfl rfl ?_
      refine xV_iload_n 82 rfl dX10_plan_81 rfl 1 rfl ?_
      refine xV_bipush 84 rfl dX10_plan_82 xk_b8 ?_
      obtain ⟨v84, hv84, hf⟩ := xb_s hf
      refine xV_st0 (rest := [.ref 1]) 87 rfl dX10_plan_84 rfl (C10_at X.1.2.1 hv84) m10_at s10_at k10_109 rfl (Nat.le_of_ble_eq_true rfl) (Nat.le_of_ble_eq_true rfl) (Nat.le_of_ble_eq_true rfl) ⟨Nat.le_refl _, Nat.le_refl _⟩ ?_
      show xV (j10_plan) X 0 0 (hM c_thrown c_told c_read c_many c_eights c_gains c_notes c_seen c_turns c_drawn c_state c_tape c_taped c_size c_from c_next c_token c_value c_fault c_number c_fives c_isLeft c_wentTimes c_goes c_isLeftLaid c_game c_rows c_columns c_isFound c_bestValue c_bestBelow c_bestShare c_share c_matrix c_system c_shares c_allShares) 87 [(0, .ref 0), (1, .int x1), (5, .int x5), (6, .int x6)] [.int v84, .ref 1]
      refine xV_iload 89 rfl dX10_plan_87 3 rfl ?_
      refine xV_iadd 90 rfl dX10_plan_89 ?_
      refine xV_aload_n 91 rfl dX10_plan_90 rfl 0 rfl ?_
      refine xV_get (v := .ref 1) 94 rfl dX10_plan_91 f10_17 rfl rfl ?_
      refine xV_iload_n 95 rfl dX10_plan_94 rfl 1 rfl ?_
      refine xV_bipush 97 rfl dX10_plan_95 xk_b8 ?_
      obtain ⟨v97, hv97, hf⟩ := xb_s hf
      refine xV_st0 (rest := [.ref 1, .int (v84 + x6), .ref 1]) 100 rfl dX10_plan_97 rfl (C10_at X.1.2.1 hv97) m10_at s10_at k10_109 rfl (Nat.le_of_ble_eq_true rfl) (Nat.le_of_ble_eq_true rfl) (Nat.le_of_ble_eq_true rfl) ⟨Nat.le_refl _, Nat.le_refl _⟩ ?_
      show xV (j10_plan) X 0 0 (hM c_thrown c_told c_read c_many c_eights c_gains c_notes c_seen c_turns c_drawn c_state c_tape c_taped c_size c_from c_next c_token c_value c_fault c_number c_fives c_isLeft c_wentTimes c_goes c_isLeftLaid c_game c_rows c_columns c_isFound c_bestValue c_bestBelow c_bestShare c_share c_matrix c_system c_shares c_allShares) 100 [(0, .ref 0), (1, .int x1), (5, .int x5), (6, .int x6)] [.int v97, .ref 1, .int (v84 + x6), .ref 1]
      refine xV_iload 102 rfl dX10_plan_100 3 rfl ?_
      refine xV_iadd 103 rfl dX10_plan_102 ?_
      refine xV_iconst 104 rfl dX10_plan_103 xk_i1 ?_
      refine xV_iadd 105 rfl dX10_plan_104 ?_
      obtain ⟨hg105, hf⟩ := xg_s hf
      refine xV_iaload 106 rfl dX10_plan_105 rfl (xin_ok hg105) rfl ?_
      obtain ⟨hg106, hf⟩ := xg_s hf
      refine xV_iastore (h' := (hM c_thrown (upd c_told (xn (v84 + x6)) (c_told (xn ((v97 + x6) + (1 : Int32))))) c_read c_many c_eights c_gains c_notes c_seen c_turns c_drawn c_state c_tape c_taped c_size c_from c_next c_token c_value c_fault c_number c_fives c_isLeft c_wentTimes c_goes c_isLeftLaid c_game c_rows c_columns c_isFound c_bestValue c_bestBelow c_bestShare c_share c_matrix c_system c_shares c_allShares)) 107 rfl dX10_plan_106 rfl (xin_ok hg106) rfl rfl ?_
      refine xV_aload_n 108 rfl dX10_plan_107 rfl 0 rfl ?_
      refine xV_get (v := .ref 1) 111 rfl dX10_plan_108 f10_17 rfl rfl ?_
      refine xV_iload_n 112 rfl dX10_plan_111 rfl 1 rfl ?_
      refine xV_bipush 114 rfl dX10_plan_112 xk_b16 ?_
      obtain ⟨v114, hv114, hf⟩ := xb_s hf
      refine xV_st0 (rest := [.ref 1]) 117 rfl dX10_plan_114 rfl (C10_at X.1.2.1 hv114) m10_at s10_at k10_109 rfl (Nat.le_of_ble_eq_true rfl) (Nat.le_of_ble_eq_true rfl) (Nat.le_of_ble_eq_true rfl) ⟨Nat.le_refl _, Nat.le_refl _⟩ ?_
      show xV (j10_plan) X 0 0 (hM c_thrown (upd c_told (xn (v84 + x6)) (c_told (xn ((v97 + x6) + (1 : Int32))))) c_read c_many c_eights c_gains c_notes c_seen c_turns c_drawn c_state c_tape c_taped c_size c_from c_next c_token c_value c_fault c_number c_fives c_isLeft c_wentTimes c_goes c_isLeftLaid c_game c_rows c_columns c_isFound c_bestValue c_bestBelow c_bestShare c_share c_matrix c_system c_shares c_allShares) 117 [(0, .ref 0), (1, .int x1), (5, .int x5), (6, .int x6)] [.int v114, .ref 1]
      refine xV_iload 119 rfl dX10_plan_117 3 rfl ?_
      refine xV_iadd 120 rfl dX10_plan_119 ?_
      refine xV_aload_n 121 rfl dX10_plan_120 rfl 0 rfl ?_
      refine xV_get (v := .ref 1) 124 rfl dX10_plan_121 f10_17 rfl rfl ?_
      refine xV_iload_n 125 rfl dX10_plan_124 rfl 1 rfl ?_
      refine xV_bipush 127 rfl dX10_plan_125 xk_b16 ?_
      obtain ⟨v127, hv127, hf⟩ := xb_s hf
      refine xV_st0 (rest := [.ref 1, .int (v114 + x6), .ref 1]) 130 rfl dX10_plan_127 rfl (C10_at X.1.2.1 hv127) m10_at s10_at k10_109 rfl (Nat.le_of_ble_eq_true rfl) (Nat.le_of_ble_eq_true rfl) (Nat.le_of_ble_eq_true rfl) ⟨Nat.le_refl _, Nat.le_refl _⟩ ?_
      show xV (j10_plan) X 0 0 (hM c_thrown (upd c_told (xn (v84 + x6)) (c_told (xn ((v97 + x6) + (1 : Int32))))) c_read c_many c_eights c_gains c_notes c_seen c_turns c_drawn c_state c_tape c_taped c_size c_from c_next c_token c_value c_fault c_number c_fives c_isLeft c_wentTimes c_goes c_isLeftLaid c_game c_rows c_columns c_isFound c_bestValue c_bestBelow c_bestShare c_share c_matrix c_system c_shares c_allShares) 130 [(0, .ref 0), (1, .int x1), (5, .int x5), (6, .int x6)] [.int v127, .ref 1, .int (v114 + x6), .ref 1]
      refine xV_iload 132 rfl dX10_plan_130 3 rfl ?_
      refine xV_iadd 133 rfl dX10_plan_132 ?_
      refine xV_iconst 134 rfl dX10_plan_133 xk_i1 ?_
      refine xV_iadd 135 rfl dX10_plan_134 ?_
      obtain ⟨hg135, hf⟩ := xg_s hf
      refine xV_iaload 136 rfl dX10_plan_135 rfl (xin_ok hg135) rfl ?_
      obtain ⟨hg136, hf⟩ := xg_s hf
      refine xV_iastore (h' := (hM c_thrown (upd (upd c_told (xn (v84 + x6)) (c_told (xn ((v97 + x6) + (1 : Int32))))) (xn (v114 + x6)) ((upd c_told (xn (v84 + x6)) (c_told (xn ((v97 + x6) + (1 : Int32))))) (xn ((v127 + x6) + (1 : Int32))))) c_read c_many c_eights c_gains c_notes c_seen c_turns c_drawn c_state c_tape c_taped c_size c_from c_next c_token c_value c_fault c_number c_fives c_isLeft c_wentTimes c_goes c_isLeftLaid c_game c_rows c_columns c_isFound c_bestValue c_bestBelow c_bestShare c_share c_matrix c_system c_shares c_allShares)) 137 rfl dX10_plan_136 rfl (xin_ok hg136) rfl rfl ?_
      refine xV_iinc (L' := [(6, .int (x6 + (1 : Int32))), (0, .ref 0), (1, .int x1), (5, .int x5)]) 140 rfl dX10_plan_137 3 rfl (xk_inc xk_i1) (xlt rfl) rfl ?_
      refine xV_goto (tgt := 68) dX10_plan_140 (by decide) ?_
      refine xV_sub [1, 2, 3, 0] rfl ?_
      exact ih hf
def F10_plan_b60 (z : Nat) (x1 : Int32) (x2 : Int32) (x3 : Int32) (x4 : Int32) (x5 : Int32) (c_thrown : Int32) (c_told : (Nat → Int32)) (c_many : (Nat → Int32)) (c_eights : (Nat → Int32)) (c_turns : (Nat → Int32)) (c_drawn : (Nat → Int32)) : Option (Int32 × Int32 × (Nat → Int32) × (Nat → Int32) × (Nat → Int32)) :=
  if x3 = 0 then (F10_plan_b68 z z x1 x5 x4 c_thrown c_told c_many c_eights c_turns c_drawn) else (if x4 = (-1 : Int32) then (F10_plan_b174 z x1 x2 x3 x4 x5 c_thrown c_told c_many c_eights c_turns c_drawn) else (F10_plan_b174 z x1 x2 x3 x4 x4 c_thrown c_told c_many c_eights c_turns c_drawn))
theorem T10_plan_b60 {X : xX} {c_read : (Nat → Int32)} {c_gains : (Nat → Int32)} {c_notes : (Nat → Int32)} {c_seen : (Nat → Int32)} {c_state : Int32} {c_tape : (Nat → Int32)} {c_taped : Int32} {c_size : Int32} {c_from : Int32} {c_next : Int32} {c_token : Int32} {c_value : Int32} {c_fault : Int32} {c_number : Int32} {c_fives : (Nat → Int32)} {c_isLeft : (Nat → Int32)} {c_wentTimes : Int32} {c_goes : (Nat → Int32)} {c_isLeftLaid : Int32} {c_game : (Nat → Int32)} {c_rows : Int32} {c_columns : Int32} {c_isFound : Int32} {c_bestValue : Int64} {c_bestBelow : Int64} {c_bestShare : (Nat → Int64)} {c_share : (Nat → Int64)} {c_matrix : (Nat → Int64)} {c_system : (Nat → Int64)} {c_shares : (Nat → Int32)} {c_allShares : Int32} {x1 : Int32} {x2 : Int32} {x3 : Int32} {x4 : Int32} {x5 : Int32} {c_thrown : Int32} {c_told : (Nat → Int32)} {c_many : (Nat → Int32)} {c_eights : (Nat → Int32)} {c_turns : (Nat → Int32)} {c_drawn : (Nat → Int32)} {z : Nat} {v : Int32 × Int32 × (Nat → Int32) × (Nat → Int32) × (Nat → Int32)} (hX : xIs (j10_plan) X ((some .int)) (some (.int v.1)) (hM v.2.1 v.2.2.1 c_read c_many c_eights c_gains c_notes c_seen v.2.2.2.1 v.2.2.2.2 c_state c_tape c_taped c_size c_from c_next c_token c_value c_fault c_number c_fives c_isLeft c_wentTimes c_goes c_isLeftLaid c_game c_rows c_columns c_isFound c_bestValue c_bestBelow c_bestShare c_share c_matrix c_system c_shares c_allShares)) (hf : F10_plan_b60 z x1 x2 x3 x4 x5 c_thrown c_told c_many c_eights c_turns c_drawn = some v) : xV (j10_plan) X 0 0 (hM c_thrown c_told c_read c_many c_eights c_gains c_notes c_seen c_turns c_drawn c_state c_tape c_taped c_size c_from c_next c_token c_value c_fault c_number c_fives c_isLeft c_wentTimes c_goes c_isLeftLaid c_game c_rows c_columns c_isFound c_bestValue c_bestBelow c_bestShare c_share c_matrix c_system c_shares c_allShares) 60 [(0, .ref 0), (1, .int x1), (2, .int x2), (3, .int x3), (4, .int x4), (5, .int x5)] [] := by
  unfold F10_plan_b60 at hf
  refine xV_iload_n 61 rfl dX10_plan_60 rfl 3 rfl ?_
  refine xV_if_ne (tgt := 161) 64 rfl dX10_plan_61 (by decide) (fun h61 => ?_) (fun h61 => ?_)
  · have hf := xif_f hf h61
    refine xV_iload 163 rfl dX10_plan_161 4 rfl ?_
    refine xV_iconst 164 rfl dX10_plan_163 xk_im1 ?_
    refine xV_icmp_ne (tgt := 172) 167 rfl dX10_plan_164 (by decide) (fun h164 => ?_) (fun h164 => ?_)
    · have hf := xif_f hf h164
      refine xV_iload 174 rfl dX10_plan_172 4 rfl ?_
      refine xV_sub [0, 1, 2, 3, 4] rfl ?_
      exact T10_plan_b174 hX hf
    · have hf := xif_t hf h164
      refine xV_iload 169 rfl dX10_plan_167 5 rfl ?_
      refine xV_goto (tgt := 174) dX10_plan_169 (by decide) ?_
      refine xV_sub [0, 1, 2, 3, 4] rfl ?_
      exact T10_plan_b174 hX hf
  · have hf := xif_t hf h61
    refine xV_iload 66 rfl dX10_plan_64 4 rfl ?_
    refine xV_istore (L' := [(6, .int x4), (0, .ref 0), (1, .int x1), (2, .int x2), (3, .int x3), (4, .int x4), (5, .int x5)]) 68 rfl dX10_plan_66 (xlt rfl) rfl ?_
    refine xV_sub [1, 2, 6, 0] rfl ?_
    exact T10_plan_b68 hX _ hf
def F10_plan (z : Nat) (x1 : Int32) (x2 : Int32) (x3 : Int32) (c_thrown : Int32) (c_told : (Nat → Int32)) (c_many : (Nat → Int32)) (c_eights : (Nat → Int32)) (c_turns : (Nat → Int32)) (c_drawn : (Nat → Int32)) : Option (Int32 × Int32 × (Nat → Int32) × (Nat → Int32) × (Nat → Int32)) :=
  (F10_isSplit x1 x2 c_many).bind (fun v8 => if v8 = 0 then (some ((-1 : Int32), (0 : Int32), c_told, c_turns, c_drawn)) else ((F10_within x3 (0 : Int32) (99 : Int32)).bind (fun v18 => if v18 = 0 then (some ((-1 : Int32), (0 : Int32), c_told, c_turns, c_drawn)) else ((F10_entryOf z x1 x2 c_told c_many c_eights).bind (fun v29 => (F10_planned x1 c_told).bind (fun v36 => if v29 = (-1 : Int32) then (if x3 = 0 then (some ((-1 : Int32), (0 : Int32), c_told, c_turns, c_drawn)) else (if v36 = (8 : Int32) then (some ((-1 : Int32), (0 : Int32), c_told, c_turns, c_drawn)) else (F10_plan_b60 z x1 x2 x3 v29 v36 (0 : Int32) c_told c_many c_eights c_turns c_drawn))) else (F10_plan_b60 z x1 x2 x3 v29 v36 (0 : Int32) c_told c_many c_eights c_turns c_drawn)))))))
theorem T10_plan {X : xX} {z : Nat} {x1 : Int32} {x2 : Int32} {x3 : Int32} {c_thrown : Int32} {c_told : (Nat → Int32)} {c_many : (Nat → Int32)} {c_eights : (Nat → Int32)} {c_turns : (Nat → Int32)} {c_drawn : (Nat → Int32)} {c_read : (Nat → Int32)} {c_gains : (Nat → Int32)} {c_notes : (Nat → Int32)} {c_seen : (Nat → Int32)} {c_state : Int32} {c_tape : (Nat → Int32)} {c_taped : Int32} {c_size : Int32} {c_from : Int32} {c_next : Int32} {c_token : Int32} {c_value : Int32} {c_fault : Int32} {c_number : Int32} {c_fives : (Nat → Int32)} {c_isLeft : (Nat → Int32)} {c_wentTimes : Int32} {c_goes : (Nat → Int32)} {c_isLeftLaid : Int32} {c_game : (Nat → Int32)} {c_rows : Int32} {c_columns : Int32} {c_isFound : Int32} {c_bestValue : Int64} {c_bestBelow : Int64} {c_bestShare : (Nat → Int64)} {c_share : (Nat → Int64)} {c_matrix : (Nat → Int64)} {c_system : (Nat → Int64)} {c_shares : (Nat → Int32)} {c_allShares : Int32} {v : Int32 × Int32 × (Nat → Int32) × (Nat → Int32) × (Nat → Int32)} (hX : xIs (j10_plan) X ((some .int)) (some (.int v.1)) (hM v.2.1 v.2.2.1 c_read c_many c_eights c_gains c_notes c_seen v.2.2.2.1 v.2.2.2.2 c_state c_tape c_taped c_size c_from c_next c_token c_value c_fault c_number c_fives c_isLeft c_wentTimes c_goes c_isLeftLaid c_game c_rows c_columns c_isFound c_bestValue c_bestBelow c_bestShare c_share c_matrix c_system c_shares c_allShares)) (hf : F10_plan z x1 x2 x3 c_thrown c_told c_many c_eights c_turns c_drawn = some v) : xV (j10_plan) X 0 0 (hM c_thrown c_told c_read c_many c_eights c_gains c_notes c_seen c_turns c_drawn c_state c_tape c_taped c_size c_from c_next c_token c_value c_fault c_number c_fives c_isLeft c_wentTimes c_goes c_isLeftLaid c_game c_rows c_columns c_isFound c_bestValue c_bestBelow c_bestShare c_share c_matrix c_system c_shares c_allShares) 0 [(0, .ref 0), (1, .int x1), (2, .int x2), (3, .int x3)] [] := by
  unfold F10_plan at hf
  refine xV_aload_n 1 rfl dX10_plan_0 rfl 0 rfl ?_
  refine xV_iconst 2 rfl dX10_plan_1 xk_i0 ?_
  refine xV_put (h' := (hM (0 : Int32) c_told c_read c_many c_eights c_gains c_notes c_seen c_turns c_drawn c_state c_tape c_taped c_size c_from c_next c_token c_value c_fault c_number c_fives c_isLeft c_wentTimes c_goes c_isLeftLaid c_game c_rows c_columns c_isFound c_bestValue c_bestBelow c_bestShare c_share c_matrix c_system c_shares c_allShares)) 5 rfl dX10_plan_2 f10_1 rfl nf10_0 (fun _ => rfl) (fun _ => rfl) (Nat.le_of_ble_eq_true rfl) rfl ?_
  refine xV_aload_n 6 rfl dX10_plan_5 rfl 0 rfl ?_
  refine xV_iload_n 7 rfl dX10_plan_6 rfl 1 rfl ?_
  refine xV_iload_n 8 rfl dX10_plan_7 rfl 2 rfl ?_
  obtain ⟨v8, hv8, hf⟩ := xb_s hf
  refine xV_same (rest := []) 11 rfl dX10_plan_8 rfl (C10_isSplit X.1.2.1 hv8) m10_isSplit v10_isSplit k10_210 rfl rfl rfl rfl rfl (Nat.le_of_ble_eq_true rfl) (Nat.le_of_ble_eq_true rfl) (Nat.le_of_ble_eq_true rfl) ⟨Nat.le_refl _, Nat.le_refl _⟩ ?_
  show xV (j10_plan) X 0 0 (hM (0 : Int32) c_told c_read c_many c_eights c_gains c_notes c_seen c_turns c_drawn c_state c_tape c_taped c_size c_from c_next c_token c_value c_fault c_number c_fives c_isLeft c_wentTimes c_goes c_isLeftLaid c_game c_rows c_columns c_isFound c_bestValue c_bestBelow c_bestShare c_share c_matrix c_system c_shares c_allShares) 11 [(0, .ref 0), (1, .int x1), (2, .int x2), (3, .int x3)] [.int v8]
  refine xV_if_eq (tgt := 24) 14 rfl dX10_plan_11 (by decide) (fun h11 => ?_) (fun h11 => ?_)
  · have hf := xif_t hf h11
    refine xV_iconst 25 rfl dX10_plan_24 xk_im1 ?_
    obtain rfl := Option.some.inj hf
    exact xV_iret hX dX10_plan_25 rfl (Nat.zero_le _) (Nat.zero_le _)
  · have hf := xif_f hf h11
    refine xV_iload_n 15 rfl dX10_plan_14 rfl 3 rfl ?_
    refine xV_iconst 16 rfl dX10_plan_15 xk_i0 ?_
    refine xV_bipush 18 rfl dX10_plan_16 xk_b99 ?_
    obtain ⟨v18, hv18, hf⟩ := xb_s hf
    refine xV_st0 (rest := []) 21 rfl dX10_plan_18 rfl (C10_within X.1.2.1 hv18) m10_within s10_within k10_7 rfl (Nat.le_of_ble_eq_true rfl) (Nat.le_of_ble_eq_true rfl) (Nat.le_of_ble_eq_true rfl) ⟨Nat.le_refl _, Nat.le_refl _⟩ ?_
    show xV (j10_plan) X 0 0 (hM (0 : Int32) c_told c_read c_many c_eights c_gains c_notes c_seen c_turns c_drawn c_state c_tape c_taped c_size c_from c_next c_token c_value c_fault c_number c_fives c_isLeft c_wentTimes c_goes c_isLeftLaid c_game c_rows c_columns c_isFound c_bestValue c_bestBelow c_bestShare c_share c_matrix c_system c_shares c_allShares) 21 [(0, .ref 0), (1, .int x1), (2, .int x2), (3, .int x3)] [.int v18]
    refine xV_if_ne (tgt := 26) 24 rfl dX10_plan_21 (by decide) (fun h21 => ?_) (fun h21 => ?_)
    · have hf := xif_f hf h21
      refine xV_aload_n 27 rfl dX10_plan_26 rfl 0 rfl ?_
      refine xV_iload_n 28 rfl dX10_plan_27 rfl 1 rfl ?_
      refine xV_iload_n 29 rfl dX10_plan_28 rfl 2 rfl ?_
      obtain ⟨v29, hv29, hf⟩ := xb_s hf
      refine xV_same (rest := []) 32 rfl dX10_plan_29 rfl (C10_entryOf X.1.2.1 hv29) m10_entryOf v10_entryOf k10_337 rfl rfl rfl rfl rfl (Nat.le_of_ble_eq_true rfl) (Nat.le_of_ble_eq_true rfl) (Nat.le_of_ble_eq_true rfl) ⟨Nat.le_refl _, Nat.le_refl _⟩ ?_
      show xV (j10_plan) X 0 0 (hM (0 : Int32) c_told c_read c_many c_eights c_gains c_notes c_seen c_turns c_drawn c_state c_tape c_taped c_size c_from c_next c_token c_value c_fault c_number c_fives c_isLeft c_wentTimes c_goes c_isLeftLaid c_game c_rows c_columns c_isFound c_bestValue c_bestBelow c_bestShare c_share c_matrix c_system c_shares c_allShares) 32 [(0, .ref 0), (1, .int x1), (2, .int x2), (3, .int x3)] [.int v29]
      refine xV_istore (L' := [(4, .int v29), (0, .ref 0), (1, .int x1), (2, .int x2), (3, .int x3)]) 34 rfl dX10_plan_32 (xlt rfl) rfl ?_
      refine xV_aload_n 35 rfl dX10_plan_34 rfl 1 rfl ?_
      refine xV_iload_n 36 rfl dX10_plan_35 rfl 2 rfl ?_
      obtain ⟨v36, hv36, hf⟩ := xb_s hf
      refine xV_same (rest := []) 39 rfl dX10_plan_36 rfl (C10_planned X.1.2.1 hv36) m10_planned v10_planned k10_328 rfl rfl rfl rfl rfl (Nat.le_of_ble_eq_true rfl) (Nat.le_of_ble_eq_true rfl) (Nat.le_of_ble_eq_true rfl) ⟨Nat.le_refl _, Nat.le_refl _⟩ ?_
      show xV (j10_plan) X 0 0 (hM (0 : Int32) c_told c_read c_many c_eights c_gains c_notes c_seen c_turns c_drawn c_state c_tape c_taped c_size c_from c_next c_token c_value c_fault c_number c_fives c_isLeft c_wentTimes c_goes c_isLeftLaid c_game c_rows c_columns c_isFound c_bestValue c_bestBelow c_bestShare c_share c_matrix c_system c_shares c_allShares) 39 [(4, .int v29), (0, .ref 0), (1, .int x1), (2, .int x2), (3, .int x3)] [.int v36]
      refine xV_istore (L' := [(5, .int v36), (4, .int v29), (0, .ref 0), (1, .int x1), (2, .int x2), (3, .int x3)]) 41 rfl dX10_plan_39 (xlt rfl) rfl ?_
      refine xV_iload 43 rfl dX10_plan_41 1 rfl ?_
      refine xV_iconst 44 rfl dX10_plan_43 xk_im1 ?_
      refine xV_icmp_ne (tgt := 60) 47 rfl dX10_plan_44 (by decide) (fun h44 => ?_) (fun h44 => ?_)
      · have hf := xif_f hf h44
        refine xV_sub [2, 3, 4, 5, 1, 0] rfl ?_
        exact T10_plan_b60 hX hf
      · have hf := xif_t hf h44
        refine xV_iload_n 48 rfl dX10_plan_47 rfl 5 rfl ?_
        refine xV_if_eq (tgt := 58) 51 rfl dX10_plan_48 (by decide) (fun h48 => ?_) (fun h48 => ?_)
        · have hf := xif_t hf h48
          refine xV_iconst 59 rfl dX10_plan_58 xk_im1 ?_
          obtain rfl := Option.some.inj hf
          exact xV_iret hX dX10_plan_59 rfl (Nat.zero_le _) (Nat.zero_le _)
        · have hf := xif_f hf h48
          refine xV_iload 53 rfl dX10_plan_51 0 rfl ?_
          refine xV_bipush 55 rfl dX10_plan_53 xk_b8 ?_
          refine xV_icmp_ne (tgt := 60) 58 rfl dX10_plan_55 (by decide) (fun h55 => ?_) (fun h55 => ?_)
          · have hf := xif_f hf h55
            refine xV_sub [2, 3, 4, 5, 1, 0] rfl ?_
            exact T10_plan_b60 hX hf
          · have hf := xif_t hf h55
            refine xV_iconst 59 rfl dX10_plan_58 xk_im1 ?_
            obtain rfl := Option.some.inj hf
            exact xV_iret hX dX10_plan_59 rfl (Nat.zero_le _) (Nat.zero_le _)
    · have hf := xif_t hf h21
      refine xV_iconst 25 rfl dX10_plan_24 xk_im1 ?_
      obtain rfl := Option.some.inj hf
      exact xV_iret hX dX10_plan_25 rfl (Nat.zero_le _) (Nat.zero_le _)
theorem C10_plan (l : Launch) {z : Nat} {x1 : Int32} {x2 : Int32} {x3 : Int32} {c_thrown : Int32} {c_told : (Nat → Int32)} {c_many : (Nat → Int32)} {c_eights : (Nat → Int32)} {c_turns : (Nat → Int32)} {c_drawn : (Nat → Int32)} {c_read : (Nat → Int32)} {c_gains : (Nat → Int32)} {c_notes : (Nat → Int32)} {c_seen : (Nat → Int32)} {c_state : Int32} {c_tape : (Nat → Int32)} {c_taped : Int32} {c_size : Int32} {c_from : Int32} {c_next : Int32} {c_token : Int32} {c_value : Int32} {c_fault : Int32} {c_number : Int32} {c_fives : (Nat → Int32)} {c_isLeft : (Nat → Int32)} {c_wentTimes : Int32} {c_goes : (Nat → Int32)} {c_isLeftLaid : Int32} {c_game : (Nat → Int32)} {c_rows : Int32} {c_columns : Int32} {c_isFound : Int32} {c_bestValue : Int64} {c_bestBelow : Int64} {c_bestShare : (Nat → Int64)} {c_share : (Nat → Int64)} {c_matrix : (Nat → Int64)} {c_system : (Nat → Int64)} {c_shares : (Nat → Int32)} {c_allShares : Int32} {v : Int32 × Int32 × (Nat → Int32) × (Nat → Int32) × (Nat → Int32)} (hf : F10_plan z x1 x2 x3 c_thrown c_told c_many c_eights c_turns c_drawn = some v) : xCt l yX10_plan ((some .int)) j10_plan [.ref 0, .int x1, .int x2, .int x3] (hM c_thrown c_told c_read c_many c_eights c_gains c_notes c_seen c_turns c_drawn c_state c_tape c_taped c_size c_from c_next c_token c_value c_fault c_number c_fives c_isLeft c_wentTimes c_goes c_isLeftLaid c_game c_rows c_columns c_isFound c_bestValue c_bestBelow c_bestShare c_share c_matrix c_system c_shares c_allShares) (some (.int v.1)) (hM v.2.1 v.2.2.1 c_read c_many c_eights c_gains c_notes c_seen v.2.2.2.1 v.2.2.2.2 c_state c_tape c_taped c_size c_from c_next c_token c_value c_fault c_number c_fives c_isLeft c_wentTimes c_goes c_isLeftLaid c_game c_rows c_columns c_isFound c_bestValue c_bestBelow c_bestShare c_share c_matrix c_system c_shares c_allShares) := xCt_of (by decide) rfl (Nat.le_of_ble_eq_true rfl) (fun _ hX => T10_plan hX hf)
theorem m10_plan : xMd yX10_plan RX10 ((some .int)) j10_plan 3 := ⟨List.mem_of_getElem? (i := 1034) (by decide +kernel), List.mem_of_getElem? (i := 5) (by decide +kernel), rfl, by decide +kernel⟩
theorem v10_plan : xMv yX10_plan RX10 := ⟨List.mem_of_getElem? (i := 1032) (by decide +kernel), List.mem_of_getElem? (i := 1033) (by decide +kernel)⟩
theorem dX10_entry_0 : decode cX10_entry 0 = .ok (.aload_n 0, 1) := by decide +kernel
theorem dX10_entry_1 : decode cX10_entry 1 = .ok (.iconst 0, 1) := by decide +kernel
theorem dX10_entry_2 : decode cX10_entry 2 = .ok (.putfield 1, 3) := by decide +kernel
theorem dX10_entry_5 : decode cX10_entry 5 = .ok (.iload_n 1, 1) := by decide +kernel
theorem dX10_entry_6 : decode cX10_entry 6 = .ok (.invokestatic 105, 3) := by decide +kernel
theorem dX10_entry_9 : decode cX10_entry 9 = .ok (.ifCond .eq 26, 3) := by decide +kernel
theorem dX10_entry_12 : decode cX10_entry 12 = .ok (.iload_n 3, 1) := by decide +kernel
theorem dX10_entry_13 : decode cX10_entry 13 = .ok (.iconst 0, 1) := by decide +kernel
theorem dX10_entry_14 : decode cX10_entry 14 = .ok (.iconst 2, 1) := by decide +kernel
theorem dX10_entry_15 : decode cX10_entry 15 = .ok (.invokestatic 7, 3) := by decide +kernel
theorem dX10_entry_18 : decode cX10_entry 18 = .ok (.ifCond .eq 17, 3) := by decide +kernel
theorem dX10_entry_21 : decode cX10_entry 21 = .ok (.iload_n 2, 1) := by decide +kernel
theorem dX10_entry_22 : decode cX10_entry 22 = .ok (.iconst (-1), 1) := by decide +kernel
theorem dX10_entry_23 : decode cX10_entry 23 = .ok (.if_icmp .lt 12, 3) := by decide +kernel
theorem dX10_entry_26 : decode cX10_entry 26 = .ok (.iload_n 2, 1) := by decide +kernel
theorem dX10_entry_27 : decode cX10_entry 27 = .ok (.aload_n 0, 1) := by decide +kernel
theorem dX10_entry_28 : decode cX10_entry 28 = .ok (.iload_n 1, 1) := by decide +kernel
theorem dX10_entry_29 : decode cX10_entry 29 = .ok (.invokevirtual 328, 3) := by decide +kernel
theorem dX10_entry_32 : decode cX10_entry 32 = .ok (.if_icmp .lt 5, 3) := by decide +kernel
theorem dX10_entry_35 : decode cX10_entry 35 = .ok (.iconst (-1), 1) := by decide +kernel
theorem dX10_entry_36 : decode cX10_entry 36 = .ok (.ireturn, 1) := by decide +kernel
theorem dX10_entry_37 : decode cX10_entry 37 = .ok (.iload_n 2, 1) := by decide +kernel
theorem dX10_entry_38 : decode cX10_entry 38 = .ok (.iconst (-1), 1) := by decide +kernel
theorem dX10_entry_39 : decode cX10_entry 39 = .ok (.if_icmp .ne 9, 3) := by decide +kernel
theorem dX10_entry_42 : decode cX10_entry 42 = .ok (.aload_n 0, 1) := by decide +kernel
theorem dX10_entry_43 : decode cX10_entry 43 = .ok (.iload_n 1, 1) := by decide +kernel
theorem dX10_entry_44 : decode cX10_entry 44 = .ok (.invokevirtual 328, 3) := by decide +kernel
theorem dX10_entry_47 : decode cX10_entry 47 = .ok (.ireturn, 1) := by decide +kernel
theorem dX10_entry_48 : decode cX10_entry 48 = .ok (.iload_n 3, 1) := by decide +kernel
theorem dX10_entry_49 : decode cX10_entry 49 = .ok (.ifCond .ne 12, 3) := by decide +kernel
theorem dX10_entry_52 : decode cX10_entry 52 = .ok (.aload_n 0, 1) := by decide +kernel
theorem dX10_entry_53 : decode cX10_entry 53 = .ok (.iload_n 1, 1) := by decide +kernel
theorem dX10_entry_54 : decode cX10_entry 54 = .ok (.iload_n 2, 1) := by decide +kernel
theorem dX10_entry_55 : decode cX10_entry 55 = .ok (.invokevirtual 334, 3) := by decide +kernel
theorem dX10_entry_58 : decode cX10_entry 58 = .ok (.goto 28, 3) := by decide +kernel
theorem dX10_entry_61 : decode cX10_entry 61 = .ok (.iload_n 3, 1) := by decide +kernel
theorem dX10_entry_62 : decode cX10_entry 62 = .ok (.iconst 1, 1) := by decide +kernel
theorem dX10_entry_63 : decode cX10_entry 63 = .ok (.if_icmp .ne 12, 3) := by decide +kernel
theorem dX10_entry_66 : decode cX10_entry 66 = .ok (.aload_n 0, 1) := by decide +kernel
theorem dX10_entry_67 : decode cX10_entry 67 = .ok (.iload_n 1, 1) := by decide +kernel
theorem dX10_entry_68 : decode cX10_entry 68 = .ok (.iload_n 2, 1) := by decide +kernel
theorem dX10_entry_69 : decode cX10_entry 69 = .ok (.invokevirtual 331, 3) := by decide +kernel
theorem dX10_entry_72 : decode cX10_entry 72 = .ok (.goto 14, 3) := by decide +kernel
theorem dX10_entry_75 : decode cX10_entry 75 = .ok (.aload_n 0, 1) := by decide +kernel
theorem dX10_entry_76 : decode cX10_entry 76 = .ok (.getfield 42, 3) := by decide +kernel
theorem dX10_entry_79 : decode cX10_entry 79 = .ok (.bipush 8, 2) := by decide +kernel
theorem dX10_entry_81 : decode cX10_entry 81 = .ok (.iload_n 1, 1) := by decide +kernel
theorem dX10_entry_82 : decode cX10_entry 82 = .ok (.imul, 1) := by decide +kernel
theorem dX10_entry_83 : decode cX10_entry 83 = .ok (.iload_n 2, 1) := by decide +kernel
theorem dX10_entry_84 : decode cX10_entry 84 = .ok (.iadd, 1) := by decide +kernel
theorem dX10_entry_85 : decode cX10_entry 85 = .ok (.iaload, 1) := by decide +kernel
theorem dX10_entry_86 : decode cX10_entry 86 = .ok (.ireturn, 1) := by decide +kernel
abbrev j10_entry : xJ := (cX10_entry, 4, RX10, 4, 0, 0)
def F10_entry (z : Nat) (x1 : Int32) (x2 : Int32) (x3 : Int32) (c_thrown : Int32) (c_told : (Nat → Int32)) (c_many : (Nat → Int32)) (c_eights : (Nat → Int32)) (c_drawn : (Nat → Int32)) : Option (Int32 × Int32) :=
  (F10_isSide x1).bind (fun v6 => if v6 = 0 then (some ((-1 : Int32), (0 : Int32))) else ((F10_within x3 (0 : Int32) (2 : Int32)).bind (fun v15 => if v15 = 0 then (some ((-1 : Int32), (0 : Int32))) else (if x2 < (-1 : Int32) then (some ((-1 : Int32), (0 : Int32))) else ((F10_planned x1 c_told).bind (fun v29 => if x2 < v29 then (if x2 = (-1 : Int32) then ((F10_planned x1 c_told).bind (fun v44 => some (v44, (0 : Int32)))) else (if x3 = 0 then ((F10_planAt z x1 x2 c_told c_many c_eights).bind (fun v55 => some (v55, (0 : Int32)))) else (if x3 = (1 : Int32) then ((F10_weightAt x1 x2 c_told).bind (fun v69 => some (v69, (0 : Int32)))) else (xg (xin (((8 : Int32) * x1) + x2) 16) (some ((c_drawn (xn (((8 : Int32) * x1) + x2))), (0 : Int32))))))) else (some ((-1 : Int32), (0 : Int32)))))))))
theorem T10_entry {X : xX} {z : Nat} {x1 : Int32} {x2 : Int32} {x3 : Int32} {c_thrown : Int32} {c_told : (Nat → Int32)} {c_many : (Nat → Int32)} {c_eights : (Nat → Int32)} {c_drawn : (Nat → Int32)} {c_read : (Nat → Int32)} {c_gains : (Nat → Int32)} {c_notes : (Nat → Int32)} {c_seen : (Nat → Int32)} {c_turns : (Nat → Int32)} {c_state : Int32} {c_tape : (Nat → Int32)} {c_taped : Int32} {c_size : Int32} {c_from : Int32} {c_next : Int32} {c_token : Int32} {c_value : Int32} {c_fault : Int32} {c_number : Int32} {c_fives : (Nat → Int32)} {c_isLeft : (Nat → Int32)} {c_wentTimes : Int32} {c_goes : (Nat → Int32)} {c_isLeftLaid : Int32} {c_game : (Nat → Int32)} {c_rows : Int32} {c_columns : Int32} {c_isFound : Int32} {c_bestValue : Int64} {c_bestBelow : Int64} {c_bestShare : (Nat → Int64)} {c_share : (Nat → Int64)} {c_matrix : (Nat → Int64)} {c_system : (Nat → Int64)} {c_shares : (Nat → Int32)} {c_allShares : Int32} {v : Int32 × Int32} (hX : xIs (j10_entry) X ((some .int)) (some (.int v.1)) (hM v.2 c_told c_read c_many c_eights c_gains c_notes c_seen c_turns c_drawn c_state c_tape c_taped c_size c_from c_next c_token c_value c_fault c_number c_fives c_isLeft c_wentTimes c_goes c_isLeftLaid c_game c_rows c_columns c_isFound c_bestValue c_bestBelow c_bestShare c_share c_matrix c_system c_shares c_allShares)) (hf : F10_entry z x1 x2 x3 c_thrown c_told c_many c_eights c_drawn = some v) : xV (j10_entry) X 0 0 (hM c_thrown c_told c_read c_many c_eights c_gains c_notes c_seen c_turns c_drawn c_state c_tape c_taped c_size c_from c_next c_token c_value c_fault c_number c_fives c_isLeft c_wentTimes c_goes c_isLeftLaid c_game c_rows c_columns c_isFound c_bestValue c_bestBelow c_bestShare c_share c_matrix c_system c_shares c_allShares) 0 [(0, .ref 0), (1, .int x1), (2, .int x2), (3, .int x3)] [] := by
  unfold F10_entry at hf
  refine xV_aload_n 1 rfl dX10_entry_0 rfl 0 rfl ?_
  refine xV_iconst 2 rfl dX10_entry_1 xk_i0 ?_
  refine xV_put (h' := (hM (0 : Int32) c_told c_read c_many c_eights c_gains c_notes c_seen c_turns c_drawn c_state c_tape c_taped c_size c_from c_next c_token c_value c_fault c_number c_fives c_isLeft c_wentTimes c_goes c_isLeftLaid c_game c_rows c_columns c_isFound c_bestValue c_bestBelow c_bestShare c_share c_matrix c_system c_shares c_allShares)) 5 rfl dX10_entry_2 f10_1 rfl nf10_0 (fun _ => rfl) (fun _ => rfl) (Nat.le_of_ble_eq_true rfl) rfl ?_
  refine xV_iload_n 6 rfl dX10_entry_5 rfl 1 rfl ?_
  obtain ⟨v6, hv6, hf⟩ := xb_s hf
  refine xV_st0 (rest := []) 9 rfl dX10_entry_6 rfl (C10_isSide X.1.2.1 hv6) m10_isSide s10_isSide k10_105 rfl (Nat.le_of_ble_eq_true rfl) (Nat.le_of_ble_eq_true rfl) (Nat.le_of_ble_eq_true rfl) ⟨Nat.le_refl _, Nat.le_refl _⟩ ?_
  show xV (j10_entry) X 0 0 (hM (0 : Int32) c_told c_read c_many c_eights c_gains c_notes c_seen c_turns c_drawn c_state c_tape c_taped c_size c_from c_next c_token c_value c_fault c_number c_fives c_isLeft c_wentTimes c_goes c_isLeftLaid c_game c_rows c_columns c_isFound c_bestValue c_bestBelow c_bestShare c_share c_matrix c_system c_shares c_allShares) 9 [(0, .ref 0), (1, .int x1), (2, .int x2), (3, .int x3)] [.int v6]
  refine xV_if_eq (tgt := 35) 12 rfl dX10_entry_9 (by decide) (fun h9 => ?_) (fun h9 => ?_)
  · have hf := xif_t hf h9
    refine xV_iconst 36 rfl dX10_entry_35 xk_im1 ?_
    obtain rfl := Option.some.inj hf
    exact xV_iret hX dX10_entry_36 rfl (Nat.zero_le _) (Nat.zero_le _)
  · have hf := xif_f hf h9
    refine xV_iload_n 13 rfl dX10_entry_12 rfl 3 rfl ?_
    refine xV_iconst 14 rfl dX10_entry_13 xk_i0 ?_
    refine xV_iconst 15 rfl dX10_entry_14 xk_i2 ?_
    obtain ⟨v15, hv15, hf⟩ := xb_s hf
    refine xV_st0 (rest := []) 18 rfl dX10_entry_15 rfl (C10_within X.1.2.1 hv15) m10_within s10_within k10_7 rfl (Nat.le_of_ble_eq_true rfl) (Nat.le_of_ble_eq_true rfl) (Nat.le_of_ble_eq_true rfl) ⟨Nat.le_refl _, Nat.le_refl _⟩ ?_
    show xV (j10_entry) X 0 0 (hM (0 : Int32) c_told c_read c_many c_eights c_gains c_notes c_seen c_turns c_drawn c_state c_tape c_taped c_size c_from c_next c_token c_value c_fault c_number c_fives c_isLeft c_wentTimes c_goes c_isLeftLaid c_game c_rows c_columns c_isFound c_bestValue c_bestBelow c_bestShare c_share c_matrix c_system c_shares c_allShares) 18 [(0, .ref 0), (1, .int x1), (2, .int x2), (3, .int x3)] [.int v15]
    refine xV_if_eq (tgt := 35) 21 rfl dX10_entry_18 (by decide) (fun h18 => ?_) (fun h18 => ?_)
    · have hf := xif_t hf h18
      refine xV_iconst 36 rfl dX10_entry_35 xk_im1 ?_
      obtain rfl := Option.some.inj hf
      exact xV_iret hX dX10_entry_36 rfl (Nat.zero_le _) (Nat.zero_le _)
    · have hf := xif_f hf h18
      refine xV_iload_n 22 rfl dX10_entry_21 rfl 2 rfl ?_
      refine xV_iconst 23 rfl dX10_entry_22 xk_im1 ?_
      refine xV_icmp_lt (tgt := 35) 26 rfl dX10_entry_23 (by decide) (fun h23 => ?_) (fun h23 => ?_)
      · have hf := xif_t hf h23
        refine xV_iconst 36 rfl dX10_entry_35 xk_im1 ?_
        obtain rfl := Option.some.inj hf
        exact xV_iret hX dX10_entry_36 rfl (Nat.zero_le _) (Nat.zero_le _)
      · have hf := xif_f hf h23
        refine xV_iload_n 27 rfl dX10_entry_26 rfl 2 rfl ?_
        refine xV_aload_n 28 rfl dX10_entry_27 rfl 0 rfl ?_
        refine xV_iload_n 29 rfl dX10_entry_28 rfl 1 rfl ?_
        obtain ⟨v29, hv29, hf⟩ := xb_s hf
        refine xV_same (rest := [.int x2]) 32 rfl dX10_entry_29 rfl (C10_planned X.1.2.1 hv29) m10_planned v10_planned k10_328 rfl rfl rfl rfl rfl (Nat.le_of_ble_eq_true rfl) (Nat.le_of_ble_eq_true rfl) (Nat.le_of_ble_eq_true rfl) ⟨Nat.le_refl _, Nat.le_refl _⟩ ?_
        show xV (j10_entry) X 0 0 (hM (0 : Int32) c_told c_read c_many c_eights c_gains c_notes c_seen c_turns c_drawn c_state c_tape c_taped c_size c_from c_next c_token c_value c_fault c_number c_fives c_isLeft c_wentTimes c_goes c_isLeftLaid c_game c_rows c_columns c_isFound c_bestValue c_bestBelow c_bestShare c_share c_matrix c_system c_shares c_allShares) 32 [(0, .ref 0), (1, .int x1), (2, .int x2), (3, .int x3)] [.int v29, .int x2]
        refine xV_icmp_lt (tgt := 37) 35 rfl dX10_entry_32 (by decide) (fun h32 => ?_) (fun h32 => ?_)
        · have hf := xif_t hf h32
          refine xV_iload_n 38 rfl dX10_entry_37 rfl 2 rfl ?_
          refine xV_iconst 39 rfl dX10_entry_38 xk_im1 ?_
          refine xV_icmp_ne (tgt := 48) 42 rfl dX10_entry_39 (by decide) (fun h39 => ?_) (fun h39 => ?_)
          · have hf := xif_f hf h39
            refine xV_iload_n 49 rfl dX10_entry_48 rfl 3 rfl ?_
            refine xV_if_ne (tgt := 61) 52 rfl dX10_entry_49 (by decide) (fun h49 => ?_) (fun h49 => ?_)
            · have hf := xif_f hf h49
              refine xV_iload_n 62 rfl dX10_entry_61 rfl 3 rfl ?_
              refine xV_iconst 63 rfl dX10_entry_62 xk_i1 ?_
              refine xV_icmp_ne (tgt := 75) 66 rfl dX10_entry_63 (by decide) (fun h63 => ?_) (fun h63 => ?_)
              · have hf := xif_f hf h63
                refine xV_aload_n 76 rfl dX10_entry_75 rfl 0 rfl ?_
                refine xV_get (v := .ref 9) 79 rfl dX10_entry_76 f10_42 rfl rfl ?_
                refine xV_bipush 81 rfl dX10_entry_79 xk_b8 ?_
                refine xV_iload_n 82 rfl dX10_entry_81 rfl 1 rfl ?_
                refine xV_imul 83 rfl dX10_entry_82 ?_
                refine xV_iload_n 84 rfl dX10_entry_83 rfl 2 rfl ?_
                refine xV_iadd 85 rfl dX10_entry_84 ?_
                obtain ⟨hg85, hf⟩ := xg_s hf
                refine xV_iaload 86 rfl dX10_entry_85 rfl (xin_ok hg85) rfl ?_
                obtain rfl := Option.some.inj hf
                exact xV_iret hX dX10_entry_86 rfl (Nat.zero_le _) (Nat.zero_le _)
              · have hf := xif_t hf h63
                refine xV_aload_n 67 rfl dX10_entry_66 rfl 0 rfl ?_
                refine xV_iload_n 68 rfl dX10_entry_67 rfl 1 rfl ?_
                refine xV_iload_n 69 rfl dX10_entry_68 rfl 2 rfl ?_
                obtain ⟨v69, hv69, hf⟩ := xb_s hf
                refine xV_same (rest := []) 72 rfl dX10_entry_69 rfl (C10_weightAt X.1.2.1 hv69) m10_weightAt v10_weightAt k10_331 rfl rfl rfl rfl rfl (Nat.le_of_ble_eq_true rfl) (Nat.le_of_ble_eq_true rfl) (Nat.le_of_ble_eq_true rfl) ⟨Nat.le_refl _, Nat.le_refl _⟩ ?_
                show xV (j10_entry) X 0 0 (hM (0 : Int32) c_told c_read c_many c_eights c_gains c_notes c_seen c_turns c_drawn c_state c_tape c_taped c_size c_from c_next c_token c_value c_fault c_number c_fives c_isLeft c_wentTimes c_goes c_isLeftLaid c_game c_rows c_columns c_isFound c_bestValue c_bestBelow c_bestShare c_share c_matrix c_system c_shares c_allShares) 72 [(0, .ref 0), (1, .int x1), (2, .int x2), (3, .int x3)] [.int v69]
                refine xV_goto (tgt := 86) dX10_entry_72 (by decide) ?_
                obtain rfl := Option.some.inj hf
                exact xV_iret hX dX10_entry_86 rfl (Nat.zero_le _) (Nat.zero_le _)
            · have hf := xif_t hf h49
              refine xV_aload_n 53 rfl dX10_entry_52 rfl 0 rfl ?_
              refine xV_iload_n 54 rfl dX10_entry_53 rfl 1 rfl ?_
              refine xV_iload_n 55 rfl dX10_entry_54 rfl 2 rfl ?_
              obtain ⟨v55, hv55, hf⟩ := xb_s hf
              refine xV_same (rest := []) 58 rfl dX10_entry_55 rfl (C10_planAt X.1.2.1 hv55) m10_planAt v10_planAt k10_334 rfl rfl rfl rfl rfl (Nat.le_of_ble_eq_true rfl) (Nat.le_of_ble_eq_true rfl) (Nat.le_of_ble_eq_true rfl) ⟨Nat.le_refl _, Nat.le_refl _⟩ ?_
              show xV (j10_entry) X 0 0 (hM (0 : Int32) c_told c_read c_many c_eights c_gains c_notes c_seen c_turns c_drawn c_state c_tape c_taped c_size c_from c_next c_token c_value c_fault c_number c_fives c_isLeft c_wentTimes c_goes c_isLeftLaid c_game c_rows c_columns c_isFound c_bestValue c_bestBelow c_bestShare c_share c_matrix c_system c_shares c_allShares) 58 [(0, .ref 0), (1, .int x1), (2, .int x2), (3, .int x3)] [.int v55]
              refine xV_goto (tgt := 86) dX10_entry_58 (by decide) ?_
              obtain rfl := Option.some.inj hf
              exact xV_iret hX dX10_entry_86 rfl (Nat.zero_le _) (Nat.zero_le _)
          · have hf := xif_t hf h39
            refine xV_aload_n 43 rfl dX10_entry_42 rfl 0 rfl ?_
            refine xV_iload_n 44 rfl dX10_entry_43 rfl 1 rfl ?_
            obtain ⟨v44, hv44, hf⟩ := xb_s hf
            refine xV_same (rest := []) 47 rfl dX10_entry_44 rfl (C10_planned X.1.2.1 hv44) m10_planned v10_planned k10_328 rfl rfl rfl rfl rfl (Nat.le_of_ble_eq_true rfl) (Nat.le_of_ble_eq_true rfl) (Nat.le_of_ble_eq_true rfl) ⟨Nat.le_refl _, Nat.le_refl _⟩ ?_
            show xV (j10_entry) X 0 0 (hM (0 : Int32) c_told c_read c_many c_eights c_gains c_notes c_seen c_turns c_drawn c_state c_tape c_taped c_size c_from c_next c_token c_value c_fault c_number c_fives c_isLeft c_wentTimes c_goes c_isLeftLaid c_game c_rows c_columns c_isFound c_bestValue c_bestBelow c_bestShare c_share c_matrix c_system c_shares c_allShares) 47 [(0, .ref 0), (1, .int x1), (2, .int x2), (3, .int x3)] [.int v44]
            obtain rfl := Option.some.inj hf
            exact xV_iret hX dX10_entry_47 rfl (Nat.zero_le _) (Nat.zero_le _)
        · have hf := xif_f hf h32
          refine xV_iconst 36 rfl dX10_entry_35 xk_im1 ?_
          obtain rfl := Option.some.inj hf
          exact xV_iret hX dX10_entry_36 rfl (Nat.zero_le _) (Nat.zero_le _)
theorem C10_entry (l : Launch) {z : Nat} {x1 : Int32} {x2 : Int32} {x3 : Int32} {c_thrown : Int32} {c_told : (Nat → Int32)} {c_many : (Nat → Int32)} {c_eights : (Nat → Int32)} {c_drawn : (Nat → Int32)} {c_read : (Nat → Int32)} {c_gains : (Nat → Int32)} {c_notes : (Nat → Int32)} {c_seen : (Nat → Int32)} {c_turns : (Nat → Int32)} {c_state : Int32} {c_tape : (Nat → Int32)} {c_taped : Int32} {c_size : Int32} {c_from : Int32} {c_next : Int32} {c_token : Int32} {c_value : Int32} {c_fault : Int32} {c_number : Int32} {c_fives : (Nat → Int32)} {c_isLeft : (Nat → Int32)} {c_wentTimes : Int32} {c_goes : (Nat → Int32)} {c_isLeftLaid : Int32} {c_game : (Nat → Int32)} {c_rows : Int32} {c_columns : Int32} {c_isFound : Int32} {c_bestValue : Int64} {c_bestBelow : Int64} {c_bestShare : (Nat → Int64)} {c_share : (Nat → Int64)} {c_matrix : (Nat → Int64)} {c_system : (Nat → Int64)} {c_shares : (Nat → Int32)} {c_allShares : Int32} {v : Int32 × Int32} (hf : F10_entry z x1 x2 x3 c_thrown c_told c_many c_eights c_drawn = some v) : xCt l yX10_entry ((some .int)) j10_entry [.ref 0, .int x1, .int x2, .int x3] (hM c_thrown c_told c_read c_many c_eights c_gains c_notes c_seen c_turns c_drawn c_state c_tape c_taped c_size c_from c_next c_token c_value c_fault c_number c_fives c_isLeft c_wentTimes c_goes c_isLeftLaid c_game c_rows c_columns c_isFound c_bestValue c_bestBelow c_bestShare c_share c_matrix c_system c_shares c_allShares) (some (.int v.1)) (hM v.2 c_told c_read c_many c_eights c_gains c_notes c_seen c_turns c_drawn c_state c_tape c_taped c_size c_from c_next c_token c_value c_fault c_number c_fives c_isLeft c_wentTimes c_goes c_isLeftLaid c_game c_rows c_columns c_isFound c_bestValue c_bestBelow c_bestShare c_share c_matrix c_system c_shares c_allShares) := xCt_of (by decide) rfl (Nat.le_of_ble_eq_true rfl) (fun _ hX => T10_entry hX hf)
theorem m10_entry : xMd yX10_entry RX10 ((some .int)) j10_entry 3 := ⟨List.mem_of_getElem? (i := 1057) (by decide +kernel), List.mem_of_getElem? (i := 5) (by decide +kernel), rfl, by decide +kernel⟩
theorem v10_entry : xMv yX10_entry RX10 := ⟨List.mem_of_getElem? (i := 1055) (by decide +kernel), List.mem_of_getElem? (i := 1056) (by decide +kernel)⟩
theorem xk_in0_128 : vp_in (0 : Int32) 128 := xin_ok (by decide)
theorem f10_76 : xFl RX10 76 10 35 := ⟨_, rfl, by decide, List.mem_of_getElem? (i := 143) (by decide +kernel)⟩
theorem k10_340 : Cond.methodLink RX10 340 yX10_weights ∈ wsL_law0 := List.mem_of_getElem? (i := 1117) (by decide +kernel)
theorem f10_343 : xFl RX10 343 10 36 := ⟨_, rfl, by decide, List.mem_of_getElem? (i := 1108) (by decide +kernel)⟩
theorem nf10_36 : ∀ q : vw_C, vwCl[10]? = some q → (q.2.1 36).2.2.2 = false := fun q e => by cases e; rfl
theorem dX10_laysShares_0 : decode cX10_laysShares 0 = .ok (.iconst 0, 1) := by decide +kernel
theorem dX10_laysShares_1 : decode cX10_laysShares 1 = .ok (.istore_n 3, 1) := by decide +kernel
theorem dX10_laysShares_2 : decode cX10_laysShares 2 = .ok (.iload_n 3, 1) := by decide +kernel
theorem dX10_laysShares_3 : decode cX10_laysShares 3 = .ok (.sipush 128, 3) := by decide +kernel
theorem dX10_laysShares_6 : decode cX10_laysShares 6 = .ok (.if_icmp .ge 16, 3) := by decide +kernel
theorem dX10_laysShares_9 : decode cX10_laysShares 9 = .ok (.aload_n 0, 1) := by decide +kernel
theorem dX10_laysShares_10 : decode cX10_laysShares 10 = .ok (.getfield 76, 3) := by decide +kernel
theorem dX10_laysShares_13 : decode cX10_laysShares 13 = .ok (.iload_n 3, 1) := by decide +kernel
theorem dX10_laysShares_14 : decode cX10_laysShares 14 = .ok (.iconst 0, 1) := by decide +kernel
theorem dX10_laysShares_15 : decode cX10_laysShares 15 = .ok (.iastore, 1) := by decide +kernel
theorem dX10_laysShares_16 : decode cX10_laysShares 16 = .ok (.iinc 3 1, 3) := by decide +kernel
theorem dX10_laysShares_19 : decode cX10_laysShares 19 = .ok (.goto (-17), 3) := by decide +kernel
theorem dX10_laysShares_22 : decode cX10_laysShares 22 = .ok (.aload_n 0, 1) := by decide +kernel
theorem dX10_laysShares_23 : decode cX10_laysShares 23 = .ok (.bipush 24, 2) := by decide +kernel
theorem dX10_laysShares_25 : decode cX10_laysShares 25 = .ok (.aload_n 0, 1) := by decide +kernel
theorem dX10_laysShares_26 : decode cX10_laysShares 26 = .ok (.iload_n 1, 1) := by decide +kernel
theorem dX10_laysShares_27 : decode cX10_laysShares 27 = .ok (.invokevirtual 340, 3) := by decide +kernel
theorem dX10_laysShares_30 : decode cX10_laysShares 30 = .ok (.imul, 1) := by decide +kernel
theorem dX10_laysShares_31 : decode cX10_laysShares 31 = .ok (.putfield 343, 3) := by decide +kernel
theorem dX10_laysShares_34 : decode cX10_laysShares 34 = .ok (.iconst 0, 1) := by decide +kernel
theorem dX10_laysShares_35 : decode cX10_laysShares 35 = .ok (.istore_n 3, 1) := by decide +kernel
theorem dX10_laysShares_36 : decode cX10_laysShares 36 = .ok (.iload_n 3, 1) := by decide +kernel
theorem dX10_laysShares_37 : decode cX10_laysShares 37 = .ok (.aload_n 0, 1) := by decide +kernel
theorem dX10_laysShares_38 : decode cX10_laysShares 38 = .ok (.iload_n 1, 1) := by decide +kernel
theorem dX10_laysShares_39 : decode cX10_laysShares 39 = .ok (.invokevirtual 328, 3) := by decide +kernel
theorem dX10_laysShares_42 : decode cX10_laysShares 42 = .ok (.if_icmp .ge 110, 3) := by decide +kernel
theorem dX10_laysShares_45 : decode cX10_laysShares 45 = .ok (.aload_n 0, 1) := by decide +kernel
theorem dX10_laysShares_46 : decode cX10_laysShares 46 = .ok (.iload_n 1, 1) := by decide +kernel
theorem dX10_laysShares_47 : decode cX10_laysShares 47 = .ok (.iload_n 3, 1) := by decide +kernel
theorem dX10_laysShares_48 : decode cX10_laysShares 48 = .ok (.invokevirtual 334, 3) := by decide +kernel
theorem dX10_laysShares_51 : decode cX10_laysShares 51 = .ok (.istore 4, 2) := by decide +kernel
theorem dX10_laysShares_53 : decode cX10_laysShares 53 = .ok (.iload_n 2, 1) := by decide +kernel
theorem dX10_laysShares_54 : decode cX10_laysShares 54 = .ok (.ifCond .eq 73, 3) := by decide +kernel
theorem dX10_laysShares_57 : decode cX10_laysShares 57 = .ok (.aload_n 0, 1) := by decide +kernel
theorem dX10_laysShares_58 : decode cX10_laysShares 58 = .ok (.iload_n 1, 1) := by decide +kernel
theorem dX10_laysShares_59 : decode cX10_laysShares 59 = .ok (.iload 4, 2) := by decide +kernel
theorem dX10_laysShares_61 : decode cX10_laysShares 61 = .ok (.invokevirtual 228, 3) := by decide +kernel
theorem dX10_laysShares_64 : decode cX10_laysShares 64 = .ok (.istore 5, 2) := by decide +kernel
theorem dX10_laysShares_66 : decode cX10_laysShares 66 = .ok (.iconst 0, 1) := by decide +kernel
theorem dX10_laysShares_67 : decode cX10_laysShares 67 = .ok (.istore 6, 2) := by decide +kernel
theorem dX10_laysShares_69 : decode cX10_laysShares 69 = .ok (.iload 6, 2) := by decide +kernel
theorem dX10_laysShares_71 : decode cX10_laysShares 71 = .ok (.aload_n 0, 1) := by decide +kernel
theorem dX10_laysShares_72 : decode cX10_laysShares 72 = .ok (.getfield 24, 3) := by decide +kernel
theorem dX10_laysShares_75 : decode cX10_laysShares 75 = .ok (.iload_n 1, 1) := by decide +kernel
theorem dX10_laysShares_76 : decode cX10_laysShares 76 = .ok (.iaload, 1) := by decide +kernel
theorem dX10_laysShares_77 : decode cX10_laysShares 77 = .ok (.if_icmp .ge 47, 3) := by decide +kernel
theorem dX10_laysShares_80 : decode cX10_laysShares 80 = .ok (.aload_n 0, 1) := by decide +kernel
theorem dX10_laysShares_81 : decode cX10_laysShares 81 = .ok (.getfield 76, 3) := by decide +kernel
theorem dX10_laysShares_84 : decode cX10_laysShares 84 = .ok (.iload 6, 2) := by decide +kernel
theorem dX10_laysShares_86 : decode cX10_laysShares 86 = .ok (.dup2, 1) := by decide +kernel
theorem dX10_laysShares_87 : decode cX10_laysShares 87 = .ok (.iaload, 1) := by decide +kernel
theorem dX10_laysShares_88 : decode cX10_laysShares 88 = .ok (.aload_n 0, 1) := by decide +kernel
theorem dX10_laysShares_89 : decode cX10_laysShares 89 = .ok (.iload_n 1, 1) := by decide +kernel
theorem dX10_laysShares_90 : decode cX10_laysShares 90 = .ok (.iload 4, 2) := by decide +kernel
theorem dX10_laysShares_92 : decode cX10_laysShares 92 = .ok (.iload 6, 2) := by decide +kernel
theorem dX10_laysShares_94 : decode cX10_laysShares 94 = .ok (.invokevirtual 219, 3) := by decide +kernel
theorem dX10_laysShares_97 : decode cX10_laysShares 97 = .ok (.ifCond .eq 18, 3) := by decide +kernel
theorem dX10_laysShares_100 : decode cX10_laysShares 100 = .ok (.bipush 24, 2) := by decide +kernel
theorem dX10_laysShares_102 : decode cX10_laysShares 102 = .ok (.aload_n 0, 1) := by decide +kernel
theorem dX10_laysShares_103 : decode cX10_laysShares 103 = .ok (.iload_n 1, 1) := by decide +kernel
theorem dX10_laysShares_104 : decode cX10_laysShares 104 = .ok (.iload_n 3, 1) := by decide +kernel
theorem dX10_laysShares_105 : decode cX10_laysShares 105 = .ok (.invokevirtual 331, 3) := by decide +kernel
theorem dX10_laysShares_108 : decode cX10_laysShares 108 = .ok (.imul, 1) := by decide +kernel
theorem dX10_laysShares_109 : decode cX10_laysShares 109 = .ok (.iload 5, 2) := by decide +kernel
theorem dX10_laysShares_111 : decode cX10_laysShares 111 = .ok (.idiv, 1) := by decide +kernel
theorem dX10_laysShares_112 : decode cX10_laysShares 112 = .ok (.goto 4, 3) := by decide +kernel
theorem dX10_laysShares_115 : decode cX10_laysShares 115 = .ok (.iconst 0, 1) := by decide +kernel
theorem dX10_laysShares_116 : decode cX10_laysShares 116 = .ok (.iadd, 1) := by decide +kernel
theorem dX10_laysShares_117 : decode cX10_laysShares 117 = .ok (.iastore, 1) := by decide +kernel
theorem dX10_laysShares_118 : decode cX10_laysShares 118 = .ok (.iinc 6 1, 3) := by decide +kernel
theorem dX10_laysShares_121 : decode cX10_laysShares 121 = .ok (.goto (-52), 3) := by decide +kernel
theorem dX10_laysShares_124 : decode cX10_laysShares 124 = .ok (.goto 22, 3) := by decide +kernel
theorem dX10_laysShares_127 : decode cX10_laysShares 127 = .ok (.aload_n 0, 1) := by decide +kernel
theorem dX10_laysShares_128 : decode cX10_laysShares 128 = .ok (.getfield 76, 3) := by decide +kernel
theorem dX10_laysShares_131 : decode cX10_laysShares 131 = .ok (.iload 4, 2) := by decide +kernel
theorem dX10_laysShares_133 : decode cX10_laysShares 133 = .ok (.dup2, 1) := by decide +kernel
theorem dX10_laysShares_134 : decode cX10_laysShares 134 = .ok (.iaload, 1) := by decide +kernel
theorem dX10_laysShares_135 : decode cX10_laysShares 135 = .ok (.bipush 24, 2) := by decide +kernel
theorem dX10_laysShares_137 : decode cX10_laysShares 137 = .ok (.aload_n 0, 1) := by decide +kernel
theorem dX10_laysShares_138 : decode cX10_laysShares 138 = .ok (.iload_n 1, 1) := by decide +kernel
theorem dX10_laysShares_139 : decode cX10_laysShares 139 = .ok (.iload_n 3, 1) := by decide +kernel
theorem dX10_laysShares_140 : decode cX10_laysShares 140 = .ok (.invokevirtual 331, 3) := by decide +kernel
theorem dX10_laysShares_143 : decode cX10_laysShares 143 = .ok (.imul, 1) := by decide +kernel
theorem dX10_laysShares_144 : decode cX10_laysShares 144 = .ok (.iadd, 1) := by decide +kernel
theorem dX10_laysShares_145 : decode cX10_laysShares 145 = .ok (.iastore, 1) := by decide +kernel
theorem dX10_laysShares_146 : decode cX10_laysShares 146 = .ok (.iinc 3 1, 3) := by decide +kernel
theorem dX10_laysShares_149 : decode cX10_laysShares 149 = .ok (.goto (-113), 3) := by decide +kernel
theorem dX10_laysShares_152 : decode cX10_laysShares 152 = .ok (.return_, 1) := by decide +kernel
abbrev j10_laysShares : xJ := (cX10_laysShares, 7, RX10, 6, 0, 0)
def F10_laysShares_b146 (z : Nat) (x1 : Int32) (x2 : Int32) (x3 : Int32) (c_told : (Nat → Int32)) (c_many : (Nat → Int32)) (c_eights : (Nat → Int32)) (c_fives : (Nat → Int32)) (c_shares : (Nat → Int32)) (c_allShares : Int32) (k36 : Int32 → Int32 → Int32 → (Nat → Int32) → (Nat → Int32) → (Nat → Int32) → (Nat → Int32) → (Nat → Int32) → Int32 → Option ((Nat → Int32) × Int32)) : Option ((Nat → Int32) × Int32) :=
  k36 x1 x2 (x3 + (1 : Int32)) c_told c_many c_eights c_fives c_shares c_allShares
theorem T10_laysShares_b146 {X : xX} {c_thrown : Int32} {c_read : (Nat → Int32)} {c_gains : (Nat → Int32)} {c_notes : (Nat → Int32)} {c_seen : (Nat → Int32)} {c_turns : (Nat → Int32)} {c_drawn : (Nat → Int32)} {c_state : Int32} {c_tape : (Nat → Int32)} {c_taped : Int32} {c_size : Int32} {c_from : Int32} {c_next : Int32} {c_token : Int32} {c_value : Int32} {c_fault : Int32} {c_number : Int32} {c_isLeft : (Nat → Int32)} {c_wentTimes : Int32} {c_goes : (Nat → Int32)} {c_isLeftLaid : Int32} {c_game : (Nat → Int32)} {c_rows : Int32} {c_columns : Int32} {c_isFound : Int32} {c_bestValue : Int64} {c_bestBelow : Int64} {c_bestShare : (Nat → Int64)} {c_share : (Nat → Int64)} {c_matrix : (Nat → Int64)} {c_system : (Nat → Int64)} {x1 : Int32} {x2 : Int32} {x3 : Int32} {c_told : (Nat → Int32)} {c_many : (Nat → Int32)} {c_eights : (Nat → Int32)} {c_fives : (Nat → Int32)} {c_shares : (Nat → Int32)} {c_allShares : Int32} {z : Nat} {v : (Nat → Int32) × Int32} {k36 : Int32 → Int32 → Int32 → (Nat → Int32) → (Nat → Int32) → (Nat → Int32) → (Nat → Int32) → (Nat → Int32) → Int32 → Option ((Nat → Int32) × Int32)} (hX : xIs (j10_laysShares) X none none (hM c_thrown c_told c_read c_many c_eights c_gains c_notes c_seen c_turns c_drawn c_state c_tape c_taped c_size c_from c_next c_token c_value c_fault c_number c_fives c_isLeft c_wentTimes c_goes c_isLeftLaid c_game c_rows c_columns c_isFound c_bestValue c_bestBelow c_bestShare c_share c_matrix c_system v.1 v.2)) (hk36 : ∀ {x1 : Int32} {x2 : Int32} {x3 : Int32} {c_shares : (Nat → Int32)} {c_allShares : Int32}, k36 x1 x2 x3 c_told c_many c_eights c_fives c_shares c_allShares = some v → xV (j10_laysShares) X 0 0 (hM c_thrown c_told c_read c_many c_eights c_gains c_notes c_seen c_turns c_drawn c_state c_tape c_taped c_size c_from c_next c_token c_value c_fault c_number c_fives c_isLeft c_wentTimes c_goes c_isLeftLaid c_game c_rows c_columns c_isFound c_bestValue c_bestBelow c_bestShare c_share c_matrix c_system c_shares c_allShares) 36 [(0, .ref 0), (1, .int x1), (2, .int x2), (3, .int x3)] []) (hf : F10_laysShares_b146 z x1 x2 x3 c_told c_many c_eights c_fives c_shares c_allShares k36 = some v) : xV (j10_laysShares) X 0 0 (hM c_thrown c_told c_read c_many c_eights c_gains c_notes c_seen c_turns c_drawn c_state c_tape c_taped c_size c_from c_next c_token c_value c_fault c_number c_fives c_isLeft c_wentTimes c_goes c_isLeftLaid c_game c_rows c_columns c_isFound c_bestValue c_bestBelow c_bestShare c_share c_matrix c_system c_shares c_allShares) 146 [(0, .ref 0), (1, .int x1), (2, .int x2), (3, .int x3)] [] := by
  unfold F10_laysShares_b146 at hf
  refine xV_iinc (L' := [(3, .int (x3 + (1 : Int32))), (0, .ref 0), (1, .int x1), (2, .int x2)]) 149 rfl dX10_laysShares_146 3 rfl (xk_inc xk_i1) (xlt rfl) rfl ?_
  refine xV_goto (tgt := 36) dX10_laysShares_149 (by decide) ?_
  refine xV_sub [1, 2, 3, 0] rfl ?_
  exact hk36 hf
def F10_laysShares_b116 (z : Nat) (x1 : Int32) (x2 : Int32) (x3 : Int32) (x4 : Int32) (x5 : Int32) (x6 : Int32) (s1 : Int32) (s2 : Int32) (s3 : Int32) (c_told : (Nat → Int32)) (c_many : (Nat → Int32)) (c_eights : (Nat → Int32)) (c_fives : (Nat → Int32)) (c_shares : (Nat → Int32)) (c_allShares : Int32) (k36 : Int32 → Int32 → Int32 → (Nat → Int32) → (Nat → Int32) → (Nat → Int32) → (Nat → Int32) → (Nat → Int32) → Int32 → Option ((Nat → Int32) × Int32)) (k69 : Int32 → Int32 → Int32 → Int32 → Int32 → Int32 → (Nat → Int32) → (Nat → Int32) → (Nat → Int32) → (Nat → Int32) → (Nat → Int32) → Int32 → Option ((Nat → Int32) × Int32)) : Option ((Nat → Int32) × Int32) :=
  xg (xin s1 128) (k69 x1 x2 x3 x4 x5 (x6 + (1 : Int32)) c_told c_many c_eights c_fives (upd c_shares (xn s1) (s2 + s3)) c_allShares)
theorem T10_laysShares_b116 {X : xX} {c_thrown : Int32} {c_read : (Nat → Int32)} {c_gains : (Nat → Int32)} {c_notes : (Nat → Int32)} {c_seen : (Nat → Int32)} {c_turns : (Nat → Int32)} {c_drawn : (Nat → Int32)} {c_state : Int32} {c_tape : (Nat → Int32)} {c_taped : Int32} {c_size : Int32} {c_from : Int32} {c_next : Int32} {c_token : Int32} {c_value : Int32} {c_fault : Int32} {c_number : Int32} {c_isLeft : (Nat → Int32)} {c_wentTimes : Int32} {c_goes : (Nat → Int32)} {c_isLeftLaid : Int32} {c_game : (Nat → Int32)} {c_rows : Int32} {c_columns : Int32} {c_isFound : Int32} {c_bestValue : Int64} {c_bestBelow : Int64} {c_bestShare : (Nat → Int64)} {c_share : (Nat → Int64)} {c_matrix : (Nat → Int64)} {c_system : (Nat → Int64)} {x1 : Int32} {x2 : Int32} {x3 : Int32} {x4 : Int32} {x5 : Int32} {x6 : Int32} {s1 : Int32} {s2 : Int32} {s3 : Int32} {c_told : (Nat → Int32)} {c_many : (Nat → Int32)} {c_eights : (Nat → Int32)} {c_fives : (Nat → Int32)} {c_shares : (Nat → Int32)} {c_allShares : Int32} {z : Nat} {v : (Nat → Int32) × Int32} {k36 : Int32 → Int32 → Int32 → (Nat → Int32) → (Nat → Int32) → (Nat → Int32) → (Nat → Int32) → (Nat → Int32) → Int32 → Option ((Nat → Int32) × Int32)} {k69 : Int32 → Int32 → Int32 → Int32 → Int32 → Int32 → (Nat → Int32) → (Nat → Int32) → (Nat → Int32) → (Nat → Int32) → (Nat → Int32) → Int32 → Option ((Nat → Int32) × Int32)} (hX : xIs (j10_laysShares) X none none (hM c_thrown c_told c_read c_many c_eights c_gains c_notes c_seen c_turns c_drawn c_state c_tape c_taped c_size c_from c_next c_token c_value c_fault c_number c_fives c_isLeft c_wentTimes c_goes c_isLeftLaid c_game c_rows c_columns c_isFound c_bestValue c_bestBelow c_bestShare c_share c_matrix c_system v.1 v.2)) (hk36 : ∀ {x1 : Int32} {x2 : Int32} {x3 : Int32} {c_shares : (Nat → Int32)} {c_allShares : Int32}, k36 x1 x2 x3 c_told c_many c_eights c_fives c_shares c_allShares = some v → xV (j10_laysShares) X 0 0 (hM c_thrown c_told c_read c_many c_eights c_gains c_notes c_seen c_turns c_drawn c_state c_tape c_taped c_size c_from c_next c_token c_value c_fault c_number c_fives c_isLeft c_wentTimes c_goes c_isLeftLaid c_game c_rows c_columns c_isFound c_bestValue c_bestBelow c_bestShare c_share c_matrix c_system c_shares c_allShares) 36 [(0, .ref 0), (1, .int x1), (2, .int x2), (3, .int x3)] []) (hk69 : ∀ {x1 : Int32} {x2 : Int32} {x3 : Int32} {x4 : Int32} {x5 : Int32} {x6 : Int32} {c_shares : (Nat → Int32)} {c_allShares : Int32}, k69 x1 x2 x3 x4 x5 x6 c_told c_many c_eights c_fives c_shares c_allShares = some v → xV (j10_laysShares) X 0 0 (hM c_thrown c_told c_read c_many c_eights c_gains c_notes c_seen c_turns c_drawn c_state c_tape c_taped c_size c_from c_next c_token c_value c_fault c_number c_fives c_isLeft c_wentTimes c_goes c_isLeftLaid c_game c_rows c_columns c_isFound c_bestValue c_bestBelow c_bestShare c_share c_matrix c_system c_shares c_allShares) 69 [(0, .ref 0), (1, .int x1), (2, .int x2), (3, .int x3), (4, .int x4), (5, .int x5), (6, .int x6)] []) (hf : F10_laysShares_b116 z x1 x2 x3 x4 x5 x6 s1 s2 s3 c_told c_many c_eights c_fives c_shares c_allShares k36 k69 = some v) : xV (j10_laysShares) X 0 0 (hM c_thrown c_told c_read c_many c_eights c_gains c_notes c_seen c_turns c_drawn c_state c_tape c_taped c_size c_from c_next c_token c_value c_fault c_number c_fives c_isLeft c_wentTimes c_goes c_isLeftLaid c_game c_rows c_columns c_isFound c_bestValue c_bestBelow c_bestShare c_share c_matrix c_system c_shares c_allShares) 116 [(0, .ref 0), (1, .int x1), (2, .int x2), (3, .int x3), (4, .int x4), (5, .int x5), (6, .int x6)] [.int s3, .int s2, .int s1, .ref 19] := by
  unfold F10_laysShares_b116 at hf
  refine xV_iadd 117 rfl dX10_laysShares_116 ?_
  obtain ⟨hg117, hf⟩ := xg_s hf
  refine xV_iastore (h' := (hM c_thrown c_told c_read c_many c_eights c_gains c_notes c_seen c_turns c_drawn c_state c_tape c_taped c_size c_from c_next c_token c_value c_fault c_number c_fives c_isLeft c_wentTimes c_goes c_isLeftLaid c_game c_rows c_columns c_isFound c_bestValue c_bestBelow c_bestShare c_share c_matrix c_system (upd c_shares (xn s1) (s2 + s3)) c_allShares)) 118 rfl dX10_laysShares_117 rfl (xin_ok hg117) rfl rfl ?_
  refine xV_iinc (L' := [(6, .int (x6 + (1 : Int32))), (0, .ref 0), (1, .int x1), (2, .int x2), (3, .int x3), (4, .int x4), (5, .int x5)]) 121 rfl dX10_laysShares_118 6 rfl (xk_inc xk_i1) (xlt rfl) rfl ?_
  refine xV_goto (tgt := 69) dX10_laysShares_121 (by decide) ?_
  refine xV_sub [1, 2, 3, 4, 5, 6, 0] rfl ?_
  exact hk69 hf
def F10_laysShares_b69 (z : Nat) (w : Nat) (x1 : Int32) (x2 : Int32) (x3 : Int32) (x4 : Int32) (x5 : Int32) (x6 : Int32) (c_told : (Nat → Int32)) (c_many : (Nat → Int32)) (c_eights : (Nat → Int32)) (c_fives : (Nat → Int32)) (c_shares : (Nat → Int32)) (c_allShares : Int32) (k36 : Int32 → Int32 → Int32 → (Nat → Int32) → (Nat → Int32) → (Nat → Int32) → (Nat → Int32) → (Nat → Int32) → Int32 → Option ((Nat → Int32) × Int32)) : Option ((Nat → Int32) × Int32) := match w with
  | 0 => none
  | w + 1 => xg (xin x1 2) (if (c_many (xn x1)) ≤ x6 then (F10_laysShares_b146 z x1 x2 x3 c_told c_many c_eights c_fives c_shares c_allShares k36) else (xg (xin x6 128) ((F10_areLike z x1 x4 x6 c_told c_eights c_fives).bind (fun v94 => if v94 = 0 then (F10_laysShares_b116 z x1 x2 x3 x4 x5 x6 x6 (c_shares (xn x6)) (0 : Int32) c_told c_many c_eights c_fives c_shares c_allShares k36 (fun q0 q1 q2 q3 q4 q5 q6 q7 q8 q9 q10 q11 => F10_laysShares_b69 z w q0 q1 q2 q3 q4 q5 q6 q7 q8 q9 q10 q11 k36)) else ((F10_weightAt x1 x3 c_told).bind (fun v105 => xg (xnz x5) (F10_laysShares_b116 z x1 x2 x3 x4 x5 x6 x6 (c_shares (xn x6)) (((24 : Int32) * v105) / x5) c_told c_many c_eights c_fives c_shares c_allShares k36 (fun q0 q1 q2 q3 q4 q5 q6 q7 q8 q9 q10 q11 => F10_laysShares_b69 z w q0 q1 q2 q3 q4 q5 q6 q7 q8 q9 q10 q11 k36))))))))
theorem T10_laysShares_b69 {X : xX} {c_thrown : Int32} {c_told : (Nat → Int32)} {c_read : (Nat → Int32)} {c_many : (Nat → Int32)} {c_eights : (Nat → Int32)} {c_gains : (Nat → Int32)} {c_notes : (Nat → Int32)} {c_seen : (Nat → Int32)} {c_turns : (Nat → Int32)} {c_drawn : (Nat → Int32)} {c_state : Int32} {c_tape : (Nat → Int32)} {c_taped : Int32} {c_size : Int32} {c_from : Int32} {c_next : Int32} {c_token : Int32} {c_value : Int32} {c_fault : Int32} {c_number : Int32} {c_fives : (Nat → Int32)} {c_isLeft : (Nat → Int32)} {c_wentTimes : Int32} {c_goes : (Nat → Int32)} {c_isLeftLaid : Int32} {c_game : (Nat → Int32)} {c_rows : Int32} {c_columns : Int32} {c_isFound : Int32} {c_bestValue : Int64} {c_bestBelow : Int64} {c_bestShare : (Nat → Int64)} {c_share : (Nat → Int64)} {c_matrix : (Nat → Int64)} {c_system : (Nat → Int64)} {z : Nat} {v : (Nat → Int32) × Int32} {k36 : Int32 → Int32 → Int32 → (Nat → Int32) → (Nat → Int32) → (Nat → Int32) → (Nat → Int32) → (Nat → Int32) → Int32 → Option ((Nat → Int32) × Int32)} (hX : xIs (j10_laysShares) X none none (hM c_thrown c_told c_read c_many c_eights c_gains c_notes c_seen c_turns c_drawn c_state c_tape c_taped c_size c_from c_next c_token c_value c_fault c_number c_fives c_isLeft c_wentTimes c_goes c_isLeftLaid c_game c_rows c_columns c_isFound c_bestValue c_bestBelow c_bestShare c_share c_matrix c_system v.1 v.2)) (hk36 : ∀ {x1 : Int32} {x2 : Int32} {x3 : Int32} {c_shares : (Nat → Int32)} {c_allShares : Int32}, k36 x1 x2 x3 c_told c_many c_eights c_fives c_shares c_allShares = some v → xV (j10_laysShares) X 0 0 (hM c_thrown c_told c_read c_many c_eights c_gains c_notes c_seen c_turns c_drawn c_state c_tape c_taped c_size c_from c_next c_token c_value c_fault c_number c_fives c_isLeft c_wentTimes c_goes c_isLeftLaid c_game c_rows c_columns c_isFound c_bestValue c_bestBelow c_bestShare c_share c_matrix c_system c_shares c_allShares) 36 [(0, .ref 0), (1, .int x1), (2, .int x2), (3, .int x3)] []) : ∀ (w : Nat) {x1 : Int32} {x2 : Int32} {x3 : Int32} {x4 : Int32} {x5 : Int32} {x6 : Int32} {c_shares : (Nat → Int32)} {c_allShares : Int32}, F10_laysShares_b69 z w x1 x2 x3 x4 x5 x6 c_told c_many c_eights c_fives c_shares c_allShares k36 = some v → xV (j10_laysShares) X 0 0 (hM c_thrown c_told c_read c_many c_eights c_gains c_notes c_seen c_turns c_drawn c_state c_tape c_taped c_size c_from c_next c_token c_value c_fault c_number c_fives c_isLeft c_wentTimes c_goes c_isLeftLaid c_game c_rows c_columns c_isFound c_bestValue c_bestBelow c_bestShare c_share c_matrix c_system c_shares c_allShares) 69 [(0, .ref 0), (1, .int x1), (2, .int x2), (3, .int x3), (4, .int x4), (5, .int x5), (6, .int x6)] [] := by
  intro w
  induction w with
  | zero => intro x1 x2 x3 x4 x5 x6 c_shares c_allShares hf; cases hf
  | succ w ih =>
    intro x1 x2 x3 x4 x5 x6 c_shares c_allShares hf
    unfold F10_laysShares_b69 at hf
    refine xV_iload 71 rfl dX10_laysShares_69 6 rfl ?_
    refine xV_aload_n 72 rfl dX10_laysShares_71 rfl 0 rfl ?_
    refine xV_get (v := .ref 3) 75 rfl dX10_laysShares_72 f10_24 rfl rfl ?_
    refine xV_iload_n 76 rfl dX10_laysShares_75 rfl 1 rfl ?_
    obtain ⟨hg76, hf⟩ := xg_s hf
    refine xV_iaload 77 rfl dX10_laysShares_76 rfl (xin_ok hg76) rfl ?_
    refine xV_icmp_ge (tgt := 124) 80 rfl dX10_laysShares_77 (by decide) (fun h77 => ?_) (fun h77 => ?_)
    · have hf := xif_t hf h77
      refine xV_goto (tgt := 146) dX10_laysShares_124 (by decide) ?_
      refine xV_sub [0, 1, 2, 3] rfl ?_
      exact T10_laysShares_b146 hX hk36 hf
    · have hf := xif_f hf h77
      refine xV_aload_n 81 rfl dX10_laysShares_80 rfl 0 rfl ?_
      refine xV_get (v := .ref 19) 84 rfl dX10_laysShares_81 f10_76 rfl rfl ?_
      refine xV_iload 86 rfl dX10_laysShares_84 6 rfl ?_
      refine xV_dup2 87 rfl dX10_laysShares_86 rfl rfl ?_
      obtain ⟨hg87, hf⟩ := xg_s hf
      refine xV_iaload 88 rfl dX10_laysShares_87 rfl (xin_ok hg87) rfl ?_
      refine xV_aload_n 89 rfl dX10_laysShares_88 rfl 0 rfl ?_
      refine xV_iload_n 90 rfl dX10_laysShares_89 rfl 1 rfl ?_
      refine xV_iload 92 rfl dX10_laysShares_90 4 rfl ?_
      refine xV_iload 94 rfl dX10_laysShares_92 6 rfl ?_
      obtain ⟨v94, hv94, hf⟩ := xb_s hf
      refine xV_same (rest := [.int (c_shares (xn x6)), .int x6, .ref 19]) 97 rfl dX10_laysShares_94 rfl (C10_areLike X.1.2.1 hv94) m10_areLike v10_areLike k10_219 rfl rfl rfl rfl rfl (Nat.le_of_ble_eq_true rfl) (Nat.le_of_ble_eq_true rfl) (Nat.le_of_ble_eq_true rfl) ⟨Nat.le_refl _, Nat.le_refl _⟩ ?_
      show xV (j10_laysShares) X 0 0 (hM c_thrown c_told c_read c_many c_eights c_gains c_notes c_seen c_turns c_drawn c_state c_tape c_taped c_size c_from c_next c_token c_value c_fault c_number c_fives c_isLeft c_wentTimes c_goes c_isLeftLaid c_game c_rows c_columns c_isFound c_bestValue c_bestBelow c_bestShare c_share c_matrix c_system c_shares c_allShares) 97 [(0, .ref 0), (1, .int x1), (2, .int x2), (3, .int x3), (4, .int x4), (5, .int x5), (6, .int x6)] [.int v94, .int (c_shares (xn x6)), .int x6, .ref 19]
      refine xV_if_eq (tgt := 115) 100 rfl dX10_laysShares_97 (by decide) (fun h97 => ?_) (fun h97 => ?_)
      · have hf := xif_t hf h97
        refine xV_iconst 116 rfl dX10_laysShares_115 xk_i0 ?_
        exact T10_laysShares_b116 hX hk36 (fun {_ _ _ _ _ _ _ _} hq => ih hq) hf
      · have hf := xif_f hf h97
        refine xV_bipush 102 rfl dX10_laysShares_100 xk_b24 ?_
        refine xV_aload_n 103 rfl dX10_laysShares_102 rfl 0 rfl ?_
        refine xV_iload_n 104 rfl dX10_laysShares_103 rfl 1 rfl ?_
        refine xV_iload_n 105 rfl dX10_laysShares_104 rfl 3 rfl ?_
        obtain ⟨v105, hv105, hf⟩ := xb_s hf
        refine xV_same (rest := [.int (24 : Int32), .int (c_shares (xn x6)), .int x6, .ref 19]) 108 rfl dX10_laysShares_105 rfl (C10_weightAt X.1.2.1 hv105) m10_weightAt v10_weightAt k10_331 rfl rfl rfl rfl rfl (Nat.le_of_ble_eq_true rfl) (Nat.le_of_ble_eq_true rfl) (Nat.le_of_ble_eq_true rfl) ⟨Nat.le_refl _, Nat.le_refl _⟩ ?_
        show xV (j10_laysShares) X 0 0 (hM c_thrown c_told c_read c_many c_eights c_gains c_notes c_seen c_turns c_drawn c_state c_tape c_taped c_size c_from c_next c_token c_value c_fault c_number c_fives c_isLeft c_wentTimes c_goes c_isLeftLaid c_game c_rows c_columns c_isFound c_bestValue c_bestBelow c_bestShare c_share c_matrix c_system c_shares c_allShares) 108 [(0, .ref 0), (1, .int x1), (2, .int x2), (3, .int x3), (4, .int x4), (5, .int x5), (6, .int x6)] [.int v105, .int (24 : Int32), .int (c_shares (xn x6)), .int x6, .ref 19]
        refine xV_imul 109 rfl dX10_laysShares_108 ?_
        refine xV_iload 111 rfl dX10_laysShares_109 5 rfl ?_
        obtain ⟨hg111, hf⟩ := xg_s hf
        refine xV_idiv 112 rfl dX10_laysShares_111 (xnz_ok hg111) ?_
        refine xV_goto (tgt := 116) dX10_laysShares_112 (by decide) ?_
        exact T10_laysShares_b116 hX hk36 (fun {_ _ _ _ _ _ _ _} hq => ih hq) hf
def F10_laysShares_b36 (z : Nat) (w : Nat) (x1 : Int32) (x2 : Int32) (x3 : Int32) (c_told : (Nat → Int32)) (c_many : (Nat → Int32)) (c_eights : (Nat → Int32)) (c_fives : (Nat → Int32)) (c_shares : (Nat → Int32)) (c_allShares : Int32) : Option ((Nat → Int32) × Int32) := match w with
  | 0 => none
  | w + 1 => (F10_planned x1 c_told).bind (fun v39 => if v39 ≤ x3 then (some (c_shares, c_allShares)) else ((F10_planAt z x1 x3 c_told c_many c_eights).bind (fun v48 => if x2 = 0 then (xg (xin v48 128) ((F10_weightAt x1 x3 c_told).bind (fun v140 => xg (xin v48 128) (F10_laysShares_b146 z x1 x2 x3 c_told c_many c_eights c_fives (upd c_shares (xn v48) ((c_shares (xn v48)) + ((24 : Int32) * v140))) c_allShares (fun q0 q1 q2 q3 q4 q5 q6 q7 q8 => F10_laysShares_b36 z w q0 q1 q2 q3 q4 q5 q6 q7 q8))))) else ((F10_alike z x1 v48 c_told c_many c_eights c_fives).bind (fun v61 => F10_laysShares_b69 z z x1 x2 x3 v48 v61 (0 : Int32) c_told c_many c_eights c_fives c_shares c_allShares (fun q0 q1 q2 q3 q4 q5 q6 q7 q8 => F10_laysShares_b36 z w q0 q1 q2 q3 q4 q5 q6 q7 q8))))))
theorem T10_laysShares_b36 {X : xX} {c_thrown : Int32} {c_told : (Nat → Int32)} {c_read : (Nat → Int32)} {c_many : (Nat → Int32)} {c_eights : (Nat → Int32)} {c_gains : (Nat → Int32)} {c_notes : (Nat → Int32)} {c_seen : (Nat → Int32)} {c_turns : (Nat → Int32)} {c_drawn : (Nat → Int32)} {c_state : Int32} {c_tape : (Nat → Int32)} {c_taped : Int32} {c_size : Int32} {c_from : Int32} {c_next : Int32} {c_token : Int32} {c_value : Int32} {c_fault : Int32} {c_number : Int32} {c_fives : (Nat → Int32)} {c_isLeft : (Nat → Int32)} {c_wentTimes : Int32} {c_goes : (Nat → Int32)} {c_isLeftLaid : Int32} {c_game : (Nat → Int32)} {c_rows : Int32} {c_columns : Int32} {c_isFound : Int32} {c_bestValue : Int64} {c_bestBelow : Int64} {c_bestShare : (Nat → Int64)} {c_share : (Nat → Int64)} {c_matrix : (Nat → Int64)} {c_system : (Nat → Int64)} {z : Nat} {v : (Nat → Int32) × Int32} (hX : xIs (j10_laysShares) X none none (hM c_thrown c_told c_read c_many c_eights c_gains c_notes c_seen c_turns c_drawn c_state c_tape c_taped c_size c_from c_next c_token c_value c_fault c_number c_fives c_isLeft c_wentTimes c_goes c_isLeftLaid c_game c_rows c_columns c_isFound c_bestValue c_bestBelow c_bestShare c_share c_matrix c_system v.1 v.2)) : ∀ (w : Nat) {x1 : Int32} {x2 : Int32} {x3 : Int32} {c_shares : (Nat → Int32)} {c_allShares : Int32}, F10_laysShares_b36 z w x1 x2 x3 c_told c_many c_eights c_fives c_shares c_allShares = some v → xV (j10_laysShares) X 0 0 (hM c_thrown c_told c_read c_many c_eights c_gains c_notes c_seen c_turns c_drawn c_state c_tape c_taped c_size c_from c_next c_token c_value c_fault c_number c_fives c_isLeft c_wentTimes c_goes c_isLeftLaid c_game c_rows c_columns c_isFound c_bestValue c_bestBelow c_bestShare c_share c_matrix c_system c_shares c_allShares) 36 [(0, .ref 0), (1, .int x1), (2, .int x2), (3, .int x3)] [] := by
  intro w
  induction w with
  | zero => intro x1 x2 x3 c_shares c_allShares hf; cases hf
  | succ w ih =>
    intro x1 x2 x3 c_shares c_allShares hf
    unfold F10_laysShares_b36 at hf
    refine xV_iload_n 37 rfl dX10_laysShares_36 rfl 3 rfl ?_
    refine xV_aload_n 38 rfl dX10_laysShares_37 rfl 0 rfl ?_
    refine xV_iload_n 39 rfl dX10_laysShares_38 rfl 1 rfl ?_
    obtain ⟨v39, hv39, hf⟩ := xb_s hf
    refine xV_same (rest := [.int x3]) 42 rfl dX10_laysShares_39 rfl (C10_planned X.1.2.1 hv39) m10_planned v10_planned k10_328 rfl rfl rfl rfl rfl (Nat.le_of_ble_eq_true rfl) (Nat.le_of_ble_eq_true rfl) (Nat.le_of_ble_eq_true rfl) ⟨Nat.le_refl _, Nat.le_refl _⟩ ?_
    show xV (j10_laysShares) X 0 0 (hM c_thrown c_told c_read c_many c_eights c_gains c_notes c_seen c_turns c_drawn c_state c_tape c_taped c_size c_from c_next c_token c_value c_fault c_number c_fives c_isLeft c_wentTimes c_goes c_isLeftLaid c_game c_rows c_columns c_isFound c_bestValue c_bestBelow c_bestShare c_share c_matrix c_system c_shares c_allShares) 42 [(0, .ref 0), (1, .int x1), (2, .int x2), (3, .int x3)] [.int v39, .int x3]
    refine xV_icmp_ge (tgt := 152) 45 rfl dX10_laysShares_42 (by decide) (fun h42 => ?_) (fun h42 => ?_)
    · have hf := xif_t hf h42
      obtain rfl := Option.some.inj hf
      exact xV_vret hX dX10_laysShares_152 (Nat.zero_le _) (Nat.zero_le _)
    · have hf := xif_f hf h42
      refine xV_aload_n 46 rfl dX10_laysShares_45 rfl 0 rfl ?_
      refine xV_iload_n 47 rfl dX10_laysShares_46 rfl 1 rfl ?_
      refine xV_iload_n 48 rfl dX10_laysShares_47 rfl 3 rfl ?_
      obtain ⟨v48, hv48, hf⟩ := xb_s hf
      refine xV_same (rest := []) 51 rfl dX10_laysShares_48 rfl (C10_planAt X.1.2.1 hv48) m10_planAt v10_planAt k10_334 rfl rfl rfl rfl rfl (Nat.le_of_ble_eq_true rfl) (Nat.le_of_ble_eq_true rfl) (Nat.le_of_ble_eq_true rfl) ⟨Nat.le_refl _, Nat.le_refl _⟩ ?_
      show xV (j10_laysShares) X 0 0 (hM c_thrown c_told c_read c_many c_eights c_gains c_notes c_seen c_turns c_drawn c_state c_tape c_taped c_size c_from c_next c_token c_value c_fault c_number c_fives c_isLeft c_wentTimes c_goes c_isLeftLaid c_game c_rows c_columns c_isFound c_bestValue c_bestBelow c_bestShare c_share c_matrix c_system c_shares c_allShares) 51 [(0, .ref 0), (1, .int x1), (2, .int x2), (3, .int x3)] [.int v48]
      refine xV_istore (L' := [(4, .int v48), (0, .ref 0), (1, .int x1), (2, .int x2), (3, .int x3)]) 53 rfl dX10_laysShares_51 (xlt rfl) rfl ?_
      refine xV_iload_n 54 rfl dX10_laysShares_53 rfl 3 rfl ?_
      refine xV_if_eq (tgt := 127) 57 rfl dX10_laysShares_54 (by decide) (fun h54 => ?_) (fun h54 => ?_)
      · have hf := xif_t hf h54
        refine xV_aload_n 128 rfl dX10_laysShares_127 rfl 1 rfl ?_
        refine xV_get (v := .ref 19) 131 rfl dX10_laysShares_128 f10_76 rfl rfl ?_
        refine xV_iload 133 rfl dX10_laysShares_131 0 rfl ?_
        refine xV_dup2 134 rfl dX10_laysShares_133 rfl rfl ?_
        obtain ⟨hg134, hf⟩ := xg_s hf
        refine xV_iaload 135 rfl dX10_laysShares_134 rfl (xin_ok hg134) rfl ?_
        refine xV_bipush 137 rfl dX10_laysShares_135 xk_b24 ?_
        refine xV_aload_n 138 rfl dX10_laysShares_137 rfl 1 rfl ?_
        refine xV_iload_n 139 rfl dX10_laysShares_138 rfl 2 rfl ?_
        refine xV_iload_n 140 rfl dX10_laysShares_139 rfl 4 rfl ?_
        obtain ⟨v140, hv140, hf⟩ := xb_s hf
        refine xV_same (rest := [.int (24 : Int32), .int (c_shares (xn v48)), .int v48, .ref 19]) 143 rfl dX10_laysShares_140 rfl (C10_weightAt X.1.2.1 hv140) m10_weightAt v10_weightAt k10_331 rfl rfl rfl rfl rfl (Nat.le_of_ble_eq_true rfl) (Nat.le_of_ble_eq_true rfl) (Nat.le_of_ble_eq_true rfl) ⟨Nat.le_refl _, Nat.le_refl _⟩ ?_
        show xV (j10_laysShares) X 0 0 (hM c_thrown c_told c_read c_many c_eights c_gains c_notes c_seen c_turns c_drawn c_state c_tape c_taped c_size c_from c_next c_token c_value c_fault c_number c_fives c_isLeft c_wentTimes c_goes c_isLeftLaid c_game c_rows c_columns c_isFound c_bestValue c_bestBelow c_bestShare c_share c_matrix c_system c_shares c_allShares) 143 [(4, .int v48), (0, .ref 0), (1, .int x1), (2, .int x2), (3, .int x3)] [.int v140, .int (24 : Int32), .int (c_shares (xn v48)), .int v48, .ref 19]
        refine xV_imul 144 rfl dX10_laysShares_143 ?_
        refine xV_iadd 145 rfl dX10_laysShares_144 ?_
        obtain ⟨hg145, hf⟩ := xg_s hf
        refine xV_iastore (h' := (hM c_thrown c_told c_read c_many c_eights c_gains c_notes c_seen c_turns c_drawn c_state c_tape c_taped c_size c_from c_next c_token c_value c_fault c_number c_fives c_isLeft c_wentTimes c_goes c_isLeftLaid c_game c_rows c_columns c_isFound c_bestValue c_bestBelow c_bestShare c_share c_matrix c_system (upd c_shares (xn v48) ((c_shares (xn v48)) + ((24 : Int32) * v140))) c_allShares)) 146 rfl dX10_laysShares_145 rfl (xin_ok hg145) rfl rfl ?_
        refine xV_sub [1, 2, 3, 4] rfl ?_
        exact T10_laysShares_b146 hX (fun {_ _ _ _ _} hq => ih hq) hf
      · have hf := xif_f hf h54
        refine xV_aload_n 58 rfl dX10_laysShares_57 rfl 1 rfl ?_
        refine xV_iload_n 59 rfl dX10_laysShares_58 rfl 2 rfl ?_
        refine xV_iload 61 rfl dX10_laysShares_59 0 rfl ?_
        obtain ⟨v61, hv61, hf⟩ := xb_s hf
        refine xV_same (rest := []) 64 rfl dX10_laysShares_61 rfl (C10_alike X.1.2.1 hv61) m10_alike v10_alike k10_228 rfl rfl rfl rfl rfl (Nat.le_of_ble_eq_true rfl) (Nat.le_of_ble_eq_true rfl) (Nat.le_of_ble_eq_true rfl) ⟨Nat.le_refl _, Nat.le_refl _⟩ ?_
        show xV (j10_laysShares) X 0 0 (hM c_thrown c_told c_read c_many c_eights c_gains c_notes c_seen c_turns c_drawn c_state c_tape c_taped c_size c_from c_next c_token c_value c_fault c_number c_fives c_isLeft c_wentTimes c_goes c_isLeftLaid c_game c_rows c_columns c_isFound c_bestValue c_bestBelow c_bestShare c_share c_matrix c_system c_shares c_allShares) 64 [(4, .int v48), (0, .ref 0), (1, .int x1), (2, .int x2), (3, .int x3)] [.int v61]
        refine xV_istore (L' := [(5, .int v61), (4, .int v48), (0, .ref 0), (1, .int x1), (2, .int x2), (3, .int x3)]) 66 rfl dX10_laysShares_64 (xlt rfl) rfl ?_
        refine xV_iconst 67 rfl dX10_laysShares_66 xk_i0 ?_
        refine xV_istore (L' := [(6, .int (0 : Int32)), (5, .int v61), (4, .int v48), (0, .ref 0), (1, .int x1), (2, .int x2), (3, .int x3)]) 69 rfl dX10_laysShares_67 (xlt rfl) rfl ?_
        refine xV_sub [3, 4, 5, 6, 2, 1, 0] rfl ?_
        exact T10_laysShares_b69 hX (fun {_ _ _ _ _} hq => ih hq) _ hf
def F10_laysShares_b22 (z : Nat) (x1 : Int32) (x2 : Int32) (c_told : (Nat → Int32)) (c_many : (Nat → Int32)) (c_eights : (Nat → Int32)) (c_fives : (Nat → Int32)) (c_shares : (Nat → Int32)) (c_allShares : Int32) : Option ((Nat → Int32) × Int32) :=
  (F10_weights z x1 c_told).bind (fun v27 => F10_laysShares_b36 z z x1 x2 (0 : Int32) c_told c_many c_eights c_fives c_shares ((24 : Int32) * v27))
theorem T10_laysShares_b22 {X : xX} {c_thrown : Int32} {c_read : (Nat → Int32)} {c_gains : (Nat → Int32)} {c_notes : (Nat → Int32)} {c_seen : (Nat → Int32)} {c_turns : (Nat → Int32)} {c_drawn : (Nat → Int32)} {c_state : Int32} {c_tape : (Nat → Int32)} {c_taped : Int32} {c_size : Int32} {c_from : Int32} {c_next : Int32} {c_token : Int32} {c_value : Int32} {c_fault : Int32} {c_number : Int32} {c_isLeft : (Nat → Int32)} {c_wentTimes : Int32} {c_goes : (Nat → Int32)} {c_isLeftLaid : Int32} {c_game : (Nat → Int32)} {c_rows : Int32} {c_columns : Int32} {c_isFound : Int32} {c_bestValue : Int64} {c_bestBelow : Int64} {c_bestShare : (Nat → Int64)} {c_share : (Nat → Int64)} {c_matrix : (Nat → Int64)} {c_system : (Nat → Int64)} {x1 : Int32} {x2 : Int32} {c_told : (Nat → Int32)} {c_many : (Nat → Int32)} {c_eights : (Nat → Int32)} {c_fives : (Nat → Int32)} {c_shares : (Nat → Int32)} {c_allShares : Int32} {z : Nat} {v : (Nat → Int32) × Int32} (hX : xIs (j10_laysShares) X none none (hM c_thrown c_told c_read c_many c_eights c_gains c_notes c_seen c_turns c_drawn c_state c_tape c_taped c_size c_from c_next c_token c_value c_fault c_number c_fives c_isLeft c_wentTimes c_goes c_isLeftLaid c_game c_rows c_columns c_isFound c_bestValue c_bestBelow c_bestShare c_share c_matrix c_system v.1 v.2)) (hf : F10_laysShares_b22 z x1 x2 c_told c_many c_eights c_fives c_shares c_allShares = some v) : xV (j10_laysShares) X 0 0 (hM c_thrown c_told c_read c_many c_eights c_gains c_notes c_seen c_turns c_drawn c_state c_tape c_taped c_size c_from c_next c_token c_value c_fault c_number c_fives c_isLeft c_wentTimes c_goes c_isLeftLaid c_game c_rows c_columns c_isFound c_bestValue c_bestBelow c_bestShare c_share c_matrix c_system c_shares c_allShares) 22 [(0, .ref 0), (1, .int x1), (2, .int x2)] [] := by
  unfold F10_laysShares_b22 at hf
  refine xV_aload_n 23 rfl dX10_laysShares_22 rfl 0 rfl ?_
  refine xV_bipush 25 rfl dX10_laysShares_23 xk_b24 ?_
  refine xV_aload_n 26 rfl dX10_laysShares_25 rfl 0 rfl ?_
  refine xV_iload_n 27 rfl dX10_laysShares_26 rfl 1 rfl ?_
  obtain ⟨v27, hv27, hf⟩ := xb_s hf
  refine xV_same (rest := [.int (24 : Int32), .ref 0]) 30 rfl dX10_laysShares_27 rfl (C10_weights X.1.2.1 hv27) m10_weights v10_weights k10_340 rfl rfl rfl rfl rfl (Nat.le_of_ble_eq_true rfl) (Nat.le_of_ble_eq_true rfl) (Nat.le_of_ble_eq_true rfl) ⟨Nat.le_refl _, Nat.le_refl _⟩ ?_
  show xV (j10_laysShares) X 0 0 (hM c_thrown c_told c_read c_many c_eights c_gains c_notes c_seen c_turns c_drawn c_state c_tape c_taped c_size c_from c_next c_token c_value c_fault c_number c_fives c_isLeft c_wentTimes c_goes c_isLeftLaid c_game c_rows c_columns c_isFound c_bestValue c_bestBelow c_bestShare c_share c_matrix c_system c_shares c_allShares) 30 [(0, .ref 0), (1, .int x1), (2, .int x2)] [.int v27, .int (24 : Int32), .ref 0]
  refine xV_imul 31 rfl dX10_laysShares_30 ?_
  refine xV_put (h' := (hM c_thrown c_told c_read c_many c_eights c_gains c_notes c_seen c_turns c_drawn c_state c_tape c_taped c_size c_from c_next c_token c_value c_fault c_number c_fives c_isLeft c_wentTimes c_goes c_isLeftLaid c_game c_rows c_columns c_isFound c_bestValue c_bestBelow c_bestShare c_share c_matrix c_system c_shares ((24 : Int32) * v27))) 34 rfl dX10_laysShares_31 f10_343 rfl nf10_36 (fun _ => rfl) (fun _ => rfl) (Nat.le_of_ble_eq_true rfl) rfl ?_
  refine xV_iconst 35 rfl dX10_laysShares_34 xk_i0 ?_
  refine xV_istore_n (L' := [(3, .int (0 : Int32)), (0, .ref 0), (1, .int x1), (2, .int x2)]) 36 rfl dX10_laysShares_35 rfl (xlt rfl) rfl ?_
  refine xV_sub [1, 2, 3, 0] rfl ?_
  exact T10_laysShares_b36 hX _ hf
def F10_laysShares_b2 (z : Nat) (w : Nat) (x1 : Int32) (x2 : Int32) (x3 : Int32) (c_told : (Nat → Int32)) (c_many : (Nat → Int32)) (c_eights : (Nat → Int32)) (c_fives : (Nat → Int32)) (c_shares : (Nat → Int32)) (c_allShares : Int32) : Option ((Nat → Int32) × Int32) := match w with
  | 0 => none
  | w + 1 => if (128 : Int32) ≤ x3 then (F10_laysShares_b22 z x1 x2 c_told c_many c_eights c_fives c_shares c_allShares) else (xg (xin x3 128) (F10_laysShares_b2 z w x1 x2 (x3 + (1 : Int32)) c_told c_many c_eights c_fives (upd c_shares (xn x3) (0 : Int32)) c_allShares))
theorem T10_laysShares_b2 {X : xX} {c_thrown : Int32} {c_told : (Nat → Int32)} {c_read : (Nat → Int32)} {c_many : (Nat → Int32)} {c_eights : (Nat → Int32)} {c_gains : (Nat → Int32)} {c_notes : (Nat → Int32)} {c_seen : (Nat → Int32)} {c_turns : (Nat → Int32)} {c_drawn : (Nat → Int32)} {c_state : Int32} {c_tape : (Nat → Int32)} {c_taped : Int32} {c_size : Int32} {c_from : Int32} {c_next : Int32} {c_token : Int32} {c_value : Int32} {c_fault : Int32} {c_number : Int32} {c_fives : (Nat → Int32)} {c_isLeft : (Nat → Int32)} {c_wentTimes : Int32} {c_goes : (Nat → Int32)} {c_isLeftLaid : Int32} {c_game : (Nat → Int32)} {c_rows : Int32} {c_columns : Int32} {c_isFound : Int32} {c_bestValue : Int64} {c_bestBelow : Int64} {c_bestShare : (Nat → Int64)} {c_share : (Nat → Int64)} {c_matrix : (Nat → Int64)} {c_system : (Nat → Int64)} {z : Nat} {v : (Nat → Int32) × Int32} (hX : xIs (j10_laysShares) X none none (hM c_thrown c_told c_read c_many c_eights c_gains c_notes c_seen c_turns c_drawn c_state c_tape c_taped c_size c_from c_next c_token c_value c_fault c_number c_fives c_isLeft c_wentTimes c_goes c_isLeftLaid c_game c_rows c_columns c_isFound c_bestValue c_bestBelow c_bestShare c_share c_matrix c_system v.1 v.2)) : ∀ (w : Nat) {x1 : Int32} {x2 : Int32} {x3 : Int32} {c_shares : (Nat → Int32)} {c_allShares : Int32}, F10_laysShares_b2 z w x1 x2 x3 c_told c_many c_eights c_fives c_shares c_allShares = some v → xV (j10_laysShares) X 0 0 (hM c_thrown c_told c_read c_many c_eights c_gains c_notes c_seen c_turns c_drawn c_state c_tape c_taped c_size c_from c_next c_token c_value c_fault c_number c_fives c_isLeft c_wentTimes c_goes c_isLeftLaid c_game c_rows c_columns c_isFound c_bestValue c_bestBelow c_bestShare c_share c_matrix c_system c_shares c_allShares) 2 [(0, .ref 0), (1, .int x1), (2, .int x2), (3, .int x3)] [] := by
  intro w
  induction w with
  | zero => intro x1 x2 x3 c_shares c_allShares hf; cases hf
  | succ w ih =>
    intro x1 x2 x3 c_shares c_allShares hf
    unfold F10_laysShares_b2 at hf
    refine xV_iload_n 3 rfl dX10_laysShares_2 rfl 3 rfl ?_
    refine xV_sipush 6 rfl dX10_laysShares_3 xk_s128 ?_
    refine xV_icmp_ge (tgt := 22) 9 rfl dX10_laysShares_6 (by decide) (fun h6 => ?_) (fun h6 => ?_)
    · have hf := xif_t hf h6
      refine xV_sub [0, 1, 2] rfl ?_
      exact T10_laysShares_b22 hX hf
    · have hf := xif_f hf h6
      refine xV_aload_n 10 rfl dX10_laysShares_9 rfl 0 rfl ?_
      refine xV_get (v := .ref 19) 13 rfl dX10_laysShares_10 f10_76 rfl rfl ?_
      refine xV_iload_n 14 rfl dX10_laysShares_13 rfl 3 rfl ?_
      refine xV_iconst 15 rfl dX10_laysShares_14 xk_i0 ?_
      obtain ⟨hg15, hf⟩ := xg_s hf
      refine xV_iastore (h' := (hM c_thrown c_told c_read c_many c_eights c_gains c_notes c_seen c_turns c_drawn c_state c_tape c_taped c_size c_from c_next c_token c_value c_fault c_number c_fives c_isLeft c_wentTimes c_goes c_isLeftLaid c_game c_rows c_columns c_isFound c_bestValue c_bestBelow c_bestShare c_share c_matrix c_system (upd c_shares (xn x3) (0 : Int32)) c_allShares)) 16 rfl dX10_laysShares_15 rfl (xin_ok hg15) rfl rfl ?_
      refine xV_iinc (L' := [(3, .int (x3 + (1 : Int32))), (0, .ref 0), (1, .int x1), (2, .int x2)]) 19 rfl dX10_laysShares_16 3 rfl (xk_inc xk_i1) (xlt rfl) rfl ?_
      refine xV_goto (tgt := 2) dX10_laysShares_19 (by decide) ?_
      refine xV_sub [1, 2, 3, 0] rfl ?_
      exact ih hf
def F10_laysShares (z : Nat) (x1 : Int32) (x2 : Int32) (c_told : (Nat → Int32)) (c_many : (Nat → Int32)) (c_eights : (Nat → Int32)) (c_fives : (Nat → Int32)) (c_shares : (Nat → Int32)) (c_allShares : Int32) : Option ((Nat → Int32) × Int32) :=
  F10_laysShares_b2 z z x1 x2 (0 : Int32) c_told c_many c_eights c_fives c_shares c_allShares
theorem T10_laysShares {X : xX} {z : Nat} {x1 : Int32} {x2 : Int32} {c_told : (Nat → Int32)} {c_many : (Nat → Int32)} {c_eights : (Nat → Int32)} {c_fives : (Nat → Int32)} {c_shares : (Nat → Int32)} {c_allShares : Int32} {c_thrown : Int32} {c_read : (Nat → Int32)} {c_gains : (Nat → Int32)} {c_notes : (Nat → Int32)} {c_seen : (Nat → Int32)} {c_turns : (Nat → Int32)} {c_drawn : (Nat → Int32)} {c_state : Int32} {c_tape : (Nat → Int32)} {c_taped : Int32} {c_size : Int32} {c_from : Int32} {c_next : Int32} {c_token : Int32} {c_value : Int32} {c_fault : Int32} {c_number : Int32} {c_isLeft : (Nat → Int32)} {c_wentTimes : Int32} {c_goes : (Nat → Int32)} {c_isLeftLaid : Int32} {c_game : (Nat → Int32)} {c_rows : Int32} {c_columns : Int32} {c_isFound : Int32} {c_bestValue : Int64} {c_bestBelow : Int64} {c_bestShare : (Nat → Int64)} {c_share : (Nat → Int64)} {c_matrix : (Nat → Int64)} {c_system : (Nat → Int64)} {v : (Nat → Int32) × Int32} (hX : xIs (j10_laysShares) X none none (hM c_thrown c_told c_read c_many c_eights c_gains c_notes c_seen c_turns c_drawn c_state c_tape c_taped c_size c_from c_next c_token c_value c_fault c_number c_fives c_isLeft c_wentTimes c_goes c_isLeftLaid c_game c_rows c_columns c_isFound c_bestValue c_bestBelow c_bestShare c_share c_matrix c_system v.1 v.2)) (hf : F10_laysShares z x1 x2 c_told c_many c_eights c_fives c_shares c_allShares = some v) : xV (j10_laysShares) X 0 0 (hM c_thrown c_told c_read c_many c_eights c_gains c_notes c_seen c_turns c_drawn c_state c_tape c_taped c_size c_from c_next c_token c_value c_fault c_number c_fives c_isLeft c_wentTimes c_goes c_isLeftLaid c_game c_rows c_columns c_isFound c_bestValue c_bestBelow c_bestShare c_share c_matrix c_system c_shares c_allShares) 0 [(0, .ref 0), (1, .int x1), (2, .int x2)] [] := by
  unfold F10_laysShares at hf
  refine xV_iconst 1 rfl dX10_laysShares_0 xk_i0 ?_
  refine xV_istore_n (L' := [(3, .int (0 : Int32)), (0, .ref 0), (1, .int x1), (2, .int x2)]) 2 rfl dX10_laysShares_1 rfl (xlt rfl) rfl ?_
  refine xV_sub [1, 2, 3, 0] rfl ?_
  exact T10_laysShares_b2 hX _ hf
theorem C10_laysShares (l : Launch) {z : Nat} {x1 : Int32} {x2 : Int32} {c_told : (Nat → Int32)} {c_many : (Nat → Int32)} {c_eights : (Nat → Int32)} {c_fives : (Nat → Int32)} {c_shares : (Nat → Int32)} {c_allShares : Int32} {c_thrown : Int32} {c_read : (Nat → Int32)} {c_gains : (Nat → Int32)} {c_notes : (Nat → Int32)} {c_seen : (Nat → Int32)} {c_turns : (Nat → Int32)} {c_drawn : (Nat → Int32)} {c_state : Int32} {c_tape : (Nat → Int32)} {c_taped : Int32} {c_size : Int32} {c_from : Int32} {c_next : Int32} {c_token : Int32} {c_value : Int32} {c_fault : Int32} {c_number : Int32} {c_isLeft : (Nat → Int32)} {c_wentTimes : Int32} {c_goes : (Nat → Int32)} {c_isLeftLaid : Int32} {c_game : (Nat → Int32)} {c_rows : Int32} {c_columns : Int32} {c_isFound : Int32} {c_bestValue : Int64} {c_bestBelow : Int64} {c_bestShare : (Nat → Int64)} {c_share : (Nat → Int64)} {c_matrix : (Nat → Int64)} {c_system : (Nat → Int64)} {v : (Nat → Int32) × Int32} (hf : F10_laysShares z x1 x2 c_told c_many c_eights c_fives c_shares c_allShares = some v) : xCt l yX10_laysShares none j10_laysShares [.ref 0, .int x1, .int x2] (hM c_thrown c_told c_read c_many c_eights c_gains c_notes c_seen c_turns c_drawn c_state c_tape c_taped c_size c_from c_next c_token c_value c_fault c_number c_fives c_isLeft c_wentTimes c_goes c_isLeftLaid c_game c_rows c_columns c_isFound c_bestValue c_bestBelow c_bestShare c_share c_matrix c_system c_shares c_allShares) none (hM c_thrown c_told c_read c_many c_eights c_gains c_notes c_seen c_turns c_drawn c_state c_tape c_taped c_size c_from c_next c_token c_value c_fault c_number c_fives c_isLeft c_wentTimes c_goes c_isLeftLaid c_game c_rows c_columns c_isFound c_bestValue c_bestBelow c_bestShare c_share c_matrix c_system v.1 v.2) := xCt_of (by decide) rfl (Nat.le_of_ble_eq_true rfl) (fun _ hX => T10_laysShares hX hf)
theorem m10_laysShares : xMd yX10_laysShares RX10 none j10_laysShares 2 := ⟨List.mem_of_getElem? (i := 1116) (by decide +kernel), List.mem_of_getElem? (i := 5) (by decide +kernel), rfl, by decide +kernel⟩
theorem v10_laysShares : xMv yX10_laysShares RX10 := ⟨List.mem_of_getElem? (i := 1114) (by decide +kernel), List.mem_of_getElem? (i := 1115) (by decide +kernel)⟩
